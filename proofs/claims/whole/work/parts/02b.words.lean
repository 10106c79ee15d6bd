/-! the words of wsL_law among lw_tbl, piece by piece: places found by program -/
theorem lw_at {ws : List Cond} (ps : List Nat) (hp : ws = ps.filterMap (fun i => lw_tbl[i]?)) : ∀ w ∈ ws, w ∈ lw_tbl := by
  intro w hw
  rw [hp] at hw
  obtain ⟨i, -, hi⟩ := List.mem_filterMap.mp hw
  exact List.mem_of_getElem? hi
set_option maxRecDepth 20000 in
theorem wsL_law0_r1_at : ∀ w ∈ wsL_law0_r1, w ∈ lw_tbl := lw_at [56, 57, 38, 737, 738, 45, 151, 939, 58, 59, 60, 61, 62, 63, 64, 65, 39, 182, 120, 121, 41, 183, 138, 139] (by decide +kernel)
set_option maxRecDepth 20000 in
theorem wsL_law0_r2_at : ∀ w ∈ wsL_law0_r2, w ∈ lw_tbl := lw_at [42, 184, 152, 153, 43, 185, 164, 165, 44, 186, 66, 67, 68, 69, 70, 71, 40, 89, 90, 91, 92, 93, 94, 95] (by decide +kernel)
set_option maxRecDepth 20000 in
theorem wsL_law0_r3_at : ∀ w ∈ wsL_law0_r3, w ∈ lw_tbl := lw_at [72, 73, 74, 75, 80, 76, 81, 82, 83, 84, 96, 85, 86, 87, 88, 122, 123, 124, 125, 126, 128, 140, 141, 142] (by decide +kernel)
set_option maxRecDepth 20000 in
theorem wsL_law0_r4_at : ∀ w ∈ wsL_law0_r4, w ∈ lw_tbl := lw_at [143, 144, 154, 155, 156, 157, 158, 160, 159, 166, 167, 168, 169, 170, 172, 173, 171, 739, 740, 741, 742, 745, 746, 747] (by decide +kernel)
set_option maxRecDepth 20000 in
theorem wsL_law0_r5_at : ∀ w ∈ wsL_law0_r5, w ∈ lw_tbl := lw_at [748, 750, 790, 751, 743, 753, 755, 757, 758, 749, 365, 366, 37, 367, 368, 369, 370, 371, 372, 373, 375, 9, 376, 377] (by decide +kernel)
set_option maxRecDepth 20000 in
theorem wsL_law0_r6_at : ∀ w ∈ wsL_law0_r6, w ∈ lw_tbl := lw_at [49, 258, 239, 240, 241, 271, 273, 4, 274, 275, 276, 277, 278, 129, 130, 294, 289, 50, 290, 279, 280, 281, 282, 283] (by decide +kernel)
set_option maxRecDepth 20000 in
theorem wsL_law0_r7_at : ∀ w ∈ wsL_law0_r7, w ∈ lw_tbl := lw_at [97, 98, 284, 285, 286, 287, 288, 291, 293, 292, 51, 295, 296, 297, 298, 145, 446, 447, 448, 449, 799, 800, 801, 802] (by decide +kernel)
set_option maxRecDepth 20000 in
theorem wsL_law0_r8_at : ∀ w ∈ wsL_law0_r8, w ∈ lw_tbl := lw_at [744, 803, 805, 21, 806, 754, 807, 752, 756, 808, 810, 22, 811, 791, 792, 793, 794, 450, 451, 452, 453, 454, 455, 456] (by decide +kernel)
set_option maxRecDepth 20000 in
theorem wsL_law0_r9_at : ∀ w ∈ wsL_law0_r9, w ∈ lw_tbl := lw_at [457, 458, 459, 461, 11, 462, 464, 52, 463, 230, 231, 480, 482, 12, 483, 484, 53, 263, 264, 265, 266, 225, 226, 227] (by decide +kernel)
set_option maxRecDepth 20000 in
theorem wsL_law0_r10_at : ∀ w ∈ wsL_law0_r10, w ∈ lw_tbl := lw_at [228, 500, 501, 502, 503, 507, 508, 509, 510, 505, 506, 511, 513, 13, 514, 516, 517, 518, 519, 812, 813, 814, 815, 816] (by decide +kernel)
set_option maxRecDepth 20000 in
theorem wsL_law0_r11_at : ∀ w ∈ wsL_law0_r11, w ∈ lw_tbl := lw_at [818, 23, 819, 820, 822, 24, 823, 824, 826, 25, 827, 520, 521, 522, 523, 524, 525, 526, 527, 218, 219, 220, 529, 530] (by decide +kernel)
set_option maxRecDepth 20000 in
theorem wsL_law0_r12_at : ∀ w ∈ wsL_law0_r12, w ∈ lw_tbl := lw_at [531, 532, 828, 829, 830, 831, 533, 534, 535, 536, 537, 538, 539, 541, 542, 543, 544, 545, 222, 223, 224, 832, 833, 834] (by decide +kernel)
set_option maxRecDepth 20000 in
theorem wsL_law0_r13_at : ∀ w ∈ wsL_law0_r13, w ∈ lw_tbl := lw_at [835, 546, 547, 548, 549, 550, 551, 552, 554, 555, 556, 557, 836, 837, 838, 839, 558, 559, 560, 561, 562, 563, 564, 565] (by decide +kernel)
set_option maxRecDepth 20000 in
theorem wsL_law0_r14_at : ∀ w ∈ wsL_law0_r14, w ∈ lw_tbl := lw_at [567, 14, 568, 570, 243, 244, 245, 840, 841, 842, 843, 844, 846, 26, 847, 571, 572, 573, 574, 575, 576, 577, 848, 849] (by decide +kernel)
set_option maxRecDepth 20000 in
theorem wsL_law0_r15_at : ∀ w ∈ wsL_law0_r15, w ∈ lw_tbl := lw_at [850, 851, 578, 579, 580, 581, 582, 583, 584, 585, 586, 587, 588, 591, 592, 593, 594, 852, 853, 854, 855, 595, 596, 597] (by decide +kernel)
set_option maxRecDepth 20000 in
theorem wsL_law0_r16_at : ∀ w ∈ wsL_law0_r16, w ∈ lw_tbl := lw_at [598, 599, 600, 601, 602, 604, 15, 605, 608, 609, 610, 611, 206, 208, 0, 209, 174, 210, 211, 212, 213, 214, 215, 54] (by decide +kernel)
set_option maxRecDepth 20000 in
theorem wsL_law0_r17_at : ∀ w ∈ wsL_law0_r17, w ∈ lw_tbl := lw_at [216, 232, 234, 1, 235, 236, 237, 246, 248, 2, 249, 250, 251, 252, 253, 254, 255, 256, 257, 612, 268, 269, 270, 613] (by decide +kernel)
set_option maxRecDepth 20000 in
theorem wsL_law0_r18_at : ∀ w ∈ wsL_law0_r18, w ∈ lw_tbl := lw_at [614, 615, 616, 627, 617, 300, 301, 302, 618, 620, 16, 621, 622, 624, 17, 625, 628, 630, 18, 631, 632, 634, 19, 635] (by decide +kernel)
set_option maxRecDepth 20000 in
theorem wsL_law0_r19_at : ∀ w ∈ wsL_law0_r19, w ∈ lw_tbl := lw_at [353, 354, 637, 638, 856, 857, 858, 859, 860, 862, 27, 863, 864, 866, 28, 867, 868, 870, 29, 871, 872, 874, 30, 875] (by decide +kernel)
set_option maxRecDepth 20000 in
theorem wsL_law0_r20_at : ∀ w ∈ wsL_law0_r20, w ∈ lw_tbl := lw_at [876, 878, 31, 879, 198, 199, 200, 201, 202, 203, 204, 205, 217, 221, 238, 242, 259, 261, 3, 262, 267, 299, 880, 881] (by decide +kernel)
set_option maxRecDepth 20000 in
theorem wsL_law0_r21_at : ∀ w ∈ wsL_law0_r21, w ∈ lw_tbl := lw_at [882, 883, 884, 886, 32, 887, 303, 304, 305, 306, 307, 308, 309, 310, 795, 796, 797, 798, 311, 312, 313, 314, 315, 316] (by decide +kernel)
set_option maxRecDepth 20000 in
theorem wsL_law0_r22_at : ∀ w ∈ wsL_law0_r22, w ∈ lw_tbl := lw_at [317, 318, 319, 320, 321, 322, 324, 5, 325, 326, 327, 328, 329, 330, 331, 332, 333, 334, 336, 6, 337, 338, 340, 7] (by decide +kernel)
set_option maxRecDepth 20000 in
theorem wsL_law0_r23_at : ∀ w ∈ wsL_law0_r23, w ∈ lw_tbl := lw_at [341, 342, 343, 345, 8, 346, 355, 348, 349, 350, 351, 356, 357, 358, 359, 360, 888, 889, 890, 891, 892, 894, 33, 895] (by decide +kernel)
set_option maxRecDepth 20000 in
theorem wsL_law0_r24_at : ∀ w ∈ wsL_law0_r24, w ∈ lw_tbl := lw_at [896, 897, 898, 899, 900, 901, 902, 904, 34, 905, 906, 908, 35, 909, 910, 639, 640, 641, 642, 643, 644, 645, 646, 651] (by decide +kernel)
set_option maxRecDepth 20000 in
theorem wsL_law0_r25_at : ∀ w ∈ wsL_law0_r25, w ∈ lw_tbl := lw_at [55, 647, 648, 649, 650, 667, 911, 912, 913, 914, 668, 669, 670, 671, 672, 673, 674, 675, 676, 677, 678, 679, 680, 682] (by decide +kernel)
set_option maxRecDepth 20000 in
theorem wsL_law0_r26_at : ∀ w ∈ wsL_law0_r26, w ∈ lw_tbl := lw_at [20, 683, 690, 684, 685, 686, 688, 689, 691, 692, 693, 694, 695, 915, 916, 917, 918, 696, 697, 698, 699, 700, 701, 702] (by decide +kernel)
set_option maxRecDepth 20000 in
theorem wsL_law0_r27_at : ∀ w ∈ wsL_law0_r27, w ∈ lw_tbl := lw_at [703, 704, 705, 706, 919, 920, 921, 922, 707, 708, 709, 710, 711, 712, 713, 714, 715, 716, 717, 718, 719, 923, 924, 925] (by decide +kernel)
set_option maxRecDepth 20000 in
theorem wsL_law0_r28_at : ∀ w ∈ wsL_law0_r28, w ∈ lw_tbl := lw_at [926, 361, 362, 363, 364, 927, 928, 929, 930, 931, 933, 36, 934, 721, 722, 723, 724, 725, 726, 727, 728, 729, 730, 731] (by decide +kernel)
set_option maxRecDepth 20000 in
theorem wsL_law0_r29_at : ∀ w ∈ wsL_law0_r29, w ∈ lw_tbl := lw_at [732, 733, 734, 735, 935, 936, 937, 938] (by decide +kernel)
theorem wsX00_at : ∀ w ∈ wsX00, w ∈ lw_tbl := by decide +kernel
theorem wsX10_at : ∀ w ∈ wsX10, w ∈ lw_tbl := by decide +kernel
theorem wsX20_at : ∀ w ∈ wsX20, w ∈ lw_tbl := by decide +kernel
theorem wsX30_at : ∀ w ∈ wsX30, w ∈ lw_tbl := by decide +kernel
theorem wsX40_at : ∀ w ∈ wsX40, w ∈ lw_tbl := by decide +kernel
theorem wsX50_at : ∀ w ∈ wsX50, w ∈ lw_tbl := by decide +kernel
theorem wsX60_at : ∀ w ∈ wsX60, w ∈ lw_tbl := by decide +kernel
theorem wsX70_at : ∀ w ∈ wsX70, w ∈ lw_tbl := by decide +kernel
theorem wsL_law_in0 : ∀ w ∈ wsL_law0, w ∈ lw_tbl := List.forall_mem_append.mpr ⟨List.forall_mem_append.mpr ⟨List.forall_mem_append.mpr ⟨List.forall_mem_append.mpr ⟨List.forall_mem_append.mpr ⟨List.forall_mem_append.mpr ⟨List.forall_mem_append.mpr ⟨List.forall_mem_append.mpr ⟨List.forall_mem_append.mpr ⟨List.forall_mem_append.mpr ⟨wsL_law0_r1_at, List.forall_mem_append.mpr ⟨wsL_law0_r2_at, List.forall_mem_append.mpr ⟨wsL_law0_r3_at, List.forall_mem_append.mpr ⟨wsL_law0_r4_at, List.forall_mem_append.mpr ⟨wsL_law0_r5_at, List.forall_mem_append.mpr ⟨wsL_law0_r6_at, List.forall_mem_append.mpr ⟨wsL_law0_r7_at, List.forall_mem_append.mpr ⟨wsL_law0_r8_at, List.forall_mem_append.mpr ⟨wsL_law0_r9_at, List.forall_mem_append.mpr ⟨wsL_law0_r10_at, List.forall_mem_append.mpr ⟨wsL_law0_r11_at, List.forall_mem_append.mpr ⟨wsL_law0_r12_at, List.forall_mem_append.mpr ⟨wsL_law0_r13_at, List.forall_mem_append.mpr ⟨wsL_law0_r14_at, List.forall_mem_append.mpr ⟨wsL_law0_r15_at, List.forall_mem_append.mpr ⟨wsL_law0_r16_at, List.forall_mem_append.mpr ⟨wsL_law0_r17_at, List.forall_mem_append.mpr ⟨wsL_law0_r18_at, List.forall_mem_append.mpr ⟨wsL_law0_r19_at, List.forall_mem_append.mpr ⟨wsL_law0_r20_at, List.forall_mem_append.mpr ⟨wsL_law0_r21_at, List.forall_mem_append.mpr ⟨wsL_law0_r22_at, List.forall_mem_append.mpr ⟨wsL_law0_r23_at, List.forall_mem_append.mpr ⟨wsL_law0_r24_at, List.forall_mem_append.mpr ⟨wsL_law0_r25_at, List.forall_mem_append.mpr ⟨wsL_law0_r26_at, List.forall_mem_append.mpr ⟨wsL_law0_r27_at, List.forall_mem_append.mpr ⟨wsL_law0_r28_at, wsL_law0_r29_at⟩⟩⟩⟩⟩⟩⟩⟩⟩⟩⟩⟩⟩⟩⟩⟩⟩⟩⟩⟩⟩⟩⟩⟩⟩⟩⟩⟩, wsX60_at⟩, wsX70_at⟩, wsX10_at⟩, wsX20_at⟩, wsX50_at⟩, wsX30_at⟩, wsX40_at⟩, wsX00_at⟩, fun _ h => absurd h List.not_mem_nil⟩
theorem wsL_law_x0 : ∀ w ∈ (vx_atS RX6 83 "java/lang/UnsupportedOperationException" ["java/lang/RuntimeException", "java/lang/Exception"]).filter goodWord, w ∈ lw_tbl := by decide +kernel
theorem wsL_law_x1 : ∀ w ∈ (vx_atS RX6 93 "java/lang/IndexOutOfBoundsException" ["java/lang/RuntimeException", "java/lang/Exception"]).filter goodWord, w ∈ lw_tbl := by decide +kernel
theorem wsL_law_x2 : ∀ w ∈ (vx_atS RX6 105 "java/lang/IllegalArgumentException" ["java/lang/RuntimeException", "java/lang/Exception"]).filter goodWord, w ∈ lw_tbl := by decide +kernel
theorem wsL_law_x3 : ∀ w ∈ (vx_atS RX6 176 "java/lang/IllegalStateException" ["java/lang/RuntimeException", "java/lang/Exception"]).filter goodWord, w ∈ lw_tbl := by decide +kernel
theorem wsL_law_in : ∀ w ∈ wsL_law, w ∈ lw_tbl := fun w h => (List.mem_append.mp h).elim (fun h => (List.mem_append.mp h).elim (fun h => (List.mem_append.mp h).elim (fun h => (List.mem_append.mp h).elim (fun h => wsL_law_in0 w h) (fun h => wsL_law_x0 w h)) (fun h => wsL_law_x1 w h)) (fun h => wsL_law_x2 w h)) (fun h => wsL_law_x3 w h)
theorem inlX0 : ∀ w ∈ wsX00, w ∈ wsL_law := fun _ h => List.mem_append_left _ (List.mem_append_left _ (List.mem_append_left _ (List.mem_append_left _ (List.mem_append_left _ (List.mem_append_right _ h)))))
theorem inX0 : ∀ w ∈ wsX00, w ∈ lw_tbl := fun w h => wsL_law_in w (inlX0 w h)
theorem inlX1 : ∀ w ∈ wsX10, w ∈ wsL_law := fun _ h => List.mem_append_left _ (List.mem_append_left _ (List.mem_append_left _ (List.mem_append_left _ (List.mem_append_left _ (List.mem_append_left _ (List.mem_append_left _ (List.mem_append_left _ (List.mem_append_left _ (List.mem_append_left _ (List.mem_append_right _ h))))))))))
theorem inX1 : ∀ w ∈ wsX10, w ∈ lw_tbl := fun w h => wsL_law_in w (inlX1 w h)
theorem inlX2 : ∀ w ∈ wsX20, w ∈ wsL_law := fun _ h => List.mem_append_left _ (List.mem_append_left _ (List.mem_append_left _ (List.mem_append_left _ (List.mem_append_left _ (List.mem_append_left _ (List.mem_append_left _ (List.mem_append_left _ (List.mem_append_left _ (List.mem_append_right _ h)))))))))
theorem inX2 : ∀ w ∈ wsX20, w ∈ lw_tbl := fun w h => wsL_law_in w (inlX2 w h)
theorem inlX3 : ∀ w ∈ wsX30, w ∈ wsL_law := fun _ h => List.mem_append_left _ (List.mem_append_left _ (List.mem_append_left _ (List.mem_append_left _ (List.mem_append_left _ (List.mem_append_left _ (List.mem_append_left _ (List.mem_append_right _ h)))))))
theorem inX3 : ∀ w ∈ wsX30, w ∈ lw_tbl := fun w h => wsL_law_in w (inlX3 w h)
theorem inlX4 : ∀ w ∈ wsX40, w ∈ wsL_law := fun _ h => List.mem_append_left _ (List.mem_append_left _ (List.mem_append_left _ (List.mem_append_left _ (List.mem_append_left _ (List.mem_append_left _ (List.mem_append_right _ h))))))
theorem inX4 : ∀ w ∈ wsX40, w ∈ lw_tbl := fun w h => wsL_law_in w (inlX4 w h)
theorem inlX5 : ∀ w ∈ wsX50, w ∈ wsL_law := fun _ h => List.mem_append_left _ (List.mem_append_left _ (List.mem_append_left _ (List.mem_append_left _ (List.mem_append_left _ (List.mem_append_left _ (List.mem_append_left _ (List.mem_append_left _ (List.mem_append_right _ h))))))))
theorem inX5 : ∀ w ∈ wsX50, w ∈ lw_tbl := fun w h => wsL_law_in w (inlX5 w h)
theorem inlX6 : ∀ w ∈ wsX60, w ∈ wsL_law := fun _ h => List.mem_append_left _ (List.mem_append_left _ (List.mem_append_left _ (List.mem_append_left _ (List.mem_append_left _ (List.mem_append_left _ (List.mem_append_left _ (List.mem_append_left _ (List.mem_append_left _ (List.mem_append_left _ (List.mem_append_left _ (List.mem_append_left _ (List.mem_append_right _ h))))))))))))
theorem inX6 : ∀ w ∈ wsX60, w ∈ lw_tbl := fun w h => wsL_law_in w (inlX6 w h)
theorem inlX7 : ∀ w ∈ wsX70, w ∈ wsL_law := fun _ h => List.mem_append_left _ (List.mem_append_left _ (List.mem_append_left _ (List.mem_append_left _ (List.mem_append_left _ (List.mem_append_left _ (List.mem_append_left _ (List.mem_append_left _ (List.mem_append_left _ (List.mem_append_left _ (List.mem_append_left _ (List.mem_append_right _ h)))))))))))
theorem inX7 : ∀ w ∈ wsX70, w ∈ lw_tbl := fun w h => wsL_law_in w (inlX7 w h)
theorem inJx145de : ∀ w ∈ wsJx145de0, w ∈ lw_tbl := by decide +kernel
theorem inJ9 : ∀ w ∈ wsJ90, w ∈ lw_tbl := by decide +kernel
theorem inJ0 : ∀ w ∈ wsJ00, w ∈ lw_tbl := by decide +kernel
theorem inJ10 : ∀ w ∈ wsJ100, w ∈ lw_tbl := by decide +kernel
theorem inJ7 : ∀ w ∈ wsJ70, w ∈ lw_tbl := by decide +kernel
