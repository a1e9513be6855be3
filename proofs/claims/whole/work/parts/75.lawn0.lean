/-! the words of the law's walk are words of the tables (written by wip/gen/lawin.py) -/
theorem mem_ix {big ws : List Cond} (ps : List Nat) (hp : ws = ps.filterMap (fun i => big[i]?)) : ∀ w ∈ ws, w ∈ big := by
  intro w hw
  rw [hp] at hw
  obtain ⟨i, -, hi⟩ := List.mem_filterMap.mp hw
  exact List.mem_of_getElem? hi
set_option maxRecDepth 20000 in
theorem wl_1 : ∀ w ∈ wsL_law_r1, w ∈ lw_tbl := mem_ix [61, 62, 46, 643, 644, 53, 914, 63, 64, 65, 66, 67, 68, 69, 70, 47, 267, 94, 95, 48, 268, 113, 114, 49] (by decide +kernel)
set_option maxRecDepth 20000 in
theorem wl_2 : ∀ w ∈ wsL_law_r2, w ∈ lw_tbl := mem_ix [269, 225, 226, 51, 271, 239, 240, 52, 270, 272, 273, 274, 71, 72, 73, 74, 75, 93, 77, 78, 79, 80, 81, 96] (by decide +kernel)
set_option maxRecDepth 20000 in
theorem wl_3 : ∀ w ∈ wsL_law_r3, w ∈ lw_tbl := mem_ix [97, 98, 99, 100, 101, 102, 103, 115, 116, 117, 118, 182, 183, 119, 184, 121, 50, 185, 186, 123, 124, 125, 227, 228] (by decide +kernel)
set_option maxRecDepth 20000 in
theorem wl_4 : ∀ w ∈ wsL_law_r4, w ∈ lw_tbl := mem_ix [229, 230, 238, 231, 232, 241, 242, 243, 244, 245, 246, 247, 248, 249, 250, 251, 645, 646, 647, 648, 651, 652, 649, 654] (by decide +kernel)
set_option maxRecDepth 20000 in
theorem wl_5 : ∀ w ∈ wsL_law_r5, w ∈ lw_tbl := mem_ix [657, 658, 661, 662, 664, 665, 666, 667, 668, 669, 670, 671, 672, 673, 675, 676, 677, 678, 756, 679, 680, 681, 682, 650] (by decide +kernel)
set_option maxRecDepth 20000 in
theorem wl_6 : ∀ w ∈ wsL_law_r6, w ∈ lw_tbl := mem_ix [292, 293, 294, 295, 296, 297, 298, 299, 300, 301, 302, 303, 304, 305, 54, 306, 757, 758, 759, 760, 653, 307, 308, 309] (by decide +kernel)
set_option maxRecDepth 20000 in
theorem wl_7 : ∀ w ∈ wsL_law_r7, w ∈ lw_tbl := mem_ix [310, 761, 762, 763, 764, 765, 766, 767, 311, 312, 313, 314, 315, 316, 317, 318, 319, 320, 321, 322, 323, 325, 0, 326] (by decide +kernel)
set_option maxRecDepth 20000 in
theorem wl_8 : ∀ w ∈ wsL_law_r8, w ∈ lw_tbl := mem_ix [327, 328, 329, 337, 338, 339, 55, 340, 915, 341, 342, 343, 344, 345, 916, 347, 348, 349, 350, 351, 352, 353, 354, 355] (by decide +kernel)
set_option maxRecDepth 20000 in
theorem wl_9 : ∀ w ∈ wsL_law_r9, w ∈ lw_tbl := mem_ix [356, 56, 357, 358, 359, 360, 361, 363, 364, 57, 365, 366, 367, 58, 368, 369, 370, 371, 372, 373, 374, 375, 376, 377] (by decide +kernel)
set_option maxRecDepth 20000 in
theorem wl_10 : ∀ w ∈ wsL_law_r10, w ∈ lw_tbl := mem_ix [378, 379, 381, 383, 385, 386, 387, 389, 390, 391, 392, 393, 394, 395, 396, 398, 399, 400, 401, 402, 404, 1, 405, 768] (by decide +kernel)
set_option maxRecDepth 20000 in
theorem wl_11 : ∀ w ∈ wsL_law_r11, w ∈ lw_tbl := mem_ix [769, 770, 771, 772, 773, 774, 775, 776, 777, 778, 779, 780, 781, 783, 24, 784, 785, 786, 787, 788, 789, 790, 407, 408] (by decide +kernel)
set_option maxRecDepth 20000 in
theorem wl_12 : ∀ w ∈ wsL_law_r12, w ∈ lw_tbl := mem_ix [409, 410, 411, 412, 413, 414, 415, 416, 417, 418, 419, 420, 421, 422, 423, 424, 425, 426, 188, 187, 427, 428, 430, 2] (by decide +kernel)
set_option maxRecDepth 20000 in
theorem wl_13 : ∀ w ∈ wsL_law_r13, w ∈ lw_tbl := mem_ix [431, 189, 190, 191, 192, 193, 194, 195, 432, 433, 434, 435, 436, 437, 439, 3, 440, 441, 443, 4, 444, 445, 447, 5] (by decide +kernel)
set_option maxRecDepth 20000 in
theorem wl_14 : ∀ w ∈ wsL_law_r14, w ∈ lw_tbl := mem_ix [448, 449, 451, 6, 452, 453, 455, 7, 456, 457, 459, 8, 460, 461, 463, 9, 464, 465, 467, 10, 468, 469, 470, 471] (by decide +kernel)
set_option maxRecDepth 20000 in
theorem wl_15 : ∀ w ∈ wsL_law_r15, w ∈ lw_tbl := mem_ix [472, 473, 475, 11, 476, 479, 481, 12, 482, 483, 485, 13, 486, 487, 489, 14, 490, 491, 492, 493, 494, 495, 497, 15] (by decide +kernel)
set_option maxRecDepth 20000 in
theorem wl_16 : ∀ w ∈ wsL_law_r16, w ∈ lw_tbl := mem_ix [498, 499, 500, 501, 502, 503, 504, 505, 506, 507, 508, 509, 511, 16, 512, 513, 514, 515, 516, 517, 518, 519, 520, 521] (by decide +kernel)
set_option maxRecDepth 20000 in
theorem wl_17 : ∀ w ∈ wsL_law_r17, w ∈ lw_tbl := mem_ix [522, 523, 524, 545, 544, 543, 60, 525, 527, 17, 528, 529, 530, 531, 532, 533, 534, 535, 536, 538, 539, 540, 59, 541] (by decide +kernel)
set_option maxRecDepth 20000 in
theorem wl_18 : ∀ w ∈ wsL_law_r18, w ∈ lw_tbl := mem_ix [542, 546, 547, 548, 549, 550, 551, 552, 553, 555, 18, 556, 557, 559, 19, 560, 561, 563, 20, 564, 565, 567, 21, 568] (by decide +kernel)
set_option maxRecDepth 20000 in
theorem wl_19 : ∀ w ∈ wsL_law_r19, w ∈ lw_tbl := mem_ix [569, 571, 22, 572, 573, 575, 23, 576, 577, 578, 579, 580, 791, 792, 793, 794, 655, 656, 659, 795, 797, 25, 798, 660] (by decide +kernel)
set_option maxRecDepth 20000 in
theorem wl_20 : ∀ w ∈ wsL_law_r20, w ∈ lw_tbl := mem_ix [663, 674, 799, 801, 26, 802, 683, 684, 803, 805, 27, 806, 807, 809, 28, 810, 811, 812, 813, 814, 816, 29, 817, 818] (by decide +kernel)
set_option maxRecDepth 20000 in
theorem wl_21 : ∀ w ∈ wsL_law_r21, w ∈ lw_tbl := mem_ix [820, 30, 821, 822, 824, 31, 825, 826, 828, 32, 829, 830, 832, 33, 833, 834, 836, 34, 837, 838, 839, 840, 841, 843] (by decide +kernel)
set_option maxRecDepth 20000 in
theorem wl_22 : ∀ w ∈ wsL_law_r22, w ∈ lw_tbl := mem_ix [35, 844, 845, 847, 36, 848, 849, 851, 37, 852, 853, 855, 38, 856, 857, 859, 39, 860, 861, 863, 40, 864, 865, 867] (by decide +kernel)
set_option maxRecDepth 20000 in
theorem wl_23 : ∀ w ∈ wsL_law_r23, w ∈ lw_tbl := mem_ix [41, 868, 869, 871, 42, 872, 873, 875, 43, 876, 877, 879, 44, 880, 581, 582, 583, 584, 590, 585, 586, 587, 588, 589] (by decide +kernel)
set_option maxRecDepth 20000 in
theorem wl_24 : ∀ w ∈ wsL_law_r24, w ∈ lw_tbl := mem_ix [881, 882, 883, 884, 885, 591, 592, 593, 594, 595, 596, 597, 598, 599, 600, 601, 602, 603, 604, 605, 606, 607, 608, 609] (by decide +kernel)
set_option maxRecDepth 20000 in
theorem wl_25 : ∀ w ∈ wsL_law_r25, w ∈ lw_tbl := mem_ix [610, 611, 886, 887, 888, 889, 890, 891, 892, 893, 894, 895, 896, 897, 898, 899, 900, 612, 901, 613, 614, 615, 616, 617] (by decide +kernel)
set_option maxRecDepth 20000 in
theorem wl_26 : ∀ w ∈ wsL_law_r26, w ∈ lw_tbl := mem_ix [618, 619, 620, 902, 903, 904, 905, 621, 622, 623, 624, 625, 626, 627, 628, 629, 906, 907, 908, 909, 630, 631, 632, 633] (by decide +kernel)
set_option maxRecDepth 20000 in
theorem wl_27 : ∀ w ∈ wsL_law_r27, w ∈ lw_tbl := mem_ix [634, 635, 636, 637, 638, 639, 640, 641, 642, 910, 911, 912, 913] (by decide +kernel)
theorem inX0 : ∀ w ∈ wsX00, w ∈ lw_tbl := by decide +kernel
theorem inX1 : ∀ w ∈ wsX10, w ∈ lw_tbl := by decide +kernel
theorem inX2 : ∀ w ∈ wsX20, w ∈ lw_tbl := by decide +kernel
theorem inX3 : ∀ w ∈ wsX30, w ∈ lw_tbl := by decide +kernel
theorem inX4 : ∀ w ∈ wsX40, w ∈ lw_tbl := by decide +kernel
theorem inX5 : ∀ w ∈ wsX50, w ∈ lw_tbl := by decide +kernel
theorem inX6 : ∀ w ∈ wsX60, w ∈ lw_tbl := by decide +kernel
theorem inX7 : ∀ w ∈ wsX70, w ∈ lw_tbl := by decide +kernel
theorem wsL_law_in : ∀ w ∈ wsL_law, w ∈ lw_tbl := by
  intro w h
  unfold wsL_law at h
  simp only [List.mem_append, List.not_mem_nil, or_false] at h
  rcases h with (((((((h | h) | h) | h) | h) | h) | h) | h) | h
  · rcases h with h | h | h | h | h | h | h | h | h | h | h | h | h | h | h | h | h | h | h | h | h | h | h | h | h | h | h
    · exact wl_1 w h
    · exact wl_2 w h
    · exact wl_3 w h
    · exact wl_4 w h
    · exact wl_5 w h
    · exact wl_6 w h
    · exact wl_7 w h
    · exact wl_8 w h
    · exact wl_9 w h
    · exact wl_10 w h
    · exact wl_11 w h
    · exact wl_12 w h
    · exact wl_13 w h
    · exact wl_14 w h
    · exact wl_15 w h
    · exact wl_16 w h
    · exact wl_17 w h
    · exact wl_18 w h
    · exact wl_19 w h
    · exact wl_20 w h
    · exact wl_21 w h
    · exact wl_22 w h
    · exact wl_23 w h
    · exact wl_24 w h
    · exact wl_25 w h
    · exact wl_26 w h
    · exact wl_27 w h
  · exact inX6 w h
  · exact inX7 w h
  · exact inX4 w h
  · exact inX1 w h
  · exact inX5 w h
  · exact inX3 w h
  · exact inX2 w h
  · exact inX0 w h
theorem inlX0 : ∀ w ∈ wsX00, w ∈ wsL_law := fun _ h => List.mem_append_left _ (List.mem_append_right _ h)
theorem inlX1 : ∀ w ∈ wsX10, w ∈ wsL_law := fun _ h => List.mem_append_left _ (List.mem_append_left _ (List.mem_append_left _ (List.mem_append_left _ (List.mem_append_left _ (List.mem_append_right _ h)))))
theorem inlX2 : ∀ w ∈ wsX20, w ∈ wsL_law := fun _ h => List.mem_append_left _ (List.mem_append_left _ (List.mem_append_right _ h))
theorem inlX3 : ∀ w ∈ wsX30, w ∈ wsL_law := fun _ h => List.mem_append_left _ (List.mem_append_left _ (List.mem_append_left _ (List.mem_append_right _ h)))
theorem inlX4 : ∀ w ∈ wsX40, w ∈ wsL_law := fun _ h => List.mem_append_left _ (List.mem_append_left _ (List.mem_append_left _ (List.mem_append_left _ (List.mem_append_left _ (List.mem_append_left _ (List.mem_append_right _ h))))))
theorem inlX5 : ∀ w ∈ wsX50, w ∈ wsL_law := fun _ h => List.mem_append_left _ (List.mem_append_left _ (List.mem_append_left _ (List.mem_append_left _ (List.mem_append_right _ h))))
theorem inlX6 : ∀ w ∈ wsX60, w ∈ wsL_law := fun _ h => List.mem_append_left _ (List.mem_append_left _ (List.mem_append_left _ (List.mem_append_left _ (List.mem_append_left _ (List.mem_append_left _ (List.mem_append_left _ (List.mem_append_left _ (List.mem_append_right _ h))))))))
theorem inlX7 : ∀ w ∈ wsX70, w ∈ wsL_law := fun _ h => List.mem_append_left _ (List.mem_append_left _ (List.mem_append_left _ (List.mem_append_left _ (List.mem_append_left _ (List.mem_append_left _ (List.mem_append_left _ (List.mem_append_right _ h)))))))
theorem inJx8e188 : ∀ w ∈ wsJx8e1880, w ∈ lw_tbl := by decide +kernel
theorem inJ9 : ∀ w ∈ wsJ90, w ∈ lw_tbl := by decide +kernel
theorem inJ0 : ∀ w ∈ wsJ00, w ∈ lw_tbl := by decide +kernel
theorem inJ1 : ∀ w ∈ wsJ10, w ∈ lw_tbl := by decide +kernel
theorem inJ2 : ∀ w ∈ wsJ20, w ∈ lw_tbl := by decide +kernel
theorem inJ10 : ∀ w ∈ wsJ100, w ∈ lw_tbl := by decide +kernel
theorem inJ7 : ∀ w ∈ wsJ70, w ∈ lw_tbl := by decide +kernel
theorem inJ3 : ∀ w ∈ wsJ30, w ∈ lw_tbl := by decide +kernel
