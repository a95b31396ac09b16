/-- the words of the tables that are kept warm: links to private members of nest mates -/
def nwWarm : Cond → Bool
  | .fieldLinkNest .. => true
  | .methodLinkNest .. => true
  | _ => false
/-! ===== where the words of the law stand in its table ===== -/
set_option maxRecDepth 20000 in
theorem wsIn_1 : wsL_law_r1 = ([77, 78, 63, 643, 644, 72, 79, 80, 81, 82, 83, 84, 85, 86, 64, 280, 104, 105, 65, 281, 164, 165, 67, 282] : List Nat).filterMap (fun i => lw_tbl[i]?) := by rfl
set_option maxRecDepth 20000 in
theorem wsIn_2 : wsL_law_r2 = ([184, 185, 68, 283, 213, 214, 69, 284, 238, 239, 70, 285, 259, 260, 71, 286, 103, 287, 88, 89, 90, 91, 107, 108] : List Nat).filterMap (fun i => lw_tbl[i]?) := by rfl
set_option maxRecDepth 20000 in
theorem wsIn_3 : wsL_law_r3 = ([109, 110, 111, 66, 132, 138, 139, 141, 144, 148, 113, 114, 115, 116, 117, 118, 167, 168, 169, 170, 173, 187, 188, 189] : List Nat).filterMap (fun i => lw_tbl[i]?) := by rfl
set_option maxRecDepth 20000 in
theorem wsIn_4 : wsL_law_r4 = ([190, 194, 196, 192, 198, 199, 216, 217, 218, 219, 221, 222, 223, 224, 241, 242, 243, 244, 245, 247, 262, 263, 264, 265] : List Nat).filterMap (fun i => lw_tbl[i]?) := by rfl
set_option maxRecDepth 20000 in
theorem wsIn_5 : wsL_law_r5 = ([267, 268, 269, 270, 645, 646, 647, 648, 649, 650, 653, 654, 655, 658, 660, 661, 662, 663, 665, 666, 305, 306, 307, 308] : List Nat).filterMap (fun i => lw_tbl[i]?) := by rfl
set_option maxRecDepth 20000 in
theorem wsIn_6 : wsL_law_r6 = ([311, 0, 312, 92, 708, 709, 710, 711, 712, 652, 713, 714, 715, 313, 314, 315, 316, 716, 717, 718, 719, 317, 318, 319] : List Nat).filterMap (fun i => lw_tbl[i]?) := by rfl
set_option maxRecDepth 20000 in
theorem wsIn_7 : wsL_law_r7 = ([320, 323, 1, 324, 327, 2, 328, 119, 331, 3, 332, 174, 175, 351, 345, 73, 346, 335, 4, 336, 339, 5, 340, 342] : List Nat).filterMap (fun i => lw_tbl[i]?) := by rfl
set_option maxRecDepth 20000 in
theorem wsIn_8 : wsL_law_r8 = ([343, 344, 347, 349, 348, 74, 354, 6, 355, 358, 7, 359, 362, 8, 363, 366, 9, 367, 720, 721, 722, 723, 724, 725] : List Nat).filterMap (fun i => lw_tbl[i]?) := by rfl
set_option maxRecDepth 20000 in
theorem wsIn_9 : wsL_law_r9 = ([726, 727, 729, 42, 730, 651, 368, 369, 370, 371, 375, 10, 376, 379, 11, 380, 381, 383, 384, 731, 732, 733, 734, 735] : List Nat).filterMap (fun i => lw_tbl[i]?) := by rfl
set_option maxRecDepth 20000 in
theorem wsIn_10 : wsL_law_r10 = ([737, 43, 738, 386, 387, 388, 389, 739, 740, 741, 742, 390, 391, 392, 393, 396, 12, 397, 743, 744, 745, 746, 398, 399] : List Nat).filterMap (fun i => lw_tbl[i]?) := by rfl
set_option maxRecDepth 20000 in
theorem wsIn_11 : wsL_law_r11 = ([400, 401, 404, 13, 405, 747, 748, 749, 750, 406, 407, 408, 409, 412, 14, 413, 414, 416, 15, 417, 418, 420, 16, 421] : List Nat).filterMap (fun i => lw_tbl[i]?) := by rfl
set_option maxRecDepth 20000 in
theorem wsIn_12 : wsL_law_r12 = ([751, 752, 753, 754, 755, 757, 44, 758, 759, 761, 45, 762, 422, 423, 424, 425, 763, 764, 765, 766, 767, 426, 427, 428] : List Nat).filterMap (fun i => lw_tbl[i]?) := by rfl
set_option maxRecDepth 20000 in
theorem wsIn_13 : wsL_law_r13 = ([429, 430, 432, 17, 433, 436, 18, 437, 440, 19, 441, 442, 443, 445, 447, 20, 448, 449, 463, 450, 452, 21, 453, 454] : List Nat).filterMap (fun i => lw_tbl[i]?) := by rfl
set_option maxRecDepth 20000 in
theorem wsIn_14 : wsL_law_r14 = ([456, 22, 457, 459, 461, 23, 462, 768, 769, 770, 771, 772, 774, 46, 775, 776, 778, 47, 779, 656, 780, 782, 48, 783] : List Nat).filterMap (fun i => lw_tbl[i]?) := by rfl
set_option maxRecDepth 20000 in
theorem wsIn_15 : wsL_law_r15 = ([657, 784, 786, 49, 787, 788, 790, 50, 791, 792, 794, 51, 795, 796, 798, 52, 799, 800, 802, 53, 803, 464, 465, 466] : List Nat).filterMap (fun i => lw_tbl[i]?) := by rfl
set_option maxRecDepth 20000 in
theorem wsIn_16 : wsL_law_r16 = ([467, 468, 469, 470, 471, 472, 473, 474, 804, 805, 806, 807, 808, 809, 75, 810, 814, 816, 815, 75, 817, 811, 812, 813] : List Nat).filterMap (fun i => lw_tbl[i]?) := by rfl
set_option maxRecDepth 20000 in
theorem wsIn_17 : wsL_law_r17 = ([475, 476, 477, 478, 481, 24, 482, 200, 483, 485, 25, 486, 818, 819, 820, 821, 659, 822, 824, 54, 825, 487, 488, 489] : List Nat).filterMap (fun i => lw_tbl[i]?) := by rfl
set_option maxRecDepth 20000 in
theorem wsIn_18 : wsL_law_r18 = ([490, 493, 26, 494, 826, 827, 828, 829, 495, 496, 497, 498, 499, 830, 831, 832, 833, 500, 501, 502, 503, 834, 835, 836] : List Nat).filterMap (fun i => lw_tbl[i]?) := by rfl
set_option maxRecDepth 20000 in
theorem wsIn_19 : wsL_law_r19 = ([837, 505, 506, 507, 508, 838, 839, 840, 841, 842, 844, 55, 845, 510, 511, 512, 513, 516, 27, 517, 226, 519, 521, 28] : List Nat).filterMap (fun i => lw_tbl[i]?) := by rfl
set_option maxRecDepth 20000 in
theorem wsIn_20 : wsL_law_r20 = ([522, 523, 525, 29, 526, 529, 531, 30, 532, 846, 847, 848, 849, 850, 852, 56, 853, 854, 856, 57, 857, 858, 860, 58] : List Nat).filterMap (fun i => lw_tbl[i]?) := by rfl
set_option maxRecDepth 20000 in
theorem wsIn_21 : wsL_law_r21 = ([861, 862, 864, 59, 865, 533, 534, 535, 536, 866, 867, 868, 869, 537, 538, 539, 540, 870, 871, 872, 873, 541, 542, 543] : List Nat).filterMap (fun i => lw_tbl[i]?) := by rfl
set_option maxRecDepth 20000 in
theorem wsIn_22 : wsL_law_r22 = ([544, 547, 31, 548, 552, 32, 553, 874, 875, 876, 877, 554, 555, 556, 557, 878, 879, 880, 881, 882, 558, 559, 560, 561] : List Nat).filterMap (fun i => lw_tbl[i]?) := by rfl
set_option maxRecDepth 20000 in
theorem wsIn_23 : wsL_law_r23 = ([564, 33, 565, 248, 883, 884, 885, 886, 664, 887, 889, 60, 890, 569, 570, 571, 572, 891, 892, 893, 894, 573, 574, 575] : List Nat).filterMap (fun i => lw_tbl[i]?) := by rfl
set_option maxRecDepth 20000 in
theorem wsIn_24 : wsL_law_r24 = ([576, 579, 34, 580, 895, 896, 897, 898, 581, 582, 583, 584, 587, 35, 588, 591, 36, 592, 593, 594, 76, 595, 596, 597] : List Nat).filterMap (fun i => lw_tbl[i]?) := by rfl
set_option maxRecDepth 20000 in
theorem wsIn_25 : wsL_law_r25 = ([598, 601, 37, 602, 604, 603, 899, 900, 901, 902, 903, 605, 606, 607, 608, 611, 38, 612, 614, 622, 617, 39, 618, 619] : List Nat).filterMap (fun i => lw_tbl[i]?) := by rfl
set_option maxRecDepth 20000 in
theorem wsIn_26 : wsL_law_r26 = ([620, 904, 905, 906, 907, 908, 910, 61, 911, 623, 624, 625, 626, 629, 40, 630, 634, 912, 913, 914, 915, 635, 636, 637] : List Nat).filterMap (fun i => lw_tbl[i]?) := by rfl
set_option maxRecDepth 20000 in
theorem wsIn_27 : wsL_law_r27 = ([638, 641, 41, 642, 704, 705, 706, 707] : List Nat).filterMap (fun i => lw_tbl[i]?) := by rfl
theorem wsIn_of {ws : List Cond} {is : List Nat} (h : ws = is.filterMap (fun i => lw_tbl[i]?)) : ∀ w ∈ ws, w ∈ lw_tbl := by
  intro w hw
  rw [h] at hw
  obtain ⟨i, -, hi⟩ := List.mem_filterMap.mp hw
  exact List.mem_of_getElem? hi
theorem wsLay_8 : ∀ w ∈ wsX80, w ∈ lw_tbl := by decide +kernel
theorem wsLay_9 : ∀ w ∈ wsX90, w ∈ lw_tbl := by decide +kernel
theorem wsLay_5 : ∀ w ∈ wsX50, w ∈ lw_tbl := by decide +kernel
theorem wsLay_7 : ∀ w ∈ wsX70, w ∈ lw_tbl := by decide +kernel
theorem wsLay_3 : ∀ w ∈ wsX30, w ∈ lw_tbl := by decide +kernel
theorem wsLay_1 : ∀ w ∈ wsX10, w ∈ lw_tbl := by decide +kernel
theorem wsLay_4 : ∀ w ∈ wsX40, w ∈ lw_tbl := by decide +kernel
theorem wsLay_2 : ∀ w ∈ wsX20, w ∈ lw_tbl := by decide +kernel
theorem wsLay_0 : ∀ w ∈ wsX00, w ∈ lw_tbl := by decide +kernel
theorem wsLay_6 : ∀ w ∈ wsX60, w ∈ lw_tbl := by decide +kernel
theorem wsL_in : ∀ w ∈ wsL_law, w ∈ lw_tbl := by
  intro w hw
  unfold wsL_law at hw
  simp only [List.mem_append, List.not_mem_nil, or_false] at hw
  rcases hw with ((((((((((h | h | h | h | h | h | h | h | h | h | h | h | h | h | h | h | h | h | h | h | h | h | h | h | h | h | h) | h) | h) | h) | h) | h) | h) | h) | h) | h) | h
  · exact wsIn_of wsIn_1 w h
  · exact wsIn_of wsIn_2 w h
  · exact wsIn_of wsIn_3 w h
  · exact wsIn_of wsIn_4 w h
  · exact wsIn_of wsIn_5 w h
  · exact wsIn_of wsIn_6 w h
  · exact wsIn_of wsIn_7 w h
  · exact wsIn_of wsIn_8 w h
  · exact wsIn_of wsIn_9 w h
  · exact wsIn_of wsIn_10 w h
  · exact wsIn_of wsIn_11 w h
  · exact wsIn_of wsIn_12 w h
  · exact wsIn_of wsIn_13 w h
  · exact wsIn_of wsIn_14 w h
  · exact wsIn_of wsIn_15 w h
  · exact wsIn_of wsIn_16 w h
  · exact wsIn_of wsIn_17 w h
  · exact wsIn_of wsIn_18 w h
  · exact wsIn_of wsIn_19 w h
  · exact wsIn_of wsIn_20 w h
  · exact wsIn_of wsIn_21 w h
  · exact wsIn_of wsIn_22 w h
  · exact wsIn_of wsIn_23 w h
  · exact wsIn_of wsIn_24 w h
  · exact wsIn_of wsIn_25 w h
  · exact wsIn_of wsIn_26 w h
  · exact wsIn_of wsIn_27 w h
  · exact wsLay_8 w h
  · exact wsLay_9 w h
  · exact wsLay_5 w h
  · exact wsLay_7 w h
  · exact wsLay_3 w h
  · exact wsLay_1 w h
  · exact wsLay_4 w h
  · exact wsLay_2 w h
  · exact wsLay_0 w h
  · exact wsLay_6 w h

set_option maxRecDepth 20000 in
theorem wq_0 : Cond.classLink RL 7 RX8 ∈ wsL_law := List.mem_of_getElem? (i := 0) rfl
set_option maxRecDepth 20000 in
theorem wq_1 : Cond.instantiable RX8 8 ∈ wsL_law := List.mem_of_getElem? (i := 1) rfl
set_option maxRecDepth 20000 in
theorem wq_2 : Cond.initialized RX8 ∈ wsL_law := List.mem_of_getElem? (i := 2) rfl
set_option maxRecDepth 20000 in
theorem wq_3 : Cond.classLink RL 10 RX9 ∈ wsL_law := List.mem_of_getElem? (i := 3) rfl
set_option maxRecDepth 20000 in
theorem wq_4 : Cond.instantiable RX9 18 ∈ wsL_law := List.mem_of_getElem? (i := 4) rfl
set_option maxRecDepth 20000 in
theorem wq_5 : Cond.initialized RX9 ∈ wsL_law := List.mem_of_getElem? (i := 5) rfl
set_option maxRecDepth 20000 in
theorem wq_6 : Cond.methodLink RL 9 yX8_init ∈ wsL_law := List.mem_of_getElem? (i := 6) rfl
set_option maxRecDepth 20000 in
theorem wq_7 : Cond.instanceMethod yX8_init ∈ wsL_law := List.mem_of_getElem? (i := 7) rfl
set_option maxRecDepth 20000 in
theorem wq_8 : Cond.code yX8_init cX8_init 1 none ∈ wsL_law := List.mem_of_getElem? (i := 8) rfl
set_option maxRecDepth 20000 in
theorem wq_9 : Cond.methodLink RX8 1 objectInit ∈ wsL_law := List.mem_of_getElem? (i := 9) rfl
set_option maxRecDepth 20000 in
theorem wq_10 : Cond.instanceMethod objectInit ∈ wsL_law := List.mem_of_getElem? (i := 10) rfl
set_option maxRecDepth 20000 in
theorem wq_11 : Cond.code objectInit ⟨#[0xb1]⟩ 1 none ∈ wsL_law := List.mem_of_getElem? (i := 11) rfl
set_option maxRecDepth 20000 in
theorem wq_12 : Cond.classLink RX8 7 RX5 ∈ wsL_law := List.mem_of_getElem? (i := 12) rfl
set_option maxRecDepth 20000 in
theorem wq_13 : Cond.instantiable RX5 2 ∈ wsL_law := List.mem_of_getElem? (i := 13) rfl
set_option maxRecDepth 20000 in
theorem wq_14 : Cond.initialized RX5 ∈ wsL_law := List.mem_of_getElem? (i := 14) rfl
set_option maxRecDepth 20000 in
theorem wq_15 : Cond.fieldLink RX8 10 "ProverbCollection" "buffer" "LProverbCollection$Sequence;" ∈ wsL_law := List.mem_of_getElem? (i := 15) rfl
set_option maxRecDepth 20000 in
theorem wq_16 : Cond.classLink RX8 16 RX7 ∈ wsL_law := List.mem_of_getElem? (i := 16) rfl
set_option maxRecDepth 20000 in
theorem wq_17 : Cond.instantiable RX7 6 ∈ wsL_law := List.mem_of_getElem? (i := 17) rfl
set_option maxRecDepth 20000 in
theorem wq_18 : Cond.initialized RX7 ∈ wsL_law := List.mem_of_getElem? (i := 18) rfl
set_option maxRecDepth 20000 in
theorem wq_19 : Cond.fieldLink RX8 19 "ProverbCollection" "now" "LProverbCollection$State;" ∈ wsL_law := List.mem_of_getElem? (i := 19) rfl
set_option maxRecDepth 20000 in
theorem wq_20 : Cond.classLink RX8 23 RX3 ∈ wsL_law := List.mem_of_getElem? (i := 20) rfl
set_option maxRecDepth 20000 in
theorem wq_21 : Cond.instantiable RX3 3 ∈ wsL_law := List.mem_of_getElem? (i := 21) rfl
set_option maxRecDepth 20000 in
theorem wq_22 : Cond.initialized RX3 ∈ wsL_law := List.mem_of_getElem? (i := 22) rfl
set_option maxRecDepth 20000 in
theorem wq_23 : Cond.fieldLink RX8 26 "ProverbCollection" "history" "LProverbCollection$History;" ∈ wsL_law := List.mem_of_getElem? (i := 23) rfl
set_option maxRecDepth 20000 in
theorem wq_24 : Cond.classLink RX8 30 RX1 ∈ wsL_law := List.mem_of_getElem? (i := 24) rfl
set_option maxRecDepth 20000 in
theorem wq_25 : Cond.instantiable RX1 5 ∈ wsL_law := List.mem_of_getElem? (i := 25) rfl
set_option maxRecDepth 20000 in
theorem wq_26 : Cond.initialized RX1 ∈ wsL_law := List.mem_of_getElem? (i := 26) rfl
set_option maxRecDepth 20000 in
theorem wq_27 : Cond.fieldLink RX8 33 "ProverbCollection" "edits" "LProverbCollection$Edits;" ∈ wsL_law := List.mem_of_getElem? (i := 27) rfl
set_option maxRecDepth 20000 in
theorem wq_28 : Cond.classLink RX8 37 RX4 ∈ wsL_law := List.mem_of_getElem? (i := 28) rfl
set_option maxRecDepth 20000 in
theorem wq_29 : Cond.instantiable RX4 5 ∈ wsL_law := List.mem_of_getElem? (i := 29) rfl
set_option maxRecDepth 20000 in
theorem wq_30 : Cond.initialized RX4 ∈ wsL_law := List.mem_of_getElem? (i := 30) rfl
set_option maxRecDepth 20000 in
theorem wq_31 : Cond.fieldLink RX8 40 "ProverbCollection" "matcher" "LProverbCollection$Matcher;" ∈ wsL_law := List.mem_of_getElem? (i := 31) rfl
set_option maxRecDepth 20000 in
theorem wq_32 : Cond.classLink RX8 44 RX2 ∈ wsL_law := List.mem_of_getElem? (i := 32) rfl
set_option maxRecDepth 20000 in
theorem wq_33 : Cond.instantiable RX2 4 ∈ wsL_law := List.mem_of_getElem? (i := 33) rfl
set_option maxRecDepth 20000 in
theorem wq_34 : Cond.initialized RX2 ∈ wsL_law := List.mem_of_getElem? (i := 34) rfl
set_option maxRecDepth 20000 in
theorem wq_35 : Cond.fieldLink RX8 47 "ProverbCollection" "groups" "LProverbCollection$Groups;" ∈ wsL_law := List.mem_of_getElem? (i := 35) rfl
set_option maxRecDepth 20000 in
theorem wq_36 : Cond.classLink RX8 51 RX0 ∈ wsL_law := List.mem_of_getElem? (i := 36) rfl
set_option maxRecDepth 20000 in
theorem wq_37 : Cond.instantiable RX0 4 ∈ wsL_law := List.mem_of_getElem? (i := 37) rfl
set_option maxRecDepth 20000 in
theorem wq_38 : Cond.initialized RX0 ∈ wsL_law := List.mem_of_getElem? (i := 38) rfl
set_option maxRecDepth 20000 in
theorem wq_39 : Cond.fieldLink RX8 54 "ProverbCollection" "crossings" "LProverbCollection$Crossings;" ∈ wsL_law := List.mem_of_getElem? (i := 39) rfl
set_option maxRecDepth 20000 in
theorem wq_40 : Cond.arrayClass .int ∈ wsL_law := List.mem_of_getElem? (i := 40) rfl
set_option maxRecDepth 20000 in
theorem wq_41 : Cond.fieldLink RX8 58 "ProverbCollection" "ageOrder" "[I" ∈ wsL_law := List.mem_of_getElem? (i := 41) rfl
set_option maxRecDepth 20000 in
theorem wq_42 : Cond.instanceMethod yX5_init ∈ wsL_law := List.mem_of_getElem? (i := 42) rfl
set_option maxRecDepth 20000 in
theorem wq_43 : Cond.code yX5_init cX5_init 1 none ∈ wsL_law := List.mem_of_getElem? (i := 43) rfl
set_option maxRecDepth 20000 in
theorem wq_44 : Cond.methodLink RX5 3 objectInit ∈ wsL_law := List.mem_of_getElem? (i := 44) rfl
set_option maxRecDepth 20000 in
theorem wq_45 : Cond.fieldLink RX5 9 "ProverbCollection$Sequence" "tokens" "[I" ∈ wsL_law := List.mem_of_getElem? (i := 45) rfl
set_option maxRecDepth 20000 in
theorem wq_46 : Cond.instanceMethod yX7_init ∈ wsL_law := List.mem_of_getElem? (i := 46) rfl
set_option maxRecDepth 20000 in
theorem wq_47 : Cond.code yX7_init cX7_init 1 none ∈ wsL_law := List.mem_of_getElem? (i := 47) rfl
set_option maxRecDepth 20000 in
theorem wq_48 : Cond.methodLink RX7 3 objectInit ∈ wsL_law := List.mem_of_getElem? (i := 48) rfl
set_option maxRecDepth 20000 in
theorem wq_49 : Cond.classLink RX7 9 RX6 ∈ wsL_law := List.mem_of_getElem? (i := 49) rfl
set_option maxRecDepth 20000 in
theorem wq_50 : Cond.instantiable RX6 4 ∈ wsL_law := List.mem_of_getElem? (i := 50) rfl
set_option maxRecDepth 20000 in
theorem wq_51 : Cond.initialized RX6 ∈ wsL_law := List.mem_of_getElem? (i := 51) rfl
set_option maxRecDepth 20000 in
theorem wq_52 : Cond.fieldLink RX7 14 "ProverbCollection$State" "sayings" "LProverbCollection$Shelf;" ∈ wsL_law := List.mem_of_getElem? (i := 52) rfl
set_option maxRecDepth 20000 in
theorem wq_53 : Cond.fieldLink RX7 20 "ProverbCollection$State" "years" "[I" ∈ wsL_law := List.mem_of_getElem? (i := 53) rfl
set_option maxRecDepth 20000 in
theorem wq_54 : Cond.fieldLink RX7 24 "ProverbCollection$State" "regions" "[I" ∈ wsL_law := List.mem_of_getElem? (i := 54) rfl
set_option maxRecDepth 20000 in
theorem wq_55 : Cond.fieldLink RX7 27 "ProverbCollection$State" "patterns" "LProverbCollection$Shelf;" ∈ wsL_law := List.mem_of_getElem? (i := 55) rfl
set_option maxRecDepth 20000 in
theorem wq_56 : Cond.fieldLink RX7 30 "ProverbCollection$State" "costs" "[I" ∈ wsL_law := List.mem_of_getElem? (i := 56) rfl
set_option maxRecDepth 20000 in
theorem wq_57 : Cond.fieldLink RX7 33 "ProverbCollection$State" "limit" "I" ∈ wsL_law := List.mem_of_getElem? (i := 57) rfl
set_option maxRecDepth 20000 in
theorem wq_58 : Cond.instanceMethod yX6_init ∈ wsL_law := List.mem_of_getElem? (i := 58) rfl
set_option maxRecDepth 20000 in
theorem wq_59 : Cond.code yX6_init cX6_init 2 none ∈ wsL_law := List.mem_of_getElem? (i := 59) rfl
set_option maxRecDepth 20000 in
theorem wq_60 : Cond.methodLink RX6 3 objectInit ∈ wsL_law := List.mem_of_getElem? (i := 60) rfl
set_option maxRecDepth 20000 in
theorem wq_61 : Cond.fieldLink RX6 9 "ProverbCollection$Shelf" "most" "I" ∈ wsL_law := List.mem_of_getElem? (i := 61) rfl
set_option maxRecDepth 20000 in
theorem wq_62 : Cond.fieldLink RX6 15 "ProverbCollection$Shelf" "tokens" "[I" ∈ wsL_law := List.mem_of_getElem? (i := 62) rfl
set_option maxRecDepth 20000 in
theorem wq_63 : Cond.fieldLink RX6 19 "ProverbCollection$Shelf" "lengths" "[I" ∈ wsL_law := List.mem_of_getElem? (i := 63) rfl
set_option maxRecDepth 20000 in
theorem wq_64 : Cond.instanceMethod yX3_init ∈ wsL_law := List.mem_of_getElem? (i := 64) rfl
set_option maxRecDepth 20000 in
theorem wq_65 : Cond.code yX3_init cX3_init 2 none ∈ wsL_law := List.mem_of_getElem? (i := 65) rfl
set_option maxRecDepth 20000 in
theorem wq_66 : Cond.methodLink RX3 3 objectInit ∈ wsL_law := List.mem_of_getElem? (i := 66) rfl
set_option maxRecDepth 20000 in
theorem wq_67 : Cond.classLink RX3 9 RX7 ∈ wsL_law := List.mem_of_getElem? (i := 67) rfl
set_option maxRecDepth 20000 in
theorem wq_68 : Cond.fieldLink RX3 11 "ProverbCollection$History" "ring" "[LProverbCollection$State;" ∈ wsL_law := List.mem_of_getElem? (i := 68) rfl
set_option maxRecDepth 20000 in
theorem wq_69 : Cond.instanceMethod yX1_init ∈ wsL_law := List.mem_of_getElem? (i := 69) rfl
set_option maxRecDepth 20000 in
theorem wq_70 : Cond.code yX1_init cX1_init 1 none ∈ wsL_law := List.mem_of_getElem? (i := 70) rfl
set_option maxRecDepth 20000 in
theorem wq_71 : Cond.methodLink RX1 3 objectInit ∈ wsL_law := List.mem_of_getElem? (i := 71) rfl
set_option maxRecDepth 20000 in
theorem wq_72 : Cond.classLink RX1 9 RX5 ∈ wsL_law := List.mem_of_getElem? (i := 72) rfl
set_option maxRecDepth 20000 in
theorem wq_73 : Cond.fieldLink RX1 12 "ProverbCollection$Edits" "first" "LProverbCollection$Sequence;" ∈ wsL_law := List.mem_of_getElem? (i := 73) rfl
set_option maxRecDepth 20000 in
theorem wq_74 : Cond.fieldLink RX1 18 "ProverbCollection$Edits" "second" "LProverbCollection$Sequence;" ∈ wsL_law := List.mem_of_getElem? (i := 74) rfl
set_option maxRecDepth 20000 in
theorem wq_75 : Cond.classLink RX1 21 "[[I" ∈ wsL_law := List.mem_of_getElem? (i := 75) rfl
set_option maxRecDepth 20000 in
theorem wq_76 : Cond.fieldLink RX1 23 "ProverbCollection$Edits" "table" "[[I" ∈ wsL_law := List.mem_of_getElem? (i := 76) rfl
set_option maxRecDepth 20000 in
theorem wq_77 : Cond.fieldLink RX1 26 "ProverbCollection$Edits" "list" "[I" ∈ wsL_law := List.mem_of_getElem? (i := 77) rfl
set_option maxRecDepth 20000 in
theorem wq_78 : Cond.instanceMethod yX4_init ∈ wsL_law := List.mem_of_getElem? (i := 78) rfl
set_option maxRecDepth 20000 in
theorem wq_79 : Cond.code yX4_init cX4_init 1 none ∈ wsL_law := List.mem_of_getElem? (i := 79) rfl
set_option maxRecDepth 20000 in
theorem wq_80 : Cond.methodLink RX4 3 objectInit ∈ wsL_law := List.mem_of_getElem? (i := 80) rfl
set_option maxRecDepth 20000 in
theorem wq_81 : Cond.classLink RX4 9 RX5 ∈ wsL_law := List.mem_of_getElem? (i := 81) rfl
set_option maxRecDepth 20000 in
theorem wq_82 : Cond.fieldLink RX4 12 "ProverbCollection$Matcher" "pattern" "LProverbCollection$Sequence;" ∈ wsL_law := List.mem_of_getElem? (i := 82) rfl
set_option maxRecDepth 20000 in
theorem wq_83 : Cond.fieldLink RX4 18 "ProverbCollection$Matcher" "saying" "LProverbCollection$Sequence;" ∈ wsL_law := List.mem_of_getElem? (i := 83) rfl
set_option maxRecDepth 20000 in
theorem wq_84 : Cond.fieldLink RX4 21 "ProverbCollection$Matcher" "slotWords" "[I" ∈ wsL_law := List.mem_of_getElem? (i := 84) rfl
set_option maxRecDepth 20000 in
theorem wq_85 : Cond.fieldLink RX4 25 "ProverbCollection$Matcher" "firstWord" "[I" ∈ wsL_law := List.mem_of_getElem? (i := 85) rfl
set_option maxRecDepth 20000 in
theorem wq_86 : Cond.instanceMethod yX2_init ∈ wsL_law := List.mem_of_getElem? (i := 86) rfl
set_option maxRecDepth 20000 in
theorem wq_87 : Cond.code yX2_init cX2_init 1 none ∈ wsL_law := List.mem_of_getElem? (i := 87) rfl
set_option maxRecDepth 20000 in
theorem wq_88 : Cond.methodLink RX2 3 objectInit ∈ wsL_law := List.mem_of_getElem? (i := 88) rfl
set_option maxRecDepth 20000 in
theorem wq_89 : Cond.fieldLink RX2 9 "ProverbCollection$Groups" "order" "[I" ∈ wsL_law := List.mem_of_getElem? (i := 89) rfl
set_option maxRecDepth 20000 in
theorem wq_90 : Cond.fieldLink RX2 15 "ProverbCollection$Groups" "memberOf" "[I" ∈ wsL_law := List.mem_of_getElem? (i := 90) rfl
set_option maxRecDepth 20000 in
theorem wq_91 : Cond.fieldLink RX2 18 "ProverbCollection$Groups" "centres" "[I" ∈ wsL_law := List.mem_of_getElem? (i := 91) rfl
set_option maxRecDepth 20000 in
theorem wq_92 : Cond.instanceMethod yX0_init ∈ wsL_law := List.mem_of_getElem? (i := 92) rfl
set_option maxRecDepth 20000 in
theorem wq_93 : Cond.code yX0_init cX0_init 1 none ∈ wsL_law := List.mem_of_getElem? (i := 93) rfl
set_option maxRecDepth 20000 in
theorem wq_94 : Cond.methodLink RX0 3 objectInit ∈ wsL_law := List.mem_of_getElem? (i := 94) rfl
set_option maxRecDepth 20000 in
theorem wq_95 : Cond.classLink RX0 9 RX5 ∈ wsL_law := List.mem_of_getElem? (i := 95) rfl
set_option maxRecDepth 20000 in
theorem wq_96 : Cond.fieldLink RX0 12 "ProverbCollection$Crossings" "front" "LProverbCollection$Sequence;" ∈ wsL_law := List.mem_of_getElem? (i := 96) rfl
set_option maxRecDepth 20000 in
theorem wq_97 : Cond.fieldLink RX0 18 "ProverbCollection$Crossings" "back" "LProverbCollection$Sequence;" ∈ wsL_law := List.mem_of_getElem? (i := 97) rfl
set_option maxRecDepth 20000 in
theorem wq_98 : Cond.fieldLink RX0 21 "ProverbCollection$Crossings" "order" "[I" ∈ wsL_law := List.mem_of_getElem? (i := 98) rfl
set_option maxRecDepth 20000 in
theorem wq_99 : Cond.fieldLink RX0 25 "ProverbCollection$Crossings" "apart" "[I" ∈ wsL_law := List.mem_of_getElem? (i := 99) rfl
set_option maxRecDepth 20000 in
theorem wq_100 : Cond.methodLink RL 12 yX9_init ∈ wsL_law := List.mem_of_getElem? (i := 100) rfl
set_option maxRecDepth 20000 in
theorem wq_101 : Cond.instanceMethod yX9_init ∈ wsL_law := List.mem_of_getElem? (i := 101) rfl
set_option maxRecDepth 20000 in
theorem wq_102 : Cond.code yX9_init cX9_init 1 none ∈ wsL_law := List.mem_of_getElem? (i := 102) rfl
set_option maxRecDepth 20000 in
theorem wq_103 : Cond.methodLink RX9 1 objectInit ∈ wsL_law := List.mem_of_getElem? (i := 103) rfl
set_option maxRecDepth 20000 in
theorem wq_104 : Cond.fieldLink RX9 7 "ProverbCollectionModel" "now" "[I" ∈ wsL_law := List.mem_of_getElem? (i := 104) rfl
set_option maxRecDepth 20000 in
theorem wq_105 : Cond.fieldLink RX9 13 "ProverbCollectionModel" "before" "[I" ∈ wsL_law := List.mem_of_getElem? (i := 105) rfl
set_option maxRecDepth 20000 in
theorem wq_106 : Cond.fieldLink RX9 16 "ProverbCollectionModel" "buffer" "[I" ∈ wsL_law := List.mem_of_getElem? (i := 106) rfl
set_option maxRecDepth 20000 in
theorem wq_107 : Cond.fieldLink RX9 19 "ProverbCollectionModel" "one" "[I" ∈ wsL_law := List.mem_of_getElem? (i := 107) rfl
set_option maxRecDepth 20000 in
theorem wq_108 : Cond.fieldLink RX9 22 "ProverbCollectionModel" "other" "[I" ∈ wsL_law := List.mem_of_getElem? (i := 108) rfl
set_option maxRecDepth 20000 in
theorem wq_109 : Cond.fieldLink RX9 25 "ProverbCollectionModel" "far" "[I" ∈ wsL_law := List.mem_of_getElem? (i := 109) rfl
set_option maxRecDepth 20000 in
theorem wq_110 : Cond.fieldLink RX9 28 "ProverbCollectionModel" "edit" "[I" ∈ wsL_law := List.mem_of_getElem? (i := 110) rfl
set_option maxRecDepth 20000 in
theorem wq_111 : Cond.fieldLink RX9 31 "ProverbCollectionModel" "gap" "[I" ∈ wsL_law := List.mem_of_getElem? (i := 111) rfl
set_option maxRecDepth 20000 in
theorem wq_112 : Cond.fieldLink RX9 34 "ProverbCollectionModel" "slot" "[I" ∈ wsL_law := List.mem_of_getElem? (i := 112) rfl
set_option maxRecDepth 20000 in
theorem wq_113 : Cond.fieldLink RX9 37 "ProverbCollectionModel" "firstSlot" "[I" ∈ wsL_law := List.mem_of_getElem? (i := 113) rfl
set_option maxRecDepth 20000 in
theorem wq_114 : Cond.fieldLink RX9 40 "ProverbCollectionModel" "group" "[I" ∈ wsL_law := List.mem_of_getElem? (i := 114) rfl
set_option maxRecDepth 20000 in
theorem wq_115 : Cond.fieldLink RX9 43 "ProverbCollectionModel" "centre" "[I" ∈ wsL_law := List.mem_of_getElem? (i := 115) rfl
set_option maxRecDepth 20000 in
theorem wq_116 : Cond.methodLink RL 13 yX8_append ∈ wsL_law := List.mem_of_getElem? (i := 116) rfl
set_option maxRecDepth 20000 in
theorem wq_117 : Cond.instanceMethod yX8_append ∈ wsL_law := List.mem_of_getElem? (i := 117) rfl
set_option maxRecDepth 20000 in
theorem wq_118 : Cond.selects RX8 yX8_append yX8_append ∈ wsL_law := List.mem_of_getElem? (i := 118) rfl
set_option maxRecDepth 20000 in
theorem wq_119 : Cond.code yX8_append cX8_append 2 (some .int) ∈ wsL_law := List.mem_of_getElem? (i := 119) rfl
set_option maxRecDepth 20000 in
theorem wq_120 : Cond.instanceMethod yX5_add ∈ wsL_law := List.mem_of_getElem? (i := 120) rfl
set_option maxRecDepth 20000 in
theorem wq_121 : Cond.selects RX5 yX5_add yX5_add ∈ wsL_law := List.mem_of_getElem? (i := 121) rfl
set_option maxRecDepth 20000 in
theorem wq_122 : Cond.code yX5_add cX5_add 2 none ∈ wsL_law := List.mem_of_getElem? (i := 122) rfl
set_option maxRecDepth 20000 in
theorem wq_123 : Cond.fieldLink RX5 15 "ProverbCollection$Sequence" "length" "I" ∈ wsL_law := List.mem_of_getElem? (i := 123) rfl
set_option maxRecDepth 20000 in
theorem wq_124 : Cond.methodLink RL 17 yX9_append ∈ wsL_law := List.mem_of_getElem? (i := 124) rfl
set_option maxRecDepth 20000 in
theorem wq_125 : Cond.instanceMethod yX9_append ∈ wsL_law := List.mem_of_getElem? (i := 125) rfl
set_option maxRecDepth 20000 in
theorem wq_126 : Cond.selects RX9 yX9_append yX9_append ∈ wsL_law := List.mem_of_getElem? (i := 126) rfl
set_option maxRecDepth 20000 in
theorem wq_127 : Cond.code yX9_append cX9_append 2 (some .int) ∈ wsL_law := List.mem_of_getElem? (i := 127) rfl
set_option maxRecDepth 20000 in
theorem wq_128 : Cond.constantLong RX9 54 (64) ∈ wsL_law := List.mem_of_getElem? (i := 128) rfl
set_option maxRecDepth 20000 in
theorem wq_129 : Cond.fieldLink RX9 56 "ProverbCollectionModel" "tokens" "I" ∈ wsL_law := List.mem_of_getElem? (i := 129) rfl
set_option maxRecDepth 20000 in
theorem wq_130 : Cond.methodLink RX9 50 yX9_in ∈ wsL_law := List.mem_of_getElem? (i := 130) rfl
set_option maxRecDepth 20000 in
theorem wq_131 : Cond.static yX9_in ∈ wsL_law := List.mem_of_getElem? (i := 131) rfl
set_option maxRecDepth 20000 in
theorem wq_132 : Cond.code yX9_in cX9_in 6 (some .boolean) ∈ wsL_law := List.mem_of_getElem? (i := 132) rfl
set_option maxRecDepth 20000 in
theorem wq_133 : Cond.methodLink RL 18 yX8_clear ∈ wsL_law := List.mem_of_getElem? (i := 133) rfl
set_option maxRecDepth 20000 in
theorem wq_134 : Cond.instanceMethod yX8_clear ∈ wsL_law := List.mem_of_getElem? (i := 134) rfl
set_option maxRecDepth 20000 in
theorem wq_135 : Cond.selects RX8 yX8_clear yX8_clear ∈ wsL_law := List.mem_of_getElem? (i := 135) rfl
set_option maxRecDepth 20000 in
theorem wq_136 : Cond.code yX8_clear cX8_clear 2 (some .int) ∈ wsL_law := List.mem_of_getElem? (i := 136) rfl
set_option maxRecDepth 20000 in
theorem wq_137 : Cond.methodLink RL 22 yX9_clear ∈ wsL_law := List.mem_of_getElem? (i := 137) rfl
set_option maxRecDepth 20000 in
theorem wq_138 : Cond.instanceMethod yX9_clear ∈ wsL_law := List.mem_of_getElem? (i := 138) rfl
set_option maxRecDepth 20000 in
theorem wq_139 : Cond.selects RX9 yX9_clear yX9_clear ∈ wsL_law := List.mem_of_getElem? (i := 139) rfl
set_option maxRecDepth 20000 in
theorem wq_140 : Cond.code yX9_clear cX9_clear 2 (some .int) ∈ wsL_law := List.mem_of_getElem? (i := 140) rfl
set_option maxRecDepth 20000 in
theorem wq_141 : Cond.methodLink RL 23 yX8_addSaying ∈ wsL_law := List.mem_of_getElem? (i := 141) rfl
set_option maxRecDepth 20000 in
theorem wq_142 : Cond.instanceMethod yX8_addSaying ∈ wsL_law := List.mem_of_getElem? (i := 142) rfl
set_option maxRecDepth 20000 in
theorem wq_143 : Cond.selects RX8 yX8_addSaying yX8_addSaying ∈ wsL_law := List.mem_of_getElem? (i := 143) rfl
set_option maxRecDepth 20000 in
theorem wq_144 : Cond.code yX8_addSaying cX8_addSaying 4 (some .int) ∈ wsL_law := List.mem_of_getElem? (i := 144) rfl
set_option maxRecDepth 20000 in
theorem wq_145 : Cond.instanceMethod yX5_wordCount ∈ wsL_law := List.mem_of_getElem? (i := 145) rfl
set_option maxRecDepth 20000 in
theorem wq_146 : Cond.selects RX5 yX5_wordCount yX5_wordCount ∈ wsL_law := List.mem_of_getElem? (i := 146) rfl
set_option maxRecDepth 20000 in
theorem wq_147 : Cond.code yX5_wordCount cX5_wordCount 3 (some .int) ∈ wsL_law := List.mem_of_getElem? (i := 147) rfl
set_option maxRecDepth 20000 in
theorem wq_148 : Cond.instanceMethod yX6_isFull ∈ wsL_law := List.mem_of_getElem? (i := 148) rfl
set_option maxRecDepth 20000 in
theorem wq_149 : Cond.selects RX6 yX6_isFull yX6_isFull ∈ wsL_law := List.mem_of_getElem? (i := 149) rfl
set_option maxRecDepth 20000 in
theorem wq_150 : Cond.code yX6_isFull cX6_isFull 1 (some .boolean) ∈ wsL_law := List.mem_of_getElem? (i := 150) rfl
set_option maxRecDepth 20000 in
theorem wq_151 : Cond.fieldLink RX6 22 "ProverbCollection$Shelf" "count" "I" ∈ wsL_law := List.mem_of_getElem? (i := 151) rfl
set_option maxRecDepth 20000 in
theorem wq_152 : Cond.instanceMethod yX3_keep ∈ wsL_law := List.mem_of_getElem? (i := 152) rfl
set_option maxRecDepth 20000 in
theorem wq_153 : Cond.selects RX3 yX3_keep yX3_keep ∈ wsL_law := List.mem_of_getElem? (i := 153) rfl
set_option maxRecDepth 20000 in
theorem wq_154 : Cond.code yX3_keep cX3_keep 2 none ∈ wsL_law := List.mem_of_getElem? (i := 154) rfl
set_option maxRecDepth 20000 in
theorem wq_155 : Cond.fieldLink RX3 18 "ProverbCollection$History" "next" "I" ∈ wsL_law := List.mem_of_getElem? (i := 155) rfl
set_option maxRecDepth 20000 in
theorem wq_156 : Cond.fieldLink RX3 26 "ProverbCollection$History" "count" "I" ∈ wsL_law := List.mem_of_getElem? (i := 156) rfl
set_option maxRecDepth 20000 in
theorem wq_157 : Cond.methodLink RX3 29 Lib.Math.min.name ∈ wsL_law := List.mem_of_getElem? (i := 157) rfl
set_option maxRecDepth 20000 in
theorem wq_158 : Cond.static Lib.Math.min.name ∈ wsL_law := List.mem_of_getElem? (i := 158) rfl
set_option maxRecDepth 20000 in
theorem wq_159 : Cond.initialized "java/lang/Math" ∈ wsL_law := List.mem_of_getElem? (i := 159) rfl
set_option maxRecDepth 20000 in
theorem wq_160 : Cond.code Lib.Math.min.name Lib.Math.min.code 2 (some .int) ∈ wsL_law := List.mem_of_getElem? (i := 160) rfl
set_option maxRecDepth 20000 in
theorem wq_161 : Cond.instanceMethod yX7_copyFrom ∈ wsL_law := List.mem_of_getElem? (i := 161) rfl
set_option maxRecDepth 20000 in
theorem wq_162 : Cond.selects RX7 yX7_copyFrom yX7_copyFrom ∈ wsL_law := List.mem_of_getElem? (i := 162) rfl
set_option maxRecDepth 20000 in
theorem wq_163 : Cond.code yX7_copyFrom cX7_copyFrom 2 none ∈ wsL_law := List.mem_of_getElem? (i := 163) rfl
set_option maxRecDepth 20000 in
theorem wq_164 : Cond.instanceMethod yX6_copyFrom ∈ wsL_law := List.mem_of_getElem? (i := 164) rfl
set_option maxRecDepth 20000 in
theorem wq_165 : Cond.selects RX6 yX6_copyFrom yX6_copyFrom ∈ wsL_law := List.mem_of_getElem? (i := 165) rfl
set_option maxRecDepth 20000 in
theorem wq_166 : Cond.code yX6_copyFrom cX6_copyFrom 2 none ∈ wsL_law := List.mem_of_getElem? (i := 166) rfl
set_option maxRecDepth 20000 in
theorem wq_167 : Cond.static yX8_copyAll ∈ wsL_law := List.mem_of_getElem? (i := 167) rfl
set_option maxRecDepth 20000 in
theorem wq_168 : Cond.code yX8_copyAll cX8_copyAll 2 none ∈ wsL_law := List.mem_of_getElem? (i := 168) rfl
set_option maxRecDepth 20000 in
theorem wq_169 : Cond.methodLink RX8 200 Lib.Math.min.name ∈ wsL_law := List.mem_of_getElem? (i := 169) rfl
set_option maxRecDepth 20000 in
theorem wq_170 : Cond.methodLink RX8 203 arraycopyName ∈ wsL_law := List.mem_of_getElem? (i := 170) rfl
set_option maxRecDepth 20000 in
theorem wq_171 : Cond.native arraycopyName ∈ wsL_law := List.mem_of_getElem? (i := 171) rfl
set_option maxRecDepth 20000 in
theorem wq_172 : Cond.static arraycopyName ∈ wsL_law := List.mem_of_getElem? (i := 172) rfl
set_option maxRecDepth 20000 in
theorem wq_173 : Cond.initialized "java/lang/System" ∈ wsL_law := List.mem_of_getElem? (i := 173) rfl
set_option maxRecDepth 20000 in
theorem wq_174 : Cond.instanceMethod yX7_takeSaying ∈ wsL_law := List.mem_of_getElem? (i := 174) rfl
set_option maxRecDepth 20000 in
theorem wq_175 : Cond.selects RX7 yX7_takeSaying yX7_takeSaying ∈ wsL_law := List.mem_of_getElem? (i := 175) rfl
set_option maxRecDepth 20000 in
theorem wq_176 : Cond.code yX7_takeSaying cX7_takeSaying 5 (some .int) ∈ wsL_law := List.mem_of_getElem? (i := 176) rfl
set_option maxRecDepth 20000 in
theorem wq_177 : Cond.instanceMethod yX6_add ∈ wsL_law := List.mem_of_getElem? (i := 177) rfl
set_option maxRecDepth 20000 in
theorem wq_178 : Cond.selects RX6 yX6_add yX6_add ∈ wsL_law := List.mem_of_getElem? (i := 178) rfl
set_option maxRecDepth 20000 in
theorem wq_179 : Cond.code yX6_add cX6_add 4 (some .int) ∈ wsL_law := List.mem_of_getElem? (i := 179) rfl
set_option maxRecDepth 20000 in
theorem wq_180 : Cond.instanceMethod yX5_at ∈ wsL_law := List.mem_of_getElem? (i := 180) rfl
set_option maxRecDepth 20000 in
theorem wq_181 : Cond.selects RX5 yX5_at yX5_at ∈ wsL_law := List.mem_of_getElem? (i := 181) rfl
set_option maxRecDepth 20000 in
theorem wq_182 : Cond.code yX5_at cX5_at 2 (some .int) ∈ wsL_law := List.mem_of_getElem? (i := 182) rfl
set_option maxRecDepth 20000 in
theorem wq_183 : Cond.instanceMethod yX6_has ∈ wsL_law := List.mem_of_getElem? (i := 183) rfl
set_option maxRecDepth 20000 in
theorem wq_184 : Cond.selects RX6 yX6_has yX6_has ∈ wsL_law := List.mem_of_getElem? (i := 184) rfl
set_option maxRecDepth 20000 in
theorem wq_185 : Cond.code yX6_has cX6_has 2 (some .boolean) ∈ wsL_law := List.mem_of_getElem? (i := 185) rfl
set_option maxRecDepth 20000 in
theorem wq_186 : Cond.methodLink RL 27 yX9_addSaying ∈ wsL_law := List.mem_of_getElem? (i := 186) rfl
set_option maxRecDepth 20000 in
theorem wq_187 : Cond.instanceMethod yX9_addSaying ∈ wsL_law := List.mem_of_getElem? (i := 187) rfl
set_option maxRecDepth 20000 in
theorem wq_188 : Cond.selects RX9 yX9_addSaying yX9_addSaying ∈ wsL_law := List.mem_of_getElem? (i := 188) rfl
set_option maxRecDepth 20000 in
theorem wq_189 : Cond.code yX9_addSaying cX9_addSaying 6 (some .int) ∈ wsL_law := List.mem_of_getElem? (i := 189) rfl
set_option maxRecDepth 20000 in
theorem wq_190 : Cond.constantLong RX9 59 (-3000) ∈ wsL_law := List.mem_of_getElem? (i := 190) rfl
set_option maxRecDepth 20000 in
theorem wq_191 : Cond.constantLong RX9 61 (2100) ∈ wsL_law := List.mem_of_getElem? (i := 191) rfl
set_option maxRecDepth 20000 in
theorem wq_192 : Cond.constantLong RX9 63 (9) ∈ wsL_law := List.mem_of_getElem? (i := 192) rfl
set_option maxRecDepth 20000 in
theorem wq_193 : Cond.methodLink RX9 65 yX9_keeps ∈ wsL_law := List.mem_of_getElem? (i := 193) rfl
set_option maxRecDepth 20000 in
theorem wq_194 : Cond.instanceMethod yX9_keeps ∈ wsL_law := List.mem_of_getElem? (i := 194) rfl
set_option maxRecDepth 20000 in
theorem wq_195 : Cond.selects RX9 yX9_keeps yX9_keeps ∈ wsL_law := List.mem_of_getElem? (i := 195) rfl
set_option maxRecDepth 20000 in
theorem wq_196 : Cond.code yX9_keeps cX9_keeps 2 none ∈ wsL_law := List.mem_of_getElem? (i := 196) rfl
set_option maxRecDepth 20000 in
theorem wq_197 : Cond.fieldLink RX9 46 "ProverbCollectionModel" "undoMany" "I" ∈ wsL_law := List.mem_of_getElem? (i := 197) rfl
set_option maxRecDepth 20000 in
theorem wq_198 : Cond.methodLink RL 28 yX8_removeSaying ∈ wsL_law := List.mem_of_getElem? (i := 198) rfl
set_option maxRecDepth 20000 in
theorem wq_199 : Cond.instanceMethod yX8_removeSaying ∈ wsL_law := List.mem_of_getElem? (i := 199) rfl
set_option maxRecDepth 20000 in
theorem wq_200 : Cond.selects RX8 yX8_removeSaying yX8_removeSaying ∈ wsL_law := List.mem_of_getElem? (i := 200) rfl
set_option maxRecDepth 20000 in
theorem wq_201 : Cond.code yX8_removeSaying cX8_removeSaying 2 (some .int) ∈ wsL_law := List.mem_of_getElem? (i := 201) rfl
set_option maxRecDepth 20000 in
theorem wq_202 : Cond.instanceMethod yX7_dropSaying ∈ wsL_law := List.mem_of_getElem? (i := 202) rfl
set_option maxRecDepth 20000 in
theorem wq_203 : Cond.selects RX7 yX7_dropSaying yX7_dropSaying ∈ wsL_law := List.mem_of_getElem? (i := 203) rfl
set_option maxRecDepth 20000 in
theorem wq_204 : Cond.code yX7_dropSaying cX7_dropSaying 2 none ∈ wsL_law := List.mem_of_getElem? (i := 204) rfl
set_option maxRecDepth 20000 in
theorem wq_205 : Cond.instanceMethod yX6_drop ∈ wsL_law := List.mem_of_getElem? (i := 205) rfl
set_option maxRecDepth 20000 in
theorem wq_206 : Cond.selects RX6 yX6_drop yX6_drop ∈ wsL_law := List.mem_of_getElem? (i := 206) rfl
set_option maxRecDepth 20000 in
theorem wq_207 : Cond.code yX6_drop cX6_drop 2 none ∈ wsL_law := List.mem_of_getElem? (i := 207) rfl
set_option maxRecDepth 20000 in
theorem wq_208 : Cond.methodLink RX6 25 yX6_has ∈ wsL_law := List.mem_of_getElem? (i := 208) rfl
set_option maxRecDepth 20000 in
theorem wq_209 : Cond.static yX8_closeUp ∈ wsL_law := List.mem_of_getElem? (i := 209) rfl
set_option maxRecDepth 20000 in
theorem wq_210 : Cond.code yX8_closeUp cX8_closeUp 4 none ∈ wsL_law := List.mem_of_getElem? (i := 210) rfl
set_option maxRecDepth 20000 in
theorem wq_211 : Cond.methodLink RL 31 yX9_removeSaying ∈ wsL_law := List.mem_of_getElem? (i := 211) rfl
set_option maxRecDepth 20000 in
theorem wq_212 : Cond.instanceMethod yX9_removeSaying ∈ wsL_law := List.mem_of_getElem? (i := 212) rfl
set_option maxRecDepth 20000 in
theorem wq_213 : Cond.selects RX9 yX9_removeSaying yX9_removeSaying ∈ wsL_law := List.mem_of_getElem? (i := 213) rfl
set_option maxRecDepth 20000 in
theorem wq_214 : Cond.code yX9_removeSaying cX9_removeSaying 4 (some .int) ∈ wsL_law := List.mem_of_getElem? (i := 214) rfl
set_option maxRecDepth 20000 in
theorem wq_215 : Cond.methodLink RX9 68 yX9_isSaying ∈ wsL_law := List.mem_of_getElem? (i := 215) rfl
set_option maxRecDepth 20000 in
theorem wq_216 : Cond.instanceMethod yX9_isSaying ∈ wsL_law := List.mem_of_getElem? (i := 216) rfl
set_option maxRecDepth 20000 in
theorem wq_217 : Cond.selects RX9 yX9_isSaying yX9_isSaying ∈ wsL_law := List.mem_of_getElem? (i := 217) rfl
set_option maxRecDepth 20000 in
theorem wq_218 : Cond.code yX9_isSaying cX9_isSaying 2 (some .boolean) ∈ wsL_law := List.mem_of_getElem? (i := 218) rfl
set_option maxRecDepth 20000 in
theorem wq_219 : Cond.methodLink RL 32 yX8_sayingCount ∈ wsL_law := List.mem_of_getElem? (i := 219) rfl
set_option maxRecDepth 20000 in
theorem wq_220 : Cond.instanceMethod yX8_sayingCount ∈ wsL_law := List.mem_of_getElem? (i := 220) rfl
set_option maxRecDepth 20000 in
theorem wq_221 : Cond.selects RX8 yX8_sayingCount yX8_sayingCount ∈ wsL_law := List.mem_of_getElem? (i := 221) rfl
set_option maxRecDepth 20000 in
theorem wq_222 : Cond.code yX8_sayingCount cX8_sayingCount 1 (some .int) ∈ wsL_law := List.mem_of_getElem? (i := 222) rfl
set_option maxRecDepth 20000 in
theorem wq_223 : Cond.methodLink RL 35 yX9_sayingCount ∈ wsL_law := List.mem_of_getElem? (i := 223) rfl
set_option maxRecDepth 20000 in
theorem wq_224 : Cond.instanceMethod yX9_sayingCount ∈ wsL_law := List.mem_of_getElem? (i := 224) rfl
set_option maxRecDepth 20000 in
theorem wq_225 : Cond.selects RX9 yX9_sayingCount yX9_sayingCount ∈ wsL_law := List.mem_of_getElem? (i := 225) rfl
set_option maxRecDepth 20000 in
theorem wq_226 : Cond.code yX9_sayingCount cX9_sayingCount 1 (some .int) ∈ wsL_law := List.mem_of_getElem? (i := 226) rfl
set_option maxRecDepth 20000 in
theorem wq_227 : Cond.methodLink RL 36 yX8_lengthOf ∈ wsL_law := List.mem_of_getElem? (i := 227) rfl
set_option maxRecDepth 20000 in
theorem wq_228 : Cond.instanceMethod yX8_lengthOf ∈ wsL_law := List.mem_of_getElem? (i := 228) rfl
set_option maxRecDepth 20000 in
theorem wq_229 : Cond.selects RX8 yX8_lengthOf yX8_lengthOf ∈ wsL_law := List.mem_of_getElem? (i := 229) rfl
set_option maxRecDepth 20000 in
theorem wq_230 : Cond.code yX8_lengthOf cX8_lengthOf 2 (some .int) ∈ wsL_law := List.mem_of_getElem? (i := 230) rfl
set_option maxRecDepth 20000 in
theorem wq_231 : Cond.instanceMethod yX6_size ∈ wsL_law := List.mem_of_getElem? (i := 231) rfl
set_option maxRecDepth 20000 in
theorem wq_232 : Cond.selects RX6 yX6_size yX6_size ∈ wsL_law := List.mem_of_getElem? (i := 232) rfl
set_option maxRecDepth 20000 in
theorem wq_233 : Cond.code yX6_size cX6_size 2 (some .int) ∈ wsL_law := List.mem_of_getElem? (i := 233) rfl
set_option maxRecDepth 20000 in
theorem wq_234 : Cond.methodLink RL 39 yX9_lengthOf ∈ wsL_law := List.mem_of_getElem? (i := 234) rfl
set_option maxRecDepth 20000 in
theorem wq_235 : Cond.instanceMethod yX9_lengthOf ∈ wsL_law := List.mem_of_getElem? (i := 235) rfl
set_option maxRecDepth 20000 in
theorem wq_236 : Cond.selects RX9 yX9_lengthOf yX9_lengthOf ∈ wsL_law := List.mem_of_getElem? (i := 236) rfl
set_option maxRecDepth 20000 in
theorem wq_237 : Cond.code yX9_lengthOf cX9_lengthOf 2 (some .int) ∈ wsL_law := List.mem_of_getElem? (i := 237) rfl
set_option maxRecDepth 20000 in
theorem wq_238 : Cond.methodLink RL 40 yX8_wordAt ∈ wsL_law := List.mem_of_getElem? (i := 238) rfl
set_option maxRecDepth 20000 in
theorem wq_239 : Cond.instanceMethod yX8_wordAt ∈ wsL_law := List.mem_of_getElem? (i := 239) rfl
set_option maxRecDepth 20000 in
theorem wq_240 : Cond.selects RX8 yX8_wordAt yX8_wordAt ∈ wsL_law := List.mem_of_getElem? (i := 240) rfl
set_option maxRecDepth 20000 in
theorem wq_241 : Cond.code yX8_wordAt cX8_wordAt 3 (some .int) ∈ wsL_law := List.mem_of_getElem? (i := 241) rfl
set_option maxRecDepth 20000 in
theorem wq_242 : Cond.instanceMethod yX6_token ∈ wsL_law := List.mem_of_getElem? (i := 242) rfl
set_option maxRecDepth 20000 in
theorem wq_243 : Cond.selects RX6 yX6_token yX6_token ∈ wsL_law := List.mem_of_getElem? (i := 243) rfl
set_option maxRecDepth 20000 in
theorem wq_244 : Cond.code yX6_token cX6_token 3 (some .int) ∈ wsL_law := List.mem_of_getElem? (i := 244) rfl
set_option maxRecDepth 20000 in
theorem wq_245 : Cond.methodLink RL 43 yX9_wordAt ∈ wsL_law := List.mem_of_getElem? (i := 245) rfl
set_option maxRecDepth 20000 in
theorem wq_246 : Cond.instanceMethod yX9_wordAt ∈ wsL_law := List.mem_of_getElem? (i := 246) rfl
set_option maxRecDepth 20000 in
theorem wq_247 : Cond.selects RX9 yX9_wordAt yX9_wordAt ∈ wsL_law := List.mem_of_getElem? (i := 247) rfl
set_option maxRecDepth 20000 in
theorem wq_248 : Cond.code yX9_wordAt cX9_wordAt 3 (some .int) ∈ wsL_law := List.mem_of_getElem? (i := 248) rfl
set_option maxRecDepth 20000 in
theorem wq_249 : Cond.methodLink RL 44 yX8_byAge ∈ wsL_law := List.mem_of_getElem? (i := 249) rfl
set_option maxRecDepth 20000 in
theorem wq_250 : Cond.instanceMethod yX8_byAge ∈ wsL_law := List.mem_of_getElem? (i := 250) rfl
set_option maxRecDepth 20000 in
theorem wq_251 : Cond.selects RX8 yX8_byAge yX8_byAge ∈ wsL_law := List.mem_of_getElem? (i := 251) rfl
set_option maxRecDepth 20000 in
theorem wq_252 : Cond.code yX8_byAge cX8_byAge 2 (some .int) ∈ wsL_law := List.mem_of_getElem? (i := 252) rfl
set_option maxRecDepth 20000 in
theorem wq_253 : Cond.instanceMethod yX7_sortByAge ∈ wsL_law := List.mem_of_getElem? (i := 253) rfl
set_option maxRecDepth 20000 in
theorem wq_254 : Cond.selects RX7 yX7_sortByAge yX7_sortByAge ∈ wsL_law := List.mem_of_getElem? (i := 254) rfl
set_option maxRecDepth 20000 in
theorem wq_255 : Cond.code yX7_sortByAge cX7_sortByAge 4 none ∈ wsL_law := List.mem_of_getElem? (i := 255) rfl
set_option maxRecDepth 20000 in
theorem wq_256 : Cond.methodLink RX7 67 yX7_place ∈ wsL_law := List.mem_of_getElem? (i := 256) rfl
set_option maxRecDepth 20000 in
theorem wq_257 : Cond.instanceMethod yX7_place ∈ wsL_law := List.mem_of_getElem? (i := 257) rfl
set_option maxRecDepth 20000 in
theorem wq_258 : Cond.selects RX7 yX7_place yX7_place ∈ wsL_law := List.mem_of_getElem? (i := 258) rfl
set_option maxRecDepth 20000 in
theorem wq_259 : Cond.code yX7_place cX7_place 4 (some .int) ∈ wsL_law := List.mem_of_getElem? (i := 259) rfl
set_option maxRecDepth 20000 in
theorem wq_260 : Cond.methodLink RX7 63 yX7_isOlder ∈ wsL_law := List.mem_of_getElem? (i := 260) rfl
set_option maxRecDepth 20000 in
theorem wq_261 : Cond.instanceMethod yX7_isOlder ∈ wsL_law := List.mem_of_getElem? (i := 261) rfl
set_option maxRecDepth 20000 in
theorem wq_262 : Cond.selects RX7 yX7_isOlder yX7_isOlder ∈ wsL_law := List.mem_of_getElem? (i := 262) rfl
set_option maxRecDepth 20000 in
theorem wq_263 : Cond.code yX7_isOlder cX7_isOlder 3 (some .boolean) ∈ wsL_law := List.mem_of_getElem? (i := 263) rfl
set_option maxRecDepth 20000 in
theorem wq_264 : Cond.methodLink RL 47 yX9_byAge ∈ wsL_law := List.mem_of_getElem? (i := 264) rfl
set_option maxRecDepth 20000 in
theorem wq_265 : Cond.instanceMethod yX9_byAge ∈ wsL_law := List.mem_of_getElem? (i := 265) rfl
set_option maxRecDepth 20000 in
theorem wq_266 : Cond.selects RX9 yX9_byAge yX9_byAge ∈ wsL_law := List.mem_of_getElem? (i := 266) rfl
set_option maxRecDepth 20000 in
theorem wq_267 : Cond.code yX9_byAge cX9_byAge 2 (some .int) ∈ wsL_law := List.mem_of_getElem? (i := 267) rfl
set_option maxRecDepth 20000 in
theorem wq_268 : Cond.methodLink RX9 76 yX9_atAge ∈ wsL_law := List.mem_of_getElem? (i := 268) rfl
set_option maxRecDepth 20000 in
theorem wq_269 : Cond.instanceMethod yX9_atAge ∈ wsL_law := List.mem_of_getElem? (i := 269) rfl
set_option maxRecDepth 20000 in
theorem wq_270 : Cond.selects RX9 yX9_atAge yX9_atAge ∈ wsL_law := List.mem_of_getElem? (i := 270) rfl
set_option maxRecDepth 20000 in
theorem wq_271 : Cond.code yX9_atAge cX9_atAge 5 (some .int) ∈ wsL_law := List.mem_of_getElem? (i := 271) rfl
set_option maxRecDepth 20000 in
theorem wq_272 : Cond.methodLink RX9 72 yX9_isOlder ∈ wsL_law := List.mem_of_getElem? (i := 272) rfl
set_option maxRecDepth 20000 in
theorem wq_273 : Cond.instanceMethod yX9_isOlder ∈ wsL_law := List.mem_of_getElem? (i := 273) rfl
set_option maxRecDepth 20000 in
theorem wq_274 : Cond.selects RX9 yX9_isOlder yX9_isOlder ∈ wsL_law := List.mem_of_getElem? (i := 274) rfl
set_option maxRecDepth 20000 in
theorem wq_275 : Cond.code yX9_isOlder cX9_isOlder 3 (some .boolean) ∈ wsL_law := List.mem_of_getElem? (i := 275) rfl
set_option maxRecDepth 20000 in
theorem wq_276 : Cond.methodLink RL 48 yX8_setCost ∈ wsL_law := List.mem_of_getElem? (i := 276) rfl
set_option maxRecDepth 20000 in
theorem wq_277 : Cond.instanceMethod yX8_setCost ∈ wsL_law := List.mem_of_getElem? (i := 277) rfl
set_option maxRecDepth 20000 in
theorem wq_278 : Cond.selects RX8 yX8_setCost yX8_setCost ∈ wsL_law := List.mem_of_getElem? (i := 278) rfl
set_option maxRecDepth 20000 in
theorem wq_279 : Cond.code yX8_setCost cX8_setCost 4 (some .int) ∈ wsL_law := List.mem_of_getElem? (i := 279) rfl
set_option maxRecDepth 20000 in
theorem wq_280 : Cond.methodLink RL 51 yX9_setCost ∈ wsL_law := List.mem_of_getElem? (i := 280) rfl
set_option maxRecDepth 20000 in
theorem wq_281 : Cond.instanceMethod yX9_setCost ∈ wsL_law := List.mem_of_getElem? (i := 281) rfl
set_option maxRecDepth 20000 in
theorem wq_282 : Cond.selects RX9 yX9_setCost yX9_setCost ∈ wsL_law := List.mem_of_getElem? (i := 282) rfl
set_option maxRecDepth 20000 in
theorem wq_283 : Cond.code yX9_setCost cX9_setCost 4 (some .int) ∈ wsL_law := List.mem_of_getElem? (i := 283) rfl
set_option maxRecDepth 20000 in
theorem wq_284 : Cond.constantLong RX9 112 (3) ∈ wsL_law := List.mem_of_getElem? (i := 284) rfl
set_option maxRecDepth 20000 in
theorem wq_285 : Cond.methodLink RL 52 yX8_distance ∈ wsL_law := List.mem_of_getElem? (i := 285) rfl
set_option maxRecDepth 20000 in
theorem wq_286 : Cond.instanceMethod yX8_distance ∈ wsL_law := List.mem_of_getElem? (i := 286) rfl
set_option maxRecDepth 20000 in
theorem wq_287 : Cond.selects RX8 yX8_distance yX8_distance ∈ wsL_law := List.mem_of_getElem? (i := 287) rfl
set_option maxRecDepth 20000 in
theorem wq_288 : Cond.code yX8_distance cX8_distance 3 (some .int) ∈ wsL_law := List.mem_of_getElem? (i := 288) rfl
set_option maxRecDepth 20000 in
theorem wq_289 : Cond.methodLink RX8 117 yX8_hasBoth ∈ wsL_law := List.mem_of_getElem? (i := 289) rfl
set_option maxRecDepth 20000 in
theorem wq_290 : Cond.instanceMethod yX8_hasBoth ∈ wsL_law := List.mem_of_getElem? (i := 290) rfl
set_option maxRecDepth 20000 in
theorem wq_291 : Cond.selects RX8 yX8_hasBoth yX8_hasBoth ∈ wsL_law := List.mem_of_getElem? (i := 291) rfl
set_option maxRecDepth 20000 in
theorem wq_292 : Cond.code yX8_hasBoth cX8_hasBoth 3 (some .boolean) ∈ wsL_law := List.mem_of_getElem? (i := 292) rfl
set_option maxRecDepth 20000 in
theorem wq_293 : Cond.instanceMethod yX1_between ∈ wsL_law := List.mem_of_getElem? (i := 293) rfl
set_option maxRecDepth 20000 in
theorem wq_294 : Cond.selects RX1 yX1_between yX1_between ∈ wsL_law := List.mem_of_getElem? (i := 294) rfl
set_option maxRecDepth 20000 in
theorem wq_295 : Cond.code yX1_between cX1_between 4 (some .int) ∈ wsL_law := List.mem_of_getElem? (i := 295) rfl
set_option maxRecDepth 20000 in
theorem wq_296 : Cond.instanceMethod yX6_load ∈ wsL_law := List.mem_of_getElem? (i := 296) rfl
set_option maxRecDepth 20000 in
theorem wq_297 : Cond.selects RX6 yX6_load yX6_load ∈ wsL_law := List.mem_of_getElem? (i := 297) rfl
set_option maxRecDepth 20000 in
theorem wq_298 : Cond.code yX6_load cX6_load 4 none ∈ wsL_law := List.mem_of_getElem? (i := 298) rfl
set_option maxRecDepth 20000 in
theorem wq_299 : Cond.methodLink RX6 42 yX6_size ∈ wsL_law := List.mem_of_getElem? (i := 299) rfl
set_option maxRecDepth 20000 in
theorem wq_300 : Cond.methodLink RX6 45 yX6_token ∈ wsL_law := List.mem_of_getElem? (i := 300) rfl
set_option maxRecDepth 20000 in
theorem wq_301 : Cond.methodLink RX1 45 yX1_measure ∈ wsL_law := List.mem_of_getElem? (i := 301) rfl
set_option maxRecDepth 20000 in
theorem wq_302 : Cond.instanceMethod yX1_measure ∈ wsL_law := List.mem_of_getElem? (i := 302) rfl
set_option maxRecDepth 20000 in
theorem wq_303 : Cond.selects RX1 yX1_measure yX1_measure ∈ wsL_law := List.mem_of_getElem? (i := 303) rfl
set_option maxRecDepth 20000 in
theorem wq_304 : Cond.code yX1_measure cX1_measure 6 (some .int) ∈ wsL_law := List.mem_of_getElem? (i := 304) rfl
set_option maxRecDepth 20000 in
theorem wq_305 : Cond.constant RX1 53 (1000000) ∈ wsL_law := List.mem_of_getElem? (i := 305) rfl
set_option maxRecDepth 20000 in
theorem wq_306 : Cond.methodLink RX1 58 Lib.Math.min.name ∈ wsL_law := List.mem_of_getElem? (i := 306) rfl
set_option maxRecDepth 20000 in
theorem wq_307 : Cond.methodLink RX1 54 yX1_by ∈ wsL_law := List.mem_of_getElem? (i := 307) rfl
set_option maxRecDepth 20000 in
theorem wq_308 : Cond.instanceMethod yX1_by ∈ wsL_law := List.mem_of_getElem? (i := 308) rfl
set_option maxRecDepth 20000 in
theorem wq_309 : Cond.selects RX1 yX1_by yX1_by ∈ wsL_law := List.mem_of_getElem? (i := 309) rfl
set_option maxRecDepth 20000 in
theorem wq_310 : Cond.code yX1_by cX1_by 5 (some .int) ∈ wsL_law := List.mem_of_getElem? (i := 310) rfl
set_option maxRecDepth 20000 in
theorem wq_311 : Cond.methodLink RX1 64 yX1_replacing ∈ wsL_law := List.mem_of_getElem? (i := 311) rfl
set_option maxRecDepth 20000 in
theorem wq_312 : Cond.instanceMethod yX1_replacing ∈ wsL_law := List.mem_of_getElem? (i := 312) rfl
set_option maxRecDepth 20000 in
theorem wq_313 : Cond.selects RX1 yX1_replacing yX1_replacing ∈ wsL_law := List.mem_of_getElem? (i := 313) rfl
set_option maxRecDepth 20000 in
theorem wq_314 : Cond.code yX1_replacing cX1_replacing 7 (some .int) ∈ wsL_law := List.mem_of_getElem? (i := 314) rfl
set_option maxRecDepth 20000 in
theorem wq_315 : Cond.methodLink RX1 68 yX1_swaps ∈ wsL_law := List.mem_of_getElem? (i := 315) rfl
set_option maxRecDepth 20000 in
theorem wq_316 : Cond.instanceMethod yX1_swaps ∈ wsL_law := List.mem_of_getElem? (i := 316) rfl
set_option maxRecDepth 20000 in
theorem wq_317 : Cond.selects RX1 yX1_swaps yX1_swaps ∈ wsL_law := List.mem_of_getElem? (i := 317) rfl
set_option maxRecDepth 20000 in
theorem wq_318 : Cond.code yX1_swaps cX1_swaps 3 (some .boolean) ∈ wsL_law := List.mem_of_getElem? (i := 318) rfl
set_option maxRecDepth 20000 in
theorem wq_319 : Cond.methodLink RL 55 yX9_distance ∈ wsL_law := List.mem_of_getElem? (i := 319) rfl
set_option maxRecDepth 20000 in
theorem wq_320 : Cond.instanceMethod yX9_distance ∈ wsL_law := List.mem_of_getElem? (i := 320) rfl
set_option maxRecDepth 20000 in
theorem wq_321 : Cond.selects RX9 yX9_distance yX9_distance ∈ wsL_law := List.mem_of_getElem? (i := 321) rfl
set_option maxRecDepth 20000 in
theorem wq_322 : Cond.code yX9_distance cX9_distance 3 (some .int) ∈ wsL_law := List.mem_of_getElem? (i := 322) rfl
set_option maxRecDepth 20000 in
theorem wq_323 : Cond.methodLink RX9 114 yX9_distanceOf ∈ wsL_law := List.mem_of_getElem? (i := 323) rfl
set_option maxRecDepth 20000 in
theorem wq_324 : Cond.instanceMethod yX9_distanceOf ∈ wsL_law := List.mem_of_getElem? (i := 324) rfl
set_option maxRecDepth 20000 in
theorem wq_325 : Cond.selects RX9 yX9_distanceOf yX9_distanceOf ∈ wsL_law := List.mem_of_getElem? (i := 325) rfl
set_option maxRecDepth 20000 in
theorem wq_326 : Cond.code yX9_distanceOf cX9_distanceOf 3 (some .int) ∈ wsL_law := List.mem_of_getElem? (i := 326) rfl
set_option maxRecDepth 20000 in
theorem wq_327 : Cond.methodLink RX9 101 yX9_takesOne ∈ wsL_law := List.mem_of_getElem? (i := 327) rfl
set_option maxRecDepth 20000 in
theorem wq_328 : Cond.instanceMethod yX9_takesOne ∈ wsL_law := List.mem_of_getElem? (i := 328) rfl
set_option maxRecDepth 20000 in
theorem wq_329 : Cond.selects RX9 yX9_takesOne yX9_takesOne ∈ wsL_law := List.mem_of_getElem? (i := 329) rfl
set_option maxRecDepth 20000 in
theorem wq_330 : Cond.code yX9_takesOne cX9_takesOne 3 none ∈ wsL_law := List.mem_of_getElem? (i := 330) rfl
set_option maxRecDepth 20000 in
theorem wq_331 : Cond.fieldLink RX9 80 "ProverbCollectionModel" "oneLong" "I" ∈ wsL_law := List.mem_of_getElem? (i := 331) rfl
set_option maxRecDepth 20000 in
theorem wq_332 : Cond.methodLink RX9 105 yX9_takesOther ∈ wsL_law := List.mem_of_getElem? (i := 332) rfl
set_option maxRecDepth 20000 in
theorem wq_333 : Cond.instanceMethod yX9_takesOther ∈ wsL_law := List.mem_of_getElem? (i := 333) rfl
set_option maxRecDepth 20000 in
theorem wq_334 : Cond.selects RX9 yX9_takesOther yX9_takesOther ∈ wsL_law := List.mem_of_getElem? (i := 334) rfl
set_option maxRecDepth 20000 in
theorem wq_335 : Cond.code yX9_takesOther cX9_takesOther 3 none ∈ wsL_law := List.mem_of_getElem? (i := 335) rfl
set_option maxRecDepth 20000 in
theorem wq_336 : Cond.fieldLink RX9 83 "ProverbCollectionModel" "otherLong" "I" ∈ wsL_law := List.mem_of_getElem? (i := 336) rfl
set_option maxRecDepth 20000 in
theorem wq_337 : Cond.methodLink RX9 108 yX9_lays ∈ wsL_law := List.mem_of_getElem? (i := 337) rfl
set_option maxRecDepth 20000 in
theorem wq_338 : Cond.instanceMethod yX9_lays ∈ wsL_law := List.mem_of_getElem? (i := 338) rfl
set_option maxRecDepth 20000 in
theorem wq_339 : Cond.selects RX9 yX9_lays yX9_lays ∈ wsL_law := List.mem_of_getElem? (i := 339) rfl
set_option maxRecDepth 20000 in
theorem wq_340 : Cond.code yX9_lays cX9_lays 5 (some .int) ∈ wsL_law := List.mem_of_getElem? (i := 340) rfl
set_option maxRecDepth 20000 in
theorem wq_341 : Cond.methodLink RX9 93 yX9_isStep ∈ wsL_law := List.mem_of_getElem? (i := 341) rfl
set_option maxRecDepth 20000 in
theorem wq_342 : Cond.instanceMethod yX9_isStep ∈ wsL_law := List.mem_of_getElem? (i := 342) rfl
set_option maxRecDepth 20000 in
theorem wq_343 : Cond.selects RX9 yX9_isStep yX9_isStep ∈ wsL_law := List.mem_of_getElem? (i := 343) rfl
set_option maxRecDepth 20000 in
theorem wq_344 : Cond.code yX9_isStep cX9_isStep 4 (some .boolean) ∈ wsL_law := List.mem_of_getElem? (i := 344) rfl
set_option maxRecDepth 20000 in
theorem wq_345 : Cond.methodLink RX9 90 yX9_isCrossed ∈ wsL_law := List.mem_of_getElem? (i := 345) rfl
set_option maxRecDepth 20000 in
theorem wq_346 : Cond.instanceMethod yX9_isCrossed ∈ wsL_law := List.mem_of_getElem? (i := 346) rfl
set_option maxRecDepth 20000 in
theorem wq_347 : Cond.selects RX9 yX9_isCrossed yX9_isCrossed ∈ wsL_law := List.mem_of_getElem? (i := 347) rfl
set_option maxRecDepth 20000 in
theorem wq_348 : Cond.code yX9_isCrossed cX9_isCrossed 3 (some .boolean) ∈ wsL_law := List.mem_of_getElem? (i := 348) rfl
set_option maxRecDepth 20000 in
theorem wq_349 : Cond.methodLink RX9 97 yX9_by ∈ wsL_law := List.mem_of_getElem? (i := 349) rfl
set_option maxRecDepth 20000 in
theorem wq_350 : Cond.instanceMethod yX9_by ∈ wsL_law := List.mem_of_getElem? (i := 350) rfl
set_option maxRecDepth 20000 in
theorem wq_351 : Cond.selects RX9 yX9_by yX9_by ∈ wsL_law := List.mem_of_getElem? (i := 351) rfl
set_option maxRecDepth 20000 in
theorem wq_352 : Cond.code yX9_by cX9_by 4 (some .int) ∈ wsL_law := List.mem_of_getElem? (i := 352) rfl
set_option maxRecDepth 20000 in
theorem wq_353 : Cond.methodLink RX9 86 yX9_exchange ∈ wsL_law := List.mem_of_getElem? (i := 353) rfl
set_option maxRecDepth 20000 in
theorem wq_354 : Cond.instanceMethod yX9_exchange ∈ wsL_law := List.mem_of_getElem? (i := 354) rfl
set_option maxRecDepth 20000 in
theorem wq_355 : Cond.selects RX9 yX9_exchange yX9_exchange ∈ wsL_law := List.mem_of_getElem? (i := 355) rfl
set_option maxRecDepth 20000 in
theorem wq_356 : Cond.code yX9_exchange cX9_exchange 3 (some .int) ∈ wsL_law := List.mem_of_getElem? (i := 356) rfl
set_option maxRecDepth 20000 in
theorem wq_357 : Cond.methodLink RL 56 yX8_similarityBits ∈ wsL_law := List.mem_of_getElem? (i := 357) rfl
set_option maxRecDepth 20000 in
theorem wq_358 : Cond.instanceMethod yX8_similarityBits ∈ wsL_law := List.mem_of_getElem? (i := 358) rfl
set_option maxRecDepth 20000 in
theorem wq_359 : Cond.selects RX8 yX8_similarityBits yX8_similarityBits ∈ wsL_law := List.mem_of_getElem? (i := 359) rfl
set_option maxRecDepth 20000 in
theorem wq_360 : Cond.code yX8_similarityBits cX8_similarityBits 6 (some .int) ∈ wsL_law := List.mem_of_getElem? (i := 360) rfl
set_option maxRecDepth 20000 in
theorem wq_361 : Cond.methodLink RX8 125 Lib.Math.max.name ∈ wsL_law := List.mem_of_getElem? (i := 361) rfl
set_option maxRecDepth 20000 in
theorem wq_362 : Cond.static Lib.Math.max.name ∈ wsL_law := List.mem_of_getElem? (i := 362) rfl
set_option maxRecDepth 20000 in
theorem wq_363 : Cond.code Lib.Math.max.name Lib.Math.max.code 2 (some .int) ∈ wsL_law := List.mem_of_getElem? (i := 363) rfl
set_option maxRecDepth 20000 in
theorem wq_364 : Cond.methodLink RX8 130 yX8_bitsOf ∈ wsL_law := List.mem_of_getElem? (i := 364) rfl
set_option maxRecDepth 20000 in
theorem wq_365 : Cond.static yX8_bitsOf ∈ wsL_law := List.mem_of_getElem? (i := 365) rfl
set_option maxRecDepth 20000 in
theorem wq_366 : Cond.code yX8_bitsOf cX8_bitsOf 3 (some .int) ∈ wsL_law := List.mem_of_getElem? (i := 366) rfl
set_option maxRecDepth 20000 in
theorem wq_367 : Cond.constantFloat RX8 199 (1258291200) ∈ wsL_law := List.mem_of_getElem? (i := 367) rfl
set_option maxRecDepth 20000 in
theorem wq_368 : Cond.methodLink RL 59 yX9_similarityBits ∈ wsL_law := List.mem_of_getElem? (i := 368) rfl
set_option maxRecDepth 20000 in
theorem wq_369 : Cond.instanceMethod yX9_similarityBits ∈ wsL_law := List.mem_of_getElem? (i := 369) rfl
set_option maxRecDepth 20000 in
theorem wq_370 : Cond.selects RX9 yX9_similarityBits yX9_similarityBits ∈ wsL_law := List.mem_of_getElem? (i := 370) rfl
set_option maxRecDepth 20000 in
theorem wq_371 : Cond.code yX9_similarityBits cX9_similarityBits 4 (some .int) ∈ wsL_law := List.mem_of_getElem? (i := 371) rfl
set_option maxRecDepth 20000 in
theorem wq_372 : Cond.methodLink RX9 117 yJxf58ca_floatToIntBits_5c35a ∈ wsL_law := List.mem_of_getElem? (i := 372) rfl
set_option maxRecDepth 20000 in
theorem wq_373 : Cond.static yJxf58ca_floatToIntBits_5c35a ∈ wsL_law := List.mem_of_getElem? (i := 373) rfl
set_option maxRecDepth 20000 in
theorem wq_374 : Cond.initialized RJxf58ca ∈ wsL_law := List.mem_of_getElem? (i := 374) rfl
set_option maxRecDepth 20000 in
theorem wq_375 : Cond.code yJxf58ca_floatToIntBits_5c35a cJxf58ca_floatToIntBits_5c35a 1 (some .int) ∈ wsL_law := List.mem_of_getElem? (i := 375) rfl
set_option maxRecDepth 20000 in
theorem wq_376 : Cond.methodLink RJxf58ca 74 ⟨"java/lang/Float", "floatToRawIntBits", "(F)I"⟩ ∈ wsL_law := List.mem_of_getElem? (i := 376) rfl
set_option maxRecDepth 20000 in
theorem wq_377 : Cond.native ⟨"java/lang/Float", "floatToRawIntBits", "(F)I"⟩ ∈ wsL_law := List.mem_of_getElem? (i := 377) rfl
set_option maxRecDepth 20000 in
theorem wq_378 : Cond.static ⟨"java/lang/Float", "floatToRawIntBits", "(F)I"⟩ ∈ wsL_law := List.mem_of_getElem? (i := 378) rfl
set_option maxRecDepth 20000 in
theorem wq_379 : Cond.initialized "java/lang/Float" ∈ wsL_law := List.mem_of_getElem? (i := 379) rfl
set_option maxRecDepth 20000 in
theorem wq_380 : Cond.constant RJxf58ca 77 (2143289344) ∈ wsL_law := List.mem_of_getElem? (i := 380) rfl
set_option maxRecDepth 20000 in
theorem wq_381 : Cond.methodLink RJxf58ca 59 yJxf58ca_isNaN_12338 ∈ wsL_law := List.mem_of_getElem? (i := 381) rfl
set_option maxRecDepth 20000 in
theorem wq_382 : Cond.static yJxf58ca_isNaN_12338 ∈ wsL_law := List.mem_of_getElem? (i := 382) rfl
set_option maxRecDepth 20000 in
theorem wq_383 : Cond.code yJxf58ca_isNaN_12338 cJxf58ca_isNaN_12338 1 (some .boolean) ∈ wsL_law := List.mem_of_getElem? (i := 383) rfl
set_option maxRecDepth 20000 in
theorem wq_384 : Cond.methodLink RL 60 yX8_editCount ∈ wsL_law := List.mem_of_getElem? (i := 384) rfl
set_option maxRecDepth 20000 in
theorem wq_385 : Cond.instanceMethod yX8_editCount ∈ wsL_law := List.mem_of_getElem? (i := 385) rfl
set_option maxRecDepth 20000 in
theorem wq_386 : Cond.selects RX8 yX8_editCount yX8_editCount ∈ wsL_law := List.mem_of_getElem? (i := 386) rfl
set_option maxRecDepth 20000 in
theorem wq_387 : Cond.code yX8_editCount cX8_editCount 3 (some .int) ∈ wsL_law := List.mem_of_getElem? (i := 387) rfl
set_option maxRecDepth 20000 in
theorem wq_388 : Cond.instanceMethod yX1_trace ∈ wsL_law := List.mem_of_getElem? (i := 388) rfl
set_option maxRecDepth 20000 in
theorem wq_389 : Cond.selects RX1 yX1_trace yX1_trace ∈ wsL_law := List.mem_of_getElem? (i := 389) rfl
set_option maxRecDepth 20000 in
theorem wq_390 : Cond.code yX1_trace cX1_trace 7 none ∈ wsL_law := List.mem_of_getElem? (i := 390) rfl
set_option maxRecDepth 20000 in
theorem wq_391 : Cond.fieldLink RX1 76 "ProverbCollection$Edits" "listed" "I" ∈ wsL_law := List.mem_of_getElem? (i := 391) rfl
set_option maxRecDepth 20000 in
theorem wq_392 : Cond.methodLink RX1 79 yX1_lastStep ∈ wsL_law := List.mem_of_getElem? (i := 392) rfl
set_option maxRecDepth 20000 in
theorem wq_393 : Cond.instanceMethod yX1_lastStep ∈ wsL_law := List.mem_of_getElem? (i := 393) rfl
set_option maxRecDepth 20000 in
theorem wq_394 : Cond.selects RX1 yX1_lastStep yX1_lastStep ∈ wsL_law := List.mem_of_getElem? (i := 394) rfl
set_option maxRecDepth 20000 in
theorem wq_395 : Cond.code yX1_lastStep cX1_lastStep 6 (some .int) ∈ wsL_law := List.mem_of_getElem? (i := 395) rfl
set_option maxRecDepth 20000 in
theorem wq_396 : Cond.methodLink RL 63 yX9_editCount ∈ wsL_law := List.mem_of_getElem? (i := 396) rfl
set_option maxRecDepth 20000 in
theorem wq_397 : Cond.instanceMethod yX9_editCount ∈ wsL_law := List.mem_of_getElem? (i := 397) rfl
set_option maxRecDepth 20000 in
theorem wq_398 : Cond.selects RX9 yX9_editCount yX9_editCount ∈ wsL_law := List.mem_of_getElem? (i := 398) rfl
set_option maxRecDepth 20000 in
theorem wq_399 : Cond.code yX9_editCount cX9_editCount 3 (some .int) ∈ wsL_law := List.mem_of_getElem? (i := 399) rfl
set_option maxRecDepth 20000 in
theorem wq_400 : Cond.fieldLink RX9 123 "ProverbCollectionModel" "edits" "I" ∈ wsL_law := List.mem_of_getElem? (i := 400) rfl
set_option maxRecDepth 20000 in
theorem wq_401 : Cond.methodLink RX9 126 yX9_findsEdits ∈ wsL_law := List.mem_of_getElem? (i := 401) rfl
set_option maxRecDepth 20000 in
theorem wq_402 : Cond.instanceMethod yX9_findsEdits ∈ wsL_law := List.mem_of_getElem? (i := 402) rfl
set_option maxRecDepth 20000 in
theorem wq_403 : Cond.selects RX9 yX9_findsEdits yX9_findsEdits ∈ wsL_law := List.mem_of_getElem? (i := 403) rfl
set_option maxRecDepth 20000 in
theorem wq_404 : Cond.code yX9_findsEdits cX9_findsEdits 7 none ∈ wsL_law := List.mem_of_getElem? (i := 404) rfl
set_option maxRecDepth 20000 in
theorem wq_405 : Cond.methodLink RL 64 yX8_editAt ∈ wsL_law := List.mem_of_getElem? (i := 405) rfl
set_option maxRecDepth 20000 in
theorem wq_406 : Cond.instanceMethod yX8_editAt ∈ wsL_law := List.mem_of_getElem? (i := 406) rfl
set_option maxRecDepth 20000 in
theorem wq_407 : Cond.selects RX8 yX8_editAt yX8_editAt ∈ wsL_law := List.mem_of_getElem? (i := 407) rfl
set_option maxRecDepth 20000 in
theorem wq_408 : Cond.code yX8_editAt cX8_editAt 4 (some .int) ∈ wsL_law := List.mem_of_getElem? (i := 408) rfl
set_option maxRecDepth 20000 in
theorem wq_409 : Cond.instanceMethod yX1_fromBeginning ∈ wsL_law := List.mem_of_getElem? (i := 409) rfl
set_option maxRecDepth 20000 in
theorem wq_410 : Cond.selects RX1 yX1_fromBeginning yX1_fromBeginning ∈ wsL_law := List.mem_of_getElem? (i := 410) rfl
set_option maxRecDepth 20000 in
theorem wq_411 : Cond.code yX1_fromBeginning cX1_fromBeginning 2 (some .int) ∈ wsL_law := List.mem_of_getElem? (i := 411) rfl
set_option maxRecDepth 20000 in
theorem wq_412 : Cond.methodLink RL 68 yX9_editAt ∈ wsL_law := List.mem_of_getElem? (i := 412) rfl
set_option maxRecDepth 20000 in
theorem wq_413 : Cond.instanceMethod yX9_editAt ∈ wsL_law := List.mem_of_getElem? (i := 413) rfl
set_option maxRecDepth 20000 in
theorem wq_414 : Cond.selects RX9 yX9_editAt yX9_editAt ∈ wsL_law := List.mem_of_getElem? (i := 414) rfl
set_option maxRecDepth 20000 in
theorem wq_415 : Cond.code yX9_editAt cX9_editAt 4 (some .int) ∈ wsL_law := List.mem_of_getElem? (i := 415) rfl
set_option maxRecDepth 20000 in
theorem wq_416 : Cond.methodLink RL 69 yX8_nearest ∈ wsL_law := List.mem_of_getElem? (i := 416) rfl
set_option maxRecDepth 20000 in
theorem wq_417 : Cond.instanceMethod yX8_nearest ∈ wsL_law := List.mem_of_getElem? (i := 417) rfl
set_option maxRecDepth 20000 in
theorem wq_418 : Cond.selects RX8 yX8_nearest yX8_nearest ∈ wsL_law := List.mem_of_getElem? (i := 418) rfl
set_option maxRecDepth 20000 in
theorem wq_419 : Cond.code yX8_nearest cX8_nearest 7 (some .int) ∈ wsL_law := List.mem_of_getElem? (i := 419) rfl
set_option maxRecDepth 20000 in
theorem wq_420 : Cond.constant RX8 143 (1000000) ∈ wsL_law := List.mem_of_getElem? (i := 420) rfl
set_option maxRecDepth 20000 in
theorem wq_421 : Cond.methodLink RL 72 yX9_nearest ∈ wsL_law := List.mem_of_getElem? (i := 421) rfl
set_option maxRecDepth 20000 in
theorem wq_422 : Cond.instanceMethod yX9_nearest ∈ wsL_law := List.mem_of_getElem? (i := 422) rfl
set_option maxRecDepth 20000 in
theorem wq_423 : Cond.selects RX9 yX9_nearest yX9_nearest ∈ wsL_law := List.mem_of_getElem? (i := 423) rfl
set_option maxRecDepth 20000 in
theorem wq_424 : Cond.code yX9_nearest cX9_nearest 7 (some .int) ∈ wsL_law := List.mem_of_getElem? (i := 424) rfl
set_option maxRecDepth 20000 in
theorem wq_425 : Cond.methodLink RL 73 yX8_addPattern ∈ wsL_law := List.mem_of_getElem? (i := 425) rfl
set_option maxRecDepth 20000 in
theorem wq_426 : Cond.instanceMethod yX8_addPattern ∈ wsL_law := List.mem_of_getElem? (i := 426) rfl
set_option maxRecDepth 20000 in
theorem wq_427 : Cond.selects RX8 yX8_addPattern yX8_addPattern ∈ wsL_law := List.mem_of_getElem? (i := 427) rfl
set_option maxRecDepth 20000 in
theorem wq_428 : Cond.code yX8_addPattern cX8_addPattern 2 (some .int) ∈ wsL_law := List.mem_of_getElem? (i := 428) rfl
set_option maxRecDepth 20000 in
theorem wq_429 : Cond.methodLink RL 76 yX9_addPattern ∈ wsL_law := List.mem_of_getElem? (i := 429) rfl
set_option maxRecDepth 20000 in
theorem wq_430 : Cond.instanceMethod yX9_addPattern ∈ wsL_law := List.mem_of_getElem? (i := 430) rfl
set_option maxRecDepth 20000 in
theorem wq_431 : Cond.selects RX9 yX9_addPattern yX9_addPattern ∈ wsL_law := List.mem_of_getElem? (i := 431) rfl
set_option maxRecDepth 20000 in
theorem wq_432 : Cond.code yX9_addPattern cX9_addPattern 3 (some .int) ∈ wsL_law := List.mem_of_getElem? (i := 432) rfl
set_option maxRecDepth 20000 in
theorem wq_433 : Cond.methodLink RL 77 yX8_removePattern ∈ wsL_law := List.mem_of_getElem? (i := 433) rfl
set_option maxRecDepth 20000 in
theorem wq_434 : Cond.instanceMethod yX8_removePattern ∈ wsL_law := List.mem_of_getElem? (i := 434) rfl
set_option maxRecDepth 20000 in
theorem wq_435 : Cond.selects RX8 yX8_removePattern yX8_removePattern ∈ wsL_law := List.mem_of_getElem? (i := 435) rfl
set_option maxRecDepth 20000 in
theorem wq_436 : Cond.code yX8_removePattern cX8_removePattern 2 (some .int) ∈ wsL_law := List.mem_of_getElem? (i := 436) rfl
set_option maxRecDepth 20000 in
theorem wq_437 : Cond.methodLink RL 80 yX9_removePattern ∈ wsL_law := List.mem_of_getElem? (i := 437) rfl
set_option maxRecDepth 20000 in
theorem wq_438 : Cond.instanceMethod yX9_removePattern ∈ wsL_law := List.mem_of_getElem? (i := 438) rfl
set_option maxRecDepth 20000 in
theorem wq_439 : Cond.selects RX9 yX9_removePattern yX9_removePattern ∈ wsL_law := List.mem_of_getElem? (i := 439) rfl
set_option maxRecDepth 20000 in
theorem wq_440 : Cond.code yX9_removePattern cX9_removePattern 4 (some .int) ∈ wsL_law := List.mem_of_getElem? (i := 440) rfl
set_option maxRecDepth 20000 in
theorem wq_441 : Cond.methodLink RX9 130 yX9_isPattern ∈ wsL_law := List.mem_of_getElem? (i := 441) rfl
set_option maxRecDepth 20000 in
theorem wq_442 : Cond.instanceMethod yX9_isPattern ∈ wsL_law := List.mem_of_getElem? (i := 442) rfl
set_option maxRecDepth 20000 in
theorem wq_443 : Cond.selects RX9 yX9_isPattern yX9_isPattern ∈ wsL_law := List.mem_of_getElem? (i := 443) rfl
set_option maxRecDepth 20000 in
theorem wq_444 : Cond.code yX9_isPattern cX9_isPattern 2 (some .boolean) ∈ wsL_law := List.mem_of_getElem? (i := 444) rfl
set_option maxRecDepth 20000 in
theorem wq_445 : Cond.methodLink RL 81 yX8_fillings ∈ wsL_law := List.mem_of_getElem? (i := 445) rfl
set_option maxRecDepth 20000 in
theorem wq_446 : Cond.instanceMethod yX8_fillings ∈ wsL_law := List.mem_of_getElem? (i := 446) rfl
set_option maxRecDepth 20000 in
theorem wq_447 : Cond.selects RX8 yX8_fillings yX8_fillings ∈ wsL_law := List.mem_of_getElem? (i := 447) rfl
set_option maxRecDepth 20000 in
theorem wq_448 : Cond.code yX8_fillings cX8_fillings 3 (some .int) ∈ wsL_law := List.mem_of_getElem? (i := 448) rfl
set_option maxRecDepth 20000 in
theorem wq_449 : Cond.instanceMethod yX4_match ∈ wsL_law := List.mem_of_getElem? (i := 449) rfl
set_option maxRecDepth 20000 in
theorem wq_450 : Cond.selects RX4 yX4_match yX4_match ∈ wsL_law := List.mem_of_getElem? (i := 450) rfl
set_option maxRecDepth 20000 in
theorem wq_451 : Cond.code yX4_match cX4_match 5 (some .int) ∈ wsL_law := List.mem_of_getElem? (i := 451) rfl
set_option maxRecDepth 20000 in
theorem wq_452 : Cond.fieldLink RX4 43 "ProverbCollection$Matcher" "found" "I" ∈ wsL_law := List.mem_of_getElem? (i := 452) rfl
set_option maxRecDepth 20000 in
theorem wq_453 : Cond.methodLink RX4 47 yX4_fill ∈ wsL_law := List.mem_of_getElem? (i := 453) rfl
set_option maxRecDepth 20000 in
theorem wq_454 : Cond.instanceMethod yX4_fill ∈ wsL_law := List.mem_of_getElem? (i := 454) rfl
set_option maxRecDepth 20000 in
theorem wq_455 : Cond.selects RX4 yX4_fill yX4_fill ∈ wsL_law := List.mem_of_getElem? (i := 455) rfl
set_option maxRecDepth 20000 in
theorem wq_456 : Cond.code yX4_fill cX4_fill 4 none ∈ wsL_law := List.mem_of_getElem? (i := 456) rfl
set_option maxRecDepth 20000 in
theorem wq_457 : Cond.methodLink RX4 61 yX4_noteFilling ∈ wsL_law := List.mem_of_getElem? (i := 457) rfl
set_option maxRecDepth 20000 in
theorem wq_458 : Cond.instanceMethod yX4_noteFilling ∈ wsL_law := List.mem_of_getElem? (i := 458) rfl
set_option maxRecDepth 20000 in
theorem wq_459 : Cond.selects RX4 yX4_noteFilling yX4_noteFilling ∈ wsL_law := List.mem_of_getElem? (i := 459) rfl
set_option maxRecDepth 20000 in
theorem wq_460 : Cond.code yX4_noteFilling cX4_noteFilling 2 none ∈ wsL_law := List.mem_of_getElem? (i := 460) rfl
set_option maxRecDepth 20000 in
theorem wq_461 : Cond.methodLink RX4 69 yX4_fillOne ∈ wsL_law := List.mem_of_getElem? (i := 461) rfl
set_option maxRecDepth 20000 in
theorem wq_462 : Cond.instanceMethod yX4_fillOne ∈ wsL_law := List.mem_of_getElem? (i := 462) rfl
set_option maxRecDepth 20000 in
theorem wq_463 : Cond.selects RX4 yX4_fillOne yX4_fillOne ∈ wsL_law := List.mem_of_getElem? (i := 463) rfl
set_option maxRecDepth 20000 in
theorem wq_464 : Cond.code yX4_fillOne cX4_fillOne 5 none ∈ wsL_law := List.mem_of_getElem? (i := 464) rfl
set_option maxRecDepth 20000 in
theorem wq_465 : Cond.methodLink RL 84 yX9_fillings ∈ wsL_law := List.mem_of_getElem? (i := 465) rfl
set_option maxRecDepth 20000 in
theorem wq_466 : Cond.instanceMethod yX9_fillings ∈ wsL_law := List.mem_of_getElem? (i := 466) rfl
set_option maxRecDepth 20000 in
theorem wq_467 : Cond.selects RX9 yX9_fillings yX9_fillings ∈ wsL_law := List.mem_of_getElem? (i := 467) rfl
set_option maxRecDepth 20000 in
theorem wq_468 : Cond.code yX9_fillings cX9_fillings 3 (some .int) ∈ wsL_law := List.mem_of_getElem? (i := 468) rfl
set_option maxRecDepth 20000 in
theorem wq_469 : Cond.methodLink RX9 142 yX9_fills ∈ wsL_law := List.mem_of_getElem? (i := 469) rfl
set_option maxRecDepth 20000 in
theorem wq_470 : Cond.instanceMethod yX9_fills ∈ wsL_law := List.mem_of_getElem? (i := 470) rfl
set_option maxRecDepth 20000 in
theorem wq_471 : Cond.selects RX9 yX9_fills yX9_fills ∈ wsL_law := List.mem_of_getElem? (i := 471) rfl
set_option maxRecDepth 20000 in
theorem wq_472 : Cond.code yX9_fills cX9_fills 8 (some .int) ∈ wsL_law := List.mem_of_getElem? (i := 472) rfl
set_option maxRecDepth 20000 in
theorem wq_473 : Cond.methodLink RX9 133 yX9_tokensOf ∈ wsL_law := List.mem_of_getElem? (i := 473) rfl
set_option maxRecDepth 20000 in
theorem wq_474 : Cond.instanceMethod yX9_tokensOf ∈ wsL_law := List.mem_of_getElem? (i := 474) rfl
set_option maxRecDepth 20000 in
theorem wq_475 : Cond.selects RX9 yX9_tokensOf yX9_tokensOf ∈ wsL_law := List.mem_of_getElem? (i := 475) rfl
set_option maxRecDepth 20000 in
theorem wq_476 : Cond.code yX9_tokensOf cX9_tokensOf 6 (some .int) ∈ wsL_law := List.mem_of_getElem? (i := 476) rfl
set_option maxRecDepth 20000 in
theorem wq_477 : Cond.methodLink RX9 136 yX9_isFilled ∈ wsL_law := List.mem_of_getElem? (i := 477) rfl
set_option maxRecDepth 20000 in
theorem wq_478 : Cond.instanceMethod yX9_isFilled ∈ wsL_law := List.mem_of_getElem? (i := 478) rfl
set_option maxRecDepth 20000 in
theorem wq_479 : Cond.selects RX9 yX9_isFilled yX9_isFilled ∈ wsL_law := List.mem_of_getElem? (i := 479) rfl
set_option maxRecDepth 20000 in
theorem wq_480 : Cond.code yX9_isFilled cX9_isFilled 9 (some .boolean) ∈ wsL_law := List.mem_of_getElem? (i := 480) rfl
set_option maxRecDepth 20000 in
theorem wq_481 : Cond.methodLink RX9 139 yX9_goesOn ∈ wsL_law := List.mem_of_getElem? (i := 481) rfl
set_option maxRecDepth 20000 in
theorem wq_482 : Cond.instanceMethod yX9_goesOn ∈ wsL_law := List.mem_of_getElem? (i := 482) rfl
set_option maxRecDepth 20000 in
theorem wq_483 : Cond.selects RX9 yX9_goesOn yX9_goesOn ∈ wsL_law := List.mem_of_getElem? (i := 483) rfl
set_option maxRecDepth 20000 in
theorem wq_484 : Cond.code yX9_goesOn cX9_goesOn 5 (some .boolean) ∈ wsL_law := List.mem_of_getElem? (i := 484) rfl
set_option maxRecDepth 20000 in
theorem wq_485 : Cond.methodLink RL 85 yX8_slotWord ∈ wsL_law := List.mem_of_getElem? (i := 485) rfl
set_option maxRecDepth 20000 in
theorem wq_486 : Cond.instanceMethod yX8_slotWord ∈ wsL_law := List.mem_of_getElem? (i := 486) rfl
set_option maxRecDepth 20000 in
theorem wq_487 : Cond.selects RX8 yX8_slotWord yX8_slotWord ∈ wsL_law := List.mem_of_getElem? (i := 487) rfl
set_option maxRecDepth 20000 in
theorem wq_488 : Cond.code yX8_slotWord cX8_slotWord 5 (some .int) ∈ wsL_law := List.mem_of_getElem? (i := 488) rfl
set_option maxRecDepth 20000 in
theorem wq_489 : Cond.methodLink RL 88 yX9_slotWord ∈ wsL_law := List.mem_of_getElem? (i := 489) rfl
set_option maxRecDepth 20000 in
theorem wq_490 : Cond.instanceMethod yX9_slotWord ∈ wsL_law := List.mem_of_getElem? (i := 490) rfl
set_option maxRecDepth 20000 in
theorem wq_491 : Cond.selects RX9 yX9_slotWord yX9_slotWord ∈ wsL_law := List.mem_of_getElem? (i := 491) rfl
set_option maxRecDepth 20000 in
theorem wq_492 : Cond.code yX9_slotWord cX9_slotWord 5 (some .int) ∈ wsL_law := List.mem_of_getElem? (i := 492) rfl
set_option maxRecDepth 20000 in
theorem wq_493 : Cond.methodLink RL 89 yX8_matchedSayings ∈ wsL_law := List.mem_of_getElem? (i := 493) rfl
set_option maxRecDepth 20000 in
theorem wq_494 : Cond.instanceMethod yX8_matchedSayings ∈ wsL_law := List.mem_of_getElem? (i := 494) rfl
set_option maxRecDepth 20000 in
theorem wq_495 : Cond.selects RX8 yX8_matchedSayings yX8_matchedSayings ∈ wsL_law := List.mem_of_getElem? (i := 495) rfl
set_option maxRecDepth 20000 in
theorem wq_496 : Cond.code yX8_matchedSayings cX8_matchedSayings 4 (some .int) ∈ wsL_law := List.mem_of_getElem? (i := 496) rfl
set_option maxRecDepth 20000 in
theorem wq_497 : Cond.methodLink RL 92 yX9_matchedSayings ∈ wsL_law := List.mem_of_getElem? (i := 497) rfl
set_option maxRecDepth 20000 in
theorem wq_498 : Cond.instanceMethod yX9_matchedSayings ∈ wsL_law := List.mem_of_getElem? (i := 498) rfl
set_option maxRecDepth 20000 in
theorem wq_499 : Cond.selects RX9 yX9_matchedSayings yX9_matchedSayings ∈ wsL_law := List.mem_of_getElem? (i := 499) rfl
set_option maxRecDepth 20000 in
theorem wq_500 : Cond.code yX9_matchedSayings cX9_matchedSayings 4 (some .int) ∈ wsL_law := List.mem_of_getElem? (i := 500) rfl
set_option maxRecDepth 20000 in
theorem wq_501 : Cond.methodLink RL 93 yX8_bestPattern ∈ wsL_law := List.mem_of_getElem? (i := 501) rfl
set_option maxRecDepth 20000 in
theorem wq_502 : Cond.instanceMethod yX8_bestPattern ∈ wsL_law := List.mem_of_getElem? (i := 502) rfl
set_option maxRecDepth 20000 in
theorem wq_503 : Cond.selects RX8 yX8_bestPattern yX8_bestPattern ∈ wsL_law := List.mem_of_getElem? (i := 503) rfl
set_option maxRecDepth 20000 in
theorem wq_504 : Cond.code yX8_bestPattern cX8_bestPattern 6 (some .int) ∈ wsL_law := List.mem_of_getElem? (i := 504) rfl
set_option maxRecDepth 20000 in
theorem wq_505 : Cond.instanceMethod yX4_fit ∈ wsL_law := List.mem_of_getElem? (i := 505) rfl
set_option maxRecDepth 20000 in
theorem wq_506 : Cond.selects RX4 yX4_fit yX4_fit ∈ wsL_law := List.mem_of_getElem? (i := 506) rfl
set_option maxRecDepth 20000 in
theorem wq_507 : Cond.code yX4_fit cX4_fit 1 (some .int) ∈ wsL_law := List.mem_of_getElem? (i := 507) rfl
set_option maxRecDepth 20000 in
theorem wq_508 : Cond.instanceMethod yX5_gapCount ∈ wsL_law := List.mem_of_getElem? (i := 508) rfl
set_option maxRecDepth 20000 in
theorem wq_509 : Cond.selects RX5 yX5_gapCount yX5_gapCount ∈ wsL_law := List.mem_of_getElem? (i := 509) rfl
set_option maxRecDepth 20000 in
theorem wq_510 : Cond.code yX5_gapCount cX5_gapCount 3 (some .int) ∈ wsL_law := List.mem_of_getElem? (i := 510) rfl
set_option maxRecDepth 20000 in
theorem wq_511 : Cond.methodLink RL 96 yX9_bestPattern ∈ wsL_law := List.mem_of_getElem? (i := 511) rfl
set_option maxRecDepth 20000 in
theorem wq_512 : Cond.instanceMethod yX9_bestPattern ∈ wsL_law := List.mem_of_getElem? (i := 512) rfl
set_option maxRecDepth 20000 in
theorem wq_513 : Cond.selects RX9 yX9_bestPattern yX9_bestPattern ∈ wsL_law := List.mem_of_getElem? (i := 513) rfl
set_option maxRecDepth 20000 in
theorem wq_514 : Cond.code yX9_bestPattern cX9_bestPattern 6 (some .int) ∈ wsL_law := List.mem_of_getElem? (i := 514) rfl
set_option maxRecDepth 20000 in
theorem wq_515 : Cond.methodLink RL 97 yX8_setLimit ∈ wsL_law := List.mem_of_getElem? (i := 515) rfl
set_option maxRecDepth 20000 in
theorem wq_516 : Cond.instanceMethod yX8_setLimit ∈ wsL_law := List.mem_of_getElem? (i := 516) rfl
set_option maxRecDepth 20000 in
theorem wq_517 : Cond.selects RX8 yX8_setLimit yX8_setLimit ∈ wsL_law := List.mem_of_getElem? (i := 517) rfl
set_option maxRecDepth 20000 in
theorem wq_518 : Cond.code yX8_setLimit cX8_setLimit 3 (some .int) ∈ wsL_law := List.mem_of_getElem? (i := 518) rfl
set_option maxRecDepth 20000 in
theorem wq_519 : Cond.methodLink RL 100 yX9_setLimit ∈ wsL_law := List.mem_of_getElem? (i := 519) rfl
set_option maxRecDepth 20000 in
theorem wq_520 : Cond.instanceMethod yX9_setLimit ∈ wsL_law := List.mem_of_getElem? (i := 520) rfl
set_option maxRecDepth 20000 in
theorem wq_521 : Cond.selects RX9 yX9_setLimit yX9_setLimit ∈ wsL_law := List.mem_of_getElem? (i := 521) rfl
set_option maxRecDepth 20000 in
theorem wq_522 : Cond.code yX9_setLimit cX9_setLimit 3 (some .int) ∈ wsL_law := List.mem_of_getElem? (i := 522) rfl
set_option maxRecDepth 20000 in
theorem wq_523 : Cond.constantLong RX9 148 (20) ∈ wsL_law := List.mem_of_getElem? (i := 523) rfl
set_option maxRecDepth 20000 in
theorem wq_524 : Cond.methodLink RL 101 yX8_groupCount ∈ wsL_law := List.mem_of_getElem? (i := 524) rfl
set_option maxRecDepth 20000 in
theorem wq_525 : Cond.instanceMethod yX8_groupCount ∈ wsL_law := List.mem_of_getElem? (i := 525) rfl
set_option maxRecDepth 20000 in
theorem wq_526 : Cond.selects RX8 yX8_groupCount yX8_groupCount ∈ wsL_law := List.mem_of_getElem? (i := 526) rfl
set_option maxRecDepth 20000 in
theorem wq_527 : Cond.code yX8_groupCount cX8_groupCount 1 (some .int) ∈ wsL_law := List.mem_of_getElem? (i := 527) rfl
set_option maxRecDepth 20000 in
theorem wq_528 : Cond.instanceMethod yX2_form ∈ wsL_law := List.mem_of_getElem? (i := 528) rfl
set_option maxRecDepth 20000 in
theorem wq_529 : Cond.selects RX2 yX2_form yX2_form ∈ wsL_law := List.mem_of_getElem? (i := 529) rfl
set_option maxRecDepth 20000 in
theorem wq_530 : Cond.code yX2_form cX2_form 7 none ∈ wsL_law := List.mem_of_getElem? (i := 530) rfl
set_option maxRecDepth 20000 in
theorem wq_531 : Cond.fieldLink RX2 21 "ProverbCollection$Groups" "count" "I" ∈ wsL_law := List.mem_of_getElem? (i := 531) rfl
set_option maxRecDepth 20000 in
theorem wq_532 : Cond.methodLink RL 104 yX9_groupCount ∈ wsL_law := List.mem_of_getElem? (i := 532) rfl
set_option maxRecDepth 20000 in
theorem wq_533 : Cond.instanceMethod yX9_groupCount ∈ wsL_law := List.mem_of_getElem? (i := 533) rfl
set_option maxRecDepth 20000 in
theorem wq_534 : Cond.selects RX9 yX9_groupCount yX9_groupCount ∈ wsL_law := List.mem_of_getElem? (i := 534) rfl
set_option maxRecDepth 20000 in
theorem wq_535 : Cond.code yX9_groupCount cX9_groupCount 1 (some .int) ∈ wsL_law := List.mem_of_getElem? (i := 535) rfl
set_option maxRecDepth 20000 in
theorem wq_536 : Cond.fieldLink RX9 145 "ProverbCollectionModel" "groups" "I" ∈ wsL_law := List.mem_of_getElem? (i := 536) rfl
set_option maxRecDepth 20000 in
theorem wq_537 : Cond.methodLink RX9 150 yX9_makesGroups ∈ wsL_law := List.mem_of_getElem? (i := 537) rfl
set_option maxRecDepth 20000 in
theorem wq_538 : Cond.instanceMethod yX9_makesGroups ∈ wsL_law := List.mem_of_getElem? (i := 538) rfl
set_option maxRecDepth 20000 in
theorem wq_539 : Cond.selects RX9 yX9_makesGroups yX9_makesGroups ∈ wsL_law := List.mem_of_getElem? (i := 539) rfl
set_option maxRecDepth 20000 in
theorem wq_540 : Cond.code yX9_makesGroups cX9_makesGroups 5 none ∈ wsL_law := List.mem_of_getElem? (i := 540) rfl
set_option maxRecDepth 20000 in
theorem wq_541 : Cond.methodLink RL 105 yX8_groupOf ∈ wsL_law := List.mem_of_getElem? (i := 541) rfl
set_option maxRecDepth 20000 in
theorem wq_542 : Cond.instanceMethod yX8_groupOf ∈ wsL_law := List.mem_of_getElem? (i := 542) rfl
set_option maxRecDepth 20000 in
theorem wq_543 : Cond.selects RX8 yX8_groupOf yX8_groupOf ∈ wsL_law := List.mem_of_getElem? (i := 543) rfl
set_option maxRecDepth 20000 in
theorem wq_544 : Cond.code yX8_groupOf cX8_groupOf 2 (some .int) ∈ wsL_law := List.mem_of_getElem? (i := 544) rfl
set_option maxRecDepth 20000 in
theorem wq_545 : Cond.methodLink RL 108 yX9_groupOf ∈ wsL_law := List.mem_of_getElem? (i := 545) rfl
set_option maxRecDepth 20000 in
theorem wq_546 : Cond.instanceMethod yX9_groupOf ∈ wsL_law := List.mem_of_getElem? (i := 546) rfl
set_option maxRecDepth 20000 in
theorem wq_547 : Cond.selects RX9 yX9_groupOf yX9_groupOf ∈ wsL_law := List.mem_of_getElem? (i := 547) rfl
set_option maxRecDepth 20000 in
theorem wq_548 : Cond.code yX9_groupOf cX9_groupOf 2 (some .int) ∈ wsL_law := List.mem_of_getElem? (i := 548) rfl
set_option maxRecDepth 20000 in
theorem wq_549 : Cond.methodLink RL 109 yX8_centreOf ∈ wsL_law := List.mem_of_getElem? (i := 549) rfl
set_option maxRecDepth 20000 in
theorem wq_550 : Cond.instanceMethod yX8_centreOf ∈ wsL_law := List.mem_of_getElem? (i := 550) rfl
set_option maxRecDepth 20000 in
theorem wq_551 : Cond.selects RX8 yX8_centreOf yX8_centreOf ∈ wsL_law := List.mem_of_getElem? (i := 551) rfl
set_option maxRecDepth 20000 in
theorem wq_552 : Cond.code yX8_centreOf cX8_centreOf 2 (some .int) ∈ wsL_law := List.mem_of_getElem? (i := 552) rfl
set_option maxRecDepth 20000 in
theorem wq_553 : Cond.instanceMethod yX2_centre ∈ wsL_law := List.mem_of_getElem? (i := 553) rfl
set_option maxRecDepth 20000 in
theorem wq_554 : Cond.selects RX2 yX2_centre yX2_centre ∈ wsL_law := List.mem_of_getElem? (i := 554) rfl
set_option maxRecDepth 20000 in
theorem wq_555 : Cond.code yX2_centre cX2_centre 2 (some .int) ∈ wsL_law := List.mem_of_getElem? (i := 555) rfl
set_option maxRecDepth 20000 in
theorem wq_556 : Cond.methodLink RL 112 yX9_centreOf ∈ wsL_law := List.mem_of_getElem? (i := 556) rfl
set_option maxRecDepth 20000 in
theorem wq_557 : Cond.instanceMethod yX9_centreOf ∈ wsL_law := List.mem_of_getElem? (i := 557) rfl
set_option maxRecDepth 20000 in
theorem wq_558 : Cond.selects RX9 yX9_centreOf yX9_centreOf ∈ wsL_law := List.mem_of_getElem? (i := 558) rfl
set_option maxRecDepth 20000 in
theorem wq_559 : Cond.code yX9_centreOf cX9_centreOf 2 (some .int) ∈ wsL_law := List.mem_of_getElem? (i := 559) rfl
set_option maxRecDepth 20000 in
theorem wq_560 : Cond.methodLink RL 113 yX8_groupInfo ∈ wsL_law := List.mem_of_getElem? (i := 560) rfl
set_option maxRecDepth 20000 in
theorem wq_561 : Cond.instanceMethod yX8_groupInfo ∈ wsL_law := List.mem_of_getElem? (i := 561) rfl
set_option maxRecDepth 20000 in
theorem wq_562 : Cond.selects RX8 yX8_groupInfo yX8_groupInfo ∈ wsL_law := List.mem_of_getElem? (i := 562) rfl
set_option maxRecDepth 20000 in
theorem wq_563 : Cond.code yX8_groupInfo cX8_groupInfo 3 (some .int) ∈ wsL_law := List.mem_of_getElem? (i := 563) rfl
set_option maxRecDepth 20000 in
theorem wq_564 : Cond.instanceMethod yX2_members ∈ wsL_law := List.mem_of_getElem? (i := 564) rfl
set_option maxRecDepth 20000 in
theorem wq_565 : Cond.selects RX2 yX2_members yX2_members ∈ wsL_law := List.mem_of_getElem? (i := 565) rfl
set_option maxRecDepth 20000 in
theorem wq_566 : Cond.code yX2_members cX2_members 5 (some .int) ∈ wsL_law := List.mem_of_getElem? (i := 566) rfl
set_option maxRecDepth 20000 in
theorem wq_567 : Cond.instanceMethod yX2_regions ∈ wsL_law := List.mem_of_getElem? (i := 567) rfl
set_option maxRecDepth 20000 in
theorem wq_568 : Cond.selects RX2 yX2_regions yX2_regions ∈ wsL_law := List.mem_of_getElem? (i := 568) rfl
set_option maxRecDepth 20000 in
theorem wq_569 : Cond.code yX2_regions cX2_regions 5 (some .int) ∈ wsL_law := List.mem_of_getElem? (i := 569) rfl
set_option maxRecDepth 20000 in
theorem wq_570 : Cond.methodLink RX2 54 yJ6_bitCount_0f7a4 ∈ wsL_law := List.mem_of_getElem? (i := 570) rfl
set_option maxRecDepth 20000 in
theorem wq_571 : Cond.static yJ6_bitCount_0f7a4 ∈ wsL_law := List.mem_of_getElem? (i := 571) rfl
set_option maxRecDepth 20000 in
theorem wq_572 : Cond.initialized RJ6 ∈ wsL_law := List.mem_of_getElem? (i := 572) rfl
set_option maxRecDepth 20000 in
theorem wq_573 : Cond.code yJ6_bitCount_0f7a4 cJ6_bitCount_0f7a4 1 (some .int) ∈ wsL_law := List.mem_of_getElem? (i := 573) rfl
set_option maxRecDepth 20000 in
theorem wq_574 : Cond.constant RJ6 265 (1431655765) ∈ wsL_law := List.mem_of_getElem? (i := 574) rfl
set_option maxRecDepth 20000 in
theorem wq_575 : Cond.constant RJ6 266 (858993459) ∈ wsL_law := List.mem_of_getElem? (i := 575) rfl
set_option maxRecDepth 20000 in
theorem wq_576 : Cond.constant RJ6 267 (252645135) ∈ wsL_law := List.mem_of_getElem? (i := 576) rfl
set_option maxRecDepth 20000 in
theorem wq_577 : Cond.instanceMethod yX2_radius ∈ wsL_law := List.mem_of_getElem? (i := 577) rfl
set_option maxRecDepth 20000 in
theorem wq_578 : Cond.selects RX2 yX2_radius yX2_radius ∈ wsL_law := List.mem_of_getElem? (i := 578) rfl
set_option maxRecDepth 20000 in
theorem wq_579 : Cond.code yX2_radius cX2_radius 6 (some .int) ∈ wsL_law := List.mem_of_getElem? (i := 579) rfl
set_option maxRecDepth 20000 in
theorem wq_580 : Cond.methodLink RX2 63 Lib.Math.max.name ∈ wsL_law := List.mem_of_getElem? (i := 580) rfl
set_option maxRecDepth 20000 in
theorem wq_581 : Cond.methodLink RX2 60 yX2_centre ∈ wsL_law := List.mem_of_getElem? (i := 581) rfl
set_option maxRecDepth 20000 in
theorem wq_582 : Cond.methodLink RL 116 yX9_groupInfo ∈ wsL_law := List.mem_of_getElem? (i := 582) rfl
set_option maxRecDepth 20000 in
theorem wq_583 : Cond.instanceMethod yX9_groupInfo ∈ wsL_law := List.mem_of_getElem? (i := 583) rfl
set_option maxRecDepth 20000 in
theorem wq_584 : Cond.selects RX9 yX9_groupInfo yX9_groupInfo ∈ wsL_law := List.mem_of_getElem? (i := 584) rfl
set_option maxRecDepth 20000 in
theorem wq_585 : Cond.code yX9_groupInfo cX9_groupInfo 8 (some .int) ∈ wsL_law := List.mem_of_getElem? (i := 585) rfl
set_option maxRecDepth 20000 in
theorem wq_586 : Cond.constantLong RX9 153 (2) ∈ wsL_law := List.mem_of_getElem? (i := 586) rfl
set_option maxRecDepth 20000 in
theorem wq_587 : Cond.methodLink RL 117 yX8_crossingCost ∈ wsL_law := List.mem_of_getElem? (i := 587) rfl
set_option maxRecDepth 20000 in
theorem wq_588 : Cond.instanceMethod yX8_crossingCost ∈ wsL_law := List.mem_of_getElem? (i := 588) rfl
set_option maxRecDepth 20000 in
theorem wq_589 : Cond.selects RX8 yX8_crossingCost yX8_crossingCost ∈ wsL_law := List.mem_of_getElem? (i := 589) rfl
set_option maxRecDepth 20000 in
theorem wq_590 : Cond.code yX8_crossingCost cX8_crossingCost 5 (some .int) ∈ wsL_law := List.mem_of_getElem? (i := 590) rfl
set_option maxRecDepth 20000 in
theorem wq_591 : Cond.instanceMethod yX0_cost ∈ wsL_law := List.mem_of_getElem? (i := 591) rfl
set_option maxRecDepth 20000 in
theorem wq_592 : Cond.selects RX0 yX0_cost yX0_cost ∈ wsL_law := List.mem_of_getElem? (i := 592) rfl
set_option maxRecDepth 20000 in
theorem wq_593 : Cond.code yX0_cost cX0_cost 9 (some .int) ∈ wsL_law := List.mem_of_getElem? (i := 593) rfl
set_option maxRecDepth 20000 in
theorem wq_594 : Cond.constant RX0 45 (1000000) ∈ wsL_law := List.mem_of_getElem? (i := 594) rfl
set_option maxRecDepth 20000 in
theorem wq_595 : Cond.methodLink RX0 64 Lib.Math.min.name ∈ wsL_law := List.mem_of_getElem? (i := 595) rfl
set_option maxRecDepth 20000 in
theorem wq_596 : Cond.instanceMethod yX5_addPart ∈ wsL_law := List.mem_of_getElem? (i := 596) rfl
set_option maxRecDepth 20000 in
theorem wq_597 : Cond.selects RX5 yX5_addPart yX5_addPart ∈ wsL_law := List.mem_of_getElem? (i := 597) rfl
set_option maxRecDepth 20000 in
theorem wq_598 : Cond.code yX5_addPart cX5_addPart 5 none ∈ wsL_law := List.mem_of_getElem? (i := 598) rfl
set_option maxRecDepth 20000 in
theorem wq_599 : Cond.methodLink RX5 19 yX5_at ∈ wsL_law := List.mem_of_getElem? (i := 599) rfl
set_option maxRecDepth 20000 in
theorem wq_600 : Cond.methodLink RX5 23 yX5_add ∈ wsL_law := List.mem_of_getElem? (i := 600) rfl
set_option maxRecDepth 20000 in
theorem wq_601 : Cond.methodLink RL 120 yX9_crossingCost ∈ wsL_law := List.mem_of_getElem? (i := 601) rfl
set_option maxRecDepth 20000 in
theorem wq_602 : Cond.instanceMethod yX9_crossingCost ∈ wsL_law := List.mem_of_getElem? (i := 602) rfl
set_option maxRecDepth 20000 in
theorem wq_603 : Cond.selects RX9 yX9_crossingCost yX9_crossingCost ∈ wsL_law := List.mem_of_getElem? (i := 603) rfl
set_option maxRecDepth 20000 in
theorem wq_604 : Cond.code yX9_crossingCost cX9_crossingCost 4 (some .int) ∈ wsL_law := List.mem_of_getElem? (i := 604) rfl
set_option maxRecDepth 20000 in
theorem wq_605 : Cond.methodLink RX9 155 yX9_crossed ∈ wsL_law := List.mem_of_getElem? (i := 605) rfl
set_option maxRecDepth 20000 in
theorem wq_606 : Cond.instanceMethod yX9_crossed ∈ wsL_law := List.mem_of_getElem? (i := 606) rfl
set_option maxRecDepth 20000 in
theorem wq_607 : Cond.selects RX9 yX9_crossed yX9_crossed ∈ wsL_law := List.mem_of_getElem? (i := 607) rfl
set_option maxRecDepth 20000 in
theorem wq_608 : Cond.code yX9_crossed cX9_crossed 8 (some .int) ∈ wsL_law := List.mem_of_getElem? (i := 608) rfl
set_option maxRecDepth 20000 in
theorem wq_609 : Cond.methodLink RL 121 yX8_crossing ∈ wsL_law := List.mem_of_getElem? (i := 609) rfl
set_option maxRecDepth 20000 in
theorem wq_610 : Cond.instanceMethod yX8_crossing ∈ wsL_law := List.mem_of_getElem? (i := 610) rfl
set_option maxRecDepth 20000 in
theorem wq_611 : Cond.selects RX8 yX8_crossing yX8_crossing ∈ wsL_law := List.mem_of_getElem? (i := 611) rfl
set_option maxRecDepth 20000 in
theorem wq_612 : Cond.code yX8_crossing cX8_crossing 3 (some .int) ∈ wsL_law := List.mem_of_getElem? (i := 612) rfl
set_option maxRecDepth 20000 in
theorem wq_613 : Cond.instanceMethod yX0_bestPair ∈ wsL_law := List.mem_of_getElem? (i := 613) rfl
set_option maxRecDepth 20000 in
theorem wq_614 : Cond.selects RX0 yX0_bestPair yX0_bestPair ∈ wsL_law := List.mem_of_getElem? (i := 614) rfl
set_option maxRecDepth 20000 in
theorem wq_615 : Cond.code yX0_bestPair cX0_bestPair 13 (some .int) ∈ wsL_law := List.mem_of_getElem? (i := 615) rfl
set_option maxRecDepth 20000 in
theorem wq_616 : Cond.methodLink RX0 82 yX0_cost ∈ wsL_law := List.mem_of_getElem? (i := 616) rfl
set_option maxRecDepth 20000 in
theorem wq_617 : Cond.methodLink RL 124 yX9_crossing ∈ wsL_law := List.mem_of_getElem? (i := 617) rfl
set_option maxRecDepth 20000 in
theorem wq_618 : Cond.instanceMethod yX9_crossing ∈ wsL_law := List.mem_of_getElem? (i := 618) rfl
set_option maxRecDepth 20000 in
theorem wq_619 : Cond.selects RX9 yX9_crossing yX9_crossing ∈ wsL_law := List.mem_of_getElem? (i := 619) rfl
set_option maxRecDepth 20000 in
theorem wq_620 : Cond.code yX9_crossing cX9_crossing 11 (some .int) ∈ wsL_law := List.mem_of_getElem? (i := 620) rfl
set_option maxRecDepth 20000 in
theorem wq_621 : Cond.methodLink RL 125 yX8_undo ∈ wsL_law := List.mem_of_getElem? (i := 621) rfl
set_option maxRecDepth 20000 in
theorem wq_622 : Cond.instanceMethod yX8_undo ∈ wsL_law := List.mem_of_getElem? (i := 622) rfl
set_option maxRecDepth 20000 in
theorem wq_623 : Cond.selects RX8 yX8_undo yX8_undo ∈ wsL_law := List.mem_of_getElem? (i := 623) rfl
set_option maxRecDepth 20000 in
theorem wq_624 : Cond.code yX8_undo cX8_undo 1 (some .int) ∈ wsL_law := List.mem_of_getElem? (i := 624) rfl
set_option maxRecDepth 20000 in
theorem wq_625 : Cond.instanceMethod yX3_restore ∈ wsL_law := List.mem_of_getElem? (i := 625) rfl
set_option maxRecDepth 20000 in
theorem wq_626 : Cond.selects RX3 yX3_restore yX3_restore ∈ wsL_law := List.mem_of_getElem? (i := 626) rfl
set_option maxRecDepth 20000 in
theorem wq_627 : Cond.code yX3_restore cX3_restore 2 none ∈ wsL_law := List.mem_of_getElem? (i := 627) rfl
set_option maxRecDepth 20000 in
theorem wq_628 : Cond.methodLink RL 128 yX9_undo ∈ wsL_law := List.mem_of_getElem? (i := 628) rfl
set_option maxRecDepth 20000 in
theorem wq_629 : Cond.instanceMethod yX9_undo ∈ wsL_law := List.mem_of_getElem? (i := 629) rfl
set_option maxRecDepth 20000 in
theorem wq_630 : Cond.selects RX9 yX9_undo yX9_undo ∈ wsL_law := List.mem_of_getElem? (i := 630) rfl
set_option maxRecDepth 20000 in
theorem wq_631 : Cond.code yX9_undo cX9_undo 2 (some .int) ∈ wsL_law := List.mem_of_getElem? (i := 631) rfl
set_option maxRecDepth 20000 in
theorem nq_25 : Cond.methodLinkNest RX8 9 yX5_init RX8 ∈ tables_1.filter nwWarm := List.mem_filter.mpr ⟨List.mem_of_getElem? (i := 25) rfl, rfl⟩
set_option maxRecDepth 20000 in
theorem nq_31 : Cond.fieldLinkNest RX8 62 "ProverbCollection$Sequence" "length" "I" RX8 ∈ tables_1.filter nwWarm := List.mem_filter.mpr ⟨List.mem_of_getElem? (i := 31) rfl, rfl⟩
set_option maxRecDepth 20000 in
theorem nq_32 : Cond.fieldLinkNest RX0 46 "ProverbCollection$Sequence" "length" "I" RX8 ∈ tables_1.filter nwWarm := List.mem_filter.mpr ⟨List.mem_of_getElem? (i := 32) rfl, rfl⟩
set_option maxRecDepth 20000 in
theorem nq_33 : Cond.fieldLinkNest RX1 49 "ProverbCollection$Sequence" "length" "I" RX8 ∈ tables_1.filter nwWarm := List.mem_filter.mpr ⟨List.mem_of_getElem? (i := 33) rfl, rfl⟩
set_option maxRecDepth 20000 in
theorem nq_34 : Cond.fieldLinkNest RX4 58 "ProverbCollection$Sequence" "length" "I" RX8 ∈ tables_1.filter nwWarm := List.mem_filter.mpr ⟨List.mem_of_getElem? (i := 34) rfl, rfl⟩
set_option maxRecDepth 20000 in
theorem nq_35 : Cond.fieldLinkNest RX6 29 "ProverbCollection$Sequence" "length" "I" RX8 ∈ tables_1.filter nwWarm := List.mem_filter.mpr ⟨List.mem_of_getElem? (i := 35) rfl, rfl⟩
set_option maxRecDepth 20000 in
theorem nq_44 : Cond.methodLinkNest RX8 18 yX7_init RX8 ∈ tables_1.filter nwWarm := List.mem_filter.mpr ⟨List.mem_of_getElem? (i := 44) rfl, rfl⟩
set_option maxRecDepth 20000 in
theorem nq_50 : Cond.methodLinkNest RX7 11 yX6_init RX8 ∈ tables_1.filter nwWarm := List.mem_filter.mpr ⟨List.mem_of_getElem? (i := 50) rfl, rfl⟩
set_option maxRecDepth 20000 in
theorem nq_58 : Cond.fieldLinkNest RX2 35 "ProverbCollection$Shelf" "count" "I" RX8 ∈ tables_1.filter nwWarm := List.mem_filter.mpr ⟨List.mem_of_getElem? (i := 58) rfl, rfl⟩
set_option maxRecDepth 20000 in
theorem nq_59 : Cond.fieldLinkNest RX7 60 "ProverbCollection$Shelf" "count" "I" RX8 ∈ tables_1.filter nwWarm := List.mem_filter.mpr ⟨List.mem_of_getElem? (i := 59) rfl, rfl⟩
set_option maxRecDepth 20000 in
theorem nq_60 : Cond.fieldLinkNest RX8 99 "ProverbCollection$Shelf" "count" "I" RX8 ∈ tables_1.filter nwWarm := List.mem_filter.mpr ⟨List.mem_of_getElem? (i := 60) rfl, rfl⟩
set_option maxRecDepth 20000 in
theorem nq_71 : Cond.fieldLinkNest RX1 30 "ProverbCollection$State" "sayings" "LProverbCollection$Shelf;" RX8 ∈ tables_1.filter nwWarm := List.mem_filter.mpr ⟨List.mem_of_getElem? (i := 71) rfl, rfl⟩
set_option maxRecDepth 20000 in
theorem nq_72 : Cond.fieldLinkNest RX0 28 "ProverbCollection$State" "sayings" "LProverbCollection$Shelf;" RX8 ∈ tables_1.filter nwWarm := List.mem_filter.mpr ⟨List.mem_of_getElem? (i := 72) rfl, rfl⟩
set_option maxRecDepth 20000 in
theorem nq_73 : Cond.fieldLinkNest RX4 40 "ProverbCollection$State" "sayings" "LProverbCollection$Shelf;" RX8 ∈ tables_1.filter nwWarm := List.mem_filter.mpr ⟨List.mem_of_getElem? (i := 73) rfl, rfl⟩
set_option maxRecDepth 20000 in
theorem nq_74 : Cond.fieldLinkNest RX2 31 "ProverbCollection$State" "sayings" "LProverbCollection$Shelf;" RX8 ∈ tables_1.filter nwWarm := List.mem_filter.mpr ⟨List.mem_of_getElem? (i := 74) rfl, rfl⟩
set_option maxRecDepth 20000 in
theorem nq_75 : Cond.fieldLinkNest RX8 74 "ProverbCollection$State" "sayings" "LProverbCollection$Shelf;" RX8 ∈ tables_1.filter nwWarm := List.mem_filter.mpr ⟨List.mem_of_getElem? (i := 75) rfl, rfl⟩
set_option maxRecDepth 20000 in
theorem nq_78 : Cond.fieldLinkNest RX2 51 "ProverbCollection$State" "regions" "[I" RX8 ∈ tables_1.filter nwWarm := List.mem_filter.mpr ⟨List.mem_of_getElem? (i := 78) rfl, rfl⟩
set_option maxRecDepth 20000 in
theorem nq_80 : Cond.fieldLinkNest RX4 28 "ProverbCollection$State" "patterns" "LProverbCollection$Shelf;" RX8 ∈ tables_1.filter nwWarm := List.mem_filter.mpr ⟨List.mem_of_getElem? (i := 80) rfl, rfl⟩
set_option maxRecDepth 20000 in
theorem nq_81 : Cond.fieldLinkNest RX8 144 "ProverbCollection$State" "patterns" "LProverbCollection$Shelf;" RX8 ∈ tables_1.filter nwWarm := List.mem_filter.mpr ⟨List.mem_of_getElem? (i := 81) rfl, rfl⟩
set_option maxRecDepth 20000 in
theorem nq_83 : Cond.fieldLinkNest RX1 42 "ProverbCollection$State" "costs" "[I" RX8 ∈ tables_1.filter nwWarm := List.mem_filter.mpr ⟨List.mem_of_getElem? (i := 83) rfl, rfl⟩
set_option maxRecDepth 20000 in
theorem nq_84 : Cond.fieldLinkNest RX0 57 "ProverbCollection$State" "costs" "[I" RX8 ∈ tables_1.filter nwWarm := List.mem_filter.mpr ⟨List.mem_of_getElem? (i := 84) rfl, rfl⟩
set_option maxRecDepth 20000 in
theorem nq_85 : Cond.fieldLinkNest RX8 114 "ProverbCollection$State" "costs" "[I" RX8 ∈ tables_1.filter nwWarm := List.mem_filter.mpr ⟨List.mem_of_getElem? (i := 85) rfl, rfl⟩
set_option maxRecDepth 20000 in
theorem nq_87 : Cond.fieldLinkNest RX2 48 "ProverbCollection$State" "limit" "I" RX8 ∈ tables_1.filter nwWarm := List.mem_filter.mpr ⟨List.mem_of_getElem? (i := 87) rfl, rfl⟩
set_option maxRecDepth 20000 in
theorem nq_88 : Cond.fieldLinkNest RX8 162 "ProverbCollection$State" "limit" "I" RX8 ∈ tables_1.filter nwWarm := List.mem_filter.mpr ⟨List.mem_of_getElem? (i := 88) rfl, rfl⟩
set_option maxRecDepth 20000 in
theorem nq_104 : Cond.methodLinkNest RX8 25 yX3_init RX8 ∈ tables_1.filter nwWarm := List.mem_filter.mpr ⟨List.mem_of_getElem? (i := 104) rfl, rfl⟩
set_option maxRecDepth 20000 in
theorem nq_110 : Cond.methodLinkNest RX3 17 yX7_init RX8 ∈ tables_1.filter nwWarm := List.mem_filter.mpr ⟨List.mem_of_getElem? (i := 110) rfl, rfl⟩
set_option maxRecDepth 20000 in
theorem nq_114 : Cond.fieldLinkNest RX8 195 "ProverbCollection$History" "count" "I" RX8 ∈ tables_1.filter nwWarm := List.mem_filter.mpr ⟨List.mem_of_getElem? (i := 114) rfl, rfl⟩
set_option maxRecDepth 20000 in
theorem nq_124 : Cond.methodLinkNest RX8 32 yX1_init RX8 ∈ tables_1.filter nwWarm := List.mem_filter.mpr ⟨List.mem_of_getElem? (i := 124) rfl, rfl⟩
set_option maxRecDepth 20000 in
theorem nq_129 : Cond.methodLinkNest RX1 11 yX5_init RX8 ∈ tables_1.filter nwWarm := List.mem_filter.mpr ⟨List.mem_of_getElem? (i := 129) rfl, rfl⟩
set_option maxRecDepth 20000 in
theorem nq_133 : Cond.fieldLinkNest RX0 34 "ProverbCollection$Edits" "first" "LProverbCollection$Sequence;" RX8 ∈ tables_1.filter nwWarm := List.mem_filter.mpr ⟨List.mem_of_getElem? (i := 133) rfl, rfl⟩
set_option maxRecDepth 20000 in
theorem nq_135 : Cond.fieldLinkNest RX0 50 "ProverbCollection$Edits" "second" "LProverbCollection$Sequence;" RX8 ∈ tables_1.filter nwWarm := List.mem_filter.mpr ⟨List.mem_of_getElem? (i := 135) rfl, rfl⟩
set_option maxRecDepth 20000 in
theorem nq_139 : Cond.fieldLinkNest RX8 137 "ProverbCollection$Edits" "listed" "I" RX8 ∈ tables_1.filter nwWarm := List.mem_filter.mpr ⟨List.mem_of_getElem? (i := 139) rfl, rfl⟩
set_option maxRecDepth 20000 in
theorem nq_153 : Cond.methodLinkNest RX8 39 yX4_init RX8 ∈ tables_1.filter nwWarm := List.mem_filter.mpr ⟨List.mem_of_getElem? (i := 153) rfl, rfl⟩
set_option maxRecDepth 20000 in
theorem nq_158 : Cond.methodLinkNest RX4 11 yX5_init RX8 ∈ tables_1.filter nwWarm := List.mem_filter.mpr ⟨List.mem_of_getElem? (i := 158) rfl, rfl⟩
set_option maxRecDepth 20000 in
theorem nq_163 : Cond.fieldLinkNest RX8 156 "ProverbCollection$Matcher" "firstWord" "[I" RX8 ∈ tables_1.filter nwWarm := List.mem_filter.mpr ⟨List.mem_of_getElem? (i := 163) rfl, rfl⟩
set_option maxRecDepth 20000 in
theorem nq_178 : Cond.methodLinkNest RX8 46 yX2_init RX8 ∈ tables_1.filter nwWarm := List.mem_filter.mpr ⟨List.mem_of_getElem? (i := 178) rfl, rfl⟩
set_option maxRecDepth 20000 in
theorem nq_184 : Cond.fieldLinkNest RX8 170 "ProverbCollection$Groups" "memberOf" "[I" RX8 ∈ tables_1.filter nwWarm := List.mem_filter.mpr ⟨List.mem_of_getElem? (i := 184) rfl, rfl⟩
set_option maxRecDepth 20000 in
theorem nq_187 : Cond.fieldLinkNest RX8 169 "ProverbCollection$Groups" "count" "I" RX8 ∈ tables_1.filter nwWarm := List.mem_filter.mpr ⟨List.mem_of_getElem? (i := 187) rfl, rfl⟩
set_option maxRecDepth 20000 in
theorem nq_199 : Cond.methodLinkNest RX8 53 yX0_init RX8 ∈ tables_1.filter nwWarm := List.mem_filter.mpr ⟨List.mem_of_getElem? (i := 199) rfl, rfl⟩
set_option maxRecDepth 20000 in
theorem nq_204 : Cond.methodLinkNest RX0 11 yX5_init RX8 ∈ tables_1.filter nwWarm := List.mem_filter.mpr ⟨List.mem_of_getElem? (i := 204) rfl, rfl⟩
set_option maxRecDepth 20000 in
theorem nq_247 : Cond.methodLinkNest RX8 66 yX5_add RX8 ∈ tables_1.filter nwWarm := List.mem_filter.mpr ⟨List.mem_of_getElem? (i := 247) rfl, rfl⟩
set_option maxRecDepth 20000 in
theorem nq_259 : Cond.methodLinkNest RX8 70 yX5_wordCount RX8 ∈ tables_1.filter nwWarm := List.mem_filter.mpr ⟨List.mem_of_getElem? (i := 259) rfl, rfl⟩
set_option maxRecDepth 20000 in
theorem nq_263 : Cond.methodLinkNest RX8 78 yX6_isFull RX8 ∈ tables_1.filter nwWarm := List.mem_filter.mpr ⟨List.mem_of_getElem? (i := 263) rfl, rfl⟩
set_option maxRecDepth 20000 in
theorem nq_267 : Cond.methodLinkNest RX8 84 yX3_keep RX8 ∈ tables_1.filter nwWarm := List.mem_filter.mpr ⟨List.mem_of_getElem? (i := 267) rfl, rfl⟩
set_option maxRecDepth 20000 in
theorem nq_271 : Cond.methodLinkNest RX3 22 yX7_copyFrom RX8 ∈ tables_1.filter nwWarm := List.mem_filter.mpr ⟨List.mem_of_getElem? (i := 271) rfl, rfl⟩
set_option maxRecDepth 20000 in
theorem nq_275 : Cond.methodLinkNest RX7 37 yX6_copyFrom RX8 ∈ tables_1.filter nwWarm := List.mem_filter.mpr ⟨List.mem_of_getElem? (i := 275) rfl, rfl⟩
set_option maxRecDepth 20000 in
theorem nq_279 : Cond.methodLinkNest RX6 53 yX8_copyAll RX8 ∈ tables_1.filter nwWarm := List.mem_filter.mpr ⟨List.mem_of_getElem? (i := 279) rfl, rfl⟩
set_option maxRecDepth 20000 in
theorem nq_288 : Cond.methodLinkNest RX7 41 yX8_copyAll RX8 ∈ tables_1.filter nwWarm := List.mem_filter.mpr ⟨List.mem_of_getElem? (i := 288) rfl, rfl⟩
set_option maxRecDepth 20000 in
theorem nq_290 : Cond.methodLinkNest RX8 88 yX7_takeSaying RX8 ∈ tables_1.filter nwWarm := List.mem_filter.mpr ⟨List.mem_of_getElem? (i := 290) rfl, rfl⟩
set_option maxRecDepth 20000 in
theorem nq_294 : Cond.methodLinkNest RX7 45 yX6_add RX8 ∈ tables_1.filter nwWarm := List.mem_filter.mpr ⟨List.mem_of_getElem? (i := 294) rfl, rfl⟩
set_option maxRecDepth 20000 in
theorem nq_298 : Cond.methodLinkNest RX6 34 yX5_at RX8 ∈ tables_1.filter nwWarm := List.mem_filter.mpr ⟨List.mem_of_getElem? (i := 298) rfl, rfl⟩
set_option maxRecDepth 20000 in
theorem nq_302 : Cond.methodLinkNest RX7 49 yX6_has RX8 ∈ tables_1.filter nwWarm := List.mem_filter.mpr ⟨List.mem_of_getElem? (i := 302) rfl, rfl⟩
set_option maxRecDepth 20000 in
theorem nq_310 : Cond.methodLinkNest RX8 92 yX6_has RX8 ∈ tables_1.filter nwWarm := List.mem_filter.mpr ⟨List.mem_of_getElem? (i := 310) rfl, rfl⟩
set_option maxRecDepth 20000 in
theorem nq_311 : Cond.methodLinkNest RX8 96 yX7_dropSaying RX8 ∈ tables_1.filter nwWarm := List.mem_filter.mpr ⟨List.mem_of_getElem? (i := 311) rfl, rfl⟩
set_option maxRecDepth 20000 in
theorem nq_315 : Cond.methodLinkNest RX7 53 yX6_drop RX8 ∈ tables_1.filter nwWarm := List.mem_filter.mpr ⟨List.mem_of_getElem? (i := 315) rfl, rfl⟩
set_option maxRecDepth 20000 in
theorem nq_320 : Cond.methodLinkNest RX6 38 yX8_closeUp RX8 ∈ tables_1.filter nwWarm := List.mem_filter.mpr ⟨List.mem_of_getElem? (i := 320) rfl, rfl⟩
set_option maxRecDepth 20000 in
theorem nq_323 : Cond.methodLinkNest RX7 56 yX8_closeUp RX8 ∈ tables_1.filter nwWarm := List.mem_filter.mpr ⟨List.mem_of_getElem? (i := 323) rfl, rfl⟩
set_option maxRecDepth 20000 in
theorem nq_332 : Cond.methodLinkNest RX8 102 yX6_size RX8 ∈ tables_1.filter nwWarm := List.mem_filter.mpr ⟨List.mem_of_getElem? (i := 332) rfl, rfl⟩
set_option maxRecDepth 20000 in
theorem nq_340 : Cond.methodLinkNest RX8 106 yX6_token RX8 ∈ tables_1.filter nwWarm := List.mem_filter.mpr ⟨List.mem_of_getElem? (i := 340) rfl, rfl⟩
set_option maxRecDepth 20000 in
theorem nq_348 : Cond.methodLinkNest RX8 110 yX7_sortByAge RX8 ∈ tables_1.filter nwWarm := List.mem_filter.mpr ⟨List.mem_of_getElem? (i := 348) rfl, rfl⟩
set_option maxRecDepth 20000 in
theorem nq_372 : Cond.methodLinkNest RX8 121 yX1_between RX8 ∈ tables_1.filter nwWarm := List.mem_filter.mpr ⟨List.mem_of_getElem? (i := 372) rfl, rfl⟩
set_option maxRecDepth 20000 in
theorem nq_376 : Cond.methodLinkNest RX1 36 yX6_load RX8 ∈ tables_1.filter nwWarm := List.mem_filter.mpr ⟨List.mem_of_getElem? (i := 376) rfl, rfl⟩
set_option maxRecDepth 20000 in
theorem nq_382 : Cond.methodLinkNest RX6 49 yX5_add RX8 ∈ tables_1.filter nwWarm := List.mem_filter.mpr ⟨List.mem_of_getElem? (i := 382) rfl, rfl⟩
set_option maxRecDepth 20000 in
theorem nq_396 : Cond.methodLinkNest RX1 72 yX5_at RX8 ∈ tables_1.filter nwWarm := List.mem_filter.mpr ⟨List.mem_of_getElem? (i := 396) rfl, rfl⟩
set_option maxRecDepth 20000 in
theorem nq_417 : Cond.methodLinkNest RX8 134 yX1_trace RX8 ∈ tables_1.filter nwWarm := List.mem_filter.mpr ⟨List.mem_of_getElem? (i := 417) rfl, rfl⟩
set_option maxRecDepth 20000 in
theorem nq_429 : Cond.methodLinkNest RX8 140 yX1_fromBeginning RX8 ∈ tables_1.filter nwWarm := List.mem_filter.mpr ⟨List.mem_of_getElem? (i := 429) rfl, rfl⟩
set_option maxRecDepth 20000 in
theorem nq_442 : Cond.methodLinkNest RX8 147 yX6_add RX8 ∈ tables_1.filter nwWarm := List.mem_filter.mpr ⟨List.mem_of_getElem? (i := 442) rfl, rfl⟩
set_option maxRecDepth 20000 in
theorem nq_447 : Cond.methodLinkNest RX8 150 yX6_drop RX8 ∈ tables_1.filter nwWarm := List.mem_filter.mpr ⟨List.mem_of_getElem? (i := 447) rfl, rfl⟩
set_option maxRecDepth 20000 in
theorem nq_452 : Cond.methodLinkNest RX8 153 yX4_match RX8 ∈ tables_1.filter nwWarm := List.mem_filter.mpr ⟨List.mem_of_getElem? (i := 452) rfl, rfl⟩
set_option maxRecDepth 20000 in
theorem nq_456 : Cond.methodLinkNest RX4 34 yX6_load RX8 ∈ tables_1.filter nwWarm := List.mem_filter.mpr ⟨List.mem_of_getElem? (i := 456) rfl, rfl⟩
set_option maxRecDepth 20000 in
theorem nq_465 : Cond.methodLinkNest RX4 72 yX8_copyAll RX8 ∈ tables_1.filter nwWarm := List.mem_filter.mpr ⟨List.mem_of_getElem? (i := 465) rfl, rfl⟩
set_option maxRecDepth 20000 in
theorem nq_466 : Cond.methodLinkNest RX4 65 yX5_at RX8 ∈ tables_1.filter nwWarm := List.mem_filter.mpr ⟨List.mem_of_getElem? (i := 466) rfl, rfl⟩
set_option maxRecDepth 20000 in
theorem nq_483 : Cond.methodLinkNest RX8 159 yX4_fit RX8 ∈ tables_1.filter nwWarm := List.mem_filter.mpr ⟨List.mem_of_getElem? (i := 483) rfl, rfl⟩
set_option maxRecDepth 20000 in
theorem nq_487 : Cond.methodLinkNest RX4 51 yX5_wordCount RX8 ∈ tables_1.filter nwWarm := List.mem_filter.mpr ⟨List.mem_of_getElem? (i := 487) rfl, rfl⟩
set_option maxRecDepth 20000 in
theorem nq_488 : Cond.methodLinkNest RX4 55 yX5_gapCount RX8 ∈ tables_1.filter nwWarm := List.mem_filter.mpr ⟨List.mem_of_getElem? (i := 488) rfl, rfl⟩
set_option maxRecDepth 20000 in
theorem nq_500 : Cond.methodLinkNest RX8 165 yX2_form RX8 ∈ tables_1.filter nwWarm := List.mem_filter.mpr ⟨List.mem_of_getElem? (i := 500) rfl, rfl⟩
set_option maxRecDepth 20000 in
theorem nq_504 : Cond.methodLinkNest RX2 25 yX7_sortByAge RX8 ∈ tables_1.filter nwWarm := List.mem_filter.mpr ⟨List.mem_of_getElem? (i := 504) rfl, rfl⟩
set_option maxRecDepth 20000 in
theorem nq_505 : Cond.methodLinkNest RX2 38 yX6_has RX8 ∈ tables_1.filter nwWarm := List.mem_filter.mpr ⟨List.mem_of_getElem? (i := 505) rfl, rfl⟩
set_option maxRecDepth 20000 in
theorem nq_506 : Cond.methodLinkNest RX2 42 yX1_between RX8 ∈ tables_1.filter nwWarm := List.mem_filter.mpr ⟨List.mem_of_getElem? (i := 506) rfl, rfl⟩
set_option maxRecDepth 20000 in
theorem nq_515 : Cond.methodLinkNest RX8 173 yX2_centre RX8 ∈ tables_1.filter nwWarm := List.mem_filter.mpr ⟨List.mem_of_getElem? (i := 515) rfl, rfl⟩
set_option maxRecDepth 20000 in
theorem nq_523 : Cond.methodLinkNest RX8 176 yX2_members RX8 ∈ tables_1.filter nwWarm := List.mem_filter.mpr ⟨List.mem_of_getElem? (i := 523) rfl, rfl⟩
set_option maxRecDepth 20000 in
theorem nq_527 : Cond.methodLinkNest RX8 180 yX2_regions RX8 ∈ tables_1.filter nwWarm := List.mem_filter.mpr ⟨List.mem_of_getElem? (i := 527) rfl, rfl⟩
set_option maxRecDepth 20000 in
theorem nq_537 : Cond.methodLinkNest RX8 183 yX2_radius RX8 ∈ tables_1.filter nwWarm := List.mem_filter.mpr ⟨List.mem_of_getElem? (i := 537) rfl, rfl⟩
set_option maxRecDepth 20000 in
theorem nq_547 : Cond.methodLinkNest RX8 187 yX0_cost RX8 ∈ tables_1.filter nwWarm := List.mem_filter.mpr ⟨List.mem_of_getElem? (i := 547) rfl, rfl⟩
set_option maxRecDepth 20000 in
theorem nq_551 : Cond.methodLinkNest RX0 39 yX6_load RX8 ∈ tables_1.filter nwWarm := List.mem_filter.mpr ⟨List.mem_of_getElem? (i := 551) rfl, rfl⟩
set_option maxRecDepth 20000 in
theorem nq_553 : Cond.methodLinkNest RX0 53 yX5_addPart RX8 ∈ tables_1.filter nwWarm := List.mem_filter.mpr ⟨List.mem_of_getElem? (i := 553) rfl, rfl⟩
set_option maxRecDepth 20000 in
theorem nq_559 : Cond.methodLinkNest RX0 60 yX1_measure RX8 ∈ tables_1.filter nwWarm := List.mem_filter.mpr ⟨List.mem_of_getElem? (i := 559) rfl, rfl⟩
set_option maxRecDepth 20000 in
theorem nq_565 : Cond.methodLinkNest RX8 191 yX0_bestPair RX8 ∈ tables_1.filter nwWarm := List.mem_filter.mpr ⟨List.mem_of_getElem? (i := 565) rfl, rfl⟩
set_option maxRecDepth 20000 in
theorem nq_569 : Cond.methodLinkNest RX0 70 yX7_sortByAge RX8 ∈ tables_1.filter nwWarm := List.mem_filter.mpr ⟨List.mem_of_getElem? (i := 569) rfl, rfl⟩
set_option maxRecDepth 20000 in
theorem nq_570 : Cond.methodLinkNest RX0 74 yX7_place RX8 ∈ tables_1.filter nwWarm := List.mem_filter.mpr ⟨List.mem_of_getElem? (i := 570) rfl, rfl⟩
set_option maxRecDepth 20000 in
theorem nq_571 : Cond.methodLinkNest RX0 78 yX1_between RX8 ∈ tables_1.filter nwWarm := List.mem_filter.mpr ⟨List.mem_of_getElem? (i := 571) rfl, rfl⟩
set_option maxRecDepth 20000 in
theorem nq_577 : Cond.methodLinkNest RX8 196 yX3_restore RX8 ∈ tables_1.filter nwWarm := List.mem_filter.mpr ⟨List.mem_of_getElem? (i := 577) rfl, rfl⟩
