/-- the words of the tables that are kept warm: links to private members of nest mates -/
def nwWarm : Cond → Bool
  | .fieldLinkNest .. => true
  | .methodLinkNest .. => true
  | _ => false
/-! ===== where the words of the law stand in its table ===== -/
set_option maxRecDepth 20000 in
theorem wsIn_1 : wsL_law_r1 = ([70, 46, 47, 34, 48, 49, 50, 51, 52, 53, 54, 55, 35, 238, 71, 72, 36, 239, 126, 127, 38, 240, 146, 147] : List Nat).filterMap (fun i => lw_tbl[i]?) := by rfl
set_option maxRecDepth 20000 in
theorem wsIn_2 : wsL_law_r2 = ([39, 241, 173, 174, 40, 242, 196, 197, 41, 243, 217, 218, 42, 244, 245, 57, 58, 59, 60, 74, 75, 76, 77, 78] : List Nat).filterMap (fun i => lw_tbl[i]?) := by rfl
set_option maxRecDepth 20000 in
theorem wsIn_3 : wsL_law_r3 = ([37, 99, 103, 104, 106, 107, 110, 80, 81, 82, 83, 84, 85, 129, 130, 131, 132, 135, 149, 150, 151, 152, 156, 157] : List Nat).filterMap (fun i => lw_tbl[i]?) := by rfl
set_option maxRecDepth 20000 in
theorem wsIn_4 : wsL_law_r4 = ([154, 158, 159, 176, 177, 178, 179, 181, 182, 183, 184, 199, 200, 201, 202, 203, 205, 220, 221, 222, 223, 225, 226, 227] : List Nat).filterMap (fun i => lw_tbl[i]?) := by rfl
set_option maxRecDepth 20000 in
theorem wsIn_5 : wsL_law_r5 = ([228, 408, 409, 410, 411, 414, 21, 415, 136, 137, 285, 3, 286, 289, 4, 290, 86, 292, 293, 294, 295, 43, 296, 297] : List Nat).filterMap (fun i => lw_tbl[i]?) := by rfl
set_option maxRecDepth 20000 in
theorem wsIn_6 : wsL_law_r6 = ([299, 298, 44, 315, 316, 317, 318, 397, 398, 399, 400, 403, 20, 404, 206, 337, 9, 338, 339, 341, 10, 342, 343, 345] : List Nat).filterMap (fun i => lw_tbl[i]?) := by rfl
set_option maxRecDepth 20000 in
theorem wsIn_7 : wsL_law_r7 = ([11, 346, 277, 1, 278, 362, 13, 363, 366, 14, 367, 368, 325, 7, 326, 310, 369, 329, 8, 330, 269, 0, 270, 61] : List Nat).filterMap (fun i => lw_tbl[i]?) := by rfl
set_option maxRecDepth 20000 in
theorem wsIn_8 : wsL_law_r8 = ([371, 373, 15, 374, 375, 392, 376, 378, 16, 379, 380, 382, 17, 383, 386, 18, 387, 388, 390, 19, 391, 331, 332, 333] : List Nat).filterMap (fun i => lw_tbl[i]?) := by rfl
set_option maxRecDepth 20000 in
theorem wsIn_9 : wsL_law_r9 = ([334, 416, 417, 33, 418, 419, 420, 421, 422, 423, 424, 425, 426, 427, 263, 264, 265, 266, 428, 429, 430, 431, 434, 22] : List Nat).filterMap (fun i => lw_tbl[i]?) := by rfl
set_option maxRecDepth 20000 in
theorem wsIn_10 : wsL_law_r10 = ([435, 438, 23, 439, 281, 2, 282, 301, 442, 24, 443, 446, 25, 447, 449, 450, 451, 452, 348, 349, 350, 351, 393, 394] : List Nat).filterMap (fun i => lw_tbl[i]?) := by rfl
set_option maxRecDepth 20000 in
theorem wsIn_11 : wsL_law_r11 = ([395, 396, 271, 272, 273, 274, 304, 5, 305, 308, 6, 309, 312, 313, 453, 454, 455, 352, 353, 354, 355, 356, 358, 12] : List Nat).filterMap (fun i => lw_tbl[i]?) := by rfl
set_option maxRecDepth 20000 in
theorem wsIn_12 : wsL_law_r12 = ([359, 456, 457, 458, 459, 462, 26, 463, 160, 464, 466, 27, 467, 468, 469, 470, 471, 472, 473, 474, 477, 28, 478, 319] : List Nat).filterMap (fun i => lw_tbl[i]?) := by rfl
set_option maxRecDepth 20000 in
theorem wsIn_13 : wsL_law_r13 = ([320, 321, 322, 479, 480, 481, 482, 483, 484, 485, 486, 487, 488, 489, 490, 491, 492, 493, 494, 495, 496, 497, 498, 499] : List Nat).filterMap (fun i => lw_tbl[i]?) := by rfl
set_option maxRecDepth 20000 in
theorem wsIn_14 : wsL_law_r14 = ([500, 501, 502, 503, 504, 507, 29, 508, 509, 510, 511, 512, 515, 30, 516, 519, 31, 520, 521, 522, 45, 523, 524, 525] : List Nat).filterMap (fun i => lw_tbl[i]?) := by rfl
set_option maxRecDepth 20000 in
theorem wsIn_15 : wsL_law_r15 = ([526, 529, 32, 530, 532, 531, 533, 534, 535, 536] : List Nat).filterMap (fun i => lw_tbl[i]?) := by rfl
theorem wsIn_of {ws : List Cond} {is : List Nat} (h : ws = is.filterMap (fun i => lw_tbl[i]?)) : ∀ w ∈ ws, w ∈ lw_tbl := by
  intro w hw
  rw [h] at hw
  obtain ⟨i, -, hi⟩ := List.mem_filterMap.mp hw
  exact List.mem_of_getElem? hi
theorem wsLay_8 : ∀ w ∈ wsX80, w ∈ lw_tbl := by decide +kernel
theorem wsLay_5 : ∀ w ∈ wsX50, w ∈ lw_tbl := by decide +kernel
theorem wsLay_7 : ∀ w ∈ wsX70, w ∈ lw_tbl := by decide +kernel
theorem wsLay_3 : ∀ w ∈ wsX30, w ∈ lw_tbl := by decide +kernel
theorem wsLay_1 : ∀ w ∈ wsX10, w ∈ lw_tbl := by decide +kernel
theorem wsLay_4 : ∀ w ∈ wsX40, w ∈ lw_tbl := by decide +kernel
theorem wsLay_2 : ∀ w ∈ wsX20, w ∈ lw_tbl := by decide +kernel
theorem wsLay_0 : ∀ w ∈ wsX00, w ∈ lw_tbl := by decide +kernel
theorem wsLay_6 : ∀ w ∈ wsX60, w ∈ lw_tbl := by decide +kernel
theorem wsL_in : ∀ w ∈ wsL_law, w ∈ lw_tbl := by
  intro w hw
  unfold wsL_law at hw
  simp only [List.mem_append, List.not_mem_nil, or_false] at hw
  rcases hw with (((((((((h | h | h | h | h | h | h | h | h | h | h | h | h | h | h) | h) | h) | h) | h) | h) | h) | h) | h) | h
  · exact wsIn_of wsIn_1 w h
  · exact wsIn_of wsIn_2 w h
  · exact wsIn_of wsIn_3 w h
  · exact wsIn_of wsIn_4 w h
  · exact wsIn_of wsIn_5 w h
  · exact wsIn_of wsIn_6 w h
  · exact wsIn_of wsIn_7 w h
  · exact wsIn_of wsIn_8 w h
  · exact wsIn_of wsIn_9 w h
  · exact wsIn_of wsIn_10 w h
  · exact wsIn_of wsIn_11 w h
  · exact wsIn_of wsIn_12 w h
  · exact wsIn_of wsIn_13 w h
  · exact wsIn_of wsIn_14 w h
  · exact wsIn_of wsIn_15 w h
  · exact wsLay_8 w h
  · exact wsLay_5 w h
  · exact wsLay_7 w h
  · exact wsLay_3 w h
  · exact wsLay_1 w h
  · exact wsLay_4 w h
  · exact wsLay_2 w h
  · exact wsLay_0 w h
  · exact wsLay_6 w h

set_option maxRecDepth 20000 in
theorem wq_0 : Cond.arrayClass .int ∈ wsL_law := List.mem_of_getElem? (i := 0) rfl
set_option maxRecDepth 20000 in
theorem wq_1 : Cond.classLink RL 10 RX8 ∈ wsL_law := List.mem_of_getElem? (i := 1) rfl
set_option maxRecDepth 20000 in
theorem wq_2 : Cond.instantiable RX8 8 ∈ wsL_law := List.mem_of_getElem? (i := 2) rfl
set_option maxRecDepth 20000 in
theorem wq_3 : Cond.initialized RX8 ∈ wsL_law := List.mem_of_getElem? (i := 3) rfl
set_option maxRecDepth 20000 in
theorem wq_4 : Cond.methodLink RL 83 yX8_init ∈ wsL_law := List.mem_of_getElem? (i := 4) rfl
set_option maxRecDepth 20000 in
theorem wq_5 : Cond.instanceMethod yX8_init ∈ wsL_law := List.mem_of_getElem? (i := 5) rfl
set_option maxRecDepth 20000 in
theorem wq_6 : Cond.code yX8_init cX8_init 1 none ∈ wsL_law := List.mem_of_getElem? (i := 6) rfl
set_option maxRecDepth 20000 in
theorem wq_7 : Cond.methodLink RX8 1 objectInit ∈ wsL_law := List.mem_of_getElem? (i := 7) rfl
set_option maxRecDepth 20000 in
theorem wq_8 : Cond.instanceMethod objectInit ∈ wsL_law := List.mem_of_getElem? (i := 8) rfl
set_option maxRecDepth 20000 in
theorem wq_9 : Cond.code objectInit ⟨#[0xb1]⟩ 1 none ∈ wsL_law := List.mem_of_getElem? (i := 9) rfl
set_option maxRecDepth 20000 in
theorem wq_10 : Cond.classLink RX8 7 RX5 ∈ wsL_law := List.mem_of_getElem? (i := 10) rfl
set_option maxRecDepth 20000 in
theorem wq_11 : Cond.instantiable RX5 2 ∈ wsL_law := List.mem_of_getElem? (i := 11) rfl
set_option maxRecDepth 20000 in
theorem wq_12 : Cond.initialized RX5 ∈ wsL_law := List.mem_of_getElem? (i := 12) rfl
set_option maxRecDepth 20000 in
theorem wq_13 : Cond.fieldLink RX8 10 "ProverbCollection" "buffer" "LProverbCollection$Sequence;" ∈ wsL_law := List.mem_of_getElem? (i := 13) rfl
set_option maxRecDepth 20000 in
theorem wq_14 : Cond.classLink RX8 16 RX7 ∈ wsL_law := List.mem_of_getElem? (i := 14) rfl
set_option maxRecDepth 20000 in
theorem wq_15 : Cond.instantiable RX7 6 ∈ wsL_law := List.mem_of_getElem? (i := 15) rfl
set_option maxRecDepth 20000 in
theorem wq_16 : Cond.initialized RX7 ∈ wsL_law := List.mem_of_getElem? (i := 16) rfl
set_option maxRecDepth 20000 in
theorem wq_17 : Cond.fieldLink RX8 19 "ProverbCollection" "now" "LProverbCollection$State;" ∈ wsL_law := List.mem_of_getElem? (i := 17) rfl
set_option maxRecDepth 20000 in
theorem wq_18 : Cond.classLink RX8 23 RX3 ∈ wsL_law := List.mem_of_getElem? (i := 18) rfl
set_option maxRecDepth 20000 in
theorem wq_19 : Cond.instantiable RX3 3 ∈ wsL_law := List.mem_of_getElem? (i := 19) rfl
set_option maxRecDepth 20000 in
theorem wq_20 : Cond.initialized RX3 ∈ wsL_law := List.mem_of_getElem? (i := 20) rfl
set_option maxRecDepth 20000 in
theorem wq_21 : Cond.fieldLink RX8 26 "ProverbCollection" "history" "LProverbCollection$History;" ∈ wsL_law := List.mem_of_getElem? (i := 21) rfl
set_option maxRecDepth 20000 in
theorem wq_22 : Cond.classLink RX8 30 RX1 ∈ wsL_law := List.mem_of_getElem? (i := 22) rfl
set_option maxRecDepth 20000 in
theorem wq_23 : Cond.instantiable RX1 5 ∈ wsL_law := List.mem_of_getElem? (i := 23) rfl
set_option maxRecDepth 20000 in
theorem wq_24 : Cond.initialized RX1 ∈ wsL_law := List.mem_of_getElem? (i := 24) rfl
set_option maxRecDepth 20000 in
theorem wq_25 : Cond.fieldLink RX8 33 "ProverbCollection" "edits" "LProverbCollection$Edits;" ∈ wsL_law := List.mem_of_getElem? (i := 25) rfl
set_option maxRecDepth 20000 in
theorem wq_26 : Cond.classLink RX8 37 RX4 ∈ wsL_law := List.mem_of_getElem? (i := 26) rfl
set_option maxRecDepth 20000 in
theorem wq_27 : Cond.instantiable RX4 5 ∈ wsL_law := List.mem_of_getElem? (i := 27) rfl
set_option maxRecDepth 20000 in
theorem wq_28 : Cond.initialized RX4 ∈ wsL_law := List.mem_of_getElem? (i := 28) rfl
set_option maxRecDepth 20000 in
theorem wq_29 : Cond.fieldLink RX8 40 "ProverbCollection" "matcher" "LProverbCollection$Matcher;" ∈ wsL_law := List.mem_of_getElem? (i := 29) rfl
set_option maxRecDepth 20000 in
theorem wq_30 : Cond.classLink RX8 44 RX2 ∈ wsL_law := List.mem_of_getElem? (i := 30) rfl
set_option maxRecDepth 20000 in
theorem wq_31 : Cond.instantiable RX2 4 ∈ wsL_law := List.mem_of_getElem? (i := 31) rfl
set_option maxRecDepth 20000 in
theorem wq_32 : Cond.initialized RX2 ∈ wsL_law := List.mem_of_getElem? (i := 32) rfl
set_option maxRecDepth 20000 in
theorem wq_33 : Cond.fieldLink RX8 47 "ProverbCollection" "groups" "LProverbCollection$Groups;" ∈ wsL_law := List.mem_of_getElem? (i := 33) rfl
set_option maxRecDepth 20000 in
theorem wq_34 : Cond.classLink RX8 51 RX0 ∈ wsL_law := List.mem_of_getElem? (i := 34) rfl
set_option maxRecDepth 20000 in
theorem wq_35 : Cond.instantiable RX0 4 ∈ wsL_law := List.mem_of_getElem? (i := 35) rfl
set_option maxRecDepth 20000 in
theorem wq_36 : Cond.initialized RX0 ∈ wsL_law := List.mem_of_getElem? (i := 36) rfl
set_option maxRecDepth 20000 in
theorem wq_37 : Cond.fieldLink RX8 54 "ProverbCollection" "crossings" "LProverbCollection$Crossings;" ∈ wsL_law := List.mem_of_getElem? (i := 37) rfl
set_option maxRecDepth 20000 in
theorem wq_38 : Cond.fieldLink RX8 58 "ProverbCollection" "ageOrder" "[I" ∈ wsL_law := List.mem_of_getElem? (i := 38) rfl
set_option maxRecDepth 20000 in
theorem wq_39 : Cond.instanceMethod yX5_init ∈ wsL_law := List.mem_of_getElem? (i := 39) rfl
set_option maxRecDepth 20000 in
theorem wq_40 : Cond.code yX5_init cX5_init 1 none ∈ wsL_law := List.mem_of_getElem? (i := 40) rfl
set_option maxRecDepth 20000 in
theorem wq_41 : Cond.methodLink RX5 3 objectInit ∈ wsL_law := List.mem_of_getElem? (i := 41) rfl
set_option maxRecDepth 20000 in
theorem wq_42 : Cond.fieldLink RX5 9 "ProverbCollection$Sequence" "tokens" "[I" ∈ wsL_law := List.mem_of_getElem? (i := 42) rfl
set_option maxRecDepth 20000 in
theorem wq_43 : Cond.instanceMethod yX7_init ∈ wsL_law := List.mem_of_getElem? (i := 43) rfl
set_option maxRecDepth 20000 in
theorem wq_44 : Cond.code yX7_init cX7_init 1 none ∈ wsL_law := List.mem_of_getElem? (i := 44) rfl
set_option maxRecDepth 20000 in
theorem wq_45 : Cond.methodLink RX7 3 objectInit ∈ wsL_law := List.mem_of_getElem? (i := 45) rfl
set_option maxRecDepth 20000 in
theorem wq_46 : Cond.classLink RX7 9 RX6 ∈ wsL_law := List.mem_of_getElem? (i := 46) rfl
set_option maxRecDepth 20000 in
theorem wq_47 : Cond.instantiable RX6 4 ∈ wsL_law := List.mem_of_getElem? (i := 47) rfl
set_option maxRecDepth 20000 in
theorem wq_48 : Cond.initialized RX6 ∈ wsL_law := List.mem_of_getElem? (i := 48) rfl
set_option maxRecDepth 20000 in
theorem wq_49 : Cond.fieldLink RX7 14 "ProverbCollection$State" "sayings" "LProverbCollection$Shelf;" ∈ wsL_law := List.mem_of_getElem? (i := 49) rfl
set_option maxRecDepth 20000 in
theorem wq_50 : Cond.fieldLink RX7 20 "ProverbCollection$State" "years" "[I" ∈ wsL_law := List.mem_of_getElem? (i := 50) rfl
set_option maxRecDepth 20000 in
theorem wq_51 : Cond.fieldLink RX7 24 "ProverbCollection$State" "regions" "[I" ∈ wsL_law := List.mem_of_getElem? (i := 51) rfl
set_option maxRecDepth 20000 in
theorem wq_52 : Cond.fieldLink RX7 27 "ProverbCollection$State" "patterns" "LProverbCollection$Shelf;" ∈ wsL_law := List.mem_of_getElem? (i := 52) rfl
set_option maxRecDepth 20000 in
theorem wq_53 : Cond.fieldLink RX7 30 "ProverbCollection$State" "costs" "[I" ∈ wsL_law := List.mem_of_getElem? (i := 53) rfl
set_option maxRecDepth 20000 in
theorem wq_54 : Cond.fieldLink RX7 33 "ProverbCollection$State" "limit" "I" ∈ wsL_law := List.mem_of_getElem? (i := 54) rfl
set_option maxRecDepth 20000 in
theorem wq_55 : Cond.instanceMethod yX6_init ∈ wsL_law := List.mem_of_getElem? (i := 55) rfl
set_option maxRecDepth 20000 in
theorem wq_56 : Cond.code yX6_init cX6_init 2 none ∈ wsL_law := List.mem_of_getElem? (i := 56) rfl
set_option maxRecDepth 20000 in
theorem wq_57 : Cond.methodLink RX6 3 objectInit ∈ wsL_law := List.mem_of_getElem? (i := 57) rfl
set_option maxRecDepth 20000 in
theorem wq_58 : Cond.fieldLink RX6 9 "ProverbCollection$Shelf" "most" "I" ∈ wsL_law := List.mem_of_getElem? (i := 58) rfl
set_option maxRecDepth 20000 in
theorem wq_59 : Cond.fieldLink RX6 15 "ProverbCollection$Shelf" "tokens" "[I" ∈ wsL_law := List.mem_of_getElem? (i := 59) rfl
set_option maxRecDepth 20000 in
theorem wq_60 : Cond.fieldLink RX6 19 "ProverbCollection$Shelf" "lengths" "[I" ∈ wsL_law := List.mem_of_getElem? (i := 60) rfl
set_option maxRecDepth 20000 in
theorem wq_61 : Cond.instanceMethod yX3_init ∈ wsL_law := List.mem_of_getElem? (i := 61) rfl
set_option maxRecDepth 20000 in
theorem wq_62 : Cond.code yX3_init cX3_init 2 none ∈ wsL_law := List.mem_of_getElem? (i := 62) rfl
set_option maxRecDepth 20000 in
theorem wq_63 : Cond.methodLink RX3 3 objectInit ∈ wsL_law := List.mem_of_getElem? (i := 63) rfl
set_option maxRecDepth 20000 in
theorem wq_64 : Cond.classLink RX3 9 RX7 ∈ wsL_law := List.mem_of_getElem? (i := 64) rfl
set_option maxRecDepth 20000 in
theorem wq_65 : Cond.fieldLink RX3 11 "ProverbCollection$History" "ring" "[LProverbCollection$State;" ∈ wsL_law := List.mem_of_getElem? (i := 65) rfl
set_option maxRecDepth 20000 in
theorem wq_66 : Cond.instanceMethod yX1_init ∈ wsL_law := List.mem_of_getElem? (i := 66) rfl
set_option maxRecDepth 20000 in
theorem wq_67 : Cond.code yX1_init cX1_init 1 none ∈ wsL_law := List.mem_of_getElem? (i := 67) rfl
set_option maxRecDepth 20000 in
theorem wq_68 : Cond.methodLink RX1 3 objectInit ∈ wsL_law := List.mem_of_getElem? (i := 68) rfl
set_option maxRecDepth 20000 in
theorem wq_69 : Cond.classLink RX1 9 RX5 ∈ wsL_law := List.mem_of_getElem? (i := 69) rfl
set_option maxRecDepth 20000 in
theorem wq_70 : Cond.fieldLink RX1 12 "ProverbCollection$Edits" "first" "LProverbCollection$Sequence;" ∈ wsL_law := List.mem_of_getElem? (i := 70) rfl
set_option maxRecDepth 20000 in
theorem wq_71 : Cond.fieldLink RX1 18 "ProverbCollection$Edits" "second" "LProverbCollection$Sequence;" ∈ wsL_law := List.mem_of_getElem? (i := 71) rfl
set_option maxRecDepth 20000 in
theorem wq_72 : Cond.classLink RX1 21 "[[I" ∈ wsL_law := List.mem_of_getElem? (i := 72) rfl
set_option maxRecDepth 20000 in
theorem wq_73 : Cond.fieldLink RX1 23 "ProverbCollection$Edits" "table" "[[I" ∈ wsL_law := List.mem_of_getElem? (i := 73) rfl
set_option maxRecDepth 20000 in
theorem wq_74 : Cond.fieldLink RX1 26 "ProverbCollection$Edits" "list" "[I" ∈ wsL_law := List.mem_of_getElem? (i := 74) rfl
set_option maxRecDepth 20000 in
theorem wq_75 : Cond.instanceMethod yX4_init ∈ wsL_law := List.mem_of_getElem? (i := 75) rfl
set_option maxRecDepth 20000 in
theorem wq_76 : Cond.code yX4_init cX4_init 1 none ∈ wsL_law := List.mem_of_getElem? (i := 76) rfl
set_option maxRecDepth 20000 in
theorem wq_77 : Cond.methodLink RX4 3 objectInit ∈ wsL_law := List.mem_of_getElem? (i := 77) rfl
set_option maxRecDepth 20000 in
theorem wq_78 : Cond.classLink RX4 9 RX5 ∈ wsL_law := List.mem_of_getElem? (i := 78) rfl
set_option maxRecDepth 20000 in
theorem wq_79 : Cond.fieldLink RX4 12 "ProverbCollection$Matcher" "pattern" "LProverbCollection$Sequence;" ∈ wsL_law := List.mem_of_getElem? (i := 79) rfl
set_option maxRecDepth 20000 in
theorem wq_80 : Cond.fieldLink RX4 18 "ProverbCollection$Matcher" "saying" "LProverbCollection$Sequence;" ∈ wsL_law := List.mem_of_getElem? (i := 80) rfl
set_option maxRecDepth 20000 in
theorem wq_81 : Cond.fieldLink RX4 21 "ProverbCollection$Matcher" "slotWords" "[I" ∈ wsL_law := List.mem_of_getElem? (i := 81) rfl
set_option maxRecDepth 20000 in
theorem wq_82 : Cond.fieldLink RX4 25 "ProverbCollection$Matcher" "firstWord" "[I" ∈ wsL_law := List.mem_of_getElem? (i := 82) rfl
set_option maxRecDepth 20000 in
theorem wq_83 : Cond.instanceMethod yX2_init ∈ wsL_law := List.mem_of_getElem? (i := 83) rfl
set_option maxRecDepth 20000 in
theorem wq_84 : Cond.code yX2_init cX2_init 1 none ∈ wsL_law := List.mem_of_getElem? (i := 84) rfl
set_option maxRecDepth 20000 in
theorem wq_85 : Cond.methodLink RX2 3 objectInit ∈ wsL_law := List.mem_of_getElem? (i := 85) rfl
set_option maxRecDepth 20000 in
theorem wq_86 : Cond.fieldLink RX2 9 "ProverbCollection$Groups" "order" "[I" ∈ wsL_law := List.mem_of_getElem? (i := 86) rfl
set_option maxRecDepth 20000 in
theorem wq_87 : Cond.fieldLink RX2 15 "ProverbCollection$Groups" "memberOf" "[I" ∈ wsL_law := List.mem_of_getElem? (i := 87) rfl
set_option maxRecDepth 20000 in
theorem wq_88 : Cond.fieldLink RX2 18 "ProverbCollection$Groups" "centres" "[I" ∈ wsL_law := List.mem_of_getElem? (i := 88) rfl
set_option maxRecDepth 20000 in
theorem wq_89 : Cond.instanceMethod yX0_init ∈ wsL_law := List.mem_of_getElem? (i := 89) rfl
set_option maxRecDepth 20000 in
theorem wq_90 : Cond.code yX0_init cX0_init 1 none ∈ wsL_law := List.mem_of_getElem? (i := 90) rfl
set_option maxRecDepth 20000 in
theorem wq_91 : Cond.methodLink RX0 3 objectInit ∈ wsL_law := List.mem_of_getElem? (i := 91) rfl
set_option maxRecDepth 20000 in
theorem wq_92 : Cond.classLink RX0 9 RX5 ∈ wsL_law := List.mem_of_getElem? (i := 92) rfl
set_option maxRecDepth 20000 in
theorem wq_93 : Cond.fieldLink RX0 12 "ProverbCollection$Crossings" "front" "LProverbCollection$Sequence;" ∈ wsL_law := List.mem_of_getElem? (i := 93) rfl
set_option maxRecDepth 20000 in
theorem wq_94 : Cond.fieldLink RX0 18 "ProverbCollection$Crossings" "back" "LProverbCollection$Sequence;" ∈ wsL_law := List.mem_of_getElem? (i := 94) rfl
set_option maxRecDepth 20000 in
theorem wq_95 : Cond.fieldLink RX0 21 "ProverbCollection$Crossings" "order" "[I" ∈ wsL_law := List.mem_of_getElem? (i := 95) rfl
set_option maxRecDepth 20000 in
theorem wq_96 : Cond.fieldLink RX0 25 "ProverbCollection$Crossings" "apart" "[I" ∈ wsL_law := List.mem_of_getElem? (i := 96) rfl
set_option maxRecDepth 20000 in
theorem wq_97 : Cond.methodLink RL 68 yX8_undo ∈ wsL_law := List.mem_of_getElem? (i := 97) rfl
set_option maxRecDepth 20000 in
theorem wq_98 : Cond.instanceMethod yX8_undo ∈ wsL_law := List.mem_of_getElem? (i := 98) rfl
set_option maxRecDepth 20000 in
theorem wq_99 : Cond.selects RX8 yX8_undo yX8_undo ∈ wsL_law := List.mem_of_getElem? (i := 99) rfl
set_option maxRecDepth 20000 in
theorem wq_100 : Cond.code yX8_undo cX8_undo 1 (some .int) ∈ wsL_law := List.mem_of_getElem? (i := 100) rfl
set_option maxRecDepth 20000 in
theorem wq_101 : Cond.instanceMethod yX3_restore ∈ wsL_law := List.mem_of_getElem? (i := 101) rfl
set_option maxRecDepth 20000 in
theorem wq_102 : Cond.selects RX3 yX3_restore yX3_restore ∈ wsL_law := List.mem_of_getElem? (i := 102) rfl
set_option maxRecDepth 20000 in
theorem wq_103 : Cond.code yX3_restore cX3_restore 2 none ∈ wsL_law := List.mem_of_getElem? (i := 103) rfl
set_option maxRecDepth 20000 in
theorem wq_104 : Cond.fieldLink RX3 18 "ProverbCollection$History" "next" "I" ∈ wsL_law := List.mem_of_getElem? (i := 104) rfl
set_option maxRecDepth 20000 in
theorem wq_105 : Cond.fieldLink RX3 26 "ProverbCollection$History" "count" "I" ∈ wsL_law := List.mem_of_getElem? (i := 105) rfl
set_option maxRecDepth 20000 in
theorem wq_106 : Cond.instanceMethod yX7_copyFrom ∈ wsL_law := List.mem_of_getElem? (i := 106) rfl
set_option maxRecDepth 20000 in
theorem wq_107 : Cond.selects RX7 yX7_copyFrom yX7_copyFrom ∈ wsL_law := List.mem_of_getElem? (i := 107) rfl
set_option maxRecDepth 20000 in
theorem wq_108 : Cond.code yX7_copyFrom cX7_copyFrom 2 none ∈ wsL_law := List.mem_of_getElem? (i := 108) rfl
set_option maxRecDepth 20000 in
theorem wq_109 : Cond.instanceMethod yX6_copyFrom ∈ wsL_law := List.mem_of_getElem? (i := 109) rfl
set_option maxRecDepth 20000 in
theorem wq_110 : Cond.selects RX6 yX6_copyFrom yX6_copyFrom ∈ wsL_law := List.mem_of_getElem? (i := 110) rfl
set_option maxRecDepth 20000 in
theorem wq_111 : Cond.code yX6_copyFrom cX6_copyFrom 2 none ∈ wsL_law := List.mem_of_getElem? (i := 111) rfl
set_option maxRecDepth 20000 in
theorem wq_112 : Cond.fieldLink RX6 22 "ProverbCollection$Shelf" "count" "I" ∈ wsL_law := List.mem_of_getElem? (i := 112) rfl
set_option maxRecDepth 20000 in
theorem wq_113 : Cond.static yX8_copyAll ∈ wsL_law := List.mem_of_getElem? (i := 113) rfl
set_option maxRecDepth 20000 in
theorem wq_114 : Cond.code yX8_copyAll cX8_copyAll 2 none ∈ wsL_law := List.mem_of_getElem? (i := 114) rfl
set_option maxRecDepth 20000 in
theorem wq_115 : Cond.methodLink RX8 200 Lib.Math.min.name ∈ wsL_law := List.mem_of_getElem? (i := 115) rfl
set_option maxRecDepth 20000 in
theorem wq_116 : Cond.static Lib.Math.min.name ∈ wsL_law := List.mem_of_getElem? (i := 116) rfl
set_option maxRecDepth 20000 in
theorem wq_117 : Cond.initialized "java/lang/Math" ∈ wsL_law := List.mem_of_getElem? (i := 117) rfl
set_option maxRecDepth 20000 in
theorem wq_118 : Cond.code Lib.Math.min.name Lib.Math.min.code 2 (some .int) ∈ wsL_law := List.mem_of_getElem? (i := 118) rfl
set_option maxRecDepth 20000 in
theorem wq_119 : Cond.methodLink RX8 203 arraycopyName ∈ wsL_law := List.mem_of_getElem? (i := 119) rfl
set_option maxRecDepth 20000 in
theorem wq_120 : Cond.native arraycopyName ∈ wsL_law := List.mem_of_getElem? (i := 120) rfl
set_option maxRecDepth 20000 in
theorem wq_121 : Cond.static arraycopyName ∈ wsL_law := List.mem_of_getElem? (i := 121) rfl
set_option maxRecDepth 20000 in
theorem wq_122 : Cond.initialized "java/lang/System" ∈ wsL_law := List.mem_of_getElem? (i := 122) rfl
set_option maxRecDepth 20000 in
theorem wq_123 : Cond.methodLink RL 19 yX8_sayingCount ∈ wsL_law := List.mem_of_getElem? (i := 123) rfl
set_option maxRecDepth 20000 in
theorem wq_124 : Cond.instanceMethod yX8_sayingCount ∈ wsL_law := List.mem_of_getElem? (i := 124) rfl
set_option maxRecDepth 20000 in
theorem wq_125 : Cond.selects RX8 yX8_sayingCount yX8_sayingCount ∈ wsL_law := List.mem_of_getElem? (i := 125) rfl
set_option maxRecDepth 20000 in
theorem wq_126 : Cond.code yX8_sayingCount cX8_sayingCount 1 (some .int) ∈ wsL_law := List.mem_of_getElem? (i := 126) rfl
set_option maxRecDepth 20000 in
theorem wq_127 : Cond.methodLink RL 71 yX8_groupCount ∈ wsL_law := List.mem_of_getElem? (i := 127) rfl
set_option maxRecDepth 20000 in
theorem wq_128 : Cond.instanceMethod yX8_groupCount ∈ wsL_law := List.mem_of_getElem? (i := 128) rfl
set_option maxRecDepth 20000 in
theorem wq_129 : Cond.selects RX8 yX8_groupCount yX8_groupCount ∈ wsL_law := List.mem_of_getElem? (i := 129) rfl
set_option maxRecDepth 20000 in
theorem wq_130 : Cond.code yX8_groupCount cX8_groupCount 1 (some .int) ∈ wsL_law := List.mem_of_getElem? (i := 130) rfl
set_option maxRecDepth 20000 in
theorem wq_131 : Cond.instanceMethod yX2_form ∈ wsL_law := List.mem_of_getElem? (i := 131) rfl
set_option maxRecDepth 20000 in
theorem wq_132 : Cond.selects RX2 yX2_form yX2_form ∈ wsL_law := List.mem_of_getElem? (i := 132) rfl
set_option maxRecDepth 20000 in
theorem wq_133 : Cond.code yX2_form cX2_form 7 none ∈ wsL_law := List.mem_of_getElem? (i := 133) rfl
set_option maxRecDepth 20000 in
theorem wq_134 : Cond.fieldLink RX2 21 "ProverbCollection$Groups" "count" "I" ∈ wsL_law := List.mem_of_getElem? (i := 134) rfl
set_option maxRecDepth 20000 in
theorem wq_135 : Cond.instanceMethod yX7_sortByAge ∈ wsL_law := List.mem_of_getElem? (i := 135) rfl
set_option maxRecDepth 20000 in
theorem wq_136 : Cond.selects RX7 yX7_sortByAge yX7_sortByAge ∈ wsL_law := List.mem_of_getElem? (i := 136) rfl
set_option maxRecDepth 20000 in
theorem wq_137 : Cond.code yX7_sortByAge cX7_sortByAge 4 none ∈ wsL_law := List.mem_of_getElem? (i := 137) rfl
set_option maxRecDepth 20000 in
theorem wq_138 : Cond.methodLink RX7 67 yX7_place ∈ wsL_law := List.mem_of_getElem? (i := 138) rfl
set_option maxRecDepth 20000 in
theorem wq_139 : Cond.instanceMethod yX7_place ∈ wsL_law := List.mem_of_getElem? (i := 139) rfl
set_option maxRecDepth 20000 in
theorem wq_140 : Cond.selects RX7 yX7_place yX7_place ∈ wsL_law := List.mem_of_getElem? (i := 140) rfl
set_option maxRecDepth 20000 in
theorem wq_141 : Cond.code yX7_place cX7_place 4 (some .int) ∈ wsL_law := List.mem_of_getElem? (i := 141) rfl
set_option maxRecDepth 20000 in
theorem wq_142 : Cond.methodLink RX7 63 yX7_isOlder ∈ wsL_law := List.mem_of_getElem? (i := 142) rfl
set_option maxRecDepth 20000 in
theorem wq_143 : Cond.instanceMethod yX7_isOlder ∈ wsL_law := List.mem_of_getElem? (i := 143) rfl
set_option maxRecDepth 20000 in
theorem wq_144 : Cond.selects RX7 yX7_isOlder yX7_isOlder ∈ wsL_law := List.mem_of_getElem? (i := 144) rfl
set_option maxRecDepth 20000 in
theorem wq_145 : Cond.code yX7_isOlder cX7_isOlder 3 (some .boolean) ∈ wsL_law := List.mem_of_getElem? (i := 145) rfl
set_option maxRecDepth 20000 in
theorem wq_146 : Cond.instanceMethod yX6_has ∈ wsL_law := List.mem_of_getElem? (i := 146) rfl
set_option maxRecDepth 20000 in
theorem wq_147 : Cond.selects RX6 yX6_has yX6_has ∈ wsL_law := List.mem_of_getElem? (i := 147) rfl
set_option maxRecDepth 20000 in
theorem wq_148 : Cond.code yX6_has cX6_has 2 (some .boolean) ∈ wsL_law := List.mem_of_getElem? (i := 148) rfl
set_option maxRecDepth 20000 in
theorem wq_149 : Cond.instanceMethod yX1_between ∈ wsL_law := List.mem_of_getElem? (i := 149) rfl
set_option maxRecDepth 20000 in
theorem wq_150 : Cond.selects RX1 yX1_between yX1_between ∈ wsL_law := List.mem_of_getElem? (i := 150) rfl
set_option maxRecDepth 20000 in
theorem wq_151 : Cond.code yX1_between cX1_between 4 (some .int) ∈ wsL_law := List.mem_of_getElem? (i := 151) rfl
set_option maxRecDepth 20000 in
theorem wq_152 : Cond.instanceMethod yX6_load ∈ wsL_law := List.mem_of_getElem? (i := 152) rfl
set_option maxRecDepth 20000 in
theorem wq_153 : Cond.selects RX6 yX6_load yX6_load ∈ wsL_law := List.mem_of_getElem? (i := 153) rfl
set_option maxRecDepth 20000 in
theorem wq_154 : Cond.code yX6_load cX6_load 4 none ∈ wsL_law := List.mem_of_getElem? (i := 154) rfl
set_option maxRecDepth 20000 in
theorem wq_155 : Cond.methodLink RX6 42 yX6_size ∈ wsL_law := List.mem_of_getElem? (i := 155) rfl
set_option maxRecDepth 20000 in
theorem wq_156 : Cond.instanceMethod yX6_size ∈ wsL_law := List.mem_of_getElem? (i := 156) rfl
set_option maxRecDepth 20000 in
theorem wq_157 : Cond.selects RX6 yX6_size yX6_size ∈ wsL_law := List.mem_of_getElem? (i := 157) rfl
set_option maxRecDepth 20000 in
theorem wq_158 : Cond.code yX6_size cX6_size 2 (some .int) ∈ wsL_law := List.mem_of_getElem? (i := 158) rfl
set_option maxRecDepth 20000 in
theorem wq_159 : Cond.methodLink RX6 25 yX6_has ∈ wsL_law := List.mem_of_getElem? (i := 159) rfl
set_option maxRecDepth 20000 in
theorem wq_160 : Cond.methodLink RX6 45 yX6_token ∈ wsL_law := List.mem_of_getElem? (i := 160) rfl
set_option maxRecDepth 20000 in
theorem wq_161 : Cond.instanceMethod yX6_token ∈ wsL_law := List.mem_of_getElem? (i := 161) rfl
set_option maxRecDepth 20000 in
theorem wq_162 : Cond.selects RX6 yX6_token yX6_token ∈ wsL_law := List.mem_of_getElem? (i := 162) rfl
set_option maxRecDepth 20000 in
theorem wq_163 : Cond.code yX6_token cX6_token 3 (some .int) ∈ wsL_law := List.mem_of_getElem? (i := 163) rfl
set_option maxRecDepth 20000 in
theorem wq_164 : Cond.instanceMethod yX5_add ∈ wsL_law := List.mem_of_getElem? (i := 164) rfl
set_option maxRecDepth 20000 in
theorem wq_165 : Cond.selects RX5 yX5_add yX5_add ∈ wsL_law := List.mem_of_getElem? (i := 165) rfl
set_option maxRecDepth 20000 in
theorem wq_166 : Cond.code yX5_add cX5_add 2 none ∈ wsL_law := List.mem_of_getElem? (i := 166) rfl
set_option maxRecDepth 20000 in
theorem wq_167 : Cond.fieldLink RX5 15 "ProverbCollection$Sequence" "length" "I" ∈ wsL_law := List.mem_of_getElem? (i := 167) rfl
set_option maxRecDepth 20000 in
theorem wq_168 : Cond.methodLink RX1 45 yX1_measure ∈ wsL_law := List.mem_of_getElem? (i := 168) rfl
set_option maxRecDepth 20000 in
theorem wq_169 : Cond.instanceMethod yX1_measure ∈ wsL_law := List.mem_of_getElem? (i := 169) rfl
set_option maxRecDepth 20000 in
theorem wq_170 : Cond.selects RX1 yX1_measure yX1_measure ∈ wsL_law := List.mem_of_getElem? (i := 170) rfl
set_option maxRecDepth 20000 in
theorem wq_171 : Cond.code yX1_measure cX1_measure 6 (some .int) ∈ wsL_law := List.mem_of_getElem? (i := 171) rfl
set_option maxRecDepth 20000 in
theorem wq_172 : Cond.constant RX1 53 (1000000) ∈ wsL_law := List.mem_of_getElem? (i := 172) rfl
set_option maxRecDepth 20000 in
theorem wq_173 : Cond.methodLink RX1 58 Lib.Math.min.name ∈ wsL_law := List.mem_of_getElem? (i := 173) rfl
set_option maxRecDepth 20000 in
theorem wq_174 : Cond.methodLink RX1 54 yX1_by ∈ wsL_law := List.mem_of_getElem? (i := 174) rfl
set_option maxRecDepth 20000 in
theorem wq_175 : Cond.instanceMethod yX1_by ∈ wsL_law := List.mem_of_getElem? (i := 175) rfl
set_option maxRecDepth 20000 in
theorem wq_176 : Cond.selects RX1 yX1_by yX1_by ∈ wsL_law := List.mem_of_getElem? (i := 176) rfl
set_option maxRecDepth 20000 in
theorem wq_177 : Cond.code yX1_by cX1_by 5 (some .int) ∈ wsL_law := List.mem_of_getElem? (i := 177) rfl
set_option maxRecDepth 20000 in
theorem wq_178 : Cond.methodLink RX1 64 yX1_replacing ∈ wsL_law := List.mem_of_getElem? (i := 178) rfl
set_option maxRecDepth 20000 in
theorem wq_179 : Cond.instanceMethod yX1_replacing ∈ wsL_law := List.mem_of_getElem? (i := 179) rfl
set_option maxRecDepth 20000 in
theorem wq_180 : Cond.selects RX1 yX1_replacing yX1_replacing ∈ wsL_law := List.mem_of_getElem? (i := 180) rfl
set_option maxRecDepth 20000 in
theorem wq_181 : Cond.code yX1_replacing cX1_replacing 7 (some .int) ∈ wsL_law := List.mem_of_getElem? (i := 181) rfl
set_option maxRecDepth 20000 in
theorem wq_182 : Cond.instanceMethod yX5_at ∈ wsL_law := List.mem_of_getElem? (i := 182) rfl
set_option maxRecDepth 20000 in
theorem wq_183 : Cond.selects RX5 yX5_at yX5_at ∈ wsL_law := List.mem_of_getElem? (i := 183) rfl
set_option maxRecDepth 20000 in
theorem wq_184 : Cond.code yX5_at cX5_at 2 (some .int) ∈ wsL_law := List.mem_of_getElem? (i := 184) rfl
set_option maxRecDepth 20000 in
theorem wq_185 : Cond.methodLink RX1 68 yX1_swaps ∈ wsL_law := List.mem_of_getElem? (i := 185) rfl
set_option maxRecDepth 20000 in
theorem wq_186 : Cond.instanceMethod yX1_swaps ∈ wsL_law := List.mem_of_getElem? (i := 186) rfl
set_option maxRecDepth 20000 in
theorem wq_187 : Cond.selects RX1 yX1_swaps yX1_swaps ∈ wsL_law := List.mem_of_getElem? (i := 187) rfl
set_option maxRecDepth 20000 in
theorem wq_188 : Cond.code yX1_swaps cX1_swaps 3 (some .boolean) ∈ wsL_law := List.mem_of_getElem? (i := 188) rfl
set_option maxRecDepth 20000 in
theorem wq_189 : Cond.methodLink RL 48 yX8_byAge ∈ wsL_law := List.mem_of_getElem? (i := 189) rfl
set_option maxRecDepth 20000 in
theorem wq_190 : Cond.instanceMethod yX8_byAge ∈ wsL_law := List.mem_of_getElem? (i := 190) rfl
set_option maxRecDepth 20000 in
theorem wq_191 : Cond.selects RX8 yX8_byAge yX8_byAge ∈ wsL_law := List.mem_of_getElem? (i := 191) rfl
set_option maxRecDepth 20000 in
theorem wq_192 : Cond.code yX8_byAge cX8_byAge 2 (some .int) ∈ wsL_law := List.mem_of_getElem? (i := 192) rfl
set_option maxRecDepth 20000 in
theorem wq_193 : Cond.methodLink RL 84 yL_cell ∈ wsL_law := List.mem_of_getElem? (i := 193) rfl
set_option maxRecDepth 20000 in
theorem wq_194 : Cond.static yL_cell ∈ wsL_law := List.mem_of_getElem? (i := 194) rfl
set_option maxRecDepth 20000 in
theorem wq_195 : Cond.initialized RL ∈ wsL_law := List.mem_of_getElem? (i := 195) rfl
set_option maxRecDepth 20000 in
theorem wq_196 : Cond.code yL_cell cL_cell 2 (some .int) ∈ wsL_law := List.mem_of_getElem? (i := 196) rfl
set_option maxRecDepth 20000 in
theorem wq_197 : Cond.constant RL 7 (15485599) ∈ wsL_law := List.mem_of_getElem? (i := 197) rfl
set_option maxRecDepth 20000 in
theorem wq_198 : Cond.constant RL 8 (2147483647) ∈ wsL_law := List.mem_of_getElem? (i := 198) rfl
set_option maxRecDepth 20000 in
theorem wq_199 : Cond.methodLink RL 88 yL_adds ∈ wsL_law := List.mem_of_getElem? (i := 199) rfl
set_option maxRecDepth 20000 in
theorem wq_200 : Cond.static yL_adds ∈ wsL_law := List.mem_of_getElem? (i := 200) rfl
set_option maxRecDepth 20000 in
theorem wq_201 : Cond.code yL_adds cL_adds 6 (some .boolean) ∈ wsL_law := List.mem_of_getElem? (i := 201) rfl
set_option maxRecDepth 20000 in
theorem wq_202 : Cond.methodLink RL 9 yX8_clear ∈ wsL_law := List.mem_of_getElem? (i := 202) rfl
set_option maxRecDepth 20000 in
theorem wq_203 : Cond.instanceMethod yX8_clear ∈ wsL_law := List.mem_of_getElem? (i := 203) rfl
set_option maxRecDepth 20000 in
theorem wq_204 : Cond.selects RX8 yX8_clear yX8_clear ∈ wsL_law := List.mem_of_getElem? (i := 204) rfl
set_option maxRecDepth 20000 in
theorem wq_205 : Cond.code yX8_clear cX8_clear 2 (some .int) ∈ wsL_law := List.mem_of_getElem? (i := 205) rfl
set_option maxRecDepth 20000 in
theorem wq_206 : Cond.methodLink RL 15 yX8_append ∈ wsL_law := List.mem_of_getElem? (i := 206) rfl
set_option maxRecDepth 20000 in
theorem wq_207 : Cond.instanceMethod yX8_append ∈ wsL_law := List.mem_of_getElem? (i := 207) rfl
set_option maxRecDepth 20000 in
theorem wq_208 : Cond.selects RX8 yX8_append yX8_append ∈ wsL_law := List.mem_of_getElem? (i := 208) rfl
set_option maxRecDepth 20000 in
theorem wq_209 : Cond.code yX8_append cX8_append 2 (some .int) ∈ wsL_law := List.mem_of_getElem? (i := 209) rfl
set_option maxRecDepth 20000 in
theorem wq_210 : Cond.methodLink RL 22 yX8_addSaying ∈ wsL_law := List.mem_of_getElem? (i := 210) rfl
set_option maxRecDepth 20000 in
theorem wq_211 : Cond.instanceMethod yX8_addSaying ∈ wsL_law := List.mem_of_getElem? (i := 211) rfl
set_option maxRecDepth 20000 in
theorem wq_212 : Cond.selects RX8 yX8_addSaying yX8_addSaying ∈ wsL_law := List.mem_of_getElem? (i := 212) rfl
set_option maxRecDepth 20000 in
theorem wq_213 : Cond.code yX8_addSaying cX8_addSaying 4 (some .int) ∈ wsL_law := List.mem_of_getElem? (i := 213) rfl
set_option maxRecDepth 20000 in
theorem wq_214 : Cond.instanceMethod yX5_wordCount ∈ wsL_law := List.mem_of_getElem? (i := 214) rfl
set_option maxRecDepth 20000 in
theorem wq_215 : Cond.selects RX5 yX5_wordCount yX5_wordCount ∈ wsL_law := List.mem_of_getElem? (i := 215) rfl
set_option maxRecDepth 20000 in
theorem wq_216 : Cond.code yX5_wordCount cX5_wordCount 3 (some .int) ∈ wsL_law := List.mem_of_getElem? (i := 216) rfl
set_option maxRecDepth 20000 in
theorem wq_217 : Cond.instanceMethod yX6_isFull ∈ wsL_law := List.mem_of_getElem? (i := 217) rfl
set_option maxRecDepth 20000 in
theorem wq_218 : Cond.selects RX6 yX6_isFull yX6_isFull ∈ wsL_law := List.mem_of_getElem? (i := 218) rfl
set_option maxRecDepth 20000 in
theorem wq_219 : Cond.code yX6_isFull cX6_isFull 1 (some .boolean) ∈ wsL_law := List.mem_of_getElem? (i := 219) rfl
set_option maxRecDepth 20000 in
theorem wq_220 : Cond.instanceMethod yX3_keep ∈ wsL_law := List.mem_of_getElem? (i := 220) rfl
set_option maxRecDepth 20000 in
theorem wq_221 : Cond.selects RX3 yX3_keep yX3_keep ∈ wsL_law := List.mem_of_getElem? (i := 221) rfl
set_option maxRecDepth 20000 in
theorem wq_222 : Cond.code yX3_keep cX3_keep 2 none ∈ wsL_law := List.mem_of_getElem? (i := 222) rfl
set_option maxRecDepth 20000 in
theorem wq_223 : Cond.methodLink RX3 29 Lib.Math.min.name ∈ wsL_law := List.mem_of_getElem? (i := 223) rfl
set_option maxRecDepth 20000 in
theorem wq_224 : Cond.instanceMethod yX7_takeSaying ∈ wsL_law := List.mem_of_getElem? (i := 224) rfl
set_option maxRecDepth 20000 in
theorem wq_225 : Cond.selects RX7 yX7_takeSaying yX7_takeSaying ∈ wsL_law := List.mem_of_getElem? (i := 225) rfl
set_option maxRecDepth 20000 in
theorem wq_226 : Cond.code yX7_takeSaying cX7_takeSaying 5 (some .int) ∈ wsL_law := List.mem_of_getElem? (i := 226) rfl
set_option maxRecDepth 20000 in
theorem wq_227 : Cond.instanceMethod yX6_add ∈ wsL_law := List.mem_of_getElem? (i := 227) rfl
set_option maxRecDepth 20000 in
theorem wq_228 : Cond.selects RX6 yX6_add yX6_add ∈ wsL_law := List.mem_of_getElem? (i := 228) rfl
set_option maxRecDepth 20000 in
theorem wq_229 : Cond.code yX6_add cX6_add 4 (some .int) ∈ wsL_law := List.mem_of_getElem? (i := 229) rfl
set_option maxRecDepth 20000 in
theorem wq_230 : Cond.methodLink RL 26 yX8_lengthOf ∈ wsL_law := List.mem_of_getElem? (i := 230) rfl
set_option maxRecDepth 20000 in
theorem wq_231 : Cond.instanceMethod yX8_lengthOf ∈ wsL_law := List.mem_of_getElem? (i := 231) rfl
set_option maxRecDepth 20000 in
theorem wq_232 : Cond.selects RX8 yX8_lengthOf yX8_lengthOf ∈ wsL_law := List.mem_of_getElem? (i := 232) rfl
set_option maxRecDepth 20000 in
theorem wq_233 : Cond.code yX8_lengthOf cX8_lengthOf 2 (some .int) ∈ wsL_law := List.mem_of_getElem? (i := 233) rfl
set_option maxRecDepth 20000 in
theorem wq_234 : Cond.methodLink RL 92 yX8_setCost ∈ wsL_law := List.mem_of_getElem? (i := 234) rfl
set_option maxRecDepth 20000 in
theorem wq_235 : Cond.instanceMethod yX8_setCost ∈ wsL_law := List.mem_of_getElem? (i := 235) rfl
set_option maxRecDepth 20000 in
theorem wq_236 : Cond.selects RX8 yX8_setCost yX8_setCost ∈ wsL_law := List.mem_of_getElem? (i := 236) rfl
set_option maxRecDepth 20000 in
theorem wq_237 : Cond.code yX8_setCost cX8_setCost 4 (some .int) ∈ wsL_law := List.mem_of_getElem? (i := 237) rfl
set_option maxRecDepth 20000 in
theorem wq_238 : Cond.methodLink RL 65 yX8_setLimit ∈ wsL_law := List.mem_of_getElem? (i := 238) rfl
set_option maxRecDepth 20000 in
theorem wq_239 : Cond.instanceMethod yX8_setLimit ∈ wsL_law := List.mem_of_getElem? (i := 239) rfl
set_option maxRecDepth 20000 in
theorem wq_240 : Cond.selects RX8 yX8_setLimit yX8_setLimit ∈ wsL_law := List.mem_of_getElem? (i := 240) rfl
set_option maxRecDepth 20000 in
theorem wq_241 : Cond.code yX8_setLimit cX8_setLimit 3 (some .int) ∈ wsL_law := List.mem_of_getElem? (i := 241) rfl
set_option maxRecDepth 20000 in
theorem wq_242 : Cond.methodLink RL 95 yX8_removeSaying ∈ wsL_law := List.mem_of_getElem? (i := 242) rfl
set_option maxRecDepth 20000 in
theorem wq_243 : Cond.instanceMethod yX8_removeSaying ∈ wsL_law := List.mem_of_getElem? (i := 243) rfl
set_option maxRecDepth 20000 in
theorem wq_244 : Cond.selects RX8 yX8_removeSaying yX8_removeSaying ∈ wsL_law := List.mem_of_getElem? (i := 244) rfl
set_option maxRecDepth 20000 in
theorem wq_245 : Cond.code yX8_removeSaying cX8_removeSaying 2 (some .int) ∈ wsL_law := List.mem_of_getElem? (i := 245) rfl
set_option maxRecDepth 20000 in
theorem wq_246 : Cond.instanceMethod yX7_dropSaying ∈ wsL_law := List.mem_of_getElem? (i := 246) rfl
set_option maxRecDepth 20000 in
theorem wq_247 : Cond.selects RX7 yX7_dropSaying yX7_dropSaying ∈ wsL_law := List.mem_of_getElem? (i := 247) rfl
set_option maxRecDepth 20000 in
theorem wq_248 : Cond.code yX7_dropSaying cX7_dropSaying 2 none ∈ wsL_law := List.mem_of_getElem? (i := 248) rfl
set_option maxRecDepth 20000 in
theorem wq_249 : Cond.instanceMethod yX6_drop ∈ wsL_law := List.mem_of_getElem? (i := 249) rfl
set_option maxRecDepth 20000 in
theorem wq_250 : Cond.selects RX6 yX6_drop yX6_drop ∈ wsL_law := List.mem_of_getElem? (i := 250) rfl
set_option maxRecDepth 20000 in
theorem wq_251 : Cond.code yX6_drop cX6_drop 2 none ∈ wsL_law := List.mem_of_getElem? (i := 251) rfl
set_option maxRecDepth 20000 in
theorem wq_252 : Cond.static yX8_closeUp ∈ wsL_law := List.mem_of_getElem? (i := 252) rfl
set_option maxRecDepth 20000 in
theorem wq_253 : Cond.code yX8_closeUp cX8_closeUp 4 none ∈ wsL_law := List.mem_of_getElem? (i := 253) rfl
set_option maxRecDepth 20000 in
theorem wq_254 : Cond.methodLink RL 98 yL_isWhole ∈ wsL_law := List.mem_of_getElem? (i := 254) rfl
set_option maxRecDepth 20000 in
theorem wq_255 : Cond.static yL_isWhole ∈ wsL_law := List.mem_of_getElem? (i := 255) rfl
set_option maxRecDepth 20000 in
theorem wq_256 : Cond.code yL_isWhole cL_isWhole 10 (some .boolean) ∈ wsL_law := List.mem_of_getElem? (i := 256) rfl
set_option maxRecDepth 20000 in
theorem wq_257 : Cond.methodLink RL 45 yX8_distance ∈ wsL_law := List.mem_of_getElem? (i := 257) rfl
set_option maxRecDepth 20000 in
theorem wq_258 : Cond.instanceMethod yX8_distance ∈ wsL_law := List.mem_of_getElem? (i := 258) rfl
set_option maxRecDepth 20000 in
theorem wq_259 : Cond.selects RX8 yX8_distance yX8_distance ∈ wsL_law := List.mem_of_getElem? (i := 259) rfl
set_option maxRecDepth 20000 in
theorem wq_260 : Cond.code yX8_distance cX8_distance 3 (some .int) ∈ wsL_law := List.mem_of_getElem? (i := 260) rfl
set_option maxRecDepth 20000 in
theorem wq_261 : Cond.methodLink RX8 117 yX8_hasBoth ∈ wsL_law := List.mem_of_getElem? (i := 261) rfl
set_option maxRecDepth 20000 in
theorem wq_262 : Cond.instanceMethod yX8_hasBoth ∈ wsL_law := List.mem_of_getElem? (i := 262) rfl
set_option maxRecDepth 20000 in
theorem wq_263 : Cond.selects RX8 yX8_hasBoth yX8_hasBoth ∈ wsL_law := List.mem_of_getElem? (i := 263) rfl
set_option maxRecDepth 20000 in
theorem wq_264 : Cond.code yX8_hasBoth cX8_hasBoth 3 (some .boolean) ∈ wsL_law := List.mem_of_getElem? (i := 264) rfl
set_option maxRecDepth 20000 in
theorem wq_265 : Cond.methodLink RL 29 yX8_editCount ∈ wsL_law := List.mem_of_getElem? (i := 265) rfl
set_option maxRecDepth 20000 in
theorem wq_266 : Cond.instanceMethod yX8_editCount ∈ wsL_law := List.mem_of_getElem? (i := 266) rfl
set_option maxRecDepth 20000 in
theorem wq_267 : Cond.selects RX8 yX8_editCount yX8_editCount ∈ wsL_law := List.mem_of_getElem? (i := 267) rfl
set_option maxRecDepth 20000 in
theorem wq_268 : Cond.code yX8_editCount cX8_editCount 3 (some .int) ∈ wsL_law := List.mem_of_getElem? (i := 268) rfl
set_option maxRecDepth 20000 in
theorem wq_269 : Cond.instanceMethod yX1_trace ∈ wsL_law := List.mem_of_getElem? (i := 269) rfl
set_option maxRecDepth 20000 in
theorem wq_270 : Cond.selects RX1 yX1_trace yX1_trace ∈ wsL_law := List.mem_of_getElem? (i := 270) rfl
set_option maxRecDepth 20000 in
theorem wq_271 : Cond.code yX1_trace cX1_trace 7 none ∈ wsL_law := List.mem_of_getElem? (i := 271) rfl
set_option maxRecDepth 20000 in
theorem wq_272 : Cond.fieldLink RX1 76 "ProverbCollection$Edits" "listed" "I" ∈ wsL_law := List.mem_of_getElem? (i := 272) rfl
set_option maxRecDepth 20000 in
theorem wq_273 : Cond.methodLink RX1 79 yX1_lastStep ∈ wsL_law := List.mem_of_getElem? (i := 273) rfl
set_option maxRecDepth 20000 in
theorem wq_274 : Cond.instanceMethod yX1_lastStep ∈ wsL_law := List.mem_of_getElem? (i := 274) rfl
set_option maxRecDepth 20000 in
theorem wq_275 : Cond.selects RX1 yX1_lastStep yX1_lastStep ∈ wsL_law := List.mem_of_getElem? (i := 275) rfl
set_option maxRecDepth 20000 in
theorem wq_276 : Cond.code yX1_lastStep cX1_lastStep 6 (some .int) ∈ wsL_law := List.mem_of_getElem? (i := 276) rfl
set_option maxRecDepth 20000 in
theorem wq_277 : Cond.methodLink RL 51 yL_isEdited ∈ wsL_law := List.mem_of_getElem? (i := 277) rfl
set_option maxRecDepth 20000 in
theorem wq_278 : Cond.static yL_isEdited ∈ wsL_law := List.mem_of_getElem? (i := 278) rfl
set_option maxRecDepth 20000 in
theorem wq_279 : Cond.code yL_isEdited cL_isEdited 14 (some .boolean) ∈ wsL_law := List.mem_of_getElem? (i := 279) rfl
set_option maxRecDepth 20000 in
theorem wq_280 : Cond.methodLink RL 32 yX8_editAt ∈ wsL_law := List.mem_of_getElem? (i := 280) rfl
set_option maxRecDepth 20000 in
theorem wq_281 : Cond.instanceMethod yX8_editAt ∈ wsL_law := List.mem_of_getElem? (i := 281) rfl
set_option maxRecDepth 20000 in
theorem wq_282 : Cond.selects RX8 yX8_editAt yX8_editAt ∈ wsL_law := List.mem_of_getElem? (i := 282) rfl
set_option maxRecDepth 20000 in
theorem wq_283 : Cond.code yX8_editAt cX8_editAt 4 (some .int) ∈ wsL_law := List.mem_of_getElem? (i := 283) rfl
set_option maxRecDepth 20000 in
theorem wq_284 : Cond.instanceMethod yX1_fromBeginning ∈ wsL_law := List.mem_of_getElem? (i := 284) rfl
set_option maxRecDepth 20000 in
theorem wq_285 : Cond.selects RX1 yX1_fromBeginning yX1_fromBeginning ∈ wsL_law := List.mem_of_getElem? (i := 285) rfl
set_option maxRecDepth 20000 in
theorem wq_286 : Cond.code yX1_fromBeginning cX1_fromBeginning 2 (some .int) ∈ wsL_law := List.mem_of_getElem? (i := 286) rfl
set_option maxRecDepth 20000 in
theorem wq_287 : Cond.methodLink RL 36 yX8_wordAt ∈ wsL_law := List.mem_of_getElem? (i := 287) rfl
set_option maxRecDepth 20000 in
theorem wq_288 : Cond.instanceMethod yX8_wordAt ∈ wsL_law := List.mem_of_getElem? (i := 288) rfl
set_option maxRecDepth 20000 in
theorem wq_289 : Cond.selects RX8 yX8_wordAt yX8_wordAt ∈ wsL_law := List.mem_of_getElem? (i := 289) rfl
set_option maxRecDepth 20000 in
theorem wq_290 : Cond.code yX8_wordAt cX8_wordAt 3 (some .int) ∈ wsL_law := List.mem_of_getElem? (i := 290) rfl
set_option maxRecDepth 20000 in
theorem wq_291 : Cond.methodLink RL 39 yL_exchange ∈ wsL_law := List.mem_of_getElem? (i := 291) rfl
set_option maxRecDepth 20000 in
theorem wq_292 : Cond.static yL_exchange ∈ wsL_law := List.mem_of_getElem? (i := 292) rfl
set_option maxRecDepth 20000 in
theorem wq_293 : Cond.code yL_exchange cL_exchange 3 (some .int) ∈ wsL_law := List.mem_of_getElem? (i := 293) rfl
set_option maxRecDepth 20000 in
theorem wq_294 : Cond.methodLink RL 55 yX8_similarityBits ∈ wsL_law := List.mem_of_getElem? (i := 294) rfl
set_option maxRecDepth 20000 in
theorem wq_295 : Cond.instanceMethod yX8_similarityBits ∈ wsL_law := List.mem_of_getElem? (i := 295) rfl
set_option maxRecDepth 20000 in
theorem wq_296 : Cond.selects RX8 yX8_similarityBits yX8_similarityBits ∈ wsL_law := List.mem_of_getElem? (i := 296) rfl
set_option maxRecDepth 20000 in
theorem wq_297 : Cond.code yX8_similarityBits cX8_similarityBits 6 (some .int) ∈ wsL_law := List.mem_of_getElem? (i := 297) rfl
set_option maxRecDepth 20000 in
theorem wq_298 : Cond.methodLink RX8 125 Lib.Math.max.name ∈ wsL_law := List.mem_of_getElem? (i := 298) rfl
set_option maxRecDepth 20000 in
theorem wq_299 : Cond.static Lib.Math.max.name ∈ wsL_law := List.mem_of_getElem? (i := 299) rfl
set_option maxRecDepth 20000 in
theorem wq_300 : Cond.code Lib.Math.max.name Lib.Math.max.code 2 (some .int) ∈ wsL_law := List.mem_of_getElem? (i := 300) rfl
set_option maxRecDepth 20000 in
theorem wq_301 : Cond.methodLink RX8 130 yX8_bitsOf ∈ wsL_law := List.mem_of_getElem? (i := 301) rfl
set_option maxRecDepth 20000 in
theorem wq_302 : Cond.static yX8_bitsOf ∈ wsL_law := List.mem_of_getElem? (i := 302) rfl
set_option maxRecDepth 20000 in
theorem wq_303 : Cond.code yX8_bitsOf cX8_bitsOf 3 (some .int) ∈ wsL_law := List.mem_of_getElem? (i := 303) rfl
set_option maxRecDepth 20000 in
theorem wq_304 : Cond.constantFloat RX8 199 (1258291200) ∈ wsL_law := List.mem_of_getElem? (i := 304) rfl
set_option maxRecDepth 20000 in
theorem wq_305 : Cond.methodLink RL 58 yX8_nearest ∈ wsL_law := List.mem_of_getElem? (i := 305) rfl
set_option maxRecDepth 20000 in
theorem wq_306 : Cond.instanceMethod yX8_nearest ∈ wsL_law := List.mem_of_getElem? (i := 306) rfl
set_option maxRecDepth 20000 in
theorem wq_307 : Cond.selects RX8 yX8_nearest yX8_nearest ∈ wsL_law := List.mem_of_getElem? (i := 307) rfl
set_option maxRecDepth 20000 in
theorem wq_308 : Cond.code yX8_nearest cX8_nearest 7 (some .int) ∈ wsL_law := List.mem_of_getElem? (i := 308) rfl
set_option maxRecDepth 20000 in
theorem wq_309 : Cond.constant RX8 143 (1000000) ∈ wsL_law := List.mem_of_getElem? (i := 309) rfl
set_option maxRecDepth 20000 in
theorem wq_310 : Cond.methodLink RL 61 yL_areGroups ∈ wsL_law := List.mem_of_getElem? (i := 310) rfl
set_option maxRecDepth 20000 in
theorem wq_311 : Cond.static yL_areGroups ∈ wsL_law := List.mem_of_getElem? (i := 311) rfl
set_option maxRecDepth 20000 in
theorem wq_312 : Cond.code yL_areGroups cL_areGroups 9 (some .boolean) ∈ wsL_law := List.mem_of_getElem? (i := 312) rfl
set_option maxRecDepth 20000 in
theorem wq_313 : Cond.methodLink RL 74 yX8_centreOf ∈ wsL_law := List.mem_of_getElem? (i := 313) rfl
set_option maxRecDepth 20000 in
theorem wq_314 : Cond.instanceMethod yX8_centreOf ∈ wsL_law := List.mem_of_getElem? (i := 314) rfl
set_option maxRecDepth 20000 in
theorem wq_315 : Cond.selects RX8 yX8_centreOf yX8_centreOf ∈ wsL_law := List.mem_of_getElem? (i := 315) rfl
set_option maxRecDepth 20000 in
theorem wq_316 : Cond.code yX8_centreOf cX8_centreOf 2 (some .int) ∈ wsL_law := List.mem_of_getElem? (i := 316) rfl
set_option maxRecDepth 20000 in
theorem wq_317 : Cond.instanceMethod yX2_centre ∈ wsL_law := List.mem_of_getElem? (i := 317) rfl
set_option maxRecDepth 20000 in
theorem wq_318 : Cond.selects RX2 yX2_centre yX2_centre ∈ wsL_law := List.mem_of_getElem? (i := 318) rfl
set_option maxRecDepth 20000 in
theorem wq_319 : Cond.code yX2_centre cX2_centre 2 (some .int) ∈ wsL_law := List.mem_of_getElem? (i := 319) rfl
set_option maxRecDepth 20000 in
theorem wq_320 : Cond.methodLink RL 77 yX8_groupInfo ∈ wsL_law := List.mem_of_getElem? (i := 320) rfl
set_option maxRecDepth 20000 in
theorem wq_321 : Cond.instanceMethod yX8_groupInfo ∈ wsL_law := List.mem_of_getElem? (i := 321) rfl
set_option maxRecDepth 20000 in
theorem wq_322 : Cond.selects RX8 yX8_groupInfo yX8_groupInfo ∈ wsL_law := List.mem_of_getElem? (i := 322) rfl
set_option maxRecDepth 20000 in
theorem wq_323 : Cond.code yX8_groupInfo cX8_groupInfo 3 (some .int) ∈ wsL_law := List.mem_of_getElem? (i := 323) rfl
set_option maxRecDepth 20000 in
theorem wq_324 : Cond.instanceMethod yX2_members ∈ wsL_law := List.mem_of_getElem? (i := 324) rfl
set_option maxRecDepth 20000 in
theorem wq_325 : Cond.selects RX2 yX2_members yX2_members ∈ wsL_law := List.mem_of_getElem? (i := 325) rfl
set_option maxRecDepth 20000 in
theorem wq_326 : Cond.code yX2_members cX2_members 5 (some .int) ∈ wsL_law := List.mem_of_getElem? (i := 326) rfl
set_option maxRecDepth 20000 in
theorem wq_327 : Cond.instanceMethod yX2_regions ∈ wsL_law := List.mem_of_getElem? (i := 327) rfl
set_option maxRecDepth 20000 in
theorem wq_328 : Cond.selects RX2 yX2_regions yX2_regions ∈ wsL_law := List.mem_of_getElem? (i := 328) rfl
set_option maxRecDepth 20000 in
theorem wq_329 : Cond.code yX2_regions cX2_regions 5 (some .int) ∈ wsL_law := List.mem_of_getElem? (i := 329) rfl
set_option maxRecDepth 20000 in
theorem wq_330 : Cond.methodLink RX2 54 yJ6_bitCount_0f7a4 ∈ wsL_law := List.mem_of_getElem? (i := 330) rfl
set_option maxRecDepth 20000 in
theorem wq_331 : Cond.static yJ6_bitCount_0f7a4 ∈ wsL_law := List.mem_of_getElem? (i := 331) rfl
set_option maxRecDepth 20000 in
theorem wq_332 : Cond.initialized RJ6 ∈ wsL_law := List.mem_of_getElem? (i := 332) rfl
set_option maxRecDepth 20000 in
theorem wq_333 : Cond.code yJ6_bitCount_0f7a4 cJ6_bitCount_0f7a4 1 (some .int) ∈ wsL_law := List.mem_of_getElem? (i := 333) rfl
set_option maxRecDepth 20000 in
theorem wq_334 : Cond.constant RJ6 265 (1431655765) ∈ wsL_law := List.mem_of_getElem? (i := 334) rfl
set_option maxRecDepth 20000 in
theorem wq_335 : Cond.constant RJ6 266 (858993459) ∈ wsL_law := List.mem_of_getElem? (i := 335) rfl
set_option maxRecDepth 20000 in
theorem wq_336 : Cond.constant RJ6 267 (252645135) ∈ wsL_law := List.mem_of_getElem? (i := 336) rfl
set_option maxRecDepth 20000 in
theorem wq_337 : Cond.instanceMethod yX2_radius ∈ wsL_law := List.mem_of_getElem? (i := 337) rfl
set_option maxRecDepth 20000 in
theorem wq_338 : Cond.selects RX2 yX2_radius yX2_radius ∈ wsL_law := List.mem_of_getElem? (i := 338) rfl
set_option maxRecDepth 20000 in
theorem wq_339 : Cond.code yX2_radius cX2_radius 6 (some .int) ∈ wsL_law := List.mem_of_getElem? (i := 339) rfl
set_option maxRecDepth 20000 in
theorem wq_340 : Cond.methodLink RX2 63 Lib.Math.max.name ∈ wsL_law := List.mem_of_getElem? (i := 340) rfl
set_option maxRecDepth 20000 in
theorem wq_341 : Cond.methodLink RX2 60 yX2_centre ∈ wsL_law := List.mem_of_getElem? (i := 341) rfl
set_option maxRecDepth 20000 in
theorem wq_342 : Cond.methodLink RL 80 yX8_groupOf ∈ wsL_law := List.mem_of_getElem? (i := 342) rfl
set_option maxRecDepth 20000 in
theorem wq_343 : Cond.instanceMethod yX8_groupOf ∈ wsL_law := List.mem_of_getElem? (i := 343) rfl
set_option maxRecDepth 20000 in
theorem wq_344 : Cond.selects RX8 yX8_groupOf yX8_groupOf ∈ wsL_law := List.mem_of_getElem? (i := 344) rfl
set_option maxRecDepth 20000 in
theorem wq_345 : Cond.code yX8_groupOf cX8_groupOf 2 (some .int) ∈ wsL_law := List.mem_of_getElem? (i := 345) rfl
set_option maxRecDepth 20000 in
theorem nq_23 : Cond.methodLinkNest RX8 9 yX5_init RX8 ∈ tables_1.filter nwWarm := List.mem_filter.mpr ⟨List.mem_of_getElem? (i := 23) rfl, rfl⟩
set_option maxRecDepth 20000 in
theorem nq_29 : Cond.fieldLinkNest RX8 62 "ProverbCollection$Sequence" "length" "I" RX8 ∈ tables_1.filter nwWarm := List.mem_filter.mpr ⟨List.mem_of_getElem? (i := 29) rfl, rfl⟩
set_option maxRecDepth 20000 in
theorem nq_30 : Cond.fieldLinkNest RX1 49 "ProverbCollection$Sequence" "length" "I" RX8 ∈ tables_1.filter nwWarm := List.mem_filter.mpr ⟨List.mem_of_getElem? (i := 30) rfl, rfl⟩
set_option maxRecDepth 20000 in
theorem nq_31 : Cond.fieldLinkNest RX6 29 "ProverbCollection$Sequence" "length" "I" RX8 ∈ tables_1.filter nwWarm := List.mem_filter.mpr ⟨List.mem_of_getElem? (i := 31) rfl, rfl⟩
set_option maxRecDepth 20000 in
theorem nq_40 : Cond.methodLinkNest RX8 18 yX7_init RX8 ∈ tables_1.filter nwWarm := List.mem_filter.mpr ⟨List.mem_of_getElem? (i := 40) rfl, rfl⟩
set_option maxRecDepth 20000 in
theorem nq_46 : Cond.methodLinkNest RX7 11 yX6_init RX8 ∈ tables_1.filter nwWarm := List.mem_filter.mpr ⟨List.mem_of_getElem? (i := 46) rfl, rfl⟩
set_option maxRecDepth 20000 in
theorem nq_54 : Cond.fieldLinkNest RX2 35 "ProverbCollection$Shelf" "count" "I" RX8 ∈ tables_1.filter nwWarm := List.mem_filter.mpr ⟨List.mem_of_getElem? (i := 54) rfl, rfl⟩
set_option maxRecDepth 20000 in
theorem nq_55 : Cond.fieldLinkNest RX7 60 "ProverbCollection$Shelf" "count" "I" RX8 ∈ tables_1.filter nwWarm := List.mem_filter.mpr ⟨List.mem_of_getElem? (i := 55) rfl, rfl⟩
set_option maxRecDepth 20000 in
theorem nq_56 : Cond.fieldLinkNest RX8 99 "ProverbCollection$Shelf" "count" "I" RX8 ∈ tables_1.filter nwWarm := List.mem_filter.mpr ⟨List.mem_of_getElem? (i := 56) rfl, rfl⟩
set_option maxRecDepth 20000 in
theorem nq_67 : Cond.fieldLinkNest RX1 30 "ProverbCollection$State" "sayings" "LProverbCollection$Shelf;" RX8 ∈ tables_1.filter nwWarm := List.mem_filter.mpr ⟨List.mem_of_getElem? (i := 67) rfl, rfl⟩
set_option maxRecDepth 20000 in
theorem nq_68 : Cond.fieldLinkNest RX2 31 "ProverbCollection$State" "sayings" "LProverbCollection$Shelf;" RX8 ∈ tables_1.filter nwWarm := List.mem_filter.mpr ⟨List.mem_of_getElem? (i := 68) rfl, rfl⟩
set_option maxRecDepth 20000 in
theorem nq_69 : Cond.fieldLinkNest RX8 74 "ProverbCollection$State" "sayings" "LProverbCollection$Shelf;" RX8 ∈ tables_1.filter nwWarm := List.mem_filter.mpr ⟨List.mem_of_getElem? (i := 69) rfl, rfl⟩
set_option maxRecDepth 20000 in
theorem nq_72 : Cond.fieldLinkNest RX2 51 "ProverbCollection$State" "regions" "[I" RX8 ∈ tables_1.filter nwWarm := List.mem_filter.mpr ⟨List.mem_of_getElem? (i := 72) rfl, rfl⟩
set_option maxRecDepth 20000 in
theorem nq_75 : Cond.fieldLinkNest RX1 42 "ProverbCollection$State" "costs" "[I" RX8 ∈ tables_1.filter nwWarm := List.mem_filter.mpr ⟨List.mem_of_getElem? (i := 75) rfl, rfl⟩
set_option maxRecDepth 20000 in
theorem nq_76 : Cond.fieldLinkNest RX8 114 "ProverbCollection$State" "costs" "[I" RX8 ∈ tables_1.filter nwWarm := List.mem_filter.mpr ⟨List.mem_of_getElem? (i := 76) rfl, rfl⟩
set_option maxRecDepth 20000 in
theorem nq_78 : Cond.fieldLinkNest RX2 48 "ProverbCollection$State" "limit" "I" RX8 ∈ tables_1.filter nwWarm := List.mem_filter.mpr ⟨List.mem_of_getElem? (i := 78) rfl, rfl⟩
set_option maxRecDepth 20000 in
theorem nq_79 : Cond.fieldLinkNest RX8 162 "ProverbCollection$State" "limit" "I" RX8 ∈ tables_1.filter nwWarm := List.mem_filter.mpr ⟨List.mem_of_getElem? (i := 79) rfl, rfl⟩
set_option maxRecDepth 20000 in
theorem nq_95 : Cond.methodLinkNest RX8 25 yX3_init RX8 ∈ tables_1.filter nwWarm := List.mem_filter.mpr ⟨List.mem_of_getElem? (i := 95) rfl, rfl⟩
set_option maxRecDepth 20000 in
theorem nq_101 : Cond.methodLinkNest RX3 17 yX7_init RX8 ∈ tables_1.filter nwWarm := List.mem_filter.mpr ⟨List.mem_of_getElem? (i := 101) rfl, rfl⟩
set_option maxRecDepth 20000 in
theorem nq_105 : Cond.fieldLinkNest RX8 195 "ProverbCollection$History" "count" "I" RX8 ∈ tables_1.filter nwWarm := List.mem_filter.mpr ⟨List.mem_of_getElem? (i := 105) rfl, rfl⟩
set_option maxRecDepth 20000 in
theorem nq_115 : Cond.methodLinkNest RX8 32 yX1_init RX8 ∈ tables_1.filter nwWarm := List.mem_filter.mpr ⟨List.mem_of_getElem? (i := 115) rfl, rfl⟩
set_option maxRecDepth 20000 in
theorem nq_120 : Cond.methodLinkNest RX1 11 yX5_init RX8 ∈ tables_1.filter nwWarm := List.mem_filter.mpr ⟨List.mem_of_getElem? (i := 120) rfl, rfl⟩
set_option maxRecDepth 20000 in
theorem nq_128 : Cond.fieldLinkNest RX8 137 "ProverbCollection$Edits" "listed" "I" RX8 ∈ tables_1.filter nwWarm := List.mem_filter.mpr ⟨List.mem_of_getElem? (i := 128) rfl, rfl⟩
set_option maxRecDepth 20000 in
theorem nq_142 : Cond.methodLinkNest RX8 39 yX4_init RX8 ∈ tables_1.filter nwWarm := List.mem_filter.mpr ⟨List.mem_of_getElem? (i := 142) rfl, rfl⟩
set_option maxRecDepth 20000 in
theorem nq_147 : Cond.methodLinkNest RX4 11 yX5_init RX8 ∈ tables_1.filter nwWarm := List.mem_filter.mpr ⟨List.mem_of_getElem? (i := 147) rfl, rfl⟩
set_option maxRecDepth 20000 in
theorem nq_165 : Cond.methodLinkNest RX8 46 yX2_init RX8 ∈ tables_1.filter nwWarm := List.mem_filter.mpr ⟨List.mem_of_getElem? (i := 165) rfl, rfl⟩
set_option maxRecDepth 20000 in
theorem nq_171 : Cond.fieldLinkNest RX8 170 "ProverbCollection$Groups" "memberOf" "[I" RX8 ∈ tables_1.filter nwWarm := List.mem_filter.mpr ⟨List.mem_of_getElem? (i := 171) rfl, rfl⟩
set_option maxRecDepth 20000 in
theorem nq_174 : Cond.fieldLinkNest RX8 169 "ProverbCollection$Groups" "count" "I" RX8 ∈ tables_1.filter nwWarm := List.mem_filter.mpr ⟨List.mem_of_getElem? (i := 174) rfl, rfl⟩
set_option maxRecDepth 20000 in
theorem nq_186 : Cond.methodLinkNest RX8 53 yX0_init RX8 ∈ tables_1.filter nwWarm := List.mem_filter.mpr ⟨List.mem_of_getElem? (i := 186) rfl, rfl⟩
set_option maxRecDepth 20000 in
theorem nq_191 : Cond.methodLinkNest RX0 11 yX5_init RX8 ∈ tables_1.filter nwWarm := List.mem_filter.mpr ⟨List.mem_of_getElem? (i := 191) rfl, rfl⟩
set_option maxRecDepth 20000 in
theorem nq_234 : Cond.methodLinkNest RX8 66 yX5_add RX8 ∈ tables_1.filter nwWarm := List.mem_filter.mpr ⟨List.mem_of_getElem? (i := 234) rfl, rfl⟩
set_option maxRecDepth 20000 in
theorem nq_242 : Cond.methodLinkNest RX8 92 yX6_has RX8 ∈ tables_1.filter nwWarm := List.mem_filter.mpr ⟨List.mem_of_getElem? (i := 242) rfl, rfl⟩
set_option maxRecDepth 20000 in
theorem nq_246 : Cond.methodLinkNest RX8 84 yX3_keep RX8 ∈ tables_1.filter nwWarm := List.mem_filter.mpr ⟨List.mem_of_getElem? (i := 246) rfl, rfl⟩
set_option maxRecDepth 20000 in
theorem nq_250 : Cond.methodLinkNest RX3 22 yX7_copyFrom RX8 ∈ tables_1.filter nwWarm := List.mem_filter.mpr ⟨List.mem_of_getElem? (i := 250) rfl, rfl⟩
set_option maxRecDepth 20000 in
theorem nq_254 : Cond.methodLinkNest RX7 37 yX6_copyFrom RX8 ∈ tables_1.filter nwWarm := List.mem_filter.mpr ⟨List.mem_of_getElem? (i := 254) rfl, rfl⟩
set_option maxRecDepth 20000 in
theorem nq_258 : Cond.methodLinkNest RX6 53 yX8_copyAll RX8 ∈ tables_1.filter nwWarm := List.mem_filter.mpr ⟨List.mem_of_getElem? (i := 258) rfl, rfl⟩
set_option maxRecDepth 20000 in
theorem nq_267 : Cond.methodLinkNest RX7 41 yX8_copyAll RX8 ∈ tables_1.filter nwWarm := List.mem_filter.mpr ⟨List.mem_of_getElem? (i := 267) rfl, rfl⟩
set_option maxRecDepth 20000 in
theorem nq_269 : Cond.methodLinkNest RX8 96 yX7_dropSaying RX8 ∈ tables_1.filter nwWarm := List.mem_filter.mpr ⟨List.mem_of_getElem? (i := 269) rfl, rfl⟩
set_option maxRecDepth 20000 in
theorem nq_273 : Cond.methodLinkNest RX7 53 yX6_drop RX8 ∈ tables_1.filter nwWarm := List.mem_filter.mpr ⟨List.mem_of_getElem? (i := 273) rfl, rfl⟩
set_option maxRecDepth 20000 in
theorem nq_278 : Cond.methodLinkNest RX6 38 yX8_closeUp RX8 ∈ tables_1.filter nwWarm := List.mem_filter.mpr ⟨List.mem_of_getElem? (i := 278) rfl, rfl⟩
set_option maxRecDepth 20000 in
theorem nq_281 : Cond.methodLinkNest RX7 56 yX8_closeUp RX8 ∈ tables_1.filter nwWarm := List.mem_filter.mpr ⟨List.mem_of_getElem? (i := 281) rfl, rfl⟩
set_option maxRecDepth 20000 in
theorem nq_290 : Cond.methodLinkNest RX8 102 yX6_size RX8 ∈ tables_1.filter nwWarm := List.mem_filter.mpr ⟨List.mem_of_getElem? (i := 290) rfl, rfl⟩
set_option maxRecDepth 20000 in
theorem nq_294 : Cond.methodLinkNest RX8 106 yX6_token RX8 ∈ tables_1.filter nwWarm := List.mem_filter.mpr ⟨List.mem_of_getElem? (i := 294) rfl, rfl⟩
set_option maxRecDepth 20000 in
theorem nq_302 : Cond.methodLinkNest RX8 110 yX7_sortByAge RX8 ∈ tables_1.filter nwWarm := List.mem_filter.mpr ⟨List.mem_of_getElem? (i := 302) rfl, rfl⟩
set_option maxRecDepth 20000 in
theorem nq_314 : Cond.methodLinkNest RX7 49 yX6_has RX8 ∈ tables_1.filter nwWarm := List.mem_filter.mpr ⟨List.mem_of_getElem? (i := 314) rfl, rfl⟩
set_option maxRecDepth 20000 in
theorem nq_327 : Cond.methodLinkNest RX8 121 yX1_between RX8 ∈ tables_1.filter nwWarm := List.mem_filter.mpr ⟨List.mem_of_getElem? (i := 327) rfl, rfl⟩
set_option maxRecDepth 20000 in
theorem nq_331 : Cond.methodLinkNest RX1 36 yX6_load RX8 ∈ tables_1.filter nwWarm := List.mem_filter.mpr ⟨List.mem_of_getElem? (i := 331) rfl, rfl⟩
set_option maxRecDepth 20000 in
theorem nq_337 : Cond.methodLinkNest RX6 49 yX5_add RX8 ∈ tables_1.filter nwWarm := List.mem_filter.mpr ⟨List.mem_of_getElem? (i := 337) rfl, rfl⟩
set_option maxRecDepth 20000 in
theorem nq_351 : Cond.methodLinkNest RX1 72 yX5_at RX8 ∈ tables_1.filter nwWarm := List.mem_filter.mpr ⟨List.mem_of_getElem? (i := 351) rfl, rfl⟩
set_option maxRecDepth 20000 in
theorem nq_368 : Cond.methodLinkNest RX8 165 yX2_form RX8 ∈ tables_1.filter nwWarm := List.mem_filter.mpr ⟨List.mem_of_getElem? (i := 368) rfl, rfl⟩
set_option maxRecDepth 20000 in
theorem nq_372 : Cond.methodLinkNest RX2 25 yX7_sortByAge RX8 ∈ tables_1.filter nwWarm := List.mem_filter.mpr ⟨List.mem_of_getElem? (i := 372) rfl, rfl⟩
set_option maxRecDepth 20000 in
theorem nq_373 : Cond.methodLinkNest RX2 38 yX6_has RX8 ∈ tables_1.filter nwWarm := List.mem_filter.mpr ⟨List.mem_of_getElem? (i := 373) rfl, rfl⟩
set_option maxRecDepth 20000 in
theorem nq_374 : Cond.methodLinkNest RX2 42 yX1_between RX8 ∈ tables_1.filter nwWarm := List.mem_filter.mpr ⟨List.mem_of_getElem? (i := 374) rfl, rfl⟩
set_option maxRecDepth 20000 in
theorem nq_379 : Cond.methodLinkNest RX8 196 yX3_restore RX8 ∈ tables_1.filter nwWarm := List.mem_filter.mpr ⟨List.mem_of_getElem? (i := 379) rfl, rfl⟩
set_option maxRecDepth 20000 in
theorem nq_399 : Cond.methodLinkNest RX8 70 yX5_wordCount RX8 ∈ tables_1.filter nwWarm := List.mem_filter.mpr ⟨List.mem_of_getElem? (i := 399) rfl, rfl⟩
set_option maxRecDepth 20000 in
theorem nq_403 : Cond.methodLinkNest RX8 78 yX6_isFull RX8 ∈ tables_1.filter nwWarm := List.mem_filter.mpr ⟨List.mem_of_getElem? (i := 403) rfl, rfl⟩
set_option maxRecDepth 20000 in
theorem nq_407 : Cond.methodLinkNest RX8 88 yX7_takeSaying RX8 ∈ tables_1.filter nwWarm := List.mem_filter.mpr ⟨List.mem_of_getElem? (i := 407) rfl, rfl⟩
set_option maxRecDepth 20000 in
theorem nq_411 : Cond.methodLinkNest RX7 45 yX6_add RX8 ∈ tables_1.filter nwWarm := List.mem_filter.mpr ⟨List.mem_of_getElem? (i := 411) rfl, rfl⟩
set_option maxRecDepth 20000 in
theorem nq_415 : Cond.methodLinkNest RX6 34 yX5_at RX8 ∈ tables_1.filter nwWarm := List.mem_filter.mpr ⟨List.mem_of_getElem? (i := 415) rfl, rfl⟩
set_option maxRecDepth 20000 in
theorem nq_427 : Cond.methodLinkNest RX8 134 yX1_trace RX8 ∈ tables_1.filter nwWarm := List.mem_filter.mpr ⟨List.mem_of_getElem? (i := 427) rfl, rfl⟩
set_option maxRecDepth 20000 in
theorem nq_442 : Cond.methodLinkNest RX8 140 yX1_fromBeginning RX8 ∈ tables_1.filter nwWarm := List.mem_filter.mpr ⟨List.mem_of_getElem? (i := 442) rfl, rfl⟩
set_option maxRecDepth 20000 in
theorem nq_472 : Cond.methodLinkNest RX8 173 yX2_centre RX8 ∈ tables_1.filter nwWarm := List.mem_filter.mpr ⟨List.mem_of_getElem? (i := 472) rfl, rfl⟩
set_option maxRecDepth 20000 in
theorem nq_480 : Cond.methodLinkNest RX8 176 yX2_members RX8 ∈ tables_1.filter nwWarm := List.mem_filter.mpr ⟨List.mem_of_getElem? (i := 480) rfl, rfl⟩
set_option maxRecDepth 20000 in
theorem nq_484 : Cond.methodLinkNest RX8 180 yX2_regions RX8 ∈ tables_1.filter nwWarm := List.mem_filter.mpr ⟨List.mem_of_getElem? (i := 484) rfl, rfl⟩
set_option maxRecDepth 20000 in
theorem nq_494 : Cond.methodLinkNest RX8 183 yX2_radius RX8 ∈ tables_1.filter nwWarm := List.mem_filter.mpr ⟨List.mem_of_getElem? (i := 494) rfl, rfl⟩
