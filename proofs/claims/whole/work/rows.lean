section
-- ===== PART A: goes FIRST, ahead of the names: the tables' words, and 'selects' of the private methods out of them =====
/-- a private method of a class that the tables say can be made, by its rows of tables_1 -/
def lw_okq (q : MethodName × Nat) : Prop := (q.1.cls ≠ "java/lang/invoke/MethodHandle" ∧ q.1.cls ≠ "java/lang/invoke/VarHandle") ∧ Cond.instantiable q.1.cls q.2 ∈ tables_1 ∧ Cond.privateMethod q.1 ∈ tables_1 ∧ Cond.instanceMethod q.1 ∈ tables_1
theorem lw_p0 : lw_okq (⟨"ProverbCollection$Sequence", "add", "(I)V"⟩, 2) := ⟨⟨by decide +kernel, by decide +kernel⟩, List.mem_of_getElem? (i := 24) (by decide +kernel), List.mem_of_getElem? (i := 249) (by decide +kernel), List.mem_of_getElem? (i := 250) (by decide +kernel)⟩
theorem lw_p1 : lw_okq (⟨"ProverbCollection$Sequence", "wordCount", "()I"⟩, 2) := ⟨⟨by decide +kernel, by decide +kernel⟩, List.mem_of_getElem? (i := 24) (by decide +kernel), List.mem_of_getElem? (i := 261) (by decide +kernel), List.mem_of_getElem? (i := 262) (by decide +kernel)⟩
theorem lw_p2 : lw_okq (⟨"ProverbCollection$Shelf", "isFull", "()Z"⟩, 4) := ⟨⟨by decide +kernel, by decide +kernel⟩, List.mem_of_getElem? (i := 49) (by decide +kernel), List.mem_of_getElem? (i := 265) (by decide +kernel), List.mem_of_getElem? (i := 266) (by decide +kernel)⟩
theorem lw_p3 : lw_okq (⟨"ProverbCollection$History", "keep", "(LProverbCollection$State;)V"⟩, 3) := ⟨⟨by decide +kernel, by decide +kernel⟩, List.mem_of_getElem? (i := 103) (by decide +kernel), List.mem_of_getElem? (i := 269) (by decide +kernel), List.mem_of_getElem? (i := 270) (by decide +kernel)⟩
theorem lw_p4 : lw_okq (⟨"ProverbCollection$State", "copyFrom", "(LProverbCollection$State;)V"⟩, 6) := ⟨⟨by decide +kernel, by decide +kernel⟩, List.mem_of_getElem? (i := 43) (by decide +kernel), List.mem_of_getElem? (i := 273) (by decide +kernel), List.mem_of_getElem? (i := 274) (by decide +kernel)⟩
theorem lw_p5 : lw_okq (⟨"ProverbCollection$Shelf", "copyFrom", "(LProverbCollection$Shelf;)V"⟩, 4) := ⟨⟨by decide +kernel, by decide +kernel⟩, List.mem_of_getElem? (i := 49) (by decide +kernel), List.mem_of_getElem? (i := 277) (by decide +kernel), List.mem_of_getElem? (i := 278) (by decide +kernel)⟩
theorem lw_p6 : lw_okq (⟨"ProverbCollection$State", "takeSaying", "(LProverbCollection$Sequence;II)I"⟩, 6) := ⟨⟨by decide +kernel, by decide +kernel⟩, List.mem_of_getElem? (i := 43) (by decide +kernel), List.mem_of_getElem? (i := 292) (by decide +kernel), List.mem_of_getElem? (i := 293) (by decide +kernel)⟩
theorem lw_p7 : lw_okq (⟨"ProverbCollection$Shelf", "add", "(LProverbCollection$Sequence;)I"⟩, 4) := ⟨⟨by decide +kernel, by decide +kernel⟩, List.mem_of_getElem? (i := 49) (by decide +kernel), List.mem_of_getElem? (i := 296) (by decide +kernel), List.mem_of_getElem? (i := 297) (by decide +kernel)⟩
theorem lw_p8 : lw_okq (⟨"ProverbCollection$Sequence", "at", "(I)I"⟩, 2) := ⟨⟨by decide +kernel, by decide +kernel⟩, List.mem_of_getElem? (i := 24) (by decide +kernel), List.mem_of_getElem? (i := 301) (by decide +kernel), List.mem_of_getElem? (i := 302) (by decide +kernel)⟩
theorem lw_p9 : lw_okq (⟨"ProverbCollection$Shelf", "has", "(I)Z"⟩, 4) := ⟨⟨by decide +kernel, by decide +kernel⟩, List.mem_of_getElem? (i := 49) (by decide +kernel), List.mem_of_getElem? (i := 305) (by decide +kernel), List.mem_of_getElem? (i := 306) (by decide +kernel)⟩
theorem lw_p10 : lw_okq (⟨"ProverbCollection$State", "dropSaying", "(I)V"⟩, 6) := ⟨⟨by decide +kernel, by decide +kernel⟩, List.mem_of_getElem? (i := 43) (by decide +kernel), List.mem_of_getElem? (i := 314) (by decide +kernel), List.mem_of_getElem? (i := 315) (by decide +kernel)⟩
theorem lw_p11 : lw_okq (⟨"ProverbCollection$Shelf", "drop", "(I)V"⟩, 4) := ⟨⟨by decide +kernel, by decide +kernel⟩, List.mem_of_getElem? (i := 49) (by decide +kernel), List.mem_of_getElem? (i := 318) (by decide +kernel), List.mem_of_getElem? (i := 319) (by decide +kernel)⟩
theorem lw_p12 : lw_okq (⟨"ProverbCollection$Shelf", "size", "(I)I"⟩, 4) := ⟨⟨by decide +kernel, by decide +kernel⟩, List.mem_of_getElem? (i := 49) (by decide +kernel), List.mem_of_getElem? (i := 335) (by decide +kernel), List.mem_of_getElem? (i := 336) (by decide +kernel)⟩
theorem lw_p13 : lw_okq (⟨"ProverbCollection$Shelf", "token", "(II)I"⟩, 4) := ⟨⟨by decide +kernel, by decide +kernel⟩, List.mem_of_getElem? (i := 49) (by decide +kernel), List.mem_of_getElem? (i := 343) (by decide +kernel), List.mem_of_getElem? (i := 344) (by decide +kernel)⟩
theorem lw_p14 : lw_okq (⟨"ProverbCollection$State", "sortByAge", "([I)V"⟩, 6) := ⟨⟨by decide +kernel, by decide +kernel⟩, List.mem_of_getElem? (i := 43) (by decide +kernel), List.mem_of_getElem? (i := 352) (by decide +kernel), List.mem_of_getElem? (i := 353) (by decide +kernel)⟩
theorem lw_p15 : lw_okq (⟨"ProverbCollection$State", "place", "(I)I"⟩, 6) := ⟨⟨by decide +kernel, by decide +kernel⟩, List.mem_of_getElem? (i := 43) (by decide +kernel), List.mem_of_getElem? (i := 356) (by decide +kernel), List.mem_of_getElem? (i := 357) (by decide +kernel)⟩
def lw_privs_1 : List (MethodName × Nat) := [(⟨"ProverbCollection$Sequence", "add", "(I)V"⟩, 2), (⟨"ProverbCollection$Sequence", "wordCount", "()I"⟩, 2), (⟨"ProverbCollection$Shelf", "isFull", "()Z"⟩, 4), (⟨"ProverbCollection$History", "keep", "(LProverbCollection$State;)V"⟩, 3), (⟨"ProverbCollection$State", "copyFrom", "(LProverbCollection$State;)V"⟩, 6), (⟨"ProverbCollection$Shelf", "copyFrom", "(LProverbCollection$Shelf;)V"⟩, 4), (⟨"ProverbCollection$State", "takeSaying", "(LProverbCollection$Sequence;II)I"⟩, 6), (⟨"ProverbCollection$Shelf", "add", "(LProverbCollection$Sequence;)I"⟩, 4), (⟨"ProverbCollection$Sequence", "at", "(I)I"⟩, 2), (⟨"ProverbCollection$Shelf", "has", "(I)Z"⟩, 4), (⟨"ProverbCollection$State", "dropSaying", "(I)V"⟩, 6), (⟨"ProverbCollection$Shelf", "drop", "(I)V"⟩, 4), (⟨"ProverbCollection$Shelf", "size", "(I)I"⟩, 4), (⟨"ProverbCollection$Shelf", "token", "(II)I"⟩, 4), (⟨"ProverbCollection$State", "sortByAge", "([I)V"⟩, 6), (⟨"ProverbCollection$State", "place", "(I)I"⟩, 6)]
theorem lw_r1 : ∀ q ∈ lw_privs_1, lw_okq q := List.forall_mem_cons.mpr ⟨lw_p0, List.forall_mem_cons.mpr ⟨lw_p1, List.forall_mem_cons.mpr ⟨lw_p2, List.forall_mem_cons.mpr ⟨lw_p3, List.forall_mem_cons.mpr ⟨lw_p4, List.forall_mem_cons.mpr ⟨lw_p5, List.forall_mem_cons.mpr ⟨lw_p6, List.forall_mem_cons.mpr ⟨lw_p7, List.forall_mem_cons.mpr ⟨lw_p8, List.forall_mem_cons.mpr ⟨lw_p9, List.forall_mem_cons.mpr ⟨lw_p10, List.forall_mem_cons.mpr ⟨lw_p11, List.forall_mem_cons.mpr ⟨lw_p12, List.forall_mem_cons.mpr ⟨lw_p13, List.forall_mem_cons.mpr ⟨lw_p14, List.forall_mem_cons.mpr ⟨lw_p15, fun _ h => absurd h List.not_mem_nil⟩⟩⟩⟩⟩⟩⟩⟩⟩⟩⟩⟩⟩⟩⟩⟩
theorem lw_p16 : lw_okq (⟨"ProverbCollection$State", "isOlder", "(II)Z"⟩, 6) := ⟨⟨by decide +kernel, by decide +kernel⟩, List.mem_of_getElem? (i := 43) (by decide +kernel), List.mem_of_getElem? (i := 360) (by decide +kernel), List.mem_of_getElem? (i := 361) (by decide +kernel)⟩
theorem lw_p17 : lw_okq (⟨"ProverbCollection", "hasBoth", "(II)Z"⟩, 8) := ⟨⟨by decide +kernel, by decide +kernel⟩, List.mem_of_getElem? (i := 16) (by decide +kernel), List.mem_of_getElem? (i := 372) (by decide +kernel), List.mem_of_getElem? (i := 373) (by decide +kernel)⟩
theorem lw_p18 : lw_okq (⟨"ProverbCollection$Edits", "between", "(LProverbCollection$State;II)I"⟩, 5) := ⟨⟨by decide +kernel, by decide +kernel⟩, List.mem_of_getElem? (i := 123) (by decide +kernel), List.mem_of_getElem? (i := 376) (by decide +kernel), List.mem_of_getElem? (i := 377) (by decide +kernel)⟩
theorem lw_p19 : lw_okq (⟨"ProverbCollection$Shelf", "load", "(ILProverbCollection$Sequence;)V"⟩, 4) := ⟨⟨by decide +kernel, by decide +kernel⟩, List.mem_of_getElem? (i := 49) (by decide +kernel), List.mem_of_getElem? (i := 380) (by decide +kernel), List.mem_of_getElem? (i := 381) (by decide +kernel)⟩
theorem lw_p20 : lw_okq (⟨"ProverbCollection$Edits", "measure", "([I)I"⟩, 5) := ⟨⟨by decide +kernel, by decide +kernel⟩, List.mem_of_getElem? (i := 123) (by decide +kernel), List.mem_of_getElem? (i := 386) (by decide +kernel), List.mem_of_getElem? (i := 387) (by decide +kernel)⟩
theorem lw_p21 : lw_okq (⟨"ProverbCollection$Edits", "by", "(III[I)I"⟩, 5) := ⟨⟨by decide +kernel, by decide +kernel⟩, List.mem_of_getElem? (i := 123) (by decide +kernel), List.mem_of_getElem? (i := 391) (by decide +kernel), List.mem_of_getElem? (i := 392) (by decide +kernel)⟩
theorem lw_p22 : lw_okq (⟨"ProverbCollection$Edits", "replacing", "(II[I)I"⟩, 5) := ⟨⟨by decide +kernel, by decide +kernel⟩, List.mem_of_getElem? (i := 123) (by decide +kernel), List.mem_of_getElem? (i := 395) (by decide +kernel), List.mem_of_getElem? (i := 396) (by decide +kernel)⟩
theorem lw_p23 : lw_okq (⟨"ProverbCollection$Edits", "swaps", "(II)Z"⟩, 5) := ⟨⟨by decide +kernel, by decide +kernel⟩, List.mem_of_getElem? (i := 123) (by decide +kernel), List.mem_of_getElem? (i := 400) (by decide +kernel), List.mem_of_getElem? (i := 401) (by decide +kernel)⟩
theorem lw_p24 : lw_okq (⟨"ProverbCollection$Edits", "trace", "([I)V"⟩, 5) := ⟨⟨by decide +kernel, by decide +kernel⟩, List.mem_of_getElem? (i := 123) (by decide +kernel), List.mem_of_getElem? (i := 420) (by decide +kernel), List.mem_of_getElem? (i := 421) (by decide +kernel)⟩
theorem lw_p25 : lw_okq (⟨"ProverbCollection$Edits", "lastStep", "(II[I)I"⟩, 5) := ⟨⟨by decide +kernel, by decide +kernel⟩, List.mem_of_getElem? (i := 123) (by decide +kernel), List.mem_of_getElem? (i := 424) (by decide +kernel), List.mem_of_getElem? (i := 425) (by decide +kernel)⟩
theorem lw_p26 : lw_okq (⟨"ProverbCollection$Edits", "fromBeginning", "(I)I"⟩, 5) := ⟨⟨by decide +kernel, by decide +kernel⟩, List.mem_of_getElem? (i := 123) (by decide +kernel), List.mem_of_getElem? (i := 432) (by decide +kernel), List.mem_of_getElem? (i := 433) (by decide +kernel)⟩
theorem lw_p27 : lw_okq (⟨"ProverbCollection$Matcher", "match", "(LProverbCollection$State;II)I"⟩, 5) := ⟨⟨by decide +kernel, by decide +kernel⟩, List.mem_of_getElem? (i := 152) (by decide +kernel), List.mem_of_getElem? (i := 455) (by decide +kernel), List.mem_of_getElem? (i := 456) (by decide +kernel)⟩
theorem lw_p28 : lw_okq (⟨"ProverbCollection$Matcher", "fill", "(II)V"⟩, 5) := ⟨⟨by decide +kernel, by decide +kernel⟩, List.mem_of_getElem? (i := 152) (by decide +kernel), List.mem_of_getElem? (i := 460) (by decide +kernel), List.mem_of_getElem? (i := 461) (by decide +kernel)⟩
theorem lw_p29 : lw_okq (⟨"ProverbCollection$Matcher", "noteFilling", "(I)V"⟩, 5) := ⟨⟨by decide +kernel, by decide +kernel⟩, List.mem_of_getElem? (i := 152) (by decide +kernel), List.mem_of_getElem? (i := 464) (by decide +kernel), List.mem_of_getElem? (i := 465) (by decide +kernel)⟩
theorem lw_p30 : lw_okq (⟨"ProverbCollection$Matcher", "fillOne", "(II)V"⟩, 5) := ⟨⟨by decide +kernel, by decide +kernel⟩, List.mem_of_getElem? (i := 152) (by decide +kernel), List.mem_of_getElem? (i := 470) (by decide +kernel), List.mem_of_getElem? (i := 471) (by decide +kernel)⟩
theorem lw_p31 : lw_okq (⟨"ProverbCollection$Matcher", "fit", "()I"⟩, 5) := ⟨⟨by decide +kernel, by decide +kernel⟩, List.mem_of_getElem? (i := 152) (by decide +kernel), List.mem_of_getElem? (i := 486) (by decide +kernel), List.mem_of_getElem? (i := 487) (by decide +kernel)⟩
def lw_privs_2 : List (MethodName × Nat) := [(⟨"ProverbCollection$State", "isOlder", "(II)Z"⟩, 6), (⟨"ProverbCollection", "hasBoth", "(II)Z"⟩, 8), (⟨"ProverbCollection$Edits", "between", "(LProverbCollection$State;II)I"⟩, 5), (⟨"ProverbCollection$Shelf", "load", "(ILProverbCollection$Sequence;)V"⟩, 4), (⟨"ProverbCollection$Edits", "measure", "([I)I"⟩, 5), (⟨"ProverbCollection$Edits", "by", "(III[I)I"⟩, 5), (⟨"ProverbCollection$Edits", "replacing", "(II[I)I"⟩, 5), (⟨"ProverbCollection$Edits", "swaps", "(II)Z"⟩, 5), (⟨"ProverbCollection$Edits", "trace", "([I)V"⟩, 5), (⟨"ProverbCollection$Edits", "lastStep", "(II[I)I"⟩, 5), (⟨"ProverbCollection$Edits", "fromBeginning", "(I)I"⟩, 5), (⟨"ProverbCollection$Matcher", "match", "(LProverbCollection$State;II)I"⟩, 5), (⟨"ProverbCollection$Matcher", "fill", "(II)V"⟩, 5), (⟨"ProverbCollection$Matcher", "noteFilling", "(I)V"⟩, 5), (⟨"ProverbCollection$Matcher", "fillOne", "(II)V"⟩, 5), (⟨"ProverbCollection$Matcher", "fit", "()I"⟩, 5)]
theorem lw_r2 : ∀ q ∈ lw_privs_2, lw_okq q := List.forall_mem_cons.mpr ⟨lw_p16, List.forall_mem_cons.mpr ⟨lw_p17, List.forall_mem_cons.mpr ⟨lw_p18, List.forall_mem_cons.mpr ⟨lw_p19, List.forall_mem_cons.mpr ⟨lw_p20, List.forall_mem_cons.mpr ⟨lw_p21, List.forall_mem_cons.mpr ⟨lw_p22, List.forall_mem_cons.mpr ⟨lw_p23, List.forall_mem_cons.mpr ⟨lw_p24, List.forall_mem_cons.mpr ⟨lw_p25, List.forall_mem_cons.mpr ⟨lw_p26, List.forall_mem_cons.mpr ⟨lw_p27, List.forall_mem_cons.mpr ⟨lw_p28, List.forall_mem_cons.mpr ⟨lw_p29, List.forall_mem_cons.mpr ⟨lw_p30, List.forall_mem_cons.mpr ⟨lw_p31, fun _ h => absurd h List.not_mem_nil⟩⟩⟩⟩⟩⟩⟩⟩⟩⟩⟩⟩⟩⟩⟩⟩
theorem lw_p32 : lw_okq (⟨"ProverbCollection$Sequence", "gapCount", "()I"⟩, 2) := ⟨⟨by decide +kernel, by decide +kernel⟩, List.mem_of_getElem? (i := 24) (by decide +kernel), List.mem_of_getElem? (i := 491) (by decide +kernel), List.mem_of_getElem? (i := 492) (by decide +kernel)⟩
theorem lw_p33 : lw_okq (⟨"ProverbCollection$Groups", "form", "(LProverbCollection$State;LProverbCollection$Edits;)V"⟩, 4) := ⟨⟨by decide +kernel, by decide +kernel⟩, List.mem_of_getElem? (i := 177) (by decide +kernel), List.mem_of_getElem? (i := 503) (by decide +kernel), List.mem_of_getElem? (i := 504) (by decide +kernel)⟩
theorem lw_p34 : lw_okq (⟨"ProverbCollection$Groups", "members", "(LProverbCollection$State;I)I"⟩, 4) := ⟨⟨by decide +kernel, by decide +kernel⟩, List.mem_of_getElem? (i := 177) (by decide +kernel), List.mem_of_getElem? (i := 521) (by decide +kernel), List.mem_of_getElem? (i := 522) (by decide +kernel)⟩
theorem lw_p35 : lw_okq (⟨"ProverbCollection$Groups", "regions", "(LProverbCollection$State;I)I"⟩, 4) := ⟨⟨by decide +kernel, by decide +kernel⟩, List.mem_of_getElem? (i := 177) (by decide +kernel), List.mem_of_getElem? (i := 525) (by decide +kernel), List.mem_of_getElem? (i := 526) (by decide +kernel)⟩
theorem lw_p36 : lw_okq (⟨"ProverbCollection$Groups", "radius", "(LProverbCollection$State;LProverbCollection$Edits;I)I"⟩, 4) := ⟨⟨by decide +kernel, by decide +kernel⟩, List.mem_of_getElem? (i := 177) (by decide +kernel), List.mem_of_getElem? (i := 535) (by decide +kernel), List.mem_of_getElem? (i := 536) (by decide +kernel)⟩
theorem lw_p37 : lw_okq (⟨"ProverbCollection$Crossings", "cost", "(LProverbCollection$State;LProverbCollection$Edits;III)I"⟩, 4) := ⟨⟨by decide +kernel, by decide +kernel⟩, List.mem_of_getElem? (i := 199) (by decide +kernel), List.mem_of_getElem? (i := 544) (by decide +kernel), List.mem_of_getElem? (i := 545) (by decide +kernel)⟩
theorem lw_p38 : lw_okq (⟨"ProverbCollection$Sequence", "addPart", "(LProverbCollection$Sequence;II)V"⟩, 2) := ⟨⟨by decide +kernel, by decide +kernel⟩, List.mem_of_getElem? (i := 24) (by decide +kernel), List.mem_of_getElem? (i := 550) (by decide +kernel), List.mem_of_getElem? (i := 551) (by decide +kernel)⟩
theorem lw_p39 : lw_okq (⟨"ProverbCollection$Crossings", "bestPair", "(LProverbCollection$State;LProverbCollection$Edits;II)I"⟩, 4) := ⟨⟨by decide +kernel, by decide +kernel⟩, List.mem_of_getElem? (i := 199) (by decide +kernel), List.mem_of_getElem? (i := 562) (by decide +kernel), List.mem_of_getElem? (i := 563) (by decide +kernel)⟩
theorem lw_p40 : lw_okq (⟨"ProverbCollection$History", "restore", "(LProverbCollection$State;)V"⟩, 3) := ⟨⟨by decide +kernel, by decide +kernel⟩, List.mem_of_getElem? (i := 103) (by decide +kernel), List.mem_of_getElem? (i := 574) (by decide +kernel), List.mem_of_getElem? (i := 575) (by decide +kernel)⟩
theorem lw_p41 : lw_okq (⟨"ProverbCollectionModel", "keeps", "()V"⟩, 18) := ⟨⟨by decide +kernel, by decide +kernel⟩, List.mem_of_getElem? (i := 578) (by decide +kernel), List.mem_of_getElem? (i := 662) (by decide +kernel), List.mem_of_getElem? (i := 663) (by decide +kernel)⟩
theorem lw_p42 : lw_okq (⟨"ProverbCollectionModel", "isSaying", "(I)Z"⟩, 18) := ⟨⟨by decide +kernel, by decide +kernel⟩, List.mem_of_getElem? (i := 578) (by decide +kernel), List.mem_of_getElem? (i := 670) (by decide +kernel), List.mem_of_getElem? (i := 671) (by decide +kernel)⟩
theorem lw_p43 : lw_okq (⟨"ProverbCollectionModel", "atAge", "(I)I"⟩, 18) := ⟨⟨by decide +kernel, by decide +kernel⟩, List.mem_of_getElem? (i := 578) (by decide +kernel), List.mem_of_getElem? (i := 690) (by decide +kernel), List.mem_of_getElem? (i := 691) (by decide +kernel)⟩
theorem lw_p44 : lw_okq (⟨"ProverbCollectionModel", "isOlder", "(II)Z"⟩, 18) := ⟨⟨by decide +kernel, by decide +kernel⟩, List.mem_of_getElem? (i := 578) (by decide +kernel), List.mem_of_getElem? (i := 694) (by decide +kernel), List.mem_of_getElem? (i := 695) (by decide +kernel)⟩
theorem lw_p45 : lw_okq (⟨"ProverbCollectionModel", "distanceOf", "(II)I"⟩, 18) := ⟨⟨by decide +kernel, by decide +kernel⟩, List.mem_of_getElem? (i := 578) (by decide +kernel), List.mem_of_getElem? (i := 707) (by decide +kernel), List.mem_of_getElem? (i := 708) (by decide +kernel)⟩
theorem lw_p46 : lw_okq (⟨"ProverbCollectionModel", "takesOne", "(I)V"⟩, 18) := ⟨⟨by decide +kernel, by decide +kernel⟩, List.mem_of_getElem? (i := 578) (by decide +kernel), List.mem_of_getElem? (i := 711) (by decide +kernel), List.mem_of_getElem? (i := 712) (by decide +kernel)⟩
theorem lw_p47 : lw_okq (⟨"ProverbCollectionModel", "takesOther", "(I)V"⟩, 18) := ⟨⟨by decide +kernel, by decide +kernel⟩, List.mem_of_getElem? (i := 578) (by decide +kernel), List.mem_of_getElem? (i := 715) (by decide +kernel), List.mem_of_getElem? (i := 716) (by decide +kernel)⟩
def lw_privs_3 : List (MethodName × Nat) := [(⟨"ProverbCollection$Sequence", "gapCount", "()I"⟩, 2), (⟨"ProverbCollection$Groups", "form", "(LProverbCollection$State;LProverbCollection$Edits;)V"⟩, 4), (⟨"ProverbCollection$Groups", "members", "(LProverbCollection$State;I)I"⟩, 4), (⟨"ProverbCollection$Groups", "regions", "(LProverbCollection$State;I)I"⟩, 4), (⟨"ProverbCollection$Groups", "radius", "(LProverbCollection$State;LProverbCollection$Edits;I)I"⟩, 4), (⟨"ProverbCollection$Crossings", "cost", "(LProverbCollection$State;LProverbCollection$Edits;III)I"⟩, 4), (⟨"ProverbCollection$Sequence", "addPart", "(LProverbCollection$Sequence;II)V"⟩, 2), (⟨"ProverbCollection$Crossings", "bestPair", "(LProverbCollection$State;LProverbCollection$Edits;II)I"⟩, 4), (⟨"ProverbCollection$History", "restore", "(LProverbCollection$State;)V"⟩, 3), (⟨"ProverbCollectionModel", "keeps", "()V"⟩, 18), (⟨"ProverbCollectionModel", "isSaying", "(I)Z"⟩, 18), (⟨"ProverbCollectionModel", "atAge", "(I)I"⟩, 18), (⟨"ProverbCollectionModel", "isOlder", "(II)Z"⟩, 18), (⟨"ProverbCollectionModel", "distanceOf", "(II)I"⟩, 18), (⟨"ProverbCollectionModel", "takesOne", "(I)V"⟩, 18), (⟨"ProverbCollectionModel", "takesOther", "(I)V"⟩, 18)]
theorem lw_r3 : ∀ q ∈ lw_privs_3, lw_okq q := List.forall_mem_cons.mpr ⟨lw_p32, List.forall_mem_cons.mpr ⟨lw_p33, List.forall_mem_cons.mpr ⟨lw_p34, List.forall_mem_cons.mpr ⟨lw_p35, List.forall_mem_cons.mpr ⟨lw_p36, List.forall_mem_cons.mpr ⟨lw_p37, List.forall_mem_cons.mpr ⟨lw_p38, List.forall_mem_cons.mpr ⟨lw_p39, List.forall_mem_cons.mpr ⟨lw_p40, List.forall_mem_cons.mpr ⟨lw_p41, List.forall_mem_cons.mpr ⟨lw_p42, List.forall_mem_cons.mpr ⟨lw_p43, List.forall_mem_cons.mpr ⟨lw_p44, List.forall_mem_cons.mpr ⟨lw_p45, List.forall_mem_cons.mpr ⟨lw_p46, List.forall_mem_cons.mpr ⟨lw_p47, fun _ h => absurd h List.not_mem_nil⟩⟩⟩⟩⟩⟩⟩⟩⟩⟩⟩⟩⟩⟩⟩⟩
theorem lw_p48 : lw_okq (⟨"ProverbCollectionModel", "lays", "()I"⟩, 18) := ⟨⟨by decide +kernel, by decide +kernel⟩, List.mem_of_getElem? (i := 578) (by decide +kernel), List.mem_of_getElem? (i := 719) (by decide +kernel), List.mem_of_getElem? (i := 720) (by decide +kernel)⟩
theorem lw_p49 : lw_okq (⟨"ProverbCollectionModel", "isStep", "(III)Z"⟩, 18) := ⟨⟨by decide +kernel, by decide +kernel⟩, List.mem_of_getElem? (i := 578) (by decide +kernel), List.mem_of_getElem? (i := 723) (by decide +kernel), List.mem_of_getElem? (i := 724) (by decide +kernel)⟩
theorem lw_p50 : lw_okq (⟨"ProverbCollectionModel", "isCrossed", "(II)Z"⟩, 18) := ⟨⟨by decide +kernel, by decide +kernel⟩, List.mem_of_getElem? (i := 578) (by decide +kernel), List.mem_of_getElem? (i := 727) (by decide +kernel), List.mem_of_getElem? (i := 728) (by decide +kernel)⟩
theorem lw_p51 : lw_okq (⟨"ProverbCollectionModel", "by", "(III)I"⟩, 18) := ⟨⟨by decide +kernel, by decide +kernel⟩, List.mem_of_getElem? (i := 578) (by decide +kernel), List.mem_of_getElem? (i := 731) (by decide +kernel), List.mem_of_getElem? (i := 732) (by decide +kernel)⟩
theorem lw_p52 : lw_okq (⟨"ProverbCollectionModel", "exchange", "(II)I"⟩, 18) := ⟨⟨by decide +kernel, by decide +kernel⟩, List.mem_of_getElem? (i := 578) (by decide +kernel), List.mem_of_getElem? (i := 735) (by decide +kernel), List.mem_of_getElem? (i := 736) (by decide +kernel)⟩
theorem lw_p53 : lw_okq (⟨"ProverbCollectionModel", "findsEdits", "(II)V"⟩, 18) := ⟨⟨by decide +kernel, by decide +kernel⟩, List.mem_of_getElem? (i := 578) (by decide +kernel), List.mem_of_getElem? (i := 757) (by decide +kernel), List.mem_of_getElem? (i := 758) (by decide +kernel)⟩
theorem lw_p54 : lw_okq (⟨"ProverbCollectionModel", "isPattern", "(I)Z"⟩, 18) := ⟨⟨by decide +kernel, by decide +kernel⟩, List.mem_of_getElem? (i := 578) (by decide +kernel), List.mem_of_getElem? (i := 777) (by decide +kernel), List.mem_of_getElem? (i := 778) (by decide +kernel)⟩
theorem lw_p55 : lw_okq (⟨"ProverbCollectionModel", "fills", "(II)I"⟩, 18) := ⟨⟨by decide +kernel, by decide +kernel⟩, List.mem_of_getElem? (i := 578) (by decide +kernel), List.mem_of_getElem? (i := 785) (by decide +kernel), List.mem_of_getElem? (i := 786) (by decide +kernel)⟩
theorem lw_p56 : lw_okq (⟨"ProverbCollectionModel", "tokensOf", "(III)I"⟩, 18) := ⟨⟨by decide +kernel, by decide +kernel⟩, List.mem_of_getElem? (i := 578) (by decide +kernel), List.mem_of_getElem? (i := 789) (by decide +kernel), List.mem_of_getElem? (i := 790) (by decide +kernel)⟩
theorem lw_p57 : lw_okq (⟨"ProverbCollectionModel", "isFilled", "(II)Z"⟩, 18) := ⟨⟨by decide +kernel, by decide +kernel⟩, List.mem_of_getElem? (i := 578) (by decide +kernel), List.mem_of_getElem? (i := 793) (by decide +kernel), List.mem_of_getElem? (i := 794) (by decide +kernel)⟩
theorem lw_p58 : lw_okq (⟨"ProverbCollectionModel", "goesOn", "(I)Z"⟩, 18) := ⟨⟨by decide +kernel, by decide +kernel⟩, List.mem_of_getElem? (i := 578) (by decide +kernel), List.mem_of_getElem? (i := 797) (by decide +kernel), List.mem_of_getElem? (i := 798) (by decide +kernel)⟩
theorem lw_p59 : lw_okq (⟨"ProverbCollectionModel", "makesGroups", "()V"⟩, 18) := ⟨⟨by decide +kernel, by decide +kernel⟩, List.mem_of_getElem? (i := 578) (by decide +kernel), List.mem_of_getElem? (i := 822) (by decide +kernel), List.mem_of_getElem? (i := 823) (by decide +kernel)⟩
theorem lw_p60 : lw_okq (⟨"ProverbCollectionModel", "crossed", "(III)I"⟩, 18) := ⟨⟨by decide +kernel, by decide +kernel⟩, List.mem_of_getElem? (i := 578) (by decide +kernel), List.mem_of_getElem? (i := 843) (by decide +kernel), List.mem_of_getElem? (i := 844) (by decide +kernel)⟩
def lw_privs_4 : List (MethodName × Nat) := [(⟨"ProverbCollectionModel", "lays", "()I"⟩, 18), (⟨"ProverbCollectionModel", "isStep", "(III)Z"⟩, 18), (⟨"ProverbCollectionModel", "isCrossed", "(II)Z"⟩, 18), (⟨"ProverbCollectionModel", "by", "(III)I"⟩, 18), (⟨"ProverbCollectionModel", "exchange", "(II)I"⟩, 18), (⟨"ProverbCollectionModel", "findsEdits", "(II)V"⟩, 18), (⟨"ProverbCollectionModel", "isPattern", "(I)Z"⟩, 18), (⟨"ProverbCollectionModel", "fills", "(II)I"⟩, 18), (⟨"ProverbCollectionModel", "tokensOf", "(III)I"⟩, 18), (⟨"ProverbCollectionModel", "isFilled", "(II)Z"⟩, 18), (⟨"ProverbCollectionModel", "goesOn", "(I)Z"⟩, 18), (⟨"ProverbCollectionModel", "makesGroups", "()V"⟩, 18), (⟨"ProverbCollectionModel", "crossed", "(III)I"⟩, 18)]
theorem lw_r4 : ∀ q ∈ lw_privs_4, lw_okq q := List.forall_mem_cons.mpr ⟨lw_p48, List.forall_mem_cons.mpr ⟨lw_p49, List.forall_mem_cons.mpr ⟨lw_p50, List.forall_mem_cons.mpr ⟨lw_p51, List.forall_mem_cons.mpr ⟨lw_p52, List.forall_mem_cons.mpr ⟨lw_p53, List.forall_mem_cons.mpr ⟨lw_p54, List.forall_mem_cons.mpr ⟨lw_p55, List.forall_mem_cons.mpr ⟨lw_p56, List.forall_mem_cons.mpr ⟨lw_p57, List.forall_mem_cons.mpr ⟨lw_p58, List.forall_mem_cons.mpr ⟨lw_p59, List.forall_mem_cons.mpr ⟨lw_p60, fun _ h => absurd h List.not_mem_nil⟩⟩⟩⟩⟩⟩⟩⟩⟩⟩⟩⟩⟩
def lw_privs : List (MethodName × Nat) := lw_privs_1 ++ (lw_privs_2 ++ (lw_privs_3 ++ (lw_privs_4)))
def lw_tbl : List Cond := k2_sels lw_privs ++ tables_1
theorem lw_privs_ok : ∀ q ∈ lw_privs, lw_okq q := by
  show ∀ q ∈ lw_privs_1 ++ (lw_privs_2 ++ (lw_privs_3 ++ (lw_privs_4))), lw_okq q
  exact List.forall_mem_append.mpr ⟨lw_r1, List.forall_mem_append.mpr ⟨lw_r2, List.forall_mem_append.mpr ⟨lw_r3, lw_r4⟩⟩⟩
/-- the streams that the claim lets the run draw from -/
abbrev lw_cs : List Choice := [Jvm.Choice.named "NaN.bits"]
theorem lw_bits : nanBits ∈ lw_cs := by first | decide | exact List.mem_cons_self | simp [lw_cs, nanBits]
end
section
/-! printed names (claim/NAMES.whole.lean.txt), without the word lists of single methods -/
theorem goodIn_r {big : List Cond} (ws : List Cond) (ps : List Nat) (hp : ws = ps.filterMap (fun i => big[i]?)) (h : ws.all goodWord = true) : GoodIn big ws := by
  intro w hw
  have h1 := List.all_eq_true.mp h w hw
  rw [hp] at hw
  obtain ⟨i, -, hi⟩ := List.mem_filterMap.mp hw
  have hm : w ∈ big := by first | exact List.mem_of_getElem? hi | exact List.getElem?_mem hi
  exact ⟨hm, good_of_word h1⟩
theorem goodIn_app {big a b : List Cond} (ha : GoodIn big a) (hb : GoodIn big b) : GoodIn big (a ++ b) := fun w h => (List.mem_append.mp h).elim (ha w) (hb w)
theorem goodIn_ca {big a b : List Cond} {c : Cond} (ha : GoodIn big (c :: a)) (hb : GoodIn big b) : GoodIn big (c :: (a ++ b)) := fun w h => (List.mem_cons.mp h).elim (fun e => ha w (List.mem_cons.mpr (Or.inl e))) (fun h => (List.mem_append.mp h).elim (fun h => ha w (List.mem_cons.mpr (Or.inr h))) (hb w))
theorem goodIn_sub {big ws : List Cond} (hm : ∀ w ∈ ws, w ∈ big) (h : ws.all goodWord = true) : GoodIn big ws := fun w hw => ⟨hm w hw, good_of_word (List.all_eq_true.mp h w hw)⟩
def RX0 : String := "ProverbCollection$Crossings"
def TX0 : u_T := fun k => match k with
  | 0 => ("ProverbCollection$Crossings", "front", "LProverbCollection$Sequence;", true)
  | 1 => ("ProverbCollection$Crossings", "back", "LProverbCollection$Sequence;", true)
  | 2 => ("ProverbCollection$Crossings", "order", "[I", true)
  | _ => ("ProverbCollection$Crossings", "apart", "[I", true)
def tyX0 : Nat → FieldType := fun k => match k with
  | 0 => .object "ProverbCollection$Sequence"
  | 1 => .object "ProverbCollection$Sequence"
  | 2 => .array .int
  | _ => .array .int
abbrev wsX00 : List Cond := u_ws RX0 TX0 4
theorem nmX0 : ∀ a, a < 4 → ∀ b, b < 4 → a ≠ b → (TX0 a).2.1 ≠ (TX0 b).2.1 := by decide +kernel
theorem tyX0_ok : ∀ k, k < 4 → parseFieldDescriptor (TX0 k).2.2.1 = some (tyX0 k) := by decide +kernel
abbrev cX0_init : ByteArray := prog_2_method_1_code
def yX0_init : MethodName := ⟨RX0, "<init>", "()V"⟩
abbrev cX0_cost : ByteArray := prog_2_method_2_code
def yX0_cost : MethodName := ⟨RX0, "cost", "(LProverbCollection$State;LProverbCollection$Edits;III)I"⟩
abbrev cX0_bestPair : ByteArray := prog_2_method_3_code
def yX0_bestPair : MethodName := ⟨RX0, "bestPair", "(LProverbCollection$State;LProverbCollection$Edits;II)I"⟩
def RX1 : String := "ProverbCollection$Edits"
def TX1 : u_T := fun k => match k with
  | 0 => ("ProverbCollection$Edits", "first", "LProverbCollection$Sequence;", true)
  | 1 => ("ProverbCollection$Edits", "second", "LProverbCollection$Sequence;", true)
  | 2 => ("ProverbCollection$Edits", "table", "[[I", true)
  | 3 => ("ProverbCollection$Edits", "list", "[I", true)
  | _ => ("ProverbCollection$Edits", "listed", "I", false)
def tyX1 : Nat → FieldType := fun k => match k with
  | 0 => .object "ProverbCollection$Sequence"
  | 1 => .object "ProverbCollection$Sequence"
  | 2 => .array (.array .int)
  | 3 => .array .int
  | _ => .int
abbrev wsX10 : List Cond := u_ws RX1 TX1 5
theorem nmX1 : ∀ a, a < 5 → ∀ b, b < 5 → a ≠ b → (TX1 a).2.1 ≠ (TX1 b).2.1 := by decide +kernel
theorem tyX1_ok : ∀ k, k < 5 → parseFieldDescriptor (TX1 k).2.2.1 = some (tyX1 k) := by decide +kernel
abbrev cX1_init : ByteArray := prog_3_method_1_code
def yX1_init : MethodName := ⟨RX1, "<init>", "()V"⟩
abbrev cX1_between : ByteArray := prog_3_method_2_code
def yX1_between : MethodName := ⟨RX1, "between", "(LProverbCollection$State;II)I"⟩
abbrev cX1_measure : ByteArray := prog_3_method_3_code
def yX1_measure : MethodName := ⟨RX1, "measure", "([I)I"⟩
abbrev cX1_by : ByteArray := prog_3_method_4_code
def yX1_by : MethodName := ⟨RX1, "by", "(III[I)I"⟩
abbrev cX1_replacing : ByteArray := prog_3_method_5_code
def yX1_replacing : MethodName := ⟨RX1, "replacing", "(II[I)I"⟩
abbrev cX1_swaps : ByteArray := prog_3_method_6_code
def yX1_swaps : MethodName := ⟨RX1, "swaps", "(II)Z"⟩
abbrev cX1_trace : ByteArray := prog_3_method_7_code
def yX1_trace : MethodName := ⟨RX1, "trace", "([I)V"⟩
abbrev cX1_lastStep : ByteArray := prog_3_method_8_code
def yX1_lastStep : MethodName := ⟨RX1, "lastStep", "(II[I)I"⟩
abbrev cX1_fromBeginning : ByteArray := prog_3_method_9_code
def yX1_fromBeginning : MethodName := ⟨RX1, "fromBeginning", "(I)I"⟩
def RX2 : String := "ProverbCollection$Groups"
def TX2 : u_T := fun k => match k with
  | 0 => ("ProverbCollection$Groups", "order", "[I", true)
  | 1 => ("ProverbCollection$Groups", "memberOf", "[I", true)
  | 2 => ("ProverbCollection$Groups", "centres", "[I", true)
  | _ => ("ProverbCollection$Groups", "count", "I", false)
def tyX2 : Nat → FieldType := fun k => match k with
  | 0 => .array .int
  | 1 => .array .int
  | 2 => .array .int
  | _ => .int
abbrev wsX20 : List Cond := u_ws RX2 TX2 4
theorem nmX2 : ∀ a, a < 4 → ∀ b, b < 4 → a ≠ b → (TX2 a).2.1 ≠ (TX2 b).2.1 := by decide +kernel
theorem tyX2_ok : ∀ k, k < 4 → parseFieldDescriptor (TX2 k).2.2.1 = some (tyX2 k) := by decide +kernel
abbrev cX2_init : ByteArray := prog_4_method_1_code
def yX2_init : MethodName := ⟨RX2, "<init>", "()V"⟩
abbrev cX2_form : ByteArray := prog_4_method_2_code
def yX2_form : MethodName := ⟨RX2, "form", "(LProverbCollection$State;LProverbCollection$Edits;)V"⟩
abbrev cX2_members : ByteArray := prog_4_method_3_code
def yX2_members : MethodName := ⟨RX2, "members", "(LProverbCollection$State;I)I"⟩
abbrev cX2_regions : ByteArray := prog_4_method_4_code
def yX2_regions : MethodName := ⟨RX2, "regions", "(LProverbCollection$State;I)I"⟩
abbrev cX2_radius : ByteArray := prog_4_method_5_code
def yX2_radius : MethodName := ⟨RX2, "radius", "(LProverbCollection$State;LProverbCollection$Edits;I)I"⟩
def RX3 : String := "ProverbCollection$History"
def TX3 : u_T := fun k => match k with
  | 0 => ("ProverbCollection$History", "ring", "[LProverbCollection$State;", true)
  | 1 => ("ProverbCollection$History", "next", "I", false)
  | _ => ("ProverbCollection$History", "count", "I", false)
def tyX3 : Nat → FieldType := fun k => match k with
  | 0 => .array (.object "ProverbCollection$State")
  | 1 => .int
  | _ => .int
abbrev wsX30 : List Cond := u_ws RX3 TX3 3
theorem nmX3 : ∀ a, a < 3 → ∀ b, b < 3 → a ≠ b → (TX3 a).2.1 ≠ (TX3 b).2.1 := by decide +kernel
theorem tyX3_ok : ∀ k, k < 3 → parseFieldDescriptor (TX3 k).2.2.1 = some (tyX3 k) := by decide +kernel
abbrev cX3_init : ByteArray := prog_5_method_1_code
def yX3_init : MethodName := ⟨RX3, "<init>", "()V"⟩
abbrev cX3_keep : ByteArray := prog_5_method_2_code
def yX3_keep : MethodName := ⟨RX3, "keep", "(LProverbCollection$State;)V"⟩
abbrev cX3_restore : ByteArray := prog_5_method_3_code
def yX3_restore : MethodName := ⟨RX3, "restore", "(LProverbCollection$State;)V"⟩
def RX4 : String := "ProverbCollection$Matcher"
def TX4 : u_T := fun k => match k with
  | 0 => ("ProverbCollection$Matcher", "pattern", "LProverbCollection$Sequence;", true)
  | 1 => ("ProverbCollection$Matcher", "saying", "LProverbCollection$Sequence;", true)
  | 2 => ("ProverbCollection$Matcher", "slotWords", "[I", true)
  | 3 => ("ProverbCollection$Matcher", "firstWord", "[I", true)
  | _ => ("ProverbCollection$Matcher", "found", "I", false)
def tyX4 : Nat → FieldType := fun k => match k with
  | 0 => .object "ProverbCollection$Sequence"
  | 1 => .object "ProverbCollection$Sequence"
  | 2 => .array .int
  | 3 => .array .int
  | _ => .int
abbrev wsX40 : List Cond := u_ws RX4 TX4 5
theorem nmX4 : ∀ a, a < 5 → ∀ b, b < 5 → a ≠ b → (TX4 a).2.1 ≠ (TX4 b).2.1 := by decide +kernel
theorem tyX4_ok : ∀ k, k < 5 → parseFieldDescriptor (TX4 k).2.2.1 = some (tyX4 k) := by decide +kernel
abbrev cX4_init : ByteArray := prog_6_method_1_code
def yX4_init : MethodName := ⟨RX4, "<init>", "()V"⟩
abbrev cX4_match : ByteArray := prog_6_method_2_code
def yX4_match : MethodName := ⟨RX4, "match", "(LProverbCollection$State;II)I"⟩
abbrev cX4_fit : ByteArray := prog_6_method_3_code
def yX4_fit : MethodName := ⟨RX4, "fit", "()I"⟩
abbrev cX4_fill : ByteArray := prog_6_method_4_code
def yX4_fill : MethodName := ⟨RX4, "fill", "(II)V"⟩
abbrev cX4_fillOne : ByteArray := prog_6_method_5_code
def yX4_fillOne : MethodName := ⟨RX4, "fillOne", "(II)V"⟩
abbrev cX4_noteFilling : ByteArray := prog_6_method_6_code
def yX4_noteFilling : MethodName := ⟨RX4, "noteFilling", "(I)V"⟩
def RX5 : String := "ProverbCollection$Sequence"
def TX5 : u_T := fun k => match k with
  | 0 => ("ProverbCollection$Sequence", "tokens", "[I", true)
  | _ => ("ProverbCollection$Sequence", "length", "I", false)
def tyX5 : Nat → FieldType := fun k => match k with
  | 0 => .array .int
  | _ => .int
abbrev wsX50 : List Cond := u_ws RX5 TX5 2
theorem nmX5 : ∀ a, a < 2 → ∀ b, b < 2 → a ≠ b → (TX5 a).2.1 ≠ (TX5 b).2.1 := by decide +kernel
theorem tyX5_ok : ∀ k, k < 2 → parseFieldDescriptor (TX5 k).2.2.1 = some (tyX5 k) := by decide +kernel
abbrev cX5_init : ByteArray := prog_7_method_1_code
def yX5_init : MethodName := ⟨RX5, "<init>", "()V"⟩
abbrev cX5_add : ByteArray := prog_7_method_2_code
def yX5_add : MethodName := ⟨RX5, "add", "(I)V"⟩
abbrev cX5_addPart : ByteArray := prog_7_method_3_code
def yX5_addPart : MethodName := ⟨RX5, "addPart", "(LProverbCollection$Sequence;II)V"⟩
abbrev cX5_at : ByteArray := prog_7_method_4_code
def yX5_at : MethodName := ⟨RX5, "at", "(I)I"⟩
abbrev cX5_wordCount : ByteArray := prog_7_method_5_code
def yX5_wordCount : MethodName := ⟨RX5, "wordCount", "()I"⟩
abbrev cX5_gapCount : ByteArray := prog_7_method_6_code
def yX5_gapCount : MethodName := ⟨RX5, "gapCount", "()I"⟩
def RX6 : String := "ProverbCollection$Shelf"
def TX6 : u_T := fun k => match k with
  | 0 => ("ProverbCollection$Shelf", "most", "I", true)
  | 1 => ("ProverbCollection$Shelf", "tokens", "[I", true)
  | 2 => ("ProverbCollection$Shelf", "lengths", "[I", true)
  | _ => ("ProverbCollection$Shelf", "count", "I", false)
def tyX6 : Nat → FieldType := fun k => match k with
  | 0 => .int
  | 1 => .array .int
  | 2 => .array .int
  | _ => .int
abbrev wsX60 : List Cond := u_ws RX6 TX6 4
theorem nmX6 : ∀ a, a < 4 → ∀ b, b < 4 → a ≠ b → (TX6 a).2.1 ≠ (TX6 b).2.1 := by decide +kernel
theorem tyX6_ok : ∀ k, k < 4 → parseFieldDescriptor (TX6 k).2.2.1 = some (tyX6 k) := by decide +kernel
abbrev cX6_init : ByteArray := prog_8_method_1_code
def yX6_init : MethodName := ⟨RX6, "<init>", "(I)V"⟩
abbrev cX6_isFull : ByteArray := prog_8_method_2_code
def yX6_isFull : MethodName := ⟨RX6, "isFull", "()Z"⟩
abbrev cX6_has : ByteArray := prog_8_method_3_code
def yX6_has : MethodName := ⟨RX6, "has", "(I)Z"⟩
abbrev cX6_size : ByteArray := prog_8_method_4_code
def yX6_size : MethodName := ⟨RX6, "size", "(I)I"⟩
abbrev cX6_token : ByteArray := prog_8_method_5_code
def yX6_token : MethodName := ⟨RX6, "token", "(II)I"⟩
abbrev cX6_add : ByteArray := prog_8_method_6_code
def yX6_add : MethodName := ⟨RX6, "add", "(LProverbCollection$Sequence;)I"⟩
abbrev cX6_drop : ByteArray := prog_8_method_7_code
def yX6_drop : MethodName := ⟨RX6, "drop", "(I)V"⟩
abbrev cX6_load : ByteArray := prog_8_method_8_code
def yX6_load : MethodName := ⟨RX6, "load", "(ILProverbCollection$Sequence;)V"⟩
abbrev cX6_copyFrom : ByteArray := prog_8_method_9_code
def yX6_copyFrom : MethodName := ⟨RX6, "copyFrom", "(LProverbCollection$Shelf;)V"⟩
def RX7 : String := "ProverbCollection$State"
def TX7 : u_T := fun k => match k with
  | 0 => ("ProverbCollection$State", "sayings", "LProverbCollection$Shelf;", true)
  | 1 => ("ProverbCollection$State", "years", "[I", true)
  | 2 => ("ProverbCollection$State", "regions", "[I", true)
  | 3 => ("ProverbCollection$State", "patterns", "LProverbCollection$Shelf;", true)
  | 4 => ("ProverbCollection$State", "costs", "[I", true)
  | _ => ("ProverbCollection$State", "limit", "I", false)
def tyX7 : Nat → FieldType := fun k => match k with
  | 0 => .object "ProverbCollection$Shelf"
  | 1 => .array .int
  | 2 => .array .int
  | 3 => .object "ProverbCollection$Shelf"
  | 4 => .array .int
  | _ => .int
abbrev wsX70 : List Cond := u_ws RX7 TX7 6
theorem nmX7 : ∀ a, a < 6 → ∀ b, b < 6 → a ≠ b → (TX7 a).2.1 ≠ (TX7 b).2.1 := by decide +kernel
theorem tyX7_ok : ∀ k, k < 6 → parseFieldDescriptor (TX7 k).2.2.1 = some (tyX7 k) := by decide +kernel
abbrev cX7_init : ByteArray := prog_9_method_1_code
def yX7_init : MethodName := ⟨RX7, "<init>", "()V"⟩
abbrev cX7_copyFrom : ByteArray := prog_9_method_2_code
def yX7_copyFrom : MethodName := ⟨RX7, "copyFrom", "(LProverbCollection$State;)V"⟩
abbrev cX7_takeSaying : ByteArray := prog_9_method_3_code
def yX7_takeSaying : MethodName := ⟨RX7, "takeSaying", "(LProverbCollection$Sequence;II)I"⟩
abbrev cX7_dropSaying : ByteArray := prog_9_method_4_code
def yX7_dropSaying : MethodName := ⟨RX7, "dropSaying", "(I)V"⟩
abbrev cX7_place : ByteArray := prog_9_method_5_code
def yX7_place : MethodName := ⟨RX7, "place", "(I)I"⟩
abbrev cX7_isOlder : ByteArray := prog_9_method_6_code
def yX7_isOlder : MethodName := ⟨RX7, "isOlder", "(II)Z"⟩
abbrev cX7_sortByAge : ByteArray := prog_9_method_7_code
def yX7_sortByAge : MethodName := ⟨RX7, "sortByAge", "([I)V"⟩
def RX8 : String := "ProverbCollection"
def TX8 : u_T := fun k => match k with
  | 0 => ("ProverbCollection", "buffer", "LProverbCollection$Sequence;", true)
  | 1 => ("ProverbCollection", "now", "LProverbCollection$State;", true)
  | 2 => ("ProverbCollection", "history", "LProverbCollection$History;", true)
  | 3 => ("ProverbCollection", "edits", "LProverbCollection$Edits;", true)
  | 4 => ("ProverbCollection", "matcher", "LProverbCollection$Matcher;", true)
  | 5 => ("ProverbCollection", "groups", "LProverbCollection$Groups;", true)
  | 6 => ("ProverbCollection", "crossings", "LProverbCollection$Crossings;", true)
  | _ => ("ProverbCollection", "ageOrder", "[I", true)
def tyX8 : Nat → FieldType := fun k => match k with
  | 0 => .object "ProverbCollection$Sequence"
  | 1 => .object "ProverbCollection$State"
  | 2 => .object "ProverbCollection$History"
  | 3 => .object "ProverbCollection$Edits"
  | 4 => .object "ProverbCollection$Matcher"
  | 5 => .object "ProverbCollection$Groups"
  | 6 => .object "ProverbCollection$Crossings"
  | _ => .array .int
abbrev wsX80 : List Cond := u_ws RX8 TX8 8
theorem nmX8 : ∀ a, a < 8 → ∀ b, b < 8 → a ≠ b → (TX8 a).2.1 ≠ (TX8 b).2.1 := by decide +kernel
theorem tyX8_ok : ∀ k, k < 8 → parseFieldDescriptor (TX8 k).2.2.1 = some (tyX8 k) := by decide +kernel
abbrev cX8_init : ByteArray := prog_1_method_1_code
def yX8_init : MethodName := ⟨RX8, "<init>", "()V"⟩
abbrev cX8_append : ByteArray := prog_1_method_2_code
def yX8_append : MethodName := ⟨RX8, "append", "(I)I"⟩
abbrev cX8_clear : ByteArray := prog_1_method_3_code
def yX8_clear : MethodName := ⟨RX8, "clear", "()I"⟩
abbrev cX8_addSaying : ByteArray := prog_1_method_4_code
def yX8_addSaying : MethodName := ⟨RX8, "addSaying", "(II)I"⟩
abbrev cX8_removeSaying : ByteArray := prog_1_method_5_code
def yX8_removeSaying : MethodName := ⟨RX8, "removeSaying", "(I)I"⟩
abbrev cX8_sayingCount : ByteArray := prog_1_method_6_code
def yX8_sayingCount : MethodName := ⟨RX8, "sayingCount", "()I"⟩
abbrev cX8_lengthOf : ByteArray := prog_1_method_7_code
def yX8_lengthOf : MethodName := ⟨RX8, "lengthOf", "(I)I"⟩
abbrev cX8_wordAt : ByteArray := prog_1_method_8_code
def yX8_wordAt : MethodName := ⟨RX8, "wordAt", "(II)I"⟩
abbrev cX8_byAge : ByteArray := prog_1_method_9_code
def yX8_byAge : MethodName := ⟨RX8, "byAge", "(I)I"⟩
abbrev cX8_setCost : ByteArray := prog_1_method_10_code
def yX8_setCost : MethodName := ⟨RX8, "setCost", "(II)I"⟩
abbrev cX8_distance : ByteArray := prog_1_method_11_code
def yX8_distance : MethodName := ⟨RX8, "distance", "(II)I"⟩
abbrev cX8_similarityBits : ByteArray := prog_1_method_12_code
def yX8_similarityBits : MethodName := ⟨RX8, "similarityBits", "(II)I"⟩
abbrev cX8_editCount : ByteArray := prog_1_method_13_code
def yX8_editCount : MethodName := ⟨RX8, "editCount", "(II)I"⟩
abbrev cX8_editAt : ByteArray := prog_1_method_14_code
def yX8_editAt : MethodName := ⟨RX8, "editAt", "(III)I"⟩
abbrev cX8_nearest : ByteArray := prog_1_method_15_code
def yX8_nearest : MethodName := ⟨RX8, "nearest", "(I)I"⟩
abbrev cX8_addPattern : ByteArray := prog_1_method_16_code
def yX8_addPattern : MethodName := ⟨RX8, "addPattern", "()I"⟩
abbrev cX8_removePattern : ByteArray := prog_1_method_17_code
def yX8_removePattern : MethodName := ⟨RX8, "removePattern", "(I)I"⟩
abbrev cX8_fillings : ByteArray := prog_1_method_18_code
def yX8_fillings : MethodName := ⟨RX8, "fillings", "(II)I"⟩
abbrev cX8_slotWord : ByteArray := prog_1_method_19_code
def yX8_slotWord : MethodName := ⟨RX8, "slotWord", "(III)I"⟩
abbrev cX8_matchedSayings : ByteArray := prog_1_method_20_code
def yX8_matchedSayings : MethodName := ⟨RX8, "matchedSayings", "(I)I"⟩
abbrev cX8_bestPattern : ByteArray := prog_1_method_21_code
def yX8_bestPattern : MethodName := ⟨RX8, "bestPattern", "(I)I"⟩
abbrev cX8_setLimit : ByteArray := prog_1_method_22_code
def yX8_setLimit : MethodName := ⟨RX8, "setLimit", "(I)I"⟩
abbrev cX8_groupCount : ByteArray := prog_1_method_23_code
def yX8_groupCount : MethodName := ⟨RX8, "groupCount", "()I"⟩
abbrev cX8_groupOf : ByteArray := prog_1_method_24_code
def yX8_groupOf : MethodName := ⟨RX8, "groupOf", "(I)I"⟩
abbrev cX8_centreOf : ByteArray := prog_1_method_25_code
def yX8_centreOf : MethodName := ⟨RX8, "centreOf", "(I)I"⟩
abbrev cX8_groupInfo : ByteArray := prog_1_method_26_code
def yX8_groupInfo : MethodName := ⟨RX8, "groupInfo", "(II)I"⟩
abbrev cX8_crossingCost : ByteArray := prog_1_method_27_code
def yX8_crossingCost : MethodName := ⟨RX8, "crossingCost", "(III)I"⟩
abbrev cX8_crossing : ByteArray := prog_1_method_28_code
def yX8_crossing : MethodName := ⟨RX8, "crossing", "(II)I"⟩
abbrev cX8_undo : ByteArray := prog_1_method_29_code
def yX8_undo : MethodName := ⟨RX8, "undo", "()I"⟩
abbrev cX8_hasBoth : ByteArray := prog_1_method_30_code
def yX8_hasBoth : MethodName := ⟨RX8, "hasBoth", "(II)Z"⟩
abbrev cX8_bitsOf : ByteArray := prog_1_method_31_code
def yX8_bitsOf : MethodName := ⟨RX8, "bitsOf", "(F)I"⟩
abbrev cX8_copyAll : ByteArray := prog_1_method_32_code
def yX8_copyAll : MethodName := ⟨RX8, "copyAll", "([I[I)V"⟩
abbrev cX8_closeUp : ByteArray := prog_1_method_33_code
def yX8_closeUp : MethodName := ⟨RX8, "closeUp", "([III)V"⟩
def RX9 : String := "ProverbCollectionModel"
def TX9 : u_T := fun k => match k with
  | 0 => ("ProverbCollectionModel", "now", "[I", true)
  | 1 => ("ProverbCollectionModel", "before", "[I", true)
  | 2 => ("ProverbCollectionModel", "undoMany", "I", false)
  | 3 => ("ProverbCollectionModel", "tokens", "I", false)
  | 4 => ("ProverbCollectionModel", "buffer", "[I", true)
  | 5 => ("ProverbCollectionModel", "one", "[I", true)
  | 6 => ("ProverbCollectionModel", "other", "[I", true)
  | 7 => ("ProverbCollectionModel", "oneLong", "I", false)
  | 8 => ("ProverbCollectionModel", "otherLong", "I", false)
  | 9 => ("ProverbCollectionModel", "far", "[I", true)
  | 10 => ("ProverbCollectionModel", "edits", "I", false)
  | 11 => ("ProverbCollectionModel", "edit", "[I", true)
  | 12 => ("ProverbCollectionModel", "gap", "[I", true)
  | 13 => ("ProverbCollectionModel", "slot", "[I", true)
  | 14 => ("ProverbCollectionModel", "firstSlot", "[I", true)
  | 15 => ("ProverbCollectionModel", "groups", "I", false)
  | 16 => ("ProverbCollectionModel", "group", "[I", true)
  | _ => ("ProverbCollectionModel", "centre", "[I", true)
def tyX9 : Nat → FieldType := fun k => match k with
  | 0 => .array .int
  | 1 => .array .int
  | 2 => .int
  | 3 => .int
  | 4 => .array .int
  | 5 => .array .int
  | 6 => .array .int
  | 7 => .int
  | 8 => .int
  | 9 => .array .int
  | 10 => .int
  | 11 => .array .int
  | 12 => .array .int
  | 13 => .array .int
  | 14 => .array .int
  | 15 => .int
  | 16 => .array .int
  | _ => .array .int
abbrev wsX90 : List Cond := u_ws RX9 TX9 18
theorem nmX9 : ∀ a, a < 18 → ∀ b, b < 18 → a ≠ b → (TX9 a).2.1 ≠ (TX9 b).2.1 := by decide +kernel
theorem tyX9_ok : ∀ k, k < 18 → parseFieldDescriptor (TX9 k).2.2.1 = some (tyX9 k) := by decide +kernel
abbrev cX9_init : ByteArray := prog_11_method_1_code
def yX9_init : MethodName := ⟨RX9, "<init>", "()V"⟩
abbrev cX9_in : ByteArray := prog_11_method_2_code
def yX9_in : MethodName := ⟨RX9, "in", "(JJJ)Z"⟩
abbrev cX9_keeps : ByteArray := prog_11_method_3_code
def yX9_keeps : MethodName := ⟨RX9, "keeps", "()V"⟩
abbrev cX9_undo : ByteArray := prog_11_method_4_code
def yX9_undo : MethodName := ⟨RX9, "undo", "()I"⟩
abbrev cX9_isSaying : ByteArray := prog_11_method_5_code
def yX9_isSaying : MethodName := ⟨RX9, "isSaying", "(I)Z"⟩
abbrev cX9_isPattern : ByteArray := prog_11_method_6_code
def yX9_isPattern : MethodName := ⟨RX9, "isPattern", "(I)Z"⟩
abbrev cX9_append : ByteArray := prog_11_method_7_code
def yX9_append : MethodName := ⟨RX9, "append", "(I)I"⟩
abbrev cX9_clear : ByteArray := prog_11_method_8_code
def yX9_clear : MethodName := ⟨RX9, "clear", "()I"⟩
abbrev cX9_addSaying : ByteArray := prog_11_method_9_code
def yX9_addSaying : MethodName := ⟨RX9, "addSaying", "(II)I"⟩
abbrev cX9_removeSaying : ByteArray := prog_11_method_10_code
def yX9_removeSaying : MethodName := ⟨RX9, "removeSaying", "(I)I"⟩
abbrev cX9_sayingCount : ByteArray := prog_11_method_11_code
def yX9_sayingCount : MethodName := ⟨RX9, "sayingCount", "()I"⟩
abbrev cX9_lengthOf : ByteArray := prog_11_method_12_code
def yX9_lengthOf : MethodName := ⟨RX9, "lengthOf", "(I)I"⟩
abbrev cX9_wordAt : ByteArray := prog_11_method_13_code
def yX9_wordAt : MethodName := ⟨RX9, "wordAt", "(II)I"⟩
abbrev cX9_isOlder : ByteArray := prog_11_method_14_code
def yX9_isOlder : MethodName := ⟨RX9, "isOlder", "(II)Z"⟩
abbrev cX9_atAge : ByteArray := prog_11_method_15_code
def yX9_atAge : MethodName := ⟨RX9, "atAge", "(I)I"⟩
abbrev cX9_byAge : ByteArray := prog_11_method_16_code
def yX9_byAge : MethodName := ⟨RX9, "byAge", "(I)I"⟩
abbrev cX9_takesOne : ByteArray := prog_11_method_17_code
def yX9_takesOne : MethodName := ⟨RX9, "takesOne", "(I)V"⟩
abbrev cX9_takesOther : ByteArray := prog_11_method_18_code
def yX9_takesOther : MethodName := ⟨RX9, "takesOther", "(I)V"⟩
abbrev cX9_exchange : ByteArray := prog_11_method_19_code
def yX9_exchange : MethodName := ⟨RX9, "exchange", "(II)I"⟩
abbrev cX9_isCrossed : ByteArray := prog_11_method_20_code
def yX9_isCrossed : MethodName := ⟨RX9, "isCrossed", "(II)Z"⟩
abbrev cX9_by : ByteArray := prog_11_method_21_code
def yX9_by : MethodName := ⟨RX9, "by", "(III)I"⟩
abbrev cX9_isStep : ByteArray := prog_11_method_22_code
def yX9_isStep : MethodName := ⟨RX9, "isStep", "(III)Z"⟩
abbrev cX9_lays : ByteArray := prog_11_method_23_code
def yX9_lays : MethodName := ⟨RX9, "lays", "()I"⟩
abbrev cX9_distanceOf : ByteArray := prog_11_method_24_code
def yX9_distanceOf : MethodName := ⟨RX9, "distanceOf", "(II)I"⟩
abbrev cX9_setCost : ByteArray := prog_11_method_25_code
def yX9_setCost : MethodName := ⟨RX9, "setCost", "(II)I"⟩
abbrev cX9_distance : ByteArray := prog_11_method_26_code
def yX9_distance : MethodName := ⟨RX9, "distance", "(II)I"⟩
abbrev cX9_similarityBits : ByteArray := prog_11_method_27_code
def yX9_similarityBits : MethodName := ⟨RX9, "similarityBits", "(II)I"⟩
abbrev cX9_findsEdits : ByteArray := prog_11_method_28_code
def yX9_findsEdits : MethodName := ⟨RX9, "findsEdits", "(II)V"⟩
abbrev cX9_editCount : ByteArray := prog_11_method_29_code
def yX9_editCount : MethodName := ⟨RX9, "editCount", "(II)I"⟩
abbrev cX9_editAt : ByteArray := prog_11_method_30_code
def yX9_editAt : MethodName := ⟨RX9, "editAt", "(III)I"⟩
abbrev cX9_nearest : ByteArray := prog_11_method_31_code
def yX9_nearest : MethodName := ⟨RX9, "nearest", "(I)I"⟩
abbrev cX9_addPattern : ByteArray := prog_11_method_32_code
def yX9_addPattern : MethodName := ⟨RX9, "addPattern", "()I"⟩
abbrev cX9_removePattern : ByteArray := prog_11_method_33_code
def yX9_removePattern : MethodName := ⟨RX9, "removePattern", "(I)I"⟩
abbrev cX9_tokensOf : ByteArray := prog_11_method_34_code
def yX9_tokensOf : MethodName := ⟨RX9, "tokensOf", "(III)I"⟩
abbrev cX9_isFilled : ByteArray := prog_11_method_35_code
def yX9_isFilled : MethodName := ⟨RX9, "isFilled", "(II)Z"⟩
abbrev cX9_fills : ByteArray := prog_11_method_36_code
def yX9_fills : MethodName := ⟨RX9, "fills", "(II)I"⟩
abbrev cX9_goesOn : ByteArray := prog_11_method_37_code
def yX9_goesOn : MethodName := ⟨RX9, "goesOn", "(I)Z"⟩
abbrev cX9_fillings : ByteArray := prog_11_method_38_code
def yX9_fillings : MethodName := ⟨RX9, "fillings", "(II)I"⟩
abbrev cX9_slotWord : ByteArray := prog_11_method_39_code
def yX9_slotWord : MethodName := ⟨RX9, "slotWord", "(III)I"⟩
abbrev cX9_matchedSayings : ByteArray := prog_11_method_40_code
def yX9_matchedSayings : MethodName := ⟨RX9, "matchedSayings", "(I)I"⟩
abbrev cX9_bestPattern : ByteArray := prog_11_method_41_code
def yX9_bestPattern : MethodName := ⟨RX9, "bestPattern", "(I)I"⟩
abbrev cX9_makesGroups : ByteArray := prog_11_method_42_code
def yX9_makesGroups : MethodName := ⟨RX9, "makesGroups", "()V"⟩
abbrev cX9_setLimit : ByteArray := prog_11_method_43_code
def yX9_setLimit : MethodName := ⟨RX9, "setLimit", "(I)I"⟩
abbrev cX9_groupCount : ByteArray := prog_11_method_44_code
def yX9_groupCount : MethodName := ⟨RX9, "groupCount", "()I"⟩
abbrev cX9_groupOf : ByteArray := prog_11_method_45_code
def yX9_groupOf : MethodName := ⟨RX9, "groupOf", "(I)I"⟩
abbrev cX9_centreOf : ByteArray := prog_11_method_46_code
def yX9_centreOf : MethodName := ⟨RX9, "centreOf", "(I)I"⟩
abbrev cX9_groupInfo : ByteArray := prog_11_method_47_code
def yX9_groupInfo : MethodName := ⟨RX9, "groupInfo", "(II)I"⟩
abbrev cX9_crossed : ByteArray := prog_11_method_48_code
def yX9_crossed : MethodName := ⟨RX9, "crossed", "(III)I"⟩
abbrev cX9_crossingCost : ByteArray := prog_11_method_49_code
def yX9_crossingCost : MethodName := ⟨RX9, "crossingCost", "(III)I"⟩
abbrev cX9_crossing : ByteArray := prog_11_method_50_code
def yX9_crossing : MethodName := ⟨RX9, "crossing", "(II)I"⟩
def RJxf58ca : String := "java/lang/Float"
def TJxf58ca : u_T := fun k => match k with
  | _ => ("", "", "", false)
def tyJxf58ca : Nat → FieldType := fun k => match k with
  | _ => .int
theorem nmJxf58ca : ∀ a, a < 0 → ∀ b, b < 0 → a ≠ b → (TJxf58ca a).2.1 ≠ (TJxf58ca b).2.1 := by decide +kernel
theorem tyJxf58ca_ok : ∀ k, k < 0 → parseFieldDescriptor (TJxf58ca k).2.2.1 = some (tyJxf58ca k) := by decide +kernel
abbrev cJxf58ca_isNaN_12338 : ByteArray := prog_12_method_6_code
def yJxf58ca_isNaN_12338 : MethodName := ⟨RJxf58ca, "isNaN", "(F)Z"⟩
abbrev cJxf58ca_floatToIntBits_5c35a : ByteArray := prog_12_method_24_code
def yJxf58ca_floatToIntBits_5c35a : MethodName := ⟨RJxf58ca, "floatToIntBits", "(F)I"⟩
def RJ6 : String := "java/lang/Integer"
def TJ6 : u_T := fun k => match k with
  | _ => ("", "", "", false)
def tyJ6 : Nat → FieldType := fun k => match k with
  | _ => .int
theorem nmJ6 : ∀ a, a < 0 → ∀ b, b < 0 → a ≠ b → (TJ6 a).2.1 ≠ (TJ6 b).2.1 := by decide +kernel
theorem tyJ6_ok : ∀ k, k < 0 → parseFieldDescriptor (TJ6 k).2.2.1 = some (tyJ6 k) := by decide +kernel
abbrev cJ6_bitCount_0f7a4 : ByteArray := prog_13_method_49_code
def yJ6_bitCount_0f7a4 : MethodName := ⟨RJ6, "bitCount", "(I)I"⟩
def RJ9 : String := "java/lang/Math"
def TJ9 : u_T := fun k => match k with
  | _ => ("", "", "", false)
def tyJ9 : Nat → FieldType := fun k => match k with
  | _ => .int
theorem nmJ9 : ∀ a, a < 0 → ∀ b, b < 0 → a ≠ b → (TJ9 a).2.1 ≠ (TJ9 b).2.1 := by decide +kernel
theorem tyJ9_ok : ∀ k, k < 0 → parseFieldDescriptor (TJ9 k).2.2.1 = some (tyJ9 k) := by decide +kernel
abbrev cJ9_max_7cf53 : ByteArray := prog_14_method_65_code
def yJ9_max_7cf53 : MethodName := ⟨RJ9, "max", "(II)I"⟩
abbrev cJ9_min_7cf53 : ByteArray := prog_14_method_69_code
def yJ9_min_7cf53 : MethodName := ⟨RJ9, "min", "(II)I"⟩
def RJ10 : String := "java/lang/System"
def TJ10 : u_T := fun k => match k with
  | _ => ("", "", "", false)
def tyJ10 : Nat → FieldType := fun k => match k with
  | _ => .int
theorem nmJ10 : ∀ a, a < 0 → ∀ b, b < 0 → a ≠ b → (TJ10 a).2.1 ≠ (TJ10 b).2.1 := by decide +kernel
theorem tyJ10_ok : ∀ k, k < 0 → parseFieldDescriptor (TJ10 k).2.2.1 = some (tyJ10 k) := by decide +kernel
def RL : String := "ProverbCollectionLaw"
abbrev cL_law : ByteArray := code
def yL_law : MethodName := ⟨RL, "law", "([I)Z"⟩
def wsL_law_r1 : List Cond := [Cond.classLink RL 7 RX8, Cond.instantiable RX8 8, Cond.initialized RX8, Cond.classLink RL 10 RX9, Cond.instantiable RX9 18, Cond.initialized RX9, Cond.methodLink RL 9 yX8_init, Cond.instanceMethod yX8_init, Cond.code yX8_init cX8_init 1 none, Cond.methodLink RX8 1 objectInit, Cond.instanceMethod objectInit, Cond.code objectInit ⟨#[0xb1]⟩ 1 none, Cond.classLink RX8 7 RX5, Cond.instantiable RX5 2, Cond.initialized RX5, Cond.fieldLink RX8 10 "ProverbCollection" "buffer" "LProverbCollection$Sequence;", Cond.classLink RX8 16 RX7, Cond.instantiable RX7 6, Cond.initialized RX7, Cond.fieldLink RX8 19 "ProverbCollection" "now" "LProverbCollection$State;", Cond.classLink RX8 23 RX3, Cond.instantiable RX3 3, Cond.initialized RX3, Cond.fieldLink RX8 26 "ProverbCollection" "history" "LProverbCollection$History;"]
def wsL_law_r2 : List Cond := [Cond.classLink RX8 30 RX1, Cond.instantiable RX1 5, Cond.initialized RX1, Cond.fieldLink RX8 33 "ProverbCollection" "edits" "LProverbCollection$Edits;", Cond.classLink RX8 37 RX4, Cond.instantiable RX4 5, Cond.initialized RX4, Cond.fieldLink RX8 40 "ProverbCollection" "matcher" "LProverbCollection$Matcher;", Cond.classLink RX8 44 RX2, Cond.instantiable RX2 4, Cond.initialized RX2, Cond.fieldLink RX8 47 "ProverbCollection" "groups" "LProverbCollection$Groups;", Cond.classLink RX8 51 RX0, Cond.instantiable RX0 4, Cond.initialized RX0, Cond.fieldLink RX8 54 "ProverbCollection" "crossings" "LProverbCollection$Crossings;", Cond.arrayClass .int, Cond.fieldLink RX8 58 "ProverbCollection" "ageOrder" "[I", Cond.instanceMethod yX5_init, Cond.code yX5_init cX5_init 1 none, Cond.methodLink RX5 3 objectInit, Cond.fieldLink RX5 9 "ProverbCollection$Sequence" "tokens" "[I", Cond.instanceMethod yX7_init, Cond.code yX7_init cX7_init 1 none]
def wsL_law_r3 : List Cond := [Cond.methodLink RX7 3 objectInit, Cond.classLink RX7 9 RX6, Cond.instantiable RX6 4, Cond.initialized RX6, Cond.fieldLink RX7 14 "ProverbCollection$State" "sayings" "LProverbCollection$Shelf;", Cond.fieldLink RX7 20 "ProverbCollection$State" "years" "[I", Cond.fieldLink RX7 24 "ProverbCollection$State" "regions" "[I", Cond.fieldLink RX7 27 "ProverbCollection$State" "patterns" "LProverbCollection$Shelf;", Cond.fieldLink RX7 30 "ProverbCollection$State" "costs" "[I", Cond.fieldLink RX7 33 "ProverbCollection$State" "limit" "I", Cond.instanceMethod yX6_init, Cond.code yX6_init cX6_init 2 none, Cond.methodLink RX6 3 objectInit, Cond.fieldLink RX6 9 "ProverbCollection$Shelf" "most" "I", Cond.fieldLink RX6 15 "ProverbCollection$Shelf" "tokens" "[I", Cond.fieldLink RX6 19 "ProverbCollection$Shelf" "lengths" "[I", Cond.instanceMethod yX3_init, Cond.code yX3_init cX3_init 2 none, Cond.methodLink RX3 3 objectInit, Cond.classLink RX3 9 RX7, Cond.fieldLink RX3 11 "ProverbCollection$History" "ring" "[LProverbCollection$State;", Cond.instanceMethod yX1_init, Cond.code yX1_init cX1_init 1 none, Cond.methodLink RX1 3 objectInit]
def wsL_law_r4 : List Cond := [Cond.classLink RX1 9 RX5, Cond.fieldLink RX1 12 "ProverbCollection$Edits" "first" "LProverbCollection$Sequence;", Cond.fieldLink RX1 18 "ProverbCollection$Edits" "second" "LProverbCollection$Sequence;", Cond.classLink RX1 21 "[[I", Cond.fieldLink RX1 23 "ProverbCollection$Edits" "table" "[[I", Cond.fieldLink RX1 26 "ProverbCollection$Edits" "list" "[I", Cond.instanceMethod yX4_init, Cond.code yX4_init cX4_init 1 none, Cond.methodLink RX4 3 objectInit, Cond.classLink RX4 9 RX5, Cond.fieldLink RX4 12 "ProverbCollection$Matcher" "pattern" "LProverbCollection$Sequence;", Cond.fieldLink RX4 18 "ProverbCollection$Matcher" "saying" "LProverbCollection$Sequence;", Cond.fieldLink RX4 21 "ProverbCollection$Matcher" "slotWords" "[I", Cond.fieldLink RX4 25 "ProverbCollection$Matcher" "firstWord" "[I", Cond.instanceMethod yX2_init, Cond.code yX2_init cX2_init 1 none, Cond.methodLink RX2 3 objectInit, Cond.fieldLink RX2 9 "ProverbCollection$Groups" "order" "[I", Cond.fieldLink RX2 15 "ProverbCollection$Groups" "memberOf" "[I", Cond.fieldLink RX2 18 "ProverbCollection$Groups" "centres" "[I", Cond.instanceMethod yX0_init, Cond.code yX0_init cX0_init 1 none, Cond.methodLink RX0 3 objectInit, Cond.classLink RX0 9 RX5]
def wsL_law_r5 : List Cond := [Cond.fieldLink RX0 12 "ProverbCollection$Crossings" "front" "LProverbCollection$Sequence;", Cond.fieldLink RX0 18 "ProverbCollection$Crossings" "back" "LProverbCollection$Sequence;", Cond.fieldLink RX0 21 "ProverbCollection$Crossings" "order" "[I", Cond.fieldLink RX0 25 "ProverbCollection$Crossings" "apart" "[I", Cond.methodLink RL 12 yX9_init, Cond.instanceMethod yX9_init, Cond.code yX9_init cX9_init 1 none, Cond.methodLink RX9 1 objectInit, Cond.fieldLink RX9 7 "ProverbCollectionModel" "now" "[I", Cond.fieldLink RX9 13 "ProverbCollectionModel" "before" "[I", Cond.fieldLink RX9 16 "ProverbCollectionModel" "buffer" "[I", Cond.fieldLink RX9 19 "ProverbCollectionModel" "one" "[I", Cond.fieldLink RX9 22 "ProverbCollectionModel" "other" "[I", Cond.fieldLink RX9 25 "ProverbCollectionModel" "far" "[I", Cond.fieldLink RX9 28 "ProverbCollectionModel" "edit" "[I", Cond.fieldLink RX9 31 "ProverbCollectionModel" "gap" "[I", Cond.fieldLink RX9 34 "ProverbCollectionModel" "slot" "[I", Cond.fieldLink RX9 37 "ProverbCollectionModel" "firstSlot" "[I", Cond.fieldLink RX9 40 "ProverbCollectionModel" "group" "[I", Cond.fieldLink RX9 43 "ProverbCollectionModel" "centre" "[I", Cond.methodLink RL 13 yX8_append, Cond.instanceMethod yX8_append, Cond.selects RX8 yX8_append yX8_append, Cond.code yX8_append cX8_append 2 (some .int)]
def wsL_law_r6 : List Cond := [Cond.instanceMethod yX5_add, Cond.selects RX5 yX5_add yX5_add, Cond.code yX5_add cX5_add 2 none, Cond.fieldLink RX5 15 "ProverbCollection$Sequence" "length" "I", Cond.methodLink RL 17 yX9_append, Cond.instanceMethod yX9_append, Cond.selects RX9 yX9_append yX9_append, Cond.code yX9_append cX9_append 2 (some .int), Cond.constantLong RX9 54 (64), Cond.fieldLink RX9 56 "ProverbCollectionModel" "tokens" "I", Cond.methodLink RX9 50 yX9_in, Cond.static yX9_in, Cond.code yX9_in cX9_in 6 (some .boolean), Cond.methodLink RL 18 yX8_clear, Cond.instanceMethod yX8_clear, Cond.selects RX8 yX8_clear yX8_clear, Cond.code yX8_clear cX8_clear 2 (some .int), Cond.methodLink RL 22 yX9_clear, Cond.instanceMethod yX9_clear, Cond.selects RX9 yX9_clear yX9_clear, Cond.code yX9_clear cX9_clear 2 (some .int), Cond.methodLink RL 23 yX8_addSaying, Cond.instanceMethod yX8_addSaying, Cond.selects RX8 yX8_addSaying yX8_addSaying]
def wsL_law_r7 : List Cond := [Cond.code yX8_addSaying cX8_addSaying 4 (some .int), Cond.instanceMethod yX5_wordCount, Cond.selects RX5 yX5_wordCount yX5_wordCount, Cond.code yX5_wordCount cX5_wordCount 3 (some .int), Cond.instanceMethod yX6_isFull, Cond.selects RX6 yX6_isFull yX6_isFull, Cond.code yX6_isFull cX6_isFull 1 (some .boolean), Cond.fieldLink RX6 22 "ProverbCollection$Shelf" "count" "I", Cond.instanceMethod yX3_keep, Cond.selects RX3 yX3_keep yX3_keep, Cond.code yX3_keep cX3_keep 2 none, Cond.fieldLink RX3 18 "ProverbCollection$History" "next" "I", Cond.fieldLink RX3 26 "ProverbCollection$History" "count" "I", Cond.methodLink RX3 29 Lib.Math.min.name, Cond.static Lib.Math.min.name, Cond.initialized "java/lang/Math", Cond.code Lib.Math.min.name Lib.Math.min.code 2 (some .int), Cond.instanceMethod yX7_copyFrom, Cond.selects RX7 yX7_copyFrom yX7_copyFrom, Cond.code yX7_copyFrom cX7_copyFrom 2 none, Cond.instanceMethod yX6_copyFrom, Cond.selects RX6 yX6_copyFrom yX6_copyFrom, Cond.code yX6_copyFrom cX6_copyFrom 2 none, Cond.static yX8_copyAll]
def wsL_law_r8 : List Cond := [Cond.code yX8_copyAll cX8_copyAll 2 none, Cond.methodLink RX8 200 Lib.Math.min.name, Cond.methodLink RX8 203 arraycopyName, Cond.native arraycopyName, Cond.static arraycopyName, Cond.initialized "java/lang/System", Cond.instanceMethod yX7_takeSaying, Cond.selects RX7 yX7_takeSaying yX7_takeSaying, Cond.code yX7_takeSaying cX7_takeSaying 5 (some .int), Cond.instanceMethod yX6_add, Cond.selects RX6 yX6_add yX6_add, Cond.code yX6_add cX6_add 4 (some .int), Cond.methodLink RX6 33 yX6_isFull, Cond.instanceMethod yX5_at, Cond.selects RX5 yX5_at yX5_at, Cond.code yX5_at cX5_at 2 (some .int), Cond.instanceMethod yX6_has, Cond.selects RX6 yX6_has yX6_has, Cond.code yX6_has cX6_has 2 (some .boolean), Cond.methodLink RL 27 yX9_addSaying, Cond.instanceMethod yX9_addSaying, Cond.selects RX9 yX9_addSaying yX9_addSaying, Cond.code yX9_addSaying cX9_addSaying 6 (some .int), Cond.constantLong RX9 59 (-3000)]
def wsL_law_r9 : List Cond := [Cond.constantLong RX9 61 (2100), Cond.constantLong RX9 63 (9), Cond.methodLink RX9 65 yX9_keeps, Cond.instanceMethod yX9_keeps, Cond.selects RX9 yX9_keeps yX9_keeps, Cond.code yX9_keeps cX9_keeps 2 none, Cond.fieldLink RX9 46 "ProverbCollectionModel" "undoMany" "I", Cond.methodLink RL 28 yX8_removeSaying, Cond.instanceMethod yX8_removeSaying, Cond.selects RX8 yX8_removeSaying yX8_removeSaying, Cond.code yX8_removeSaying cX8_removeSaying 2 (some .int), Cond.instanceMethod yX7_dropSaying, Cond.selects RX7 yX7_dropSaying yX7_dropSaying, Cond.code yX7_dropSaying cX7_dropSaying 2 none, Cond.instanceMethod yX6_drop, Cond.selects RX6 yX6_drop yX6_drop, Cond.code yX6_drop cX6_drop 2 none, Cond.methodLink RX6 25 yX6_has, Cond.static yX8_closeUp, Cond.code yX8_closeUp cX8_closeUp 4 none, Cond.methodLink RL 31 yX9_removeSaying, Cond.instanceMethod yX9_removeSaying, Cond.selects RX9 yX9_removeSaying yX9_removeSaying, Cond.code yX9_removeSaying cX9_removeSaying 4 (some .int)]
def wsL_law_r10 : List Cond := [Cond.methodLink RX9 68 yX9_isSaying, Cond.instanceMethod yX9_isSaying, Cond.selects RX9 yX9_isSaying yX9_isSaying, Cond.code yX9_isSaying cX9_isSaying 2 (some .boolean), Cond.methodLink RL 32 yX8_sayingCount, Cond.instanceMethod yX8_sayingCount, Cond.selects RX8 yX8_sayingCount yX8_sayingCount, Cond.code yX8_sayingCount cX8_sayingCount 1 (some .int), Cond.methodLink RL 35 yX9_sayingCount, Cond.instanceMethod yX9_sayingCount, Cond.selects RX9 yX9_sayingCount yX9_sayingCount, Cond.code yX9_sayingCount cX9_sayingCount 1 (some .int), Cond.methodLink RL 36 yX8_lengthOf, Cond.instanceMethod yX8_lengthOf, Cond.selects RX8 yX8_lengthOf yX8_lengthOf, Cond.code yX8_lengthOf cX8_lengthOf 2 (some .int), Cond.instanceMethod yX6_size, Cond.selects RX6 yX6_size yX6_size, Cond.code yX6_size cX6_size 2 (some .int), Cond.methodLink RL 39 yX9_lengthOf, Cond.instanceMethod yX9_lengthOf, Cond.selects RX9 yX9_lengthOf yX9_lengthOf, Cond.code yX9_lengthOf cX9_lengthOf 2 (some .int), Cond.methodLink RL 40 yX8_wordAt]
def wsL_law_r11 : List Cond := [Cond.instanceMethod yX8_wordAt, Cond.selects RX8 yX8_wordAt yX8_wordAt, Cond.code yX8_wordAt cX8_wordAt 3 (some .int), Cond.instanceMethod yX6_token, Cond.selects RX6 yX6_token yX6_token, Cond.code yX6_token cX6_token 3 (some .int), Cond.methodLink RX6 29 yX6_size, Cond.methodLink RL 43 yX9_wordAt, Cond.instanceMethod yX9_wordAt, Cond.selects RX9 yX9_wordAt yX9_wordAt, Cond.code yX9_wordAt cX9_wordAt 3 (some .int), Cond.methodLink RL 44 yX8_byAge, Cond.instanceMethod yX8_byAge, Cond.selects RX8 yX8_byAge yX8_byAge, Cond.code yX8_byAge cX8_byAge 2 (some .int), Cond.instanceMethod yX7_sortByAge, Cond.selects RX7 yX7_sortByAge yX7_sortByAge, Cond.code yX7_sortByAge cX7_sortByAge 3 none, Cond.methodLink RX7 67 yX7_place, Cond.instanceMethod yX7_place, Cond.selects RX7 yX7_place yX7_place, Cond.code yX7_place cX7_place 4 (some .int), Cond.methodLink RX7 63 yX7_isOlder, Cond.instanceMethod yX7_isOlder]
def wsL_law_r12 : List Cond := [Cond.selects RX7 yX7_isOlder yX7_isOlder, Cond.code yX7_isOlder cX7_isOlder 3 (some .boolean), Cond.methodLink RL 47 yX9_byAge, Cond.instanceMethod yX9_byAge, Cond.selects RX9 yX9_byAge yX9_byAge, Cond.code yX9_byAge cX9_byAge 2 (some .int), Cond.methodLink RX9 76 yX9_atAge, Cond.instanceMethod yX9_atAge, Cond.selects RX9 yX9_atAge yX9_atAge, Cond.code yX9_atAge cX9_atAge 5 (some .int), Cond.methodLink RX9 72 yX9_isOlder, Cond.instanceMethod yX9_isOlder, Cond.selects RX9 yX9_isOlder yX9_isOlder, Cond.code yX9_isOlder cX9_isOlder 3 (some .boolean), Cond.methodLink RL 48 yX8_setCost, Cond.instanceMethod yX8_setCost, Cond.selects RX8 yX8_setCost yX8_setCost, Cond.code yX8_setCost cX8_setCost 4 (some .int), Cond.methodLink RL 51 yX9_setCost, Cond.instanceMethod yX9_setCost, Cond.selects RX9 yX9_setCost yX9_setCost, Cond.code yX9_setCost cX9_setCost 4 (some .int), Cond.constantLong RX9 112 (3), Cond.methodLink RL 52 yX8_distance]
def wsL_law_r13 : List Cond := [Cond.instanceMethod yX8_distance, Cond.selects RX8 yX8_distance yX8_distance, Cond.code yX8_distance cX8_distance 3 (some .int), Cond.methodLink RX8 117 yX8_hasBoth, Cond.instanceMethod yX8_hasBoth, Cond.selects RX8 yX8_hasBoth yX8_hasBoth, Cond.code yX8_hasBoth cX8_hasBoth 3 (some .boolean), Cond.instanceMethod yX1_between, Cond.selects RX1 yX1_between yX1_between, Cond.code yX1_between cX1_between 4 (some .int), Cond.instanceMethod yX6_load, Cond.selects RX6 yX6_load yX6_load, Cond.code yX6_load cX6_load 4 none, Cond.methodLink RX6 49 yX6_token, Cond.methodLink RX1 45 yX1_measure, Cond.instanceMethod yX1_measure, Cond.selects RX1 yX1_measure yX1_measure, Cond.code yX1_measure cX1_measure 6 (some .int), Cond.constant RX1 53 (1000000), Cond.methodLink RX1 58 Lib.Math.min.name, Cond.methodLink RX1 54 yX1_by, Cond.instanceMethod yX1_by, Cond.selects RX1 yX1_by yX1_by, Cond.code yX1_by cX1_by 5 (some .int)]
def wsL_law_r14 : List Cond := [Cond.methodLink RX1 64 yX1_replacing, Cond.instanceMethod yX1_replacing, Cond.selects RX1 yX1_replacing yX1_replacing, Cond.code yX1_replacing cX1_replacing 7 (some .int), Cond.methodLink RX1 68 yX1_swaps, Cond.instanceMethod yX1_swaps, Cond.selects RX1 yX1_swaps yX1_swaps, Cond.code yX1_swaps cX1_swaps 3 (some .boolean), Cond.methodLink RL 55 yX9_distance, Cond.instanceMethod yX9_distance, Cond.selects RX9 yX9_distance yX9_distance, Cond.code yX9_distance cX9_distance 3 (some .int), Cond.methodLink RX9 114 yX9_distanceOf, Cond.instanceMethod yX9_distanceOf, Cond.selects RX9 yX9_distanceOf yX9_distanceOf, Cond.code yX9_distanceOf cX9_distanceOf 3 (some .int), Cond.methodLink RX9 101 yX9_takesOne, Cond.instanceMethod yX9_takesOne, Cond.selects RX9 yX9_takesOne yX9_takesOne, Cond.code yX9_takesOne cX9_takesOne 3 none, Cond.fieldLink RX9 80 "ProverbCollectionModel" "oneLong" "I", Cond.methodLink RX9 105 yX9_takesOther, Cond.instanceMethod yX9_takesOther, Cond.selects RX9 yX9_takesOther yX9_takesOther]
def wsL_law_r15 : List Cond := [Cond.code yX9_takesOther cX9_takesOther 3 none, Cond.fieldLink RX9 83 "ProverbCollectionModel" "otherLong" "I", Cond.methodLink RX9 108 yX9_lays, Cond.instanceMethod yX9_lays, Cond.selects RX9 yX9_lays yX9_lays, Cond.code yX9_lays cX9_lays 5 (some .int), Cond.methodLink RX9 93 yX9_isStep, Cond.instanceMethod yX9_isStep, Cond.selects RX9 yX9_isStep yX9_isStep, Cond.code yX9_isStep cX9_isStep 4 (some .boolean), Cond.methodLink RX9 90 yX9_isCrossed, Cond.instanceMethod yX9_isCrossed, Cond.selects RX9 yX9_isCrossed yX9_isCrossed, Cond.code yX9_isCrossed cX9_isCrossed 3 (some .boolean), Cond.methodLink RX9 97 yX9_by, Cond.instanceMethod yX9_by, Cond.selects RX9 yX9_by yX9_by, Cond.code yX9_by cX9_by 4 (some .int), Cond.methodLink RX9 86 yX9_exchange, Cond.instanceMethod yX9_exchange, Cond.selects RX9 yX9_exchange yX9_exchange, Cond.code yX9_exchange cX9_exchange 3 (some .int), Cond.methodLink RL 56 yX8_similarityBits, Cond.instanceMethod yX8_similarityBits]
def wsL_law_r16 : List Cond := [Cond.selects RX8 yX8_similarityBits yX8_similarityBits, Cond.code yX8_similarityBits cX8_similarityBits 6 (some .int), Cond.methodLink RX8 125 Lib.Math.max.name, Cond.static Lib.Math.max.name, Cond.code Lib.Math.max.name Lib.Math.max.code 2 (some .int), Cond.methodLink RX8 130 yX8_bitsOf, Cond.static yX8_bitsOf, Cond.code yX8_bitsOf cX8_bitsOf 3 (some .int), Cond.constantFloat RX8 199 (1258291200), Cond.methodLink RL 59 yX9_similarityBits, Cond.instanceMethod yX9_similarityBits, Cond.selects RX9 yX9_similarityBits yX9_similarityBits, Cond.code yX9_similarityBits cX9_similarityBits 4 (some .int), Cond.methodLink RX9 117 yJxf58ca_floatToIntBits_5c35a, Cond.static yJxf58ca_floatToIntBits_5c35a, Cond.initialized RJxf58ca, Cond.code yJxf58ca_floatToIntBits_5c35a cJxf58ca_floatToIntBits_5c35a 1 (some .int), Cond.methodLink RJxf58ca 74 ⟨"java/lang/Float", "floatToRawIntBits", "(F)I"⟩, Cond.native ⟨"java/lang/Float", "floatToRawIntBits", "(F)I"⟩, Cond.static ⟨"java/lang/Float", "floatToRawIntBits", "(F)I"⟩, Cond.initialized "java/lang/Float", Cond.constant RJxf58ca 77 (2143289344), Cond.methodLink RJxf58ca 59 yJxf58ca_isNaN_12338, Cond.static yJxf58ca_isNaN_12338]
def wsL_law_r17 : List Cond := [Cond.code yJxf58ca_isNaN_12338 cJxf58ca_isNaN_12338 1 (some .boolean), Cond.methodLink RL 60 yX8_editCount, Cond.instanceMethod yX8_editCount, Cond.selects RX8 yX8_editCount yX8_editCount, Cond.code yX8_editCount cX8_editCount 3 (some .int), Cond.instanceMethod yX1_trace, Cond.selects RX1 yX1_trace yX1_trace, Cond.code yX1_trace cX1_trace 7 none, Cond.fieldLink RX1 76 "ProverbCollection$Edits" "listed" "I", Cond.methodLink RX1 79 yX1_lastStep, Cond.instanceMethod yX1_lastStep, Cond.selects RX1 yX1_lastStep yX1_lastStep, Cond.code yX1_lastStep cX1_lastStep 5 (some .int), Cond.methodLink RL 63 yX9_editCount, Cond.instanceMethod yX9_editCount, Cond.selects RX9 yX9_editCount yX9_editCount, Cond.code yX9_editCount cX9_editCount 3 (some .int), Cond.fieldLink RX9 123 "ProverbCollectionModel" "edits" "I", Cond.methodLink RX9 126 yX9_findsEdits, Cond.instanceMethod yX9_findsEdits, Cond.selects RX9 yX9_findsEdits yX9_findsEdits, Cond.code yX9_findsEdits cX9_findsEdits 7 none, Cond.methodLink RL 64 yX8_editAt, Cond.instanceMethod yX8_editAt]
def wsL_law_r18 : List Cond := [Cond.selects RX8 yX8_editAt yX8_editAt, Cond.code yX8_editAt cX8_editAt 4 (some .int), Cond.instanceMethod yX1_fromBeginning, Cond.selects RX1 yX1_fromBeginning yX1_fromBeginning, Cond.code yX1_fromBeginning cX1_fromBeginning 2 (some .int), Cond.methodLink RL 68 yX9_editAt, Cond.instanceMethod yX9_editAt, Cond.selects RX9 yX9_editAt yX9_editAt, Cond.code yX9_editAt cX9_editAt 4 (some .int), Cond.methodLink RL 69 yX8_nearest, Cond.instanceMethod yX8_nearest, Cond.selects RX8 yX8_nearest yX8_nearest, Cond.code yX8_nearest cX8_nearest 7 (some .int), Cond.constant RX8 143 (1000000), Cond.methodLink RL 72 yX9_nearest, Cond.instanceMethod yX9_nearest, Cond.selects RX9 yX9_nearest yX9_nearest, Cond.code yX9_nearest cX9_nearest 7 (some .int), Cond.methodLink RL 73 yX8_addPattern, Cond.instanceMethod yX8_addPattern, Cond.selects RX8 yX8_addPattern yX8_addPattern, Cond.code yX8_addPattern cX8_addPattern 2 (some .int), Cond.methodLink RL 76 yX9_addPattern, Cond.instanceMethod yX9_addPattern]
def wsL_law_r19 : List Cond := [Cond.selects RX9 yX9_addPattern yX9_addPattern, Cond.code yX9_addPattern cX9_addPattern 3 (some .int), Cond.methodLink RL 77 yX8_removePattern, Cond.instanceMethod yX8_removePattern, Cond.selects RX8 yX8_removePattern yX8_removePattern, Cond.code yX8_removePattern cX8_removePattern 2 (some .int), Cond.methodLink RL 80 yX9_removePattern, Cond.instanceMethod yX9_removePattern, Cond.selects RX9 yX9_removePattern yX9_removePattern, Cond.code yX9_removePattern cX9_removePattern 4 (some .int), Cond.methodLink RX9 130 yX9_isPattern, Cond.instanceMethod yX9_isPattern, Cond.selects RX9 yX9_isPattern yX9_isPattern, Cond.code yX9_isPattern cX9_isPattern 2 (some .boolean), Cond.methodLink RL 81 yX8_fillings, Cond.instanceMethod yX8_fillings, Cond.selects RX8 yX8_fillings yX8_fillings, Cond.code yX8_fillings cX8_fillings 3 (some .int), Cond.instanceMethod yX4_match, Cond.selects RX4 yX4_match yX4_match, Cond.code yX4_match cX4_match 5 (some .int), Cond.fieldLink RX4 43 "ProverbCollection$Matcher" "found" "I", Cond.methodLink RX4 47 yX4_fill, Cond.instanceMethod yX4_fill]
def wsL_law_r20 : List Cond := [Cond.selects RX4 yX4_fill yX4_fill, Cond.code yX4_fill cX4_fill 4 none, Cond.methodLink RX4 61 yX4_noteFilling, Cond.instanceMethod yX4_noteFilling, Cond.selects RX4 yX4_noteFilling yX4_noteFilling, Cond.code yX4_noteFilling cX4_noteFilling 2 none, Cond.methodLink RX4 69 yX4_fillOne, Cond.instanceMethod yX4_fillOne, Cond.selects RX4 yX4_fillOne yX4_fillOne, Cond.code yX4_fillOne cX4_fillOne 5 none, Cond.methodLink RL 84 yX9_fillings, Cond.instanceMethod yX9_fillings, Cond.selects RX9 yX9_fillings yX9_fillings, Cond.code yX9_fillings cX9_fillings 3 (some .int), Cond.methodLink RX9 142 yX9_fills, Cond.instanceMethod yX9_fills, Cond.selects RX9 yX9_fills yX9_fills, Cond.code yX9_fills cX9_fills 8 (some .int), Cond.methodLink RX9 133 yX9_tokensOf, Cond.instanceMethod yX9_tokensOf, Cond.selects RX9 yX9_tokensOf yX9_tokensOf, Cond.code yX9_tokensOf cX9_tokensOf 6 (some .int), Cond.methodLink RX9 136 yX9_isFilled, Cond.instanceMethod yX9_isFilled]
def wsL_law_r21 : List Cond := [Cond.selects RX9 yX9_isFilled yX9_isFilled, Cond.code yX9_isFilled cX9_isFilled 9 (some .boolean), Cond.methodLink RX9 139 yX9_goesOn, Cond.instanceMethod yX9_goesOn, Cond.selects RX9 yX9_goesOn yX9_goesOn, Cond.code yX9_goesOn cX9_goesOn 5 (some .boolean), Cond.methodLink RL 85 yX8_slotWord, Cond.instanceMethod yX8_slotWord, Cond.selects RX8 yX8_slotWord yX8_slotWord, Cond.code yX8_slotWord cX8_slotWord 5 (some .int), Cond.methodLink RL 88 yX9_slotWord, Cond.instanceMethod yX9_slotWord, Cond.selects RX9 yX9_slotWord yX9_slotWord, Cond.code yX9_slotWord cX9_slotWord 5 (some .int), Cond.methodLink RL 89 yX8_matchedSayings, Cond.instanceMethod yX8_matchedSayings, Cond.selects RX8 yX8_matchedSayings yX8_matchedSayings, Cond.code yX8_matchedSayings cX8_matchedSayings 4 (some .int), Cond.methodLink RL 92 yX9_matchedSayings, Cond.instanceMethod yX9_matchedSayings, Cond.selects RX9 yX9_matchedSayings yX9_matchedSayings, Cond.code yX9_matchedSayings cX9_matchedSayings 4 (some .int), Cond.methodLink RL 93 yX8_bestPattern, Cond.instanceMethod yX8_bestPattern]
def wsL_law_r22 : List Cond := [Cond.selects RX8 yX8_bestPattern yX8_bestPattern, Cond.code yX8_bestPattern cX8_bestPattern 6 (some .int), Cond.instanceMethod yX4_fit, Cond.selects RX4 yX4_fit yX4_fit, Cond.code yX4_fit cX4_fit 1 (some .int), Cond.instanceMethod yX5_gapCount, Cond.selects RX5 yX5_gapCount yX5_gapCount, Cond.code yX5_gapCount cX5_gapCount 3 (some .int), Cond.methodLink RL 96 yX9_bestPattern, Cond.instanceMethod yX9_bestPattern, Cond.selects RX9 yX9_bestPattern yX9_bestPattern, Cond.code yX9_bestPattern cX9_bestPattern 6 (some .int), Cond.methodLink RL 97 yX8_setLimit, Cond.instanceMethod yX8_setLimit, Cond.selects RX8 yX8_setLimit yX8_setLimit, Cond.code yX8_setLimit cX8_setLimit 3 (some .int), Cond.methodLink RL 100 yX9_setLimit, Cond.instanceMethod yX9_setLimit, Cond.selects RX9 yX9_setLimit yX9_setLimit, Cond.code yX9_setLimit cX9_setLimit 3 (some .int), Cond.constantLong RX9 148 (20), Cond.methodLink RL 101 yX8_groupCount, Cond.instanceMethod yX8_groupCount, Cond.selects RX8 yX8_groupCount yX8_groupCount]
def wsL_law_r23 : List Cond := [Cond.code yX8_groupCount cX8_groupCount 1 (some .int), Cond.instanceMethod yX2_form, Cond.selects RX2 yX2_form yX2_form, Cond.code yX2_form cX2_form 7 none, Cond.fieldLink RX2 21 "ProverbCollection$Groups" "count" "I", Cond.methodLink RL 104 yX9_groupCount, Cond.instanceMethod yX9_groupCount, Cond.selects RX9 yX9_groupCount yX9_groupCount, Cond.code yX9_groupCount cX9_groupCount 1 (some .int), Cond.fieldLink RX9 145 "ProverbCollectionModel" "groups" "I", Cond.methodLink RX9 150 yX9_makesGroups, Cond.instanceMethod yX9_makesGroups, Cond.selects RX9 yX9_makesGroups yX9_makesGroups, Cond.code yX9_makesGroups cX9_makesGroups 5 none, Cond.methodLink RL 105 yX8_groupOf, Cond.instanceMethod yX8_groupOf, Cond.selects RX8 yX8_groupOf yX8_groupOf, Cond.code yX8_groupOf cX8_groupOf 2 (some .int), Cond.methodLink RL 108 yX9_groupOf, Cond.instanceMethod yX9_groupOf, Cond.selects RX9 yX9_groupOf yX9_groupOf, Cond.code yX9_groupOf cX9_groupOf 2 (some .int), Cond.methodLink RL 109 yX8_centreOf, Cond.instanceMethod yX8_centreOf]
def wsL_law_r24 : List Cond := [Cond.selects RX8 yX8_centreOf yX8_centreOf, Cond.code yX8_centreOf cX8_centreOf 2 (some .int), Cond.methodLink RL 112 yX9_centreOf, Cond.instanceMethod yX9_centreOf, Cond.selects RX9 yX9_centreOf yX9_centreOf, Cond.code yX9_centreOf cX9_centreOf 2 (some .int), Cond.methodLink RL 113 yX8_groupInfo, Cond.instanceMethod yX8_groupInfo, Cond.selects RX8 yX8_groupInfo yX8_groupInfo, Cond.code yX8_groupInfo cX8_groupInfo 3 (some .int), Cond.instanceMethod yX2_members, Cond.selects RX2 yX2_members yX2_members, Cond.code yX2_members cX2_members 5 (some .int), Cond.instanceMethod yX2_regions, Cond.selects RX2 yX2_regions yX2_regions, Cond.code yX2_regions cX2_regions 5 (some .int), Cond.methodLink RX2 50 yJ6_bitCount_0f7a4, Cond.static yJ6_bitCount_0f7a4, Cond.initialized RJ6, Cond.code yJ6_bitCount_0f7a4 cJ6_bitCount_0f7a4 1 (some .int), Cond.constant RJ6 265 (1431655765), Cond.constant RJ6 266 (858993459), Cond.constant RJ6 267 (252645135), Cond.instanceMethod yX2_radius]
def wsL_law_r25 : List Cond := [Cond.selects RX2 yX2_radius yX2_radius, Cond.code yX2_radius cX2_radius 6 (some .int), Cond.methodLink RX2 56 Lib.Math.max.name, Cond.methodLink RL 116 yX9_groupInfo, Cond.instanceMethod yX9_groupInfo, Cond.selects RX9 yX9_groupInfo yX9_groupInfo, Cond.code yX9_groupInfo cX9_groupInfo 8 (some .int), Cond.constantLong RX9 153 (2), Cond.methodLink RL 117 yX8_crossingCost, Cond.instanceMethod yX8_crossingCost, Cond.selects RX8 yX8_crossingCost yX8_crossingCost, Cond.code yX8_crossingCost cX8_crossingCost 5 (some .int), Cond.instanceMethod yX0_cost, Cond.selects RX0 yX0_cost yX0_cost, Cond.code yX0_cost cX0_cost 9 (some .int), Cond.constant RX0 45 (1000000), Cond.methodLink RX0 64 Lib.Math.min.name, Cond.instanceMethod yX5_addPart, Cond.selects RX5 yX5_addPart yX5_addPart, Cond.code yX5_addPart cX5_addPart 5 none, Cond.methodLink RX5 19 yX5_at, Cond.methodLink RX5 23 yX5_add, Cond.methodLink RL 120 yX9_crossingCost, Cond.instanceMethod yX9_crossingCost]
def wsL_law_r26 : List Cond := [Cond.selects RX9 yX9_crossingCost yX9_crossingCost, Cond.code yX9_crossingCost cX9_crossingCost 4 (some .int), Cond.methodLink RX9 155 yX9_crossed, Cond.instanceMethod yX9_crossed, Cond.selects RX9 yX9_crossed yX9_crossed, Cond.code yX9_crossed cX9_crossed 8 (some .int), Cond.methodLink RL 121 yX8_crossing, Cond.instanceMethod yX8_crossing, Cond.selects RX8 yX8_crossing yX8_crossing, Cond.code yX8_crossing cX8_crossing 3 (some .int), Cond.instanceMethod yX0_bestPair, Cond.selects RX0 yX0_bestPair yX0_bestPair, Cond.code yX0_bestPair cX0_bestPair 13 (some .int), Cond.methodLink RX0 82 yX0_cost, Cond.methodLink RL 124 yX9_crossing, Cond.instanceMethod yX9_crossing, Cond.selects RX9 yX9_crossing yX9_crossing, Cond.code yX9_crossing cX9_crossing 11 (some .int), Cond.methodLink RL 125 yX8_undo, Cond.instanceMethod yX8_undo, Cond.selects RX8 yX8_undo yX8_undo, Cond.code yX8_undo cX8_undo 1 (some .int), Cond.instanceMethod yX3_restore, Cond.selects RX3 yX3_restore yX3_restore]
def wsL_law_r27 : List Cond := [Cond.code yX3_restore cX3_restore 2 none, Cond.methodLink RL 128 yX9_undo, Cond.instanceMethod yX9_undo, Cond.selects RX9 yX9_undo yX9_undo, Cond.code yX9_undo cX9_undo 2 (some .int)]
def wsL_law : List Cond := (wsL_law_r1 ++ (wsL_law_r2 ++ (wsL_law_r3 ++ (wsL_law_r4 ++ (wsL_law_r5 ++ (wsL_law_r6 ++ (wsL_law_r7 ++ (wsL_law_r8 ++ (wsL_law_r9 ++ (wsL_law_r10 ++ (wsL_law_r11 ++ (wsL_law_r12 ++ (wsL_law_r13 ++ (wsL_law_r14 ++ (wsL_law_r15 ++ (wsL_law_r16 ++ (wsL_law_r17 ++ (wsL_law_r18 ++ (wsL_law_r19 ++ (wsL_law_r20 ++ (wsL_law_r21 ++ (wsL_law_r22 ++ (wsL_law_r23 ++ (wsL_law_r24 ++ (wsL_law_r25 ++ (wsL_law_r26 ++ wsL_law_r27)))))))))))))))))))))))))) ++ wsX80 ++ wsX90 ++ wsX50 ++ wsX70 ++ wsX30 ++ wsX10 ++ wsX40 ++ wsX20 ++ wsX00 ++ wsX60 ++ ([] : List Cond)
theorem inlX0 : ∀ w ∈ wsX00, w ∈ wsL_law := fun _ h => List.mem_append_left _ (List.mem_append_left _ (List.mem_append_right _ h))
theorem inlX1 : ∀ w ∈ wsX10, w ∈ wsL_law := fun _ h => List.mem_append_left _ (List.mem_append_left _ (List.mem_append_left _ (List.mem_append_left _ (List.mem_append_left _ (List.mem_append_right _ h)))))
theorem inlX2 : ∀ w ∈ wsX20, w ∈ wsL_law := fun _ h => List.mem_append_left _ (List.mem_append_left _ (List.mem_append_left _ (List.mem_append_right _ h)))
theorem inlX3 : ∀ w ∈ wsX30, w ∈ wsL_law := fun _ h => List.mem_append_left _ (List.mem_append_left _ (List.mem_append_left _ (List.mem_append_left _ (List.mem_append_left _ (List.mem_append_left _ (List.mem_append_right _ h))))))
theorem inlX4 : ∀ w ∈ wsX40, w ∈ wsL_law := fun _ h => List.mem_append_left _ (List.mem_append_left _ (List.mem_append_left _ (List.mem_append_left _ (List.mem_append_right _ h))))
theorem inlX5 : ∀ w ∈ wsX50, w ∈ wsL_law := fun _ h => List.mem_append_left _ (List.mem_append_left _ (List.mem_append_left _ (List.mem_append_left _ (List.mem_append_left _ (List.mem_append_left _ (List.mem_append_left _ (List.mem_append_left _ (List.mem_append_right _ h))))))))
theorem inlX6 : ∀ w ∈ wsX60, w ∈ wsL_law := fun _ h => List.mem_append_left _ (List.mem_append_right _ h)
theorem inlX7 : ∀ w ∈ wsX70, w ∈ wsL_law := fun _ h => List.mem_append_left _ (List.mem_append_left _ (List.mem_append_left _ (List.mem_append_left _ (List.mem_append_left _ (List.mem_append_left _ (List.mem_append_left _ (List.mem_append_right _ h)))))))
theorem inlX8 : ∀ w ∈ wsX80, w ∈ wsL_law := fun _ h => List.mem_append_left _ (List.mem_append_left _ (List.mem_append_left _ (List.mem_append_left _ (List.mem_append_left _ (List.mem_append_left _ (List.mem_append_left _ (List.mem_append_left _ (List.mem_append_left _ (List.mem_append_left _ (List.mem_append_right _ h))))))))))
theorem inlX9 : ∀ w ∈ wsX90, w ∈ wsL_law := fun _ h => List.mem_append_left _ (List.mem_append_left _ (List.mem_append_left _ (List.mem_append_left _ (List.mem_append_left _ (List.mem_append_left _ (List.mem_append_left _ (List.mem_append_left _ (List.mem_append_left _ (List.mem_append_right _ h)))))))))
abbrev vwCl : List vw_C := [(RX0, TX0, 4), (RX1, TX1, 5), (RX2, TX2, 4), (RX3, TX3, 3), (RX4, TX4, 5), (RX5, TX5, 2), (RX6, TX6, 4), (RX7, TX7, 6), (RX8, TX8, 8), (RX9, TX9, 18)]
end
section
/-- the words of the tables that are kept warm: links to private members of nest mates -/
def nwWarm : Cond → Bool
  | .fieldLinkNest .. => true
  | .methodLinkNest .. => true
  | _ => false
/-! ===== where the words of the law stand in its table ===== -/
set_option maxRecDepth 20000 in
theorem wsIn_1 : wsL_law_r1 = ([76, 77, 62, 638, 639, 71, 78, 79, 80, 81, 82, 83, 84, 85, 63, 280, 103, 104, 64, 281, 163, 164, 66, 282] : List Nat).filterMap (fun i => lw_tbl[i]?) := by rfl
set_option maxRecDepth 20000 in
theorem wsIn_2 : wsL_law_r2 = ([183, 184, 67, 283, 212, 213, 68, 284, 237, 238, 69, 285, 259, 260, 70, 286, 102, 287, 87, 88, 89, 90, 106, 107] : List Nat).filterMap (fun i => lw_tbl[i]?) := by rfl
set_option maxRecDepth 20000 in
theorem wsIn_3 : wsL_law_r3 = ([108, 109, 110, 65, 131, 137, 138, 140, 143, 147, 112, 113, 114, 115, 116, 117, 166, 167, 168, 169, 172, 186, 187, 188] : List Nat).filterMap (fun i => lw_tbl[i]?) := by rfl
set_option maxRecDepth 20000 in
theorem wsIn_4 : wsL_law_r4 = ([189, 193, 195, 191, 197, 198, 215, 216, 217, 218, 220, 221, 222, 223, 240, 241, 242, 243, 244, 246, 262, 263, 264, 265] : List Nat).filterMap (fun i => lw_tbl[i]?) := by rfl
set_option maxRecDepth 20000 in
theorem wsIn_5 : wsL_law_r5 = ([267, 268, 269, 270, 640, 641, 642, 643, 644, 645, 648, 649, 650, 653, 655, 656, 657, 658, 660, 661, 305, 306, 307, 308] : List Nat).filterMap (fun i => lw_tbl[i]?) := by rfl
set_option maxRecDepth 20000 in
theorem wsIn_6 : wsL_law_r6 = ([311, 0, 312, 91, 703, 704, 705, 706, 707, 647, 708, 709, 710, 313, 314, 315, 316, 711, 712, 713, 714, 317, 318, 319] : List Nat).filterMap (fun i => lw_tbl[i]?) := by rfl
set_option maxRecDepth 20000 in
theorem wsIn_7 : wsL_law_r7 = ([320, 323, 1, 324, 327, 2, 328, 118, 331, 3, 332, 173, 174, 351, 345, 72, 346, 335, 4, 336, 339, 5, 340, 342] : List Nat).filterMap (fun i => lw_tbl[i]?) := by rfl
set_option maxRecDepth 20000 in
theorem wsIn_8 : wsL_law_r8 = ([343, 344, 347, 349, 348, 73, 354, 6, 355, 358, 7, 359, 360, 363, 8, 364, 367, 9, 368, 715, 716, 717, 718, 719] : List Nat).filterMap (fun i => lw_tbl[i]?) := by rfl
set_option maxRecDepth 20000 in
theorem wsIn_9 : wsL_law_r9 = ([720, 721, 722, 724, 41, 725, 646, 369, 370, 371, 372, 376, 10, 377, 380, 11, 381, 382, 384, 385, 726, 727, 728, 729] : List Nat).filterMap (fun i => lw_tbl[i]?) := by rfl
set_option maxRecDepth 20000 in
theorem wsIn_10 : wsL_law_r10 = ([730, 732, 42, 733, 387, 388, 389, 390, 734, 735, 736, 737, 391, 392, 393, 394, 397, 12, 398, 738, 739, 740, 741, 399] : List Nat).filterMap (fun i => lw_tbl[i]?) := by rfl
set_option maxRecDepth 20000 in
theorem wsIn_11 : wsL_law_r11 = ([400, 401, 402, 405, 13, 406, 407, 742, 743, 744, 745, 408, 409, 410, 411, 414, 14, 415, 416, 418, 15, 419, 420, 422] : List Nat).filterMap (fun i => lw_tbl[i]?) := by rfl
set_option maxRecDepth 20000 in
theorem wsIn_12 : wsL_law_r12 = ([16, 423, 746, 747, 748, 749, 750, 752, 43, 753, 754, 756, 44, 757, 424, 425, 426, 427, 758, 759, 760, 761, 762, 428] : List Nat).filterMap (fun i => lw_tbl[i]?) := by rfl
set_option maxRecDepth 20000 in
theorem wsIn_13 : wsL_law_r13 = ([429, 430, 431, 432, 434, 17, 435, 438, 18, 439, 442, 19, 443, 444, 446, 448, 20, 449, 450, 464, 451, 453, 21, 454] : List Nat).filterMap (fun i => lw_tbl[i]?) := by rfl
set_option maxRecDepth 20000 in
theorem wsIn_14 : wsL_law_r14 = ([455, 457, 22, 458, 460, 462, 23, 463, 763, 764, 765, 766, 767, 769, 45, 770, 771, 773, 46, 774, 651, 775, 777, 47] : List Nat).filterMap (fun i => lw_tbl[i]?) := by rfl
set_option maxRecDepth 20000 in
theorem wsIn_15 : wsL_law_r15 = ([778, 652, 779, 781, 48, 782, 783, 785, 49, 786, 787, 789, 50, 790, 791, 793, 51, 794, 795, 797, 52, 798, 465, 466] : List Nat).filterMap (fun i => lw_tbl[i]?) := by rfl
set_option maxRecDepth 20000 in
theorem wsIn_16 : wsL_law_r16 = ([467, 468, 469, 470, 471, 472, 473, 474, 475, 799, 800, 801, 802, 803, 804, 74, 805, 809, 811, 810, 74, 812, 806, 807] : List Nat).filterMap (fun i => lw_tbl[i]?) := by rfl
set_option maxRecDepth 20000 in
theorem wsIn_17 : wsL_law_r17 = ([808, 476, 477, 478, 479, 482, 24, 483, 199, 484, 486, 25, 487, 813, 814, 815, 816, 654, 817, 819, 53, 820, 488, 489] : List Nat).filterMap (fun i => lw_tbl[i]?) := by rfl
set_option maxRecDepth 20000 in
theorem wsIn_18 : wsL_law_r18 = ([490, 491, 494, 26, 495, 821, 822, 823, 824, 496, 497, 498, 499, 500, 825, 826, 827, 828, 501, 502, 503, 504, 829, 830] : List Nat).filterMap (fun i => lw_tbl[i]?) := by rfl
set_option maxRecDepth 20000 in
theorem wsIn_19 : wsL_law_r19 = ([831, 832, 506, 507, 508, 509, 833, 834, 835, 836, 837, 839, 54, 840, 511, 512, 513, 514, 517, 27, 518, 225, 520, 522] : List Nat).filterMap (fun i => lw_tbl[i]?) := by rfl
set_option maxRecDepth 20000 in
theorem wsIn_20 : wsL_law_r20 = ([28, 523, 524, 526, 29, 527, 530, 532, 30, 533, 841, 842, 843, 844, 845, 847, 55, 848, 849, 851, 56, 852, 853, 855] : List Nat).filterMap (fun i => lw_tbl[i]?) := by rfl
set_option maxRecDepth 20000 in
theorem wsIn_21 : wsL_law_r21 = ([57, 856, 857, 859, 58, 860, 534, 535, 536, 537, 861, 862, 863, 864, 538, 539, 540, 541, 865, 866, 867, 868, 542, 543] : List Nat).filterMap (fun i => lw_tbl[i]?) := by rfl
set_option maxRecDepth 20000 in
theorem wsIn_22 : wsL_law_r22 = ([544, 545, 548, 31, 549, 553, 32, 554, 869, 870, 871, 872, 555, 556, 557, 558, 873, 874, 875, 876, 877, 559, 560, 561] : List Nat).filterMap (fun i => lw_tbl[i]?) := by rfl
set_option maxRecDepth 20000 in
theorem wsIn_23 : wsL_law_r23 = ([562, 565, 33, 566, 248, 878, 879, 880, 881, 659, 882, 884, 59, 885, 569, 570, 571, 572, 886, 887, 888, 889, 573, 574] : List Nat).filterMap (fun i => lw_tbl[i]?) := by rfl
set_option maxRecDepth 20000 in
theorem wsIn_24 : wsL_law_r24 = ([575, 576, 890, 891, 892, 893, 577, 578, 579, 580, 583, 34, 584, 587, 35, 588, 589, 590, 75, 591, 592, 593, 594, 597] : List Nat).filterMap (fun i => lw_tbl[i]?) := by rfl
set_option maxRecDepth 20000 in
theorem wsIn_25 : wsL_law_r25 = ([36, 598, 599, 894, 895, 896, 897, 898, 600, 601, 602, 603, 606, 37, 607, 609, 617, 612, 38, 613, 614, 615, 899, 900] : List Nat).filterMap (fun i => lw_tbl[i]?) := by rfl
set_option maxRecDepth 20000 in
theorem wsIn_26 : wsL_law_r26 = ([901, 902, 903, 905, 60, 906, 618, 619, 620, 621, 624, 39, 625, 629, 907, 908, 909, 910, 630, 631, 632, 633, 636, 40] : List Nat).filterMap (fun i => lw_tbl[i]?) := by rfl
set_option maxRecDepth 20000 in
theorem wsIn_27 : wsL_law_r27 = ([637, 699, 700, 701, 702] : List Nat).filterMap (fun i => lw_tbl[i]?) := by rfl
theorem wsIn_of {ws : List Cond} {is : List Nat} (h : ws = is.filterMap (fun i => lw_tbl[i]?)) : ∀ w ∈ ws, w ∈ lw_tbl := by
  intro w hw
  rw [h] at hw
  obtain ⟨i, -, hi⟩ := List.mem_filterMap.mp hw
  exact List.mem_of_getElem? hi
theorem wsLay_8 : ∀ w ∈ wsX80, w ∈ lw_tbl := by decide +kernel
theorem wsLay_9 : ∀ w ∈ wsX90, w ∈ lw_tbl := by decide +kernel
theorem wsLay_5 : ∀ w ∈ wsX50, w ∈ lw_tbl := by decide +kernel
theorem wsLay_7 : ∀ w ∈ wsX70, w ∈ lw_tbl := by decide +kernel
theorem wsLay_3 : ∀ w ∈ wsX30, w ∈ lw_tbl := by decide +kernel
theorem wsLay_1 : ∀ w ∈ wsX10, w ∈ lw_tbl := by decide +kernel
theorem wsLay_4 : ∀ w ∈ wsX40, w ∈ lw_tbl := by decide +kernel
theorem wsLay_2 : ∀ w ∈ wsX20, w ∈ lw_tbl := by decide +kernel
theorem wsLay_0 : ∀ w ∈ wsX00, w ∈ lw_tbl := by decide +kernel
theorem wsLay_6 : ∀ w ∈ wsX60, w ∈ lw_tbl := by decide +kernel
theorem wsL_in : ∀ w ∈ wsL_law, w ∈ lw_tbl := by
  intro w hw
  unfold wsL_law at hw
  simp only [List.mem_append, List.not_mem_nil, or_false] at hw
  rcases hw with ((((((((((h | h | h | h | h | h | h | h | h | h | h | h | h | h | h | h | h | h | h | h | h | h | h | h | h | h | h) | h) | h) | h) | h) | h) | h) | h) | h) | h) | h
  · exact wsIn_of wsIn_1 w h
  · exact wsIn_of wsIn_2 w h
  · exact wsIn_of wsIn_3 w h
  · exact wsIn_of wsIn_4 w h
  · exact wsIn_of wsIn_5 w h
  · exact wsIn_of wsIn_6 w h
  · exact wsIn_of wsIn_7 w h
  · exact wsIn_of wsIn_8 w h
  · exact wsIn_of wsIn_9 w h
  · exact wsIn_of wsIn_10 w h
  · exact wsIn_of wsIn_11 w h
  · exact wsIn_of wsIn_12 w h
  · exact wsIn_of wsIn_13 w h
  · exact wsIn_of wsIn_14 w h
  · exact wsIn_of wsIn_15 w h
  · exact wsIn_of wsIn_16 w h
  · exact wsIn_of wsIn_17 w h
  · exact wsIn_of wsIn_18 w h
  · exact wsIn_of wsIn_19 w h
  · exact wsIn_of wsIn_20 w h
  · exact wsIn_of wsIn_21 w h
  · exact wsIn_of wsIn_22 w h
  · exact wsIn_of wsIn_23 w h
  · exact wsIn_of wsIn_24 w h
  · exact wsIn_of wsIn_25 w h
  · exact wsIn_of wsIn_26 w h
  · exact wsIn_of wsIn_27 w h
  · exact wsLay_8 w h
  · exact wsLay_9 w h
  · exact wsLay_5 w h
  · exact wsLay_7 w h
  · exact wsLay_3 w h
  · exact wsLay_1 w h
  · exact wsLay_4 w h
  · exact wsLay_2 w h
  · exact wsLay_0 w h
  · exact wsLay_6 w h

set_option maxRecDepth 20000 in
theorem wq_0 : Cond.classLink RL 7 RX8 ∈ wsL_law := List.mem_of_getElem? (i := 0) rfl
set_option maxRecDepth 20000 in
theorem wq_1 : Cond.instantiable RX8 8 ∈ wsL_law := List.mem_of_getElem? (i := 1) rfl
set_option maxRecDepth 20000 in
theorem wq_2 : Cond.initialized RX8 ∈ wsL_law := List.mem_of_getElem? (i := 2) rfl
set_option maxRecDepth 20000 in
theorem wq_3 : Cond.classLink RL 10 RX9 ∈ wsL_law := List.mem_of_getElem? (i := 3) rfl
set_option maxRecDepth 20000 in
theorem wq_4 : Cond.instantiable RX9 18 ∈ wsL_law := List.mem_of_getElem? (i := 4) rfl
set_option maxRecDepth 20000 in
theorem wq_5 : Cond.initialized RX9 ∈ wsL_law := List.mem_of_getElem? (i := 5) rfl
set_option maxRecDepth 20000 in
theorem wq_6 : Cond.methodLink RL 9 yX8_init ∈ wsL_law := List.mem_of_getElem? (i := 6) rfl
set_option maxRecDepth 20000 in
theorem wq_7 : Cond.instanceMethod yX8_init ∈ wsL_law := List.mem_of_getElem? (i := 7) rfl
set_option maxRecDepth 20000 in
theorem wq_8 : Cond.code yX8_init cX8_init 1 none ∈ wsL_law := List.mem_of_getElem? (i := 8) rfl
set_option maxRecDepth 20000 in
theorem wq_9 : Cond.methodLink RX8 1 objectInit ∈ wsL_law := List.mem_of_getElem? (i := 9) rfl
set_option maxRecDepth 20000 in
theorem wq_10 : Cond.instanceMethod objectInit ∈ wsL_law := List.mem_of_getElem? (i := 10) rfl
set_option maxRecDepth 20000 in
theorem wq_11 : Cond.code objectInit ⟨#[0xb1]⟩ 1 none ∈ wsL_law := List.mem_of_getElem? (i := 11) rfl
set_option maxRecDepth 20000 in
theorem wq_12 : Cond.classLink RX8 7 RX5 ∈ wsL_law := List.mem_of_getElem? (i := 12) rfl
set_option maxRecDepth 20000 in
theorem wq_13 : Cond.instantiable RX5 2 ∈ wsL_law := List.mem_of_getElem? (i := 13) rfl
set_option maxRecDepth 20000 in
theorem wq_14 : Cond.initialized RX5 ∈ wsL_law := List.mem_of_getElem? (i := 14) rfl
set_option maxRecDepth 20000 in
theorem wq_15 : Cond.fieldLink RX8 10 "ProverbCollection" "buffer" "LProverbCollection$Sequence;" ∈ wsL_law := List.mem_of_getElem? (i := 15) rfl
set_option maxRecDepth 20000 in
theorem wq_16 : Cond.classLink RX8 16 RX7 ∈ wsL_law := List.mem_of_getElem? (i := 16) rfl
set_option maxRecDepth 20000 in
theorem wq_17 : Cond.instantiable RX7 6 ∈ wsL_law := List.mem_of_getElem? (i := 17) rfl
set_option maxRecDepth 20000 in
theorem wq_18 : Cond.initialized RX7 ∈ wsL_law := List.mem_of_getElem? (i := 18) rfl
set_option maxRecDepth 20000 in
theorem wq_19 : Cond.fieldLink RX8 19 "ProverbCollection" "now" "LProverbCollection$State;" ∈ wsL_law := List.mem_of_getElem? (i := 19) rfl
set_option maxRecDepth 20000 in
theorem wq_20 : Cond.classLink RX8 23 RX3 ∈ wsL_law := List.mem_of_getElem? (i := 20) rfl
set_option maxRecDepth 20000 in
theorem wq_21 : Cond.instantiable RX3 3 ∈ wsL_law := List.mem_of_getElem? (i := 21) rfl
set_option maxRecDepth 20000 in
theorem wq_22 : Cond.initialized RX3 ∈ wsL_law := List.mem_of_getElem? (i := 22) rfl
set_option maxRecDepth 20000 in
theorem wq_23 : Cond.fieldLink RX8 26 "ProverbCollection" "history" "LProverbCollection$History;" ∈ wsL_law := List.mem_of_getElem? (i := 23) rfl
set_option maxRecDepth 20000 in
theorem wq_24 : Cond.classLink RX8 30 RX1 ∈ wsL_law := List.mem_of_getElem? (i := 24) rfl
set_option maxRecDepth 20000 in
theorem wq_25 : Cond.instantiable RX1 5 ∈ wsL_law := List.mem_of_getElem? (i := 25) rfl
set_option maxRecDepth 20000 in
theorem wq_26 : Cond.initialized RX1 ∈ wsL_law := List.mem_of_getElem? (i := 26) rfl
set_option maxRecDepth 20000 in
theorem wq_27 : Cond.fieldLink RX8 33 "ProverbCollection" "edits" "LProverbCollection$Edits;" ∈ wsL_law := List.mem_of_getElem? (i := 27) rfl
set_option maxRecDepth 20000 in
theorem wq_28 : Cond.classLink RX8 37 RX4 ∈ wsL_law := List.mem_of_getElem? (i := 28) rfl
set_option maxRecDepth 20000 in
theorem wq_29 : Cond.instantiable RX4 5 ∈ wsL_law := List.mem_of_getElem? (i := 29) rfl
set_option maxRecDepth 20000 in
theorem wq_30 : Cond.initialized RX4 ∈ wsL_law := List.mem_of_getElem? (i := 30) rfl
set_option maxRecDepth 20000 in
theorem wq_31 : Cond.fieldLink RX8 40 "ProverbCollection" "matcher" "LProverbCollection$Matcher;" ∈ wsL_law := List.mem_of_getElem? (i := 31) rfl
set_option maxRecDepth 20000 in
theorem wq_32 : Cond.classLink RX8 44 RX2 ∈ wsL_law := List.mem_of_getElem? (i := 32) rfl
set_option maxRecDepth 20000 in
theorem wq_33 : Cond.instantiable RX2 4 ∈ wsL_law := List.mem_of_getElem? (i := 33) rfl
set_option maxRecDepth 20000 in
theorem wq_34 : Cond.initialized RX2 ∈ wsL_law := List.mem_of_getElem? (i := 34) rfl
set_option maxRecDepth 20000 in
theorem wq_35 : Cond.fieldLink RX8 47 "ProverbCollection" "groups" "LProverbCollection$Groups;" ∈ wsL_law := List.mem_of_getElem? (i := 35) rfl
set_option maxRecDepth 20000 in
theorem wq_36 : Cond.classLink RX8 51 RX0 ∈ wsL_law := List.mem_of_getElem? (i := 36) rfl
set_option maxRecDepth 20000 in
theorem wq_37 : Cond.instantiable RX0 4 ∈ wsL_law := List.mem_of_getElem? (i := 37) rfl
set_option maxRecDepth 20000 in
theorem wq_38 : Cond.initialized RX0 ∈ wsL_law := List.mem_of_getElem? (i := 38) rfl
set_option maxRecDepth 20000 in
theorem wq_39 : Cond.fieldLink RX8 54 "ProverbCollection" "crossings" "LProverbCollection$Crossings;" ∈ wsL_law := List.mem_of_getElem? (i := 39) rfl
set_option maxRecDepth 20000 in
theorem wq_40 : Cond.arrayClass .int ∈ wsL_law := List.mem_of_getElem? (i := 40) rfl
set_option maxRecDepth 20000 in
theorem wq_41 : Cond.fieldLink RX8 58 "ProverbCollection" "ageOrder" "[I" ∈ wsL_law := List.mem_of_getElem? (i := 41) rfl
set_option maxRecDepth 20000 in
theorem wq_42 : Cond.instanceMethod yX5_init ∈ wsL_law := List.mem_of_getElem? (i := 42) rfl
set_option maxRecDepth 20000 in
theorem wq_43 : Cond.code yX5_init cX5_init 1 none ∈ wsL_law := List.mem_of_getElem? (i := 43) rfl
set_option maxRecDepth 20000 in
theorem wq_44 : Cond.methodLink RX5 3 objectInit ∈ wsL_law := List.mem_of_getElem? (i := 44) rfl
set_option maxRecDepth 20000 in
theorem wq_45 : Cond.fieldLink RX5 9 "ProverbCollection$Sequence" "tokens" "[I" ∈ wsL_law := List.mem_of_getElem? (i := 45) rfl
set_option maxRecDepth 20000 in
theorem wq_46 : Cond.instanceMethod yX7_init ∈ wsL_law := List.mem_of_getElem? (i := 46) rfl
set_option maxRecDepth 20000 in
theorem wq_47 : Cond.code yX7_init cX7_init 1 none ∈ wsL_law := List.mem_of_getElem? (i := 47) rfl
set_option maxRecDepth 20000 in
theorem wq_48 : Cond.methodLink RX7 3 objectInit ∈ wsL_law := List.mem_of_getElem? (i := 48) rfl
set_option maxRecDepth 20000 in
theorem wq_49 : Cond.classLink RX7 9 RX6 ∈ wsL_law := List.mem_of_getElem? (i := 49) rfl
set_option maxRecDepth 20000 in
theorem wq_50 : Cond.instantiable RX6 4 ∈ wsL_law := List.mem_of_getElem? (i := 50) rfl
set_option maxRecDepth 20000 in
theorem wq_51 : Cond.initialized RX6 ∈ wsL_law := List.mem_of_getElem? (i := 51) rfl
set_option maxRecDepth 20000 in
theorem wq_52 : Cond.fieldLink RX7 14 "ProverbCollection$State" "sayings" "LProverbCollection$Shelf;" ∈ wsL_law := List.mem_of_getElem? (i := 52) rfl
set_option maxRecDepth 20000 in
theorem wq_53 : Cond.fieldLink RX7 20 "ProverbCollection$State" "years" "[I" ∈ wsL_law := List.mem_of_getElem? (i := 53) rfl
set_option maxRecDepth 20000 in
theorem wq_54 : Cond.fieldLink RX7 24 "ProverbCollection$State" "regions" "[I" ∈ wsL_law := List.mem_of_getElem? (i := 54) rfl
set_option maxRecDepth 20000 in
theorem wq_55 : Cond.fieldLink RX7 27 "ProverbCollection$State" "patterns" "LProverbCollection$Shelf;" ∈ wsL_law := List.mem_of_getElem? (i := 55) rfl
set_option maxRecDepth 20000 in
theorem wq_56 : Cond.fieldLink RX7 30 "ProverbCollection$State" "costs" "[I" ∈ wsL_law := List.mem_of_getElem? (i := 56) rfl
set_option maxRecDepth 20000 in
theorem wq_57 : Cond.fieldLink RX7 33 "ProverbCollection$State" "limit" "I" ∈ wsL_law := List.mem_of_getElem? (i := 57) rfl
set_option maxRecDepth 20000 in
theorem wq_58 : Cond.instanceMethod yX6_init ∈ wsL_law := List.mem_of_getElem? (i := 58) rfl
set_option maxRecDepth 20000 in
theorem wq_59 : Cond.code yX6_init cX6_init 2 none ∈ wsL_law := List.mem_of_getElem? (i := 59) rfl
set_option maxRecDepth 20000 in
theorem wq_60 : Cond.methodLink RX6 3 objectInit ∈ wsL_law := List.mem_of_getElem? (i := 60) rfl
set_option maxRecDepth 20000 in
theorem wq_61 : Cond.fieldLink RX6 9 "ProverbCollection$Shelf" "most" "I" ∈ wsL_law := List.mem_of_getElem? (i := 61) rfl
set_option maxRecDepth 20000 in
theorem wq_62 : Cond.fieldLink RX6 15 "ProverbCollection$Shelf" "tokens" "[I" ∈ wsL_law := List.mem_of_getElem? (i := 62) rfl
set_option maxRecDepth 20000 in
theorem wq_63 : Cond.fieldLink RX6 19 "ProverbCollection$Shelf" "lengths" "[I" ∈ wsL_law := List.mem_of_getElem? (i := 63) rfl
set_option maxRecDepth 20000 in
theorem wq_64 : Cond.instanceMethod yX3_init ∈ wsL_law := List.mem_of_getElem? (i := 64) rfl
set_option maxRecDepth 20000 in
theorem wq_65 : Cond.code yX3_init cX3_init 2 none ∈ wsL_law := List.mem_of_getElem? (i := 65) rfl
set_option maxRecDepth 20000 in
theorem wq_66 : Cond.methodLink RX3 3 objectInit ∈ wsL_law := List.mem_of_getElem? (i := 66) rfl
set_option maxRecDepth 20000 in
theorem wq_67 : Cond.classLink RX3 9 RX7 ∈ wsL_law := List.mem_of_getElem? (i := 67) rfl
set_option maxRecDepth 20000 in
theorem wq_68 : Cond.fieldLink RX3 11 "ProverbCollection$History" "ring" "[LProverbCollection$State;" ∈ wsL_law := List.mem_of_getElem? (i := 68) rfl
set_option maxRecDepth 20000 in
theorem wq_69 : Cond.instanceMethod yX1_init ∈ wsL_law := List.mem_of_getElem? (i := 69) rfl
set_option maxRecDepth 20000 in
theorem wq_70 : Cond.code yX1_init cX1_init 1 none ∈ wsL_law := List.mem_of_getElem? (i := 70) rfl
set_option maxRecDepth 20000 in
theorem wq_71 : Cond.methodLink RX1 3 objectInit ∈ wsL_law := List.mem_of_getElem? (i := 71) rfl
set_option maxRecDepth 20000 in
theorem wq_72 : Cond.classLink RX1 9 RX5 ∈ wsL_law := List.mem_of_getElem? (i := 72) rfl
set_option maxRecDepth 20000 in
theorem wq_73 : Cond.fieldLink RX1 12 "ProverbCollection$Edits" "first" "LProverbCollection$Sequence;" ∈ wsL_law := List.mem_of_getElem? (i := 73) rfl
set_option maxRecDepth 20000 in
theorem wq_74 : Cond.fieldLink RX1 18 "ProverbCollection$Edits" "second" "LProverbCollection$Sequence;" ∈ wsL_law := List.mem_of_getElem? (i := 74) rfl
set_option maxRecDepth 20000 in
theorem wq_75 : Cond.classLink RX1 21 "[[I" ∈ wsL_law := List.mem_of_getElem? (i := 75) rfl
set_option maxRecDepth 20000 in
theorem wq_76 : Cond.fieldLink RX1 23 "ProverbCollection$Edits" "table" "[[I" ∈ wsL_law := List.mem_of_getElem? (i := 76) rfl
set_option maxRecDepth 20000 in
theorem wq_77 : Cond.fieldLink RX1 26 "ProverbCollection$Edits" "list" "[I" ∈ wsL_law := List.mem_of_getElem? (i := 77) rfl
set_option maxRecDepth 20000 in
theorem wq_78 : Cond.instanceMethod yX4_init ∈ wsL_law := List.mem_of_getElem? (i := 78) rfl
set_option maxRecDepth 20000 in
theorem wq_79 : Cond.code yX4_init cX4_init 1 none ∈ wsL_law := List.mem_of_getElem? (i := 79) rfl
set_option maxRecDepth 20000 in
theorem wq_80 : Cond.methodLink RX4 3 objectInit ∈ wsL_law := List.mem_of_getElem? (i := 80) rfl
set_option maxRecDepth 20000 in
theorem wq_81 : Cond.classLink RX4 9 RX5 ∈ wsL_law := List.mem_of_getElem? (i := 81) rfl
set_option maxRecDepth 20000 in
theorem wq_82 : Cond.fieldLink RX4 12 "ProverbCollection$Matcher" "pattern" "LProverbCollection$Sequence;" ∈ wsL_law := List.mem_of_getElem? (i := 82) rfl
set_option maxRecDepth 20000 in
theorem wq_83 : Cond.fieldLink RX4 18 "ProverbCollection$Matcher" "saying" "LProverbCollection$Sequence;" ∈ wsL_law := List.mem_of_getElem? (i := 83) rfl
set_option maxRecDepth 20000 in
theorem wq_84 : Cond.fieldLink RX4 21 "ProverbCollection$Matcher" "slotWords" "[I" ∈ wsL_law := List.mem_of_getElem? (i := 84) rfl
set_option maxRecDepth 20000 in
theorem wq_85 : Cond.fieldLink RX4 25 "ProverbCollection$Matcher" "firstWord" "[I" ∈ wsL_law := List.mem_of_getElem? (i := 85) rfl
set_option maxRecDepth 20000 in
theorem wq_86 : Cond.instanceMethod yX2_init ∈ wsL_law := List.mem_of_getElem? (i := 86) rfl
set_option maxRecDepth 20000 in
theorem wq_87 : Cond.code yX2_init cX2_init 1 none ∈ wsL_law := List.mem_of_getElem? (i := 87) rfl
set_option maxRecDepth 20000 in
theorem wq_88 : Cond.methodLink RX2 3 objectInit ∈ wsL_law := List.mem_of_getElem? (i := 88) rfl
set_option maxRecDepth 20000 in
theorem wq_89 : Cond.fieldLink RX2 9 "ProverbCollection$Groups" "order" "[I" ∈ wsL_law := List.mem_of_getElem? (i := 89) rfl
set_option maxRecDepth 20000 in
theorem wq_90 : Cond.fieldLink RX2 15 "ProverbCollection$Groups" "memberOf" "[I" ∈ wsL_law := List.mem_of_getElem? (i := 90) rfl
set_option maxRecDepth 20000 in
theorem wq_91 : Cond.fieldLink RX2 18 "ProverbCollection$Groups" "centres" "[I" ∈ wsL_law := List.mem_of_getElem? (i := 91) rfl
set_option maxRecDepth 20000 in
theorem wq_92 : Cond.instanceMethod yX0_init ∈ wsL_law := List.mem_of_getElem? (i := 92) rfl
set_option maxRecDepth 20000 in
theorem wq_93 : Cond.code yX0_init cX0_init 1 none ∈ wsL_law := List.mem_of_getElem? (i := 93) rfl
set_option maxRecDepth 20000 in
theorem wq_94 : Cond.methodLink RX0 3 objectInit ∈ wsL_law := List.mem_of_getElem? (i := 94) rfl
set_option maxRecDepth 20000 in
theorem wq_95 : Cond.classLink RX0 9 RX5 ∈ wsL_law := List.mem_of_getElem? (i := 95) rfl
set_option maxRecDepth 20000 in
theorem wq_96 : Cond.fieldLink RX0 12 "ProverbCollection$Crossings" "front" "LProverbCollection$Sequence;" ∈ wsL_law := List.mem_of_getElem? (i := 96) rfl
set_option maxRecDepth 20000 in
theorem wq_97 : Cond.fieldLink RX0 18 "ProverbCollection$Crossings" "back" "LProverbCollection$Sequence;" ∈ wsL_law := List.mem_of_getElem? (i := 97) rfl
set_option maxRecDepth 20000 in
theorem wq_98 : Cond.fieldLink RX0 21 "ProverbCollection$Crossings" "order" "[I" ∈ wsL_law := List.mem_of_getElem? (i := 98) rfl
set_option maxRecDepth 20000 in
theorem wq_99 : Cond.fieldLink RX0 25 "ProverbCollection$Crossings" "apart" "[I" ∈ wsL_law := List.mem_of_getElem? (i := 99) rfl
set_option maxRecDepth 20000 in
theorem wq_100 : Cond.methodLink RL 12 yX9_init ∈ wsL_law := List.mem_of_getElem? (i := 100) rfl
set_option maxRecDepth 20000 in
theorem wq_101 : Cond.instanceMethod yX9_init ∈ wsL_law := List.mem_of_getElem? (i := 101) rfl
set_option maxRecDepth 20000 in
theorem wq_102 : Cond.code yX9_init cX9_init 1 none ∈ wsL_law := List.mem_of_getElem? (i := 102) rfl
set_option maxRecDepth 20000 in
theorem wq_103 : Cond.methodLink RX9 1 objectInit ∈ wsL_law := List.mem_of_getElem? (i := 103) rfl
set_option maxRecDepth 20000 in
theorem wq_104 : Cond.fieldLink RX9 7 "ProverbCollectionModel" "now" "[I" ∈ wsL_law := List.mem_of_getElem? (i := 104) rfl
set_option maxRecDepth 20000 in
theorem wq_105 : Cond.fieldLink RX9 13 "ProverbCollectionModel" "before" "[I" ∈ wsL_law := List.mem_of_getElem? (i := 105) rfl
set_option maxRecDepth 20000 in
theorem wq_106 : Cond.fieldLink RX9 16 "ProverbCollectionModel" "buffer" "[I" ∈ wsL_law := List.mem_of_getElem? (i := 106) rfl
set_option maxRecDepth 20000 in
theorem wq_107 : Cond.fieldLink RX9 19 "ProverbCollectionModel" "one" "[I" ∈ wsL_law := List.mem_of_getElem? (i := 107) rfl
set_option maxRecDepth 20000 in
theorem wq_108 : Cond.fieldLink RX9 22 "ProverbCollectionModel" "other" "[I" ∈ wsL_law := List.mem_of_getElem? (i := 108) rfl
set_option maxRecDepth 20000 in
theorem wq_109 : Cond.fieldLink RX9 25 "ProverbCollectionModel" "far" "[I" ∈ wsL_law := List.mem_of_getElem? (i := 109) rfl
set_option maxRecDepth 20000 in
theorem wq_110 : Cond.fieldLink RX9 28 "ProverbCollectionModel" "edit" "[I" ∈ wsL_law := List.mem_of_getElem? (i := 110) rfl
set_option maxRecDepth 20000 in
theorem wq_111 : Cond.fieldLink RX9 31 "ProverbCollectionModel" "gap" "[I" ∈ wsL_law := List.mem_of_getElem? (i := 111) rfl
set_option maxRecDepth 20000 in
theorem wq_112 : Cond.fieldLink RX9 34 "ProverbCollectionModel" "slot" "[I" ∈ wsL_law := List.mem_of_getElem? (i := 112) rfl
set_option maxRecDepth 20000 in
theorem wq_113 : Cond.fieldLink RX9 37 "ProverbCollectionModel" "firstSlot" "[I" ∈ wsL_law := List.mem_of_getElem? (i := 113) rfl
set_option maxRecDepth 20000 in
theorem wq_114 : Cond.fieldLink RX9 40 "ProverbCollectionModel" "group" "[I" ∈ wsL_law := List.mem_of_getElem? (i := 114) rfl
set_option maxRecDepth 20000 in
theorem wq_115 : Cond.fieldLink RX9 43 "ProverbCollectionModel" "centre" "[I" ∈ wsL_law := List.mem_of_getElem? (i := 115) rfl
set_option maxRecDepth 20000 in
theorem wq_116 : Cond.methodLink RL 13 yX8_append ∈ wsL_law := List.mem_of_getElem? (i := 116) rfl
set_option maxRecDepth 20000 in
theorem wq_117 : Cond.instanceMethod yX8_append ∈ wsL_law := List.mem_of_getElem? (i := 117) rfl
set_option maxRecDepth 20000 in
theorem wq_118 : Cond.selects RX8 yX8_append yX8_append ∈ wsL_law := List.mem_of_getElem? (i := 118) rfl
set_option maxRecDepth 20000 in
theorem wq_119 : Cond.code yX8_append cX8_append 2 (some .int) ∈ wsL_law := List.mem_of_getElem? (i := 119) rfl
set_option maxRecDepth 20000 in
theorem wq_120 : Cond.instanceMethod yX5_add ∈ wsL_law := List.mem_of_getElem? (i := 120) rfl
set_option maxRecDepth 20000 in
theorem wq_121 : Cond.selects RX5 yX5_add yX5_add ∈ wsL_law := List.mem_of_getElem? (i := 121) rfl
set_option maxRecDepth 20000 in
theorem wq_122 : Cond.code yX5_add cX5_add 2 none ∈ wsL_law := List.mem_of_getElem? (i := 122) rfl
set_option maxRecDepth 20000 in
theorem wq_123 : Cond.fieldLink RX5 15 "ProverbCollection$Sequence" "length" "I" ∈ wsL_law := List.mem_of_getElem? (i := 123) rfl
set_option maxRecDepth 20000 in
theorem wq_124 : Cond.methodLink RL 17 yX9_append ∈ wsL_law := List.mem_of_getElem? (i := 124) rfl
set_option maxRecDepth 20000 in
theorem wq_125 : Cond.instanceMethod yX9_append ∈ wsL_law := List.mem_of_getElem? (i := 125) rfl
set_option maxRecDepth 20000 in
theorem wq_126 : Cond.selects RX9 yX9_append yX9_append ∈ wsL_law := List.mem_of_getElem? (i := 126) rfl
set_option maxRecDepth 20000 in
theorem wq_127 : Cond.code yX9_append cX9_append 2 (some .int) ∈ wsL_law := List.mem_of_getElem? (i := 127) rfl
set_option maxRecDepth 20000 in
theorem wq_128 : Cond.constantLong RX9 54 (64) ∈ wsL_law := List.mem_of_getElem? (i := 128) rfl
set_option maxRecDepth 20000 in
theorem wq_129 : Cond.fieldLink RX9 56 "ProverbCollectionModel" "tokens" "I" ∈ wsL_law := List.mem_of_getElem? (i := 129) rfl
set_option maxRecDepth 20000 in
theorem wq_130 : Cond.methodLink RX9 50 yX9_in ∈ wsL_law := List.mem_of_getElem? (i := 130) rfl
set_option maxRecDepth 20000 in
theorem wq_131 : Cond.static yX9_in ∈ wsL_law := List.mem_of_getElem? (i := 131) rfl
set_option maxRecDepth 20000 in
theorem wq_132 : Cond.code yX9_in cX9_in 6 (some .boolean) ∈ wsL_law := List.mem_of_getElem? (i := 132) rfl
set_option maxRecDepth 20000 in
theorem wq_133 : Cond.methodLink RL 18 yX8_clear ∈ wsL_law := List.mem_of_getElem? (i := 133) rfl
set_option maxRecDepth 20000 in
theorem wq_134 : Cond.instanceMethod yX8_clear ∈ wsL_law := List.mem_of_getElem? (i := 134) rfl
set_option maxRecDepth 20000 in
theorem wq_135 : Cond.selects RX8 yX8_clear yX8_clear ∈ wsL_law := List.mem_of_getElem? (i := 135) rfl
set_option maxRecDepth 20000 in
theorem wq_136 : Cond.code yX8_clear cX8_clear 2 (some .int) ∈ wsL_law := List.mem_of_getElem? (i := 136) rfl
set_option maxRecDepth 20000 in
theorem wq_137 : Cond.methodLink RL 22 yX9_clear ∈ wsL_law := List.mem_of_getElem? (i := 137) rfl
set_option maxRecDepth 20000 in
theorem wq_138 : Cond.instanceMethod yX9_clear ∈ wsL_law := List.mem_of_getElem? (i := 138) rfl
set_option maxRecDepth 20000 in
theorem wq_139 : Cond.selects RX9 yX9_clear yX9_clear ∈ wsL_law := List.mem_of_getElem? (i := 139) rfl
set_option maxRecDepth 20000 in
theorem wq_140 : Cond.code yX9_clear cX9_clear 2 (some .int) ∈ wsL_law := List.mem_of_getElem? (i := 140) rfl
set_option maxRecDepth 20000 in
theorem wq_141 : Cond.methodLink RL 23 yX8_addSaying ∈ wsL_law := List.mem_of_getElem? (i := 141) rfl
set_option maxRecDepth 20000 in
theorem wq_142 : Cond.instanceMethod yX8_addSaying ∈ wsL_law := List.mem_of_getElem? (i := 142) rfl
set_option maxRecDepth 20000 in
theorem wq_143 : Cond.selects RX8 yX8_addSaying yX8_addSaying ∈ wsL_law := List.mem_of_getElem? (i := 143) rfl
set_option maxRecDepth 20000 in
theorem wq_144 : Cond.code yX8_addSaying cX8_addSaying 4 (some .int) ∈ wsL_law := List.mem_of_getElem? (i := 144) rfl
set_option maxRecDepth 20000 in
theorem wq_145 : Cond.instanceMethod yX5_wordCount ∈ wsL_law := List.mem_of_getElem? (i := 145) rfl
set_option maxRecDepth 20000 in
theorem wq_146 : Cond.selects RX5 yX5_wordCount yX5_wordCount ∈ wsL_law := List.mem_of_getElem? (i := 146) rfl
set_option maxRecDepth 20000 in
theorem wq_147 : Cond.code yX5_wordCount cX5_wordCount 3 (some .int) ∈ wsL_law := List.mem_of_getElem? (i := 147) rfl
set_option maxRecDepth 20000 in
theorem wq_148 : Cond.instanceMethod yX6_isFull ∈ wsL_law := List.mem_of_getElem? (i := 148) rfl
set_option maxRecDepth 20000 in
theorem wq_149 : Cond.selects RX6 yX6_isFull yX6_isFull ∈ wsL_law := List.mem_of_getElem? (i := 149) rfl
set_option maxRecDepth 20000 in
theorem wq_150 : Cond.code yX6_isFull cX6_isFull 1 (some .boolean) ∈ wsL_law := List.mem_of_getElem? (i := 150) rfl
set_option maxRecDepth 20000 in
theorem wq_151 : Cond.fieldLink RX6 22 "ProverbCollection$Shelf" "count" "I" ∈ wsL_law := List.mem_of_getElem? (i := 151) rfl
set_option maxRecDepth 20000 in
theorem wq_152 : Cond.instanceMethod yX3_keep ∈ wsL_law := List.mem_of_getElem? (i := 152) rfl
set_option maxRecDepth 20000 in
theorem wq_153 : Cond.selects RX3 yX3_keep yX3_keep ∈ wsL_law := List.mem_of_getElem? (i := 153) rfl
set_option maxRecDepth 20000 in
theorem wq_154 : Cond.code yX3_keep cX3_keep 2 none ∈ wsL_law := List.mem_of_getElem? (i := 154) rfl
set_option maxRecDepth 20000 in
theorem wq_155 : Cond.fieldLink RX3 18 "ProverbCollection$History" "next" "I" ∈ wsL_law := List.mem_of_getElem? (i := 155) rfl
set_option maxRecDepth 20000 in
theorem wq_156 : Cond.fieldLink RX3 26 "ProverbCollection$History" "count" "I" ∈ wsL_law := List.mem_of_getElem? (i := 156) rfl
set_option maxRecDepth 20000 in
theorem wq_157 : Cond.methodLink RX3 29 Lib.Math.min.name ∈ wsL_law := List.mem_of_getElem? (i := 157) rfl
set_option maxRecDepth 20000 in
theorem wq_158 : Cond.static Lib.Math.min.name ∈ wsL_law := List.mem_of_getElem? (i := 158) rfl
set_option maxRecDepth 20000 in
theorem wq_159 : Cond.initialized "java/lang/Math" ∈ wsL_law := List.mem_of_getElem? (i := 159) rfl
set_option maxRecDepth 20000 in
theorem wq_160 : Cond.code Lib.Math.min.name Lib.Math.min.code 2 (some .int) ∈ wsL_law := List.mem_of_getElem? (i := 160) rfl
set_option maxRecDepth 20000 in
theorem wq_161 : Cond.instanceMethod yX7_copyFrom ∈ wsL_law := List.mem_of_getElem? (i := 161) rfl
set_option maxRecDepth 20000 in
theorem wq_162 : Cond.selects RX7 yX7_copyFrom yX7_copyFrom ∈ wsL_law := List.mem_of_getElem? (i := 162) rfl
set_option maxRecDepth 20000 in
theorem wq_163 : Cond.code yX7_copyFrom cX7_copyFrom 2 none ∈ wsL_law := List.mem_of_getElem? (i := 163) rfl
set_option maxRecDepth 20000 in
theorem wq_164 : Cond.instanceMethod yX6_copyFrom ∈ wsL_law := List.mem_of_getElem? (i := 164) rfl
set_option maxRecDepth 20000 in
theorem wq_165 : Cond.selects RX6 yX6_copyFrom yX6_copyFrom ∈ wsL_law := List.mem_of_getElem? (i := 165) rfl
set_option maxRecDepth 20000 in
theorem wq_166 : Cond.code yX6_copyFrom cX6_copyFrom 2 none ∈ wsL_law := List.mem_of_getElem? (i := 166) rfl
set_option maxRecDepth 20000 in
theorem wq_167 : Cond.static yX8_copyAll ∈ wsL_law := List.mem_of_getElem? (i := 167) rfl
set_option maxRecDepth 20000 in
theorem wq_168 : Cond.code yX8_copyAll cX8_copyAll 2 none ∈ wsL_law := List.mem_of_getElem? (i := 168) rfl
set_option maxRecDepth 20000 in
theorem wq_169 : Cond.methodLink RX8 200 Lib.Math.min.name ∈ wsL_law := List.mem_of_getElem? (i := 169) rfl
set_option maxRecDepth 20000 in
theorem wq_170 : Cond.methodLink RX8 203 arraycopyName ∈ wsL_law := List.mem_of_getElem? (i := 170) rfl
set_option maxRecDepth 20000 in
theorem wq_171 : Cond.native arraycopyName ∈ wsL_law := List.mem_of_getElem? (i := 171) rfl
set_option maxRecDepth 20000 in
theorem wq_172 : Cond.static arraycopyName ∈ wsL_law := List.mem_of_getElem? (i := 172) rfl
set_option maxRecDepth 20000 in
theorem wq_173 : Cond.initialized "java/lang/System" ∈ wsL_law := List.mem_of_getElem? (i := 173) rfl
set_option maxRecDepth 20000 in
theorem wq_174 : Cond.instanceMethod yX7_takeSaying ∈ wsL_law := List.mem_of_getElem? (i := 174) rfl
set_option maxRecDepth 20000 in
theorem wq_175 : Cond.selects RX7 yX7_takeSaying yX7_takeSaying ∈ wsL_law := List.mem_of_getElem? (i := 175) rfl
set_option maxRecDepth 20000 in
theorem wq_176 : Cond.code yX7_takeSaying cX7_takeSaying 5 (some .int) ∈ wsL_law := List.mem_of_getElem? (i := 176) rfl
set_option maxRecDepth 20000 in
theorem wq_177 : Cond.instanceMethod yX6_add ∈ wsL_law := List.mem_of_getElem? (i := 177) rfl
set_option maxRecDepth 20000 in
theorem wq_178 : Cond.selects RX6 yX6_add yX6_add ∈ wsL_law := List.mem_of_getElem? (i := 178) rfl
set_option maxRecDepth 20000 in
theorem wq_179 : Cond.code yX6_add cX6_add 4 (some .int) ∈ wsL_law := List.mem_of_getElem? (i := 179) rfl
set_option maxRecDepth 20000 in
theorem wq_180 : Cond.methodLink RX6 33 yX6_isFull ∈ wsL_law := List.mem_of_getElem? (i := 180) rfl
set_option maxRecDepth 20000 in
theorem wq_181 : Cond.instanceMethod yX5_at ∈ wsL_law := List.mem_of_getElem? (i := 181) rfl
set_option maxRecDepth 20000 in
theorem wq_182 : Cond.selects RX5 yX5_at yX5_at ∈ wsL_law := List.mem_of_getElem? (i := 182) rfl
set_option maxRecDepth 20000 in
theorem wq_183 : Cond.code yX5_at cX5_at 2 (some .int) ∈ wsL_law := List.mem_of_getElem? (i := 183) rfl
set_option maxRecDepth 20000 in
theorem wq_184 : Cond.instanceMethod yX6_has ∈ wsL_law := List.mem_of_getElem? (i := 184) rfl
set_option maxRecDepth 20000 in
theorem wq_185 : Cond.selects RX6 yX6_has yX6_has ∈ wsL_law := List.mem_of_getElem? (i := 185) rfl
set_option maxRecDepth 20000 in
theorem wq_186 : Cond.code yX6_has cX6_has 2 (some .boolean) ∈ wsL_law := List.mem_of_getElem? (i := 186) rfl
set_option maxRecDepth 20000 in
theorem wq_187 : Cond.methodLink RL 27 yX9_addSaying ∈ wsL_law := List.mem_of_getElem? (i := 187) rfl
set_option maxRecDepth 20000 in
theorem wq_188 : Cond.instanceMethod yX9_addSaying ∈ wsL_law := List.mem_of_getElem? (i := 188) rfl
set_option maxRecDepth 20000 in
theorem wq_189 : Cond.selects RX9 yX9_addSaying yX9_addSaying ∈ wsL_law := List.mem_of_getElem? (i := 189) rfl
set_option maxRecDepth 20000 in
theorem wq_190 : Cond.code yX9_addSaying cX9_addSaying 6 (some .int) ∈ wsL_law := List.mem_of_getElem? (i := 190) rfl
set_option maxRecDepth 20000 in
theorem wq_191 : Cond.constantLong RX9 59 (-3000) ∈ wsL_law := List.mem_of_getElem? (i := 191) rfl
set_option maxRecDepth 20000 in
theorem wq_192 : Cond.constantLong RX9 61 (2100) ∈ wsL_law := List.mem_of_getElem? (i := 192) rfl
set_option maxRecDepth 20000 in
theorem wq_193 : Cond.constantLong RX9 63 (9) ∈ wsL_law := List.mem_of_getElem? (i := 193) rfl
set_option maxRecDepth 20000 in
theorem wq_194 : Cond.methodLink RX9 65 yX9_keeps ∈ wsL_law := List.mem_of_getElem? (i := 194) rfl
set_option maxRecDepth 20000 in
theorem wq_195 : Cond.instanceMethod yX9_keeps ∈ wsL_law := List.mem_of_getElem? (i := 195) rfl
set_option maxRecDepth 20000 in
theorem wq_196 : Cond.selects RX9 yX9_keeps yX9_keeps ∈ wsL_law := List.mem_of_getElem? (i := 196) rfl
set_option maxRecDepth 20000 in
theorem wq_197 : Cond.code yX9_keeps cX9_keeps 2 none ∈ wsL_law := List.mem_of_getElem? (i := 197) rfl
set_option maxRecDepth 20000 in
theorem wq_198 : Cond.fieldLink RX9 46 "ProverbCollectionModel" "undoMany" "I" ∈ wsL_law := List.mem_of_getElem? (i := 198) rfl
set_option maxRecDepth 20000 in
theorem wq_199 : Cond.methodLink RL 28 yX8_removeSaying ∈ wsL_law := List.mem_of_getElem? (i := 199) rfl
set_option maxRecDepth 20000 in
theorem wq_200 : Cond.instanceMethod yX8_removeSaying ∈ wsL_law := List.mem_of_getElem? (i := 200) rfl
set_option maxRecDepth 20000 in
theorem wq_201 : Cond.selects RX8 yX8_removeSaying yX8_removeSaying ∈ wsL_law := List.mem_of_getElem? (i := 201) rfl
set_option maxRecDepth 20000 in
theorem wq_202 : Cond.code yX8_removeSaying cX8_removeSaying 2 (some .int) ∈ wsL_law := List.mem_of_getElem? (i := 202) rfl
set_option maxRecDepth 20000 in
theorem wq_203 : Cond.instanceMethod yX7_dropSaying ∈ wsL_law := List.mem_of_getElem? (i := 203) rfl
set_option maxRecDepth 20000 in
theorem wq_204 : Cond.selects RX7 yX7_dropSaying yX7_dropSaying ∈ wsL_law := List.mem_of_getElem? (i := 204) rfl
set_option maxRecDepth 20000 in
theorem wq_205 : Cond.code yX7_dropSaying cX7_dropSaying 2 none ∈ wsL_law := List.mem_of_getElem? (i := 205) rfl
set_option maxRecDepth 20000 in
theorem wq_206 : Cond.instanceMethod yX6_drop ∈ wsL_law := List.mem_of_getElem? (i := 206) rfl
set_option maxRecDepth 20000 in
theorem wq_207 : Cond.selects RX6 yX6_drop yX6_drop ∈ wsL_law := List.mem_of_getElem? (i := 207) rfl
set_option maxRecDepth 20000 in
theorem wq_208 : Cond.code yX6_drop cX6_drop 2 none ∈ wsL_law := List.mem_of_getElem? (i := 208) rfl
set_option maxRecDepth 20000 in
theorem wq_209 : Cond.methodLink RX6 25 yX6_has ∈ wsL_law := List.mem_of_getElem? (i := 209) rfl
set_option maxRecDepth 20000 in
theorem wq_210 : Cond.static yX8_closeUp ∈ wsL_law := List.mem_of_getElem? (i := 210) rfl
set_option maxRecDepth 20000 in
theorem wq_211 : Cond.code yX8_closeUp cX8_closeUp 4 none ∈ wsL_law := List.mem_of_getElem? (i := 211) rfl
set_option maxRecDepth 20000 in
theorem wq_212 : Cond.methodLink RL 31 yX9_removeSaying ∈ wsL_law := List.mem_of_getElem? (i := 212) rfl
set_option maxRecDepth 20000 in
theorem wq_213 : Cond.instanceMethod yX9_removeSaying ∈ wsL_law := List.mem_of_getElem? (i := 213) rfl
set_option maxRecDepth 20000 in
theorem wq_214 : Cond.selects RX9 yX9_removeSaying yX9_removeSaying ∈ wsL_law := List.mem_of_getElem? (i := 214) rfl
set_option maxRecDepth 20000 in
theorem wq_215 : Cond.code yX9_removeSaying cX9_removeSaying 4 (some .int) ∈ wsL_law := List.mem_of_getElem? (i := 215) rfl
set_option maxRecDepth 20000 in
theorem wq_216 : Cond.methodLink RX9 68 yX9_isSaying ∈ wsL_law := List.mem_of_getElem? (i := 216) rfl
set_option maxRecDepth 20000 in
theorem wq_217 : Cond.instanceMethod yX9_isSaying ∈ wsL_law := List.mem_of_getElem? (i := 217) rfl
set_option maxRecDepth 20000 in
theorem wq_218 : Cond.selects RX9 yX9_isSaying yX9_isSaying ∈ wsL_law := List.mem_of_getElem? (i := 218) rfl
set_option maxRecDepth 20000 in
theorem wq_219 : Cond.code yX9_isSaying cX9_isSaying 2 (some .boolean) ∈ wsL_law := List.mem_of_getElem? (i := 219) rfl
set_option maxRecDepth 20000 in
theorem wq_220 : Cond.methodLink RL 32 yX8_sayingCount ∈ wsL_law := List.mem_of_getElem? (i := 220) rfl
set_option maxRecDepth 20000 in
theorem wq_221 : Cond.instanceMethod yX8_sayingCount ∈ wsL_law := List.mem_of_getElem? (i := 221) rfl
set_option maxRecDepth 20000 in
theorem wq_222 : Cond.selects RX8 yX8_sayingCount yX8_sayingCount ∈ wsL_law := List.mem_of_getElem? (i := 222) rfl
set_option maxRecDepth 20000 in
theorem wq_223 : Cond.code yX8_sayingCount cX8_sayingCount 1 (some .int) ∈ wsL_law := List.mem_of_getElem? (i := 223) rfl
set_option maxRecDepth 20000 in
theorem wq_224 : Cond.methodLink RL 35 yX9_sayingCount ∈ wsL_law := List.mem_of_getElem? (i := 224) rfl
set_option maxRecDepth 20000 in
theorem wq_225 : Cond.instanceMethod yX9_sayingCount ∈ wsL_law := List.mem_of_getElem? (i := 225) rfl
set_option maxRecDepth 20000 in
theorem wq_226 : Cond.selects RX9 yX9_sayingCount yX9_sayingCount ∈ wsL_law := List.mem_of_getElem? (i := 226) rfl
set_option maxRecDepth 20000 in
theorem wq_227 : Cond.code yX9_sayingCount cX9_sayingCount 1 (some .int) ∈ wsL_law := List.mem_of_getElem? (i := 227) rfl
set_option maxRecDepth 20000 in
theorem wq_228 : Cond.methodLink RL 36 yX8_lengthOf ∈ wsL_law := List.mem_of_getElem? (i := 228) rfl
set_option maxRecDepth 20000 in
theorem wq_229 : Cond.instanceMethod yX8_lengthOf ∈ wsL_law := List.mem_of_getElem? (i := 229) rfl
set_option maxRecDepth 20000 in
theorem wq_230 : Cond.selects RX8 yX8_lengthOf yX8_lengthOf ∈ wsL_law := List.mem_of_getElem? (i := 230) rfl
set_option maxRecDepth 20000 in
theorem wq_231 : Cond.code yX8_lengthOf cX8_lengthOf 2 (some .int) ∈ wsL_law := List.mem_of_getElem? (i := 231) rfl
set_option maxRecDepth 20000 in
theorem wq_232 : Cond.instanceMethod yX6_size ∈ wsL_law := List.mem_of_getElem? (i := 232) rfl
set_option maxRecDepth 20000 in
theorem wq_233 : Cond.selects RX6 yX6_size yX6_size ∈ wsL_law := List.mem_of_getElem? (i := 233) rfl
set_option maxRecDepth 20000 in
theorem wq_234 : Cond.code yX6_size cX6_size 2 (some .int) ∈ wsL_law := List.mem_of_getElem? (i := 234) rfl
set_option maxRecDepth 20000 in
theorem wq_235 : Cond.methodLink RL 39 yX9_lengthOf ∈ wsL_law := List.mem_of_getElem? (i := 235) rfl
set_option maxRecDepth 20000 in
theorem wq_236 : Cond.instanceMethod yX9_lengthOf ∈ wsL_law := List.mem_of_getElem? (i := 236) rfl
set_option maxRecDepth 20000 in
theorem wq_237 : Cond.selects RX9 yX9_lengthOf yX9_lengthOf ∈ wsL_law := List.mem_of_getElem? (i := 237) rfl
set_option maxRecDepth 20000 in
theorem wq_238 : Cond.code yX9_lengthOf cX9_lengthOf 2 (some .int) ∈ wsL_law := List.mem_of_getElem? (i := 238) rfl
set_option maxRecDepth 20000 in
theorem wq_239 : Cond.methodLink RL 40 yX8_wordAt ∈ wsL_law := List.mem_of_getElem? (i := 239) rfl
set_option maxRecDepth 20000 in
theorem wq_240 : Cond.instanceMethod yX8_wordAt ∈ wsL_law := List.mem_of_getElem? (i := 240) rfl
set_option maxRecDepth 20000 in
theorem wq_241 : Cond.selects RX8 yX8_wordAt yX8_wordAt ∈ wsL_law := List.mem_of_getElem? (i := 241) rfl
set_option maxRecDepth 20000 in
theorem wq_242 : Cond.code yX8_wordAt cX8_wordAt 3 (some .int) ∈ wsL_law := List.mem_of_getElem? (i := 242) rfl
set_option maxRecDepth 20000 in
theorem wq_243 : Cond.instanceMethod yX6_token ∈ wsL_law := List.mem_of_getElem? (i := 243) rfl
set_option maxRecDepth 20000 in
theorem wq_244 : Cond.selects RX6 yX6_token yX6_token ∈ wsL_law := List.mem_of_getElem? (i := 244) rfl
set_option maxRecDepth 20000 in
theorem wq_245 : Cond.code yX6_token cX6_token 3 (some .int) ∈ wsL_law := List.mem_of_getElem? (i := 245) rfl
set_option maxRecDepth 20000 in
theorem wq_246 : Cond.methodLink RX6 29 yX6_size ∈ wsL_law := List.mem_of_getElem? (i := 246) rfl
set_option maxRecDepth 20000 in
theorem wq_247 : Cond.methodLink RL 43 yX9_wordAt ∈ wsL_law := List.mem_of_getElem? (i := 247) rfl
set_option maxRecDepth 20000 in
theorem wq_248 : Cond.instanceMethod yX9_wordAt ∈ wsL_law := List.mem_of_getElem? (i := 248) rfl
set_option maxRecDepth 20000 in
theorem wq_249 : Cond.selects RX9 yX9_wordAt yX9_wordAt ∈ wsL_law := List.mem_of_getElem? (i := 249) rfl
set_option maxRecDepth 20000 in
theorem wq_250 : Cond.code yX9_wordAt cX9_wordAt 3 (some .int) ∈ wsL_law := List.mem_of_getElem? (i := 250) rfl
set_option maxRecDepth 20000 in
theorem wq_251 : Cond.methodLink RL 44 yX8_byAge ∈ wsL_law := List.mem_of_getElem? (i := 251) rfl
set_option maxRecDepth 20000 in
theorem wq_252 : Cond.instanceMethod yX8_byAge ∈ wsL_law := List.mem_of_getElem? (i := 252) rfl
set_option maxRecDepth 20000 in
theorem wq_253 : Cond.selects RX8 yX8_byAge yX8_byAge ∈ wsL_law := List.mem_of_getElem? (i := 253) rfl
set_option maxRecDepth 20000 in
theorem wq_254 : Cond.code yX8_byAge cX8_byAge 2 (some .int) ∈ wsL_law := List.mem_of_getElem? (i := 254) rfl
set_option maxRecDepth 20000 in
theorem wq_255 : Cond.instanceMethod yX7_sortByAge ∈ wsL_law := List.mem_of_getElem? (i := 255) rfl
set_option maxRecDepth 20000 in
theorem wq_256 : Cond.selects RX7 yX7_sortByAge yX7_sortByAge ∈ wsL_law := List.mem_of_getElem? (i := 256) rfl
set_option maxRecDepth 20000 in
theorem wq_257 : Cond.code yX7_sortByAge cX7_sortByAge 3 none ∈ wsL_law := List.mem_of_getElem? (i := 257) rfl
set_option maxRecDepth 20000 in
theorem wq_258 : Cond.methodLink RX7 67 yX7_place ∈ wsL_law := List.mem_of_getElem? (i := 258) rfl
set_option maxRecDepth 20000 in
theorem wq_259 : Cond.instanceMethod yX7_place ∈ wsL_law := List.mem_of_getElem? (i := 259) rfl
set_option maxRecDepth 20000 in
theorem wq_260 : Cond.selects RX7 yX7_place yX7_place ∈ wsL_law := List.mem_of_getElem? (i := 260) rfl
set_option maxRecDepth 20000 in
theorem wq_261 : Cond.code yX7_place cX7_place 4 (some .int) ∈ wsL_law := List.mem_of_getElem? (i := 261) rfl
set_option maxRecDepth 20000 in
theorem wq_262 : Cond.methodLink RX7 63 yX7_isOlder ∈ wsL_law := List.mem_of_getElem? (i := 262) rfl
set_option maxRecDepth 20000 in
theorem wq_263 : Cond.instanceMethod yX7_isOlder ∈ wsL_law := List.mem_of_getElem? (i := 263) rfl
set_option maxRecDepth 20000 in
theorem wq_264 : Cond.selects RX7 yX7_isOlder yX7_isOlder ∈ wsL_law := List.mem_of_getElem? (i := 264) rfl
set_option maxRecDepth 20000 in
theorem wq_265 : Cond.code yX7_isOlder cX7_isOlder 3 (some .boolean) ∈ wsL_law := List.mem_of_getElem? (i := 265) rfl
set_option maxRecDepth 20000 in
theorem wq_266 : Cond.methodLink RL 47 yX9_byAge ∈ wsL_law := List.mem_of_getElem? (i := 266) rfl
set_option maxRecDepth 20000 in
theorem wq_267 : Cond.instanceMethod yX9_byAge ∈ wsL_law := List.mem_of_getElem? (i := 267) rfl
set_option maxRecDepth 20000 in
theorem wq_268 : Cond.selects RX9 yX9_byAge yX9_byAge ∈ wsL_law := List.mem_of_getElem? (i := 268) rfl
set_option maxRecDepth 20000 in
theorem wq_269 : Cond.code yX9_byAge cX9_byAge 2 (some .int) ∈ wsL_law := List.mem_of_getElem? (i := 269) rfl
set_option maxRecDepth 20000 in
theorem wq_270 : Cond.methodLink RX9 76 yX9_atAge ∈ wsL_law := List.mem_of_getElem? (i := 270) rfl
set_option maxRecDepth 20000 in
theorem wq_271 : Cond.instanceMethod yX9_atAge ∈ wsL_law := List.mem_of_getElem? (i := 271) rfl
set_option maxRecDepth 20000 in
theorem wq_272 : Cond.selects RX9 yX9_atAge yX9_atAge ∈ wsL_law := List.mem_of_getElem? (i := 272) rfl
set_option maxRecDepth 20000 in
theorem wq_273 : Cond.code yX9_atAge cX9_atAge 5 (some .int) ∈ wsL_law := List.mem_of_getElem? (i := 273) rfl
set_option maxRecDepth 20000 in
theorem wq_274 : Cond.methodLink RX9 72 yX9_isOlder ∈ wsL_law := List.mem_of_getElem? (i := 274) rfl
set_option maxRecDepth 20000 in
theorem wq_275 : Cond.instanceMethod yX9_isOlder ∈ wsL_law := List.mem_of_getElem? (i := 275) rfl
set_option maxRecDepth 20000 in
theorem wq_276 : Cond.selects RX9 yX9_isOlder yX9_isOlder ∈ wsL_law := List.mem_of_getElem? (i := 276) rfl
set_option maxRecDepth 20000 in
theorem wq_277 : Cond.code yX9_isOlder cX9_isOlder 3 (some .boolean) ∈ wsL_law := List.mem_of_getElem? (i := 277) rfl
set_option maxRecDepth 20000 in
theorem wq_278 : Cond.methodLink RL 48 yX8_setCost ∈ wsL_law := List.mem_of_getElem? (i := 278) rfl
set_option maxRecDepth 20000 in
theorem wq_279 : Cond.instanceMethod yX8_setCost ∈ wsL_law := List.mem_of_getElem? (i := 279) rfl
set_option maxRecDepth 20000 in
theorem wq_280 : Cond.selects RX8 yX8_setCost yX8_setCost ∈ wsL_law := List.mem_of_getElem? (i := 280) rfl
set_option maxRecDepth 20000 in
theorem wq_281 : Cond.code yX8_setCost cX8_setCost 4 (some .int) ∈ wsL_law := List.mem_of_getElem? (i := 281) rfl
set_option maxRecDepth 20000 in
theorem wq_282 : Cond.methodLink RL 51 yX9_setCost ∈ wsL_law := List.mem_of_getElem? (i := 282) rfl
set_option maxRecDepth 20000 in
theorem wq_283 : Cond.instanceMethod yX9_setCost ∈ wsL_law := List.mem_of_getElem? (i := 283) rfl
set_option maxRecDepth 20000 in
theorem wq_284 : Cond.selects RX9 yX9_setCost yX9_setCost ∈ wsL_law := List.mem_of_getElem? (i := 284) rfl
set_option maxRecDepth 20000 in
theorem wq_285 : Cond.code yX9_setCost cX9_setCost 4 (some .int) ∈ wsL_law := List.mem_of_getElem? (i := 285) rfl
set_option maxRecDepth 20000 in
theorem wq_286 : Cond.constantLong RX9 112 (3) ∈ wsL_law := List.mem_of_getElem? (i := 286) rfl
set_option maxRecDepth 20000 in
theorem wq_287 : Cond.methodLink RL 52 yX8_distance ∈ wsL_law := List.mem_of_getElem? (i := 287) rfl
set_option maxRecDepth 20000 in
theorem wq_288 : Cond.instanceMethod yX8_distance ∈ wsL_law := List.mem_of_getElem? (i := 288) rfl
set_option maxRecDepth 20000 in
theorem wq_289 : Cond.selects RX8 yX8_distance yX8_distance ∈ wsL_law := List.mem_of_getElem? (i := 289) rfl
set_option maxRecDepth 20000 in
theorem wq_290 : Cond.code yX8_distance cX8_distance 3 (some .int) ∈ wsL_law := List.mem_of_getElem? (i := 290) rfl
set_option maxRecDepth 20000 in
theorem wq_291 : Cond.methodLink RX8 117 yX8_hasBoth ∈ wsL_law := List.mem_of_getElem? (i := 291) rfl
set_option maxRecDepth 20000 in
theorem wq_292 : Cond.instanceMethod yX8_hasBoth ∈ wsL_law := List.mem_of_getElem? (i := 292) rfl
set_option maxRecDepth 20000 in
theorem wq_293 : Cond.selects RX8 yX8_hasBoth yX8_hasBoth ∈ wsL_law := List.mem_of_getElem? (i := 293) rfl
set_option maxRecDepth 20000 in
theorem wq_294 : Cond.code yX8_hasBoth cX8_hasBoth 3 (some .boolean) ∈ wsL_law := List.mem_of_getElem? (i := 294) rfl
set_option maxRecDepth 20000 in
theorem wq_295 : Cond.instanceMethod yX1_between ∈ wsL_law := List.mem_of_getElem? (i := 295) rfl
set_option maxRecDepth 20000 in
theorem wq_296 : Cond.selects RX1 yX1_between yX1_between ∈ wsL_law := List.mem_of_getElem? (i := 296) rfl
set_option maxRecDepth 20000 in
theorem wq_297 : Cond.code yX1_between cX1_between 4 (some .int) ∈ wsL_law := List.mem_of_getElem? (i := 297) rfl
set_option maxRecDepth 20000 in
theorem wq_298 : Cond.instanceMethod yX6_load ∈ wsL_law := List.mem_of_getElem? (i := 298) rfl
set_option maxRecDepth 20000 in
theorem wq_299 : Cond.selects RX6 yX6_load yX6_load ∈ wsL_law := List.mem_of_getElem? (i := 299) rfl
set_option maxRecDepth 20000 in
theorem wq_300 : Cond.code yX6_load cX6_load 4 none ∈ wsL_law := List.mem_of_getElem? (i := 300) rfl
set_option maxRecDepth 20000 in
theorem wq_301 : Cond.methodLink RX6 49 yX6_token ∈ wsL_law := List.mem_of_getElem? (i := 301) rfl
set_option maxRecDepth 20000 in
theorem wq_302 : Cond.methodLink RX1 45 yX1_measure ∈ wsL_law := List.mem_of_getElem? (i := 302) rfl
set_option maxRecDepth 20000 in
theorem wq_303 : Cond.instanceMethod yX1_measure ∈ wsL_law := List.mem_of_getElem? (i := 303) rfl
set_option maxRecDepth 20000 in
theorem wq_304 : Cond.selects RX1 yX1_measure yX1_measure ∈ wsL_law := List.mem_of_getElem? (i := 304) rfl
set_option maxRecDepth 20000 in
theorem wq_305 : Cond.code yX1_measure cX1_measure 6 (some .int) ∈ wsL_law := List.mem_of_getElem? (i := 305) rfl
set_option maxRecDepth 20000 in
theorem wq_306 : Cond.constant RX1 53 (1000000) ∈ wsL_law := List.mem_of_getElem? (i := 306) rfl
set_option maxRecDepth 20000 in
theorem wq_307 : Cond.methodLink RX1 58 Lib.Math.min.name ∈ wsL_law := List.mem_of_getElem? (i := 307) rfl
set_option maxRecDepth 20000 in
theorem wq_308 : Cond.methodLink RX1 54 yX1_by ∈ wsL_law := List.mem_of_getElem? (i := 308) rfl
set_option maxRecDepth 20000 in
theorem wq_309 : Cond.instanceMethod yX1_by ∈ wsL_law := List.mem_of_getElem? (i := 309) rfl
set_option maxRecDepth 20000 in
theorem wq_310 : Cond.selects RX1 yX1_by yX1_by ∈ wsL_law := List.mem_of_getElem? (i := 310) rfl
set_option maxRecDepth 20000 in
theorem wq_311 : Cond.code yX1_by cX1_by 5 (some .int) ∈ wsL_law := List.mem_of_getElem? (i := 311) rfl
set_option maxRecDepth 20000 in
theorem wq_312 : Cond.methodLink RX1 64 yX1_replacing ∈ wsL_law := List.mem_of_getElem? (i := 312) rfl
set_option maxRecDepth 20000 in
theorem wq_313 : Cond.instanceMethod yX1_replacing ∈ wsL_law := List.mem_of_getElem? (i := 313) rfl
set_option maxRecDepth 20000 in
theorem wq_314 : Cond.selects RX1 yX1_replacing yX1_replacing ∈ wsL_law := List.mem_of_getElem? (i := 314) rfl
set_option maxRecDepth 20000 in
theorem wq_315 : Cond.code yX1_replacing cX1_replacing 7 (some .int) ∈ wsL_law := List.mem_of_getElem? (i := 315) rfl
set_option maxRecDepth 20000 in
theorem wq_316 : Cond.methodLink RX1 68 yX1_swaps ∈ wsL_law := List.mem_of_getElem? (i := 316) rfl
set_option maxRecDepth 20000 in
theorem wq_317 : Cond.instanceMethod yX1_swaps ∈ wsL_law := List.mem_of_getElem? (i := 317) rfl
set_option maxRecDepth 20000 in
theorem wq_318 : Cond.selects RX1 yX1_swaps yX1_swaps ∈ wsL_law := List.mem_of_getElem? (i := 318) rfl
set_option maxRecDepth 20000 in
theorem wq_319 : Cond.code yX1_swaps cX1_swaps 3 (some .boolean) ∈ wsL_law := List.mem_of_getElem? (i := 319) rfl
set_option maxRecDepth 20000 in
theorem wq_320 : Cond.methodLink RL 55 yX9_distance ∈ wsL_law := List.mem_of_getElem? (i := 320) rfl
set_option maxRecDepth 20000 in
theorem wq_321 : Cond.instanceMethod yX9_distance ∈ wsL_law := List.mem_of_getElem? (i := 321) rfl
set_option maxRecDepth 20000 in
theorem wq_322 : Cond.selects RX9 yX9_distance yX9_distance ∈ wsL_law := List.mem_of_getElem? (i := 322) rfl
set_option maxRecDepth 20000 in
theorem wq_323 : Cond.code yX9_distance cX9_distance 3 (some .int) ∈ wsL_law := List.mem_of_getElem? (i := 323) rfl
set_option maxRecDepth 20000 in
theorem wq_324 : Cond.methodLink RX9 114 yX9_distanceOf ∈ wsL_law := List.mem_of_getElem? (i := 324) rfl
set_option maxRecDepth 20000 in
theorem wq_325 : Cond.instanceMethod yX9_distanceOf ∈ wsL_law := List.mem_of_getElem? (i := 325) rfl
set_option maxRecDepth 20000 in
theorem wq_326 : Cond.selects RX9 yX9_distanceOf yX9_distanceOf ∈ wsL_law := List.mem_of_getElem? (i := 326) rfl
set_option maxRecDepth 20000 in
theorem wq_327 : Cond.code yX9_distanceOf cX9_distanceOf 3 (some .int) ∈ wsL_law := List.mem_of_getElem? (i := 327) rfl
set_option maxRecDepth 20000 in
theorem wq_328 : Cond.methodLink RX9 101 yX9_takesOne ∈ wsL_law := List.mem_of_getElem? (i := 328) rfl
set_option maxRecDepth 20000 in
theorem wq_329 : Cond.instanceMethod yX9_takesOne ∈ wsL_law := List.mem_of_getElem? (i := 329) rfl
set_option maxRecDepth 20000 in
theorem wq_330 : Cond.selects RX9 yX9_takesOne yX9_takesOne ∈ wsL_law := List.mem_of_getElem? (i := 330) rfl
set_option maxRecDepth 20000 in
theorem wq_331 : Cond.code yX9_takesOne cX9_takesOne 3 none ∈ wsL_law := List.mem_of_getElem? (i := 331) rfl
set_option maxRecDepth 20000 in
theorem wq_332 : Cond.fieldLink RX9 80 "ProverbCollectionModel" "oneLong" "I" ∈ wsL_law := List.mem_of_getElem? (i := 332) rfl
set_option maxRecDepth 20000 in
theorem wq_333 : Cond.methodLink RX9 105 yX9_takesOther ∈ wsL_law := List.mem_of_getElem? (i := 333) rfl
set_option maxRecDepth 20000 in
theorem wq_334 : Cond.instanceMethod yX9_takesOther ∈ wsL_law := List.mem_of_getElem? (i := 334) rfl
set_option maxRecDepth 20000 in
theorem wq_335 : Cond.selects RX9 yX9_takesOther yX9_takesOther ∈ wsL_law := List.mem_of_getElem? (i := 335) rfl
set_option maxRecDepth 20000 in
theorem wq_336 : Cond.code yX9_takesOther cX9_takesOther 3 none ∈ wsL_law := List.mem_of_getElem? (i := 336) rfl
set_option maxRecDepth 20000 in
theorem wq_337 : Cond.fieldLink RX9 83 "ProverbCollectionModel" "otherLong" "I" ∈ wsL_law := List.mem_of_getElem? (i := 337) rfl
set_option maxRecDepth 20000 in
theorem wq_338 : Cond.methodLink RX9 108 yX9_lays ∈ wsL_law := List.mem_of_getElem? (i := 338) rfl
set_option maxRecDepth 20000 in
theorem wq_339 : Cond.instanceMethod yX9_lays ∈ wsL_law := List.mem_of_getElem? (i := 339) rfl
set_option maxRecDepth 20000 in
theorem wq_340 : Cond.selects RX9 yX9_lays yX9_lays ∈ wsL_law := List.mem_of_getElem? (i := 340) rfl
set_option maxRecDepth 20000 in
theorem wq_341 : Cond.code yX9_lays cX9_lays 5 (some .int) ∈ wsL_law := List.mem_of_getElem? (i := 341) rfl
set_option maxRecDepth 20000 in
theorem wq_342 : Cond.methodLink RX9 93 yX9_isStep ∈ wsL_law := List.mem_of_getElem? (i := 342) rfl
set_option maxRecDepth 20000 in
theorem wq_343 : Cond.instanceMethod yX9_isStep ∈ wsL_law := List.mem_of_getElem? (i := 343) rfl
set_option maxRecDepth 20000 in
theorem wq_344 : Cond.selects RX9 yX9_isStep yX9_isStep ∈ wsL_law := List.mem_of_getElem? (i := 344) rfl
set_option maxRecDepth 20000 in
theorem wq_345 : Cond.code yX9_isStep cX9_isStep 4 (some .boolean) ∈ wsL_law := List.mem_of_getElem? (i := 345) rfl
set_option maxRecDepth 20000 in
theorem wq_346 : Cond.methodLink RX9 90 yX9_isCrossed ∈ wsL_law := List.mem_of_getElem? (i := 346) rfl
set_option maxRecDepth 20000 in
theorem wq_347 : Cond.instanceMethod yX9_isCrossed ∈ wsL_law := List.mem_of_getElem? (i := 347) rfl
set_option maxRecDepth 20000 in
theorem wq_348 : Cond.selects RX9 yX9_isCrossed yX9_isCrossed ∈ wsL_law := List.mem_of_getElem? (i := 348) rfl
set_option maxRecDepth 20000 in
theorem wq_349 : Cond.code yX9_isCrossed cX9_isCrossed 3 (some .boolean) ∈ wsL_law := List.mem_of_getElem? (i := 349) rfl
set_option maxRecDepth 20000 in
theorem wq_350 : Cond.methodLink RX9 97 yX9_by ∈ wsL_law := List.mem_of_getElem? (i := 350) rfl
set_option maxRecDepth 20000 in
theorem wq_351 : Cond.instanceMethod yX9_by ∈ wsL_law := List.mem_of_getElem? (i := 351) rfl
set_option maxRecDepth 20000 in
theorem wq_352 : Cond.selects RX9 yX9_by yX9_by ∈ wsL_law := List.mem_of_getElem? (i := 352) rfl
set_option maxRecDepth 20000 in
theorem wq_353 : Cond.code yX9_by cX9_by 4 (some .int) ∈ wsL_law := List.mem_of_getElem? (i := 353) rfl
set_option maxRecDepth 20000 in
theorem wq_354 : Cond.methodLink RX9 86 yX9_exchange ∈ wsL_law := List.mem_of_getElem? (i := 354) rfl
set_option maxRecDepth 20000 in
theorem wq_355 : Cond.instanceMethod yX9_exchange ∈ wsL_law := List.mem_of_getElem? (i := 355) rfl
set_option maxRecDepth 20000 in
theorem wq_356 : Cond.selects RX9 yX9_exchange yX9_exchange ∈ wsL_law := List.mem_of_getElem? (i := 356) rfl
set_option maxRecDepth 20000 in
theorem wq_357 : Cond.code yX9_exchange cX9_exchange 3 (some .int) ∈ wsL_law := List.mem_of_getElem? (i := 357) rfl
set_option maxRecDepth 20000 in
theorem wq_358 : Cond.methodLink RL 56 yX8_similarityBits ∈ wsL_law := List.mem_of_getElem? (i := 358) rfl
set_option maxRecDepth 20000 in
theorem wq_359 : Cond.instanceMethod yX8_similarityBits ∈ wsL_law := List.mem_of_getElem? (i := 359) rfl
set_option maxRecDepth 20000 in
theorem wq_360 : Cond.selects RX8 yX8_similarityBits yX8_similarityBits ∈ wsL_law := List.mem_of_getElem? (i := 360) rfl
set_option maxRecDepth 20000 in
theorem wq_361 : Cond.code yX8_similarityBits cX8_similarityBits 6 (some .int) ∈ wsL_law := List.mem_of_getElem? (i := 361) rfl
set_option maxRecDepth 20000 in
theorem wq_362 : Cond.methodLink RX8 125 Lib.Math.max.name ∈ wsL_law := List.mem_of_getElem? (i := 362) rfl
set_option maxRecDepth 20000 in
theorem wq_363 : Cond.static Lib.Math.max.name ∈ wsL_law := List.mem_of_getElem? (i := 363) rfl
set_option maxRecDepth 20000 in
theorem wq_364 : Cond.code Lib.Math.max.name Lib.Math.max.code 2 (some .int) ∈ wsL_law := List.mem_of_getElem? (i := 364) rfl
set_option maxRecDepth 20000 in
theorem wq_365 : Cond.methodLink RX8 130 yX8_bitsOf ∈ wsL_law := List.mem_of_getElem? (i := 365) rfl
set_option maxRecDepth 20000 in
theorem wq_366 : Cond.static yX8_bitsOf ∈ wsL_law := List.mem_of_getElem? (i := 366) rfl
set_option maxRecDepth 20000 in
theorem wq_367 : Cond.code yX8_bitsOf cX8_bitsOf 3 (some .int) ∈ wsL_law := List.mem_of_getElem? (i := 367) rfl
set_option maxRecDepth 20000 in
theorem wq_368 : Cond.constantFloat RX8 199 (1258291200) ∈ wsL_law := List.mem_of_getElem? (i := 368) rfl
set_option maxRecDepth 20000 in
theorem wq_369 : Cond.methodLink RL 59 yX9_similarityBits ∈ wsL_law := List.mem_of_getElem? (i := 369) rfl
set_option maxRecDepth 20000 in
theorem wq_370 : Cond.instanceMethod yX9_similarityBits ∈ wsL_law := List.mem_of_getElem? (i := 370) rfl
set_option maxRecDepth 20000 in
theorem wq_371 : Cond.selects RX9 yX9_similarityBits yX9_similarityBits ∈ wsL_law := List.mem_of_getElem? (i := 371) rfl
set_option maxRecDepth 20000 in
theorem wq_372 : Cond.code yX9_similarityBits cX9_similarityBits 4 (some .int) ∈ wsL_law := List.mem_of_getElem? (i := 372) rfl
set_option maxRecDepth 20000 in
theorem wq_373 : Cond.methodLink RX9 117 yJxf58ca_floatToIntBits_5c35a ∈ wsL_law := List.mem_of_getElem? (i := 373) rfl
set_option maxRecDepth 20000 in
theorem wq_374 : Cond.static yJxf58ca_floatToIntBits_5c35a ∈ wsL_law := List.mem_of_getElem? (i := 374) rfl
set_option maxRecDepth 20000 in
theorem wq_375 : Cond.initialized RJxf58ca ∈ wsL_law := List.mem_of_getElem? (i := 375) rfl
set_option maxRecDepth 20000 in
theorem wq_376 : Cond.code yJxf58ca_floatToIntBits_5c35a cJxf58ca_floatToIntBits_5c35a 1 (some .int) ∈ wsL_law := List.mem_of_getElem? (i := 376) rfl
set_option maxRecDepth 20000 in
theorem wq_377 : Cond.methodLink RJxf58ca 74 ⟨"java/lang/Float", "floatToRawIntBits", "(F)I"⟩ ∈ wsL_law := List.mem_of_getElem? (i := 377) rfl
set_option maxRecDepth 20000 in
theorem wq_378 : Cond.native ⟨"java/lang/Float", "floatToRawIntBits", "(F)I"⟩ ∈ wsL_law := List.mem_of_getElem? (i := 378) rfl
set_option maxRecDepth 20000 in
theorem wq_379 : Cond.static ⟨"java/lang/Float", "floatToRawIntBits", "(F)I"⟩ ∈ wsL_law := List.mem_of_getElem? (i := 379) rfl
set_option maxRecDepth 20000 in
theorem wq_380 : Cond.initialized "java/lang/Float" ∈ wsL_law := List.mem_of_getElem? (i := 380) rfl
set_option maxRecDepth 20000 in
theorem wq_381 : Cond.constant RJxf58ca 77 (2143289344) ∈ wsL_law := List.mem_of_getElem? (i := 381) rfl
set_option maxRecDepth 20000 in
theorem wq_382 : Cond.methodLink RJxf58ca 59 yJxf58ca_isNaN_12338 ∈ wsL_law := List.mem_of_getElem? (i := 382) rfl
set_option maxRecDepth 20000 in
theorem wq_383 : Cond.static yJxf58ca_isNaN_12338 ∈ wsL_law := List.mem_of_getElem? (i := 383) rfl
set_option maxRecDepth 20000 in
theorem wq_384 : Cond.code yJxf58ca_isNaN_12338 cJxf58ca_isNaN_12338 1 (some .boolean) ∈ wsL_law := List.mem_of_getElem? (i := 384) rfl
set_option maxRecDepth 20000 in
theorem wq_385 : Cond.methodLink RL 60 yX8_editCount ∈ wsL_law := List.mem_of_getElem? (i := 385) rfl
set_option maxRecDepth 20000 in
theorem wq_386 : Cond.instanceMethod yX8_editCount ∈ wsL_law := List.mem_of_getElem? (i := 386) rfl
set_option maxRecDepth 20000 in
theorem wq_387 : Cond.selects RX8 yX8_editCount yX8_editCount ∈ wsL_law := List.mem_of_getElem? (i := 387) rfl
set_option maxRecDepth 20000 in
theorem wq_388 : Cond.code yX8_editCount cX8_editCount 3 (some .int) ∈ wsL_law := List.mem_of_getElem? (i := 388) rfl
set_option maxRecDepth 20000 in
theorem wq_389 : Cond.instanceMethod yX1_trace ∈ wsL_law := List.mem_of_getElem? (i := 389) rfl
set_option maxRecDepth 20000 in
theorem wq_390 : Cond.selects RX1 yX1_trace yX1_trace ∈ wsL_law := List.mem_of_getElem? (i := 390) rfl
set_option maxRecDepth 20000 in
theorem wq_391 : Cond.code yX1_trace cX1_trace 7 none ∈ wsL_law := List.mem_of_getElem? (i := 391) rfl
set_option maxRecDepth 20000 in
theorem wq_392 : Cond.fieldLink RX1 76 "ProverbCollection$Edits" "listed" "I" ∈ wsL_law := List.mem_of_getElem? (i := 392) rfl
set_option maxRecDepth 20000 in
theorem wq_393 : Cond.methodLink RX1 79 yX1_lastStep ∈ wsL_law := List.mem_of_getElem? (i := 393) rfl
set_option maxRecDepth 20000 in
theorem wq_394 : Cond.instanceMethod yX1_lastStep ∈ wsL_law := List.mem_of_getElem? (i := 394) rfl
set_option maxRecDepth 20000 in
theorem wq_395 : Cond.selects RX1 yX1_lastStep yX1_lastStep ∈ wsL_law := List.mem_of_getElem? (i := 395) rfl
set_option maxRecDepth 20000 in
theorem wq_396 : Cond.code yX1_lastStep cX1_lastStep 5 (some .int) ∈ wsL_law := List.mem_of_getElem? (i := 396) rfl
set_option maxRecDepth 20000 in
theorem wq_397 : Cond.methodLink RL 63 yX9_editCount ∈ wsL_law := List.mem_of_getElem? (i := 397) rfl
set_option maxRecDepth 20000 in
theorem wq_398 : Cond.instanceMethod yX9_editCount ∈ wsL_law := List.mem_of_getElem? (i := 398) rfl
set_option maxRecDepth 20000 in
theorem wq_399 : Cond.selects RX9 yX9_editCount yX9_editCount ∈ wsL_law := List.mem_of_getElem? (i := 399) rfl
set_option maxRecDepth 20000 in
theorem wq_400 : Cond.code yX9_editCount cX9_editCount 3 (some .int) ∈ wsL_law := List.mem_of_getElem? (i := 400) rfl
set_option maxRecDepth 20000 in
theorem wq_401 : Cond.fieldLink RX9 123 "ProverbCollectionModel" "edits" "I" ∈ wsL_law := List.mem_of_getElem? (i := 401) rfl
set_option maxRecDepth 20000 in
theorem wq_402 : Cond.methodLink RX9 126 yX9_findsEdits ∈ wsL_law := List.mem_of_getElem? (i := 402) rfl
set_option maxRecDepth 20000 in
theorem wq_403 : Cond.instanceMethod yX9_findsEdits ∈ wsL_law := List.mem_of_getElem? (i := 403) rfl
set_option maxRecDepth 20000 in
theorem wq_404 : Cond.selects RX9 yX9_findsEdits yX9_findsEdits ∈ wsL_law := List.mem_of_getElem? (i := 404) rfl
set_option maxRecDepth 20000 in
theorem wq_405 : Cond.code yX9_findsEdits cX9_findsEdits 7 none ∈ wsL_law := List.mem_of_getElem? (i := 405) rfl
set_option maxRecDepth 20000 in
theorem wq_406 : Cond.methodLink RL 64 yX8_editAt ∈ wsL_law := List.mem_of_getElem? (i := 406) rfl
set_option maxRecDepth 20000 in
theorem wq_407 : Cond.instanceMethod yX8_editAt ∈ wsL_law := List.mem_of_getElem? (i := 407) rfl
set_option maxRecDepth 20000 in
theorem wq_408 : Cond.selects RX8 yX8_editAt yX8_editAt ∈ wsL_law := List.mem_of_getElem? (i := 408) rfl
set_option maxRecDepth 20000 in
theorem wq_409 : Cond.code yX8_editAt cX8_editAt 4 (some .int) ∈ wsL_law := List.mem_of_getElem? (i := 409) rfl
set_option maxRecDepth 20000 in
theorem wq_410 : Cond.instanceMethod yX1_fromBeginning ∈ wsL_law := List.mem_of_getElem? (i := 410) rfl
set_option maxRecDepth 20000 in
theorem wq_411 : Cond.selects RX1 yX1_fromBeginning yX1_fromBeginning ∈ wsL_law := List.mem_of_getElem? (i := 411) rfl
set_option maxRecDepth 20000 in
theorem wq_412 : Cond.code yX1_fromBeginning cX1_fromBeginning 2 (some .int) ∈ wsL_law := List.mem_of_getElem? (i := 412) rfl
set_option maxRecDepth 20000 in
theorem wq_413 : Cond.methodLink RL 68 yX9_editAt ∈ wsL_law := List.mem_of_getElem? (i := 413) rfl
set_option maxRecDepth 20000 in
theorem wq_414 : Cond.instanceMethod yX9_editAt ∈ wsL_law := List.mem_of_getElem? (i := 414) rfl
set_option maxRecDepth 20000 in
theorem wq_415 : Cond.selects RX9 yX9_editAt yX9_editAt ∈ wsL_law := List.mem_of_getElem? (i := 415) rfl
set_option maxRecDepth 20000 in
theorem wq_416 : Cond.code yX9_editAt cX9_editAt 4 (some .int) ∈ wsL_law := List.mem_of_getElem? (i := 416) rfl
set_option maxRecDepth 20000 in
theorem wq_417 : Cond.methodLink RL 69 yX8_nearest ∈ wsL_law := List.mem_of_getElem? (i := 417) rfl
set_option maxRecDepth 20000 in
theorem wq_418 : Cond.instanceMethod yX8_nearest ∈ wsL_law := List.mem_of_getElem? (i := 418) rfl
set_option maxRecDepth 20000 in
theorem wq_419 : Cond.selects RX8 yX8_nearest yX8_nearest ∈ wsL_law := List.mem_of_getElem? (i := 419) rfl
set_option maxRecDepth 20000 in
theorem wq_420 : Cond.code yX8_nearest cX8_nearest 7 (some .int) ∈ wsL_law := List.mem_of_getElem? (i := 420) rfl
set_option maxRecDepth 20000 in
theorem wq_421 : Cond.constant RX8 143 (1000000) ∈ wsL_law := List.mem_of_getElem? (i := 421) rfl
set_option maxRecDepth 20000 in
theorem wq_422 : Cond.methodLink RL 72 yX9_nearest ∈ wsL_law := List.mem_of_getElem? (i := 422) rfl
set_option maxRecDepth 20000 in
theorem wq_423 : Cond.instanceMethod yX9_nearest ∈ wsL_law := List.mem_of_getElem? (i := 423) rfl
set_option maxRecDepth 20000 in
theorem wq_424 : Cond.selects RX9 yX9_nearest yX9_nearest ∈ wsL_law := List.mem_of_getElem? (i := 424) rfl
set_option maxRecDepth 20000 in
theorem wq_425 : Cond.code yX9_nearest cX9_nearest 7 (some .int) ∈ wsL_law := List.mem_of_getElem? (i := 425) rfl
set_option maxRecDepth 20000 in
theorem wq_426 : Cond.methodLink RL 73 yX8_addPattern ∈ wsL_law := List.mem_of_getElem? (i := 426) rfl
set_option maxRecDepth 20000 in
theorem wq_427 : Cond.instanceMethod yX8_addPattern ∈ wsL_law := List.mem_of_getElem? (i := 427) rfl
set_option maxRecDepth 20000 in
theorem wq_428 : Cond.selects RX8 yX8_addPattern yX8_addPattern ∈ wsL_law := List.mem_of_getElem? (i := 428) rfl
set_option maxRecDepth 20000 in
theorem wq_429 : Cond.code yX8_addPattern cX8_addPattern 2 (some .int) ∈ wsL_law := List.mem_of_getElem? (i := 429) rfl
set_option maxRecDepth 20000 in
theorem wq_430 : Cond.methodLink RL 76 yX9_addPattern ∈ wsL_law := List.mem_of_getElem? (i := 430) rfl
set_option maxRecDepth 20000 in
theorem wq_431 : Cond.instanceMethod yX9_addPattern ∈ wsL_law := List.mem_of_getElem? (i := 431) rfl
set_option maxRecDepth 20000 in
theorem wq_432 : Cond.selects RX9 yX9_addPattern yX9_addPattern ∈ wsL_law := List.mem_of_getElem? (i := 432) rfl
set_option maxRecDepth 20000 in
theorem wq_433 : Cond.code yX9_addPattern cX9_addPattern 3 (some .int) ∈ wsL_law := List.mem_of_getElem? (i := 433) rfl
set_option maxRecDepth 20000 in
theorem wq_434 : Cond.methodLink RL 77 yX8_removePattern ∈ wsL_law := List.mem_of_getElem? (i := 434) rfl
set_option maxRecDepth 20000 in
theorem wq_435 : Cond.instanceMethod yX8_removePattern ∈ wsL_law := List.mem_of_getElem? (i := 435) rfl
set_option maxRecDepth 20000 in
theorem wq_436 : Cond.selects RX8 yX8_removePattern yX8_removePattern ∈ wsL_law := List.mem_of_getElem? (i := 436) rfl
set_option maxRecDepth 20000 in
theorem wq_437 : Cond.code yX8_removePattern cX8_removePattern 2 (some .int) ∈ wsL_law := List.mem_of_getElem? (i := 437) rfl
set_option maxRecDepth 20000 in
theorem wq_438 : Cond.methodLink RL 80 yX9_removePattern ∈ wsL_law := List.mem_of_getElem? (i := 438) rfl
set_option maxRecDepth 20000 in
theorem wq_439 : Cond.instanceMethod yX9_removePattern ∈ wsL_law := List.mem_of_getElem? (i := 439) rfl
set_option maxRecDepth 20000 in
theorem wq_440 : Cond.selects RX9 yX9_removePattern yX9_removePattern ∈ wsL_law := List.mem_of_getElem? (i := 440) rfl
set_option maxRecDepth 20000 in
theorem wq_441 : Cond.code yX9_removePattern cX9_removePattern 4 (some .int) ∈ wsL_law := List.mem_of_getElem? (i := 441) rfl
set_option maxRecDepth 20000 in
theorem wq_442 : Cond.methodLink RX9 130 yX9_isPattern ∈ wsL_law := List.mem_of_getElem? (i := 442) rfl
set_option maxRecDepth 20000 in
theorem wq_443 : Cond.instanceMethod yX9_isPattern ∈ wsL_law := List.mem_of_getElem? (i := 443) rfl
set_option maxRecDepth 20000 in
theorem wq_444 : Cond.selects RX9 yX9_isPattern yX9_isPattern ∈ wsL_law := List.mem_of_getElem? (i := 444) rfl
set_option maxRecDepth 20000 in
theorem wq_445 : Cond.code yX9_isPattern cX9_isPattern 2 (some .boolean) ∈ wsL_law := List.mem_of_getElem? (i := 445) rfl
set_option maxRecDepth 20000 in
theorem wq_446 : Cond.methodLink RL 81 yX8_fillings ∈ wsL_law := List.mem_of_getElem? (i := 446) rfl
set_option maxRecDepth 20000 in
theorem wq_447 : Cond.instanceMethod yX8_fillings ∈ wsL_law := List.mem_of_getElem? (i := 447) rfl
set_option maxRecDepth 20000 in
theorem wq_448 : Cond.selects RX8 yX8_fillings yX8_fillings ∈ wsL_law := List.mem_of_getElem? (i := 448) rfl
set_option maxRecDepth 20000 in
theorem wq_449 : Cond.code yX8_fillings cX8_fillings 3 (some .int) ∈ wsL_law := List.mem_of_getElem? (i := 449) rfl
set_option maxRecDepth 20000 in
theorem wq_450 : Cond.instanceMethod yX4_match ∈ wsL_law := List.mem_of_getElem? (i := 450) rfl
set_option maxRecDepth 20000 in
theorem wq_451 : Cond.selects RX4 yX4_match yX4_match ∈ wsL_law := List.mem_of_getElem? (i := 451) rfl
set_option maxRecDepth 20000 in
theorem wq_452 : Cond.code yX4_match cX4_match 5 (some .int) ∈ wsL_law := List.mem_of_getElem? (i := 452) rfl
set_option maxRecDepth 20000 in
theorem wq_453 : Cond.fieldLink RX4 43 "ProverbCollection$Matcher" "found" "I" ∈ wsL_law := List.mem_of_getElem? (i := 453) rfl
set_option maxRecDepth 20000 in
theorem wq_454 : Cond.methodLink RX4 47 yX4_fill ∈ wsL_law := List.mem_of_getElem? (i := 454) rfl
set_option maxRecDepth 20000 in
theorem wq_455 : Cond.instanceMethod yX4_fill ∈ wsL_law := List.mem_of_getElem? (i := 455) rfl
set_option maxRecDepth 20000 in
theorem wq_456 : Cond.selects RX4 yX4_fill yX4_fill ∈ wsL_law := List.mem_of_getElem? (i := 456) rfl
set_option maxRecDepth 20000 in
theorem wq_457 : Cond.code yX4_fill cX4_fill 4 none ∈ wsL_law := List.mem_of_getElem? (i := 457) rfl
set_option maxRecDepth 20000 in
theorem wq_458 : Cond.methodLink RX4 61 yX4_noteFilling ∈ wsL_law := List.mem_of_getElem? (i := 458) rfl
set_option maxRecDepth 20000 in
theorem wq_459 : Cond.instanceMethod yX4_noteFilling ∈ wsL_law := List.mem_of_getElem? (i := 459) rfl
set_option maxRecDepth 20000 in
theorem wq_460 : Cond.selects RX4 yX4_noteFilling yX4_noteFilling ∈ wsL_law := List.mem_of_getElem? (i := 460) rfl
set_option maxRecDepth 20000 in
theorem wq_461 : Cond.code yX4_noteFilling cX4_noteFilling 2 none ∈ wsL_law := List.mem_of_getElem? (i := 461) rfl
set_option maxRecDepth 20000 in
theorem wq_462 : Cond.methodLink RX4 69 yX4_fillOne ∈ wsL_law := List.mem_of_getElem? (i := 462) rfl
set_option maxRecDepth 20000 in
theorem wq_463 : Cond.instanceMethod yX4_fillOne ∈ wsL_law := List.mem_of_getElem? (i := 463) rfl
set_option maxRecDepth 20000 in
theorem wq_464 : Cond.selects RX4 yX4_fillOne yX4_fillOne ∈ wsL_law := List.mem_of_getElem? (i := 464) rfl
set_option maxRecDepth 20000 in
theorem wq_465 : Cond.code yX4_fillOne cX4_fillOne 5 none ∈ wsL_law := List.mem_of_getElem? (i := 465) rfl
set_option maxRecDepth 20000 in
theorem wq_466 : Cond.methodLink RL 84 yX9_fillings ∈ wsL_law := List.mem_of_getElem? (i := 466) rfl
set_option maxRecDepth 20000 in
theorem wq_467 : Cond.instanceMethod yX9_fillings ∈ wsL_law := List.mem_of_getElem? (i := 467) rfl
set_option maxRecDepth 20000 in
theorem wq_468 : Cond.selects RX9 yX9_fillings yX9_fillings ∈ wsL_law := List.mem_of_getElem? (i := 468) rfl
set_option maxRecDepth 20000 in
theorem wq_469 : Cond.code yX9_fillings cX9_fillings 3 (some .int) ∈ wsL_law := List.mem_of_getElem? (i := 469) rfl
set_option maxRecDepth 20000 in
theorem wq_470 : Cond.methodLink RX9 142 yX9_fills ∈ wsL_law := List.mem_of_getElem? (i := 470) rfl
set_option maxRecDepth 20000 in
theorem wq_471 : Cond.instanceMethod yX9_fills ∈ wsL_law := List.mem_of_getElem? (i := 471) rfl
set_option maxRecDepth 20000 in
theorem wq_472 : Cond.selects RX9 yX9_fills yX9_fills ∈ wsL_law := List.mem_of_getElem? (i := 472) rfl
set_option maxRecDepth 20000 in
theorem wq_473 : Cond.code yX9_fills cX9_fills 8 (some .int) ∈ wsL_law := List.mem_of_getElem? (i := 473) rfl
set_option maxRecDepth 20000 in
theorem wq_474 : Cond.methodLink RX9 133 yX9_tokensOf ∈ wsL_law := List.mem_of_getElem? (i := 474) rfl
set_option maxRecDepth 20000 in
theorem wq_475 : Cond.instanceMethod yX9_tokensOf ∈ wsL_law := List.mem_of_getElem? (i := 475) rfl
set_option maxRecDepth 20000 in
theorem wq_476 : Cond.selects RX9 yX9_tokensOf yX9_tokensOf ∈ wsL_law := List.mem_of_getElem? (i := 476) rfl
set_option maxRecDepth 20000 in
theorem wq_477 : Cond.code yX9_tokensOf cX9_tokensOf 6 (some .int) ∈ wsL_law := List.mem_of_getElem? (i := 477) rfl
set_option maxRecDepth 20000 in
theorem wq_478 : Cond.methodLink RX9 136 yX9_isFilled ∈ wsL_law := List.mem_of_getElem? (i := 478) rfl
set_option maxRecDepth 20000 in
theorem wq_479 : Cond.instanceMethod yX9_isFilled ∈ wsL_law := List.mem_of_getElem? (i := 479) rfl
set_option maxRecDepth 20000 in
theorem wq_480 : Cond.selects RX9 yX9_isFilled yX9_isFilled ∈ wsL_law := List.mem_of_getElem? (i := 480) rfl
set_option maxRecDepth 20000 in
theorem wq_481 : Cond.code yX9_isFilled cX9_isFilled 9 (some .boolean) ∈ wsL_law := List.mem_of_getElem? (i := 481) rfl
set_option maxRecDepth 20000 in
theorem wq_482 : Cond.methodLink RX9 139 yX9_goesOn ∈ wsL_law := List.mem_of_getElem? (i := 482) rfl
set_option maxRecDepth 20000 in
theorem wq_483 : Cond.instanceMethod yX9_goesOn ∈ wsL_law := List.mem_of_getElem? (i := 483) rfl
set_option maxRecDepth 20000 in
theorem wq_484 : Cond.selects RX9 yX9_goesOn yX9_goesOn ∈ wsL_law := List.mem_of_getElem? (i := 484) rfl
set_option maxRecDepth 20000 in
theorem wq_485 : Cond.code yX9_goesOn cX9_goesOn 5 (some .boolean) ∈ wsL_law := List.mem_of_getElem? (i := 485) rfl
set_option maxRecDepth 20000 in
theorem wq_486 : Cond.methodLink RL 85 yX8_slotWord ∈ wsL_law := List.mem_of_getElem? (i := 486) rfl
set_option maxRecDepth 20000 in
theorem wq_487 : Cond.instanceMethod yX8_slotWord ∈ wsL_law := List.mem_of_getElem? (i := 487) rfl
set_option maxRecDepth 20000 in
theorem wq_488 : Cond.selects RX8 yX8_slotWord yX8_slotWord ∈ wsL_law := List.mem_of_getElem? (i := 488) rfl
set_option maxRecDepth 20000 in
theorem wq_489 : Cond.code yX8_slotWord cX8_slotWord 5 (some .int) ∈ wsL_law := List.mem_of_getElem? (i := 489) rfl
set_option maxRecDepth 20000 in
theorem wq_490 : Cond.methodLink RL 88 yX9_slotWord ∈ wsL_law := List.mem_of_getElem? (i := 490) rfl
set_option maxRecDepth 20000 in
theorem wq_491 : Cond.instanceMethod yX9_slotWord ∈ wsL_law := List.mem_of_getElem? (i := 491) rfl
set_option maxRecDepth 20000 in
theorem wq_492 : Cond.selects RX9 yX9_slotWord yX9_slotWord ∈ wsL_law := List.mem_of_getElem? (i := 492) rfl
set_option maxRecDepth 20000 in
theorem wq_493 : Cond.code yX9_slotWord cX9_slotWord 5 (some .int) ∈ wsL_law := List.mem_of_getElem? (i := 493) rfl
set_option maxRecDepth 20000 in
theorem wq_494 : Cond.methodLink RL 89 yX8_matchedSayings ∈ wsL_law := List.mem_of_getElem? (i := 494) rfl
set_option maxRecDepth 20000 in
theorem wq_495 : Cond.instanceMethod yX8_matchedSayings ∈ wsL_law := List.mem_of_getElem? (i := 495) rfl
set_option maxRecDepth 20000 in
theorem wq_496 : Cond.selects RX8 yX8_matchedSayings yX8_matchedSayings ∈ wsL_law := List.mem_of_getElem? (i := 496) rfl
set_option maxRecDepth 20000 in
theorem wq_497 : Cond.code yX8_matchedSayings cX8_matchedSayings 4 (some .int) ∈ wsL_law := List.mem_of_getElem? (i := 497) rfl
set_option maxRecDepth 20000 in
theorem wq_498 : Cond.methodLink RL 92 yX9_matchedSayings ∈ wsL_law := List.mem_of_getElem? (i := 498) rfl
set_option maxRecDepth 20000 in
theorem wq_499 : Cond.instanceMethod yX9_matchedSayings ∈ wsL_law := List.mem_of_getElem? (i := 499) rfl
set_option maxRecDepth 20000 in
theorem wq_500 : Cond.selects RX9 yX9_matchedSayings yX9_matchedSayings ∈ wsL_law := List.mem_of_getElem? (i := 500) rfl
set_option maxRecDepth 20000 in
theorem wq_501 : Cond.code yX9_matchedSayings cX9_matchedSayings 4 (some .int) ∈ wsL_law := List.mem_of_getElem? (i := 501) rfl
set_option maxRecDepth 20000 in
theorem wq_502 : Cond.methodLink RL 93 yX8_bestPattern ∈ wsL_law := List.mem_of_getElem? (i := 502) rfl
set_option maxRecDepth 20000 in
theorem wq_503 : Cond.instanceMethod yX8_bestPattern ∈ wsL_law := List.mem_of_getElem? (i := 503) rfl
set_option maxRecDepth 20000 in
theorem wq_504 : Cond.selects RX8 yX8_bestPattern yX8_bestPattern ∈ wsL_law := List.mem_of_getElem? (i := 504) rfl
set_option maxRecDepth 20000 in
theorem wq_505 : Cond.code yX8_bestPattern cX8_bestPattern 6 (some .int) ∈ wsL_law := List.mem_of_getElem? (i := 505) rfl
set_option maxRecDepth 20000 in
theorem wq_506 : Cond.instanceMethod yX4_fit ∈ wsL_law := List.mem_of_getElem? (i := 506) rfl
set_option maxRecDepth 20000 in
theorem wq_507 : Cond.selects RX4 yX4_fit yX4_fit ∈ wsL_law := List.mem_of_getElem? (i := 507) rfl
set_option maxRecDepth 20000 in
theorem wq_508 : Cond.code yX4_fit cX4_fit 1 (some .int) ∈ wsL_law := List.mem_of_getElem? (i := 508) rfl
set_option maxRecDepth 20000 in
theorem wq_509 : Cond.instanceMethod yX5_gapCount ∈ wsL_law := List.mem_of_getElem? (i := 509) rfl
set_option maxRecDepth 20000 in
theorem wq_510 : Cond.selects RX5 yX5_gapCount yX5_gapCount ∈ wsL_law := List.mem_of_getElem? (i := 510) rfl
set_option maxRecDepth 20000 in
theorem wq_511 : Cond.code yX5_gapCount cX5_gapCount 3 (some .int) ∈ wsL_law := List.mem_of_getElem? (i := 511) rfl
set_option maxRecDepth 20000 in
theorem wq_512 : Cond.methodLink RL 96 yX9_bestPattern ∈ wsL_law := List.mem_of_getElem? (i := 512) rfl
set_option maxRecDepth 20000 in
theorem wq_513 : Cond.instanceMethod yX9_bestPattern ∈ wsL_law := List.mem_of_getElem? (i := 513) rfl
set_option maxRecDepth 20000 in
theorem wq_514 : Cond.selects RX9 yX9_bestPattern yX9_bestPattern ∈ wsL_law := List.mem_of_getElem? (i := 514) rfl
set_option maxRecDepth 20000 in
theorem wq_515 : Cond.code yX9_bestPattern cX9_bestPattern 6 (some .int) ∈ wsL_law := List.mem_of_getElem? (i := 515) rfl
set_option maxRecDepth 20000 in
theorem wq_516 : Cond.methodLink RL 97 yX8_setLimit ∈ wsL_law := List.mem_of_getElem? (i := 516) rfl
set_option maxRecDepth 20000 in
theorem wq_517 : Cond.instanceMethod yX8_setLimit ∈ wsL_law := List.mem_of_getElem? (i := 517) rfl
set_option maxRecDepth 20000 in
theorem wq_518 : Cond.selects RX8 yX8_setLimit yX8_setLimit ∈ wsL_law := List.mem_of_getElem? (i := 518) rfl
set_option maxRecDepth 20000 in
theorem wq_519 : Cond.code yX8_setLimit cX8_setLimit 3 (some .int) ∈ wsL_law := List.mem_of_getElem? (i := 519) rfl
set_option maxRecDepth 20000 in
theorem wq_520 : Cond.methodLink RL 100 yX9_setLimit ∈ wsL_law := List.mem_of_getElem? (i := 520) rfl
set_option maxRecDepth 20000 in
theorem wq_521 : Cond.instanceMethod yX9_setLimit ∈ wsL_law := List.mem_of_getElem? (i := 521) rfl
set_option maxRecDepth 20000 in
theorem wq_522 : Cond.selects RX9 yX9_setLimit yX9_setLimit ∈ wsL_law := List.mem_of_getElem? (i := 522) rfl
set_option maxRecDepth 20000 in
theorem wq_523 : Cond.code yX9_setLimit cX9_setLimit 3 (some .int) ∈ wsL_law := List.mem_of_getElem? (i := 523) rfl
set_option maxRecDepth 20000 in
theorem wq_524 : Cond.constantLong RX9 148 (20) ∈ wsL_law := List.mem_of_getElem? (i := 524) rfl
set_option maxRecDepth 20000 in
theorem wq_525 : Cond.methodLink RL 101 yX8_groupCount ∈ wsL_law := List.mem_of_getElem? (i := 525) rfl
set_option maxRecDepth 20000 in
theorem wq_526 : Cond.instanceMethod yX8_groupCount ∈ wsL_law := List.mem_of_getElem? (i := 526) rfl
set_option maxRecDepth 20000 in
theorem wq_527 : Cond.selects RX8 yX8_groupCount yX8_groupCount ∈ wsL_law := List.mem_of_getElem? (i := 527) rfl
set_option maxRecDepth 20000 in
theorem wq_528 : Cond.code yX8_groupCount cX8_groupCount 1 (some .int) ∈ wsL_law := List.mem_of_getElem? (i := 528) rfl
set_option maxRecDepth 20000 in
theorem wq_529 : Cond.instanceMethod yX2_form ∈ wsL_law := List.mem_of_getElem? (i := 529) rfl
set_option maxRecDepth 20000 in
theorem wq_530 : Cond.selects RX2 yX2_form yX2_form ∈ wsL_law := List.mem_of_getElem? (i := 530) rfl
set_option maxRecDepth 20000 in
theorem wq_531 : Cond.code yX2_form cX2_form 7 none ∈ wsL_law := List.mem_of_getElem? (i := 531) rfl
set_option maxRecDepth 20000 in
theorem wq_532 : Cond.fieldLink RX2 21 "ProverbCollection$Groups" "count" "I" ∈ wsL_law := List.mem_of_getElem? (i := 532) rfl
set_option maxRecDepth 20000 in
theorem wq_533 : Cond.methodLink RL 104 yX9_groupCount ∈ wsL_law := List.mem_of_getElem? (i := 533) rfl
set_option maxRecDepth 20000 in
theorem wq_534 : Cond.instanceMethod yX9_groupCount ∈ wsL_law := List.mem_of_getElem? (i := 534) rfl
set_option maxRecDepth 20000 in
theorem wq_535 : Cond.selects RX9 yX9_groupCount yX9_groupCount ∈ wsL_law := List.mem_of_getElem? (i := 535) rfl
set_option maxRecDepth 20000 in
theorem wq_536 : Cond.code yX9_groupCount cX9_groupCount 1 (some .int) ∈ wsL_law := List.mem_of_getElem? (i := 536) rfl
set_option maxRecDepth 20000 in
theorem wq_537 : Cond.fieldLink RX9 145 "ProverbCollectionModel" "groups" "I" ∈ wsL_law := List.mem_of_getElem? (i := 537) rfl
set_option maxRecDepth 20000 in
theorem wq_538 : Cond.methodLink RX9 150 yX9_makesGroups ∈ wsL_law := List.mem_of_getElem? (i := 538) rfl
set_option maxRecDepth 20000 in
theorem wq_539 : Cond.instanceMethod yX9_makesGroups ∈ wsL_law := List.mem_of_getElem? (i := 539) rfl
set_option maxRecDepth 20000 in
theorem wq_540 : Cond.selects RX9 yX9_makesGroups yX9_makesGroups ∈ wsL_law := List.mem_of_getElem? (i := 540) rfl
set_option maxRecDepth 20000 in
theorem wq_541 : Cond.code yX9_makesGroups cX9_makesGroups 5 none ∈ wsL_law := List.mem_of_getElem? (i := 541) rfl
set_option maxRecDepth 20000 in
theorem wq_542 : Cond.methodLink RL 105 yX8_groupOf ∈ wsL_law := List.mem_of_getElem? (i := 542) rfl
set_option maxRecDepth 20000 in
theorem wq_543 : Cond.instanceMethod yX8_groupOf ∈ wsL_law := List.mem_of_getElem? (i := 543) rfl
set_option maxRecDepth 20000 in
theorem wq_544 : Cond.selects RX8 yX8_groupOf yX8_groupOf ∈ wsL_law := List.mem_of_getElem? (i := 544) rfl
set_option maxRecDepth 20000 in
theorem wq_545 : Cond.code yX8_groupOf cX8_groupOf 2 (some .int) ∈ wsL_law := List.mem_of_getElem? (i := 545) rfl
set_option maxRecDepth 20000 in
theorem wq_546 : Cond.methodLink RL 108 yX9_groupOf ∈ wsL_law := List.mem_of_getElem? (i := 546) rfl
set_option maxRecDepth 20000 in
theorem wq_547 : Cond.instanceMethod yX9_groupOf ∈ wsL_law := List.mem_of_getElem? (i := 547) rfl
set_option maxRecDepth 20000 in
theorem wq_548 : Cond.selects RX9 yX9_groupOf yX9_groupOf ∈ wsL_law := List.mem_of_getElem? (i := 548) rfl
set_option maxRecDepth 20000 in
theorem wq_549 : Cond.code yX9_groupOf cX9_groupOf 2 (some .int) ∈ wsL_law := List.mem_of_getElem? (i := 549) rfl
set_option maxRecDepth 20000 in
theorem wq_550 : Cond.methodLink RL 109 yX8_centreOf ∈ wsL_law := List.mem_of_getElem? (i := 550) rfl
set_option maxRecDepth 20000 in
theorem wq_551 : Cond.instanceMethod yX8_centreOf ∈ wsL_law := List.mem_of_getElem? (i := 551) rfl
set_option maxRecDepth 20000 in
theorem wq_552 : Cond.selects RX8 yX8_centreOf yX8_centreOf ∈ wsL_law := List.mem_of_getElem? (i := 552) rfl
set_option maxRecDepth 20000 in
theorem wq_553 : Cond.code yX8_centreOf cX8_centreOf 2 (some .int) ∈ wsL_law := List.mem_of_getElem? (i := 553) rfl
set_option maxRecDepth 20000 in
theorem wq_554 : Cond.methodLink RL 112 yX9_centreOf ∈ wsL_law := List.mem_of_getElem? (i := 554) rfl
set_option maxRecDepth 20000 in
theorem wq_555 : Cond.instanceMethod yX9_centreOf ∈ wsL_law := List.mem_of_getElem? (i := 555) rfl
set_option maxRecDepth 20000 in
theorem wq_556 : Cond.selects RX9 yX9_centreOf yX9_centreOf ∈ wsL_law := List.mem_of_getElem? (i := 556) rfl
set_option maxRecDepth 20000 in
theorem wq_557 : Cond.code yX9_centreOf cX9_centreOf 2 (some .int) ∈ wsL_law := List.mem_of_getElem? (i := 557) rfl
set_option maxRecDepth 20000 in
theorem wq_558 : Cond.methodLink RL 113 yX8_groupInfo ∈ wsL_law := List.mem_of_getElem? (i := 558) rfl
set_option maxRecDepth 20000 in
theorem wq_559 : Cond.instanceMethod yX8_groupInfo ∈ wsL_law := List.mem_of_getElem? (i := 559) rfl
set_option maxRecDepth 20000 in
theorem wq_560 : Cond.selects RX8 yX8_groupInfo yX8_groupInfo ∈ wsL_law := List.mem_of_getElem? (i := 560) rfl
set_option maxRecDepth 20000 in
theorem wq_561 : Cond.code yX8_groupInfo cX8_groupInfo 3 (some .int) ∈ wsL_law := List.mem_of_getElem? (i := 561) rfl
set_option maxRecDepth 20000 in
theorem wq_562 : Cond.instanceMethod yX2_members ∈ wsL_law := List.mem_of_getElem? (i := 562) rfl
set_option maxRecDepth 20000 in
theorem wq_563 : Cond.selects RX2 yX2_members yX2_members ∈ wsL_law := List.mem_of_getElem? (i := 563) rfl
set_option maxRecDepth 20000 in
theorem wq_564 : Cond.code yX2_members cX2_members 5 (some .int) ∈ wsL_law := List.mem_of_getElem? (i := 564) rfl
set_option maxRecDepth 20000 in
theorem wq_565 : Cond.instanceMethod yX2_regions ∈ wsL_law := List.mem_of_getElem? (i := 565) rfl
set_option maxRecDepth 20000 in
theorem wq_566 : Cond.selects RX2 yX2_regions yX2_regions ∈ wsL_law := List.mem_of_getElem? (i := 566) rfl
set_option maxRecDepth 20000 in
theorem wq_567 : Cond.code yX2_regions cX2_regions 5 (some .int) ∈ wsL_law := List.mem_of_getElem? (i := 567) rfl
set_option maxRecDepth 20000 in
theorem wq_568 : Cond.methodLink RX2 50 yJ6_bitCount_0f7a4 ∈ wsL_law := List.mem_of_getElem? (i := 568) rfl
set_option maxRecDepth 20000 in
theorem wq_569 : Cond.static yJ6_bitCount_0f7a4 ∈ wsL_law := List.mem_of_getElem? (i := 569) rfl
set_option maxRecDepth 20000 in
theorem wq_570 : Cond.initialized RJ6 ∈ wsL_law := List.mem_of_getElem? (i := 570) rfl
set_option maxRecDepth 20000 in
theorem wq_571 : Cond.code yJ6_bitCount_0f7a4 cJ6_bitCount_0f7a4 1 (some .int) ∈ wsL_law := List.mem_of_getElem? (i := 571) rfl
set_option maxRecDepth 20000 in
theorem wq_572 : Cond.constant RJ6 265 (1431655765) ∈ wsL_law := List.mem_of_getElem? (i := 572) rfl
set_option maxRecDepth 20000 in
theorem wq_573 : Cond.constant RJ6 266 (858993459) ∈ wsL_law := List.mem_of_getElem? (i := 573) rfl
set_option maxRecDepth 20000 in
theorem wq_574 : Cond.constant RJ6 267 (252645135) ∈ wsL_law := List.mem_of_getElem? (i := 574) rfl
set_option maxRecDepth 20000 in
theorem wq_575 : Cond.instanceMethod yX2_radius ∈ wsL_law := List.mem_of_getElem? (i := 575) rfl
set_option maxRecDepth 20000 in
theorem wq_576 : Cond.selects RX2 yX2_radius yX2_radius ∈ wsL_law := List.mem_of_getElem? (i := 576) rfl
set_option maxRecDepth 20000 in
theorem wq_577 : Cond.code yX2_radius cX2_radius 6 (some .int) ∈ wsL_law := List.mem_of_getElem? (i := 577) rfl
set_option maxRecDepth 20000 in
theorem wq_578 : Cond.methodLink RX2 56 Lib.Math.max.name ∈ wsL_law := List.mem_of_getElem? (i := 578) rfl
set_option maxRecDepth 20000 in
theorem wq_579 : Cond.methodLink RL 116 yX9_groupInfo ∈ wsL_law := List.mem_of_getElem? (i := 579) rfl
set_option maxRecDepth 20000 in
theorem wq_580 : Cond.instanceMethod yX9_groupInfo ∈ wsL_law := List.mem_of_getElem? (i := 580) rfl
set_option maxRecDepth 20000 in
theorem wq_581 : Cond.selects RX9 yX9_groupInfo yX9_groupInfo ∈ wsL_law := List.mem_of_getElem? (i := 581) rfl
set_option maxRecDepth 20000 in
theorem wq_582 : Cond.code yX9_groupInfo cX9_groupInfo 8 (some .int) ∈ wsL_law := List.mem_of_getElem? (i := 582) rfl
set_option maxRecDepth 20000 in
theorem wq_583 : Cond.constantLong RX9 153 (2) ∈ wsL_law := List.mem_of_getElem? (i := 583) rfl
set_option maxRecDepth 20000 in
theorem wq_584 : Cond.methodLink RL 117 yX8_crossingCost ∈ wsL_law := List.mem_of_getElem? (i := 584) rfl
set_option maxRecDepth 20000 in
theorem wq_585 : Cond.instanceMethod yX8_crossingCost ∈ wsL_law := List.mem_of_getElem? (i := 585) rfl
set_option maxRecDepth 20000 in
theorem wq_586 : Cond.selects RX8 yX8_crossingCost yX8_crossingCost ∈ wsL_law := List.mem_of_getElem? (i := 586) rfl
set_option maxRecDepth 20000 in
theorem wq_587 : Cond.code yX8_crossingCost cX8_crossingCost 5 (some .int) ∈ wsL_law := List.mem_of_getElem? (i := 587) rfl
set_option maxRecDepth 20000 in
theorem wq_588 : Cond.instanceMethod yX0_cost ∈ wsL_law := List.mem_of_getElem? (i := 588) rfl
set_option maxRecDepth 20000 in
theorem wq_589 : Cond.selects RX0 yX0_cost yX0_cost ∈ wsL_law := List.mem_of_getElem? (i := 589) rfl
set_option maxRecDepth 20000 in
theorem wq_590 : Cond.code yX0_cost cX0_cost 9 (some .int) ∈ wsL_law := List.mem_of_getElem? (i := 590) rfl
set_option maxRecDepth 20000 in
theorem wq_591 : Cond.constant RX0 45 (1000000) ∈ wsL_law := List.mem_of_getElem? (i := 591) rfl
set_option maxRecDepth 20000 in
theorem wq_592 : Cond.methodLink RX0 64 Lib.Math.min.name ∈ wsL_law := List.mem_of_getElem? (i := 592) rfl
set_option maxRecDepth 20000 in
theorem wq_593 : Cond.instanceMethod yX5_addPart ∈ wsL_law := List.mem_of_getElem? (i := 593) rfl
set_option maxRecDepth 20000 in
theorem wq_594 : Cond.selects RX5 yX5_addPart yX5_addPart ∈ wsL_law := List.mem_of_getElem? (i := 594) rfl
set_option maxRecDepth 20000 in
theorem wq_595 : Cond.code yX5_addPart cX5_addPart 5 none ∈ wsL_law := List.mem_of_getElem? (i := 595) rfl
set_option maxRecDepth 20000 in
theorem wq_596 : Cond.methodLink RX5 19 yX5_at ∈ wsL_law := List.mem_of_getElem? (i := 596) rfl
set_option maxRecDepth 20000 in
theorem wq_597 : Cond.methodLink RX5 23 yX5_add ∈ wsL_law := List.mem_of_getElem? (i := 597) rfl
set_option maxRecDepth 20000 in
theorem wq_598 : Cond.methodLink RL 120 yX9_crossingCost ∈ wsL_law := List.mem_of_getElem? (i := 598) rfl
set_option maxRecDepth 20000 in
theorem wq_599 : Cond.instanceMethod yX9_crossingCost ∈ wsL_law := List.mem_of_getElem? (i := 599) rfl
set_option maxRecDepth 20000 in
theorem wq_600 : Cond.selects RX9 yX9_crossingCost yX9_crossingCost ∈ wsL_law := List.mem_of_getElem? (i := 600) rfl
set_option maxRecDepth 20000 in
theorem wq_601 : Cond.code yX9_crossingCost cX9_crossingCost 4 (some .int) ∈ wsL_law := List.mem_of_getElem? (i := 601) rfl
set_option maxRecDepth 20000 in
theorem wq_602 : Cond.methodLink RX9 155 yX9_crossed ∈ wsL_law := List.mem_of_getElem? (i := 602) rfl
set_option maxRecDepth 20000 in
theorem wq_603 : Cond.instanceMethod yX9_crossed ∈ wsL_law := List.mem_of_getElem? (i := 603) rfl
set_option maxRecDepth 20000 in
theorem wq_604 : Cond.selects RX9 yX9_crossed yX9_crossed ∈ wsL_law := List.mem_of_getElem? (i := 604) rfl
set_option maxRecDepth 20000 in
theorem wq_605 : Cond.code yX9_crossed cX9_crossed 8 (some .int) ∈ wsL_law := List.mem_of_getElem? (i := 605) rfl
set_option maxRecDepth 20000 in
theorem wq_606 : Cond.methodLink RL 121 yX8_crossing ∈ wsL_law := List.mem_of_getElem? (i := 606) rfl
set_option maxRecDepth 20000 in
theorem wq_607 : Cond.instanceMethod yX8_crossing ∈ wsL_law := List.mem_of_getElem? (i := 607) rfl
set_option maxRecDepth 20000 in
theorem wq_608 : Cond.selects RX8 yX8_crossing yX8_crossing ∈ wsL_law := List.mem_of_getElem? (i := 608) rfl
set_option maxRecDepth 20000 in
theorem wq_609 : Cond.code yX8_crossing cX8_crossing 3 (some .int) ∈ wsL_law := List.mem_of_getElem? (i := 609) rfl
set_option maxRecDepth 20000 in
theorem wq_610 : Cond.instanceMethod yX0_bestPair ∈ wsL_law := List.mem_of_getElem? (i := 610) rfl
set_option maxRecDepth 20000 in
theorem wq_611 : Cond.selects RX0 yX0_bestPair yX0_bestPair ∈ wsL_law := List.mem_of_getElem? (i := 611) rfl
set_option maxRecDepth 20000 in
theorem wq_612 : Cond.code yX0_bestPair cX0_bestPair 13 (some .int) ∈ wsL_law := List.mem_of_getElem? (i := 612) rfl
set_option maxRecDepth 20000 in
theorem wq_613 : Cond.methodLink RX0 82 yX0_cost ∈ wsL_law := List.mem_of_getElem? (i := 613) rfl
set_option maxRecDepth 20000 in
theorem wq_614 : Cond.methodLink RL 124 yX9_crossing ∈ wsL_law := List.mem_of_getElem? (i := 614) rfl
set_option maxRecDepth 20000 in
theorem wq_615 : Cond.instanceMethod yX9_crossing ∈ wsL_law := List.mem_of_getElem? (i := 615) rfl
set_option maxRecDepth 20000 in
theorem wq_616 : Cond.selects RX9 yX9_crossing yX9_crossing ∈ wsL_law := List.mem_of_getElem? (i := 616) rfl
set_option maxRecDepth 20000 in
theorem wq_617 : Cond.code yX9_crossing cX9_crossing 11 (some .int) ∈ wsL_law := List.mem_of_getElem? (i := 617) rfl
set_option maxRecDepth 20000 in
theorem wq_618 : Cond.methodLink RL 125 yX8_undo ∈ wsL_law := List.mem_of_getElem? (i := 618) rfl
set_option maxRecDepth 20000 in
theorem wq_619 : Cond.instanceMethod yX8_undo ∈ wsL_law := List.mem_of_getElem? (i := 619) rfl
set_option maxRecDepth 20000 in
theorem wq_620 : Cond.selects RX8 yX8_undo yX8_undo ∈ wsL_law := List.mem_of_getElem? (i := 620) rfl
set_option maxRecDepth 20000 in
theorem wq_621 : Cond.code yX8_undo cX8_undo 1 (some .int) ∈ wsL_law := List.mem_of_getElem? (i := 621) rfl
set_option maxRecDepth 20000 in
theorem wq_622 : Cond.instanceMethod yX3_restore ∈ wsL_law := List.mem_of_getElem? (i := 622) rfl
set_option maxRecDepth 20000 in
theorem wq_623 : Cond.selects RX3 yX3_restore yX3_restore ∈ wsL_law := List.mem_of_getElem? (i := 623) rfl
set_option maxRecDepth 20000 in
theorem wq_624 : Cond.code yX3_restore cX3_restore 2 none ∈ wsL_law := List.mem_of_getElem? (i := 624) rfl
set_option maxRecDepth 20000 in
theorem wq_625 : Cond.methodLink RL 128 yX9_undo ∈ wsL_law := List.mem_of_getElem? (i := 625) rfl
set_option maxRecDepth 20000 in
theorem wq_626 : Cond.instanceMethod yX9_undo ∈ wsL_law := List.mem_of_getElem? (i := 626) rfl
set_option maxRecDepth 20000 in
theorem wq_627 : Cond.selects RX9 yX9_undo yX9_undo ∈ wsL_law := List.mem_of_getElem? (i := 627) rfl
set_option maxRecDepth 20000 in
theorem wq_628 : Cond.code yX9_undo cX9_undo 2 (some .int) ∈ wsL_law := List.mem_of_getElem? (i := 628) rfl
set_option maxRecDepth 20000 in
theorem nq_25 : Cond.methodLinkNest RX8 9 yX5_init RX8 ∈ tables_1.filter nwWarm := List.mem_filter.mpr ⟨List.mem_of_getElem? (i := 25) rfl, rfl⟩
set_option maxRecDepth 20000 in
theorem nq_31 : Cond.fieldLinkNest RX8 62 "ProverbCollection$Sequence" "length" "I" RX8 ∈ tables_1.filter nwWarm := List.mem_filter.mpr ⟨List.mem_of_getElem? (i := 31) rfl, rfl⟩
set_option maxRecDepth 20000 in
theorem nq_32 : Cond.fieldLinkNest RX0 46 "ProverbCollection$Sequence" "length" "I" RX8 ∈ tables_1.filter nwWarm := List.mem_filter.mpr ⟨List.mem_of_getElem? (i := 32) rfl, rfl⟩
set_option maxRecDepth 20000 in
theorem nq_33 : Cond.fieldLinkNest RX1 49 "ProverbCollection$Sequence" "length" "I" RX8 ∈ tables_1.filter nwWarm := List.mem_filter.mpr ⟨List.mem_of_getElem? (i := 33) rfl, rfl⟩
set_option maxRecDepth 20000 in
theorem nq_34 : Cond.fieldLinkNest RX4 58 "ProverbCollection$Sequence" "length" "I" RX8 ∈ tables_1.filter nwWarm := List.mem_filter.mpr ⟨List.mem_of_getElem? (i := 34) rfl, rfl⟩
set_option maxRecDepth 20000 in
theorem nq_35 : Cond.fieldLinkNest RX6 37 "ProverbCollection$Sequence" "length" "I" RX8 ∈ tables_1.filter nwWarm := List.mem_filter.mpr ⟨List.mem_of_getElem? (i := 35) rfl, rfl⟩
set_option maxRecDepth 20000 in
theorem nq_44 : Cond.methodLinkNest RX8 18 yX7_init RX8 ∈ tables_1.filter nwWarm := List.mem_filter.mpr ⟨List.mem_of_getElem? (i := 44) rfl, rfl⟩
set_option maxRecDepth 20000 in
theorem nq_50 : Cond.methodLinkNest RX7 11 yX6_init RX8 ∈ tables_1.filter nwWarm := List.mem_filter.mpr ⟨List.mem_of_getElem? (i := 50) rfl, rfl⟩
set_option maxRecDepth 20000 in
theorem nq_58 : Cond.fieldLinkNest RX2 35 "ProverbCollection$Shelf" "count" "I" RX8 ∈ tables_1.filter nwWarm := List.mem_filter.mpr ⟨List.mem_of_getElem? (i := 58) rfl, rfl⟩
set_option maxRecDepth 20000 in
theorem nq_59 : Cond.fieldLinkNest RX7 60 "ProverbCollection$Shelf" "count" "I" RX8 ∈ tables_1.filter nwWarm := List.mem_filter.mpr ⟨List.mem_of_getElem? (i := 59) rfl, rfl⟩
set_option maxRecDepth 20000 in
theorem nq_60 : Cond.fieldLinkNest RX8 99 "ProverbCollection$Shelf" "count" "I" RX8 ∈ tables_1.filter nwWarm := List.mem_filter.mpr ⟨List.mem_of_getElem? (i := 60) rfl, rfl⟩
set_option maxRecDepth 20000 in
theorem nq_71 : Cond.fieldLinkNest RX1 30 "ProverbCollection$State" "sayings" "LProverbCollection$Shelf;" RX8 ∈ tables_1.filter nwWarm := List.mem_filter.mpr ⟨List.mem_of_getElem? (i := 71) rfl, rfl⟩
set_option maxRecDepth 20000 in
theorem nq_72 : Cond.fieldLinkNest RX0 28 "ProverbCollection$State" "sayings" "LProverbCollection$Shelf;" RX8 ∈ tables_1.filter nwWarm := List.mem_filter.mpr ⟨List.mem_of_getElem? (i := 72) rfl, rfl⟩
set_option maxRecDepth 20000 in
theorem nq_73 : Cond.fieldLinkNest RX4 40 "ProverbCollection$State" "sayings" "LProverbCollection$Shelf;" RX8 ∈ tables_1.filter nwWarm := List.mem_filter.mpr ⟨List.mem_of_getElem? (i := 73) rfl, rfl⟩
set_option maxRecDepth 20000 in
theorem nq_74 : Cond.fieldLinkNest RX2 31 "ProverbCollection$State" "sayings" "LProverbCollection$Shelf;" RX8 ∈ tables_1.filter nwWarm := List.mem_filter.mpr ⟨List.mem_of_getElem? (i := 74) rfl, rfl⟩
set_option maxRecDepth 20000 in
theorem nq_75 : Cond.fieldLinkNest RX8 74 "ProverbCollection$State" "sayings" "LProverbCollection$Shelf;" RX8 ∈ tables_1.filter nwWarm := List.mem_filter.mpr ⟨List.mem_of_getElem? (i := 75) rfl, rfl⟩
set_option maxRecDepth 20000 in
theorem nq_78 : Cond.fieldLinkNest RX2 47 "ProverbCollection$State" "regions" "[I" RX8 ∈ tables_1.filter nwWarm := List.mem_filter.mpr ⟨List.mem_of_getElem? (i := 78) rfl, rfl⟩
set_option maxRecDepth 20000 in
theorem nq_80 : Cond.fieldLinkNest RX4 28 "ProverbCollection$State" "patterns" "LProverbCollection$Shelf;" RX8 ∈ tables_1.filter nwWarm := List.mem_filter.mpr ⟨List.mem_of_getElem? (i := 80) rfl, rfl⟩
set_option maxRecDepth 20000 in
theorem nq_81 : Cond.fieldLinkNest RX8 144 "ProverbCollection$State" "patterns" "LProverbCollection$Shelf;" RX8 ∈ tables_1.filter nwWarm := List.mem_filter.mpr ⟨List.mem_of_getElem? (i := 81) rfl, rfl⟩
set_option maxRecDepth 20000 in
theorem nq_83 : Cond.fieldLinkNest RX1 42 "ProverbCollection$State" "costs" "[I" RX8 ∈ tables_1.filter nwWarm := List.mem_filter.mpr ⟨List.mem_of_getElem? (i := 83) rfl, rfl⟩
set_option maxRecDepth 20000 in
theorem nq_84 : Cond.fieldLinkNest RX0 57 "ProverbCollection$State" "costs" "[I" RX8 ∈ tables_1.filter nwWarm := List.mem_filter.mpr ⟨List.mem_of_getElem? (i := 84) rfl, rfl⟩
set_option maxRecDepth 20000 in
theorem nq_85 : Cond.fieldLinkNest RX8 114 "ProverbCollection$State" "costs" "[I" RX8 ∈ tables_1.filter nwWarm := List.mem_filter.mpr ⟨List.mem_of_getElem? (i := 85) rfl, rfl⟩
set_option maxRecDepth 20000 in
theorem nq_87 : Cond.fieldLinkNest RX2 44 "ProverbCollection$State" "limit" "I" RX8 ∈ tables_1.filter nwWarm := List.mem_filter.mpr ⟨List.mem_of_getElem? (i := 87) rfl, rfl⟩
set_option maxRecDepth 20000 in
theorem nq_88 : Cond.fieldLinkNest RX8 162 "ProverbCollection$State" "limit" "I" RX8 ∈ tables_1.filter nwWarm := List.mem_filter.mpr ⟨List.mem_of_getElem? (i := 88) rfl, rfl⟩
set_option maxRecDepth 20000 in
theorem nq_104 : Cond.methodLinkNest RX8 25 yX3_init RX8 ∈ tables_1.filter nwWarm := List.mem_filter.mpr ⟨List.mem_of_getElem? (i := 104) rfl, rfl⟩
set_option maxRecDepth 20000 in
theorem nq_110 : Cond.methodLinkNest RX3 17 yX7_init RX8 ∈ tables_1.filter nwWarm := List.mem_filter.mpr ⟨List.mem_of_getElem? (i := 110) rfl, rfl⟩
set_option maxRecDepth 20000 in
theorem nq_114 : Cond.fieldLinkNest RX8 195 "ProverbCollection$History" "count" "I" RX8 ∈ tables_1.filter nwWarm := List.mem_filter.mpr ⟨List.mem_of_getElem? (i := 114) rfl, rfl⟩
set_option maxRecDepth 20000 in
theorem nq_124 : Cond.methodLinkNest RX8 32 yX1_init RX8 ∈ tables_1.filter nwWarm := List.mem_filter.mpr ⟨List.mem_of_getElem? (i := 124) rfl, rfl⟩
set_option maxRecDepth 20000 in
theorem nq_129 : Cond.methodLinkNest RX1 11 yX5_init RX8 ∈ tables_1.filter nwWarm := List.mem_filter.mpr ⟨List.mem_of_getElem? (i := 129) rfl, rfl⟩
set_option maxRecDepth 20000 in
theorem nq_133 : Cond.fieldLinkNest RX0 34 "ProverbCollection$Edits" "first" "LProverbCollection$Sequence;" RX8 ∈ tables_1.filter nwWarm := List.mem_filter.mpr ⟨List.mem_of_getElem? (i := 133) rfl, rfl⟩
set_option maxRecDepth 20000 in
theorem nq_135 : Cond.fieldLinkNest RX0 50 "ProverbCollection$Edits" "second" "LProverbCollection$Sequence;" RX8 ∈ tables_1.filter nwWarm := List.mem_filter.mpr ⟨List.mem_of_getElem? (i := 135) rfl, rfl⟩
set_option maxRecDepth 20000 in
theorem nq_139 : Cond.fieldLinkNest RX8 137 "ProverbCollection$Edits" "listed" "I" RX8 ∈ tables_1.filter nwWarm := List.mem_filter.mpr ⟨List.mem_of_getElem? (i := 139) rfl, rfl⟩
set_option maxRecDepth 20000 in
theorem nq_153 : Cond.methodLinkNest RX8 39 yX4_init RX8 ∈ tables_1.filter nwWarm := List.mem_filter.mpr ⟨List.mem_of_getElem? (i := 153) rfl, rfl⟩
set_option maxRecDepth 20000 in
theorem nq_158 : Cond.methodLinkNest RX4 11 yX5_init RX8 ∈ tables_1.filter nwWarm := List.mem_filter.mpr ⟨List.mem_of_getElem? (i := 158) rfl, rfl⟩
set_option maxRecDepth 20000 in
theorem nq_163 : Cond.fieldLinkNest RX8 156 "ProverbCollection$Matcher" "firstWord" "[I" RX8 ∈ tables_1.filter nwWarm := List.mem_filter.mpr ⟨List.mem_of_getElem? (i := 163) rfl, rfl⟩
set_option maxRecDepth 20000 in
theorem nq_178 : Cond.methodLinkNest RX8 46 yX2_init RX8 ∈ tables_1.filter nwWarm := List.mem_filter.mpr ⟨List.mem_of_getElem? (i := 178) rfl, rfl⟩
set_option maxRecDepth 20000 in
theorem nq_184 : Cond.fieldLinkNest RX8 170 "ProverbCollection$Groups" "memberOf" "[I" RX8 ∈ tables_1.filter nwWarm := List.mem_filter.mpr ⟨List.mem_of_getElem? (i := 184) rfl, rfl⟩
set_option maxRecDepth 20000 in
theorem nq_186 : Cond.fieldLinkNest RX8 173 "ProverbCollection$Groups" "centres" "[I" RX8 ∈ tables_1.filter nwWarm := List.mem_filter.mpr ⟨List.mem_of_getElem? (i := 186) rfl, rfl⟩
set_option maxRecDepth 20000 in
theorem nq_188 : Cond.fieldLinkNest RX8 169 "ProverbCollection$Groups" "count" "I" RX8 ∈ tables_1.filter nwWarm := List.mem_filter.mpr ⟨List.mem_of_getElem? (i := 188) rfl, rfl⟩
set_option maxRecDepth 20000 in
theorem nq_200 : Cond.methodLinkNest RX8 53 yX0_init RX8 ∈ tables_1.filter nwWarm := List.mem_filter.mpr ⟨List.mem_of_getElem? (i := 200) rfl, rfl⟩
set_option maxRecDepth 20000 in
theorem nq_205 : Cond.methodLinkNest RX0 11 yX5_init RX8 ∈ tables_1.filter nwWarm := List.mem_filter.mpr ⟨List.mem_of_getElem? (i := 205) rfl, rfl⟩
set_option maxRecDepth 20000 in
theorem nq_248 : Cond.methodLinkNest RX8 66 yX5_add RX8 ∈ tables_1.filter nwWarm := List.mem_filter.mpr ⟨List.mem_of_getElem? (i := 248) rfl, rfl⟩
set_option maxRecDepth 20000 in
theorem nq_260 : Cond.methodLinkNest RX8 70 yX5_wordCount RX8 ∈ tables_1.filter nwWarm := List.mem_filter.mpr ⟨List.mem_of_getElem? (i := 260) rfl, rfl⟩
set_option maxRecDepth 20000 in
theorem nq_264 : Cond.methodLinkNest RX8 78 yX6_isFull RX8 ∈ tables_1.filter nwWarm := List.mem_filter.mpr ⟨List.mem_of_getElem? (i := 264) rfl, rfl⟩
set_option maxRecDepth 20000 in
theorem nq_268 : Cond.methodLinkNest RX8 84 yX3_keep RX8 ∈ tables_1.filter nwWarm := List.mem_filter.mpr ⟨List.mem_of_getElem? (i := 268) rfl, rfl⟩
set_option maxRecDepth 20000 in
theorem nq_272 : Cond.methodLinkNest RX3 22 yX7_copyFrom RX8 ∈ tables_1.filter nwWarm := List.mem_filter.mpr ⟨List.mem_of_getElem? (i := 272) rfl, rfl⟩
set_option maxRecDepth 20000 in
theorem nq_276 : Cond.methodLinkNest RX7 37 yX6_copyFrom RX8 ∈ tables_1.filter nwWarm := List.mem_filter.mpr ⟨List.mem_of_getElem? (i := 276) rfl, rfl⟩
set_option maxRecDepth 20000 in
theorem nq_280 : Cond.methodLinkNest RX6 57 yX8_copyAll RX8 ∈ tables_1.filter nwWarm := List.mem_filter.mpr ⟨List.mem_of_getElem? (i := 280) rfl, rfl⟩
set_option maxRecDepth 20000 in
theorem nq_289 : Cond.methodLinkNest RX7 41 yX8_copyAll RX8 ∈ tables_1.filter nwWarm := List.mem_filter.mpr ⟨List.mem_of_getElem? (i := 289) rfl, rfl⟩
set_option maxRecDepth 20000 in
theorem nq_291 : Cond.methodLinkNest RX8 88 yX7_takeSaying RX8 ∈ tables_1.filter nwWarm := List.mem_filter.mpr ⟨List.mem_of_getElem? (i := 291) rfl, rfl⟩
set_option maxRecDepth 20000 in
theorem nq_295 : Cond.methodLinkNest RX7 45 yX6_add RX8 ∈ tables_1.filter nwWarm := List.mem_filter.mpr ⟨List.mem_of_getElem? (i := 295) rfl, rfl⟩
set_option maxRecDepth 20000 in
theorem nq_300 : Cond.methodLinkNest RX6 42 yX5_at RX8 ∈ tables_1.filter nwWarm := List.mem_filter.mpr ⟨List.mem_of_getElem? (i := 300) rfl, rfl⟩
set_option maxRecDepth 20000 in
theorem nq_304 : Cond.methodLinkNest RX7 49 yX6_has RX8 ∈ tables_1.filter nwWarm := List.mem_filter.mpr ⟨List.mem_of_getElem? (i := 304) rfl, rfl⟩
set_option maxRecDepth 20000 in
theorem nq_312 : Cond.methodLinkNest RX8 92 yX6_has RX8 ∈ tables_1.filter nwWarm := List.mem_filter.mpr ⟨List.mem_of_getElem? (i := 312) rfl, rfl⟩
set_option maxRecDepth 20000 in
theorem nq_313 : Cond.methodLinkNest RX8 96 yX7_dropSaying RX8 ∈ tables_1.filter nwWarm := List.mem_filter.mpr ⟨List.mem_of_getElem? (i := 313) rfl, rfl⟩
set_option maxRecDepth 20000 in
theorem nq_317 : Cond.methodLinkNest RX7 53 yX6_drop RX8 ∈ tables_1.filter nwWarm := List.mem_filter.mpr ⟨List.mem_of_getElem? (i := 317) rfl, rfl⟩
set_option maxRecDepth 20000 in
theorem nq_322 : Cond.methodLinkNest RX6 45 yX8_closeUp RX8 ∈ tables_1.filter nwWarm := List.mem_filter.mpr ⟨List.mem_of_getElem? (i := 322) rfl, rfl⟩
set_option maxRecDepth 20000 in
theorem nq_325 : Cond.methodLinkNest RX7 56 yX8_closeUp RX8 ∈ tables_1.filter nwWarm := List.mem_filter.mpr ⟨List.mem_of_getElem? (i := 325) rfl, rfl⟩
set_option maxRecDepth 20000 in
theorem nq_334 : Cond.methodLinkNest RX8 102 yX6_size RX8 ∈ tables_1.filter nwWarm := List.mem_filter.mpr ⟨List.mem_of_getElem? (i := 334) rfl, rfl⟩
set_option maxRecDepth 20000 in
theorem nq_342 : Cond.methodLinkNest RX8 106 yX6_token RX8 ∈ tables_1.filter nwWarm := List.mem_filter.mpr ⟨List.mem_of_getElem? (i := 342) rfl, rfl⟩
set_option maxRecDepth 20000 in
theorem nq_351 : Cond.methodLinkNest RX8 110 yX7_sortByAge RX8 ∈ tables_1.filter nwWarm := List.mem_filter.mpr ⟨List.mem_of_getElem? (i := 351) rfl, rfl⟩
set_option maxRecDepth 20000 in
theorem nq_375 : Cond.methodLinkNest RX8 121 yX1_between RX8 ∈ tables_1.filter nwWarm := List.mem_filter.mpr ⟨List.mem_of_getElem? (i := 375) rfl, rfl⟩
set_option maxRecDepth 20000 in
theorem nq_379 : Cond.methodLinkNest RX1 36 yX6_load RX8 ∈ tables_1.filter nwWarm := List.mem_filter.mpr ⟨List.mem_of_getElem? (i := 379) rfl, rfl⟩
set_option maxRecDepth 20000 in
theorem nq_384 : Cond.methodLinkNest RX6 53 yX5_add RX8 ∈ tables_1.filter nwWarm := List.mem_filter.mpr ⟨List.mem_of_getElem? (i := 384) rfl, rfl⟩
set_option maxRecDepth 20000 in
theorem nq_398 : Cond.methodLinkNest RX1 72 yX5_at RX8 ∈ tables_1.filter nwWarm := List.mem_filter.mpr ⟨List.mem_of_getElem? (i := 398) rfl, rfl⟩
set_option maxRecDepth 20000 in
theorem nq_419 : Cond.methodLinkNest RX8 134 yX1_trace RX8 ∈ tables_1.filter nwWarm := List.mem_filter.mpr ⟨List.mem_of_getElem? (i := 419) rfl, rfl⟩
set_option maxRecDepth 20000 in
theorem nq_431 : Cond.methodLinkNest RX8 140 yX1_fromBeginning RX8 ∈ tables_1.filter nwWarm := List.mem_filter.mpr ⟨List.mem_of_getElem? (i := 431) rfl, rfl⟩
set_option maxRecDepth 20000 in
theorem nq_444 : Cond.methodLinkNest RX8 147 yX6_add RX8 ∈ tables_1.filter nwWarm := List.mem_filter.mpr ⟨List.mem_of_getElem? (i := 444) rfl, rfl⟩
set_option maxRecDepth 20000 in
theorem nq_449 : Cond.methodLinkNest RX8 150 yX6_drop RX8 ∈ tables_1.filter nwWarm := List.mem_filter.mpr ⟨List.mem_of_getElem? (i := 449) rfl, rfl⟩
set_option maxRecDepth 20000 in
theorem nq_454 : Cond.methodLinkNest RX8 153 yX4_match RX8 ∈ tables_1.filter nwWarm := List.mem_filter.mpr ⟨List.mem_of_getElem? (i := 454) rfl, rfl⟩
set_option maxRecDepth 20000 in
theorem nq_458 : Cond.methodLinkNest RX4 34 yX6_load RX8 ∈ tables_1.filter nwWarm := List.mem_filter.mpr ⟨List.mem_of_getElem? (i := 458) rfl, rfl⟩
set_option maxRecDepth 20000 in
theorem nq_467 : Cond.methodLinkNest RX4 72 yX8_copyAll RX8 ∈ tables_1.filter nwWarm := List.mem_filter.mpr ⟨List.mem_of_getElem? (i := 467) rfl, rfl⟩
set_option maxRecDepth 20000 in
theorem nq_468 : Cond.methodLinkNest RX4 65 yX5_at RX8 ∈ tables_1.filter nwWarm := List.mem_filter.mpr ⟨List.mem_of_getElem? (i := 468) rfl, rfl⟩
set_option maxRecDepth 20000 in
theorem nq_485 : Cond.methodLinkNest RX8 159 yX4_fit RX8 ∈ tables_1.filter nwWarm := List.mem_filter.mpr ⟨List.mem_of_getElem? (i := 485) rfl, rfl⟩
set_option maxRecDepth 20000 in
theorem nq_489 : Cond.methodLinkNest RX4 51 yX5_wordCount RX8 ∈ tables_1.filter nwWarm := List.mem_filter.mpr ⟨List.mem_of_getElem? (i := 489) rfl, rfl⟩
set_option maxRecDepth 20000 in
theorem nq_490 : Cond.methodLinkNest RX4 55 yX5_gapCount RX8 ∈ tables_1.filter nwWarm := List.mem_filter.mpr ⟨List.mem_of_getElem? (i := 490) rfl, rfl⟩
set_option maxRecDepth 20000 in
theorem nq_502 : Cond.methodLinkNest RX8 165 yX2_form RX8 ∈ tables_1.filter nwWarm := List.mem_filter.mpr ⟨List.mem_of_getElem? (i := 502) rfl, rfl⟩
set_option maxRecDepth 20000 in
theorem nq_506 : Cond.methodLinkNest RX2 25 yX7_sortByAge RX8 ∈ tables_1.filter nwWarm := List.mem_filter.mpr ⟨List.mem_of_getElem? (i := 506) rfl, rfl⟩
set_option maxRecDepth 20000 in
theorem nq_507 : Cond.methodLinkNest RX2 38 yX1_between RX8 ∈ tables_1.filter nwWarm := List.mem_filter.mpr ⟨List.mem_of_getElem? (i := 507) rfl, rfl⟩
set_option maxRecDepth 20000 in
theorem nq_520 : Cond.methodLinkNest RX8 176 yX2_members RX8 ∈ tables_1.filter nwWarm := List.mem_filter.mpr ⟨List.mem_of_getElem? (i := 520) rfl, rfl⟩
set_option maxRecDepth 20000 in
theorem nq_524 : Cond.methodLinkNest RX8 180 yX2_regions RX8 ∈ tables_1.filter nwWarm := List.mem_filter.mpr ⟨List.mem_of_getElem? (i := 524) rfl, rfl⟩
set_option maxRecDepth 20000 in
theorem nq_534 : Cond.methodLinkNest RX8 183 yX2_radius RX8 ∈ tables_1.filter nwWarm := List.mem_filter.mpr ⟨List.mem_of_getElem? (i := 534) rfl, rfl⟩
set_option maxRecDepth 20000 in
theorem nq_543 : Cond.methodLinkNest RX8 187 yX0_cost RX8 ∈ tables_1.filter nwWarm := List.mem_filter.mpr ⟨List.mem_of_getElem? (i := 543) rfl, rfl⟩
set_option maxRecDepth 20000 in
theorem nq_547 : Cond.methodLinkNest RX0 39 yX6_load RX8 ∈ tables_1.filter nwWarm := List.mem_filter.mpr ⟨List.mem_of_getElem? (i := 547) rfl, rfl⟩
set_option maxRecDepth 20000 in
theorem nq_549 : Cond.methodLinkNest RX0 53 yX5_addPart RX8 ∈ tables_1.filter nwWarm := List.mem_filter.mpr ⟨List.mem_of_getElem? (i := 549) rfl, rfl⟩
set_option maxRecDepth 20000 in
theorem nq_555 : Cond.methodLinkNest RX0 60 yX1_measure RX8 ∈ tables_1.filter nwWarm := List.mem_filter.mpr ⟨List.mem_of_getElem? (i := 555) rfl, rfl⟩
set_option maxRecDepth 20000 in
theorem nq_561 : Cond.methodLinkNest RX8 191 yX0_bestPair RX8 ∈ tables_1.filter nwWarm := List.mem_filter.mpr ⟨List.mem_of_getElem? (i := 561) rfl, rfl⟩
set_option maxRecDepth 20000 in
theorem nq_565 : Cond.methodLinkNest RX0 70 yX7_sortByAge RX8 ∈ tables_1.filter nwWarm := List.mem_filter.mpr ⟨List.mem_of_getElem? (i := 565) rfl, rfl⟩
set_option maxRecDepth 20000 in
theorem nq_566 : Cond.methodLinkNest RX0 74 yX7_place RX8 ∈ tables_1.filter nwWarm := List.mem_filter.mpr ⟨List.mem_of_getElem? (i := 566) rfl, rfl⟩
set_option maxRecDepth 20000 in
theorem nq_567 : Cond.methodLinkNest RX0 78 yX1_between RX8 ∈ tables_1.filter nwWarm := List.mem_filter.mpr ⟨List.mem_of_getElem? (i := 567) rfl, rfl⟩
set_option maxRecDepth 20000 in
theorem nq_573 : Cond.methodLinkNest RX8 196 yX3_restore RX8 ∈ tables_1.filter nwWarm := List.mem_filter.mpr ⟨List.mem_of_getElem? (i := 573) rfl, rfl⟩
end
section
/-! ===== the walk as a judgement on (world, locals, pc, stack): G; a row an instruction; contracts MI, MV ===== -/
/-- everything of a running method but its heap, its locals and its stack: p e R s m args below meth c A nL Q -/
abbrev CE : Type := Program × Env × Room × State × MethodId × Array Value × List Frame × Method × Code × (Nat → Prop) × Nat × (State → Prop)
abbrev CE.p (E : CE) : Program := E.1
abbrev CE.e (E : CE) : Env := E.2.1
abbrev CE.R (E : CE) : Room := E.2.2.1
abbrev CE.s (E : CE) : State := E.2.2.2.1
abbrev CE.m (E : CE) : MethodId := E.2.2.2.2.1
abbrev CE.as (E : CE) : Array Value := E.2.2.2.2.2.1
abbrev CE.bl (E : CE) : List Frame := E.2.2.2.2.2.2.1
abbrev CE.meth (E : CE) : Method := E.2.2.2.2.2.2.2.1
abbrev CE.c (E : CE) : Code := E.2.2.2.2.2.2.2.2.1
abbrev CE.A (E : CE) : Nat → Prop := E.2.2.2.2.2.2.2.2.2.1
abbrev CE.nL (E : CE) : Nat := E.2.2.2.2.2.2.2.2.2.2.1
abbrev CE.Q (E : CE) : State → Prop := E.2.2.2.2.2.2.2.2.2.2.2
def nwL : List Cond := tables_1.filter nwWarm
def NW (U : State) : Prop := ∀ w ∈ nwL, va_Nw w U
theorem NW.warm {s U : State} (hW : s.WarmedH U.vm) (h : NW s) : NW U := by
  intro w hw
  have h1 := h w hw
  have h2 := (List.mem_filter.mp hw).2
  cases w <;> first | exact va_Nw.warmF hW h1 | exact va_Nw.warmM hW h1 | exact absurd h2 (by simp [nwWarm])
theorem NW.same {u U : State} (hv : u.vm = U.vm) (h : NW u) : NW U := by
  intro w hw
  have h1 := h w hw
  have h2 := (List.mem_filter.mp hw).2
  cases w <;> first | exact va_Nw.same rfl hv h1 | exact absurd h2 (by simp [nwWarm])
abbrev TY (cI cS cT : ClassId) : List (ClassId × FieldType) := [(cI, .int), (cS, .object RX7), (cT, .array .int)]
/-- what stays while a method runs -/
def Cx (l : Launch) (D : va_G) (ty : List (ClassId × FieldType)) (E : CE) (rm : Room) (cc : ByteArray) (own : String) : Prop :=
  E.p.tables.exec = Jvm.exec ∧ E.c.code = cc ∧ E.c.maxLocals = E.nL ∧ E.s.vm.findClass own = some E.m.cls ∧ (∀ w ∈ wsL_law, w.before E.as E.s = true) ∧ NW E.s ∧ va_K D vwCl ty E.s ∧ (∀ q, E.s.heap.size ≤ q → E.A q) ∧ E.R = rm
/-- from the frame at pc with these locals and this stack, over any heap that holds the world ws, the machine comes to Q -/
def G (l : Launch) (D : va_G) (E : CE) (k n : Nat) (ws : va_W) (lv : List (Nat × Value)) (pc : Nat) (st : List Value) : Prop :=
  ∀ (H : Heap) (locs : List Loc) (ls : Array Slot), va_P D vwCl ws H → va_D E.A ws → va_S E.A E.s.heap H locs → lv_has ls E.nL lv → W E.p l E.e E.R E.s E.m E.as E.bl E.meth E.c H locs k n E.Q (F0 E.m pc ls st)
section GROWS
variable {l : Launch} {D : va_G} {ty : List (ClassId × FieldType)} {E : CE} {rm : Room} {cc : ByteArray} {own : String} {k n : Nat} {ws : va_W} {lv : List (Nat × Value)} {rest st : List Value}
theorem G.sub {pc : Nat} (is : List Nat) {lv' : List (Nat × Value)} (h : lv_pick lv is = lv') (k9 : G l D E k n ws lv' pc st) : G l D E k n ws lv pc st :=
  fun H locs ls hP hD hS hl => k9 H locs ls hP hD hS (lv_sub hl is h)
theorem G.perm {pc : Nat} (is : List Nat) {ws' : va_W} (h : is.map (fun i => ws[i]?) = ws'.map some) (hn : va_nd is = true) (k9 : G l D E k n ws' lv pc st) : G l D E k n ws lv pc st := by
  intro H locs ls hP hD hS hl
  refine k9 H locs ls (hP.sub is ?_) (hD.sub is hn h) hS hl
  have : ∀ (js : List Nat) (w : va_W), js.map (fun i => ws[i]?) = w.map some → js.filterMap (fun i => ws[i]?) = w := by
    intro js
    induction js with
    | nil => intro w hw; cases w with
      | nil => rfl
      | cons a b => simp at hw
    | cons j js ih => intro w hw; cases w with
      | nil => simp at hw
      | cons a b =>
        simp only [List.map_cons, List.cons.injEq] at hw
        rw [List.filterMap_cons, hw.1]
        simp only
        rw [ih b hw.2]
  exact this is ws' h
theorem g_iconst (pc : Nat) {i : Int} {v : Int32} (hC : Cx l D ty E rm cc own) (hdg : decode cc pc = .ok (.iconst i, 1)) (hv : Int32.ofInt i = v) (k9 : G l D E k n ws lv (pc + 1) (.int v :: rest)) : G l D E k n ws lv pc rest :=
  fun H locs ls hP hD hS hl => lv_iconst hC.1 hC.2.1 hdg hv (k9 H locs ls hP hD hS hl)
theorem g_bipush (pc : Nat) {i : Int} {v : Int32} (hC : Cx l D ty E rm cc own) (hdg : decode cc pc = .ok (.bipush i, 2)) (hv : (Int8.ofInt i).toInt32 = v) (k9 : G l D E k n ws lv (pc + 2) (.int v :: rest)) : G l D E k n ws lv pc rest :=
  fun H locs ls hP hD hS hl => lv_bipush hC.1 hC.2.1 hdg hv (k9 H locs ls hP hD hS hl)
theorem g_sipush (pc : Nat) {i : Int} {v : Int32} (hC : Cx l D ty E rm cc own) (hdg : decode cc pc = .ok (.sipush i, 3)) (hv : (Int16.ofInt i).toInt32 = v) (k9 : G l D E k n ws lv (pc + 3) (.int v :: rest)) : G l D E k n ws lv pc rest :=
  fun H locs ls hP hD hS hl => lv_sipush hC.1 hC.2.1 hdg hv (k9 H locs ls hP hD hS hl)
theorem g_lconst (pc : Nat) {i : Fin 2} {v : Int64} (hC : Cx l D ty E rm cc own) (hdg : decode cc pc = .ok (.lconst i, 1)) (hv : Int64.ofNat (i : Nat) = v) (k9 : G l D E k n ws lv (pc + 1) (.long v :: rest)) : G l D E k n ws lv pc rest :=
  fun H locs ls hP hD hS hl => lv_lconst hC.1 hC.2.1 hdg hv (k9 H locs ls hP hD hS hl)
theorem g_ldc (pc : Nat) {idx : Nat} {v : Int32} (hC : Cx l D ty E rm cc own) (hdg : decode cc pc = .ok (.ldc idx, 2)) (hw : Cond.constant own idx v ∈ wsL_law) (k9 : G l D E k n ws lv (pc + 2) (.int v :: rest)) : G l D E k n ws lv pc rest :=
  fun H locs ls hP hD hS hl => lv_ldc hC.1 hC.2.1 hC.2.2.2.1 (hC.2.2.2.2.1 _ hw) hdg (k9 H locs ls hP hD hS hl)
theorem g_ldc_w (pc : Nat) {idx : Nat} {v : Int32} (hC : Cx l D ty E rm cc own) (hdg : decode cc pc = .ok (.ldc_w idx, 3)) (hw : Cond.constant own idx v ∈ wsL_law) (k9 : G l D E k n ws lv (pc + 3) (.int v :: rest)) : G l D E k n ws lv pc rest :=
  fun H locs ls hP hD hS hl => lv_ldcw hC.1 hC.2.1 hC.2.2.2.1 (hC.2.2.2.2.1 _ hw) hdg (k9 H locs ls hP hD hS hl)
theorem g_ldcf (pc : Nat) {idx : Nat} {v : UInt32} (hC : Cx l D ty E rm cc own) (hdg : decode cc pc = .ok (.ldc idx, 2)) (hw : Cond.constantFloat own idx v ∈ wsL_law) (k9 : G l D E k n ws lv (pc + 2) (.float v :: rest)) : G l D E k n ws lv pc rest :=
  fun H locs ls hP hD hS hl => lv_ldcf hC.1 hC.2.1 hC.2.2.2.1 (hC.2.2.2.2.1 _ hw) hdg (k9 H locs ls hP hD hS hl)
theorem g_ldc2 (pc : Nat) {idx : Nat} {v : Int64} (hC : Cx l D ty E rm cc own) (hdg : decode cc pc = .ok (.ldc2_w idx, 3)) (hw : Cond.constantLong own idx v ∈ wsL_law) (k9 : G l D E k n ws lv (pc + 3) (.long v :: rest)) : G l D E k n ws lv pc rest :=
  fun H locs ls hP hD hS hl => lv_ldc2 hC.1 hC.2.1 hC.2.2.2.1 (hC.2.2.2.2.1 _ hw) hdg (k9 H locs ls hP hD hS hl)
theorem g_iload_n (pc q : Nat) {i : Fin 4} {x : Int32} (hC : Cx l D ty E rm cc own) (hdg : decode cc pc = .ok (.iload_n i, 1)) (hq : lv[q]? = some ((i : Nat), .int x)) (k9 : G l D E k n ws lv (pc + 1) (.int x :: rest)) : G l D E k n ws lv pc rest :=
  fun H locs ls hP hD hS hl => lv_iload_n hC.1 hC.2.1 hdg rfl (lv_at hl q hq) (k9 H locs ls hP hD hS hl)
theorem g_iload (pc q : Nat) {i : Nat} {x : Int32} (hC : Cx l D ty E rm cc own) (hdg : decode cc pc = .ok (.iload i, 2)) (hq : lv[q]? = some (i, .int x)) (k9 : G l D E k n ws lv (pc + 2) (.int x :: rest)) : G l D E k n ws lv pc rest :=
  fun H locs ls hP hD hS hl => lv_iload hC.1 hC.2.1 hdg (lv_at hl q hq) (k9 H locs ls hP hD hS hl)
theorem g_aload_n (pc q : Nat) {i : Fin 4} {x : Nat} (hC : Cx l D ty E rm cc own) (hdg : decode cc pc = .ok (.aload_n i, 1)) (hq : lv[q]? = some ((i : Nat), .ref x)) (k9 : G l D E k n ws lv (pc + 1) (.ref x :: rest)) : G l D E k n ws lv pc rest :=
  fun H locs ls hP hD hS hl => lv_aload_n hC.1 hC.2.1 hdg rfl (lv_at hl q hq) (k9 H locs ls hP hD hS hl)
theorem g_aload (pc q : Nat) {i x : Nat} (hC : Cx l D ty E rm cc own) (hdg : decode cc pc = .ok (.aload i, 2)) (hq : lv[q]? = some (i, .ref x)) (k9 : G l D E k n ws lv (pc + 2) (.ref x :: rest)) : G l D E k n ws lv pc rest :=
  fun H locs ls hP hD hS hl => lv_aload hC.1 hC.2.1 hdg (lv_at hl q hq) (k9 H locs ls hP hD hS hl)
theorem g_lload_n (pc q : Nat) {i : Fin 4} {x : Int64} (hC : Cx l D ty E rm cc own) (hdg : decode cc pc = .ok (.lload_n i, 1)) (hq : lv[q]? = some ((i : Nat), .long x)) (k9 : G l D E k n ws lv (pc + 1) (.long x :: rest)) : G l D E k n ws lv pc rest :=
  fun H locs ls hP hD hS hl => lv_lload_n hC.1 hC.2.1 hdg rfl (lv_at hl q hq) (k9 H locs ls hP hD hS hl)
theorem g_lload (pc q : Nat) {i : Nat} {x : Int64} (hC : Cx l D ty E rm cc own) (hdg : decode cc pc = .ok (.lload i, 2)) (hq : lv[q]? = some (i, .long x)) (k9 : G l D E k n ws lv (pc + 2) (.long x :: rest)) : G l D E k n ws lv pc rest :=
  fun H locs ls hP hD hS hl => lv_lload hC.1 hC.2.1 hdg (lv_at hl q hq) (k9 H locs ls hP hD hS hl)
theorem g_fload_n (pc q : Nat) {i : Fin 4} {x : UInt32} (hC : Cx l D ty E rm cc own) (hdg : decode cc pc = .ok (.fload_n i, 1)) (hq : lv[q]? = some ((i : Nat), .float x)) (k9 : G l D E k n ws lv (pc + 1) (.float x :: rest)) : G l D E k n ws lv pc rest :=
  fun H locs ls hP hD hS hl => lv_fload_n hC.1 hC.2.1 hdg rfl (lv_at hl q hq) (k9 H locs ls hP hD hS hl)
theorem g_fload (pc q : Nat) {i : Nat} {x : UInt32} (hC : Cx l D ty E rm cc own) (hdg : decode cc pc = .ok (.fload i, 2)) (hq : lv[q]? = some (i, .float x)) (k9 : G l D E k n ws lv (pc + 2) (.float x :: rest)) : G l D E k n ws lv pc rest :=
  fun H locs ls hP hD hS hl => lv_fload hC.1 hC.2.1 hdg (lv_at hl q hq) (k9 H locs ls hP hD hS hl)
/-- the locals behind a store -/
abbrev lvS (i : Nat) (v : Value) (lv : List (Nat × Value)) : List (Nat × Value) := (i, v) :: lv.filter (fun q => !(q.1 == i) && !(q.1 + 1 == i && q.2.category == 2))
theorem g_istore_n (pc : Nat) {i : Fin 4} {x : Int32} (lv' : List (Nat × Value)) (hC : Cx l D ty E rm cc own) (hdg : decode cc pc = .ok (.istore_n i, 1)) (hn : (i : Nat) < E.nL) (hl' : lvS (i : Nat) (.int x) lv = lv') (k9 : G l D E k n ws lv' (pc + 1) rest) : G l D E k n ws lv pc (.int x :: rest) :=
  fun H locs ls hP hD hS hl => lv_istore_n hC.1 hC.2.1 hdg rfl hl hn hl' (fun ls' hl2 => k9 H locs ls' hP hD hS hl2)
theorem g_istore (pc : Nat) {i : Nat} {x : Int32} (lv' : List (Nat × Value)) (hC : Cx l D ty E rm cc own) (hdg : decode cc pc = .ok (.istore i, 2)) (hn : i < E.nL) (hl' : lvS i (.int x) lv = lv') (k9 : G l D E k n ws lv' (pc + 2) rest) : G l D E k n ws lv pc (.int x :: rest) :=
  fun H locs ls hP hD hS hl => lv_istore hC.1 hC.2.1 hdg hl hn hl' (fun ls' hl2 => k9 H locs ls' hP hD hS hl2)
theorem g_astore_n (pc : Nat) {i : Fin 4} {x : Nat} (lv' : List (Nat × Value)) (hC : Cx l D ty E rm cc own) (hdg : decode cc pc = .ok (.astore_n i, 1)) (hn : (i : Nat) < E.nL) (hl' : lvS (i : Nat) (.ref x) lv = lv') (k9 : G l D E k n ws lv' (pc + 1) rest) : G l D E k n ws lv pc (.ref x :: rest) :=
  fun H locs ls hP hD hS hl => lv_astore_n hC.1 hC.2.1 hdg rfl hl hn hl' (fun ls' hl2 => k9 H locs ls' hP hD hS hl2)
theorem g_fstore_n (pc : Nat) {i : Fin 4} {x : UInt32} (lv' : List (Nat × Value)) (hC : Cx l D ty E rm cc own) (hdg : decode cc pc = .ok (.fstore_n i, 1)) (hn : (i : Nat) < E.nL) (hl' : lvS (i : Nat) (.float x) lv = lv') (k9 : G l D E k n ws lv' (pc + 1) rest) : G l D E k n ws lv pc (.float x :: rest) :=
  fun H locs ls hP hD hS hl => lv_fstore_n hC.1 hC.2.1 hdg rfl hl hn hl' (fun ls' hl2 => k9 H locs ls' hP hD hS hl2)
theorem g_fstore (pc : Nat) {i : Nat} {x : UInt32} (lv' : List (Nat × Value)) (hC : Cx l D ty E rm cc own) (hdg : decode cc pc = .ok (.fstore i, 2)) (hn : i < E.nL) (hl' : lvS i (.float x) lv = lv') (k9 : G l D E k n ws lv' (pc + 2) rest) : G l D E k n ws lv pc (.float x :: rest) :=
  fun H locs ls hP hD hS hl => lv_fstore hC.1 hC.2.1 hdg hl hn hl' (fun ls' hl2 => k9 H locs ls' hP hD hS hl2)
theorem g_iinc (pc q : Nat) {i : Nat} {j : Int} {x v : Int32} (lv' : List (Nat × Value)) (hC : Cx l D ty E rm cc own) (hdg : decode cc pc = .ok (.iinc i j, 3)) (hq : lv[q]? = some (i, .int x)) (hv : Int32.ofInt j = v) (hn : i < E.nL) (hl' : lvS i (.int (x + v)) lv = lv') (k9 : G l D E k n ws lv' (pc + 3) rest) : G l D E k n ws lv pc rest :=
  fun H locs ls hP hD hS hl => lv_iinc hC.1 hC.2.1 hdg hl hq (by rw [hv]) hn hl' (fun ls' hl2 => k9 H locs ls' hP hD hS hl2)
theorem g_iadd (pc : Nat) {x y : Int32} (hC : Cx l D ty E rm cc own) (hdg : decode cc pc = .ok (.iadd, 1)) (k9 : G l D E k n ws lv (pc + 1) (.int (x + y) :: rest)) : G l D E k n ws lv pc (.int y :: .int x :: rest) :=
  fun H locs ls hP hD hS hl => lv_iadd hC.1 hC.2.1 hdg (k9 H locs ls hP hD hS hl)
theorem g_isub (pc : Nat) {x y : Int32} (hC : Cx l D ty E rm cc own) (hdg : decode cc pc = .ok (.isub, 1)) (k9 : G l D E k n ws lv (pc + 1) (.int (x - y) :: rest)) : G l D E k n ws lv pc (.int y :: .int x :: rest) :=
  fun H locs ls hP hD hS hl => lv_isub hC.1 hC.2.1 hdg (k9 H locs ls hP hD hS hl)
theorem g_imul (pc : Nat) {x y : Int32} (hC : Cx l D ty E rm cc own) (hdg : decode cc pc = .ok (.imul, 1)) (k9 : G l D E k n ws lv (pc + 1) (.int (x * y) :: rest)) : G l D E k n ws lv pc (.int y :: .int x :: rest) :=
  fun H locs ls hP hD hS hl => lv_imul hC.1 hC.2.1 hdg (k9 H locs ls hP hD hS hl)
theorem g_idiv (pc : Nat) {x y : Int32} (hC : Cx l D ty E rm cc own) (hdg : decode cc pc = .ok (.idiv, 1)) (hne : ¬ y = 0) (k9 : G l D E k n ws lv (pc + 1) (.int (x / y) :: rest)) : G l D E k n ws lv pc (.int y :: .int x :: rest) :=
  fun H locs ls hP hD hS hl => lv_idiv hC.1 hC.2.1 hdg hne (k9 H locs ls hP hD hS hl)
theorem g_iand (pc : Nat) {x y : Int32} (hC : Cx l D ty E rm cc own) (hdg : decode cc pc = .ok (.iand, 1)) (k9 : G l D E k n ws lv (pc + 1) (.int (x &&& y) :: rest)) : G l D E k n ws lv pc (.int y :: .int x :: rest) :=
  fun H locs ls hP hD hS hl => lv_iand hC.1 hC.2.1 hdg (k9 H locs ls hP hD hS hl)
theorem g_ior (pc : Nat) {x y : Int32} (hC : Cx l D ty E rm cc own) (hdg : decode cc pc = .ok (.ior, 1)) (k9 : G l D E k n ws lv (pc + 1) (.int (x ||| y) :: rest)) : G l D E k n ws lv pc (.int y :: .int x :: rest) :=
  fun H locs ls hP hD hS hl => lv_ior hC.1 hC.2.1 hdg (k9 H locs ls hP hD hS hl)
theorem g_ishl (pc : Nat) {x y : Int32} (hC : Cx l D ty E rm cc own) (hdg : decode cc pc = .ok (.ishl, 1)) (k9 : G l D E k n ws lv (pc + 1) (.int (x <<< (y &&& 31)) :: rest)) : G l D E k n ws lv pc (.int y :: .int x :: rest) :=
  fun H locs ls hP hD hS hl => lv_ishl hC.1 hC.2.1 hdg (k9 H locs ls hP hD hS hl)
theorem g_iushr (pc : Nat) {x y : Int32} (hC : Cx l D ty E rm cc own) (hdg : decode cc pc = .ok (.iushr, 1)) (k9 : G l D E k n ws lv (pc + 1) (.int ((x.toUInt32 >>> (y.toUInt32 &&& Int32.toUInt32 31)).toInt32) :: rest)) : G l D E k n ws lv pc (.int y :: .int x :: rest) :=
  fun H locs ls hP hD hS hl => lv_iushr hC.1 hC.2.1 hdg rfl (k9 H locs ls hP hD hS hl)
theorem g_i2l (pc : Nat) {x : Int32} (hC : Cx l D ty E rm cc own) (hdg : decode cc pc = .ok (.i2l, 1)) (k9 : G l D E k n ws lv (pc + 1) (.long x.toInt64 :: rest)) : G l D E k n ws lv pc (.int x :: rest) :=
  fun H locs ls hP hD hS hl => lv_i2l hC.1 hC.2.1 hdg rfl (k9 H locs ls hP hD hS hl)
theorem g_lcmp (pc : Nat) {x y : Int64} (hC : Cx l D ty E rm cc own) (hdg : decode cc pc = .ok (.lcmp, 1)) (k9 : G l D E k n ws lv (pc + 1) (.int (lg_cmp x y) :: rest)) : G l D E k n ws lv pc (.long y :: .long x :: rest) :=
  fun H locs ls hP hD hS hl => W.lcmp hC.1 hC.2.1 hdg (k9 H locs ls hP hD hS hl)
theorem g_dup (pc : Nat) {va : Value} (hC : Cx l D ty E rm cc own) (hdg : decode cc pc = .ok (.dup, 1)) (hva : va.category = 1) (k9 : G l D E k n ws lv (pc + 1) (va :: va :: rest)) : G l D E k n ws lv pc (va :: rest) :=
  fun H locs ls hP hD hS hl => lv_dup hC.1 hC.2.1 hdg hva (k9 H locs ls hP hD hS hl)
theorem g_dup2 (pc : Nat) {va vb : Value} (hC : Cx l D ty E rm cc own) (hdg : decode cc pc = .ok (.dup2, 1)) (hva : va.category = 1) (hvb : vb.category = 1) (k9 : G l D E k n ws lv (pc + 1) (va :: vb :: va :: vb :: rest)) : G l D E k n ws lv pc (va :: vb :: rest) :=
  fun H locs ls hP hD hS hl => lv_dup2_11 hC.1 hC.2.1 hdg hva hvb (k9 H locs ls hP hD hS hl)
theorem g_pop (pc : Nat) {va : Value} (hC : Cx l D ty E rm cc own) (hdg : decode cc pc = .ok (.pop, 1)) (hva : va.category = 1) (k9 : G l D E k n ws lv (pc + 1) rest) : G l D E k n ws lv pc (va :: rest) :=
  fun H locs ls hP hD hS hl => lv_pop hC.1 hC.2.1 hdg hva (k9 H locs ls hP hD hS hl)
theorem g_goto (pc tgt : Nat) {off : Int} (hC : Cx l D ty E rm cc own) (hdg : decode cc pc = .ok (.goto off, 3)) (ht : (pc : Int) + off = (tgt : Int)) (k9 : G l D E k n ws lv tgt rest) : G l D E k n ws lv pc rest :=
  fun H locs ls hP hD hS hl => lv_goto hC.1 hC.2.1 hdg ht (k9 H locs ls hP hD hS hl)
theorem g_if_eq (pc tgt : Nat) {x : Int32} {off : Int} (hC : Cx l D ty E rm cc own) (hdg : decode cc pc = .ok (.ifCond .eq off, 3)) (ht : (pc : Int) + off = (tgt : Int)) (kt : x = 0 → G l D E k n ws lv tgt rest) (kf : ¬ x = 0 → G l D E k n ws lv (pc + 3) rest) : G l D E k n ws lv pc (.int x :: rest) :=
  fun H locs ls hP hD hS hl => lv_if_eq hC.1 hC.2.1 hdg ht (fun h => kt h H locs ls hP hD hS hl) (fun h => kf h H locs ls hP hD hS hl)
theorem g_if_ne (pc tgt : Nat) {x : Int32} {off : Int} (hC : Cx l D ty E rm cc own) (hdg : decode cc pc = .ok (.ifCond .ne off, 3)) (ht : (pc : Int) + off = (tgt : Int)) (kt : ¬ x = 0 → G l D E k n ws lv tgt rest) (kf : x = 0 → G l D E k n ws lv (pc + 3) rest) : G l D E k n ws lv pc (.int x :: rest) :=
  fun H locs ls hP hD hS hl => lv_if_ne hC.1 hC.2.1 hdg ht (fun h => kt h H locs ls hP hD hS hl) (fun h => kf h H locs ls hP hD hS hl)
theorem g_if_lt (pc tgt : Nat) {x : Int32} {off : Int} (hC : Cx l D ty E rm cc own) (hdg : decode cc pc = .ok (.ifCond .lt off, 3)) (ht : (pc : Int) + off = (tgt : Int)) (kt : x < 0 → G l D E k n ws lv tgt rest) (kf : ¬ x < 0 → G l D E k n ws lv (pc + 3) rest) : G l D E k n ws lv pc (.int x :: rest) :=
  fun H locs ls hP hD hS hl => lv_if_lt hC.1 hC.2.1 hdg ht (fun h => kt h H locs ls hP hD hS hl) (fun h => kf h H locs ls hP hD hS hl)
theorem g_if_ge (pc tgt : Nat) {x : Int32} {off : Int} (hC : Cx l D ty E rm cc own) (hdg : decode cc pc = .ok (.ifCond .ge off, 3)) (ht : (pc : Int) + off = (tgt : Int)) (kt : 0 ≤ x → G l D E k n ws lv tgt rest) (kf : ¬ 0 ≤ x → G l D E k n ws lv (pc + 3) rest) : G l D E k n ws lv pc (.int x :: rest) :=
  fun H locs ls hP hD hS hl => lv_if_ge hC.1 hC.2.1 hdg ht (fun h => kt h H locs ls hP hD hS hl) (fun h => kf h H locs ls hP hD hS hl)
theorem g_if_gt (pc tgt : Nat) {x : Int32} {off : Int} (hC : Cx l D ty E rm cc own) (hdg : decode cc pc = .ok (.ifCond .gt off, 3)) (ht : (pc : Int) + off = (tgt : Int)) (kt : 0 < x → G l D E k n ws lv tgt rest) (kf : ¬ 0 < x → G l D E k n ws lv (pc + 3) rest) : G l D E k n ws lv pc (.int x :: rest) :=
  fun H locs ls hP hD hS hl => lv_if_gt hC.1 hC.2.1 hdg ht (fun h => kt h H locs ls hP hD hS hl) (fun h => kf h H locs ls hP hD hS hl)
theorem g_if_le (pc tgt : Nat) {x : Int32} {off : Int} (hC : Cx l D ty E rm cc own) (hdg : decode cc pc = .ok (.ifCond .le off, 3)) (ht : (pc : Int) + off = (tgt : Int)) (kt : x ≤ 0 → G l D E k n ws lv tgt rest) (kf : ¬ x ≤ 0 → G l D E k n ws lv (pc + 3) rest) : G l D E k n ws lv pc (.int x :: rest) :=
  fun H locs ls hP hD hS hl => lv_if_le hC.1 hC.2.1 hdg ht (fun h => kt h H locs ls hP hD hS hl) (fun h => kf h H locs ls hP hD hS hl)
theorem g_icmp_eq (pc tgt : Nat) {x y : Int32} {off : Int} (hC : Cx l D ty E rm cc own) (hdg : decode cc pc = .ok (.if_icmp .eq off, 3)) (ht : (pc : Int) + off = (tgt : Int)) (kt : x = y → G l D E k n ws lv tgt rest) (kf : ¬ x = y → G l D E k n ws lv (pc + 3) rest) : G l D E k n ws lv pc (.int y :: .int x :: rest) :=
  fun H locs ls hP hD hS hl => lv_icmp_eq hC.1 hC.2.1 hdg ht (fun h => kt h H locs ls hP hD hS hl) (fun h => kf h H locs ls hP hD hS hl)
theorem g_icmp_ne (pc tgt : Nat) {x y : Int32} {off : Int} (hC : Cx l D ty E rm cc own) (hdg : decode cc pc = .ok (.if_icmp .ne off, 3)) (ht : (pc : Int) + off = (tgt : Int)) (kt : ¬ x = y → G l D E k n ws lv tgt rest) (kf : x = y → G l D E k n ws lv (pc + 3) rest) : G l D E k n ws lv pc (.int y :: .int x :: rest) :=
  fun H locs ls hP hD hS hl => lv_icmp_ne hC.1 hC.2.1 hdg ht (fun h => kt h H locs ls hP hD hS hl) (fun h => kf h H locs ls hP hD hS hl)
theorem g_icmp_lt (pc tgt : Nat) {x y : Int32} {off : Int} (hC : Cx l D ty E rm cc own) (hdg : decode cc pc = .ok (.if_icmp .lt off, 3)) (ht : (pc : Int) + off = (tgt : Int)) (kt : x < y → G l D E k n ws lv tgt rest) (kf : ¬ x < y → G l D E k n ws lv (pc + 3) rest) : G l D E k n ws lv pc (.int y :: .int x :: rest) :=
  fun H locs ls hP hD hS hl => lv_icmp_lt hC.1 hC.2.1 hdg ht (fun h => kt h H locs ls hP hD hS hl) (fun h => kf h H locs ls hP hD hS hl)
theorem g_icmp_ge (pc tgt : Nat) {x y : Int32} {off : Int} (hC : Cx l D ty E rm cc own) (hdg : decode cc pc = .ok (.if_icmp .ge off, 3)) (ht : (pc : Int) + off = (tgt : Int)) (kt : y ≤ x → G l D E k n ws lv tgt rest) (kf : ¬ y ≤ x → G l D E k n ws lv (pc + 3) rest) : G l D E k n ws lv pc (.int y :: .int x :: rest) :=
  fun H locs ls hP hD hS hl => lv_icmp_ge hC.1 hC.2.1 hdg ht (fun h => kt h H locs ls hP hD hS hl) (fun h => kf h H locs ls hP hD hS hl)
theorem g_icmp_gt (pc tgt : Nat) {x y : Int32} {off : Int} (hC : Cx l D ty E rm cc own) (hdg : decode cc pc = .ok (.if_icmp .gt off, 3)) (ht : (pc : Int) + off = (tgt : Int)) (kt : y < x → G l D E k n ws lv tgt rest) (kf : ¬ y < x → G l D E k n ws lv (pc + 3) rest) : G l D E k n ws lv pc (.int y :: .int x :: rest) :=
  fun H locs ls hP hD hS hl => lv_icmp_gt hC.1 hC.2.1 hdg ht (fun h => kt h H locs ls hP hD hS hl) (fun h => kf h H locs ls hP hD hS hl)
theorem g_icmp_le (pc tgt : Nat) {x y : Int32} {off : Int} (hC : Cx l D ty E rm cc own) (hdg : decode cc pc = .ok (.if_icmp .le off, 3)) (ht : (pc : Int) + off = (tgt : Int)) (kt : x ≤ y → G l D E k n ws lv tgt rest) (kf : ¬ x ≤ y → G l D E k n ws lv (pc + 3) rest) : G l D E k n ws lv pc (.int y :: .int x :: rest) :=
  fun H locs ls hP hD hS hl => lv_icmp_le hC.1 hC.2.1 hdg ht (fun h => kt h H locs ls hP hD hS hl) (fun h => kf h H locs ls hP hD hS hl)
end GROWS
end
section
/-! ===== fields, arrays, calls and ends, over G ===== -/
section GWORLD
variable {l : Launch} {D : va_G} {ty : List (ClassId × FieldType)} {E : CE} {rm : Room} {cc : ByteArray} {own : String} {k n : Nat} {ws : va_W} {lv : List (Nat × Value)} {rest st : List Value}
theorem G.to {pc : Nat} {ws' : va_W} (h : ws = ws') (k9 : G l D E k n ws' lv pc st) : G l D E k n ws lv pc st := h ▸ k9
theorem g_get (pc q0 k0 : Nat) {a ci idx N : Nat} {C : String} {T : u_T} {fs : List Value} {v : Value} (hC : Cx l D ty E rm cc own) (hin : ∀ w ∈ u_ws C T N, w ∈ wsL_law) (hw : Cond.fieldLink own idx (T k0).1 (T k0).2.1 (T k0).2.2.1 ∈ wsL_law) (hdg : decode cc pc = .ok (.getfield idx, 3))
    (he : ws[q0]? = some (a, .inr (ci, fs))) (hc : vwCl[ci]? = some (C, T, N)) (hk : k0 < N) (hv : fs[k0]? = some v) (k9 : G l D E k n ws lv (pc + 3) (v :: rest)) : G l D E k n ws lv pc (.ref a :: rest) :=
  fun H locs ls hP hD hS hl => va_get hC.1 hC.2.1 hC.2.2.2.2.1 hin hC.2.2.2.1 hC.2.2.2.2.2.2.1 hP q0 he hc k0 hk (hC.2.2.2.2.1 _ hw) (fun _ h9 => h9) hv hdg (k9 H locs ls hP hD hS hl)
theorem g_getN (pc q0 k0 : Nat) {a ci idx N : Nat} {C host : String} {T : u_T} {fs : List Value} {v : Value} (hC : Cx l D ty E rm cc own) (hin : ∀ w ∈ u_ws C T N, w ∈ wsL_law) (hw : Cond.fieldLinkNest own idx (T k0).1 (T k0).2.1 (T k0).2.2.1 host ∈ nwL) (hdg : decode cc pc = .ok (.getfield idx, 3))
    (he : ws[q0]? = some (a, .inr (ci, fs))) (hc : vwCl[ci]? = some (C, T, N)) (hk : k0 < N) (hv : fs[k0]? = some v) (k9 : G l D E k n ws lv (pc + 3) (v :: rest)) : G l D E k n ws lv pc (.ref a :: rest) :=
  fun H locs ls hP hD hS hl => va_getN hC.1 hC.2.1 hC.2.2.2.2.1 hin hC.2.2.2.1 hC.2.2.2.2.2.2.1 hP q0 he hc k0 hk (va_Nw.use rfl (hC.2.2.2.2.2.1 _ hw)) (fun _ h9 => h9) hv hdg (k9 H locs ls hP hD hS hl)
theorem g_put (pc q0 k0 : Nat) (ws' : va_W) {a ci idx N : Nat} {C : String} {T : u_T} {tyf : Nat → FieldType} {fs : List Value} {x : Int32} (hC : Cx l D ty E rm cc own) (hin : ∀ w ∈ u_ws C T N, w ∈ wsL_law) (hty : ∀ k, k < N → parseFieldDescriptor (T k).2.2.1 = some (tyf k)) (hnm : ∀ a, a < N → ∀ b, b < N → a ≠ b → (T a).2.1 ≠ (T b).2.1)
    (hw : Cond.fieldLink own idx (T k0).1 (T k0).2.1 (T k0).2.2.1 ∈ wsL_law) (hdg : decode cc pc = .ok (.putfield idx, 3))
    (he : ws[q0]? = some (a, .inr (ci, fs))) (hc : vwCl[ci]? = some (C, T, N)) (hk : k0 < N) (hfin : (T k0).2.2.2 = false) (htk : tyf k0 = .int) (hl0 : k0 < fs.length) (hws : ws.set q0 (a, .inr (ci, fs.set k0 (.int x))) = ws') (k9 : G l D E k n ws' lv (pc + 3) rest) : G l D E k n ws lv pc (.int x :: .ref a :: rest) :=
  fun H locs ls hP hD hS hl => va_put hC.1 hC.2.1 hC.2.2.2.2.1 hin tyf hty hnm hC.2.2.2.1 hC.2.2.2.2.2.2.1 hP hD hS q0 he hc k0 hk (hC.2.2.2.2.1 _ hw) (fun _ h9 => h9) hfin ((hty k0 hk).trans (congrArg some htk)) rfl rfl hl0 hdg (fun H1 locs1 hP1 hD1 hS1 => k9 H1 locs1 ls (hws ▸ hP1) (hws ▸ hD1) hS1 hl)
theorem g_putN (pc q0 k0 : Nat) (ws' : va_W) {a ci idx N : Nat} {C host : String} {T : u_T} {tyf : Nat → FieldType} {fs : List Value} {x : Int32} (hC : Cx l D ty E rm cc own) (hin : ∀ w ∈ u_ws C T N, w ∈ wsL_law) (hty : ∀ k, k < N → parseFieldDescriptor (T k).2.2.1 = some (tyf k)) (hnm : ∀ a, a < N → ∀ b, b < N → a ≠ b → (T a).2.1 ≠ (T b).2.1)
    (hw : Cond.fieldLinkNest own idx (T k0).1 (T k0).2.1 (T k0).2.2.1 host ∈ nwL) (hdg : decode cc pc = .ok (.putfield idx, 3))
    (he : ws[q0]? = some (a, .inr (ci, fs))) (hc : vwCl[ci]? = some (C, T, N)) (hk : k0 < N) (hfin : (T k0).2.2.2 = false) (htk : tyf k0 = .int) (hl0 : k0 < fs.length) (hws : ws.set q0 (a, .inr (ci, fs.set k0 (.int x))) = ws') (k9 : G l D E k n ws' lv (pc + 3) rest) : G l D E k n ws lv pc (.int x :: .ref a :: rest) :=
  fun H locs ls hP hD hS hl => va_putN hC.1 hC.2.1 hC.2.2.2.2.1 hin tyf hty hnm hC.2.2.2.1 hC.2.2.2.2.2.2.1 hP hD hS q0 he hc k0 hk (va_Nw.use rfl (hC.2.2.2.2.2.1 _ hw)) (fun _ h9 => h9) hfin ((hty k0 hk).trans (congrArg some htk)) rfl rfl hl0 hdg (fun H1 locs1 hP1 hD1 hS1 => k9 H1 locs1 ls (hws ▸ hP1) (hws ▸ hD1) hS1 hl)
theorem g_iald (pc q0 : Nat) {a N : Nat} {cA : ClassId} {f : Nat → Int32} {i : Int32} (hC : Cx l D ty E rm cc own) (hdg : decode cc pc = .ok (.iaload, 1)) (he : ws[q0]? = some (a, .inl (cA, N, .inl f))) (ht : ty[0]? = some (cA, .int)) (hi : vp_in i N) (k9 : G l D E k n ws lv (pc + 1) (.int (f i.toNatClampNeg) :: rest)) : G l D E k n ws lv pc (.int i :: .ref a :: rest) :=
  fun H locs ls hP hD hS hl => va_iald hC.1 hC.2.1 hC.2.2.2.2.2.2.1 hP q0 0 he ht hi hdg (k9 H locs ls hP hD hS hl)
theorem g_iast (pc q0 : Nat) (ws' : va_W) {a N : Nat} {cA : ClassId} {f : Nat → Int32} {i x : Int32} (hC : Cx l D ty E rm cc own) (hdg : decode cc pc = .ok (.iastore, 1)) (he : ws[q0]? = some (a, .inl (cA, N, .inl f))) (ht : ty[0]? = some (cA, .int)) (hi : vp_in i N) (hws : ws.set q0 (a, .inl (cA, N, .inl (upd f i.toNatClampNeg x))) = ws') (k9 : G l D E k n ws' lv (pc + 1) rest) : G l D E k n ws lv pc (.int x :: .int i :: .ref a :: rest) :=
  fun H locs ls hP hD hS hl => va_iast hC.1 hC.2.1 hC.2.2.2.2.2.2.1 hP hD hS q0 0 he ht hi hdg (fun H1 locs1 hP1 hD1 hS1 => k9 H1 locs1 ls (hws ▸ hP1) (hws ▸ hD1) hS1 hl)
theorem g_aald (pc q0 t0 : Nat) {a N r : Nat} {cA : ClassId} {fty : FieldType} {f : Nat → Option Nat} {i : Int32} (hC : Cx l D ty E rm cc own) (hdg : decode cc pc = .ok (.aaload, 1)) (he : ws[q0]? = some (a, .inl (cA, N, .inr (.inr (.inr (.inr f)))))) (ht : ty[t0]? = some (cA, fty)) (hrf : fty.isReference = true) (hi : vp_in i N) (hr : f i.toNatClampNeg = some r) (k9 : G l D E k n ws lv (pc + 1) (.ref r :: rest)) : G l D E k n ws lv pc (.int i :: .ref a :: rest) := by
  intro H locs ls hP hD hS hl
  have hlt : i.toNatClampNeg < N := Nat.not_le.mp fun q => hi (Or.inr q)
  have k8 := k9 H locs ls hP hD hS hl
  exact W.aald (v := .ref r) (ty := fty) hC.1 hC.2.1 (hP q0 _ he) ((hC.2.2.2.2.2.2.1.2 t0 _ ht).1 N (fun j => va_rf (f j))) hrf (fun q => by cases q) (by show ¬ (i < 0 ∨ (arrV _ _ _).slots.size ≤ _); rw [arrV_size]; exact hi) (by show (arrV _ _ _).slots[_]? = _; rw [arrV_read _ _ hlt, hr]; rfl) rfl rfl hdg k8
theorem g_alen (pc q0 t0 : Nat) {a : Nat} {cA : ClassId} {x : vp_A} {fty : FieldType} (hC : Cx l D ty E rm cc own) (hdg : decode cc pc = .ok (.arraylength, 1)) (he : ws[q0]? = some (a, .inl (cA, x))) (ht : ty[t0]? = some (cA, fty)) (k9 : G l D E k n ws lv (pc + 1) (.int (Int32.ofNat x.1) :: rest)) : G l D E k n ws lv pc (.ref a :: rest) :=
  fun H locs ls hP hD hS hl => va_alen hC.1 hC.2.1 hC.2.2.2.2.2.2.1 hP q0 t0 he ht rfl hdg (k9 H locs ls hP hD hS hl)
theorem wMin1 : Cond.static Lib.Math.min.name ∈ wsL_law := by decide +kernel
theorem wMin2 : Cond.initialized "java/lang/Math" ∈ wsL_law := by decide +kernel
theorem wMin3 : Cond.code Lib.Math.min.name Lib.Math.min.code 2 (some .int) ∈ wsL_law := by decide +kernel
theorem wMax1 : Cond.static Lib.Math.max.name ∈ wsL_law := by decide +kernel
theorem wMax3 : Cond.code Lib.Math.max.name Lib.Math.max.code 2 (some .int) ∈ wsL_law := by decide +kernel
theorem wCpy1 : Cond.native arraycopyName ∈ wsL_law := by decide +kernel
theorem wCpy2 : Cond.static arraycopyName ∈ wsL_law := by decide +kernel
theorem wCpy3 : Cond.initialized "java/lang/System" ∈ wsL_law := by decide +kernel
theorem g_min (pc : Nat) {idx : Nat} {x y : Int32} (hC : Cx l D ty E rm cc own) (hw : Cond.methodLink own idx Lib.Math.min.name ∈ wsL_law) (hdg : decode cc pc = .ok (.invokestatic idx, 3)) (hfr : 1 ≤ rm.frames) (hlo : (rest.map fun v => v.category).sum + 13 ≤ rm.locals) (hk : k ≤ rm.cells) (hn : n ≤ rm.slots) (k9 : G l D E k n ws lv (pc + 3) (.int (if y < x then y else x) :: rest)) : G l D E k n ws lv pc (.int y :: .int x :: rest) := by
  intro H locs ls hP hD hS hl
  obtain ⟨a1, a2, a3, a4, a5, a6, a7, a8, a9⟩ := hC
  exact va_mmin a1 a2 (a3.trans hl.1.symm) a4 (a5 _ hw) (a5 _ wMin1) (a5 _ wMin2) (a5 _ wMin3) (a9 ▸ hfr) (a9 ▸ hlo) (a9 ▸ hk) (a9 ▸ hn) hdg (k9 H locs ls hP hD hS hl)
theorem g_max (pc : Nat) {idx : Nat} {x y : Int32} (hC : Cx l D ty E rm cc own) (hw : Cond.methodLink own idx Lib.Math.max.name ∈ wsL_law) (hdg : decode cc pc = .ok (.invokestatic idx, 3)) (hfr : 1 ≤ rm.frames) (hlo : (rest.map fun v => v.category).sum + 13 ≤ rm.locals) (hk : k ≤ rm.cells) (hn : n ≤ rm.slots) (k9 : G l D E k n ws lv (pc + 3) (.int (if x < y then y else x) :: rest)) : G l D E k n ws lv pc (.int y :: .int x :: rest) := by
  intro H locs ls hP hD hS hl
  obtain ⟨a1, a2, a3, a4, a5, a6, a7, a8, a9⟩ := hC
  exact va_mmax a1 a2 (a3.trans hl.1.symm) a4 (a5 _ hw) (a5 _ wMax1) (a5 _ wMin2) (a5 _ wMax3) (a9 ▸ hfr) (a9 ▸ hlo) (a9 ▸ hk) (a9 ▸ hn) hdg (k9 H locs ls hP hD hS hl)
theorem g_copy (pc q0 q1 : Nat) (ws' : va_W) {idx a a0 n0 n1 : Nat} {c0 c1 : ClassId} {f g : Nat → Int32} {sp dp m : Int32} (hC : Cx l D ty E rm cc own) (hw : Cond.methodLink own idx arraycopyName ∈ wsL_law) (hdg : decode cc pc = .ok (.invokestatic idx, 3))
    (he0 : ws[q0]? = some (a0, .inl (c0, n0, .inl f))) (he1 : ws[q1]? = some (a, .inl (c1, n1, .inl g))) (ht0 : ty[0]? = some (c0, .int)) (ht1 : ty[0]? = some (c1, .int)) (h1 : ¬ sp < 0) (h2 : ¬ dp < 0) (h3 : ¬ m < 0) (h4 : sp.toNatClampNeg + m.toNatClampNeg ≤ n0) (h5 : dp.toNatClampNeg + m.toNatClampNeg ≤ n1)
    (hfr : 1 ≤ rm.frames) (hlo : (rest.map fun v => v.category).sum + (nativeFrameWords "java/lang/System" "arraycopy" 5 + 11) ≤ rm.locals) (hws : ws.set q1 (a, .inl (c1, n1, .inl (va_cpy f g sp.toNatClampNeg dp.toNatClampNeg m.toNatClampNeg))) = ws') (k9 : G l D E k n ws' lv (pc + 3) rest) : G l D E k n ws lv pc (.int m :: .int dp :: .ref a :: .int sp :: .ref a0 :: rest) := by
  intro H locs ls hP hD hS hl
  obtain ⟨b1, b2, b3, b4, b5, b6, b7, b8, b9⟩ := hC
  exact va_copyi b1 b2 (b3.trans hl.1.symm) b4 (b5 _ hw) (b5 _ wCpy1) (b5 _ wCpy2) (b5 _ wCpy3) b7 hP hD hS q0 q1 0 0 he0 he1 ht0 ht1 rfl h1 h2 h3 h4 h5 (fun _ _ => rfl) (b9 ▸ hfr) (b9 ▸ hlo) hdg (fun H1 locs1 hP1 hD1 hS1 => k9 H1 locs1 ls (hws ▸ hP1) (hws ▸ hD1) hS1 hl)
end GWORLD
/-- the cells is of ws replaced by those of w -/
def updW : va_W → List Nat → va_W → va_W
  | ws, i :: is, x :: xs => updW (ws.set i x) is xs
  | ws, _, _ => ws
theorem updW_out : ∀ (is : List Nat) (w ws : va_W) (k : Nat), k ∉ is → (updW ws is w)[k]? = ws[k]?
  | [], w, ws, k, _ => by cases w <;> rfl
  | i :: is, [], ws, k, _ => rfl
  | i :: is, x :: w, ws, k, h => by
    have h1 : k ≠ i := fun e => h (e ▸ List.mem_cons_self)
    show (updW (ws.set i x) is w)[k]? = _
    rw [updW_out is w (ws.set i x) k (fun q => h (List.mem_cons_of_mem _ q)), List.getElem?_set_ne (Ne.symm h1)]
theorem updW_len : ∀ (is : List Nat) (w ws : va_W), (updW ws is w).length = ws.length
  | [], w, ws => by cases w <;> rfl
  | i :: is, [], ws => rfl
  | i :: is, x :: w, ws => by
    show (updW (ws.set i x) is w).length = _
    rw [updW_len is w (ws.set i x), List.length_set]
/-- what stands at a place of the new world: an old cell of the rest, or one of w -/
theorem updW_at : ∀ (is : List Nat) (w ws : va_W) (k : Nat) (q : Nat × va_E), (updW ws is w)[k]? = some q → (∃ j : Nat, is[j]? = some k ∧ w[j]? = some q) ∨ (ws[k]? = some q ∧ ∀ j : Nat, is[j]? = some k → w.length ≤ j)
  | [], w, ws, k, q, h => by
    right
    cases w <;> exact ⟨h, fun j hj => by simp at hj⟩
  | i :: is, [], ws, k, q, h => Or.inr ⟨h, fun j _ => Nat.zero_le _⟩
  | i :: is, x :: w, ws, k, q, h => by
    rcases updW_at is w (ws.set i x) k q h with ⟨j, h1, h2⟩ | ⟨h1, h2⟩
    · exact Or.inl ⟨j + 1, by simpa using h1, by simpa using h2⟩
    · by_cases e : i = k
      · subst e
        have hlt : i < ws.length := by
          have := (List.getElem?_eq_some_iff.mp h1).1
          simpa using this
        rw [List.getElem?_set_self hlt] at h1
        exact Or.inl ⟨0, rfl, by simpa using h1⟩
      · rw [List.getElem?_set_ne e] at h1
        refine Or.inr ⟨h1, fun j hj => ?_⟩
        cases j with
        | zero => exact absurd (by simpa using hj) e
        | succ j => simpa using h2 j (by simpa using hj)
theorem updW_join {A0 : Nat → Prop} {D : va_G} {cl : List vw_C} {ws wc w1 : va_W} {H H1 : Heap} (hP : va_P D cl ws H) (hD : va_D A0 ws) (isC : List Nat) (hC : isC.map (fun i => ws[i]?) = wc.map some) (hnd : va_nd isC = true) (hlen : isC.length ≤ w1.length)
    (hk : ∀ q : Nat, q < H.size → ¬ va_A wc H.size q → H1[q]? = H[q]?) (hF : ∀ q, va_A wc H.size q → A0 q) (hP1 : va_P D cl w1 H1) (hD1 : va_D (va_A wc H.size) w1) : va_P D cl (updW ws isC w1) H1 ∧ va_D A0 (updW ws isC w1) := by
  have at' : ∀ (k : Nat) (q : Nat × va_E), wc[k]? = some q → ∃ i, isC[k]? = some i ∧ ws[i]? = some q := by
    intro k q hq
    have h1 : (isC.map (fun i => ws[i]?))[k]? = some (some q) := by rw [hC, List.getElem?_map, hq]; rfl
    rw [List.getElem?_map] at h1
    cases hi : isC[k]? with
    | none => rw [hi] at h1; cases h1
    | some i => rw [hi] at h1; exact ⟨i, rfl, Option.some.inj h1⟩
  have rst : ∀ (k : Nat) (q : Nat × va_E), ws[k]? = some q → (∀ j, isC[j]? = some k → w1.length ≤ j) → q.1 < H.size ∧ ¬ va_A wc H.size q.1 := by
    intro k q hq hj
    have hl := (hP k q hq).lt
    refine ⟨hl, fun h => ?_⟩
    rcases h with ⟨k2, e, h⟩ | h
    · obtain ⟨i, h3, h4⟩ := at' k2 (q.1, e) h
      have hij := hD.1 k i q (q.1, e) hq h4 rfl
      subst hij
      have := hj k2 h3
      have := (List.getElem?_eq_some_iff.mp h3).1
      omega
    · omega
  refine ⟨fun k q hq => ?_, fun i j x y hx hy hxy => ?_, fun k q hq => ?_⟩
  · rcases updW_at isC w1 ws k q hq with ⟨j, -, h2⟩ | ⟨h1, h2⟩
    · exact hP1 j q h2
    · obtain ⟨g1, g2⟩ := rst k q h1 h2
      exact (hP k q h1).kept (hk q.1 g1 g2)
  · rcases updW_at isC w1 ws i x hx with ⟨a, a1, a2⟩ | ⟨a1, a2⟩ <;> rcases updW_at isC w1 ws j y hy with ⟨b, b1, b2⟩ | ⟨b1, b2⟩
    · have := hD1.1 a b x y a2 b2 hxy
      subst this
      exact Option.some.inj (a1.symm.trans b1)
    · exact absurd (hxy ▸ hD1.2 a x a2) (rst j y b1 b2).2
    · exact absurd (hxy.symm ▸ hD1.2 b y b2) (rst i x a1 a2).2
    · exact hD.1 i j x y a1 b1 hxy
  · rcases updW_at isC w1 ws k q hq with ⟨j, -, h2⟩ | ⟨h1, -⟩
    · exact hF _ (hD1.2 j q h2)
    · exact hD.2 k q h1
/-- a method's start: the heap's size, the nest words, the world and the tables -/
def gP (D : va_G) (ty : List (ClassId × FieldType)) (sz : Nat) (w : va_W) (U : State) : Prop := U.heap.size = sz ∧ NW U ∧ va_P D vwCl w U.heap ∧ va_K D vwCl ty U ∧ va_D (fun _ => True) w
def gB (D : va_G) (A : Nat → Prop) (w : va_W) (t : State) : Prop := va_P D vwCl w t.heap ∧ va_D A w
theorem gP_blind {D : va_G} {ty : List (ClassId × FieldType)} {sz : Nat} {w : va_W} {as : List Value} : FrameBlind (va_Pc as (gP D ty sz w)) := by
  rintro a U g mk ⟨h0, h1, h2, h3, h4, h5⟩
  exact ⟨h0, h1, NW.same (u := U) (U := U.calling g mk a) rfl h2, h3, va_K.moved (u := U) (U := U.calling g mk a) (Vm.Alike.refl U.vm) h4, h5⟩
/-- contracts: the answer and the world behind it; int (or boolean), and none -/
def MI (l : Launch) (D : va_G) (ty : List (ClassId × FieldType)) (y : MethodName) (cb : ByteArray) (mL : Nat) (rt : Option FieldType) (rm : Room) (as : List Value) (w : va_W) (post : Int32 → va_W → Prop) : Prop :=
  ∀ sz : Nat, Met l y (.code y cb mL rt :: wsL_law) rm (va_Pc as (gP D ty sz w)) (va_Qi post (gB D (va_A w sz)) (va_A w sz)) rm.cells rm.slots (va_A w sz)
def MV (l : Launch) (D : va_G) (ty : List (ClassId × FieldType)) (y : MethodName) (cb : ByteArray) (mL : Nat) (rm : Room) (as : List Value) (w : va_W) (post : va_W → Prop) : Prop :=
  ∀ sz : Nat, Met l y (.code y cb mL none :: wsL_law) rm (va_Pc as (gP D ty sz w)) (va_Qv post (gB D (va_A w sz)) (va_A w sz)) rm.cells rm.slots (va_A w sz)
def RetI (D : va_G) (E : CE) (post : Int32 → va_W → Prop) (k n : Nat) (rt : Option FieldType) : Prop := E.Q = MQ E.bl (va_Qi post (gB D E.A) E.A) E.as E.s k n E.A ∧ E.meth.sig.returnType = rt ∧ E.meth.locks = false
def RetV (D : va_G) (E : CE) (post : va_W → Prop) (k n : Nat) : Prop := E.Q = MQ E.bl (va_Qv post (gB D E.A) E.A) E.as E.s k n E.A ∧ E.meth.sig.returnType = none ∧ E.meth.locks = false
theorem MI.of {l : Launch} {D : va_G} {ty : List (ClassId × FieldType)} {y : MethodName} {cb : ByteArray} {mL : Nat} {rt : Option FieldType} {rm : Room} {as : List Value} {w : va_W} {post : Int32 → va_W → Prop} (hy : plainName y.cls = true) (hlen : (lg_sl as).length ≤ mL)
    (body : ∀ E : CE, Cx l D ty E rm cb y.cls → RetI D E post rm.cells rm.slots rt → E.nL = mL → G l D E 0 0 w (lv_args 0 as) 0 []) : MI l D ty y cb mL rt rm as w post := by
  intro sz
  refine Met.ofW (cc := cb) (maxL := mL) (ret := rt) hy rfl ?_
  intro p e s m args below meth c s₁ B hml hv
  obtain ⟨rfl, hsz, hN, hP, hK, hD0⟩ := hv
  have hts := atoms_spec (ws := .code y cb mL rt :: wsL_law) B.pre
  subst hsz
  have hD := hD0.self (sz := s.heap.size)
  have hl := lv_entry as (n := mL) hlen
  rw [lg_entry_eq]
  exact body (p, e, rm, s, m, as.toArray, below, meth, c, va_A w s.heap.size, mL, MQ below (va_Qi post (gB D (va_A w s.heap.size)) (va_A w s.heap.size)) as.toArray s rm.cells rm.slots (va_A w s.heap.size))
    ⟨B.exec, B.bytes, hml, findClass_of_methodNamed B.named, fun w h => hts w (List.mem_cons_of_mem _ h), hN, hK, fun q h => Or.inr h, rfl⟩ ⟨rfl, B.returns, B.notSynchronized⟩ rfl s.heap [] _ hP hD va_S.rf hl
theorem MV.of {l : Launch} {D : va_G} {ty : List (ClassId × FieldType)} {y : MethodName} {cb : ByteArray} {mL : Nat} {rm : Room} {as : List Value} {w : va_W} {post : va_W → Prop} (hy : plainName y.cls = true) (hlen : (lg_sl as).length ≤ mL)
    (body : ∀ E : CE, Cx l D ty E rm cb y.cls → RetV D E post rm.cells rm.slots → E.nL = mL → G l D E 0 0 w (lv_args 0 as) 0 []) : MV l D ty y cb mL rm as w post := by
  intro sz
  refine Met.ofW (cc := cb) (maxL := mL) (ret := none) hy rfl ?_
  intro p e s m args below meth c s₁ B hml hv
  obtain ⟨rfl, hsz, hN, hP, hK, hD0⟩ := hv
  have hts := atoms_spec (ws := .code y cb mL none :: wsL_law) B.pre
  subst hsz
  have hD := hD0.self (sz := s.heap.size)
  have hl := lv_entry as (n := mL) hlen
  rw [lg_entry_eq]
  exact body (p, e, rm, s, m, as.toArray, below, meth, c, va_A w s.heap.size, mL, MQ below (va_Qv post (gB D (va_A w s.heap.size)) (va_A w s.heap.size)) as.toArray s rm.cells rm.slots (va_A w s.heap.size))
    ⟨B.exec, B.bytes, hml, findClass_of_methodNamed B.named, fun w h => hts w (List.mem_cons_of_mem _ h), hN, hK, fun q h => Or.inr h, rfl⟩ ⟨rfl, B.returns, B.notSynchronized⟩ rfl s.heap [] _ hP hD va_S.rf hl
section GCALL
variable {l : Launch} {D : va_G} {ty : List (ClassId × FieldType)} {E : CE} {rm : Room} {cc : ByteArray} {own : String} {k n : Nat} {ws : va_W} {lv : List (Nat × Value)} {rest st : List Value}
theorem g_iret (pc : Nat) {post : Int32 → va_W → Prop} {v : Int32} (hC : Cx l D ty E rm cc own) (hR : RetI D E post k n (some .int)) (hdg : decode cc pc = .ok (.ireturn, 1)) (h : post v ws) : G l D E k n ws lv pc [.int v] := by
  intro H locs ls hP hD hS hl
  obtain ⟨r1, r2, r3⟩ := hR
  rw [r1]
  exact W.iret (v := v) hC.1 hC.2.1 r2 (fun t ht _ => ⟨⟨v, ws, rfl, h, by rw [ht]; exact hP, hD⟩, hS.F ht⟩) hS.2.2 hdg r3
theorem g_zret (pc : Nat) {post : Int32 → va_W → Prop} {v : Int32} (hC : Cx l D ty E rm cc own) (hR : RetI D E post k n (some .boolean)) (hdg : decode cc pc = .ok (.ireturn, 1)) (hv : v = 0 ∨ v = 1) (h : post v ws) : G l D E k n ws lv pc [.int v] := by
  intro H locs ls hP hD hS hl
  obtain ⟨r1, r2, r3⟩ := hR
  rw [r1]
  exact W.zret (v := v) (ty := .boolean) hC.1 hC.2.1 r2 (by rcases hv with rfl | rfl <;> rfl) (fun t ht _ => ⟨⟨v, ws, rfl, h, by rw [ht]; exact hP, hD⟩, hS.F ht⟩) hS.2.2 hdg r3
theorem g_vret (pc : Nat) {post : va_W → Prop} (hC : Cx l D ty E rm cc own) (hR : RetV D E post k n) (hdg : decode cc pc = .ok (.return_, 1)) (h : post ws) : G l D E k n ws lv pc [] := by
  intro H locs ls hP hD hS hl
  obtain ⟨r1, r2, r3⟩ := hR
  rw [r1]
  exact W.vret hC.1 hC.2.1 r2 (fun t ht _ => ⟨⟨ws, rfl, h, by rw [ht]; exact hP, hD⟩, hS.F ht⟩) hS.2.2 hdg r3
/-- what a call wants of its callee's words -/
def KV (y : MethodName) (cb : ByteArray) (mL : Nat) (rt : Option FieldType) (nn : Nat) : Prop := Cond.code y cb mL rt ∈ wsL_law ∧ Cond.initialized y.cls ∈ wsL_law ∧ Cond.instanceMethod y ∈ wsL_law ∧ Cond.selects y.cls y y ∈ wsL_law ∧ (y.cls ≠ "java/lang/invoke/MethodHandle" ∧ y.cls ≠ "java/lang/invoke/VarHandle" ∧ (parseMethodDescriptor y.desc).map (fun d => d.parameters.length) = some nn)
def KS (y : MethodName) (cb : ByteArray) (mL : Nat) (rt : Option FieldType) (nn : Nat) : Prop := Cond.code y cb mL rt ∈ wsL_law ∧ Cond.initialized y.cls ∈ wsL_law ∧ Cond.static y ∈ wsL_law ∧ (y.cls ≠ "java/lang/invoke/MethodHandle" ∧ y.cls ≠ "java/lang/invoke/VarHandle" ∧ (parseMethodDescriptor y.desc).map (fun d => d.parameters.length) = some nn)
theorem wsL_good : wsL_law.all goodWord = true := by decide +kernel
theorem gdU {y : MethodName} {cb : ByteArray} {mL : Nat} {rt : Option FieldType} (h : Cond.code y cb mL rt ∈ wsL_law) : GoodIn wsL_law (.code y cb mL rt :: wsL_law) := goodIn_sub (fun w hw => by
    rcases List.mem_cons.mp hw with rfl | hw
    · exact h
    · exact hw) (by
    rw [List.all_cons, wsL_good, Bool.and_true]
    exact List.all_eq_true.mp wsL_good _ h)
theorem gPre {H : Heap} {wc : va_W} {as : List Value} {isC : List Nat} (hC : Cx l D ty E rm cc own) (hP : va_P D vwCl ws H) (hD : va_D E.A ws) (hcut : isC.map (fun i => ws[i]?) = wc.map some) (hnd : va_nd isC = true) : ∀ U : State, U.heap = H → E.s.WarmedH U.vm → va_Pc as (gP D ty H.size wc) as.toArray U := by
  intro U hU hW
  obtain ⟨b1, b2, b3, b4, b5, b6, b7, b8, b9⟩ := hC
  have hD9 := hD.sub isC hnd hcut
  refine ⟨rfl, by rw [hU], NW.warm hW b6, ?_, va_K.moved hW.alike b7, hD9.weaken (fun _ _ _ _ => trivial)⟩
  rw [hU]
  intro j q hq
  have h1 : (isC.map (fun i => ws[i]?))[j]? = some (some q) := by rw [hcut, List.getElem?_map, hq]; rfl
  rw [List.getElem?_map] at h1
  cases hi : isC[j]? with
  | none => rw [hi] at h1; cases h1
  | some i => rw [hi] at h1; exact hP i q (Option.some.inj h1)
theorem g_back {H H1 : Heap} {locs1 : List Loc} {ls : Array Slot} {wc w : va_W} {isC : List Nat} {pc : Nat} {st : List Value} (hP : va_P D vwCl ws H) (hD : va_D E.A ws) (hcut : isC.map (fun i => ws[i]?) = wc.map some) (hnd : va_nd isC = true) (hlen : isC.length ≤ w.length) (hFc : ∀ q, va_A wc H.size q → E.A q) (t : State) (ht : t.heap = H1) (hB : gB D (va_A wc H.size) w t) (hk1 : ∀ q : Nat, q < H.size → ¬ va_A wc H.size q → H1[q]? = H[q]?)
    (hS : va_S E.A E.s.heap H1 locs1) (hl : lv_has ls E.nL lv) (k9 : G l D E k n (updW ws isC w) lv pc st) : W E.p l E.e E.R E.s E.m E.as E.bl E.meth E.c H1 locs1 k n E.Q (F0 E.m pc ls st) := by
  obtain ⟨hP1, hD1⟩ := hB
  rw [ht] at hP1
  obtain ⟨g1, g2⟩ := updW_join hP hD isC hcut hnd hlen hk1 hFc hP1 hD1
  exact k9 H1 locs1 ls g1 g2 hS hl
/-- a private method of a nest mate, with an answer -/
theorem g_cVNi (pc qr : Nat) (isC : List Nat) {idx a ci N mL : Nat} {host : String} {T : u_T} {fs : List Value} {y : MethodName} {cb : ByteArray} {rt : Option FieldType} {rm' : Room} {As : List Value} {wc : va_W} {post : Int32 → va_W → Prop} (hC : Cx l D ty E rm cc own) (hM : MI l D ty y cb mL rt rm' (.ref a :: As) wc post) (hk : KV y cb mL rt As.length) (hw : Cond.methodLinkNest own idx y host ∈ nwL) (hdg : decode cc pc = .ok (.invokevirtual idx, 3))
    (he : ws[qr]? = some (a, .inr (ci, fs))) (hc : vwCl[ci]? = some (y.cls, T, N)) (hR : rm'.frames + 1 ≤ rm.frames ∧ 8 + (mL + 11) + rm'.locals ≤ rm.locals) (hc0 : rm'.cells = 0) (hs0 : rm'.slots = 0) (hk0 : k ≤ rm.cells) (hn0 : n ≤ rm.slots) (hcut : isC.map (fun i => ws[i]?) = wc.map some) (hnd : va_nd isC = true) (hst : st = As.reverse ++ .ref a :: rest) (hrs : (rest.map fun v => v.category).sum ≤ 8)
    (k9 : ∀ r w, post r w → isC.length ≤ w.length ∧ G l D E k n (updW ws isC w) lv (pc + 3) (.int r :: rest)) : G l D E k n ws lv pc st := by
  intro H locs ls hP hD hS hl
  subst hst
  have hC' := hC
  obtain ⟨b1, b2, b3, b4, b5, b6, b7, b8, b9⟩ := hC
  obtain ⟨q1, q2, q3, q4, q5⟩ := hk
  have hFc := va_free (wc := wc) hD hS b8 isC hcut
  refine va_calli (A1 := va_A wc H.size) (mc := 0) (ms := 0) (va_runVN (As := As) (rest := rest) ⟨b1, b2, b3, b4, b5⟩ (hc0 ▸ hs0 ▸ hM H.size) ⟨va_cnB As.length b5 (gdU q1) rfl hc0 hs0 (b6 _ hw) (b5 _ q2) q5 (b9 ▸ hR), b5 _ q3, b5 _ q4⟩ ⟨gP_blind, va_recv b7 hP hc he, gPre hC' hP hD hcut hnd⟩ rfl rfl hl.1 rfl (lv_room hrs) hdg ⟨b9 ▸ hk0, b9 ▸ hn0⟩) hS (fun q _ h => hFc q h) hFc (fun r w t H1 locs1 ht hvm hw9 hB hz1 hk1 hS1 => ?_)
  obtain ⟨g1, g2⟩ := k9 r w hw9
  exact g_back hP hD hcut hnd g1 hFc t ht hB hk1 hS1 hl g2
theorem g_cVNv (pc qr : Nat) (isC : List Nat) {idx a ci N mL : Nat} {host : String} {T : u_T} {fs : List Value} {y : MethodName} {cb : ByteArray} {rm' : Room} {As : List Value} {wc : va_W} {post : va_W → Prop} (hC : Cx l D ty E rm cc own) (hM : MV l D ty y cb mL rm' (.ref a :: As) wc post) (hk : KV y cb mL none As.length) (hw : Cond.methodLinkNest own idx y host ∈ nwL) (hdg : decode cc pc = .ok (.invokevirtual idx, 3))
    (he : ws[qr]? = some (a, .inr (ci, fs))) (hc : vwCl[ci]? = some (y.cls, T, N)) (hR : rm'.frames + 1 ≤ rm.frames ∧ 8 + (mL + 11) + rm'.locals ≤ rm.locals) (hc0 : rm'.cells = 0) (hs0 : rm'.slots = 0) (hk0 : k ≤ rm.cells) (hn0 : n ≤ rm.slots) (hcut : isC.map (fun i => ws[i]?) = wc.map some) (hnd : va_nd isC = true) (hst : st = As.reverse ++ .ref a :: rest) (hrs : (rest.map fun v => v.category).sum ≤ 8)
    (k9 : ∀ w, post w → isC.length ≤ w.length ∧ G l D E k n (updW ws isC w) lv (pc + 3) rest) : G l D E k n ws lv pc st := by
  intro H locs ls hP hD hS hl
  subst hst
  have hC' := hC
  obtain ⟨b1, b2, b3, b4, b5, b6, b7, b8, b9⟩ := hC
  obtain ⟨q1, q2, q3, q4, q5⟩ := hk
  have hFc := va_free (wc := wc) hD hS b8 isC hcut
  refine va_callv (A1 := va_A wc H.size) (mc := 0) (ms := 0) (va_runVN (As := As) (rest := rest) ⟨b1, b2, b3, b4, b5⟩ (hc0 ▸ hs0 ▸ hM H.size) ⟨va_cnB As.length b5 (gdU q1) rfl hc0 hs0 (b6 _ hw) (b5 _ q2) q5 (b9 ▸ hR), b5 _ q3, b5 _ q4⟩ ⟨gP_blind, va_recv b7 hP hc he, gPre hC' hP hD hcut hnd⟩ rfl rfl hl.1 rfl (lv_room hrs) hdg ⟨b9 ▸ hk0, b9 ▸ hn0⟩) hS (fun q _ h => hFc q h) hFc (fun w t H1 locs1 ht hvm hw9 hB hz1 hk1 hS1 => ?_)
  obtain ⟨g1, g2⟩ := k9 w hw9
  exact g_back hP hD hcut hnd g1 hFc t ht hB hk1 hS1 hl g2
/-- a method of the own class (or a public one): plain link -/
theorem g_cVi (pc qr : Nat) (isC : List Nat) {idx a ci N mL : Nat} {T : u_T} {fs : List Value} {y : MethodName} {cb : ByteArray} {rt : Option FieldType} {rm' : Room} {As : List Value} {wc : va_W} {post : Int32 → va_W → Prop} (hC : Cx l D ty E rm cc own) (hM : MI l D ty y cb mL rt rm' (.ref a :: As) wc post) (hk : KV y cb mL rt As.length) (hw : Cond.methodLink own idx y ∈ wsL_law) (hdg : decode cc pc = .ok (.invokevirtual idx, 3))
    (he : ws[qr]? = some (a, .inr (ci, fs))) (hc : vwCl[ci]? = some (y.cls, T, N)) (hR : rm'.frames + 1 ≤ rm.frames ∧ 8 + (mL + 11) + rm'.locals ≤ rm.locals) (hc0 : rm'.cells = 0) (hs0 : rm'.slots = 0) (hk0 : k ≤ rm.cells) (hn0 : n ≤ rm.slots) (hcut : isC.map (fun i => ws[i]?) = wc.map some) (hnd : va_nd isC = true) (hst : st = As.reverse ++ .ref a :: rest) (hrs : (rest.map fun v => v.category).sum ≤ 8)
    (k9 : ∀ r w, post r w → isC.length ≤ w.length ∧ G l D E k n (updW ws isC w) lv (pc + 3) (.int r :: rest)) : G l D E k n ws lv pc st := by
  intro H locs ls hP hD hS hl
  subst hst
  have hC' := hC
  obtain ⟨b1, b2, b3, b4, b5, b6, b7, b8, b9⟩ := hC
  obtain ⟨q1, q2, q3, q4, q5⟩ := hk
  have hFc := va_free (wc := wc) hD hS b8 isC hcut
  refine va_calli (A1 := va_A wc H.size) (mc := 0) (ms := 0) (va_runV (C := y.cls) (As := As) (rest := rest) ⟨b1, b2, b3, b4, b5⟩ (hc0 ▸ hs0 ▸ hM H.size) ⟨callB_of As.length b5 (gdU q1) rfl hc0 hs0 (b5 _ q2) (b5 _ hw) q5 (b9 ▸ hR), b5 _ q3, b5 _ q4⟩ ⟨gP_blind, va_recv b7 hP hc he, gPre hC' hP hD hcut hnd⟩ rfl rfl hl.1 rfl (lv_room hrs) hdg ⟨b9 ▸ hk0, b9 ▸ hn0⟩) hS (fun q _ h => hFc q h) hFc (fun r w t H1 locs1 ht hvm hw9 hB hz1 hk1 hS1 => ?_)
  obtain ⟨g1, g2⟩ := k9 r w hw9
  exact g_back hP hD hcut hnd g1 hFc t ht hB hk1 hS1 hl g2
theorem g_cVv (pc qr : Nat) (isC : List Nat) {idx a ci N mL : Nat} {T : u_T} {fs : List Value} {y : MethodName} {cb : ByteArray} {rm' : Room} {As : List Value} {wc : va_W} {post : va_W → Prop} (hC : Cx l D ty E rm cc own) (hM : MV l D ty y cb mL rm' (.ref a :: As) wc post) (hk : KV y cb mL none As.length) (hw : Cond.methodLink own idx y ∈ wsL_law) (hdg : decode cc pc = .ok (.invokevirtual idx, 3))
    (he : ws[qr]? = some (a, .inr (ci, fs))) (hc : vwCl[ci]? = some (y.cls, T, N)) (hR : rm'.frames + 1 ≤ rm.frames ∧ 8 + (mL + 11) + rm'.locals ≤ rm.locals) (hc0 : rm'.cells = 0) (hs0 : rm'.slots = 0) (hk0 : k ≤ rm.cells) (hn0 : n ≤ rm.slots) (hcut : isC.map (fun i => ws[i]?) = wc.map some) (hnd : va_nd isC = true) (hst : st = As.reverse ++ .ref a :: rest) (hrs : (rest.map fun v => v.category).sum ≤ 8)
    (k9 : ∀ w, post w → isC.length ≤ w.length ∧ G l D E k n (updW ws isC w) lv (pc + 3) rest) : G l D E k n ws lv pc st := by
  intro H locs ls hP hD hS hl
  subst hst
  have hC' := hC
  obtain ⟨b1, b2, b3, b4, b5, b6, b7, b8, b9⟩ := hC
  obtain ⟨q1, q2, q3, q4, q5⟩ := hk
  have hFc := va_free (wc := wc) hD hS b8 isC hcut
  refine va_callv (A1 := va_A wc H.size) (mc := 0) (ms := 0) (va_runV (C := y.cls) (As := As) (rest := rest) ⟨b1, b2, b3, b4, b5⟩ (hc0 ▸ hs0 ▸ hM H.size) ⟨callB_of As.length b5 (gdU q1) rfl hc0 hs0 (b5 _ q2) (b5 _ hw) q5 (b9 ▸ hR), b5 _ q3, b5 _ q4⟩ ⟨gP_blind, va_recv b7 hP hc he, gPre hC' hP hD hcut hnd⟩ rfl rfl hl.1 rfl (lv_room hrs) hdg ⟨b9 ▸ hk0, b9 ▸ hn0⟩) hS (fun q _ h => hFc q h) hFc (fun w t H1 locs1 ht hvm hw9 hB hz1 hk1 hS1 => ?_)
  obtain ⟨g1, g2⟩ := k9 w hw9
  exact g_back hP hD hcut hnd g1 hFc t ht hB hk1 hS1 hl g2
/-- a static method -/
theorem g_cSi (pc : Nat) (isC : List Nat) {idx mL : Nat} {y : MethodName} {cb : ByteArray} {rt : Option FieldType} {rm' : Room} {As : List Value} {wc : va_W} {post : Int32 → va_W → Prop} (hC : Cx l D ty E rm cc own) (hM : MI l D ty y cb mL rt rm' As wc post) (hk : KS y cb mL rt As.length) (hw : Cond.methodLink own idx y ∈ wsL_law) (hdg : decode cc pc = .ok (.invokestatic idx, 3))
    (hR : rm'.frames + 1 ≤ rm.frames ∧ 8 + (mL + 11) + rm'.locals ≤ rm.locals) (hc0 : rm'.cells = 0) (hs0 : rm'.slots = 0) (hk0 : k ≤ rm.cells) (hn0 : n ≤ rm.slots) (hcut : isC.map (fun i => ws[i]?) = wc.map some) (hnd : va_nd isC = true) (hst : st = As.reverse ++ rest) (hrs : (rest.map fun v => v.category).sum ≤ 8)
    (k9 : ∀ r w, post r w → isC.length ≤ w.length ∧ G l D E k n (updW ws isC w) lv (pc + 3) (.int r :: rest)) : G l D E k n ws lv pc st := by
  intro H locs ls hP hD hS hl
  subst hst
  have hC' := hC
  obtain ⟨b1, b2, b3, b4, b5, b6, b7, b8, b9⟩ := hC
  obtain ⟨q1, q2, q3, q5⟩ := hk
  have hFc := va_free (wc := wc) hD hS b8 isC hcut
  refine va_calli (A1 := va_A wc H.size) (mc := 0) (ms := 0) (va_runS (As := As) (rest := rest) ⟨b1, b2, b3, b4, b5⟩ (hc0 ▸ hs0 ▸ hM H.size) ⟨callB_of As.length b5 (gdU q1) rfl hc0 hs0 (b5 _ q2) (b5 _ hw) q5 (b9 ▸ hR), b5 _ q3⟩ ⟨gP_blind, gPre hC' hP hD hcut hnd⟩ rfl rfl hl.1 rfl (lv_room hrs) hdg ⟨b9 ▸ hk0, b9 ▸ hn0⟩) hS (fun q _ h => hFc q h) hFc (fun r w t H1 locs1 ht hvm hw9 hB hz1 hk1 hS1 => ?_)
  obtain ⟨g1, g2⟩ := k9 r w hw9
  exact g_back hP hD hcut hnd g1 hFc t ht hB hk1 hS1 hl g2
/-- a private static method of a nest mate, no answer -/
theorem g_cSNv (pc : Nat) (isC : List Nat) {idx mL : Nat} {host : String} {y : MethodName} {cb : ByteArray} {rm' : Room} {As : List Value} {wc : va_W} {post : va_W → Prop} (hC : Cx l D ty E rm cc own) (hM : MV l D ty y cb mL rm' As wc post) (hk : KS y cb mL none As.length) (hw : Cond.methodLinkNest own idx y host ∈ nwL) (hdg : decode cc pc = .ok (.invokestatic idx, 3))
    (hR : rm'.frames + 1 ≤ rm.frames ∧ 8 + (mL + 11) + rm'.locals ≤ rm.locals) (hc0 : rm'.cells = 0) (hs0 : rm'.slots = 0) (hk0 : k ≤ rm.cells) (hn0 : n ≤ rm.slots) (hcut : isC.map (fun i => ws[i]?) = wc.map some) (hnd : va_nd isC = true) (hst : st = As.reverse ++ rest) (hrs : (rest.map fun v => v.category).sum ≤ 8)
    (k9 : ∀ w, post w → isC.length ≤ w.length ∧ G l D E k n (updW ws isC w) lv (pc + 3) rest) : G l D E k n ws lv pc st := by
  intro H locs ls hP hD hS hl
  subst hst
  have hC' := hC
  obtain ⟨b1, b2, b3, b4, b5, b6, b7, b8, b9⟩ := hC
  obtain ⟨q1, q2, q3, q5⟩ := hk
  have hFc := va_free (wc := wc) hD hS b8 isC hcut
  refine va_callv (A1 := va_A wc H.size) (mc := 0) (ms := 0) (va_runSN (As := As) (rest := rest) ⟨b1, b2, b3, b4, b5⟩ (hc0 ▸ hs0 ▸ hM H.size) ⟨va_cnB As.length b5 (gdU q1) rfl hc0 hs0 (b6 _ hw) (b5 _ q2) q5 (b9 ▸ hR), b5 _ q3, trivial⟩ ⟨gP_blind, gPre hC' hP hD hcut hnd⟩ rfl rfl hl.1 rfl (lv_room hrs) hdg ⟨b9 ▸ hk0, b9 ▸ hn0⟩) hS (fun q _ h => hFc q h) hFc (fun w t H1 locs1 ht hvm hw9 hB hz1 hk1 hS1 => ?_)
  obtain ⟨g1, g2⟩ := k9 w hw9
  exact g_back hP hD hcut hnd g1 hFc t ht hB hk1 hS1 hl g2
end GCALL
theorem vpLt {i : Int32} {N : Nat} (h : vp_in i N) : i.toNatClampNeg < N := Nat.not_le.mp fun q => h (Or.inr q)
theorem row9 {P : Nat → Prop} {k : Nat} (hk : k < 9) (h0 : P 0) (h1 : P 1) (h2 : P 2) (h3 : P 3) (h4 : P 4) (h5 : P 5) (h6 : P 6) (h7 : P 7) (h8 : P 8) : P k := by
  rcases (show k = 0 ∨ k = 1 ∨ k = 2 ∨ k = 3 ∨ k = 4 ∨ k = 5 ∨ k = 6 ∨ k = 7 ∨ k = 8 by omega) with rfl | rfl | rfl | rfl | rfl | rfl | rfl | rfl | rfl <;> assumption
section GMORE
variable {l : Launch} {D : va_G} {ty : List (ClassId × FieldType)} {E : CE} {rm : Room} {cc : ByteArray} {own : String} {k n : Nat} {ws : va_W} {lv : List (Nat × Value)} {rest st : List Value}
theorem g_tswIn (pc tgt : Nat) {dflt lo hi : Int} {offs : Array Int} {len : Nat} {x v : Int32} {off : Int} (hC : Cx l D ty E rm cc own) (hdg : decode cc pc = .ok (.tableswitch dflt lo hi offs, len)) (hx : x = v) (h1 : ¬ v.toInt < lo) (h2 : ¬ hi < v.toInt) (ho : offs[(v.toInt - lo).toNat]? = some off) (ht : (pc : Int) + off = (tgt : Int)) (k9 : G l D E k n ws lv tgt rest) : G l D E k n ws lv pc (.int x :: rest) := by
  subst hx
  exact fun H locs ls hP hD hS hl => lv_tableIn hC.1 hC.2.1 hdg h1 h2 ho ht (k9 H locs ls hP hD hS hl)
theorem g_tswOut (pc tgt : Nat) {dflt lo hi : Int} {offs : Array Int} {len : Nat} {x : Int32} (hC : Cx l D ty E rm cc own) (hdg : decode cc pc = .ok (.tableswitch dflt lo hi offs, len)) (h : x.toInt < lo ∨ hi < x.toInt) (ht : (pc : Int) + dflt = (tgt : Int)) (k9 : G l D E k n ws lv tgt rest) : G l D E k n ws lv pc (.int x :: rest) :=
  fun H locs ls hP hD hS hl => lv_tableOut hC.1 hC.2.1 hdg h ht (k9 H locs ls hP hD hS hl)
theorem g_i2f (pc : Nat) {x : Int32} (hC : Cx l D ty E rm cc own) (hdg : decode cc pc = .ok (.i2f, 1)) (k9 : G l D E k n ws lv (pc + 1) (.float (FP.i2f x) :: rest)) : G l D E k n ws lv pc (.int x :: rest) :=
  fun H locs ls hP hD hS hl => lv_i2f hC.1 hC.2.1 hdg (k9 H locs ls hP hD hS hl)
theorem g_f2i (pc : Nat) {x : UInt32} (hC : Cx l D ty E rm cc own) (hdg : decode cc pc = .ok (.f2i, 1)) (k9 : G l D E k n ws lv (pc + 1) (.int (FP.f2i x) :: rest)) : G l D E k n ws lv pc (.float x :: rest) :=
  fun H locs ls hP hD hS hl => lv_f2i hC.1 hC.2.1 hdg (k9 H locs ls hP hD hS hl)
theorem g_fdiv (pc : Nat) {x y : UInt32} (hC : Cx l D ty E rm cc own) (hdg : decode cc pc = .ok (.fdiv, 1)) (hne : vf_n32 (FP.fdiv x y)) (k9 : G l D E k n ws lv (pc + 1) (.float (FP.fdiv x y) :: rest)) : G l D E k n ws lv pc (.float y :: .float x :: rest) :=
  fun H locs ls hP hD hS hl => lv_fdiv hC.1 hC.2.1 hdg hne (k9 H locs ls hP hD hS hl)
theorem g_fsub (pc : Nat) {x y : UInt32} (hC : Cx l D ty E rm cc own) (hdg : decode cc pc = .ok (.fsub, 1)) (hne : vf_n32 (FP.fsub x y)) (k9 : G l D E k n ws lv (pc + 1) (.float (FP.fsub x y) :: rest)) : G l D E k n ws lv pc (.float y :: .float x :: rest) :=
  fun H locs ls hP hD hS hl => lv_fsub hC.1 hC.2.1 hdg hne (k9 H locs ls hP hD hS hl)
theorem g_fmul (pc : Nat) {x y : UInt32} (hC : Cx l D ty E rm cc own) (hdg : decode cc pc = .ok (.fmul, 1)) (hne : vf_n32 (FP.fmul x y)) (k9 : G l D E k n ws lv (pc + 1) (.float (FP.fmul x y) :: rest)) : G l D E k n ws lv pc (.float y :: .float x :: rest) :=
  fun H locs ls hP hD hS hl => lv_fmul hC.1 hC.2.1 hdg hne (k9 H locs ls hP hD hS hl)
theorem g_fcmp (pc : Nat) {x y : UInt32} {op : CmpOp} (hC : Cx l D ty E rm cc own) (hdg : decode cc pc = .ok (.fcmp op, 1)) (k9 : G l D E k n ws lv (pc + 1) (.int (Op.cmpValue (FP.fcmp x y) op) :: rest)) : G l D E k n ws lv pc (.float y :: .float x :: rest) :=
  fun H locs ls hP hD hS hl => lv_fcmp hC.1 hC.2.1 hdg (k9 H locs ls hP hD hS hl)
theorem g_fconst0 (pc : Nat) (hC : Cx l D ty E rm cc own) (hdg : decode cc pc = .ok (.fconst 0, 1)) (k9 : G l D E k n ws lv (pc + 1) (.float FP.fconst0 :: rest)) : G l D E k n ws lv pc rest :=
  fun H locs ls hP hD hS hl => lv_fconst0 hC.1 hC.2.1 hdg (k9 H locs ls hP hD hS hl)
theorem g_fconst1 (pc : Nat) (hC : Cx l D ty E rm cc own) (hdg : decode cc pc = .ok (.fconst 1, 1)) (k9 : G l D E k n ws lv (pc + 1) (.float FP.fconst1 :: rest)) : G l D E k n ws lv pc rest :=
  fun H locs ls hP hD hS hl => lv_fconst1 hC.1 hC.2.1 hdg (k9 H locs ls hP hD hS hl)
theorem g_fconst2 (pc : Nat) (hC : Cx l D ty E rm cc own) (hdg : decode cc pc = .ok (.fconst 2, 1)) (k9 : G l D E k n ws lv (pc + 1) (.float FP.fconst2 :: rest)) : G l D E k n ws lv pc rest :=
  fun H locs ls hP hD hS hl => lv_fconst2 hC.1 hC.2.1 hdg (k9 H locs ls hP hD hS hl)
theorem wRaw1 : Cond.native ⟨"java/lang/Float", "floatToRawIntBits", "(F)I"⟩ ∈ wsL_law := by decide +kernel
theorem wRaw2 : Cond.static ⟨"java/lang/Float", "floatToRawIntBits", "(F)I"⟩ ∈ wsL_law := by decide +kernel
theorem wRaw3 : Cond.initialized "java/lang/Float" ∈ wsL_law := by decide +kernel
theorem g_f2raw (pc : Nat) {idx : Nat} {b : UInt32} (hC : Cx l D ty E rm cc own) (hw : Cond.methodLink own idx ⟨"java/lang/Float", "floatToRawIntBits", "(F)I"⟩ ∈ wsL_law) (hdg : decode cc pc = .ok (.invokestatic idx, 3)) (hfr : 1 ≤ rm.frames) (hlo : (rest.map fun v => v.category).sum + 15 ≤ rm.locals) (k9 : G l D E k n ws lv (pc + 3) (.int b.toInt32 :: rest)) : G l D E k n ws lv pc (.float b :: rest) := by
  intro H locs ls hP hD hS hl
  obtain ⟨a1, a2, a3, a4, a5, a6, a7, a8, a9⟩ := hC
  exact vn_f2i a1 a2 (a3.trans hl.1.symm) a4 (a5 _ hw) (a5 _ wRaw1) (a5 _ wRaw2) (a5 _ wRaw3) (a9 ▸ hfr) (a9 ▸ hlo) hdg (k9 H locs ls hP hD hS hl)
end GMORE
end
