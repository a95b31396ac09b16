/-! written by wip/whole/gen/walk.py: worlds, predicates and contracts -/
/-! ===== ProverbCollectionModel.in(JJJ)Z ===== -/
def Wd_X9_in (cI cS cT : ClassId) (ad : Nat → Nat) : va_W := []
def rm_X9_in : Room := { frames := 0, cells := 0, slots := 0, locals := 0 }
theorem kX9_in : KS yX9_in cX9_in 6 (some .boolean) 3 := ⟨wq_132, wq_5, wq_131, by decide +kernel⟩
def P_X9_in (x0 : Int64) (x2 : Int64) (x4 : Int64) (post : Int32 → Prop) : Prop :=
  ((lg_cmp x0 x2) < 0 → post (0 : Int32)) ∧ (¬ (lg_cmp x0 x2) < 0 → ((0 < (lg_cmp x0 x4) → post (0 : Int32)) ∧ (¬ 0 < (lg_cmp x0 x4) → post (1 : Int32))))
set_option maxHeartbeats 4000000 in
set_option maxRecDepth 100000 in
theorem c_X9_in (l : Launch) (D : va_G) (cI cS cT : ClassId) (ad : Nat → Nat) (x0 : Int64) (x2 : Int64) (x4 : Int64) (post : Int32 → Prop) (h : P_X9_in x0 x2 x4 post) : MI l D (TY cI cS cT) yX9_in cX9_in 6 (some .boolean) rm_X9_in [.long x0, .long x2, .long x4] (Wd_X9_in cI cS cT ad) (fun (r : Int32) w => w = (Wd_X9_in cI cS cT ad) ∧ post r) := by
  refine MI.of (by decide) (Nat.le_of_ble_eq_true rfl) (fun E hC hR hn => ?_)
  replace hC : Cx l D (TY cI cS cT) E rm_X9_in cX9_in RX9 := hC
  replace hR : RetI D E (fun (r : Int32) w => w = (Wd_X9_in cI cS cT ad) ∧ post r) 0 0 (some .boolean) := hR
  unfold P_X9_in at h
  change G l D E 0 0 _ [(0, .long x0), (2, .long x2), (4, .long x4)] 0 []
  refine g_lload_n 0 0 hC dX9_in_0 rfl ?_
  refine g_lload_n 1 1 hC dX9_in_1 rfl ?_
  refine g_lcmp 2 hC dX9_in_2 ?_
  refine g_if_lt 3 17 hC dX9_in_3 (by decide) (fun hc => ?_) (fun hc => ?_)
  · replace h := h.1 hc
    refine g_iconst (v := (0 : Int32)) 17 hC dX9_in_17 (by decide) ?_
    exact g_zret 18 hC hR dX9_in_18 (by decide) ⟨rfl, h⟩
  · replace h := h.2 hc
    refine g_lload_n 6 0 hC dX9_in_6 rfl ?_
    refine g_lload 7 2 hC dX9_in_7 rfl ?_
    refine g_lcmp 9 hC dX9_in_9 ?_
    refine g_if_gt 10 17 hC dX9_in_10 (by decide) (fun hc => ?_) (fun hc => ?_)
    · replace h := h.1 hc
      refine g_iconst (v := (0 : Int32)) 17 hC dX9_in_17 (by decide) ?_
      exact g_zret 18 hC hR dX9_in_18 (by decide) ⟨rfl, h⟩
    · replace h := h.2 hc
      refine g_iconst (v := (1 : Int32)) 13 hC dX9_in_13 (by decide) ?_
      refine g_goto 14 18 hC dX9_in_14 (by decide) ?_
      exact g_zret 18 hC hR dX9_in_18 (by decide) ⟨rfl, h⟩

/-! ===== ProverbCollectionModel.keeps()V ===== -/
def Wd_X9_keeps (cI cS cT : ClassId) (ad : Nat → Nat) (b0 : Nat) (mnow : Nat → Int32) (mbefore : Nat → Int32) (mundoMany : Int32) (mtokens : Int32) (moneLong : Int32) (motherLong : Int32) (medits : Int32) (mgroups : Int32) : va_W := [(ad b0, .inr (9, [.ref (ad (b0 + 1)), .ref (ad (b0 + 2)), .int mundoMany, .int mtokens, .ref (ad (b0 + 3)), .ref (ad (b0 + 4)), .ref (ad (b0 + 5)), .int moneLong, .int motherLong, .ref (ad (b0 + 6)), .int medits, .ref (ad (b0 + 7)), .ref (ad (b0 + 8)), .ref (ad (b0 + 9)), .ref (ad (b0 + 10)), .int mgroups, .ref (ad (b0 + 11)), .ref (ad (b0 + 12))])), (ad (b0 + 1), .inl (cI, 193, .inl mnow)), (ad (b0 + 2), .inl (cI, 965, .inl mbefore))]
def rm_X9_keeps : Room := { frames := 0, cells := 0, slots := 0, locals := 0 }
theorem kX9_keeps : KV yX9_keeps cX9_keeps 2 none 0 := ⟨wq_196, wq_5, wq_194, wq_195, by decide +kernel⟩
def B_X9_keeps_51 (mnow : Nat → Int32) (mundoMany : Int32) (K : Int32 → (Nat → Int32) → Prop) (rc : Int32 → (Nat → Int32) → Prop) (v1 : Int32) (mbefore : Nat → Int32) : Prop :=
  ((193 : Int32) ≤ v1 → K v1 mbefore) ∧ (¬ (193 : Int32) ≤ v1 → (vp_in v1 193 ∧ (vp_in (((193 : Int32) * mundoMany) + v1) 965 ∧ (rc (v1 + (1 : Int32)) (upd mbefore (Int32.toNatClampNeg (((193 : Int32) * mundoMany) + v1)) (mnow (Int32.toNatClampNeg v1)))))))
def P_X9_keeps_51 (mnow : Nat → Int32) (mundoMany : Int32) (K : Int32 → (Nat → Int32) → Prop) : Nat → Int32 → (Nat → Int32) → Prop
  | 0 => fun _ _ => False
  | n + 1 => fun v1 mbefore => B_X9_keeps_51 mnow mundoMany K (P_X9_keeps_51 mnow mundoMany K n) v1 mbefore
def B_X9_keeps_10 (K : Int32 → (Nat → Int32) → Prop) (rc : Int32 → (Nat → Int32) → Prop) (v1 : Int32) (mbefore : Nat → Int32) : Prop :=
  ((772 : Int32) ≤ v1 → K v1 mbefore) ∧ (¬ (772 : Int32) ≤ v1 → (vp_in ((193 : Int32) + v1) 965 ∧ (vp_in v1 965 ∧ (rc (v1 + (1 : Int32)) (upd mbefore (Int32.toNatClampNeg v1) (mbefore (Int32.toNatClampNeg ((193 : Int32) + v1))))))))
def P_X9_keeps_10 (K : Int32 → (Nat → Int32) → Prop) : Nat → Int32 → (Nat → Int32) → Prop
  | 0 => fun _ _ => False
  | n + 1 => fun v1 mbefore => B_X9_keeps_10 K (P_X9_keeps_10 K n) v1 mbefore
def P_X9_keeps (mnow : Nat → Int32) (mbefore : Nat → Int32) (mundoMany : Int32) (mtokens : Int32) (moneLong : Int32) (motherLong : Int32) (medits : Int32) (mgroups : Int32) (post : (Nat → Int32) → Int32 → Prop) : Prop :=
  (¬ mundoMany = (5 : Int32) → (∃ n : Nat, P_X9_keeps_51 mnow mundoMany (fun w1_1 mbefore_1 => post mbefore_1 (mundoMany + (1 : Int32))) n (0 : Int32) mbefore)) ∧ (mundoMany = (5 : Int32) → (∃ n : Nat, P_X9_keeps_10 (fun w1_2 mbefore_2 => ∃ n : Nat, P_X9_keeps_51 mnow (mundoMany - (1 : Int32)) (fun w1_3 mbefore_3 => post mbefore_3 ((mundoMany - (1 : Int32)) + (1 : Int32))) n (0 : Int32) mbefore_2) n (0 : Int32) mbefore))
set_option maxHeartbeats 4000000 in
set_option maxRecDepth 100000 in
theorem L_X9_keeps_51 {l : Launch} {D : va_G} {cI cS cT : ClassId} {ad : Nat → Nat} {b0 : Nat} {E : CE} {mnow : Nat → Int32} {mundoMany : Int32} {mtokens : Int32} {moneLong : Int32} {motherLong : Int32} {medits : Int32} {mgroups : Int32} {post : (Nat → Int32) → Int32 → Prop} (hC : Cx l D (TY cI cS cT) E rm_X9_keeps cX9_keeps RX9) (hR : RetV D E (fun w => ∃ (u_mbefore : Nat → Int32) (u_mundoMany : Int32), w = (Wd_X9_keeps cI cS cT ad b0 mnow u_mbefore u_mundoMany mtokens moneLong motherLong medits mgroups) ∧ post u_mbefore u_mundoMany) 0 0) (hn : E.nL = 2) (K : Int32 → (Nat → Int32) → Prop) (hK : ∀ (v1 : Int32) (mbefore : Nat → Int32), K v1 mbefore → G l D E 0 0 (Wd_X9_keeps cI cS cT ad b0 mnow mbefore mundoMany mtokens moneLong motherLong medits mgroups) [(1, .int v1), (0, .ref (ad b0))] 85 []) : ∀ (n : Nat) (v1 : Int32) (mbefore : Nat → Int32), P_X9_keeps_51 mnow mundoMany K n v1 mbefore → G l D E 0 0 (Wd_X9_keeps cI cS cT ad b0 mnow mbefore mundoMany mtokens moneLong motherLong medits mgroups) [(1, .int v1), (0, .ref (ad b0))] 51 [] := by
  intro n
  induction n with
  | zero => exact fun _ _ h => h.elim
  | succ n ih =>
    intro v1 mbefore h
    replace h : B_X9_keeps_51 mnow mundoMany K (P_X9_keeps_51 mnow mundoMany K n) v1 mbefore := h
    unfold B_X9_keeps_51 at h
    refine g_iload_n 51 0 hC dX9_keeps_51 rfl ?_
    refine g_sipush (v := (193 : Int32)) 52 hC dX9_keeps_52 (by decide) ?_
    refine g_icmp_ge 55 85 hC dX9_keeps_55 (by decide) (fun hc => ?_) (fun hc => ?_)
    · replace h := h.1 hc
      refine G.sub [0, 1] rfl ?_
      exact hK v1 mbefore h
    · replace h := h.2 hc
      refine g_aload_n 58 1 hC dX9_keeps_58 rfl ?_
      refine g_get 59 0 1 hC inlX9 wq_105 dX9_keeps_59 rfl rfl (by decide) rfl ?_
      refine g_sipush (v := (193 : Int32)) 62 hC dX9_keeps_62 (by decide) ?_
      refine g_aload_n 65 1 hC dX9_keeps_65 rfl ?_
      refine g_get 66 0 2 hC inlX9 wq_197 dX9_keeps_66 rfl rfl (by decide) rfl ?_
      refine g_imul 69 hC dX9_keeps_69 ?_
      refine g_iload_n 70 0 hC dX9_keeps_70 rfl ?_
      refine g_iadd 71 hC dX9_keeps_71 ?_
      refine g_aload_n 72 1 hC dX9_keeps_72 rfl ?_
      refine g_get 73 0 0 hC inlX9 wq_104 dX9_keeps_73 rfl rfl (by decide) rfl ?_
      refine g_iload_n 76 0 hC dX9_keeps_76 rfl ?_
      obtain ⟨hj, h⟩ := h
      refine g_iald 77 1 hC dX9_keeps_77 rfl rfl hj ?_
      obtain ⟨hj, h⟩ := h
      refine g_iast 78 2 (Wd_X9_keeps cI cS cT ad b0 mnow (upd mbefore (Int32.toNatClampNeg (((193 : Int32) * mundoMany) + v1)) (mnow (Int32.toNatClampNeg v1))) mundoMany mtokens moneLong motherLong medits mgroups) hC dX9_keeps_78 rfl rfl hj rfl ?_
      refine g_iinc (v := (1 : Int32)) 79 0 [(1, .int (v1 + (1 : Int32))), (0, .ref (ad b0))] hC dX9_keeps_79 rfl (by decide) (by rw [hn]; decide) rfl ?_
      refine g_goto 82 51 hC dX9_keeps_82 (by decide) ?_
      refine G.sub [0, 1] rfl ?_
      exact ih _ _ h
set_option maxHeartbeats 4000000 in
set_option maxRecDepth 100000 in
theorem L_X9_keeps_10 {l : Launch} {D : va_G} {cI cS cT : ClassId} {ad : Nat → Nat} {b0 : Nat} {E : CE} {mnow : Nat → Int32} {mundoMany : Int32} {mtokens : Int32} {moneLong : Int32} {motherLong : Int32} {medits : Int32} {mgroups : Int32} {post : (Nat → Int32) → Int32 → Prop} (hC : Cx l D (TY cI cS cT) E rm_X9_keeps cX9_keeps RX9) (hR : RetV D E (fun w => ∃ (u_mbefore : Nat → Int32) (u_mundoMany : Int32), w = (Wd_X9_keeps cI cS cT ad b0 mnow u_mbefore u_mundoMany mtokens moneLong motherLong medits mgroups) ∧ post u_mbefore u_mundoMany) 0 0) (hn : E.nL = 2) (K : Int32 → (Nat → Int32) → Prop) (hK : ∀ (v1 : Int32) (mbefore : Nat → Int32), K v1 mbefore → G l D E 0 0 (Wd_X9_keeps cI cS cT ad b0 mnow mbefore mundoMany mtokens moneLong motherLong medits mgroups) [(1, .int v1), (0, .ref (ad b0))] 39 []) : ∀ (n : Nat) (v1 : Int32) (mbefore : Nat → Int32), P_X9_keeps_10 K n v1 mbefore → G l D E 0 0 (Wd_X9_keeps cI cS cT ad b0 mnow mbefore mundoMany mtokens moneLong motherLong medits mgroups) [(1, .int v1), (0, .ref (ad b0))] 10 [] := by
  intro n
  induction n with
  | zero => exact fun _ _ h => h.elim
  | succ n ih =>
    intro v1 mbefore h
    replace h : B_X9_keeps_10 K (P_X9_keeps_10 K n) v1 mbefore := h
    unfold B_X9_keeps_10 at h
    refine g_iload_n 10 0 hC dX9_keeps_10 rfl ?_
    refine g_sipush (v := (772 : Int32)) 11 hC dX9_keeps_11 (by decide) ?_
    refine g_icmp_ge 14 39 hC dX9_keeps_14 (by decide) (fun hc => ?_) (fun hc => ?_)
    · replace h := h.1 hc
      refine G.sub [0, 1] rfl ?_
      exact hK v1 mbefore h
    · replace h := h.2 hc
      refine g_aload_n 17 1 hC dX9_keeps_17 rfl ?_
      refine g_get 18 0 1 hC inlX9 wq_105 dX9_keeps_18 rfl rfl (by decide) rfl ?_
      refine g_iload_n 21 0 hC dX9_keeps_21 rfl ?_
      refine g_aload_n 22 1 hC dX9_keeps_22 rfl ?_
      refine g_get 23 0 1 hC inlX9 wq_105 dX9_keeps_23 rfl rfl (by decide) rfl ?_
      refine g_sipush (v := (193 : Int32)) 26 hC dX9_keeps_26 (by decide) ?_
      refine g_iload_n 29 0 hC dX9_keeps_29 rfl ?_
      refine g_iadd 30 hC dX9_keeps_30 ?_
      obtain ⟨hj, h⟩ := h
      refine g_iald 31 2 hC dX9_keeps_31 rfl rfl hj ?_
      obtain ⟨hj, h⟩ := h
      refine g_iast 32 2 (Wd_X9_keeps cI cS cT ad b0 mnow (upd mbefore (Int32.toNatClampNeg v1) (mbefore (Int32.toNatClampNeg ((193 : Int32) + v1)))) mundoMany mtokens moneLong motherLong medits mgroups) hC dX9_keeps_32 rfl rfl hj rfl ?_
      refine g_iinc (v := (1 : Int32)) 33 0 [(1, .int (v1 + (1 : Int32))), (0, .ref (ad b0))] hC dX9_keeps_33 rfl (by decide) (by rw [hn]; decide) rfl ?_
      refine g_goto 36 10 hC dX9_keeps_36 (by decide) ?_
      refine G.sub [0, 1] rfl ?_
      exact ih _ _ h
set_option maxHeartbeats 4000000 in
set_option maxRecDepth 100000 in
theorem c_X9_keeps (l : Launch) (D : va_G) (cI cS cT : ClassId) (ad : Nat → Nat) (b0 : Nat) (mnow : Nat → Int32) (mbefore : Nat → Int32) (mundoMany : Int32) (mtokens : Int32) (moneLong : Int32) (motherLong : Int32) (medits : Int32) (mgroups : Int32) (post : (Nat → Int32) → Int32 → Prop) (h : P_X9_keeps mnow mbefore mundoMany mtokens moneLong motherLong medits mgroups post) : MV l D (TY cI cS cT) yX9_keeps cX9_keeps 2 rm_X9_keeps [.ref (ad b0)] (Wd_X9_keeps cI cS cT ad b0 mnow mbefore mundoMany mtokens moneLong motherLong medits mgroups) (fun w => ∃ (u_mbefore : Nat → Int32) (u_mundoMany : Int32), w = (Wd_X9_keeps cI cS cT ad b0 mnow u_mbefore u_mundoMany mtokens moneLong motherLong medits mgroups) ∧ post u_mbefore u_mundoMany) := by
  refine MV.of (by decide) (Nat.le_of_ble_eq_true rfl) (fun E hC hR hn => ?_)
  replace hC : Cx l D (TY cI cS cT) E rm_X9_keeps cX9_keeps RX9 := hC
  replace hR : RetV D E (fun w => ∃ (u_mbefore : Nat → Int32) (u_mundoMany : Int32), w = (Wd_X9_keeps cI cS cT ad b0 mnow u_mbefore u_mundoMany mtokens moneLong motherLong medits mgroups) ∧ post u_mbefore u_mundoMany) 0 0 := hR
  unfold P_X9_keeps at h
  change G l D E 0 0 _ [(0, .ref (ad b0))] 0 []
  refine g_aload_n 0 0 hC dX9_keeps_0 rfl ?_
  refine g_get 1 0 2 hC inlX9 wq_197 dX9_keeps_1 rfl rfl (by decide) rfl ?_
  refine g_iconst (v := (5 : Int32)) 4 hC dX9_keeps_4 (by decide) ?_
  refine g_icmp_ne 5 49 hC dX9_keeps_5 (by decide) (fun hc => ?_) (fun hc => ?_)
  · replace h := h.1 hc
    refine g_iconst (v := (0 : Int32)) 49 hC dX9_keeps_49 (by decide) ?_
    refine g_istore_n 50 [(1, .int (0 : Int32)), (0, .ref (ad b0))] hC dX9_keeps_50 (by rw [hn]; decide) rfl ?_
    obtain ⟨n, h⟩ := h
    refine L_X9_keeps_51 hC hR hn _ (fun w1_1 mbefore_1 h => ?_) n _ _ h
    refine g_aload_n 85 1 hC dX9_keeps_85 rfl ?_
    refine g_dup 86 hC dX9_keeps_86 rfl ?_
    refine g_get 87 0 2 hC inlX9 wq_197 dX9_keeps_87 rfl rfl (by decide) rfl ?_
    refine g_iconst (v := (1 : Int32)) 90 hC dX9_keeps_90 (by decide) ?_
    refine g_iadd 91 hC dX9_keeps_91 ?_
    refine g_put 92 0 2 (Wd_X9_keeps cI cS cT ad b0 mnow mbefore_1 (mundoMany + (1 : Int32)) mtokens moneLong motherLong medits mgroups) hC inlX9 tyX9_ok nmX9 wq_197 dX9_keeps_92 rfl rfl (by decide) rfl rfl (Nat.le_of_ble_eq_true rfl) rfl ?_
    exact g_vret 95 hC hR dX9_keeps_95 ⟨mbefore_1, (mundoMany + (1 : Int32)), rfl, h⟩
  · replace h := h.2 hc
    refine g_iconst (v := (0 : Int32)) 8 hC dX9_keeps_8 (by decide) ?_
    refine g_istore_n 9 [(1, .int (0 : Int32)), (0, .ref (ad b0))] hC dX9_keeps_9 (by rw [hn]; decide) rfl ?_
    obtain ⟨n, h⟩ := h
    refine L_X9_keeps_10 hC hR hn _ (fun w1_2 mbefore_2 h => ?_) n _ _ h
    refine g_aload_n 39 1 hC dX9_keeps_39 rfl ?_
    refine g_dup 40 hC dX9_keeps_40 rfl ?_
    refine g_get 41 0 2 hC inlX9 wq_197 dX9_keeps_41 rfl rfl (by decide) rfl ?_
    refine g_iconst (v := (1 : Int32)) 44 hC dX9_keeps_44 (by decide) ?_
    refine g_isub 45 hC dX9_keeps_45 ?_
    refine g_put 46 0 2 (Wd_X9_keeps cI cS cT ad b0 mnow mbefore_2 (mundoMany - (1 : Int32)) mtokens moneLong motherLong medits mgroups) hC inlX9 tyX9_ok nmX9 wq_197 dX9_keeps_46 rfl rfl (by decide) rfl rfl (Nat.le_of_ble_eq_true rfl) rfl ?_
    refine g_iconst (v := (0 : Int32)) 49 hC dX9_keeps_49 (by decide) ?_
    refine g_istore_n 50 [(1, .int (0 : Int32)), (0, .ref (ad b0))] hC dX9_keeps_50 (by rw [hn]; decide) rfl ?_
    obtain ⟨n, h⟩ := h
    refine L_X9_keeps_51 hC hR hn _ (fun w1_3 mbefore_3 h => ?_) n _ _ h
    refine g_aload_n 85 1 hC dX9_keeps_85 rfl ?_
    refine g_dup 86 hC dX9_keeps_86 rfl ?_
    refine g_get 87 0 2 hC inlX9 wq_197 dX9_keeps_87 rfl rfl (by decide) rfl ?_
    refine g_iconst (v := (1 : Int32)) 90 hC dX9_keeps_90 (by decide) ?_
    refine g_iadd 91 hC dX9_keeps_91 ?_
    refine g_put 92 0 2 (Wd_X9_keeps cI cS cT ad b0 mnow mbefore_3 ((mundoMany - (1 : Int32)) + (1 : Int32)) mtokens moneLong motherLong medits mgroups) hC inlX9 tyX9_ok nmX9 wq_197 dX9_keeps_92 rfl rfl (by decide) rfl rfl (Nat.le_of_ble_eq_true rfl) rfl ?_
    exact g_vret 95 hC hR dX9_keeps_95 ⟨mbefore_3, ((mundoMany - (1 : Int32)) + (1 : Int32)), rfl, h⟩

/-! ===== ProverbCollectionModel.undo()I ===== -/
def Wd_X9_undo (cI cS cT : ClassId) (ad : Nat → Nat) (b0 : Nat) (mnow : Nat → Int32) (mbefore : Nat → Int32) (mundoMany : Int32) (mtokens : Int32) (moneLong : Int32) (motherLong : Int32) (medits : Int32) (mgroups : Int32) : va_W := [(ad b0, .inr (9, [.ref (ad (b0 + 1)), .ref (ad (b0 + 2)), .int mundoMany, .int mtokens, .ref (ad (b0 + 3)), .ref (ad (b0 + 4)), .ref (ad (b0 + 5)), .int moneLong, .int motherLong, .ref (ad (b0 + 6)), .int medits, .ref (ad (b0 + 7)), .ref (ad (b0 + 8)), .ref (ad (b0 + 9)), .ref (ad (b0 + 10)), .int mgroups, .ref (ad (b0 + 11)), .ref (ad (b0 + 12))])), (ad (b0 + 1), .inl (cI, 193, .inl mnow)), (ad (b0 + 2), .inl (cI, 965, .inl mbefore))]
def rm_X9_undo : Room := { frames := 0, cells := 0, slots := 0, locals := 0 }
theorem kX9_undo : KV yX9_undo cX9_undo 2 (some .int) 0 := ⟨wq_631, wq_5, wq_629, wq_630, by decide +kernel⟩
def B_X9_undo_22 (mbefore : Nat → Int32) (mundoMany : Int32) (K : Int32 → (Nat → Int32) → Prop) (rc : Int32 → (Nat → Int32) → Prop) (v1 : Int32) (mnow : Nat → Int32) : Prop :=
  ((193 : Int32) ≤ v1 → K v1 mnow) ∧ (¬ (193 : Int32) ≤ v1 → (vp_in (((193 : Int32) * mundoMany) + v1) 965 ∧ (vp_in v1 193 ∧ (rc (v1 + (1 : Int32)) (upd mnow (Int32.toNatClampNeg v1) (mbefore (Int32.toNatClampNeg (((193 : Int32) * mundoMany) + v1))))))))
def P_X9_undo_22 (mbefore : Nat → Int32) (mundoMany : Int32) (K : Int32 → (Nat → Int32) → Prop) : Nat → Int32 → (Nat → Int32) → Prop
  | 0 => fun _ _ => False
  | n + 1 => fun v1 mnow => B_X9_undo_22 mbefore mundoMany K (P_X9_undo_22 mbefore mundoMany K n) v1 mnow
def P_X9_undo (mnow : Nat → Int32) (mbefore : Nat → Int32) (mundoMany : Int32) (mtokens : Int32) (moneLong : Int32) (motherLong : Int32) (medits : Int32) (mgroups : Int32) (post : Int32 → (Nat → Int32) → Int32 → Prop) : Prop :=
  (¬ mundoMany = 0 → (∃ n : Nat, P_X9_undo_22 mbefore (mundoMany - (1 : Int32)) (fun w1_1 mnow_1 => post (mundoMany - (1 : Int32)) mnow_1 (mundoMany - (1 : Int32))) n (0 : Int32) mnow)) ∧ (mundoMany = 0 → post (-2 : Int32) mnow mundoMany)
set_option maxHeartbeats 4000000 in
set_option maxRecDepth 100000 in
theorem L_X9_undo_22 {l : Launch} {D : va_G} {cI cS cT : ClassId} {ad : Nat → Nat} {b0 : Nat} {E : CE} {mbefore : Nat → Int32} {mundoMany : Int32} {mtokens : Int32} {moneLong : Int32} {motherLong : Int32} {medits : Int32} {mgroups : Int32} {post : Int32 → (Nat → Int32) → Int32 → Prop} (hC : Cx l D (TY cI cS cT) E rm_X9_undo cX9_undo RX9) (hR : RetI D E (fun (r : Int32) w => ∃ (u_mnow : Nat → Int32) (u_mundoMany : Int32), w = (Wd_X9_undo cI cS cT ad b0 u_mnow mbefore u_mundoMany mtokens moneLong motherLong medits mgroups) ∧ post r u_mnow u_mundoMany) 0 0 (some .int)) (hn : E.nL = 2) (K : Int32 → (Nat → Int32) → Prop) (hK : ∀ (v1 : Int32) (mnow : Nat → Int32), K v1 mnow → G l D E 0 0 (Wd_X9_undo cI cS cT ad b0 mnow mbefore mundoMany mtokens moneLong motherLong medits mgroups) [(1, .int v1), (0, .ref (ad b0))] 56 []) : ∀ (n : Nat) (v1 : Int32) (mnow : Nat → Int32), P_X9_undo_22 mbefore mundoMany K n v1 mnow → G l D E 0 0 (Wd_X9_undo cI cS cT ad b0 mnow mbefore mundoMany mtokens moneLong motherLong medits mgroups) [(1, .int v1), (0, .ref (ad b0))] 22 [] := by
  intro n
  induction n with
  | zero => exact fun _ _ h => h.elim
  | succ n ih =>
    intro v1 mnow h
    replace h : B_X9_undo_22 mbefore mundoMany K (P_X9_undo_22 mbefore mundoMany K n) v1 mnow := h
    unfold B_X9_undo_22 at h
    refine g_iload_n 22 0 hC dX9_undo_22 rfl ?_
    refine g_sipush (v := (193 : Int32)) 23 hC dX9_undo_23 (by decide) ?_
    refine g_icmp_ge 26 56 hC dX9_undo_26 (by decide) (fun hc => ?_) (fun hc => ?_)
    · replace h := h.1 hc
      refine G.sub [0, 1] rfl ?_
      exact hK v1 mnow h
    · replace h := h.2 hc
      refine g_aload_n 29 1 hC dX9_undo_29 rfl ?_
      refine g_get 30 0 0 hC inlX9 wq_104 dX9_undo_30 rfl rfl (by decide) rfl ?_
      refine g_iload_n 33 0 hC dX9_undo_33 rfl ?_
      refine g_aload_n 34 1 hC dX9_undo_34 rfl ?_
      refine g_get 35 0 1 hC inlX9 wq_105 dX9_undo_35 rfl rfl (by decide) rfl ?_
      refine g_sipush (v := (193 : Int32)) 38 hC dX9_undo_38 (by decide) ?_
      refine g_aload_n 41 1 hC dX9_undo_41 rfl ?_
      refine g_get 42 0 2 hC inlX9 wq_197 dX9_undo_42 rfl rfl (by decide) rfl ?_
      refine g_imul 45 hC dX9_undo_45 ?_
      refine g_iload_n 46 0 hC dX9_undo_46 rfl ?_
      refine g_iadd 47 hC dX9_undo_47 ?_
      obtain ⟨hj, h⟩ := h
      refine g_iald 48 2 hC dX9_undo_48 rfl rfl hj ?_
      obtain ⟨hj, h⟩ := h
      refine g_iast 49 1 (Wd_X9_undo cI cS cT ad b0 (upd mnow (Int32.toNatClampNeg v1) (mbefore (Int32.toNatClampNeg (((193 : Int32) * mundoMany) + v1)))) mbefore mundoMany mtokens moneLong motherLong medits mgroups) hC dX9_undo_49 rfl rfl hj rfl ?_
      refine g_iinc (v := (1 : Int32)) 50 0 [(1, .int (v1 + (1 : Int32))), (0, .ref (ad b0))] hC dX9_undo_50 rfl (by decide) (by rw [hn]; decide) rfl ?_
      refine g_goto 53 22 hC dX9_undo_53 (by decide) ?_
      refine G.sub [0, 1] rfl ?_
      exact ih _ _ h
set_option maxHeartbeats 4000000 in
set_option maxRecDepth 100000 in
theorem c_X9_undo (l : Launch) (D : va_G) (cI cS cT : ClassId) (ad : Nat → Nat) (b0 : Nat) (mnow : Nat → Int32) (mbefore : Nat → Int32) (mundoMany : Int32) (mtokens : Int32) (moneLong : Int32) (motherLong : Int32) (medits : Int32) (mgroups : Int32) (post : Int32 → (Nat → Int32) → Int32 → Prop) (h : P_X9_undo mnow mbefore mundoMany mtokens moneLong motherLong medits mgroups post) : MI l D (TY cI cS cT) yX9_undo cX9_undo 2 (some .int) rm_X9_undo [.ref (ad b0)] (Wd_X9_undo cI cS cT ad b0 mnow mbefore mundoMany mtokens moneLong motherLong medits mgroups) (fun (r : Int32) w => ∃ (u_mnow : Nat → Int32) (u_mundoMany : Int32), w = (Wd_X9_undo cI cS cT ad b0 u_mnow mbefore u_mundoMany mtokens moneLong motherLong medits mgroups) ∧ post r u_mnow u_mundoMany) := by
  refine MI.of (by decide) (Nat.le_of_ble_eq_true rfl) (fun E hC hR hn => ?_)
  replace hC : Cx l D (TY cI cS cT) E rm_X9_undo cX9_undo RX9 := hC
  replace hR : RetI D E (fun (r : Int32) w => ∃ (u_mnow : Nat → Int32) (u_mundoMany : Int32), w = (Wd_X9_undo cI cS cT ad b0 u_mnow mbefore u_mundoMany mtokens moneLong motherLong medits mgroups) ∧ post r u_mnow u_mundoMany) 0 0 (some .int) := hR
  unfold P_X9_undo at h
  change G l D E 0 0 _ [(0, .ref (ad b0))] 0 []
  refine g_aload_n 0 0 hC dX9_undo_0 rfl ?_
  refine g_get 1 0 2 hC inlX9 wq_197 dX9_undo_1 rfl rfl (by decide) rfl ?_
  refine g_if_ne 4 10 hC dX9_undo_4 (by decide) (fun hc => ?_) (fun hc => ?_)
  · replace h := h.1 hc
    refine g_aload_n 10 0 hC dX9_undo_10 rfl ?_
    refine g_dup 11 hC dX9_undo_11 rfl ?_
    refine g_get 12 0 2 hC inlX9 wq_197 dX9_undo_12 rfl rfl (by decide) rfl ?_
    refine g_iconst (v := (1 : Int32)) 15 hC dX9_undo_15 (by decide) ?_
    refine g_isub 16 hC dX9_undo_16 ?_
    refine g_put 17 0 2 (Wd_X9_undo cI cS cT ad b0 mnow mbefore (mundoMany - (1 : Int32)) mtokens moneLong motherLong medits mgroups) hC inlX9 tyX9_ok nmX9 wq_197 dX9_undo_17 rfl rfl (by decide) rfl rfl (Nat.le_of_ble_eq_true rfl) rfl ?_
    refine g_iconst (v := (0 : Int32)) 20 hC dX9_undo_20 (by decide) ?_
    refine g_istore_n 21 [(1, .int (0 : Int32)), (0, .ref (ad b0))] hC dX9_undo_21 (by rw [hn]; decide) rfl ?_
    obtain ⟨n, h⟩ := h
    refine L_X9_undo_22 hC hR hn _ (fun w1_1 mnow_1 h => ?_) n _ _ h
    refine g_aload_n 56 1 hC dX9_undo_56 rfl ?_
    refine g_get 57 0 2 hC inlX9 wq_197 dX9_undo_57 rfl rfl (by decide) rfl ?_
    exact g_iret 60 hC hR dX9_undo_60 ⟨mnow_1, (mundoMany - (1 : Int32)), rfl, h⟩
  · replace h := h.2 hc
    refine g_bipush (v := (-2 : Int32)) 7 hC dX9_undo_7 (by decide) ?_
    exact g_iret 9 hC hR dX9_undo_9 ⟨mnow, mundoMany, rfl, h⟩

/-! ===== ProverbCollectionModel.isSaying(I)Z ===== -/
def Wd_X9_isSaying (cI cS cT : ClassId) (ad : Nat → Nat) (b0 : Nat) (mnow : Nat → Int32) (mundoMany : Int32) (mtokens : Int32) (moneLong : Int32) (motherLong : Int32) (medits : Int32) (mgroups : Int32) : va_W := [(ad b0, .inr (9, [.ref (ad (b0 + 1)), .ref (ad (b0 + 2)), .int mundoMany, .int mtokens, .ref (ad (b0 + 3)), .ref (ad (b0 + 4)), .ref (ad (b0 + 5)), .int moneLong, .int motherLong, .ref (ad (b0 + 6)), .int medits, .ref (ad (b0 + 7)), .ref (ad (b0 + 8)), .ref (ad (b0 + 9)), .ref (ad (b0 + 10)), .int mgroups, .ref (ad (b0 + 11)), .ref (ad (b0 + 12))])), (ad (b0 + 1), .inl (cI, 193, .inl mnow))]
def rm_X9_isSaying : Room := { frames := 1, cells := 0, slots := 0, locals := 25 }
theorem kX9_isSaying : KV yX9_isSaying cX9_isSaying 2 (some .boolean) 1 := ⟨wq_218, wq_5, wq_216, wq_217, by decide +kernel⟩
def P_X9_isSaying (x1 : Int32) (mnow : Nat → Int32) (mundoMany : Int32) (mtokens : Int32) (moneLong : Int32) (motherLong : Int32) (medits : Int32) (mgroups : Int32) (post : Int32 → Prop) : Prop :=
  P_X9_in (Int32.toInt64 x1) (0 : Int64) (Int32.toInt64 ((mnow (Int32.toNatClampNeg (0 : Int32))) - (1 : Int32))) (fun r1 => (r1 = 0 ∨ r1 = 1) ∧ post r1)
set_option maxHeartbeats 4000000 in
set_option maxRecDepth 100000 in
theorem c_X9_isSaying (l : Launch) (D : va_G) (cI cS cT : ClassId) (ad : Nat → Nat) (b0 : Nat) (x1 : Int32) (mnow : Nat → Int32) (mundoMany : Int32) (mtokens : Int32) (moneLong : Int32) (motherLong : Int32) (medits : Int32) (mgroups : Int32) (post : Int32 → Prop) (h : P_X9_isSaying x1 mnow mundoMany mtokens moneLong motherLong medits mgroups post) : MI l D (TY cI cS cT) yX9_isSaying cX9_isSaying 2 (some .boolean) rm_X9_isSaying [.ref (ad b0), .int x1] (Wd_X9_isSaying cI cS cT ad b0 mnow mundoMany mtokens moneLong motherLong medits mgroups) (fun (r : Int32) w => w = (Wd_X9_isSaying cI cS cT ad b0 mnow mundoMany mtokens moneLong motherLong medits mgroups) ∧ post r) := by
  refine MI.of (by decide) (Nat.le_of_ble_eq_true rfl) (fun E hC hR hn => ?_)
  replace hC : Cx l D (TY cI cS cT) E rm_X9_isSaying cX9_isSaying RX9 := hC
  replace hR : RetI D E (fun (r : Int32) w => w = (Wd_X9_isSaying cI cS cT ad b0 mnow mundoMany mtokens moneLong motherLong medits mgroups) ∧ post r) 0 0 (some .boolean) := hR
  unfold P_X9_isSaying at h
  change G l D E 0 0 _ [(0, .ref (ad b0)), (1, .int x1)] 0 []
  refine g_iload_n 0 1 hC dX9_isSaying_0 rfl ?_
  refine g_i2l 1 hC dX9_isSaying_1 ?_
  refine g_lconst (v := (0 : Int64)) 2 hC dX9_isSaying_2 (by decide) ?_
  refine g_aload_n 3 0 hC dX9_isSaying_3 rfl ?_
  refine g_get 4 0 0 hC inlX9 wq_104 dX9_isSaying_4 rfl rfl (by decide) rfl ?_
  refine g_iconst (v := (0 : Int32)) 7 hC dX9_isSaying_7 (by decide) ?_
  refine g_iald 8 1 hC dX9_isSaying_8 rfl rfl (by unfold vp_in; decide) ?_
  refine g_iconst (v := (1 : Int32)) 9 hC dX9_isSaying_9 (by decide) ?_
  refine g_isub 10 hC dX9_isSaying_10 ?_
  refine g_i2l 11 hC dX9_isSaying_11 ?_
  refine g_cSi (As := [.long (Int32.toInt64 x1), .long (0 : Int64), .long (Int32.toInt64 ((mnow (Int32.toNatClampNeg (0 : Int32))) - (1 : Int32)))]) (rest := []) 12 [] hC (c_X9_in l D cI cS cT ad (Int32.toInt64 x1) (0 : Int64) (Int32.toInt64 ((mnow (Int32.toNatClampNeg (0 : Int32))) - (1 : Int32))) _ h) kX9_in wq_130 dX9_isSaying_12 ⟨Nat.le_of_ble_eq_true rfl, Nat.le_of_ble_eq_true rfl⟩ rfl rfl (Nat.zero_le _) (Nat.zero_le _) rfl rfl rfl (Nat.le_of_ble_eq_true rfl) ?_
  rintro r1 _ ⟨rfl, h⟩
  refine ⟨Nat.le_of_ble_eq_true rfl, G.upd [0, 1] (Wd_X9_isSaying cI cS cT ad b0 mnow mundoMany mtokens moneLong motherLong medits mgroups) rfl rfl rfl rfl rfl ?_⟩
  obtain ⟨hz, h⟩ := h
  exact g_zret 15 hC hR dX9_isSaying_15 hz ⟨rfl, h⟩

/-! ===== ProverbCollectionModel.isPattern(I)Z ===== -/
def Wd_X9_isPattern (cI cS cT : ClassId) (ad : Nat → Nat) (b0 : Nat) (mnow : Nat → Int32) (mundoMany : Int32) (mtokens : Int32) (moneLong : Int32) (motherLong : Int32) (medits : Int32) (mgroups : Int32) : va_W := [(ad b0, .inr (9, [.ref (ad (b0 + 1)), .ref (ad (b0 + 2)), .int mundoMany, .int mtokens, .ref (ad (b0 + 3)), .ref (ad (b0 + 4)), .ref (ad (b0 + 5)), .int moneLong, .int motherLong, .ref (ad (b0 + 6)), .int medits, .ref (ad (b0 + 7)), .ref (ad (b0 + 8)), .ref (ad (b0 + 9)), .ref (ad (b0 + 10)), .int mgroups, .ref (ad (b0 + 11)), .ref (ad (b0 + 12))])), (ad (b0 + 1), .inl (cI, 193, .inl mnow))]
def rm_X9_isPattern : Room := { frames := 1, cells := 0, slots := 0, locals := 25 }
theorem kX9_isPattern : KV yX9_isPattern cX9_isPattern 2 (some .boolean) 1 := ⟨wq_444, wq_5, wq_442, wq_443, by decide +kernel⟩
def P_X9_isPattern (x1 : Int32) (mnow : Nat → Int32) (mundoMany : Int32) (mtokens : Int32) (moneLong : Int32) (motherLong : Int32) (medits : Int32) (mgroups : Int32) (post : Int32 → Prop) : Prop :=
  P_X9_in (Int32.toInt64 x1) (0 : Int64) (Int32.toInt64 ((mnow (Int32.toNatClampNeg (133 : Int32))) - (1 : Int32))) (fun r1 => (r1 = 0 ∨ r1 = 1) ∧ post r1)
set_option maxHeartbeats 4000000 in
set_option maxRecDepth 100000 in
theorem c_X9_isPattern (l : Launch) (D : va_G) (cI cS cT : ClassId) (ad : Nat → Nat) (b0 : Nat) (x1 : Int32) (mnow : Nat → Int32) (mundoMany : Int32) (mtokens : Int32) (moneLong : Int32) (motherLong : Int32) (medits : Int32) (mgroups : Int32) (post : Int32 → Prop) (h : P_X9_isPattern x1 mnow mundoMany mtokens moneLong motherLong medits mgroups post) : MI l D (TY cI cS cT) yX9_isPattern cX9_isPattern 2 (some .boolean) rm_X9_isPattern [.ref (ad b0), .int x1] (Wd_X9_isPattern cI cS cT ad b0 mnow mundoMany mtokens moneLong motherLong medits mgroups) (fun (r : Int32) w => w = (Wd_X9_isPattern cI cS cT ad b0 mnow mundoMany mtokens moneLong motherLong medits mgroups) ∧ post r) := by
  refine MI.of (by decide) (Nat.le_of_ble_eq_true rfl) (fun E hC hR hn => ?_)
  replace hC : Cx l D (TY cI cS cT) E rm_X9_isPattern cX9_isPattern RX9 := hC
  replace hR : RetI D E (fun (r : Int32) w => w = (Wd_X9_isPattern cI cS cT ad b0 mnow mundoMany mtokens moneLong motherLong medits mgroups) ∧ post r) 0 0 (some .boolean) := hR
  unfold P_X9_isPattern at h
  change G l D E 0 0 _ [(0, .ref (ad b0)), (1, .int x1)] 0 []
  refine g_iload_n 0 1 hC dX9_isPattern_0 rfl ?_
  refine g_i2l 1 hC dX9_isPattern_1 ?_
  refine g_lconst (v := (0 : Int64)) 2 hC dX9_isPattern_2 (by decide) ?_
  refine g_aload_n 3 0 hC dX9_isPattern_3 rfl ?_
  refine g_get 4 0 0 hC inlX9 wq_104 dX9_isPattern_4 rfl rfl (by decide) rfl ?_
  refine g_sipush (v := (133 : Int32)) 7 hC dX9_isPattern_7 (by decide) ?_
  refine g_iald 10 1 hC dX9_isPattern_10 rfl rfl (by unfold vp_in; decide) ?_
  refine g_iconst (v := (1 : Int32)) 11 hC dX9_isPattern_11 (by decide) ?_
  refine g_isub 12 hC dX9_isPattern_12 ?_
  refine g_i2l 13 hC dX9_isPattern_13 ?_
  refine g_cSi (As := [.long (Int32.toInt64 x1), .long (0 : Int64), .long (Int32.toInt64 ((mnow (Int32.toNatClampNeg (133 : Int32))) - (1 : Int32)))]) (rest := []) 14 [] hC (c_X9_in l D cI cS cT ad (Int32.toInt64 x1) (0 : Int64) (Int32.toInt64 ((mnow (Int32.toNatClampNeg (133 : Int32))) - (1 : Int32))) _ h) kX9_in wq_130 dX9_isPattern_14 ⟨Nat.le_of_ble_eq_true rfl, Nat.le_of_ble_eq_true rfl⟩ rfl rfl (Nat.zero_le _) (Nat.zero_le _) rfl rfl rfl (Nat.le_of_ble_eq_true rfl) ?_
  rintro r1 _ ⟨rfl, h⟩
  refine ⟨Nat.le_of_ble_eq_true rfl, G.upd [0, 1] (Wd_X9_isPattern cI cS cT ad b0 mnow mundoMany mtokens moneLong motherLong medits mgroups) rfl rfl rfl rfl rfl ?_⟩
  obtain ⟨hz, h⟩ := h
  exact g_zret 17 hC hR dX9_isPattern_17 hz ⟨rfl, h⟩

/-! ===== ProverbCollectionModel.append(I)I ===== -/
def Wd_X9_append (cI cS cT : ClassId) (ad : Nat → Nat) (b0 : Nat) (mundoMany : Int32) (mtokens : Int32) (mbuffer : Nat → Int32) (moneLong : Int32) (motherLong : Int32) (medits : Int32) (mgroups : Int32) : va_W := [(ad b0, .inr (9, [.ref (ad (b0 + 1)), .ref (ad (b0 + 2)), .int mundoMany, .int mtokens, .ref (ad (b0 + 3)), .ref (ad (b0 + 4)), .ref (ad (b0 + 5)), .int moneLong, .int motherLong, .ref (ad (b0 + 6)), .int medits, .ref (ad (b0 + 7)), .ref (ad (b0 + 8)), .ref (ad (b0 + 9)), .ref (ad (b0 + 10)), .int mgroups, .ref (ad (b0 + 11)), .ref (ad (b0 + 12))])), (ad (b0 + 3), .inl (cI, 8, .inl mbuffer))]
def rm_X9_append : Room := { frames := 1, cells := 0, slots := 0, locals := 25 }
theorem kX9_append : KV yX9_append cX9_append 2 (some .int) 1 := ⟨wq_127, wq_5, wq_125, wq_126, by decide +kernel⟩
def P_X9_append (x1 : Int32) (mundoMany : Int32) (mtokens : Int32) (mbuffer : Nat → Int32) (moneLong : Int32) (motherLong : Int32) (medits : Int32) (mgroups : Int32) (post : Int32 → Int32 → (Nat → Int32) → Prop) : Prop :=
  P_X9_in (Int32.toInt64 x1) (0 : Int64) (64 : Int64) (fun r1 => (¬ r1 = 0 → ((¬ mtokens = (8 : Int32) → (vp_in mtokens 8 ∧ (post (mtokens + (1 : Int32)) (mtokens + (1 : Int32)) (upd mbuffer (Int32.toNatClampNeg mtokens) x1)))) ∧ (mtokens = (8 : Int32) → post (-3 : Int32) mtokens mbuffer))) ∧ (r1 = 0 → post (-1 : Int32) mtokens mbuffer))
set_option maxHeartbeats 4000000 in
set_option maxRecDepth 100000 in
theorem c_X9_append (l : Launch) (D : va_G) (cI cS cT : ClassId) (ad : Nat → Nat) (b0 : Nat) (x1 : Int32) (mundoMany : Int32) (mtokens : Int32) (mbuffer : Nat → Int32) (moneLong : Int32) (motherLong : Int32) (medits : Int32) (mgroups : Int32) (post : Int32 → Int32 → (Nat → Int32) → Prop) (h : P_X9_append x1 mundoMany mtokens mbuffer moneLong motherLong medits mgroups post) : MI l D (TY cI cS cT) yX9_append cX9_append 2 (some .int) rm_X9_append [.ref (ad b0), .int x1] (Wd_X9_append cI cS cT ad b0 mundoMany mtokens mbuffer moneLong motherLong medits mgroups) (fun (r : Int32) w => ∃ (u_mtokens : Int32) (u_mbuffer : Nat → Int32), w = (Wd_X9_append cI cS cT ad b0 mundoMany u_mtokens u_mbuffer moneLong motherLong medits mgroups) ∧ post r u_mtokens u_mbuffer) := by
  refine MI.of (by decide) (Nat.le_of_ble_eq_true rfl) (fun E hC hR hn => ?_)
  replace hC : Cx l D (TY cI cS cT) E rm_X9_append cX9_append RX9 := hC
  replace hR : RetI D E (fun (r : Int32) w => ∃ (u_mtokens : Int32) (u_mbuffer : Nat → Int32), w = (Wd_X9_append cI cS cT ad b0 mundoMany u_mtokens u_mbuffer moneLong motherLong medits mgroups) ∧ post r u_mtokens u_mbuffer) 0 0 (some .int) := hR
  unfold P_X9_append at h
  change G l D E 0 0 _ [(0, .ref (ad b0)), (1, .int x1)] 0 []
  refine g_iload_n 0 1 hC dX9_append_0 rfl ?_
  refine g_i2l 1 hC dX9_append_1 ?_
  refine g_lconst (v := (0 : Int64)) 2 hC dX9_append_2 (by decide) ?_
  refine g_ldc2 3 hC dX9_append_3 wq_128 ?_
  refine g_cSi (As := [.long (Int32.toInt64 x1), .long (0 : Int64), .long (64 : Int64)]) (rest := []) 6 [] hC (c_X9_in l D cI cS cT ad (Int32.toInt64 x1) (0 : Int64) (64 : Int64) _ h) kX9_in wq_130 dX9_append_6 ⟨Nat.le_of_ble_eq_true rfl, Nat.le_of_ble_eq_true rfl⟩ rfl rfl (Nat.zero_le _) (Nat.zero_le _) rfl rfl rfl (Nat.le_of_ble_eq_true rfl) ?_
  rintro r1 _ ⟨rfl, h⟩
  refine ⟨Nat.le_of_ble_eq_true rfl, G.upd [0, 1] (Wd_X9_append cI cS cT ad b0 mundoMany mtokens mbuffer moneLong motherLong medits mgroups) rfl rfl rfl rfl rfl ?_⟩
  refine g_if_ne 9 14 hC dX9_append_9 (by decide) (fun hc => ?_) (fun hc => ?_)
  · replace h := h.1 hc
    refine g_aload_n 14 0 hC dX9_append_14 rfl ?_
    refine g_get 15 0 3 hC inlX9 wq_129 dX9_append_15 rfl rfl (by decide) rfl ?_
    refine g_bipush (v := (8 : Int32)) 18 hC dX9_append_18 (by decide) ?_
    refine g_icmp_ne 20 26 hC dX9_append_20 (by decide) (fun hc => ?_) (fun hc => ?_)
    · replace h := h.1 hc
      refine g_aload_n 26 0 hC dX9_append_26 rfl ?_
      refine g_get 27 0 4 hC inlX9 wq_106 dX9_append_27 rfl rfl (by decide) rfl ?_
      refine g_aload_n 30 0 hC dX9_append_30 rfl ?_
      refine g_get 31 0 3 hC inlX9 wq_129 dX9_append_31 rfl rfl (by decide) rfl ?_
      refine g_iload_n 34 1 hC dX9_append_34 rfl ?_
      obtain ⟨hj, h⟩ := h
      refine g_iast 35 1 (Wd_X9_append cI cS cT ad b0 mundoMany mtokens (upd mbuffer (Int32.toNatClampNeg mtokens) x1) moneLong motherLong medits mgroups) hC dX9_append_35 rfl rfl hj rfl ?_
      refine g_aload_n 36 0 hC dX9_append_36 rfl ?_
      refine g_dup 37 hC dX9_append_37 rfl ?_
      refine g_get 38 0 3 hC inlX9 wq_129 dX9_append_38 rfl rfl (by decide) rfl ?_
      refine g_iconst (v := (1 : Int32)) 41 hC dX9_append_41 (by decide) ?_
      refine g_iadd 42 hC dX9_append_42 ?_
      refine g_put 43 0 3 (Wd_X9_append cI cS cT ad b0 mundoMany (mtokens + (1 : Int32)) (upd mbuffer (Int32.toNatClampNeg mtokens) x1) moneLong motherLong medits mgroups) hC inlX9 tyX9_ok nmX9 wq_129 dX9_append_43 rfl rfl (by decide) rfl rfl (Nat.le_of_ble_eq_true rfl) rfl ?_
      refine g_aload_n 46 0 hC dX9_append_46 rfl ?_
      refine g_get 47 0 3 hC inlX9 wq_129 dX9_append_47 rfl rfl (by decide) rfl ?_
      exact g_iret 50 hC hR dX9_append_50 ⟨(mtokens + (1 : Int32)), (upd mbuffer (Int32.toNatClampNeg mtokens) x1), rfl, h⟩
    · replace h := h.2 hc
      refine g_bipush (v := (-3 : Int32)) 23 hC dX9_append_23 (by decide) ?_
      exact g_iret 25 hC hR dX9_append_25 ⟨mtokens, mbuffer, rfl, h⟩
  · replace h := h.2 hc
    refine g_iconst (v := (-1 : Int32)) 12 hC dX9_append_12 (by decide) ?_
    exact g_iret 13 hC hR dX9_append_13 ⟨mtokens, mbuffer, rfl, h⟩

/-! ===== ProverbCollectionModel.clear()I ===== -/
def Wd_X9_clear (cI cS cT : ClassId) (ad : Nat → Nat) (b0 : Nat) (mundoMany : Int32) (mtokens : Int32) (moneLong : Int32) (motherLong : Int32) (medits : Int32) (mgroups : Int32) : va_W := [(ad b0, .inr (9, [.ref (ad (b0 + 1)), .ref (ad (b0 + 2)), .int mundoMany, .int mtokens, .ref (ad (b0 + 3)), .ref (ad (b0 + 4)), .ref (ad (b0 + 5)), .int moneLong, .int motherLong, .ref (ad (b0 + 6)), .int medits, .ref (ad (b0 + 7)), .ref (ad (b0 + 8)), .ref (ad (b0 + 9)), .ref (ad (b0 + 10)), .int mgroups, .ref (ad (b0 + 11)), .ref (ad (b0 + 12))]))]
def rm_X9_clear : Room := { frames := 0, cells := 0, slots := 0, locals := 0 }
theorem kX9_clear : KV yX9_clear cX9_clear 2 (some .int) 0 := ⟨wq_140, wq_5, wq_138, wq_139, by decide +kernel⟩
def P_X9_clear (mundoMany : Int32) (mtokens : Int32) (moneLong : Int32) (motherLong : Int32) (medits : Int32) (mgroups : Int32) (post : Int32 → Int32 → Prop) : Prop :=
  post mtokens (0 : Int32)
set_option maxHeartbeats 4000000 in
set_option maxRecDepth 100000 in
theorem c_X9_clear (l : Launch) (D : va_G) (cI cS cT : ClassId) (ad : Nat → Nat) (b0 : Nat) (mundoMany : Int32) (mtokens : Int32) (moneLong : Int32) (motherLong : Int32) (medits : Int32) (mgroups : Int32) (post : Int32 → Int32 → Prop) (h : P_X9_clear mundoMany mtokens moneLong motherLong medits mgroups post) : MI l D (TY cI cS cT) yX9_clear cX9_clear 2 (some .int) rm_X9_clear [.ref (ad b0)] (Wd_X9_clear cI cS cT ad b0 mundoMany mtokens moneLong motherLong medits mgroups) (fun (r : Int32) w => ∃ (u_mtokens : Int32), w = (Wd_X9_clear cI cS cT ad b0 mundoMany u_mtokens moneLong motherLong medits mgroups) ∧ post r u_mtokens) := by
  refine MI.of (by decide) (Nat.le_of_ble_eq_true rfl) (fun E hC hR hn => ?_)
  replace hC : Cx l D (TY cI cS cT) E rm_X9_clear cX9_clear RX9 := hC
  replace hR : RetI D E (fun (r : Int32) w => ∃ (u_mtokens : Int32), w = (Wd_X9_clear cI cS cT ad b0 mundoMany u_mtokens moneLong motherLong medits mgroups) ∧ post r u_mtokens) 0 0 (some .int) := hR
  unfold P_X9_clear at h
  change G l D E 0 0 _ [(0, .ref (ad b0))] 0 []
  refine g_aload_n 0 0 hC dX9_clear_0 rfl ?_
  refine g_get 1 0 3 hC inlX9 wq_129 dX9_clear_1 rfl rfl (by decide) rfl ?_
  refine g_istore_n 4 [(1, .int mtokens), (0, .ref (ad b0))] hC dX9_clear_4 (by rw [hn]; decide) rfl ?_
  refine g_aload_n 5 1 hC dX9_clear_5 rfl ?_
  refine g_iconst (v := (0 : Int32)) 6 hC dX9_clear_6 (by decide) ?_
  refine g_put 7 0 3 (Wd_X9_clear cI cS cT ad b0 mundoMany (0 : Int32) moneLong motherLong medits mgroups) hC inlX9 tyX9_ok nmX9 wq_129 dX9_clear_7 rfl rfl (by decide) rfl rfl (Nat.le_of_ble_eq_true rfl) rfl ?_
  refine g_iload_n 10 0 hC dX9_clear_10 rfl ?_
  exact g_iret 11 hC hR dX9_clear_11 ⟨(0 : Int32), rfl, h⟩

/-! ===== ProverbCollectionModel.addSaying(II)I ===== -/
def Wd_X9_addSaying (cI cS cT : ClassId) (ad : Nat → Nat) (b0 : Nat) (mnow : Nat → Int32) (mbefore : Nat → Int32) (mundoMany : Int32) (mtokens : Int32) (mbuffer : Nat → Int32) (moneLong : Int32) (motherLong : Int32) (medits : Int32) (mgroups : Int32) : va_W := [(ad b0, .inr (9, [.ref (ad (b0 + 1)), .ref (ad (b0 + 2)), .int mundoMany, .int mtokens, .ref (ad (b0 + 3)), .ref (ad (b0 + 4)), .ref (ad (b0 + 5)), .int moneLong, .int motherLong, .ref (ad (b0 + 6)), .int medits, .ref (ad (b0 + 7)), .ref (ad (b0 + 8)), .ref (ad (b0 + 9)), .ref (ad (b0 + 10)), .int mgroups, .ref (ad (b0 + 11)), .ref (ad (b0 + 12))])), (ad (b0 + 1), .inl (cI, 193, .inl mnow)), (ad (b0 + 2), .inl (cI, 965, .inl mbefore)), (ad (b0 + 3), .inl (cI, 8, .inl mbuffer))]
def rm_X9_addSaying : Room := { frames := 1, cells := 0, slots := 0, locals := 25 }
theorem kX9_addSaying : KV yX9_addSaying cX9_addSaying 6 (some .int) 2 := ⟨wq_189, wq_5, wq_187, wq_188, by decide +kernel⟩
def B_X9_addSaying_44 (mtokens : Int32) (mbuffer : Nat → Int32) (K : Int32 → Int32 → Prop) (rc : Int32 → Int32 → Prop) (v4 : Int32) (v3 : Int32) : Prop :=
  (mtokens ≤ v4 → K v4 v3) ∧ (¬ mtokens ≤ v4 → ((v3 = 0 → rc (v4 + (1 : Int32)) (0 : Int32)) ∧ (¬ v3 = 0 → (vp_in v4 8 ∧ (((60 : Int32) ≤ (mbuffer (Int32.toNatClampNeg v4)) → rc (v4 + (1 : Int32)) (0 : Int32)) ∧ (¬ (60 : Int32) ≤ (mbuffer (Int32.toNatClampNeg v4)) → rc (v4 + (1 : Int32)) (1 : Int32)))))))
def P_X9_addSaying_44 (mtokens : Int32) (mbuffer : Nat → Int32) (K : Int32 → Int32 → Prop) : Nat → Int32 → Int32 → Prop
  | 0 => fun _ _ => False
  | n + 1 => fun v4 v3 => B_X9_addSaying_44 mtokens mbuffer K (P_X9_addSaying_44 mtokens mbuffer K n) v4 v3
def B_X9_addSaying_162 (v4 : Int32) (mtokens : Int32) (mbuffer : Nat → Int32) (K : Int32 → (Nat → Int32) → Prop) (rc : Int32 → (Nat → Int32) → Prop) (v5 : Int32) (mnow : Nat → Int32) : Prop :=
  (mtokens ≤ v5 → K v5 mnow) ∧ (¬ mtokens ≤ v5 → (vp_in v5 8 ∧ (vp_in (((13 : Int32) + ((8 : Int32) * v4)) + v5) 193 ∧ (rc (v5 + (1 : Int32)) (upd mnow (Int32.toNatClampNeg (((13 : Int32) + ((8 : Int32) * v4)) + v5)) (mbuffer (Int32.toNatClampNeg v5)))))))
def P_X9_addSaying_162 (v4 : Int32) (mtokens : Int32) (mbuffer : Nat → Int32) (K : Int32 → (Nat → Int32) → Prop) : Nat → Int32 → (Nat → Int32) → Prop
  | 0 => fun _ _ => False
  | n + 1 => fun v5 mnow => B_X9_addSaying_162 v4 mtokens mbuffer K (P_X9_addSaying_162 v4 mtokens mbuffer K n) v5 mnow
def P_X9_addSaying (x1 : Int32) (x2 : Int32) (mnow : Nat → Int32) (mbefore : Nat → Int32) (mundoMany : Int32) (mtokens : Int32) (mbuffer : Nat → Int32) (moneLong : Int32) (motherLong : Int32) (medits : Int32) (mgroups : Int32) (post : Int32 → (Nat → Int32) → (Nat → Int32) → Int32 → Int32 → Prop) : Prop :=
  P_X9_in (Int32.toInt64 x1) (-3000 : Int64) (2100 : Int64) (fun r1 => (r1 = 0 → post (-1 : Int32) mnow mbefore mundoMany mtokens) ∧ (¬ r1 = 0 → (P_X9_in (Int32.toInt64 x2) (0 : Int64) (9 : Int64) (fun r2 => (¬ r2 = 0 → ((mtokens ≤ 0 → (∃ n : Nat, P_X9_addSaying_44 mtokens mbuffer (fun w4_3 w3_3 => (¬ w3_3 = 0 → ((¬ (mnow (Int32.toNatClampNeg (0 : Int32))) = (12 : Int32) → (P_X9_keeps mnow mbefore mundoMany mtokens moneLong motherLong medits mgroups (fun u4 u5 => vp_in ((1 : Int32) + (mnow (Int32.toNatClampNeg (0 : Int32)))) 193 ∧ (vp_in ((109 : Int32) + (mnow (Int32.toNatClampNeg (0 : Int32)))) 193 ∧ (vp_in ((121 : Int32) + (mnow (Int32.toNatClampNeg (0 : Int32)))) 193 ∧ (∃ n : Nat, P_X9_addSaying_162 (mnow (Int32.toNatClampNeg (0 : Int32))) mtokens mbuffer (fun w5_7 mnow_7 => post (mnow (Int32.toNatClampNeg (0 : Int32))) mnow_7 u4 u5 (0 : Int32)) n (0 : Int32) (upd (upd (upd (upd mnow (Int32.toNatClampNeg (0 : Int32)) ((mnow (Int32.toNatClampNeg (0 : Int32))) + (1 : Int32))) (Int32.toNatClampNeg ((1 : Int32) + (mnow (Int32.toNatClampNeg (0 : Int32))))) mtokens) (Int32.toNatClampNeg ((109 : Int32) + (mnow (Int32.toNatClampNeg (0 : Int32))))) x1) (Int32.toNatClampNeg ((121 : Int32) + (mnow (Int32.toNatClampNeg (0 : Int32))))) x2))))))) ∧ ((mnow (Int32.toNatClampNeg (0 : Int32))) = (12 : Int32) → post (-3 : Int32) mnow mbefore mundoMany mtokens))) ∧ (w3_3 = 0 → post (-2 : Int32) mnow mbefore mundoMany mtokens)) n (0 : Int32) (0 : Int32))) ∧ (¬ mtokens ≤ 0 → (∃ n : Nat, P_X9_addSaying_44 mtokens mbuffer (fun w4_8 w3_8 => (¬ w3_8 = 0 → ((¬ (mnow (Int32.toNatClampNeg (0 : Int32))) = (12 : Int32) → (P_X9_keeps mnow mbefore mundoMany mtokens moneLong motherLong medits mgroups (fun u9 u10 => vp_in ((1 : Int32) + (mnow (Int32.toNatClampNeg (0 : Int32)))) 193 ∧ (vp_in ((109 : Int32) + (mnow (Int32.toNatClampNeg (0 : Int32)))) 193 ∧ (vp_in ((121 : Int32) + (mnow (Int32.toNatClampNeg (0 : Int32)))) 193 ∧ (∃ n : Nat, P_X9_addSaying_162 (mnow (Int32.toNatClampNeg (0 : Int32))) mtokens mbuffer (fun w5_12 mnow_12 => post (mnow (Int32.toNatClampNeg (0 : Int32))) mnow_12 u9 u10 (0 : Int32)) n (0 : Int32) (upd (upd (upd (upd mnow (Int32.toNatClampNeg (0 : Int32)) ((mnow (Int32.toNatClampNeg (0 : Int32))) + (1 : Int32))) (Int32.toNatClampNeg ((1 : Int32) + (mnow (Int32.toNatClampNeg (0 : Int32))))) mtokens) (Int32.toNatClampNeg ((109 : Int32) + (mnow (Int32.toNatClampNeg (0 : Int32))))) x1) (Int32.toNatClampNeg ((121 : Int32) + (mnow (Int32.toNatClampNeg (0 : Int32))))) x2))))))) ∧ ((mnow (Int32.toNatClampNeg (0 : Int32))) = (12 : Int32) → post (-3 : Int32) mnow mbefore mundoMany mtokens))) ∧ (w3_8 = 0 → post (-2 : Int32) mnow mbefore mundoMany mtokens)) n (0 : Int32) (1 : Int32))))) ∧ (r2 = 0 → post (-1 : Int32) mnow mbefore mundoMany mtokens)))))
set_option maxHeartbeats 4000000 in
set_option maxRecDepth 100000 in
theorem L_X9_addSaying_44 {l : Launch} {D : va_G} {cI cS cT : ClassId} {ad : Nat → Nat} {b0 : Nat} {E : CE} {v1 : Int32} {v2 : Int32} {mnow : Nat → Int32} {mbefore : Nat → Int32} {mundoMany : Int32} {mtokens : Int32} {mbuffer : Nat → Int32} {moneLong : Int32} {motherLong : Int32} {medits : Int32} {mgroups : Int32} {post : Int32 → (Nat → Int32) → (Nat → Int32) → Int32 → Int32 → Prop} (hC : Cx l D (TY cI cS cT) E rm_X9_addSaying cX9_addSaying RX9) (hR : RetI D E (fun (r : Int32) w => ∃ (u_mnow : Nat → Int32) (u_mbefore : Nat → Int32) (u_mundoMany : Int32) (u_mtokens : Int32), w = (Wd_X9_addSaying cI cS cT ad b0 u_mnow u_mbefore u_mundoMany u_mtokens mbuffer moneLong motherLong medits mgroups) ∧ post r u_mnow u_mbefore u_mundoMany u_mtokens) 0 0 (some .int)) (hn : E.nL = 6) (K : Int32 → Int32 → Prop) (hK : ∀ (v4 : Int32) (v3 : Int32), K v4 v3 → G l D E 0 0 (Wd_X9_addSaying cI cS cT ad b0 mnow mbefore mundoMany mtokens mbuffer moneLong motherLong medits mgroups) [(4, .int v4), (3, .int v3), (0, .ref (ad b0)), (1, .int v1), (2, .int v2)] 81 []) : ∀ (n : Nat) (v4 : Int32) (v3 : Int32), P_X9_addSaying_44 mtokens mbuffer K n v4 v3 → G l D E 0 0 (Wd_X9_addSaying cI cS cT ad b0 mnow mbefore mundoMany mtokens mbuffer moneLong motherLong medits mgroups) [(4, .int v4), (3, .int v3), (0, .ref (ad b0)), (1, .int v1), (2, .int v2)] 44 [] := by
  intro n
  induction n with
  | zero => exact fun _ _ h => h.elim
  | succ n ih =>
    intro v4 v3 h
    replace h : B_X9_addSaying_44 mtokens mbuffer K (P_X9_addSaying_44 mtokens mbuffer K n) v4 v3 := h
    unfold B_X9_addSaying_44 at h
    refine g_iload 44 0 hC dX9_addSaying_44 rfl ?_
    refine g_aload_n 46 2 hC dX9_addSaying_46 rfl ?_
    refine g_get 47 0 3 hC inlX9 wq_129 dX9_addSaying_47 rfl rfl (by decide) rfl ?_
    refine g_icmp_ge 50 81 hC dX9_addSaying_50 (by decide) (fun hc => ?_) (fun hc => ?_)
    · replace h := h.1 hc
      refine G.sub [0, 1, 2, 3, 4] rfl ?_
      exact hK v4 v3 h
    · replace h := h.2 hc
      refine g_iload_n 53 1 hC dX9_addSaying_53 rfl ?_
      refine g_if_eq 54 73 hC dX9_addSaying_54 (by decide) (fun hc => ?_) (fun hc => ?_)
      · replace h := h.1 hc
        refine g_iconst (v := (0 : Int32)) 73 hC dX9_addSaying_73 (by decide) ?_
        refine g_istore_n 74 [(3, .int (0 : Int32)), (4, .int v4), (0, .ref (ad b0)), (1, .int v1), (2, .int v2)] hC dX9_addSaying_74 (by rw [hn]; decide) rfl ?_
        refine g_iinc (v := (1 : Int32)) 75 1 [(4, .int (v4 + (1 : Int32))), (3, .int (0 : Int32)), (0, .ref (ad b0)), (1, .int v1), (2, .int v2)] hC dX9_addSaying_75 rfl (by decide) (by rw [hn]; decide) rfl ?_
        refine g_goto 78 44 hC dX9_addSaying_78 (by decide) ?_
        refine G.sub [0, 1, 2, 3, 4] rfl ?_
        exact ih _ _ h
      · replace h := h.2 hc
        refine g_aload_n 57 2 hC dX9_addSaying_57 rfl ?_
        refine g_get 58 0 4 hC inlX9 wq_106 dX9_addSaying_58 rfl rfl (by decide) rfl ?_
        refine g_iload 61 0 hC dX9_addSaying_61 rfl ?_
        obtain ⟨hj, h⟩ := h
        refine g_iald 63 3 hC dX9_addSaying_63 rfl rfl hj ?_
        refine g_bipush (v := (60 : Int32)) 64 hC dX9_addSaying_64 (by decide) ?_
        refine g_icmp_ge 66 73 hC dX9_addSaying_66 (by decide) (fun hc => ?_) (fun hc => ?_)
        · replace h := h.1 hc
          refine g_iconst (v := (0 : Int32)) 73 hC dX9_addSaying_73 (by decide) ?_
          refine g_istore_n 74 [(3, .int (0 : Int32)), (4, .int v4), (0, .ref (ad b0)), (1, .int v1), (2, .int v2)] hC dX9_addSaying_74 (by rw [hn]; decide) rfl ?_
          refine g_iinc (v := (1 : Int32)) 75 1 [(4, .int (v4 + (1 : Int32))), (3, .int (0 : Int32)), (0, .ref (ad b0)), (1, .int v1), (2, .int v2)] hC dX9_addSaying_75 rfl (by decide) (by rw [hn]; decide) rfl ?_
          refine g_goto 78 44 hC dX9_addSaying_78 (by decide) ?_
          refine G.sub [0, 1, 2, 3, 4] rfl ?_
          exact ih _ _ h
        · replace h := h.2 hc
          refine g_iconst (v := (1 : Int32)) 69 hC dX9_addSaying_69 (by decide) ?_
          refine g_goto 70 74 hC dX9_addSaying_70 (by decide) ?_
          refine g_istore_n 74 [(3, .int (1 : Int32)), (4, .int v4), (0, .ref (ad b0)), (1, .int v1), (2, .int v2)] hC dX9_addSaying_74 (by rw [hn]; decide) rfl ?_
          refine g_iinc (v := (1 : Int32)) 75 1 [(4, .int (v4 + (1 : Int32))), (3, .int (1 : Int32)), (0, .ref (ad b0)), (1, .int v1), (2, .int v2)] hC dX9_addSaying_75 rfl (by decide) (by rw [hn]; decide) rfl ?_
          refine g_goto 78 44 hC dX9_addSaying_78 (by decide) ?_
          refine G.sub [0, 1, 2, 3, 4] rfl ?_
          exact ih _ _ h
set_option maxHeartbeats 4000000 in
set_option maxRecDepth 100000 in
theorem L_X9_addSaying_162 {l : Launch} {D : va_G} {cI cS cT : ClassId} {ad : Nat → Nat} {b0 : Nat} {E : CE} {v4 : Int32} {v3 : Int32} {v1 : Int32} {v2 : Int32} {mbefore : Nat → Int32} {mundoMany : Int32} {mtokens : Int32} {mbuffer : Nat → Int32} {moneLong : Int32} {motherLong : Int32} {medits : Int32} {mgroups : Int32} {post : Int32 → (Nat → Int32) → (Nat → Int32) → Int32 → Int32 → Prop} (hC : Cx l D (TY cI cS cT) E rm_X9_addSaying cX9_addSaying RX9) (hR : RetI D E (fun (r : Int32) w => ∃ (u_mnow : Nat → Int32) (u_mbefore : Nat → Int32) (u_mundoMany : Int32) (u_mtokens : Int32), w = (Wd_X9_addSaying cI cS cT ad b0 u_mnow u_mbefore u_mundoMany u_mtokens mbuffer moneLong motherLong medits mgroups) ∧ post r u_mnow u_mbefore u_mundoMany u_mtokens) 0 0 (some .int)) (hn : E.nL = 6) (K : Int32 → (Nat → Int32) → Prop) (hK : ∀ (v5 : Int32) (mnow : Nat → Int32), K v5 mnow → G l D E 0 0 (Wd_X9_addSaying cI cS cT ad b0 mnow mbefore mundoMany mtokens mbuffer moneLong motherLong medits mgroups) [(5, .int v5), (4, .int v4), (3, .int v3), (0, .ref (ad b0)), (1, .int v1), (2, .int v2)] 200 []) : ∀ (n : Nat) (v5 : Int32) (mnow : Nat → Int32), P_X9_addSaying_162 v4 mtokens mbuffer K n v5 mnow → G l D E 0 0 (Wd_X9_addSaying cI cS cT ad b0 mnow mbefore mundoMany mtokens mbuffer moneLong motherLong medits mgroups) [(5, .int v5), (4, .int v4), (3, .int v3), (0, .ref (ad b0)), (1, .int v1), (2, .int v2)] 162 [] := by
  intro n
  induction n with
  | zero => exact fun _ _ h => h.elim
  | succ n ih =>
    intro v5 mnow h
    replace h : B_X9_addSaying_162 v4 mtokens mbuffer K (P_X9_addSaying_162 v4 mtokens mbuffer K n) v5 mnow := h
    unfold B_X9_addSaying_162 at h
    refine g_iload 162 0 hC dX9_addSaying_162 rfl ?_
    refine g_aload_n 164 3 hC dX9_addSaying_164 rfl ?_
    refine g_get 165 0 3 hC inlX9 wq_129 dX9_addSaying_165 rfl rfl (by decide) rfl ?_
    refine g_icmp_ge 168 200 hC dX9_addSaying_168 (by decide) (fun hc => ?_) (fun hc => ?_)
    · replace h := h.1 hc
      refine G.sub [0, 1, 2, 3, 4, 5] rfl ?_
      exact hK v5 mnow h
    · replace h := h.2 hc
      refine g_aload_n 171 3 hC dX9_addSaying_171 rfl ?_
      refine g_get 172 0 0 hC inlX9 wq_104 dX9_addSaying_172 rfl rfl (by decide) rfl ?_
      refine g_bipush (v := (13 : Int32)) 175 hC dX9_addSaying_175 (by decide) ?_
      refine g_bipush (v := (8 : Int32)) 177 hC dX9_addSaying_177 (by decide) ?_
      refine g_iload 179 1 hC dX9_addSaying_179 rfl ?_
      refine g_imul 181 hC dX9_addSaying_181 ?_
      refine g_iadd 182 hC dX9_addSaying_182 ?_
      refine g_iload 183 0 hC dX9_addSaying_183 rfl ?_
      refine g_iadd 185 hC dX9_addSaying_185 ?_
      refine g_aload_n 186 3 hC dX9_addSaying_186 rfl ?_
      refine g_get 187 0 4 hC inlX9 wq_106 dX9_addSaying_187 rfl rfl (by decide) rfl ?_
      refine g_iload 190 0 hC dX9_addSaying_190 rfl ?_
      obtain ⟨hj, h⟩ := h
      refine g_iald 192 3 hC dX9_addSaying_192 rfl rfl hj ?_
      obtain ⟨hj, h⟩ := h
      refine g_iast 193 1 (Wd_X9_addSaying cI cS cT ad b0 (upd mnow (Int32.toNatClampNeg (((13 : Int32) + ((8 : Int32) * v4)) + v5)) (mbuffer (Int32.toNatClampNeg v5))) mbefore mundoMany mtokens mbuffer moneLong motherLong medits mgroups) hC dX9_addSaying_193 rfl rfl hj rfl ?_
      refine g_iinc (v := (1 : Int32)) 194 0 [(5, .int (v5 + (1 : Int32))), (4, .int v4), (3, .int v3), (0, .ref (ad b0)), (1, .int v1), (2, .int v2)] hC dX9_addSaying_194 rfl (by decide) (by rw [hn]; decide) rfl ?_
      refine g_goto 197 162 hC dX9_addSaying_197 (by decide) ?_
      refine G.sub [0, 1, 2, 3, 4, 5] rfl ?_
      exact ih _ _ h
set_option maxHeartbeats 4000000 in
set_option maxRecDepth 100000 in
theorem c_X9_addSaying (l : Launch) (D : va_G) (cI cS cT : ClassId) (ad : Nat → Nat) (b0 : Nat) (x1 : Int32) (x2 : Int32) (mnow : Nat → Int32) (mbefore : Nat → Int32) (mundoMany : Int32) (mtokens : Int32) (mbuffer : Nat → Int32) (moneLong : Int32) (motherLong : Int32) (medits : Int32) (mgroups : Int32) (post : Int32 → (Nat → Int32) → (Nat → Int32) → Int32 → Int32 → Prop) (h : P_X9_addSaying x1 x2 mnow mbefore mundoMany mtokens mbuffer moneLong motherLong medits mgroups post) : MI l D (TY cI cS cT) yX9_addSaying cX9_addSaying 6 (some .int) rm_X9_addSaying [.ref (ad b0), .int x1, .int x2] (Wd_X9_addSaying cI cS cT ad b0 mnow mbefore mundoMany mtokens mbuffer moneLong motherLong medits mgroups) (fun (r : Int32) w => ∃ (u_mnow : Nat → Int32) (u_mbefore : Nat → Int32) (u_mundoMany : Int32) (u_mtokens : Int32), w = (Wd_X9_addSaying cI cS cT ad b0 u_mnow u_mbefore u_mundoMany u_mtokens mbuffer moneLong motherLong medits mgroups) ∧ post r u_mnow u_mbefore u_mundoMany u_mtokens) := by
  refine MI.of (by decide) (Nat.le_of_ble_eq_true rfl) (fun E hC hR hn => ?_)
  replace hC : Cx l D (TY cI cS cT) E rm_X9_addSaying cX9_addSaying RX9 := hC
  replace hR : RetI D E (fun (r : Int32) w => ∃ (u_mnow : Nat → Int32) (u_mbefore : Nat → Int32) (u_mundoMany : Int32) (u_mtokens : Int32), w = (Wd_X9_addSaying cI cS cT ad b0 u_mnow u_mbefore u_mundoMany u_mtokens mbuffer moneLong motherLong medits mgroups) ∧ post r u_mnow u_mbefore u_mundoMany u_mtokens) 0 0 (some .int) := hR
  unfold P_X9_addSaying at h
  change G l D E 0 0 _ [(0, .ref (ad b0)), (1, .int x1), (2, .int x2)] 0 []
  refine g_iload_n 0 1 hC dX9_addSaying_0 rfl ?_
  refine g_i2l 1 hC dX9_addSaying_1 ?_
  refine g_ldc2 2 hC dX9_addSaying_2 wq_190 ?_
  refine g_ldc2 5 hC dX9_addSaying_5 wq_191 ?_
  refine g_cSi (As := [.long (Int32.toInt64 x1), .long (-3000 : Int64), .long (2100 : Int64)]) (rest := []) 8 [] hC (c_X9_in l D cI cS cT ad (Int32.toInt64 x1) (-3000 : Int64) (2100 : Int64) _ h) kX9_in wq_130 dX9_addSaying_8 ⟨Nat.le_of_ble_eq_true rfl, Nat.le_of_ble_eq_true rfl⟩ rfl rfl (Nat.zero_le _) (Nat.zero_le _) rfl rfl rfl (Nat.le_of_ble_eq_true rfl) ?_
  rintro r1 _ ⟨rfl, h⟩
  refine ⟨Nat.le_of_ble_eq_true rfl, G.upd [0, 1, 2, 3] (Wd_X9_addSaying cI cS cT ad b0 mnow mbefore mundoMany mtokens mbuffer moneLong motherLong medits mgroups) rfl rfl rfl rfl rfl ?_⟩
  refine g_if_eq 11 26 hC dX9_addSaying_11 (by decide) (fun hc => ?_) (fun hc => ?_)
  · replace h := h.1 hc
    refine g_iconst (v := (-1 : Int32)) 26 hC dX9_addSaying_26 (by decide) ?_
    exact g_iret 27 hC hR dX9_addSaying_27 ⟨mnow, mbefore, mundoMany, mtokens, rfl, h⟩
  · replace h := h.2 hc
    refine g_iload_n 14 2 hC dX9_addSaying_14 rfl ?_
    refine g_i2l 15 hC dX9_addSaying_15 ?_
    refine g_lconst (v := (0 : Int64)) 16 hC dX9_addSaying_16 (by decide) ?_
    refine g_ldc2 17 hC dX9_addSaying_17 wq_192 ?_
    refine g_cSi (As := [.long (Int32.toInt64 x2), .long (0 : Int64), .long (9 : Int64)]) (rest := []) 20 [] hC (c_X9_in l D cI cS cT ad (Int32.toInt64 x2) (0 : Int64) (9 : Int64) _ h) kX9_in wq_130 dX9_addSaying_20 ⟨Nat.le_of_ble_eq_true rfl, Nat.le_of_ble_eq_true rfl⟩ rfl rfl (Nat.zero_le _) (Nat.zero_le _) rfl rfl rfl (Nat.le_of_ble_eq_true rfl) ?_
    rintro r2 _ ⟨rfl, h⟩
    refine ⟨Nat.le_of_ble_eq_true rfl, G.upd [0, 1, 2, 3] (Wd_X9_addSaying cI cS cT ad b0 mnow mbefore mundoMany mtokens mbuffer moneLong motherLong medits mgroups) rfl rfl rfl rfl rfl ?_⟩
    refine g_if_ne 23 28 hC dX9_addSaying_23 (by decide) (fun hc => ?_) (fun hc => ?_)
    · replace h := h.1 hc
      refine g_aload_n 28 0 hC dX9_addSaying_28 rfl ?_
      refine g_get 29 0 3 hC inlX9 wq_129 dX9_addSaying_29 rfl rfl (by decide) rfl ?_
      refine g_if_le 32 39 hC dX9_addSaying_32 (by decide) (fun hc => ?_) (fun hc => ?_)
      · replace h := h.1 hc
        refine g_iconst (v := (0 : Int32)) 39 hC dX9_addSaying_39 (by decide) ?_
        refine g_istore_n 40 [(3, .int (0 : Int32)), (0, .ref (ad b0)), (1, .int x1), (2, .int x2)] hC dX9_addSaying_40 (by rw [hn]; decide) rfl ?_
        refine g_iconst (v := (0 : Int32)) 41 hC dX9_addSaying_41 (by decide) ?_
        refine g_istore 42 [(4, .int (0 : Int32)), (3, .int (0 : Int32)), (0, .ref (ad b0)), (1, .int x1), (2, .int x2)] hC dX9_addSaying_42 (by rw [hn]; decide) rfl ?_
        obtain ⟨n, h⟩ := h
        refine L_X9_addSaying_44 hC hR hn _ (fun w4_3 w3_3 h => ?_) n _ _ h
        refine g_iload_n 81 1 hC dX9_addSaying_81 rfl ?_
        refine g_if_ne 82 88 hC dX9_addSaying_82 (by decide) (fun hc => ?_) (fun hc => ?_)
        · replace h := h.1 hc
          refine g_aload_n 88 2 hC dX9_addSaying_88 rfl ?_
          refine g_get 89 0 0 hC inlX9 wq_104 dX9_addSaying_89 rfl rfl (by decide) rfl ?_
          refine g_iconst (v := (0 : Int32)) 92 hC dX9_addSaying_92 (by decide) ?_
          refine g_iald 93 1 hC dX9_addSaying_93 rfl rfl (by unfold vp_in; decide) ?_
          refine g_bipush (v := (12 : Int32)) 94 hC dX9_addSaying_94 (by decide) ?_
          refine g_icmp_ne 96 102 hC dX9_addSaying_96 (by decide) (fun hc => ?_) (fun hc => ?_)
          · replace h := h.1 hc
            refine g_aload_n 102 2 hC dX9_addSaying_102 rfl ?_
            refine g_cVv (As := []) (rest := []) 103 0 [0, 1, 2] hC (c_X9_keeps l D cI cS cT ad b0 mnow mbefore mundoMany mtokens moneLong motherLong medits mgroups _ h) kX9_keeps wq_193 dX9_addSaying_103 rfl rfl ⟨Nat.le_of_ble_eq_true rfl, Nat.le_of_ble_eq_true rfl⟩ rfl rfl (Nat.zero_le _) (Nat.zero_le _) rfl rfl rfl (Nat.le_of_ble_eq_true rfl) ?_
            rintro _ ⟨u4, u5, rfl, h⟩
            refine ⟨Nat.le_of_ble_eq_true rfl, G.upd [3] (Wd_X9_addSaying cI cS cT ad b0 mnow u4 u5 mtokens mbuffer moneLong motherLong medits mgroups) rfl rfl rfl rfl rfl ?_⟩
            refine g_aload_n 106 2 hC dX9_addSaying_106 rfl ?_
            refine g_get 107 0 0 hC inlX9 wq_104 dX9_addSaying_107 rfl rfl (by decide) rfl ?_
            refine g_iconst (v := (0 : Int32)) 110 hC dX9_addSaying_110 (by decide) ?_
            refine g_iald 111 1 hC dX9_addSaying_111 rfl rfl (by unfold vp_in; decide) ?_
            refine g_istore 112 [(4, .int (mnow (Int32.toNatClampNeg (0 : Int32)))), (3, .int w3_3), (0, .ref (ad b0)), (1, .int x1), (2, .int x2)] hC dX9_addSaying_112 (by rw [hn]; decide) rfl ?_
            refine g_aload_n 114 2 hC dX9_addSaying_114 rfl ?_
            refine g_get 115 0 0 hC inlX9 wq_104 dX9_addSaying_115 rfl rfl (by decide) rfl ?_
            refine g_iconst (v := (0 : Int32)) 118 hC dX9_addSaying_118 (by decide) ?_
            refine g_dup2 119 hC dX9_addSaying_119 rfl rfl ?_
            refine g_iald 120 1 hC dX9_addSaying_120 rfl rfl (by unfold vp_in; decide) ?_
            refine g_iconst (v := (1 : Int32)) 121 hC dX9_addSaying_121 (by decide) ?_
            refine g_iadd 122 hC dX9_addSaying_122 ?_
            refine g_iast 123 1 (Wd_X9_addSaying cI cS cT ad b0 (upd mnow (Int32.toNatClampNeg (0 : Int32)) ((mnow (Int32.toNatClampNeg (0 : Int32))) + (1 : Int32))) u4 u5 mtokens mbuffer moneLong motherLong medits mgroups) hC dX9_addSaying_123 rfl rfl (by unfold vp_in; decide) rfl ?_
            refine g_aload_n 124 2 hC dX9_addSaying_124 rfl ?_
            refine g_get 125 0 0 hC inlX9 wq_104 dX9_addSaying_125 rfl rfl (by decide) rfl ?_
            refine g_iconst (v := (1 : Int32)) 128 hC dX9_addSaying_128 (by decide) ?_
            refine g_iload 129 0 hC dX9_addSaying_129 rfl ?_
            refine g_iadd 131 hC dX9_addSaying_131 ?_
            refine g_aload_n 132 2 hC dX9_addSaying_132 rfl ?_
            refine g_get 133 0 3 hC inlX9 wq_129 dX9_addSaying_133 rfl rfl (by decide) rfl ?_
            obtain ⟨hj, h⟩ := h
            refine g_iast 136 1 (Wd_X9_addSaying cI cS cT ad b0 (upd (upd mnow (Int32.toNatClampNeg (0 : Int32)) ((mnow (Int32.toNatClampNeg (0 : Int32))) + (1 : Int32))) (Int32.toNatClampNeg ((1 : Int32) + (mnow (Int32.toNatClampNeg (0 : Int32))))) mtokens) u4 u5 mtokens mbuffer moneLong motherLong medits mgroups) hC dX9_addSaying_136 rfl rfl hj rfl ?_
            refine g_aload_n 137 2 hC dX9_addSaying_137 rfl ?_
            refine g_get 138 0 0 hC inlX9 wq_104 dX9_addSaying_138 rfl rfl (by decide) rfl ?_
            refine g_bipush (v := (109 : Int32)) 141 hC dX9_addSaying_141 (by decide) ?_
            refine g_iload 143 0 hC dX9_addSaying_143 rfl ?_
            refine g_iadd 145 hC dX9_addSaying_145 ?_
            refine g_iload_n 146 3 hC dX9_addSaying_146 rfl ?_
            obtain ⟨hj, h⟩ := h
            refine g_iast 147 1 (Wd_X9_addSaying cI cS cT ad b0 (upd (upd (upd mnow (Int32.toNatClampNeg (0 : Int32)) ((mnow (Int32.toNatClampNeg (0 : Int32))) + (1 : Int32))) (Int32.toNatClampNeg ((1 : Int32) + (mnow (Int32.toNatClampNeg (0 : Int32))))) mtokens) (Int32.toNatClampNeg ((109 : Int32) + (mnow (Int32.toNatClampNeg (0 : Int32))))) x1) u4 u5 mtokens mbuffer moneLong motherLong medits mgroups) hC dX9_addSaying_147 rfl rfl hj rfl ?_
            refine g_aload_n 148 2 hC dX9_addSaying_148 rfl ?_
            refine g_get 149 0 0 hC inlX9 wq_104 dX9_addSaying_149 rfl rfl (by decide) rfl ?_
            refine g_bipush (v := (121 : Int32)) 152 hC dX9_addSaying_152 (by decide) ?_
            refine g_iload 154 0 hC dX9_addSaying_154 rfl ?_
            refine g_iadd 156 hC dX9_addSaying_156 ?_
            refine g_iload_n 157 4 hC dX9_addSaying_157 rfl ?_
            obtain ⟨hj, h⟩ := h
            refine g_iast 158 1 (Wd_X9_addSaying cI cS cT ad b0 (upd (upd (upd (upd mnow (Int32.toNatClampNeg (0 : Int32)) ((mnow (Int32.toNatClampNeg (0 : Int32))) + (1 : Int32))) (Int32.toNatClampNeg ((1 : Int32) + (mnow (Int32.toNatClampNeg (0 : Int32))))) mtokens) (Int32.toNatClampNeg ((109 : Int32) + (mnow (Int32.toNatClampNeg (0 : Int32))))) x1) (Int32.toNatClampNeg ((121 : Int32) + (mnow (Int32.toNatClampNeg (0 : Int32))))) x2) u4 u5 mtokens mbuffer moneLong motherLong medits mgroups) hC dX9_addSaying_158 rfl rfl hj rfl ?_
            refine g_iconst (v := (0 : Int32)) 159 hC dX9_addSaying_159 (by decide) ?_
            refine g_istore 160 [(5, .int (0 : Int32)), (4, .int (mnow (Int32.toNatClampNeg (0 : Int32)))), (3, .int w3_3), (0, .ref (ad b0)), (1, .int x1), (2, .int x2)] hC dX9_addSaying_160 (by rw [hn]; decide) rfl ?_
            obtain ⟨n, h⟩ := h
            refine L_X9_addSaying_162 hC hR hn _ (fun w5_7 mnow_7 h => ?_) n _ _ h
            refine g_aload_n 200 3 hC dX9_addSaying_200 rfl ?_
            refine g_iconst (v := (0 : Int32)) 201 hC dX9_addSaying_201 (by decide) ?_
            refine g_put 202 0 3 (Wd_X9_addSaying cI cS cT ad b0 mnow_7 u4 u5 (0 : Int32) mbuffer moneLong motherLong medits mgroups) hC inlX9 tyX9_ok nmX9 wq_129 dX9_addSaying_202 rfl rfl (by decide) rfl rfl (Nat.le_of_ble_eq_true rfl) rfl ?_
            refine g_iload 205 1 hC dX9_addSaying_205 rfl ?_
            exact g_iret 207 hC hR dX9_addSaying_207 ⟨mnow_7, u4, u5, (0 : Int32), rfl, h⟩
          · replace h := h.2 hc
            refine g_bipush (v := (-3 : Int32)) 99 hC dX9_addSaying_99 (by decide) ?_
            exact g_iret 101 hC hR dX9_addSaying_101 ⟨mnow, mbefore, mundoMany, mtokens, rfl, h⟩
        · replace h := h.2 hc
          refine g_bipush (v := (-2 : Int32)) 85 hC dX9_addSaying_85 (by decide) ?_
          exact g_iret 87 hC hR dX9_addSaying_87 ⟨mnow, mbefore, mundoMany, mtokens, rfl, h⟩
      · replace h := h.2 hc
        refine g_iconst (v := (1 : Int32)) 35 hC dX9_addSaying_35 (by decide) ?_
        refine g_goto 36 40 hC dX9_addSaying_36 (by decide) ?_
        refine g_istore_n 40 [(3, .int (1 : Int32)), (0, .ref (ad b0)), (1, .int x1), (2, .int x2)] hC dX9_addSaying_40 (by rw [hn]; decide) rfl ?_
        refine g_iconst (v := (0 : Int32)) 41 hC dX9_addSaying_41 (by decide) ?_
        refine g_istore 42 [(4, .int (0 : Int32)), (3, .int (1 : Int32)), (0, .ref (ad b0)), (1, .int x1), (2, .int x2)] hC dX9_addSaying_42 (by rw [hn]; decide) rfl ?_
        obtain ⟨n, h⟩ := h
        refine L_X9_addSaying_44 hC hR hn _ (fun w4_8 w3_8 h => ?_) n _ _ h
        refine g_iload_n 81 1 hC dX9_addSaying_81 rfl ?_
        refine g_if_ne 82 88 hC dX9_addSaying_82 (by decide) (fun hc => ?_) (fun hc => ?_)
        · replace h := h.1 hc
          refine g_aload_n 88 2 hC dX9_addSaying_88 rfl ?_
          refine g_get 89 0 0 hC inlX9 wq_104 dX9_addSaying_89 rfl rfl (by decide) rfl ?_
          refine g_iconst (v := (0 : Int32)) 92 hC dX9_addSaying_92 (by decide) ?_
          refine g_iald 93 1 hC dX9_addSaying_93 rfl rfl (by unfold vp_in; decide) ?_
          refine g_bipush (v := (12 : Int32)) 94 hC dX9_addSaying_94 (by decide) ?_
          refine g_icmp_ne 96 102 hC dX9_addSaying_96 (by decide) (fun hc => ?_) (fun hc => ?_)
          · replace h := h.1 hc
            refine g_aload_n 102 2 hC dX9_addSaying_102 rfl ?_
            refine g_cVv (As := []) (rest := []) 103 0 [0, 1, 2] hC (c_X9_keeps l D cI cS cT ad b0 mnow mbefore mundoMany mtokens moneLong motherLong medits mgroups _ h) kX9_keeps wq_193 dX9_addSaying_103 rfl rfl ⟨Nat.le_of_ble_eq_true rfl, Nat.le_of_ble_eq_true rfl⟩ rfl rfl (Nat.zero_le _) (Nat.zero_le _) rfl rfl rfl (Nat.le_of_ble_eq_true rfl) ?_
            rintro _ ⟨u9, u10, rfl, h⟩
            refine ⟨Nat.le_of_ble_eq_true rfl, G.upd [3] (Wd_X9_addSaying cI cS cT ad b0 mnow u9 u10 mtokens mbuffer moneLong motherLong medits mgroups) rfl rfl rfl rfl rfl ?_⟩
            refine g_aload_n 106 2 hC dX9_addSaying_106 rfl ?_
            refine g_get 107 0 0 hC inlX9 wq_104 dX9_addSaying_107 rfl rfl (by decide) rfl ?_
            refine g_iconst (v := (0 : Int32)) 110 hC dX9_addSaying_110 (by decide) ?_
            refine g_iald 111 1 hC dX9_addSaying_111 rfl rfl (by unfold vp_in; decide) ?_
            refine g_istore 112 [(4, .int (mnow (Int32.toNatClampNeg (0 : Int32)))), (3, .int w3_8), (0, .ref (ad b0)), (1, .int x1), (2, .int x2)] hC dX9_addSaying_112 (by rw [hn]; decide) rfl ?_
            refine g_aload_n 114 2 hC dX9_addSaying_114 rfl ?_
            refine g_get 115 0 0 hC inlX9 wq_104 dX9_addSaying_115 rfl rfl (by decide) rfl ?_
            refine g_iconst (v := (0 : Int32)) 118 hC dX9_addSaying_118 (by decide) ?_
            refine g_dup2 119 hC dX9_addSaying_119 rfl rfl ?_
            refine g_iald 120 1 hC dX9_addSaying_120 rfl rfl (by unfold vp_in; decide) ?_
            refine g_iconst (v := (1 : Int32)) 121 hC dX9_addSaying_121 (by decide) ?_
            refine g_iadd 122 hC dX9_addSaying_122 ?_
            refine g_iast 123 1 (Wd_X9_addSaying cI cS cT ad b0 (upd mnow (Int32.toNatClampNeg (0 : Int32)) ((mnow (Int32.toNatClampNeg (0 : Int32))) + (1 : Int32))) u9 u10 mtokens mbuffer moneLong motherLong medits mgroups) hC dX9_addSaying_123 rfl rfl (by unfold vp_in; decide) rfl ?_
            refine g_aload_n 124 2 hC dX9_addSaying_124 rfl ?_
            refine g_get 125 0 0 hC inlX9 wq_104 dX9_addSaying_125 rfl rfl (by decide) rfl ?_
            refine g_iconst (v := (1 : Int32)) 128 hC dX9_addSaying_128 (by decide) ?_
            refine g_iload 129 0 hC dX9_addSaying_129 rfl ?_
            refine g_iadd 131 hC dX9_addSaying_131 ?_
            refine g_aload_n 132 2 hC dX9_addSaying_132 rfl ?_
            refine g_get 133 0 3 hC inlX9 wq_129 dX9_addSaying_133 rfl rfl (by decide) rfl ?_
            obtain ⟨hj, h⟩ := h
            refine g_iast 136 1 (Wd_X9_addSaying cI cS cT ad b0 (upd (upd mnow (Int32.toNatClampNeg (0 : Int32)) ((mnow (Int32.toNatClampNeg (0 : Int32))) + (1 : Int32))) (Int32.toNatClampNeg ((1 : Int32) + (mnow (Int32.toNatClampNeg (0 : Int32))))) mtokens) u9 u10 mtokens mbuffer moneLong motherLong medits mgroups) hC dX9_addSaying_136 rfl rfl hj rfl ?_
            refine g_aload_n 137 2 hC dX9_addSaying_137 rfl ?_
            refine g_get 138 0 0 hC inlX9 wq_104 dX9_addSaying_138 rfl rfl (by decide) rfl ?_
            refine g_bipush (v := (109 : Int32)) 141 hC dX9_addSaying_141 (by decide) ?_
            refine g_iload 143 0 hC dX9_addSaying_143 rfl ?_
            refine g_iadd 145 hC dX9_addSaying_145 ?_
            refine g_iload_n 146 3 hC dX9_addSaying_146 rfl ?_
            obtain ⟨hj, h⟩ := h
            refine g_iast 147 1 (Wd_X9_addSaying cI cS cT ad b0 (upd (upd (upd mnow (Int32.toNatClampNeg (0 : Int32)) ((mnow (Int32.toNatClampNeg (0 : Int32))) + (1 : Int32))) (Int32.toNatClampNeg ((1 : Int32) + (mnow (Int32.toNatClampNeg (0 : Int32))))) mtokens) (Int32.toNatClampNeg ((109 : Int32) + (mnow (Int32.toNatClampNeg (0 : Int32))))) x1) u9 u10 mtokens mbuffer moneLong motherLong medits mgroups) hC dX9_addSaying_147 rfl rfl hj rfl ?_
            refine g_aload_n 148 2 hC dX9_addSaying_148 rfl ?_
            refine g_get 149 0 0 hC inlX9 wq_104 dX9_addSaying_149 rfl rfl (by decide) rfl ?_
            refine g_bipush (v := (121 : Int32)) 152 hC dX9_addSaying_152 (by decide) ?_
            refine g_iload 154 0 hC dX9_addSaying_154 rfl ?_
            refine g_iadd 156 hC dX9_addSaying_156 ?_
            refine g_iload_n 157 4 hC dX9_addSaying_157 rfl ?_
            obtain ⟨hj, h⟩ := h
            refine g_iast 158 1 (Wd_X9_addSaying cI cS cT ad b0 (upd (upd (upd (upd mnow (Int32.toNatClampNeg (0 : Int32)) ((mnow (Int32.toNatClampNeg (0 : Int32))) + (1 : Int32))) (Int32.toNatClampNeg ((1 : Int32) + (mnow (Int32.toNatClampNeg (0 : Int32))))) mtokens) (Int32.toNatClampNeg ((109 : Int32) + (mnow (Int32.toNatClampNeg (0 : Int32))))) x1) (Int32.toNatClampNeg ((121 : Int32) + (mnow (Int32.toNatClampNeg (0 : Int32))))) x2) u9 u10 mtokens mbuffer moneLong motherLong medits mgroups) hC dX9_addSaying_158 rfl rfl hj rfl ?_
            refine g_iconst (v := (0 : Int32)) 159 hC dX9_addSaying_159 (by decide) ?_
            refine g_istore 160 [(5, .int (0 : Int32)), (4, .int (mnow (Int32.toNatClampNeg (0 : Int32)))), (3, .int w3_8), (0, .ref (ad b0)), (1, .int x1), (2, .int x2)] hC dX9_addSaying_160 (by rw [hn]; decide) rfl ?_
            obtain ⟨n, h⟩ := h
            refine L_X9_addSaying_162 hC hR hn _ (fun w5_12 mnow_12 h => ?_) n _ _ h
            refine g_aload_n 200 3 hC dX9_addSaying_200 rfl ?_
            refine g_iconst (v := (0 : Int32)) 201 hC dX9_addSaying_201 (by decide) ?_
            refine g_put 202 0 3 (Wd_X9_addSaying cI cS cT ad b0 mnow_12 u9 u10 (0 : Int32) mbuffer moneLong motherLong medits mgroups) hC inlX9 tyX9_ok nmX9 wq_129 dX9_addSaying_202 rfl rfl (by decide) rfl rfl (Nat.le_of_ble_eq_true rfl) rfl ?_
            refine g_iload 205 1 hC dX9_addSaying_205 rfl ?_
            exact g_iret 207 hC hR dX9_addSaying_207 ⟨mnow_12, u9, u10, (0 : Int32), rfl, h⟩
          · replace h := h.2 hc
            refine g_bipush (v := (-3 : Int32)) 99 hC dX9_addSaying_99 (by decide) ?_
            exact g_iret 101 hC hR dX9_addSaying_101 ⟨mnow, mbefore, mundoMany, mtokens, rfl, h⟩
        · replace h := h.2 hc
          refine g_bipush (v := (-2 : Int32)) 85 hC dX9_addSaying_85 (by decide) ?_
          exact g_iret 87 hC hR dX9_addSaying_87 ⟨mnow, mbefore, mundoMany, mtokens, rfl, h⟩
    · replace h := h.2 hc
      refine g_iconst (v := (-1 : Int32)) 26 hC dX9_addSaying_26 (by decide) ?_
      exact g_iret 27 hC hR dX9_addSaying_27 ⟨mnow, mbefore, mundoMany, mtokens, rfl, h⟩

/-! ===== ProverbCollectionModel.removeSaying(I)I ===== -/
def Wd_X9_removeSaying (cI cS cT : ClassId) (ad : Nat → Nat) (b0 : Nat) (mnow : Nat → Int32) (mbefore : Nat → Int32) (mundoMany : Int32) (mtokens : Int32) (moneLong : Int32) (motherLong : Int32) (medits : Int32) (mgroups : Int32) : va_W := [(ad b0, .inr (9, [.ref (ad (b0 + 1)), .ref (ad (b0 + 2)), .int mundoMany, .int mtokens, .ref (ad (b0 + 3)), .ref (ad (b0 + 4)), .ref (ad (b0 + 5)), .int moneLong, .int motherLong, .ref (ad (b0 + 6)), .int medits, .ref (ad (b0 + 7)), .ref (ad (b0 + 8)), .ref (ad (b0 + 9)), .ref (ad (b0 + 10)), .int mgroups, .ref (ad (b0 + 11)), .ref (ad (b0 + 12))])), (ad (b0 + 1), .inl (cI, 193, .inl mnow)), (ad (b0 + 2), .inl (cI, 965, .inl mbefore))]
def rm_X9_removeSaying : Room := { frames := 2, cells := 0, slots := 0, locals := 46 }
theorem kX9_removeSaying : KV yX9_removeSaying cX9_removeSaying 4 (some .int) 1 := ⟨wq_214, wq_5, wq_212, wq_213, by decide +kernel⟩
def B_X9_removeSaying_96 (v2 : Int32) (K : Int32 → (Nat → Int32) → Prop) (rc : Int32 → (Nat → Int32) → Prop) (v3 : Int32) (mnow : Nat → Int32) : Prop :=
  ((8 : Int32) ≤ v3 → K v3 mnow) ∧ (¬ (8 : Int32) ≤ v3 → (vp_in ((((13 : Int32) + ((8 : Int32) * v2)) + (8 : Int32)) + v3) 193 ∧ (vp_in (((13 : Int32) + ((8 : Int32) * v2)) + v3) 193 ∧ (rc (v3 + (1 : Int32)) (upd mnow (Int32.toNatClampNeg (((13 : Int32) + ((8 : Int32) * v2)) + v3)) (mnow (Int32.toNatClampNeg ((((13 : Int32) + ((8 : Int32) * v2)) + (8 : Int32)) + v3))))))))
def P_X9_removeSaying_96 (v2 : Int32) (K : Int32 → (Nat → Int32) → Prop) : Nat → Int32 → (Nat → Int32) → Prop
  | 0 => fun _ _ => False
  | n + 1 => fun v3 mnow => B_X9_removeSaying_96 v2 K (P_X9_removeSaying_96 v2 K n) v3 mnow
def B_X9_removeSaying_26 (K : Int32 → (Nat → Int32) → Prop) (rc : Int32 → (Nat → Int32) → Prop) (v2 : Int32) (mnow : Nat → Int32) : Prop :=
  ((mnow (Int32.toNatClampNeg (0 : Int32))) ≤ v2 → K v2 mnow) ∧ (¬ (mnow (Int32.toNatClampNeg (0 : Int32))) ≤ v2 → (vp_in (((1 : Int32) + v2) + (1 : Int32)) 193 ∧ (vp_in ((1 : Int32) + v2) 193 ∧ (vp_in (((109 : Int32) + v2) + (1 : Int32)) 193 ∧ (vp_in ((109 : Int32) + v2) 193 ∧ (vp_in (((121 : Int32) + v2) + (1 : Int32)) 193 ∧ (vp_in ((121 : Int32) + v2) 193 ∧ (∃ n : Nat, P_X9_removeSaying_96 v2 (fun w3_5 mnow_5 => rc (v2 + (1 : Int32)) mnow_5) n (0 : Int32) (upd (upd (upd mnow (Int32.toNatClampNeg ((1 : Int32) + v2)) (mnow (Int32.toNatClampNeg (((1 : Int32) + v2) + (1 : Int32))))) (Int32.toNatClampNeg ((109 : Int32) + v2)) ((upd mnow (Int32.toNatClampNeg ((1 : Int32) + v2)) (mnow (Int32.toNatClampNeg (((1 : Int32) + v2) + (1 : Int32))))) (Int32.toNatClampNeg (((109 : Int32) + v2) + (1 : Int32))))) (Int32.toNatClampNeg ((121 : Int32) + v2)) ((upd (upd mnow (Int32.toNatClampNeg ((1 : Int32) + v2)) (mnow (Int32.toNatClampNeg (((1 : Int32) + v2) + (1 : Int32))))) (Int32.toNatClampNeg ((109 : Int32) + v2)) ((upd mnow (Int32.toNatClampNeg ((1 : Int32) + v2)) (mnow (Int32.toNatClampNeg (((1 : Int32) + v2) + (1 : Int32))))) (Int32.toNatClampNeg (((109 : Int32) + v2) + (1 : Int32))))) (Int32.toNatClampNeg (((121 : Int32) + v2) + (1 : Int32)))))))))))))
def P_X9_removeSaying_26 (K : Int32 → (Nat → Int32) → Prop) : Nat → Int32 → (Nat → Int32) → Prop
  | 0 => fun _ _ => False
  | n + 1 => fun v2 mnow => B_X9_removeSaying_26 K (P_X9_removeSaying_26 K n) v2 mnow
def P_X9_removeSaying (x1 : Int32) (mnow : Nat → Int32) (mbefore : Nat → Int32) (mundoMany : Int32) (mtokens : Int32) (moneLong : Int32) (motherLong : Int32) (medits : Int32) (mgroups : Int32) (post : Int32 → (Nat → Int32) → (Nat → Int32) → Int32 → Prop) : Prop :=
  P_X9_isSaying x1 mnow mundoMany mtokens moneLong motherLong medits mgroups (fun r1 => (¬ r1 = 0 → P_X9_keeps mnow mbefore mundoMany mtokens moneLong motherLong medits mgroups (fun u2 u3 => ∃ n : Nat, P_X9_removeSaying_26 (fun w2_6 mnow_6 => post (mnow_6 (Int32.toNatClampNeg (0 : Int32))) mnow_6 u2 u3) n x1 (upd mnow (Int32.toNatClampNeg (0 : Int32)) ((mnow (Int32.toNatClampNeg (0 : Int32))) - (1 : Int32))))) ∧ (r1 = 0 → post (-1 : Int32) mnow mbefore mundoMany))
set_option maxHeartbeats 4000000 in
set_option maxRecDepth 100000 in
theorem L_X9_removeSaying_96 {l : Launch} {D : va_G} {cI cS cT : ClassId} {ad : Nat → Nat} {b0 : Nat} {E : CE} {v2 : Int32} {v1 : Int32} {mbefore : Nat → Int32} {mundoMany : Int32} {mtokens : Int32} {moneLong : Int32} {motherLong : Int32} {medits : Int32} {mgroups : Int32} {post : Int32 → (Nat → Int32) → (Nat → Int32) → Int32 → Prop} (hC : Cx l D (TY cI cS cT) E rm_X9_removeSaying cX9_removeSaying RX9) (hR : RetI D E (fun (r : Int32) w => ∃ (u_mnow : Nat → Int32) (u_mbefore : Nat → Int32) (u_mundoMany : Int32), w = (Wd_X9_removeSaying cI cS cT ad b0 u_mnow u_mbefore u_mundoMany mtokens moneLong motherLong medits mgroups) ∧ post r u_mnow u_mbefore u_mundoMany) 0 0 (some .int)) (hn : E.nL = 4) (K : Int32 → (Nat → Int32) → Prop) (hK : ∀ (v3 : Int32) (mnow : Nat → Int32), K v3 mnow → G l D E 0 0 (Wd_X9_removeSaying cI cS cT ad b0 mnow mbefore mundoMany mtokens moneLong motherLong medits mgroups) [(3, .int v3), (2, .int v2), (0, .ref (ad b0)), (1, .int v1)] 139 []) : ∀ (n : Nat) (v3 : Int32) (mnow : Nat → Int32), P_X9_removeSaying_96 v2 K n v3 mnow → G l D E 0 0 (Wd_X9_removeSaying cI cS cT ad b0 mnow mbefore mundoMany mtokens moneLong motherLong medits mgroups) [(3, .int v3), (2, .int v2), (0, .ref (ad b0)), (1, .int v1)] 96 [] := by
  intro n
  induction n with
  | zero => exact fun _ _ h => h.elim
  | succ n ih =>
    intro v3 mnow h
    replace h : B_X9_removeSaying_96 v2 K (P_X9_removeSaying_96 v2 K n) v3 mnow := h
    unfold B_X9_removeSaying_96 at h
    refine g_iload_n 96 0 hC dX9_removeSaying_96 rfl ?_
    refine g_bipush (v := (8 : Int32)) 97 hC dX9_removeSaying_97 (by decide) ?_
    refine g_icmp_ge 99 139 hC dX9_removeSaying_99 (by decide) (fun hc => ?_) (fun hc => ?_)
    · replace h := h.1 hc
      refine G.sub [0, 1, 2, 3] rfl ?_
      exact hK v3 mnow h
    · replace h := h.2 hc
      refine g_aload_n 102 2 hC dX9_removeSaying_102 rfl ?_
      refine g_get 103 0 0 hC inlX9 wq_104 dX9_removeSaying_103 rfl rfl (by decide) rfl ?_
      refine g_bipush (v := (13 : Int32)) 106 hC dX9_removeSaying_106 (by decide) ?_
      refine g_bipush (v := (8 : Int32)) 108 hC dX9_removeSaying_108 (by decide) ?_
      refine g_iload_n 110 1 hC dX9_removeSaying_110 rfl ?_
      refine g_imul 111 hC dX9_removeSaying_111 ?_
      refine g_iadd 112 hC dX9_removeSaying_112 ?_
      refine g_iload_n 113 0 hC dX9_removeSaying_113 rfl ?_
      refine g_iadd 114 hC dX9_removeSaying_114 ?_
      refine g_aload_n 115 2 hC dX9_removeSaying_115 rfl ?_
      refine g_get 116 0 0 hC inlX9 wq_104 dX9_removeSaying_116 rfl rfl (by decide) rfl ?_
      refine g_bipush (v := (13 : Int32)) 119 hC dX9_removeSaying_119 (by decide) ?_
      refine g_bipush (v := (8 : Int32)) 121 hC dX9_removeSaying_121 (by decide) ?_
      refine g_iload_n 123 1 hC dX9_removeSaying_123 rfl ?_
      refine g_imul 124 hC dX9_removeSaying_124 ?_
      refine g_iadd 125 hC dX9_removeSaying_125 ?_
      refine g_bipush (v := (8 : Int32)) 126 hC dX9_removeSaying_126 (by decide) ?_
      refine g_iadd 128 hC dX9_removeSaying_128 ?_
      refine g_iload_n 129 0 hC dX9_removeSaying_129 rfl ?_
      refine g_iadd 130 hC dX9_removeSaying_130 ?_
      obtain ⟨hj, h⟩ := h
      refine g_iald 131 1 hC dX9_removeSaying_131 rfl rfl hj ?_
      obtain ⟨hj, h⟩ := h
      refine g_iast 132 1 (Wd_X9_removeSaying cI cS cT ad b0 (upd mnow (Int32.toNatClampNeg (((13 : Int32) + ((8 : Int32) * v2)) + v3)) (mnow (Int32.toNatClampNeg ((((13 : Int32) + ((8 : Int32) * v2)) + (8 : Int32)) + v3)))) mbefore mundoMany mtokens moneLong motherLong medits mgroups) hC dX9_removeSaying_132 rfl rfl hj rfl ?_
      refine g_iinc (v := (1 : Int32)) 133 0 [(3, .int (v3 + (1 : Int32))), (2, .int v2), (0, .ref (ad b0)), (1, .int v1)] hC dX9_removeSaying_133 rfl (by decide) (by rw [hn]; decide) rfl ?_
      refine g_goto 136 96 hC dX9_removeSaying_136 (by decide) ?_
      refine G.sub [0, 1, 2, 3] rfl ?_
      exact ih _ _ h
set_option maxHeartbeats 4000000 in
set_option maxRecDepth 100000 in
theorem L_X9_removeSaying_26 {l : Launch} {D : va_G} {cI cS cT : ClassId} {ad : Nat → Nat} {b0 : Nat} {E : CE} {v1 : Int32} {mbefore : Nat → Int32} {mundoMany : Int32} {mtokens : Int32} {moneLong : Int32} {motherLong : Int32} {medits : Int32} {mgroups : Int32} {post : Int32 → (Nat → Int32) → (Nat → Int32) → Int32 → Prop} (hC : Cx l D (TY cI cS cT) E rm_X9_removeSaying cX9_removeSaying RX9) (hR : RetI D E (fun (r : Int32) w => ∃ (u_mnow : Nat → Int32) (u_mbefore : Nat → Int32) (u_mundoMany : Int32), w = (Wd_X9_removeSaying cI cS cT ad b0 u_mnow u_mbefore u_mundoMany mtokens moneLong motherLong medits mgroups) ∧ post r u_mnow u_mbefore u_mundoMany) 0 0 (some .int)) (hn : E.nL = 4) (K : Int32 → (Nat → Int32) → Prop) (hK : ∀ (v2 : Int32) (mnow : Nat → Int32), K v2 mnow → G l D E 0 0 (Wd_X9_removeSaying cI cS cT ad b0 mnow mbefore mundoMany mtokens moneLong motherLong medits mgroups) [(2, .int v2), (0, .ref (ad b0)), (1, .int v1)] 145 []) : ∀ (n : Nat) (v2 : Int32) (mnow : Nat → Int32), P_X9_removeSaying_26 K n v2 mnow → G l D E 0 0 (Wd_X9_removeSaying cI cS cT ad b0 mnow mbefore mundoMany mtokens moneLong motherLong medits mgroups) [(2, .int v2), (0, .ref (ad b0)), (1, .int v1)] 26 [] := by
  intro n
  induction n with
  | zero => exact fun _ _ h => h.elim
  | succ n ih =>
    intro v2 mnow h
    replace h : B_X9_removeSaying_26 K (P_X9_removeSaying_26 K n) v2 mnow := h
    unfold B_X9_removeSaying_26 at h
    refine g_iload_n 26 0 hC dX9_removeSaying_26 rfl ?_
    refine g_aload_n 27 1 hC dX9_removeSaying_27 rfl ?_
    refine g_get 28 0 0 hC inlX9 wq_104 dX9_removeSaying_28 rfl rfl (by decide) rfl ?_
    refine g_iconst (v := (0 : Int32)) 31 hC dX9_removeSaying_31 (by decide) ?_
    refine g_iald 32 1 hC dX9_removeSaying_32 rfl rfl (by unfold vp_in; decide) ?_
    refine g_icmp_ge 33 145 hC dX9_removeSaying_33 (by decide) (fun hc => ?_) (fun hc => ?_)
    · replace h := h.1 hc
      refine G.sub [0, 1, 2] rfl ?_
      exact hK v2 mnow h
    · replace h := h.2 hc
      refine g_aload_n 36 1 hC dX9_removeSaying_36 rfl ?_
      refine g_get 37 0 0 hC inlX9 wq_104 dX9_removeSaying_37 rfl rfl (by decide) rfl ?_
      refine g_iconst (v := (1 : Int32)) 40 hC dX9_removeSaying_40 (by decide) ?_
      refine g_iload_n 41 0 hC dX9_removeSaying_41 rfl ?_
      refine g_iadd 42 hC dX9_removeSaying_42 ?_
      refine g_aload_n 43 1 hC dX9_removeSaying_43 rfl ?_
      refine g_get 44 0 0 hC inlX9 wq_104 dX9_removeSaying_44 rfl rfl (by decide) rfl ?_
      refine g_iconst (v := (1 : Int32)) 47 hC dX9_removeSaying_47 (by decide) ?_
      refine g_iload_n 48 0 hC dX9_removeSaying_48 rfl ?_
      refine g_iadd 49 hC dX9_removeSaying_49 ?_
      refine g_iconst (v := (1 : Int32)) 50 hC dX9_removeSaying_50 (by decide) ?_
      refine g_iadd 51 hC dX9_removeSaying_51 ?_
      obtain ⟨hj, h⟩ := h
      refine g_iald 52 1 hC dX9_removeSaying_52 rfl rfl hj ?_
      obtain ⟨hj, h⟩ := h
      refine g_iast 53 1 (Wd_X9_removeSaying cI cS cT ad b0 (upd mnow (Int32.toNatClampNeg ((1 : Int32) + v2)) (mnow (Int32.toNatClampNeg (((1 : Int32) + v2) + (1 : Int32))))) mbefore mundoMany mtokens moneLong motherLong medits mgroups) hC dX9_removeSaying_53 rfl rfl hj rfl ?_
      refine g_aload_n 54 1 hC dX9_removeSaying_54 rfl ?_
      refine g_get 55 0 0 hC inlX9 wq_104 dX9_removeSaying_55 rfl rfl (by decide) rfl ?_
      refine g_bipush (v := (109 : Int32)) 58 hC dX9_removeSaying_58 (by decide) ?_
      refine g_iload_n 60 0 hC dX9_removeSaying_60 rfl ?_
      refine g_iadd 61 hC dX9_removeSaying_61 ?_
      refine g_aload_n 62 1 hC dX9_removeSaying_62 rfl ?_
      refine g_get 63 0 0 hC inlX9 wq_104 dX9_removeSaying_63 rfl rfl (by decide) rfl ?_
      refine g_bipush (v := (109 : Int32)) 66 hC dX9_removeSaying_66 (by decide) ?_
      refine g_iload_n 68 0 hC dX9_removeSaying_68 rfl ?_
      refine g_iadd 69 hC dX9_removeSaying_69 ?_
      refine g_iconst (v := (1 : Int32)) 70 hC dX9_removeSaying_70 (by decide) ?_
      refine g_iadd 71 hC dX9_removeSaying_71 ?_
      obtain ⟨hj, h⟩ := h
      refine g_iald 72 1 hC dX9_removeSaying_72 rfl rfl hj ?_
      obtain ⟨hj, h⟩ := h
      refine g_iast 73 1 (Wd_X9_removeSaying cI cS cT ad b0 (upd (upd mnow (Int32.toNatClampNeg ((1 : Int32) + v2)) (mnow (Int32.toNatClampNeg (((1 : Int32) + v2) + (1 : Int32))))) (Int32.toNatClampNeg ((109 : Int32) + v2)) ((upd mnow (Int32.toNatClampNeg ((1 : Int32) + v2)) (mnow (Int32.toNatClampNeg (((1 : Int32) + v2) + (1 : Int32))))) (Int32.toNatClampNeg (((109 : Int32) + v2) + (1 : Int32))))) mbefore mundoMany mtokens moneLong motherLong medits mgroups) hC dX9_removeSaying_73 rfl rfl hj rfl ?_
      refine g_aload_n 74 1 hC dX9_removeSaying_74 rfl ?_
      refine g_get 75 0 0 hC inlX9 wq_104 dX9_removeSaying_75 rfl rfl (by decide) rfl ?_
      refine g_bipush (v := (121 : Int32)) 78 hC dX9_removeSaying_78 (by decide) ?_
      refine g_iload_n 80 0 hC dX9_removeSaying_80 rfl ?_
      refine g_iadd 81 hC dX9_removeSaying_81 ?_
      refine g_aload_n 82 1 hC dX9_removeSaying_82 rfl ?_
      refine g_get 83 0 0 hC inlX9 wq_104 dX9_removeSaying_83 rfl rfl (by decide) rfl ?_
      refine g_bipush (v := (121 : Int32)) 86 hC dX9_removeSaying_86 (by decide) ?_
      refine g_iload_n 88 0 hC dX9_removeSaying_88 rfl ?_
      refine g_iadd 89 hC dX9_removeSaying_89 ?_
      refine g_iconst (v := (1 : Int32)) 90 hC dX9_removeSaying_90 (by decide) ?_
      refine g_iadd 91 hC dX9_removeSaying_91 ?_
      obtain ⟨hj, h⟩ := h
      refine g_iald 92 1 hC dX9_removeSaying_92 rfl rfl hj ?_
      obtain ⟨hj, h⟩ := h
      refine g_iast 93 1 (Wd_X9_removeSaying cI cS cT ad b0 (upd (upd (upd mnow (Int32.toNatClampNeg ((1 : Int32) + v2)) (mnow (Int32.toNatClampNeg (((1 : Int32) + v2) + (1 : Int32))))) (Int32.toNatClampNeg ((109 : Int32) + v2)) ((upd mnow (Int32.toNatClampNeg ((1 : Int32) + v2)) (mnow (Int32.toNatClampNeg (((1 : Int32) + v2) + (1 : Int32))))) (Int32.toNatClampNeg (((109 : Int32) + v2) + (1 : Int32))))) (Int32.toNatClampNeg ((121 : Int32) + v2)) ((upd (upd mnow (Int32.toNatClampNeg ((1 : Int32) + v2)) (mnow (Int32.toNatClampNeg (((1 : Int32) + v2) + (1 : Int32))))) (Int32.toNatClampNeg ((109 : Int32) + v2)) ((upd mnow (Int32.toNatClampNeg ((1 : Int32) + v2)) (mnow (Int32.toNatClampNeg (((1 : Int32) + v2) + (1 : Int32))))) (Int32.toNatClampNeg (((109 : Int32) + v2) + (1 : Int32))))) (Int32.toNatClampNeg (((121 : Int32) + v2) + (1 : Int32))))) mbefore mundoMany mtokens moneLong motherLong medits mgroups) hC dX9_removeSaying_93 rfl rfl hj rfl ?_
      refine g_iconst (v := (0 : Int32)) 94 hC dX9_removeSaying_94 (by decide) ?_
      refine g_istore_n 95 [(3, .int (0 : Int32)), (2, .int v2), (0, .ref (ad b0)), (1, .int v1)] hC dX9_removeSaying_95 (by rw [hn]; decide) rfl ?_
      obtain ⟨n, h⟩ := h
      refine L_X9_removeSaying_96 hC hR hn _ (fun w3_5 mnow_5 h => ?_) n _ _ h
      refine g_iinc (v := (1 : Int32)) 139 1 [(2, .int (v2 + (1 : Int32))), (3, .int w3_5), (0, .ref (ad b0)), (1, .int v1)] hC dX9_removeSaying_139 rfl (by decide) (by rw [hn]; decide) rfl ?_
      refine g_goto 142 26 hC dX9_removeSaying_142 (by decide) ?_
      refine G.sub [0, 2, 3] rfl ?_
      exact ih _ _ h
set_option maxHeartbeats 4000000 in
set_option maxRecDepth 100000 in
theorem c_X9_removeSaying (l : Launch) (D : va_G) (cI cS cT : ClassId) (ad : Nat → Nat) (b0 : Nat) (x1 : Int32) (mnow : Nat → Int32) (mbefore : Nat → Int32) (mundoMany : Int32) (mtokens : Int32) (moneLong : Int32) (motherLong : Int32) (medits : Int32) (mgroups : Int32) (post : Int32 → (Nat → Int32) → (Nat → Int32) → Int32 → Prop) (h : P_X9_removeSaying x1 mnow mbefore mundoMany mtokens moneLong motherLong medits mgroups post) : MI l D (TY cI cS cT) yX9_removeSaying cX9_removeSaying 4 (some .int) rm_X9_removeSaying [.ref (ad b0), .int x1] (Wd_X9_removeSaying cI cS cT ad b0 mnow mbefore mundoMany mtokens moneLong motherLong medits mgroups) (fun (r : Int32) w => ∃ (u_mnow : Nat → Int32) (u_mbefore : Nat → Int32) (u_mundoMany : Int32), w = (Wd_X9_removeSaying cI cS cT ad b0 u_mnow u_mbefore u_mundoMany mtokens moneLong motherLong medits mgroups) ∧ post r u_mnow u_mbefore u_mundoMany) := by
  refine MI.of (by decide) (Nat.le_of_ble_eq_true rfl) (fun E hC hR hn => ?_)
  replace hC : Cx l D (TY cI cS cT) E rm_X9_removeSaying cX9_removeSaying RX9 := hC
  replace hR : RetI D E (fun (r : Int32) w => ∃ (u_mnow : Nat → Int32) (u_mbefore : Nat → Int32) (u_mundoMany : Int32), w = (Wd_X9_removeSaying cI cS cT ad b0 u_mnow u_mbefore u_mundoMany mtokens moneLong motherLong medits mgroups) ∧ post r u_mnow u_mbefore u_mundoMany) 0 0 (some .int) := hR
  unfold P_X9_removeSaying at h
  change G l D E 0 0 _ [(0, .ref (ad b0)), (1, .int x1)] 0 []
  refine g_aload_n 0 0 hC dX9_removeSaying_0 rfl ?_
  refine g_iload_n 1 1 hC dX9_removeSaying_1 rfl ?_
  refine g_cVi (As := [.int x1]) (rest := []) 2 0 [0, 1] hC (c_X9_isSaying l D cI cS cT ad b0 x1 mnow mundoMany mtokens moneLong motherLong medits mgroups _ h) kX9_isSaying wq_215 dX9_removeSaying_2 rfl rfl ⟨Nat.le_of_ble_eq_true rfl, Nat.le_of_ble_eq_true rfl⟩ rfl rfl (Nat.zero_le _) (Nat.zero_le _) rfl rfl rfl (Nat.le_of_ble_eq_true rfl) ?_
  rintro r1 _ ⟨rfl, h⟩
  refine ⟨Nat.le_of_ble_eq_true rfl, G.upd [2] (Wd_X9_removeSaying cI cS cT ad b0 mnow mbefore mundoMany mtokens moneLong motherLong medits mgroups) rfl rfl rfl rfl rfl ?_⟩
  refine g_if_ne 5 10 hC dX9_removeSaying_5 (by decide) (fun hc => ?_) (fun hc => ?_)
  · replace h := h.1 hc
    refine g_aload_n 10 0 hC dX9_removeSaying_10 rfl ?_
    refine g_cVv (As := []) (rest := []) 11 0 [0, 1, 2] hC (c_X9_keeps l D cI cS cT ad b0 mnow mbefore mundoMany mtokens moneLong motherLong medits mgroups _ h) kX9_keeps wq_193 dX9_removeSaying_11 rfl rfl ⟨Nat.le_of_ble_eq_true rfl, Nat.le_of_ble_eq_true rfl⟩ rfl rfl (Nat.zero_le _) (Nat.zero_le _) rfl rfl rfl (Nat.le_of_ble_eq_true rfl) ?_
    rintro _ ⟨u2, u3, rfl, h⟩
    refine ⟨Nat.le_of_ble_eq_true rfl, G.upd [] (Wd_X9_removeSaying cI cS cT ad b0 mnow u2 u3 mtokens moneLong motherLong medits mgroups) rfl rfl rfl rfl rfl ?_⟩
    refine g_aload_n 14 0 hC dX9_removeSaying_14 rfl ?_
    refine g_get 15 0 0 hC inlX9 wq_104 dX9_removeSaying_15 rfl rfl (by decide) rfl ?_
    refine g_iconst (v := (0 : Int32)) 18 hC dX9_removeSaying_18 (by decide) ?_
    refine g_dup2 19 hC dX9_removeSaying_19 rfl rfl ?_
    refine g_iald 20 1 hC dX9_removeSaying_20 rfl rfl (by unfold vp_in; decide) ?_
    refine g_iconst (v := (1 : Int32)) 21 hC dX9_removeSaying_21 (by decide) ?_
    refine g_isub 22 hC dX9_removeSaying_22 ?_
    refine g_iast 23 1 (Wd_X9_removeSaying cI cS cT ad b0 (upd mnow (Int32.toNatClampNeg (0 : Int32)) ((mnow (Int32.toNatClampNeg (0 : Int32))) - (1 : Int32))) u2 u3 mtokens moneLong motherLong medits mgroups) hC dX9_removeSaying_23 rfl rfl (by unfold vp_in; decide) rfl ?_
    refine g_iload_n 24 1 hC dX9_removeSaying_24 rfl ?_
    refine g_istore_n 25 [(2, .int x1), (0, .ref (ad b0)), (1, .int x1)] hC dX9_removeSaying_25 (by rw [hn]; decide) rfl ?_
    obtain ⟨n, h⟩ := h
    refine L_X9_removeSaying_26 hC hR hn _ (fun w2_6 mnow_6 h => ?_) n _ _ h
    refine g_aload_n 145 1 hC dX9_removeSaying_145 rfl ?_
    refine g_get 146 0 0 hC inlX9 wq_104 dX9_removeSaying_146 rfl rfl (by decide) rfl ?_
    refine g_iconst (v := (0 : Int32)) 149 hC dX9_removeSaying_149 (by decide) ?_
    refine g_iald 150 1 hC dX9_removeSaying_150 rfl rfl (by unfold vp_in; decide) ?_
    exact g_iret 151 hC hR dX9_removeSaying_151 ⟨mnow_6, u2, u3, rfl, h⟩
  · replace h := h.2 hc
    refine g_iconst (v := (-1 : Int32)) 8 hC dX9_removeSaying_8 (by decide) ?_
    exact g_iret 9 hC hR dX9_removeSaying_9 ⟨mnow, mbefore, mundoMany, rfl, h⟩

/-! ===== ProverbCollectionModel.sayingCount()I ===== -/
def Wd_X9_sayingCount (cI cS cT : ClassId) (ad : Nat → Nat) (b0 : Nat) (mnow : Nat → Int32) (mundoMany : Int32) (mtokens : Int32) (moneLong : Int32) (motherLong : Int32) (medits : Int32) (mgroups : Int32) : va_W := [(ad b0, .inr (9, [.ref (ad (b0 + 1)), .ref (ad (b0 + 2)), .int mundoMany, .int mtokens, .ref (ad (b0 + 3)), .ref (ad (b0 + 4)), .ref (ad (b0 + 5)), .int moneLong, .int motherLong, .ref (ad (b0 + 6)), .int medits, .ref (ad (b0 + 7)), .ref (ad (b0 + 8)), .ref (ad (b0 + 9)), .ref (ad (b0 + 10)), .int mgroups, .ref (ad (b0 + 11)), .ref (ad (b0 + 12))])), (ad (b0 + 1), .inl (cI, 193, .inl mnow))]
def rm_X9_sayingCount : Room := { frames := 0, cells := 0, slots := 0, locals := 0 }
theorem kX9_sayingCount : KV yX9_sayingCount cX9_sayingCount 1 (some .int) 0 := ⟨wq_226, wq_5, wq_224, wq_225, by decide +kernel⟩
def P_X9_sayingCount (mnow : Nat → Int32) (mundoMany : Int32) (mtokens : Int32) (moneLong : Int32) (motherLong : Int32) (medits : Int32) (mgroups : Int32) (post : Int32 → Prop) : Prop :=
  post (mnow (Int32.toNatClampNeg (0 : Int32)))
set_option maxHeartbeats 4000000 in
set_option maxRecDepth 100000 in
theorem c_X9_sayingCount (l : Launch) (D : va_G) (cI cS cT : ClassId) (ad : Nat → Nat) (b0 : Nat) (mnow : Nat → Int32) (mundoMany : Int32) (mtokens : Int32) (moneLong : Int32) (motherLong : Int32) (medits : Int32) (mgroups : Int32) (post : Int32 → Prop) (h : P_X9_sayingCount mnow mundoMany mtokens moneLong motherLong medits mgroups post) : MI l D (TY cI cS cT) yX9_sayingCount cX9_sayingCount 1 (some .int) rm_X9_sayingCount [.ref (ad b0)] (Wd_X9_sayingCount cI cS cT ad b0 mnow mundoMany mtokens moneLong motherLong medits mgroups) (fun (r : Int32) w => w = (Wd_X9_sayingCount cI cS cT ad b0 mnow mundoMany mtokens moneLong motherLong medits mgroups) ∧ post r) := by
  refine MI.of (by decide) (Nat.le_of_ble_eq_true rfl) (fun E hC hR hn => ?_)
  replace hC : Cx l D (TY cI cS cT) E rm_X9_sayingCount cX9_sayingCount RX9 := hC
  replace hR : RetI D E (fun (r : Int32) w => w = (Wd_X9_sayingCount cI cS cT ad b0 mnow mundoMany mtokens moneLong motherLong medits mgroups) ∧ post r) 0 0 (some .int) := hR
  unfold P_X9_sayingCount at h
  change G l D E 0 0 _ [(0, .ref (ad b0))] 0 []
  refine g_aload_n 0 0 hC dX9_sayingCount_0 rfl ?_
  refine g_get 1 0 0 hC inlX9 wq_104 dX9_sayingCount_1 rfl rfl (by decide) rfl ?_
  refine g_iconst (v := (0 : Int32)) 4 hC dX9_sayingCount_4 (by decide) ?_
  refine g_iald 5 1 hC dX9_sayingCount_5 rfl rfl (by unfold vp_in; decide) ?_
  exact g_iret 6 hC hR dX9_sayingCount_6 ⟨rfl, h⟩

/-! ===== ProverbCollectionModel.lengthOf(I)I ===== -/
def Wd_X9_lengthOf (cI cS cT : ClassId) (ad : Nat → Nat) (b0 : Nat) (mnow : Nat → Int32) (mundoMany : Int32) (mtokens : Int32) (moneLong : Int32) (motherLong : Int32) (medits : Int32) (mgroups : Int32) : va_W := [(ad b0, .inr (9, [.ref (ad (b0 + 1)), .ref (ad (b0 + 2)), .int mundoMany, .int mtokens, .ref (ad (b0 + 3)), .ref (ad (b0 + 4)), .ref (ad (b0 + 5)), .int moneLong, .int motherLong, .ref (ad (b0 + 6)), .int medits, .ref (ad (b0 + 7)), .ref (ad (b0 + 8)), .ref (ad (b0 + 9)), .ref (ad (b0 + 10)), .int mgroups, .ref (ad (b0 + 11)), .ref (ad (b0 + 12))])), (ad (b0 + 1), .inl (cI, 193, .inl mnow))]
def rm_X9_lengthOf : Room := { frames := 2, cells := 0, slots := 0, locals := 46 }
theorem kX9_lengthOf : KV yX9_lengthOf cX9_lengthOf 2 (some .int) 1 := ⟨wq_237, wq_5, wq_235, wq_236, by decide +kernel⟩
def P_X9_lengthOf (x1 : Int32) (mnow : Nat → Int32) (mundoMany : Int32) (mtokens : Int32) (moneLong : Int32) (motherLong : Int32) (medits : Int32) (mgroups : Int32) (post : Int32 → Prop) : Prop :=
  P_X9_isSaying x1 mnow mundoMany mtokens moneLong motherLong medits mgroups (fun r1 => (r1 = 0 → post (-1 : Int32)) ∧ (¬ r1 = 0 → (vp_in ((1 : Int32) + x1) 193 ∧ (post (mnow (Int32.toNatClampNeg ((1 : Int32) + x1)))))))
set_option maxHeartbeats 4000000 in
set_option maxRecDepth 100000 in
theorem c_X9_lengthOf (l : Launch) (D : va_G) (cI cS cT : ClassId) (ad : Nat → Nat) (b0 : Nat) (x1 : Int32) (mnow : Nat → Int32) (mundoMany : Int32) (mtokens : Int32) (moneLong : Int32) (motherLong : Int32) (medits : Int32) (mgroups : Int32) (post : Int32 → Prop) (h : P_X9_lengthOf x1 mnow mundoMany mtokens moneLong motherLong medits mgroups post) : MI l D (TY cI cS cT) yX9_lengthOf cX9_lengthOf 2 (some .int) rm_X9_lengthOf [.ref (ad b0), .int x1] (Wd_X9_lengthOf cI cS cT ad b0 mnow mundoMany mtokens moneLong motherLong medits mgroups) (fun (r : Int32) w => w = (Wd_X9_lengthOf cI cS cT ad b0 mnow mundoMany mtokens moneLong motherLong medits mgroups) ∧ post r) := by
  refine MI.of (by decide) (Nat.le_of_ble_eq_true rfl) (fun E hC hR hn => ?_)
  replace hC : Cx l D (TY cI cS cT) E rm_X9_lengthOf cX9_lengthOf RX9 := hC
  replace hR : RetI D E (fun (r : Int32) w => w = (Wd_X9_lengthOf cI cS cT ad b0 mnow mundoMany mtokens moneLong motherLong medits mgroups) ∧ post r) 0 0 (some .int) := hR
  unfold P_X9_lengthOf at h
  change G l D E 0 0 _ [(0, .ref (ad b0)), (1, .int x1)] 0 []
  refine g_aload_n 0 0 hC dX9_lengthOf_0 rfl ?_
  refine g_iload_n 1 1 hC dX9_lengthOf_1 rfl ?_
  refine g_cVi (As := [.int x1]) (rest := []) 2 0 [0, 1] hC (c_X9_isSaying l D cI cS cT ad b0 x1 mnow mundoMany mtokens moneLong motherLong medits mgroups _ h) kX9_isSaying wq_215 dX9_lengthOf_2 rfl rfl ⟨Nat.le_of_ble_eq_true rfl, Nat.le_of_ble_eq_true rfl⟩ rfl rfl (Nat.zero_le _) (Nat.zero_le _) rfl rfl rfl (Nat.le_of_ble_eq_true rfl) ?_
  rintro r1 _ ⟨rfl, h⟩
  refine ⟨Nat.le_of_ble_eq_true rfl, G.upd [] (Wd_X9_lengthOf cI cS cT ad b0 mnow mundoMany mtokens moneLong motherLong medits mgroups) rfl rfl rfl rfl rfl ?_⟩
  refine g_if_eq 5 19 hC dX9_lengthOf_5 (by decide) (fun hc => ?_) (fun hc => ?_)
  · replace h := h.1 hc
    refine g_iconst (v := (-1 : Int32)) 19 hC dX9_lengthOf_19 (by decide) ?_
    exact g_iret 20 hC hR dX9_lengthOf_20 ⟨rfl, h⟩
  · replace h := h.2 hc
    refine g_aload_n 8 0 hC dX9_lengthOf_8 rfl ?_
    refine g_get 9 0 0 hC inlX9 wq_104 dX9_lengthOf_9 rfl rfl (by decide) rfl ?_
    refine g_iconst (v := (1 : Int32)) 12 hC dX9_lengthOf_12 (by decide) ?_
    refine g_iload_n 13 1 hC dX9_lengthOf_13 rfl ?_
    refine g_iadd 14 hC dX9_lengthOf_14 ?_
    obtain ⟨hj, h⟩ := h
    refine g_iald 15 1 hC dX9_lengthOf_15 rfl rfl hj ?_
    refine g_goto 16 20 hC dX9_lengthOf_16 (by decide) ?_
    exact g_iret 20 hC hR dX9_lengthOf_20 ⟨rfl, h⟩

/-! ===== ProverbCollectionModel.wordAt(II)I ===== -/
def Wd_X9_wordAt (cI cS cT : ClassId) (ad : Nat → Nat) (b0 : Nat) (mnow : Nat → Int32) (mundoMany : Int32) (mtokens : Int32) (moneLong : Int32) (motherLong : Int32) (medits : Int32) (mgroups : Int32) : va_W := [(ad b0, .inr (9, [.ref (ad (b0 + 1)), .ref (ad (b0 + 2)), .int mundoMany, .int mtokens, .ref (ad (b0 + 3)), .ref (ad (b0 + 4)), .ref (ad (b0 + 5)), .int moneLong, .int motherLong, .ref (ad (b0 + 6)), .int medits, .ref (ad (b0 + 7)), .ref (ad (b0 + 8)), .ref (ad (b0 + 9)), .ref (ad (b0 + 10)), .int mgroups, .ref (ad (b0 + 11)), .ref (ad (b0 + 12))])), (ad (b0 + 1), .inl (cI, 193, .inl mnow))]
def rm_X9_wordAt : Room := { frames := 2, cells := 0, slots := 0, locals := 46 }
theorem kX9_wordAt : KV yX9_wordAt cX9_wordAt 3 (some .int) 2 := ⟨wq_248, wq_5, wq_246, wq_247, by decide +kernel⟩
def P_X9_wordAt (x1 : Int32) (x2 : Int32) (mnow : Nat → Int32) (mundoMany : Int32) (mtokens : Int32) (moneLong : Int32) (motherLong : Int32) (medits : Int32) (mgroups : Int32) (post : Int32 → Prop) : Prop :=
  P_X9_isSaying x1 mnow mundoMany mtokens moneLong motherLong medits mgroups (fun r1 => (r1 = 0 → post (-1 : Int32)) ∧ (¬ r1 = 0 → ((0 ≤ x2 → (vp_in ((1 : Int32) + x1) 193 ∧ (((mnow (Int32.toNatClampNeg ((1 : Int32) + x1))) ≤ x2 → post (-4 : Int32)) ∧ (¬ (mnow (Int32.toNatClampNeg ((1 : Int32) + x1))) ≤ x2 → (vp_in (((13 : Int32) + ((8 : Int32) * x1)) + x2) 193 ∧ (post (mnow (Int32.toNatClampNeg (((13 : Int32) + ((8 : Int32) * x1)) + x2))))))))) ∧ (¬ 0 ≤ x2 → post (-1 : Int32)))))
set_option maxHeartbeats 4000000 in
set_option maxRecDepth 100000 in
theorem c_X9_wordAt (l : Launch) (D : va_G) (cI cS cT : ClassId) (ad : Nat → Nat) (b0 : Nat) (x1 : Int32) (x2 : Int32) (mnow : Nat → Int32) (mundoMany : Int32) (mtokens : Int32) (moneLong : Int32) (motherLong : Int32) (medits : Int32) (mgroups : Int32) (post : Int32 → Prop) (h : P_X9_wordAt x1 x2 mnow mundoMany mtokens moneLong motherLong medits mgroups post) : MI l D (TY cI cS cT) yX9_wordAt cX9_wordAt 3 (some .int) rm_X9_wordAt [.ref (ad b0), .int x1, .int x2] (Wd_X9_wordAt cI cS cT ad b0 mnow mundoMany mtokens moneLong motherLong medits mgroups) (fun (r : Int32) w => w = (Wd_X9_wordAt cI cS cT ad b0 mnow mundoMany mtokens moneLong motherLong medits mgroups) ∧ post r) := by
  refine MI.of (by decide) (Nat.le_of_ble_eq_true rfl) (fun E hC hR hn => ?_)
  replace hC : Cx l D (TY cI cS cT) E rm_X9_wordAt cX9_wordAt RX9 := hC
  replace hR : RetI D E (fun (r : Int32) w => w = (Wd_X9_wordAt cI cS cT ad b0 mnow mundoMany mtokens moneLong motherLong medits mgroups) ∧ post r) 0 0 (some .int) := hR
  unfold P_X9_wordAt at h
  change G l D E 0 0 _ [(0, .ref (ad b0)), (1, .int x1), (2, .int x2)] 0 []
  refine g_aload_n 0 0 hC dX9_wordAt_0 rfl ?_
  refine g_iload_n 1 1 hC dX9_wordAt_1 rfl ?_
  refine g_cVi (As := [.int x1]) (rest := []) 2 0 [0, 1] hC (c_X9_isSaying l D cI cS cT ad b0 x1 mnow mundoMany mtokens moneLong motherLong medits mgroups _ h) kX9_isSaying wq_215 dX9_wordAt_2 rfl rfl ⟨Nat.le_of_ble_eq_true rfl, Nat.le_of_ble_eq_true rfl⟩ rfl rfl (Nat.zero_le _) (Nat.zero_le _) rfl rfl rfl (Nat.le_of_ble_eq_true rfl) ?_
  rintro r1 _ ⟨rfl, h⟩
  refine ⟨Nat.le_of_ble_eq_true rfl, G.upd [] (Wd_X9_wordAt cI cS cT ad b0 mnow mundoMany mtokens moneLong motherLong medits mgroups) rfl rfl rfl rfl rfl ?_⟩
  refine g_if_eq 5 12 hC dX9_wordAt_5 (by decide) (fun hc => ?_) (fun hc => ?_)
  · replace h := h.1 hc
    refine g_iconst (v := (-1 : Int32)) 12 hC dX9_wordAt_12 (by decide) ?_
    exact g_iret 13 hC hR dX9_wordAt_13 ⟨rfl, h⟩
  · replace h := h.2 hc
    refine g_iload_n 8 2 hC dX9_wordAt_8 rfl ?_
    refine g_if_ge 9 14 hC dX9_wordAt_9 (by decide) (fun hc => ?_) (fun hc => ?_)
    · replace h := h.1 hc
      refine g_iload_n 14 2 hC dX9_wordAt_14 rfl ?_
      refine g_aload_n 15 0 hC dX9_wordAt_15 rfl ?_
      refine g_get 16 0 0 hC inlX9 wq_104 dX9_wordAt_16 rfl rfl (by decide) rfl ?_
      refine g_iconst (v := (1 : Int32)) 19 hC dX9_wordAt_19 (by decide) ?_
      refine g_iload_n 20 1 hC dX9_wordAt_20 rfl ?_
      refine g_iadd 21 hC dX9_wordAt_21 ?_
      obtain ⟨hj, h⟩ := h
      refine g_iald 22 1 hC dX9_wordAt_22 rfl rfl hj ?_
      refine g_icmp_ge 23 43 hC dX9_wordAt_23 (by decide) (fun hc => ?_) (fun hc => ?_)
      · replace h := h.1 hc
        refine g_bipush (v := (-4 : Int32)) 43 hC dX9_wordAt_43 (by decide) ?_
        exact g_iret 45 hC hR dX9_wordAt_45 ⟨rfl, h⟩
      · replace h := h.2 hc
        refine g_aload_n 26 0 hC dX9_wordAt_26 rfl ?_
        refine g_get 27 0 0 hC inlX9 wq_104 dX9_wordAt_27 rfl rfl (by decide) rfl ?_
        refine g_bipush (v := (13 : Int32)) 30 hC dX9_wordAt_30 (by decide) ?_
        refine g_bipush (v := (8 : Int32)) 32 hC dX9_wordAt_32 (by decide) ?_
        refine g_iload_n 34 1 hC dX9_wordAt_34 rfl ?_
        refine g_imul 35 hC dX9_wordAt_35 ?_
        refine g_iadd 36 hC dX9_wordAt_36 ?_
        refine g_iload_n 37 2 hC dX9_wordAt_37 rfl ?_
        refine g_iadd 38 hC dX9_wordAt_38 ?_
        obtain ⟨hj, h⟩ := h
        refine g_iald 39 1 hC dX9_wordAt_39 rfl rfl hj ?_
        refine g_goto 40 45 hC dX9_wordAt_40 (by decide) ?_
        exact g_iret 45 hC hR dX9_wordAt_45 ⟨rfl, h⟩
    · replace h := h.2 hc
      refine g_iconst (v := (-1 : Int32)) 12 hC dX9_wordAt_12 (by decide) ?_
      exact g_iret 13 hC hR dX9_wordAt_13 ⟨rfl, h⟩

/-! ===== ProverbCollectionModel.isOlder(II)Z ===== -/
def Wd_X9_isOlder (cI cS cT : ClassId) (ad : Nat → Nat) (b0 : Nat) (mnow : Nat → Int32) (mundoMany : Int32) (mtokens : Int32) (moneLong : Int32) (motherLong : Int32) (medits : Int32) (mgroups : Int32) : va_W := [(ad b0, .inr (9, [.ref (ad (b0 + 1)), .ref (ad (b0 + 2)), .int mundoMany, .int mtokens, .ref (ad (b0 + 3)), .ref (ad (b0 + 4)), .ref (ad (b0 + 5)), .int moneLong, .int motherLong, .ref (ad (b0 + 6)), .int medits, .ref (ad (b0 + 7)), .ref (ad (b0 + 8)), .ref (ad (b0 + 9)), .ref (ad (b0 + 10)), .int mgroups, .ref (ad (b0 + 11)), .ref (ad (b0 + 12))])), (ad (b0 + 1), .inl (cI, 193, .inl mnow))]
def rm_X9_isOlder : Room := { frames := 0, cells := 0, slots := 0, locals := 0 }
theorem kX9_isOlder : KV yX9_isOlder cX9_isOlder 3 (some .boolean) 2 := ⟨wq_275, wq_5, wq_273, wq_274, by decide +kernel⟩
def P_X9_isOlder (x1 : Int32) (x2 : Int32) (mnow : Nat → Int32) (mundoMany : Int32) (mtokens : Int32) (moneLong : Int32) (motherLong : Int32) (medits : Int32) (mgroups : Int32) (post : Int32 → Prop) : Prop :=
  vp_in ((109 : Int32) + x1) 193 ∧ (vp_in ((109 : Int32) + x2) 193 ∧ (((mnow (Int32.toNatClampNeg ((109 : Int32) + x1))) < (mnow (Int32.toNatClampNeg ((109 : Int32) + x2))) → post (1 : Int32)) ∧ (¬ (mnow (Int32.toNatClampNeg ((109 : Int32) + x1))) < (mnow (Int32.toNatClampNeg ((109 : Int32) + x2))) → (vp_in ((109 : Int32) + x1) 193 ∧ (vp_in ((109 : Int32) + x2) 193 ∧ ((¬ (mnow (Int32.toNatClampNeg ((109 : Int32) + x1))) = (mnow (Int32.toNatClampNeg ((109 : Int32) + x2))) → post (0 : Int32)) ∧ ((mnow (Int32.toNatClampNeg ((109 : Int32) + x1))) = (mnow (Int32.toNatClampNeg ((109 : Int32) + x2))) → ((x2 ≤ x1 → post (0 : Int32)) ∧ (¬ x2 ≤ x1 → post (1 : Int32))))))))))
set_option maxHeartbeats 4000000 in
set_option maxRecDepth 100000 in
theorem c_X9_isOlder (l : Launch) (D : va_G) (cI cS cT : ClassId) (ad : Nat → Nat) (b0 : Nat) (x1 : Int32) (x2 : Int32) (mnow : Nat → Int32) (mundoMany : Int32) (mtokens : Int32) (moneLong : Int32) (motherLong : Int32) (medits : Int32) (mgroups : Int32) (post : Int32 → Prop) (h : P_X9_isOlder x1 x2 mnow mundoMany mtokens moneLong motherLong medits mgroups post) : MI l D (TY cI cS cT) yX9_isOlder cX9_isOlder 3 (some .boolean) rm_X9_isOlder [.ref (ad b0), .int x1, .int x2] (Wd_X9_isOlder cI cS cT ad b0 mnow mundoMany mtokens moneLong motherLong medits mgroups) (fun (r : Int32) w => w = (Wd_X9_isOlder cI cS cT ad b0 mnow mundoMany mtokens moneLong motherLong medits mgroups) ∧ post r) := by
  refine MI.of (by decide) (Nat.le_of_ble_eq_true rfl) (fun E hC hR hn => ?_)
  replace hC : Cx l D (TY cI cS cT) E rm_X9_isOlder cX9_isOlder RX9 := hC
  replace hR : RetI D E (fun (r : Int32) w => w = (Wd_X9_isOlder cI cS cT ad b0 mnow mundoMany mtokens moneLong motherLong medits mgroups) ∧ post r) 0 0 (some .boolean) := hR
  unfold P_X9_isOlder at h
  change G l D E 0 0 _ [(0, .ref (ad b0)), (1, .int x1), (2, .int x2)] 0 []
  refine g_aload_n 0 0 hC dX9_isOlder_0 rfl ?_
  refine g_get 1 0 0 hC inlX9 wq_104 dX9_isOlder_1 rfl rfl (by decide) rfl ?_
  refine g_bipush (v := (109 : Int32)) 4 hC dX9_isOlder_4 (by decide) ?_
  refine g_iload_n 6 1 hC dX9_isOlder_6 rfl ?_
  refine g_iadd 7 hC dX9_isOlder_7 ?_
  obtain ⟨hj, h⟩ := h
  refine g_iald 8 1 hC dX9_isOlder_8 rfl rfl hj ?_
  refine g_aload_n 9 0 hC dX9_isOlder_9 rfl ?_
  refine g_get 10 0 0 hC inlX9 wq_104 dX9_isOlder_10 rfl rfl (by decide) rfl ?_
  refine g_bipush (v := (109 : Int32)) 13 hC dX9_isOlder_13 (by decide) ?_
  refine g_iload_n 15 2 hC dX9_isOlder_15 rfl ?_
  refine g_iadd 16 hC dX9_isOlder_16 ?_
  obtain ⟨hj, h⟩ := h
  refine g_iald 17 1 hC dX9_isOlder_17 rfl rfl hj ?_
  refine g_icmp_lt 18 47 hC dX9_isOlder_18 (by decide) (fun hc => ?_) (fun hc => ?_)
  · replace h := h.1 hc
    refine g_iconst (v := (1 : Int32)) 47 hC dX9_isOlder_47 (by decide) ?_
    refine g_goto 48 52 hC dX9_isOlder_48 (by decide) ?_
    exact g_zret 52 hC hR dX9_isOlder_52 (by decide) ⟨rfl, h⟩
  · replace h := h.2 hc
    refine g_aload_n 21 0 hC dX9_isOlder_21 rfl ?_
    refine g_get 22 0 0 hC inlX9 wq_104 dX9_isOlder_22 rfl rfl (by decide) rfl ?_
    refine g_bipush (v := (109 : Int32)) 25 hC dX9_isOlder_25 (by decide) ?_
    refine g_iload_n 27 1 hC dX9_isOlder_27 rfl ?_
    refine g_iadd 28 hC dX9_isOlder_28 ?_
    obtain ⟨hj, h⟩ := h
    refine g_iald 29 1 hC dX9_isOlder_29 rfl rfl hj ?_
    refine g_aload_n 30 0 hC dX9_isOlder_30 rfl ?_
    refine g_get 31 0 0 hC inlX9 wq_104 dX9_isOlder_31 rfl rfl (by decide) rfl ?_
    refine g_bipush (v := (109 : Int32)) 34 hC dX9_isOlder_34 (by decide) ?_
    refine g_iload_n 36 2 hC dX9_isOlder_36 rfl ?_
    refine g_iadd 37 hC dX9_isOlder_37 ?_
    obtain ⟨hj, h⟩ := h
    refine g_iald 38 1 hC dX9_isOlder_38 rfl rfl hj ?_
    refine g_icmp_ne 39 51 hC dX9_isOlder_39 (by decide) (fun hc => ?_) (fun hc => ?_)
    · replace h := h.1 hc
      refine g_iconst (v := (0 : Int32)) 51 hC dX9_isOlder_51 (by decide) ?_
      exact g_zret 52 hC hR dX9_isOlder_52 (by decide) ⟨rfl, h⟩
    · replace h := h.2 hc
      refine g_iload_n 42 1 hC dX9_isOlder_42 rfl ?_
      refine g_iload_n 43 2 hC dX9_isOlder_43 rfl ?_
      refine g_icmp_ge 44 51 hC dX9_isOlder_44 (by decide) (fun hc => ?_) (fun hc => ?_)
      · replace h := h.1 hc
        refine g_iconst (v := (0 : Int32)) 51 hC dX9_isOlder_51 (by decide) ?_
        exact g_zret 52 hC hR dX9_isOlder_52 (by decide) ⟨rfl, h⟩
      · replace h := h.2 hc
        refine g_iconst (v := (1 : Int32)) 47 hC dX9_isOlder_47 (by decide) ?_
        refine g_goto 48 52 hC dX9_isOlder_48 (by decide) ?_
        exact g_zret 52 hC hR dX9_isOlder_52 (by decide) ⟨rfl, h⟩

/-! ===== ProverbCollectionModel.atAge(I)I ===== -/
def Wd_X9_atAge (cI cS cT : ClassId) (ad : Nat → Nat) (b0 : Nat) (mnow : Nat → Int32) (mundoMany : Int32) (mtokens : Int32) (moneLong : Int32) (motherLong : Int32) (medits : Int32) (mgroups : Int32) : va_W := [(ad b0, .inr (9, [.ref (ad (b0 + 1)), .ref (ad (b0 + 2)), .int mundoMany, .int mtokens, .ref (ad (b0 + 3)), .ref (ad (b0 + 4)), .ref (ad (b0 + 5)), .int moneLong, .int motherLong, .ref (ad (b0 + 6)), .int medits, .ref (ad (b0 + 7)), .ref (ad (b0 + 8)), .ref (ad (b0 + 9)), .ref (ad (b0 + 10)), .int mgroups, .ref (ad (b0 + 11)), .ref (ad (b0 + 12))])), (ad (b0 + 1), .inl (cI, 193, .inl mnow))]
def rm_X9_atAge : Room := { frames := 1, cells := 0, slots := 0, locals := 22 }
theorem kX9_atAge : KV yX9_atAge cX9_atAge 5 (some .int) 1 := ⟨wq_271, wq_5, wq_269, wq_270, by decide +kernel⟩
def B_X9_atAge_17 (v2 : Int32) (mnow : Nat → Int32) (mundoMany : Int32) (mtokens : Int32) (moneLong : Int32) (motherLong : Int32) (medits : Int32) (mgroups : Int32) (K : Int32 → Int32 → Prop) (rc : Int32 → Int32 → Prop) (v4 : Int32) (v3 : Int32) : Prop :=
  ((mnow (Int32.toNatClampNeg (0 : Int32))) ≤ v4 → K v4 v3) ∧ (¬ (mnow (Int32.toNatClampNeg (0 : Int32))) ≤ v4 → (P_X9_isOlder v4 v2 mnow mundoMany mtokens moneLong motherLong medits mgroups (fun r1 => (r1 = 0 → rc (v4 + (1 : Int32)) (v3 + (0 : Int32))) ∧ (¬ r1 = 0 → rc (v4 + (1 : Int32)) (v3 + (1 : Int32))))))
def P_X9_atAge_17 (v2 : Int32) (mnow : Nat → Int32) (mundoMany : Int32) (mtokens : Int32) (moneLong : Int32) (motherLong : Int32) (medits : Int32) (mgroups : Int32) (K : Int32 → Int32 → Prop) : Nat → Int32 → Int32 → Prop
  | 0 => fun _ _ => False
  | n + 1 => fun v4 v3 => B_X9_atAge_17 v2 mnow mundoMany mtokens moneLong motherLong medits mgroups K (P_X9_atAge_17 v2 mnow mundoMany mtokens moneLong motherLong medits mgroups K n) v4 v3
def B_X9_atAge_2 (v1 : Int32) (mnow : Nat → Int32) (mundoMany : Int32) (mtokens : Int32) (moneLong : Int32) (motherLong : Int32) (medits : Int32) (mgroups : Int32) (post : Int32 → Prop) (K : Int32 → Prop) (rc : Int32 → Prop) (v2 : Int32) : Prop :=
  ((mnow (Int32.toNatClampNeg (0 : Int32))) ≤ v2 → K v2) ∧ (¬ (mnow (Int32.toNatClampNeg (0 : Int32))) ≤ v2 → (∃ n : Nat, P_X9_atAge_17 v2 mnow mundoMany mtokens moneLong motherLong medits mgroups (fun w4_2 w3_2 => (¬ w3_2 = v1 → rc (v2 + (1 : Int32))) ∧ (w3_2 = v1 → post v2)) n (0 : Int32) (0 : Int32)))
def P_X9_atAge_2 (v1 : Int32) (mnow : Nat → Int32) (mundoMany : Int32) (mtokens : Int32) (moneLong : Int32) (motherLong : Int32) (medits : Int32) (mgroups : Int32) (post : Int32 → Prop) (K : Int32 → Prop) : Nat → Int32 → Prop
  | 0 => fun _ => False
  | n + 1 => fun v2 => B_X9_atAge_2 v1 mnow mundoMany mtokens moneLong motherLong medits mgroups post K (P_X9_atAge_2 v1 mnow mundoMany mtokens moneLong motherLong medits mgroups post K n) v2
def P_X9_atAge (x1 : Int32) (mnow : Nat → Int32) (mundoMany : Int32) (mtokens : Int32) (moneLong : Int32) (motherLong : Int32) (medits : Int32) (mgroups : Int32) (post : Int32 → Prop) : Prop :=
  ∃ n : Nat, P_X9_atAge_2 x1 mnow mundoMany mtokens moneLong motherLong medits mgroups post (fun w2_3 => post (-4 : Int32)) n (0 : Int32)
set_option maxHeartbeats 4000000 in
set_option maxRecDepth 100000 in
theorem L_X9_atAge_17 {l : Launch} {D : va_G} {cI cS cT : ClassId} {ad : Nat → Nat} {b0 : Nat} {E : CE} {v2 : Int32} {v1 : Int32} {mnow : Nat → Int32} {mundoMany : Int32} {mtokens : Int32} {moneLong : Int32} {motherLong : Int32} {medits : Int32} {mgroups : Int32} {post : Int32 → Prop} (hC : Cx l D (TY cI cS cT) E rm_X9_atAge cX9_atAge RX9) (hR : RetI D E (fun (r : Int32) w => w = (Wd_X9_atAge cI cS cT ad b0 mnow mundoMany mtokens moneLong motherLong medits mgroups) ∧ post r) 0 0 (some .int)) (hn : E.nL = 5) (K : Int32 → Int32 → Prop) (hK : ∀ (v4 : Int32) (v3 : Int32), K v4 v3 → G l D E 0 0 (Wd_X9_atAge cI cS cT ad b0 mnow mundoMany mtokens moneLong motherLong medits mgroups) [(4, .int v4), (3, .int v3), (2, .int v2), (0, .ref (ad b0)), (1, .int v1)] 52 []) : ∀ (n : Nat) (v4 : Int32) (v3 : Int32), P_X9_atAge_17 v2 mnow mundoMany mtokens moneLong motherLong medits mgroups K n v4 v3 → G l D E 0 0 (Wd_X9_atAge cI cS cT ad b0 mnow mundoMany mtokens moneLong motherLong medits mgroups) [(4, .int v4), (3, .int v3), (2, .int v2), (0, .ref (ad b0)), (1, .int v1)] 17 [] := by
  intro n
  induction n with
  | zero => exact fun _ _ h => h.elim
  | succ n ih =>
    intro v4 v3 h
    replace h : B_X9_atAge_17 v2 mnow mundoMany mtokens moneLong motherLong medits mgroups K (P_X9_atAge_17 v2 mnow mundoMany mtokens moneLong motherLong medits mgroups K n) v4 v3 := h
    unfold B_X9_atAge_17 at h
    refine g_iload 17 0 hC dX9_atAge_17 rfl ?_
    refine g_aload_n 19 3 hC dX9_atAge_19 rfl ?_
    refine g_get 20 0 0 hC inlX9 wq_104 dX9_atAge_20 rfl rfl (by decide) rfl ?_
    refine g_iconst (v := (0 : Int32)) 23 hC dX9_atAge_23 (by decide) ?_
    refine g_iald 24 1 hC dX9_atAge_24 rfl rfl (by unfold vp_in; decide) ?_
    refine g_icmp_ge 25 52 hC dX9_atAge_25 (by decide) (fun hc => ?_) (fun hc => ?_)
    · replace h := h.1 hc
      refine G.sub [0, 1, 2, 3, 4] rfl ?_
      exact hK v4 v3 h
    · replace h := h.2 hc
      refine g_iload_n 28 1 hC dX9_atAge_28 rfl ?_
      refine g_aload_n 29 3 hC dX9_atAge_29 rfl ?_
      refine g_iload 30 0 hC dX9_atAge_30 rfl ?_
      refine g_iload_n 32 2 hC dX9_atAge_32 rfl ?_
      refine g_cVi (As := [.int v4, .int v2]) (rest := [.int v3]) 33 0 [0, 1] hC (c_X9_isOlder l D cI cS cT ad b0 v4 v2 mnow mundoMany mtokens moneLong motherLong medits mgroups _ h) kX9_isOlder wq_272 dX9_atAge_33 rfl rfl ⟨Nat.le_of_ble_eq_true rfl, Nat.le_of_ble_eq_true rfl⟩ rfl rfl (Nat.zero_le _) (Nat.zero_le _) rfl rfl rfl (Nat.le_of_ble_eq_true rfl) ?_
      rintro r1 _ ⟨rfl, h⟩
      refine ⟨Nat.le_of_ble_eq_true rfl, G.upd [] (Wd_X9_atAge cI cS cT ad b0 mnow mundoMany mtokens moneLong motherLong medits mgroups) rfl rfl rfl rfl rfl ?_⟩
      refine g_if_eq 36 43 hC dX9_atAge_36 (by decide) (fun hc => ?_) (fun hc => ?_)
      · replace h := h.1 hc
        refine g_iconst (v := (0 : Int32)) 43 hC dX9_atAge_43 (by decide) ?_
        refine g_iadd 44 hC dX9_atAge_44 ?_
        refine g_istore_n 45 [(3, .int (v3 + (0 : Int32))), (4, .int v4), (2, .int v2), (0, .ref (ad b0)), (1, .int v1)] hC dX9_atAge_45 (by rw [hn]; decide) rfl ?_
        refine g_iinc (v := (1 : Int32)) 46 1 [(4, .int (v4 + (1 : Int32))), (3, .int (v3 + (0 : Int32))), (2, .int v2), (0, .ref (ad b0)), (1, .int v1)] hC dX9_atAge_46 rfl (by decide) (by rw [hn]; decide) rfl ?_
        refine g_goto 49 17 hC dX9_atAge_49 (by decide) ?_
        refine G.sub [0, 1, 2, 3, 4] rfl ?_
        exact ih _ _ h
      · replace h := h.2 hc
        refine g_iconst (v := (1 : Int32)) 39 hC dX9_atAge_39 (by decide) ?_
        refine g_goto 40 44 hC dX9_atAge_40 (by decide) ?_
        refine g_iadd 44 hC dX9_atAge_44 ?_
        refine g_istore_n 45 [(3, .int (v3 + (1 : Int32))), (4, .int v4), (2, .int v2), (0, .ref (ad b0)), (1, .int v1)] hC dX9_atAge_45 (by rw [hn]; decide) rfl ?_
        refine g_iinc (v := (1 : Int32)) 46 1 [(4, .int (v4 + (1 : Int32))), (3, .int (v3 + (1 : Int32))), (2, .int v2), (0, .ref (ad b0)), (1, .int v1)] hC dX9_atAge_46 rfl (by decide) (by rw [hn]; decide) rfl ?_
        refine g_goto 49 17 hC dX9_atAge_49 (by decide) ?_
        refine G.sub [0, 1, 2, 3, 4] rfl ?_
        exact ih _ _ h
set_option maxHeartbeats 4000000 in
set_option maxRecDepth 100000 in
theorem L_X9_atAge_2 {l : Launch} {D : va_G} {cI cS cT : ClassId} {ad : Nat → Nat} {b0 : Nat} {E : CE} {v1 : Int32} {mnow : Nat → Int32} {mundoMany : Int32} {mtokens : Int32} {moneLong : Int32} {motherLong : Int32} {medits : Int32} {mgroups : Int32} {post : Int32 → Prop} (hC : Cx l D (TY cI cS cT) E rm_X9_atAge cX9_atAge RX9) (hR : RetI D E (fun (r : Int32) w => w = (Wd_X9_atAge cI cS cT ad b0 mnow mundoMany mtokens moneLong motherLong medits mgroups) ∧ post r) 0 0 (some .int)) (hn : E.nL = 5) (K : Int32 → Prop) (hK : ∀ (v2 : Int32), K v2 → G l D E 0 0 (Wd_X9_atAge cI cS cT ad b0 mnow mundoMany mtokens moneLong motherLong medits mgroups) [(2, .int v2), (0, .ref (ad b0)), (1, .int v1)] 65 []) : ∀ (n : Nat) (v2 : Int32), P_X9_atAge_2 v1 mnow mundoMany mtokens moneLong motherLong medits mgroups post K n v2 → G l D E 0 0 (Wd_X9_atAge cI cS cT ad b0 mnow mundoMany mtokens moneLong motherLong medits mgroups) [(2, .int v2), (0, .ref (ad b0)), (1, .int v1)] 2 [] := by
  intro n
  induction n with
  | zero => exact fun _ h => h.elim
  | succ n ih =>
    intro v2 h
    replace h : B_X9_atAge_2 v1 mnow mundoMany mtokens moneLong motherLong medits mgroups post K (P_X9_atAge_2 v1 mnow mundoMany mtokens moneLong motherLong medits mgroups post K n) v2 := h
    unfold B_X9_atAge_2 at h
    refine g_iload_n 2 0 hC dX9_atAge_2 rfl ?_
    refine g_aload_n 3 1 hC dX9_atAge_3 rfl ?_
    refine g_get 4 0 0 hC inlX9 wq_104 dX9_atAge_4 rfl rfl (by decide) rfl ?_
    refine g_iconst (v := (0 : Int32)) 7 hC dX9_atAge_7 (by decide) ?_
    refine g_iald 8 1 hC dX9_atAge_8 rfl rfl (by unfold vp_in; decide) ?_
    refine g_icmp_ge 9 65 hC dX9_atAge_9 (by decide) (fun hc => ?_) (fun hc => ?_)
    · replace h := h.1 hc
      refine G.sub [0, 1, 2] rfl ?_
      exact hK v2 h
    · replace h := h.2 hc
      refine g_iconst (v := (0 : Int32)) 12 hC dX9_atAge_12 (by decide) ?_
      refine g_istore_n 13 [(3, .int (0 : Int32)), (2, .int v2), (0, .ref (ad b0)), (1, .int v1)] hC dX9_atAge_13 (by rw [hn]; decide) rfl ?_
      refine g_iconst (v := (0 : Int32)) 14 hC dX9_atAge_14 (by decide) ?_
      refine g_istore 15 [(4, .int (0 : Int32)), (3, .int (0 : Int32)), (2, .int v2), (0, .ref (ad b0)), (1, .int v1)] hC dX9_atAge_15 (by rw [hn]; decide) rfl ?_
      obtain ⟨n, h⟩ := h
      refine L_X9_atAge_17 hC hR hn _ (fun w4_2 w3_2 h => ?_) n _ _ h
      refine g_iload_n 52 1 hC dX9_atAge_52 rfl ?_
      refine g_iload_n 53 4 hC dX9_atAge_53 rfl ?_
      refine g_icmp_ne 54 59 hC dX9_atAge_54 (by decide) (fun hc => ?_) (fun hc => ?_)
      · replace h := h.1 hc
        refine g_iinc (v := (1 : Int32)) 59 2 [(2, .int (v2 + (1 : Int32))), (4, .int w4_2), (3, .int w3_2), (0, .ref (ad b0)), (1, .int v1)] hC dX9_atAge_59 rfl (by decide) (by rw [hn]; decide) rfl ?_
        refine g_goto 62 2 hC dX9_atAge_62 (by decide) ?_
        refine G.sub [0, 3, 4] rfl ?_
        exact ih _ h
      · replace h := h.2 hc
        refine g_iload_n 57 2 hC dX9_atAge_57 rfl ?_
        exact g_iret 58 hC hR dX9_atAge_58 ⟨rfl, h⟩
set_option maxHeartbeats 4000000 in
set_option maxRecDepth 100000 in
theorem c_X9_atAge (l : Launch) (D : va_G) (cI cS cT : ClassId) (ad : Nat → Nat) (b0 : Nat) (x1 : Int32) (mnow : Nat → Int32) (mundoMany : Int32) (mtokens : Int32) (moneLong : Int32) (motherLong : Int32) (medits : Int32) (mgroups : Int32) (post : Int32 → Prop) (h : P_X9_atAge x1 mnow mundoMany mtokens moneLong motherLong medits mgroups post) : MI l D (TY cI cS cT) yX9_atAge cX9_atAge 5 (some .int) rm_X9_atAge [.ref (ad b0), .int x1] (Wd_X9_atAge cI cS cT ad b0 mnow mundoMany mtokens moneLong motherLong medits mgroups) (fun (r : Int32) w => w = (Wd_X9_atAge cI cS cT ad b0 mnow mundoMany mtokens moneLong motherLong medits mgroups) ∧ post r) := by
  refine MI.of (by decide) (Nat.le_of_ble_eq_true rfl) (fun E hC hR hn => ?_)
  replace hC : Cx l D (TY cI cS cT) E rm_X9_atAge cX9_atAge RX9 := hC
  replace hR : RetI D E (fun (r : Int32) w => w = (Wd_X9_atAge cI cS cT ad b0 mnow mundoMany mtokens moneLong motherLong medits mgroups) ∧ post r) 0 0 (some .int) := hR
  unfold P_X9_atAge at h
  change G l D E 0 0 _ [(0, .ref (ad b0)), (1, .int x1)] 0 []
  refine g_iconst (v := (0 : Int32)) 0 hC dX9_atAge_0 (by decide) ?_
  refine g_istore_n 1 [(2, .int (0 : Int32)), (0, .ref (ad b0)), (1, .int x1)] hC dX9_atAge_1 (by rw [hn]; decide) rfl ?_
  obtain ⟨n, h⟩ := h
  refine L_X9_atAge_2 hC hR hn _ (fun w2_3 h => ?_) n _ h
  refine g_bipush (v := (-4 : Int32)) 65 hC dX9_atAge_65 (by decide) ?_
  exact g_iret 67 hC hR dX9_atAge_67 ⟨rfl, h⟩

/-! ===== ProverbCollectionModel.byAge(I)I ===== -/
def Wd_X9_byAge (cI cS cT : ClassId) (ad : Nat → Nat) (b0 : Nat) (mnow : Nat → Int32) (mundoMany : Int32) (mtokens : Int32) (moneLong : Int32) (motherLong : Int32) (medits : Int32) (mgroups : Int32) : va_W := [(ad b0, .inr (9, [.ref (ad (b0 + 1)), .ref (ad (b0 + 2)), .int mundoMany, .int mtokens, .ref (ad (b0 + 3)), .ref (ad (b0 + 4)), .ref (ad (b0 + 5)), .int moneLong, .int motherLong, .ref (ad (b0 + 6)), .int medits, .ref (ad (b0 + 7)), .ref (ad (b0 + 8)), .ref (ad (b0 + 9)), .ref (ad (b0 + 10)), .int mgroups, .ref (ad (b0 + 11)), .ref (ad (b0 + 12))])), (ad (b0 + 1), .inl (cI, 193, .inl mnow))]
def rm_X9_byAge : Room := { frames := 2, cells := 0, slots := 0, locals := 46 }
theorem kX9_byAge : KV yX9_byAge cX9_byAge 2 (some .int) 1 := ⟨wq_267, wq_5, wq_265, wq_266, by decide +kernel⟩
def P_X9_byAge (x1 : Int32) (mnow : Nat → Int32) (mundoMany : Int32) (mtokens : Int32) (moneLong : Int32) (motherLong : Int32) (medits : Int32) (mgroups : Int32) (post : Int32 → Prop) : Prop :=
  (0 ≤ x1 → P_X9_atAge x1 mnow mundoMany mtokens moneLong motherLong medits mgroups (fun r1 => post r1)) ∧ (¬ 0 ≤ x1 → post (-1 : Int32))
set_option maxHeartbeats 4000000 in
set_option maxRecDepth 100000 in
theorem c_X9_byAge (l : Launch) (D : va_G) (cI cS cT : ClassId) (ad : Nat → Nat) (b0 : Nat) (x1 : Int32) (mnow : Nat → Int32) (mundoMany : Int32) (mtokens : Int32) (moneLong : Int32) (motherLong : Int32) (medits : Int32) (mgroups : Int32) (post : Int32 → Prop) (h : P_X9_byAge x1 mnow mundoMany mtokens moneLong motherLong medits mgroups post) : MI l D (TY cI cS cT) yX9_byAge cX9_byAge 2 (some .int) rm_X9_byAge [.ref (ad b0), .int x1] (Wd_X9_byAge cI cS cT ad b0 mnow mundoMany mtokens moneLong motherLong medits mgroups) (fun (r : Int32) w => w = (Wd_X9_byAge cI cS cT ad b0 mnow mundoMany mtokens moneLong motherLong medits mgroups) ∧ post r) := by
  refine MI.of (by decide) (Nat.le_of_ble_eq_true rfl) (fun E hC hR hn => ?_)
  replace hC : Cx l D (TY cI cS cT) E rm_X9_byAge cX9_byAge RX9 := hC
  replace hR : RetI D E (fun (r : Int32) w => w = (Wd_X9_byAge cI cS cT ad b0 mnow mundoMany mtokens moneLong motherLong medits mgroups) ∧ post r) 0 0 (some .int) := hR
  unfold P_X9_byAge at h
  change G l D E 0 0 _ [(0, .ref (ad b0)), (1, .int x1)] 0 []
  refine g_iload_n 0 1 hC dX9_byAge_0 rfl ?_
  refine g_if_ge 1 8 hC dX9_byAge_1 (by decide) (fun hc => ?_) (fun hc => ?_)
  · replace h := h.1 hc
    refine g_aload_n 8 0 hC dX9_byAge_8 rfl ?_
    refine g_iload_n 9 1 hC dX9_byAge_9 rfl ?_
    refine g_cVi (As := [.int x1]) (rest := []) 10 0 [0, 1] hC (c_X9_atAge l D cI cS cT ad b0 x1 mnow mundoMany mtokens moneLong motherLong medits mgroups _ h) kX9_atAge wq_268 dX9_byAge_10 rfl rfl ⟨Nat.le_of_ble_eq_true rfl, Nat.le_of_ble_eq_true rfl⟩ rfl rfl (Nat.zero_le _) (Nat.zero_le _) rfl rfl rfl (Nat.le_of_ble_eq_true rfl) ?_
    rintro r1 _ ⟨rfl, h⟩
    refine ⟨Nat.le_of_ble_eq_true rfl, G.upd [] (Wd_X9_byAge cI cS cT ad b0 mnow mundoMany mtokens moneLong motherLong medits mgroups) rfl rfl rfl rfl rfl ?_⟩
    exact g_iret 13 hC hR dX9_byAge_13 ⟨rfl, h⟩
  · replace h := h.2 hc
    refine g_iconst (v := (-1 : Int32)) 4 hC dX9_byAge_4 (by decide) ?_
    refine g_goto 5 13 hC dX9_byAge_5 (by decide) ?_
    exact g_iret 13 hC hR dX9_byAge_13 ⟨rfl, h⟩

/-! ===== ProverbCollectionModel.takesOne(I)V ===== -/
def Wd_X9_takesOne (cI cS cT : ClassId) (ad : Nat → Nat) (b0 : Nat) (mnow : Nat → Int32) (mundoMany : Int32) (mtokens : Int32) (mone : Nat → Int32) (moneLong : Int32) (motherLong : Int32) (medits : Int32) (mgroups : Int32) : va_W := [(ad b0, .inr (9, [.ref (ad (b0 + 1)), .ref (ad (b0 + 2)), .int mundoMany, .int mtokens, .ref (ad (b0 + 3)), .ref (ad (b0 + 4)), .ref (ad (b0 + 5)), .int moneLong, .int motherLong, .ref (ad (b0 + 6)), .int medits, .ref (ad (b0 + 7)), .ref (ad (b0 + 8)), .ref (ad (b0 + 9)), .ref (ad (b0 + 10)), .int mgroups, .ref (ad (b0 + 11)), .ref (ad (b0 + 12))])), (ad (b0 + 1), .inl (cI, 193, .inl mnow)), (ad (b0 + 4), .inl (cI, 8, .inl mone))]
def rm_X9_takesOne : Room := { frames := 0, cells := 0, slots := 0, locals := 0 }
theorem kX9_takesOne : KV yX9_takesOne cX9_takesOne 3 none 1 := ⟨wq_330, wq_5, wq_328, wq_329, by decide +kernel⟩
def B_X9_takesOne_14 (v1 : Int32) (mnow : Nat → Int32) (moneLong : Int32) (K : Int32 → (Nat → Int32) → Prop) (rc : Int32 → (Nat → Int32) → Prop) (v2 : Int32) (mone : Nat → Int32) : Prop :=
  (moneLong ≤ v2 → K v2 mone) ∧ (¬ moneLong ≤ v2 → (vp_in (((13 : Int32) + ((8 : Int32) * v1)) + v2) 193 ∧ (vp_in v2 8 ∧ (rc (v2 + (1 : Int32)) (upd mone (Int32.toNatClampNeg v2) (mnow (Int32.toNatClampNeg (((13 : Int32) + ((8 : Int32) * v1)) + v2))))))))
def P_X9_takesOne_14 (v1 : Int32) (mnow : Nat → Int32) (moneLong : Int32) (K : Int32 → (Nat → Int32) → Prop) : Nat → Int32 → (Nat → Int32) → Prop
  | 0 => fun _ _ => False
  | n + 1 => fun v2 mone => B_X9_takesOne_14 v1 mnow moneLong K (P_X9_takesOne_14 v1 mnow moneLong K n) v2 mone
def P_X9_takesOne (x1 : Int32) (mnow : Nat → Int32) (mundoMany : Int32) (mtokens : Int32) (mone : Nat → Int32) (moneLong : Int32) (motherLong : Int32) (medits : Int32) (mgroups : Int32) (post : (Nat → Int32) → Int32 → Prop) : Prop :=
  vp_in ((1 : Int32) + x1) 193 ∧ (∃ n : Nat, P_X9_takesOne_14 x1 mnow (mnow (Int32.toNatClampNeg ((1 : Int32) + x1))) (fun w2_1 mone_1 => post mone_1 (mnow (Int32.toNatClampNeg ((1 : Int32) + x1)))) n (0 : Int32) mone)
set_option maxHeartbeats 4000000 in
set_option maxRecDepth 100000 in
theorem L_X9_takesOne_14 {l : Launch} {D : va_G} {cI cS cT : ClassId} {ad : Nat → Nat} {b0 : Nat} {E : CE} {v1 : Int32} {mnow : Nat → Int32} {mundoMany : Int32} {mtokens : Int32} {moneLong : Int32} {motherLong : Int32} {medits : Int32} {mgroups : Int32} {post : (Nat → Int32) → Int32 → Prop} (hC : Cx l D (TY cI cS cT) E rm_X9_takesOne cX9_takesOne RX9) (hR : RetV D E (fun w => ∃ (u_mone : Nat → Int32) (u_moneLong : Int32), w = (Wd_X9_takesOne cI cS cT ad b0 mnow mundoMany mtokens u_mone u_moneLong motherLong medits mgroups) ∧ post u_mone u_moneLong) 0 0) (hn : E.nL = 3) (K : Int32 → (Nat → Int32) → Prop) (hK : ∀ (v2 : Int32) (mone : Nat → Int32), K v2 mone → G l D E 0 0 (Wd_X9_takesOne cI cS cT ad b0 mnow mundoMany mtokens mone moneLong motherLong medits mgroups) [(2, .int v2), (0, .ref (ad b0)), (1, .int v1)] 48 []) : ∀ (n : Nat) (v2 : Int32) (mone : Nat → Int32), P_X9_takesOne_14 v1 mnow moneLong K n v2 mone → G l D E 0 0 (Wd_X9_takesOne cI cS cT ad b0 mnow mundoMany mtokens mone moneLong motherLong medits mgroups) [(2, .int v2), (0, .ref (ad b0)), (1, .int v1)] 14 [] := by
  intro n
  induction n with
  | zero => exact fun _ _ h => h.elim
  | succ n ih =>
    intro v2 mone h
    replace h : B_X9_takesOne_14 v1 mnow moneLong K (P_X9_takesOne_14 v1 mnow moneLong K n) v2 mone := h
    unfold B_X9_takesOne_14 at h
    refine g_iload_n 14 0 hC dX9_takesOne_14 rfl ?_
    refine g_aload_n 15 1 hC dX9_takesOne_15 rfl ?_
    refine g_get 16 0 7 hC inlX9 wq_331 dX9_takesOne_16 rfl rfl (by decide) rfl ?_
    refine g_icmp_ge 19 48 hC dX9_takesOne_19 (by decide) (fun hc => ?_) (fun hc => ?_)
    · replace h := h.1 hc
      refine G.sub [0, 1, 2] rfl ?_
      exact hK v2 mone h
    · replace h := h.2 hc
      refine g_aload_n 22 1 hC dX9_takesOne_22 rfl ?_
      refine g_get 23 0 5 hC inlX9 wq_107 dX9_takesOne_23 rfl rfl (by decide) rfl ?_
      refine g_iload_n 26 0 hC dX9_takesOne_26 rfl ?_
      refine g_aload_n 27 1 hC dX9_takesOne_27 rfl ?_
      refine g_get 28 0 0 hC inlX9 wq_104 dX9_takesOne_28 rfl rfl (by decide) rfl ?_
      refine g_bipush (v := (13 : Int32)) 31 hC dX9_takesOne_31 (by decide) ?_
      refine g_bipush (v := (8 : Int32)) 33 hC dX9_takesOne_33 (by decide) ?_
      refine g_iload_n 35 2 hC dX9_takesOne_35 rfl ?_
      refine g_imul 36 hC dX9_takesOne_36 ?_
      refine g_iadd 37 hC dX9_takesOne_37 ?_
      refine g_iload_n 38 0 hC dX9_takesOne_38 rfl ?_
      refine g_iadd 39 hC dX9_takesOne_39 ?_
      obtain ⟨hj, h⟩ := h
      refine g_iald 40 1 hC dX9_takesOne_40 rfl rfl hj ?_
      obtain ⟨hj, h⟩ := h
      refine g_iast 41 2 (Wd_X9_takesOne cI cS cT ad b0 mnow mundoMany mtokens (upd mone (Int32.toNatClampNeg v2) (mnow (Int32.toNatClampNeg (((13 : Int32) + ((8 : Int32) * v1)) + v2)))) moneLong motherLong medits mgroups) hC dX9_takesOne_41 rfl rfl hj rfl ?_
      refine g_iinc (v := (1 : Int32)) 42 0 [(2, .int (v2 + (1 : Int32))), (0, .ref (ad b0)), (1, .int v1)] hC dX9_takesOne_42 rfl (by decide) (by rw [hn]; decide) rfl ?_
      refine g_goto 45 14 hC dX9_takesOne_45 (by decide) ?_
      refine G.sub [0, 1, 2] rfl ?_
      exact ih _ _ h
set_option maxHeartbeats 4000000 in
set_option maxRecDepth 100000 in
theorem c_X9_takesOne (l : Launch) (D : va_G) (cI cS cT : ClassId) (ad : Nat → Nat) (b0 : Nat) (x1 : Int32) (mnow : Nat → Int32) (mundoMany : Int32) (mtokens : Int32) (mone : Nat → Int32) (moneLong : Int32) (motherLong : Int32) (medits : Int32) (mgroups : Int32) (post : (Nat → Int32) → Int32 → Prop) (h : P_X9_takesOne x1 mnow mundoMany mtokens mone moneLong motherLong medits mgroups post) : MV l D (TY cI cS cT) yX9_takesOne cX9_takesOne 3 rm_X9_takesOne [.ref (ad b0), .int x1] (Wd_X9_takesOne cI cS cT ad b0 mnow mundoMany mtokens mone moneLong motherLong medits mgroups) (fun w => ∃ (u_mone : Nat → Int32) (u_moneLong : Int32), w = (Wd_X9_takesOne cI cS cT ad b0 mnow mundoMany mtokens u_mone u_moneLong motherLong medits mgroups) ∧ post u_mone u_moneLong) := by
  refine MV.of (by decide) (Nat.le_of_ble_eq_true rfl) (fun E hC hR hn => ?_)
  replace hC : Cx l D (TY cI cS cT) E rm_X9_takesOne cX9_takesOne RX9 := hC
  replace hR : RetV D E (fun w => ∃ (u_mone : Nat → Int32) (u_moneLong : Int32), w = (Wd_X9_takesOne cI cS cT ad b0 mnow mundoMany mtokens u_mone u_moneLong motherLong medits mgroups) ∧ post u_mone u_moneLong) 0 0 := hR
  unfold P_X9_takesOne at h
  change G l D E 0 0 _ [(0, .ref (ad b0)), (1, .int x1)] 0 []
  refine g_aload_n 0 0 hC dX9_takesOne_0 rfl ?_
  refine g_aload_n 1 0 hC dX9_takesOne_1 rfl ?_
  refine g_get 2 0 0 hC inlX9 wq_104 dX9_takesOne_2 rfl rfl (by decide) rfl ?_
  refine g_iconst (v := (1 : Int32)) 5 hC dX9_takesOne_5 (by decide) ?_
  refine g_iload_n 6 1 hC dX9_takesOne_6 rfl ?_
  refine g_iadd 7 hC dX9_takesOne_7 ?_
  obtain ⟨hj, h⟩ := h
  refine g_iald 8 1 hC dX9_takesOne_8 rfl rfl hj ?_
  refine g_put 9 0 7 (Wd_X9_takesOne cI cS cT ad b0 mnow mundoMany mtokens mone (mnow (Int32.toNatClampNeg ((1 : Int32) + x1))) motherLong medits mgroups) hC inlX9 tyX9_ok nmX9 wq_331 dX9_takesOne_9 rfl rfl (by decide) rfl rfl (Nat.le_of_ble_eq_true rfl) rfl ?_
  refine g_iconst (v := (0 : Int32)) 12 hC dX9_takesOne_12 (by decide) ?_
  refine g_istore_n 13 [(2, .int (0 : Int32)), (0, .ref (ad b0)), (1, .int x1)] hC dX9_takesOne_13 (by rw [hn]; decide) rfl ?_
  obtain ⟨n, h⟩ := h
  refine L_X9_takesOne_14 hC hR hn _ (fun w2_1 mone_1 h => ?_) n _ _ h
  exact g_vret 48 hC hR dX9_takesOne_48 ⟨mone_1, (mnow (Int32.toNatClampNeg ((1 : Int32) + x1))), rfl, h⟩

/-! ===== ProverbCollectionModel.takesOther(I)V ===== -/
def Wd_X9_takesOther (cI cS cT : ClassId) (ad : Nat → Nat) (b0 : Nat) (mnow : Nat → Int32) (mundoMany : Int32) (mtokens : Int32) (mother : Nat → Int32) (moneLong : Int32) (motherLong : Int32) (medits : Int32) (mgroups : Int32) : va_W := [(ad b0, .inr (9, [.ref (ad (b0 + 1)), .ref (ad (b0 + 2)), .int mundoMany, .int mtokens, .ref (ad (b0 + 3)), .ref (ad (b0 + 4)), .ref (ad (b0 + 5)), .int moneLong, .int motherLong, .ref (ad (b0 + 6)), .int medits, .ref (ad (b0 + 7)), .ref (ad (b0 + 8)), .ref (ad (b0 + 9)), .ref (ad (b0 + 10)), .int mgroups, .ref (ad (b0 + 11)), .ref (ad (b0 + 12))])), (ad (b0 + 1), .inl (cI, 193, .inl mnow)), (ad (b0 + 5), .inl (cI, 8, .inl mother))]
def rm_X9_takesOther : Room := { frames := 0, cells := 0, slots := 0, locals := 0 }
theorem kX9_takesOther : KV yX9_takesOther cX9_takesOther 3 none 1 := ⟨wq_335, wq_5, wq_333, wq_334, by decide +kernel⟩
def B_X9_takesOther_14 (v1 : Int32) (mnow : Nat → Int32) (motherLong : Int32) (K : Int32 → (Nat → Int32) → Prop) (rc : Int32 → (Nat → Int32) → Prop) (v2 : Int32) (mother : Nat → Int32) : Prop :=
  (motherLong ≤ v2 → K v2 mother) ∧ (¬ motherLong ≤ v2 → (vp_in (((13 : Int32) + ((8 : Int32) * v1)) + v2) 193 ∧ (vp_in v2 8 ∧ (rc (v2 + (1 : Int32)) (upd mother (Int32.toNatClampNeg v2) (mnow (Int32.toNatClampNeg (((13 : Int32) + ((8 : Int32) * v1)) + v2))))))))
def P_X9_takesOther_14 (v1 : Int32) (mnow : Nat → Int32) (motherLong : Int32) (K : Int32 → (Nat → Int32) → Prop) : Nat → Int32 → (Nat → Int32) → Prop
  | 0 => fun _ _ => False
  | n + 1 => fun v2 mother => B_X9_takesOther_14 v1 mnow motherLong K (P_X9_takesOther_14 v1 mnow motherLong K n) v2 mother
def P_X9_takesOther (x1 : Int32) (mnow : Nat → Int32) (mundoMany : Int32) (mtokens : Int32) (mother : Nat → Int32) (moneLong : Int32) (motherLong : Int32) (medits : Int32) (mgroups : Int32) (post : (Nat → Int32) → Int32 → Prop) : Prop :=
  vp_in ((1 : Int32) + x1) 193 ∧ (∃ n : Nat, P_X9_takesOther_14 x1 mnow (mnow (Int32.toNatClampNeg ((1 : Int32) + x1))) (fun w2_1 mother_1 => post mother_1 (mnow (Int32.toNatClampNeg ((1 : Int32) + x1)))) n (0 : Int32) mother)
set_option maxHeartbeats 4000000 in
set_option maxRecDepth 100000 in
theorem L_X9_takesOther_14 {l : Launch} {D : va_G} {cI cS cT : ClassId} {ad : Nat → Nat} {b0 : Nat} {E : CE} {v1 : Int32} {mnow : Nat → Int32} {mundoMany : Int32} {mtokens : Int32} {moneLong : Int32} {motherLong : Int32} {medits : Int32} {mgroups : Int32} {post : (Nat → Int32) → Int32 → Prop} (hC : Cx l D (TY cI cS cT) E rm_X9_takesOther cX9_takesOther RX9) (hR : RetV D E (fun w => ∃ (u_mother : Nat → Int32) (u_motherLong : Int32), w = (Wd_X9_takesOther cI cS cT ad b0 mnow mundoMany mtokens u_mother moneLong u_motherLong medits mgroups) ∧ post u_mother u_motherLong) 0 0) (hn : E.nL = 3) (K : Int32 → (Nat → Int32) → Prop) (hK : ∀ (v2 : Int32) (mother : Nat → Int32), K v2 mother → G l D E 0 0 (Wd_X9_takesOther cI cS cT ad b0 mnow mundoMany mtokens mother moneLong motherLong medits mgroups) [(2, .int v2), (0, .ref (ad b0)), (1, .int v1)] 48 []) : ∀ (n : Nat) (v2 : Int32) (mother : Nat → Int32), P_X9_takesOther_14 v1 mnow motherLong K n v2 mother → G l D E 0 0 (Wd_X9_takesOther cI cS cT ad b0 mnow mundoMany mtokens mother moneLong motherLong medits mgroups) [(2, .int v2), (0, .ref (ad b0)), (1, .int v1)] 14 [] := by
  intro n
  induction n with
  | zero => exact fun _ _ h => h.elim
  | succ n ih =>
    intro v2 mother h
    replace h : B_X9_takesOther_14 v1 mnow motherLong K (P_X9_takesOther_14 v1 mnow motherLong K n) v2 mother := h
    unfold B_X9_takesOther_14 at h
    refine g_iload_n 14 0 hC dX9_takesOther_14 rfl ?_
    refine g_aload_n 15 1 hC dX9_takesOther_15 rfl ?_
    refine g_get 16 0 8 hC inlX9 wq_336 dX9_takesOther_16 rfl rfl (by decide) rfl ?_
    refine g_icmp_ge 19 48 hC dX9_takesOther_19 (by decide) (fun hc => ?_) (fun hc => ?_)
    · replace h := h.1 hc
      refine G.sub [0, 1, 2] rfl ?_
      exact hK v2 mother h
    · replace h := h.2 hc
      refine g_aload_n 22 1 hC dX9_takesOther_22 rfl ?_
      refine g_get 23 0 6 hC inlX9 wq_108 dX9_takesOther_23 rfl rfl (by decide) rfl ?_
      refine g_iload_n 26 0 hC dX9_takesOther_26 rfl ?_
      refine g_aload_n 27 1 hC dX9_takesOther_27 rfl ?_
      refine g_get 28 0 0 hC inlX9 wq_104 dX9_takesOther_28 rfl rfl (by decide) rfl ?_
      refine g_bipush (v := (13 : Int32)) 31 hC dX9_takesOther_31 (by decide) ?_
      refine g_bipush (v := (8 : Int32)) 33 hC dX9_takesOther_33 (by decide) ?_
      refine g_iload_n 35 2 hC dX9_takesOther_35 rfl ?_
      refine g_imul 36 hC dX9_takesOther_36 ?_
      refine g_iadd 37 hC dX9_takesOther_37 ?_
      refine g_iload_n 38 0 hC dX9_takesOther_38 rfl ?_
      refine g_iadd 39 hC dX9_takesOther_39 ?_
      obtain ⟨hj, h⟩ := h
      refine g_iald 40 1 hC dX9_takesOther_40 rfl rfl hj ?_
      obtain ⟨hj, h⟩ := h
      refine g_iast 41 2 (Wd_X9_takesOther cI cS cT ad b0 mnow mundoMany mtokens (upd mother (Int32.toNatClampNeg v2) (mnow (Int32.toNatClampNeg (((13 : Int32) + ((8 : Int32) * v1)) + v2)))) moneLong motherLong medits mgroups) hC dX9_takesOther_41 rfl rfl hj rfl ?_
      refine g_iinc (v := (1 : Int32)) 42 0 [(2, .int (v2 + (1 : Int32))), (0, .ref (ad b0)), (1, .int v1)] hC dX9_takesOther_42 rfl (by decide) (by rw [hn]; decide) rfl ?_
      refine g_goto 45 14 hC dX9_takesOther_45 (by decide) ?_
      refine G.sub [0, 1, 2] rfl ?_
      exact ih _ _ h
set_option maxHeartbeats 4000000 in
set_option maxRecDepth 100000 in
theorem c_X9_takesOther (l : Launch) (D : va_G) (cI cS cT : ClassId) (ad : Nat → Nat) (b0 : Nat) (x1 : Int32) (mnow : Nat → Int32) (mundoMany : Int32) (mtokens : Int32) (mother : Nat → Int32) (moneLong : Int32) (motherLong : Int32) (medits : Int32) (mgroups : Int32) (post : (Nat → Int32) → Int32 → Prop) (h : P_X9_takesOther x1 mnow mundoMany mtokens mother moneLong motherLong medits mgroups post) : MV l D (TY cI cS cT) yX9_takesOther cX9_takesOther 3 rm_X9_takesOther [.ref (ad b0), .int x1] (Wd_X9_takesOther cI cS cT ad b0 mnow mundoMany mtokens mother moneLong motherLong medits mgroups) (fun w => ∃ (u_mother : Nat → Int32) (u_motherLong : Int32), w = (Wd_X9_takesOther cI cS cT ad b0 mnow mundoMany mtokens u_mother moneLong u_motherLong medits mgroups) ∧ post u_mother u_motherLong) := by
  refine MV.of (by decide) (Nat.le_of_ble_eq_true rfl) (fun E hC hR hn => ?_)
  replace hC : Cx l D (TY cI cS cT) E rm_X9_takesOther cX9_takesOther RX9 := hC
  replace hR : RetV D E (fun w => ∃ (u_mother : Nat → Int32) (u_motherLong : Int32), w = (Wd_X9_takesOther cI cS cT ad b0 mnow mundoMany mtokens u_mother moneLong u_motherLong medits mgroups) ∧ post u_mother u_motherLong) 0 0 := hR
  unfold P_X9_takesOther at h
  change G l D E 0 0 _ [(0, .ref (ad b0)), (1, .int x1)] 0 []
  refine g_aload_n 0 0 hC dX9_takesOther_0 rfl ?_
  refine g_aload_n 1 0 hC dX9_takesOther_1 rfl ?_
  refine g_get 2 0 0 hC inlX9 wq_104 dX9_takesOther_2 rfl rfl (by decide) rfl ?_
  refine g_iconst (v := (1 : Int32)) 5 hC dX9_takesOther_5 (by decide) ?_
  refine g_iload_n 6 1 hC dX9_takesOther_6 rfl ?_
  refine g_iadd 7 hC dX9_takesOther_7 ?_
  obtain ⟨hj, h⟩ := h
  refine g_iald 8 1 hC dX9_takesOther_8 rfl rfl hj ?_
  refine g_put 9 0 8 (Wd_X9_takesOther cI cS cT ad b0 mnow mundoMany mtokens mother moneLong (mnow (Int32.toNatClampNeg ((1 : Int32) + x1))) medits mgroups) hC inlX9 tyX9_ok nmX9 wq_336 dX9_takesOther_9 rfl rfl (by decide) rfl rfl (Nat.le_of_ble_eq_true rfl) rfl ?_
  refine g_iconst (v := (0 : Int32)) 12 hC dX9_takesOther_12 (by decide) ?_
  refine g_istore_n 13 [(2, .int (0 : Int32)), (0, .ref (ad b0)), (1, .int x1)] hC dX9_takesOther_13 (by rw [hn]; decide) rfl ?_
  obtain ⟨n, h⟩ := h
  refine L_X9_takesOther_14 hC hR hn _ (fun w2_1 mother_1 h => ?_) n _ _ h
  exact g_vret 48 hC hR dX9_takesOther_48 ⟨mother_1, (mnow (Int32.toNatClampNeg ((1 : Int32) + x1))), rfl, h⟩

/-! ===== ProverbCollectionModel.exchange(II)I ===== -/
def Wd_X9_exchange (cI cS cT : ClassId) (ad : Nat → Nat) (b0 : Nat) (mnow : Nat → Int32) (mundoMany : Int32) (mtokens : Int32) (moneLong : Int32) (motherLong : Int32) (medits : Int32) (mgroups : Int32) : va_W := [(ad b0, .inr (9, [.ref (ad (b0 + 1)), .ref (ad (b0 + 2)), .int mundoMany, .int mtokens, .ref (ad (b0 + 3)), .ref (ad (b0 + 4)), .ref (ad (b0 + 5)), .int moneLong, .int motherLong, .ref (ad (b0 + 6)), .int medits, .ref (ad (b0 + 7)), .ref (ad (b0 + 8)), .ref (ad (b0 + 9)), .ref (ad (b0 + 10)), .int mgroups, .ref (ad (b0 + 11)), .ref (ad (b0 + 12))])), (ad (b0 + 1), .inl (cI, 193, .inl mnow))]
def rm_X9_exchange : Room := { frames := 0, cells := 0, slots := 0, locals := 0 }
theorem kX9_exchange : KV yX9_exchange cX9_exchange 3 (some .int) 2 := ⟨wq_356, wq_5, wq_354, wq_355, by decide +kernel⟩
def P_X9_exchange (x1 : Int32) (x2 : Int32) (mnow : Nat → Int32) (mundoMany : Int32) (mtokens : Int32) (moneLong : Int32) (motherLong : Int32) (medits : Int32) (mgroups : Int32) (post : Int32 → Prop) : Prop :=
  (¬ x1 = x2 → ((¬ (x1 / (4 : Int32)) = (x2 / (4 : Int32)) → post (mnow (Int32.toNatClampNeg (189 : Int32)))) ∧ ((x1 / (4 : Int32)) = (x2 / (4 : Int32)) → post (mnow (Int32.toNatClampNeg (190 : Int32)))))) ∧ (x1 = x2 → post (0 : Int32))
set_option maxHeartbeats 4000000 in
set_option maxRecDepth 100000 in
theorem c_X9_exchange (l : Launch) (D : va_G) (cI cS cT : ClassId) (ad : Nat → Nat) (b0 : Nat) (x1 : Int32) (x2 : Int32) (mnow : Nat → Int32) (mundoMany : Int32) (mtokens : Int32) (moneLong : Int32) (motherLong : Int32) (medits : Int32) (mgroups : Int32) (post : Int32 → Prop) (h : P_X9_exchange x1 x2 mnow mundoMany mtokens moneLong motherLong medits mgroups post) : MI l D (TY cI cS cT) yX9_exchange cX9_exchange 3 (some .int) rm_X9_exchange [.ref (ad b0), .int x1, .int x2] (Wd_X9_exchange cI cS cT ad b0 mnow mundoMany mtokens moneLong motherLong medits mgroups) (fun (r : Int32) w => w = (Wd_X9_exchange cI cS cT ad b0 mnow mundoMany mtokens moneLong motherLong medits mgroups) ∧ post r) := by
  refine MI.of (by decide) (Nat.le_of_ble_eq_true rfl) (fun E hC hR hn => ?_)
  replace hC : Cx l D (TY cI cS cT) E rm_X9_exchange cX9_exchange RX9 := hC
  replace hR : RetI D E (fun (r : Int32) w => w = (Wd_X9_exchange cI cS cT ad b0 mnow mundoMany mtokens moneLong motherLong medits mgroups) ∧ post r) 0 0 (some .int) := hR
  unfold P_X9_exchange at h
  change G l D E 0 0 _ [(0, .ref (ad b0)), (1, .int x1), (2, .int x2)] 0 []
  refine g_iload_n 0 1 hC dX9_exchange_0 rfl ?_
  refine g_iload_n 1 2 hC dX9_exchange_1 rfl ?_
  refine g_icmp_ne 2 9 hC dX9_exchange_2 (by decide) (fun hc => ?_) (fun hc => ?_)
  · replace h := h.1 hc
    refine g_iload_n 9 1 hC dX9_exchange_9 rfl ?_
    refine g_iconst (v := (4 : Int32)) 10 hC dX9_exchange_10 (by decide) ?_
    refine g_idiv 11 hC dX9_exchange_11 (by decide) ?_
    refine g_iload_n 12 2 hC dX9_exchange_12 rfl ?_
    refine g_iconst (v := (4 : Int32)) 13 hC dX9_exchange_13 (by decide) ?_
    refine g_idiv 14 hC dX9_exchange_14 (by decide) ?_
    refine g_icmp_ne 15 29 hC dX9_exchange_15 (by decide) (fun hc => ?_) (fun hc => ?_)
    · replace h := h.1 hc
      refine g_aload_n 29 0 hC dX9_exchange_29 rfl ?_
      refine g_get 30 0 0 hC inlX9 wq_104 dX9_exchange_30 rfl rfl (by decide) rfl ?_
      refine g_sipush (v := (189 : Int32)) 33 hC dX9_exchange_33 (by decide) ?_
      refine g_iald 36 1 hC dX9_exchange_36 rfl rfl (by unfold vp_in; decide) ?_
      exact g_iret 37 hC hR dX9_exchange_37 ⟨rfl, h⟩
    · replace h := h.2 hc
      refine g_aload_n 18 0 hC dX9_exchange_18 rfl ?_
      refine g_get 19 0 0 hC inlX9 wq_104 dX9_exchange_19 rfl rfl (by decide) rfl ?_
      refine g_sipush (v := (190 : Int32)) 22 hC dX9_exchange_22 (by decide) ?_
      refine g_iald 25 1 hC dX9_exchange_25 rfl rfl (by unfold vp_in; decide) ?_
      refine g_goto 26 37 hC dX9_exchange_26 (by decide) ?_
      exact g_iret 37 hC hR dX9_exchange_37 ⟨rfl, h⟩
  · replace h := h.2 hc
    refine g_iconst (v := (0 : Int32)) 5 hC dX9_exchange_5 (by decide) ?_
    refine g_goto 6 37 hC dX9_exchange_6 (by decide) ?_
    exact g_iret 37 hC hR dX9_exchange_37 ⟨rfl, h⟩

/-! ===== ProverbCollectionModel.isCrossed(II)Z ===== -/
def Wd_X9_isCrossed (cI cS cT : ClassId) (ad : Nat → Nat) (b0 : Nat) (mundoMany : Int32) (mtokens : Int32) (mone : Nat → Int32) (mother : Nat → Int32) (moneLong : Int32) (motherLong : Int32) (medits : Int32) (mgroups : Int32) : va_W := [(ad b0, .inr (9, [.ref (ad (b0 + 1)), .ref (ad (b0 + 2)), .int mundoMany, .int mtokens, .ref (ad (b0 + 3)), .ref (ad (b0 + 4)), .ref (ad (b0 + 5)), .int moneLong, .int motherLong, .ref (ad (b0 + 6)), .int medits, .ref (ad (b0 + 7)), .ref (ad (b0 + 8)), .ref (ad (b0 + 9)), .ref (ad (b0 + 10)), .int mgroups, .ref (ad (b0 + 11)), .ref (ad (b0 + 12))])), (ad (b0 + 4), .inl (cI, 8, .inl mone)), (ad (b0 + 5), .inl (cI, 8, .inl mother))]
def rm_X9_isCrossed : Room := { frames := 0, cells := 0, slots := 0, locals := 0 }
theorem kX9_isCrossed : KV yX9_isCrossed cX9_isCrossed 3 (some .boolean) 2 := ⟨wq_348, wq_5, wq_346, wq_347, by decide +kernel⟩
def P_X9_isCrossed (x1 : Int32) (x2 : Int32) (mundoMany : Int32) (mtokens : Int32) (mone : Nat → Int32) (mother : Nat → Int32) (moneLong : Int32) (motherLong : Int32) (medits : Int32) (mgroups : Int32) (post : Int32 → Prop) : Prop :=
  (x1 ≤ (1 : Int32) → post (0 : Int32)) ∧ (¬ x1 ≤ (1 : Int32) → ((x2 ≤ (1 : Int32) → post (0 : Int32)) ∧ (¬ x2 ≤ (1 : Int32) → (vp_in (x1 - (1 : Int32)) 8 ∧ (vp_in (x2 - (2 : Int32)) 8 ∧ ((¬ (mone (Int32.toNatClampNeg (x1 - (1 : Int32)))) = (mother (Int32.toNatClampNeg (x2 - (2 : Int32)))) → post (0 : Int32)) ∧ ((mone (Int32.toNatClampNeg (x1 - (1 : Int32)))) = (mother (Int32.toNatClampNeg (x2 - (2 : Int32)))) → (vp_in (x1 - (2 : Int32)) 8 ∧ (vp_in (x2 - (1 : Int32)) 8 ∧ ((¬ (mone (Int32.toNatClampNeg (x1 - (2 : Int32)))) = (mother (Int32.toNatClampNeg (x2 - (1 : Int32)))) → post (0 : Int32)) ∧ ((mone (Int32.toNatClampNeg (x1 - (2 : Int32)))) = (mother (Int32.toNatClampNeg (x2 - (1 : Int32)))) → post (1 : Int32))))))))))))
set_option maxHeartbeats 4000000 in
set_option maxRecDepth 100000 in
theorem c_X9_isCrossed (l : Launch) (D : va_G) (cI cS cT : ClassId) (ad : Nat → Nat) (b0 : Nat) (x1 : Int32) (x2 : Int32) (mundoMany : Int32) (mtokens : Int32) (mone : Nat → Int32) (mother : Nat → Int32) (moneLong : Int32) (motherLong : Int32) (medits : Int32) (mgroups : Int32) (post : Int32 → Prop) (h : P_X9_isCrossed x1 x2 mundoMany mtokens mone mother moneLong motherLong medits mgroups post) : MI l D (TY cI cS cT) yX9_isCrossed cX9_isCrossed 3 (some .boolean) rm_X9_isCrossed [.ref (ad b0), .int x1, .int x2] (Wd_X9_isCrossed cI cS cT ad b0 mundoMany mtokens mone mother moneLong motherLong medits mgroups) (fun (r : Int32) w => w = (Wd_X9_isCrossed cI cS cT ad b0 mundoMany mtokens mone mother moneLong motherLong medits mgroups) ∧ post r) := by
  refine MI.of (by decide) (Nat.le_of_ble_eq_true rfl) (fun E hC hR hn => ?_)
  replace hC : Cx l D (TY cI cS cT) E rm_X9_isCrossed cX9_isCrossed RX9 := hC
  replace hR : RetI D E (fun (r : Int32) w => w = (Wd_X9_isCrossed cI cS cT ad b0 mundoMany mtokens mone mother moneLong motherLong medits mgroups) ∧ post r) 0 0 (some .boolean) := hR
  unfold P_X9_isCrossed at h
  change G l D E 0 0 _ [(0, .ref (ad b0)), (1, .int x1), (2, .int x2)] 0 []
  refine g_iload_n 0 1 hC dX9_isCrossed_0 rfl ?_
  refine g_iconst (v := (1 : Int32)) 1 hC dX9_isCrossed_1 (by decide) ?_
  refine g_icmp_le 2 52 hC dX9_isCrossed_2 (by decide) (fun hc => ?_) (fun hc => ?_)
  · replace h := h.1 hc
    refine g_iconst (v := (0 : Int32)) 52 hC dX9_isCrossed_52 (by decide) ?_
    exact g_zret 53 hC hR dX9_isCrossed_53 (by decide) ⟨rfl, h⟩
  · replace h := h.2 hc
    refine g_iload_n 5 2 hC dX9_isCrossed_5 rfl ?_
    refine g_iconst (v := (1 : Int32)) 6 hC dX9_isCrossed_6 (by decide) ?_
    refine g_icmp_le 7 52 hC dX9_isCrossed_7 (by decide) (fun hc => ?_) (fun hc => ?_)
    · replace h := h.1 hc
      refine g_iconst (v := (0 : Int32)) 52 hC dX9_isCrossed_52 (by decide) ?_
      exact g_zret 53 hC hR dX9_isCrossed_53 (by decide) ⟨rfl, h⟩
    · replace h := h.2 hc
      refine g_aload_n 10 0 hC dX9_isCrossed_10 rfl ?_
      refine g_get 11 0 5 hC inlX9 wq_107 dX9_isCrossed_11 rfl rfl (by decide) rfl ?_
      refine g_iload_n 14 1 hC dX9_isCrossed_14 rfl ?_
      refine g_iconst (v := (1 : Int32)) 15 hC dX9_isCrossed_15 (by decide) ?_
      refine g_isub 16 hC dX9_isCrossed_16 ?_
      obtain ⟨hj, h⟩ := h
      refine g_iald 17 1 hC dX9_isCrossed_17 rfl rfl hj ?_
      refine g_aload_n 18 0 hC dX9_isCrossed_18 rfl ?_
      refine g_get 19 0 6 hC inlX9 wq_108 dX9_isCrossed_19 rfl rfl (by decide) rfl ?_
      refine g_iload_n 22 2 hC dX9_isCrossed_22 rfl ?_
      refine g_iconst (v := (2 : Int32)) 23 hC dX9_isCrossed_23 (by decide) ?_
      refine g_isub 24 hC dX9_isCrossed_24 ?_
      obtain ⟨hj, h⟩ := h
      refine g_iald 25 2 hC dX9_isCrossed_25 rfl rfl hj ?_
      refine g_icmp_ne 26 52 hC dX9_isCrossed_26 (by decide) (fun hc => ?_) (fun hc => ?_)
      · replace h := h.1 hc
        refine g_iconst (v := (0 : Int32)) 52 hC dX9_isCrossed_52 (by decide) ?_
        exact g_zret 53 hC hR dX9_isCrossed_53 (by decide) ⟨rfl, h⟩
      · replace h := h.2 hc
        refine g_aload_n 29 0 hC dX9_isCrossed_29 rfl ?_
        refine g_get 30 0 5 hC inlX9 wq_107 dX9_isCrossed_30 rfl rfl (by decide) rfl ?_
        refine g_iload_n 33 1 hC dX9_isCrossed_33 rfl ?_
        refine g_iconst (v := (2 : Int32)) 34 hC dX9_isCrossed_34 (by decide) ?_
        refine g_isub 35 hC dX9_isCrossed_35 ?_
        obtain ⟨hj, h⟩ := h
        refine g_iald 36 1 hC dX9_isCrossed_36 rfl rfl hj ?_
        refine g_aload_n 37 0 hC dX9_isCrossed_37 rfl ?_
        refine g_get 38 0 6 hC inlX9 wq_108 dX9_isCrossed_38 rfl rfl (by decide) rfl ?_
        refine g_iload_n 41 2 hC dX9_isCrossed_41 rfl ?_
        refine g_iconst (v := (1 : Int32)) 42 hC dX9_isCrossed_42 (by decide) ?_
        refine g_isub 43 hC dX9_isCrossed_43 ?_
        obtain ⟨hj, h⟩ := h
        refine g_iald 44 2 hC dX9_isCrossed_44 rfl rfl hj ?_
        refine g_icmp_ne 45 52 hC dX9_isCrossed_45 (by decide) (fun hc => ?_) (fun hc => ?_)
        · replace h := h.1 hc
          refine g_iconst (v := (0 : Int32)) 52 hC dX9_isCrossed_52 (by decide) ?_
          exact g_zret 53 hC hR dX9_isCrossed_53 (by decide) ⟨rfl, h⟩
        · replace h := h.2 hc
          refine g_iconst (v := (1 : Int32)) 48 hC dX9_isCrossed_48 (by decide) ?_
          refine g_goto 49 53 hC dX9_isCrossed_49 (by decide) ?_
          exact g_zret 53 hC hR dX9_isCrossed_53 (by decide) ⟨rfl, h⟩

/-! ===== ProverbCollectionModel.by(III)I ===== -/
def Wd_X9_by (cI cS cT : ClassId) (ad : Nat → Nat) (b0 : Nat) (mnow : Nat → Int32) (mundoMany : Int32) (mtokens : Int32) (mone : Nat → Int32) (mother : Nat → Int32) (moneLong : Int32) (motherLong : Int32) (mfar : Nat → Int32) (medits : Int32) (mgroups : Int32) : va_W := [(ad b0, .inr (9, [.ref (ad (b0 + 1)), .ref (ad (b0 + 2)), .int mundoMany, .int mtokens, .ref (ad (b0 + 3)), .ref (ad (b0 + 4)), .ref (ad (b0 + 5)), .int moneLong, .int motherLong, .ref (ad (b0 + 6)), .int medits, .ref (ad (b0 + 7)), .ref (ad (b0 + 8)), .ref (ad (b0 + 9)), .ref (ad (b0 + 10)), .int mgroups, .ref (ad (b0 + 11)), .ref (ad (b0 + 12))])), (ad (b0 + 1), .inl (cI, 193, .inl mnow)), (ad (b0 + 4), .inl (cI, 8, .inl mone)), (ad (b0 + 5), .inl (cI, 8, .inl mother)), (ad (b0 + 6), .inl (cI, 81, .inl mfar))]
def rm_X9_by : Room := { frames := 1, cells := 0, slots := 0, locals := 22 }
theorem kX9_by : KV yX9_by cX9_by 4 (some .int) 3 := ⟨wq_352, wq_5, wq_350, wq_351, by decide +kernel⟩
def P_X9_by (x1 : Int32) (x2 : Int32) (x3 : Int32) (mnow : Nat → Int32) (mundoMany : Int32) (mtokens : Int32) (mone : Nat → Int32) (mother : Nat → Int32) (moneLong : Int32) (motherLong : Int32) (mfar : Nat → Int32) (medits : Int32) (mgroups : Int32) (post : Int32 → Prop) : Prop :=
  (x1 = 1 → (vp_in ((((9 : Int32) * (x2 - (1 : Int32))) + x3) - (1 : Int32)) 81 ∧ (vp_in (x2 - (1 : Int32)) 8 ∧ (vp_in (x3 - (1 : Int32)) 8 ∧ (P_X9_exchange (mone (Int32.toNatClampNeg (x2 - (1 : Int32)))) (mother (Int32.toNatClampNeg (x3 - (1 : Int32)))) mnow mundoMany mtokens moneLong motherLong medits mgroups (fun r1 => post ((mfar (Int32.toNatClampNeg ((((9 : Int32) * (x2 - (1 : Int32))) + x3) - (1 : Int32)))) + r1))))))) ∧ (x1 = 2 → (vp_in (((9 : Int32) * (x2 - (1 : Int32))) + x3) 81 ∧ (post ((mfar (Int32.toNatClampNeg (((9 : Int32) * (x2 - (1 : Int32))) + x3))) + (mnow (Int32.toNatClampNeg (188 : Int32))))))) ∧ (x1 = 3 → (vp_in ((((9 : Int32) * x2) + x3) - (1 : Int32)) 81 ∧ (post ((mfar (Int32.toNatClampNeg ((((9 : Int32) * x2) + x3) - (1 : Int32)))) + (mnow (Int32.toNatClampNeg (188 : Int32))))))) ∧ (¬ x1 = 1 → ¬ x1 = 2 → ¬ x1 = 3 → (vp_in ((((9 : Int32) * (x2 - (2 : Int32))) + x3) - (2 : Int32)) 81 ∧ (post ((mfar (Int32.toNatClampNeg ((((9 : Int32) * (x2 - (2 : Int32))) + x3) - (2 : Int32)))) + (mnow (Int32.toNatClampNeg (191 : Int32)))))))
set_option maxHeartbeats 4000000 in
set_option maxRecDepth 100000 in
theorem c_X9_by (l : Launch) (D : va_G) (cI cS cT : ClassId) (ad : Nat → Nat) (b0 : Nat) (x1 : Int32) (x2 : Int32) (x3 : Int32) (mnow : Nat → Int32) (mundoMany : Int32) (mtokens : Int32) (mone : Nat → Int32) (mother : Nat → Int32) (moneLong : Int32) (motherLong : Int32) (mfar : Nat → Int32) (medits : Int32) (mgroups : Int32) (post : Int32 → Prop) (h : P_X9_by x1 x2 x3 mnow mundoMany mtokens mone mother moneLong motherLong mfar medits mgroups post) : MI l D (TY cI cS cT) yX9_by cX9_by 4 (some .int) rm_X9_by [.ref (ad b0), .int x1, .int x2, .int x3] (Wd_X9_by cI cS cT ad b0 mnow mundoMany mtokens mone mother moneLong motherLong mfar medits mgroups) (fun (r : Int32) w => w = (Wd_X9_by cI cS cT ad b0 mnow mundoMany mtokens mone mother moneLong motherLong mfar medits mgroups) ∧ post r) := by
  refine MI.of (by decide) (Nat.le_of_ble_eq_true rfl) (fun E hC hR hn => ?_)
  replace hC : Cx l D (TY cI cS cT) E rm_X9_by cX9_by RX9 := hC
  replace hR : RetI D E (fun (r : Int32) w => w = (Wd_X9_by cI cS cT ad b0 mnow mundoMany mtokens mone mother moneLong motherLong mfar medits mgroups) ∧ post r) 0 0 (some .int) := hR
  unfold P_X9_by at h
  change G l D E 0 0 _ [(0, .ref (ad b0)), (1, .int x1), (2, .int x2), (3, .int x3)] 0 []
  refine g_iload_n 0 1 hC dX9_by_0 rfl ?_
  by_cases hs1 : x1 = 1
  · replace h := h.1 hs1
    refine g_tswIn (v := 1) (off := 27) 1 28 hC dX9_by_1 hs1 (by decide) (by decide) (by decide) (by decide) ?_
    refine g_aload_n 28 0 hC dX9_by_28 rfl ?_
    refine g_get 29 0 9 hC inlX9 wq_109 dX9_by_29 rfl rfl (by decide) rfl ?_
    refine g_bipush (v := (9 : Int32)) 32 hC dX9_by_32 (by decide) ?_
    refine g_iload_n 34 2 hC dX9_by_34 rfl ?_
    refine g_iconst (v := (1 : Int32)) 35 hC dX9_by_35 (by decide) ?_
    refine g_isub 36 hC dX9_by_36 ?_
    refine g_imul 37 hC dX9_by_37 ?_
    refine g_iload_n 38 3 hC dX9_by_38 rfl ?_
    refine g_iadd 39 hC dX9_by_39 ?_
    refine g_iconst (v := (1 : Int32)) 40 hC dX9_by_40 (by decide) ?_
    refine g_isub 41 hC dX9_by_41 ?_
    obtain ⟨hj, h⟩ := h
    refine g_iald 42 4 hC dX9_by_42 rfl rfl hj ?_
    refine g_aload_n 43 0 hC dX9_by_43 rfl ?_
    refine g_aload_n 44 0 hC dX9_by_44 rfl ?_
    refine g_get 45 0 5 hC inlX9 wq_107 dX9_by_45 rfl rfl (by decide) rfl ?_
    refine g_iload_n 48 2 hC dX9_by_48 rfl ?_
    refine g_iconst (v := (1 : Int32)) 49 hC dX9_by_49 (by decide) ?_
    refine g_isub 50 hC dX9_by_50 ?_
    obtain ⟨hj, h⟩ := h
    refine g_iald 51 2 hC dX9_by_51 rfl rfl hj ?_
    refine g_aload_n 52 0 hC dX9_by_52 rfl ?_
    refine g_get 53 0 6 hC inlX9 wq_108 dX9_by_53 rfl rfl (by decide) rfl ?_
    refine g_iload_n 56 3 hC dX9_by_56 rfl ?_
    refine g_iconst (v := (1 : Int32)) 57 hC dX9_by_57 (by decide) ?_
    refine g_isub 58 hC dX9_by_58 ?_
    obtain ⟨hj, h⟩ := h
    refine g_iald 59 3 hC dX9_by_59 rfl rfl hj ?_
    refine g_cVi (As := [.int (mone (Int32.toNatClampNeg (x2 - (1 : Int32)))), .int (mother (Int32.toNatClampNeg (x3 - (1 : Int32))))]) (rest := [.int (mfar (Int32.toNatClampNeg ((((9 : Int32) * (x2 - (1 : Int32))) + x3) - (1 : Int32))))]) 60 0 [0, 1] hC (c_X9_exchange l D cI cS cT ad b0 (mone (Int32.toNatClampNeg (x2 - (1 : Int32)))) (mother (Int32.toNatClampNeg (x3 - (1 : Int32)))) mnow mundoMany mtokens moneLong motherLong medits mgroups _ h) kX9_exchange wq_353 dX9_by_60 rfl rfl ⟨Nat.le_of_ble_eq_true rfl, Nat.le_of_ble_eq_true rfl⟩ rfl rfl (Nat.zero_le _) (Nat.zero_le _) rfl rfl rfl (Nat.le_of_ble_eq_true rfl) ?_
    rintro r1 _ ⟨rfl, h⟩
    refine ⟨Nat.le_of_ble_eq_true rfl, G.upd [2, 3, 4] (Wd_X9_by cI cS cT ad b0 mnow mundoMany mtokens mone mother moneLong motherLong mfar medits mgroups) rfl rfl rfl rfl rfl ?_⟩
    refine g_iadd 63 hC dX9_by_63 ?_
    exact g_iret 64 hC hR dX9_by_64 ⟨rfl, h⟩
  by_cases hs2 : x1 = 2
  · replace h := h.2.1 hs2
    refine g_tswIn (v := 2) (off := 64) 1 65 hC dX9_by_1 hs2 (by decide) (by decide) (by decide) (by decide) ?_
    refine g_aload_n 65 0 hC dX9_by_65 rfl ?_
    refine g_get 66 0 9 hC inlX9 wq_109 dX9_by_66 rfl rfl (by decide) rfl ?_
    refine g_bipush (v := (9 : Int32)) 69 hC dX9_by_69 (by decide) ?_
    refine g_iload_n 71 2 hC dX9_by_71 rfl ?_
    refine g_iconst (v := (1 : Int32)) 72 hC dX9_by_72 (by decide) ?_
    refine g_isub 73 hC dX9_by_73 ?_
    refine g_imul 74 hC dX9_by_74 ?_
    refine g_iload_n 75 3 hC dX9_by_75 rfl ?_
    refine g_iadd 76 hC dX9_by_76 ?_
    obtain ⟨hj, h⟩ := h
    refine g_iald 77 4 hC dX9_by_77 rfl rfl hj ?_
    refine g_aload_n 78 0 hC dX9_by_78 rfl ?_
    refine g_get 79 0 0 hC inlX9 wq_104 dX9_by_79 rfl rfl (by decide) rfl ?_
    refine g_sipush (v := (188 : Int32)) 82 hC dX9_by_82 (by decide) ?_
    refine g_iald 85 1 hC dX9_by_85 rfl rfl (by unfold vp_in; decide) ?_
    refine g_iadd 86 hC dX9_by_86 ?_
    exact g_iret 87 hC hR dX9_by_87 ⟨rfl, h⟩
  by_cases hs3 : x1 = 3
  · replace h := h.2.2.1 hs3
    refine g_tswIn (v := 3) (off := 87) 1 88 hC dX9_by_1 hs3 (by decide) (by decide) (by decide) (by decide) ?_
    refine g_aload_n 88 0 hC dX9_by_88 rfl ?_
    refine g_get 89 0 9 hC inlX9 wq_109 dX9_by_89 rfl rfl (by decide) rfl ?_
    refine g_bipush (v := (9 : Int32)) 92 hC dX9_by_92 (by decide) ?_
    refine g_iload_n 94 2 hC dX9_by_94 rfl ?_
    refine g_imul 95 hC dX9_by_95 ?_
    refine g_iload_n 96 3 hC dX9_by_96 rfl ?_
    refine g_iadd 97 hC dX9_by_97 ?_
    refine g_iconst (v := (1 : Int32)) 98 hC dX9_by_98 (by decide) ?_
    refine g_isub 99 hC dX9_by_99 ?_
    obtain ⟨hj, h⟩ := h
    refine g_iald 100 4 hC dX9_by_100 rfl rfl hj ?_
    refine g_aload_n 101 0 hC dX9_by_101 rfl ?_
    refine g_get 102 0 0 hC inlX9 wq_104 dX9_by_102 rfl rfl (by decide) rfl ?_
    refine g_sipush (v := (188 : Int32)) 105 hC dX9_by_105 (by decide) ?_
    refine g_iald 108 1 hC dX9_by_108 rfl rfl (by unfold vp_in; decide) ?_
    refine g_iadd 109 hC dX9_by_109 ?_
    exact g_iret 110 hC hR dX9_by_110 ⟨rfl, h⟩
  replace h := h.2.2.2 hs1 hs2 hs3
  refine g_tswOut 1 111 hC dX9_by_1 (by have q1 := lv_neT hs1 (a := 1) (by decide); have q2 := lv_neT hs2 (a := 2) (by decide); have q3 := lv_neT hs3 (a := 3) (by decide); omega) (by decide) ?_
  refine g_aload_n 111 0 hC dX9_by_111 rfl ?_
  refine g_get 112 0 9 hC inlX9 wq_109 dX9_by_112 rfl rfl (by decide) rfl ?_
  refine g_bipush (v := (9 : Int32)) 115 hC dX9_by_115 (by decide) ?_
  refine g_iload_n 117 2 hC dX9_by_117 rfl ?_
  refine g_iconst (v := (2 : Int32)) 118 hC dX9_by_118 (by decide) ?_
  refine g_isub 119 hC dX9_by_119 ?_
  refine g_imul 120 hC dX9_by_120 ?_
  refine g_iload_n 121 3 hC dX9_by_121 rfl ?_
  refine g_iadd 122 hC dX9_by_122 ?_
  refine g_iconst (v := (2 : Int32)) 123 hC dX9_by_123 (by decide) ?_
  refine g_isub 124 hC dX9_by_124 ?_
  obtain ⟨hj, h⟩ := h
  refine g_iald 125 4 hC dX9_by_125 rfl rfl hj ?_
  refine g_aload_n 126 0 hC dX9_by_126 rfl ?_
  refine g_get 127 0 0 hC inlX9 wq_104 dX9_by_127 rfl rfl (by decide) rfl ?_
  refine g_sipush (v := (191 : Int32)) 130 hC dX9_by_130 (by decide) ?_
  refine g_iald 133 1 hC dX9_by_133 rfl rfl (by unfold vp_in; decide) ?_
  refine g_iadd 134 hC dX9_by_134 ?_
  exact g_iret 135 hC hR dX9_by_135 ⟨rfl, h⟩

/-! ===== ProverbCollectionModel.isStep(III)Z ===== -/
def Wd_X9_isStep (cI cS cT : ClassId) (ad : Nat → Nat) (b0 : Nat) (mundoMany : Int32) (mtokens : Int32) (mone : Nat → Int32) (mother : Nat → Int32) (moneLong : Int32) (motherLong : Int32) (medits : Int32) (mgroups : Int32) : va_W := [(ad b0, .inr (9, [.ref (ad (b0 + 1)), .ref (ad (b0 + 2)), .int mundoMany, .int mtokens, .ref (ad (b0 + 3)), .ref (ad (b0 + 4)), .ref (ad (b0 + 5)), .int moneLong, .int motherLong, .ref (ad (b0 + 6)), .int medits, .ref (ad (b0 + 7)), .ref (ad (b0 + 8)), .ref (ad (b0 + 9)), .ref (ad (b0 + 10)), .int mgroups, .ref (ad (b0 + 11)), .ref (ad (b0 + 12))])), (ad (b0 + 4), .inl (cI, 8, .inl mone)), (ad (b0 + 5), .inl (cI, 8, .inl mother))]
def rm_X9_isStep : Room := { frames := 1, cells := 0, slots := 0, locals := 22 }
theorem kX9_isStep : KV yX9_isStep cX9_isStep 4 (some .boolean) 3 := ⟨wq_344, wq_5, wq_342, wq_343, by decide +kernel⟩
def P_X9_isStep (x1 : Int32) (x2 : Int32) (x3 : Int32) (mundoMany : Int32) (mtokens : Int32) (mone : Nat → Int32) (mother : Nat → Int32) (moneLong : Int32) (motherLong : Int32) (medits : Int32) (mgroups : Int32) (post : Int32 → Prop) : Prop :=
  (¬ x1 = (1 : Int32) → ((¬ x1 = (2 : Int32) → ((¬ x1 = (3 : Int32) → (P_X9_isCrossed x2 x3 mundoMany mtokens mone mother moneLong motherLong medits mgroups (fun r1 => (r1 = 0 ∨ r1 = 1) ∧ post r1))) ∧ (x1 = (3 : Int32) → ((x3 ≤ 0 → post (0 : Int32)) ∧ (¬ x3 ≤ 0 → post (1 : Int32)))))) ∧ (x1 = (2 : Int32) → ((x2 ≤ 0 → post (0 : Int32)) ∧ (¬ x2 ≤ 0 → post (1 : Int32)))))) ∧ (x1 = (1 : Int32) → ((x2 ≤ 0 → post (0 : Int32)) ∧ (¬ x2 ≤ 0 → ((x3 ≤ 0 → post (0 : Int32)) ∧ (¬ x3 ≤ 0 → post (1 : Int32))))))
set_option maxHeartbeats 4000000 in
set_option maxRecDepth 100000 in
theorem c_X9_isStep (l : Launch) (D : va_G) (cI cS cT : ClassId) (ad : Nat → Nat) (b0 : Nat) (x1 : Int32) (x2 : Int32) (x3 : Int32) (mundoMany : Int32) (mtokens : Int32) (mone : Nat → Int32) (mother : Nat → Int32) (moneLong : Int32) (motherLong : Int32) (medits : Int32) (mgroups : Int32) (post : Int32 → Prop) (h : P_X9_isStep x1 x2 x3 mundoMany mtokens mone mother moneLong motherLong medits mgroups post) : MI l D (TY cI cS cT) yX9_isStep cX9_isStep 4 (some .boolean) rm_X9_isStep [.ref (ad b0), .int x1, .int x2, .int x3] (Wd_X9_isStep cI cS cT ad b0 mundoMany mtokens mone mother moneLong motherLong medits mgroups) (fun (r : Int32) w => w = (Wd_X9_isStep cI cS cT ad b0 mundoMany mtokens mone mother moneLong motherLong medits mgroups) ∧ post r) := by
  refine MI.of (by decide) (Nat.le_of_ble_eq_true rfl) (fun E hC hR hn => ?_)
  replace hC : Cx l D (TY cI cS cT) E rm_X9_isStep cX9_isStep RX9 := hC
  replace hR : RetI D E (fun (r : Int32) w => w = (Wd_X9_isStep cI cS cT ad b0 mundoMany mtokens mone mother moneLong motherLong medits mgroups) ∧ post r) 0 0 (some .boolean) := hR
  unfold P_X9_isStep at h
  change G l D E 0 0 _ [(0, .ref (ad b0)), (1, .int x1), (2, .int x2), (3, .int x3)] 0 []
  refine g_iload_n 0 1 hC dX9_isStep_0 rfl ?_
  refine g_iconst (v := (1 : Int32)) 1 hC dX9_isStep_1 (by decide) ?_
  refine g_icmp_ne 2 21 hC dX9_isStep_2 (by decide) (fun hc => ?_) (fun hc => ?_)
  · replace h := h.1 hc
    refine g_iload_n 21 1 hC dX9_isStep_21 rfl ?_
    refine g_iconst (v := (2 : Int32)) 22 hC dX9_isStep_22 (by decide) ?_
    refine g_icmp_ne 23 38 hC dX9_isStep_23 (by decide) (fun hc => ?_) (fun hc => ?_)
    · replace h := h.1 hc
      refine g_iload_n 38 1 hC dX9_isStep_38 rfl ?_
      refine g_iconst (v := (3 : Int32)) 39 hC dX9_isStep_39 (by decide) ?_
      refine g_icmp_ne 40 55 hC dX9_isStep_40 (by decide) (fun hc => ?_) (fun hc => ?_)
      · replace h := h.1 hc
        refine g_aload_n 55 0 hC dX9_isStep_55 rfl ?_
        refine g_iload_n 56 2 hC dX9_isStep_56 rfl ?_
        refine g_iload_n 57 3 hC dX9_isStep_57 rfl ?_
        refine g_cVi (As := [.int x2, .int x3]) (rest := []) 58 0 [0, 1, 2] hC (c_X9_isCrossed l D cI cS cT ad b0 x2 x3 mundoMany mtokens mone mother moneLong motherLong medits mgroups _ h) kX9_isCrossed wq_345 dX9_isStep_58 rfl rfl ⟨Nat.le_of_ble_eq_true rfl, Nat.le_of_ble_eq_true rfl⟩ rfl rfl (Nat.zero_le _) (Nat.zero_le _) rfl rfl rfl (Nat.le_of_ble_eq_true rfl) ?_
        rintro r1 _ ⟨rfl, h⟩
        refine ⟨Nat.le_of_ble_eq_true rfl, G.upd [] (Wd_X9_isStep cI cS cT ad b0 mundoMany mtokens mone mother moneLong motherLong medits mgroups) rfl rfl rfl rfl rfl ?_⟩
        obtain ⟨hz, h⟩ := h
        exact g_zret 61 hC hR dX9_isStep_61 hz ⟨rfl, h⟩
      · replace h := h.2 hc
        refine g_iload_n 43 3 hC dX9_isStep_43 rfl ?_
        refine g_if_le 44 51 hC dX9_isStep_44 (by decide) (fun hc => ?_) (fun hc => ?_)
        · replace h := h.1 hc
          refine g_iconst (v := (0 : Int32)) 51 hC dX9_isStep_51 (by decide) ?_
          refine g_goto 52 61 hC dX9_isStep_52 (by decide) ?_
          exact g_zret 61 hC hR dX9_isStep_61 (by decide) ⟨rfl, h⟩
        · replace h := h.2 hc
          refine g_iconst (v := (1 : Int32)) 47 hC dX9_isStep_47 (by decide) ?_
          refine g_goto 48 61 hC dX9_isStep_48 (by decide) ?_
          exact g_zret 61 hC hR dX9_isStep_61 (by decide) ⟨rfl, h⟩
    · replace h := h.2 hc
      refine g_iload_n 26 2 hC dX9_isStep_26 rfl ?_
      refine g_if_le 27 34 hC dX9_isStep_27 (by decide) (fun hc => ?_) (fun hc => ?_)
      · replace h := h.1 hc
        refine g_iconst (v := (0 : Int32)) 34 hC dX9_isStep_34 (by decide) ?_
        refine g_goto 35 61 hC dX9_isStep_35 (by decide) ?_
        exact g_zret 61 hC hR dX9_isStep_61 (by decide) ⟨rfl, h⟩
      · replace h := h.2 hc
        refine g_iconst (v := (1 : Int32)) 30 hC dX9_isStep_30 (by decide) ?_
        refine g_goto 31 61 hC dX9_isStep_31 (by decide) ?_
        exact g_zret 61 hC hR dX9_isStep_61 (by decide) ⟨rfl, h⟩
  · replace h := h.2 hc
    refine g_iload_n 5 2 hC dX9_isStep_5 rfl ?_
    refine g_if_le 6 17 hC dX9_isStep_6 (by decide) (fun hc => ?_) (fun hc => ?_)
    · replace h := h.1 hc
      refine g_iconst (v := (0 : Int32)) 17 hC dX9_isStep_17 (by decide) ?_
      refine g_goto 18 61 hC dX9_isStep_18 (by decide) ?_
      exact g_zret 61 hC hR dX9_isStep_61 (by decide) ⟨rfl, h⟩
    · replace h := h.2 hc
      refine g_iload_n 9 3 hC dX9_isStep_9 rfl ?_
      refine g_if_le 10 17 hC dX9_isStep_10 (by decide) (fun hc => ?_) (fun hc => ?_)
      · replace h := h.1 hc
        refine g_iconst (v := (0 : Int32)) 17 hC dX9_isStep_17 (by decide) ?_
        refine g_goto 18 61 hC dX9_isStep_18 (by decide) ?_
        exact g_zret 61 hC hR dX9_isStep_61 (by decide) ⟨rfl, h⟩
      · replace h := h.2 hc
        refine g_iconst (v := (1 : Int32)) 13 hC dX9_isStep_13 (by decide) ?_
        refine g_goto 14 61 hC dX9_isStep_14 (by decide) ?_
        exact g_zret 61 hC hR dX9_isStep_61 (by decide) ⟨rfl, h⟩

/-! ===== ProverbCollectionModel.lays()I ===== -/
def Wd_X9_lays (cI cS cT : ClassId) (ad : Nat → Nat) (b0 : Nat) (mnow : Nat → Int32) (mundoMany : Int32) (mtokens : Int32) (mone : Nat → Int32) (mother : Nat → Int32) (moneLong : Int32) (motherLong : Int32) (mfar : Nat → Int32) (medits : Int32) (mgroups : Int32) : va_W := [(ad b0, .inr (9, [.ref (ad (b0 + 1)), .ref (ad (b0 + 2)), .int mundoMany, .int mtokens, .ref (ad (b0 + 3)), .ref (ad (b0 + 4)), .ref (ad (b0 + 5)), .int moneLong, .int motherLong, .ref (ad (b0 + 6)), .int medits, .ref (ad (b0 + 7)), .ref (ad (b0 + 8)), .ref (ad (b0 + 9)), .ref (ad (b0 + 10)), .int mgroups, .ref (ad (b0 + 11)), .ref (ad (b0 + 12))])), (ad (b0 + 1), .inl (cI, 193, .inl mnow)), (ad (b0 + 4), .inl (cI, 8, .inl mone)), (ad (b0 + 5), .inl (cI, 8, .inl mother)), (ad (b0 + 6), .inl (cI, 81, .inl mfar))]
def rm_X9_lays : Room := { frames := 2, cells := 0, slots := 0, locals := 45 }
theorem kX9_lays : KV yX9_lays cX9_lays 5 (some .int) 0 := ⟨wq_340, wq_5, wq_338, wq_339, by decide +kernel⟩
def B_X9_lays_37 (v2 : Int32) (v1 : Int32) (mnow : Nat → Int32) (mundoMany : Int32) (mtokens : Int32) (mone : Nat → Int32) (mother : Nat → Int32) (moneLong : Int32) (motherLong : Int32) (mfar : Nat → Int32) (medits : Int32) (mgroups : Int32) (K : Int32 → Int32 → Prop) (rc : Int32 → Int32 → Prop) (v4 : Int32) (v3 : Int32) : Prop :=
  ((5 : Int32) ≤ v4 → K v4 v3) ∧ (¬ (5 : Int32) ≤ v4 → (P_X9_isStep v4 v1 v2 mundoMany mtokens mone mother moneLong motherLong medits mgroups (fun r1 => (r1 = 0 → rc (v4 + (1 : Int32)) v3) ∧ (¬ r1 = 0 → (P_X9_by v4 v1 v2 mnow mundoMany mtokens mone mother moneLong motherLong mfar medits mgroups (fun r2 => (v3 ≤ r2 → rc (v4 + (1 : Int32)) v3) ∧ (¬ v3 ≤ r2 → P_X9_by v4 v1 v2 mnow mundoMany mtokens mone mother moneLong motherLong mfar medits mgroups (fun r3 => rc (v4 + (1 : Int32)) r3))))))))
def P_X9_lays_37 (v2 : Int32) (v1 : Int32) (mnow : Nat → Int32) (mundoMany : Int32) (mtokens : Int32) (mone : Nat → Int32) (mother : Nat → Int32) (moneLong : Int32) (motherLong : Int32) (mfar : Nat → Int32) (medits : Int32) (mgroups : Int32) (K : Int32 → Int32 → Prop) : Nat → Int32 → Int32 → Prop
  | 0 => fun _ _ => False
  | n + 1 => fun v4 v3 => B_X9_lays_37 v2 v1 mnow mundoMany mtokens mone mother moneLong motherLong mfar medits mgroups K (P_X9_lays_37 v2 v1 mnow mundoMany mtokens mone mother moneLong motherLong mfar medits mgroups K n) v4 v3
def B_X9_lays_12 (v1 : Int32) (mnow : Nat → Int32) (mundoMany : Int32) (mtokens : Int32) (mone : Nat → Int32) (mother : Nat → Int32) (moneLong : Int32) (motherLong : Int32) (medits : Int32) (mgroups : Int32) (K : Int32 → (Nat → Int32) → Prop) (rc : Int32 → (Nat → Int32) → Prop) (v2 : Int32) (mfar : Nat → Int32) : Prop :=
  (motherLong < v2 → K v2 mfar) ∧ (¬ motherLong < v2 → ((¬ (v1 + v2) = 0 → (∃ n : Nat, P_X9_lays_37 v2 v1 mnow mundoMany mtokens mone mother moneLong motherLong mfar medits mgroups (fun w4_4 w3_4 => vp_in (((9 : Int32) * v1) + v2) 81 ∧ (rc (v2 + (1 : Int32)) (upd mfar (Int32.toNatClampNeg (((9 : Int32) * v1) + v2)) w3_4))) n (1 : Int32) (10000 : Int32))) ∧ ((v1 + v2) = 0 → (∃ n : Nat, P_X9_lays_37 v2 v1 mnow mundoMany mtokens mone mother moneLong motherLong mfar medits mgroups (fun w4_8 w3_8 => vp_in (((9 : Int32) * v1) + v2) 81 ∧ (rc (v2 + (1 : Int32)) (upd mfar (Int32.toNatClampNeg (((9 : Int32) * v1) + v2)) w3_8))) n (1 : Int32) (0 : Int32)))))
def P_X9_lays_12 (v1 : Int32) (mnow : Nat → Int32) (mundoMany : Int32) (mtokens : Int32) (mone : Nat → Int32) (mother : Nat → Int32) (moneLong : Int32) (motherLong : Int32) (medits : Int32) (mgroups : Int32) (K : Int32 → (Nat → Int32) → Prop) : Nat → Int32 → (Nat → Int32) → Prop
  | 0 => fun _ _ => False
  | n + 1 => fun v2 mfar => B_X9_lays_12 v1 mnow mundoMany mtokens mone mother moneLong motherLong medits mgroups K (P_X9_lays_12 v1 mnow mundoMany mtokens mone mother moneLong motherLong medits mgroups K n) v2 mfar
def B_X9_lays_2 (mnow : Nat → Int32) (mundoMany : Int32) (mtokens : Int32) (mone : Nat → Int32) (mother : Nat → Int32) (moneLong : Int32) (motherLong : Int32) (medits : Int32) (mgroups : Int32) (K : Int32 → (Nat → Int32) → Prop) (rc : Int32 → (Nat → Int32) → Prop) (v1 : Int32) (mfar : Nat → Int32) : Prop :=
  (moneLong < v1 → K v1 mfar) ∧ (¬ moneLong < v1 → (∃ n : Nat, P_X9_lays_12 v1 mnow mundoMany mtokens mone mother moneLong motherLong medits mgroups (fun w2_9 mfar_9 => rc (v1 + (1 : Int32)) mfar_9) n (0 : Int32) mfar))
def P_X9_lays_2 (mnow : Nat → Int32) (mundoMany : Int32) (mtokens : Int32) (mone : Nat → Int32) (mother : Nat → Int32) (moneLong : Int32) (motherLong : Int32) (medits : Int32) (mgroups : Int32) (K : Int32 → (Nat → Int32) → Prop) : Nat → Int32 → (Nat → Int32) → Prop
  | 0 => fun _ _ => False
  | n + 1 => fun v1 mfar => B_X9_lays_2 mnow mundoMany mtokens mone mother moneLong motherLong medits mgroups K (P_X9_lays_2 mnow mundoMany mtokens mone mother moneLong motherLong medits mgroups K n) v1 mfar
def P_X9_lays (mnow : Nat → Int32) (mundoMany : Int32) (mtokens : Int32) (mone : Nat → Int32) (mother : Nat → Int32) (moneLong : Int32) (motherLong : Int32) (mfar : Nat → Int32) (medits : Int32) (mgroups : Int32) (post : Int32 → (Nat → Int32) → Prop) : Prop :=
  ∃ n : Nat, P_X9_lays_2 mnow mundoMany mtokens mone mother moneLong motherLong medits mgroups (fun w1_10 mfar_10 => vp_in (((9 : Int32) * moneLong) + motherLong) 81 ∧ (post (mfar_10 (Int32.toNatClampNeg (((9 : Int32) * moneLong) + motherLong))) mfar_10)) n (0 : Int32) mfar
set_option maxHeartbeats 4000000 in
set_option maxRecDepth 100000 in
theorem L_X9_lays_37 {l : Launch} {D : va_G} {cI cS cT : ClassId} {ad : Nat → Nat} {b0 : Nat} {E : CE} {v2 : Int32} {v1 : Int32} {mnow : Nat → Int32} {mundoMany : Int32} {mtokens : Int32} {mone : Nat → Int32} {mother : Nat → Int32} {moneLong : Int32} {motherLong : Int32} {mfar : Nat → Int32} {medits : Int32} {mgroups : Int32} {post : Int32 → (Nat → Int32) → Prop} (hC : Cx l D (TY cI cS cT) E rm_X9_lays cX9_lays RX9) (hR : RetI D E (fun (r : Int32) w => ∃ (u_mfar : Nat → Int32), w = (Wd_X9_lays cI cS cT ad b0 mnow mundoMany mtokens mone mother moneLong motherLong u_mfar medits mgroups) ∧ post r u_mfar) 0 0 (some .int)) (hn : E.nL = 5) (K : Int32 → Int32 → Prop) (hK : ∀ (v4 : Int32) (v3 : Int32), K v4 v3 → G l D E 0 0 (Wd_X9_lays cI cS cT ad b0 mnow mundoMany mtokens mone mother moneLong motherLong mfar medits mgroups) [(4, .int v4), (3, .int v3), (2, .int v2), (1, .int v1), (0, .ref (ad b0))] 81 []) : ∀ (n : Nat) (v4 : Int32) (v3 : Int32), P_X9_lays_37 v2 v1 mnow mundoMany mtokens mone mother moneLong motherLong mfar medits mgroups K n v4 v3 → G l D E 0 0 (Wd_X9_lays cI cS cT ad b0 mnow mundoMany mtokens mone mother moneLong motherLong mfar medits mgroups) [(4, .int v4), (3, .int v3), (2, .int v2), (1, .int v1), (0, .ref (ad b0))] 37 [] := by
  intro n
  induction n with
  | zero => exact fun _ _ h => h.elim
  | succ n ih =>
    intro v4 v3 h
    replace h : B_X9_lays_37 v2 v1 mnow mundoMany mtokens mone mother moneLong motherLong mfar medits mgroups K (P_X9_lays_37 v2 v1 mnow mundoMany mtokens mone mother moneLong motherLong mfar medits mgroups K n) v4 v3 := h
    unfold B_X9_lays_37 at h
    refine g_iload 37 0 hC dX9_lays_37 rfl ?_
    refine g_iconst (v := (5 : Int32)) 39 hC dX9_lays_39 (by decide) ?_
    refine g_icmp_ge 40 81 hC dX9_lays_40 (by decide) (fun hc => ?_) (fun hc => ?_)
    · replace h := h.1 hc
      refine G.sub [0, 1, 2, 3, 4] rfl ?_
      exact hK v4 v3 h
    · replace h := h.2 hc
      refine g_aload_n 43 4 hC dX9_lays_43 rfl ?_
      refine g_iload 44 0 hC dX9_lays_44 rfl ?_
      refine g_iload_n 46 3 hC dX9_lays_46 rfl ?_
      refine g_iload_n 47 2 hC dX9_lays_47 rfl ?_
      refine g_cVi (As := [.int v4, .int v1, .int v2]) (rest := []) 48 0 [0, 2, 3] hC (c_X9_isStep l D cI cS cT ad b0 v4 v1 v2 mundoMany mtokens mone mother moneLong motherLong medits mgroups _ h) kX9_isStep wq_341 dX9_lays_48 rfl rfl ⟨Nat.le_of_ble_eq_true rfl, Nat.le_of_ble_eq_true rfl⟩ rfl rfl (Nat.zero_le _) (Nat.zero_le _) rfl rfl rfl (Nat.le_of_ble_eq_true rfl) ?_
      rintro r1 _ ⟨rfl, h⟩
      refine ⟨Nat.le_of_ble_eq_true rfl, G.upd [1, 4] (Wd_X9_lays cI cS cT ad b0 mnow mundoMany mtokens mone mother moneLong motherLong mfar medits mgroups) rfl rfl rfl rfl rfl ?_⟩
      refine g_if_eq 51 75 hC dX9_lays_51 (by decide) (fun hc => ?_) (fun hc => ?_)
      · replace h := h.1 hc
        refine g_iinc (v := (1 : Int32)) 75 0 [(4, .int (v4 + (1 : Int32))), (3, .int v3), (2, .int v2), (1, .int v1), (0, .ref (ad b0))] hC dX9_lays_75 rfl (by decide) (by rw [hn]; decide) rfl ?_
        refine g_goto 78 37 hC dX9_lays_78 (by decide) ?_
        refine G.sub [0, 1, 2, 3, 4] rfl ?_
        exact ih _ _ h
      · replace h := h.2 hc
        refine g_aload_n 54 4 hC dX9_lays_54 rfl ?_
        refine g_iload 55 0 hC dX9_lays_55 rfl ?_
        refine g_iload_n 57 3 hC dX9_lays_57 rfl ?_
        refine g_iload_n 58 2 hC dX9_lays_58 rfl ?_
        refine g_cVi (As := [.int v4, .int v1, .int v2]) (rest := []) 59 0 [0, 1, 2, 3, 4] hC (c_X9_by l D cI cS cT ad b0 v4 v1 v2 mnow mundoMany mtokens mone mother moneLong motherLong mfar medits mgroups _ h) kX9_by wq_349 dX9_lays_59 rfl rfl ⟨Nat.le_of_ble_eq_true rfl, Nat.le_of_ble_eq_true rfl⟩ rfl rfl (Nat.zero_le _) (Nat.zero_le _) rfl rfl rfl (Nat.le_of_ble_eq_true rfl) ?_
        rintro r2 _ ⟨rfl, h⟩
        refine ⟨Nat.le_of_ble_eq_true rfl, G.upd [] (Wd_X9_lays cI cS cT ad b0 mnow mundoMany mtokens mone mother moneLong motherLong mfar medits mgroups) rfl rfl rfl rfl rfl ?_⟩
        refine g_iload_n 62 1 hC dX9_lays_62 rfl ?_
        refine g_icmp_ge 63 75 hC dX9_lays_63 (by decide) (fun hc => ?_) (fun hc => ?_)
        · replace h := h.1 hc
          refine g_iinc (v := (1 : Int32)) 75 0 [(4, .int (v4 + (1 : Int32))), (3, .int v3), (2, .int v2), (1, .int v1), (0, .ref (ad b0))] hC dX9_lays_75 rfl (by decide) (by rw [hn]; decide) rfl ?_
          refine g_goto 78 37 hC dX9_lays_78 (by decide) ?_
          refine G.sub [0, 1, 2, 3, 4] rfl ?_
          exact ih _ _ h
        · replace h := h.2 hc
          refine g_aload_n 66 4 hC dX9_lays_66 rfl ?_
          refine g_iload 67 0 hC dX9_lays_67 rfl ?_
          refine g_iload_n 69 3 hC dX9_lays_69 rfl ?_
          refine g_iload_n 70 2 hC dX9_lays_70 rfl ?_
          refine g_cVi (As := [.int v4, .int v1, .int v2]) (rest := []) 71 0 [0, 1, 2, 3, 4] hC (c_X9_by l D cI cS cT ad b0 v4 v1 v2 mnow mundoMany mtokens mone mother moneLong motherLong mfar medits mgroups _ h) kX9_by wq_349 dX9_lays_71 rfl rfl ⟨Nat.le_of_ble_eq_true rfl, Nat.le_of_ble_eq_true rfl⟩ rfl rfl (Nat.zero_le _) (Nat.zero_le _) rfl rfl rfl (Nat.le_of_ble_eq_true rfl) ?_
          rintro r3 _ ⟨rfl, h⟩
          refine ⟨Nat.le_of_ble_eq_true rfl, G.upd [] (Wd_X9_lays cI cS cT ad b0 mnow mundoMany mtokens mone mother moneLong motherLong mfar medits mgroups) rfl rfl rfl rfl rfl ?_⟩
          refine g_istore_n 74 [(3, .int r3), (4, .int v4), (2, .int v2), (1, .int v1), (0, .ref (ad b0))] hC dX9_lays_74 (by rw [hn]; decide) rfl ?_
          refine g_iinc (v := (1 : Int32)) 75 1 [(4, .int (v4 + (1 : Int32))), (3, .int r3), (2, .int v2), (1, .int v1), (0, .ref (ad b0))] hC dX9_lays_75 rfl (by decide) (by rw [hn]; decide) rfl ?_
          refine g_goto 78 37 hC dX9_lays_78 (by decide) ?_
          refine G.sub [0, 1, 2, 3, 4] rfl ?_
          exact ih _ _ h
set_option maxHeartbeats 4000000 in
set_option maxRecDepth 100000 in
theorem L_X9_lays_12 {l : Launch} {D : va_G} {cI cS cT : ClassId} {ad : Nat → Nat} {b0 : Nat} {E : CE} {v1 : Int32} {mnow : Nat → Int32} {mundoMany : Int32} {mtokens : Int32} {mone : Nat → Int32} {mother : Nat → Int32} {moneLong : Int32} {motherLong : Int32} {medits : Int32} {mgroups : Int32} {post : Int32 → (Nat → Int32) → Prop} (hC : Cx l D (TY cI cS cT) E rm_X9_lays cX9_lays RX9) (hR : RetI D E (fun (r : Int32) w => ∃ (u_mfar : Nat → Int32), w = (Wd_X9_lays cI cS cT ad b0 mnow mundoMany mtokens mone mother moneLong motherLong u_mfar medits mgroups) ∧ post r u_mfar) 0 0 (some .int)) (hn : E.nL = 5) (K : Int32 → (Nat → Int32) → Prop) (hK : ∀ (v2 : Int32) (mfar : Nat → Int32), K v2 mfar → G l D E 0 0 (Wd_X9_lays cI cS cT ad b0 mnow mundoMany mtokens mone mother moneLong motherLong mfar medits mgroups) [(2, .int v2), (1, .int v1), (0, .ref (ad b0))] 99 []) : ∀ (n : Nat) (v2 : Int32) (mfar : Nat → Int32), P_X9_lays_12 v1 mnow mundoMany mtokens mone mother moneLong motherLong medits mgroups K n v2 mfar → G l D E 0 0 (Wd_X9_lays cI cS cT ad b0 mnow mundoMany mtokens mone mother moneLong motherLong mfar medits mgroups) [(2, .int v2), (1, .int v1), (0, .ref (ad b0))] 12 [] := by
  intro n
  induction n with
  | zero => exact fun _ _ h => h.elim
  | succ n ih =>
    intro v2 mfar h
    replace h : B_X9_lays_12 v1 mnow mundoMany mtokens mone mother moneLong motherLong medits mgroups K (P_X9_lays_12 v1 mnow mundoMany mtokens mone mother moneLong motherLong medits mgroups K n) v2 mfar := h
    unfold B_X9_lays_12 at h
    refine g_iload_n 12 0 hC dX9_lays_12 rfl ?_
    refine g_aload_n 13 2 hC dX9_lays_13 rfl ?_
    refine g_get 14 0 8 hC inlX9 wq_336 dX9_lays_14 rfl rfl (by decide) rfl ?_
    refine g_icmp_gt 17 99 hC dX9_lays_17 (by decide) (fun hc => ?_) (fun hc => ?_)
    · replace h := h.1 hc
      refine G.sub [0, 1, 2] rfl ?_
      exact hK v2 mfar h
    · replace h := h.2 hc
      refine g_iload_n 20 1 hC dX9_lays_20 rfl ?_
      refine g_iload_n 21 0 hC dX9_lays_21 rfl ?_
      refine g_iadd 22 hC dX9_lays_22 ?_
      refine g_if_ne 23 30 hC dX9_lays_23 (by decide) (fun hc => ?_) (fun hc => ?_)
      · replace h := h.1 hc
        refine g_sipush (v := (10000 : Int32)) 30 hC dX9_lays_30 (by decide) ?_
        refine g_istore_n 33 [(3, .int (10000 : Int32)), (2, .int v2), (1, .int v1), (0, .ref (ad b0))] hC dX9_lays_33 (by rw [hn]; decide) rfl ?_
        refine g_iconst (v := (1 : Int32)) 34 hC dX9_lays_34 (by decide) ?_
        refine g_istore 35 [(4, .int (1 : Int32)), (3, .int (10000 : Int32)), (2, .int v2), (1, .int v1), (0, .ref (ad b0))] hC dX9_lays_35 (by rw [hn]; decide) rfl ?_
        obtain ⟨n, h⟩ := h
        refine L_X9_lays_37 hC hR hn _ (fun w4_4 w3_4 h => ?_) n _ _ h
        refine g_aload_n 81 4 hC dX9_lays_81 rfl ?_
        refine g_get 82 0 9 hC inlX9 wq_109 dX9_lays_82 rfl rfl (by decide) rfl ?_
        refine g_bipush (v := (9 : Int32)) 85 hC dX9_lays_85 (by decide) ?_
        refine g_iload_n 87 3 hC dX9_lays_87 rfl ?_
        refine g_imul 88 hC dX9_lays_88 ?_
        refine g_iload_n 89 2 hC dX9_lays_89 rfl ?_
        refine g_iadd 90 hC dX9_lays_90 ?_
        refine g_iload_n 91 1 hC dX9_lays_91 rfl ?_
        obtain ⟨hj, h⟩ := h
        refine g_iast 92 4 (Wd_X9_lays cI cS cT ad b0 mnow mundoMany mtokens mone mother moneLong motherLong (upd mfar (Int32.toNatClampNeg (((9 : Int32) * v1) + v2)) w3_4) medits mgroups) hC dX9_lays_92 rfl rfl hj rfl ?_
        refine g_iinc (v := (1 : Int32)) 93 2 [(2, .int (v2 + (1 : Int32))), (4, .int w4_4), (3, .int w3_4), (1, .int v1), (0, .ref (ad b0))] hC dX9_lays_93 rfl (by decide) (by rw [hn]; decide) rfl ?_
        refine g_goto 96 12 hC dX9_lays_96 (by decide) ?_
        refine G.sub [0, 3, 4] rfl ?_
        exact ih _ _ h
      · replace h := h.2 hc
        refine g_iconst (v := (0 : Int32)) 26 hC dX9_lays_26 (by decide) ?_
        refine g_goto 27 33 hC dX9_lays_27 (by decide) ?_
        refine g_istore_n 33 [(3, .int (0 : Int32)), (2, .int v2), (1, .int v1), (0, .ref (ad b0))] hC dX9_lays_33 (by rw [hn]; decide) rfl ?_
        refine g_iconst (v := (1 : Int32)) 34 hC dX9_lays_34 (by decide) ?_
        refine g_istore 35 [(4, .int (1 : Int32)), (3, .int (0 : Int32)), (2, .int v2), (1, .int v1), (0, .ref (ad b0))] hC dX9_lays_35 (by rw [hn]; decide) rfl ?_
        obtain ⟨n, h⟩ := h
        refine L_X9_lays_37 hC hR hn _ (fun w4_8 w3_8 h => ?_) n _ _ h
        refine g_aload_n 81 4 hC dX9_lays_81 rfl ?_
        refine g_get 82 0 9 hC inlX9 wq_109 dX9_lays_82 rfl rfl (by decide) rfl ?_
        refine g_bipush (v := (9 : Int32)) 85 hC dX9_lays_85 (by decide) ?_
        refine g_iload_n 87 3 hC dX9_lays_87 rfl ?_
        refine g_imul 88 hC dX9_lays_88 ?_
        refine g_iload_n 89 2 hC dX9_lays_89 rfl ?_
        refine g_iadd 90 hC dX9_lays_90 ?_
        refine g_iload_n 91 1 hC dX9_lays_91 rfl ?_
        obtain ⟨hj, h⟩ := h
        refine g_iast 92 4 (Wd_X9_lays cI cS cT ad b0 mnow mundoMany mtokens mone mother moneLong motherLong (upd mfar (Int32.toNatClampNeg (((9 : Int32) * v1) + v2)) w3_8) medits mgroups) hC dX9_lays_92 rfl rfl hj rfl ?_
        refine g_iinc (v := (1 : Int32)) 93 2 [(2, .int (v2 + (1 : Int32))), (4, .int w4_8), (3, .int w3_8), (1, .int v1), (0, .ref (ad b0))] hC dX9_lays_93 rfl (by decide) (by rw [hn]; decide) rfl ?_
        refine g_goto 96 12 hC dX9_lays_96 (by decide) ?_
        refine G.sub [0, 3, 4] rfl ?_
        exact ih _ _ h
set_option maxHeartbeats 4000000 in
set_option maxRecDepth 100000 in
theorem L_X9_lays_2 {l : Launch} {D : va_G} {cI cS cT : ClassId} {ad : Nat → Nat} {b0 : Nat} {E : CE} {mnow : Nat → Int32} {mundoMany : Int32} {mtokens : Int32} {mone : Nat → Int32} {mother : Nat → Int32} {moneLong : Int32} {motherLong : Int32} {medits : Int32} {mgroups : Int32} {post : Int32 → (Nat → Int32) → Prop} (hC : Cx l D (TY cI cS cT) E rm_X9_lays cX9_lays RX9) (hR : RetI D E (fun (r : Int32) w => ∃ (u_mfar : Nat → Int32), w = (Wd_X9_lays cI cS cT ad b0 mnow mundoMany mtokens mone mother moneLong motherLong u_mfar medits mgroups) ∧ post r u_mfar) 0 0 (some .int)) (hn : E.nL = 5) (K : Int32 → (Nat → Int32) → Prop) (hK : ∀ (v1 : Int32) (mfar : Nat → Int32), K v1 mfar → G l D E 0 0 (Wd_X9_lays cI cS cT ad b0 mnow mundoMany mtokens mone mother moneLong motherLong mfar medits mgroups) [(1, .int v1), (0, .ref (ad b0))] 105 []) : ∀ (n : Nat) (v1 : Int32) (mfar : Nat → Int32), P_X9_lays_2 mnow mundoMany mtokens mone mother moneLong motherLong medits mgroups K n v1 mfar → G l D E 0 0 (Wd_X9_lays cI cS cT ad b0 mnow mundoMany mtokens mone mother moneLong motherLong mfar medits mgroups) [(1, .int v1), (0, .ref (ad b0))] 2 [] := by
  intro n
  induction n with
  | zero => exact fun _ _ h => h.elim
  | succ n ih =>
    intro v1 mfar h
    replace h : B_X9_lays_2 mnow mundoMany mtokens mone mother moneLong motherLong medits mgroups K (P_X9_lays_2 mnow mundoMany mtokens mone mother moneLong motherLong medits mgroups K n) v1 mfar := h
    unfold B_X9_lays_2 at h
    refine g_iload_n 2 0 hC dX9_lays_2 rfl ?_
    refine g_aload_n 3 1 hC dX9_lays_3 rfl ?_
    refine g_get 4 0 7 hC inlX9 wq_331 dX9_lays_4 rfl rfl (by decide) rfl ?_
    refine g_icmp_gt 7 105 hC dX9_lays_7 (by decide) (fun hc => ?_) (fun hc => ?_)
    · replace h := h.1 hc
      refine G.sub [0, 1] rfl ?_
      exact hK v1 mfar h
    · replace h := h.2 hc
      refine g_iconst (v := (0 : Int32)) 10 hC dX9_lays_10 (by decide) ?_
      refine g_istore_n 11 [(2, .int (0 : Int32)), (1, .int v1), (0, .ref (ad b0))] hC dX9_lays_11 (by rw [hn]; decide) rfl ?_
      obtain ⟨n, h⟩ := h
      refine L_X9_lays_12 hC hR hn _ (fun w2_9 mfar_9 h => ?_) n _ _ h
      refine g_iinc (v := (1 : Int32)) 99 1 [(1, .int (v1 + (1 : Int32))), (2, .int w2_9), (0, .ref (ad b0))] hC dX9_lays_99 rfl (by decide) (by rw [hn]; decide) rfl ?_
      refine g_goto 102 2 hC dX9_lays_102 (by decide) ?_
      refine G.sub [0, 2] rfl ?_
      exact ih _ _ h
set_option maxHeartbeats 4000000 in
set_option maxRecDepth 100000 in
theorem c_X9_lays (l : Launch) (D : va_G) (cI cS cT : ClassId) (ad : Nat → Nat) (b0 : Nat) (mnow : Nat → Int32) (mundoMany : Int32) (mtokens : Int32) (mone : Nat → Int32) (mother : Nat → Int32) (moneLong : Int32) (motherLong : Int32) (mfar : Nat → Int32) (medits : Int32) (mgroups : Int32) (post : Int32 → (Nat → Int32) → Prop) (h : P_X9_lays mnow mundoMany mtokens mone mother moneLong motherLong mfar medits mgroups post) : MI l D (TY cI cS cT) yX9_lays cX9_lays 5 (some .int) rm_X9_lays [.ref (ad b0)] (Wd_X9_lays cI cS cT ad b0 mnow mundoMany mtokens mone mother moneLong motherLong mfar medits mgroups) (fun (r : Int32) w => ∃ (u_mfar : Nat → Int32), w = (Wd_X9_lays cI cS cT ad b0 mnow mundoMany mtokens mone mother moneLong motherLong u_mfar medits mgroups) ∧ post r u_mfar) := by
  refine MI.of (by decide) (Nat.le_of_ble_eq_true rfl) (fun E hC hR hn => ?_)
  replace hC : Cx l D (TY cI cS cT) E rm_X9_lays cX9_lays RX9 := hC
  replace hR : RetI D E (fun (r : Int32) w => ∃ (u_mfar : Nat → Int32), w = (Wd_X9_lays cI cS cT ad b0 mnow mundoMany mtokens mone mother moneLong motherLong u_mfar medits mgroups) ∧ post r u_mfar) 0 0 (some .int) := hR
  unfold P_X9_lays at h
  change G l D E 0 0 _ [(0, .ref (ad b0))] 0 []
  refine g_iconst (v := (0 : Int32)) 0 hC dX9_lays_0 (by decide) ?_
  refine g_istore_n 1 [(1, .int (0 : Int32)), (0, .ref (ad b0))] hC dX9_lays_1 (by rw [hn]; decide) rfl ?_
  obtain ⟨n, h⟩ := h
  refine L_X9_lays_2 hC hR hn _ (fun w1_10 mfar_10 h => ?_) n _ _ h
  refine g_aload_n 105 1 hC dX9_lays_105 rfl ?_
  refine g_get 106 0 9 hC inlX9 wq_109 dX9_lays_106 rfl rfl (by decide) rfl ?_
  refine g_bipush (v := (9 : Int32)) 109 hC dX9_lays_109 (by decide) ?_
  refine g_aload_n 111 1 hC dX9_lays_111 rfl ?_
  refine g_get 112 0 7 hC inlX9 wq_331 dX9_lays_112 rfl rfl (by decide) rfl ?_
  refine g_imul 115 hC dX9_lays_115 ?_
  refine g_aload_n 116 1 hC dX9_lays_116 rfl ?_
  refine g_get 117 0 8 hC inlX9 wq_336 dX9_lays_117 rfl rfl (by decide) rfl ?_
  refine g_iadd 120 hC dX9_lays_120 ?_
  obtain ⟨hj, h⟩ := h
  refine g_iald 121 4 hC dX9_lays_121 rfl rfl hj ?_
  exact g_iret 122 hC hR dX9_lays_122 ⟨mfar_10, rfl, h⟩

/-! ===== ProverbCollectionModel.distanceOf(II)I ===== -/
def Wd_X9_distanceOf (cI cS cT : ClassId) (ad : Nat → Nat) (b0 : Nat) (mnow : Nat → Int32) (mundoMany : Int32) (mtokens : Int32) (mone : Nat → Int32) (mother : Nat → Int32) (moneLong : Int32) (motherLong : Int32) (mfar : Nat → Int32) (medits : Int32) (mgroups : Int32) : va_W := [(ad b0, .inr (9, [.ref (ad (b0 + 1)), .ref (ad (b0 + 2)), .int mundoMany, .int mtokens, .ref (ad (b0 + 3)), .ref (ad (b0 + 4)), .ref (ad (b0 + 5)), .int moneLong, .int motherLong, .ref (ad (b0 + 6)), .int medits, .ref (ad (b0 + 7)), .ref (ad (b0 + 8)), .ref (ad (b0 + 9)), .ref (ad (b0 + 10)), .int mgroups, .ref (ad (b0 + 11)), .ref (ad (b0 + 12))])), (ad (b0 + 1), .inl (cI, 193, .inl mnow)), (ad (b0 + 4), .inl (cI, 8, .inl mone)), (ad (b0 + 5), .inl (cI, 8, .inl mother)), (ad (b0 + 6), .inl (cI, 81, .inl mfar))]
def rm_X9_distanceOf : Room := { frames := 3, cells := 0, slots := 0, locals := 69 }
theorem kX9_distanceOf : KV yX9_distanceOf cX9_distanceOf 3 (some .int) 2 := ⟨wq_326, wq_5, wq_324, wq_325, by decide +kernel⟩
def P_X9_distanceOf (x1 : Int32) (x2 : Int32) (mnow : Nat → Int32) (mundoMany : Int32) (mtokens : Int32) (mone : Nat → Int32) (mother : Nat → Int32) (moneLong : Int32) (motherLong : Int32) (mfar : Nat → Int32) (medits : Int32) (mgroups : Int32) (post : Int32 → (Nat → Int32) → (Nat → Int32) → Int32 → Int32 → (Nat → Int32) → Prop) : Prop :=
  P_X9_takesOne x1 mnow mundoMany mtokens mone moneLong motherLong medits mgroups (fun u1 u2 => P_X9_takesOther x2 mnow mundoMany mtokens mother u2 motherLong medits mgroups (fun u4 u5 => P_X9_lays mnow mundoMany mtokens u1 u4 u2 u5 mfar medits mgroups (fun r8 u7 => post r8 u1 u4 u2 u5 u7)))
set_option maxHeartbeats 4000000 in
set_option maxRecDepth 100000 in
theorem c_X9_distanceOf (l : Launch) (D : va_G) (cI cS cT : ClassId) (ad : Nat → Nat) (b0 : Nat) (x1 : Int32) (x2 : Int32) (mnow : Nat → Int32) (mundoMany : Int32) (mtokens : Int32) (mone : Nat → Int32) (mother : Nat → Int32) (moneLong : Int32) (motherLong : Int32) (mfar : Nat → Int32) (medits : Int32) (mgroups : Int32) (post : Int32 → (Nat → Int32) → (Nat → Int32) → Int32 → Int32 → (Nat → Int32) → Prop) (h : P_X9_distanceOf x1 x2 mnow mundoMany mtokens mone mother moneLong motherLong mfar medits mgroups post) : MI l D (TY cI cS cT) yX9_distanceOf cX9_distanceOf 3 (some .int) rm_X9_distanceOf [.ref (ad b0), .int x1, .int x2] (Wd_X9_distanceOf cI cS cT ad b0 mnow mundoMany mtokens mone mother moneLong motherLong mfar medits mgroups) (fun (r : Int32) w => ∃ (u_mone : Nat → Int32) (u_mother : Nat → Int32) (u_moneLong : Int32) (u_motherLong : Int32) (u_mfar : Nat → Int32), w = (Wd_X9_distanceOf cI cS cT ad b0 mnow mundoMany mtokens u_mone u_mother u_moneLong u_motherLong u_mfar medits mgroups) ∧ post r u_mone u_mother u_moneLong u_motherLong u_mfar) := by
  refine MI.of (by decide) (Nat.le_of_ble_eq_true rfl) (fun E hC hR hn => ?_)
  replace hC : Cx l D (TY cI cS cT) E rm_X9_distanceOf cX9_distanceOf RX9 := hC
  replace hR : RetI D E (fun (r : Int32) w => ∃ (u_mone : Nat → Int32) (u_mother : Nat → Int32) (u_moneLong : Int32) (u_motherLong : Int32) (u_mfar : Nat → Int32), w = (Wd_X9_distanceOf cI cS cT ad b0 mnow mundoMany mtokens u_mone u_mother u_moneLong u_motherLong u_mfar medits mgroups) ∧ post r u_mone u_mother u_moneLong u_motherLong u_mfar) 0 0 (some .int) := hR
  unfold P_X9_distanceOf at h
  change G l D E 0 0 _ [(0, .ref (ad b0)), (1, .int x1), (2, .int x2)] 0 []
  refine g_aload_n 0 0 hC dX9_distanceOf_0 rfl ?_
  refine g_iload_n 1 1 hC dX9_distanceOf_1 rfl ?_
  refine g_cVv (As := [.int x1]) (rest := []) 2 0 [0, 1, 2] hC (c_X9_takesOne l D cI cS cT ad b0 x1 mnow mundoMany mtokens mone moneLong motherLong medits mgroups _ h) kX9_takesOne wq_327 dX9_distanceOf_2 rfl rfl ⟨Nat.le_of_ble_eq_true rfl, Nat.le_of_ble_eq_true rfl⟩ rfl rfl (Nat.zero_le _) (Nat.zero_le _) rfl rfl rfl (Nat.le_of_ble_eq_true rfl) ?_
  rintro _ ⟨u1, u2, rfl, h⟩
  refine ⟨Nat.le_of_ble_eq_true rfl, G.upd [3, 4] (Wd_X9_distanceOf cI cS cT ad b0 mnow mundoMany mtokens u1 mother u2 motherLong mfar medits mgroups) rfl rfl rfl rfl rfl ?_⟩
  refine g_aload_n 5 0 hC dX9_distanceOf_5 rfl ?_
  refine g_iload_n 6 2 hC dX9_distanceOf_6 rfl ?_
  refine g_cVv (As := [.int x2]) (rest := []) 7 0 [0, 1, 3] hC (c_X9_takesOther l D cI cS cT ad b0 x2 mnow mundoMany mtokens mother u2 motherLong medits mgroups _ h) kX9_takesOther wq_332 dX9_distanceOf_7 rfl rfl ⟨Nat.le_of_ble_eq_true rfl, Nat.le_of_ble_eq_true rfl⟩ rfl rfl (Nat.zero_le _) (Nat.zero_le _) rfl rfl rfl (Nat.le_of_ble_eq_true rfl) ?_
  rintro _ ⟨u4, u5, rfl, h⟩
  refine ⟨Nat.le_of_ble_eq_true rfl, G.upd [2, 4] (Wd_X9_distanceOf cI cS cT ad b0 mnow mundoMany mtokens u1 u4 u2 u5 mfar medits mgroups) rfl rfl rfl rfl rfl ?_⟩
  refine g_aload_n 10 0 hC dX9_distanceOf_10 rfl ?_
  refine g_cVi (As := []) (rest := []) 11 0 [0, 1, 2, 3, 4] hC (c_X9_lays l D cI cS cT ad b0 mnow mundoMany mtokens u1 u4 u2 u5 mfar medits mgroups _ h) kX9_lays wq_337 dX9_distanceOf_11 rfl rfl ⟨Nat.le_of_ble_eq_true rfl, Nat.le_of_ble_eq_true rfl⟩ rfl rfl (Nat.zero_le _) (Nat.zero_le _) rfl rfl rfl (Nat.le_of_ble_eq_true rfl) ?_
  rintro r8 _ ⟨u7, rfl, h⟩
  refine ⟨Nat.le_of_ble_eq_true rfl, G.upd [] (Wd_X9_distanceOf cI cS cT ad b0 mnow mundoMany mtokens u1 u4 u2 u5 u7 medits mgroups) rfl rfl rfl rfl rfl ?_⟩
  exact g_iret 14 hC hR dX9_distanceOf_14 ⟨u1, u4, u2, u5, u7, rfl, h⟩

/-! ===== ProverbCollectionModel.setCost(II)I ===== -/
def Wd_X9_setCost (cI cS cT : ClassId) (ad : Nat → Nat) (b0 : Nat) (mnow : Nat → Int32) (mbefore : Nat → Int32) (mundoMany : Int32) (mtokens : Int32) (moneLong : Int32) (motherLong : Int32) (medits : Int32) (mgroups : Int32) : va_W := [(ad b0, .inr (9, [.ref (ad (b0 + 1)), .ref (ad (b0 + 2)), .int mundoMany, .int mtokens, .ref (ad (b0 + 3)), .ref (ad (b0 + 4)), .ref (ad (b0 + 5)), .int moneLong, .int motherLong, .ref (ad (b0 + 6)), .int medits, .ref (ad (b0 + 7)), .ref (ad (b0 + 8)), .ref (ad (b0 + 9)), .ref (ad (b0 + 10)), .int mgroups, .ref (ad (b0 + 11)), .ref (ad (b0 + 12))])), (ad (b0 + 1), .inl (cI, 193, .inl mnow)), (ad (b0 + 2), .inl (cI, 965, .inl mbefore))]
def rm_X9_setCost : Room := { frames := 1, cells := 0, slots := 0, locals := 25 }
theorem kX9_setCost : KV yX9_setCost cX9_setCost 4 (some .int) 2 := ⟨wq_283, wq_5, wq_281, wq_282, by decide +kernel⟩
def P_X9_setCost (x1 : Int32) (x2 : Int32) (mnow : Nat → Int32) (mbefore : Nat → Int32) (mundoMany : Int32) (mtokens : Int32) (moneLong : Int32) (motherLong : Int32) (medits : Int32) (mgroups : Int32) (post : Int32 → (Nat → Int32) → (Nat → Int32) → Int32 → Prop) : Prop :=
  P_X9_in (Int32.toInt64 x1) (0 : Int64) (3 : Int64) (fun r1 => (r1 = 0 → post (-1 : Int32) mnow mbefore mundoMany) ∧ (¬ r1 = 0 → (P_X9_in (Int32.toInt64 x2) (1 : Int64) (9 : Int64) (fun r2 => (¬ r2 = 0 → (P_X9_keeps mnow mbefore mundoMany mtokens moneLong motherLong medits mgroups (fun u3 u4 => vp_in ((188 : Int32) + x1) 193 ∧ (vp_in ((188 : Int32) + x1) 193 ∧ (post (mnow (Int32.toNatClampNeg ((188 : Int32) + x1))) (upd mnow (Int32.toNatClampNeg ((188 : Int32) + x1)) x2) u3 u4))))) ∧ (r2 = 0 → post (-1 : Int32) mnow mbefore mundoMany)))))
set_option maxHeartbeats 4000000 in
set_option maxRecDepth 100000 in
theorem c_X9_setCost (l : Launch) (D : va_G) (cI cS cT : ClassId) (ad : Nat → Nat) (b0 : Nat) (x1 : Int32) (x2 : Int32) (mnow : Nat → Int32) (mbefore : Nat → Int32) (mundoMany : Int32) (mtokens : Int32) (moneLong : Int32) (motherLong : Int32) (medits : Int32) (mgroups : Int32) (post : Int32 → (Nat → Int32) → (Nat → Int32) → Int32 → Prop) (h : P_X9_setCost x1 x2 mnow mbefore mundoMany mtokens moneLong motherLong medits mgroups post) : MI l D (TY cI cS cT) yX9_setCost cX9_setCost 4 (some .int) rm_X9_setCost [.ref (ad b0), .int x1, .int x2] (Wd_X9_setCost cI cS cT ad b0 mnow mbefore mundoMany mtokens moneLong motherLong medits mgroups) (fun (r : Int32) w => ∃ (u_mnow : Nat → Int32) (u_mbefore : Nat → Int32) (u_mundoMany : Int32), w = (Wd_X9_setCost cI cS cT ad b0 u_mnow u_mbefore u_mundoMany mtokens moneLong motherLong medits mgroups) ∧ post r u_mnow u_mbefore u_mundoMany) := by
  refine MI.of (by decide) (Nat.le_of_ble_eq_true rfl) (fun E hC hR hn => ?_)
  replace hC : Cx l D (TY cI cS cT) E rm_X9_setCost cX9_setCost RX9 := hC
  replace hR : RetI D E (fun (r : Int32) w => ∃ (u_mnow : Nat → Int32) (u_mbefore : Nat → Int32) (u_mundoMany : Int32), w = (Wd_X9_setCost cI cS cT ad b0 u_mnow u_mbefore u_mundoMany mtokens moneLong motherLong medits mgroups) ∧ post r u_mnow u_mbefore u_mundoMany) 0 0 (some .int) := hR
  unfold P_X9_setCost at h
  change G l D E 0 0 _ [(0, .ref (ad b0)), (1, .int x1), (2, .int x2)] 0 []
  refine g_iload_n 0 1 hC dX9_setCost_0 rfl ?_
  refine g_i2l 1 hC dX9_setCost_1 ?_
  refine g_lconst (v := (0 : Int64)) 2 hC dX9_setCost_2 (by decide) ?_
  refine g_ldc2 3 hC dX9_setCost_3 wq_284 ?_
  refine g_cSi (As := [.long (Int32.toInt64 x1), .long (0 : Int64), .long (3 : Int64)]) (rest := []) 6 [] hC (c_X9_in l D cI cS cT ad (Int32.toInt64 x1) (0 : Int64) (3 : Int64) _ h) kX9_in wq_130 dX9_setCost_6 ⟨Nat.le_of_ble_eq_true rfl, Nat.le_of_ble_eq_true rfl⟩ rfl rfl (Nat.zero_le _) (Nat.zero_le _) rfl rfl rfl (Nat.le_of_ble_eq_true rfl) ?_
  rintro r1 _ ⟨rfl, h⟩
  refine ⟨Nat.le_of_ble_eq_true rfl, G.upd [0, 1, 2] (Wd_X9_setCost cI cS cT ad b0 mnow mbefore mundoMany mtokens moneLong motherLong medits mgroups) rfl rfl rfl rfl rfl ?_⟩
  refine g_if_eq 9 24 hC dX9_setCost_9 (by decide) (fun hc => ?_) (fun hc => ?_)
  · replace h := h.1 hc
    refine g_iconst (v := (-1 : Int32)) 24 hC dX9_setCost_24 (by decide) ?_
    exact g_iret 25 hC hR dX9_setCost_25 ⟨mnow, mbefore, mundoMany, rfl, h⟩
  · replace h := h.2 hc
    refine g_iload_n 12 2 hC dX9_setCost_12 rfl ?_
    refine g_i2l 13 hC dX9_setCost_13 ?_
    refine g_lconst (v := (1 : Int64)) 14 hC dX9_setCost_14 (by decide) ?_
    refine g_ldc2 15 hC dX9_setCost_15 wq_192 ?_
    refine g_cSi (As := [.long (Int32.toInt64 x2), .long (1 : Int64), .long (9 : Int64)]) (rest := []) 18 [] hC (c_X9_in l D cI cS cT ad (Int32.toInt64 x2) (1 : Int64) (9 : Int64) _ h) kX9_in wq_130 dX9_setCost_18 ⟨Nat.le_of_ble_eq_true rfl, Nat.le_of_ble_eq_true rfl⟩ rfl rfl (Nat.zero_le _) (Nat.zero_le _) rfl rfl rfl (Nat.le_of_ble_eq_true rfl) ?_
    rintro r2 _ ⟨rfl, h⟩
    refine ⟨Nat.le_of_ble_eq_true rfl, G.upd [0, 1, 2] (Wd_X9_setCost cI cS cT ad b0 mnow mbefore mundoMany mtokens moneLong motherLong medits mgroups) rfl rfl rfl rfl rfl ?_⟩
    refine g_if_ne 21 26 hC dX9_setCost_21 (by decide) (fun hc => ?_) (fun hc => ?_)
    · replace h := h.1 hc
      refine g_aload_n 26 0 hC dX9_setCost_26 rfl ?_
      refine g_cVv (As := []) (rest := []) 27 0 [0, 1, 2] hC (c_X9_keeps l D cI cS cT ad b0 mnow mbefore mundoMany mtokens moneLong motherLong medits mgroups _ h) kX9_keeps wq_193 dX9_setCost_27 rfl rfl ⟨Nat.le_of_ble_eq_true rfl, Nat.le_of_ble_eq_true rfl⟩ rfl rfl (Nat.zero_le _) (Nat.zero_le _) rfl rfl rfl (Nat.le_of_ble_eq_true rfl) ?_
      rintro _ ⟨u3, u4, rfl, h⟩
      refine ⟨Nat.le_of_ble_eq_true rfl, G.upd [] (Wd_X9_setCost cI cS cT ad b0 mnow u3 u4 mtokens moneLong motherLong medits mgroups) rfl rfl rfl rfl rfl ?_⟩
      refine g_aload_n 30 0 hC dX9_setCost_30 rfl ?_
      refine g_get 31 0 0 hC inlX9 wq_104 dX9_setCost_31 rfl rfl (by decide) rfl ?_
      refine g_sipush (v := (188 : Int32)) 34 hC dX9_setCost_34 (by decide) ?_
      refine g_iload_n 37 1 hC dX9_setCost_37 rfl ?_
      refine g_iadd 38 hC dX9_setCost_38 ?_
      obtain ⟨hj, h⟩ := h
      refine g_iald 39 1 hC dX9_setCost_39 rfl rfl hj ?_
      refine g_istore_n 40 [(3, .int (mnow (Int32.toNatClampNeg ((188 : Int32) + x1)))), (0, .ref (ad b0)), (1, .int x1), (2, .int x2)] hC dX9_setCost_40 (by rw [hn]; decide) rfl ?_
      refine g_aload_n 41 1 hC dX9_setCost_41 rfl ?_
      refine g_get 42 0 0 hC inlX9 wq_104 dX9_setCost_42 rfl rfl (by decide) rfl ?_
      refine g_sipush (v := (188 : Int32)) 45 hC dX9_setCost_45 (by decide) ?_
      refine g_iload_n 48 2 hC dX9_setCost_48 rfl ?_
      refine g_iadd 49 hC dX9_setCost_49 ?_
      refine g_iload_n 50 3 hC dX9_setCost_50 rfl ?_
      obtain ⟨hj, h⟩ := h
      refine g_iast 51 1 (Wd_X9_setCost cI cS cT ad b0 (upd mnow (Int32.toNatClampNeg ((188 : Int32) + x1)) x2) u3 u4 mtokens moneLong motherLong medits mgroups) hC dX9_setCost_51 rfl rfl hj rfl ?_
      refine g_iload_n 52 0 hC dX9_setCost_52 rfl ?_
      exact g_iret 53 hC hR dX9_setCost_53 ⟨(upd mnow (Int32.toNatClampNeg ((188 : Int32) + x1)) x2), u3, u4, rfl, h⟩
    · replace h := h.2 hc
      refine g_iconst (v := (-1 : Int32)) 24 hC dX9_setCost_24 (by decide) ?_
      exact g_iret 25 hC hR dX9_setCost_25 ⟨mnow, mbefore, mundoMany, rfl, h⟩

/-! ===== ProverbCollectionModel.distance(II)I ===== -/
def Wd_X9_distance (cI cS cT : ClassId) (ad : Nat → Nat) (b0 : Nat) (mnow : Nat → Int32) (mundoMany : Int32) (mtokens : Int32) (mone : Nat → Int32) (mother : Nat → Int32) (moneLong : Int32) (motherLong : Int32) (mfar : Nat → Int32) (medits : Int32) (mgroups : Int32) : va_W := [(ad b0, .inr (9, [.ref (ad (b0 + 1)), .ref (ad (b0 + 2)), .int mundoMany, .int mtokens, .ref (ad (b0 + 3)), .ref (ad (b0 + 4)), .ref (ad (b0 + 5)), .int moneLong, .int motherLong, .ref (ad (b0 + 6)), .int medits, .ref (ad (b0 + 7)), .ref (ad (b0 + 8)), .ref (ad (b0 + 9)), .ref (ad (b0 + 10)), .int mgroups, .ref (ad (b0 + 11)), .ref (ad (b0 + 12))])), (ad (b0 + 1), .inl (cI, 193, .inl mnow)), (ad (b0 + 4), .inl (cI, 8, .inl mone)), (ad (b0 + 5), .inl (cI, 8, .inl mother)), (ad (b0 + 6), .inl (cI, 81, .inl mfar))]
def rm_X9_distance : Room := { frames := 4, cells := 0, slots := 0, locals := 91 }
theorem kX9_distance : KV yX9_distance cX9_distance 3 (some .int) 2 := ⟨wq_322, wq_5, wq_320, wq_321, by decide +kernel⟩
def P_X9_distance (x1 : Int32) (x2 : Int32) (mnow : Nat → Int32) (mundoMany : Int32) (mtokens : Int32) (mone : Nat → Int32) (mother : Nat → Int32) (moneLong : Int32) (motherLong : Int32) (mfar : Nat → Int32) (medits : Int32) (mgroups : Int32) (post : Int32 → (Nat → Int32) → (Nat → Int32) → Int32 → Int32 → (Nat → Int32) → Prop) : Prop :=
  P_X9_isSaying x1 mnow mundoMany mtokens moneLong motherLong medits mgroups (fun r1 => (r1 = 0 → post (-1 : Int32) mone mother moneLong motherLong mfar) ∧ (¬ r1 = 0 → (P_X9_isSaying x2 mnow mundoMany mtokens moneLong motherLong medits mgroups (fun r2 => (r2 = 0 → post (-1 : Int32) mone mother moneLong motherLong mfar) ∧ (¬ r2 = 0 → P_X9_distanceOf x1 x2 mnow mundoMany mtokens mone mother moneLong motherLong mfar medits mgroups (fun r8 u3 u4 u5 u6 u7 => post r8 u3 u4 u5 u6 u7))))))
set_option maxHeartbeats 4000000 in
set_option maxRecDepth 100000 in
theorem c_X9_distance (l : Launch) (D : va_G) (cI cS cT : ClassId) (ad : Nat → Nat) (b0 : Nat) (x1 : Int32) (x2 : Int32) (mnow : Nat → Int32) (mundoMany : Int32) (mtokens : Int32) (mone : Nat → Int32) (mother : Nat → Int32) (moneLong : Int32) (motherLong : Int32) (mfar : Nat → Int32) (medits : Int32) (mgroups : Int32) (post : Int32 → (Nat → Int32) → (Nat → Int32) → Int32 → Int32 → (Nat → Int32) → Prop) (h : P_X9_distance x1 x2 mnow mundoMany mtokens mone mother moneLong motherLong mfar medits mgroups post) : MI l D (TY cI cS cT) yX9_distance cX9_distance 3 (some .int) rm_X9_distance [.ref (ad b0), .int x1, .int x2] (Wd_X9_distance cI cS cT ad b0 mnow mundoMany mtokens mone mother moneLong motherLong mfar medits mgroups) (fun (r : Int32) w => ∃ (u_mone : Nat → Int32) (u_mother : Nat → Int32) (u_moneLong : Int32) (u_motherLong : Int32) (u_mfar : Nat → Int32), w = (Wd_X9_distance cI cS cT ad b0 mnow mundoMany mtokens u_mone u_mother u_moneLong u_motherLong u_mfar medits mgroups) ∧ post r u_mone u_mother u_moneLong u_motherLong u_mfar) := by
  refine MI.of (by decide) (Nat.le_of_ble_eq_true rfl) (fun E hC hR hn => ?_)
  replace hC : Cx l D (TY cI cS cT) E rm_X9_distance cX9_distance RX9 := hC
  replace hR : RetI D E (fun (r : Int32) w => ∃ (u_mone : Nat → Int32) (u_mother : Nat → Int32) (u_moneLong : Int32) (u_motherLong : Int32) (u_mfar : Nat → Int32), w = (Wd_X9_distance cI cS cT ad b0 mnow mundoMany mtokens u_mone u_mother u_moneLong u_motherLong u_mfar medits mgroups) ∧ post r u_mone u_mother u_moneLong u_motherLong u_mfar) 0 0 (some .int) := hR
  unfold P_X9_distance at h
  change G l D E 0 0 _ [(0, .ref (ad b0)), (1, .int x1), (2, .int x2)] 0 []
  refine g_aload_n 0 0 hC dX9_distance_0 rfl ?_
  refine g_iload_n 1 1 hC dX9_distance_1 rfl ?_
  refine g_cVi (As := [.int x1]) (rest := []) 2 0 [0, 1] hC (c_X9_isSaying l D cI cS cT ad b0 x1 mnow mundoMany mtokens moneLong motherLong medits mgroups _ h) kX9_isSaying wq_215 dX9_distance_2 rfl rfl ⟨Nat.le_of_ble_eq_true rfl, Nat.le_of_ble_eq_true rfl⟩ rfl rfl (Nat.zero_le _) (Nat.zero_le _) rfl rfl rfl (Nat.le_of_ble_eq_true rfl) ?_
  rintro r1 _ ⟨rfl, h⟩
  refine ⟨Nat.le_of_ble_eq_true rfl, G.upd [2, 3, 4] (Wd_X9_distance cI cS cT ad b0 mnow mundoMany mtokens mone mother moneLong motherLong mfar medits mgroups) rfl rfl rfl rfl rfl ?_⟩
  refine g_if_eq 5 25 hC dX9_distance_5 (by decide) (fun hc => ?_) (fun hc => ?_)
  · replace h := h.1 hc
    refine g_iconst (v := (-1 : Int32)) 25 hC dX9_distance_25 (by decide) ?_
    exact g_iret 26 hC hR dX9_distance_26 ⟨mone, mother, moneLong, motherLong, mfar, rfl, h⟩
  · replace h := h.2 hc
    refine g_aload_n 8 0 hC dX9_distance_8 rfl ?_
    refine g_iload_n 9 2 hC dX9_distance_9 rfl ?_
    refine g_cVi (As := [.int x2]) (rest := []) 10 0 [0, 1] hC (c_X9_isSaying l D cI cS cT ad b0 x2 mnow mundoMany mtokens moneLong motherLong medits mgroups _ h) kX9_isSaying wq_215 dX9_distance_10 rfl rfl ⟨Nat.le_of_ble_eq_true rfl, Nat.le_of_ble_eq_true rfl⟩ rfl rfl (Nat.zero_le _) (Nat.zero_le _) rfl rfl rfl (Nat.le_of_ble_eq_true rfl) ?_
    rintro r2 _ ⟨rfl, h⟩
    refine ⟨Nat.le_of_ble_eq_true rfl, G.upd [2, 3, 4] (Wd_X9_distance cI cS cT ad b0 mnow mundoMany mtokens mone mother moneLong motherLong mfar medits mgroups) rfl rfl rfl rfl rfl ?_⟩
    refine g_if_eq 13 25 hC dX9_distance_13 (by decide) (fun hc => ?_) (fun hc => ?_)
    · replace h := h.1 hc
      refine g_iconst (v := (-1 : Int32)) 25 hC dX9_distance_25 (by decide) ?_
      exact g_iret 26 hC hR dX9_distance_26 ⟨mone, mother, moneLong, motherLong, mfar, rfl, h⟩
    · replace h := h.2 hc
      refine g_aload_n 16 0 hC dX9_distance_16 rfl ?_
      refine g_iload_n 17 1 hC dX9_distance_17 rfl ?_
      refine g_iload_n 18 2 hC dX9_distance_18 rfl ?_
      refine g_cVi (As := [.int x1, .int x2]) (rest := []) 19 0 [0, 1, 2, 3, 4] hC (c_X9_distanceOf l D cI cS cT ad b0 x1 x2 mnow mundoMany mtokens mone mother moneLong motherLong mfar medits mgroups _ h) kX9_distanceOf wq_323 dX9_distance_19 rfl rfl ⟨Nat.le_of_ble_eq_true rfl, Nat.le_of_ble_eq_true rfl⟩ rfl rfl (Nat.zero_le _) (Nat.zero_le _) rfl rfl rfl (Nat.le_of_ble_eq_true rfl) ?_
      rintro r8 _ ⟨u3, u4, u5, u6, u7, rfl, h⟩
      refine ⟨Nat.le_of_ble_eq_true rfl, G.upd [] (Wd_X9_distance cI cS cT ad b0 mnow mundoMany mtokens u3 u4 u5 u6 u7 medits mgroups) rfl rfl rfl rfl rfl ?_⟩
      refine g_goto 22 26 hC dX9_distance_22 (by decide) ?_
      exact g_iret 26 hC hR dX9_distance_26 ⟨u3, u4, u5, u6, u7, rfl, h⟩

/-! ===== java/lang/Float.isNaN(F)Z ===== -/
def Wd_Jxf58ca_isNaN_12338 (cI cS cT : ClassId) (ad : Nat → Nat) : va_W := []
def rm_Jxf58ca_isNaN_12338 : Room := { frames := 0, cells := 0, slots := 0, locals := 0 }
theorem kJxf58ca_isNaN_12338 : KS yJxf58ca_isNaN_12338 cJxf58ca_isNaN_12338 1 (some .boolean) 1 := ⟨wq_383, wq_374, wq_382, by decide +kernel⟩
def P_Jxf58ca_isNaN_12338 (x0 : UInt32) (post : Int32 → Prop) : Prop :=
  ((Op.cmpValue (FP.fcmp x0 x0) .l) = 0 → post (0 : Int32)) ∧ (¬ (Op.cmpValue (FP.fcmp x0 x0) .l) = 0 → post (1 : Int32))
set_option maxHeartbeats 4000000 in
set_option maxRecDepth 100000 in
theorem c_Jxf58ca_isNaN_12338 (l : Launch) (D : va_G) (cI cS cT : ClassId) (ad : Nat → Nat) (x0 : UInt32) (post : Int32 → Prop) (h : P_Jxf58ca_isNaN_12338 x0 post) : MI l D (TY cI cS cT) yJxf58ca_isNaN_12338 cJxf58ca_isNaN_12338 1 (some .boolean) rm_Jxf58ca_isNaN_12338 [.float x0] (Wd_Jxf58ca_isNaN_12338 cI cS cT ad) (fun (r : Int32) w => w = (Wd_Jxf58ca_isNaN_12338 cI cS cT ad) ∧ post r) := by
  refine MI.ofF pf_Jxf58ca_isNaN_12338 (Nat.le_of_ble_eq_true rfl) (fun E hC hR hn => ?_)
  replace hC : Cx l D (TY cI cS cT) E rm_Jxf58ca_isNaN_12338 cJxf58ca_isNaN_12338 RJxf58ca := hC
  replace hR : RetI D E (fun (r : Int32) w => w = (Wd_Jxf58ca_isNaN_12338 cI cS cT ad) ∧ post r) 0 0 (some .boolean) := hR
  unfold P_Jxf58ca_isNaN_12338 at h
  change G l D E 0 0 _ [(0, .float x0)] 0 []
  refine g_fload_n 0 0 hC dJxf58ca_isNaN_12338_0 rfl ?_
  refine g_fload_n 1 0 hC dJxf58ca_isNaN_12338_1 rfl ?_
  refine g_fcmp 2 hC dJxf58ca_isNaN_12338_2 ?_
  refine g_if_eq 3 10 hC dJxf58ca_isNaN_12338_3 (by decide) (fun hc => ?_) (fun hc => ?_)
  · replace h := h.1 hc
    refine g_iconst (v := (0 : Int32)) 10 hC dJxf58ca_isNaN_12338_10 (by decide) ?_
    exact g_zret 11 hC hR dJxf58ca_isNaN_12338_11 (by decide) ⟨rfl, h⟩
  · replace h := h.2 hc
    refine g_iconst (v := (1 : Int32)) 6 hC dJxf58ca_isNaN_12338_6 (by decide) ?_
    refine g_goto 7 11 hC dJxf58ca_isNaN_12338_7 (by decide) ?_
    exact g_zret 11 hC hR dJxf58ca_isNaN_12338_11 (by decide) ⟨rfl, h⟩

/-! ===== java/lang/Float.floatToIntBits(F)I ===== -/
def Wd_Jxf58ca_floatToIntBits_5c35a (cI cS cT : ClassId) (ad : Nat → Nat) : va_W := []
def rm_Jxf58ca_floatToIntBits_5c35a : Room := { frames := 1, cells := 0, slots := 0, locals := 40 }
theorem kJxf58ca_floatToIntBits_5c35a : KS yJxf58ca_floatToIntBits_5c35a cJxf58ca_floatToIntBits_5c35a 1 (some .int) 1 := ⟨wq_375, wq_374, wq_373, by decide +kernel⟩
def P_Jxf58ca_floatToIntBits_5c35a (x0 : UInt32) (post : Int32 → Prop) : Prop :=
  P_Jxf58ca_isNaN_12338 x0 (fun r1 => (¬ r1 = 0 → post (2143289344 : Int32)) ∧ (r1 = 0 → post (UInt32.toInt32 x0)))
set_option maxHeartbeats 4000000 in
set_option maxRecDepth 100000 in
theorem c_Jxf58ca_floatToIntBits_5c35a (l : Launch) (D : va_G) (cI cS cT : ClassId) (ad : Nat → Nat) (x0 : UInt32) (post : Int32 → Prop) (h : P_Jxf58ca_floatToIntBits_5c35a x0 post) : MI l D (TY cI cS cT) yJxf58ca_floatToIntBits_5c35a cJxf58ca_floatToIntBits_5c35a 1 (some .int) rm_Jxf58ca_floatToIntBits_5c35a [.float x0] (Wd_Jxf58ca_floatToIntBits_5c35a cI cS cT ad) (fun (r : Int32) w => w = (Wd_Jxf58ca_floatToIntBits_5c35a cI cS cT ad) ∧ post r) := by
  refine MI.ofF pf_Jxf58ca_floatToIntBits_5c35a (Nat.le_of_ble_eq_true rfl) (fun E hC hR hn => ?_)
  replace hC : Cx l D (TY cI cS cT) E rm_Jxf58ca_floatToIntBits_5c35a cJxf58ca_floatToIntBits_5c35a RJxf58ca := hC
  replace hR : RetI D E (fun (r : Int32) w => w = (Wd_Jxf58ca_floatToIntBits_5c35a cI cS cT ad) ∧ post r) 0 0 (some .int) := hR
  unfold P_Jxf58ca_floatToIntBits_5c35a at h
  change G l D E 0 0 _ [(0, .float x0)] 0 []
  refine g_fload_n 0 0 hC dJxf58ca_floatToIntBits_5c35a_0 rfl ?_
  refine g_cSi (As := [.float x0]) (rest := []) 1 [] hC (c_Jxf58ca_isNaN_12338 l D cI cS cT ad x0 _ h) kJxf58ca_isNaN_12338 wq_381 dJxf58ca_floatToIntBits_5c35a_1 ⟨Nat.le_of_ble_eq_true rfl, Nat.le_of_ble_eq_true rfl⟩ rfl rfl (Nat.zero_le _) (Nat.zero_le _) rfl rfl rfl (Nat.le_of_ble_eq_true rfl) ?_
  rintro r1 _ ⟨rfl, h⟩
  refine ⟨Nat.le_of_ble_eq_true rfl, G.upd [] (Wd_Jxf58ca_floatToIntBits_5c35a cI cS cT ad) rfl rfl rfl rfl rfl ?_⟩
  refine g_if_ne 4 12 hC dJxf58ca_floatToIntBits_5c35a_4 (by decide) (fun hc => ?_) (fun hc => ?_)
  · replace h := h.1 hc
    refine g_ldc 12 hC dJxf58ca_floatToIntBits_5c35a_12 wq_380 ?_
    exact g_iret 14 hC hR dJxf58ca_floatToIntBits_5c35a_14 ⟨rfl, h⟩
  · replace h := h.2 hc
    refine g_fload_n 7 0 hC dJxf58ca_floatToIntBits_5c35a_7 rfl ?_
    refine g_f2raw 8 hC wq_376 dJxf58ca_floatToIntBits_5c35a_8 (Nat.le_of_ble_eq_true rfl) (Nat.le_of_ble_eq_true rfl) ?_
    exact g_iret 11 hC hR dJxf58ca_floatToIntBits_5c35a_11 ⟨rfl, h⟩

/-! ===== ProverbCollectionModel.similarityBits(II)I ===== -/
def Wd_X9_similarityBits (cI cS cT : ClassId) (ad : Nat → Nat) (b0 : Nat) (mnow : Nat → Int32) (mundoMany : Int32) (mtokens : Int32) (mone : Nat → Int32) (mother : Nat → Int32) (moneLong : Int32) (motherLong : Int32) (mfar : Nat → Int32) (medits : Int32) (mgroups : Int32) : va_W := [(ad b0, .inr (9, [.ref (ad (b0 + 1)), .ref (ad (b0 + 2)), .int mundoMany, .int mtokens, .ref (ad (b0 + 3)), .ref (ad (b0 + 4)), .ref (ad (b0 + 5)), .int moneLong, .int motherLong, .ref (ad (b0 + 6)), .int medits, .ref (ad (b0 + 7)), .ref (ad (b0 + 8)), .ref (ad (b0 + 9)), .ref (ad (b0 + 10)), .int mgroups, .ref (ad (b0 + 11)), .ref (ad (b0 + 12))])), (ad (b0 + 1), .inl (cI, 193, .inl mnow)), (ad (b0 + 4), .inl (cI, 8, .inl mone)), (ad (b0 + 5), .inl (cI, 8, .inl mother)), (ad (b0 + 6), .inl (cI, 81, .inl mfar))]
def rm_X9_similarityBits : Room := { frames := 4, cells := 0, slots := 0, locals := 91 }
theorem kX9_similarityBits : KV yX9_similarityBits cX9_similarityBits 4 (some .int) 2 := ⟨wq_371, wq_5, wq_369, wq_370, by decide +kernel⟩
def P_X9_similarityBits (x1 : Int32) (x2 : Int32) (mnow : Nat → Int32) (mundoMany : Int32) (mtokens : Int32) (mone : Nat → Int32) (mother : Nat → Int32) (moneLong : Int32) (motherLong : Int32) (mfar : Nat → Int32) (medits : Int32) (mgroups : Int32) (post : Int32 → (Nat → Int32) → (Nat → Int32) → Int32 → Int32 → (Nat → Int32) → Prop) : Prop :=
  P_X9_isSaying x1 mnow mundoMany mtokens moneLong motherLong medits mgroups (fun r1 => (r1 = 0 → post (-1 : Int32) mone mother moneLong motherLong mfar) ∧ (¬ r1 = 0 → (P_X9_isSaying x2 mnow mundoMany mtokens moneLong motherLong medits mgroups (fun r2 => (¬ r2 = 0 → (P_X9_distanceOf x1 x2 mnow mundoMany mtokens mone mother moneLong motherLong mfar medits mgroups (fun r8 u3 u4 u5 u6 u7 => vp_in ((1 : Int32) + x1) 193 ∧ (vp_in ((1 : Int32) + x2) 193 ∧ (vf_n32 (FP.fdiv (FP.i2f r8) (FP.i2f ((mnow (Int32.toNatClampNeg (188 : Int32))) * ((mnow (Int32.toNatClampNeg ((1 : Int32) + x1))) + (mnow (Int32.toNatClampNeg ((1 : Int32) + x2))))))) ∧ (vf_n32 (FP.fsub FP.fconst1 (FP.fdiv (FP.i2f r8) (FP.i2f ((mnow (Int32.toNatClampNeg (188 : Int32))) * ((mnow (Int32.toNatClampNeg ((1 : Int32) + x1))) + (mnow (Int32.toNatClampNeg ((1 : Int32) + x2)))))))) ∧ (P_Jxf58ca_floatToIntBits_5c35a (FP.fsub FP.fconst1 (FP.fdiv (FP.i2f r8) (FP.i2f ((mnow (Int32.toNatClampNeg (188 : Int32))) * ((mnow (Int32.toNatClampNeg ((1 : Int32) + x1))) + (mnow (Int32.toNatClampNeg ((1 : Int32) + x2)))))))) (fun r9 => post r9 u3 u4 u5 u6 u7)))))))) ∧ (r2 = 0 → post (-1 : Int32) mone mother moneLong motherLong mfar)))))
set_option maxHeartbeats 4000000 in
set_option maxRecDepth 100000 in
theorem c_X9_similarityBits (l : Launch) (D : va_G) (cI cS cT : ClassId) (ad : Nat → Nat) (b0 : Nat) (x1 : Int32) (x2 : Int32) (mnow : Nat → Int32) (mundoMany : Int32) (mtokens : Int32) (mone : Nat → Int32) (mother : Nat → Int32) (moneLong : Int32) (motherLong : Int32) (mfar : Nat → Int32) (medits : Int32) (mgroups : Int32) (post : Int32 → (Nat → Int32) → (Nat → Int32) → Int32 → Int32 → (Nat → Int32) → Prop) (h : P_X9_similarityBits x1 x2 mnow mundoMany mtokens mone mother moneLong motherLong mfar medits mgroups post) : MI l D (TY cI cS cT) yX9_similarityBits cX9_similarityBits 4 (some .int) rm_X9_similarityBits [.ref (ad b0), .int x1, .int x2] (Wd_X9_similarityBits cI cS cT ad b0 mnow mundoMany mtokens mone mother moneLong motherLong mfar medits mgroups) (fun (r : Int32) w => ∃ (u_mone : Nat → Int32) (u_mother : Nat → Int32) (u_moneLong : Int32) (u_motherLong : Int32) (u_mfar : Nat → Int32), w = (Wd_X9_similarityBits cI cS cT ad b0 mnow mundoMany mtokens u_mone u_mother u_moneLong u_motherLong u_mfar medits mgroups) ∧ post r u_mone u_mother u_moneLong u_motherLong u_mfar) := by
  refine MI.of (by decide) (Nat.le_of_ble_eq_true rfl) (fun E hC hR hn => ?_)
  replace hC : Cx l D (TY cI cS cT) E rm_X9_similarityBits cX9_similarityBits RX9 := hC
  replace hR : RetI D E (fun (r : Int32) w => ∃ (u_mone : Nat → Int32) (u_mother : Nat → Int32) (u_moneLong : Int32) (u_motherLong : Int32) (u_mfar : Nat → Int32), w = (Wd_X9_similarityBits cI cS cT ad b0 mnow mundoMany mtokens u_mone u_mother u_moneLong u_motherLong u_mfar medits mgroups) ∧ post r u_mone u_mother u_moneLong u_motherLong u_mfar) 0 0 (some .int) := hR
  unfold P_X9_similarityBits at h
  change G l D E 0 0 _ [(0, .ref (ad b0)), (1, .int x1), (2, .int x2)] 0 []
  refine g_aload_n 0 0 hC dX9_similarityBits_0 rfl ?_
  refine g_iload_n 1 1 hC dX9_similarityBits_1 rfl ?_
  refine g_cVi (As := [.int x1]) (rest := []) 2 0 [0, 1] hC (c_X9_isSaying l D cI cS cT ad b0 x1 mnow mundoMany mtokens moneLong motherLong medits mgroups _ h) kX9_isSaying wq_215 dX9_similarityBits_2 rfl rfl ⟨Nat.le_of_ble_eq_true rfl, Nat.le_of_ble_eq_true rfl⟩ rfl rfl (Nat.zero_le _) (Nat.zero_le _) rfl rfl rfl (Nat.le_of_ble_eq_true rfl) ?_
  rintro r1 _ ⟨rfl, h⟩
  refine ⟨Nat.le_of_ble_eq_true rfl, G.upd [2, 3, 4] (Wd_X9_similarityBits cI cS cT ad b0 mnow mundoMany mtokens mone mother moneLong motherLong mfar medits mgroups) rfl rfl rfl rfl rfl ?_⟩
  refine g_if_eq 5 16 hC dX9_similarityBits_5 (by decide) (fun hc => ?_) (fun hc => ?_)
  · replace h := h.1 hc
    refine g_iconst (v := (-1 : Int32)) 16 hC dX9_similarityBits_16 (by decide) ?_
    exact g_iret 17 hC hR dX9_similarityBits_17 ⟨mone, mother, moneLong, motherLong, mfar, rfl, h⟩
  · replace h := h.2 hc
    refine g_aload_n 8 0 hC dX9_similarityBits_8 rfl ?_
    refine g_iload_n 9 2 hC dX9_similarityBits_9 rfl ?_
    refine g_cVi (As := [.int x2]) (rest := []) 10 0 [0, 1] hC (c_X9_isSaying l D cI cS cT ad b0 x2 mnow mundoMany mtokens moneLong motherLong medits mgroups _ h) kX9_isSaying wq_215 dX9_similarityBits_10 rfl rfl ⟨Nat.le_of_ble_eq_true rfl, Nat.le_of_ble_eq_true rfl⟩ rfl rfl (Nat.zero_le _) (Nat.zero_le _) rfl rfl rfl (Nat.le_of_ble_eq_true rfl) ?_
    rintro r2 _ ⟨rfl, h⟩
    refine ⟨Nat.le_of_ble_eq_true rfl, G.upd [2, 3, 4] (Wd_X9_similarityBits cI cS cT ad b0 mnow mundoMany mtokens mone mother moneLong motherLong mfar medits mgroups) rfl rfl rfl rfl rfl ?_⟩
    refine g_if_ne 13 18 hC dX9_similarityBits_13 (by decide) (fun hc => ?_) (fun hc => ?_)
    · replace h := h.1 hc
      refine g_aload_n 18 0 hC dX9_similarityBits_18 rfl ?_
      refine g_iload_n 19 1 hC dX9_similarityBits_19 rfl ?_
      refine g_iload_n 20 2 hC dX9_similarityBits_20 rfl ?_
      refine g_cVi (As := [.int x1, .int x2]) (rest := []) 21 0 [0, 1, 2, 3, 4] hC (c_X9_distanceOf l D cI cS cT ad b0 x1 x2 mnow mundoMany mtokens mone mother moneLong motherLong mfar medits mgroups _ h) kX9_distanceOf wq_323 dX9_similarityBits_21 rfl rfl ⟨Nat.le_of_ble_eq_true rfl, Nat.le_of_ble_eq_true rfl⟩ rfl rfl (Nat.zero_le _) (Nat.zero_le _) rfl rfl rfl (Nat.le_of_ble_eq_true rfl) ?_
      rintro r8 _ ⟨u3, u4, u5, u6, u7, rfl, h⟩
      refine ⟨Nat.le_of_ble_eq_true rfl, G.upd [] (Wd_X9_similarityBits cI cS cT ad b0 mnow mundoMany mtokens u3 u4 u5 u6 u7 medits mgroups) rfl rfl rfl rfl rfl ?_⟩
      refine g_i2f 24 hC dX9_similarityBits_24 ?_
      refine g_aload_n 25 0 hC dX9_similarityBits_25 rfl ?_
      refine g_get 26 0 0 hC inlX9 wq_104 dX9_similarityBits_26 rfl rfl (by decide) rfl ?_
      refine g_sipush (v := (188 : Int32)) 29 hC dX9_similarityBits_29 (by decide) ?_
      refine g_iald 32 1 hC dX9_similarityBits_32 rfl rfl (by unfold vp_in; decide) ?_
      refine g_aload_n 33 0 hC dX9_similarityBits_33 rfl ?_
      refine g_get 34 0 0 hC inlX9 wq_104 dX9_similarityBits_34 rfl rfl (by decide) rfl ?_
      refine g_iconst (v := (1 : Int32)) 37 hC dX9_similarityBits_37 (by decide) ?_
      refine g_iload_n 38 1 hC dX9_similarityBits_38 rfl ?_
      refine g_iadd 39 hC dX9_similarityBits_39 ?_
      obtain ⟨hj, h⟩ := h
      refine g_iald 40 1 hC dX9_similarityBits_40 rfl rfl hj ?_
      refine g_aload_n 41 0 hC dX9_similarityBits_41 rfl ?_
      refine g_get 42 0 0 hC inlX9 wq_104 dX9_similarityBits_42 rfl rfl (by decide) rfl ?_
      refine g_iconst (v := (1 : Int32)) 45 hC dX9_similarityBits_45 (by decide) ?_
      refine g_iload_n 46 2 hC dX9_similarityBits_46 rfl ?_
      refine g_iadd 47 hC dX9_similarityBits_47 ?_
      obtain ⟨hj, h⟩ := h
      refine g_iald 48 1 hC dX9_similarityBits_48 rfl rfl hj ?_
      refine g_iadd 49 hC dX9_similarityBits_49 ?_
      refine g_imul 50 hC dX9_similarityBits_50 ?_
      refine g_i2f 51 hC dX9_similarityBits_51 ?_
      obtain ⟨hf, h⟩ := h
      refine g_fdiv 52 hC dX9_similarityBits_52 hf ?_
      refine g_fstore_n 53 [(3, .float (FP.fdiv (FP.i2f r8) (FP.i2f ((mnow (Int32.toNatClampNeg (188 : Int32))) * ((mnow (Int32.toNatClampNeg ((1 : Int32) + x1))) + (mnow (Int32.toNatClampNeg ((1 : Int32) + x2)))))))), (0, .ref (ad b0)), (1, .int x1), (2, .int x2)] hC dX9_similarityBits_53 (by rw [hn]; decide) rfl ?_
      refine g_fconst1 54 hC dX9_similarityBits_54 ?_
      refine g_fload_n 55 0 hC dX9_similarityBits_55 rfl ?_
      obtain ⟨hf, h⟩ := h
      refine g_fsub 56 hC dX9_similarityBits_56 hf ?_
      refine g_cSi (As := [.float (FP.fsub FP.fconst1 (FP.fdiv (FP.i2f r8) (FP.i2f ((mnow (Int32.toNatClampNeg (188 : Int32))) * ((mnow (Int32.toNatClampNeg ((1 : Int32) + x1))) + (mnow (Int32.toNatClampNeg ((1 : Int32) + x2))))))))]) (rest := []) 57 [] hC (c_Jxf58ca_floatToIntBits_5c35a l D cI cS cT ad (FP.fsub FP.fconst1 (FP.fdiv (FP.i2f r8) (FP.i2f ((mnow (Int32.toNatClampNeg (188 : Int32))) * ((mnow (Int32.toNatClampNeg ((1 : Int32) + x1))) + (mnow (Int32.toNatClampNeg ((1 : Int32) + x2)))))))) _ h) kJxf58ca_floatToIntBits_5c35a wq_372 dX9_similarityBits_57 ⟨Nat.le_of_ble_eq_true rfl, Nat.le_of_ble_eq_true rfl⟩ rfl rfl (Nat.zero_le _) (Nat.zero_le _) rfl rfl rfl (Nat.le_of_ble_eq_true rfl) ?_
      rintro r9 _ ⟨rfl, h⟩
      refine ⟨Nat.le_of_ble_eq_true rfl, G.upd [0, 1, 2, 3, 4] (Wd_X9_similarityBits cI cS cT ad b0 mnow mundoMany mtokens u3 u4 u5 u6 u7 medits mgroups) rfl rfl rfl rfl rfl ?_⟩
      exact g_iret 60 hC hR dX9_similarityBits_60 ⟨u3, u4, u5, u6, u7, rfl, h⟩
    · replace h := h.2 hc
      refine g_iconst (v := (-1 : Int32)) 16 hC dX9_similarityBits_16 (by decide) ?_
      exact g_iret 17 hC hR dX9_similarityBits_17 ⟨mone, mother, moneLong, motherLong, mfar, rfl, h⟩
