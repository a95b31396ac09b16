/-! written by wip/p31/gen/walk.py: worlds, predicates and contracts -/
/-! ===== ProverbCollection$Sequence.at(I)I ===== -/
def Wd_X5_at (cI cS cT : ClassId) (ad : Nat → Nat) (b0 : Nat) (ln : Int32) (tk : Nat → Int32) : va_W := [(ad b0, .inr (5, [.ref (ad (b0 + 1)), .int ln])), (ad (b0 + 1), .inl (cI, 8, .inl tk))]
def rm_X5_at : Room := { frames := 0, cells := 0, slots := 0, locals := 0 }
theorem kX5_at : KV yX5_at cX5_at 2 (some .int) 1 := ⟨wq_184, wq_12, wq_182, wq_183, by decide +kernel⟩
def P_X5_at (x1 : Int32) (ln : Int32) (tk : Nat → Int32) (post : Int32 → Prop) : Prop :=
  (x1 < 0 → post (-1 : Int32)) ∧ (¬ x1 < 0 → ((ln ≤ x1 → post (-1 : Int32)) ∧ (¬ ln ≤ x1 → (vp_in x1 8 ∧ (post (tk (Int32.toNatClampNeg x1)))))))
set_option maxHeartbeats 4000000 in
set_option maxRecDepth 100000 in
theorem c_X5_at (l : Launch) (D : va_G) (cI cS cT : ClassId) (ad : Nat → Nat) (b0 : Nat) (x1 : Int32) (ln : Int32) (tk : Nat → Int32) (post : Int32 → Prop) (h : P_X5_at x1 ln tk post) : MI l D (TY cI cS cT) yX5_at cX5_at 2 (some .int) rm_X5_at [.ref (ad b0), .int x1] (Wd_X5_at cI cS cT ad b0 ln tk) (fun (r : Int32) w => w = (Wd_X5_at cI cS cT ad b0 ln tk) ∧ post r) := by
  refine MI.of (by decide) (Nat.le_of_ble_eq_true rfl) (fun E hC hR hn => ?_)
  replace hC : Cx l D (TY cI cS cT) E rm_X5_at cX5_at RX5 := hC
  replace hR : RetI D E (fun (r : Int32) w => w = (Wd_X5_at cI cS cT ad b0 ln tk) ∧ post r) 0 0 (some .int) := hR
  unfold P_X5_at at h
  change G l D E 0 0 _ [(0, .ref (ad b0)), (1, .int x1)] 0 []
  refine g_iload_n 0 1 hC dX5_at_0 rfl ?_
  refine g_if_lt 1 21 hC dX5_at_1 (by decide) (fun hc => ?_) (fun hc => ?_)
  · replace h := h.1 hc
    refine g_iconst (v := (-1 : Int32)) 21 hC dX5_at_21 (by decide) ?_
    exact g_iret 22 hC hR dX5_at_22 ⟨rfl, h⟩
  · replace h := h.2 hc
    refine g_iload_n 4 1 hC dX5_at_4 rfl ?_
    refine g_aload_n 5 0 hC dX5_at_5 rfl ?_
    refine g_get 6 0 1 hC inlX5 wq_167 dX5_at_6 rfl rfl (by decide) rfl ?_
    refine g_icmp_ge 9 21 hC dX5_at_9 (by decide) (fun hc => ?_) (fun hc => ?_)
    · replace h := h.1 hc
      refine g_iconst (v := (-1 : Int32)) 21 hC dX5_at_21 (by decide) ?_
      exact g_iret 22 hC hR dX5_at_22 ⟨rfl, h⟩
    · replace h := h.2 hc
      refine g_aload_n 12 0 hC dX5_at_12 rfl ?_
      refine g_get 13 0 0 hC inlX5 wq_42 dX5_at_13 rfl rfl (by decide) rfl ?_
      refine g_iload_n 16 1 hC dX5_at_16 rfl ?_
      obtain ⟨hj, h⟩ := h
      refine g_iald 17 1 hC dX5_at_17 rfl rfl hj ?_
      refine g_goto 18 22 hC dX5_at_18 (by decide) ?_
      exact g_iret 22 hC hR dX5_at_22 ⟨rfl, h⟩

/-! ===== ProverbCollection$Sequence.add(I)V ===== -/
def Wd_X5_add (cI cS cT : ClassId) (ad : Nat → Nat) (b0 : Nat) (ln : Int32) (tk : Nat → Int32) : va_W := [(ad b0, .inr (5, [.ref (ad (b0 + 1)), .int ln])), (ad (b0 + 1), .inl (cI, 8, .inl tk))]
def rm_X5_add : Room := { frames := 0, cells := 0, slots := 0, locals := 0 }
theorem kX5_add : KV yX5_add cX5_add 2 none 1 := ⟨wq_166, wq_12, wq_164, wq_165, by decide +kernel⟩
def P_X5_add (x1 : Int32) (ln : Int32) (tk : Nat → Int32) (post : Int32 → (Nat → Int32) → Prop) : Prop :=
  ((8 : Int32) ≤ ln → post ln tk) ∧ (¬ (8 : Int32) ≤ ln → (vp_in ln 8 ∧ (post (ln + (1 : Int32)) (upd tk (Int32.toNatClampNeg ln) x1))))
set_option maxHeartbeats 4000000 in
set_option maxRecDepth 100000 in
theorem c_X5_add (l : Launch) (D : va_G) (cI cS cT : ClassId) (ad : Nat → Nat) (b0 : Nat) (x1 : Int32) (ln : Int32) (tk : Nat → Int32) (post : Int32 → (Nat → Int32) → Prop) (h : P_X5_add x1 ln tk post) : MV l D (TY cI cS cT) yX5_add cX5_add 2 rm_X5_add [.ref (ad b0), .int x1] (Wd_X5_add cI cS cT ad b0 ln tk) (fun w => ∃ (u_ln : Int32) (u_tk : Nat → Int32), w = (Wd_X5_add cI cS cT ad b0 u_ln u_tk) ∧ post u_ln u_tk) := by
  refine MV.of (by decide) (Nat.le_of_ble_eq_true rfl) (fun E hC hR hn => ?_)
  replace hC : Cx l D (TY cI cS cT) E rm_X5_add cX5_add RX5 := hC
  replace hR : RetV D E (fun w => ∃ (u_ln : Int32) (u_tk : Nat → Int32), w = (Wd_X5_add cI cS cT ad b0 u_ln u_tk) ∧ post u_ln u_tk) 0 0 := hR
  unfold P_X5_add at h
  change G l D E 0 0 _ [(0, .ref (ad b0)), (1, .int x1)] 0 []
  refine g_aload_n 0 0 hC dX5_add_0 rfl ?_
  refine g_get 1 0 1 hC inlX5 wq_167 dX5_add_1 rfl rfl (by decide) rfl ?_
  refine g_bipush (v := (8 : Int32)) 4 hC dX5_add_4 (by decide) ?_
  refine g_icmp_ge 6 29 hC dX5_add_6 (by decide) (fun hc => ?_) (fun hc => ?_)
  · replace h := h.1 hc
    exact g_vret 29 hC hR dX5_add_29 ⟨ln, tk, rfl, h⟩
  · replace h := h.2 hc
    refine g_aload_n 9 0 hC dX5_add_9 rfl ?_
    refine g_get 10 0 0 hC inlX5 wq_42 dX5_add_10 rfl rfl (by decide) rfl ?_
    refine g_aload_n 13 0 hC dX5_add_13 rfl ?_
    refine g_get 14 0 1 hC inlX5 wq_167 dX5_add_14 rfl rfl (by decide) rfl ?_
    refine g_iload_n 17 1 hC dX5_add_17 rfl ?_
    obtain ⟨hj, h⟩ := h
    refine g_iast 18 1 (Wd_X5_add cI cS cT ad b0 ln (upd tk (Int32.toNatClampNeg ln) x1)) hC dX5_add_18 rfl rfl hj rfl ?_
    refine g_aload_n 19 0 hC dX5_add_19 rfl ?_
    refine g_dup 20 hC dX5_add_20 rfl ?_
    refine g_get 21 0 1 hC inlX5 wq_167 dX5_add_21 rfl rfl (by decide) rfl ?_
    refine g_iconst (v := (1 : Int32)) 24 hC dX5_add_24 (by decide) ?_
    refine g_iadd 25 hC dX5_add_25 ?_
    refine g_put 26 0 1 (Wd_X5_add cI cS cT ad b0 (ln + (1 : Int32)) (upd tk (Int32.toNatClampNeg ln) x1)) hC inlX5 tyX5_ok nmX5 wq_167 dX5_add_26 rfl rfl (by decide) rfl rfl (Nat.le_of_ble_eq_true rfl) rfl ?_
    exact g_vret 29 hC hR dX5_add_29 ⟨(ln + (1 : Int32)), (upd tk (Int32.toNatClampNeg ln) x1), rfl, h⟩

/-! ===== ProverbCollection$Sequence.wordCount()I ===== -/
def Wd_X5_wordCount (cI cS cT : ClassId) (ad : Nat → Nat) (b0 : Nat) (ln : Int32) (tk : Nat → Int32) : va_W := [(ad b0, .inr (5, [.ref (ad (b0 + 1)), .int ln])), (ad (b0 + 1), .inl (cI, 8, .inl tk))]
def rm_X5_wordCount : Room := { frames := 0, cells := 0, slots := 0, locals := 0 }
theorem kX5_wordCount : KV yX5_wordCount cX5_wordCount 3 (some .int) 0 := ⟨wq_216, wq_12, wq_214, wq_215, by decide +kernel⟩
def B_X5_wordCount_4 (ln : Int32) (tk : Nat → Int32) (K : Int32 → Int32 → Prop) (rc : Int32 → Int32 → Prop) (v2 : Int32) (v1 : Int32) : Prop :=
  (ln ≤ v2 → K v2 v1) ∧ (¬ ln ≤ v2 → (vp_in v2 8 ∧ (((60 : Int32) ≤ (tk (Int32.toNatClampNeg v2)) → rc (v2 + (1 : Int32)) (v1 + (0 : Int32))) ∧ (¬ (60 : Int32) ≤ (tk (Int32.toNatClampNeg v2)) → rc (v2 + (1 : Int32)) (v1 + (1 : Int32))))))
def P_X5_wordCount_4 (ln : Int32) (tk : Nat → Int32) (K : Int32 → Int32 → Prop) : Nat → Int32 → Int32 → Prop
  | 0 => fun _ _ => False
  | n + 1 => fun v2 v1 => B_X5_wordCount_4 ln tk K (P_X5_wordCount_4 ln tk K n) v2 v1
def P_X5_wordCount (ln : Int32) (tk : Nat → Int32) (post : Int32 → Prop) : Prop :=
  ∃ n : Nat, P_X5_wordCount_4 ln tk (fun w2_1 w1_1 => post w1_1) n (0 : Int32) (0 : Int32)
set_option maxHeartbeats 4000000 in
set_option maxRecDepth 100000 in
theorem L_X5_wordCount_4 {l : Launch} {D : va_G} {cI cS cT : ClassId} {ad : Nat → Nat} {b0 : Nat} {E : CE} {ln : Int32} {tk : Nat → Int32} {post : Int32 → Prop} (hC : Cx l D (TY cI cS cT) E rm_X5_wordCount cX5_wordCount RX5) (hR : RetI D E (fun (r : Int32) w => w = (Wd_X5_wordCount cI cS cT ad b0 ln tk) ∧ post r) 0 0 (some .int)) (hn : E.nL = 3) (K : Int32 → Int32 → Prop) (hK : ∀ (v2 : Int32) (v1 : Int32), K v2 v1 → G l D E 0 0 (Wd_X5_wordCount cI cS cT ad b0 ln tk) [(2, .int v2), (1, .int v1), (0, .ref (ad b0))] 37 []) : ∀ (n : Nat) (v2 : Int32) (v1 : Int32), P_X5_wordCount_4 ln tk K n v2 v1 → G l D E 0 0 (Wd_X5_wordCount cI cS cT ad b0 ln tk) [(2, .int v2), (1, .int v1), (0, .ref (ad b0))] 4 [] := by
  intro n
  induction n with
  | zero => exact fun _ _ h => h.elim
  | succ n ih =>
    intro v2 v1 h
    replace h : B_X5_wordCount_4 ln tk K (P_X5_wordCount_4 ln tk K n) v2 v1 := h
    unfold B_X5_wordCount_4 at h
    refine g_iload_n 4 0 hC dX5_wordCount_4 rfl ?_
    refine g_aload_n 5 2 hC dX5_wordCount_5 rfl ?_
    refine g_get 6 0 1 hC inlX5 wq_167 dX5_wordCount_6 rfl rfl (by decide) rfl ?_
    refine g_icmp_ge 9 37 hC dX5_wordCount_9 (by decide) (fun hc => ?_) (fun hc => ?_)
    · replace h := h.1 hc
      refine G.sub [0, 1, 2] rfl ?_
      exact hK v2 v1 h
    · replace h := h.2 hc
      refine g_iload_n 12 1 hC dX5_wordCount_12 rfl ?_
      refine g_aload_n 13 2 hC dX5_wordCount_13 rfl ?_
      refine g_get 14 0 0 hC inlX5 wq_42 dX5_wordCount_14 rfl rfl (by decide) rfl ?_
      refine g_iload_n 17 0 hC dX5_wordCount_17 rfl ?_
      obtain ⟨hj, h⟩ := h
      refine g_iald 18 1 hC dX5_wordCount_18 rfl rfl hj ?_
      refine g_bipush (v := (60 : Int32)) 19 hC dX5_wordCount_19 (by decide) ?_
      refine g_icmp_ge 21 28 hC dX5_wordCount_21 (by decide) (fun hc => ?_) (fun hc => ?_)
      · replace h := h.1 hc
        refine g_iconst (v := (0 : Int32)) 28 hC dX5_wordCount_28 (by decide) ?_
        refine g_iadd 29 hC dX5_wordCount_29 ?_
        refine g_istore_n 30 [(1, .int (v1 + (0 : Int32))), (2, .int v2), (0, .ref (ad b0))] hC dX5_wordCount_30 (by rw [hn]; decide) rfl ?_
        refine g_iinc (v := (1 : Int32)) 31 1 [(2, .int (v2 + (1 : Int32))), (1, .int (v1 + (0 : Int32))), (0, .ref (ad b0))] hC dX5_wordCount_31 rfl (by decide) (by rw [hn]; decide) rfl ?_
        refine g_goto 34 4 hC dX5_wordCount_34 (by decide) ?_
        refine G.sub [0, 1, 2] rfl ?_
        exact ih _ _ h
      · replace h := h.2 hc
        refine g_iconst (v := (1 : Int32)) 24 hC dX5_wordCount_24 (by decide) ?_
        refine g_goto 25 29 hC dX5_wordCount_25 (by decide) ?_
        refine g_iadd 29 hC dX5_wordCount_29 ?_
        refine g_istore_n 30 [(1, .int (v1 + (1 : Int32))), (2, .int v2), (0, .ref (ad b0))] hC dX5_wordCount_30 (by rw [hn]; decide) rfl ?_
        refine g_iinc (v := (1 : Int32)) 31 1 [(2, .int (v2 + (1 : Int32))), (1, .int (v1 + (1 : Int32))), (0, .ref (ad b0))] hC dX5_wordCount_31 rfl (by decide) (by rw [hn]; decide) rfl ?_
        refine g_goto 34 4 hC dX5_wordCount_34 (by decide) ?_
        refine G.sub [0, 1, 2] rfl ?_
        exact ih _ _ h
set_option maxHeartbeats 4000000 in
set_option maxRecDepth 100000 in
theorem c_X5_wordCount (l : Launch) (D : va_G) (cI cS cT : ClassId) (ad : Nat → Nat) (b0 : Nat) (ln : Int32) (tk : Nat → Int32) (post : Int32 → Prop) (h : P_X5_wordCount ln tk post) : MI l D (TY cI cS cT) yX5_wordCount cX5_wordCount 3 (some .int) rm_X5_wordCount [.ref (ad b0)] (Wd_X5_wordCount cI cS cT ad b0 ln tk) (fun (r : Int32) w => w = (Wd_X5_wordCount cI cS cT ad b0 ln tk) ∧ post r) := by
  refine MI.of (by decide) (Nat.le_of_ble_eq_true rfl) (fun E hC hR hn => ?_)
  replace hC : Cx l D (TY cI cS cT) E rm_X5_wordCount cX5_wordCount RX5 := hC
  replace hR : RetI D E (fun (r : Int32) w => w = (Wd_X5_wordCount cI cS cT ad b0 ln tk) ∧ post r) 0 0 (some .int) := hR
  unfold P_X5_wordCount at h
  change G l D E 0 0 _ [(0, .ref (ad b0))] 0 []
  refine g_iconst (v := (0 : Int32)) 0 hC dX5_wordCount_0 (by decide) ?_
  refine g_istore_n 1 [(1, .int (0 : Int32)), (0, .ref (ad b0))] hC dX5_wordCount_1 (by rw [hn]; decide) rfl ?_
  refine g_iconst (v := (0 : Int32)) 2 hC dX5_wordCount_2 (by decide) ?_
  refine g_istore_n 3 [(2, .int (0 : Int32)), (1, .int (0 : Int32)), (0, .ref (ad b0))] hC dX5_wordCount_3 (by rw [hn]; decide) rfl ?_
  obtain ⟨n, h⟩ := h
  refine L_X5_wordCount_4 hC hR hn _ (fun w2_1 w1_1 h => ?_) n _ _ h
  refine g_iload_n 37 1 hC dX5_wordCount_37 rfl ?_
  exact g_iret 38 hC hR dX5_wordCount_38 ⟨rfl, h⟩

/-! ===== ProverbCollection.copyAll([I[I)V ===== -/
def Wd_X8_copyAll (cI cS cT : ClassId) (ad : Nat → Nat) (b0 : Nat) (b1 : Nat) (fN : Nat) (f2N : Nat) (fa : Nat → Int32) (f2a : Nat → Int32) : va_W := [(ad b0, .inl (cI, fN, .inl fa)), (ad b1, .inl (cI, f2N, .inl f2a))]
def rm_X8_copyAll : Room := { frames := 1, cells := 0, slots := 0, locals := 40 }
theorem kX8_copyAll : KS yX8_copyAll cX8_copyAll 2 none 2 := ⟨wq_114, wq_3, wq_113, by decide +kernel⟩
def P_X8_copyAll (fN : Nat) (f2N : Nat) (fa : Nat → Int32) (f2a : Nat → Int32) (post : (Nat → Int32) → Prop) : Prop :=
  (¬ (0 : Int32) < 0 ∧ ¬ (0 : Int32) < 0 ∧ ¬ (if (Int32.ofNat f2N) < (Int32.ofNat fN) then (Int32.ofNat f2N) else (Int32.ofNat fN)) < 0 ∧ (Int32.toNatClampNeg (0 : Int32)) + (Int32.toNatClampNeg (if (Int32.ofNat f2N) < (Int32.ofNat fN) then (Int32.ofNat f2N) else (Int32.ofNat fN))) ≤ fN ∧ (Int32.toNatClampNeg (0 : Int32)) + (Int32.toNatClampNeg (if (Int32.ofNat f2N) < (Int32.ofNat fN) then (Int32.ofNat f2N) else (Int32.ofNat fN))) ≤ f2N) ∧ (post (va_cpy fa f2a (Int32.toNatClampNeg (0 : Int32)) (Int32.toNatClampNeg (0 : Int32)) (Int32.toNatClampNeg (if (Int32.ofNat f2N) < (Int32.ofNat fN) then (Int32.ofNat f2N) else (Int32.ofNat fN)))))
set_option maxHeartbeats 4000000 in
set_option maxRecDepth 100000 in
theorem c_X8_copyAll (l : Launch) (D : va_G) (cI cS cT : ClassId) (ad : Nat → Nat) (b0 : Nat) (b1 : Nat) (fN : Nat) (f2N : Nat) (fa : Nat → Int32) (f2a : Nat → Int32) (post : (Nat → Int32) → Prop) (h : P_X8_copyAll fN f2N fa f2a post) : MV l D (TY cI cS cT) yX8_copyAll cX8_copyAll 2 rm_X8_copyAll [.ref (ad b0), .ref (ad b1)] (Wd_X8_copyAll cI cS cT ad b0 b1 fN f2N fa f2a) (fun w => ∃ (u_f2a : Nat → Int32), w = (Wd_X8_copyAll cI cS cT ad b0 b1 fN f2N fa u_f2a) ∧ post u_f2a) := by
  refine MV.of (by decide) (Nat.le_of_ble_eq_true rfl) (fun E hC hR hn => ?_)
  replace hC : Cx l D (TY cI cS cT) E rm_X8_copyAll cX8_copyAll RX8 := hC
  replace hR : RetV D E (fun w => ∃ (u_f2a : Nat → Int32), w = (Wd_X8_copyAll cI cS cT ad b0 b1 fN f2N fa u_f2a) ∧ post u_f2a) 0 0 := hR
  unfold P_X8_copyAll at h
  change G l D E 0 0 _ [(0, .ref (ad b0)), (1, .ref (ad b1))] 0 []
  refine g_aload_n 0 0 hC dX8_copyAll_0 rfl ?_
  refine g_iconst (v := (0 : Int32)) 1 hC dX8_copyAll_1 (by decide) ?_
  refine g_aload_n 2 1 hC dX8_copyAll_2 rfl ?_
  refine g_iconst (v := (0 : Int32)) 3 hC dX8_copyAll_3 (by decide) ?_
  refine g_aload_n 4 0 hC dX8_copyAll_4 rfl ?_
  refine g_alen 5 0 0 hC dX8_copyAll_5 rfl rfl ?_
  refine g_aload_n 6 1 hC dX8_copyAll_6 rfl ?_
  refine g_alen 7 1 0 hC dX8_copyAll_7 rfl rfl ?_
  refine g_min 8 hC wq_115 dX8_copyAll_8 (Nat.le_of_ble_eq_true rfl) (Nat.le_of_ble_eq_true rfl) (Nat.zero_le _) (Nat.zero_le _) ?_
  obtain ⟨⟨h1, h2, h3, h4, h5⟩, h⟩ := h
  refine g_copy 11 0 1 (Wd_X8_copyAll cI cS cT ad b0 b1 fN f2N fa (va_cpy fa f2a (Int32.toNatClampNeg (0 : Int32)) (Int32.toNatClampNeg (0 : Int32)) (Int32.toNatClampNeg (if (Int32.ofNat f2N) < (Int32.ofNat fN) then (Int32.ofNat f2N) else (Int32.ofNat fN))))) hC wq_119 dX8_copyAll_11 rfl rfl rfl rfl h1 h2 h3 h4 h5 (Nat.le_of_ble_eq_true rfl) (Nat.le_of_ble_eq_true rfl) rfl ?_
  exact g_vret 14 hC hR dX8_copyAll_14 ⟨(va_cpy fa f2a (Int32.toNatClampNeg (0 : Int32)) (Int32.toNatClampNeg (0 : Int32)) (Int32.toNatClampNeg (if (Int32.ofNat f2N) < (Int32.ofNat fN) then (Int32.ofNat f2N) else (Int32.ofNat fN)))), rfl, h⟩

/-! ===== ProverbCollection.closeUp([III)V ===== -/
def Wd_X8_closeUp (cI cS cT : ClassId) (ad : Nat → Nat) (b0 : Nat) (fN : Nat) (fa : Nat → Int32) : va_W := [(ad b0, .inl (cI, fN, .inl fa))]
def rm_X8_closeUp : Room := { frames := 1, cells := 0, slots := 0, locals := 40 }
theorem kX8_closeUp : KS yX8_closeUp cX8_closeUp 4 none 3 := ⟨wq_253, wq_3, wq_252, by decide +kernel⟩
def P_X8_closeUp (fN : Nat) (x1 : Int32) (x2 : Int32) (fa : Nat → Int32) (post : (Nat → Int32) → Prop) : Prop :=
  (x1 < 0 → post fa) ∧ (¬ x1 < 0 → ((x2 ≤ 0 → post fa) ∧ (¬ x2 ≤ 0 → (((Int32.ofNat fN) < ((x1 + (1 : Int32)) * x2) → post fa) ∧ (¬ (Int32.ofNat fN) < ((x1 + (1 : Int32)) * x2) → ((¬ ((x1 + (1 : Int32)) * x2) < 0 ∧ ¬ (x1 * x2) < 0 ∧ ¬ ((Int32.ofNat fN) - ((x1 + (1 : Int32)) * x2)) < 0 ∧ (Int32.toNatClampNeg ((x1 + (1 : Int32)) * x2)) + (Int32.toNatClampNeg ((Int32.ofNat fN) - ((x1 + (1 : Int32)) * x2))) ≤ fN ∧ (Int32.toNatClampNeg (x1 * x2)) + (Int32.toNatClampNeg ((Int32.ofNat fN) - ((x1 + (1 : Int32)) * x2))) ≤ fN) ∧ (post (va_cpy fa fa (Int32.toNatClampNeg ((x1 + (1 : Int32)) * x2)) (Int32.toNatClampNeg (x1 * x2)) (Int32.toNatClampNeg ((Int32.ofNat fN) - ((x1 + (1 : Int32)) * x2)))))))))))
set_option maxHeartbeats 4000000 in
set_option maxRecDepth 100000 in
theorem c_X8_closeUp (l : Launch) (D : va_G) (cI cS cT : ClassId) (ad : Nat → Nat) (b0 : Nat) (fN : Nat) (x1 : Int32) (x2 : Int32) (fa : Nat → Int32) (post : (Nat → Int32) → Prop) (h : P_X8_closeUp fN x1 x2 fa post) : MV l D (TY cI cS cT) yX8_closeUp cX8_closeUp 4 rm_X8_closeUp [.ref (ad b0), .int x1, .int x2] (Wd_X8_closeUp cI cS cT ad b0 fN fa) (fun w => ∃ (u_fa : Nat → Int32), w = (Wd_X8_closeUp cI cS cT ad b0 fN u_fa) ∧ post u_fa) := by
  refine MV.of (by decide) (Nat.le_of_ble_eq_true rfl) (fun E hC hR hn => ?_)
  replace hC : Cx l D (TY cI cS cT) E rm_X8_closeUp cX8_closeUp RX8 := hC
  replace hR : RetV D E (fun w => ∃ (u_fa : Nat → Int32), w = (Wd_X8_closeUp cI cS cT ad b0 fN u_fa) ∧ post u_fa) 0 0 := hR
  unfold P_X8_closeUp at h
  change G l D E 0 0 _ [(0, .ref (ad b0)), (1, .int x1), (2, .int x2)] 0 []
  refine g_iload_n 0 1 hC dX8_closeUp_0 rfl ?_
  refine g_iconst (v := (1 : Int32)) 1 hC dX8_closeUp_1 (by decide) ?_
  refine g_iadd 2 hC dX8_closeUp_2 ?_
  refine g_iload_n 3 2 hC dX8_closeUp_3 rfl ?_
  refine g_imul 4 hC dX8_closeUp_4 ?_
  refine g_istore_n 5 [(3, .int ((x1 + (1 : Int32)) * x2)), (0, .ref (ad b0)), (1, .int x1), (2, .int x2)] hC dX8_closeUp_5 (by rw [hn]; decide) rfl ?_
  refine g_iload_n 6 2 hC dX8_closeUp_6 rfl ?_
  refine g_if_lt 7 33 hC dX8_closeUp_7 (by decide) (fun hc => ?_) (fun hc => ?_)
  · replace h := h.1 hc
    exact g_vret 33 hC hR dX8_closeUp_33 ⟨fa, rfl, h⟩
  · replace h := h.2 hc
    refine g_iload_n 10 3 hC dX8_closeUp_10 rfl ?_
    refine g_if_le 11 33 hC dX8_closeUp_11 (by decide) (fun hc => ?_) (fun hc => ?_)
    · replace h := h.1 hc
      exact g_vret 33 hC hR dX8_closeUp_33 ⟨fa, rfl, h⟩
    · replace h := h.2 hc
      refine g_iload_n 14 0 hC dX8_closeUp_14 rfl ?_
      refine g_aload_n 15 1 hC dX8_closeUp_15 rfl ?_
      refine g_alen 16 0 0 hC dX8_closeUp_16 rfl rfl ?_
      refine g_icmp_gt 17 33 hC dX8_closeUp_17 (by decide) (fun hc => ?_) (fun hc => ?_)
      · replace h := h.1 hc
        exact g_vret 33 hC hR dX8_closeUp_33 ⟨fa, rfl, h⟩
      · replace h := h.2 hc
        refine g_aload_n 20 1 hC dX8_closeUp_20 rfl ?_
        refine g_iload_n 21 0 hC dX8_closeUp_21 rfl ?_
        refine g_aload_n 22 1 hC dX8_closeUp_22 rfl ?_
        refine g_iload_n 23 2 hC dX8_closeUp_23 rfl ?_
        refine g_iload_n 24 3 hC dX8_closeUp_24 rfl ?_
        refine g_imul 25 hC dX8_closeUp_25 ?_
        refine g_aload_n 26 1 hC dX8_closeUp_26 rfl ?_
        refine g_alen 27 0 0 hC dX8_closeUp_27 rfl rfl ?_
        refine g_iload_n 28 0 hC dX8_closeUp_28 rfl ?_
        refine g_isub 29 hC dX8_closeUp_29 ?_
        obtain ⟨⟨h1, h2, h3, h4, h5⟩, h⟩ := h
        refine g_copy 30 0 0 (Wd_X8_closeUp cI cS cT ad b0 fN (va_cpy fa fa (Int32.toNatClampNeg ((x1 + (1 : Int32)) * x2)) (Int32.toNatClampNeg (x1 * x2)) (Int32.toNatClampNeg ((Int32.ofNat fN) - ((x1 + (1 : Int32)) * x2))))) hC wq_119 dX8_closeUp_30 rfl rfl rfl rfl h1 h2 h3 h4 h5 (Nat.le_of_ble_eq_true rfl) (Nat.le_of_ble_eq_true rfl) rfl ?_
        exact g_vret 33 hC hR dX8_closeUp_33 ⟨(va_cpy fa fa (Int32.toNatClampNeg ((x1 + (1 : Int32)) * x2)) (Int32.toNatClampNeg (x1 * x2)) (Int32.toNatClampNeg ((Int32.ofNat fN) - ((x1 + (1 : Int32)) * x2)))), rfl, h⟩

/-! ===== ProverbCollection$Shelf.isFull()Z ===== -/
def Wd_X6_isFull (cI cS cT : ClassId) (ad : Nat → Nat) (b0 : Nat) (mo : Int32) (NT : Nat) (NL : Nat) (ct : Int32) : va_W := [(ad b0, .inr (6, [.int mo, .ref (ad (b0 + 1)), .ref (ad (b0 + 2)), .int ct]))]
def rm_X6_isFull : Room := { frames := 0, cells := 0, slots := 0, locals := 0 }
theorem kX6_isFull : KV yX6_isFull cX6_isFull 1 (some .boolean) 0 := ⟨wq_219, wq_48, wq_217, wq_218, by decide +kernel⟩
def P_X6_isFull (mo : Int32) (NT : Nat) (NL : Nat) (ct : Int32) (post : Int32 → Prop) : Prop :=
  (ct < mo → post (0 : Int32)) ∧ (¬ ct < mo → post (1 : Int32))
set_option maxHeartbeats 4000000 in
set_option maxRecDepth 100000 in
theorem c_X6_isFull (l : Launch) (D : va_G) (cI cS cT : ClassId) (ad : Nat → Nat) (b0 : Nat) (mo : Int32) (NT : Nat) (NL : Nat) (ct : Int32) (post : Int32 → Prop) (h : P_X6_isFull mo NT NL ct post) : MI l D (TY cI cS cT) yX6_isFull cX6_isFull 1 (some .boolean) rm_X6_isFull [.ref (ad b0)] (Wd_X6_isFull cI cS cT ad b0 mo NT NL ct) (fun (r : Int32) w => w = (Wd_X6_isFull cI cS cT ad b0 mo NT NL ct) ∧ post r) := by
  refine MI.of (by decide) (Nat.le_of_ble_eq_true rfl) (fun E hC hR hn => ?_)
  replace hC : Cx l D (TY cI cS cT) E rm_X6_isFull cX6_isFull RX6 := hC
  replace hR : RetI D E (fun (r : Int32) w => w = (Wd_X6_isFull cI cS cT ad b0 mo NT NL ct) ∧ post r) 0 0 (some .boolean) := hR
  unfold P_X6_isFull at h
  change G l D E 0 0 _ [(0, .ref (ad b0))] 0 []
  refine g_aload_n 0 0 hC dX6_isFull_0 rfl ?_
  refine g_get 1 0 3 hC inlX6 wq_112 dX6_isFull_1 rfl rfl (by decide) rfl ?_
  refine g_aload_n 4 0 hC dX6_isFull_4 rfl ?_
  refine g_get 5 0 0 hC inlX6 wq_58 dX6_isFull_5 rfl rfl (by decide) rfl ?_
  refine g_icmp_lt 8 15 hC dX6_isFull_8 (by decide) (fun hc => ?_) (fun hc => ?_)
  · replace h := h.1 hc
    refine g_iconst (v := (0 : Int32)) 15 hC dX6_isFull_15 (by decide) ?_
    exact g_zret 16 hC hR dX6_isFull_16 (by decide) ⟨rfl, h⟩
  · replace h := h.2 hc
    refine g_iconst (v := (1 : Int32)) 11 hC dX6_isFull_11 (by decide) ?_
    refine g_goto 12 16 hC dX6_isFull_12 (by decide) ?_
    exact g_zret 16 hC hR dX6_isFull_16 (by decide) ⟨rfl, h⟩

/-! ===== ProverbCollection$Shelf.has(I)Z ===== -/
def Wd_X6_has (cI cS cT : ClassId) (ad : Nat → Nat) (b0 : Nat) (mo : Int32) (NT : Nat) (NL : Nat) (ct : Int32) : va_W := [(ad b0, .inr (6, [.int mo, .ref (ad (b0 + 1)), .ref (ad (b0 + 2)), .int ct]))]
def rm_X6_has : Room := { frames := 0, cells := 0, slots := 0, locals := 0 }
theorem kX6_has : KV yX6_has cX6_has 2 (some .boolean) 1 := ⟨wq_148, wq_48, wq_146, wq_147, by decide +kernel⟩
def P_X6_has (mo : Int32) (NT : Nat) (NL : Nat) (x1 : Int32) (ct : Int32) (post : Int32 → Prop) : Prop :=
  (x1 < 0 → post (0 : Int32)) ∧ (¬ x1 < 0 → ((ct ≤ x1 → post (0 : Int32)) ∧ (¬ ct ≤ x1 → post (1 : Int32))))
set_option maxHeartbeats 4000000 in
set_option maxRecDepth 100000 in
theorem c_X6_has (l : Launch) (D : va_G) (cI cS cT : ClassId) (ad : Nat → Nat) (b0 : Nat) (mo : Int32) (NT : Nat) (NL : Nat) (x1 : Int32) (ct : Int32) (post : Int32 → Prop) (h : P_X6_has mo NT NL x1 ct post) : MI l D (TY cI cS cT) yX6_has cX6_has 2 (some .boolean) rm_X6_has [.ref (ad b0), .int x1] (Wd_X6_has cI cS cT ad b0 mo NT NL ct) (fun (r : Int32) w => w = (Wd_X6_has cI cS cT ad b0 mo NT NL ct) ∧ post r) := by
  refine MI.of (by decide) (Nat.le_of_ble_eq_true rfl) (fun E hC hR hn => ?_)
  replace hC : Cx l D (TY cI cS cT) E rm_X6_has cX6_has RX6 := hC
  replace hR : RetI D E (fun (r : Int32) w => w = (Wd_X6_has cI cS cT ad b0 mo NT NL ct) ∧ post r) 0 0 (some .boolean) := hR
  unfold P_X6_has at h
  change G l D E 0 0 _ [(0, .ref (ad b0)), (1, .int x1)] 0 []
  refine g_iload_n 0 1 hC dX6_has_0 rfl ?_
  refine g_if_lt 1 16 hC dX6_has_1 (by decide) (fun hc => ?_) (fun hc => ?_)
  · replace h := h.1 hc
    refine g_iconst (v := (0 : Int32)) 16 hC dX6_has_16 (by decide) ?_
    exact g_zret 17 hC hR dX6_has_17 (by decide) ⟨rfl, h⟩
  · replace h := h.2 hc
    refine g_iload_n 4 1 hC dX6_has_4 rfl ?_
    refine g_aload_n 5 0 hC dX6_has_5 rfl ?_
    refine g_get 6 0 3 hC inlX6 wq_112 dX6_has_6 rfl rfl (by decide) rfl ?_
    refine g_icmp_ge 9 16 hC dX6_has_9 (by decide) (fun hc => ?_) (fun hc => ?_)
    · replace h := h.1 hc
      refine g_iconst (v := (0 : Int32)) 16 hC dX6_has_16 (by decide) ?_
      exact g_zret 17 hC hR dX6_has_17 (by decide) ⟨rfl, h⟩
    · replace h := h.2 hc
      refine g_iconst (v := (1 : Int32)) 12 hC dX6_has_12 (by decide) ?_
      refine g_goto 13 17 hC dX6_has_13 (by decide) ?_
      exact g_zret 17 hC hR dX6_has_17 (by decide) ⟨rfl, h⟩

/-! ===== ProverbCollection$Shelf.size(I)I ===== -/
def Wd_X6_size (cI cS cT : ClassId) (ad : Nat → Nat) (b0 : Nat) (mo : Int32) (NT : Nat) (NL : Nat) (ct : Int32) (le : Nat → Int32) : va_W := [(ad b0, .inr (6, [.int mo, .ref (ad (b0 + 1)), .ref (ad (b0 + 2)), .int ct])), (ad (b0 + 2), .inl (cI, NL, .inl le))]
def rm_X6_size : Room := { frames := 1, cells := 0, slots := 0, locals := 21 }
theorem kX6_size : KV yX6_size cX6_size 2 (some .int) 1 := ⟨wq_158, wq_48, wq_156, wq_157, by decide +kernel⟩
def P_X6_size (mo : Int32) (NT : Nat) (NL : Nat) (x1 : Int32) (ct : Int32) (le : Nat → Int32) (post : Int32 → Prop) : Prop :=
  P_X6_has mo NT NL x1 ct (fun r1 => (r1 = 0 → post (0 : Int32)) ∧ (¬ r1 = 0 → (vp_in x1 NL ∧ (post (le (Int32.toNatClampNeg x1))))))
set_option maxHeartbeats 4000000 in
set_option maxRecDepth 100000 in
theorem c_X6_size (l : Launch) (D : va_G) (cI cS cT : ClassId) (ad : Nat → Nat) (b0 : Nat) (mo : Int32) (NT : Nat) (NL : Nat) (x1 : Int32) (ct : Int32) (le : Nat → Int32) (post : Int32 → Prop) (h : P_X6_size mo NT NL x1 ct le post) : MI l D (TY cI cS cT) yX6_size cX6_size 2 (some .int) rm_X6_size [.ref (ad b0), .int x1] (Wd_X6_size cI cS cT ad b0 mo NT NL ct le) (fun (r : Int32) w => w = (Wd_X6_size cI cS cT ad b0 mo NT NL ct le) ∧ post r) := by
  refine MI.of (by decide) (Nat.le_of_ble_eq_true rfl) (fun E hC hR hn => ?_)
  replace hC : Cx l D (TY cI cS cT) E rm_X6_size cX6_size RX6 := hC
  replace hR : RetI D E (fun (r : Int32) w => w = (Wd_X6_size cI cS cT ad b0 mo NT NL ct le) ∧ post r) 0 0 (some .int) := hR
  unfold P_X6_size at h
  change G l D E 0 0 _ [(0, .ref (ad b0)), (1, .int x1)] 0 []
  refine g_aload_n 0 0 hC dX6_size_0 rfl ?_
  refine g_iload_n 1 1 hC dX6_size_1 rfl ?_
  refine g_cVi (As := [.int x1]) (rest := []) 2 0 [0] hC (c_X6_has l D cI cS cT ad b0 mo NT NL x1 ct _ h) kX6_has wq_159 dX6_size_2 rfl rfl ⟨Nat.le_of_ble_eq_true rfl, Nat.le_of_ble_eq_true rfl⟩ rfl rfl (Nat.zero_le _) (Nat.zero_le _) rfl rfl rfl (Nat.le_of_ble_eq_true rfl) ?_
  rintro r1 _ ⟨rfl, h⟩
  refine ⟨Nat.le_of_ble_eq_true rfl, G.upd [1] (Wd_X6_size cI cS cT ad b0 mo NT NL ct le) rfl rfl rfl rfl rfl ?_⟩
  refine g_if_eq 5 17 hC dX6_size_5 (by decide) (fun hc => ?_) (fun hc => ?_)
  · replace h := h.1 hc
    refine g_iconst (v := (0 : Int32)) 17 hC dX6_size_17 (by decide) ?_
    exact g_iret 18 hC hR dX6_size_18 ⟨rfl, h⟩
  · replace h := h.2 hc
    refine g_aload_n 8 0 hC dX6_size_8 rfl ?_
    refine g_get 9 0 2 hC inlX6 wq_60 dX6_size_9 rfl rfl (by decide) rfl ?_
    refine g_iload_n 12 1 hC dX6_size_12 rfl ?_
    obtain ⟨hj, h⟩ := h
    refine g_iald 13 1 hC dX6_size_13 rfl rfl hj ?_
    refine g_goto 14 18 hC dX6_size_14 (by decide) ?_
    exact g_iret 18 hC hR dX6_size_18 ⟨rfl, h⟩

/-! ===== ProverbCollection$Shelf.token(II)I ===== -/
def Wd_X6_token (cI cS cT : ClassId) (ad : Nat → Nat) (b0 : Nat) (mo : Int32) (NT : Nat) (NL : Nat) (ct : Int32) (tk : Nat → Int32) (le : Nat → Int32) : va_W := [(ad b0, .inr (6, [.int mo, .ref (ad (b0 + 1)), .ref (ad (b0 + 2)), .int ct])), (ad (b0 + 1), .inl (cI, NT, .inl tk)), (ad (b0 + 2), .inl (cI, NL, .inl le))]
def rm_X6_token : Room := { frames := 1, cells := 0, slots := 0, locals := 21 }
theorem kX6_token : KV yX6_token cX6_token 3 (some .int) 2 := ⟨wq_163, wq_48, wq_161, wq_162, by decide +kernel⟩
def P_X6_token (mo : Int32) (NT : Nat) (NL : Nat) (x1 : Int32) (x2 : Int32) (ct : Int32) (tk : Nat → Int32) (le : Nat → Int32) (post : Int32 → Prop) : Prop :=
  P_X6_has mo NT NL x1 ct (fun r1 => (r1 = 0 → post (-1 : Int32)) ∧ (¬ r1 = 0 → ((x2 < 0 → post (-1 : Int32)) ∧ (¬ x2 < 0 → (vp_in x1 NL ∧ (((le (Int32.toNatClampNeg x1)) ≤ x2 → post (-1 : Int32)) ∧ (¬ (le (Int32.toNatClampNeg x1)) ≤ x2 → (vp_in ((x1 * (8 : Int32)) + x2) NT ∧ (post (tk (Int32.toNatClampNeg ((x1 * (8 : Int32)) + x2))))))))))))
set_option maxHeartbeats 4000000 in
set_option maxRecDepth 100000 in
theorem c_X6_token (l : Launch) (D : va_G) (cI cS cT : ClassId) (ad : Nat → Nat) (b0 : Nat) (mo : Int32) (NT : Nat) (NL : Nat) (x1 : Int32) (x2 : Int32) (ct : Int32) (tk : Nat → Int32) (le : Nat → Int32) (post : Int32 → Prop) (h : P_X6_token mo NT NL x1 x2 ct tk le post) : MI l D (TY cI cS cT) yX6_token cX6_token 3 (some .int) rm_X6_token [.ref (ad b0), .int x1, .int x2] (Wd_X6_token cI cS cT ad b0 mo NT NL ct tk le) (fun (r : Int32) w => w = (Wd_X6_token cI cS cT ad b0 mo NT NL ct tk le) ∧ post r) := by
  refine MI.of (by decide) (Nat.le_of_ble_eq_true rfl) (fun E hC hR hn => ?_)
  replace hC : Cx l D (TY cI cS cT) E rm_X6_token cX6_token RX6 := hC
  replace hR : RetI D E (fun (r : Int32) w => w = (Wd_X6_token cI cS cT ad b0 mo NT NL ct tk le) ∧ post r) 0 0 (some .int) := hR
  unfold P_X6_token at h
  change G l D E 0 0 _ [(0, .ref (ad b0)), (1, .int x1), (2, .int x2)] 0 []
  refine g_aload_n 0 0 hC dX6_token_0 rfl ?_
  refine g_iload_n 1 1 hC dX6_token_1 rfl ?_
  refine g_cVi (As := [.int x1]) (rest := []) 2 0 [0] hC (c_X6_has l D cI cS cT ad b0 mo NT NL x1 ct _ h) kX6_has wq_159 dX6_token_2 rfl rfl ⟨Nat.le_of_ble_eq_true rfl, Nat.le_of_ble_eq_true rfl⟩ rfl rfl (Nat.zero_le _) (Nat.zero_le _) rfl rfl rfl (Nat.le_of_ble_eq_true rfl) ?_
  rintro r1 _ ⟨rfl, h⟩
  refine ⟨Nat.le_of_ble_eq_true rfl, G.upd [1, 2] (Wd_X6_token cI cS cT ad b0 mo NT NL ct tk le) rfl rfl rfl rfl rfl ?_⟩
  refine g_if_eq 5 36 hC dX6_token_5 (by decide) (fun hc => ?_) (fun hc => ?_)
  · replace h := h.1 hc
    refine g_iconst (v := (-1 : Int32)) 36 hC dX6_token_36 (by decide) ?_
    exact g_iret 37 hC hR dX6_token_37 ⟨rfl, h⟩
  · replace h := h.2 hc
    refine g_iload_n 8 2 hC dX6_token_8 rfl ?_
    refine g_if_lt 9 36 hC dX6_token_9 (by decide) (fun hc => ?_) (fun hc => ?_)
    · replace h := h.1 hc
      refine g_iconst (v := (-1 : Int32)) 36 hC dX6_token_36 (by decide) ?_
      exact g_iret 37 hC hR dX6_token_37 ⟨rfl, h⟩
    · replace h := h.2 hc
      refine g_iload_n 12 2 hC dX6_token_12 rfl ?_
      refine g_aload_n 13 0 hC dX6_token_13 rfl ?_
      refine g_get 14 0 2 hC inlX6 wq_60 dX6_token_14 rfl rfl (by decide) rfl ?_
      refine g_iload_n 17 1 hC dX6_token_17 rfl ?_
      obtain ⟨hj, h⟩ := h
      refine g_iald 18 2 hC dX6_token_18 rfl rfl hj ?_
      refine g_icmp_ge 19 36 hC dX6_token_19 (by decide) (fun hc => ?_) (fun hc => ?_)
      · replace h := h.1 hc
        refine g_iconst (v := (-1 : Int32)) 36 hC dX6_token_36 (by decide) ?_
        exact g_iret 37 hC hR dX6_token_37 ⟨rfl, h⟩
      · replace h := h.2 hc
        refine g_aload_n 22 0 hC dX6_token_22 rfl ?_
        refine g_get 23 0 1 hC inlX6 wq_59 dX6_token_23 rfl rfl (by decide) rfl ?_
        refine g_iload_n 26 1 hC dX6_token_26 rfl ?_
        refine g_bipush (v := (8 : Int32)) 27 hC dX6_token_27 (by decide) ?_
        refine g_imul 29 hC dX6_token_29 ?_
        refine g_iload_n 30 2 hC dX6_token_30 rfl ?_
        refine g_iadd 31 hC dX6_token_31 ?_
        obtain ⟨hj, h⟩ := h
        refine g_iald 32 1 hC dX6_token_32 rfl rfl hj ?_
        refine g_goto 33 37 hC dX6_token_33 (by decide) ?_
        exact g_iret 37 hC hR dX6_token_37 ⟨rfl, h⟩

/-! ===== ProverbCollection$Shelf.add(LProverbCollection$Sequence;)I ===== -/
def Wd_X6_add (cI cS cT : ClassId) (ad : Nat → Nat) (b0 : Nat) (b1 : Nat) (mo : Int32) (NT : Nat) (NL : Nat) (ct : Int32) (tk : Nat → Int32) (le : Nat → Int32) (qln : Int32) (qtk : Nat → Int32) : va_W := [(ad b0, .inr (6, [.int mo, .ref (ad (b0 + 1)), .ref (ad (b0 + 2)), .int ct])), (ad (b0 + 1), .inl (cI, NT, .inl tk)), (ad (b0 + 2), .inl (cI, NL, .inl le)), (ad b1, .inr (5, [.ref (ad (b1 + 1)), .int qln])), (ad (b1 + 1), .inl (cI, 8, .inl qtk))]
def rm_X6_add : Room := { frames := 1, cells := 0, slots := 0, locals := 21 }
theorem kX6_add : KV yX6_add cX6_add 4 (some .int) 1 := ⟨wq_229, wq_48, wq_227, wq_228, by decide +kernel⟩
def B_X6_add_17 (NT : Nat) (v2 : Int32) (qln : Int32) (qtk : Nat → Int32) (K : Int32 → (Nat → Int32) → Prop) (rc : Int32 → (Nat → Int32) → Prop) (v3 : Int32) (tk : Nat → Int32) : Prop :=
  (qln ≤ v3 → K v3 tk) ∧ (¬ qln ≤ v3 → (P_X5_at v3 qln qtk (fun r1 => vp_in ((v2 * (8 : Int32)) + v3) NT ∧ (rc (v3 + (1 : Int32)) (upd tk (Int32.toNatClampNeg ((v2 * (8 : Int32)) + v3)) r1)))))
def P_X6_add_17 (NT : Nat) (v2 : Int32) (qln : Int32) (qtk : Nat → Int32) (K : Int32 → (Nat → Int32) → Prop) : Nat → Int32 → (Nat → Int32) → Prop
  | 0 => fun _ _ => False
  | n + 1 => fun v3 tk => B_X6_add_17 NT v2 qln qtk K (P_X6_add_17 NT v2 qln qtk K n) v3 tk
def P_X6_add (mo : Int32) (NT : Nat) (NL : Nat) (ct : Int32) (tk : Nat → Int32) (le : Nat → Int32) (qln : Int32) (qtk : Nat → Int32) (post : Int32 → Int32 → (Nat → Int32) → (Nat → Int32) → Prop) : Prop :=
  (ct < mo → (∃ n : Nat, P_X6_add_17 NT ct qln qtk (fun w3_2 tk_2 => vp_in ct NL ∧ (post ct (ct + (1 : Int32)) tk_2 (upd le (Int32.toNatClampNeg ct) qln))) n (0 : Int32) tk)) ∧ (¬ ct < mo → post (-1 : Int32) ct tk le)
set_option maxHeartbeats 4000000 in
set_option maxRecDepth 100000 in
theorem L_X6_add_17 {l : Launch} {D : va_G} {cI cS cT : ClassId} {ad : Nat → Nat} {b0 : Nat} {b1 : Nat} {E : CE} {mo : Int32} {NT : Nat} {NL : Nat} {v2 : Int32} {ct : Int32} {le : Nat → Int32} {qln : Int32} {qtk : Nat → Int32} {post : Int32 → Int32 → (Nat → Int32) → (Nat → Int32) → Prop} (hC : Cx l D (TY cI cS cT) E rm_X6_add cX6_add RX6) (hR : RetI D E (fun (r : Int32) w => ∃ (u_ct : Int32) (u_tk : Nat → Int32) (u_le : Nat → Int32), w = (Wd_X6_add cI cS cT ad b0 b1 mo NT NL u_ct u_tk u_le qln qtk) ∧ post r u_ct u_tk u_le) 0 0 (some .int)) (hn : E.nL = 4) (K : Int32 → (Nat → Int32) → Prop) (hK : ∀ (v3 : Int32) (tk : Nat → Int32), K v3 tk → G l D E 0 0 (Wd_X6_add cI cS cT ad b0 b1 mo NT NL ct tk le qln qtk) [(3, .int v3), (2, .int v2), (0, .ref (ad b0)), (1, .ref (ad b1))] 47 []) : ∀ (n : Nat) (v3 : Int32) (tk : Nat → Int32), P_X6_add_17 NT v2 qln qtk K n v3 tk → G l D E 0 0 (Wd_X6_add cI cS cT ad b0 b1 mo NT NL ct tk le qln qtk) [(3, .int v3), (2, .int v2), (0, .ref (ad b0)), (1, .ref (ad b1))] 17 [] := by
  intro n
  induction n with
  | zero => exact fun _ _ h => h.elim
  | succ n ih =>
    intro v3 tk h
    replace h : B_X6_add_17 NT v2 qln qtk K (P_X6_add_17 NT v2 qln qtk K n) v3 tk := h
    unfold B_X6_add_17 at h
    refine g_iload_n 17 0 hC dX6_add_17 rfl ?_
    refine g_aload_n 18 3 hC dX6_add_18 rfl ?_
    refine g_getN 19 3 1 hC inlX5 nq_31 dX6_add_19 rfl rfl (by decide) rfl ?_
    refine g_icmp_ge 22 47 hC dX6_add_22 (by decide) (fun hc => ?_) (fun hc => ?_)
    · replace h := h.1 hc
      refine G.sub [0, 1, 2, 3] rfl ?_
      exact hK v3 tk h
    · replace h := h.2 hc
      refine g_aload_n 25 2 hC dX6_add_25 rfl ?_
      refine g_get 26 0 1 hC inlX6 wq_59 dX6_add_26 rfl rfl (by decide) rfl ?_
      refine g_iload_n 29 1 hC dX6_add_29 rfl ?_
      refine g_bipush (v := (8 : Int32)) 30 hC dX6_add_30 (by decide) ?_
      refine g_imul 32 hC dX6_add_32 ?_
      refine g_iload_n 33 0 hC dX6_add_33 rfl ?_
      refine g_iadd 34 hC dX6_add_34 ?_
      refine g_aload_n 35 3 hC dX6_add_35 rfl ?_
      refine g_iload_n 36 0 hC dX6_add_36 rfl ?_
      refine g_cVNi (As := [.int v3]) (rest := [.int ((v2 * (8 : Int32)) + v3), .ref (ad (b0 + 1))]) 37 3 [3, 4] hC (c_X5_at l D cI cS cT ad b1 v3 qln qtk _ h) kX5_at nq_415 dX6_add_37 rfl rfl ⟨Nat.le_of_ble_eq_true rfl, Nat.le_of_ble_eq_true rfl⟩ rfl rfl (Nat.zero_le _) (Nat.zero_le _) rfl rfl rfl (Nat.le_of_ble_eq_true rfl) ?_
      rintro r1 _ ⟨rfl, h⟩
      refine ⟨Nat.le_of_ble_eq_true rfl, G.upd [0, 1, 2] (Wd_X6_add cI cS cT ad b0 b1 mo NT NL ct tk le qln qtk) rfl rfl rfl rfl rfl ?_⟩
      obtain ⟨hj, h⟩ := h
      refine g_iast 40 1 (Wd_X6_add cI cS cT ad b0 b1 mo NT NL ct (upd tk (Int32.toNatClampNeg ((v2 * (8 : Int32)) + v3)) r1) le qln qtk) hC dX6_add_40 rfl rfl hj rfl ?_
      refine g_iinc (v := (1 : Int32)) 41 0 [(3, .int (v3 + (1 : Int32))), (2, .int v2), (0, .ref (ad b0)), (1, .ref (ad b1))] hC dX6_add_41 rfl (by decide) (by rw [hn]; decide) rfl ?_
      refine g_goto 44 17 hC dX6_add_44 (by decide) ?_
      refine G.sub [0, 1, 2, 3] rfl ?_
      exact ih _ _ h
set_option maxHeartbeats 4000000 in
set_option maxRecDepth 100000 in
theorem c_X6_add (l : Launch) (D : va_G) (cI cS cT : ClassId) (ad : Nat → Nat) (b0 : Nat) (b1 : Nat) (mo : Int32) (NT : Nat) (NL : Nat) (ct : Int32) (tk : Nat → Int32) (le : Nat → Int32) (qln : Int32) (qtk : Nat → Int32) (post : Int32 → Int32 → (Nat → Int32) → (Nat → Int32) → Prop) (h : P_X6_add mo NT NL ct tk le qln qtk post) : MI l D (TY cI cS cT) yX6_add cX6_add 4 (some .int) rm_X6_add [.ref (ad b0), .ref (ad b1)] (Wd_X6_add cI cS cT ad b0 b1 mo NT NL ct tk le qln qtk) (fun (r : Int32) w => ∃ (u_ct : Int32) (u_tk : Nat → Int32) (u_le : Nat → Int32), w = (Wd_X6_add cI cS cT ad b0 b1 mo NT NL u_ct u_tk u_le qln qtk) ∧ post r u_ct u_tk u_le) := by
  refine MI.of (by decide) (Nat.le_of_ble_eq_true rfl) (fun E hC hR hn => ?_)
  replace hC : Cx l D (TY cI cS cT) E rm_X6_add cX6_add RX6 := hC
  replace hR : RetI D E (fun (r : Int32) w => ∃ (u_ct : Int32) (u_tk : Nat → Int32) (u_le : Nat → Int32), w = (Wd_X6_add cI cS cT ad b0 b1 mo NT NL u_ct u_tk u_le qln qtk) ∧ post r u_ct u_tk u_le) 0 0 (some .int) := hR
  unfold P_X6_add at h
  change G l D E 0 0 _ [(0, .ref (ad b0)), (1, .ref (ad b1))] 0 []
  refine g_aload_n 0 0 hC dX6_add_0 rfl ?_
  refine g_get 1 0 3 hC inlX6 wq_112 dX6_add_1 rfl rfl (by decide) rfl ?_
  refine g_istore_n 4 [(2, .int ct), (0, .ref (ad b0)), (1, .ref (ad b1))] hC dX6_add_4 (by rw [hn]; decide) rfl ?_
  refine g_iload_n 5 0 hC dX6_add_5 rfl ?_
  refine g_aload_n 6 1 hC dX6_add_6 rfl ?_
  refine g_get 7 0 0 hC inlX6 wq_58 dX6_add_7 rfl rfl (by decide) rfl ?_
  refine g_icmp_lt 10 15 hC dX6_add_10 (by decide) (fun hc => ?_) (fun hc => ?_)
  · replace h := h.1 hc
    refine g_iconst (v := (0 : Int32)) 15 hC dX6_add_15 (by decide) ?_
    refine g_istore_n 16 [(3, .int (0 : Int32)), (2, .int ct), (0, .ref (ad b0)), (1, .ref (ad b1))] hC dX6_add_16 (by rw [hn]; decide) rfl ?_
    obtain ⟨n, h⟩ := h
    refine L_X6_add_17 hC hR hn _ (fun w3_2 tk_2 h => ?_) n _ _ h
    refine g_aload_n 47 2 hC dX6_add_47 rfl ?_
    refine g_get 48 0 2 hC inlX6 wq_60 dX6_add_48 rfl rfl (by decide) rfl ?_
    refine g_iload_n 51 1 hC dX6_add_51 rfl ?_
    refine g_aload_n 52 3 hC dX6_add_52 rfl ?_
    refine g_getN 53 3 1 hC inlX5 nq_31 dX6_add_53 rfl rfl (by decide) rfl ?_
    obtain ⟨hj, h⟩ := h
    refine g_iast 56 2 (Wd_X6_add cI cS cT ad b0 b1 mo NT NL ct tk_2 (upd le (Int32.toNatClampNeg ct) qln) qln qtk) hC dX6_add_56 rfl rfl hj rfl ?_
    refine g_aload_n 57 2 hC dX6_add_57 rfl ?_
    refine g_dup 58 hC dX6_add_58 rfl ?_
    refine g_get 59 0 3 hC inlX6 wq_112 dX6_add_59 rfl rfl (by decide) rfl ?_
    refine g_iconst (v := (1 : Int32)) 62 hC dX6_add_62 (by decide) ?_
    refine g_iadd 63 hC dX6_add_63 ?_
    refine g_put 64 0 3 (Wd_X6_add cI cS cT ad b0 b1 mo NT NL (ct + (1 : Int32)) tk_2 (upd le (Int32.toNatClampNeg ct) qln) qln qtk) hC inlX6 tyX6_ok nmX6 wq_112 dX6_add_64 rfl rfl (by decide) rfl rfl (Nat.le_of_ble_eq_true rfl) rfl ?_
    refine g_iload_n 67 1 hC dX6_add_67 rfl ?_
    exact g_iret 68 hC hR dX6_add_68 ⟨(ct + (1 : Int32)), tk_2, (upd le (Int32.toNatClampNeg ct) qln), rfl, h⟩
  · replace h := h.2 hc
    refine g_iconst (v := (-1 : Int32)) 13 hC dX6_add_13 (by decide) ?_
    exact g_iret 14 hC hR dX6_add_14 ⟨ct, tk, le, rfl, h⟩

/-! ===== ProverbCollection$Shelf.drop(I)V ===== -/
def Wd_X6_drop (cI cS cT : ClassId) (ad : Nat → Nat) (b0 : Nat) (mo : Int32) (NT : Nat) (NL : Nat) (ct : Int32) (tk : Nat → Int32) (le : Nat → Int32) : va_W := [(ad b0, .inr (6, [.int mo, .ref (ad (b0 + 1)), .ref (ad (b0 + 2)), .int ct])), (ad (b0 + 1), .inl (cI, NT, .inl tk)), (ad (b0 + 2), .inl (cI, NL, .inl le))]
def rm_X6_drop : Room := { frames := 2, cells := 0, slots := 0, locals := 63 }
theorem kX6_drop : KV yX6_drop cX6_drop 2 none 1 := ⟨wq_251, wq_48, wq_249, wq_250, by decide +kernel⟩
def P_X6_drop (mo : Int32) (NT : Nat) (NL : Nat) (x1 : Int32) (ct : Int32) (tk : Nat → Int32) (le : Nat → Int32) (post : Int32 → (Nat → Int32) → (Nat → Int32) → Prop) : Prop :=
  P_X6_has mo NT NL x1 ct (fun r1 => (r1 = 0 → post ct tk le) ∧ (¬ r1 = 0 → P_X8_closeUp NT x1 (8 : Int32) tk (fun u2 => P_X8_closeUp NL x1 (1 : Int32) le (fun u4 => post (ct - (1 : Int32)) u2 u4))))
set_option maxHeartbeats 4000000 in
set_option maxRecDepth 100000 in
theorem c_X6_drop (l : Launch) (D : va_G) (cI cS cT : ClassId) (ad : Nat → Nat) (b0 : Nat) (mo : Int32) (NT : Nat) (NL : Nat) (x1 : Int32) (ct : Int32) (tk : Nat → Int32) (le : Nat → Int32) (post : Int32 → (Nat → Int32) → (Nat → Int32) → Prop) (h : P_X6_drop mo NT NL x1 ct tk le post) : MV l D (TY cI cS cT) yX6_drop cX6_drop 2 rm_X6_drop [.ref (ad b0), .int x1] (Wd_X6_drop cI cS cT ad b0 mo NT NL ct tk le) (fun w => ∃ (u_ct : Int32) (u_tk : Nat → Int32) (u_le : Nat → Int32), w = (Wd_X6_drop cI cS cT ad b0 mo NT NL u_ct u_tk u_le) ∧ post u_ct u_tk u_le) := by
  refine MV.of (by decide) (Nat.le_of_ble_eq_true rfl) (fun E hC hR hn => ?_)
  replace hC : Cx l D (TY cI cS cT) E rm_X6_drop cX6_drop RX6 := hC
  replace hR : RetV D E (fun w => ∃ (u_ct : Int32) (u_tk : Nat → Int32) (u_le : Nat → Int32), w = (Wd_X6_drop cI cS cT ad b0 mo NT NL u_ct u_tk u_le) ∧ post u_ct u_tk u_le) 0 0 := hR
  unfold P_X6_drop at h
  change G l D E 0 0 _ [(0, .ref (ad b0)), (1, .int x1)] 0 []
  refine g_aload_n 0 0 hC dX6_drop_0 rfl ?_
  refine g_iload_n 1 1 hC dX6_drop_1 rfl ?_
  refine g_cVi (As := [.int x1]) (rest := []) 2 0 [0] hC (c_X6_has l D cI cS cT ad b0 mo NT NL x1 ct _ h) kX6_has wq_159 dX6_drop_2 rfl rfl ⟨Nat.le_of_ble_eq_true rfl, Nat.le_of_ble_eq_true rfl⟩ rfl rfl (Nat.zero_le _) (Nat.zero_le _) rfl rfl rfl (Nat.le_of_ble_eq_true rfl) ?_
  rintro r1 _ ⟨rfl, h⟩
  refine ⟨Nat.le_of_ble_eq_true rfl, G.upd [1, 2] (Wd_X6_drop cI cS cT ad b0 mo NT NL ct tk le) rfl rfl rfl rfl rfl ?_⟩
  refine g_if_eq 5 37 hC dX6_drop_5 (by decide) (fun hc => ?_) (fun hc => ?_)
  · replace h := h.1 hc
    exact g_vret 37 hC hR dX6_drop_37 ⟨ct, tk, le, rfl, h⟩
  · replace h := h.2 hc
    refine g_aload_n 8 0 hC dX6_drop_8 rfl ?_
    refine g_get 9 0 1 hC inlX6 wq_59 dX6_drop_9 rfl rfl (by decide) rfl ?_
    refine g_iload_n 12 1 hC dX6_drop_12 rfl ?_
    refine g_bipush (v := (8 : Int32)) 13 hC dX6_drop_13 (by decide) ?_
    refine g_cSNv (As := [.ref (ad (b0 + 1)), .int x1, .int (8 : Int32)]) (rest := []) 15 [1] hC (c_X8_closeUp l D cI cS cT ad (b0 + 1) NT x1 (8 : Int32) tk _ h) kX8_closeUp nq_278 dX6_drop_15 ⟨Nat.le_of_ble_eq_true rfl, Nat.le_of_ble_eq_true rfl⟩ rfl rfl (Nat.zero_le _) (Nat.zero_le _) rfl rfl rfl (Nat.le_of_ble_eq_true rfl) ?_
    rintro _ ⟨u2, rfl, h⟩
    refine ⟨Nat.le_of_ble_eq_true rfl, G.upd [0, 2] (Wd_X6_drop cI cS cT ad b0 mo NT NL ct u2 le) rfl rfl rfl rfl rfl ?_⟩
    refine g_aload_n 18 0 hC dX6_drop_18 rfl ?_
    refine g_get 19 0 2 hC inlX6 wq_60 dX6_drop_19 rfl rfl (by decide) rfl ?_
    refine g_iload_n 22 1 hC dX6_drop_22 rfl ?_
    refine g_iconst (v := (1 : Int32)) 23 hC dX6_drop_23 (by decide) ?_
    refine g_cSNv (As := [.ref (ad (b0 + 2)), .int x1, .int (1 : Int32)]) (rest := []) 24 [2] hC (c_X8_closeUp l D cI cS cT ad (b0 + 2) NL x1 (1 : Int32) le _ h) kX8_closeUp nq_278 dX6_drop_24 ⟨Nat.le_of_ble_eq_true rfl, Nat.le_of_ble_eq_true rfl⟩ rfl rfl (Nat.zero_le _) (Nat.zero_le _) rfl rfl rfl (Nat.le_of_ble_eq_true rfl) ?_
    rintro _ ⟨u4, rfl, h⟩
    refine ⟨Nat.le_of_ble_eq_true rfl, G.upd [0, 1] (Wd_X6_drop cI cS cT ad b0 mo NT NL ct u2 u4) rfl rfl rfl rfl rfl ?_⟩
    refine g_aload_n 27 0 hC dX6_drop_27 rfl ?_
    refine g_dup 28 hC dX6_drop_28 rfl ?_
    refine g_get 29 0 3 hC inlX6 wq_112 dX6_drop_29 rfl rfl (by decide) rfl ?_
    refine g_iconst (v := (1 : Int32)) 32 hC dX6_drop_32 (by decide) ?_
    refine g_isub 33 hC dX6_drop_33 ?_
    refine g_put 34 0 3 (Wd_X6_drop cI cS cT ad b0 mo NT NL (ct - (1 : Int32)) u2 u4) hC inlX6 tyX6_ok nmX6 wq_112 dX6_drop_34 rfl rfl (by decide) rfl rfl (Nat.le_of_ble_eq_true rfl) rfl ?_
    exact g_vret 37 hC hR dX6_drop_37 ⟨(ct - (1 : Int32)), u2, u4, rfl, h⟩

/-! ===== ProverbCollection$Shelf.load(ILProverbCollection$Sequence;)V ===== -/
def Wd_X6_load (cI cS cT : ClassId) (ad : Nat → Nat) (b0 : Nat) (b1 : Nat) (mo : Int32) (NT : Nat) (NL : Nat) (ct : Int32) (tk : Nat → Int32) (le : Nat → Int32) (qln : Int32) (qtk : Nat → Int32) : va_W := [(ad b0, .inr (6, [.int mo, .ref (ad (b0 + 1)), .ref (ad (b0 + 2)), .int ct])), (ad (b0 + 1), .inl (cI, NT, .inl tk)), (ad (b0 + 2), .inl (cI, NL, .inl le)), (ad b1, .inr (5, [.ref (ad (b1 + 1)), .int qln])), (ad (b1 + 1), .inl (cI, 8, .inl qtk))]
def rm_X6_load : Room := { frames := 2, cells := 0, slots := 0, locals := 43 }
theorem kX6_load : KV yX6_load cX6_load 4 none 2 := ⟨wq_154, wq_48, wq_152, wq_153, by decide +kernel⟩
def B_X6_load_7 (mo : Int32) (NT : Nat) (NL : Nat) (v1 : Int32) (ct : Int32) (tk : Nat → Int32) (le : Nat → Int32) (K : Int32 → Int32 → (Nat → Int32) → Prop) (rc : Int32 → Int32 → (Nat → Int32) → Prop) (v3 : Int32) (qln : Int32) (qtk : Nat → Int32) : Prop :=
  P_X6_size mo NT NL v1 ct le (fun r1 => (r1 ≤ v3 → K v3 qln qtk) ∧ (¬ r1 ≤ v3 → P_X6_token mo NT NL v1 v3 ct tk le (fun r2 => P_X5_add r2 qln qtk (fun u3 u4 => rc (v3 + (1 : Int32)) u3 u4))))
def P_X6_load_7 (mo : Int32) (NT : Nat) (NL : Nat) (v1 : Int32) (ct : Int32) (tk : Nat → Int32) (le : Nat → Int32) (K : Int32 → Int32 → (Nat → Int32) → Prop) : Nat → Int32 → Int32 → (Nat → Int32) → Prop
  | 0 => fun _ _ _ => False
  | n + 1 => fun v3 qln qtk => B_X6_load_7 mo NT NL v1 ct tk le K (P_X6_load_7 mo NT NL v1 ct tk le K n) v3 qln qtk
def P_X6_load (mo : Int32) (NT : Nat) (NL : Nat) (x1 : Int32) (ct : Int32) (tk : Nat → Int32) (le : Nat → Int32) (qln : Int32) (qtk : Nat → Int32) (post : Int32 → (Nat → Int32) → Prop) : Prop :=
  ∃ n : Nat, P_X6_load_7 mo NT NL x1 ct tk le (fun w3_6 qln_6 qtk_6 => post qln_6 qtk_6) n (0 : Int32) (0 : Int32) qtk
set_option maxHeartbeats 4000000 in
set_option maxRecDepth 100000 in
theorem L_X6_load_7 {l : Launch} {D : va_G} {cI cS cT : ClassId} {ad : Nat → Nat} {b0 : Nat} {b1 : Nat} {E : CE} {mo : Int32} {NT : Nat} {NL : Nat} {v1 : Int32} {ct : Int32} {tk : Nat → Int32} {le : Nat → Int32} {post : Int32 → (Nat → Int32) → Prop} (hC : Cx l D (TY cI cS cT) E rm_X6_load cX6_load RX6) (hR : RetV D E (fun w => ∃ (u_qln : Int32) (u_qtk : Nat → Int32), w = (Wd_X6_load cI cS cT ad b0 b1 mo NT NL ct tk le u_qln u_qtk) ∧ post u_qln u_qtk) 0 0) (hn : E.nL = 4) (K : Int32 → Int32 → (Nat → Int32) → Prop) (hK : ∀ (v3 : Int32) (qln : Int32) (qtk : Nat → Int32), K v3 qln qtk → G l D E 0 0 (Wd_X6_load cI cS cT ad b0 b1 mo NT NL ct tk le qln qtk) [(3, .int v3), (0, .ref (ad b0)), (1, .int v1), (2, .ref (ad b1))] 32 []) : ∀ (n : Nat) (v3 : Int32) (qln : Int32) (qtk : Nat → Int32), P_X6_load_7 mo NT NL v1 ct tk le K n v3 qln qtk → G l D E 0 0 (Wd_X6_load cI cS cT ad b0 b1 mo NT NL ct tk le qln qtk) [(3, .int v3), (0, .ref (ad b0)), (1, .int v1), (2, .ref (ad b1))] 7 [] := by
  intro n
  induction n with
  | zero => exact fun _ _ _ h => h.elim
  | succ n ih =>
    intro v3 qln qtk h
    replace h : B_X6_load_7 mo NT NL v1 ct tk le K (P_X6_load_7 mo NT NL v1 ct tk le K n) v3 qln qtk := h
    unfold B_X6_load_7 at h
    refine g_iload_n 7 0 hC dX6_load_7 rfl ?_
    refine g_aload_n 8 1 hC dX6_load_8 rfl ?_
    refine g_iload_n 9 2 hC dX6_load_9 rfl ?_
    refine g_cVi (As := [.int v1]) (rest := [.int v3]) 10 0 [0, 2] hC (c_X6_size l D cI cS cT ad b0 mo NT NL v1 ct le _ h) kX6_size wq_155 dX6_load_10 rfl rfl ⟨Nat.le_of_ble_eq_true rfl, Nat.le_of_ble_eq_true rfl⟩ rfl rfl (Nat.zero_le _) (Nat.zero_le _) rfl rfl rfl (Nat.le_of_ble_eq_true rfl) ?_
    rintro r1 _ ⟨rfl, h⟩
    refine ⟨Nat.le_of_ble_eq_true rfl, G.upd [1, 3, 4] (Wd_X6_load cI cS cT ad b0 b1 mo NT NL ct tk le qln qtk) rfl rfl rfl rfl rfl ?_⟩
    refine g_icmp_ge 13 32 hC dX6_load_13 (by decide) (fun hc => ?_) (fun hc => ?_)
    · replace h := h.1 hc
      refine G.sub [0, 1, 2, 3] rfl ?_
      exact hK v3 qln qtk h
    · replace h := h.2 hc
      refine g_aload_n 16 3 hC dX6_load_16 rfl ?_
      refine g_aload_n 17 1 hC dX6_load_17 rfl ?_
      refine g_iload_n 18 2 hC dX6_load_18 rfl ?_
      refine g_iload_n 19 0 hC dX6_load_19 rfl ?_
      refine g_cVi (As := [.int v1, .int v3]) (rest := [.ref (ad b1)]) 20 0 [0, 1, 2] hC (c_X6_token l D cI cS cT ad b0 mo NT NL v1 v3 ct tk le _ h) kX6_token wq_160 dX6_load_20 rfl rfl ⟨Nat.le_of_ble_eq_true rfl, Nat.le_of_ble_eq_true rfl⟩ rfl rfl (Nat.zero_le _) (Nat.zero_le _) rfl rfl rfl (Nat.le_of_ble_eq_true rfl) ?_
      rintro r2 _ ⟨rfl, h⟩
      refine ⟨Nat.le_of_ble_eq_true rfl, G.upd [3, 4] (Wd_X6_load cI cS cT ad b0 b1 mo NT NL ct tk le qln qtk) rfl rfl rfl rfl rfl ?_⟩
      refine g_cVNv (As := [.int r2]) (rest := []) 23 3 [3, 4] hC (c_X5_add l D cI cS cT ad b1 r2 qln qtk _ h) kX5_add nq_337 dX6_load_23 rfl rfl ⟨Nat.le_of_ble_eq_true rfl, Nat.le_of_ble_eq_true rfl⟩ rfl rfl (Nat.zero_le _) (Nat.zero_le _) rfl rfl rfl (Nat.le_of_ble_eq_true rfl) ?_
      rintro _ ⟨u3, u4, rfl, h⟩
      refine ⟨Nat.le_of_ble_eq_true rfl, G.upd [0, 1, 2] (Wd_X6_load cI cS cT ad b0 b1 mo NT NL ct tk le u3 u4) rfl rfl rfl rfl rfl ?_⟩
      refine g_iinc (v := (1 : Int32)) 26 0 [(3, .int (v3 + (1 : Int32))), (0, .ref (ad b0)), (1, .int v1), (2, .ref (ad b1))] hC dX6_load_26 rfl (by decide) (by rw [hn]; decide) rfl ?_
      refine g_goto 29 7 hC dX6_load_29 (by decide) ?_
      refine G.sub [0, 1, 2, 3] rfl ?_
      exact ih _ _ _ h
set_option maxHeartbeats 4000000 in
set_option maxRecDepth 100000 in
theorem c_X6_load (l : Launch) (D : va_G) (cI cS cT : ClassId) (ad : Nat → Nat) (b0 : Nat) (b1 : Nat) (mo : Int32) (NT : Nat) (NL : Nat) (x1 : Int32) (ct : Int32) (tk : Nat → Int32) (le : Nat → Int32) (qln : Int32) (qtk : Nat → Int32) (post : Int32 → (Nat → Int32) → Prop) (h : P_X6_load mo NT NL x1 ct tk le qln qtk post) : MV l D (TY cI cS cT) yX6_load cX6_load 4 rm_X6_load [.ref (ad b0), .int x1, .ref (ad b1)] (Wd_X6_load cI cS cT ad b0 b1 mo NT NL ct tk le qln qtk) (fun w => ∃ (u_qln : Int32) (u_qtk : Nat → Int32), w = (Wd_X6_load cI cS cT ad b0 b1 mo NT NL ct tk le u_qln u_qtk) ∧ post u_qln u_qtk) := by
  refine MV.of (by decide) (Nat.le_of_ble_eq_true rfl) (fun E hC hR hn => ?_)
  replace hC : Cx l D (TY cI cS cT) E rm_X6_load cX6_load RX6 := hC
  replace hR : RetV D E (fun w => ∃ (u_qln : Int32) (u_qtk : Nat → Int32), w = (Wd_X6_load cI cS cT ad b0 b1 mo NT NL ct tk le u_qln u_qtk) ∧ post u_qln u_qtk) 0 0 := hR
  unfold P_X6_load at h
  change G l D E 0 0 _ [(0, .ref (ad b0)), (1, .int x1), (2, .ref (ad b1))] 0 []
  refine g_aload_n 0 2 hC dX6_load_0 rfl ?_
  refine g_iconst (v := (0 : Int32)) 1 hC dX6_load_1 (by decide) ?_
  refine g_putN 2 3 1 (Wd_X6_load cI cS cT ad b0 b1 mo NT NL ct tk le (0 : Int32) qtk) hC inlX5 tyX5_ok nmX5 nq_31 dX6_load_2 rfl rfl (by decide) rfl rfl (Nat.le_of_ble_eq_true rfl) rfl ?_
  refine g_iconst (v := (0 : Int32)) 5 hC dX6_load_5 (by decide) ?_
  refine g_istore_n 6 [(3, .int (0 : Int32)), (0, .ref (ad b0)), (1, .int x1), (2, .ref (ad b1))] hC dX6_load_6 (by rw [hn]; decide) rfl ?_
  obtain ⟨n, h⟩ := h
  refine L_X6_load_7 hC hR hn _ (fun w3_6 qln_6 qtk_6 h => ?_) n _ _ _ h
  exact g_vret 32 hC hR dX6_load_32 ⟨qln_6, qtk_6, rfl, h⟩

/-! ===== ProverbCollection$Shelf.copyFrom(LProverbCollection$Shelf;)V ===== -/
def Wd_X6_copyFrom (cI cS cT : ClassId) (ad : Nat → Nat) (b0 : Nat) (b1 : Nat) (mo : Int32) (NT : Nat) (NL : Nat) (omo : Int32) (oNT : Nat) (oNL : Nat) (ct : Int32) (tk : Nat → Int32) (le : Nat → Int32) (oct : Int32) (otk : Nat → Int32) (ole : Nat → Int32) : va_W := [(ad b0, .inr (6, [.int mo, .ref (ad (b0 + 1)), .ref (ad (b0 + 2)), .int ct])), (ad (b0 + 1), .inl (cI, NT, .inl tk)), (ad (b0 + 2), .inl (cI, NL, .inl le)), (ad b1, .inr (6, [.int omo, .ref (ad (b1 + 1)), .ref (ad (b1 + 2)), .int oct])), (ad (b1 + 1), .inl (cI, oNT, .inl otk)), (ad (b1 + 2), .inl (cI, oNL, .inl ole))]
def rm_X6_copyFrom : Room := { frames := 2, cells := 0, slots := 0, locals := 61 }
theorem kX6_copyFrom : KV yX6_copyFrom cX6_copyFrom 2 none 1 := ⟨wq_111, wq_48, wq_109, wq_110, by decide +kernel⟩
def P_X6_copyFrom (mo : Int32) (NT : Nat) (NL : Nat) (omo : Int32) (oNT : Nat) (oNL : Nat) (ct : Int32) (tk : Nat → Int32) (le : Nat → Int32) (oct : Int32) (otk : Nat → Int32) (ole : Nat → Int32) (post : Int32 → (Nat → Int32) → (Nat → Int32) → Prop) : Prop :=
  P_X8_copyAll oNT NT otk tk (fun u1 => P_X8_copyAll oNL NL ole le (fun u3 => post oct u1 u3))
set_option maxHeartbeats 4000000 in
set_option maxRecDepth 100000 in
theorem c_X6_copyFrom (l : Launch) (D : va_G) (cI cS cT : ClassId) (ad : Nat → Nat) (b0 : Nat) (b1 : Nat) (mo : Int32) (NT : Nat) (NL : Nat) (omo : Int32) (oNT : Nat) (oNL : Nat) (ct : Int32) (tk : Nat → Int32) (le : Nat → Int32) (oct : Int32) (otk : Nat → Int32) (ole : Nat → Int32) (post : Int32 → (Nat → Int32) → (Nat → Int32) → Prop) (h : P_X6_copyFrom mo NT NL omo oNT oNL ct tk le oct otk ole post) : MV l D (TY cI cS cT) yX6_copyFrom cX6_copyFrom 2 rm_X6_copyFrom [.ref (ad b0), .ref (ad b1)] (Wd_X6_copyFrom cI cS cT ad b0 b1 mo NT NL omo oNT oNL ct tk le oct otk ole) (fun w => ∃ (u_ct : Int32) (u_tk : Nat → Int32) (u_le : Nat → Int32), w = (Wd_X6_copyFrom cI cS cT ad b0 b1 mo NT NL omo oNT oNL u_ct u_tk u_le oct otk ole) ∧ post u_ct u_tk u_le) := by
  refine MV.of (by decide) (Nat.le_of_ble_eq_true rfl) (fun E hC hR hn => ?_)
  replace hC : Cx l D (TY cI cS cT) E rm_X6_copyFrom cX6_copyFrom RX6 := hC
  replace hR : RetV D E (fun w => ∃ (u_ct : Int32) (u_tk : Nat → Int32) (u_le : Nat → Int32), w = (Wd_X6_copyFrom cI cS cT ad b0 b1 mo NT NL omo oNT oNL u_ct u_tk u_le oct otk ole) ∧ post u_ct u_tk u_le) 0 0 := hR
  unfold P_X6_copyFrom at h
  change G l D E 0 0 _ [(0, .ref (ad b0)), (1, .ref (ad b1))] 0 []
  refine g_aload_n 0 1 hC dX6_copyFrom_0 rfl ?_
  refine g_get 1 3 1 hC inlX6 wq_59 dX6_copyFrom_1 rfl rfl (by decide) rfl ?_
  refine g_aload_n 4 0 hC dX6_copyFrom_4 rfl ?_
  refine g_get 5 0 1 hC inlX6 wq_59 dX6_copyFrom_5 rfl rfl (by decide) rfl ?_
  refine g_cSNv (As := [.ref (ad (b1 + 1)), .ref (ad (b0 + 1))]) (rest := []) 8 [4, 1] hC (c_X8_copyAll l D cI cS cT ad (b1 + 1) (b0 + 1) oNT NT otk tk _ h) kX8_copyAll nq_258 dX6_copyFrom_8 ⟨Nat.le_of_ble_eq_true rfl, Nat.le_of_ble_eq_true rfl⟩ rfl rfl (Nat.zero_le _) (Nat.zero_le _) rfl rfl rfl (Nat.le_of_ble_eq_true rfl) ?_
  rintro _ ⟨u1, rfl, h⟩
  refine ⟨Nat.le_of_ble_eq_true rfl, G.upd [0, 2, 3, 5] (Wd_X6_copyFrom cI cS cT ad b0 b1 mo NT NL omo oNT oNL ct u1 le oct otk ole) rfl rfl rfl rfl rfl ?_⟩
  refine g_aload_n 11 1 hC dX6_copyFrom_11 rfl ?_
  refine g_get 12 3 2 hC inlX6 wq_60 dX6_copyFrom_12 rfl rfl (by decide) rfl ?_
  refine g_aload_n 15 0 hC dX6_copyFrom_15 rfl ?_
  refine g_get 16 0 2 hC inlX6 wq_60 dX6_copyFrom_16 rfl rfl (by decide) rfl ?_
  refine g_cSNv (As := [.ref (ad (b1 + 2)), .ref (ad (b0 + 2))]) (rest := []) 19 [5, 2] hC (c_X8_copyAll l D cI cS cT ad (b1 + 2) (b0 + 2) oNL NL ole le _ h) kX8_copyAll nq_258 dX6_copyFrom_19 ⟨Nat.le_of_ble_eq_true rfl, Nat.le_of_ble_eq_true rfl⟩ rfl rfl (Nat.zero_le _) (Nat.zero_le _) rfl rfl rfl (Nat.le_of_ble_eq_true rfl) ?_
  rintro _ ⟨u3, rfl, h⟩
  refine ⟨Nat.le_of_ble_eq_true rfl, G.upd [0, 1, 3, 4] (Wd_X6_copyFrom cI cS cT ad b0 b1 mo NT NL omo oNT oNL ct u1 u3 oct otk ole) rfl rfl rfl rfl rfl ?_⟩
  refine g_aload_n 22 0 hC dX6_copyFrom_22 rfl ?_
  refine g_aload_n 23 1 hC dX6_copyFrom_23 rfl ?_
  refine g_get 24 3 3 hC inlX6 wq_112 dX6_copyFrom_24 rfl rfl (by decide) rfl ?_
  refine g_put 27 0 3 (Wd_X6_copyFrom cI cS cT ad b0 b1 mo NT NL omo oNT oNL oct u1 u3 oct otk ole) hC inlX6 tyX6_ok nmX6 wq_112 dX6_copyFrom_27 rfl rfl (by decide) rfl rfl (Nat.le_of_ble_eq_true rfl) rfl ?_
  exact g_vret 30 hC hR dX6_copyFrom_30 ⟨oct, u1, u3, rfl, h⟩

/-! ===== ProverbCollection$State.copyFrom(LProverbCollection$State;)V ===== -/
def Wd_X7_copyFrom (cI cS cT : ClassId) (ad : Nat → Nat) (b0 : Nat) (b1 : Nat) (li : Int32) (sct : Int32) (stk : Nat → Int32) (sle : Nat → Int32) (ye : Nat → Int32) (re : Nat → Int32) (pct : Int32) (ptk : Nat → Int32) (ple : Nat → Int32) (co : Nat → Int32) (oli : Int32) (osct : Int32) (ostk : Nat → Int32) (osle : Nat → Int32) (oye : Nat → Int32) (ore : Nat → Int32) (opct : Int32) (optk : Nat → Int32) (ople : Nat → Int32) (oco : Nat → Int32) : va_W := [(ad b0, .inr (7, [.ref (ad (b0 + 1)), .ref (ad (b0 + 4)), .ref (ad (b0 + 5)), .ref (ad (b0 + 6)), .ref (ad (b0 + 9)), .int li])), (ad (b0 + 1), .inr (6, [.int 12, .ref (ad (b0 + 2)), .ref (ad (b0 + 3)), .int sct])), (ad (b0 + 2), .inl (cI, 96, .inl stk)), (ad (b0 + 3), .inl (cI, 12, .inl sle)), (ad (b0 + 4), .inl (cI, 12, .inl ye)), (ad (b0 + 5), .inl (cI, 12, .inl re)), (ad (b0 + 6), .inr (6, [.int 6, .ref (ad (b0 + 7)), .ref (ad (b0 + 8)), .int pct])), (ad (b0 + 7), .inl (cI, 48, .inl ptk)), (ad (b0 + 8), .inl (cI, 6, .inl ple)), (ad (b0 + 9), .inl (cI, 4, .inl co)), (ad b1, .inr (7, [.ref (ad (b1 + 1)), .ref (ad (b1 + 4)), .ref (ad (b1 + 5)), .ref (ad (b1 + 6)), .ref (ad (b1 + 9)), .int oli])), (ad (b1 + 1), .inr (6, [.int 12, .ref (ad (b1 + 2)), .ref (ad (b1 + 3)), .int osct])), (ad (b1 + 2), .inl (cI, 96, .inl ostk)), (ad (b1 + 3), .inl (cI, 12, .inl osle)), (ad (b1 + 4), .inl (cI, 12, .inl oye)), (ad (b1 + 5), .inl (cI, 12, .inl ore)), (ad (b1 + 6), .inr (6, [.int 6, .ref (ad (b1 + 7)), .ref (ad (b1 + 8)), .int opct])), (ad (b1 + 7), .inl (cI, 48, .inl optk)), (ad (b1 + 8), .inl (cI, 6, .inl ople)), (ad (b1 + 9), .inl (cI, 4, .inl oco))]
def rm_X7_copyFrom : Room := { frames := 3, cells := 0, slots := 0, locals := 82 }
theorem kX7_copyFrom : KV yX7_copyFrom cX7_copyFrom 2 none 1 := ⟨wq_108, wq_16, wq_106, wq_107, by decide +kernel⟩
def P_X7_copyFrom (li : Int32) (sct : Int32) (stk : Nat → Int32) (sle : Nat → Int32) (ye : Nat → Int32) (re : Nat → Int32) (pct : Int32) (ptk : Nat → Int32) (ple : Nat → Int32) (co : Nat → Int32) (oli : Int32) (osct : Int32) (ostk : Nat → Int32) (osle : Nat → Int32) (oye : Nat → Int32) (ore : Nat → Int32) (opct : Int32) (optk : Nat → Int32) (ople : Nat → Int32) (oco : Nat → Int32) (post : Int32 → Int32 → (Nat → Int32) → (Nat → Int32) → (Nat → Int32) → (Nat → Int32) → Int32 → (Nat → Int32) → (Nat → Int32) → (Nat → Int32) → Prop) : Prop :=
  P_X6_copyFrom (12 : Int32) 96 12 (12 : Int32) 96 12 sct stk sle osct ostk osle (fun u1 u2 u3 => P_X8_copyAll 12 12 oye ye (fun u5 => P_X8_copyAll 12 12 ore re (fun u7 => P_X6_copyFrom (6 : Int32) 48 6 (6 : Int32) 48 6 pct ptk ple opct optk ople (fun u9 u10 u11 => P_X8_copyAll 4 4 oco co (fun u13 => post oli u1 u2 u3 u5 u7 u9 u10 u11 u13)))))
set_option maxHeartbeats 4000000 in
set_option maxRecDepth 100000 in
theorem c_X7_copyFrom (l : Launch) (D : va_G) (cI cS cT : ClassId) (ad : Nat → Nat) (b0 : Nat) (b1 : Nat) (li : Int32) (sct : Int32) (stk : Nat → Int32) (sle : Nat → Int32) (ye : Nat → Int32) (re : Nat → Int32) (pct : Int32) (ptk : Nat → Int32) (ple : Nat → Int32) (co : Nat → Int32) (oli : Int32) (osct : Int32) (ostk : Nat → Int32) (osle : Nat → Int32) (oye : Nat → Int32) (ore : Nat → Int32) (opct : Int32) (optk : Nat → Int32) (ople : Nat → Int32) (oco : Nat → Int32) (post : Int32 → Int32 → (Nat → Int32) → (Nat → Int32) → (Nat → Int32) → (Nat → Int32) → Int32 → (Nat → Int32) → (Nat → Int32) → (Nat → Int32) → Prop) (h : P_X7_copyFrom li sct stk sle ye re pct ptk ple co oli osct ostk osle oye ore opct optk ople oco post) : MV l D (TY cI cS cT) yX7_copyFrom cX7_copyFrom 2 rm_X7_copyFrom [.ref (ad b0), .ref (ad b1)] (Wd_X7_copyFrom cI cS cT ad b0 b1 li sct stk sle ye re pct ptk ple co oli osct ostk osle oye ore opct optk ople oco) (fun w => ∃ (u_li : Int32) (u_sct : Int32) (u_stk : Nat → Int32) (u_sle : Nat → Int32) (u_ye : Nat → Int32) (u_re : Nat → Int32) (u_pct : Int32) (u_ptk : Nat → Int32) (u_ple : Nat → Int32) (u_co : Nat → Int32), w = (Wd_X7_copyFrom cI cS cT ad b0 b1 u_li u_sct u_stk u_sle u_ye u_re u_pct u_ptk u_ple u_co oli osct ostk osle oye ore opct optk ople oco) ∧ post u_li u_sct u_stk u_sle u_ye u_re u_pct u_ptk u_ple u_co) := by
  refine MV.of (by decide) (Nat.le_of_ble_eq_true rfl) (fun E hC hR hn => ?_)
  replace hC : Cx l D (TY cI cS cT) E rm_X7_copyFrom cX7_copyFrom RX7 := hC
  replace hR : RetV D E (fun w => ∃ (u_li : Int32) (u_sct : Int32) (u_stk : Nat → Int32) (u_sle : Nat → Int32) (u_ye : Nat → Int32) (u_re : Nat → Int32) (u_pct : Int32) (u_ptk : Nat → Int32) (u_ple : Nat → Int32) (u_co : Nat → Int32), w = (Wd_X7_copyFrom cI cS cT ad b0 b1 u_li u_sct u_stk u_sle u_ye u_re u_pct u_ptk u_ple u_co oli osct ostk osle oye ore opct optk ople oco) ∧ post u_li u_sct u_stk u_sle u_ye u_re u_pct u_ptk u_ple u_co) 0 0 := hR
  unfold P_X7_copyFrom at h
  change G l D E 0 0 _ [(0, .ref (ad b0)), (1, .ref (ad b1))] 0 []
  refine g_aload_n 0 0 hC dX7_copyFrom_0 rfl ?_
  refine g_get 1 0 0 hC inlX7 wq_49 dX7_copyFrom_1 rfl rfl (by decide) rfl ?_
  refine g_aload_n 4 1 hC dX7_copyFrom_4 rfl ?_
  refine g_get 5 10 0 hC inlX7 wq_49 dX7_copyFrom_5 rfl rfl (by decide) rfl ?_
  refine g_cVNv (As := [.ref (ad (b1 + 1))]) (rest := []) 8 1 [1, 2, 3, 11, 12, 13] hC (c_X6_copyFrom l D cI cS cT ad (b0 + 1) (b1 + 1) (12 : Int32) 96 12 (12 : Int32) 96 12 sct stk sle osct ostk osle _ h) kX6_copyFrom nq_254 dX7_copyFrom_8 rfl rfl ⟨Nat.le_of_ble_eq_true rfl, Nat.le_of_ble_eq_true rfl⟩ rfl rfl (Nat.zero_le _) (Nat.zero_le _) rfl rfl rfl (Nat.le_of_ble_eq_true rfl) ?_
  rintro _ ⟨u1, u2, u3, rfl, h⟩
  refine ⟨Nat.le_of_ble_eq_true rfl, G.upd [0, 4, 5, 6, 7, 8, 9, 10, 14, 15, 16, 17, 18, 19] (Wd_X7_copyFrom cI cS cT ad b0 b1 li u1 u2 u3 ye re pct ptk ple co oli osct ostk osle oye ore opct optk ople oco) rfl rfl rfl rfl rfl ?_⟩
  refine g_aload_n 11 1 hC dX7_copyFrom_11 rfl ?_
  refine g_get 12 10 1 hC inlX7 wq_50 dX7_copyFrom_12 rfl rfl (by decide) rfl ?_
  refine g_aload_n 15 0 hC dX7_copyFrom_15 rfl ?_
  refine g_get 16 0 1 hC inlX7 wq_50 dX7_copyFrom_16 rfl rfl (by decide) rfl ?_
  refine g_cSNv (As := [.ref (ad (b1 + 4)), .ref (ad (b0 + 4))]) (rest := []) 19 [14, 4] hC (c_X8_copyAll l D cI cS cT ad (b1 + 4) (b0 + 4) 12 12 oye ye _ h) kX8_copyAll nq_267 dX7_copyFrom_19 ⟨Nat.le_of_ble_eq_true rfl, Nat.le_of_ble_eq_true rfl⟩ rfl rfl (Nat.zero_le _) (Nat.zero_le _) rfl rfl rfl (Nat.le_of_ble_eq_true rfl) ?_
  rintro _ ⟨u5, rfl, h⟩
  refine ⟨Nat.le_of_ble_eq_true rfl, G.upd [0, 1, 2, 3, 5, 6, 7, 8, 9, 10, 11, 12, 13, 15, 16, 17, 18, 19] (Wd_X7_copyFrom cI cS cT ad b0 b1 li u1 u2 u3 u5 re pct ptk ple co oli osct ostk osle oye ore opct optk ople oco) rfl rfl rfl rfl rfl ?_⟩
  refine g_aload_n 22 1 hC dX7_copyFrom_22 rfl ?_
  refine g_get 23 10 2 hC inlX7 wq_51 dX7_copyFrom_23 rfl rfl (by decide) rfl ?_
  refine g_aload_n 26 0 hC dX7_copyFrom_26 rfl ?_
  refine g_get 27 0 2 hC inlX7 wq_51 dX7_copyFrom_27 rfl rfl (by decide) rfl ?_
  refine g_cSNv (As := [.ref (ad (b1 + 5)), .ref (ad (b0 + 5))]) (rest := []) 30 [15, 5] hC (c_X8_copyAll l D cI cS cT ad (b1 + 5) (b0 + 5) 12 12 ore re _ h) kX8_copyAll nq_267 dX7_copyFrom_30 ⟨Nat.le_of_ble_eq_true rfl, Nat.le_of_ble_eq_true rfl⟩ rfl rfl (Nat.zero_le _) (Nat.zero_le _) rfl rfl rfl (Nat.le_of_ble_eq_true rfl) ?_
  rintro _ ⟨u7, rfl, h⟩
  refine ⟨Nat.le_of_ble_eq_true rfl, G.upd [0, 1, 2, 3, 4, 6, 7, 8, 9, 10, 11, 12, 13, 14, 16, 17, 18, 19] (Wd_X7_copyFrom cI cS cT ad b0 b1 li u1 u2 u3 u5 u7 pct ptk ple co oli osct ostk osle oye ore opct optk ople oco) rfl rfl rfl rfl rfl ?_⟩
  refine g_aload_n 33 0 hC dX7_copyFrom_33 rfl ?_
  refine g_get 34 0 3 hC inlX7 wq_52 dX7_copyFrom_34 rfl rfl (by decide) rfl ?_
  refine g_aload_n 37 1 hC dX7_copyFrom_37 rfl ?_
  refine g_get 38 10 3 hC inlX7 wq_52 dX7_copyFrom_38 rfl rfl (by decide) rfl ?_
  refine g_cVNv (As := [.ref (ad (b1 + 6))]) (rest := []) 41 6 [6, 7, 8, 16, 17, 18] hC (c_X6_copyFrom l D cI cS cT ad (b0 + 6) (b1 + 6) (6 : Int32) 48 6 (6 : Int32) 48 6 pct ptk ple opct optk ople _ h) kX6_copyFrom nq_254 dX7_copyFrom_41 rfl rfl ⟨Nat.le_of_ble_eq_true rfl, Nat.le_of_ble_eq_true rfl⟩ rfl rfl (Nat.zero_le _) (Nat.zero_le _) rfl rfl rfl (Nat.le_of_ble_eq_true rfl) ?_
  rintro _ ⟨u9, u10, u11, rfl, h⟩
  refine ⟨Nat.le_of_ble_eq_true rfl, G.upd [0, 1, 2, 3, 4, 5, 9, 10, 11, 12, 13, 14, 15, 19] (Wd_X7_copyFrom cI cS cT ad b0 b1 li u1 u2 u3 u5 u7 u9 u10 u11 co oli osct ostk osle oye ore opct optk ople oco) rfl rfl rfl rfl rfl ?_⟩
  refine g_aload_n 44 1 hC dX7_copyFrom_44 rfl ?_
  refine g_get 45 10 4 hC inlX7 wq_53 dX7_copyFrom_45 rfl rfl (by decide) rfl ?_
  refine g_aload_n 48 0 hC dX7_copyFrom_48 rfl ?_
  refine g_get 49 0 4 hC inlX7 wq_53 dX7_copyFrom_49 rfl rfl (by decide) rfl ?_
  refine g_cSNv (As := [.ref (ad (b1 + 9)), .ref (ad (b0 + 9))]) (rest := []) 52 [19, 9] hC (c_X8_copyAll l D cI cS cT ad (b1 + 9) (b0 + 9) 4 4 oco co _ h) kX8_copyAll nq_267 dX7_copyFrom_52 ⟨Nat.le_of_ble_eq_true rfl, Nat.le_of_ble_eq_true rfl⟩ rfl rfl (Nat.zero_le _) (Nat.zero_le _) rfl rfl rfl (Nat.le_of_ble_eq_true rfl) ?_
  rintro _ ⟨u13, rfl, h⟩
  refine ⟨Nat.le_of_ble_eq_true rfl, G.upd [0, 1, 2, 3, 4, 5, 6, 7, 8, 10, 11, 12, 13, 14, 15, 16, 17, 18] (Wd_X7_copyFrom cI cS cT ad b0 b1 li u1 u2 u3 u5 u7 u9 u10 u11 u13 oli osct ostk osle oye ore opct optk ople oco) rfl rfl rfl rfl rfl ?_⟩
  refine g_aload_n 55 0 hC dX7_copyFrom_55 rfl ?_
  refine g_aload_n 56 1 hC dX7_copyFrom_56 rfl ?_
  refine g_get 57 10 5 hC inlX7 wq_54 dX7_copyFrom_57 rfl rfl (by decide) rfl ?_
  refine g_put 60 0 5 (Wd_X7_copyFrom cI cS cT ad b0 b1 oli u1 u2 u3 u5 u7 u9 u10 u11 u13 oli osct ostk osle oye ore opct optk ople oco) hC inlX7 tyX7_ok nmX7 wq_54 dX7_copyFrom_60 rfl rfl (by decide) rfl rfl (Nat.le_of_ble_eq_true rfl) rfl ?_
  exact g_vret 63 hC hR dX7_copyFrom_63 ⟨oli, u1, u2, u3, u5, u7, u9, u10, u11, u13, rfl, h⟩

/-! ===== ProverbCollection$State.takeSaying(LProverbCollection$Sequence;II)I ===== -/
def Wd_X7_takeSaying (cI cS cT : ClassId) (ad : Nat → Nat) (b0 : Nat) (b1 : Nat) (li : Int32) (sct : Int32) (stk : Nat → Int32) (sle : Nat → Int32) (ye : Nat → Int32) (re : Nat → Int32) (qln : Int32) (qtk : Nat → Int32) : va_W := [(ad b0, .inr (7, [.ref (ad (b0 + 1)), .ref (ad (b0 + 4)), .ref (ad (b0 + 5)), .ref (ad (b0 + 6)), .ref (ad (b0 + 9)), .int li])), (ad (b0 + 1), .inr (6, [.int 12, .ref (ad (b0 + 2)), .ref (ad (b0 + 3)), .int sct])), (ad (b0 + 2), .inl (cI, 96, .inl stk)), (ad (b0 + 3), .inl (cI, 12, .inl sle)), (ad (b0 + 4), .inl (cI, 12, .inl ye)), (ad (b0 + 5), .inl (cI, 12, .inl re)), (ad b1, .inr (5, [.ref (ad (b1 + 1)), .int qln])), (ad (b1 + 1), .inl (cI, 8, .inl qtk))]
def rm_X7_takeSaying : Room := { frames := 2, cells := 0, slots := 0, locals := 44 }
theorem kX7_takeSaying : KV yX7_takeSaying cX7_takeSaying 5 (some .int) 3 := ⟨wq_226, wq_16, wq_224, wq_225, by decide +kernel⟩
def P_X7_takeSaying (x2 : Int32) (x3 : Int32) (li : Int32) (sct : Int32) (stk : Nat → Int32) (sle : Nat → Int32) (ye : Nat → Int32) (re : Nat → Int32) (qln : Int32) (qtk : Nat → Int32) (post : Int32 → Int32 → (Nat → Int32) → (Nat → Int32) → (Nat → Int32) → (Nat → Int32) → Prop) : Prop :=
  P_X6_add (12 : Int32) 96 12 sct stk sle qln qtk (fun r4 u1 u2 u3 => P_X6_has (12 : Int32) 96 12 r4 u1 (fun r5 => (r5 = 0 → post r4 u1 u2 u3 ye re) ∧ (¬ r5 = 0 → (vp_in r4 12 ∧ (vp_in r4 12 ∧ (post r4 u1 u2 u3 (upd ye (Int32.toNatClampNeg r4) x2) (upd re (Int32.toNatClampNeg r4) x3)))))))
set_option maxHeartbeats 4000000 in
set_option maxRecDepth 100000 in
theorem c_X7_takeSaying (l : Launch) (D : va_G) (cI cS cT : ClassId) (ad : Nat → Nat) (b0 : Nat) (b1 : Nat) (x2 : Int32) (x3 : Int32) (li : Int32) (sct : Int32) (stk : Nat → Int32) (sle : Nat → Int32) (ye : Nat → Int32) (re : Nat → Int32) (qln : Int32) (qtk : Nat → Int32) (post : Int32 → Int32 → (Nat → Int32) → (Nat → Int32) → (Nat → Int32) → (Nat → Int32) → Prop) (h : P_X7_takeSaying x2 x3 li sct stk sle ye re qln qtk post) : MI l D (TY cI cS cT) yX7_takeSaying cX7_takeSaying 5 (some .int) rm_X7_takeSaying [.ref (ad b0), .ref (ad b1), .int x2, .int x3] (Wd_X7_takeSaying cI cS cT ad b0 b1 li sct stk sle ye re qln qtk) (fun (r : Int32) w => ∃ (u_sct : Int32) (u_stk : Nat → Int32) (u_sle : Nat → Int32) (u_ye : Nat → Int32) (u_re : Nat → Int32), w = (Wd_X7_takeSaying cI cS cT ad b0 b1 li u_sct u_stk u_sle u_ye u_re qln qtk) ∧ post r u_sct u_stk u_sle u_ye u_re) := by
  refine MI.of (by decide) (Nat.le_of_ble_eq_true rfl) (fun E hC hR hn => ?_)
  replace hC : Cx l D (TY cI cS cT) E rm_X7_takeSaying cX7_takeSaying RX7 := hC
  replace hR : RetI D E (fun (r : Int32) w => ∃ (u_sct : Int32) (u_stk : Nat → Int32) (u_sle : Nat → Int32) (u_ye : Nat → Int32) (u_re : Nat → Int32), w = (Wd_X7_takeSaying cI cS cT ad b0 b1 li u_sct u_stk u_sle u_ye u_re qln qtk) ∧ post r u_sct u_stk u_sle u_ye u_re) 0 0 (some .int) := hR
  unfold P_X7_takeSaying at h
  change G l D E 0 0 _ [(0, .ref (ad b0)), (1, .ref (ad b1)), (2, .int x2), (3, .int x3)] 0 []
  refine g_aload_n 0 0 hC dX7_takeSaying_0 rfl ?_
  refine g_get 1 0 0 hC inlX7 wq_49 dX7_takeSaying_1 rfl rfl (by decide) rfl ?_
  refine g_aload_n 4 1 hC dX7_takeSaying_4 rfl ?_
  refine g_cVNi (As := [.ref (ad b1)]) (rest := []) 5 1 [1, 2, 3, 6, 7] hC (c_X6_add l D cI cS cT ad (b0 + 1) b1 (12 : Int32) 96 12 sct stk sle qln qtk _ h) kX6_add nq_411 dX7_takeSaying_5 rfl rfl ⟨Nat.le_of_ble_eq_true rfl, Nat.le_of_ble_eq_true rfl⟩ rfl rfl (Nat.zero_le _) (Nat.zero_le _) rfl rfl rfl (Nat.le_of_ble_eq_true rfl) ?_
  rintro r4 _ ⟨u1, u2, u3, rfl, h⟩
  refine ⟨Nat.le_of_ble_eq_true rfl, G.upd [0, 4, 5] (Wd_X7_takeSaying cI cS cT ad b0 b1 li u1 u2 u3 ye re qln qtk) rfl rfl rfl rfl rfl ?_⟩
  refine g_istore 8 [(4, .int r4), (0, .ref (ad b0)), (1, .ref (ad b1)), (2, .int x2), (3, .int x3)] hC dX7_takeSaying_8 (by rw [hn]; decide) rfl ?_
  refine g_aload_n 10 1 hC dX7_takeSaying_10 rfl ?_
  refine g_get 11 0 0 hC inlX7 wq_49 dX7_takeSaying_11 rfl rfl (by decide) rfl ?_
  refine g_iload 14 0 hC dX7_takeSaying_14 rfl ?_
  refine g_cVNi (As := [.int r4]) (rest := []) 16 1 [1] hC (c_X6_has l D cI cS cT ad (b0 + 1) (12 : Int32) 96 12 r4 u1 _ h) kX6_has nq_314 dX7_takeSaying_16 rfl rfl ⟨Nat.le_of_ble_eq_true rfl, Nat.le_of_ble_eq_true rfl⟩ rfl rfl (Nat.zero_le _) (Nat.zero_le _) rfl rfl rfl (Nat.le_of_ble_eq_true rfl) ?_
  rintro r5 _ ⟨rfl, h⟩
  refine ⟨Nat.le_of_ble_eq_true rfl, G.upd [0, 2, 3, 4, 5, 6, 7] (Wd_X7_takeSaying cI cS cT ad b0 b1 li u1 u2 u3 ye re qln qtk) rfl rfl rfl rfl rfl ?_⟩
  refine g_if_eq 19 38 hC dX7_takeSaying_19 (by decide) (fun hc => ?_) (fun hc => ?_)
  · replace h := h.1 hc
    refine g_iload 38 0 hC dX7_takeSaying_38 rfl ?_
    exact g_iret 40 hC hR dX7_takeSaying_40 ⟨u1, u2, u3, ye, re, rfl, h⟩
  · replace h := h.2 hc
    refine g_aload_n 22 1 hC dX7_takeSaying_22 rfl ?_
    refine g_get 23 0 1 hC inlX7 wq_50 dX7_takeSaying_23 rfl rfl (by decide) rfl ?_
    refine g_iload 26 0 hC dX7_takeSaying_26 rfl ?_
    refine g_iload_n 28 3 hC dX7_takeSaying_28 rfl ?_
    obtain ⟨hj, h⟩ := h
    refine g_iast 29 4 (Wd_X7_takeSaying cI cS cT ad b0 b1 li u1 u2 u3 (upd ye (Int32.toNatClampNeg r4) x2) re qln qtk) hC dX7_takeSaying_29 rfl rfl hj rfl ?_
    refine g_aload_n 30 1 hC dX7_takeSaying_30 rfl ?_
    refine g_get 31 0 2 hC inlX7 wq_51 dX7_takeSaying_31 rfl rfl (by decide) rfl ?_
    refine g_iload 34 0 hC dX7_takeSaying_34 rfl ?_
    refine g_iload_n 36 4 hC dX7_takeSaying_36 rfl ?_
    obtain ⟨hj, h⟩ := h
    refine g_iast 37 5 (Wd_X7_takeSaying cI cS cT ad b0 b1 li u1 u2 u3 (upd ye (Int32.toNatClampNeg r4) x2) (upd re (Int32.toNatClampNeg r4) x3) qln qtk) hC dX7_takeSaying_37 rfl rfl hj rfl ?_
    refine g_iload 38 0 hC dX7_takeSaying_38 rfl ?_
    exact g_iret 40 hC hR dX7_takeSaying_40 ⟨u1, u2, u3, (upd ye (Int32.toNatClampNeg r4) x2), (upd re (Int32.toNatClampNeg r4) x3), rfl, h⟩

/-! ===== ProverbCollection$State.dropSaying(I)V ===== -/
def Wd_X7_dropSaying (cI cS cT : ClassId) (ad : Nat → Nat) (b0 : Nat) (li : Int32) (sct : Int32) (stk : Nat → Int32) (sle : Nat → Int32) (ye : Nat → Int32) (re : Nat → Int32) : va_W := [(ad b0, .inr (7, [.ref (ad (b0 + 1)), .ref (ad (b0 + 4)), .ref (ad (b0 + 5)), .ref (ad (b0 + 6)), .ref (ad (b0 + 9)), .int li])), (ad (b0 + 1), .inr (6, [.int 12, .ref (ad (b0 + 2)), .ref (ad (b0 + 3)), .int sct])), (ad (b0 + 2), .inl (cI, 96, .inl stk)), (ad (b0 + 3), .inl (cI, 12, .inl sle)), (ad (b0 + 4), .inl (cI, 12, .inl ye)), (ad (b0 + 5), .inl (cI, 12, .inl re))]
def rm_X7_dropSaying : Room := { frames := 3, cells := 0, slots := 0, locals := 84 }
theorem kX7_dropSaying : KV yX7_dropSaying cX7_dropSaying 2 none 1 := ⟨wq_248, wq_16, wq_246, wq_247, by decide +kernel⟩
def P_X7_dropSaying (x1 : Int32) (li : Int32) (sct : Int32) (stk : Nat → Int32) (sle : Nat → Int32) (ye : Nat → Int32) (re : Nat → Int32) (post : Int32 → (Nat → Int32) → (Nat → Int32) → (Nat → Int32) → (Nat → Int32) → Prop) : Prop :=
  P_X6_drop (12 : Int32) 96 12 x1 sct stk sle (fun u1 u2 u3 => P_X8_closeUp 12 x1 (1 : Int32) ye (fun u5 => P_X8_closeUp 12 x1 (1 : Int32) re (fun u7 => post u1 u2 u3 u5 u7)))
set_option maxHeartbeats 4000000 in
set_option maxRecDepth 100000 in
theorem c_X7_dropSaying (l : Launch) (D : va_G) (cI cS cT : ClassId) (ad : Nat → Nat) (b0 : Nat) (x1 : Int32) (li : Int32) (sct : Int32) (stk : Nat → Int32) (sle : Nat → Int32) (ye : Nat → Int32) (re : Nat → Int32) (post : Int32 → (Nat → Int32) → (Nat → Int32) → (Nat → Int32) → (Nat → Int32) → Prop) (h : P_X7_dropSaying x1 li sct stk sle ye re post) : MV l D (TY cI cS cT) yX7_dropSaying cX7_dropSaying 2 rm_X7_dropSaying [.ref (ad b0), .int x1] (Wd_X7_dropSaying cI cS cT ad b0 li sct stk sle ye re) (fun w => ∃ (u_sct : Int32) (u_stk : Nat → Int32) (u_sle : Nat → Int32) (u_ye : Nat → Int32) (u_re : Nat → Int32), w = (Wd_X7_dropSaying cI cS cT ad b0 li u_sct u_stk u_sle u_ye u_re) ∧ post u_sct u_stk u_sle u_ye u_re) := by
  refine MV.of (by decide) (Nat.le_of_ble_eq_true rfl) (fun E hC hR hn => ?_)
  replace hC : Cx l D (TY cI cS cT) E rm_X7_dropSaying cX7_dropSaying RX7 := hC
  replace hR : RetV D E (fun w => ∃ (u_sct : Int32) (u_stk : Nat → Int32) (u_sle : Nat → Int32) (u_ye : Nat → Int32) (u_re : Nat → Int32), w = (Wd_X7_dropSaying cI cS cT ad b0 li u_sct u_stk u_sle u_ye u_re) ∧ post u_sct u_stk u_sle u_ye u_re) 0 0 := hR
  unfold P_X7_dropSaying at h
  change G l D E 0 0 _ [(0, .ref (ad b0)), (1, .int x1)] 0 []
  refine g_aload_n 0 0 hC dX7_dropSaying_0 rfl ?_
  refine g_get 1 0 0 hC inlX7 wq_49 dX7_dropSaying_1 rfl rfl (by decide) rfl ?_
  refine g_iload_n 4 1 hC dX7_dropSaying_4 rfl ?_
  refine g_cVNv (As := [.int x1]) (rest := []) 5 1 [1, 2, 3] hC (c_X6_drop l D cI cS cT ad (b0 + 1) (12 : Int32) 96 12 x1 sct stk sle _ h) kX6_drop nq_273 dX7_dropSaying_5 rfl rfl ⟨Nat.le_of_ble_eq_true rfl, Nat.le_of_ble_eq_true rfl⟩ rfl rfl (Nat.zero_le _) (Nat.zero_le _) rfl rfl rfl (Nat.le_of_ble_eq_true rfl) ?_
  rintro _ ⟨u1, u2, u3, rfl, h⟩
  refine ⟨Nat.le_of_ble_eq_true rfl, G.upd [0, 4, 5] (Wd_X7_dropSaying cI cS cT ad b0 li u1 u2 u3 ye re) rfl rfl rfl rfl rfl ?_⟩
  refine g_aload_n 8 0 hC dX7_dropSaying_8 rfl ?_
  refine g_get 9 0 1 hC inlX7 wq_50 dX7_dropSaying_9 rfl rfl (by decide) rfl ?_
  refine g_iload_n 12 1 hC dX7_dropSaying_12 rfl ?_
  refine g_iconst (v := (1 : Int32)) 13 hC dX7_dropSaying_13 (by decide) ?_
  refine g_cSNv (As := [.ref (ad (b0 + 4)), .int x1, .int (1 : Int32)]) (rest := []) 14 [4] hC (c_X8_closeUp l D cI cS cT ad (b0 + 4) 12 x1 (1 : Int32) ye _ h) kX8_closeUp nq_281 dX7_dropSaying_14 ⟨Nat.le_of_ble_eq_true rfl, Nat.le_of_ble_eq_true rfl⟩ rfl rfl (Nat.zero_le _) (Nat.zero_le _) rfl rfl rfl (Nat.le_of_ble_eq_true rfl) ?_
  rintro _ ⟨u5, rfl, h⟩
  refine ⟨Nat.le_of_ble_eq_true rfl, G.upd [0, 1, 2, 3, 5] (Wd_X7_dropSaying cI cS cT ad b0 li u1 u2 u3 u5 re) rfl rfl rfl rfl rfl ?_⟩
  refine g_aload_n 17 0 hC dX7_dropSaying_17 rfl ?_
  refine g_get 18 0 2 hC inlX7 wq_51 dX7_dropSaying_18 rfl rfl (by decide) rfl ?_
  refine g_iload_n 21 1 hC dX7_dropSaying_21 rfl ?_
  refine g_iconst (v := (1 : Int32)) 22 hC dX7_dropSaying_22 (by decide) ?_
  refine g_cSNv (As := [.ref (ad (b0 + 5)), .int x1, .int (1 : Int32)]) (rest := []) 23 [5] hC (c_X8_closeUp l D cI cS cT ad (b0 + 5) 12 x1 (1 : Int32) re _ h) kX8_closeUp nq_281 dX7_dropSaying_23 ⟨Nat.le_of_ble_eq_true rfl, Nat.le_of_ble_eq_true rfl⟩ rfl rfl (Nat.zero_le _) (Nat.zero_le _) rfl rfl rfl (Nat.le_of_ble_eq_true rfl) ?_
  rintro _ ⟨u7, rfl, h⟩
  refine ⟨Nat.le_of_ble_eq_true rfl, G.upd [0, 1, 2, 3, 4] (Wd_X7_dropSaying cI cS cT ad b0 li u1 u2 u3 u5 u7) rfl rfl rfl rfl rfl ?_⟩
  exact g_vret 26 hC hR dX7_dropSaying_26 ⟨u1, u2, u3, u5, u7, rfl, h⟩

/-! ===== ProverbCollection$State.isOlder(II)Z ===== -/
def Wd_X7_isOlder (cI cS cT : ClassId) (ad : Nat → Nat) (b0 : Nat) (li : Int32) (sct : Int32) (ye : Nat → Int32) : va_W := [(ad b0, .inr (7, [.ref (ad (b0 + 1)), .ref (ad (b0 + 4)), .ref (ad (b0 + 5)), .ref (ad (b0 + 6)), .ref (ad (b0 + 9)), .int li])), (ad (b0 + 1), .inr (6, [.int 12, .ref (ad (b0 + 2)), .ref (ad (b0 + 3)), .int sct])), (ad (b0 + 4), .inl (cI, 12, .inl ye))]
def rm_X7_isOlder : Room := { frames := 1, cells := 0, slots := 0, locals := 21 }
theorem kX7_isOlder : KV yX7_isOlder cX7_isOlder 3 (some .boolean) 2 := ⟨wq_145, wq_16, wq_143, wq_144, by decide +kernel⟩
def P_X7_isOlder (x1 : Int32) (x2 : Int32) (li : Int32) (sct : Int32) (ye : Nat → Int32) (post : Int32 → Prop) : Prop :=
  P_X6_has (12 : Int32) 96 12 x1 sct (fun r1 => (r1 = 0 → post (0 : Int32)) ∧ (¬ r1 = 0 → (P_X6_has (12 : Int32) 96 12 x2 sct (fun r2 => (r2 = 0 → post (0 : Int32)) ∧ (¬ r2 = 0 → (vp_in x1 12 ∧ (vp_in x2 12 ∧ (((ye (Int32.toNatClampNeg x1)) < (ye (Int32.toNatClampNeg x2)) → post (1 : Int32)) ∧ (¬ (ye (Int32.toNatClampNeg x1)) < (ye (Int32.toNatClampNeg x2)) → (vp_in x1 12 ∧ (vp_in x2 12 ∧ ((¬ (ye (Int32.toNatClampNeg x1)) = (ye (Int32.toNatClampNeg x2)) → post (0 : Int32)) ∧ ((ye (Int32.toNatClampNeg x1)) = (ye (Int32.toNatClampNeg x2)) → ((x2 ≤ x1 → post (0 : Int32)) ∧ (¬ x2 ≤ x1 → post (1 : Int32))))))))))))))))
set_option maxHeartbeats 4000000 in
set_option maxRecDepth 100000 in
theorem c_X7_isOlder (l : Launch) (D : va_G) (cI cS cT : ClassId) (ad : Nat → Nat) (b0 : Nat) (x1 : Int32) (x2 : Int32) (li : Int32) (sct : Int32) (ye : Nat → Int32) (post : Int32 → Prop) (h : P_X7_isOlder x1 x2 li sct ye post) : MI l D (TY cI cS cT) yX7_isOlder cX7_isOlder 3 (some .boolean) rm_X7_isOlder [.ref (ad b0), .int x1, .int x2] (Wd_X7_isOlder cI cS cT ad b0 li sct ye) (fun (r : Int32) w => w = (Wd_X7_isOlder cI cS cT ad b0 li sct ye) ∧ post r) := by
  refine MI.of (by decide) (Nat.le_of_ble_eq_true rfl) (fun E hC hR hn => ?_)
  replace hC : Cx l D (TY cI cS cT) E rm_X7_isOlder cX7_isOlder RX7 := hC
  replace hR : RetI D E (fun (r : Int32) w => w = (Wd_X7_isOlder cI cS cT ad b0 li sct ye) ∧ post r) 0 0 (some .boolean) := hR
  unfold P_X7_isOlder at h
  change G l D E 0 0 _ [(0, .ref (ad b0)), (1, .int x1), (2, .int x2)] 0 []
  refine g_aload_n 0 0 hC dX7_isOlder_0 rfl ?_
  refine g_get 1 0 0 hC inlX7 wq_49 dX7_isOlder_1 rfl rfl (by decide) rfl ?_
  refine g_iload_n 4 1 hC dX7_isOlder_4 rfl ?_
  refine g_cVNi (As := [.int x1]) (rest := []) 5 1 [1] hC (c_X6_has l D cI cS cT ad (b0 + 1) (12 : Int32) 96 12 x1 sct _ h) kX6_has nq_314 dX7_isOlder_5 rfl rfl ⟨Nat.le_of_ble_eq_true rfl, Nat.le_of_ble_eq_true rfl⟩ rfl rfl (Nat.zero_le _) (Nat.zero_le _) rfl rfl rfl (Nat.le_of_ble_eq_true rfl) ?_
  rintro r1 _ ⟨rfl, h⟩
  refine ⟨Nat.le_of_ble_eq_true rfl, G.upd [0, 2] (Wd_X7_isOlder cI cS cT ad b0 li sct ye) rfl rfl rfl rfl rfl ?_⟩
  refine g_if_eq 8 61 hC dX7_isOlder_8 (by decide) (fun hc => ?_) (fun hc => ?_)
  · replace h := h.1 hc
    refine g_iconst (v := (0 : Int32)) 61 hC dX7_isOlder_61 (by decide) ?_
    exact g_zret 62 hC hR dX7_isOlder_62 (by decide) ⟨rfl, h⟩
  · replace h := h.2 hc
    refine g_aload_n 11 0 hC dX7_isOlder_11 rfl ?_
    refine g_get 12 0 0 hC inlX7 wq_49 dX7_isOlder_12 rfl rfl (by decide) rfl ?_
    refine g_iload_n 15 2 hC dX7_isOlder_15 rfl ?_
    refine g_cVNi (As := [.int x2]) (rest := []) 16 1 [1] hC (c_X6_has l D cI cS cT ad (b0 + 1) (12 : Int32) 96 12 x2 sct _ h) kX6_has nq_314 dX7_isOlder_16 rfl rfl ⟨Nat.le_of_ble_eq_true rfl, Nat.le_of_ble_eq_true rfl⟩ rfl rfl (Nat.zero_le _) (Nat.zero_le _) rfl rfl rfl (Nat.le_of_ble_eq_true rfl) ?_
    rintro r2 _ ⟨rfl, h⟩
    refine ⟨Nat.le_of_ble_eq_true rfl, G.upd [0, 2] (Wd_X7_isOlder cI cS cT ad b0 li sct ye) rfl rfl rfl rfl rfl ?_⟩
    refine g_if_eq 19 61 hC dX7_isOlder_19 (by decide) (fun hc => ?_) (fun hc => ?_)
    · replace h := h.1 hc
      refine g_iconst (v := (0 : Int32)) 61 hC dX7_isOlder_61 (by decide) ?_
      exact g_zret 62 hC hR dX7_isOlder_62 (by decide) ⟨rfl, h⟩
    · replace h := h.2 hc
      refine g_aload_n 22 0 hC dX7_isOlder_22 rfl ?_
      refine g_get 23 0 1 hC inlX7 wq_50 dX7_isOlder_23 rfl rfl (by decide) rfl ?_
      refine g_iload_n 26 1 hC dX7_isOlder_26 rfl ?_
      obtain ⟨hj, h⟩ := h
      refine g_iald 27 2 hC dX7_isOlder_27 rfl rfl hj ?_
      refine g_aload_n 28 0 hC dX7_isOlder_28 rfl ?_
      refine g_get 29 0 1 hC inlX7 wq_50 dX7_isOlder_29 rfl rfl (by decide) rfl ?_
      refine g_iload_n 32 2 hC dX7_isOlder_32 rfl ?_
      obtain ⟨hj, h⟩ := h
      refine g_iald 33 2 hC dX7_isOlder_33 rfl rfl hj ?_
      refine g_icmp_lt 34 57 hC dX7_isOlder_34 (by decide) (fun hc => ?_) (fun hc => ?_)
      · replace h := h.1 hc
        refine g_iconst (v := (1 : Int32)) 57 hC dX7_isOlder_57 (by decide) ?_
        refine g_goto 58 62 hC dX7_isOlder_58 (by decide) ?_
        exact g_zret 62 hC hR dX7_isOlder_62 (by decide) ⟨rfl, h⟩
      · replace h := h.2 hc
        refine g_aload_n 37 0 hC dX7_isOlder_37 rfl ?_
        refine g_get 38 0 1 hC inlX7 wq_50 dX7_isOlder_38 rfl rfl (by decide) rfl ?_
        refine g_iload_n 41 1 hC dX7_isOlder_41 rfl ?_
        obtain ⟨hj, h⟩ := h
        refine g_iald 42 2 hC dX7_isOlder_42 rfl rfl hj ?_
        refine g_aload_n 43 0 hC dX7_isOlder_43 rfl ?_
        refine g_get 44 0 1 hC inlX7 wq_50 dX7_isOlder_44 rfl rfl (by decide) rfl ?_
        refine g_iload_n 47 2 hC dX7_isOlder_47 rfl ?_
        obtain ⟨hj, h⟩ := h
        refine g_iald 48 2 hC dX7_isOlder_48 rfl rfl hj ?_
        refine g_icmp_ne 49 61 hC dX7_isOlder_49 (by decide) (fun hc => ?_) (fun hc => ?_)
        · replace h := h.1 hc
          refine g_iconst (v := (0 : Int32)) 61 hC dX7_isOlder_61 (by decide) ?_
          exact g_zret 62 hC hR dX7_isOlder_62 (by decide) ⟨rfl, h⟩
        · replace h := h.2 hc
          refine g_iload_n 52 1 hC dX7_isOlder_52 rfl ?_
          refine g_iload_n 53 2 hC dX7_isOlder_53 rfl ?_
          refine g_icmp_ge 54 61 hC dX7_isOlder_54 (by decide) (fun hc => ?_) (fun hc => ?_)
          · replace h := h.1 hc
            refine g_iconst (v := (0 : Int32)) 61 hC dX7_isOlder_61 (by decide) ?_
            exact g_zret 62 hC hR dX7_isOlder_62 (by decide) ⟨rfl, h⟩
          · replace h := h.2 hc
            refine g_iconst (v := (1 : Int32)) 57 hC dX7_isOlder_57 (by decide) ?_
            refine g_goto 58 62 hC dX7_isOlder_58 (by decide) ?_
            exact g_zret 62 hC hR dX7_isOlder_62 (by decide) ⟨rfl, h⟩

/-! ===== ProverbCollection$State.place(I)I ===== -/
def Wd_X7_place (cI cS cT : ClassId) (ad : Nat → Nat) (b0 : Nat) (li : Int32) (sct : Int32) (ye : Nat → Int32) : va_W := [(ad b0, .inr (7, [.ref (ad (b0 + 1)), .ref (ad (b0 + 4)), .ref (ad (b0 + 5)), .ref (ad (b0 + 6)), .ref (ad (b0 + 9)), .int li])), (ad (b0 + 1), .inr (6, [.int 12, .ref (ad (b0 + 2)), .ref (ad (b0 + 3)), .int sct])), (ad (b0 + 4), .inl (cI, 12, .inl ye))]
def rm_X7_place : Room := { frames := 2, cells := 0, slots := 0, locals := 43 }
theorem kX7_place : KV yX7_place cX7_place 4 (some .int) 1 := ⟨wq_141, wq_16, wq_139, wq_140, by decide +kernel⟩
def B_X7_place_4 (v1 : Int32) (li : Int32) (sct : Int32) (ye : Nat → Int32) (K : Int32 → Int32 → Prop) (rc : Int32 → Int32 → Prop) (v3 : Int32) (v2 : Int32) : Prop :=
  (sct ≤ v3 → K v3 v2) ∧ (¬ sct ≤ v3 → (P_X7_isOlder v3 v1 li sct ye (fun r1 => (r1 = 0 → rc (v3 + (1 : Int32)) (v2 + (0 : Int32))) ∧ (¬ r1 = 0 → rc (v3 + (1 : Int32)) (v2 + (1 : Int32))))))
def P_X7_place_4 (v1 : Int32) (li : Int32) (sct : Int32) (ye : Nat → Int32) (K : Int32 → Int32 → Prop) : Nat → Int32 → Int32 → Prop
  | 0 => fun _ _ => False
  | n + 1 => fun v3 v2 => B_X7_place_4 v1 li sct ye K (P_X7_place_4 v1 li sct ye K n) v3 v2
def P_X7_place (x1 : Int32) (li : Int32) (sct : Int32) (ye : Nat → Int32) (post : Int32 → Prop) : Prop :=
  ∃ n : Nat, P_X7_place_4 x1 li sct ye (fun w3_2 w2_2 => post w2_2) n (0 : Int32) (0 : Int32)
set_option maxHeartbeats 4000000 in
set_option maxRecDepth 100000 in
theorem L_X7_place_4 {l : Launch} {D : va_G} {cI cS cT : ClassId} {ad : Nat → Nat} {b0 : Nat} {E : CE} {v1 : Int32} {li : Int32} {sct : Int32} {ye : Nat → Int32} {post : Int32 → Prop} (hC : Cx l D (TY cI cS cT) E rm_X7_place cX7_place RX7) (hR : RetI D E (fun (r : Int32) w => w = (Wd_X7_place cI cS cT ad b0 li sct ye) ∧ post r) 0 0 (some .int)) (hn : E.nL = 4) (K : Int32 → Int32 → Prop) (hK : ∀ (v3 : Int32) (v2 : Int32), K v3 v2 → G l D E 0 0 (Wd_X7_place cI cS cT ad b0 li sct ye) [(3, .int v3), (2, .int v2), (0, .ref (ad b0)), (1, .int v1)] 38 []) : ∀ (n : Nat) (v3 : Int32) (v2 : Int32), P_X7_place_4 v1 li sct ye K n v3 v2 → G l D E 0 0 (Wd_X7_place cI cS cT ad b0 li sct ye) [(3, .int v3), (2, .int v2), (0, .ref (ad b0)), (1, .int v1)] 4 [] := by
  intro n
  induction n with
  | zero => exact fun _ _ h => h.elim
  | succ n ih =>
    intro v3 v2 h
    replace h : B_X7_place_4 v1 li sct ye K (P_X7_place_4 v1 li sct ye K n) v3 v2 := h
    unfold B_X7_place_4 at h
    refine g_iload_n 4 0 hC dX7_place_4 rfl ?_
    refine g_aload_n 5 2 hC dX7_place_5 rfl ?_
    refine g_get 6 0 0 hC inlX7 wq_49 dX7_place_6 rfl rfl (by decide) rfl ?_
    refine g_getN 9 1 3 hC inlX6 nq_55 dX7_place_9 rfl rfl (by decide) rfl ?_
    refine g_icmp_ge 12 38 hC dX7_place_12 (by decide) (fun hc => ?_) (fun hc => ?_)
    · replace h := h.1 hc
      refine G.sub [0, 1, 2, 3] rfl ?_
      exact hK v3 v2 h
    · replace h := h.2 hc
      refine g_iload_n 15 1 hC dX7_place_15 rfl ?_
      refine g_aload_n 16 2 hC dX7_place_16 rfl ?_
      refine g_iload_n 17 0 hC dX7_place_17 rfl ?_
      refine g_iload_n 18 3 hC dX7_place_18 rfl ?_
      refine g_cVi (As := [.int v3, .int v1]) (rest := [.int v2]) 19 0 [0, 1, 2] hC (c_X7_isOlder l D cI cS cT ad b0 v3 v1 li sct ye _ h) kX7_isOlder wq_142 dX7_place_19 rfl rfl ⟨Nat.le_of_ble_eq_true rfl, Nat.le_of_ble_eq_true rfl⟩ rfl rfl (Nat.zero_le _) (Nat.zero_le _) rfl rfl rfl (Nat.le_of_ble_eq_true rfl) ?_
      rintro r1 _ ⟨rfl, h⟩
      refine ⟨Nat.le_of_ble_eq_true rfl, G.upd [] (Wd_X7_place cI cS cT ad b0 li sct ye) rfl rfl rfl rfl rfl ?_⟩
      refine g_if_eq 22 29 hC dX7_place_22 (by decide) (fun hc => ?_) (fun hc => ?_)
      · replace h := h.1 hc
        refine g_iconst (v := (0 : Int32)) 29 hC dX7_place_29 (by decide) ?_
        refine g_iadd 30 hC dX7_place_30 ?_
        refine g_istore_n 31 [(2, .int (v2 + (0 : Int32))), (3, .int v3), (0, .ref (ad b0)), (1, .int v1)] hC dX7_place_31 (by rw [hn]; decide) rfl ?_
        refine g_iinc (v := (1 : Int32)) 32 1 [(3, .int (v3 + (1 : Int32))), (2, .int (v2 + (0 : Int32))), (0, .ref (ad b0)), (1, .int v1)] hC dX7_place_32 rfl (by decide) (by rw [hn]; decide) rfl ?_
        refine g_goto 35 4 hC dX7_place_35 (by decide) ?_
        refine G.sub [0, 1, 2, 3] rfl ?_
        exact ih _ _ h
      · replace h := h.2 hc
        refine g_iconst (v := (1 : Int32)) 25 hC dX7_place_25 (by decide) ?_
        refine g_goto 26 30 hC dX7_place_26 (by decide) ?_
        refine g_iadd 30 hC dX7_place_30 ?_
        refine g_istore_n 31 [(2, .int (v2 + (1 : Int32))), (3, .int v3), (0, .ref (ad b0)), (1, .int v1)] hC dX7_place_31 (by rw [hn]; decide) rfl ?_
        refine g_iinc (v := (1 : Int32)) 32 1 [(3, .int (v3 + (1 : Int32))), (2, .int (v2 + (1 : Int32))), (0, .ref (ad b0)), (1, .int v1)] hC dX7_place_32 rfl (by decide) (by rw [hn]; decide) rfl ?_
        refine g_goto 35 4 hC dX7_place_35 (by decide) ?_
        refine G.sub [0, 1, 2, 3] rfl ?_
        exact ih _ _ h
set_option maxHeartbeats 4000000 in
set_option maxRecDepth 100000 in
theorem c_X7_place (l : Launch) (D : va_G) (cI cS cT : ClassId) (ad : Nat → Nat) (b0 : Nat) (x1 : Int32) (li : Int32) (sct : Int32) (ye : Nat → Int32) (post : Int32 → Prop) (h : P_X7_place x1 li sct ye post) : MI l D (TY cI cS cT) yX7_place cX7_place 4 (some .int) rm_X7_place [.ref (ad b0), .int x1] (Wd_X7_place cI cS cT ad b0 li sct ye) (fun (r : Int32) w => w = (Wd_X7_place cI cS cT ad b0 li sct ye) ∧ post r) := by
  refine MI.of (by decide) (Nat.le_of_ble_eq_true rfl) (fun E hC hR hn => ?_)
  replace hC : Cx l D (TY cI cS cT) E rm_X7_place cX7_place RX7 := hC
  replace hR : RetI D E (fun (r : Int32) w => w = (Wd_X7_place cI cS cT ad b0 li sct ye) ∧ post r) 0 0 (some .int) := hR
  unfold P_X7_place at h
  change G l D E 0 0 _ [(0, .ref (ad b0)), (1, .int x1)] 0 []
  refine g_iconst (v := (0 : Int32)) 0 hC dX7_place_0 (by decide) ?_
  refine g_istore_n 1 [(2, .int (0 : Int32)), (0, .ref (ad b0)), (1, .int x1)] hC dX7_place_1 (by rw [hn]; decide) rfl ?_
  refine g_iconst (v := (0 : Int32)) 2 hC dX7_place_2 (by decide) ?_
  refine g_istore_n 3 [(3, .int (0 : Int32)), (2, .int (0 : Int32)), (0, .ref (ad b0)), (1, .int x1)] hC dX7_place_3 (by rw [hn]; decide) rfl ?_
  obtain ⟨n, h⟩ := h
  refine L_X7_place_4 hC hR hn _ (fun w3_2 w2_2 h => ?_) n _ _ h
  refine g_iload_n 38 1 hC dX7_place_38 rfl ?_
  exact g_iret 39 hC hR dX7_place_39 ⟨rfl, h⟩

/-! ===== ProverbCollection$State.sortByAge([I)V ===== -/
def Wd_X7_sortByAge (cI cS cT : ClassId) (ad : Nat → Nat) (b0 : Nat) (b1 : Nat) (fN : Nat) (li : Int32) (sct : Int32) (ye : Nat → Int32) (fa : Nat → Int32) : va_W := [(ad b0, .inr (7, [.ref (ad (b0 + 1)), .ref (ad (b0 + 4)), .ref (ad (b0 + 5)), .ref (ad (b0 + 6)), .ref (ad (b0 + 9)), .int li])), (ad (b0 + 1), .inr (6, [.int 12, .ref (ad (b0 + 2)), .ref (ad (b0 + 3)), .int sct])), (ad (b0 + 4), .inl (cI, 12, .inl ye)), (ad b1, .inl (cI, fN, .inl fa))]
def rm_X7_sortByAge : Room := { frames := 3, cells := 0, slots := 0, locals := 66 }
theorem kX7_sortByAge : KV yX7_sortByAge cX7_sortByAge 4 none 1 := ⟨wq_137, wq_16, wq_135, wq_136, by decide +kernel⟩
def B_X7_sortByAge_2 (fN : Nat) (li : Int32) (sct : Int32) (ye : Nat → Int32) (K : Int32 → (Nat → Int32) → Prop) (rc : Int32 → (Nat → Int32) → Prop) (v2 : Int32) (fa : Nat → Int32) : Prop :=
  (sct ≤ v2 → K v2 fa) ∧ (¬ sct ≤ v2 → (P_X7_place v2 li sct ye (fun r1 => ((Int32.ofNat fN) ≤ r1 → rc (v2 + (1 : Int32)) fa) ∧ (¬ (Int32.ofNat fN) ≤ r1 → (vp_in r1 fN ∧ (rc (v2 + (1 : Int32)) (upd fa (Int32.toNatClampNeg r1) v2)))))))
def P_X7_sortByAge_2 (fN : Nat) (li : Int32) (sct : Int32) (ye : Nat → Int32) (K : Int32 → (Nat → Int32) → Prop) : Nat → Int32 → (Nat → Int32) → Prop
  | 0 => fun _ _ => False
  | n + 1 => fun v2 fa => B_X7_sortByAge_2 fN li sct ye K (P_X7_sortByAge_2 fN li sct ye K n) v2 fa
def P_X7_sortByAge (fN : Nat) (li : Int32) (sct : Int32) (ye : Nat → Int32) (fa : Nat → Int32) (post : (Nat → Int32) → Prop) : Prop :=
  ∃ n : Nat, P_X7_sortByAge_2 fN li sct ye (fun w2_2 fa_2 => post fa_2) n (0 : Int32) fa
set_option maxHeartbeats 4000000 in
set_option maxRecDepth 100000 in
theorem L_X7_sortByAge_2 {l : Launch} {D : va_G} {cI cS cT : ClassId} {ad : Nat → Nat} {b0 : Nat} {b1 : Nat} {E : CE} {fN : Nat} {li : Int32} {sct : Int32} {ye : Nat → Int32} {post : (Nat → Int32) → Prop} (hC : Cx l D (TY cI cS cT) E rm_X7_sortByAge cX7_sortByAge RX7) (hR : RetV D E (fun w => ∃ (u_fa : Nat → Int32), w = (Wd_X7_sortByAge cI cS cT ad b0 b1 fN li sct ye u_fa) ∧ post u_fa) 0 0) (hn : E.nL = 4) (K : Int32 → (Nat → Int32) → Prop) (hK : ∀ (v2 : Int32) (fa : Nat → Int32), K v2 fa → G l D E 0 0 (Wd_X7_sortByAge cI cS cT ad b0 b1 fN li sct ye fa) [(2, .int v2), (0, .ref (ad b0)), (1, .ref (ad b1))] 35 []) : ∀ (n : Nat) (v2 : Int32) (fa : Nat → Int32), P_X7_sortByAge_2 fN li sct ye K n v2 fa → G l D E 0 0 (Wd_X7_sortByAge cI cS cT ad b0 b1 fN li sct ye fa) [(2, .int v2), (0, .ref (ad b0)), (1, .ref (ad b1))] 2 [] := by
  intro n
  induction n with
  | zero => exact fun _ _ h => h.elim
  | succ n ih =>
    intro v2 fa h
    replace h : B_X7_sortByAge_2 fN li sct ye K (P_X7_sortByAge_2 fN li sct ye K n) v2 fa := h
    unfold B_X7_sortByAge_2 at h
    refine g_iload_n 2 0 hC dX7_sortByAge_2 rfl ?_
    refine g_aload_n 3 1 hC dX7_sortByAge_3 rfl ?_
    refine g_get 4 0 0 hC inlX7 wq_49 dX7_sortByAge_4 rfl rfl (by decide) rfl ?_
    refine g_getN 7 1 3 hC inlX6 nq_55 dX7_sortByAge_7 rfl rfl (by decide) rfl ?_
    refine g_icmp_ge 10 35 hC dX7_sortByAge_10 (by decide) (fun hc => ?_) (fun hc => ?_)
    · replace h := h.1 hc
      refine G.sub [0, 1, 2] rfl ?_
      exact hK v2 fa h
    · replace h := h.2 hc
      refine g_aload_n 13 1 hC dX7_sortByAge_13 rfl ?_
      refine g_iload_n 14 0 hC dX7_sortByAge_14 rfl ?_
      refine g_cVi (As := [.int v2]) (rest := []) 15 0 [0, 1, 2] hC (c_X7_place l D cI cS cT ad b0 v2 li sct ye _ h) kX7_place wq_138 dX7_sortByAge_15 rfl rfl ⟨Nat.le_of_ble_eq_true rfl, Nat.le_of_ble_eq_true rfl⟩ rfl rfl (Nat.zero_le _) (Nat.zero_le _) rfl rfl rfl (Nat.le_of_ble_eq_true rfl) ?_
      rintro r1 _ ⟨rfl, h⟩
      refine ⟨Nat.le_of_ble_eq_true rfl, G.upd [3] (Wd_X7_sortByAge cI cS cT ad b0 b1 fN li sct ye fa) rfl rfl rfl rfl rfl ?_⟩
      refine g_istore_n 18 [(3, .int r1), (2, .int v2), (0, .ref (ad b0)), (1, .ref (ad b1))] hC dX7_sortByAge_18 (by rw [hn]; decide) rfl ?_
      refine g_iload_n 19 0 hC dX7_sortByAge_19 rfl ?_
      refine g_aload_n 20 3 hC dX7_sortByAge_20 rfl ?_
      refine g_alen 21 3 0 hC dX7_sortByAge_21 rfl rfl ?_
      refine g_icmp_ge 22 29 hC dX7_sortByAge_22 (by decide) (fun hc => ?_) (fun hc => ?_)
      · replace h := h.1 hc
        refine g_iinc (v := (1 : Int32)) 29 1 [(2, .int (v2 + (1 : Int32))), (3, .int r1), (0, .ref (ad b0)), (1, .ref (ad b1))] hC dX7_sortByAge_29 rfl (by decide) (by rw [hn]; decide) rfl ?_
        refine g_goto 32 2 hC dX7_sortByAge_32 (by decide) ?_
        refine G.sub [0, 2, 3] rfl ?_
        exact ih _ _ h
      · replace h := h.2 hc
        refine g_aload_n 25 3 hC dX7_sortByAge_25 rfl ?_
        refine g_iload_n 26 0 hC dX7_sortByAge_26 rfl ?_
        refine g_iload_n 27 1 hC dX7_sortByAge_27 rfl ?_
        obtain ⟨hj, h⟩ := h
        refine g_iast 28 3 (Wd_X7_sortByAge cI cS cT ad b0 b1 fN li sct ye (upd fa (Int32.toNatClampNeg r1) v2)) hC dX7_sortByAge_28 rfl rfl hj rfl ?_
        refine g_iinc (v := (1 : Int32)) 29 1 [(2, .int (v2 + (1 : Int32))), (3, .int r1), (0, .ref (ad b0)), (1, .ref (ad b1))] hC dX7_sortByAge_29 rfl (by decide) (by rw [hn]; decide) rfl ?_
        refine g_goto 32 2 hC dX7_sortByAge_32 (by decide) ?_
        refine G.sub [0, 2, 3] rfl ?_
        exact ih _ _ h
set_option maxHeartbeats 4000000 in
set_option maxRecDepth 100000 in
theorem c_X7_sortByAge (l : Launch) (D : va_G) (cI cS cT : ClassId) (ad : Nat → Nat) (b0 : Nat) (b1 : Nat) (fN : Nat) (li : Int32) (sct : Int32) (ye : Nat → Int32) (fa : Nat → Int32) (post : (Nat → Int32) → Prop) (h : P_X7_sortByAge fN li sct ye fa post) : MV l D (TY cI cS cT) yX7_sortByAge cX7_sortByAge 4 rm_X7_sortByAge [.ref (ad b0), .ref (ad b1)] (Wd_X7_sortByAge cI cS cT ad b0 b1 fN li sct ye fa) (fun w => ∃ (u_fa : Nat → Int32), w = (Wd_X7_sortByAge cI cS cT ad b0 b1 fN li sct ye u_fa) ∧ post u_fa) := by
  refine MV.of (by decide) (Nat.le_of_ble_eq_true rfl) (fun E hC hR hn => ?_)
  replace hC : Cx l D (TY cI cS cT) E rm_X7_sortByAge cX7_sortByAge RX7 := hC
  replace hR : RetV D E (fun w => ∃ (u_fa : Nat → Int32), w = (Wd_X7_sortByAge cI cS cT ad b0 b1 fN li sct ye u_fa) ∧ post u_fa) 0 0 := hR
  unfold P_X7_sortByAge at h
  change G l D E 0 0 _ [(0, .ref (ad b0)), (1, .ref (ad b1))] 0 []
  refine g_iconst (v := (0 : Int32)) 0 hC dX7_sortByAge_0 (by decide) ?_
  refine g_istore_n 1 [(2, .int (0 : Int32)), (0, .ref (ad b0)), (1, .ref (ad b1))] hC dX7_sortByAge_1 (by rw [hn]; decide) rfl ?_
  obtain ⟨n, h⟩ := h
  refine L_X7_sortByAge_2 hC hR hn _ (fun w2_2 fa_2 h => ?_) n _ _ h
  exact g_vret 35 hC hR dX7_sortByAge_35 ⟨fa_2, rfl, h⟩
