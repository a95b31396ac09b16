/-! written by wip/p31/gen/walk.py: worlds, predicates and contracts -/
/-! ===== ProverbCollection.hasBoth(II)Z ===== -/
def Wd_X8_hasBoth (cI cS cT : ClassId) (ad : Nat → Nat) (b0 : Nat) (nli : Int32) (nsct : Int32) : va_W := [(ad b0, .inr (8, [.ref (ad (b0 + 1)), .ref (ad (b0 + 3)), .ref (ad (b0 + 13)), .ref (ad (b0 + 65)), .ref (ad (b0 + 81)), .ref (ad (b0 + 88)), .ref (ad (b0 + 92)), .ref (ad (b0 + 99))])), (ad (b0 + 3), .inr (7, [.ref (ad (b0 + 4)), .ref (ad (b0 + 7)), .ref (ad (b0 + 8)), .ref (ad (b0 + 9)), .ref (ad (b0 + 12)), .int nli])), (ad (b0 + 4), .inr (6, [.int 12, .ref (ad (b0 + 5)), .ref (ad (b0 + 6)), .int nsct]))]
def rm_X8_hasBoth : Room := { frames := 1, cells := 0, slots := 0, locals := 21 }
theorem kX8_hasBoth : KV yX8_hasBoth cX8_hasBoth 3 (some .boolean) 2 := ⟨wq_264, wq_3, wq_262, wq_263, by decide +kernel⟩
def P_X8_hasBoth (x1 : Int32) (x2 : Int32) (nli : Int32) (nsct : Int32) (post : Int32 → Prop) : Prop :=
  P_X6_has (12 : Int32) 96 12 x1 nsct (fun r1 => (r1 = 0 → post (0 : Int32)) ∧ (¬ r1 = 0 → (P_X6_has (12 : Int32) 96 12 x2 nsct (fun r2 => (r2 = 0 → post (0 : Int32)) ∧ (¬ r2 = 0 → post (1 : Int32))))))
set_option maxHeartbeats 4000000 in
set_option maxRecDepth 100000 in
theorem c_X8_hasBoth (l : Launch) (D : va_G) (cI cS cT : ClassId) (ad : Nat → Nat) (b0 : Nat) (x1 : Int32) (x2 : Int32) (nli : Int32) (nsct : Int32) (post : Int32 → Prop) (h : P_X8_hasBoth x1 x2 nli nsct post) : MI l D (TY cI cS cT) yX8_hasBoth cX8_hasBoth 3 (some .boolean) rm_X8_hasBoth [.ref (ad b0), .int x1, .int x2] (Wd_X8_hasBoth cI cS cT ad b0 nli nsct) (fun (r : Int32) w => w = (Wd_X8_hasBoth cI cS cT ad b0 nli nsct) ∧ post r) := by
  refine MI.of (by decide) (Nat.le_of_ble_eq_true rfl) (fun E hC hR hn => ?_)
  replace hC : Cx l D (TY cI cS cT) E rm_X8_hasBoth cX8_hasBoth RX8 := hC
  replace hR : RetI D E (fun (r : Int32) w => w = (Wd_X8_hasBoth cI cS cT ad b0 nli nsct) ∧ post r) 0 0 (some .boolean) := hR
  unfold P_X8_hasBoth at h
  change G l D E 0 0 _ [(0, .ref (ad b0)), (1, .int x1), (2, .int x2)] 0 []
  refine g_aload_n 0 0 hC dX8_hasBoth_0 rfl ?_
  refine g_get 1 0 1 hC inlX8 wq_17 dX8_hasBoth_1 rfl rfl (by decide) rfl ?_
  refine g_getN 4 1 0 hC inlX7 nq_69 dX8_hasBoth_4 rfl rfl (by decide) rfl ?_
  refine g_iload_n 7 1 hC dX8_hasBoth_7 rfl ?_
  refine g_cVNi (As := [.int x1]) (rest := []) 8 2 [2] hC (c_X6_has l D cI cS cT ad (b0 + 4) (12 : Int32) 96 12 x1 nsct _ h) kX6_has nq_242 dX8_hasBoth_8 rfl rfl ⟨Nat.le_of_ble_eq_true rfl, Nat.le_of_ble_eq_true rfl⟩ rfl rfl (Nat.zero_le _) (Nat.zero_le _) rfl rfl rfl (Nat.le_of_ble_eq_true rfl) ?_
  rintro r1 _ ⟨rfl, h⟩
  refine ⟨Nat.le_of_ble_eq_true rfl, G.upd [0, 1] (Wd_X8_hasBoth cI cS cT ad b0 nli nsct) rfl rfl rfl rfl rfl ?_⟩
  refine g_if_eq 11 32 hC dX8_hasBoth_11 (by decide) (fun hc => ?_) (fun hc => ?_)
  · replace h := h.1 hc
    refine g_iconst (v := (0 : Int32)) 32 hC dX8_hasBoth_32 (by decide) ?_
    exact g_zret 33 hC hR dX8_hasBoth_33 (by decide) ⟨rfl, h⟩
  · replace h := h.2 hc
    refine g_aload_n 14 0 hC dX8_hasBoth_14 rfl ?_
    refine g_get 15 0 1 hC inlX8 wq_17 dX8_hasBoth_15 rfl rfl (by decide) rfl ?_
    refine g_getN 18 1 0 hC inlX7 nq_69 dX8_hasBoth_18 rfl rfl (by decide) rfl ?_
    refine g_iload_n 21 2 hC dX8_hasBoth_21 rfl ?_
    refine g_cVNi (As := [.int x2]) (rest := []) 22 2 [2] hC (c_X6_has l D cI cS cT ad (b0 + 4) (12 : Int32) 96 12 x2 nsct _ h) kX6_has nq_242 dX8_hasBoth_22 rfl rfl ⟨Nat.le_of_ble_eq_true rfl, Nat.le_of_ble_eq_true rfl⟩ rfl rfl (Nat.zero_le _) (Nat.zero_le _) rfl rfl rfl (Nat.le_of_ble_eq_true rfl) ?_
    rintro r2 _ ⟨rfl, h⟩
    refine ⟨Nat.le_of_ble_eq_true rfl, G.upd [0, 1] (Wd_X8_hasBoth cI cS cT ad b0 nli nsct) rfl rfl rfl rfl rfl ?_⟩
    refine g_if_eq 25 32 hC dX8_hasBoth_25 (by decide) (fun hc => ?_) (fun hc => ?_)
    · replace h := h.1 hc
      refine g_iconst (v := (0 : Int32)) 32 hC dX8_hasBoth_32 (by decide) ?_
      exact g_zret 33 hC hR dX8_hasBoth_33 (by decide) ⟨rfl, h⟩
    · replace h := h.2 hc
      refine g_iconst (v := (1 : Int32)) 28 hC dX8_hasBoth_28 (by decide) ?_
      refine g_goto 29 33 hC dX8_hasBoth_29 (by decide) ?_
      exact g_zret 33 hC hR dX8_hasBoth_33 (by decide) ⟨rfl, h⟩

/-! ===== ProverbCollection.bitsOf(F)I ===== -/
def Wd_X8_bitsOf (cI cS cT : ClassId) (ad : Nat → Nat) : va_W := []
def rm_X8_bitsOf : Room := { frames := 0, cells := 0, slots := 0, locals := 0 }
theorem kX8_bitsOf : KS yX8_bitsOf cX8_bitsOf 3 (some .int) 1 := ⟨wq_303, wq_3, wq_302, by decide +kernel⟩
def B_X8_bitsOf_13 (K : Int32 → UInt32 → Prop) (rc : Int32 → UInt32 → Prop) (v2 : Int32) (v1 : UInt32) : Prop :=
  (v2 ≤ (1 : Int32) → K v2 v1) ∧ (¬ v2 ≤ (1 : Int32) → ((0 ≤ (Op.cmpValue (FP.fcmp v1 FP.fconst1) .g) → K v2 v1) ∧ (¬ 0 ≤ (Op.cmpValue (FP.fcmp v1 FP.fconst1) .g) → (vf_n32 (FP.fmul v1 FP.fconst2) ∧ (rc (v2 + (-1 : Int32)) (FP.fmul v1 FP.fconst2))))))
def P_X8_bitsOf_13 (K : Int32 → UInt32 → Prop) : Nat → Int32 → UInt32 → Prop
  | 0 => fun _ _ => False
  | n + 1 => fun v2 v1 => B_X8_bitsOf_13 K (P_X8_bitsOf_13 K n) v2 v1
def P_X8_bitsOf (x0 : UInt32) (post : Int32 → Prop) : Prop :=
  (0 < (Op.cmpValue (FP.fcmp x0 FP.fconst0) .l) → (∃ n : Nat, P_X8_bitsOf_13 (fun w2_1 w1_1 => vf_n32 (FP.fsub w1_1 FP.fconst1) ∧ (vf_n32 (FP.fmul (FP.fsub w1_1 FP.fconst1) (1258291200 : UInt32)) ∧ (post ((w2_1 <<< ((23 : Int32) &&& 31)) + (FP.f2i (FP.fmul (FP.fsub w1_1 FP.fconst1) (1258291200 : UInt32))))))) n (127 : Int32) x0)) ∧ (¬ 0 < (Op.cmpValue (FP.fcmp x0 FP.fconst0) .l) → post (0 : Int32))
set_option maxHeartbeats 4000000 in
set_option maxRecDepth 100000 in
theorem L_X8_bitsOf_13 {l : Launch} {D : va_G} {cI cS cT : ClassId} {ad : Nat → Nat} {E : CE} {v0 : UInt32} {post : Int32 → Prop} (hC : Cx l D (TY cI cS cT) E rm_X8_bitsOf cX8_bitsOf RX8) (hR : RetI D E (fun (r : Int32) w => w = (Wd_X8_bitsOf cI cS cT ad) ∧ post r) 0 0 (some .int)) (hn : E.nL = 3) (K : Int32 → UInt32 → Prop) (hK : ∀ (v2 : Int32) (v1 : UInt32), K v2 v1 → G l D E 0 0 (Wd_X8_bitsOf cI cS cT ad) [(2, .int v2), (1, .float v1), (0, .float v0)] 34 []) : ∀ (n : Nat) (v2 : Int32) (v1 : UInt32), P_X8_bitsOf_13 K n v2 v1 → G l D E 0 0 (Wd_X8_bitsOf cI cS cT ad) [(2, .int v2), (1, .float v1), (0, .float v0)] 13 [] := by
  intro n
  induction n with
  | zero => exact fun _ _ h => h.elim
  | succ n ih =>
    intro v2 v1 h
    replace h : B_X8_bitsOf_13 K (P_X8_bitsOf_13 K n) v2 v1 := h
    unfold B_X8_bitsOf_13 at h
    refine g_iload_n 13 0 hC dX8_bitsOf_13 rfl ?_
    refine g_iconst (v := (1 : Int32)) 14 hC dX8_bitsOf_14 (by decide) ?_
    refine g_icmp_le 15 34 hC dX8_bitsOf_15 (by decide) (fun hc => ?_) (fun hc => ?_)
    · replace h := h.1 hc
      refine G.sub [0, 1, 2] rfl ?_
      exact hK v2 v1 h
    · replace h := h.2 hc
      refine g_fload_n 18 1 hC dX8_bitsOf_18 rfl ?_
      refine g_fconst1 19 hC dX8_bitsOf_19 ?_
      refine g_fcmp 20 hC dX8_bitsOf_20 ?_
      refine g_if_ge 21 34 hC dX8_bitsOf_21 (by decide) (fun hc => ?_) (fun hc => ?_)
      · replace h := h.1 hc
        refine G.sub [0, 1, 2] rfl ?_
        exact hK v2 v1 h
      · replace h := h.2 hc
        refine g_fload_n 24 1 hC dX8_bitsOf_24 rfl ?_
        refine g_fconst2 25 hC dX8_bitsOf_25 ?_
        obtain ⟨hf, h⟩ := h
        refine g_fmul 26 hC dX8_bitsOf_26 hf ?_
        refine g_fstore_n 27 [(1, .float (FP.fmul v1 FP.fconst2)), (2, .int v2), (0, .float v0)] hC dX8_bitsOf_27 (by rw [hn]; decide) rfl ?_
        refine g_iinc (v := (-1 : Int32)) 28 1 [(2, .int (v2 + (-1 : Int32))), (1, .float (FP.fmul v1 FP.fconst2)), (0, .float v0)] hC dX8_bitsOf_28 rfl (by decide) (by rw [hn]; decide) rfl ?_
        refine g_goto 31 13 hC dX8_bitsOf_31 (by decide) ?_
        refine G.sub [0, 1, 2] rfl ?_
        exact ih _ _ h
set_option maxHeartbeats 4000000 in
set_option maxRecDepth 100000 in
theorem c_X8_bitsOf (l : Launch) (D : va_G) (cI cS cT : ClassId) (ad : Nat → Nat) (x0 : UInt32) (post : Int32 → Prop) (h : P_X8_bitsOf x0 post) : MI l D (TY cI cS cT) yX8_bitsOf cX8_bitsOf 3 (some .int) rm_X8_bitsOf [.float x0] (Wd_X8_bitsOf cI cS cT ad) (fun (r : Int32) w => w = (Wd_X8_bitsOf cI cS cT ad) ∧ post r) := by
  refine MI.of (by decide) (Nat.le_of_ble_eq_true rfl) (fun E hC hR hn => ?_)
  replace hC : Cx l D (TY cI cS cT) E rm_X8_bitsOf cX8_bitsOf RX8 := hC
  replace hR : RetI D E (fun (r : Int32) w => w = (Wd_X8_bitsOf cI cS cT ad) ∧ post r) 0 0 (some .int) := hR
  unfold P_X8_bitsOf at h
  change G l D E 0 0 _ [(0, .float x0)] 0 []
  refine g_fload_n 0 0 hC dX8_bitsOf_0 rfl ?_
  refine g_fconst0 1 hC dX8_bitsOf_1 ?_
  refine g_fcmp 2 hC dX8_bitsOf_2 ?_
  refine g_if_gt 3 8 hC dX8_bitsOf_3 (by decide) (fun hc => ?_) (fun hc => ?_)
  · replace h := h.1 hc
    refine g_fload_n 8 0 hC dX8_bitsOf_8 rfl ?_
    refine g_fstore_n 9 [(1, .float x0), (0, .float x0)] hC dX8_bitsOf_9 (by rw [hn]; decide) rfl ?_
    refine g_bipush (v := (127 : Int32)) 10 hC dX8_bitsOf_10 (by decide) ?_
    refine g_istore_n 12 [(2, .int (127 : Int32)), (1, .float x0), (0, .float x0)] hC dX8_bitsOf_12 (by rw [hn]; decide) rfl ?_
    obtain ⟨n, h⟩ := h
    refine L_X8_bitsOf_13 hC hR hn _ (fun w2_1 w1_1 h => ?_) n _ _ h
    refine g_iload_n 34 0 hC dX8_bitsOf_34 rfl ?_
    refine g_bipush (v := (23 : Int32)) 35 hC dX8_bitsOf_35 (by decide) ?_
    refine g_ishl 37 hC dX8_bitsOf_37 ?_
    refine g_fload_n 38 1 hC dX8_bitsOf_38 rfl ?_
    refine g_fconst1 39 hC dX8_bitsOf_39 ?_
    obtain ⟨hf, h⟩ := h
    refine g_fsub 40 hC dX8_bitsOf_40 hf ?_
    refine g_ldcf 41 hC dX8_bitsOf_41 wq_304 ?_
    obtain ⟨hf, h⟩ := h
    refine g_fmul 43 hC dX8_bitsOf_43 hf ?_
    refine g_f2i 44 hC dX8_bitsOf_44 ?_
    refine g_iadd 45 hC dX8_bitsOf_45 ?_
    exact g_iret 46 hC hR dX8_bitsOf_46 ⟨rfl, h⟩
  · replace h := h.2 hc
    refine g_iconst (v := (0 : Int32)) 6 hC dX8_bitsOf_6 (by decide) ?_
    exact g_iret 7 hC hR dX8_bitsOf_7 ⟨rfl, h⟩

/-! ===== ProverbCollection.append(I)I ===== -/
def Wd_X8_append (cI cS cT : ClassId) (ad : Nat → Nat) (b0 : Nat) (bln : Int32) (btk : Nat → Int32) : va_W := [(ad b0, .inr (8, [.ref (ad (b0 + 1)), .ref (ad (b0 + 3)), .ref (ad (b0 + 13)), .ref (ad (b0 + 65)), .ref (ad (b0 + 81)), .ref (ad (b0 + 88)), .ref (ad (b0 + 92)), .ref (ad (b0 + 99))])), (ad (b0 + 1), .inr (5, [.ref (ad (b0 + 2)), .int bln])), (ad (b0 + 2), .inl (cI, 8, .inl btk))]
def rm_X8_append : Room := { frames := 1, cells := 0, slots := 0, locals := 21 }
theorem kX8_append : KV yX8_append cX8_append 2 (some .int) 1 := ⟨wq_209, wq_3, wq_207, wq_208, by decide +kernel⟩
def P_X8_append (x1 : Int32) (bln : Int32) (btk : Nat → Int32) (post : Int32 → Int32 → (Nat → Int32) → Prop) : Prop :=
  (x1 < 0 → post (-1 : Int32) bln btk) ∧ (¬ x1 < 0 → ((x1 ≤ (64 : Int32) → ((bln < (8 : Int32) → P_X5_add x1 bln btk (fun u1 u2 => post u1 u1 u2)) ∧ (¬ bln < (8 : Int32) → post (-3 : Int32) bln btk))) ∧ (¬ x1 ≤ (64 : Int32) → post (-1 : Int32) bln btk)))
set_option maxHeartbeats 4000000 in
set_option maxRecDepth 100000 in
theorem c_X8_append (l : Launch) (D : va_G) (cI cS cT : ClassId) (ad : Nat → Nat) (b0 : Nat) (x1 : Int32) (bln : Int32) (btk : Nat → Int32) (post : Int32 → Int32 → (Nat → Int32) → Prop) (h : P_X8_append x1 bln btk post) : MI l D (TY cI cS cT) yX8_append cX8_append 2 (some .int) rm_X8_append [.ref (ad b0), .int x1] (Wd_X8_append cI cS cT ad b0 bln btk) (fun (r : Int32) w => ∃ (u_bln : Int32) (u_btk : Nat → Int32), w = (Wd_X8_append cI cS cT ad b0 u_bln u_btk) ∧ post r u_bln u_btk) := by
  refine MI.of (by decide) (Nat.le_of_ble_eq_true rfl) (fun E hC hR hn => ?_)
  replace hC : Cx l D (TY cI cS cT) E rm_X8_append cX8_append RX8 := hC
  replace hR : RetI D E (fun (r : Int32) w => ∃ (u_bln : Int32) (u_btk : Nat → Int32), w = (Wd_X8_append cI cS cT ad b0 u_bln u_btk) ∧ post r u_bln u_btk) 0 0 (some .int) := hR
  unfold P_X8_append at h
  change G l D E 0 0 _ [(0, .ref (ad b0)), (1, .int x1)] 0 []
  refine g_iload_n 0 1 hC dX8_append_0 rfl ?_
  refine g_if_lt 1 10 hC dX8_append_1 (by decide) (fun hc => ?_) (fun hc => ?_)
  · replace h := h.1 hc
    refine g_iconst (v := (-1 : Int32)) 10 hC dX8_append_10 (by decide) ?_
    exact g_iret 11 hC hR dX8_append_11 ⟨bln, btk, rfl, h⟩
  · replace h := h.2 hc
    refine g_iload_n 4 1 hC dX8_append_4 rfl ?_
    refine g_bipush (v := (64 : Int32)) 5 hC dX8_append_5 (by decide) ?_
    refine g_icmp_le 7 12 hC dX8_append_7 (by decide) (fun hc => ?_) (fun hc => ?_)
    · replace h := h.1 hc
      refine g_aload_n 12 0 hC dX8_append_12 rfl ?_
      refine g_get 13 0 0 hC inlX8 wq_13 dX8_append_13 rfl rfl (by decide) rfl ?_
      refine g_getN 16 1 1 hC inlX5 nq_29 dX8_append_16 rfl rfl (by decide) rfl ?_
      refine g_bipush (v := (8 : Int32)) 19 hC dX8_append_19 (by decide) ?_
      refine g_icmp_lt 21 27 hC dX8_append_21 (by decide) (fun hc => ?_) (fun hc => ?_)
      · replace h := h.1 hc
        refine g_aload_n 27 0 hC dX8_append_27 rfl ?_
        refine g_get 28 0 0 hC inlX8 wq_13 dX8_append_28 rfl rfl (by decide) rfl ?_
        refine g_iload_n 31 1 hC dX8_append_31 rfl ?_
        refine g_cVNv (As := [.int x1]) (rest := []) 32 1 [1, 2] hC (c_X5_add l D cI cS cT ad (b0 + 1) x1 bln btk _ h) kX5_add nq_234 dX8_append_32 rfl rfl ⟨Nat.le_of_ble_eq_true rfl, Nat.le_of_ble_eq_true rfl⟩ rfl rfl (Nat.zero_le _) (Nat.zero_le _) rfl rfl rfl (Nat.le_of_ble_eq_true rfl) ?_
        rintro _ ⟨u1, u2, rfl, h⟩
        refine ⟨Nat.le_of_ble_eq_true rfl, G.upd [0] (Wd_X8_append cI cS cT ad b0 u1 u2) rfl rfl rfl rfl rfl ?_⟩
        refine g_aload_n 35 0 hC dX8_append_35 rfl ?_
        refine g_get 36 0 0 hC inlX8 wq_13 dX8_append_36 rfl rfl (by decide) rfl ?_
        refine g_getN 39 1 1 hC inlX5 nq_29 dX8_append_39 rfl rfl (by decide) rfl ?_
        exact g_iret 42 hC hR dX8_append_42 ⟨u1, u2, rfl, h⟩
      · replace h := h.2 hc
        refine g_bipush (v := (-3 : Int32)) 24 hC dX8_append_24 (by decide) ?_
        exact g_iret 26 hC hR dX8_append_26 ⟨bln, btk, rfl, h⟩
    · replace h := h.2 hc
      refine g_iconst (v := (-1 : Int32)) 10 hC dX8_append_10 (by decide) ?_
      exact g_iret 11 hC hR dX8_append_11 ⟨bln, btk, rfl, h⟩

/-! ===== ProverbCollection.clear()I ===== -/
def Wd_X8_clear (cI cS cT : ClassId) (ad : Nat → Nat) (b0 : Nat) (bln : Int32) : va_W := [(ad b0, .inr (8, [.ref (ad (b0 + 1)), .ref (ad (b0 + 3)), .ref (ad (b0 + 13)), .ref (ad (b0 + 65)), .ref (ad (b0 + 81)), .ref (ad (b0 + 88)), .ref (ad (b0 + 92)), .ref (ad (b0 + 99))])), (ad (b0 + 1), .inr (5, [.ref (ad (b0 + 2)), .int bln]))]
def rm_X8_clear : Room := { frames := 0, cells := 0, slots := 0, locals := 0 }
theorem kX8_clear : KV yX8_clear cX8_clear 2 (some .int) 0 := ⟨wq_205, wq_3, wq_203, wq_204, by decide +kernel⟩
def P_X8_clear (bln : Int32) (post : Int32 → Int32 → Prop) : Prop :=
  post bln (0 : Int32)
set_option maxHeartbeats 4000000 in
set_option maxRecDepth 100000 in
theorem c_X8_clear (l : Launch) (D : va_G) (cI cS cT : ClassId) (ad : Nat → Nat) (b0 : Nat) (bln : Int32) (post : Int32 → Int32 → Prop) (h : P_X8_clear bln post) : MI l D (TY cI cS cT) yX8_clear cX8_clear 2 (some .int) rm_X8_clear [.ref (ad b0)] (Wd_X8_clear cI cS cT ad b0 bln) (fun (r : Int32) w => ∃ (u_bln : Int32), w = (Wd_X8_clear cI cS cT ad b0 u_bln) ∧ post r u_bln) := by
  refine MI.of (by decide) (Nat.le_of_ble_eq_true rfl) (fun E hC hR hn => ?_)
  replace hC : Cx l D (TY cI cS cT) E rm_X8_clear cX8_clear RX8 := hC
  replace hR : RetI D E (fun (r : Int32) w => ∃ (u_bln : Int32), w = (Wd_X8_clear cI cS cT ad b0 u_bln) ∧ post r u_bln) 0 0 (some .int) := hR
  unfold P_X8_clear at h
  change G l D E 0 0 _ [(0, .ref (ad b0))] 0 []
  refine g_aload_n 0 0 hC dX8_clear_0 rfl ?_
  refine g_get 1 0 0 hC inlX8 wq_13 dX8_clear_1 rfl rfl (by decide) rfl ?_
  refine g_getN 4 1 1 hC inlX5 nq_29 dX8_clear_4 rfl rfl (by decide) rfl ?_
  refine g_istore_n 7 [(1, .int bln), (0, .ref (ad b0))] hC dX8_clear_7 (by rw [hn]; decide) rfl ?_
  refine g_aload_n 8 1 hC dX8_clear_8 rfl ?_
  refine g_get 9 0 0 hC inlX8 wq_13 dX8_clear_9 rfl rfl (by decide) rfl ?_
  refine g_iconst (v := (0 : Int32)) 12 hC dX8_clear_12 (by decide) ?_
  refine g_putN 13 1 1 (Wd_X8_clear cI cS cT ad b0 (0 : Int32)) hC inlX5 tyX5_ok nmX5 nq_29 dX8_clear_13 rfl rfl (by decide) rfl rfl (Nat.le_of_ble_eq_true rfl) rfl ?_
  refine g_iload_n 16 0 hC dX8_clear_16 rfl ?_
  exact g_iret 17 hC hR dX8_clear_17 ⟨(0 : Int32), rfl, h⟩

/-! ===== ProverbCollection.sayingCount()I ===== -/
def Wd_X8_sayingCount (cI cS cT : ClassId) (ad : Nat → Nat) (b0 : Nat) (nli : Int32) (nsct : Int32) : va_W := [(ad b0, .inr (8, [.ref (ad (b0 + 1)), .ref (ad (b0 + 3)), .ref (ad (b0 + 13)), .ref (ad (b0 + 65)), .ref (ad (b0 + 81)), .ref (ad (b0 + 88)), .ref (ad (b0 + 92)), .ref (ad (b0 + 99))])), (ad (b0 + 3), .inr (7, [.ref (ad (b0 + 4)), .ref (ad (b0 + 7)), .ref (ad (b0 + 8)), .ref (ad (b0 + 9)), .ref (ad (b0 + 12)), .int nli])), (ad (b0 + 4), .inr (6, [.int 12, .ref (ad (b0 + 5)), .ref (ad (b0 + 6)), .int nsct]))]
def rm_X8_sayingCount : Room := { frames := 0, cells := 0, slots := 0, locals := 0 }
theorem kX8_sayingCount : KV yX8_sayingCount cX8_sayingCount 1 (some .int) 0 := ⟨wq_126, wq_3, wq_124, wq_125, by decide +kernel⟩
def P_X8_sayingCount (nli : Int32) (nsct : Int32) (post : Int32 → Prop) : Prop :=
  post nsct
set_option maxHeartbeats 4000000 in
set_option maxRecDepth 100000 in
theorem c_X8_sayingCount (l : Launch) (D : va_G) (cI cS cT : ClassId) (ad : Nat → Nat) (b0 : Nat) (nli : Int32) (nsct : Int32) (post : Int32 → Prop) (h : P_X8_sayingCount nli nsct post) : MI l D (TY cI cS cT) yX8_sayingCount cX8_sayingCount 1 (some .int) rm_X8_sayingCount [.ref (ad b0)] (Wd_X8_sayingCount cI cS cT ad b0 nli nsct) (fun (r : Int32) w => w = (Wd_X8_sayingCount cI cS cT ad b0 nli nsct) ∧ post r) := by
  refine MI.of (by decide) (Nat.le_of_ble_eq_true rfl) (fun E hC hR hn => ?_)
  replace hC : Cx l D (TY cI cS cT) E rm_X8_sayingCount cX8_sayingCount RX8 := hC
  replace hR : RetI D E (fun (r : Int32) w => w = (Wd_X8_sayingCount cI cS cT ad b0 nli nsct) ∧ post r) 0 0 (some .int) := hR
  unfold P_X8_sayingCount at h
  change G l D E 0 0 _ [(0, .ref (ad b0))] 0 []
  refine g_aload_n 0 0 hC dX8_sayingCount_0 rfl ?_
  refine g_get 1 0 1 hC inlX8 wq_17 dX8_sayingCount_1 rfl rfl (by decide) rfl ?_
  refine g_getN 4 1 0 hC inlX7 nq_69 dX8_sayingCount_4 rfl rfl (by decide) rfl ?_
  refine g_getN 7 2 3 hC inlX6 nq_56 dX8_sayingCount_7 rfl rfl (by decide) rfl ?_
  exact g_iret 10 hC hR dX8_sayingCount_10 ⟨rfl, h⟩

/-! ===== ProverbCollection.lengthOf(I)I ===== -/
def Wd_X8_lengthOf (cI cS cT : ClassId) (ad : Nat → Nat) (b0 : Nat) (nli : Int32) (nsct : Int32) (nsle : Nat → Int32) : va_W := [(ad b0, .inr (8, [.ref (ad (b0 + 1)), .ref (ad (b0 + 3)), .ref (ad (b0 + 13)), .ref (ad (b0 + 65)), .ref (ad (b0 + 81)), .ref (ad (b0 + 88)), .ref (ad (b0 + 92)), .ref (ad (b0 + 99))])), (ad (b0 + 3), .inr (7, [.ref (ad (b0 + 4)), .ref (ad (b0 + 7)), .ref (ad (b0 + 8)), .ref (ad (b0 + 9)), .ref (ad (b0 + 12)), .int nli])), (ad (b0 + 4), .inr (6, [.int 12, .ref (ad (b0 + 5)), .ref (ad (b0 + 6)), .int nsct])), (ad (b0 + 6), .inl (cI, 12, .inl nsle))]
def rm_X8_lengthOf : Room := { frames := 2, cells := 0, slots := 0, locals := 42 }
theorem kX8_lengthOf : KV yX8_lengthOf cX8_lengthOf 2 (some .int) 1 := ⟨wq_233, wq_3, wq_231, wq_232, by decide +kernel⟩
def P_X8_lengthOf (x1 : Int32) (nli : Int32) (nsct : Int32) (nsle : Nat → Int32) (post : Int32 → Prop) : Prop :=
  P_X6_has (12 : Int32) 96 12 x1 nsct (fun r1 => (¬ r1 = 0 → P_X6_size (12 : Int32) 96 12 x1 nsct nsle (fun r2 => post r2)) ∧ (r1 = 0 → post (-1 : Int32)))
set_option maxHeartbeats 4000000 in
set_option maxRecDepth 100000 in
theorem c_X8_lengthOf (l : Launch) (D : va_G) (cI cS cT : ClassId) (ad : Nat → Nat) (b0 : Nat) (x1 : Int32) (nli : Int32) (nsct : Int32) (nsle : Nat → Int32) (post : Int32 → Prop) (h : P_X8_lengthOf x1 nli nsct nsle post) : MI l D (TY cI cS cT) yX8_lengthOf cX8_lengthOf 2 (some .int) rm_X8_lengthOf [.ref (ad b0), .int x1] (Wd_X8_lengthOf cI cS cT ad b0 nli nsct nsle) (fun (r : Int32) w => w = (Wd_X8_lengthOf cI cS cT ad b0 nli nsct nsle) ∧ post r) := by
  refine MI.of (by decide) (Nat.le_of_ble_eq_true rfl) (fun E hC hR hn => ?_)
  replace hC : Cx l D (TY cI cS cT) E rm_X8_lengthOf cX8_lengthOf RX8 := hC
  replace hR : RetI D E (fun (r : Int32) w => w = (Wd_X8_lengthOf cI cS cT ad b0 nli nsct nsle) ∧ post r) 0 0 (some .int) := hR
  unfold P_X8_lengthOf at h
  change G l D E 0 0 _ [(0, .ref (ad b0)), (1, .int x1)] 0 []
  refine g_aload_n 0 0 hC dX8_lengthOf_0 rfl ?_
  refine g_get 1 0 1 hC inlX8 wq_17 dX8_lengthOf_1 rfl rfl (by decide) rfl ?_
  refine g_getN 4 1 0 hC inlX7 nq_69 dX8_lengthOf_4 rfl rfl (by decide) rfl ?_
  refine g_iload_n 7 1 hC dX8_lengthOf_7 rfl ?_
  refine g_cVNi (As := [.int x1]) (rest := []) 8 2 [2] hC (c_X6_has l D cI cS cT ad (b0 + 4) (12 : Int32) 96 12 x1 nsct _ h) kX6_has nq_242 dX8_lengthOf_8 rfl rfl ⟨Nat.le_of_ble_eq_true rfl, Nat.le_of_ble_eq_true rfl⟩ rfl rfl (Nat.zero_le _) (Nat.zero_le _) rfl rfl rfl (Nat.le_of_ble_eq_true rfl) ?_
  rintro r1 _ ⟨rfl, h⟩
  refine ⟨Nat.le_of_ble_eq_true rfl, G.upd [0, 1, 3] (Wd_X8_lengthOf cI cS cT ad b0 nli nsct nsle) rfl rfl rfl rfl rfl ?_⟩
  refine g_if_ne 11 16 hC dX8_lengthOf_11 (by decide) (fun hc => ?_) (fun hc => ?_)
  · replace h := h.1 hc
    refine g_aload_n 16 0 hC dX8_lengthOf_16 rfl ?_
    refine g_get 17 0 1 hC inlX8 wq_17 dX8_lengthOf_17 rfl rfl (by decide) rfl ?_
    refine g_getN 20 1 0 hC inlX7 nq_69 dX8_lengthOf_20 rfl rfl (by decide) rfl ?_
    refine g_iload_n 23 1 hC dX8_lengthOf_23 rfl ?_
    refine g_cVNi (As := [.int x1]) (rest := []) 24 2 [2, 3] hC (c_X6_size l D cI cS cT ad (b0 + 4) (12 : Int32) 96 12 x1 nsct nsle _ h) kX6_size nq_290 dX8_lengthOf_24 rfl rfl ⟨Nat.le_of_ble_eq_true rfl, Nat.le_of_ble_eq_true rfl⟩ rfl rfl (Nat.zero_le _) (Nat.zero_le _) rfl rfl rfl (Nat.le_of_ble_eq_true rfl) ?_
    rintro r2 _ ⟨rfl, h⟩
    refine ⟨Nat.le_of_ble_eq_true rfl, G.upd [0, 1] (Wd_X8_lengthOf cI cS cT ad b0 nli nsct nsle) rfl rfl rfl rfl rfl ?_⟩
    exact g_iret 27 hC hR dX8_lengthOf_27 ⟨rfl, h⟩
  · replace h := h.2 hc
    refine g_iconst (v := (-1 : Int32)) 14 hC dX8_lengthOf_14 (by decide) ?_
    exact g_iret 15 hC hR dX8_lengthOf_15 ⟨rfl, h⟩

/-! ===== ProverbCollection.wordAt(II)I ===== -/
def Wd_X8_wordAt (cI cS cT : ClassId) (ad : Nat → Nat) (b0 : Nat) (nli : Int32) (nsct : Int32) (nstk : Nat → Int32) (nsle : Nat → Int32) : va_W := [(ad b0, .inr (8, [.ref (ad (b0 + 1)), .ref (ad (b0 + 3)), .ref (ad (b0 + 13)), .ref (ad (b0 + 65)), .ref (ad (b0 + 81)), .ref (ad (b0 + 88)), .ref (ad (b0 + 92)), .ref (ad (b0 + 99))])), (ad (b0 + 3), .inr (7, [.ref (ad (b0 + 4)), .ref (ad (b0 + 7)), .ref (ad (b0 + 8)), .ref (ad (b0 + 9)), .ref (ad (b0 + 12)), .int nli])), (ad (b0 + 4), .inr (6, [.int 12, .ref (ad (b0 + 5)), .ref (ad (b0 + 6)), .int nsct])), (ad (b0 + 5), .inl (cI, 96, .inl nstk)), (ad (b0 + 6), .inl (cI, 12, .inl nsle))]
def rm_X8_wordAt : Room := { frames := 2, cells := 0, slots := 0, locals := 43 }
theorem kX8_wordAt : KV yX8_wordAt cX8_wordAt 3 (some .int) 2 := ⟨wq_290, wq_3, wq_288, wq_289, by decide +kernel⟩
def P_X8_wordAt (x1 : Int32) (x2 : Int32) (nli : Int32) (nsct : Int32) (nstk : Nat → Int32) (nsle : Nat → Int32) (post : Int32 → Prop) : Prop :=
  P_X6_has (12 : Int32) 96 12 x1 nsct (fun r1 => (r1 = 0 → post (-1 : Int32)) ∧ (¬ r1 = 0 → ((0 ≤ x2 → (P_X6_size (12 : Int32) 96 12 x1 nsct nsle (fun r2 => (x2 < r2 → P_X6_token (12 : Int32) 96 12 x1 x2 nsct nstk nsle (fun r3 => post r3)) ∧ (¬ x2 < r2 → post (-4 : Int32))))) ∧ (¬ 0 ≤ x2 → post (-1 : Int32)))))
set_option maxHeartbeats 4000000 in
set_option maxRecDepth 100000 in
theorem c_X8_wordAt (l : Launch) (D : va_G) (cI cS cT : ClassId) (ad : Nat → Nat) (b0 : Nat) (x1 : Int32) (x2 : Int32) (nli : Int32) (nsct : Int32) (nstk : Nat → Int32) (nsle : Nat → Int32) (post : Int32 → Prop) (h : P_X8_wordAt x1 x2 nli nsct nstk nsle post) : MI l D (TY cI cS cT) yX8_wordAt cX8_wordAt 3 (some .int) rm_X8_wordAt [.ref (ad b0), .int x1, .int x2] (Wd_X8_wordAt cI cS cT ad b0 nli nsct nstk nsle) (fun (r : Int32) w => w = (Wd_X8_wordAt cI cS cT ad b0 nli nsct nstk nsle) ∧ post r) := by
  refine MI.of (by decide) (Nat.le_of_ble_eq_true rfl) (fun E hC hR hn => ?_)
  replace hC : Cx l D (TY cI cS cT) E rm_X8_wordAt cX8_wordAt RX8 := hC
  replace hR : RetI D E (fun (r : Int32) w => w = (Wd_X8_wordAt cI cS cT ad b0 nli nsct nstk nsle) ∧ post r) 0 0 (some .int) := hR
  unfold P_X8_wordAt at h
  change G l D E 0 0 _ [(0, .ref (ad b0)), (1, .int x1), (2, .int x2)] 0 []
  refine g_aload_n 0 0 hC dX8_wordAt_0 rfl ?_
  refine g_get 1 0 1 hC inlX8 wq_17 dX8_wordAt_1 rfl rfl (by decide) rfl ?_
  refine g_getN 4 1 0 hC inlX7 nq_69 dX8_wordAt_4 rfl rfl (by decide) rfl ?_
  refine g_iload_n 7 1 hC dX8_wordAt_7 rfl ?_
  refine g_cVNi (As := [.int x1]) (rest := []) 8 2 [2] hC (c_X6_has l D cI cS cT ad (b0 + 4) (12 : Int32) 96 12 x1 nsct _ h) kX6_has nq_242 dX8_wordAt_8 rfl rfl ⟨Nat.le_of_ble_eq_true rfl, Nat.le_of_ble_eq_true rfl⟩ rfl rfl (Nat.zero_le _) (Nat.zero_le _) rfl rfl rfl (Nat.le_of_ble_eq_true rfl) ?_
  rintro r1 _ ⟨rfl, h⟩
  refine ⟨Nat.le_of_ble_eq_true rfl, G.upd [0, 1, 3, 4] (Wd_X8_wordAt cI cS cT ad b0 nli nsct nstk nsle) rfl rfl rfl rfl rfl ?_⟩
  refine g_if_eq 11 18 hC dX8_wordAt_11 (by decide) (fun hc => ?_) (fun hc => ?_)
  · replace h := h.1 hc
    refine g_iconst (v := (-1 : Int32)) 18 hC dX8_wordAt_18 (by decide) ?_
    exact g_iret 19 hC hR dX8_wordAt_19 ⟨rfl, h⟩
  · replace h := h.2 hc
    refine g_iload_n 14 2 hC dX8_wordAt_14 rfl ?_
    refine g_if_ge 15 20 hC dX8_wordAt_15 (by decide) (fun hc => ?_) (fun hc => ?_)
    · replace h := h.1 hc
      refine g_iload_n 20 2 hC dX8_wordAt_20 rfl ?_
      refine g_aload_n 21 0 hC dX8_wordAt_21 rfl ?_
      refine g_get 22 0 1 hC inlX8 wq_17 dX8_wordAt_22 rfl rfl (by decide) rfl ?_
      refine g_getN 25 1 0 hC inlX7 nq_69 dX8_wordAt_25 rfl rfl (by decide) rfl ?_
      refine g_iload_n 28 1 hC dX8_wordAt_28 rfl ?_
      refine g_cVNi (As := [.int x1]) (rest := [.int x2]) 29 2 [2, 4] hC (c_X6_size l D cI cS cT ad (b0 + 4) (12 : Int32) 96 12 x1 nsct nsle _ h) kX6_size nq_290 dX8_wordAt_29 rfl rfl ⟨Nat.le_of_ble_eq_true rfl, Nat.le_of_ble_eq_true rfl⟩ rfl rfl (Nat.zero_le _) (Nat.zero_le _) rfl rfl rfl (Nat.le_of_ble_eq_true rfl) ?_
      rintro r2 _ ⟨rfl, h⟩
      refine ⟨Nat.le_of_ble_eq_true rfl, G.upd [0, 1, 3] (Wd_X8_wordAt cI cS cT ad b0 nli nsct nstk nsle) rfl rfl rfl rfl rfl ?_⟩
      refine g_icmp_lt 32 38 hC dX8_wordAt_32 (by decide) (fun hc => ?_) (fun hc => ?_)
      · replace h := h.1 hc
        refine g_aload_n 38 0 hC dX8_wordAt_38 rfl ?_
        refine g_get 39 0 1 hC inlX8 wq_17 dX8_wordAt_39 rfl rfl (by decide) rfl ?_
        refine g_getN 42 1 0 hC inlX7 nq_69 dX8_wordAt_42 rfl rfl (by decide) rfl ?_
        refine g_iload_n 45 1 hC dX8_wordAt_45 rfl ?_
        refine g_iload_n 46 2 hC dX8_wordAt_46 rfl ?_
        refine g_cVNi (As := [.int x1, .int x2]) (rest := []) 47 2 [2, 3, 4] hC (c_X6_token l D cI cS cT ad (b0 + 4) (12 : Int32) 96 12 x1 x2 nsct nstk nsle _ h) kX6_token nq_294 dX8_wordAt_47 rfl rfl ⟨Nat.le_of_ble_eq_true rfl, Nat.le_of_ble_eq_true rfl⟩ rfl rfl (Nat.zero_le _) (Nat.zero_le _) rfl rfl rfl (Nat.le_of_ble_eq_true rfl) ?_
        rintro r3 _ ⟨rfl, h⟩
        refine ⟨Nat.le_of_ble_eq_true rfl, G.upd [0, 1] (Wd_X8_wordAt cI cS cT ad b0 nli nsct nstk nsle) rfl rfl rfl rfl rfl ?_⟩
        exact g_iret 50 hC hR dX8_wordAt_50 ⟨rfl, h⟩
      · replace h := h.2 hc
        refine g_bipush (v := (-4 : Int32)) 35 hC dX8_wordAt_35 (by decide) ?_
        exact g_iret 37 hC hR dX8_wordAt_37 ⟨rfl, h⟩
    · replace h := h.2 hc
      refine g_iconst (v := (-1 : Int32)) 18 hC dX8_wordAt_18 (by decide) ?_
      exact g_iret 19 hC hR dX8_wordAt_19 ⟨rfl, h⟩

/-! ===== ProverbCollection.byAge(I)I ===== -/
def Wd_X8_byAge (cI cS cT : ClassId) (ad : Nat → Nat) (b0 : Nat) (nli : Int32) (nsct : Int32) (nye : Nat → Int32) (ao : Nat → Int32) : va_W := [(ad b0, .inr (8, [.ref (ad (b0 + 1)), .ref (ad (b0 + 3)), .ref (ad (b0 + 13)), .ref (ad (b0 + 65)), .ref (ad (b0 + 81)), .ref (ad (b0 + 88)), .ref (ad (b0 + 92)), .ref (ad (b0 + 99))])), (ad (b0 + 3), .inr (7, [.ref (ad (b0 + 4)), .ref (ad (b0 + 7)), .ref (ad (b0 + 8)), .ref (ad (b0 + 9)), .ref (ad (b0 + 12)), .int nli])), (ad (b0 + 4), .inr (6, [.int 12, .ref (ad (b0 + 5)), .ref (ad (b0 + 6)), .int nsct])), (ad (b0 + 7), .inl (cI, 12, .inl nye)), (ad (b0 + 99), .inl (cI, 12, .inl ao))]
def rm_X8_byAge : Room := { frames := 4, cells := 0, slots := 0, locals := 89 }
theorem kX8_byAge : KV yX8_byAge cX8_byAge 2 (some .int) 1 := ⟨wq_192, wq_3, wq_190, wq_191, by decide +kernel⟩
def P_X8_byAge (x1 : Int32) (nli : Int32) (nsct : Int32) (nye : Nat → Int32) (ao : Nat → Int32) (post : Int32 → (Nat → Int32) → Prop) : Prop :=
  (0 ≤ x1 → ((x1 < nsct → (P_X7_sortByAge 12 nli nsct nye ao (fun u1 => vp_in x1 12 ∧ (post (u1 (Int32.toNatClampNeg x1)) u1)))) ∧ (¬ x1 < nsct → post (-4 : Int32) ao))) ∧ (¬ 0 ≤ x1 → post (-1 : Int32) ao)
set_option maxHeartbeats 4000000 in
set_option maxRecDepth 100000 in
theorem c_X8_byAge (l : Launch) (D : va_G) (cI cS cT : ClassId) (ad : Nat → Nat) (b0 : Nat) (x1 : Int32) (nli : Int32) (nsct : Int32) (nye : Nat → Int32) (ao : Nat → Int32) (post : Int32 → (Nat → Int32) → Prop) (h : P_X8_byAge x1 nli nsct nye ao post) : MI l D (TY cI cS cT) yX8_byAge cX8_byAge 2 (some .int) rm_X8_byAge [.ref (ad b0), .int x1] (Wd_X8_byAge cI cS cT ad b0 nli nsct nye ao) (fun (r : Int32) w => ∃ (u_ao : Nat → Int32), w = (Wd_X8_byAge cI cS cT ad b0 nli nsct nye u_ao) ∧ post r u_ao) := by
  refine MI.of (by decide) (Nat.le_of_ble_eq_true rfl) (fun E hC hR hn => ?_)
  replace hC : Cx l D (TY cI cS cT) E rm_X8_byAge cX8_byAge RX8 := hC
  replace hR : RetI D E (fun (r : Int32) w => ∃ (u_ao : Nat → Int32), w = (Wd_X8_byAge cI cS cT ad b0 nli nsct nye u_ao) ∧ post r u_ao) 0 0 (some .int) := hR
  unfold P_X8_byAge at h
  change G l D E 0 0 _ [(0, .ref (ad b0)), (1, .int x1)] 0 []
  refine g_iload_n 0 1 hC dX8_byAge_0 rfl ?_
  refine g_if_ge 1 6 hC dX8_byAge_1 (by decide) (fun hc => ?_) (fun hc => ?_)
  · replace h := h.1 hc
    refine g_iload_n 6 1 hC dX8_byAge_6 rfl ?_
    refine g_aload_n 7 0 hC dX8_byAge_7 rfl ?_
    refine g_get 8 0 1 hC inlX8 wq_17 dX8_byAge_8 rfl rfl (by decide) rfl ?_
    refine g_getN 11 1 0 hC inlX7 nq_69 dX8_byAge_11 rfl rfl (by decide) rfl ?_
    refine g_getN 14 2 3 hC inlX6 nq_56 dX8_byAge_14 rfl rfl (by decide) rfl ?_
    refine g_icmp_lt 17 23 hC dX8_byAge_17 (by decide) (fun hc => ?_) (fun hc => ?_)
    · replace h := h.1 hc
      refine g_aload_n 23 0 hC dX8_byAge_23 rfl ?_
      refine g_get 24 0 1 hC inlX8 wq_17 dX8_byAge_24 rfl rfl (by decide) rfl ?_
      refine g_aload_n 27 0 hC dX8_byAge_27 rfl ?_
      refine g_get 28 0 7 hC inlX8 wq_38 dX8_byAge_28 rfl rfl (by decide) rfl ?_
      refine g_cVNv (As := [.ref (ad (b0 + 99))]) (rest := []) 31 1 [1, 2, 3, 4] hC (c_X7_sortByAge l D cI cS cT ad (b0 + 3) (b0 + 99) 12 nli nsct nye ao _ h) kX7_sortByAge nq_302 dX8_byAge_31 rfl rfl ⟨Nat.le_of_ble_eq_true rfl, Nat.le_of_ble_eq_true rfl⟩ rfl rfl (Nat.zero_le _) (Nat.zero_le _) rfl rfl rfl (Nat.le_of_ble_eq_true rfl) ?_
      rintro _ ⟨u1, rfl, h⟩
      refine ⟨Nat.le_of_ble_eq_true rfl, G.upd [0] (Wd_X8_byAge cI cS cT ad b0 nli nsct nye u1) rfl rfl rfl rfl rfl ?_⟩
      refine g_aload_n 34 0 hC dX8_byAge_34 rfl ?_
      refine g_get 35 0 7 hC inlX8 wq_38 dX8_byAge_35 rfl rfl (by decide) rfl ?_
      refine g_iload_n 38 1 hC dX8_byAge_38 rfl ?_
      obtain ⟨hj, h⟩ := h
      refine g_iald 39 4 hC dX8_byAge_39 rfl rfl hj ?_
      exact g_iret 40 hC hR dX8_byAge_40 ⟨u1, rfl, h⟩
    · replace h := h.2 hc
      refine g_bipush (v := (-4 : Int32)) 20 hC dX8_byAge_20 (by decide) ?_
      exact g_iret 22 hC hR dX8_byAge_22 ⟨ao, rfl, h⟩
  · replace h := h.2 hc
    refine g_iconst (v := (-1 : Int32)) 4 hC dX8_byAge_4 (by decide) ?_
    exact g_iret 5 hC hR dX8_byAge_5 ⟨ao, rfl, h⟩

/-! ===== ProverbCollection.distance(II)I ===== -/
def Wd_X8_distance (cI cS cT : ClassId) (ad : Nat → Nat) (b0 : Nat) (nli : Int32) (nsct : Int32) (nstk : Nat → Int32) (nsle : Nat → Int32) (nco : Nat → Int32) (eld : Int32) (efln : Int32) (eftk : Nat → Int32) (egln : Int32) (egtk : Nat → Int32) (etb : Nat → Nat → Int32) : va_W := [(ad b0, .inr (8, [.ref (ad (b0 + 1)), .ref (ad (b0 + 3)), .ref (ad (b0 + 13)), .ref (ad (b0 + 65)), .ref (ad (b0 + 81)), .ref (ad (b0 + 88)), .ref (ad (b0 + 92)), .ref (ad (b0 + 99))])), (ad (b0 + 3), .inr (7, [.ref (ad (b0 + 4)), .ref (ad (b0 + 7)), .ref (ad (b0 + 8)), .ref (ad (b0 + 9)), .ref (ad (b0 + 12)), .int nli])), (ad (b0 + 4), .inr (6, [.int 12, .ref (ad (b0 + 5)), .ref (ad (b0 + 6)), .int nsct])), (ad (b0 + 5), .inl (cI, 96, .inl nstk)), (ad (b0 + 6), .inl (cI, 12, .inl nsle)), (ad (b0 + 12), .inl (cI, 4, .inl nco)), (ad (b0 + 65), .inr (1, [.ref (ad (b0 + 66)), .ref (ad (b0 + 68)), .ref (ad (b0 + 70)), .ref (ad (b0 + 80)), .int eld])), (ad (b0 + 66), .inr (5, [.ref (ad (b0 + 67)), .int efln])), (ad (b0 + 67), .inl (cI, 8, .inl eftk)), (ad (b0 + 68), .inr (5, [.ref (ad (b0 + 69)), .int egln])), (ad (b0 + 69), .inl (cI, 8, .inl egtk)), (ad (b0 + 70), .inl (cT, 9, .inr (.inr (.inr (.inr (fun i => if i < 9 then some (ad (b0 + 71 + i)) else none)))))), (ad (b0 + 71 + 0), .inl (cI, 9, .inl (etb 0))), (ad (b0 + 71 + 1), .inl (cI, 9, .inl (etb 1))), (ad (b0 + 71 + 2), .inl (cI, 9, .inl (etb 2))), (ad (b0 + 71 + 3), .inl (cI, 9, .inl (etb 3))), (ad (b0 + 71 + 4), .inl (cI, 9, .inl (etb 4))), (ad (b0 + 71 + 5), .inl (cI, 9, .inl (etb 5))), (ad (b0 + 71 + 6), .inl (cI, 9, .inl (etb 6))), (ad (b0 + 71 + 7), .inl (cI, 9, .inl (etb 7))), (ad (b0 + 71 + 8), .inl (cI, 9, .inl (etb 8)))]
def rm_X8_distance : Room := { frames := 5, cells := 0, slots := 0, locals := 119 }
theorem kX8_distance : KV yX8_distance cX8_distance 3 (some .int) 2 := ⟨wq_260, wq_3, wq_258, wq_259, by decide +kernel⟩
def P_X8_distance (x1 : Int32) (x2 : Int32) (nli : Int32) (nsct : Int32) (nstk : Nat → Int32) (nsle : Nat → Int32) (nco : Nat → Int32) (eld : Int32) (efln : Int32) (eftk : Nat → Int32) (egln : Int32) (egtk : Nat → Int32) (etb : Nat → Nat → Int32) (post : Int32 → Int32 → (Nat → Int32) → Int32 → (Nat → Int32) → (Nat → Nat → Int32) → Prop) : Prop :=
  P_X8_hasBoth x1 x2 nli nsct (fun r1 => (¬ r1 = 0 → P_X1_between x1 x2 eld efln eftk egln egtk etb nli nsct nstk nsle nco (fun r7 u2 u3 u4 u5 u6 => post r7 u2 u3 u4 u5 u6)) ∧ (r1 = 0 → post (-1 : Int32) efln eftk egln egtk etb))
set_option maxHeartbeats 4000000 in
set_option maxRecDepth 100000 in
theorem c_X8_distance (l : Launch) (D : va_G) (cI cS cT : ClassId) (ad : Nat → Nat) (b0 : Nat) (x1 : Int32) (x2 : Int32) (nli : Int32) (nsct : Int32) (nstk : Nat → Int32) (nsle : Nat → Int32) (nco : Nat → Int32) (eld : Int32) (efln : Int32) (eftk : Nat → Int32) (egln : Int32) (egtk : Nat → Int32) (etb : Nat → Nat → Int32) (post : Int32 → Int32 → (Nat → Int32) → Int32 → (Nat → Int32) → (Nat → Nat → Int32) → Prop) (h : P_X8_distance x1 x2 nli nsct nstk nsle nco eld efln eftk egln egtk etb post) : MI l D (TY cI cS cT) yX8_distance cX8_distance 3 (some .int) rm_X8_distance [.ref (ad b0), .int x1, .int x2] (Wd_X8_distance cI cS cT ad b0 nli nsct nstk nsle nco eld efln eftk egln egtk etb) (fun (r : Int32) w => ∃ (u_efln : Int32) (u_eftk : Nat → Int32) (u_egln : Int32) (u_egtk : Nat → Int32) (u_etb : Nat → Nat → Int32), w = (Wd_X8_distance cI cS cT ad b0 nli nsct nstk nsle nco eld u_efln u_eftk u_egln u_egtk u_etb) ∧ post r u_efln u_eftk u_egln u_egtk u_etb) := by
  refine MI.of (by decide) (Nat.le_of_ble_eq_true rfl) (fun E hC hR hn => ?_)
  replace hC : Cx l D (TY cI cS cT) E rm_X8_distance cX8_distance RX8 := hC
  replace hR : RetI D E (fun (r : Int32) w => ∃ (u_efln : Int32) (u_eftk : Nat → Int32) (u_egln : Int32) (u_egtk : Nat → Int32) (u_etb : Nat → Nat → Int32), w = (Wd_X8_distance cI cS cT ad b0 nli nsct nstk nsle nco eld u_efln u_eftk u_egln u_egtk u_etb) ∧ post r u_efln u_eftk u_egln u_egtk u_etb) 0 0 (some .int) := hR
  unfold P_X8_distance at h
  change G l D E 0 0 _ [(0, .ref (ad b0)), (1, .int x1), (2, .int x2)] 0 []
  refine g_aload_n 0 0 hC dX8_distance_0 rfl ?_
  refine g_iload_n 1 1 hC dX8_distance_1 rfl ?_
  refine g_iload_n 2 2 hC dX8_distance_2 rfl ?_
  refine g_cVi (As := [.int x1, .int x2]) (rest := []) 3 0 [0, 1, 2] hC (c_X8_hasBoth l D cI cS cT ad b0 x1 x2 nli nsct _ h) kX8_hasBoth wq_261 dX8_distance_3 rfl rfl ⟨Nat.le_of_ble_eq_true rfl, Nat.le_of_ble_eq_true rfl⟩ rfl rfl (Nat.zero_le _) (Nat.zero_le _) rfl rfl rfl (Nat.le_of_ble_eq_true rfl) ?_
  rintro r1 _ ⟨rfl, h⟩
  refine ⟨Nat.le_of_ble_eq_true rfl, G.upd [3, 4, 5, 6, 7, 8, 9, 10, 11, 12, 13, 14, 15, 16, 17, 18, 19, 20] (Wd_X8_distance cI cS cT ad b0 nli nsct nstk nsle nco eld efln eftk egln egtk etb) rfl rfl rfl rfl rfl ?_⟩
  refine g_if_ne 6 11 hC dX8_distance_6 (by decide) (fun hc => ?_) (fun hc => ?_)
  · replace h := h.1 hc
    refine g_aload_n 11 0 hC dX8_distance_11 rfl ?_
    refine g_get 12 0 3 hC inlX8 wq_25 dX8_distance_12 rfl rfl (by decide) rfl ?_
    refine g_aload_n 15 0 hC dX8_distance_15 rfl ?_
    refine g_get 16 0 1 hC inlX8 wq_17 dX8_distance_16 rfl rfl (by decide) rfl ?_
    refine g_iload_n 19 1 hC dX8_distance_19 rfl ?_
    refine g_iload_n 20 2 hC dX8_distance_20 rfl ?_
    refine g_cVNi (As := [.ref (ad (b0 + 3)), .int x1, .int x2]) (rest := []) 21 6 [6, 7, 8, 9, 10, 11, 12, 13, 14, 15, 16, 17, 18, 19, 20, 1, 2, 3, 4, 5] hC (c_X1_between l D cI cS cT ad (b0 + 65) (b0 + 3) x1 x2 eld efln eftk egln egtk etb nli nsct nstk nsle nco _ h) kX1_between nq_327 dX8_distance_21 rfl rfl ⟨Nat.le_of_ble_eq_true rfl, Nat.le_of_ble_eq_true rfl⟩ rfl rfl (Nat.zero_le _) (Nat.zero_le _) rfl rfl rfl (Nat.le_of_ble_eq_true rfl) ?_
    rintro r7 _ ⟨u2, u3, u4, u5, u6, rfl, h⟩
    refine ⟨Nat.le_of_ble_eq_true rfl, G.upd [0] (Wd_X8_distance cI cS cT ad b0 nli nsct nstk nsle nco eld u2 u3 u4 u5 u6) rfl rfl rfl rfl rfl ?_⟩
    exact g_iret 24 hC hR dX8_distance_24 ⟨u2, u3, u4, u5, u6, rfl, h⟩
  · replace h := h.2 hc
    refine g_iconst (v := (-1 : Int32)) 9 hC dX8_distance_9 (by decide) ?_
    exact g_iret 10 hC hR dX8_distance_10 ⟨efln, eftk, egln, egtk, etb, rfl, h⟩

/-! ===== ProverbCollection.similarityBits(II)I ===== -/
def Wd_X8_similarityBits (cI cS cT : ClassId) (ad : Nat → Nat) (b0 : Nat) (nli : Int32) (nsct : Int32) (nstk : Nat → Int32) (nsle : Nat → Int32) (nco : Nat → Int32) (eld : Int32) (efln : Int32) (eftk : Nat → Int32) (egln : Int32) (egtk : Nat → Int32) (etb : Nat → Nat → Int32) : va_W := [(ad b0, .inr (8, [.ref (ad (b0 + 1)), .ref (ad (b0 + 3)), .ref (ad (b0 + 13)), .ref (ad (b0 + 65)), .ref (ad (b0 + 81)), .ref (ad (b0 + 88)), .ref (ad (b0 + 92)), .ref (ad (b0 + 99))])), (ad (b0 + 3), .inr (7, [.ref (ad (b0 + 4)), .ref (ad (b0 + 7)), .ref (ad (b0 + 8)), .ref (ad (b0 + 9)), .ref (ad (b0 + 12)), .int nli])), (ad (b0 + 4), .inr (6, [.int 12, .ref (ad (b0 + 5)), .ref (ad (b0 + 6)), .int nsct])), (ad (b0 + 5), .inl (cI, 96, .inl nstk)), (ad (b0 + 6), .inl (cI, 12, .inl nsle)), (ad (b0 + 12), .inl (cI, 4, .inl nco)), (ad (b0 + 65), .inr (1, [.ref (ad (b0 + 66)), .ref (ad (b0 + 68)), .ref (ad (b0 + 70)), .ref (ad (b0 + 80)), .int eld])), (ad (b0 + 66), .inr (5, [.ref (ad (b0 + 67)), .int efln])), (ad (b0 + 67), .inl (cI, 8, .inl eftk)), (ad (b0 + 68), .inr (5, [.ref (ad (b0 + 69)), .int egln])), (ad (b0 + 69), .inl (cI, 8, .inl egtk)), (ad (b0 + 70), .inl (cT, 9, .inr (.inr (.inr (.inr (fun i => if i < 9 then some (ad (b0 + 71 + i)) else none)))))), (ad (b0 + 71 + 0), .inl (cI, 9, .inl (etb 0))), (ad (b0 + 71 + 1), .inl (cI, 9, .inl (etb 1))), (ad (b0 + 71 + 2), .inl (cI, 9, .inl (etb 2))), (ad (b0 + 71 + 3), .inl (cI, 9, .inl (etb 3))), (ad (b0 + 71 + 4), .inl (cI, 9, .inl (etb 4))), (ad (b0 + 71 + 5), .inl (cI, 9, .inl (etb 5))), (ad (b0 + 71 + 6), .inl (cI, 9, .inl (etb 6))), (ad (b0 + 71 + 7), .inl (cI, 9, .inl (etb 7))), (ad (b0 + 71 + 8), .inl (cI, 9, .inl (etb 8)))]
def rm_X8_similarityBits : Room := { frames := 5, cells := 0, slots := 0, locals := 119 }
theorem kX8_similarityBits : KV yX8_similarityBits cX8_similarityBits 6 (some .int) 2 := ⟨wq_297, wq_3, wq_295, wq_296, by decide +kernel⟩
def P_X8_similarityBits (x1 : Int32) (x2 : Int32) (nli : Int32) (nsct : Int32) (nstk : Nat → Int32) (nsle : Nat → Int32) (nco : Nat → Int32) (eld : Int32) (efln : Int32) (eftk : Nat → Int32) (egln : Int32) (egtk : Nat → Int32) (etb : Nat → Nat → Int32) (post : Int32 → Int32 → (Nat → Int32) → Int32 → (Nat → Int32) → (Nat → Nat → Int32) → Prop) : Prop :=
  P_X8_hasBoth x1 x2 nli nsct (fun r1 => (¬ r1 = 0 → (P_X6_size (12 : Int32) 96 12 x1 nsct nsle (fun r2 => P_X6_size (12 : Int32) 96 12 x2 nsct nsle (fun r3 => P_X1_between x1 x2 eld efln eftk egln egtk etb nli nsct nstk nsle nco (fun r9 u4 u5 u6 u7 u8 => vf_n32 (FP.fdiv (FP.i2f r9) (FP.i2f (if (1 : Int32) < ((nco (Int32.toNatClampNeg (0 : Int32))) * (r2 + r3)) then ((nco (Int32.toNatClampNeg (0 : Int32))) * (r2 + r3)) else (1 : Int32)))) ∧ (vf_n32 (FP.fsub FP.fconst1 (FP.fdiv (FP.i2f r9) (FP.i2f (if (1 : Int32) < ((nco (Int32.toNatClampNeg (0 : Int32))) * (r2 + r3)) then ((nco (Int32.toNatClampNeg (0 : Int32))) * (r2 + r3)) else (1 : Int32))))) ∧ (P_X8_bitsOf (FP.fsub FP.fconst1 (FP.fdiv (FP.i2f r9) (FP.i2f (if (1 : Int32) < ((nco (Int32.toNatClampNeg (0 : Int32))) * (r2 + r3)) then ((nco (Int32.toNatClampNeg (0 : Int32))) * (r2 + r3)) else (1 : Int32))))) (fun r10 => post r10 u4 u5 u6 u7 u8)))))))) ∧ (r1 = 0 → post (-1 : Int32) efln eftk egln egtk etb))
set_option maxHeartbeats 4000000 in
set_option maxRecDepth 100000 in
theorem c_X8_similarityBits (l : Launch) (D : va_G) (cI cS cT : ClassId) (ad : Nat → Nat) (b0 : Nat) (x1 : Int32) (x2 : Int32) (nli : Int32) (nsct : Int32) (nstk : Nat → Int32) (nsle : Nat → Int32) (nco : Nat → Int32) (eld : Int32) (efln : Int32) (eftk : Nat → Int32) (egln : Int32) (egtk : Nat → Int32) (etb : Nat → Nat → Int32) (post : Int32 → Int32 → (Nat → Int32) → Int32 → (Nat → Int32) → (Nat → Nat → Int32) → Prop) (h : P_X8_similarityBits x1 x2 nli nsct nstk nsle nco eld efln eftk egln egtk etb post) : MI l D (TY cI cS cT) yX8_similarityBits cX8_similarityBits 6 (some .int) rm_X8_similarityBits [.ref (ad b0), .int x1, .int x2] (Wd_X8_similarityBits cI cS cT ad b0 nli nsct nstk nsle nco eld efln eftk egln egtk etb) (fun (r : Int32) w => ∃ (u_efln : Int32) (u_eftk : Nat → Int32) (u_egln : Int32) (u_egtk : Nat → Int32) (u_etb : Nat → Nat → Int32), w = (Wd_X8_similarityBits cI cS cT ad b0 nli nsct nstk nsle nco eld u_efln u_eftk u_egln u_egtk u_etb) ∧ post r u_efln u_eftk u_egln u_egtk u_etb) := by
  refine MI.of (by decide) (Nat.le_of_ble_eq_true rfl) (fun E hC hR hn => ?_)
  replace hC : Cx l D (TY cI cS cT) E rm_X8_similarityBits cX8_similarityBits RX8 := hC
  replace hR : RetI D E (fun (r : Int32) w => ∃ (u_efln : Int32) (u_eftk : Nat → Int32) (u_egln : Int32) (u_egtk : Nat → Int32) (u_etb : Nat → Nat → Int32), w = (Wd_X8_similarityBits cI cS cT ad b0 nli nsct nstk nsle nco eld u_efln u_eftk u_egln u_egtk u_etb) ∧ post r u_efln u_eftk u_egln u_egtk u_etb) 0 0 (some .int) := hR
  unfold P_X8_similarityBits at h
  change G l D E 0 0 _ [(0, .ref (ad b0)), (1, .int x1), (2, .int x2)] 0 []
  refine g_aload_n 0 0 hC dX8_similarityBits_0 rfl ?_
  refine g_iload_n 1 1 hC dX8_similarityBits_1 rfl ?_
  refine g_iload_n 2 2 hC dX8_similarityBits_2 rfl ?_
  refine g_cVi (As := [.int x1, .int x2]) (rest := []) 3 0 [0, 1, 2] hC (c_X8_hasBoth l D cI cS cT ad b0 x1 x2 nli nsct _ h) kX8_hasBoth wq_261 dX8_similarityBits_3 rfl rfl ⟨Nat.le_of_ble_eq_true rfl, Nat.le_of_ble_eq_true rfl⟩ rfl rfl (Nat.zero_le _) (Nat.zero_le _) rfl rfl rfl (Nat.le_of_ble_eq_true rfl) ?_
  rintro r1 _ ⟨rfl, h⟩
  refine ⟨Nat.le_of_ble_eq_true rfl, G.upd [3, 4, 5, 6, 7, 8, 9, 10, 11, 12, 13, 14, 15, 16, 17, 18, 19, 20] (Wd_X8_similarityBits cI cS cT ad b0 nli nsct nstk nsle nco eld efln eftk egln egtk etb) rfl rfl rfl rfl rfl ?_⟩
  refine g_if_ne 6 11 hC dX8_similarityBits_6 (by decide) (fun hc => ?_) (fun hc => ?_)
  · replace h := h.1 hc
    refine g_aload_n 11 0 hC dX8_similarityBits_11 rfl ?_
    refine g_get 12 0 1 hC inlX8 wq_17 dX8_similarityBits_12 rfl rfl (by decide) rfl ?_
    refine g_getN 15 1 0 hC inlX7 nq_69 dX8_similarityBits_15 rfl rfl (by decide) rfl ?_
    refine g_iload_n 18 1 hC dX8_similarityBits_18 rfl ?_
    refine g_cVNi (As := [.int x1]) (rest := []) 19 2 [2, 4] hC (c_X6_size l D cI cS cT ad (b0 + 4) (12 : Int32) 96 12 x1 nsct nsle _ h) kX6_size nq_290 dX8_similarityBits_19 rfl rfl ⟨Nat.le_of_ble_eq_true rfl, Nat.le_of_ble_eq_true rfl⟩ rfl rfl (Nat.zero_le _) (Nat.zero_le _) rfl rfl rfl (Nat.le_of_ble_eq_true rfl) ?_
    rintro r2 _ ⟨rfl, h⟩
    refine ⟨Nat.le_of_ble_eq_true rfl, G.upd [0, 1, 3, 5, 6, 7, 8, 9, 10, 11, 12, 13, 14, 15, 16, 17, 18, 19, 20] (Wd_X8_similarityBits cI cS cT ad b0 nli nsct nstk nsle nco eld efln eftk egln egtk etb) rfl rfl rfl rfl rfl ?_⟩
    refine g_aload_n 22 0 hC dX8_similarityBits_22 rfl ?_
    refine g_get 23 0 1 hC inlX8 wq_17 dX8_similarityBits_23 rfl rfl (by decide) rfl ?_
    refine g_getN 26 1 0 hC inlX7 nq_69 dX8_similarityBits_26 rfl rfl (by decide) rfl ?_
    refine g_iload_n 29 2 hC dX8_similarityBits_29 rfl ?_
    refine g_cVNi (As := [.int x2]) (rest := [.int r2]) 30 2 [2, 4] hC (c_X6_size l D cI cS cT ad (b0 + 4) (12 : Int32) 96 12 x2 nsct nsle _ h) kX6_size nq_290 dX8_similarityBits_30 rfl rfl ⟨Nat.le_of_ble_eq_true rfl, Nat.le_of_ble_eq_true rfl⟩ rfl rfl (Nat.zero_le _) (Nat.zero_le _) rfl rfl rfl (Nat.le_of_ble_eq_true rfl) ?_
    rintro r3 _ ⟨rfl, h⟩
    refine ⟨Nat.le_of_ble_eq_true rfl, G.upd [0, 1, 3, 5, 6, 7, 8, 9, 10, 11, 12, 13, 14, 15, 16, 17, 18, 19, 20] (Wd_X8_similarityBits cI cS cT ad b0 nli nsct nstk nsle nco eld efln eftk egln egtk etb) rfl rfl rfl rfl rfl ?_⟩
    refine g_iadd 33 hC dX8_similarityBits_33 ?_
    refine g_istore_n 34 [(3, .int (r2 + r3)), (0, .ref (ad b0)), (1, .int x1), (2, .int x2)] hC dX8_similarityBits_34 (by rw [hn]; decide) rfl ?_
    refine g_iconst (v := (1 : Int32)) 35 hC dX8_similarityBits_35 (by decide) ?_
    refine g_aload_n 36 1 hC dX8_similarityBits_36 rfl ?_
    refine g_get 37 0 1 hC inlX8 wq_17 dX8_similarityBits_37 rfl rfl (by decide) rfl ?_
    refine g_getN 40 1 4 hC inlX7 nq_76 dX8_similarityBits_40 rfl rfl (by decide) rfl ?_
    refine g_iconst (v := (0 : Int32)) 43 hC dX8_similarityBits_43 (by decide) ?_
    refine g_iald 44 5 hC dX8_similarityBits_44 rfl rfl (by unfold vp_in; decide) ?_
    refine g_iload_n 45 0 hC dX8_similarityBits_45 rfl ?_
    refine g_imul 46 hC dX8_similarityBits_46 ?_
    refine g_max 47 hC wq_298 dX8_similarityBits_47 (Nat.le_of_ble_eq_true rfl) (Nat.le_of_ble_eq_true rfl) (Nat.zero_le _) (Nat.zero_le _) ?_
    refine g_istore 50 [(4, .int (if (1 : Int32) < ((nco (Int32.toNatClampNeg (0 : Int32))) * (r2 + r3)) then ((nco (Int32.toNatClampNeg (0 : Int32))) * (r2 + r3)) else (1 : Int32))), (3, .int (r2 + r3)), (0, .ref (ad b0)), (1, .int x1), (2, .int x2)] hC dX8_similarityBits_50 (by rw [hn]; decide) rfl ?_
    refine g_aload_n 52 2 hC dX8_similarityBits_52 rfl ?_
    refine g_get 53 0 3 hC inlX8 wq_25 dX8_similarityBits_53 rfl rfl (by decide) rfl ?_
    refine g_aload_n 56 2 hC dX8_similarityBits_56 rfl ?_
    refine g_get 57 0 1 hC inlX8 wq_17 dX8_similarityBits_57 rfl rfl (by decide) rfl ?_
    refine g_iload_n 60 3 hC dX8_similarityBits_60 rfl ?_
    refine g_iload_n 61 4 hC dX8_similarityBits_61 rfl ?_
    refine g_cVNi (As := [.ref (ad (b0 + 3)), .int x1, .int x2]) (rest := []) 62 6 [6, 7, 8, 9, 10, 11, 12, 13, 14, 15, 16, 17, 18, 19, 20, 1, 2, 3, 4, 5] hC (c_X1_between l D cI cS cT ad (b0 + 65) (b0 + 3) x1 x2 eld efln eftk egln egtk etb nli nsct nstk nsle nco _ h) kX1_between nq_327 dX8_similarityBits_62 rfl rfl ⟨Nat.le_of_ble_eq_true rfl, Nat.le_of_ble_eq_true rfl⟩ rfl rfl (Nat.zero_le _) (Nat.zero_le _) rfl rfl rfl (Nat.le_of_ble_eq_true rfl) ?_
    rintro r9 _ ⟨u4, u5, u6, u7, u8, rfl, h⟩
    refine ⟨Nat.le_of_ble_eq_true rfl, G.upd [0] (Wd_X8_similarityBits cI cS cT ad b0 nli nsct nstk nsle nco eld u4 u5 u6 u7 u8) rfl rfl rfl rfl rfl ?_⟩
    refine g_i2f 65 hC dX8_similarityBits_65 ?_
    refine g_iload 66 0 hC dX8_similarityBits_66 rfl ?_
    refine g_i2f 68 hC dX8_similarityBits_68 ?_
    obtain ⟨hf, h⟩ := h
    refine g_fdiv 69 hC dX8_similarityBits_69 hf ?_
    refine g_fstore 70 [(5, .float (FP.fdiv (FP.i2f r9) (FP.i2f (if (1 : Int32) < ((nco (Int32.toNatClampNeg (0 : Int32))) * (r2 + r3)) then ((nco (Int32.toNatClampNeg (0 : Int32))) * (r2 + r3)) else (1 : Int32))))), (4, .int (if (1 : Int32) < ((nco (Int32.toNatClampNeg (0 : Int32))) * (r2 + r3)) then ((nco (Int32.toNatClampNeg (0 : Int32))) * (r2 + r3)) else (1 : Int32))), (3, .int (r2 + r3)), (0, .ref (ad b0)), (1, .int x1), (2, .int x2)] hC dX8_similarityBits_70 (by rw [hn]; decide) rfl ?_
    refine g_fconst1 72 hC dX8_similarityBits_72 ?_
    refine g_fload 73 0 hC dX8_similarityBits_73 rfl ?_
    obtain ⟨hf, h⟩ := h
    refine g_fsub 75 hC dX8_similarityBits_75 hf ?_
    refine g_cSi (As := [.float (FP.fsub FP.fconst1 (FP.fdiv (FP.i2f r9) (FP.i2f (if (1 : Int32) < ((nco (Int32.toNatClampNeg (0 : Int32))) * (r2 + r3)) then ((nco (Int32.toNatClampNeg (0 : Int32))) * (r2 + r3)) else (1 : Int32)))))]) (rest := []) 76 [] hC (c_X8_bitsOf l D cI cS cT ad (FP.fsub FP.fconst1 (FP.fdiv (FP.i2f r9) (FP.i2f (if (1 : Int32) < ((nco (Int32.toNatClampNeg (0 : Int32))) * (r2 + r3)) then ((nco (Int32.toNatClampNeg (0 : Int32))) * (r2 + r3)) else (1 : Int32))))) _ h) kX8_bitsOf wq_301 dX8_similarityBits_76 ⟨Nat.le_of_ble_eq_true rfl, Nat.le_of_ble_eq_true rfl⟩ rfl rfl (Nat.zero_le _) (Nat.zero_le _) rfl rfl rfl (Nat.le_of_ble_eq_true rfl) ?_
    rintro r10 _ ⟨rfl, h⟩
    refine ⟨Nat.le_of_ble_eq_true rfl, G.upd [0, 1, 2, 3, 4, 5, 6, 7, 8, 9, 10, 11, 12, 13, 14, 15, 16, 17, 18, 19, 20] (Wd_X8_similarityBits cI cS cT ad b0 nli nsct nstk nsle nco eld u4 u5 u6 u7 u8) rfl rfl rfl rfl rfl ?_⟩
    exact g_iret 79 hC hR dX8_similarityBits_79 ⟨u4, u5, u6, u7, u8, rfl, h⟩
  · replace h := h.2 hc
    refine g_iconst (v := (-1 : Int32)) 9 hC dX8_similarityBits_9 (by decide) ?_
    exact g_iret 10 hC hR dX8_similarityBits_10 ⟨efln, eftk, egln, egtk, etb, rfl, h⟩

/-! ===== ProverbCollection.editCount(II)I ===== -/
def Wd_X8_editCount (cI cS cT : ClassId) (ad : Nat → Nat) (b0 : Nat) (nli : Int32) (nsct : Int32) (nstk : Nat → Int32) (nsle : Nat → Int32) (nco : Nat → Int32) (eld : Int32) (efln : Int32) (eftk : Nat → Int32) (egln : Int32) (egtk : Nat → Int32) (etb : Nat → Nat → Int32) (els : Nat → Int32) : va_W := [(ad b0, .inr (8, [.ref (ad (b0 + 1)), .ref (ad (b0 + 3)), .ref (ad (b0 + 13)), .ref (ad (b0 + 65)), .ref (ad (b0 + 81)), .ref (ad (b0 + 88)), .ref (ad (b0 + 92)), .ref (ad (b0 + 99))])), (ad (b0 + 3), .inr (7, [.ref (ad (b0 + 4)), .ref (ad (b0 + 7)), .ref (ad (b0 + 8)), .ref (ad (b0 + 9)), .ref (ad (b0 + 12)), .int nli])), (ad (b0 + 4), .inr (6, [.int 12, .ref (ad (b0 + 5)), .ref (ad (b0 + 6)), .int nsct])), (ad (b0 + 5), .inl (cI, 96, .inl nstk)), (ad (b0 + 6), .inl (cI, 12, .inl nsle)), (ad (b0 + 12), .inl (cI, 4, .inl nco)), (ad (b0 + 65), .inr (1, [.ref (ad (b0 + 66)), .ref (ad (b0 + 68)), .ref (ad (b0 + 70)), .ref (ad (b0 + 80)), .int eld])), (ad (b0 + 66), .inr (5, [.ref (ad (b0 + 67)), .int efln])), (ad (b0 + 67), .inl (cI, 8, .inl eftk)), (ad (b0 + 68), .inr (5, [.ref (ad (b0 + 69)), .int egln])), (ad (b0 + 69), .inl (cI, 8, .inl egtk)), (ad (b0 + 70), .inl (cT, 9, .inr (.inr (.inr (.inr (fun i => if i < 9 then some (ad (b0 + 71 + i)) else none)))))), (ad (b0 + 71 + 0), .inl (cI, 9, .inl (etb 0))), (ad (b0 + 71 + 1), .inl (cI, 9, .inl (etb 1))), (ad (b0 + 71 + 2), .inl (cI, 9, .inl (etb 2))), (ad (b0 + 71 + 3), .inl (cI, 9, .inl (etb 3))), (ad (b0 + 71 + 4), .inl (cI, 9, .inl (etb 4))), (ad (b0 + 71 + 5), .inl (cI, 9, .inl (etb 5))), (ad (b0 + 71 + 6), .inl (cI, 9, .inl (etb 6))), (ad (b0 + 71 + 7), .inl (cI, 9, .inl (etb 7))), (ad (b0 + 71 + 8), .inl (cI, 9, .inl (etb 8))), (ad (b0 + 80), .inl (cI, 16, .inl els))]
def rm_X8_editCount : Room := { frames := 5, cells := 0, slots := 0, locals := 122 }
theorem kX8_editCount : KV yX8_editCount cX8_editCount 3 (some .int) 2 := ⟨wq_268, wq_3, wq_266, wq_267, by decide +kernel⟩
def P_X8_editCount (x1 : Int32) (x2 : Int32) (nli : Int32) (nsct : Int32) (nstk : Nat → Int32) (nsle : Nat → Int32) (nco : Nat → Int32) (eld : Int32) (efln : Int32) (eftk : Nat → Int32) (egln : Int32) (egtk : Nat → Int32) (etb : Nat → Nat → Int32) (els : Nat → Int32) (post : Int32 → Int32 → Int32 → (Nat → Int32) → Int32 → (Nat → Int32) → (Nat → Nat → Int32) → (Nat → Int32) → Prop) : Prop :=
  P_X8_hasBoth x1 x2 nli nsct (fun r1 => (¬ r1 = 0 → P_X1_between x1 x2 eld efln eftk egln egtk etb nli nsct nstk nsle nco (fun r7 u2 u3 u4 u5 u6 => P_X1_trace 4 eld u2 u3 u4 u5 u6 els nco (fun u8 u9 => post u8 u8 u2 u3 u4 u5 u6 u9))) ∧ (r1 = 0 → post (-1 : Int32) eld efln eftk egln egtk etb els))
set_option maxHeartbeats 4000000 in
set_option maxRecDepth 100000 in
theorem c_X8_editCount (l : Launch) (D : va_G) (cI cS cT : ClassId) (ad : Nat → Nat) (b0 : Nat) (x1 : Int32) (x2 : Int32) (nli : Int32) (nsct : Int32) (nstk : Nat → Int32) (nsle : Nat → Int32) (nco : Nat → Int32) (eld : Int32) (efln : Int32) (eftk : Nat → Int32) (egln : Int32) (egtk : Nat → Int32) (etb : Nat → Nat → Int32) (els : Nat → Int32) (post : Int32 → Int32 → Int32 → (Nat → Int32) → Int32 → (Nat → Int32) → (Nat → Nat → Int32) → (Nat → Int32) → Prop) (h : P_X8_editCount x1 x2 nli nsct nstk nsle nco eld efln eftk egln egtk etb els post) : MI l D (TY cI cS cT) yX8_editCount cX8_editCount 3 (some .int) rm_X8_editCount [.ref (ad b0), .int x1, .int x2] (Wd_X8_editCount cI cS cT ad b0 nli nsct nstk nsle nco eld efln eftk egln egtk etb els) (fun (r : Int32) w => ∃ (u_eld : Int32) (u_efln : Int32) (u_eftk : Nat → Int32) (u_egln : Int32) (u_egtk : Nat → Int32) (u_etb : Nat → Nat → Int32) (u_els : Nat → Int32), w = (Wd_X8_editCount cI cS cT ad b0 nli nsct nstk nsle nco u_eld u_efln u_eftk u_egln u_egtk u_etb u_els) ∧ post r u_eld u_efln u_eftk u_egln u_egtk u_etb u_els) := by
  refine MI.of (by decide) (Nat.le_of_ble_eq_true rfl) (fun E hC hR hn => ?_)
  replace hC : Cx l D (TY cI cS cT) E rm_X8_editCount cX8_editCount RX8 := hC
  replace hR : RetI D E (fun (r : Int32) w => ∃ (u_eld : Int32) (u_efln : Int32) (u_eftk : Nat → Int32) (u_egln : Int32) (u_egtk : Nat → Int32) (u_etb : Nat → Nat → Int32) (u_els : Nat → Int32), w = (Wd_X8_editCount cI cS cT ad b0 nli nsct nstk nsle nco u_eld u_efln u_eftk u_egln u_egtk u_etb u_els) ∧ post r u_eld u_efln u_eftk u_egln u_egtk u_etb u_els) 0 0 (some .int) := hR
  unfold P_X8_editCount at h
  change G l D E 0 0 _ [(0, .ref (ad b0)), (1, .int x1), (2, .int x2)] 0 []
  refine g_aload_n 0 0 hC dX8_editCount_0 rfl ?_
  refine g_iload_n 1 1 hC dX8_editCount_1 rfl ?_
  refine g_iload_n 2 2 hC dX8_editCount_2 rfl ?_
  refine g_cVi (As := [.int x1, .int x2]) (rest := []) 3 0 [0, 1, 2] hC (c_X8_hasBoth l D cI cS cT ad b0 x1 x2 nli nsct _ h) kX8_hasBoth wq_261 dX8_editCount_3 rfl rfl ⟨Nat.le_of_ble_eq_true rfl, Nat.le_of_ble_eq_true rfl⟩ rfl rfl (Nat.zero_le _) (Nat.zero_le _) rfl rfl rfl (Nat.le_of_ble_eq_true rfl) ?_
  rintro r1 _ ⟨rfl, h⟩
  refine ⟨Nat.le_of_ble_eq_true rfl, G.upd [3, 4, 5, 6, 7, 8, 9, 10, 11, 12, 13, 14, 15, 16, 17, 18, 19, 20, 21] (Wd_X8_editCount cI cS cT ad b0 nli nsct nstk nsle nco eld efln eftk egln egtk etb els) rfl rfl rfl rfl rfl ?_⟩
  refine g_if_ne 6 11 hC dX8_editCount_6 (by decide) (fun hc => ?_) (fun hc => ?_)
  · replace h := h.1 hc
    refine g_aload_n 11 0 hC dX8_editCount_11 rfl ?_
    refine g_get 12 0 3 hC inlX8 wq_25 dX8_editCount_12 rfl rfl (by decide) rfl ?_
    refine g_aload_n 15 0 hC dX8_editCount_15 rfl ?_
    refine g_get 16 0 1 hC inlX8 wq_17 dX8_editCount_16 rfl rfl (by decide) rfl ?_
    refine g_iload_n 19 1 hC dX8_editCount_19 rfl ?_
    refine g_iload_n 20 2 hC dX8_editCount_20 rfl ?_
    refine g_cVNi (As := [.ref (ad (b0 + 3)), .int x1, .int x2]) (rest := []) 21 6 [6, 7, 8, 9, 10, 11, 12, 13, 14, 15, 16, 17, 18, 19, 20, 1, 2, 3, 4, 5] hC (c_X1_between l D cI cS cT ad (b0 + 65) (b0 + 3) x1 x2 eld efln eftk egln egtk etb nli nsct nstk nsle nco _ h) kX1_between nq_327 dX8_editCount_21 rfl rfl ⟨Nat.le_of_ble_eq_true rfl, Nat.le_of_ble_eq_true rfl⟩ rfl rfl (Nat.zero_le _) (Nat.zero_le _) rfl rfl rfl (Nat.le_of_ble_eq_true rfl) ?_
    rintro r7 _ ⟨u2, u3, u4, u5, u6, rfl, h⟩
    refine ⟨Nat.le_of_ble_eq_true rfl, G.upd [0, 21] (Wd_X8_editCount cI cS cT ad b0 nli nsct nstk nsle nco eld u2 u3 u4 u5 u6 els) rfl rfl rfl rfl rfl ?_⟩
    refine g_pop 24 hC dX8_editCount_24 rfl ?_
    refine g_aload_n 25 0 hC dX8_editCount_25 rfl ?_
    refine g_get 26 0 3 hC inlX8 wq_25 dX8_editCount_26 rfl rfl (by decide) rfl ?_
    refine g_aload_n 29 0 hC dX8_editCount_29 rfl ?_
    refine g_get 30 0 1 hC inlX8 wq_17 dX8_editCount_30 rfl rfl (by decide) rfl ?_
    refine g_getN 33 1 4 hC inlX7 nq_76 dX8_editCount_33 rfl rfl (by decide) rfl ?_
    refine g_cVNv (As := [.ref (ad (b0 + 12))]) (rest := []) 36 6 [6, 7, 8, 9, 10, 11, 12, 13, 14, 15, 16, 17, 18, 19, 20, 21, 5] hC (c_X1_trace l D cI cS cT ad (b0 + 65) (b0 + 12) 4 eld u2 u3 u4 u5 u6 els nco _ h) kX1_trace nq_427 dX8_editCount_36 rfl rfl ⟨Nat.le_of_ble_eq_true rfl, Nat.le_of_ble_eq_true rfl⟩ rfl rfl (Nat.zero_le _) (Nat.zero_le _) rfl rfl rfl (Nat.le_of_ble_eq_true rfl) ?_
    rintro _ ⟨u8, u9, rfl, h⟩
    refine ⟨Nat.le_of_ble_eq_true rfl, G.upd [0, 1, 2, 3, 4] (Wd_X8_editCount cI cS cT ad b0 nli nsct nstk nsle nco u8 u2 u3 u4 u5 u6 u9) rfl rfl rfl rfl rfl ?_⟩
    refine g_aload_n 39 0 hC dX8_editCount_39 rfl ?_
    refine g_get 40 0 3 hC inlX8 wq_25 dX8_editCount_40 rfl rfl (by decide) rfl ?_
    refine g_getN 43 6 4 hC inlX1 nq_128 dX8_editCount_43 rfl rfl (by decide) rfl ?_
    exact g_iret 46 hC hR dX8_editCount_46 ⟨u8, u2, u3, u4, u5, u6, u9, rfl, h⟩
  · replace h := h.2 hc
    refine g_iconst (v := (-1 : Int32)) 9 hC dX8_editCount_9 (by decide) ?_
    exact g_iret 10 hC hR dX8_editCount_10 ⟨eld, efln, eftk, egln, egtk, etb, els, rfl, h⟩

/-! ===== ProverbCollection.editAt(III)I ===== -/
def Wd_X8_editAt (cI cS cT : ClassId) (ad : Nat → Nat) (b0 : Nat) (nli : Int32) (nsct : Int32) (nstk : Nat → Int32) (nsle : Nat → Int32) (nco : Nat → Int32) (eld : Int32) (efln : Int32) (eftk : Nat → Int32) (egln : Int32) (egtk : Nat → Int32) (etb : Nat → Nat → Int32) (els : Nat → Int32) : va_W := [(ad b0, .inr (8, [.ref (ad (b0 + 1)), .ref (ad (b0 + 3)), .ref (ad (b0 + 13)), .ref (ad (b0 + 65)), .ref (ad (b0 + 81)), .ref (ad (b0 + 88)), .ref (ad (b0 + 92)), .ref (ad (b0 + 99))])), (ad (b0 + 3), .inr (7, [.ref (ad (b0 + 4)), .ref (ad (b0 + 7)), .ref (ad (b0 + 8)), .ref (ad (b0 + 9)), .ref (ad (b0 + 12)), .int nli])), (ad (b0 + 4), .inr (6, [.int 12, .ref (ad (b0 + 5)), .ref (ad (b0 + 6)), .int nsct])), (ad (b0 + 5), .inl (cI, 96, .inl nstk)), (ad (b0 + 6), .inl (cI, 12, .inl nsle)), (ad (b0 + 12), .inl (cI, 4, .inl nco)), (ad (b0 + 65), .inr (1, [.ref (ad (b0 + 66)), .ref (ad (b0 + 68)), .ref (ad (b0 + 70)), .ref (ad (b0 + 80)), .int eld])), (ad (b0 + 66), .inr (5, [.ref (ad (b0 + 67)), .int efln])), (ad (b0 + 67), .inl (cI, 8, .inl eftk)), (ad (b0 + 68), .inr (5, [.ref (ad (b0 + 69)), .int egln])), (ad (b0 + 69), .inl (cI, 8, .inl egtk)), (ad (b0 + 70), .inl (cT, 9, .inr (.inr (.inr (.inr (fun i => if i < 9 then some (ad (b0 + 71 + i)) else none)))))), (ad (b0 + 71 + 0), .inl (cI, 9, .inl (etb 0))), (ad (b0 + 71 + 1), .inl (cI, 9, .inl (etb 1))), (ad (b0 + 71 + 2), .inl (cI, 9, .inl (etb 2))), (ad (b0 + 71 + 3), .inl (cI, 9, .inl (etb 3))), (ad (b0 + 71 + 4), .inl (cI, 9, .inl (etb 4))), (ad (b0 + 71 + 5), .inl (cI, 9, .inl (etb 5))), (ad (b0 + 71 + 6), .inl (cI, 9, .inl (etb 6))), (ad (b0 + 71 + 7), .inl (cI, 9, .inl (etb 7))), (ad (b0 + 71 + 8), .inl (cI, 9, .inl (etb 8))), (ad (b0 + 80), .inl (cI, 16, .inl els))]
def rm_X8_editAt : Room := { frames := 5, cells := 0, slots := 0, locals := 122 }
theorem kX8_editAt : KV yX8_editAt cX8_editAt 4 (some .int) 3 := ⟨wq_283, wq_3, wq_281, wq_282, by decide +kernel⟩
def P_X8_editAt (x1 : Int32) (x2 : Int32) (x3 : Int32) (nli : Int32) (nsct : Int32) (nstk : Nat → Int32) (nsle : Nat → Int32) (nco : Nat → Int32) (eld : Int32) (efln : Int32) (eftk : Nat → Int32) (egln : Int32) (egtk : Nat → Int32) (etb : Nat → Nat → Int32) (els : Nat → Int32) (post : Int32 → Int32 → Int32 → (Nat → Int32) → Int32 → (Nat → Int32) → (Nat → Nat → Int32) → (Nat → Int32) → Prop) : Prop :=
  P_X8_hasBoth x1 x2 nli nsct (fun r1 => (r1 = 0 → post (-1 : Int32) eld efln eftk egln egtk etb els) ∧ (¬ r1 = 0 → ((0 ≤ x3 → P_X1_between x1 x2 eld efln eftk egln egtk etb nli nsct nstk nsle nco (fun r7 u2 u3 u4 u5 u6 => P_X1_trace 4 eld u2 u3 u4 u5 u6 els nco (fun u8 u9 => P_X1_fromBeginning x3 u8 u9 (fun r11 => post r11 u8 u2 u3 u4 u5 u6 u9)))) ∧ (¬ 0 ≤ x3 → post (-1 : Int32) eld efln eftk egln egtk etb els))))
set_option maxHeartbeats 4000000 in
set_option maxRecDepth 100000 in
theorem c_X8_editAt (l : Launch) (D : va_G) (cI cS cT : ClassId) (ad : Nat → Nat) (b0 : Nat) (x1 : Int32) (x2 : Int32) (x3 : Int32) (nli : Int32) (nsct : Int32) (nstk : Nat → Int32) (nsle : Nat → Int32) (nco : Nat → Int32) (eld : Int32) (efln : Int32) (eftk : Nat → Int32) (egln : Int32) (egtk : Nat → Int32) (etb : Nat → Nat → Int32) (els : Nat → Int32) (post : Int32 → Int32 → Int32 → (Nat → Int32) → Int32 → (Nat → Int32) → (Nat → Nat → Int32) → (Nat → Int32) → Prop) (h : P_X8_editAt x1 x2 x3 nli nsct nstk nsle nco eld efln eftk egln egtk etb els post) : MI l D (TY cI cS cT) yX8_editAt cX8_editAt 4 (some .int) rm_X8_editAt [.ref (ad b0), .int x1, .int x2, .int x3] (Wd_X8_editAt cI cS cT ad b0 nli nsct nstk nsle nco eld efln eftk egln egtk etb els) (fun (r : Int32) w => ∃ (u_eld : Int32) (u_efln : Int32) (u_eftk : Nat → Int32) (u_egln : Int32) (u_egtk : Nat → Int32) (u_etb : Nat → Nat → Int32) (u_els : Nat → Int32), w = (Wd_X8_editAt cI cS cT ad b0 nli nsct nstk nsle nco u_eld u_efln u_eftk u_egln u_egtk u_etb u_els) ∧ post r u_eld u_efln u_eftk u_egln u_egtk u_etb u_els) := by
  refine MI.of (by decide) (Nat.le_of_ble_eq_true rfl) (fun E hC hR hn => ?_)
  replace hC : Cx l D (TY cI cS cT) E rm_X8_editAt cX8_editAt RX8 := hC
  replace hR : RetI D E (fun (r : Int32) w => ∃ (u_eld : Int32) (u_efln : Int32) (u_eftk : Nat → Int32) (u_egln : Int32) (u_egtk : Nat → Int32) (u_etb : Nat → Nat → Int32) (u_els : Nat → Int32), w = (Wd_X8_editAt cI cS cT ad b0 nli nsct nstk nsle nco u_eld u_efln u_eftk u_egln u_egtk u_etb u_els) ∧ post r u_eld u_efln u_eftk u_egln u_egtk u_etb u_els) 0 0 (some .int) := hR
  unfold P_X8_editAt at h
  change G l D E 0 0 _ [(0, .ref (ad b0)), (1, .int x1), (2, .int x2), (3, .int x3)] 0 []
  refine g_aload_n 0 0 hC dX8_editAt_0 rfl ?_
  refine g_iload_n 1 1 hC dX8_editAt_1 rfl ?_
  refine g_iload_n 2 2 hC dX8_editAt_2 rfl ?_
  refine g_cVi (As := [.int x1, .int x2]) (rest := []) 3 0 [0, 1, 2] hC (c_X8_hasBoth l D cI cS cT ad b0 x1 x2 nli nsct _ h) kX8_hasBoth wq_261 dX8_editAt_3 rfl rfl ⟨Nat.le_of_ble_eq_true rfl, Nat.le_of_ble_eq_true rfl⟩ rfl rfl (Nat.zero_le _) (Nat.zero_le _) rfl rfl rfl (Nat.le_of_ble_eq_true rfl) ?_
  rintro r1 _ ⟨rfl, h⟩
  refine ⟨Nat.le_of_ble_eq_true rfl, G.upd [3, 4, 5, 6, 7, 8, 9, 10, 11, 12, 13, 14, 15, 16, 17, 18, 19, 20, 21] (Wd_X8_editAt cI cS cT ad b0 nli nsct nstk nsle nco eld efln eftk egln egtk etb els) rfl rfl rfl rfl rfl ?_⟩
  refine g_if_eq 6 13 hC dX8_editAt_6 (by decide) (fun hc => ?_) (fun hc => ?_)
  · replace h := h.1 hc
    refine g_iconst (v := (-1 : Int32)) 13 hC dX8_editAt_13 (by decide) ?_
    exact g_iret 14 hC hR dX8_editAt_14 ⟨eld, efln, eftk, egln, egtk, etb, els, rfl, h⟩
  · replace h := h.2 hc
    refine g_iload_n 9 3 hC dX8_editAt_9 rfl ?_
    refine g_if_ge 10 15 hC dX8_editAt_10 (by decide) (fun hc => ?_) (fun hc => ?_)
    · replace h := h.1 hc
      refine g_aload_n 15 0 hC dX8_editAt_15 rfl ?_
      refine g_get 16 0 3 hC inlX8 wq_25 dX8_editAt_16 rfl rfl (by decide) rfl ?_
      refine g_aload_n 19 0 hC dX8_editAt_19 rfl ?_
      refine g_get 20 0 1 hC inlX8 wq_17 dX8_editAt_20 rfl rfl (by decide) rfl ?_
      refine g_iload_n 23 1 hC dX8_editAt_23 rfl ?_
      refine g_iload_n 24 2 hC dX8_editAt_24 rfl ?_
      refine g_cVNi (As := [.ref (ad (b0 + 3)), .int x1, .int x2]) (rest := []) 25 6 [6, 7, 8, 9, 10, 11, 12, 13, 14, 15, 16, 17, 18, 19, 20, 1, 2, 3, 4, 5] hC (c_X1_between l D cI cS cT ad (b0 + 65) (b0 + 3) x1 x2 eld efln eftk egln egtk etb nli nsct nstk nsle nco _ h) kX1_between nq_327 dX8_editAt_25 rfl rfl ⟨Nat.le_of_ble_eq_true rfl, Nat.le_of_ble_eq_true rfl⟩ rfl rfl (Nat.zero_le _) (Nat.zero_le _) rfl rfl rfl (Nat.le_of_ble_eq_true rfl) ?_
      rintro r7 _ ⟨u2, u3, u4, u5, u6, rfl, h⟩
      refine ⟨Nat.le_of_ble_eq_true rfl, G.upd [0, 21] (Wd_X8_editAt cI cS cT ad b0 nli nsct nstk nsle nco eld u2 u3 u4 u5 u6 els) rfl rfl rfl rfl rfl ?_⟩
      refine g_pop 28 hC dX8_editAt_28 rfl ?_
      refine g_aload_n 29 0 hC dX8_editAt_29 rfl ?_
      refine g_get 30 0 3 hC inlX8 wq_25 dX8_editAt_30 rfl rfl (by decide) rfl ?_
      refine g_aload_n 33 0 hC dX8_editAt_33 rfl ?_
      refine g_get 34 0 1 hC inlX8 wq_17 dX8_editAt_34 rfl rfl (by decide) rfl ?_
      refine g_getN 37 1 4 hC inlX7 nq_76 dX8_editAt_37 rfl rfl (by decide) rfl ?_
      refine g_cVNv (As := [.ref (ad (b0 + 12))]) (rest := []) 40 6 [6, 7, 8, 9, 10, 11, 12, 13, 14, 15, 16, 17, 18, 19, 20, 21, 5] hC (c_X1_trace l D cI cS cT ad (b0 + 65) (b0 + 12) 4 eld u2 u3 u4 u5 u6 els nco _ h) kX1_trace nq_427 dX8_editAt_40 rfl rfl ⟨Nat.le_of_ble_eq_true rfl, Nat.le_of_ble_eq_true rfl⟩ rfl rfl (Nat.zero_le _) (Nat.zero_le _) rfl rfl rfl (Nat.le_of_ble_eq_true rfl) ?_
      rintro _ ⟨u8, u9, rfl, h⟩
      refine ⟨Nat.le_of_ble_eq_true rfl, G.upd [0, 1, 2, 3, 4] (Wd_X8_editAt cI cS cT ad b0 nli nsct nstk nsle nco u8 u2 u3 u4 u5 u6 u9) rfl rfl rfl rfl rfl ?_⟩
      refine g_aload_n 43 0 hC dX8_editAt_43 rfl ?_
      refine g_get 44 0 3 hC inlX8 wq_25 dX8_editAt_44 rfl rfl (by decide) rfl ?_
      refine g_iload_n 47 3 hC dX8_editAt_47 rfl ?_
      refine g_cVNi (As := [.int x3]) (rest := []) 48 6 [6, 21] hC (c_X1_fromBeginning l D cI cS cT ad (b0 + 65) x3 u8 u9 _ h) kX1_fromBeginning nq_442 dX8_editAt_48 rfl rfl ⟨Nat.le_of_ble_eq_true rfl, Nat.le_of_ble_eq_true rfl⟩ rfl rfl (Nat.zero_le _) (Nat.zero_le _) rfl rfl rfl (Nat.le_of_ble_eq_true rfl) ?_
      rintro r11 _ ⟨rfl, h⟩
      refine ⟨Nat.le_of_ble_eq_true rfl, G.upd [0, 1, 2, 3, 4, 5, 7, 8, 9, 10, 11, 12, 13, 14, 15, 16, 17, 18, 19, 20] (Wd_X8_editAt cI cS cT ad b0 nli nsct nstk nsle nco u8 u2 u3 u4 u5 u6 u9) rfl rfl rfl rfl rfl ?_⟩
      exact g_iret 51 hC hR dX8_editAt_51 ⟨u8, u2, u3, u4, u5, u6, u9, rfl, h⟩
    · replace h := h.2 hc
      refine g_iconst (v := (-1 : Int32)) 13 hC dX8_editAt_13 (by decide) ?_
      exact g_iret 14 hC hR dX8_editAt_14 ⟨eld, efln, eftk, egln, egtk, etb, els, rfl, h⟩

/-! ===== ProverbCollection.nearest(I)I ===== -/
def Wd_X8_nearest (cI cS cT : ClassId) (ad : Nat → Nat) (b0 : Nat) (nli : Int32) (nsct : Int32) (nstk : Nat → Int32) (nsle : Nat → Int32) (nye : Nat → Int32) (nco : Nat → Int32) (eld : Int32) (efln : Int32) (eftk : Nat → Int32) (egln : Int32) (egtk : Nat → Int32) (etb : Nat → Nat → Int32) (ao : Nat → Int32) : va_W := [(ad b0, .inr (8, [.ref (ad (b0 + 1)), .ref (ad (b0 + 3)), .ref (ad (b0 + 13)), .ref (ad (b0 + 65)), .ref (ad (b0 + 81)), .ref (ad (b0 + 88)), .ref (ad (b0 + 92)), .ref (ad (b0 + 99))])), (ad (b0 + 3), .inr (7, [.ref (ad (b0 + 4)), .ref (ad (b0 + 7)), .ref (ad (b0 + 8)), .ref (ad (b0 + 9)), .ref (ad (b0 + 12)), .int nli])), (ad (b0 + 4), .inr (6, [.int 12, .ref (ad (b0 + 5)), .ref (ad (b0 + 6)), .int nsct])), (ad (b0 + 5), .inl (cI, 96, .inl nstk)), (ad (b0 + 6), .inl (cI, 12, .inl nsle)), (ad (b0 + 7), .inl (cI, 12, .inl nye)), (ad (b0 + 12), .inl (cI, 4, .inl nco)), (ad (b0 + 65), .inr (1, [.ref (ad (b0 + 66)), .ref (ad (b0 + 68)), .ref (ad (b0 + 70)), .ref (ad (b0 + 80)), .int eld])), (ad (b0 + 66), .inr (5, [.ref (ad (b0 + 67)), .int efln])), (ad (b0 + 67), .inl (cI, 8, .inl eftk)), (ad (b0 + 68), .inr (5, [.ref (ad (b0 + 69)), .int egln])), (ad (b0 + 69), .inl (cI, 8, .inl egtk)), (ad (b0 + 70), .inl (cT, 9, .inr (.inr (.inr (.inr (fun i => if i < 9 then some (ad (b0 + 71 + i)) else none)))))), (ad (b0 + 71 + 0), .inl (cI, 9, .inl (etb 0))), (ad (b0 + 71 + 1), .inl (cI, 9, .inl (etb 1))), (ad (b0 + 71 + 2), .inl (cI, 9, .inl (etb 2))), (ad (b0 + 71 + 3), .inl (cI, 9, .inl (etb 3))), (ad (b0 + 71 + 4), .inl (cI, 9, .inl (etb 4))), (ad (b0 + 71 + 5), .inl (cI, 9, .inl (etb 5))), (ad (b0 + 71 + 6), .inl (cI, 9, .inl (etb 6))), (ad (b0 + 71 + 7), .inl (cI, 9, .inl (etb 7))), (ad (b0 + 71 + 8), .inl (cI, 9, .inl (etb 8))), (ad (b0 + 99), .inl (cI, 12, .inl ao))]
def rm_X8_nearest : Room := { frames := 5, cells := 0, slots := 0, locals := 119 }
theorem kX8_nearest : KV yX8_nearest cX8_nearest 7 (some .int) 1 := ⟨wq_308, wq_3, wq_306, wq_307, by decide +kernel⟩
def B_X8_nearest_36 (v1 : Int32) (nli : Int32) (nsct : Int32) (nstk : Nat → Int32) (nsle : Nat → Int32) (nco : Nat → Int32) (eld : Int32) (ao : Nat → Int32) (K : Int32 → Int32 → Int32 → Int32 → (Nat → Int32) → Int32 → (Nat → Int32) → (Nat → Nat → Int32) → Prop) (rc : Int32 → Int32 → Int32 → Int32 → (Nat → Int32) → Int32 → (Nat → Int32) → (Nat → Nat → Int32) → Prop) (v4 : Int32) (v3 : Int32) (v2 : Int32) (efln : Int32) (eftk : Nat → Int32) (egln : Int32) (egtk : Nat → Int32) (etb : Nat → Nat → Int32) : Prop :=
  (nsct ≤ v4 → K v4 v3 v2 efln eftk egln egtk etb) ∧ (¬ nsct ≤ v4 → (vp_in v4 12 ∧ ((¬ (ao (Int32.toNatClampNeg v4)) = v1 → (P_X1_between v1 (ao (Int32.toNatClampNeg v4)) eld efln eftk egln egtk etb nli nsct nstk nsle nco (fun r9 u4 u5 u6 u7 u8 => (v3 ≤ r9 → rc (v4 + (1 : Int32)) v3 v2 u4 u5 u6 u7 u8) ∧ (¬ v3 ≤ r9 → rc (v4 + (1 : Int32)) r9 (ao (Int32.toNatClampNeg v4)) u4 u5 u6 u7 u8)))) ∧ ((ao (Int32.toNatClampNeg v4)) = v1 → ((v3 ≤ (1000000 : Int32) → rc (v4 + (1 : Int32)) v3 v2 efln eftk egln egtk etb) ∧ (¬ v3 ≤ (1000000 : Int32) → rc (v4 + (1 : Int32)) (1000000 : Int32) (ao (Int32.toNatClampNeg v4)) efln eftk egln egtk etb))))))
def P_X8_nearest_36 (v1 : Int32) (nli : Int32) (nsct : Int32) (nstk : Nat → Int32) (nsle : Nat → Int32) (nco : Nat → Int32) (eld : Int32) (ao : Nat → Int32) (K : Int32 → Int32 → Int32 → Int32 → (Nat → Int32) → Int32 → (Nat → Int32) → (Nat → Nat → Int32) → Prop) : Nat → Int32 → Int32 → Int32 → Int32 → (Nat → Int32) → Int32 → (Nat → Int32) → (Nat → Nat → Int32) → Prop
  | 0 => fun _ _ _ _ _ _ _ _ => False
  | n + 1 => fun v4 v3 v2 efln eftk egln egtk etb => B_X8_nearest_36 v1 nli nsct nstk nsle nco eld ao K (P_X8_nearest_36 v1 nli nsct nstk nsle nco eld ao K n) v4 v3 v2 efln eftk egln egtk etb
def P_X8_nearest (x1 : Int32) (nli : Int32) (nsct : Int32) (nstk : Nat → Int32) (nsle : Nat → Int32) (nye : Nat → Int32) (nco : Nat → Int32) (eld : Int32) (efln : Int32) (eftk : Nat → Int32) (egln : Int32) (egtk : Nat → Int32) (etb : Nat → Nat → Int32) (ao : Nat → Int32) (post : Int32 → Int32 → (Nat → Int32) → Int32 → (Nat → Int32) → (Nat → Nat → Int32) → (Nat → Int32) → Prop) : Prop :=
  P_X6_has (12 : Int32) 96 12 x1 nsct (fun r1 => (¬ r1 = 0 → P_X7_sortByAge 12 nli nsct nye ao (fun u2 => ∃ n : Nat, P_X8_nearest_36 x1 nli nsct nstk nsle nco eld u2 (fun w4_10 w3_10 w2_10 efln_10 eftk_10 egln_10 egtk_10 etb_10 => post w2_10 efln_10 eftk_10 egln_10 egtk_10 etb_10 u2) n (0 : Int32) (1000000 : Int32) (-4 : Int32) efln eftk egln egtk etb)) ∧ (r1 = 0 → post (-1 : Int32) efln eftk egln egtk etb ao))
set_option maxHeartbeats 4000000 in
set_option maxRecDepth 100000 in
theorem L_X8_nearest_36 {l : Launch} {D : va_G} {cI cS cT : ClassId} {ad : Nat → Nat} {b0 : Nat} {E : CE} {v1 : Int32} {nli : Int32} {nsct : Int32} {nstk : Nat → Int32} {nsle : Nat → Int32} {nye : Nat → Int32} {nco : Nat → Int32} {eld : Int32} {ao : Nat → Int32} {post : Int32 → Int32 → (Nat → Int32) → Int32 → (Nat → Int32) → (Nat → Nat → Int32) → (Nat → Int32) → Prop} (hC : Cx l D (TY cI cS cT) E rm_X8_nearest cX8_nearest RX8) (hR : RetI D E (fun (r : Int32) w => ∃ (u_efln : Int32) (u_eftk : Nat → Int32) (u_egln : Int32) (u_egtk : Nat → Int32) (u_etb : Nat → Nat → Int32) (u_ao : Nat → Int32), w = (Wd_X8_nearest cI cS cT ad b0 nli nsct nstk nsle nye nco eld u_efln u_eftk u_egln u_egtk u_etb u_ao) ∧ post r u_efln u_eftk u_egln u_egtk u_etb u_ao) 0 0 (some .int)) (hn : E.nL = 7) (K : Int32 → Int32 → Int32 → Int32 → (Nat → Int32) → Int32 → (Nat → Int32) → (Nat → Nat → Int32) → Prop) (hK : ∀ (v4 : Int32) (v3 : Int32) (v2 : Int32) (efln : Int32) (eftk : Nat → Int32) (egln : Int32) (egtk : Nat → Int32) (etb : Nat → Nat → Int32), K v4 v3 v2 efln eftk egln egtk etb → G l D E 0 0 (Wd_X8_nearest cI cS cT ad b0 nli nsct nstk nsle nye nco eld efln eftk egln egtk etb ao) [(4, .int v4), (3, .int v3), (2, .int v2), (0, .ref (ad b0)), (1, .int v1)] 105 []) : ∀ (n : Nat) (v4 : Int32) (v3 : Int32) (v2 : Int32) (efln : Int32) (eftk : Nat → Int32) (egln : Int32) (egtk : Nat → Int32) (etb : Nat → Nat → Int32), P_X8_nearest_36 v1 nli nsct nstk nsle nco eld ao K n v4 v3 v2 efln eftk egln egtk etb → G l D E 0 0 (Wd_X8_nearest cI cS cT ad b0 nli nsct nstk nsle nye nco eld efln eftk egln egtk etb ao) [(4, .int v4), (3, .int v3), (2, .int v2), (0, .ref (ad b0)), (1, .int v1)] 36 [] := by
  intro n
  induction n with
  | zero => exact fun _ _ _ _ _ _ _ _ h => h.elim
  | succ n ih =>
    intro v4 v3 v2 efln eftk egln egtk etb h
    replace h : B_X8_nearest_36 v1 nli nsct nstk nsle nco eld ao K (P_X8_nearest_36 v1 nli nsct nstk nsle nco eld ao K n) v4 v3 v2 efln eftk egln egtk etb := h
    unfold B_X8_nearest_36 at h
    refine g_iload 36 0 hC dX8_nearest_36 rfl ?_
    refine g_aload_n 38 3 hC dX8_nearest_38 rfl ?_
    refine g_get 39 0 1 hC inlX8 wq_17 dX8_nearest_39 rfl rfl (by decide) rfl ?_
    refine g_getN 42 1 0 hC inlX7 nq_69 dX8_nearest_42 rfl rfl (by decide) rfl ?_
    refine g_getN 45 2 3 hC inlX6 nq_56 dX8_nearest_45 rfl rfl (by decide) rfl ?_
    refine g_icmp_ge 48 105 hC dX8_nearest_48 (by decide) (fun hc => ?_) (fun hc => ?_)
    · replace h := h.1 hc
      refine G.sub [0, 1, 2, 3, 4] rfl ?_
      exact hK v4 v3 v2 efln eftk egln egtk etb h
    · replace h := h.2 hc
      refine g_aload_n 51 3 hC dX8_nearest_51 rfl ?_
      refine g_get 52 0 7 hC inlX8 wq_38 dX8_nearest_52 rfl rfl (by decide) rfl ?_
      refine g_iload 55 0 hC dX8_nearest_55 rfl ?_
      obtain ⟨hj, h⟩ := h
      refine g_iald 57 22 hC dX8_nearest_57 rfl rfl hj ?_
      refine g_istore 58 [(5, .int (ao (Int32.toNatClampNeg v4))), (4, .int v4), (3, .int v3), (2, .int v2), (0, .ref (ad b0)), (1, .int v1)] hC dX8_nearest_58 (by rw [hn]; decide) rfl ?_
      refine g_iload 60 0 hC dX8_nearest_60 rfl ?_
      refine g_iload_n 62 5 hC dX8_nearest_62 rfl ?_
      refine g_icmp_ne 63 71 hC dX8_nearest_63 (by decide) (fun hc => ?_) (fun hc => ?_)
      · replace h := h.1 hc
        refine g_aload_n 71 4 hC dX8_nearest_71 rfl ?_
        refine g_get 72 0 3 hC inlX8 wq_25 dX8_nearest_72 rfl rfl (by decide) rfl ?_
        refine g_aload_n 75 4 hC dX8_nearest_75 rfl ?_
        refine g_get 76 0 1 hC inlX8 wq_17 dX8_nearest_76 rfl rfl (by decide) rfl ?_
        refine g_iload_n 79 5 hC dX8_nearest_79 rfl ?_
        refine g_iload 80 0 hC dX8_nearest_80 rfl ?_
        refine g_cVNi (As := [.ref (ad (b0 + 3)), .int v1, .int (ao (Int32.toNatClampNeg v4))]) (rest := []) 82 7 [7, 8, 9, 10, 11, 12, 13, 14, 15, 16, 17, 18, 19, 20, 21, 1, 2, 3, 4, 6] hC (c_X1_between l D cI cS cT ad (b0 + 65) (b0 + 3) v1 (ao (Int32.toNatClampNeg v4)) eld efln eftk egln egtk etb nli nsct nstk nsle nco _ h) kX1_between nq_327 dX8_nearest_82 rfl rfl ⟨Nat.le_of_ble_eq_true rfl, Nat.le_of_ble_eq_true rfl⟩ rfl rfl (Nat.zero_le _) (Nat.zero_le _) rfl rfl rfl (Nat.le_of_ble_eq_true rfl) ?_
        rintro r9 _ ⟨u4, u5, u6, u7, u8, rfl, h⟩
        refine ⟨Nat.le_of_ble_eq_true rfl, G.upd [0, 5, 22] (Wd_X8_nearest cI cS cT ad b0 nli nsct nstk nsle nye nco eld u4 u5 u6 u7 u8 ao) rfl rfl rfl rfl rfl ?_⟩
        refine g_istore 85 [(6, .int r9), (5, .int (ao (Int32.toNatClampNeg v4))), (4, .int v4), (3, .int v3), (2, .int v2), (0, .ref (ad b0)), (1, .int v1)] hC dX8_nearest_85 (by rw [hn]; decide) rfl ?_
        refine g_iload 87 0 hC dX8_nearest_87 rfl ?_
        refine g_iload_n 89 3 hC dX8_nearest_89 rfl ?_
        refine g_icmp_ge 90 99 hC dX8_nearest_90 (by decide) (fun hc => ?_) (fun hc => ?_)
        · replace h := h.1 hc
          refine g_iinc (v := (1 : Int32)) 99 2 [(4, .int (v4 + (1 : Int32))), (6, .int r9), (5, .int (ao (Int32.toNatClampNeg v4))), (3, .int v3), (2, .int v2), (0, .ref (ad b0)), (1, .int v1)] hC dX8_nearest_99 rfl (by decide) (by rw [hn]; decide) rfl ?_
          refine g_goto 102 36 hC dX8_nearest_102 (by decide) ?_
          refine G.sub [0, 3, 4, 5, 6] rfl ?_
          exact ih _ _ _ _ _ _ _ _ h
        · replace h := h.2 hc
          refine g_iload 93 0 hC dX8_nearest_93 rfl ?_
          refine g_istore_n 95 [(3, .int r9), (6, .int r9), (5, .int (ao (Int32.toNatClampNeg v4))), (4, .int v4), (2, .int v2), (0, .ref (ad b0)), (1, .int v1)] hC dX8_nearest_95 (by rw [hn]; decide) rfl ?_
          refine g_iload 96 2 hC dX8_nearest_96 rfl ?_
          refine g_istore_n 98 [(2, .int (ao (Int32.toNatClampNeg v4))), (3, .int r9), (6, .int r9), (5, .int (ao (Int32.toNatClampNeg v4))), (4, .int v4), (0, .ref (ad b0)), (1, .int v1)] hC dX8_nearest_98 (by rw [hn]; decide) rfl ?_
          refine g_iinc (v := (1 : Int32)) 99 4 [(4, .int (v4 + (1 : Int32))), (2, .int (ao (Int32.toNatClampNeg v4))), (3, .int r9), (6, .int r9), (5, .int (ao (Int32.toNatClampNeg v4))), (0, .ref (ad b0)), (1, .int v1)] hC dX8_nearest_99 rfl (by decide) (by rw [hn]; decide) rfl ?_
          refine g_goto 102 36 hC dX8_nearest_102 (by decide) ?_
          refine G.sub [0, 2, 1, 5, 6] rfl ?_
          exact ih _ _ _ _ _ _ _ _ h
      · replace h := h.2 hc
        refine g_ldc 66 hC dX8_nearest_66 wq_309 ?_
        refine g_goto 68 85 hC dX8_nearest_68 (by decide) ?_
        refine g_istore 85 [(6, .int (1000000 : Int32)), (5, .int (ao (Int32.toNatClampNeg v4))), (4, .int v4), (3, .int v3), (2, .int v2), (0, .ref (ad b0)), (1, .int v1)] hC dX8_nearest_85 (by rw [hn]; decide) rfl ?_
        refine g_iload 87 0 hC dX8_nearest_87 rfl ?_
        refine g_iload_n 89 3 hC dX8_nearest_89 rfl ?_
        refine g_icmp_ge 90 99 hC dX8_nearest_90 (by decide) (fun hc => ?_) (fun hc => ?_)
        · replace h := h.1 hc
          refine g_iinc (v := (1 : Int32)) 99 2 [(4, .int (v4 + (1 : Int32))), (6, .int (1000000 : Int32)), (5, .int (ao (Int32.toNatClampNeg v4))), (3, .int v3), (2, .int v2), (0, .ref (ad b0)), (1, .int v1)] hC dX8_nearest_99 rfl (by decide) (by rw [hn]; decide) rfl ?_
          refine g_goto 102 36 hC dX8_nearest_102 (by decide) ?_
          refine G.sub [0, 3, 4, 5, 6] rfl ?_
          exact ih _ _ _ _ _ _ _ _ h
        · replace h := h.2 hc
          refine g_iload 93 0 hC dX8_nearest_93 rfl ?_
          refine g_istore_n 95 [(3, .int (1000000 : Int32)), (6, .int (1000000 : Int32)), (5, .int (ao (Int32.toNatClampNeg v4))), (4, .int v4), (2, .int v2), (0, .ref (ad b0)), (1, .int v1)] hC dX8_nearest_95 (by rw [hn]; decide) rfl ?_
          refine g_iload 96 2 hC dX8_nearest_96 rfl ?_
          refine g_istore_n 98 [(2, .int (ao (Int32.toNatClampNeg v4))), (3, .int (1000000 : Int32)), (6, .int (1000000 : Int32)), (5, .int (ao (Int32.toNatClampNeg v4))), (4, .int v4), (0, .ref (ad b0)), (1, .int v1)] hC dX8_nearest_98 (by rw [hn]; decide) rfl ?_
          refine g_iinc (v := (1 : Int32)) 99 4 [(4, .int (v4 + (1 : Int32))), (2, .int (ao (Int32.toNatClampNeg v4))), (3, .int (1000000 : Int32)), (6, .int (1000000 : Int32)), (5, .int (ao (Int32.toNatClampNeg v4))), (0, .ref (ad b0)), (1, .int v1)] hC dX8_nearest_99 rfl (by decide) (by rw [hn]; decide) rfl ?_
          refine g_goto 102 36 hC dX8_nearest_102 (by decide) ?_
          refine G.sub [0, 2, 1, 5, 6] rfl ?_
          exact ih _ _ _ _ _ _ _ _ h
set_option maxHeartbeats 4000000 in
set_option maxRecDepth 100000 in
theorem c_X8_nearest (l : Launch) (D : va_G) (cI cS cT : ClassId) (ad : Nat → Nat) (b0 : Nat) (x1 : Int32) (nli : Int32) (nsct : Int32) (nstk : Nat → Int32) (nsle : Nat → Int32) (nye : Nat → Int32) (nco : Nat → Int32) (eld : Int32) (efln : Int32) (eftk : Nat → Int32) (egln : Int32) (egtk : Nat → Int32) (etb : Nat → Nat → Int32) (ao : Nat → Int32) (post : Int32 → Int32 → (Nat → Int32) → Int32 → (Nat → Int32) → (Nat → Nat → Int32) → (Nat → Int32) → Prop) (h : P_X8_nearest x1 nli nsct nstk nsle nye nco eld efln eftk egln egtk etb ao post) : MI l D (TY cI cS cT) yX8_nearest cX8_nearest 7 (some .int) rm_X8_nearest [.ref (ad b0), .int x1] (Wd_X8_nearest cI cS cT ad b0 nli nsct nstk nsle nye nco eld efln eftk egln egtk etb ao) (fun (r : Int32) w => ∃ (u_efln : Int32) (u_eftk : Nat → Int32) (u_egln : Int32) (u_egtk : Nat → Int32) (u_etb : Nat → Nat → Int32) (u_ao : Nat → Int32), w = (Wd_X8_nearest cI cS cT ad b0 nli nsct nstk nsle nye nco eld u_efln u_eftk u_egln u_egtk u_etb u_ao) ∧ post r u_efln u_eftk u_egln u_egtk u_etb u_ao) := by
  refine MI.of (by decide) (Nat.le_of_ble_eq_true rfl) (fun E hC hR hn => ?_)
  replace hC : Cx l D (TY cI cS cT) E rm_X8_nearest cX8_nearest RX8 := hC
  replace hR : RetI D E (fun (r : Int32) w => ∃ (u_efln : Int32) (u_eftk : Nat → Int32) (u_egln : Int32) (u_egtk : Nat → Int32) (u_etb : Nat → Nat → Int32) (u_ao : Nat → Int32), w = (Wd_X8_nearest cI cS cT ad b0 nli nsct nstk nsle nye nco eld u_efln u_eftk u_egln u_egtk u_etb u_ao) ∧ post r u_efln u_eftk u_egln u_egtk u_etb u_ao) 0 0 (some .int) := hR
  unfold P_X8_nearest at h
  change G l D E 0 0 _ [(0, .ref (ad b0)), (1, .int x1)] 0 []
  refine g_aload_n 0 0 hC dX8_nearest_0 rfl ?_
  refine g_get 1 0 1 hC inlX8 wq_17 dX8_nearest_1 rfl rfl (by decide) rfl ?_
  refine g_getN 4 1 0 hC inlX7 nq_69 dX8_nearest_4 rfl rfl (by decide) rfl ?_
  refine g_iload_n 7 1 hC dX8_nearest_7 rfl ?_
  refine g_cVNi (As := [.int x1]) (rest := []) 8 2 [2] hC (c_X6_has l D cI cS cT ad (b0 + 4) (12 : Int32) 96 12 x1 nsct _ h) kX6_has nq_242 dX8_nearest_8 rfl rfl ⟨Nat.le_of_ble_eq_true rfl, Nat.le_of_ble_eq_true rfl⟩ rfl rfl (Nat.zero_le _) (Nat.zero_le _) rfl rfl rfl (Nat.le_of_ble_eq_true rfl) ?_
  rintro r1 _ ⟨rfl, h⟩
  refine ⟨Nat.le_of_ble_eq_true rfl, G.upd [0, 1, 3, 4, 5, 6, 7, 8, 9, 10, 11, 12, 13, 14, 15, 16, 17, 18, 19, 20, 21, 22] (Wd_X8_nearest cI cS cT ad b0 nli nsct nstk nsle nye nco eld efln eftk egln egtk etb ao) rfl rfl rfl rfl rfl ?_⟩
  refine g_if_ne 11 16 hC dX8_nearest_11 (by decide) (fun hc => ?_) (fun hc => ?_)
  · replace h := h.1 hc
    refine g_aload_n 16 0 hC dX8_nearest_16 rfl ?_
    refine g_get 17 0 1 hC inlX8 wq_17 dX8_nearest_17 rfl rfl (by decide) rfl ?_
    refine g_aload_n 20 0 hC dX8_nearest_20 rfl ?_
    refine g_get 21 0 7 hC inlX8 wq_38 dX8_nearest_21 rfl rfl (by decide) rfl ?_
    refine g_cVNv (As := [.ref (ad (b0 + 99))]) (rest := []) 24 1 [1, 2, 5, 22] hC (c_X7_sortByAge l D cI cS cT ad (b0 + 3) (b0 + 99) 12 nli nsct nye ao _ h) kX7_sortByAge nq_302 dX8_nearest_24 rfl rfl ⟨Nat.le_of_ble_eq_true rfl, Nat.le_of_ble_eq_true rfl⟩ rfl rfl (Nat.zero_le _) (Nat.zero_le _) rfl rfl rfl (Nat.le_of_ble_eq_true rfl) ?_
    rintro _ ⟨u2, rfl, h⟩
    refine ⟨Nat.le_of_ble_eq_true rfl, G.upd [0, 3, 4, 6, 7, 8, 9, 10, 11, 12, 13, 14, 15, 16, 17, 18, 19, 20, 21] (Wd_X8_nearest cI cS cT ad b0 nli nsct nstk nsle nye nco eld efln eftk egln egtk etb u2) rfl rfl rfl rfl rfl ?_⟩
    refine g_bipush (v := (-4 : Int32)) 27 hC dX8_nearest_27 (by decide) ?_
    refine g_istore_n 29 [(2, .int (-4 : Int32)), (0, .ref (ad b0)), (1, .int x1)] hC dX8_nearest_29 (by rw [hn]; decide) rfl ?_
    refine g_ldc 30 hC dX8_nearest_30 wq_309 ?_
    refine g_istore_n 32 [(3, .int (1000000 : Int32)), (2, .int (-4 : Int32)), (0, .ref (ad b0)), (1, .int x1)] hC dX8_nearest_32 (by rw [hn]; decide) rfl ?_
    refine g_iconst (v := (0 : Int32)) 33 hC dX8_nearest_33 (by decide) ?_
    refine g_istore 34 [(4, .int (0 : Int32)), (3, .int (1000000 : Int32)), (2, .int (-4 : Int32)), (0, .ref (ad b0)), (1, .int x1)] hC dX8_nearest_34 (by rw [hn]; decide) rfl ?_
    obtain ⟨n, h⟩ := h
    refine L_X8_nearest_36 hC hR hn _ (fun w4_10 w3_10 w2_10 efln_10 eftk_10 egln_10 egtk_10 etb_10 h => ?_) n _ _ _ _ _ _ _ _ h
    refine g_iload_n 105 2 hC dX8_nearest_105 rfl ?_
    exact g_iret 106 hC hR dX8_nearest_106 ⟨efln_10, eftk_10, egln_10, egtk_10, etb_10, u2, rfl, h⟩
  · replace h := h.2 hc
    refine g_iconst (v := (-1 : Int32)) 14 hC dX8_nearest_14 (by decide) ?_
    exact g_iret 15 hC hR dX8_nearest_15 ⟨efln, eftk, egln, egtk, etb, ao, rfl, h⟩

/-! ===== ProverbCollection.groupCount()I ===== -/
def Wd_X8_groupCount (cI cS cT : ClassId) (ad : Nat → Nat) (b0 : Nat) (nli : Int32) (nsct : Int32) (nstk : Nat → Int32) (nsle : Nat → Int32) (nye : Nat → Int32) (nco : Nat → Int32) (eld : Int32) (efln : Int32) (eftk : Nat → Int32) (egln : Int32) (egtk : Nat → Int32) (etb : Nat → Nat → Int32) (ggc : Int32) (gor : Nat → Int32) (gme : Nat → Int32) (gce : Nat → Int32) : va_W := [(ad b0, .inr (8, [.ref (ad (b0 + 1)), .ref (ad (b0 + 3)), .ref (ad (b0 + 13)), .ref (ad (b0 + 65)), .ref (ad (b0 + 81)), .ref (ad (b0 + 88)), .ref (ad (b0 + 92)), .ref (ad (b0 + 99))])), (ad (b0 + 3), .inr (7, [.ref (ad (b0 + 4)), .ref (ad (b0 + 7)), .ref (ad (b0 + 8)), .ref (ad (b0 + 9)), .ref (ad (b0 + 12)), .int nli])), (ad (b0 + 4), .inr (6, [.int 12, .ref (ad (b0 + 5)), .ref (ad (b0 + 6)), .int nsct])), (ad (b0 + 5), .inl (cI, 96, .inl nstk)), (ad (b0 + 6), .inl (cI, 12, .inl nsle)), (ad (b0 + 7), .inl (cI, 12, .inl nye)), (ad (b0 + 12), .inl (cI, 4, .inl nco)), (ad (b0 + 65), .inr (1, [.ref (ad (b0 + 66)), .ref (ad (b0 + 68)), .ref (ad (b0 + 70)), .ref (ad (b0 + 80)), .int eld])), (ad (b0 + 66), .inr (5, [.ref (ad (b0 + 67)), .int efln])), (ad (b0 + 67), .inl (cI, 8, .inl eftk)), (ad (b0 + 68), .inr (5, [.ref (ad (b0 + 69)), .int egln])), (ad (b0 + 69), .inl (cI, 8, .inl egtk)), (ad (b0 + 70), .inl (cT, 9, .inr (.inr (.inr (.inr (fun i => if i < 9 then some (ad (b0 + 71 + i)) else none)))))), (ad (b0 + 71 + 0), .inl (cI, 9, .inl (etb 0))), (ad (b0 + 71 + 1), .inl (cI, 9, .inl (etb 1))), (ad (b0 + 71 + 2), .inl (cI, 9, .inl (etb 2))), (ad (b0 + 71 + 3), .inl (cI, 9, .inl (etb 3))), (ad (b0 + 71 + 4), .inl (cI, 9, .inl (etb 4))), (ad (b0 + 71 + 5), .inl (cI, 9, .inl (etb 5))), (ad (b0 + 71 + 6), .inl (cI, 9, .inl (etb 6))), (ad (b0 + 71 + 7), .inl (cI, 9, .inl (etb 7))), (ad (b0 + 71 + 8), .inl (cI, 9, .inl (etb 8))), (ad (b0 + 88), .inr (2, [.ref (ad (b0 + 89)), .ref (ad (b0 + 90)), .ref (ad (b0 + 91)), .int ggc])), (ad (b0 + 89), .inl (cI, 12, .inl gor)), (ad (b0 + 90), .inl (cI, 12, .inl gme)), (ad (b0 + 91), .inl (cI, 12, .inl gce))]
def rm_X8_groupCount : Room := { frames := 6, cells := 0, slots := 0, locals := 145 }
theorem kX8_groupCount : KV yX8_groupCount cX8_groupCount 1 (some .int) 0 := ⟨wq_130, wq_3, wq_128, wq_129, by decide +kernel⟩
def P_X8_groupCount (nli : Int32) (nsct : Int32) (nstk : Nat → Int32) (nsle : Nat → Int32) (nye : Nat → Int32) (nco : Nat → Int32) (eld : Int32) (efln : Int32) (eftk : Nat → Int32) (egln : Int32) (egtk : Nat → Int32) (etb : Nat → Nat → Int32) (ggc : Int32) (gor : Nat → Int32) (gme : Nat → Int32) (gce : Nat → Int32) (post : Int32 → Int32 → (Nat → Int32) → Int32 → (Nat → Int32) → (Nat → Nat → Int32) → Int32 → (Nat → Int32) → (Nat → Int32) → (Nat → Int32) → Prop) : Prop :=
  P_X2_form ggc gor gme gce nli nsct nstk nsle nye nco eld efln eftk egln egtk etb (fun u1 u2 u3 u4 u5 u6 u7 u8 u9 => post u1 u5 u6 u7 u8 u9 u1 u2 u3 u4)
set_option maxHeartbeats 4000000 in
set_option maxRecDepth 100000 in
theorem c_X8_groupCount (l : Launch) (D : va_G) (cI cS cT : ClassId) (ad : Nat → Nat) (b0 : Nat) (nli : Int32) (nsct : Int32) (nstk : Nat → Int32) (nsle : Nat → Int32) (nye : Nat → Int32) (nco : Nat → Int32) (eld : Int32) (efln : Int32) (eftk : Nat → Int32) (egln : Int32) (egtk : Nat → Int32) (etb : Nat → Nat → Int32) (ggc : Int32) (gor : Nat → Int32) (gme : Nat → Int32) (gce : Nat → Int32) (post : Int32 → Int32 → (Nat → Int32) → Int32 → (Nat → Int32) → (Nat → Nat → Int32) → Int32 → (Nat → Int32) → (Nat → Int32) → (Nat → Int32) → Prop) (h : P_X8_groupCount nli nsct nstk nsle nye nco eld efln eftk egln egtk etb ggc gor gme gce post) : MI l D (TY cI cS cT) yX8_groupCount cX8_groupCount 1 (some .int) rm_X8_groupCount [.ref (ad b0)] (Wd_X8_groupCount cI cS cT ad b0 nli nsct nstk nsle nye nco eld efln eftk egln egtk etb ggc gor gme gce) (fun (r : Int32) w => ∃ (u_efln : Int32) (u_eftk : Nat → Int32) (u_egln : Int32) (u_egtk : Nat → Int32) (u_etb : Nat → Nat → Int32) (u_ggc : Int32) (u_gor : Nat → Int32) (u_gme : Nat → Int32) (u_gce : Nat → Int32), w = (Wd_X8_groupCount cI cS cT ad b0 nli nsct nstk nsle nye nco eld u_efln u_eftk u_egln u_egtk u_etb u_ggc u_gor u_gme u_gce) ∧ post r u_efln u_eftk u_egln u_egtk u_etb u_ggc u_gor u_gme u_gce) := by
  refine MI.of (by decide) (Nat.le_of_ble_eq_true rfl) (fun E hC hR hn => ?_)
  replace hC : Cx l D (TY cI cS cT) E rm_X8_groupCount cX8_groupCount RX8 := hC
  replace hR : RetI D E (fun (r : Int32) w => ∃ (u_efln : Int32) (u_eftk : Nat → Int32) (u_egln : Int32) (u_egtk : Nat → Int32) (u_etb : Nat → Nat → Int32) (u_ggc : Int32) (u_gor : Nat → Int32) (u_gme : Nat → Int32) (u_gce : Nat → Int32), w = (Wd_X8_groupCount cI cS cT ad b0 nli nsct nstk nsle nye nco eld u_efln u_eftk u_egln u_egtk u_etb u_ggc u_gor u_gme u_gce) ∧ post r u_efln u_eftk u_egln u_egtk u_etb u_ggc u_gor u_gme u_gce) 0 0 (some .int) := hR
  unfold P_X8_groupCount at h
  change G l D E 0 0 _ [(0, .ref (ad b0))] 0 []
  refine g_aload_n 0 0 hC dX8_groupCount_0 rfl ?_
  refine g_get 1 0 5 hC inlX8 wq_33 dX8_groupCount_1 rfl rfl (by decide) rfl ?_
  refine g_aload_n 4 0 hC dX8_groupCount_4 rfl ?_
  refine g_get 5 0 1 hC inlX8 wq_17 dX8_groupCount_5 rfl rfl (by decide) rfl ?_
  refine g_aload_n 8 0 hC dX8_groupCount_8 rfl ?_
  refine g_get 9 0 3 hC inlX8 wq_25 dX8_groupCount_9 rfl rfl (by decide) rfl ?_
  refine g_cVNv (As := [.ref (ad (b0 + 3)), .ref (ad (b0 + 65))]) (rest := []) 12 22 [22, 23, 24, 25, 1, 2, 3, 4, 5, 6, 7, 8, 9, 10, 11, 12, 13, 14, 15, 16, 17, 18, 19, 20, 21] hC (c_X2_form l D cI cS cT ad (b0 + 88) (b0 + 3) (b0 + 65) ggc gor gme gce nli nsct nstk nsle nye nco eld efln eftk egln egtk etb _ h) kX2_form nq_368 dX8_groupCount_12 rfl rfl ⟨Nat.le_of_ble_eq_true rfl, Nat.le_of_ble_eq_true rfl⟩ rfl rfl (Nat.zero_le _) (Nat.zero_le _) rfl rfl rfl (Nat.le_of_ble_eq_true rfl) ?_
  rintro _ ⟨u1, u2, u3, u4, u5, u6, u7, u8, u9, rfl, h⟩
  refine ⟨Nat.le_of_ble_eq_true rfl, G.upd [0] (Wd_X8_groupCount cI cS cT ad b0 nli nsct nstk nsle nye nco eld u5 u6 u7 u8 u9 u1 u2 u3 u4) rfl rfl rfl rfl rfl ?_⟩
  refine g_aload_n 15 0 hC dX8_groupCount_15 rfl ?_
  refine g_get 16 0 5 hC inlX8 wq_33 dX8_groupCount_16 rfl rfl (by decide) rfl ?_
  refine g_getN 19 22 3 hC inlX2 nq_174 dX8_groupCount_19 rfl rfl (by decide) rfl ?_
  exact g_iret 22 hC hR dX8_groupCount_22 ⟨u5, u6, u7, u8, u9, u1, u2, u3, u4, rfl, h⟩

/-! ===== ProverbCollection.groupOf(I)I ===== -/
def Wd_X8_groupOf (cI cS cT : ClassId) (ad : Nat → Nat) (b0 : Nat) (nli : Int32) (nsct : Int32) (nstk : Nat → Int32) (nsle : Nat → Int32) (nye : Nat → Int32) (nco : Nat → Int32) (eld : Int32) (efln : Int32) (eftk : Nat → Int32) (egln : Int32) (egtk : Nat → Int32) (etb : Nat → Nat → Int32) (ggc : Int32) (gor : Nat → Int32) (gme : Nat → Int32) (gce : Nat → Int32) : va_W := [(ad b0, .inr (8, [.ref (ad (b0 + 1)), .ref (ad (b0 + 3)), .ref (ad (b0 + 13)), .ref (ad (b0 + 65)), .ref (ad (b0 + 81)), .ref (ad (b0 + 88)), .ref (ad (b0 + 92)), .ref (ad (b0 + 99))])), (ad (b0 + 3), .inr (7, [.ref (ad (b0 + 4)), .ref (ad (b0 + 7)), .ref (ad (b0 + 8)), .ref (ad (b0 + 9)), .ref (ad (b0 + 12)), .int nli])), (ad (b0 + 4), .inr (6, [.int 12, .ref (ad (b0 + 5)), .ref (ad (b0 + 6)), .int nsct])), (ad (b0 + 5), .inl (cI, 96, .inl nstk)), (ad (b0 + 6), .inl (cI, 12, .inl nsle)), (ad (b0 + 7), .inl (cI, 12, .inl nye)), (ad (b0 + 12), .inl (cI, 4, .inl nco)), (ad (b0 + 65), .inr (1, [.ref (ad (b0 + 66)), .ref (ad (b0 + 68)), .ref (ad (b0 + 70)), .ref (ad (b0 + 80)), .int eld])), (ad (b0 + 66), .inr (5, [.ref (ad (b0 + 67)), .int efln])), (ad (b0 + 67), .inl (cI, 8, .inl eftk)), (ad (b0 + 68), .inr (5, [.ref (ad (b0 + 69)), .int egln])), (ad (b0 + 69), .inl (cI, 8, .inl egtk)), (ad (b0 + 70), .inl (cT, 9, .inr (.inr (.inr (.inr (fun i => if i < 9 then some (ad (b0 + 71 + i)) else none)))))), (ad (b0 + 71 + 0), .inl (cI, 9, .inl (etb 0))), (ad (b0 + 71 + 1), .inl (cI, 9, .inl (etb 1))), (ad (b0 + 71 + 2), .inl (cI, 9, .inl (etb 2))), (ad (b0 + 71 + 3), .inl (cI, 9, .inl (etb 3))), (ad (b0 + 71 + 4), .inl (cI, 9, .inl (etb 4))), (ad (b0 + 71 + 5), .inl (cI, 9, .inl (etb 5))), (ad (b0 + 71 + 6), .inl (cI, 9, .inl (etb 6))), (ad (b0 + 71 + 7), .inl (cI, 9, .inl (etb 7))), (ad (b0 + 71 + 8), .inl (cI, 9, .inl (etb 8))), (ad (b0 + 88), .inr (2, [.ref (ad (b0 + 89)), .ref (ad (b0 + 90)), .ref (ad (b0 + 91)), .int ggc])), (ad (b0 + 89), .inl (cI, 12, .inl gor)), (ad (b0 + 90), .inl (cI, 12, .inl gme)), (ad (b0 + 91), .inl (cI, 12, .inl gce))]
def rm_X8_groupOf : Room := { frames := 6, cells := 0, slots := 0, locals := 145 }
theorem kX8_groupOf : KV yX8_groupOf cX8_groupOf 2 (some .int) 1 := ⟨wq_345, wq_3, wq_343, wq_344, by decide +kernel⟩
def P_X8_groupOf (x1 : Int32) (nli : Int32) (nsct : Int32) (nstk : Nat → Int32) (nsle : Nat → Int32) (nye : Nat → Int32) (nco : Nat → Int32) (eld : Int32) (efln : Int32) (eftk : Nat → Int32) (egln : Int32) (egtk : Nat → Int32) (etb : Nat → Nat → Int32) (ggc : Int32) (gor : Nat → Int32) (gme : Nat → Int32) (gce : Nat → Int32) (post : Int32 → Int32 → (Nat → Int32) → Int32 → (Nat → Int32) → (Nat → Nat → Int32) → Int32 → (Nat → Int32) → (Nat → Int32) → (Nat → Int32) → Prop) : Prop :=
  P_X6_has (12 : Int32) 96 12 x1 nsct (fun r1 => (¬ r1 = 0 → (P_X2_form ggc gor gme gce nli nsct nstk nsle nye nco eld efln eftk egln egtk etb (fun u2 u3 u4 u5 u6 u7 u8 u9 u10 => vp_in x1 12 ∧ (post (u4 (Int32.toNatClampNeg x1)) u6 u7 u8 u9 u10 u2 u3 u4 u5)))) ∧ (r1 = 0 → post (-1 : Int32) efln eftk egln egtk etb ggc gor gme gce))
set_option maxHeartbeats 4000000 in
set_option maxRecDepth 100000 in
theorem c_X8_groupOf (l : Launch) (D : va_G) (cI cS cT : ClassId) (ad : Nat → Nat) (b0 : Nat) (x1 : Int32) (nli : Int32) (nsct : Int32) (nstk : Nat → Int32) (nsle : Nat → Int32) (nye : Nat → Int32) (nco : Nat → Int32) (eld : Int32) (efln : Int32) (eftk : Nat → Int32) (egln : Int32) (egtk : Nat → Int32) (etb : Nat → Nat → Int32) (ggc : Int32) (gor : Nat → Int32) (gme : Nat → Int32) (gce : Nat → Int32) (post : Int32 → Int32 → (Nat → Int32) → Int32 → (Nat → Int32) → (Nat → Nat → Int32) → Int32 → (Nat → Int32) → (Nat → Int32) → (Nat → Int32) → Prop) (h : P_X8_groupOf x1 nli nsct nstk nsle nye nco eld efln eftk egln egtk etb ggc gor gme gce post) : MI l D (TY cI cS cT) yX8_groupOf cX8_groupOf 2 (some .int) rm_X8_groupOf [.ref (ad b0), .int x1] (Wd_X8_groupOf cI cS cT ad b0 nli nsct nstk nsle nye nco eld efln eftk egln egtk etb ggc gor gme gce) (fun (r : Int32) w => ∃ (u_efln : Int32) (u_eftk : Nat → Int32) (u_egln : Int32) (u_egtk : Nat → Int32) (u_etb : Nat → Nat → Int32) (u_ggc : Int32) (u_gor : Nat → Int32) (u_gme : Nat → Int32) (u_gce : Nat → Int32), w = (Wd_X8_groupOf cI cS cT ad b0 nli nsct nstk nsle nye nco eld u_efln u_eftk u_egln u_egtk u_etb u_ggc u_gor u_gme u_gce) ∧ post r u_efln u_eftk u_egln u_egtk u_etb u_ggc u_gor u_gme u_gce) := by
  refine MI.of (by decide) (Nat.le_of_ble_eq_true rfl) (fun E hC hR hn => ?_)
  replace hC : Cx l D (TY cI cS cT) E rm_X8_groupOf cX8_groupOf RX8 := hC
  replace hR : RetI D E (fun (r : Int32) w => ∃ (u_efln : Int32) (u_eftk : Nat → Int32) (u_egln : Int32) (u_egtk : Nat → Int32) (u_etb : Nat → Nat → Int32) (u_ggc : Int32) (u_gor : Nat → Int32) (u_gme : Nat → Int32) (u_gce : Nat → Int32), w = (Wd_X8_groupOf cI cS cT ad b0 nli nsct nstk nsle nye nco eld u_efln u_eftk u_egln u_egtk u_etb u_ggc u_gor u_gme u_gce) ∧ post r u_efln u_eftk u_egln u_egtk u_etb u_ggc u_gor u_gme u_gce) 0 0 (some .int) := hR
  unfold P_X8_groupOf at h
  change G l D E 0 0 _ [(0, .ref (ad b0)), (1, .int x1)] 0 []
  refine g_aload_n 0 0 hC dX8_groupOf_0 rfl ?_
  refine g_get 1 0 1 hC inlX8 wq_17 dX8_groupOf_1 rfl rfl (by decide) rfl ?_
  refine g_getN 4 1 0 hC inlX7 nq_69 dX8_groupOf_4 rfl rfl (by decide) rfl ?_
  refine g_iload_n 7 1 hC dX8_groupOf_7 rfl ?_
  refine g_cVNi (As := [.int x1]) (rest := []) 8 2 [2] hC (c_X6_has l D cI cS cT ad (b0 + 4) (12 : Int32) 96 12 x1 nsct _ h) kX6_has nq_242 dX8_groupOf_8 rfl rfl ⟨Nat.le_of_ble_eq_true rfl, Nat.le_of_ble_eq_true rfl⟩ rfl rfl (Nat.zero_le _) (Nat.zero_le _) rfl rfl rfl (Nat.le_of_ble_eq_true rfl) ?_
  rintro r1 _ ⟨rfl, h⟩
  refine ⟨Nat.le_of_ble_eq_true rfl, G.upd [0, 1, 3, 4, 5, 6, 7, 8, 9, 10, 11, 12, 13, 14, 15, 16, 17, 18, 19, 20, 21, 22, 23, 24, 25] (Wd_X8_groupOf cI cS cT ad b0 nli nsct nstk nsle nye nco eld efln eftk egln egtk etb ggc gor gme gce) rfl rfl rfl rfl rfl ?_⟩
  refine g_if_ne 11 16 hC dX8_groupOf_11 (by decide) (fun hc => ?_) (fun hc => ?_)
  · replace h := h.1 hc
    refine g_aload_n 16 0 hC dX8_groupOf_16 rfl ?_
    refine g_get 17 0 5 hC inlX8 wq_33 dX8_groupOf_17 rfl rfl (by decide) rfl ?_
    refine g_aload_n 20 0 hC dX8_groupOf_20 rfl ?_
    refine g_get 21 0 1 hC inlX8 wq_17 dX8_groupOf_21 rfl rfl (by decide) rfl ?_
    refine g_aload_n 24 0 hC dX8_groupOf_24 rfl ?_
    refine g_get 25 0 3 hC inlX8 wq_25 dX8_groupOf_25 rfl rfl (by decide) rfl ?_
    refine g_cVNv (As := [.ref (ad (b0 + 3)), .ref (ad (b0 + 65))]) (rest := []) 28 22 [22, 23, 24, 25, 1, 2, 3, 4, 5, 6, 7, 8, 9, 10, 11, 12, 13, 14, 15, 16, 17, 18, 19, 20, 21] hC (c_X2_form l D cI cS cT ad (b0 + 88) (b0 + 3) (b0 + 65) ggc gor gme gce nli nsct nstk nsle nye nco eld efln eftk egln egtk etb _ h) kX2_form nq_368 dX8_groupOf_28 rfl rfl ⟨Nat.le_of_ble_eq_true rfl, Nat.le_of_ble_eq_true rfl⟩ rfl rfl (Nat.zero_le _) (Nat.zero_le _) rfl rfl rfl (Nat.le_of_ble_eq_true rfl) ?_
    rintro _ ⟨u2, u3, u4, u5, u6, u7, u8, u9, u10, rfl, h⟩
    refine ⟨Nat.le_of_ble_eq_true rfl, G.upd [0] (Wd_X8_groupOf cI cS cT ad b0 nli nsct nstk nsle nye nco eld u6 u7 u8 u9 u10 u2 u3 u4 u5) rfl rfl rfl rfl rfl ?_⟩
    refine g_aload_n 31 0 hC dX8_groupOf_31 rfl ?_
    refine g_get 32 0 5 hC inlX8 wq_33 dX8_groupOf_32 rfl rfl (by decide) rfl ?_
    refine g_getN 35 22 1 hC inlX2 nq_171 dX8_groupOf_35 rfl rfl (by decide) rfl ?_
    refine g_iload_n 38 1 hC dX8_groupOf_38 rfl ?_
    obtain ⟨hj, h⟩ := h
    refine g_iald 39 24 hC dX8_groupOf_39 rfl rfl hj ?_
    exact g_iret 40 hC hR dX8_groupOf_40 ⟨u6, u7, u8, u9, u10, u2, u3, u4, u5, rfl, h⟩
  · replace h := h.2 hc
    refine g_iconst (v := (-1 : Int32)) 14 hC dX8_groupOf_14 (by decide) ?_
    exact g_iret 15 hC hR dX8_groupOf_15 ⟨efln, eftk, egln, egtk, etb, ggc, gor, gme, gce, rfl, h⟩

/-! ===== ProverbCollection.centreOf(I)I ===== -/
def Wd_X8_centreOf (cI cS cT : ClassId) (ad : Nat → Nat) (b0 : Nat) (nli : Int32) (nsct : Int32) (nstk : Nat → Int32) (nsle : Nat → Int32) (nye : Nat → Int32) (nco : Nat → Int32) (eld : Int32) (efln : Int32) (eftk : Nat → Int32) (egln : Int32) (egtk : Nat → Int32) (etb : Nat → Nat → Int32) (ggc : Int32) (gor : Nat → Int32) (gme : Nat → Int32) (gce : Nat → Int32) : va_W := [(ad b0, .inr (8, [.ref (ad (b0 + 1)), .ref (ad (b0 + 3)), .ref (ad (b0 + 13)), .ref (ad (b0 + 65)), .ref (ad (b0 + 81)), .ref (ad (b0 + 88)), .ref (ad (b0 + 92)), .ref (ad (b0 + 99))])), (ad (b0 + 3), .inr (7, [.ref (ad (b0 + 4)), .ref (ad (b0 + 7)), .ref (ad (b0 + 8)), .ref (ad (b0 + 9)), .ref (ad (b0 + 12)), .int nli])), (ad (b0 + 4), .inr (6, [.int 12, .ref (ad (b0 + 5)), .ref (ad (b0 + 6)), .int nsct])), (ad (b0 + 5), .inl (cI, 96, .inl nstk)), (ad (b0 + 6), .inl (cI, 12, .inl nsle)), (ad (b0 + 7), .inl (cI, 12, .inl nye)), (ad (b0 + 12), .inl (cI, 4, .inl nco)), (ad (b0 + 65), .inr (1, [.ref (ad (b0 + 66)), .ref (ad (b0 + 68)), .ref (ad (b0 + 70)), .ref (ad (b0 + 80)), .int eld])), (ad (b0 + 66), .inr (5, [.ref (ad (b0 + 67)), .int efln])), (ad (b0 + 67), .inl (cI, 8, .inl eftk)), (ad (b0 + 68), .inr (5, [.ref (ad (b0 + 69)), .int egln])), (ad (b0 + 69), .inl (cI, 8, .inl egtk)), (ad (b0 + 70), .inl (cT, 9, .inr (.inr (.inr (.inr (fun i => if i < 9 then some (ad (b0 + 71 + i)) else none)))))), (ad (b0 + 71 + 0), .inl (cI, 9, .inl (etb 0))), (ad (b0 + 71 + 1), .inl (cI, 9, .inl (etb 1))), (ad (b0 + 71 + 2), .inl (cI, 9, .inl (etb 2))), (ad (b0 + 71 + 3), .inl (cI, 9, .inl (etb 3))), (ad (b0 + 71 + 4), .inl (cI, 9, .inl (etb 4))), (ad (b0 + 71 + 5), .inl (cI, 9, .inl (etb 5))), (ad (b0 + 71 + 6), .inl (cI, 9, .inl (etb 6))), (ad (b0 + 71 + 7), .inl (cI, 9, .inl (etb 7))), (ad (b0 + 71 + 8), .inl (cI, 9, .inl (etb 8))), (ad (b0 + 88), .inr (2, [.ref (ad (b0 + 89)), .ref (ad (b0 + 90)), .ref (ad (b0 + 91)), .int ggc])), (ad (b0 + 89), .inl (cI, 12, .inl gor)), (ad (b0 + 90), .inl (cI, 12, .inl gme)), (ad (b0 + 91), .inl (cI, 12, .inl gce))]
def rm_X8_centreOf : Room := { frames := 6, cells := 0, slots := 0, locals := 145 }
theorem kX8_centreOf : KV yX8_centreOf cX8_centreOf 2 (some .int) 1 := ⟨wq_316, wq_3, wq_314, wq_315, by decide +kernel⟩
def P_X8_centreOf (x1 : Int32) (nli : Int32) (nsct : Int32) (nstk : Nat → Int32) (nsle : Nat → Int32) (nye : Nat → Int32) (nco : Nat → Int32) (eld : Int32) (efln : Int32) (eftk : Nat → Int32) (egln : Int32) (egtk : Nat → Int32) (etb : Nat → Nat → Int32) (ggc : Int32) (gor : Nat → Int32) (gme : Nat → Int32) (gce : Nat → Int32) (post : Int32 → Int32 → (Nat → Int32) → Int32 → (Nat → Int32) → (Nat → Nat → Int32) → Int32 → (Nat → Int32) → (Nat → Int32) → (Nat → Int32) → Prop) : Prop :=
  (0 ≤ x1 → P_X2_form ggc gor gme gce nli nsct nstk nsle nye nco eld efln eftk egln egtk etb (fun u1 u2 u3 u4 u5 u6 u7 u8 u9 => P_X2_centre x1 u1 u4 (fun r11 => post r11 u5 u6 u7 u8 u9 u1 u2 u3 u4))) ∧ (¬ 0 ≤ x1 → post (-1 : Int32) efln eftk egln egtk etb ggc gor gme gce)
set_option maxHeartbeats 4000000 in
set_option maxRecDepth 100000 in
theorem c_X8_centreOf (l : Launch) (D : va_G) (cI cS cT : ClassId) (ad : Nat → Nat) (b0 : Nat) (x1 : Int32) (nli : Int32) (nsct : Int32) (nstk : Nat → Int32) (nsle : Nat → Int32) (nye : Nat → Int32) (nco : Nat → Int32) (eld : Int32) (efln : Int32) (eftk : Nat → Int32) (egln : Int32) (egtk : Nat → Int32) (etb : Nat → Nat → Int32) (ggc : Int32) (gor : Nat → Int32) (gme : Nat → Int32) (gce : Nat → Int32) (post : Int32 → Int32 → (Nat → Int32) → Int32 → (Nat → Int32) → (Nat → Nat → Int32) → Int32 → (Nat → Int32) → (Nat → Int32) → (Nat → Int32) → Prop) (h : P_X8_centreOf x1 nli nsct nstk nsle nye nco eld efln eftk egln egtk etb ggc gor gme gce post) : MI l D (TY cI cS cT) yX8_centreOf cX8_centreOf 2 (some .int) rm_X8_centreOf [.ref (ad b0), .int x1] (Wd_X8_centreOf cI cS cT ad b0 nli nsct nstk nsle nye nco eld efln eftk egln egtk etb ggc gor gme gce) (fun (r : Int32) w => ∃ (u_efln : Int32) (u_eftk : Nat → Int32) (u_egln : Int32) (u_egtk : Nat → Int32) (u_etb : Nat → Nat → Int32) (u_ggc : Int32) (u_gor : Nat → Int32) (u_gme : Nat → Int32) (u_gce : Nat → Int32), w = (Wd_X8_centreOf cI cS cT ad b0 nli nsct nstk nsle nye nco eld u_efln u_eftk u_egln u_egtk u_etb u_ggc u_gor u_gme u_gce) ∧ post r u_efln u_eftk u_egln u_egtk u_etb u_ggc u_gor u_gme u_gce) := by
  refine MI.of (by decide) (Nat.le_of_ble_eq_true rfl) (fun E hC hR hn => ?_)
  replace hC : Cx l D (TY cI cS cT) E rm_X8_centreOf cX8_centreOf RX8 := hC
  replace hR : RetI D E (fun (r : Int32) w => ∃ (u_efln : Int32) (u_eftk : Nat → Int32) (u_egln : Int32) (u_egtk : Nat → Int32) (u_etb : Nat → Nat → Int32) (u_ggc : Int32) (u_gor : Nat → Int32) (u_gme : Nat → Int32) (u_gce : Nat → Int32), w = (Wd_X8_centreOf cI cS cT ad b0 nli nsct nstk nsle nye nco eld u_efln u_eftk u_egln u_egtk u_etb u_ggc u_gor u_gme u_gce) ∧ post r u_efln u_eftk u_egln u_egtk u_etb u_ggc u_gor u_gme u_gce) 0 0 (some .int) := hR
  unfold P_X8_centreOf at h
  change G l D E 0 0 _ [(0, .ref (ad b0)), (1, .int x1)] 0 []
  refine g_iload_n 0 1 hC dX8_centreOf_0 rfl ?_
  refine g_if_ge 1 6 hC dX8_centreOf_1 (by decide) (fun hc => ?_) (fun hc => ?_)
  · replace h := h.1 hc
    refine g_aload_n 6 0 hC dX8_centreOf_6 rfl ?_
    refine g_get 7 0 5 hC inlX8 wq_33 dX8_centreOf_7 rfl rfl (by decide) rfl ?_
    refine g_aload_n 10 0 hC dX8_centreOf_10 rfl ?_
    refine g_get 11 0 1 hC inlX8 wq_17 dX8_centreOf_11 rfl rfl (by decide) rfl ?_
    refine g_aload_n 14 0 hC dX8_centreOf_14 rfl ?_
    refine g_get 15 0 3 hC inlX8 wq_25 dX8_centreOf_15 rfl rfl (by decide) rfl ?_
    refine g_cVNv (As := [.ref (ad (b0 + 3)), .ref (ad (b0 + 65))]) (rest := []) 18 22 [22, 23, 24, 25, 1, 2, 3, 4, 5, 6, 7, 8, 9, 10, 11, 12, 13, 14, 15, 16, 17, 18, 19, 20, 21] hC (c_X2_form l D cI cS cT ad (b0 + 88) (b0 + 3) (b0 + 65) ggc gor gme gce nli nsct nstk nsle nye nco eld efln eftk egln egtk etb _ h) kX2_form nq_368 dX8_centreOf_18 rfl rfl ⟨Nat.le_of_ble_eq_true rfl, Nat.le_of_ble_eq_true rfl⟩ rfl rfl (Nat.zero_le _) (Nat.zero_le _) rfl rfl rfl (Nat.le_of_ble_eq_true rfl) ?_
    rintro _ ⟨u1, u2, u3, u4, u5, u6, u7, u8, u9, rfl, h⟩
    refine ⟨Nat.le_of_ble_eq_true rfl, G.upd [0] (Wd_X8_centreOf cI cS cT ad b0 nli nsct nstk nsle nye nco eld u5 u6 u7 u8 u9 u1 u2 u3 u4) rfl rfl rfl rfl rfl ?_⟩
    refine g_aload_n 21 0 hC dX8_centreOf_21 rfl ?_
    refine g_get 22 0 5 hC inlX8 wq_33 dX8_centreOf_22 rfl rfl (by decide) rfl ?_
    refine g_iload_n 25 1 hC dX8_centreOf_25 rfl ?_
    refine g_cVNi (As := [.int x1]) (rest := []) 26 22 [22, 25] hC (c_X2_centre l D cI cS cT ad (b0 + 88) x1 u1 u4 _ h) kX2_centre nq_472 dX8_centreOf_26 rfl rfl ⟨Nat.le_of_ble_eq_true rfl, Nat.le_of_ble_eq_true rfl⟩ rfl rfl (Nat.zero_le _) (Nat.zero_le _) rfl rfl rfl (Nat.le_of_ble_eq_true rfl) ?_
    rintro r11 _ ⟨rfl, h⟩
    refine ⟨Nat.le_of_ble_eq_true rfl, G.upd [0, 1, 2, 3, 4, 5, 6, 7, 8, 9, 10, 11, 12, 13, 14, 15, 16, 17, 18, 19, 20, 21, 23, 24] (Wd_X8_centreOf cI cS cT ad b0 nli nsct nstk nsle nye nco eld u5 u6 u7 u8 u9 u1 u2 u3 u4) rfl rfl rfl rfl rfl ?_⟩
    exact g_iret 29 hC hR dX8_centreOf_29 ⟨u5, u6, u7, u8, u9, u1, u2, u3, u4, rfl, h⟩
  · replace h := h.2 hc
    refine g_iconst (v := (-1 : Int32)) 4 hC dX8_centreOf_4 (by decide) ?_
    exact g_iret 5 hC hR dX8_centreOf_5 ⟨efln, eftk, egln, egtk, etb, ggc, gor, gme, gce, rfl, h⟩

/-! ===== ProverbCollection.groupInfo(II)I ===== -/
def Wd_X8_groupInfo (cI cS cT : ClassId) (ad : Nat → Nat) (b0 : Nat) (nli : Int32) (nsct : Int32) (nstk : Nat → Int32) (nsle : Nat → Int32) (nye : Nat → Int32) (nre : Nat → Int32) (nco : Nat → Int32) (eld : Int32) (efln : Int32) (eftk : Nat → Int32) (egln : Int32) (egtk : Nat → Int32) (etb : Nat → Nat → Int32) (ggc : Int32) (gor : Nat → Int32) (gme : Nat → Int32) (gce : Nat → Int32) : va_W := [(ad b0, .inr (8, [.ref (ad (b0 + 1)), .ref (ad (b0 + 3)), .ref (ad (b0 + 13)), .ref (ad (b0 + 65)), .ref (ad (b0 + 81)), .ref (ad (b0 + 88)), .ref (ad (b0 + 92)), .ref (ad (b0 + 99))])), (ad (b0 + 3), .inr (7, [.ref (ad (b0 + 4)), .ref (ad (b0 + 7)), .ref (ad (b0 + 8)), .ref (ad (b0 + 9)), .ref (ad (b0 + 12)), .int nli])), (ad (b0 + 4), .inr (6, [.int 12, .ref (ad (b0 + 5)), .ref (ad (b0 + 6)), .int nsct])), (ad (b0 + 5), .inl (cI, 96, .inl nstk)), (ad (b0 + 6), .inl (cI, 12, .inl nsle)), (ad (b0 + 7), .inl (cI, 12, .inl nye)), (ad (b0 + 8), .inl (cI, 12, .inl nre)), (ad (b0 + 12), .inl (cI, 4, .inl nco)), (ad (b0 + 65), .inr (1, [.ref (ad (b0 + 66)), .ref (ad (b0 + 68)), .ref (ad (b0 + 70)), .ref (ad (b0 + 80)), .int eld])), (ad (b0 + 66), .inr (5, [.ref (ad (b0 + 67)), .int efln])), (ad (b0 + 67), .inl (cI, 8, .inl eftk)), (ad (b0 + 68), .inr (5, [.ref (ad (b0 + 69)), .int egln])), (ad (b0 + 69), .inl (cI, 8, .inl egtk)), (ad (b0 + 70), .inl (cT, 9, .inr (.inr (.inr (.inr (fun i => if i < 9 then some (ad (b0 + 71 + i)) else none)))))), (ad (b0 + 71 + 0), .inl (cI, 9, .inl (etb 0))), (ad (b0 + 71 + 1), .inl (cI, 9, .inl (etb 1))), (ad (b0 + 71 + 2), .inl (cI, 9, .inl (etb 2))), (ad (b0 + 71 + 3), .inl (cI, 9, .inl (etb 3))), (ad (b0 + 71 + 4), .inl (cI, 9, .inl (etb 4))), (ad (b0 + 71 + 5), .inl (cI, 9, .inl (etb 5))), (ad (b0 + 71 + 6), .inl (cI, 9, .inl (etb 6))), (ad (b0 + 71 + 7), .inl (cI, 9, .inl (etb 7))), (ad (b0 + 71 + 8), .inl (cI, 9, .inl (etb 8))), (ad (b0 + 88), .inr (2, [.ref (ad (b0 + 89)), .ref (ad (b0 + 90)), .ref (ad (b0 + 91)), .int ggc])), (ad (b0 + 89), .inl (cI, 12, .inl gor)), (ad (b0 + 90), .inl (cI, 12, .inl gme)), (ad (b0 + 91), .inl (cI, 12, .inl gce))]
def rm_X8_groupInfo : Room := { frames := 6, cells := 0, slots := 0, locals := 145 }
theorem kX8_groupInfo : KV yX8_groupInfo cX8_groupInfo 3 (some .int) 2 := ⟨wq_323, wq_3, wq_321, wq_322, by decide +kernel⟩
def P_X8_groupInfo (x1 : Int32) (x2 : Int32) (nli : Int32) (nsct : Int32) (nstk : Nat → Int32) (nsle : Nat → Int32) (nye : Nat → Int32) (nre : Nat → Int32) (nco : Nat → Int32) (eld : Int32) (efln : Int32) (eftk : Nat → Int32) (egln : Int32) (egtk : Nat → Int32) (etb : Nat → Nat → Int32) (ggc : Int32) (gor : Nat → Int32) (gme : Nat → Int32) (gce : Nat → Int32) (post : Int32 → Int32 → (Nat → Int32) → Int32 → (Nat → Int32) → (Nat → Nat → Int32) → Int32 → (Nat → Int32) → (Nat → Int32) → (Nat → Int32) → Prop) : Prop :=
  (x1 < 0 → post (-1 : Int32) efln eftk egln egtk etb ggc gor gme gce) ∧ (¬ x1 < 0 → ((x2 < 0 → post (-1 : Int32) efln eftk egln egtk etb ggc gor gme gce) ∧ (¬ x2 < 0 → ((x2 ≤ (2 : Int32) → (P_X2_form ggc gor gme gce nli nsct nstk nsle nye nco eld efln eftk egln egtk etb (fun u1 u2 u3 u4 u5 u6 u7 u8 u9 => (x1 < u1 → ((¬ x2 = 0 → ((¬ x2 = (1 : Int32) → P_X2_radius x1 u1 u3 u4 nli nsct nstk nsle nco eld u5 u6 u7 u8 u9 (fun r16 u11 u12 u13 u14 u15 => post r16 u11 u12 u13 u14 u15 u1 u2 u3 u4)) ∧ (x2 = (1 : Int32) → P_X2_regions x1 u1 u3 nli nsct nre (fun r17 => post r17 u5 u6 u7 u8 u9 u1 u2 u3 u4)))) ∧ (x2 = 0 → P_X2_members x1 u1 u3 nli nsct (fun r18 => post r18 u5 u6 u7 u8 u9 u1 u2 u3 u4)))) ∧ (¬ x1 < u1 → post (-4 : Int32) u5 u6 u7 u8 u9 u1 u2 u3 u4)))) ∧ (¬ x2 ≤ (2 : Int32) → post (-1 : Int32) efln eftk egln egtk etb ggc gor gme gce)))))
set_option maxHeartbeats 4000000 in
set_option maxRecDepth 100000 in
theorem c_X8_groupInfo (l : Launch) (D : va_G) (cI cS cT : ClassId) (ad : Nat → Nat) (b0 : Nat) (x1 : Int32) (x2 : Int32) (nli : Int32) (nsct : Int32) (nstk : Nat → Int32) (nsle : Nat → Int32) (nye : Nat → Int32) (nre : Nat → Int32) (nco : Nat → Int32) (eld : Int32) (efln : Int32) (eftk : Nat → Int32) (egln : Int32) (egtk : Nat → Int32) (etb : Nat → Nat → Int32) (ggc : Int32) (gor : Nat → Int32) (gme : Nat → Int32) (gce : Nat → Int32) (post : Int32 → Int32 → (Nat → Int32) → Int32 → (Nat → Int32) → (Nat → Nat → Int32) → Int32 → (Nat → Int32) → (Nat → Int32) → (Nat → Int32) → Prop) (h : P_X8_groupInfo x1 x2 nli nsct nstk nsle nye nre nco eld efln eftk egln egtk etb ggc gor gme gce post) : MI l D (TY cI cS cT) yX8_groupInfo cX8_groupInfo 3 (some .int) rm_X8_groupInfo [.ref (ad b0), .int x1, .int x2] (Wd_X8_groupInfo cI cS cT ad b0 nli nsct nstk nsle nye nre nco eld efln eftk egln egtk etb ggc gor gme gce) (fun (r : Int32) w => ∃ (u_efln : Int32) (u_eftk : Nat → Int32) (u_egln : Int32) (u_egtk : Nat → Int32) (u_etb : Nat → Nat → Int32) (u_ggc : Int32) (u_gor : Nat → Int32) (u_gme : Nat → Int32) (u_gce : Nat → Int32), w = (Wd_X8_groupInfo cI cS cT ad b0 nli nsct nstk nsle nye nre nco eld u_efln u_eftk u_egln u_egtk u_etb u_ggc u_gor u_gme u_gce) ∧ post r u_efln u_eftk u_egln u_egtk u_etb u_ggc u_gor u_gme u_gce) := by
  refine MI.of (by decide) (Nat.le_of_ble_eq_true rfl) (fun E hC hR hn => ?_)
  replace hC : Cx l D (TY cI cS cT) E rm_X8_groupInfo cX8_groupInfo RX8 := hC
  replace hR : RetI D E (fun (r : Int32) w => ∃ (u_efln : Int32) (u_eftk : Nat → Int32) (u_egln : Int32) (u_egtk : Nat → Int32) (u_etb : Nat → Nat → Int32) (u_ggc : Int32) (u_gor : Nat → Int32) (u_gme : Nat → Int32) (u_gce : Nat → Int32), w = (Wd_X8_groupInfo cI cS cT ad b0 nli nsct nstk nsle nye nre nco eld u_efln u_eftk u_egln u_egtk u_etb u_ggc u_gor u_gme u_gce) ∧ post r u_efln u_eftk u_egln u_egtk u_etb u_ggc u_gor u_gme u_gce) 0 0 (some .int) := hR
  unfold P_X8_groupInfo at h
  change G l D E 0 0 _ [(0, .ref (ad b0)), (1, .int x1), (2, .int x2)] 0 []
  refine g_iload_n 0 1 hC dX8_groupInfo_0 rfl ?_
  refine g_if_lt 1 13 hC dX8_groupInfo_1 (by decide) (fun hc => ?_) (fun hc => ?_)
  · replace h := h.1 hc
    refine g_iconst (v := (-1 : Int32)) 13 hC dX8_groupInfo_13 (by decide) ?_
    exact g_iret 14 hC hR dX8_groupInfo_14 ⟨efln, eftk, egln, egtk, etb, ggc, gor, gme, gce, rfl, h⟩
  · replace h := h.2 hc
    refine g_iload_n 4 2 hC dX8_groupInfo_4 rfl ?_
    refine g_if_lt 5 13 hC dX8_groupInfo_5 (by decide) (fun hc => ?_) (fun hc => ?_)
    · replace h := h.1 hc
      refine g_iconst (v := (-1 : Int32)) 13 hC dX8_groupInfo_13 (by decide) ?_
      exact g_iret 14 hC hR dX8_groupInfo_14 ⟨efln, eftk, egln, egtk, etb, ggc, gor, gme, gce, rfl, h⟩
    · replace h := h.2 hc
      refine g_iload_n 8 2 hC dX8_groupInfo_8 rfl ?_
      refine g_iconst (v := (2 : Int32)) 9 hC dX8_groupInfo_9 (by decide) ?_
      refine g_icmp_le 10 15 hC dX8_groupInfo_10 (by decide) (fun hc => ?_) (fun hc => ?_)
      · replace h := h.1 hc
        refine g_aload_n 15 0 hC dX8_groupInfo_15 rfl ?_
        refine g_get 16 0 5 hC inlX8 wq_33 dX8_groupInfo_16 rfl rfl (by decide) rfl ?_
        refine g_aload_n 19 0 hC dX8_groupInfo_19 rfl ?_
        refine g_get 20 0 1 hC inlX8 wq_17 dX8_groupInfo_20 rfl rfl (by decide) rfl ?_
        refine g_aload_n 23 0 hC dX8_groupInfo_23 rfl ?_
        refine g_get 24 0 3 hC inlX8 wq_25 dX8_groupInfo_24 rfl rfl (by decide) rfl ?_
        refine g_cVNv (As := [.ref (ad (b0 + 3)), .ref (ad (b0 + 65))]) (rest := []) 27 23 [23, 24, 25, 26, 1, 2, 3, 4, 5, 7, 8, 9, 10, 11, 12, 13, 14, 15, 16, 17, 18, 19, 20, 21, 22] hC (c_X2_form l D cI cS cT ad (b0 + 88) (b0 + 3) (b0 + 65) ggc gor gme gce nli nsct nstk nsle nye nco eld efln eftk egln egtk etb _ h) kX2_form nq_368 dX8_groupInfo_27 rfl rfl ⟨Nat.le_of_ble_eq_true rfl, Nat.le_of_ble_eq_true rfl⟩ rfl rfl (Nat.zero_le _) (Nat.zero_le _) rfl rfl rfl (Nat.le_of_ble_eq_true rfl) ?_
        rintro _ ⟨u1, u2, u3, u4, u5, u6, u7, u8, u9, rfl, h⟩
        refine ⟨Nat.le_of_ble_eq_true rfl, G.upd [0, 6] (Wd_X8_groupInfo cI cS cT ad b0 nli nsct nstk nsle nye nre nco eld u5 u6 u7 u8 u9 u1 u2 u3 u4) rfl rfl rfl rfl rfl ?_⟩
        refine g_iload_n 30 1 hC dX8_groupInfo_30 rfl ?_
        refine g_aload_n 31 0 hC dX8_groupInfo_31 rfl ?_
        refine g_get 32 0 5 hC inlX8 wq_33 dX8_groupInfo_32 rfl rfl (by decide) rfl ?_
        refine g_getN 35 23 3 hC inlX2 nq_174 dX8_groupInfo_35 rfl rfl (by decide) rfl ?_
        refine g_icmp_lt 38 44 hC dX8_groupInfo_38 (by decide) (fun hc => ?_) (fun hc => ?_)
        · replace h := h.1 hc
          refine g_iload_n 44 2 hC dX8_groupInfo_44 rfl ?_
          refine g_if_ne 45 61 hC dX8_groupInfo_45 (by decide) (fun hc => ?_) (fun hc => ?_)
          · replace h := h.1 hc
            refine g_iload_n 61 2 hC dX8_groupInfo_61 rfl ?_
            refine g_iconst (v := (1 : Int32)) 62 hC dX8_groupInfo_62 (by decide) ?_
            refine g_icmp_ne 63 81 hC dX8_groupInfo_63 (by decide) (fun hc => ?_) (fun hc => ?_)
            · replace h := h.1 hc
              refine g_aload_n 81 0 hC dX8_groupInfo_81 rfl ?_
              refine g_get 82 0 5 hC inlX8 wq_33 dX8_groupInfo_82 rfl rfl (by decide) rfl ?_
              refine g_aload_n 85 0 hC dX8_groupInfo_85 rfl ?_
              refine g_get 86 0 1 hC inlX8 wq_17 dX8_groupInfo_86 rfl rfl (by decide) rfl ?_
              refine g_aload_n 89 0 hC dX8_groupInfo_89 rfl ?_
              refine g_get 90 0 3 hC inlX8 wq_25 dX8_groupInfo_90 rfl rfl (by decide) rfl ?_
              refine g_iload_n 93 1 hC dX8_groupInfo_93 rfl ?_
              refine g_cVNi (As := [.ref (ad (b0 + 3)), .ref (ad (b0 + 65)), .int x1]) (rest := []) 94 23 [23, 25, 26, 1, 2, 3, 4, 7, 8, 9, 10, 11, 12, 13, 14, 15, 16, 17, 18, 19, 20, 21, 22] hC (c_X2_radius l D cI cS cT ad (b0 + 88) (b0 + 3) (b0 + 65) x1 u1 u3 u4 nli nsct nstk nsle nco eld u5 u6 u7 u8 u9 _ h) kX2_radius nq_494 dX8_groupInfo_94 rfl rfl ⟨Nat.le_of_ble_eq_true rfl, Nat.le_of_ble_eq_true rfl⟩ rfl rfl (Nat.zero_le _) (Nat.zero_le _) rfl rfl rfl (Nat.le_of_ble_eq_true rfl) ?_
              rintro r16 _ ⟨u11, u12, u13, u14, u15, rfl, h⟩
              refine ⟨Nat.le_of_ble_eq_true rfl, G.upd [0, 5, 6, 24] (Wd_X8_groupInfo cI cS cT ad b0 nli nsct nstk nsle nye nre nco eld u11 u12 u13 u14 u15 u1 u2 u3 u4) rfl rfl rfl rfl rfl ?_⟩
              exact g_iret 97 hC hR dX8_groupInfo_97 ⟨u11, u12, u13, u14, u15, u1, u2, u3, u4, rfl, h⟩
            · replace h := h.2 hc
              refine g_aload_n 66 0 hC dX8_groupInfo_66 rfl ?_
              refine g_get 67 0 5 hC inlX8 wq_33 dX8_groupInfo_67 rfl rfl (by decide) rfl ?_
              refine g_aload_n 70 0 hC dX8_groupInfo_70 rfl ?_
              refine g_get 71 0 1 hC inlX8 wq_17 dX8_groupInfo_71 rfl rfl (by decide) rfl ?_
              refine g_iload_n 74 1 hC dX8_groupInfo_74 rfl ?_
              refine g_cVNi (As := [.ref (ad (b0 + 3)), .int x1]) (rest := []) 75 23 [23, 25, 1, 2, 6] hC (c_X2_regions l D cI cS cT ad (b0 + 88) (b0 + 3) x1 u1 u3 nli nsct nre _ h) kX2_regions nq_484 dX8_groupInfo_75 rfl rfl ⟨Nat.le_of_ble_eq_true rfl, Nat.le_of_ble_eq_true rfl⟩ rfl rfl (Nat.zero_le _) (Nat.zero_le _) rfl rfl rfl (Nat.le_of_ble_eq_true rfl) ?_
              rintro r17 _ ⟨rfl, h⟩
              refine ⟨Nat.le_of_ble_eq_true rfl, G.upd [0, 3, 4, 5, 7, 8, 9, 10, 11, 12, 13, 14, 15, 16, 17, 18, 19, 20, 21, 22, 24, 26] (Wd_X8_groupInfo cI cS cT ad b0 nli nsct nstk nsle nye nre nco eld u5 u6 u7 u8 u9 u1 u2 u3 u4) rfl rfl rfl rfl rfl ?_⟩
              refine g_goto 78 97 hC dX8_groupInfo_78 (by decide) ?_
              exact g_iret 97 hC hR dX8_groupInfo_97 ⟨u5, u6, u7, u8, u9, u1, u2, u3, u4, rfl, h⟩
          · replace h := h.2 hc
            refine g_aload_n 48 0 hC dX8_groupInfo_48 rfl ?_
            refine g_get 49 0 5 hC inlX8 wq_33 dX8_groupInfo_49 rfl rfl (by decide) rfl ?_
            refine g_aload_n 52 0 hC dX8_groupInfo_52 rfl ?_
            refine g_get 53 0 1 hC inlX8 wq_17 dX8_groupInfo_53 rfl rfl (by decide) rfl ?_
            refine g_iload_n 56 1 hC dX8_groupInfo_56 rfl ?_
            refine g_cVNi (As := [.ref (ad (b0 + 3)), .int x1]) (rest := []) 57 23 [23, 25, 1, 2] hC (c_X2_members l D cI cS cT ad (b0 + 88) (b0 + 3) x1 u1 u3 nli nsct _ h) kX2_members nq_480 dX8_groupInfo_57 rfl rfl ⟨Nat.le_of_ble_eq_true rfl, Nat.le_of_ble_eq_true rfl⟩ rfl rfl (Nat.zero_le _) (Nat.zero_le _) rfl rfl rfl (Nat.le_of_ble_eq_true rfl) ?_
            rintro r18 _ ⟨rfl, h⟩
            refine ⟨Nat.le_of_ble_eq_true rfl, G.upd [0, 3, 4, 5, 6, 7, 8, 9, 10, 11, 12, 13, 14, 15, 16, 17, 18, 19, 20, 21, 22, 24, 26] (Wd_X8_groupInfo cI cS cT ad b0 nli nsct nstk nsle nye nre nco eld u5 u6 u7 u8 u9 u1 u2 u3 u4) rfl rfl rfl rfl rfl ?_⟩
            exact g_iret 60 hC hR dX8_groupInfo_60 ⟨u5, u6, u7, u8, u9, u1, u2, u3, u4, rfl, h⟩
        · replace h := h.2 hc
          refine g_bipush (v := (-4 : Int32)) 41 hC dX8_groupInfo_41 (by decide) ?_
          exact g_iret 43 hC hR dX8_groupInfo_43 ⟨u5, u6, u7, u8, u9, u1, u2, u3, u4, rfl, h⟩
      · replace h := h.2 hc
        refine g_iconst (v := (-1 : Int32)) 13 hC dX8_groupInfo_13 (by decide) ?_
        exact g_iret 14 hC hR dX8_groupInfo_14 ⟨efln, eftk, egln, egtk, etb, ggc, gor, gme, gce, rfl, h⟩
