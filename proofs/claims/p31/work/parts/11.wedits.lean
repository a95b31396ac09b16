/-! written by wip/p31/gen/walk.py: worlds, predicates and contracts -/
/-! ===== ProverbCollection$Edits.replacing(II[I)I ===== -/
def Wd_X1_replacing (cI cS cT : ClassId) (ad : Nat → Nat) (b0 : Nat) (b1 : Nat) (fN : Nat) (ld : Int32) (fln : Int32) (ftk : Nat → Int32) (gln : Int32) (gtk : Nat → Int32) (fa : Nat → Int32) : va_W := [(ad b0, .inr (1, [.ref (ad (b0 + 1)), .ref (ad (b0 + 3)), .ref (ad (b0 + 5)), .ref (ad (b0 + 15)), .int ld])), (ad (b0 + 1), .inr (5, [.ref (ad (b0 + 2)), .int fln])), (ad (b0 + 2), .inl (cI, 8, .inl ftk)), (ad (b0 + 3), .inr (5, [.ref (ad (b0 + 4)), .int gln])), (ad (b0 + 4), .inl (cI, 8, .inl gtk)), (ad b1, .inl (cI, fN, .inl fa))]
def rm_X1_replacing : Room := { frames := 1, cells := 0, slots := 0, locals := 21 }
theorem kX1_replacing : KV yX1_replacing cX1_replacing 7 (some .int) 3 := ⟨wq_181, wq_24, wq_179, wq_180, by decide +kernel⟩
def P_X1_replacing (fN : Nat) (x1 : Int32) (x2 : Int32) (ld : Int32) (fln : Int32) (ftk : Nat → Int32) (gln : Int32) (gtk : Nat → Int32) (fa : Nat → Int32) (post : Int32 → Prop) : Prop :=
  P_X5_at (x1 - (1 : Int32)) fln ftk (fun r1 => P_X5_at (x2 - (1 : Int32)) gln gtk (fun r2 => (¬ r1 = r2 → ((¬ (r1 / (4 : Int32)) = (r2 / (4 : Int32)) → (vp_in (1 : Int32) fN ∧ (post (fa (Int32.toNatClampNeg (1 : Int32)))))) ∧ ((r1 / (4 : Int32)) = (r2 / (4 : Int32)) → (vp_in (2 : Int32) fN ∧ (post (fa (Int32.toNatClampNeg (2 : Int32)))))))) ∧ (r1 = r2 → post (0 : Int32))))
set_option maxHeartbeats 4000000 in
set_option maxRecDepth 100000 in
theorem c_X1_replacing (l : Launch) (D : va_G) (cI cS cT : ClassId) (ad : Nat → Nat) (b0 : Nat) (b1 : Nat) (fN : Nat) (x1 : Int32) (x2 : Int32) (ld : Int32) (fln : Int32) (ftk : Nat → Int32) (gln : Int32) (gtk : Nat → Int32) (fa : Nat → Int32) (post : Int32 → Prop) (h : P_X1_replacing fN x1 x2 ld fln ftk gln gtk fa post) : MI l D (TY cI cS cT) yX1_replacing cX1_replacing 7 (some .int) rm_X1_replacing [.ref (ad b0), .int x1, .int x2, .ref (ad b1)] (Wd_X1_replacing cI cS cT ad b0 b1 fN ld fln ftk gln gtk fa) (fun (r : Int32) w => w = (Wd_X1_replacing cI cS cT ad b0 b1 fN ld fln ftk gln gtk fa) ∧ post r) := by
  refine MI.of (by decide) (Nat.le_of_ble_eq_true rfl) (fun E hC hR hn => ?_)
  replace hC : Cx l D (TY cI cS cT) E rm_X1_replacing cX1_replacing RX1 := hC
  replace hR : RetI D E (fun (r : Int32) w => w = (Wd_X1_replacing cI cS cT ad b0 b1 fN ld fln ftk gln gtk fa) ∧ post r) 0 0 (some .int) := hR
  unfold P_X1_replacing at h
  change G l D E 0 0 _ [(0, .ref (ad b0)), (1, .int x1), (2, .int x2), (3, .ref (ad b1))] 0 []
  refine g_aload_n 0 0 hC dX1_replacing_0 rfl ?_
  refine g_get 1 0 0 hC inlX1 wq_70 dX1_replacing_1 rfl rfl (by decide) rfl ?_
  refine g_iload_n 4 1 hC dX1_replacing_4 rfl ?_
  refine g_iconst (v := (1 : Int32)) 5 hC dX1_replacing_5 (by decide) ?_
  refine g_isub 6 hC dX1_replacing_6 ?_
  refine g_cVNi (As := [.int (x1 - (1 : Int32))]) (rest := []) 7 1 [1, 2] hC (c_X5_at l D cI cS cT ad (b0 + 1) (x1 - (1 : Int32)) fln ftk _ h) kX5_at nq_351 dX1_replacing_7 rfl rfl ⟨Nat.le_of_ble_eq_true rfl, Nat.le_of_ble_eq_true rfl⟩ rfl rfl (Nat.zero_le _) (Nat.zero_le _) rfl rfl rfl (Nat.le_of_ble_eq_true rfl) ?_
  rintro r1 _ ⟨rfl, h⟩
  refine ⟨Nat.le_of_ble_eq_true rfl, G.upd [0, 3, 4, 5] (Wd_X1_replacing cI cS cT ad b0 b1 fN ld fln ftk gln gtk fa) rfl rfl rfl rfl rfl ?_⟩
  refine g_istore 10 [(4, .int r1), (0, .ref (ad b0)), (1, .int x1), (2, .int x2), (3, .ref (ad b1))] hC dX1_replacing_10 (by rw [hn]; decide) rfl ?_
  refine g_aload_n 12 1 hC dX1_replacing_12 rfl ?_
  refine g_get 13 0 1 hC inlX1 wq_71 dX1_replacing_13 rfl rfl (by decide) rfl ?_
  refine g_iload_n 16 3 hC dX1_replacing_16 rfl ?_
  refine g_iconst (v := (1 : Int32)) 17 hC dX1_replacing_17 (by decide) ?_
  refine g_isub 18 hC dX1_replacing_18 ?_
  refine g_cVNi (As := [.int (x2 - (1 : Int32))]) (rest := []) 19 3 [3, 4] hC (c_X5_at l D cI cS cT ad (b0 + 3) (x2 - (1 : Int32)) gln gtk _ h) kX5_at nq_351 dX1_replacing_19 rfl rfl ⟨Nat.le_of_ble_eq_true rfl, Nat.le_of_ble_eq_true rfl⟩ rfl rfl (Nat.zero_le _) (Nat.zero_le _) rfl rfl rfl (Nat.le_of_ble_eq_true rfl) ?_
  rintro r2 _ ⟨rfl, h⟩
  refine ⟨Nat.le_of_ble_eq_true rfl, G.upd [0, 1, 2, 5] (Wd_X1_replacing cI cS cT ad b0 b1 fN ld fln ftk gln gtk fa) rfl rfl rfl rfl rfl ?_⟩
  refine g_istore 22 [(5, .int r2), (4, .int r1), (0, .ref (ad b0)), (1, .int x1), (2, .int x2), (3, .ref (ad b1))] hC dX1_replacing_22 (by rw [hn]; decide) rfl ?_
  refine g_iload 24 1 hC dX1_replacing_24 rfl ?_
  refine g_iload 26 0 hC dX1_replacing_26 rfl ?_
  refine g_icmp_ne 28 33 hC dX1_replacing_28 (by decide) (fun hc => ?_) (fun hc => ?_)
  · replace h := h.1 hc
    refine g_iload 33 1 hC dX1_replacing_33 rfl ?_
    refine g_iconst (v := (4 : Int32)) 35 hC dX1_replacing_35 (by decide) ?_
    refine g_idiv 36 hC dX1_replacing_36 (by decide) ?_
    refine g_iload 37 0 hC dX1_replacing_37 rfl ?_
    refine g_iconst (v := (4 : Int32)) 39 hC dX1_replacing_39 (by decide) ?_
    refine g_idiv 40 hC dX1_replacing_40 (by decide) ?_
    refine g_icmp_ne 41 48 hC dX1_replacing_41 (by decide) (fun hc => ?_) (fun hc => ?_)
    · replace h := h.1 hc
      refine g_iconst (v := (0 : Int32)) 48 hC dX1_replacing_48 (by decide) ?_
      refine g_istore 49 [(6, .int (0 : Int32)), (5, .int r2), (4, .int r1), (0, .ref (ad b0)), (1, .int x1), (2, .int x2), (3, .ref (ad b1))] hC dX1_replacing_49 (by rw [hn]; decide) rfl ?_
      refine g_iload 51 0 hC dX1_replacing_51 rfl ?_
      refine g_if_eq 53 62 hC dX1_replacing_53 (by decide) (fun _ => ?_) (fun hc => absurd hc (by decide))
      refine g_aload_n 62 6 hC dX1_replacing_62 rfl ?_
      refine g_iconst (v := (1 : Int32)) 63 hC dX1_replacing_63 (by decide) ?_
      obtain ⟨hj, h⟩ := h
      refine g_iald 64 5 hC dX1_replacing_64 rfl rfl hj ?_
      exact g_iret 65 hC hR dX1_replacing_65 ⟨rfl, h⟩
    · replace h := h.2 hc
      refine g_iconst (v := (1 : Int32)) 44 hC dX1_replacing_44 (by decide) ?_
      refine g_goto 45 49 hC dX1_replacing_45 (by decide) ?_
      refine g_istore 49 [(6, .int (1 : Int32)), (5, .int r2), (4, .int r1), (0, .ref (ad b0)), (1, .int x1), (2, .int x2), (3, .ref (ad b1))] hC dX1_replacing_49 (by rw [hn]; decide) rfl ?_
      refine g_iload 51 0 hC dX1_replacing_51 rfl ?_
      refine g_if_eq 53 62 hC dX1_replacing_53 (by decide) (fun hc => absurd hc (by decide)) (fun _ => ?_)
      refine g_aload_n 56 6 hC dX1_replacing_56 rfl ?_
      refine g_iconst (v := (2 : Int32)) 57 hC dX1_replacing_57 (by decide) ?_
      obtain ⟨hj, h⟩ := h
      refine g_iald 58 5 hC dX1_replacing_58 rfl rfl hj ?_
      refine g_goto 59 65 hC dX1_replacing_59 (by decide) ?_
      exact g_iret 65 hC hR dX1_replacing_65 ⟨rfl, h⟩
  · replace h := h.2 hc
    refine g_iconst (v := (0 : Int32)) 31 hC dX1_replacing_31 (by decide) ?_
    exact g_iret 32 hC hR dX1_replacing_32 ⟨rfl, h⟩

/-! ===== ProverbCollection$Edits.swaps(II)Z ===== -/
def Wd_X1_swaps (cI cS cT : ClassId) (ad : Nat → Nat) (b0 : Nat) (ld : Int32) (fln : Int32) (ftk : Nat → Int32) (gln : Int32) (gtk : Nat → Int32) : va_W := [(ad b0, .inr (1, [.ref (ad (b0 + 1)), .ref (ad (b0 + 3)), .ref (ad (b0 + 5)), .ref (ad (b0 + 15)), .int ld])), (ad (b0 + 1), .inr (5, [.ref (ad (b0 + 2)), .int fln])), (ad (b0 + 2), .inl (cI, 8, .inl ftk)), (ad (b0 + 3), .inr (5, [.ref (ad (b0 + 4)), .int gln])), (ad (b0 + 4), .inl (cI, 8, .inl gtk))]
def rm_X1_swaps : Room := { frames := 1, cells := 0, slots := 0, locals := 21 }
theorem kX1_swaps : KV yX1_swaps cX1_swaps 3 (some .boolean) 2 := ⟨wq_188, wq_24, wq_186, wq_187, by decide +kernel⟩
def P_X1_swaps (x1 : Int32) (x2 : Int32) (ld : Int32) (fln : Int32) (ftk : Nat → Int32) (gln : Int32) (gtk : Nat → Int32) (post : Int32 → Prop) : Prop :=
  (x1 < (2 : Int32) → post (0 : Int32)) ∧ (¬ x1 < (2 : Int32) → ((x2 < (2 : Int32) → post (0 : Int32)) ∧ (¬ x2 < (2 : Int32) → (P_X5_at (x1 - (1 : Int32)) fln ftk (fun r1 => P_X5_at (x2 - (2 : Int32)) gln gtk (fun r2 => (¬ r1 = r2 → post (0 : Int32)) ∧ (r1 = r2 → (P_X5_at (x1 - (2 : Int32)) fln ftk (fun r3 => P_X5_at (x2 - (1 : Int32)) gln gtk (fun r4 => (¬ r3 = r4 → post (0 : Int32)) ∧ (r3 = r4 → post (1 : Int32))))))))))))
set_option maxHeartbeats 4000000 in
set_option maxRecDepth 100000 in
theorem c_X1_swaps (l : Launch) (D : va_G) (cI cS cT : ClassId) (ad : Nat → Nat) (b0 : Nat) (x1 : Int32) (x2 : Int32) (ld : Int32) (fln : Int32) (ftk : Nat → Int32) (gln : Int32) (gtk : Nat → Int32) (post : Int32 → Prop) (h : P_X1_swaps x1 x2 ld fln ftk gln gtk post) : MI l D (TY cI cS cT) yX1_swaps cX1_swaps 3 (some .boolean) rm_X1_swaps [.ref (ad b0), .int x1, .int x2] (Wd_X1_swaps cI cS cT ad b0 ld fln ftk gln gtk) (fun (r : Int32) w => w = (Wd_X1_swaps cI cS cT ad b0 ld fln ftk gln gtk) ∧ post r) := by
  refine MI.of (by decide) (Nat.le_of_ble_eq_true rfl) (fun E hC hR hn => ?_)
  replace hC : Cx l D (TY cI cS cT) E rm_X1_swaps cX1_swaps RX1 := hC
  replace hR : RetI D E (fun (r : Int32) w => w = (Wd_X1_swaps cI cS cT ad b0 ld fln ftk gln gtk) ∧ post r) 0 0 (some .boolean) := hR
  unfold P_X1_swaps at h
  change G l D E 0 0 _ [(0, .ref (ad b0)), (1, .int x1), (2, .int x2)] 0 []
  refine g_iload_n 0 1 hC dX1_swaps_0 rfl ?_
  refine g_iconst (v := (2 : Int32)) 1 hC dX1_swaps_1 (by decide) ?_
  refine g_icmp_lt 2 60 hC dX1_swaps_2 (by decide) (fun hc => ?_) (fun hc => ?_)
  · replace h := h.1 hc
    refine g_iconst (v := (0 : Int32)) 60 hC dX1_swaps_60 (by decide) ?_
    exact g_zret 61 hC hR dX1_swaps_61 (by decide) ⟨rfl, h⟩
  · replace h := h.2 hc
    refine g_iload_n 5 2 hC dX1_swaps_5 rfl ?_
    refine g_iconst (v := (2 : Int32)) 6 hC dX1_swaps_6 (by decide) ?_
    refine g_icmp_lt 7 60 hC dX1_swaps_7 (by decide) (fun hc => ?_) (fun hc => ?_)
    · replace h := h.1 hc
      refine g_iconst (v := (0 : Int32)) 60 hC dX1_swaps_60 (by decide) ?_
      exact g_zret 61 hC hR dX1_swaps_61 (by decide) ⟨rfl, h⟩
    · replace h := h.2 hc
      refine g_aload_n 10 0 hC dX1_swaps_10 rfl ?_
      refine g_get 11 0 0 hC inlX1 wq_70 dX1_swaps_11 rfl rfl (by decide) rfl ?_
      refine g_iload_n 14 1 hC dX1_swaps_14 rfl ?_
      refine g_iconst (v := (1 : Int32)) 15 hC dX1_swaps_15 (by decide) ?_
      refine g_isub 16 hC dX1_swaps_16 ?_
      refine g_cVNi (As := [.int (x1 - (1 : Int32))]) (rest := []) 17 1 [1, 2] hC (c_X5_at l D cI cS cT ad (b0 + 1) (x1 - (1 : Int32)) fln ftk _ h) kX5_at nq_351 dX1_swaps_17 rfl rfl ⟨Nat.le_of_ble_eq_true rfl, Nat.le_of_ble_eq_true rfl⟩ rfl rfl (Nat.zero_le _) (Nat.zero_le _) rfl rfl rfl (Nat.le_of_ble_eq_true rfl) ?_
      rintro r1 _ ⟨rfl, h⟩
      refine ⟨Nat.le_of_ble_eq_true rfl, G.upd [0, 3, 4] (Wd_X1_swaps cI cS cT ad b0 ld fln ftk gln gtk) rfl rfl rfl rfl rfl ?_⟩
      refine g_aload_n 20 0 hC dX1_swaps_20 rfl ?_
      refine g_get 21 0 1 hC inlX1 wq_71 dX1_swaps_21 rfl rfl (by decide) rfl ?_
      refine g_iload_n 24 2 hC dX1_swaps_24 rfl ?_
      refine g_iconst (v := (2 : Int32)) 25 hC dX1_swaps_25 (by decide) ?_
      refine g_isub 26 hC dX1_swaps_26 ?_
      refine g_cVNi (As := [.int (x2 - (2 : Int32))]) (rest := [.int r1]) 27 3 [3, 4] hC (c_X5_at l D cI cS cT ad (b0 + 3) (x2 - (2 : Int32)) gln gtk _ h) kX5_at nq_351 dX1_swaps_27 rfl rfl ⟨Nat.le_of_ble_eq_true rfl, Nat.le_of_ble_eq_true rfl⟩ rfl rfl (Nat.zero_le _) (Nat.zero_le _) rfl rfl rfl (Nat.le_of_ble_eq_true rfl) ?_
      rintro r2 _ ⟨rfl, h⟩
      refine ⟨Nat.le_of_ble_eq_true rfl, G.upd [0, 1, 2] (Wd_X1_swaps cI cS cT ad b0 ld fln ftk gln gtk) rfl rfl rfl rfl rfl ?_⟩
      refine g_icmp_ne 30 60 hC dX1_swaps_30 (by decide) (fun hc => ?_) (fun hc => ?_)
      · replace h := h.1 hc
        refine g_iconst (v := (0 : Int32)) 60 hC dX1_swaps_60 (by decide) ?_
        exact g_zret 61 hC hR dX1_swaps_61 (by decide) ⟨rfl, h⟩
      · replace h := h.2 hc
        refine g_aload_n 33 0 hC dX1_swaps_33 rfl ?_
        refine g_get 34 0 0 hC inlX1 wq_70 dX1_swaps_34 rfl rfl (by decide) rfl ?_
        refine g_iload_n 37 1 hC dX1_swaps_37 rfl ?_
        refine g_iconst (v := (2 : Int32)) 38 hC dX1_swaps_38 (by decide) ?_
        refine g_isub 39 hC dX1_swaps_39 ?_
        refine g_cVNi (As := [.int (x1 - (2 : Int32))]) (rest := []) 40 1 [1, 2] hC (c_X5_at l D cI cS cT ad (b0 + 1) (x1 - (2 : Int32)) fln ftk _ h) kX5_at nq_351 dX1_swaps_40 rfl rfl ⟨Nat.le_of_ble_eq_true rfl, Nat.le_of_ble_eq_true rfl⟩ rfl rfl (Nat.zero_le _) (Nat.zero_le _) rfl rfl rfl (Nat.le_of_ble_eq_true rfl) ?_
        rintro r3 _ ⟨rfl, h⟩
        refine ⟨Nat.le_of_ble_eq_true rfl, G.upd [0, 3, 4] (Wd_X1_swaps cI cS cT ad b0 ld fln ftk gln gtk) rfl rfl rfl rfl rfl ?_⟩
        refine g_aload_n 43 0 hC dX1_swaps_43 rfl ?_
        refine g_get 44 0 1 hC inlX1 wq_71 dX1_swaps_44 rfl rfl (by decide) rfl ?_
        refine g_iload_n 47 2 hC dX1_swaps_47 rfl ?_
        refine g_iconst (v := (1 : Int32)) 48 hC dX1_swaps_48 (by decide) ?_
        refine g_isub 49 hC dX1_swaps_49 ?_
        refine g_cVNi (As := [.int (x2 - (1 : Int32))]) (rest := [.int r3]) 50 3 [3, 4] hC (c_X5_at l D cI cS cT ad (b0 + 3) (x2 - (1 : Int32)) gln gtk _ h) kX5_at nq_351 dX1_swaps_50 rfl rfl ⟨Nat.le_of_ble_eq_true rfl, Nat.le_of_ble_eq_true rfl⟩ rfl rfl (Nat.zero_le _) (Nat.zero_le _) rfl rfl rfl (Nat.le_of_ble_eq_true rfl) ?_
        rintro r4 _ ⟨rfl, h⟩
        refine ⟨Nat.le_of_ble_eq_true rfl, G.upd [0, 1, 2] (Wd_X1_swaps cI cS cT ad b0 ld fln ftk gln gtk) rfl rfl rfl rfl rfl ?_⟩
        refine g_icmp_ne 53 60 hC dX1_swaps_53 (by decide) (fun hc => ?_) (fun hc => ?_)
        · replace h := h.1 hc
          refine g_iconst (v := (0 : Int32)) 60 hC dX1_swaps_60 (by decide) ?_
          exact g_zret 61 hC hR dX1_swaps_61 (by decide) ⟨rfl, h⟩
        · replace h := h.2 hc
          refine g_iconst (v := (1 : Int32)) 56 hC dX1_swaps_56 (by decide) ?_
          refine g_goto 57 61 hC dX1_swaps_57 (by decide) ?_
          exact g_zret 61 hC hR dX1_swaps_61 (by decide) ⟨rfl, h⟩

/-! ===== ProverbCollection$Edits.by(III[I)I ===== -/
def Wd_X1_by (cI cS cT : ClassId) (ad : Nat → Nat) (b0 : Nat) (b1 : Nat) (fN : Nat) (ld : Int32) (fln : Int32) (ftk : Nat → Int32) (gln : Int32) (gtk : Nat → Int32) (tb : Nat → Nat → Int32) (fa : Nat → Int32) : va_W := [(ad b0, .inr (1, [.ref (ad (b0 + 1)), .ref (ad (b0 + 3)), .ref (ad (b0 + 5)), .ref (ad (b0 + 15)), .int ld])), (ad (b0 + 1), .inr (5, [.ref (ad (b0 + 2)), .int fln])), (ad (b0 + 2), .inl (cI, 8, .inl ftk)), (ad (b0 + 3), .inr (5, [.ref (ad (b0 + 4)), .int gln])), (ad (b0 + 4), .inl (cI, 8, .inl gtk)), (ad (b0 + 5), .inl (cT, 9, .inr (.inr (.inr (.inr (fun i => if i < 9 then some (ad (b0 + 6 + i)) else none)))))), (ad (b0 + 6 + 0), .inl (cI, 9, .inl (tb 0))), (ad (b0 + 6 + 1), .inl (cI, 9, .inl (tb 1))), (ad (b0 + 6 + 2), .inl (cI, 9, .inl (tb 2))), (ad (b0 + 6 + 3), .inl (cI, 9, .inl (tb 3))), (ad (b0 + 6 + 4), .inl (cI, 9, .inl (tb 4))), (ad (b0 + 6 + 5), .inl (cI, 9, .inl (tb 5))), (ad (b0 + 6 + 6), .inl (cI, 9, .inl (tb 6))), (ad (b0 + 6 + 7), .inl (cI, 9, .inl (tb 7))), (ad (b0 + 6 + 8), .inl (cI, 9, .inl (tb 8))), (ad b1, .inl (cI, fN, .inl fa))]
def rm_X1_by : Room := { frames := 2, cells := 0, slots := 0, locals := 47 }
theorem kX1_by : KV yX1_by cX1_by 5 (some .int) 4 := ⟨wq_177, wq_24, wq_175, wq_176, by decide +kernel⟩
def P_X1_by (fN : Nat) (x1 : Int32) (x2 : Int32) (x3 : Int32) (ld : Int32) (fln : Int32) (ftk : Nat → Int32) (gln : Int32) (gtk : Nat → Int32) (tb : Nat → Nat → Int32) (fa : Nat → Int32) (post : Int32 → Prop) : Prop :=
  (x1 = 1 → ((x2 < (1 : Int32) → post (1000000 : Int32)) ∧ (¬ x2 < (1 : Int32) → ((x3 < (1 : Int32) → post (1000000 : Int32)) ∧ (¬ x3 < (1 : Int32) → (vp_in (x2 - (1 : Int32)) 9 ∧ (vp_in (x3 - (1 : Int32)) 9 ∧ (P_X1_replacing fN x2 x3 ld fln ftk gln gtk fa (fun r2 => post ((tb (Int32.toNatClampNeg (x2 - (1 : Int32))) ((x3 - (1 : Int32))).toNatClampNeg) + r2)))))))))) ∧ (x1 = 2 → ((x2 < (1 : Int32) → post (1000000 : Int32)) ∧ (¬ x2 < (1 : Int32) → (vp_in (x2 - (1 : Int32)) 9 ∧ (vp_in x3 9 ∧ (vp_in (0 : Int32) fN ∧ (post ((tb (Int32.toNatClampNeg (x2 - (1 : Int32))) (x3).toNatClampNeg) + (fa (Int32.toNatClampNeg (0 : Int32))))))))))) ∧ (x1 = 3 → ((x3 < (1 : Int32) → post (1000000 : Int32)) ∧ (¬ x3 < (1 : Int32) → (vp_in x2 9 ∧ (vp_in (x3 - (1 : Int32)) 9 ∧ (vp_in (0 : Int32) fN ∧ (post ((tb (Int32.toNatClampNeg x2) ((x3 - (1 : Int32))).toNatClampNeg) + (fa (Int32.toNatClampNeg (0 : Int32))))))))))) ∧ (¬ x1 = 1 → ¬ x1 = 2 → ¬ x1 = 3 → (P_X1_swaps x2 x3 ld fln ftk gln gtk (fun r5 => (r5 = 0 → post (1000000 : Int32)) ∧ (¬ r5 = 0 → (vp_in (x2 - (2 : Int32)) 9 ∧ (vp_in (x3 - (2 : Int32)) 9 ∧ (vp_in (3 : Int32) fN ∧ (post ((tb (Int32.toNatClampNeg (x2 - (2 : Int32))) ((x3 - (2 : Int32))).toNatClampNeg) + (fa (Int32.toNatClampNeg (3 : Int32))))))))))))
set_option maxHeartbeats 4000000 in
set_option maxRecDepth 100000 in
theorem c_X1_by (l : Launch) (D : va_G) (cI cS cT : ClassId) (ad : Nat → Nat) (b0 : Nat) (b1 : Nat) (fN : Nat) (x1 : Int32) (x2 : Int32) (x3 : Int32) (ld : Int32) (fln : Int32) (ftk : Nat → Int32) (gln : Int32) (gtk : Nat → Int32) (tb : Nat → Nat → Int32) (fa : Nat → Int32) (post : Int32 → Prop) (h : P_X1_by fN x1 x2 x3 ld fln ftk gln gtk tb fa post) : MI l D (TY cI cS cT) yX1_by cX1_by 5 (some .int) rm_X1_by [.ref (ad b0), .int x1, .int x2, .int x3, .ref (ad b1)] (Wd_X1_by cI cS cT ad b0 b1 fN ld fln ftk gln gtk tb fa) (fun (r : Int32) w => w = (Wd_X1_by cI cS cT ad b0 b1 fN ld fln ftk gln gtk tb fa) ∧ post r) := by
  refine MI.of (by decide) (Nat.le_of_ble_eq_true rfl) (fun E hC hR hn => ?_)
  replace hC : Cx l D (TY cI cS cT) E rm_X1_by cX1_by RX1 := hC
  replace hR : RetI D E (fun (r : Int32) w => w = (Wd_X1_by cI cS cT ad b0 b1 fN ld fln ftk gln gtk tb fa) ∧ post r) 0 0 (some .int) := hR
  unfold P_X1_by at h
  change G l D E 0 0 _ [(0, .ref (ad b0)), (1, .int x1), (2, .int x2), (3, .int x3), (4, .ref (ad b1))] 0 []
  refine g_iload_n 0 1 hC dX1_by_0 rfl ?_
  by_cases hs1 : x1 = 1
  · replace h := h.1 hs1
    refine g_tswIn (v := 1) (off := 27) 1 28 hC dX1_by_1 hs1 (by decide) (by decide) (by decide) (by decide) ?_
    refine g_iload_n 28 2 hC dX1_by_28 rfl ?_
    refine g_iconst (v := (1 : Int32)) 29 hC dX1_by_29 (by decide) ?_
    refine g_icmp_lt 30 62 hC dX1_by_30 (by decide) (fun hc => ?_) (fun hc => ?_)
    · replace h := h.1 hc
      refine g_ldc 62 hC dX1_by_62 wq_172 ?_
      exact g_iret 64 hC hR dX1_by_64 ⟨rfl, h⟩
    · replace h := h.2 hc
      refine g_iload_n 33 3 hC dX1_by_33 rfl ?_
      refine g_iconst (v := (1 : Int32)) 34 hC dX1_by_34 (by decide) ?_
      refine g_icmp_lt 35 62 hC dX1_by_35 (by decide) (fun hc => ?_) (fun hc => ?_)
      · replace h := h.1 hc
        refine g_ldc 62 hC dX1_by_62 wq_172 ?_
        exact g_iret 64 hC hR dX1_by_64 ⟨rfl, h⟩
      · replace h := h.2 hc
        refine g_aload_n 38 0 hC dX1_by_38 rfl ?_
        refine g_get 39 0 2 hC inlX1 wq_73 dX1_by_39 rfl rfl (by decide) rfl ?_
        refine g_iload_n 42 2 hC dX1_by_42 rfl ?_
        refine g_iconst (v := (1 : Int32)) 43 hC dX1_by_43 (by decide) ?_
        refine g_isub 44 hC dX1_by_44 ?_
        obtain ⟨hj, h⟩ := h
        have hk1 := vpLt hj
        refine g_aald 45 5 2 hC dX1_by_45 rfl rfl rfl hj (if_pos hk1) ?_
        refine g_iload_n 46 3 hC dX1_by_46 rfl ?_
        refine g_iconst (v := (1 : Int32)) 47 hC dX1_by_47 (by decide) ?_
        refine g_isub 48 hC dX1_by_48 ?_
        obtain ⟨hj, h⟩ := h
        refine g_iald 49 (6 + (Int32.toNatClampNeg (x2 - (1 : Int32)))) hC dX1_by_49 (row9 (P := fun kk => (Wd_X1_by cI cS cT ad b0 b1 fN ld fln ftk gln gtk tb fa)[6 + kk]? = some (ad (b0 + 6 + kk), .inl (cI, 9, .inl (tb kk)))) hk1 rfl rfl rfl rfl rfl rfl rfl rfl rfl) rfl hj ?_
        refine g_aload_n 50 0 hC dX1_by_50 rfl ?_
        refine g_iload_n 51 2 hC dX1_by_51 rfl ?_
        refine g_iload_n 52 3 hC dX1_by_52 rfl ?_
        refine g_aload 53 4 hC dX1_by_53 rfl ?_
        refine g_cVi (As := [.int x2, .int x3, .ref (ad b1)]) (rest := [.int (tb (Int32.toNatClampNeg (x2 - (1 : Int32))) ((x3 - (1 : Int32))).toNatClampNeg)]) 55 0 [0, 1, 2, 3, 4, 15] hC (c_X1_replacing l D cI cS cT ad b0 b1 fN x2 x3 ld fln ftk gln gtk fa _ h) kX1_replacing wq_178 dX1_by_55 rfl rfl ⟨Nat.le_of_ble_eq_true rfl, Nat.le_of_ble_eq_true rfl⟩ rfl rfl (Nat.zero_le _) (Nat.zero_le _) rfl rfl rfl (Nat.le_of_ble_eq_true rfl) ?_
        rintro r2 _ ⟨rfl, h⟩
        refine ⟨Nat.le_of_ble_eq_true rfl, G.upd [5, 6, 7, 8, 9, 10, 11, 12, 13, 14] (Wd_X1_by cI cS cT ad b0 b1 fN ld fln ftk gln gtk tb fa) rfl rfl rfl rfl rfl ?_⟩
        refine g_iadd 58 hC dX1_by_58 ?_
        refine g_goto 59 64 hC dX1_by_59 (by decide) ?_
        exact g_iret 64 hC hR dX1_by_64 ⟨rfl, h⟩
  by_cases hs2 : x1 = 2
  · replace h := h.2.1 hs2
    refine g_tswIn (v := 2) (off := 64) 1 65 hC dX1_by_1 hs2 (by decide) (by decide) (by decide) (by decide) ?_
    refine g_iload_n 65 2 hC dX1_by_65 rfl ?_
    refine g_iconst (v := (1 : Int32)) 66 hC dX1_by_66 (by decide) ?_
    refine g_icmp_lt 67 88 hC dX1_by_67 (by decide) (fun hc => ?_) (fun hc => ?_)
    · replace h := h.1 hc
      refine g_ldc 88 hC dX1_by_88 wq_172 ?_
      exact g_iret 90 hC hR dX1_by_90 ⟨rfl, h⟩
    · replace h := h.2 hc
      refine g_aload_n 70 0 hC dX1_by_70 rfl ?_
      refine g_get 71 0 2 hC inlX1 wq_73 dX1_by_71 rfl rfl (by decide) rfl ?_
      refine g_iload_n 74 2 hC dX1_by_74 rfl ?_
      refine g_iconst (v := (1 : Int32)) 75 hC dX1_by_75 (by decide) ?_
      refine g_isub 76 hC dX1_by_76 ?_
      obtain ⟨hj, h⟩ := h
      have hk3 := vpLt hj
      refine g_aald 77 5 2 hC dX1_by_77 rfl rfl rfl hj (if_pos hk3) ?_
      refine g_iload_n 78 3 hC dX1_by_78 rfl ?_
      obtain ⟨hj, h⟩ := h
      refine g_iald 79 (6 + (Int32.toNatClampNeg (x2 - (1 : Int32)))) hC dX1_by_79 (row9 (P := fun kk => (Wd_X1_by cI cS cT ad b0 b1 fN ld fln ftk gln gtk tb fa)[6 + kk]? = some (ad (b0 + 6 + kk), .inl (cI, 9, .inl (tb kk)))) hk3 rfl rfl rfl rfl rfl rfl rfl rfl rfl) rfl hj ?_
      refine g_aload 80 4 hC dX1_by_80 rfl ?_
      refine g_iconst (v := (0 : Int32)) 82 hC dX1_by_82 (by decide) ?_
      obtain ⟨hj, h⟩ := h
      refine g_iald 83 15 hC dX1_by_83 rfl rfl hj ?_
      refine g_iadd 84 hC dX1_by_84 ?_
      refine g_goto 85 90 hC dX1_by_85 (by decide) ?_
      exact g_iret 90 hC hR dX1_by_90 ⟨rfl, h⟩
  by_cases hs3 : x1 = 3
  · replace h := h.2.2.1 hs3
    refine g_tswIn (v := 3) (off := 90) 1 91 hC dX1_by_1 hs3 (by decide) (by decide) (by decide) (by decide) ?_
    refine g_iload_n 91 3 hC dX1_by_91 rfl ?_
    refine g_iconst (v := (1 : Int32)) 92 hC dX1_by_92 (by decide) ?_
    refine g_icmp_lt 93 114 hC dX1_by_93 (by decide) (fun hc => ?_) (fun hc => ?_)
    · replace h := h.1 hc
      refine g_ldc 114 hC dX1_by_114 wq_172 ?_
      exact g_iret 116 hC hR dX1_by_116 ⟨rfl, h⟩
    · replace h := h.2 hc
      refine g_aload_n 96 0 hC dX1_by_96 rfl ?_
      refine g_get 97 0 2 hC inlX1 wq_73 dX1_by_97 rfl rfl (by decide) rfl ?_
      refine g_iload_n 100 2 hC dX1_by_100 rfl ?_
      obtain ⟨hj, h⟩ := h
      have hk4 := vpLt hj
      refine g_aald 101 5 2 hC dX1_by_101 rfl rfl rfl hj (if_pos hk4) ?_
      refine g_iload_n 102 3 hC dX1_by_102 rfl ?_
      refine g_iconst (v := (1 : Int32)) 103 hC dX1_by_103 (by decide) ?_
      refine g_isub 104 hC dX1_by_104 ?_
      obtain ⟨hj, h⟩ := h
      refine g_iald 105 (6 + (Int32.toNatClampNeg x2)) hC dX1_by_105 (row9 (P := fun kk => (Wd_X1_by cI cS cT ad b0 b1 fN ld fln ftk gln gtk tb fa)[6 + kk]? = some (ad (b0 + 6 + kk), .inl (cI, 9, .inl (tb kk)))) hk4 rfl rfl rfl rfl rfl rfl rfl rfl rfl) rfl hj ?_
      refine g_aload 106 4 hC dX1_by_106 rfl ?_
      refine g_iconst (v := (0 : Int32)) 108 hC dX1_by_108 (by decide) ?_
      obtain ⟨hj, h⟩ := h
      refine g_iald 109 15 hC dX1_by_109 rfl rfl hj ?_
      refine g_iadd 110 hC dX1_by_110 ?_
      refine g_goto 111 116 hC dX1_by_111 (by decide) ?_
      exact g_iret 116 hC hR dX1_by_116 ⟨rfl, h⟩
  replace h := h.2.2.2 hs1 hs2 hs3
  refine g_tswOut 1 117 hC dX1_by_1 (by have q1 := lv_neT hs1 (a := 1) (by decide); have q2 := lv_neT hs2 (a := 2) (by decide); have q3 := lv_neT hs3 (a := 3) (by decide); omega) (by decide) ?_
  refine g_aload_n 117 0 hC dX1_by_117 rfl ?_
  refine g_iload_n 118 2 hC dX1_by_118 rfl ?_
  refine g_iload_n 119 3 hC dX1_by_119 rfl ?_
  refine g_cVi (As := [.int x2, .int x3]) (rest := []) 120 0 [0, 1, 2, 3, 4] hC (c_X1_swaps l D cI cS cT ad b0 x2 x3 ld fln ftk gln gtk _ h) kX1_swaps wq_185 dX1_by_120 rfl rfl ⟨Nat.le_of_ble_eq_true rfl, Nat.le_of_ble_eq_true rfl⟩ rfl rfl (Nat.zero_le _) (Nat.zero_le _) rfl rfl rfl (Nat.le_of_ble_eq_true rfl) ?_
  rintro r5 _ ⟨rfl, h⟩
  refine ⟨Nat.le_of_ble_eq_true rfl, G.upd [5, 6, 7, 8, 9, 10, 11, 12, 13, 14, 15] (Wd_X1_by cI cS cT ad b0 b1 fN ld fln ftk gln gtk tb fa) rfl rfl rfl rfl rfl ?_⟩
  refine g_if_eq 123 146 hC dX1_by_123 (by decide) (fun hc => ?_) (fun hc => ?_)
  · replace h := h.1 hc
    refine g_ldc 146 hC dX1_by_146 wq_172 ?_
    exact g_iret 148 hC hR dX1_by_148 ⟨rfl, h⟩
  · replace h := h.2 hc
    refine g_aload_n 126 0 hC dX1_by_126 rfl ?_
    refine g_get 127 0 2 hC inlX1 wq_73 dX1_by_127 rfl rfl (by decide) rfl ?_
    refine g_iload_n 130 2 hC dX1_by_130 rfl ?_
    refine g_iconst (v := (2 : Int32)) 131 hC dX1_by_131 (by decide) ?_
    refine g_isub 132 hC dX1_by_132 ?_
    obtain ⟨hj, h⟩ := h
    have hk6 := vpLt hj
    refine g_aald 133 5 2 hC dX1_by_133 rfl rfl rfl hj (if_pos hk6) ?_
    refine g_iload_n 134 3 hC dX1_by_134 rfl ?_
    refine g_iconst (v := (2 : Int32)) 135 hC dX1_by_135 (by decide) ?_
    refine g_isub 136 hC dX1_by_136 ?_
    obtain ⟨hj, h⟩ := h
    refine g_iald 137 (6 + (Int32.toNatClampNeg (x2 - (2 : Int32)))) hC dX1_by_137 (row9 (P := fun kk => (Wd_X1_by cI cS cT ad b0 b1 fN ld fln ftk gln gtk tb fa)[6 + kk]? = some (ad (b0 + 6 + kk), .inl (cI, 9, .inl (tb kk)))) hk6 rfl rfl rfl rfl rfl rfl rfl rfl rfl) rfl hj ?_
    refine g_aload 138 4 hC dX1_by_138 rfl ?_
    refine g_iconst (v := (3 : Int32)) 140 hC dX1_by_140 (by decide) ?_
    obtain ⟨hj, h⟩ := h
    refine g_iald 141 15 hC dX1_by_141 rfl rfl hj ?_
    refine g_iadd 142 hC dX1_by_142 ?_
    refine g_goto 143 148 hC dX1_by_143 (by decide) ?_
    exact g_iret 148 hC hR dX1_by_148 ⟨rfl, h⟩

/-! ===== ProverbCollection$Edits.measure([I)I ===== -/
def Wd_X1_measure (cI cS cT : ClassId) (ad : Nat → Nat) (b0 : Nat) (b1 : Nat) (fN : Nat) (ld : Int32) (fln : Int32) (ftk : Nat → Int32) (gln : Int32) (gtk : Nat → Int32) (tb : Nat → Nat → Int32) (fa : Nat → Int32) : va_W := [(ad b0, .inr (1, [.ref (ad (b0 + 1)), .ref (ad (b0 + 3)), .ref (ad (b0 + 5)), .ref (ad (b0 + 15)), .int ld])), (ad (b0 + 1), .inr (5, [.ref (ad (b0 + 2)), .int fln])), (ad (b0 + 2), .inl (cI, 8, .inl ftk)), (ad (b0 + 3), .inr (5, [.ref (ad (b0 + 4)), .int gln])), (ad (b0 + 4), .inl (cI, 8, .inl gtk)), (ad (b0 + 5), .inl (cT, 9, .inr (.inr (.inr (.inr (fun i => if i < 9 then some (ad (b0 + 6 + i)) else none)))))), (ad (b0 + 6 + 0), .inl (cI, 9, .inl (tb 0))), (ad (b0 + 6 + 1), .inl (cI, 9, .inl (tb 1))), (ad (b0 + 6 + 2), .inl (cI, 9, .inl (tb 2))), (ad (b0 + 6 + 3), .inl (cI, 9, .inl (tb 3))), (ad (b0 + 6 + 4), .inl (cI, 9, .inl (tb 4))), (ad (b0 + 6 + 5), .inl (cI, 9, .inl (tb 5))), (ad (b0 + 6 + 6), .inl (cI, 9, .inl (tb 6))), (ad (b0 + 6 + 7), .inl (cI, 9, .inl (tb 7))), (ad (b0 + 6 + 8), .inl (cI, 9, .inl (tb 8))), (ad b1, .inl (cI, fN, .inl fa))]
def rm_X1_measure : Room := { frames := 3, cells := 0, slots := 0, locals := 71 }
theorem kX1_measure : KV yX1_measure cX1_measure 6 (some .int) 1 := ⟨wq_171, wq_24, wq_169, wq_170, by decide +kernel⟩
def B_X1_measure_45 (fN : Nat) (v3 : Int32) (v2 : Int32) (ld : Int32) (fln : Int32) (ftk : Nat → Int32) (gln : Int32) (gtk : Nat → Int32) (tb : Nat → Nat → Int32) (fa : Nat → Int32) (K : Int32 → Int32 → Prop) (rc : Int32 → Int32 → Prop) (v5 : Int32) (v4 : Int32) : Prop :=
  ((4 : Int32) < v5 → K v5 v4) ∧ (¬ (4 : Int32) < v5 → P_X1_by fN v5 v2 v3 ld fln ftk gln gtk tb fa (fun r1 => rc (v5 + (1 : Int32)) (if r1 < v4 then r1 else v4)))
def P_X1_measure_45 (fN : Nat) (v3 : Int32) (v2 : Int32) (ld : Int32) (fln : Int32) (ftk : Nat → Int32) (gln : Int32) (gtk : Nat → Int32) (tb : Nat → Nat → Int32) (fa : Nat → Int32) (K : Int32 → Int32 → Prop) : Nat → Int32 → Int32 → Prop
  | 0 => fun _ _ => False
  | n + 1 => fun v5 v4 => B_X1_measure_45 fN v3 v2 ld fln ftk gln gtk tb fa K (P_X1_measure_45 fN v3 v2 ld fln ftk gln gtk tb fa K n) v5 v4
def B_X1_measure_15 (fN : Nat) (v2 : Int32) (ld : Int32) (fln : Int32) (ftk : Nat → Int32) (gln : Int32) (gtk : Nat → Int32) (fa : Nat → Int32) (K : Int32 → (Nat → Nat → Int32) → Prop) (rc : Int32 → (Nat → Nat → Int32) → Prop) (v3 : Int32) (tb : Nat → Nat → Int32) : Prop :=
  (gln < v3 → K v3 tb) ∧ (¬ gln < v3 → ((¬ v2 = 0 → (∃ n : Nat, P_X1_measure_45 fN v3 v2 ld fln ftk gln gtk tb fa (fun w5_2 w4_2 => vp_in v2 9 ∧ (vp_in v3 9 ∧ (rc (v3 + (1 : Int32)) (va_up tb (Int32.toNatClampNeg v2) (upd (tb (Int32.toNatClampNeg v2)) (Int32.toNatClampNeg v3) w4_2))))) n (1 : Int32) (1000000 : Int32))) ∧ (v2 = 0 → ((¬ v3 = 0 → (∃ n : Nat, P_X1_measure_45 fN v3 v2 ld fln ftk gln gtk tb fa (fun w5_5 w4_5 => vp_in v2 9 ∧ (vp_in v3 9 ∧ (rc (v3 + (1 : Int32)) (va_up tb (Int32.toNatClampNeg v2) (upd (tb (Int32.toNatClampNeg v2)) (Int32.toNatClampNeg v3) w4_5))))) n (1 : Int32) (1000000 : Int32))) ∧ (v3 = 0 → (∃ n : Nat, P_X1_measure_45 fN v3 v2 ld fln ftk gln gtk tb fa (fun w5_8 w4_8 => vp_in v2 9 ∧ (vp_in v3 9 ∧ (rc (v3 + (1 : Int32)) (va_up tb (Int32.toNatClampNeg v2) (upd (tb (Int32.toNatClampNeg v2)) (Int32.toNatClampNeg v3) w4_8))))) n (1 : Int32) (0 : Int32)))))))
def P_X1_measure_15 (fN : Nat) (v2 : Int32) (ld : Int32) (fln : Int32) (ftk : Nat → Int32) (gln : Int32) (gtk : Nat → Int32) (fa : Nat → Int32) (K : Int32 → (Nat → Nat → Int32) → Prop) : Nat → Int32 → (Nat → Nat → Int32) → Prop
  | 0 => fun _ _ => False
  | n + 1 => fun v3 tb => B_X1_measure_15 fN v2 ld fln ftk gln gtk fa K (P_X1_measure_15 fN v2 ld fln ftk gln gtk fa K n) v3 tb
def B_X1_measure_2 (fN : Nat) (ld : Int32) (fln : Int32) (ftk : Nat → Int32) (gln : Int32) (gtk : Nat → Int32) (fa : Nat → Int32) (K : Int32 → (Nat → Nat → Int32) → Prop) (rc : Int32 → (Nat → Nat → Int32) → Prop) (v2 : Int32) (tb : Nat → Nat → Int32) : Prop :=
  (fln < v2 → K v2 tb) ∧ (¬ fln < v2 → (∃ n : Nat, P_X1_measure_15 fN v2 ld fln ftk gln gtk fa (fun w3_10 tb_10 => rc (v2 + (1 : Int32)) tb_10) n (0 : Int32) tb))
def P_X1_measure_2 (fN : Nat) (ld : Int32) (fln : Int32) (ftk : Nat → Int32) (gln : Int32) (gtk : Nat → Int32) (fa : Nat → Int32) (K : Int32 → (Nat → Nat → Int32) → Prop) : Nat → Int32 → (Nat → Nat → Int32) → Prop
  | 0 => fun _ _ => False
  | n + 1 => fun v2 tb => B_X1_measure_2 fN ld fln ftk gln gtk fa K (P_X1_measure_2 fN ld fln ftk gln gtk fa K n) v2 tb
def P_X1_measure (fN : Nat) (ld : Int32) (fln : Int32) (ftk : Nat → Int32) (gln : Int32) (gtk : Nat → Int32) (tb : Nat → Nat → Int32) (fa : Nat → Int32) (post : Int32 → (Nat → Nat → Int32) → Prop) : Prop :=
  ∃ n : Nat, P_X1_measure_2 fN ld fln ftk gln gtk fa (fun w2_11 tb_11 => vp_in fln 9 ∧ (vp_in gln 9 ∧ (post (tb_11 (Int32.toNatClampNeg fln) (gln).toNatClampNeg) tb_11))) n (0 : Int32) tb
set_option maxHeartbeats 4000000 in
set_option maxRecDepth 100000 in
theorem L_X1_measure_45 {l : Launch} {D : va_G} {cI cS cT : ClassId} {ad : Nat → Nat} {b0 : Nat} {b1 : Nat} {E : CE} {fN : Nat} {v3 : Int32} {v2 : Int32} {ld : Int32} {fln : Int32} {ftk : Nat → Int32} {gln : Int32} {gtk : Nat → Int32} {tb : Nat → Nat → Int32} {fa : Nat → Int32} {post : Int32 → (Nat → Nat → Int32) → Prop} (hC : Cx l D (TY cI cS cT) E rm_X1_measure cX1_measure RX1) (hR : RetI D E (fun (r : Int32) w => ∃ (u_tb : Nat → Nat → Int32), w = (Wd_X1_measure cI cS cT ad b0 b1 fN ld fln ftk gln gtk u_tb fa) ∧ post r u_tb) 0 0 (some .int)) (hn : E.nL = 6) (K : Int32 → Int32 → Prop) (hK : ∀ (v5 : Int32) (v4 : Int32), K v5 v4 → G l D E 0 0 (Wd_X1_measure cI cS cT ad b0 b1 fN ld fln ftk gln gtk tb fa) [(5, .int v5), (4, .int v4), (3, .int v3), (2, .int v2), (0, .ref (ad b0)), (1, .ref (ad b1))] 73 []) : ∀ (n : Nat) (v5 : Int32) (v4 : Int32), P_X1_measure_45 fN v3 v2 ld fln ftk gln gtk tb fa K n v5 v4 → G l D E 0 0 (Wd_X1_measure cI cS cT ad b0 b1 fN ld fln ftk gln gtk tb fa) [(5, .int v5), (4, .int v4), (3, .int v3), (2, .int v2), (0, .ref (ad b0)), (1, .ref (ad b1))] 45 [] := by
  intro n
  induction n with
  | zero => exact fun _ _ h => h.elim
  | succ n ih =>
    intro v5 v4 h
    replace h : B_X1_measure_45 fN v3 v2 ld fln ftk gln gtk tb fa K (P_X1_measure_45 fN v3 v2 ld fln ftk gln gtk tb fa K n) v5 v4 := h
    unfold B_X1_measure_45 at h
    refine g_iload 45 0 hC dX1_measure_45 rfl ?_
    refine g_iconst (v := (4 : Int32)) 47 hC dX1_measure_47 (by decide) ?_
    refine g_icmp_gt 48 73 hC dX1_measure_48 (by decide) (fun hc => ?_) (fun hc => ?_)
    · replace h := h.1 hc
      refine G.sub [0, 1, 2, 3, 4, 5] rfl ?_
      exact hK v5 v4 h
    · replace h := h.2 hc
      refine g_iload 51 1 hC dX1_measure_51 rfl ?_
      refine g_aload_n 53 4 hC dX1_measure_53 rfl ?_
      refine g_iload 54 0 hC dX1_measure_54 rfl ?_
      refine g_iload_n 56 3 hC dX1_measure_56 rfl ?_
      refine g_iload_n 57 2 hC dX1_measure_57 rfl ?_
      refine g_aload_n 58 5 hC dX1_measure_58 rfl ?_
      refine g_cVi (As := [.int v5, .int v2, .int v3, .ref (ad b1)]) (rest := [.int v4]) 59 0 [0, 1, 2, 3, 4, 5, 6, 7, 8, 9, 10, 11, 12, 13, 14, 15] hC (c_X1_by l D cI cS cT ad b0 b1 fN v5 v2 v3 ld fln ftk gln gtk tb fa _ h) kX1_by wq_174 dX1_measure_59 rfl rfl ⟨Nat.le_of_ble_eq_true rfl, Nat.le_of_ble_eq_true rfl⟩ rfl rfl (Nat.zero_le _) (Nat.zero_le _) rfl rfl rfl (Nat.le_of_ble_eq_true rfl) ?_
      rintro r1 _ ⟨rfl, h⟩
      refine ⟨Nat.le_of_ble_eq_true rfl, G.upd [] (Wd_X1_measure cI cS cT ad b0 b1 fN ld fln ftk gln gtk tb fa) rfl rfl rfl rfl rfl ?_⟩
      refine g_min 62 hC wq_173 dX1_measure_62 (Nat.le_of_ble_eq_true rfl) (Nat.le_of_ble_eq_true rfl) (Nat.zero_le _) (Nat.zero_le _) ?_
      refine g_istore 65 [(4, .int (if r1 < v4 then r1 else v4)), (5, .int v5), (3, .int v3), (2, .int v2), (0, .ref (ad b0)), (1, .ref (ad b1))] hC dX1_measure_65 (by rw [hn]; decide) rfl ?_
      refine g_iinc (v := (1 : Int32)) 67 1 [(5, .int (v5 + (1 : Int32))), (4, .int (if r1 < v4 then r1 else v4)), (3, .int v3), (2, .int v2), (0, .ref (ad b0)), (1, .ref (ad b1))] hC dX1_measure_67 rfl (by decide) (by rw [hn]; decide) rfl ?_
      refine g_goto 70 45 hC dX1_measure_70 (by decide) ?_
      refine G.sub [0, 1, 2, 3, 4, 5] rfl ?_
      exact ih _ _ h
set_option maxHeartbeats 4000000 in
set_option maxRecDepth 100000 in
theorem L_X1_measure_15 {l : Launch} {D : va_G} {cI cS cT : ClassId} {ad : Nat → Nat} {b0 : Nat} {b1 : Nat} {E : CE} {fN : Nat} {v2 : Int32} {ld : Int32} {fln : Int32} {ftk : Nat → Int32} {gln : Int32} {gtk : Nat → Int32} {fa : Nat → Int32} {post : Int32 → (Nat → Nat → Int32) → Prop} (hC : Cx l D (TY cI cS cT) E rm_X1_measure cX1_measure RX1) (hR : RetI D E (fun (r : Int32) w => ∃ (u_tb : Nat → Nat → Int32), w = (Wd_X1_measure cI cS cT ad b0 b1 fN ld fln ftk gln gtk u_tb fa) ∧ post r u_tb) 0 0 (some .int)) (hn : E.nL = 6) (K : Int32 → (Nat → Nat → Int32) → Prop) (hK : ∀ (v3 : Int32) (tb : Nat → Nat → Int32), K v3 tb → G l D E 0 0 (Wd_X1_measure cI cS cT ad b0 b1 fN ld fln ftk gln gtk tb fa) [(3, .int v3), (2, .int v2), (0, .ref (ad b0)), (1, .ref (ad b1))] 89 []) : ∀ (n : Nat) (v3 : Int32) (tb : Nat → Nat → Int32), P_X1_measure_15 fN v2 ld fln ftk gln gtk fa K n v3 tb → G l D E 0 0 (Wd_X1_measure cI cS cT ad b0 b1 fN ld fln ftk gln gtk tb fa) [(3, .int v3), (2, .int v2), (0, .ref (ad b0)), (1, .ref (ad b1))] 15 [] := by
  intro n
  induction n with
  | zero => exact fun _ _ h => h.elim
  | succ n ih =>
    intro v3 tb h
    replace h : B_X1_measure_15 fN v2 ld fln ftk gln gtk fa K (P_X1_measure_15 fN v2 ld fln ftk gln gtk fa K n) v3 tb := h
    unfold B_X1_measure_15 at h
    refine g_iload_n 15 0 hC dX1_measure_15 rfl ?_
    refine g_aload_n 16 2 hC dX1_measure_16 rfl ?_
    refine g_get 17 0 1 hC inlX1 wq_71 dX1_measure_17 rfl rfl (by decide) rfl ?_
    refine g_getN 20 3 1 hC inlX5 nq_30 dX1_measure_20 rfl rfl (by decide) rfl ?_
    refine g_icmp_gt 23 89 hC dX1_measure_23 (by decide) (fun hc => ?_) (fun hc => ?_)
    · replace h := h.1 hc
      refine G.sub [0, 1, 2, 3] rfl ?_
      exact hK v3 tb h
    · replace h := h.2 hc
      refine g_iload_n 26 1 hC dX1_measure_26 rfl ?_
      refine g_if_ne 27 38 hC dX1_measure_27 (by decide) (fun hc => ?_) (fun hc => ?_)
      · replace h := h.1 hc
        refine g_ldc 38 hC dX1_measure_38 wq_172 ?_
        refine g_istore 40 [(4, .int (1000000 : Int32)), (3, .int v3), (2, .int v2), (0, .ref (ad b0)), (1, .ref (ad b1))] hC dX1_measure_40 (by rw [hn]; decide) rfl ?_
        refine g_iconst (v := (1 : Int32)) 42 hC dX1_measure_42 (by decide) ?_
        refine g_istore 43 [(5, .int (1 : Int32)), (4, .int (1000000 : Int32)), (3, .int v3), (2, .int v2), (0, .ref (ad b0)), (1, .ref (ad b1))] hC dX1_measure_43 (by rw [hn]; decide) rfl ?_
        obtain ⟨n, h⟩ := h
        refine L_X1_measure_45 hC hR hn _ (fun w5_2 w4_2 h => ?_) n _ _ h
        refine g_aload_n 73 4 hC dX1_measure_73 rfl ?_
        refine g_get 74 0 2 hC inlX1 wq_73 dX1_measure_74 rfl rfl (by decide) rfl ?_
        refine g_iload_n 77 3 hC dX1_measure_77 rfl ?_
        obtain ⟨hj, h⟩ := h
        have hk3 := vpLt hj
        refine g_aald 78 5 2 hC dX1_measure_78 rfl rfl rfl hj (if_pos hk3) ?_
        refine g_iload_n 79 2 hC dX1_measure_79 rfl ?_
        refine g_iload 80 1 hC dX1_measure_80 rfl ?_
        obtain ⟨hj, h⟩ := h
        refine g_iast 82 (6 + (Int32.toNatClampNeg v2)) (Wd_X1_measure cI cS cT ad b0 b1 fN ld fln ftk gln gtk (va_up tb (Int32.toNatClampNeg v2) (upd (tb (Int32.toNatClampNeg v2)) (Int32.toNatClampNeg v3) w4_2)) fa) hC dX1_measure_82 (row9 (P := fun kk => (Wd_X1_measure cI cS cT ad b0 b1 fN ld fln ftk gln gtk tb fa)[6 + kk]? = some (ad (b0 + 6 + kk), .inl (cI, 9, .inl (tb kk)))) hk3 rfl rfl rfl rfl rfl rfl rfl rfl rfl) rfl hj (row9 (P := fun kk => (Wd_X1_measure cI cS cT ad b0 b1 fN ld fln ftk gln gtk tb fa).set (6 + kk) (ad (b0 + 6 + kk), .inl (cI, 9, .inl (upd (tb kk) (Int32.toNatClampNeg v3) w4_2))) = (Wd_X1_measure cI cS cT ad b0 b1 fN ld fln ftk gln gtk (va_up tb kk (upd (tb kk) (Int32.toNatClampNeg v3) w4_2)) fa)) hk3 rfl rfl rfl rfl rfl rfl rfl rfl rfl) ?_
        refine g_iinc (v := (1 : Int32)) 83 2 [(3, .int (v3 + (1 : Int32))), (5, .int w5_2), (4, .int w4_2), (2, .int v2), (0, .ref (ad b0)), (1, .ref (ad b1))] hC dX1_measure_83 rfl (by decide) (by rw [hn]; decide) rfl ?_
        refine g_goto 86 15 hC dX1_measure_86 (by decide) ?_
        refine G.sub [0, 3, 4, 5] rfl ?_
        exact ih _ _ h
      · replace h := h.2 hc
        refine g_iload_n 30 0 hC dX1_measure_30 rfl ?_
        refine g_if_ne 31 38 hC dX1_measure_31 (by decide) (fun hc => ?_) (fun hc => ?_)
        · replace h := h.1 hc
          refine g_ldc 38 hC dX1_measure_38 wq_172 ?_
          refine g_istore 40 [(4, .int (1000000 : Int32)), (3, .int v3), (2, .int v2), (0, .ref (ad b0)), (1, .ref (ad b1))] hC dX1_measure_40 (by rw [hn]; decide) rfl ?_
          refine g_iconst (v := (1 : Int32)) 42 hC dX1_measure_42 (by decide) ?_
          refine g_istore 43 [(5, .int (1 : Int32)), (4, .int (1000000 : Int32)), (3, .int v3), (2, .int v2), (0, .ref (ad b0)), (1, .ref (ad b1))] hC dX1_measure_43 (by rw [hn]; decide) rfl ?_
          obtain ⟨n, h⟩ := h
          refine L_X1_measure_45 hC hR hn _ (fun w5_5 w4_5 h => ?_) n _ _ h
          refine g_aload_n 73 4 hC dX1_measure_73 rfl ?_
          refine g_get 74 0 2 hC inlX1 wq_73 dX1_measure_74 rfl rfl (by decide) rfl ?_
          refine g_iload_n 77 3 hC dX1_measure_77 rfl ?_
          obtain ⟨hj, h⟩ := h
          have hk6 := vpLt hj
          refine g_aald 78 5 2 hC dX1_measure_78 rfl rfl rfl hj (if_pos hk6) ?_
          refine g_iload_n 79 2 hC dX1_measure_79 rfl ?_
          refine g_iload 80 1 hC dX1_measure_80 rfl ?_
          obtain ⟨hj, h⟩ := h
          refine g_iast 82 (6 + (Int32.toNatClampNeg v2)) (Wd_X1_measure cI cS cT ad b0 b1 fN ld fln ftk gln gtk (va_up tb (Int32.toNatClampNeg v2) (upd (tb (Int32.toNatClampNeg v2)) (Int32.toNatClampNeg v3) w4_5)) fa) hC dX1_measure_82 (row9 (P := fun kk => (Wd_X1_measure cI cS cT ad b0 b1 fN ld fln ftk gln gtk tb fa)[6 + kk]? = some (ad (b0 + 6 + kk), .inl (cI, 9, .inl (tb kk)))) hk6 rfl rfl rfl rfl rfl rfl rfl rfl rfl) rfl hj (row9 (P := fun kk => (Wd_X1_measure cI cS cT ad b0 b1 fN ld fln ftk gln gtk tb fa).set (6 + kk) (ad (b0 + 6 + kk), .inl (cI, 9, .inl (upd (tb kk) (Int32.toNatClampNeg v3) w4_5))) = (Wd_X1_measure cI cS cT ad b0 b1 fN ld fln ftk gln gtk (va_up tb kk (upd (tb kk) (Int32.toNatClampNeg v3) w4_5)) fa)) hk6 rfl rfl rfl rfl rfl rfl rfl rfl rfl) ?_
          refine g_iinc (v := (1 : Int32)) 83 2 [(3, .int (v3 + (1 : Int32))), (5, .int w5_5), (4, .int w4_5), (2, .int v2), (0, .ref (ad b0)), (1, .ref (ad b1))] hC dX1_measure_83 rfl (by decide) (by rw [hn]; decide) rfl ?_
          refine g_goto 86 15 hC dX1_measure_86 (by decide) ?_
          refine G.sub [0, 3, 4, 5] rfl ?_
          exact ih _ _ h
        · replace h := h.2 hc
          refine g_iconst (v := (0 : Int32)) 34 hC dX1_measure_34 (by decide) ?_
          refine g_goto 35 40 hC dX1_measure_35 (by decide) ?_
          refine g_istore 40 [(4, .int (0 : Int32)), (3, .int v3), (2, .int v2), (0, .ref (ad b0)), (1, .ref (ad b1))] hC dX1_measure_40 (by rw [hn]; decide) rfl ?_
          refine g_iconst (v := (1 : Int32)) 42 hC dX1_measure_42 (by decide) ?_
          refine g_istore 43 [(5, .int (1 : Int32)), (4, .int (0 : Int32)), (3, .int v3), (2, .int v2), (0, .ref (ad b0)), (1, .ref (ad b1))] hC dX1_measure_43 (by rw [hn]; decide) rfl ?_
          obtain ⟨n, h⟩ := h
          refine L_X1_measure_45 hC hR hn _ (fun w5_8 w4_8 h => ?_) n _ _ h
          refine g_aload_n 73 4 hC dX1_measure_73 rfl ?_
          refine g_get 74 0 2 hC inlX1 wq_73 dX1_measure_74 rfl rfl (by decide) rfl ?_
          refine g_iload_n 77 3 hC dX1_measure_77 rfl ?_
          obtain ⟨hj, h⟩ := h
          have hk9 := vpLt hj
          refine g_aald 78 5 2 hC dX1_measure_78 rfl rfl rfl hj (if_pos hk9) ?_
          refine g_iload_n 79 2 hC dX1_measure_79 rfl ?_
          refine g_iload 80 1 hC dX1_measure_80 rfl ?_
          obtain ⟨hj, h⟩ := h
          refine g_iast 82 (6 + (Int32.toNatClampNeg v2)) (Wd_X1_measure cI cS cT ad b0 b1 fN ld fln ftk gln gtk (va_up tb (Int32.toNatClampNeg v2) (upd (tb (Int32.toNatClampNeg v2)) (Int32.toNatClampNeg v3) w4_8)) fa) hC dX1_measure_82 (row9 (P := fun kk => (Wd_X1_measure cI cS cT ad b0 b1 fN ld fln ftk gln gtk tb fa)[6 + kk]? = some (ad (b0 + 6 + kk), .inl (cI, 9, .inl (tb kk)))) hk9 rfl rfl rfl rfl rfl rfl rfl rfl rfl) rfl hj (row9 (P := fun kk => (Wd_X1_measure cI cS cT ad b0 b1 fN ld fln ftk gln gtk tb fa).set (6 + kk) (ad (b0 + 6 + kk), .inl (cI, 9, .inl (upd (tb kk) (Int32.toNatClampNeg v3) w4_8))) = (Wd_X1_measure cI cS cT ad b0 b1 fN ld fln ftk gln gtk (va_up tb kk (upd (tb kk) (Int32.toNatClampNeg v3) w4_8)) fa)) hk9 rfl rfl rfl rfl rfl rfl rfl rfl rfl) ?_
          refine g_iinc (v := (1 : Int32)) 83 2 [(3, .int (v3 + (1 : Int32))), (5, .int w5_8), (4, .int w4_8), (2, .int v2), (0, .ref (ad b0)), (1, .ref (ad b1))] hC dX1_measure_83 rfl (by decide) (by rw [hn]; decide) rfl ?_
          refine g_goto 86 15 hC dX1_measure_86 (by decide) ?_
          refine G.sub [0, 3, 4, 5] rfl ?_
          exact ih _ _ h
set_option maxHeartbeats 4000000 in
set_option maxRecDepth 100000 in
theorem L_X1_measure_2 {l : Launch} {D : va_G} {cI cS cT : ClassId} {ad : Nat → Nat} {b0 : Nat} {b1 : Nat} {E : CE} {fN : Nat} {ld : Int32} {fln : Int32} {ftk : Nat → Int32} {gln : Int32} {gtk : Nat → Int32} {fa : Nat → Int32} {post : Int32 → (Nat → Nat → Int32) → Prop} (hC : Cx l D (TY cI cS cT) E rm_X1_measure cX1_measure RX1) (hR : RetI D E (fun (r : Int32) w => ∃ (u_tb : Nat → Nat → Int32), w = (Wd_X1_measure cI cS cT ad b0 b1 fN ld fln ftk gln gtk u_tb fa) ∧ post r u_tb) 0 0 (some .int)) (hn : E.nL = 6) (K : Int32 → (Nat → Nat → Int32) → Prop) (hK : ∀ (v2 : Int32) (tb : Nat → Nat → Int32), K v2 tb → G l D E 0 0 (Wd_X1_measure cI cS cT ad b0 b1 fN ld fln ftk gln gtk tb fa) [(2, .int v2), (0, .ref (ad b0)), (1, .ref (ad b1))] 95 []) : ∀ (n : Nat) (v2 : Int32) (tb : Nat → Nat → Int32), P_X1_measure_2 fN ld fln ftk gln gtk fa K n v2 tb → G l D E 0 0 (Wd_X1_measure cI cS cT ad b0 b1 fN ld fln ftk gln gtk tb fa) [(2, .int v2), (0, .ref (ad b0)), (1, .ref (ad b1))] 2 [] := by
  intro n
  induction n with
  | zero => exact fun _ _ h => h.elim
  | succ n ih =>
    intro v2 tb h
    replace h : B_X1_measure_2 fN ld fln ftk gln gtk fa K (P_X1_measure_2 fN ld fln ftk gln gtk fa K n) v2 tb := h
    unfold B_X1_measure_2 at h
    refine g_iload_n 2 0 hC dX1_measure_2 rfl ?_
    refine g_aload_n 3 1 hC dX1_measure_3 rfl ?_
    refine g_get 4 0 0 hC inlX1 wq_70 dX1_measure_4 rfl rfl (by decide) rfl ?_
    refine g_getN 7 1 1 hC inlX5 nq_30 dX1_measure_7 rfl rfl (by decide) rfl ?_
    refine g_icmp_gt 10 95 hC dX1_measure_10 (by decide) (fun hc => ?_) (fun hc => ?_)
    · replace h := h.1 hc
      refine G.sub [0, 1, 2] rfl ?_
      exact hK v2 tb h
    · replace h := h.2 hc
      refine g_iconst (v := (0 : Int32)) 13 hC dX1_measure_13 (by decide) ?_
      refine g_istore_n 14 [(3, .int (0 : Int32)), (2, .int v2), (0, .ref (ad b0)), (1, .ref (ad b1))] hC dX1_measure_14 (by rw [hn]; decide) rfl ?_
      obtain ⟨n, h⟩ := h
      refine L_X1_measure_15 hC hR hn _ (fun w3_10 tb_10 h => ?_) n _ _ h
      refine g_iinc (v := (1 : Int32)) 89 1 [(2, .int (v2 + (1 : Int32))), (3, .int w3_10), (0, .ref (ad b0)), (1, .ref (ad b1))] hC dX1_measure_89 rfl (by decide) (by rw [hn]; decide) rfl ?_
      refine g_goto 92 2 hC dX1_measure_92 (by decide) ?_
      refine G.sub [0, 2, 3] rfl ?_
      exact ih _ _ h
set_option maxHeartbeats 4000000 in
set_option maxRecDepth 100000 in
theorem c_X1_measure (l : Launch) (D : va_G) (cI cS cT : ClassId) (ad : Nat → Nat) (b0 : Nat) (b1 : Nat) (fN : Nat) (ld : Int32) (fln : Int32) (ftk : Nat → Int32) (gln : Int32) (gtk : Nat → Int32) (tb : Nat → Nat → Int32) (fa : Nat → Int32) (post : Int32 → (Nat → Nat → Int32) → Prop) (h : P_X1_measure fN ld fln ftk gln gtk tb fa post) : MI l D (TY cI cS cT) yX1_measure cX1_measure 6 (some .int) rm_X1_measure [.ref (ad b0), .ref (ad b1)] (Wd_X1_measure cI cS cT ad b0 b1 fN ld fln ftk gln gtk tb fa) (fun (r : Int32) w => ∃ (u_tb : Nat → Nat → Int32), w = (Wd_X1_measure cI cS cT ad b0 b1 fN ld fln ftk gln gtk u_tb fa) ∧ post r u_tb) := by
  refine MI.of (by decide) (Nat.le_of_ble_eq_true rfl) (fun E hC hR hn => ?_)
  replace hC : Cx l D (TY cI cS cT) E rm_X1_measure cX1_measure RX1 := hC
  replace hR : RetI D E (fun (r : Int32) w => ∃ (u_tb : Nat → Nat → Int32), w = (Wd_X1_measure cI cS cT ad b0 b1 fN ld fln ftk gln gtk u_tb fa) ∧ post r u_tb) 0 0 (some .int) := hR
  unfold P_X1_measure at h
  change G l D E 0 0 _ [(0, .ref (ad b0)), (1, .ref (ad b1))] 0 []
  refine g_iconst (v := (0 : Int32)) 0 hC dX1_measure_0 (by decide) ?_
  refine g_istore_n 1 [(2, .int (0 : Int32)), (0, .ref (ad b0)), (1, .ref (ad b1))] hC dX1_measure_1 (by rw [hn]; decide) rfl ?_
  obtain ⟨n, h⟩ := h
  refine L_X1_measure_2 hC hR hn _ (fun w2_11 tb_11 h => ?_) n _ _ h
  refine g_aload_n 95 1 hC dX1_measure_95 rfl ?_
  refine g_get 96 0 2 hC inlX1 wq_73 dX1_measure_96 rfl rfl (by decide) rfl ?_
  refine g_aload_n 99 1 hC dX1_measure_99 rfl ?_
  refine g_get 100 0 0 hC inlX1 wq_70 dX1_measure_100 rfl rfl (by decide) rfl ?_
  refine g_getN 103 1 1 hC inlX5 nq_30 dX1_measure_103 rfl rfl (by decide) rfl ?_
  obtain ⟨hj, h⟩ := h
  have hk12 := vpLt hj
  refine g_aald 106 5 2 hC dX1_measure_106 rfl rfl rfl hj (if_pos hk12) ?_
  refine g_aload_n 107 1 hC dX1_measure_107 rfl ?_
  refine g_get 108 0 1 hC inlX1 wq_71 dX1_measure_108 rfl rfl (by decide) rfl ?_
  refine g_getN 111 3 1 hC inlX5 nq_30 dX1_measure_111 rfl rfl (by decide) rfl ?_
  obtain ⟨hj, h⟩ := h
  refine g_iald 114 (6 + (Int32.toNatClampNeg fln)) hC dX1_measure_114 (row9 (P := fun kk => (Wd_X1_measure cI cS cT ad b0 b1 fN ld fln ftk gln gtk tb_11 fa)[6 + kk]? = some (ad (b0 + 6 + kk), .inl (cI, 9, .inl (tb_11 kk)))) hk12 rfl rfl rfl rfl rfl rfl rfl rfl rfl) rfl hj ?_
  exact g_iret 115 hC hR dX1_measure_115 ⟨tb_11, rfl, h⟩

/-! ===== ProverbCollection$Edits.between(LProverbCollection$State;II)I ===== -/
def Wd_X1_between (cI cS cT : ClassId) (ad : Nat → Nat) (b0 : Nat) (b1 : Nat) (ld : Int32) (fln : Int32) (ftk : Nat → Int32) (gln : Int32) (gtk : Nat → Int32) (tb : Nat → Nat → Int32) (nli : Int32) (nsct : Int32) (nstk : Nat → Int32) (nsle : Nat → Int32) (nco : Nat → Int32) : va_W := [(ad b0, .inr (1, [.ref (ad (b0 + 1)), .ref (ad (b0 + 3)), .ref (ad (b0 + 5)), .ref (ad (b0 + 15)), .int ld])), (ad (b0 + 1), .inr (5, [.ref (ad (b0 + 2)), .int fln])), (ad (b0 + 2), .inl (cI, 8, .inl ftk)), (ad (b0 + 3), .inr (5, [.ref (ad (b0 + 4)), .int gln])), (ad (b0 + 4), .inl (cI, 8, .inl gtk)), (ad (b0 + 5), .inl (cT, 9, .inr (.inr (.inr (.inr (fun i => if i < 9 then some (ad (b0 + 6 + i)) else none)))))), (ad (b0 + 6 + 0), .inl (cI, 9, .inl (tb 0))), (ad (b0 + 6 + 1), .inl (cI, 9, .inl (tb 1))), (ad (b0 + 6 + 2), .inl (cI, 9, .inl (tb 2))), (ad (b0 + 6 + 3), .inl (cI, 9, .inl (tb 3))), (ad (b0 + 6 + 4), .inl (cI, 9, .inl (tb 4))), (ad (b0 + 6 + 5), .inl (cI, 9, .inl (tb 5))), (ad (b0 + 6 + 6), .inl (cI, 9, .inl (tb 6))), (ad (b0 + 6 + 7), .inl (cI, 9, .inl (tb 7))), (ad (b0 + 6 + 8), .inl (cI, 9, .inl (tb 8))), (ad b1, .inr (7, [.ref (ad (b1 + 1)), .ref (ad (b1 + 4)), .ref (ad (b1 + 5)), .ref (ad (b1 + 6)), .ref (ad (b1 + 9)), .int nli])), (ad (b1 + 1), .inr (6, [.int 12, .ref (ad (b1 + 2)), .ref (ad (b1 + 3)), .int nsct])), (ad (b1 + 2), .inl (cI, 96, .inl nstk)), (ad (b1 + 3), .inl (cI, 12, .inl nsle)), (ad (b1 + 9), .inl (cI, 4, .inl nco))]
def rm_X1_between : Room := { frames := 4, cells := 0, slots := 0, locals := 96 }
theorem kX1_between : KV yX1_between cX1_between 4 (some .int) 3 := ⟨wq_151, wq_24, wq_149, wq_150, by decide +kernel⟩
def P_X1_between (x2 : Int32) (x3 : Int32) (ld : Int32) (fln : Int32) (ftk : Nat → Int32) (gln : Int32) (gtk : Nat → Int32) (tb : Nat → Nat → Int32) (nli : Int32) (nsct : Int32) (nstk : Nat → Int32) (nsle : Nat → Int32) (nco : Nat → Int32) (post : Int32 → Int32 → (Nat → Int32) → Int32 → (Nat → Int32) → (Nat → Nat → Int32) → Prop) : Prop :=
  P_X6_load (12 : Int32) 96 12 x2 nsct nstk nsle fln ftk (fun u1 u2 => P_X6_load (12 : Int32) 96 12 x3 nsct nstk nsle gln gtk (fun u4 u5 => P_X1_measure 4 ld u1 u2 u4 u5 tb nco (fun r8 u7 => post r8 u1 u2 u4 u5 u7)))
set_option maxHeartbeats 4000000 in
set_option maxRecDepth 100000 in
theorem c_X1_between (l : Launch) (D : va_G) (cI cS cT : ClassId) (ad : Nat → Nat) (b0 : Nat) (b1 : Nat) (x2 : Int32) (x3 : Int32) (ld : Int32) (fln : Int32) (ftk : Nat → Int32) (gln : Int32) (gtk : Nat → Int32) (tb : Nat → Nat → Int32) (nli : Int32) (nsct : Int32) (nstk : Nat → Int32) (nsle : Nat → Int32) (nco : Nat → Int32) (post : Int32 → Int32 → (Nat → Int32) → Int32 → (Nat → Int32) → (Nat → Nat → Int32) → Prop) (h : P_X1_between x2 x3 ld fln ftk gln gtk tb nli nsct nstk nsle nco post) : MI l D (TY cI cS cT) yX1_between cX1_between 4 (some .int) rm_X1_between [.ref (ad b0), .ref (ad b1), .int x2, .int x3] (Wd_X1_between cI cS cT ad b0 b1 ld fln ftk gln gtk tb nli nsct nstk nsle nco) (fun (r : Int32) w => ∃ (u_fln : Int32) (u_ftk : Nat → Int32) (u_gln : Int32) (u_gtk : Nat → Int32) (u_tb : Nat → Nat → Int32), w = (Wd_X1_between cI cS cT ad b0 b1 ld u_fln u_ftk u_gln u_gtk u_tb nli nsct nstk nsle nco) ∧ post r u_fln u_ftk u_gln u_gtk u_tb) := by
  refine MI.of (by decide) (Nat.le_of_ble_eq_true rfl) (fun E hC hR hn => ?_)
  replace hC : Cx l D (TY cI cS cT) E rm_X1_between cX1_between RX1 := hC
  replace hR : RetI D E (fun (r : Int32) w => ∃ (u_fln : Int32) (u_ftk : Nat → Int32) (u_gln : Int32) (u_gtk : Nat → Int32) (u_tb : Nat → Nat → Int32), w = (Wd_X1_between cI cS cT ad b0 b1 ld u_fln u_ftk u_gln u_gtk u_tb nli nsct nstk nsle nco) ∧ post r u_fln u_ftk u_gln u_gtk u_tb) 0 0 (some .int) := hR
  unfold P_X1_between at h
  change G l D E 0 0 _ [(0, .ref (ad b0)), (1, .ref (ad b1)), (2, .int x2), (3, .int x3)] 0 []
  refine g_aload_n 0 1 hC dX1_between_0 rfl ?_
  refine g_getN 1 15 0 hC inlX7 nq_67 dX1_between_1 rfl rfl (by decide) rfl ?_
  refine g_iload_n 4 2 hC dX1_between_4 rfl ?_
  refine g_aload_n 5 0 hC dX1_between_5 rfl ?_
  refine g_get 6 0 0 hC inlX1 wq_70 dX1_between_6 rfl rfl (by decide) rfl ?_
  refine g_cVNv (As := [.int x2, .ref (ad (b0 + 1))]) (rest := []) 9 16 [16, 17, 18, 1, 2] hC (c_X6_load l D cI cS cT ad (b1 + 1) (b0 + 1) (12 : Int32) 96 12 x2 nsct nstk nsle fln ftk _ h) kX6_load nq_331 dX1_between_9 rfl rfl ⟨Nat.le_of_ble_eq_true rfl, Nat.le_of_ble_eq_true rfl⟩ rfl rfl (Nat.zero_le _) (Nat.zero_le _) rfl rfl rfl (Nat.le_of_ble_eq_true rfl) ?_
  rintro _ ⟨u1, u2, rfl, h⟩
  refine ⟨Nat.le_of_ble_eq_true rfl, G.upd [0, 3, 4, 5, 6, 7, 8, 9, 10, 11, 12, 13, 14, 15, 19] (Wd_X1_between cI cS cT ad b0 b1 ld u1 u2 gln gtk tb nli nsct nstk nsle nco) rfl rfl rfl rfl rfl ?_⟩
  refine g_aload_n 12 1 hC dX1_between_12 rfl ?_
  refine g_getN 13 15 0 hC inlX7 nq_67 dX1_between_13 rfl rfl (by decide) rfl ?_
  refine g_iload_n 16 3 hC dX1_between_16 rfl ?_
  refine g_aload_n 17 0 hC dX1_between_17 rfl ?_
  refine g_get 18 0 1 hC inlX1 wq_71 dX1_between_18 rfl rfl (by decide) rfl ?_
  refine g_cVNv (As := [.int x3, .ref (ad (b0 + 3))]) (rest := []) 21 16 [16, 17, 18, 3, 4] hC (c_X6_load l D cI cS cT ad (b1 + 1) (b0 + 3) (12 : Int32) 96 12 x3 nsct nstk nsle gln gtk _ h) kX6_load nq_331 dX1_between_21 rfl rfl ⟨Nat.le_of_ble_eq_true rfl, Nat.le_of_ble_eq_true rfl⟩ rfl rfl (Nat.zero_le _) (Nat.zero_le _) rfl rfl rfl (Nat.le_of_ble_eq_true rfl) ?_
  rintro _ ⟨u4, u5, rfl, h⟩
  refine ⟨Nat.le_of_ble_eq_true rfl, G.upd [0, 1, 2, 5, 6, 7, 8, 9, 10, 11, 12, 13, 14, 15, 19] (Wd_X1_between cI cS cT ad b0 b1 ld u1 u2 u4 u5 tb nli nsct nstk nsle nco) rfl rfl rfl rfl rfl ?_⟩
  refine g_aload_n 24 0 hC dX1_between_24 rfl ?_
  refine g_aload_n 25 1 hC dX1_between_25 rfl ?_
  refine g_getN 26 15 4 hC inlX7 nq_75 dX1_between_26 rfl rfl (by decide) rfl ?_
  refine g_cVi (As := [.ref (ad (b1 + 9))]) (rest := []) 29 0 [0, 1, 2, 3, 4, 5, 6, 7, 8, 9, 10, 11, 12, 13, 14, 19] hC (c_X1_measure l D cI cS cT ad b0 (b1 + 9) 4 ld u1 u2 u4 u5 tb nco _ h) kX1_measure wq_168 dX1_between_29 rfl rfl ⟨Nat.le_of_ble_eq_true rfl, Nat.le_of_ble_eq_true rfl⟩ rfl rfl (Nat.zero_le _) (Nat.zero_le _) rfl rfl rfl (Nat.le_of_ble_eq_true rfl) ?_
  rintro r8 _ ⟨u7, rfl, h⟩
  refine ⟨Nat.le_of_ble_eq_true rfl, G.upd [15, 16, 17, 18] (Wd_X1_between cI cS cT ad b0 b1 ld u1 u2 u4 u5 u7 nli nsct nstk nsle nco) rfl rfl rfl rfl rfl ?_⟩
  exact g_iret 32 hC hR dX1_between_32 ⟨u1, u2, u4, u5, u7, rfl, h⟩

/-! ===== ProverbCollection$Edits.lastStep(II[I)I ===== -/
def Wd_X1_lastStep (cI cS cT : ClassId) (ad : Nat → Nat) (b0 : Nat) (b1 : Nat) (fN : Nat) (ld : Int32) (fln : Int32) (ftk : Nat → Int32) (gln : Int32) (gtk : Nat → Int32) (tb : Nat → Nat → Int32) (fa : Nat → Int32) : va_W := [(ad b0, .inr (1, [.ref (ad (b0 + 1)), .ref (ad (b0 + 3)), .ref (ad (b0 + 5)), .ref (ad (b0 + 15)), .int ld])), (ad (b0 + 1), .inr (5, [.ref (ad (b0 + 2)), .int fln])), (ad (b0 + 2), .inl (cI, 8, .inl ftk)), (ad (b0 + 3), .inr (5, [.ref (ad (b0 + 4)), .int gln])), (ad (b0 + 4), .inl (cI, 8, .inl gtk)), (ad (b0 + 5), .inl (cT, 9, .inr (.inr (.inr (.inr (fun i => if i < 9 then some (ad (b0 + 6 + i)) else none)))))), (ad (b0 + 6 + 0), .inl (cI, 9, .inl (tb 0))), (ad (b0 + 6 + 1), .inl (cI, 9, .inl (tb 1))), (ad (b0 + 6 + 2), .inl (cI, 9, .inl (tb 2))), (ad (b0 + 6 + 3), .inl (cI, 9, .inl (tb 3))), (ad (b0 + 6 + 4), .inl (cI, 9, .inl (tb 4))), (ad (b0 + 6 + 5), .inl (cI, 9, .inl (tb 5))), (ad (b0 + 6 + 6), .inl (cI, 9, .inl (tb 6))), (ad (b0 + 6 + 7), .inl (cI, 9, .inl (tb 7))), (ad (b0 + 6 + 8), .inl (cI, 9, .inl (tb 8))), (ad b1, .inl (cI, fN, .inl fa))]
def rm_X1_lastStep : Room := { frames := 3, cells := 0, slots := 0, locals := 71 }
theorem kX1_lastStep : KV yX1_lastStep cX1_lastStep 6 (some .int) 3 := ⟨wq_276, wq_24, wq_274, wq_275, by decide +kernel⟩
def B_X1_lastStep_40 (fN : Nat) (v4 : Int32) (v1 : Int32) (v2 : Int32) (ld : Int32) (fln : Int32) (ftk : Nat → Int32) (gln : Int32) (gtk : Nat → Int32) (tb : Nat → Nat → Int32) (fa : Nat → Int32) (post : Int32 → Prop) (K : Int32 → Prop) (rc : Int32 → Prop) (v5 : Int32) : Prop :=
  (v4 = 0 → K v5) ∧ (¬ v4 = 0 → (((4 : Int32) ≤ v5 → K v5) ∧ (¬ (4 : Int32) ≤ v5 → (P_X1_by fN v5 v1 v2 ld fln ftk gln gtk tb fa (fun r1 => vp_in v1 9 ∧ (vp_in v2 9 ∧ ((¬ r1 = (tb (Int32.toNatClampNeg v1) (v2).toNatClampNeg) → rc (v5 + (1 : Int32))) ∧ (r1 = (tb (Int32.toNatClampNeg v1) (v2).toNatClampNeg) → post v5))))))))
def P_X1_lastStep_40 (fN : Nat) (v4 : Int32) (v1 : Int32) (v2 : Int32) (ld : Int32) (fln : Int32) (ftk : Nat → Int32) (gln : Int32) (gtk : Nat → Int32) (tb : Nat → Nat → Int32) (fa : Nat → Int32) (post : Int32 → Prop) (K : Int32 → Prop) : Nat → Int32 → Prop
  | 0 => fun _ => False
  | n + 1 => fun v5 => B_X1_lastStep_40 fN v4 v1 v2 ld fln ftk gln gtk tb fa post K (P_X1_lastStep_40 fN v4 v1 v2 ld fln ftk gln gtk tb fa post K n) v5
def P_X1_lastStep (fN : Nat) (x1 : Int32) (x2 : Int32) (ld : Int32) (fln : Int32) (ftk : Nat → Int32) (gln : Int32) (gtk : Nat → Int32) (tb : Nat → Nat → Int32) (fa : Nat → Int32) (post : Int32 → Prop) : Prop :=
  (x1 < 0 → (∃ n : Nat, P_X1_lastStep_40 fN (0 : Int32) x1 x2 ld fln ftk gln gtk tb fa post (fun w5_3 => post (4 : Int32)) n (1 : Int32))) ∧ (¬ x1 < 0 → ((fln < x1 → (∃ n : Nat, P_X1_lastStep_40 fN (0 : Int32) x1 x2 ld fln ftk gln gtk tb fa post (fun w5_6 => post (4 : Int32)) n (1 : Int32))) ∧ (¬ fln < x1 → ((x2 < 0 → (∃ n : Nat, P_X1_lastStep_40 fN (0 : Int32) x1 x2 ld fln ftk gln gtk tb fa post (fun w5_9 => post (4 : Int32)) n (1 : Int32))) ∧ (¬ x2 < 0 → ((gln < x2 → (∃ n : Nat, P_X1_lastStep_40 fN (0 : Int32) x1 x2 ld fln ftk gln gtk tb fa post (fun w5_12 => post (4 : Int32)) n (1 : Int32))) ∧ (¬ gln < x2 → (∃ n : Nat, P_X1_lastStep_40 fN (1 : Int32) x1 x2 ld fln ftk gln gtk tb fa post (fun w5_15 => post (4 : Int32)) n (1 : Int32)))))))))
set_option maxHeartbeats 4000000 in
set_option maxRecDepth 100000 in
theorem L_X1_lastStep_40 {l : Launch} {D : va_G} {cI cS cT : ClassId} {ad : Nat → Nat} {b0 : Nat} {b1 : Nat} {E : CE} {fN : Nat} {v4 : Int32} {v1 : Int32} {v2 : Int32} {ld : Int32} {fln : Int32} {ftk : Nat → Int32} {gln : Int32} {gtk : Nat → Int32} {tb : Nat → Nat → Int32} {fa : Nat → Int32} {post : Int32 → Prop} (hC : Cx l D (TY cI cS cT) E rm_X1_lastStep cX1_lastStep RX1) (hR : RetI D E (fun (r : Int32) w => w = (Wd_X1_lastStep cI cS cT ad b0 b1 fN ld fln ftk gln gtk tb fa) ∧ post r) 0 0 (some .int)) (hn : E.nL = 6) (K : Int32 → Prop) (hK : ∀ (v5 : Int32), K v5 → G l D E 0 0 (Wd_X1_lastStep cI cS cT ad b0 b1 fN ld fln ftk gln gtk tb fa) [(5, .int v5), (4, .int v4), (0, .ref (ad b0)), (1, .int v1), (2, .int v2), (3, .ref (ad b1))] 80 []) : ∀ (n : Nat) (v5 : Int32), P_X1_lastStep_40 fN v4 v1 v2 ld fln ftk gln gtk tb fa post K n v5 → G l D E 0 0 (Wd_X1_lastStep cI cS cT ad b0 b1 fN ld fln ftk gln gtk tb fa) [(5, .int v5), (4, .int v4), (0, .ref (ad b0)), (1, .int v1), (2, .int v2), (3, .ref (ad b1))] 40 [] := by
  intro n
  induction n with
  | zero => exact fun _ h => h.elim
  | succ n ih =>
    intro v5 h
    replace h : B_X1_lastStep_40 fN v4 v1 v2 ld fln ftk gln gtk tb fa post K (P_X1_lastStep_40 fN v4 v1 v2 ld fln ftk gln gtk tb fa post K n) v5 := h
    unfold B_X1_lastStep_40 at h
    refine g_iload 40 1 hC dX1_lastStep_40 rfl ?_
    refine g_if_eq 42 80 hC dX1_lastStep_42 (by decide) (fun hc => ?_) (fun hc => ?_)
    · replace h := h.1 hc
      refine G.sub [0, 1, 2, 3, 4, 5] rfl ?_
      exact hK v5 h
    · replace h := h.2 hc
      refine g_iload 45 0 hC dX1_lastStep_45 rfl ?_
      refine g_iconst (v := (4 : Int32)) 47 hC dX1_lastStep_47 (by decide) ?_
      refine g_icmp_ge 48 80 hC dX1_lastStep_48 (by decide) (fun hc => ?_) (fun hc => ?_)
      · replace h := h.1 hc
        refine G.sub [0, 1, 2, 3, 4, 5] rfl ?_
        exact hK v5 h
      · replace h := h.2 hc
        refine g_aload_n 51 2 hC dX1_lastStep_51 rfl ?_
        refine g_iload 52 0 hC dX1_lastStep_52 rfl ?_
        refine g_iload_n 54 3 hC dX1_lastStep_54 rfl ?_
        refine g_iload_n 55 4 hC dX1_lastStep_55 rfl ?_
        refine g_aload_n 56 5 hC dX1_lastStep_56 rfl ?_
        refine g_cVi (As := [.int v5, .int v1, .int v2, .ref (ad b1)]) (rest := []) 57 0 [0, 1, 2, 3, 4, 5, 6, 7, 8, 9, 10, 11, 12, 13, 14, 15] hC (c_X1_by l D cI cS cT ad b0 b1 fN v5 v1 v2 ld fln ftk gln gtk tb fa _ h) kX1_by wq_174 dX1_lastStep_57 rfl rfl ⟨Nat.le_of_ble_eq_true rfl, Nat.le_of_ble_eq_true rfl⟩ rfl rfl (Nat.zero_le _) (Nat.zero_le _) rfl rfl rfl (Nat.le_of_ble_eq_true rfl) ?_
        rintro r1 _ ⟨rfl, h⟩
        refine ⟨Nat.le_of_ble_eq_true rfl, G.upd [] (Wd_X1_lastStep cI cS cT ad b0 b1 fN ld fln ftk gln gtk tb fa) rfl rfl rfl rfl rfl ?_⟩
        refine g_aload_n 60 2 hC dX1_lastStep_60 rfl ?_
        refine g_get 61 0 2 hC inlX1 wq_73 dX1_lastStep_61 rfl rfl (by decide) rfl ?_
        refine g_iload_n 64 3 hC dX1_lastStep_64 rfl ?_
        obtain ⟨hj, h⟩ := h
        have hk2 := vpLt hj
        refine g_aald 65 5 2 hC dX1_lastStep_65 rfl rfl rfl hj (if_pos hk2) ?_
        refine g_iload_n 66 4 hC dX1_lastStep_66 rfl ?_
        obtain ⟨hj, h⟩ := h
        refine g_iald 67 (6 + (Int32.toNatClampNeg v1)) hC dX1_lastStep_67 (row9 (P := fun kk => (Wd_X1_lastStep cI cS cT ad b0 b1 fN ld fln ftk gln gtk tb fa)[6 + kk]? = some (ad (b0 + 6 + kk), .inl (cI, 9, .inl (tb kk)))) hk2 rfl rfl rfl rfl rfl rfl rfl rfl rfl) rfl hj ?_
        refine g_icmp_ne 68 74 hC dX1_lastStep_68 (by decide) (fun hc => ?_) (fun hc => ?_)
        · replace h := h.1 hc
          refine g_iinc (v := (1 : Int32)) 74 0 [(5, .int (v5 + (1 : Int32))), (4, .int v4), (0, .ref (ad b0)), (1, .int v1), (2, .int v2), (3, .ref (ad b1))] hC dX1_lastStep_74 rfl (by decide) (by rw [hn]; decide) rfl ?_
          refine g_goto 77 40 hC dX1_lastStep_77 (by decide) ?_
          refine G.sub [0, 1, 2, 3, 4, 5] rfl ?_
          exact ih _ h
        · replace h := h.2 hc
          refine g_iload 71 0 hC dX1_lastStep_71 rfl ?_
          exact g_iret 73 hC hR dX1_lastStep_73 ⟨rfl, h⟩
set_option maxHeartbeats 4000000 in
set_option maxRecDepth 100000 in
theorem c_X1_lastStep (l : Launch) (D : va_G) (cI cS cT : ClassId) (ad : Nat → Nat) (b0 : Nat) (b1 : Nat) (fN : Nat) (x1 : Int32) (x2 : Int32) (ld : Int32) (fln : Int32) (ftk : Nat → Int32) (gln : Int32) (gtk : Nat → Int32) (tb : Nat → Nat → Int32) (fa : Nat → Int32) (post : Int32 → Prop) (h : P_X1_lastStep fN x1 x2 ld fln ftk gln gtk tb fa post) : MI l D (TY cI cS cT) yX1_lastStep cX1_lastStep 6 (some .int) rm_X1_lastStep [.ref (ad b0), .int x1, .int x2, .ref (ad b1)] (Wd_X1_lastStep cI cS cT ad b0 b1 fN ld fln ftk gln gtk tb fa) (fun (r : Int32) w => w = (Wd_X1_lastStep cI cS cT ad b0 b1 fN ld fln ftk gln gtk tb fa) ∧ post r) := by
  refine MI.of (by decide) (Nat.le_of_ble_eq_true rfl) (fun E hC hR hn => ?_)
  replace hC : Cx l D (TY cI cS cT) E rm_X1_lastStep cX1_lastStep RX1 := hC
  replace hR : RetI D E (fun (r : Int32) w => w = (Wd_X1_lastStep cI cS cT ad b0 b1 fN ld fln ftk gln gtk tb fa) ∧ post r) 0 0 (some .int) := hR
  unfold P_X1_lastStep at h
  change G l D E 0 0 _ [(0, .ref (ad b0)), (1, .int x1), (2, .int x2), (3, .ref (ad b1))] 0 []
  refine g_iload_n 0 1 hC dX1_lastStep_0 rfl ?_
  refine g_if_lt 1 34 hC dX1_lastStep_1 (by decide) (fun hc => ?_) (fun hc => ?_)
  · replace h := h.1 hc
    refine g_iconst (v := (0 : Int32)) 34 hC dX1_lastStep_34 (by decide) ?_
    refine g_istore 35 [(4, .int (0 : Int32)), (0, .ref (ad b0)), (1, .int x1), (2, .int x2), (3, .ref (ad b1))] hC dX1_lastStep_35 (by rw [hn]; decide) rfl ?_
    refine g_iconst (v := (1 : Int32)) 37 hC dX1_lastStep_37 (by decide) ?_
    refine g_istore 38 [(5, .int (1 : Int32)), (4, .int (0 : Int32)), (0, .ref (ad b0)), (1, .int x1), (2, .int x2), (3, .ref (ad b1))] hC dX1_lastStep_38 (by rw [hn]; decide) rfl ?_
    obtain ⟨n, h⟩ := h
    refine L_X1_lastStep_40 hC hR hn _ (fun w5_3 h => ?_) n _ h
    refine g_iconst (v := (4 : Int32)) 80 hC dX1_lastStep_80 (by decide) ?_
    exact g_iret 81 hC hR dX1_lastStep_81 ⟨rfl, h⟩
  · replace h := h.2 hc
    refine g_iload_n 4 1 hC dX1_lastStep_4 rfl ?_
    refine g_aload_n 5 0 hC dX1_lastStep_5 rfl ?_
    refine g_get 6 0 0 hC inlX1 wq_70 dX1_lastStep_6 rfl rfl (by decide) rfl ?_
    refine g_getN 9 1 1 hC inlX5 nq_30 dX1_lastStep_9 rfl rfl (by decide) rfl ?_
    refine g_icmp_gt 12 34 hC dX1_lastStep_12 (by decide) (fun hc => ?_) (fun hc => ?_)
    · replace h := h.1 hc
      refine g_iconst (v := (0 : Int32)) 34 hC dX1_lastStep_34 (by decide) ?_
      refine g_istore 35 [(4, .int (0 : Int32)), (0, .ref (ad b0)), (1, .int x1), (2, .int x2), (3, .ref (ad b1))] hC dX1_lastStep_35 (by rw [hn]; decide) rfl ?_
      refine g_iconst (v := (1 : Int32)) 37 hC dX1_lastStep_37 (by decide) ?_
      refine g_istore 38 [(5, .int (1 : Int32)), (4, .int (0 : Int32)), (0, .ref (ad b0)), (1, .int x1), (2, .int x2), (3, .ref (ad b1))] hC dX1_lastStep_38 (by rw [hn]; decide) rfl ?_
      obtain ⟨n, h⟩ := h
      refine L_X1_lastStep_40 hC hR hn _ (fun w5_6 h => ?_) n _ h
      refine g_iconst (v := (4 : Int32)) 80 hC dX1_lastStep_80 (by decide) ?_
      exact g_iret 81 hC hR dX1_lastStep_81 ⟨rfl, h⟩
    · replace h := h.2 hc
      refine g_iload_n 15 2 hC dX1_lastStep_15 rfl ?_
      refine g_if_lt 16 34 hC dX1_lastStep_16 (by decide) (fun hc => ?_) (fun hc => ?_)
      · replace h := h.1 hc
        refine g_iconst (v := (0 : Int32)) 34 hC dX1_lastStep_34 (by decide) ?_
        refine g_istore 35 [(4, .int (0 : Int32)), (0, .ref (ad b0)), (1, .int x1), (2, .int x2), (3, .ref (ad b1))] hC dX1_lastStep_35 (by rw [hn]; decide) rfl ?_
        refine g_iconst (v := (1 : Int32)) 37 hC dX1_lastStep_37 (by decide) ?_
        refine g_istore 38 [(5, .int (1 : Int32)), (4, .int (0 : Int32)), (0, .ref (ad b0)), (1, .int x1), (2, .int x2), (3, .ref (ad b1))] hC dX1_lastStep_38 (by rw [hn]; decide) rfl ?_
        obtain ⟨n, h⟩ := h
        refine L_X1_lastStep_40 hC hR hn _ (fun w5_9 h => ?_) n _ h
        refine g_iconst (v := (4 : Int32)) 80 hC dX1_lastStep_80 (by decide) ?_
        exact g_iret 81 hC hR dX1_lastStep_81 ⟨rfl, h⟩
      · replace h := h.2 hc
        refine g_iload_n 19 2 hC dX1_lastStep_19 rfl ?_
        refine g_aload_n 20 0 hC dX1_lastStep_20 rfl ?_
        refine g_get 21 0 1 hC inlX1 wq_71 dX1_lastStep_21 rfl rfl (by decide) rfl ?_
        refine g_getN 24 3 1 hC inlX5 nq_30 dX1_lastStep_24 rfl rfl (by decide) rfl ?_
        refine g_icmp_gt 27 34 hC dX1_lastStep_27 (by decide) (fun hc => ?_) (fun hc => ?_)
        · replace h := h.1 hc
          refine g_iconst (v := (0 : Int32)) 34 hC dX1_lastStep_34 (by decide) ?_
          refine g_istore 35 [(4, .int (0 : Int32)), (0, .ref (ad b0)), (1, .int x1), (2, .int x2), (3, .ref (ad b1))] hC dX1_lastStep_35 (by rw [hn]; decide) rfl ?_
          refine g_iconst (v := (1 : Int32)) 37 hC dX1_lastStep_37 (by decide) ?_
          refine g_istore 38 [(5, .int (1 : Int32)), (4, .int (0 : Int32)), (0, .ref (ad b0)), (1, .int x1), (2, .int x2), (3, .ref (ad b1))] hC dX1_lastStep_38 (by rw [hn]; decide) rfl ?_
          obtain ⟨n, h⟩ := h
          refine L_X1_lastStep_40 hC hR hn _ (fun w5_12 h => ?_) n _ h
          refine g_iconst (v := (4 : Int32)) 80 hC dX1_lastStep_80 (by decide) ?_
          exact g_iret 81 hC hR dX1_lastStep_81 ⟨rfl, h⟩
        · replace h := h.2 hc
          refine g_iconst (v := (1 : Int32)) 30 hC dX1_lastStep_30 (by decide) ?_
          refine g_goto 31 35 hC dX1_lastStep_31 (by decide) ?_
          refine g_istore 35 [(4, .int (1 : Int32)), (0, .ref (ad b0)), (1, .int x1), (2, .int x2), (3, .ref (ad b1))] hC dX1_lastStep_35 (by rw [hn]; decide) rfl ?_
          refine g_iconst (v := (1 : Int32)) 37 hC dX1_lastStep_37 (by decide) ?_
          refine g_istore 38 [(5, .int (1 : Int32)), (4, .int (1 : Int32)), (0, .ref (ad b0)), (1, .int x1), (2, .int x2), (3, .ref (ad b1))] hC dX1_lastStep_38 (by rw [hn]; decide) rfl ?_
          obtain ⟨n, h⟩ := h
          refine L_X1_lastStep_40 hC hR hn _ (fun w5_15 h => ?_) n _ h
          refine g_iconst (v := (4 : Int32)) 80 hC dX1_lastStep_80 (by decide) ?_
          exact g_iret 81 hC hR dX1_lastStep_81 ⟨rfl, h⟩

/-! ===== ProverbCollection$Edits.trace([I)V ===== -/
def Wd_X1_trace (cI cS cT : ClassId) (ad : Nat → Nat) (b0 : Nat) (b1 : Nat) (fN : Nat) (ld : Int32) (fln : Int32) (ftk : Nat → Int32) (gln : Int32) (gtk : Nat → Int32) (tb : Nat → Nat → Int32) (ls : Nat → Int32) (fa : Nat → Int32) : va_W := [(ad b0, .inr (1, [.ref (ad (b0 + 1)), .ref (ad (b0 + 3)), .ref (ad (b0 + 5)), .ref (ad (b0 + 15)), .int ld])), (ad (b0 + 1), .inr (5, [.ref (ad (b0 + 2)), .int fln])), (ad (b0 + 2), .inl (cI, 8, .inl ftk)), (ad (b0 + 3), .inr (5, [.ref (ad (b0 + 4)), .int gln])), (ad (b0 + 4), .inl (cI, 8, .inl gtk)), (ad (b0 + 5), .inl (cT, 9, .inr (.inr (.inr (.inr (fun i => if i < 9 then some (ad (b0 + 6 + i)) else none)))))), (ad (b0 + 6 + 0), .inl (cI, 9, .inl (tb 0))), (ad (b0 + 6 + 1), .inl (cI, 9, .inl (tb 1))), (ad (b0 + 6 + 2), .inl (cI, 9, .inl (tb 2))), (ad (b0 + 6 + 3), .inl (cI, 9, .inl (tb 3))), (ad (b0 + 6 + 4), .inl (cI, 9, .inl (tb 4))), (ad (b0 + 6 + 5), .inl (cI, 9, .inl (tb 5))), (ad (b0 + 6 + 6), .inl (cI, 9, .inl (tb 6))), (ad (b0 + 6 + 7), .inl (cI, 9, .inl (tb 7))), (ad (b0 + 6 + 8), .inl (cI, 9, .inl (tb 8))), (ad (b0 + 15), .inl (cI, 16, .inl ls)), (ad b1, .inl (cI, fN, .inl fa))]
def rm_X1_trace : Room := { frames := 4, cells := 0, slots := 0, locals := 96 }
theorem kX1_trace : KV yX1_trace cX1_trace 7 none 1 := ⟨wq_271, wq_24, wq_269, wq_270, by decide +kernel⟩
def B_X1_trace_24 (fN : Nat) (fln : Int32) (ftk : Nat → Int32) (gln : Int32) (gtk : Nat → Int32) (tb : Nat → Nat → Int32) (fa : Nat → Int32) (K : Int32 → Int32 → Int32 → Int32 → (Nat → Int32) → Prop) (rc : Int32 → Int32 → Int32 → Int32 → (Nat → Int32) → Prop) (v4 : Int32) (v3 : Int32) (v2 : Int32) (ld : Int32) (ls : Nat → Int32) : Prop :=
  ((Int32.ofNat 16) ≤ v4 → K v4 v3 v2 ld ls) ∧ (¬ (Int32.ofNat 16) ≤ v4 → (((v2 + v3) ≤ 0 → K v4 v3 v2 ld ls) ∧ (¬ (v2 + v3) ≤ 0 → (P_X1_lastStep fN v2 v3 ld fln ftk gln gtk tb fa (fun r1 => (¬ r1 = (1 : Int32) → ((¬ r1 = (3 : Int32) → ((¬ r1 = (4 : Int32) → ((¬ r1 = (2 : Int32) → ((¬ r1 = (4 : Int32) → (((Int32.ofNat 16) ≤ ld → rc (v4 + (1 : Int32)) (v3 - (1 : Int32)) (v2 - (1 : Int32)) ld ls) ∧ (¬ (Int32.ofNat 16) ≤ ld → (vp_in ld 16 ∧ (rc (v4 + (1 : Int32)) (v3 - (1 : Int32)) (v2 - (1 : Int32)) (ld + (1 : Int32)) (upd ls (Int32.toNatClampNeg ld) ((((100 : Int32) * r1) + ((10 : Int32) * (v2 - (1 : Int32)))) + (v3 - (1 : Int32))))))))) ∧ (r1 = (4 : Int32) → (((Int32.ofNat 16) ≤ ld → rc (v4 + (1 : Int32)) (v3 - (2 : Int32)) (v2 - (1 : Int32)) ld ls) ∧ (¬ (Int32.ofNat 16) ≤ ld → (vp_in ld 16 ∧ (rc (v4 + (1 : Int32)) (v3 - (2 : Int32)) (v2 - (1 : Int32)) (ld + (1 : Int32)) (upd ls (Int32.toNatClampNeg ld) ((((100 : Int32) * r1) + ((10 : Int32) * (v2 - (1 : Int32)))) + (v3 - (2 : Int32))))))))))) ∧ (r1 = (2 : Int32) → (((Int32.ofNat 16) ≤ ld → rc (v4 + (1 : Int32)) (v3 - (0 : Int32)) (v2 - (1 : Int32)) ld ls) ∧ (¬ (Int32.ofNat 16) ≤ ld → (vp_in ld 16 ∧ (rc (v4 + (1 : Int32)) (v3 - (0 : Int32)) (v2 - (1 : Int32)) (ld + (1 : Int32)) (upd ls (Int32.toNatClampNeg ld) ((((100 : Int32) * r1) + ((10 : Int32) * (v2 - (1 : Int32)))) + (v3 - (0 : Int32))))))))))) ∧ (r1 = (4 : Int32) → ((¬ r1 = (2 : Int32) → ((¬ r1 = (4 : Int32) → (((Int32.ofNat 16) ≤ ld → rc (v4 + (1 : Int32)) (v3 - (1 : Int32)) (v2 - (2 : Int32)) ld ls) ∧ (¬ (Int32.ofNat 16) ≤ ld → (vp_in ld 16 ∧ (rc (v4 + (1 : Int32)) (v3 - (1 : Int32)) (v2 - (2 : Int32)) (ld + (1 : Int32)) (upd ls (Int32.toNatClampNeg ld) ((((100 : Int32) * r1) + ((10 : Int32) * (v2 - (2 : Int32)))) + (v3 - (1 : Int32))))))))) ∧ (r1 = (4 : Int32) → (((Int32.ofNat 16) ≤ ld → rc (v4 + (1 : Int32)) (v3 - (2 : Int32)) (v2 - (2 : Int32)) ld ls) ∧ (¬ (Int32.ofNat 16) ≤ ld → (vp_in ld 16 ∧ (rc (v4 + (1 : Int32)) (v3 - (2 : Int32)) (v2 - (2 : Int32)) (ld + (1 : Int32)) (upd ls (Int32.toNatClampNeg ld) ((((100 : Int32) * r1) + ((10 : Int32) * (v2 - (2 : Int32)))) + (v3 - (2 : Int32))))))))))) ∧ (r1 = (2 : Int32) → (((Int32.ofNat 16) ≤ ld → rc (v4 + (1 : Int32)) (v3 - (0 : Int32)) (v2 - (2 : Int32)) ld ls) ∧ (¬ (Int32.ofNat 16) ≤ ld → (vp_in ld 16 ∧ (rc (v4 + (1 : Int32)) (v3 - (0 : Int32)) (v2 - (2 : Int32)) (ld + (1 : Int32)) (upd ls (Int32.toNatClampNeg ld) ((((100 : Int32) * r1) + ((10 : Int32) * (v2 - (2 : Int32)))) + (v3 - (0 : Int32))))))))))))) ∧ (r1 = (3 : Int32) → ((¬ r1 = (2 : Int32) → ((¬ r1 = (4 : Int32) → (((Int32.ofNat 16) ≤ ld → rc (v4 + (1 : Int32)) (v3 - (1 : Int32)) (v2 - (0 : Int32)) ld ls) ∧ (¬ (Int32.ofNat 16) ≤ ld → (vp_in ld 16 ∧ (rc (v4 + (1 : Int32)) (v3 - (1 : Int32)) (v2 - (0 : Int32)) (ld + (1 : Int32)) (upd ls (Int32.toNatClampNeg ld) ((((100 : Int32) * r1) + ((10 : Int32) * (v2 - (0 : Int32)))) + (v3 - (1 : Int32))))))))) ∧ (r1 = (4 : Int32) → (((Int32.ofNat 16) ≤ ld → rc (v4 + (1 : Int32)) (v3 - (2 : Int32)) (v2 - (0 : Int32)) ld ls) ∧ (¬ (Int32.ofNat 16) ≤ ld → (vp_in ld 16 ∧ (rc (v4 + (1 : Int32)) (v3 - (2 : Int32)) (v2 - (0 : Int32)) (ld + (1 : Int32)) (upd ls (Int32.toNatClampNeg ld) ((((100 : Int32) * r1) + ((10 : Int32) * (v2 - (0 : Int32)))) + (v3 - (2 : Int32))))))))))) ∧ (r1 = (2 : Int32) → (((Int32.ofNat 16) ≤ ld → rc (v4 + (1 : Int32)) (v3 - (0 : Int32)) (v2 - (0 : Int32)) ld ls) ∧ (¬ (Int32.ofNat 16) ≤ ld → (vp_in ld 16 ∧ (rc (v4 + (1 : Int32)) (v3 - (0 : Int32)) (v2 - (0 : Int32)) (ld + (1 : Int32)) (upd ls (Int32.toNatClampNeg ld) ((((100 : Int32) * r1) + ((10 : Int32) * (v2 - (0 : Int32)))) + (v3 - (0 : Int32))))))))))))) ∧ (r1 = (1 : Int32) → (P_X5_at (v2 - (1 : Int32)) fln ftk (fun r2 => P_X5_at (v3 - (1 : Int32)) gln gtk (fun r3 => (¬ r2 = r3 → ((¬ r1 = (3 : Int32) → ((¬ r1 = (4 : Int32) → ((¬ r1 = (2 : Int32) → ((¬ r1 = (4 : Int32) → (((Int32.ofNat 16) ≤ ld → rc (v4 + (1 : Int32)) (v3 - (1 : Int32)) (v2 - (1 : Int32)) ld ls) ∧ (¬ (Int32.ofNat 16) ≤ ld → (vp_in ld 16 ∧ (rc (v4 + (1 : Int32)) (v3 - (1 : Int32)) (v2 - (1 : Int32)) (ld + (1 : Int32)) (upd ls (Int32.toNatClampNeg ld) ((((100 : Int32) * r1) + ((10 : Int32) * (v2 - (1 : Int32)))) + (v3 - (1 : Int32))))))))) ∧ (r1 = (4 : Int32) → (((Int32.ofNat 16) ≤ ld → rc (v4 + (1 : Int32)) (v3 - (2 : Int32)) (v2 - (1 : Int32)) ld ls) ∧ (¬ (Int32.ofNat 16) ≤ ld → (vp_in ld 16 ∧ (rc (v4 + (1 : Int32)) (v3 - (2 : Int32)) (v2 - (1 : Int32)) (ld + (1 : Int32)) (upd ls (Int32.toNatClampNeg ld) ((((100 : Int32) * r1) + ((10 : Int32) * (v2 - (1 : Int32)))) + (v3 - (2 : Int32))))))))))) ∧ (r1 = (2 : Int32) → (((Int32.ofNat 16) ≤ ld → rc (v4 + (1 : Int32)) (v3 - (0 : Int32)) (v2 - (1 : Int32)) ld ls) ∧ (¬ (Int32.ofNat 16) ≤ ld → (vp_in ld 16 ∧ (rc (v4 + (1 : Int32)) (v3 - (0 : Int32)) (v2 - (1 : Int32)) (ld + (1 : Int32)) (upd ls (Int32.toNatClampNeg ld) ((((100 : Int32) * r1) + ((10 : Int32) * (v2 - (1 : Int32)))) + (v3 - (0 : Int32))))))))))) ∧ (r1 = (4 : Int32) → ((¬ r1 = (2 : Int32) → ((¬ r1 = (4 : Int32) → (((Int32.ofNat 16) ≤ ld → rc (v4 + (1 : Int32)) (v3 - (1 : Int32)) (v2 - (2 : Int32)) ld ls) ∧ (¬ (Int32.ofNat 16) ≤ ld → (vp_in ld 16 ∧ (rc (v4 + (1 : Int32)) (v3 - (1 : Int32)) (v2 - (2 : Int32)) (ld + (1 : Int32)) (upd ls (Int32.toNatClampNeg ld) ((((100 : Int32) * r1) + ((10 : Int32) * (v2 - (2 : Int32)))) + (v3 - (1 : Int32))))))))) ∧ (r1 = (4 : Int32) → (((Int32.ofNat 16) ≤ ld → rc (v4 + (1 : Int32)) (v3 - (2 : Int32)) (v2 - (2 : Int32)) ld ls) ∧ (¬ (Int32.ofNat 16) ≤ ld → (vp_in ld 16 ∧ (rc (v4 + (1 : Int32)) (v3 - (2 : Int32)) (v2 - (2 : Int32)) (ld + (1 : Int32)) (upd ls (Int32.toNatClampNeg ld) ((((100 : Int32) * r1) + ((10 : Int32) * (v2 - (2 : Int32)))) + (v3 - (2 : Int32))))))))))) ∧ (r1 = (2 : Int32) → (((Int32.ofNat 16) ≤ ld → rc (v4 + (1 : Int32)) (v3 - (0 : Int32)) (v2 - (2 : Int32)) ld ls) ∧ (¬ (Int32.ofNat 16) ≤ ld → (vp_in ld 16 ∧ (rc (v4 + (1 : Int32)) (v3 - (0 : Int32)) (v2 - (2 : Int32)) (ld + (1 : Int32)) (upd ls (Int32.toNatClampNeg ld) ((((100 : Int32) * r1) + ((10 : Int32) * (v2 - (2 : Int32)))) + (v3 - (0 : Int32))))))))))))) ∧ (r1 = (3 : Int32) → ((¬ r1 = (2 : Int32) → ((¬ r1 = (4 : Int32) → (((Int32.ofNat 16) ≤ ld → rc (v4 + (1 : Int32)) (v3 - (1 : Int32)) (v2 - (0 : Int32)) ld ls) ∧ (¬ (Int32.ofNat 16) ≤ ld → (vp_in ld 16 ∧ (rc (v4 + (1 : Int32)) (v3 - (1 : Int32)) (v2 - (0 : Int32)) (ld + (1 : Int32)) (upd ls (Int32.toNatClampNeg ld) ((((100 : Int32) * r1) + ((10 : Int32) * (v2 - (0 : Int32)))) + (v3 - (1 : Int32))))))))) ∧ (r1 = (4 : Int32) → (((Int32.ofNat 16) ≤ ld → rc (v4 + (1 : Int32)) (v3 - (2 : Int32)) (v2 - (0 : Int32)) ld ls) ∧ (¬ (Int32.ofNat 16) ≤ ld → (vp_in ld 16 ∧ (rc (v4 + (1 : Int32)) (v3 - (2 : Int32)) (v2 - (0 : Int32)) (ld + (1 : Int32)) (upd ls (Int32.toNatClampNeg ld) ((((100 : Int32) * r1) + ((10 : Int32) * (v2 - (0 : Int32)))) + (v3 - (2 : Int32))))))))))) ∧ (r1 = (2 : Int32) → (((Int32.ofNat 16) ≤ ld → rc (v4 + (1 : Int32)) (v3 - (0 : Int32)) (v2 - (0 : Int32)) ld ls) ∧ (¬ (Int32.ofNat 16) ≤ ld → (vp_in ld 16 ∧ (rc (v4 + (1 : Int32)) (v3 - (0 : Int32)) (v2 - (0 : Int32)) (ld + (1 : Int32)) (upd ls (Int32.toNatClampNeg ld) ((((100 : Int32) * r1) + ((10 : Int32) * (v2 - (0 : Int32)))) + (v3 - (0 : Int32))))))))))))) ∧ (r2 = r3 → ((¬ r1 = (3 : Int32) → ((¬ r1 = (4 : Int32) → ((¬ r1 = (2 : Int32) → ((¬ r1 = (4 : Int32) → rc (v4 + (1 : Int32)) (v3 - (1 : Int32)) (v2 - (1 : Int32)) ld ls) ∧ (r1 = (4 : Int32) → rc (v4 + (1 : Int32)) (v3 - (2 : Int32)) (v2 - (1 : Int32)) ld ls))) ∧ (r1 = (2 : Int32) → rc (v4 + (1 : Int32)) (v3 - (0 : Int32)) (v2 - (1 : Int32)) ld ls))) ∧ (r1 = (4 : Int32) → ((¬ r1 = (2 : Int32) → ((¬ r1 = (4 : Int32) → rc (v4 + (1 : Int32)) (v3 - (1 : Int32)) (v2 - (2 : Int32)) ld ls) ∧ (r1 = (4 : Int32) → rc (v4 + (1 : Int32)) (v3 - (2 : Int32)) (v2 - (2 : Int32)) ld ls))) ∧ (r1 = (2 : Int32) → rc (v4 + (1 : Int32)) (v3 - (0 : Int32)) (v2 - (2 : Int32)) ld ls))))) ∧ (r1 = (3 : Int32) → ((¬ r1 = (2 : Int32) → ((¬ r1 = (4 : Int32) → rc (v4 + (1 : Int32)) (v3 - (1 : Int32)) (v2 - (0 : Int32)) ld ls) ∧ (r1 = (4 : Int32) → rc (v4 + (1 : Int32)) (v3 - (2 : Int32)) (v2 - (0 : Int32)) ld ls))) ∧ (r1 = (2 : Int32) → rc (v4 + (1 : Int32)) (v3 - (0 : Int32)) (v2 - (0 : Int32)) ld ls))))))))))))))
def P_X1_trace_24 (fN : Nat) (fln : Int32) (ftk : Nat → Int32) (gln : Int32) (gtk : Nat → Int32) (tb : Nat → Nat → Int32) (fa : Nat → Int32) (K : Int32 → Int32 → Int32 → Int32 → (Nat → Int32) → Prop) : Nat → Int32 → Int32 → Int32 → Int32 → (Nat → Int32) → Prop
  | 0 => fun _ _ _ _ _ => False
  | n + 1 => fun v4 v3 v2 ld ls => B_X1_trace_24 fN fln ftk gln gtk tb fa K (P_X1_trace_24 fN fln ftk gln gtk tb fa K n) v4 v3 v2 ld ls
def P_X1_trace (fN : Nat) (ld : Int32) (fln : Int32) (ftk : Nat → Int32) (gln : Int32) (gtk : Nat → Int32) (tb : Nat → Nat → Int32) (ls : Nat → Int32) (fa : Nat → Int32) (post : Int32 → (Nat → Int32) → Prop) : Prop :=
  ∃ n : Nat, P_X1_trace_24 fN fln ftk gln gtk tb fa (fun w4_4 w3_4 w2_4 ld_4 ls_4 => post ld_4 ls_4) n (0 : Int32) gln fln (0 : Int32) ls
set_option maxHeartbeats 4000000 in
set_option maxRecDepth 100000 in
theorem L_X1_trace_24 {l : Launch} {D : va_G} {cI cS cT : ClassId} {ad : Nat → Nat} {b0 : Nat} {b1 : Nat} {E : CE} {fN : Nat} {fln : Int32} {ftk : Nat → Int32} {gln : Int32} {gtk : Nat → Int32} {tb : Nat → Nat → Int32} {fa : Nat → Int32} {post : Int32 → (Nat → Int32) → Prop} (hC : Cx l D (TY cI cS cT) E rm_X1_trace cX1_trace RX1) (hR : RetV D E (fun w => ∃ (u_ld : Int32) (u_ls : Nat → Int32), w = (Wd_X1_trace cI cS cT ad b0 b1 fN u_ld fln ftk gln gtk tb u_ls fa) ∧ post u_ld u_ls) 0 0) (hn : E.nL = 7) (K : Int32 → Int32 → Int32 → Int32 → (Nat → Int32) → Prop) (hK : ∀ (v4 : Int32) (v3 : Int32) (v2 : Int32) (ld : Int32) (ls : Nat → Int32), K v4 v3 v2 ld ls → G l D E 0 0 (Wd_X1_trace cI cS cT ad b0 b1 fN ld fln ftk gln gtk tb ls fa) [(4, .int v4), (3, .int v3), (2, .int v2), (0, .ref (ad b0)), (1, .ref (ad b1))] 187 []) : ∀ (n : Nat) (v4 : Int32) (v3 : Int32) (v2 : Int32) (ld : Int32) (ls : Nat → Int32), P_X1_trace_24 fN fln ftk gln gtk tb fa K n v4 v3 v2 ld ls → G l D E 0 0 (Wd_X1_trace cI cS cT ad b0 b1 fN ld fln ftk gln gtk tb ls fa) [(4, .int v4), (3, .int v3), (2, .int v2), (0, .ref (ad b0)), (1, .ref (ad b1))] 24 [] := by
  intro n
  induction n with
  | zero => exact fun _ _ _ _ _ h => h.elim
  | succ n ih =>
    intro v4 v3 v2 ld ls h
    replace h : B_X1_trace_24 fN fln ftk gln gtk tb fa K (P_X1_trace_24 fN fln ftk gln gtk tb fa K n) v4 v3 v2 ld ls := h
    unfold B_X1_trace_24 at h
    refine g_iload 24 0 hC dX1_trace_24 rfl ?_
    refine g_aload_n 26 3 hC dX1_trace_26 rfl ?_
    refine g_get 27 0 3 hC inlX1 wq_74 dX1_trace_27 rfl rfl (by decide) rfl ?_
    refine g_alen 30 15 0 hC dX1_trace_30 rfl rfl ?_
    refine g_icmp_ge 31 187 hC dX1_trace_31 (by decide) (fun hc => ?_) (fun hc => ?_)
    · replace h := h.1 hc
      refine G.sub [0, 1, 2, 3, 4] rfl ?_
      exact hK v4 v3 v2 ld ls h
    · replace h := h.2 hc
      refine g_iload_n 34 2 hC dX1_trace_34 rfl ?_
      refine g_iload_n 35 1 hC dX1_trace_35 rfl ?_
      refine g_iadd 36 hC dX1_trace_36 ?_
      refine g_if_le 37 187 hC dX1_trace_37 (by decide) (fun hc => ?_) (fun hc => ?_)
      · replace h := h.1 hc
        refine G.sub [0, 1, 2, 3, 4] rfl ?_
        exact hK v4 v3 v2 ld ls h
      · replace h := h.2 hc
        refine g_aload_n 40 3 hC dX1_trace_40 rfl ?_
        refine g_iload_n 41 2 hC dX1_trace_41 rfl ?_
        refine g_iload_n 42 1 hC dX1_trace_42 rfl ?_
        refine g_aload_n 43 4 hC dX1_trace_43 rfl ?_
        refine g_cVi (As := [.int v2, .int v3, .ref (ad b1)]) (rest := []) 44 0 [0, 1, 2, 3, 4, 5, 6, 7, 8, 9, 10, 11, 12, 13, 14, 16] hC (c_X1_lastStep l D cI cS cT ad b0 b1 fN v2 v3 ld fln ftk gln gtk tb fa _ h) kX1_lastStep wq_273 dX1_trace_44 rfl rfl ⟨Nat.le_of_ble_eq_true rfl, Nat.le_of_ble_eq_true rfl⟩ rfl rfl (Nat.zero_le _) (Nat.zero_le _) rfl rfl rfl (Nat.le_of_ble_eq_true rfl) ?_
        rintro r1 _ ⟨rfl, h⟩
        refine ⟨Nat.le_of_ble_eq_true rfl, G.upd [15] (Wd_X1_trace cI cS cT ad b0 b1 fN ld fln ftk gln gtk tb ls fa) rfl rfl rfl rfl rfl ?_⟩
        refine g_istore 47 [(5, .int r1), (4, .int v4), (3, .int v3), (2, .int v2), (0, .ref (ad b0)), (1, .ref (ad b1))] hC dX1_trace_47 (by rw [hn]; decide) rfl ?_
        refine g_iload 49 0 hC dX1_trace_49 rfl ?_
        refine g_iconst (v := (1 : Int32)) 51 hC dX1_trace_51 (by decide) ?_
        refine g_icmp_ne 52 82 hC dX1_trace_52 (by decide) (fun hc => ?_) (fun hc => ?_)
        · replace h := h.1 hc
          refine g_iconst (v := (0 : Int32)) 82 hC dX1_trace_82 (by decide) ?_
          refine g_istore 83 [(6, .int (0 : Int32)), (5, .int r1), (4, .int v4), (3, .int v3), (2, .int v2), (0, .ref (ad b0)), (1, .ref (ad b1))] hC dX1_trace_83 (by rw [hn]; decide) rfl ?_
          refine g_iload_n 85 4 hC dX1_trace_85 rfl ?_
          refine g_iload 86 1 hC dX1_trace_86 rfl ?_
          refine g_iconst (v := (3 : Int32)) 88 hC dX1_trace_88 (by decide) ?_
          refine g_icmp_ne 89 96 hC dX1_trace_89 (by decide) (fun hc => ?_) (fun hc => ?_)
          · replace h := h.1 hc
            refine g_iload 96 1 hC dX1_trace_96 rfl ?_
            refine g_iconst (v := (4 : Int32)) 98 hC dX1_trace_98 (by decide) ?_
            refine g_icmp_ne 99 106 hC dX1_trace_99 (by decide) (fun hc => ?_) (fun hc => ?_)
            · replace h := h.1 hc
              refine g_iconst (v := (1 : Int32)) 106 hC dX1_trace_106 (by decide) ?_
              refine g_isub 107 hC dX1_trace_107 ?_
              refine g_istore_n 108 [(2, .int (v2 - (1 : Int32))), (6, .int (0 : Int32)), (5, .int r1), (4, .int v4), (3, .int v3), (0, .ref (ad b0)), (1, .ref (ad b1))] hC dX1_trace_108 (by rw [hn]; decide) rfl ?_
              refine g_iload_n 109 4 hC dX1_trace_109 rfl ?_
              refine g_iload 110 2 hC dX1_trace_110 rfl ?_
              refine g_iconst (v := (2 : Int32)) 112 hC dX1_trace_112 (by decide) ?_
              refine g_icmp_ne 113 120 hC dX1_trace_113 (by decide) (fun hc => ?_) (fun hc => ?_)
              · replace h := h.1 hc
                refine g_iload 120 2 hC dX1_trace_120 rfl ?_
                refine g_iconst (v := (4 : Int32)) 122 hC dX1_trace_122 (by decide) ?_
                refine g_icmp_ne 123 130 hC dX1_trace_123 (by decide) (fun hc => ?_) (fun hc => ?_)
                · replace h := h.1 hc
                  refine g_iconst (v := (1 : Int32)) 130 hC dX1_trace_130 (by decide) ?_
                  refine g_isub 131 hC dX1_trace_131 ?_
                  refine g_istore_n 132 [(3, .int (v3 - (1 : Int32))), (2, .int (v2 - (1 : Int32))), (6, .int (0 : Int32)), (5, .int r1), (4, .int v4), (0, .ref (ad b0)), (1, .ref (ad b1))] hC dX1_trace_132 (by rw [hn]; decide) rfl ?_
                  refine g_iload 133 2 hC dX1_trace_133 rfl ?_
                  refine g_if_ne 135 181 hC dX1_trace_135 (by decide) (fun hc => absurd hc (by decide)) (fun _ => ?_)
                  refine g_aload_n 138 5 hC dX1_trace_138 rfl ?_
                  refine g_get 139 0 4 hC inlX1 wq_272 dX1_trace_139 rfl rfl (by decide) rfl ?_
                  refine g_aload_n 142 5 hC dX1_trace_142 rfl ?_
                  refine g_get 143 0 3 hC inlX1 wq_74 dX1_trace_143 rfl rfl (by decide) rfl ?_
                  refine g_alen 146 15 0 hC dX1_trace_146 rfl rfl ?_
                  refine g_icmp_ge 147 181 hC dX1_trace_147 (by decide) (fun hc => ?_) (fun hc => ?_)
                  · replace h := h.1 hc
                    refine g_iinc (v := (1 : Int32)) 181 4 [(4, .int (v4 + (1 : Int32))), (3, .int (v3 - (1 : Int32))), (2, .int (v2 - (1 : Int32))), (6, .int (0 : Int32)), (5, .int r1), (0, .ref (ad b0)), (1, .ref (ad b1))] hC dX1_trace_181 rfl (by decide) (by rw [hn]; decide) rfl ?_
                    refine g_goto 184 24 hC dX1_trace_184 (by decide) ?_
                    refine G.sub [0, 1, 2, 5, 6] rfl ?_
                    exact ih _ _ _ _ _ h
                  · replace h := h.2 hc
                    refine g_aload_n 150 5 hC dX1_trace_150 rfl ?_
                    refine g_get 151 0 3 hC inlX1 wq_74 dX1_trace_151 rfl rfl (by decide) rfl ?_
                    refine g_aload_n 154 5 hC dX1_trace_154 rfl ?_
                    refine g_get 155 0 4 hC inlX1 wq_272 dX1_trace_155 rfl rfl (by decide) rfl ?_
                    refine g_bipush (v := (100 : Int32)) 158 hC dX1_trace_158 (by decide) ?_
                    refine g_iload 160 3 hC dX1_trace_160 rfl ?_
                    refine g_imul 162 hC dX1_trace_162 ?_
                    refine g_bipush (v := (10 : Int32)) 163 hC dX1_trace_163 (by decide) ?_
                    refine g_iload_n 165 1 hC dX1_trace_165 rfl ?_
                    refine g_imul 166 hC dX1_trace_166 ?_
                    refine g_iadd 167 hC dX1_trace_167 ?_
                    refine g_iload_n 168 0 hC dX1_trace_168 rfl ?_
                    refine g_iadd 169 hC dX1_trace_169 ?_
                    obtain ⟨hj, h⟩ := h
                    refine g_iast 170 15 (Wd_X1_trace cI cS cT ad b0 b1 fN ld fln ftk gln gtk tb (upd ls (Int32.toNatClampNeg ld) ((((100 : Int32) * r1) + ((10 : Int32) * (v2 - (1 : Int32)))) + (v3 - (1 : Int32)))) fa) hC dX1_trace_170 rfl rfl hj rfl ?_
                    refine g_aload_n 171 5 hC dX1_trace_171 rfl ?_
                    refine g_dup 172 hC dX1_trace_172 rfl ?_
                    refine g_get 173 0 4 hC inlX1 wq_272 dX1_trace_173 rfl rfl (by decide) rfl ?_
                    refine g_iconst (v := (1 : Int32)) 176 hC dX1_trace_176 (by decide) ?_
                    refine g_iadd 177 hC dX1_trace_177 ?_
                    refine g_put 178 0 4 (Wd_X1_trace cI cS cT ad b0 b1 fN (ld + (1 : Int32)) fln ftk gln gtk tb (upd ls (Int32.toNatClampNeg ld) ((((100 : Int32) * r1) + ((10 : Int32) * (v2 - (1 : Int32)))) + (v3 - (1 : Int32)))) fa) hC inlX1 tyX1_ok nmX1 wq_272 dX1_trace_178 rfl rfl (by decide) rfl rfl (Nat.le_of_ble_eq_true rfl) rfl ?_
                    refine g_iinc (v := (1 : Int32)) 181 4 [(4, .int (v4 + (1 : Int32))), (3, .int (v3 - (1 : Int32))), (2, .int (v2 - (1 : Int32))), (6, .int (0 : Int32)), (5, .int r1), (0, .ref (ad b0)), (1, .ref (ad b1))] hC dX1_trace_181 rfl (by decide) (by rw [hn]; decide) rfl ?_
                    refine g_goto 184 24 hC dX1_trace_184 (by decide) ?_
                    refine G.sub [0, 1, 2, 5, 6] rfl ?_
                    exact ih _ _ _ _ _ h
                · replace h := h.2 hc
                  refine g_iconst (v := (2 : Int32)) 126 hC dX1_trace_126 (by decide) ?_
                  refine g_goto 127 131 hC dX1_trace_127 (by decide) ?_
                  refine g_isub 131 hC dX1_trace_131 ?_
                  refine g_istore_n 132 [(3, .int (v3 - (2 : Int32))), (2, .int (v2 - (1 : Int32))), (6, .int (0 : Int32)), (5, .int r1), (4, .int v4), (0, .ref (ad b0)), (1, .ref (ad b1))] hC dX1_trace_132 (by rw [hn]; decide) rfl ?_
                  refine g_iload 133 2 hC dX1_trace_133 rfl ?_
                  refine g_if_ne 135 181 hC dX1_trace_135 (by decide) (fun hc => absurd hc (by decide)) (fun _ => ?_)
                  refine g_aload_n 138 5 hC dX1_trace_138 rfl ?_
                  refine g_get 139 0 4 hC inlX1 wq_272 dX1_trace_139 rfl rfl (by decide) rfl ?_
                  refine g_aload_n 142 5 hC dX1_trace_142 rfl ?_
                  refine g_get 143 0 3 hC inlX1 wq_74 dX1_trace_143 rfl rfl (by decide) rfl ?_
                  refine g_alen 146 15 0 hC dX1_trace_146 rfl rfl ?_
                  refine g_icmp_ge 147 181 hC dX1_trace_147 (by decide) (fun hc => ?_) (fun hc => ?_)
                  · replace h := h.1 hc
                    refine g_iinc (v := (1 : Int32)) 181 4 [(4, .int (v4 + (1 : Int32))), (3, .int (v3 - (2 : Int32))), (2, .int (v2 - (1 : Int32))), (6, .int (0 : Int32)), (5, .int r1), (0, .ref (ad b0)), (1, .ref (ad b1))] hC dX1_trace_181 rfl (by decide) (by rw [hn]; decide) rfl ?_
                    refine g_goto 184 24 hC dX1_trace_184 (by decide) ?_
                    refine G.sub [0, 1, 2, 5, 6] rfl ?_
                    exact ih _ _ _ _ _ h
                  · replace h := h.2 hc
                    refine g_aload_n 150 5 hC dX1_trace_150 rfl ?_
                    refine g_get 151 0 3 hC inlX1 wq_74 dX1_trace_151 rfl rfl (by decide) rfl ?_
                    refine g_aload_n 154 5 hC dX1_trace_154 rfl ?_
                    refine g_get 155 0 4 hC inlX1 wq_272 dX1_trace_155 rfl rfl (by decide) rfl ?_
                    refine g_bipush (v := (100 : Int32)) 158 hC dX1_trace_158 (by decide) ?_
                    refine g_iload 160 3 hC dX1_trace_160 rfl ?_
                    refine g_imul 162 hC dX1_trace_162 ?_
                    refine g_bipush (v := (10 : Int32)) 163 hC dX1_trace_163 (by decide) ?_
                    refine g_iload_n 165 1 hC dX1_trace_165 rfl ?_
                    refine g_imul 166 hC dX1_trace_166 ?_
                    refine g_iadd 167 hC dX1_trace_167 ?_
                    refine g_iload_n 168 0 hC dX1_trace_168 rfl ?_
                    refine g_iadd 169 hC dX1_trace_169 ?_
                    obtain ⟨hj, h⟩ := h
                    refine g_iast 170 15 (Wd_X1_trace cI cS cT ad b0 b1 fN ld fln ftk gln gtk tb (upd ls (Int32.toNatClampNeg ld) ((((100 : Int32) * r1) + ((10 : Int32) * (v2 - (1 : Int32)))) + (v3 - (2 : Int32)))) fa) hC dX1_trace_170 rfl rfl hj rfl ?_
                    refine g_aload_n 171 5 hC dX1_trace_171 rfl ?_
                    refine g_dup 172 hC dX1_trace_172 rfl ?_
                    refine g_get 173 0 4 hC inlX1 wq_272 dX1_trace_173 rfl rfl (by decide) rfl ?_
                    refine g_iconst (v := (1 : Int32)) 176 hC dX1_trace_176 (by decide) ?_
                    refine g_iadd 177 hC dX1_trace_177 ?_
                    refine g_put 178 0 4 (Wd_X1_trace cI cS cT ad b0 b1 fN (ld + (1 : Int32)) fln ftk gln gtk tb (upd ls (Int32.toNatClampNeg ld) ((((100 : Int32) * r1) + ((10 : Int32) * (v2 - (1 : Int32)))) + (v3 - (2 : Int32)))) fa) hC inlX1 tyX1_ok nmX1 wq_272 dX1_trace_178 rfl rfl (by decide) rfl rfl (Nat.le_of_ble_eq_true rfl) rfl ?_
                    refine g_iinc (v := (1 : Int32)) 181 4 [(4, .int (v4 + (1 : Int32))), (3, .int (v3 - (2 : Int32))), (2, .int (v2 - (1 : Int32))), (6, .int (0 : Int32)), (5, .int r1), (0, .ref (ad b0)), (1, .ref (ad b1))] hC dX1_trace_181 rfl (by decide) (by rw [hn]; decide) rfl ?_
                    refine g_goto 184 24 hC dX1_trace_184 (by decide) ?_
                    refine G.sub [0, 1, 2, 5, 6] rfl ?_
                    exact ih _ _ _ _ _ h
              · replace h := h.2 hc
                refine g_iconst (v := (0 : Int32)) 116 hC dX1_trace_116 (by decide) ?_
                refine g_goto 117 131 hC dX1_trace_117 (by decide) ?_
                refine g_isub 131 hC dX1_trace_131 ?_
                refine g_istore_n 132 [(3, .int (v3 - (0 : Int32))), (2, .int (v2 - (1 : Int32))), (6, .int (0 : Int32)), (5, .int r1), (4, .int v4), (0, .ref (ad b0)), (1, .ref (ad b1))] hC dX1_trace_132 (by rw [hn]; decide) rfl ?_
                refine g_iload 133 2 hC dX1_trace_133 rfl ?_
                refine g_if_ne 135 181 hC dX1_trace_135 (by decide) (fun hc => absurd hc (by decide)) (fun _ => ?_)
                refine g_aload_n 138 5 hC dX1_trace_138 rfl ?_
                refine g_get 139 0 4 hC inlX1 wq_272 dX1_trace_139 rfl rfl (by decide) rfl ?_
                refine g_aload_n 142 5 hC dX1_trace_142 rfl ?_
                refine g_get 143 0 3 hC inlX1 wq_74 dX1_trace_143 rfl rfl (by decide) rfl ?_
                refine g_alen 146 15 0 hC dX1_trace_146 rfl rfl ?_
                refine g_icmp_ge 147 181 hC dX1_trace_147 (by decide) (fun hc => ?_) (fun hc => ?_)
                · replace h := h.1 hc
                  refine g_iinc (v := (1 : Int32)) 181 4 [(4, .int (v4 + (1 : Int32))), (3, .int (v3 - (0 : Int32))), (2, .int (v2 - (1 : Int32))), (6, .int (0 : Int32)), (5, .int r1), (0, .ref (ad b0)), (1, .ref (ad b1))] hC dX1_trace_181 rfl (by decide) (by rw [hn]; decide) rfl ?_
                  refine g_goto 184 24 hC dX1_trace_184 (by decide) ?_
                  refine G.sub [0, 1, 2, 5, 6] rfl ?_
                  exact ih _ _ _ _ _ h
                · replace h := h.2 hc
                  refine g_aload_n 150 5 hC dX1_trace_150 rfl ?_
                  refine g_get 151 0 3 hC inlX1 wq_74 dX1_trace_151 rfl rfl (by decide) rfl ?_
                  refine g_aload_n 154 5 hC dX1_trace_154 rfl ?_
                  refine g_get 155 0 4 hC inlX1 wq_272 dX1_trace_155 rfl rfl (by decide) rfl ?_
                  refine g_bipush (v := (100 : Int32)) 158 hC dX1_trace_158 (by decide) ?_
                  refine g_iload 160 3 hC dX1_trace_160 rfl ?_
                  refine g_imul 162 hC dX1_trace_162 ?_
                  refine g_bipush (v := (10 : Int32)) 163 hC dX1_trace_163 (by decide) ?_
                  refine g_iload_n 165 1 hC dX1_trace_165 rfl ?_
                  refine g_imul 166 hC dX1_trace_166 ?_
                  refine g_iadd 167 hC dX1_trace_167 ?_
                  refine g_iload_n 168 0 hC dX1_trace_168 rfl ?_
                  refine g_iadd 169 hC dX1_trace_169 ?_
                  obtain ⟨hj, h⟩ := h
                  refine g_iast 170 15 (Wd_X1_trace cI cS cT ad b0 b1 fN ld fln ftk gln gtk tb (upd ls (Int32.toNatClampNeg ld) ((((100 : Int32) * r1) + ((10 : Int32) * (v2 - (1 : Int32)))) + (v3 - (0 : Int32)))) fa) hC dX1_trace_170 rfl rfl hj rfl ?_
                  refine g_aload_n 171 5 hC dX1_trace_171 rfl ?_
                  refine g_dup 172 hC dX1_trace_172 rfl ?_
                  refine g_get 173 0 4 hC inlX1 wq_272 dX1_trace_173 rfl rfl (by decide) rfl ?_
                  refine g_iconst (v := (1 : Int32)) 176 hC dX1_trace_176 (by decide) ?_
                  refine g_iadd 177 hC dX1_trace_177 ?_
                  refine g_put 178 0 4 (Wd_X1_trace cI cS cT ad b0 b1 fN (ld + (1 : Int32)) fln ftk gln gtk tb (upd ls (Int32.toNatClampNeg ld) ((((100 : Int32) * r1) + ((10 : Int32) * (v2 - (1 : Int32)))) + (v3 - (0 : Int32)))) fa) hC inlX1 tyX1_ok nmX1 wq_272 dX1_trace_178 rfl rfl (by decide) rfl rfl (Nat.le_of_ble_eq_true rfl) rfl ?_
                  refine g_iinc (v := (1 : Int32)) 181 4 [(4, .int (v4 + (1 : Int32))), (3, .int (v3 - (0 : Int32))), (2, .int (v2 - (1 : Int32))), (6, .int (0 : Int32)), (5, .int r1), (0, .ref (ad b0)), (1, .ref (ad b1))] hC dX1_trace_181 rfl (by decide) (by rw [hn]; decide) rfl ?_
                  refine g_goto 184 24 hC dX1_trace_184 (by decide) ?_
                  refine G.sub [0, 1, 2, 5, 6] rfl ?_
                  exact ih _ _ _ _ _ h
            · replace h := h.2 hc
              refine g_iconst (v := (2 : Int32)) 102 hC dX1_trace_102 (by decide) ?_
              refine g_goto 103 107 hC dX1_trace_103 (by decide) ?_
              refine g_isub 107 hC dX1_trace_107 ?_
              refine g_istore_n 108 [(2, .int (v2 - (2 : Int32))), (6, .int (0 : Int32)), (5, .int r1), (4, .int v4), (3, .int v3), (0, .ref (ad b0)), (1, .ref (ad b1))] hC dX1_trace_108 (by rw [hn]; decide) rfl ?_
              refine g_iload_n 109 4 hC dX1_trace_109 rfl ?_
              refine g_iload 110 2 hC dX1_trace_110 rfl ?_
              refine g_iconst (v := (2 : Int32)) 112 hC dX1_trace_112 (by decide) ?_
              refine g_icmp_ne 113 120 hC dX1_trace_113 (by decide) (fun hc => ?_) (fun hc => ?_)
              · replace h := h.1 hc
                refine g_iload 120 2 hC dX1_trace_120 rfl ?_
                refine g_iconst (v := (4 : Int32)) 122 hC dX1_trace_122 (by decide) ?_
                refine g_icmp_ne 123 130 hC dX1_trace_123 (by decide) (fun hc => ?_) (fun hc => ?_)
                · replace h := h.1 hc
                  refine g_iconst (v := (1 : Int32)) 130 hC dX1_trace_130 (by decide) ?_
                  refine g_isub 131 hC dX1_trace_131 ?_
                  refine g_istore_n 132 [(3, .int (v3 - (1 : Int32))), (2, .int (v2 - (2 : Int32))), (6, .int (0 : Int32)), (5, .int r1), (4, .int v4), (0, .ref (ad b0)), (1, .ref (ad b1))] hC dX1_trace_132 (by rw [hn]; decide) rfl ?_
                  refine g_iload 133 2 hC dX1_trace_133 rfl ?_
                  refine g_if_ne 135 181 hC dX1_trace_135 (by decide) (fun hc => absurd hc (by decide)) (fun _ => ?_)
                  refine g_aload_n 138 5 hC dX1_trace_138 rfl ?_
                  refine g_get 139 0 4 hC inlX1 wq_272 dX1_trace_139 rfl rfl (by decide) rfl ?_
                  refine g_aload_n 142 5 hC dX1_trace_142 rfl ?_
                  refine g_get 143 0 3 hC inlX1 wq_74 dX1_trace_143 rfl rfl (by decide) rfl ?_
                  refine g_alen 146 15 0 hC dX1_trace_146 rfl rfl ?_
                  refine g_icmp_ge 147 181 hC dX1_trace_147 (by decide) (fun hc => ?_) (fun hc => ?_)
                  · replace h := h.1 hc
                    refine g_iinc (v := (1 : Int32)) 181 4 [(4, .int (v4 + (1 : Int32))), (3, .int (v3 - (1 : Int32))), (2, .int (v2 - (2 : Int32))), (6, .int (0 : Int32)), (5, .int r1), (0, .ref (ad b0)), (1, .ref (ad b1))] hC dX1_trace_181 rfl (by decide) (by rw [hn]; decide) rfl ?_
                    refine g_goto 184 24 hC dX1_trace_184 (by decide) ?_
                    refine G.sub [0, 1, 2, 5, 6] rfl ?_
                    exact ih _ _ _ _ _ h
                  · replace h := h.2 hc
                    refine g_aload_n 150 5 hC dX1_trace_150 rfl ?_
                    refine g_get 151 0 3 hC inlX1 wq_74 dX1_trace_151 rfl rfl (by decide) rfl ?_
                    refine g_aload_n 154 5 hC dX1_trace_154 rfl ?_
                    refine g_get 155 0 4 hC inlX1 wq_272 dX1_trace_155 rfl rfl (by decide) rfl ?_
                    refine g_bipush (v := (100 : Int32)) 158 hC dX1_trace_158 (by decide) ?_
                    refine g_iload 160 3 hC dX1_trace_160 rfl ?_
                    refine g_imul 162 hC dX1_trace_162 ?_
                    refine g_bipush (v := (10 : Int32)) 163 hC dX1_trace_163 (by decide) ?_
                    refine g_iload_n 165 1 hC dX1_trace_165 rfl ?_
                    refine g_imul 166 hC dX1_trace_166 ?_
                    refine g_iadd 167 hC dX1_trace_167 ?_
                    refine g_iload_n 168 0 hC dX1_trace_168 rfl ?_
                    refine g_iadd 169 hC dX1_trace_169 ?_
                    obtain ⟨hj, h⟩ := h
                    refine g_iast 170 15 (Wd_X1_trace cI cS cT ad b0 b1 fN ld fln ftk gln gtk tb (upd ls (Int32.toNatClampNeg ld) ((((100 : Int32) * r1) + ((10 : Int32) * (v2 - (2 : Int32)))) + (v3 - (1 : Int32)))) fa) hC dX1_trace_170 rfl rfl hj rfl ?_
                    refine g_aload_n 171 5 hC dX1_trace_171 rfl ?_
                    refine g_dup 172 hC dX1_trace_172 rfl ?_
                    refine g_get 173 0 4 hC inlX1 wq_272 dX1_trace_173 rfl rfl (by decide) rfl ?_
                    refine g_iconst (v := (1 : Int32)) 176 hC dX1_trace_176 (by decide) ?_
                    refine g_iadd 177 hC dX1_trace_177 ?_
                    refine g_put 178 0 4 (Wd_X1_trace cI cS cT ad b0 b1 fN (ld + (1 : Int32)) fln ftk gln gtk tb (upd ls (Int32.toNatClampNeg ld) ((((100 : Int32) * r1) + ((10 : Int32) * (v2 - (2 : Int32)))) + (v3 - (1 : Int32)))) fa) hC inlX1 tyX1_ok nmX1 wq_272 dX1_trace_178 rfl rfl (by decide) rfl rfl (Nat.le_of_ble_eq_true rfl) rfl ?_
                    refine g_iinc (v := (1 : Int32)) 181 4 [(4, .int (v4 + (1 : Int32))), (3, .int (v3 - (1 : Int32))), (2, .int (v2 - (2 : Int32))), (6, .int (0 : Int32)), (5, .int r1), (0, .ref (ad b0)), (1, .ref (ad b1))] hC dX1_trace_181 rfl (by decide) (by rw [hn]; decide) rfl ?_
                    refine g_goto 184 24 hC dX1_trace_184 (by decide) ?_
                    refine G.sub [0, 1, 2, 5, 6] rfl ?_
                    exact ih _ _ _ _ _ h
                · replace h := h.2 hc
                  refine g_iconst (v := (2 : Int32)) 126 hC dX1_trace_126 (by decide) ?_
                  refine g_goto 127 131 hC dX1_trace_127 (by decide) ?_
                  refine g_isub 131 hC dX1_trace_131 ?_
                  refine g_istore_n 132 [(3, .int (v3 - (2 : Int32))), (2, .int (v2 - (2 : Int32))), (6, .int (0 : Int32)), (5, .int r1), (4, .int v4), (0, .ref (ad b0)), (1, .ref (ad b1))] hC dX1_trace_132 (by rw [hn]; decide) rfl ?_
                  refine g_iload 133 2 hC dX1_trace_133 rfl ?_
                  refine g_if_ne 135 181 hC dX1_trace_135 (by decide) (fun hc => absurd hc (by decide)) (fun _ => ?_)
                  refine g_aload_n 138 5 hC dX1_trace_138 rfl ?_
                  refine g_get 139 0 4 hC inlX1 wq_272 dX1_trace_139 rfl rfl (by decide) rfl ?_
                  refine g_aload_n 142 5 hC dX1_trace_142 rfl ?_
                  refine g_get 143 0 3 hC inlX1 wq_74 dX1_trace_143 rfl rfl (by decide) rfl ?_
                  refine g_alen 146 15 0 hC dX1_trace_146 rfl rfl ?_
                  refine g_icmp_ge 147 181 hC dX1_trace_147 (by decide) (fun hc => ?_) (fun hc => ?_)
                  · replace h := h.1 hc
                    refine g_iinc (v := (1 : Int32)) 181 4 [(4, .int (v4 + (1 : Int32))), (3, .int (v3 - (2 : Int32))), (2, .int (v2 - (2 : Int32))), (6, .int (0 : Int32)), (5, .int r1), (0, .ref (ad b0)), (1, .ref (ad b1))] hC dX1_trace_181 rfl (by decide) (by rw [hn]; decide) rfl ?_
                    refine g_goto 184 24 hC dX1_trace_184 (by decide) ?_
                    refine G.sub [0, 1, 2, 5, 6] rfl ?_
                    exact ih _ _ _ _ _ h
                  · replace h := h.2 hc
                    refine g_aload_n 150 5 hC dX1_trace_150 rfl ?_
                    refine g_get 151 0 3 hC inlX1 wq_74 dX1_trace_151 rfl rfl (by decide) rfl ?_
                    refine g_aload_n 154 5 hC dX1_trace_154 rfl ?_
                    refine g_get 155 0 4 hC inlX1 wq_272 dX1_trace_155 rfl rfl (by decide) rfl ?_
                    refine g_bipush (v := (100 : Int32)) 158 hC dX1_trace_158 (by decide) ?_
                    refine g_iload 160 3 hC dX1_trace_160 rfl ?_
                    refine g_imul 162 hC dX1_trace_162 ?_
                    refine g_bipush (v := (10 : Int32)) 163 hC dX1_trace_163 (by decide) ?_
                    refine g_iload_n 165 1 hC dX1_trace_165 rfl ?_
                    refine g_imul 166 hC dX1_trace_166 ?_
                    refine g_iadd 167 hC dX1_trace_167 ?_
                    refine g_iload_n 168 0 hC dX1_trace_168 rfl ?_
                    refine g_iadd 169 hC dX1_trace_169 ?_
                    obtain ⟨hj, h⟩ := h
                    refine g_iast 170 15 (Wd_X1_trace cI cS cT ad b0 b1 fN ld fln ftk gln gtk tb (upd ls (Int32.toNatClampNeg ld) ((((100 : Int32) * r1) + ((10 : Int32) * (v2 - (2 : Int32)))) + (v3 - (2 : Int32)))) fa) hC dX1_trace_170 rfl rfl hj rfl ?_
                    refine g_aload_n 171 5 hC dX1_trace_171 rfl ?_
                    refine g_dup 172 hC dX1_trace_172 rfl ?_
                    refine g_get 173 0 4 hC inlX1 wq_272 dX1_trace_173 rfl rfl (by decide) rfl ?_
                    refine g_iconst (v := (1 : Int32)) 176 hC dX1_trace_176 (by decide) ?_
                    refine g_iadd 177 hC dX1_trace_177 ?_
                    refine g_put 178 0 4 (Wd_X1_trace cI cS cT ad b0 b1 fN (ld + (1 : Int32)) fln ftk gln gtk tb (upd ls (Int32.toNatClampNeg ld) ((((100 : Int32) * r1) + ((10 : Int32) * (v2 - (2 : Int32)))) + (v3 - (2 : Int32)))) fa) hC inlX1 tyX1_ok nmX1 wq_272 dX1_trace_178 rfl rfl (by decide) rfl rfl (Nat.le_of_ble_eq_true rfl) rfl ?_
                    refine g_iinc (v := (1 : Int32)) 181 4 [(4, .int (v4 + (1 : Int32))), (3, .int (v3 - (2 : Int32))), (2, .int (v2 - (2 : Int32))), (6, .int (0 : Int32)), (5, .int r1), (0, .ref (ad b0)), (1, .ref (ad b1))] hC dX1_trace_181 rfl (by decide) (by rw [hn]; decide) rfl ?_
                    refine g_goto 184 24 hC dX1_trace_184 (by decide) ?_
                    refine G.sub [0, 1, 2, 5, 6] rfl ?_
                    exact ih _ _ _ _ _ h
              · replace h := h.2 hc
                refine g_iconst (v := (0 : Int32)) 116 hC dX1_trace_116 (by decide) ?_
                refine g_goto 117 131 hC dX1_trace_117 (by decide) ?_
                refine g_isub 131 hC dX1_trace_131 ?_
                refine g_istore_n 132 [(3, .int (v3 - (0 : Int32))), (2, .int (v2 - (2 : Int32))), (6, .int (0 : Int32)), (5, .int r1), (4, .int v4), (0, .ref (ad b0)), (1, .ref (ad b1))] hC dX1_trace_132 (by rw [hn]; decide) rfl ?_
                refine g_iload 133 2 hC dX1_trace_133 rfl ?_
                refine g_if_ne 135 181 hC dX1_trace_135 (by decide) (fun hc => absurd hc (by decide)) (fun _ => ?_)
                refine g_aload_n 138 5 hC dX1_trace_138 rfl ?_
                refine g_get 139 0 4 hC inlX1 wq_272 dX1_trace_139 rfl rfl (by decide) rfl ?_
                refine g_aload_n 142 5 hC dX1_trace_142 rfl ?_
                refine g_get 143 0 3 hC inlX1 wq_74 dX1_trace_143 rfl rfl (by decide) rfl ?_
                refine g_alen 146 15 0 hC dX1_trace_146 rfl rfl ?_
                refine g_icmp_ge 147 181 hC dX1_trace_147 (by decide) (fun hc => ?_) (fun hc => ?_)
                · replace h := h.1 hc
                  refine g_iinc (v := (1 : Int32)) 181 4 [(4, .int (v4 + (1 : Int32))), (3, .int (v3 - (0 : Int32))), (2, .int (v2 - (2 : Int32))), (6, .int (0 : Int32)), (5, .int r1), (0, .ref (ad b0)), (1, .ref (ad b1))] hC dX1_trace_181 rfl (by decide) (by rw [hn]; decide) rfl ?_
                  refine g_goto 184 24 hC dX1_trace_184 (by decide) ?_
                  refine G.sub [0, 1, 2, 5, 6] rfl ?_
                  exact ih _ _ _ _ _ h
                · replace h := h.2 hc
                  refine g_aload_n 150 5 hC dX1_trace_150 rfl ?_
                  refine g_get 151 0 3 hC inlX1 wq_74 dX1_trace_151 rfl rfl (by decide) rfl ?_
                  refine g_aload_n 154 5 hC dX1_trace_154 rfl ?_
                  refine g_get 155 0 4 hC inlX1 wq_272 dX1_trace_155 rfl rfl (by decide) rfl ?_
                  refine g_bipush (v := (100 : Int32)) 158 hC dX1_trace_158 (by decide) ?_
                  refine g_iload 160 3 hC dX1_trace_160 rfl ?_
                  refine g_imul 162 hC dX1_trace_162 ?_
                  refine g_bipush (v := (10 : Int32)) 163 hC dX1_trace_163 (by decide) ?_
                  refine g_iload_n 165 1 hC dX1_trace_165 rfl ?_
                  refine g_imul 166 hC dX1_trace_166 ?_
                  refine g_iadd 167 hC dX1_trace_167 ?_
                  refine g_iload_n 168 0 hC dX1_trace_168 rfl ?_
                  refine g_iadd 169 hC dX1_trace_169 ?_
                  obtain ⟨hj, h⟩ := h
                  refine g_iast 170 15 (Wd_X1_trace cI cS cT ad b0 b1 fN ld fln ftk gln gtk tb (upd ls (Int32.toNatClampNeg ld) ((((100 : Int32) * r1) + ((10 : Int32) * (v2 - (2 : Int32)))) + (v3 - (0 : Int32)))) fa) hC dX1_trace_170 rfl rfl hj rfl ?_
                  refine g_aload_n 171 5 hC dX1_trace_171 rfl ?_
                  refine g_dup 172 hC dX1_trace_172 rfl ?_
                  refine g_get 173 0 4 hC inlX1 wq_272 dX1_trace_173 rfl rfl (by decide) rfl ?_
                  refine g_iconst (v := (1 : Int32)) 176 hC dX1_trace_176 (by decide) ?_
                  refine g_iadd 177 hC dX1_trace_177 ?_
                  refine g_put 178 0 4 (Wd_X1_trace cI cS cT ad b0 b1 fN (ld + (1 : Int32)) fln ftk gln gtk tb (upd ls (Int32.toNatClampNeg ld) ((((100 : Int32) * r1) + ((10 : Int32) * (v2 - (2 : Int32)))) + (v3 - (0 : Int32)))) fa) hC inlX1 tyX1_ok nmX1 wq_272 dX1_trace_178 rfl rfl (by decide) rfl rfl (Nat.le_of_ble_eq_true rfl) rfl ?_
                  refine g_iinc (v := (1 : Int32)) 181 4 [(4, .int (v4 + (1 : Int32))), (3, .int (v3 - (0 : Int32))), (2, .int (v2 - (2 : Int32))), (6, .int (0 : Int32)), (5, .int r1), (0, .ref (ad b0)), (1, .ref (ad b1))] hC dX1_trace_181 rfl (by decide) (by rw [hn]; decide) rfl ?_
                  refine g_goto 184 24 hC dX1_trace_184 (by decide) ?_
                  refine G.sub [0, 1, 2, 5, 6] rfl ?_
                  exact ih _ _ _ _ _ h
          · replace h := h.2 hc
            refine g_iconst (v := (0 : Int32)) 92 hC dX1_trace_92 (by decide) ?_
            refine g_goto 93 107 hC dX1_trace_93 (by decide) ?_
            refine g_isub 107 hC dX1_trace_107 ?_
            refine g_istore_n 108 [(2, .int (v2 - (0 : Int32))), (6, .int (0 : Int32)), (5, .int r1), (4, .int v4), (3, .int v3), (0, .ref (ad b0)), (1, .ref (ad b1))] hC dX1_trace_108 (by rw [hn]; decide) rfl ?_
            refine g_iload_n 109 4 hC dX1_trace_109 rfl ?_
            refine g_iload 110 2 hC dX1_trace_110 rfl ?_
            refine g_iconst (v := (2 : Int32)) 112 hC dX1_trace_112 (by decide) ?_
            refine g_icmp_ne 113 120 hC dX1_trace_113 (by decide) (fun hc => ?_) (fun hc => ?_)
            · replace h := h.1 hc
              refine g_iload 120 2 hC dX1_trace_120 rfl ?_
              refine g_iconst (v := (4 : Int32)) 122 hC dX1_trace_122 (by decide) ?_
              refine g_icmp_ne 123 130 hC dX1_trace_123 (by decide) (fun hc => ?_) (fun hc => ?_)
              · replace h := h.1 hc
                refine g_iconst (v := (1 : Int32)) 130 hC dX1_trace_130 (by decide) ?_
                refine g_isub 131 hC dX1_trace_131 ?_
                refine g_istore_n 132 [(3, .int (v3 - (1 : Int32))), (2, .int (v2 - (0 : Int32))), (6, .int (0 : Int32)), (5, .int r1), (4, .int v4), (0, .ref (ad b0)), (1, .ref (ad b1))] hC dX1_trace_132 (by rw [hn]; decide) rfl ?_
                refine g_iload 133 2 hC dX1_trace_133 rfl ?_
                refine g_if_ne 135 181 hC dX1_trace_135 (by decide) (fun hc => absurd hc (by decide)) (fun _ => ?_)
                refine g_aload_n 138 5 hC dX1_trace_138 rfl ?_
                refine g_get 139 0 4 hC inlX1 wq_272 dX1_trace_139 rfl rfl (by decide) rfl ?_
                refine g_aload_n 142 5 hC dX1_trace_142 rfl ?_
                refine g_get 143 0 3 hC inlX1 wq_74 dX1_trace_143 rfl rfl (by decide) rfl ?_
                refine g_alen 146 15 0 hC dX1_trace_146 rfl rfl ?_
                refine g_icmp_ge 147 181 hC dX1_trace_147 (by decide) (fun hc => ?_) (fun hc => ?_)
                · replace h := h.1 hc
                  refine g_iinc (v := (1 : Int32)) 181 4 [(4, .int (v4 + (1 : Int32))), (3, .int (v3 - (1 : Int32))), (2, .int (v2 - (0 : Int32))), (6, .int (0 : Int32)), (5, .int r1), (0, .ref (ad b0)), (1, .ref (ad b1))] hC dX1_trace_181 rfl (by decide) (by rw [hn]; decide) rfl ?_
                  refine g_goto 184 24 hC dX1_trace_184 (by decide) ?_
                  refine G.sub [0, 1, 2, 5, 6] rfl ?_
                  exact ih _ _ _ _ _ h
                · replace h := h.2 hc
                  refine g_aload_n 150 5 hC dX1_trace_150 rfl ?_
                  refine g_get 151 0 3 hC inlX1 wq_74 dX1_trace_151 rfl rfl (by decide) rfl ?_
                  refine g_aload_n 154 5 hC dX1_trace_154 rfl ?_
                  refine g_get 155 0 4 hC inlX1 wq_272 dX1_trace_155 rfl rfl (by decide) rfl ?_
                  refine g_bipush (v := (100 : Int32)) 158 hC dX1_trace_158 (by decide) ?_
                  refine g_iload 160 3 hC dX1_trace_160 rfl ?_
                  refine g_imul 162 hC dX1_trace_162 ?_
                  refine g_bipush (v := (10 : Int32)) 163 hC dX1_trace_163 (by decide) ?_
                  refine g_iload_n 165 1 hC dX1_trace_165 rfl ?_
                  refine g_imul 166 hC dX1_trace_166 ?_
                  refine g_iadd 167 hC dX1_trace_167 ?_
                  refine g_iload_n 168 0 hC dX1_trace_168 rfl ?_
                  refine g_iadd 169 hC dX1_trace_169 ?_
                  obtain ⟨hj, h⟩ := h
                  refine g_iast 170 15 (Wd_X1_trace cI cS cT ad b0 b1 fN ld fln ftk gln gtk tb (upd ls (Int32.toNatClampNeg ld) ((((100 : Int32) * r1) + ((10 : Int32) * (v2 - (0 : Int32)))) + (v3 - (1 : Int32)))) fa) hC dX1_trace_170 rfl rfl hj rfl ?_
                  refine g_aload_n 171 5 hC dX1_trace_171 rfl ?_
                  refine g_dup 172 hC dX1_trace_172 rfl ?_
                  refine g_get 173 0 4 hC inlX1 wq_272 dX1_trace_173 rfl rfl (by decide) rfl ?_
                  refine g_iconst (v := (1 : Int32)) 176 hC dX1_trace_176 (by decide) ?_
                  refine g_iadd 177 hC dX1_trace_177 ?_
                  refine g_put 178 0 4 (Wd_X1_trace cI cS cT ad b0 b1 fN (ld + (1 : Int32)) fln ftk gln gtk tb (upd ls (Int32.toNatClampNeg ld) ((((100 : Int32) * r1) + ((10 : Int32) * (v2 - (0 : Int32)))) + (v3 - (1 : Int32)))) fa) hC inlX1 tyX1_ok nmX1 wq_272 dX1_trace_178 rfl rfl (by decide) rfl rfl (Nat.le_of_ble_eq_true rfl) rfl ?_
                  refine g_iinc (v := (1 : Int32)) 181 4 [(4, .int (v4 + (1 : Int32))), (3, .int (v3 - (1 : Int32))), (2, .int (v2 - (0 : Int32))), (6, .int (0 : Int32)), (5, .int r1), (0, .ref (ad b0)), (1, .ref (ad b1))] hC dX1_trace_181 rfl (by decide) (by rw [hn]; decide) rfl ?_
                  refine g_goto 184 24 hC dX1_trace_184 (by decide) ?_
                  refine G.sub [0, 1, 2, 5, 6] rfl ?_
                  exact ih _ _ _ _ _ h
              · replace h := h.2 hc
                refine g_iconst (v := (2 : Int32)) 126 hC dX1_trace_126 (by decide) ?_
                refine g_goto 127 131 hC dX1_trace_127 (by decide) ?_
                refine g_isub 131 hC dX1_trace_131 ?_
                refine g_istore_n 132 [(3, .int (v3 - (2 : Int32))), (2, .int (v2 - (0 : Int32))), (6, .int (0 : Int32)), (5, .int r1), (4, .int v4), (0, .ref (ad b0)), (1, .ref (ad b1))] hC dX1_trace_132 (by rw [hn]; decide) rfl ?_
                refine g_iload 133 2 hC dX1_trace_133 rfl ?_
                refine g_if_ne 135 181 hC dX1_trace_135 (by decide) (fun hc => absurd hc (by decide)) (fun _ => ?_)
                refine g_aload_n 138 5 hC dX1_trace_138 rfl ?_
                refine g_get 139 0 4 hC inlX1 wq_272 dX1_trace_139 rfl rfl (by decide) rfl ?_
                refine g_aload_n 142 5 hC dX1_trace_142 rfl ?_
                refine g_get 143 0 3 hC inlX1 wq_74 dX1_trace_143 rfl rfl (by decide) rfl ?_
                refine g_alen 146 15 0 hC dX1_trace_146 rfl rfl ?_
                refine g_icmp_ge 147 181 hC dX1_trace_147 (by decide) (fun hc => ?_) (fun hc => ?_)
                · replace h := h.1 hc
                  refine g_iinc (v := (1 : Int32)) 181 4 [(4, .int (v4 + (1 : Int32))), (3, .int (v3 - (2 : Int32))), (2, .int (v2 - (0 : Int32))), (6, .int (0 : Int32)), (5, .int r1), (0, .ref (ad b0)), (1, .ref (ad b1))] hC dX1_trace_181 rfl (by decide) (by rw [hn]; decide) rfl ?_
                  refine g_goto 184 24 hC dX1_trace_184 (by decide) ?_
                  refine G.sub [0, 1, 2, 5, 6] rfl ?_
                  exact ih _ _ _ _ _ h
                · replace h := h.2 hc
                  refine g_aload_n 150 5 hC dX1_trace_150 rfl ?_
                  refine g_get 151 0 3 hC inlX1 wq_74 dX1_trace_151 rfl rfl (by decide) rfl ?_
                  refine g_aload_n 154 5 hC dX1_trace_154 rfl ?_
                  refine g_get 155 0 4 hC inlX1 wq_272 dX1_trace_155 rfl rfl (by decide) rfl ?_
                  refine g_bipush (v := (100 : Int32)) 158 hC dX1_trace_158 (by decide) ?_
                  refine g_iload 160 3 hC dX1_trace_160 rfl ?_
                  refine g_imul 162 hC dX1_trace_162 ?_
                  refine g_bipush (v := (10 : Int32)) 163 hC dX1_trace_163 (by decide) ?_
                  refine g_iload_n 165 1 hC dX1_trace_165 rfl ?_
                  refine g_imul 166 hC dX1_trace_166 ?_
                  refine g_iadd 167 hC dX1_trace_167 ?_
                  refine g_iload_n 168 0 hC dX1_trace_168 rfl ?_
                  refine g_iadd 169 hC dX1_trace_169 ?_
                  obtain ⟨hj, h⟩ := h
                  refine g_iast 170 15 (Wd_X1_trace cI cS cT ad b0 b1 fN ld fln ftk gln gtk tb (upd ls (Int32.toNatClampNeg ld) ((((100 : Int32) * r1) + ((10 : Int32) * (v2 - (0 : Int32)))) + (v3 - (2 : Int32)))) fa) hC dX1_trace_170 rfl rfl hj rfl ?_
                  refine g_aload_n 171 5 hC dX1_trace_171 rfl ?_
                  refine g_dup 172 hC dX1_trace_172 rfl ?_
                  refine g_get 173 0 4 hC inlX1 wq_272 dX1_trace_173 rfl rfl (by decide) rfl ?_
                  refine g_iconst (v := (1 : Int32)) 176 hC dX1_trace_176 (by decide) ?_
                  refine g_iadd 177 hC dX1_trace_177 ?_
                  refine g_put 178 0 4 (Wd_X1_trace cI cS cT ad b0 b1 fN (ld + (1 : Int32)) fln ftk gln gtk tb (upd ls (Int32.toNatClampNeg ld) ((((100 : Int32) * r1) + ((10 : Int32) * (v2 - (0 : Int32)))) + (v3 - (2 : Int32)))) fa) hC inlX1 tyX1_ok nmX1 wq_272 dX1_trace_178 rfl rfl (by decide) rfl rfl (Nat.le_of_ble_eq_true rfl) rfl ?_
                  refine g_iinc (v := (1 : Int32)) 181 4 [(4, .int (v4 + (1 : Int32))), (3, .int (v3 - (2 : Int32))), (2, .int (v2 - (0 : Int32))), (6, .int (0 : Int32)), (5, .int r1), (0, .ref (ad b0)), (1, .ref (ad b1))] hC dX1_trace_181 rfl (by decide) (by rw [hn]; decide) rfl ?_
                  refine g_goto 184 24 hC dX1_trace_184 (by decide) ?_
                  refine G.sub [0, 1, 2, 5, 6] rfl ?_
                  exact ih _ _ _ _ _ h
            · replace h := h.2 hc
              refine g_iconst (v := (0 : Int32)) 116 hC dX1_trace_116 (by decide) ?_
              refine g_goto 117 131 hC dX1_trace_117 (by decide) ?_
              refine g_isub 131 hC dX1_trace_131 ?_
              refine g_istore_n 132 [(3, .int (v3 - (0 : Int32))), (2, .int (v2 - (0 : Int32))), (6, .int (0 : Int32)), (5, .int r1), (4, .int v4), (0, .ref (ad b0)), (1, .ref (ad b1))] hC dX1_trace_132 (by rw [hn]; decide) rfl ?_
              refine g_iload 133 2 hC dX1_trace_133 rfl ?_
              refine g_if_ne 135 181 hC dX1_trace_135 (by decide) (fun hc => absurd hc (by decide)) (fun _ => ?_)
              refine g_aload_n 138 5 hC dX1_trace_138 rfl ?_
              refine g_get 139 0 4 hC inlX1 wq_272 dX1_trace_139 rfl rfl (by decide) rfl ?_
              refine g_aload_n 142 5 hC dX1_trace_142 rfl ?_
              refine g_get 143 0 3 hC inlX1 wq_74 dX1_trace_143 rfl rfl (by decide) rfl ?_
              refine g_alen 146 15 0 hC dX1_trace_146 rfl rfl ?_
              refine g_icmp_ge 147 181 hC dX1_trace_147 (by decide) (fun hc => ?_) (fun hc => ?_)
              · replace h := h.1 hc
                refine g_iinc (v := (1 : Int32)) 181 4 [(4, .int (v4 + (1 : Int32))), (3, .int (v3 - (0 : Int32))), (2, .int (v2 - (0 : Int32))), (6, .int (0 : Int32)), (5, .int r1), (0, .ref (ad b0)), (1, .ref (ad b1))] hC dX1_trace_181 rfl (by decide) (by rw [hn]; decide) rfl ?_
                refine g_goto 184 24 hC dX1_trace_184 (by decide) ?_
                refine G.sub [0, 1, 2, 5, 6] rfl ?_
                exact ih _ _ _ _ _ h
              · replace h := h.2 hc
                refine g_aload_n 150 5 hC dX1_trace_150 rfl ?_
                refine g_get 151 0 3 hC inlX1 wq_74 dX1_trace_151 rfl rfl (by decide) rfl ?_
                refine g_aload_n 154 5 hC dX1_trace_154 rfl ?_
                refine g_get 155 0 4 hC inlX1 wq_272 dX1_trace_155 rfl rfl (by decide) rfl ?_
                refine g_bipush (v := (100 : Int32)) 158 hC dX1_trace_158 (by decide) ?_
                refine g_iload 160 3 hC dX1_trace_160 rfl ?_
                refine g_imul 162 hC dX1_trace_162 ?_
                refine g_bipush (v := (10 : Int32)) 163 hC dX1_trace_163 (by decide) ?_
                refine g_iload_n 165 1 hC dX1_trace_165 rfl ?_
                refine g_imul 166 hC dX1_trace_166 ?_
                refine g_iadd 167 hC dX1_trace_167 ?_
                refine g_iload_n 168 0 hC dX1_trace_168 rfl ?_
                refine g_iadd 169 hC dX1_trace_169 ?_
                obtain ⟨hj, h⟩ := h
                refine g_iast 170 15 (Wd_X1_trace cI cS cT ad b0 b1 fN ld fln ftk gln gtk tb (upd ls (Int32.toNatClampNeg ld) ((((100 : Int32) * r1) + ((10 : Int32) * (v2 - (0 : Int32)))) + (v3 - (0 : Int32)))) fa) hC dX1_trace_170 rfl rfl hj rfl ?_
                refine g_aload_n 171 5 hC dX1_trace_171 rfl ?_
                refine g_dup 172 hC dX1_trace_172 rfl ?_
                refine g_get 173 0 4 hC inlX1 wq_272 dX1_trace_173 rfl rfl (by decide) rfl ?_
                refine g_iconst (v := (1 : Int32)) 176 hC dX1_trace_176 (by decide) ?_
                refine g_iadd 177 hC dX1_trace_177 ?_
                refine g_put 178 0 4 (Wd_X1_trace cI cS cT ad b0 b1 fN (ld + (1 : Int32)) fln ftk gln gtk tb (upd ls (Int32.toNatClampNeg ld) ((((100 : Int32) * r1) + ((10 : Int32) * (v2 - (0 : Int32)))) + (v3 - (0 : Int32)))) fa) hC inlX1 tyX1_ok nmX1 wq_272 dX1_trace_178 rfl rfl (by decide) rfl rfl (Nat.le_of_ble_eq_true rfl) rfl ?_
                refine g_iinc (v := (1 : Int32)) 181 4 [(4, .int (v4 + (1 : Int32))), (3, .int (v3 - (0 : Int32))), (2, .int (v2 - (0 : Int32))), (6, .int (0 : Int32)), (5, .int r1), (0, .ref (ad b0)), (1, .ref (ad b1))] hC dX1_trace_181 rfl (by decide) (by rw [hn]; decide) rfl ?_
                refine g_goto 184 24 hC dX1_trace_184 (by decide) ?_
                refine G.sub [0, 1, 2, 5, 6] rfl ?_
                exact ih _ _ _ _ _ h
        · replace h := h.2 hc
          refine g_aload_n 55 4 hC dX1_trace_55 rfl ?_
          refine g_get 56 0 0 hC inlX1 wq_70 dX1_trace_56 rfl rfl (by decide) rfl ?_
          refine g_iload_n 59 3 hC dX1_trace_59 rfl ?_
          refine g_iconst (v := (1 : Int32)) 60 hC dX1_trace_60 (by decide) ?_
          refine g_isub 61 hC dX1_trace_61 ?_
          refine g_cVNi (As := [.int (v2 - (1 : Int32))]) (rest := []) 62 1 [1, 2] hC (c_X5_at l D cI cS cT ad (b0 + 1) (v2 - (1 : Int32)) fln ftk _ h) kX5_at nq_351 dX1_trace_62 rfl rfl ⟨Nat.le_of_ble_eq_true rfl, Nat.le_of_ble_eq_true rfl⟩ rfl rfl (Nat.zero_le _) (Nat.zero_le _) rfl rfl rfl (Nat.le_of_ble_eq_true rfl) ?_
          rintro r2 _ ⟨rfl, h⟩
          refine ⟨Nat.le_of_ble_eq_true rfl, G.upd [0, 3, 4, 5, 6, 7, 8, 9, 10, 11, 12, 13, 14, 15, 16] (Wd_X1_trace cI cS cT ad b0 b1 fN ld fln ftk gln gtk tb ls fa) rfl rfl rfl rfl rfl ?_⟩
          refine g_aload_n 65 4 hC dX1_trace_65 rfl ?_
          refine g_get 66 0 1 hC inlX1 wq_71 dX1_trace_66 rfl rfl (by decide) rfl ?_
          refine g_iload_n 69 2 hC dX1_trace_69 rfl ?_
          refine g_iconst (v := (1 : Int32)) 70 hC dX1_trace_70 (by decide) ?_
          refine g_isub 71 hC dX1_trace_71 ?_
          refine g_cVNi (As := [.int (v3 - (1 : Int32))]) (rest := [.int r2]) 72 3 [3, 4] hC (c_X5_at l D cI cS cT ad (b0 + 3) (v3 - (1 : Int32)) gln gtk _ h) kX5_at nq_351 dX1_trace_72 rfl rfl ⟨Nat.le_of_ble_eq_true rfl, Nat.le_of_ble_eq_true rfl⟩ rfl rfl (Nat.zero_le _) (Nat.zero_le _) rfl rfl rfl (Nat.le_of_ble_eq_true rfl) ?_
          rintro r3 _ ⟨rfl, h⟩
          refine ⟨Nat.le_of_ble_eq_true rfl, G.upd [0, 1, 2, 5, 6, 7, 8, 9, 10, 11, 12, 13, 14, 15, 16] (Wd_X1_trace cI cS cT ad b0 b1 fN ld fln ftk gln gtk tb ls fa) rfl rfl rfl rfl rfl ?_⟩
          refine g_icmp_ne 75 82 hC dX1_trace_75 (by decide) (fun hc => ?_) (fun hc => ?_)
          · replace h := h.1 hc
            refine g_iconst (v := (0 : Int32)) 82 hC dX1_trace_82 (by decide) ?_
            refine g_istore 83 [(6, .int (0 : Int32)), (5, .int r1), (4, .int v4), (3, .int v3), (2, .int v2), (0, .ref (ad b0)), (1, .ref (ad b1))] hC dX1_trace_83 (by rw [hn]; decide) rfl ?_
            refine g_iload_n 85 4 hC dX1_trace_85 rfl ?_
            refine g_iload 86 1 hC dX1_trace_86 rfl ?_
            refine g_iconst (v := (3 : Int32)) 88 hC dX1_trace_88 (by decide) ?_
            refine g_icmp_ne 89 96 hC dX1_trace_89 (by decide) (fun hc => ?_) (fun hc => ?_)
            · replace h := h.1 hc
              refine g_iload 96 1 hC dX1_trace_96 rfl ?_
              refine g_iconst (v := (4 : Int32)) 98 hC dX1_trace_98 (by decide) ?_
              refine g_icmp_ne 99 106 hC dX1_trace_99 (by decide) (fun hc => ?_) (fun hc => ?_)
              · replace h := h.1 hc
                refine g_iconst (v := (1 : Int32)) 106 hC dX1_trace_106 (by decide) ?_
                refine g_isub 107 hC dX1_trace_107 ?_
                refine g_istore_n 108 [(2, .int (v2 - (1 : Int32))), (6, .int (0 : Int32)), (5, .int r1), (4, .int v4), (3, .int v3), (0, .ref (ad b0)), (1, .ref (ad b1))] hC dX1_trace_108 (by rw [hn]; decide) rfl ?_
                refine g_iload_n 109 4 hC dX1_trace_109 rfl ?_
                refine g_iload 110 2 hC dX1_trace_110 rfl ?_
                refine g_iconst (v := (2 : Int32)) 112 hC dX1_trace_112 (by decide) ?_
                refine g_icmp_ne 113 120 hC dX1_trace_113 (by decide) (fun hc => ?_) (fun hc => ?_)
                · replace h := h.1 hc
                  refine g_iload 120 2 hC dX1_trace_120 rfl ?_
                  refine g_iconst (v := (4 : Int32)) 122 hC dX1_trace_122 (by decide) ?_
                  refine g_icmp_ne 123 130 hC dX1_trace_123 (by decide) (fun hc => ?_) (fun hc => ?_)
                  · replace h := h.1 hc
                    refine g_iconst (v := (1 : Int32)) 130 hC dX1_trace_130 (by decide) ?_
                    refine g_isub 131 hC dX1_trace_131 ?_
                    refine g_istore_n 132 [(3, .int (v3 - (1 : Int32))), (2, .int (v2 - (1 : Int32))), (6, .int (0 : Int32)), (5, .int r1), (4, .int v4), (0, .ref (ad b0)), (1, .ref (ad b1))] hC dX1_trace_132 (by rw [hn]; decide) rfl ?_
                    refine g_iload 133 2 hC dX1_trace_133 rfl ?_
                    refine g_if_ne 135 181 hC dX1_trace_135 (by decide) (fun hc => absurd hc (by decide)) (fun _ => ?_)
                    refine g_aload_n 138 5 hC dX1_trace_138 rfl ?_
                    refine g_get 139 0 4 hC inlX1 wq_272 dX1_trace_139 rfl rfl (by decide) rfl ?_
                    refine g_aload_n 142 5 hC dX1_trace_142 rfl ?_
                    refine g_get 143 0 3 hC inlX1 wq_74 dX1_trace_143 rfl rfl (by decide) rfl ?_
                    refine g_alen 146 15 0 hC dX1_trace_146 rfl rfl ?_
                    refine g_icmp_ge 147 181 hC dX1_trace_147 (by decide) (fun hc => ?_) (fun hc => ?_)
                    · replace h := h.1 hc
                      refine g_iinc (v := (1 : Int32)) 181 4 [(4, .int (v4 + (1 : Int32))), (3, .int (v3 - (1 : Int32))), (2, .int (v2 - (1 : Int32))), (6, .int (0 : Int32)), (5, .int r1), (0, .ref (ad b0)), (1, .ref (ad b1))] hC dX1_trace_181 rfl (by decide) (by rw [hn]; decide) rfl ?_
                      refine g_goto 184 24 hC dX1_trace_184 (by decide) ?_
                      refine G.sub [0, 1, 2, 5, 6] rfl ?_
                      exact ih _ _ _ _ _ h
                    · replace h := h.2 hc
                      refine g_aload_n 150 5 hC dX1_trace_150 rfl ?_
                      refine g_get 151 0 3 hC inlX1 wq_74 dX1_trace_151 rfl rfl (by decide) rfl ?_
                      refine g_aload_n 154 5 hC dX1_trace_154 rfl ?_
                      refine g_get 155 0 4 hC inlX1 wq_272 dX1_trace_155 rfl rfl (by decide) rfl ?_
                      refine g_bipush (v := (100 : Int32)) 158 hC dX1_trace_158 (by decide) ?_
                      refine g_iload 160 3 hC dX1_trace_160 rfl ?_
                      refine g_imul 162 hC dX1_trace_162 ?_
                      refine g_bipush (v := (10 : Int32)) 163 hC dX1_trace_163 (by decide) ?_
                      refine g_iload_n 165 1 hC dX1_trace_165 rfl ?_
                      refine g_imul 166 hC dX1_trace_166 ?_
                      refine g_iadd 167 hC dX1_trace_167 ?_
                      refine g_iload_n 168 0 hC dX1_trace_168 rfl ?_
                      refine g_iadd 169 hC dX1_trace_169 ?_
                      obtain ⟨hj, h⟩ := h
                      refine g_iast 170 15 (Wd_X1_trace cI cS cT ad b0 b1 fN ld fln ftk gln gtk tb (upd ls (Int32.toNatClampNeg ld) ((((100 : Int32) * r1) + ((10 : Int32) * (v2 - (1 : Int32)))) + (v3 - (1 : Int32)))) fa) hC dX1_trace_170 rfl rfl hj rfl ?_
                      refine g_aload_n 171 5 hC dX1_trace_171 rfl ?_
                      refine g_dup 172 hC dX1_trace_172 rfl ?_
                      refine g_get 173 0 4 hC inlX1 wq_272 dX1_trace_173 rfl rfl (by decide) rfl ?_
                      refine g_iconst (v := (1 : Int32)) 176 hC dX1_trace_176 (by decide) ?_
                      refine g_iadd 177 hC dX1_trace_177 ?_
                      refine g_put 178 0 4 (Wd_X1_trace cI cS cT ad b0 b1 fN (ld + (1 : Int32)) fln ftk gln gtk tb (upd ls (Int32.toNatClampNeg ld) ((((100 : Int32) * r1) + ((10 : Int32) * (v2 - (1 : Int32)))) + (v3 - (1 : Int32)))) fa) hC inlX1 tyX1_ok nmX1 wq_272 dX1_trace_178 rfl rfl (by decide) rfl rfl (Nat.le_of_ble_eq_true rfl) rfl ?_
                      refine g_iinc (v := (1 : Int32)) 181 4 [(4, .int (v4 + (1 : Int32))), (3, .int (v3 - (1 : Int32))), (2, .int (v2 - (1 : Int32))), (6, .int (0 : Int32)), (5, .int r1), (0, .ref (ad b0)), (1, .ref (ad b1))] hC dX1_trace_181 rfl (by decide) (by rw [hn]; decide) rfl ?_
                      refine g_goto 184 24 hC dX1_trace_184 (by decide) ?_
                      refine G.sub [0, 1, 2, 5, 6] rfl ?_
                      exact ih _ _ _ _ _ h
                  · replace h := h.2 hc
                    refine g_iconst (v := (2 : Int32)) 126 hC dX1_trace_126 (by decide) ?_
                    refine g_goto 127 131 hC dX1_trace_127 (by decide) ?_
                    refine g_isub 131 hC dX1_trace_131 ?_
                    refine g_istore_n 132 [(3, .int (v3 - (2 : Int32))), (2, .int (v2 - (1 : Int32))), (6, .int (0 : Int32)), (5, .int r1), (4, .int v4), (0, .ref (ad b0)), (1, .ref (ad b1))] hC dX1_trace_132 (by rw [hn]; decide) rfl ?_
                    refine g_iload 133 2 hC dX1_trace_133 rfl ?_
                    refine g_if_ne 135 181 hC dX1_trace_135 (by decide) (fun hc => absurd hc (by decide)) (fun _ => ?_)
                    refine g_aload_n 138 5 hC dX1_trace_138 rfl ?_
                    refine g_get 139 0 4 hC inlX1 wq_272 dX1_trace_139 rfl rfl (by decide) rfl ?_
                    refine g_aload_n 142 5 hC dX1_trace_142 rfl ?_
                    refine g_get 143 0 3 hC inlX1 wq_74 dX1_trace_143 rfl rfl (by decide) rfl ?_
                    refine g_alen 146 15 0 hC dX1_trace_146 rfl rfl ?_
                    refine g_icmp_ge 147 181 hC dX1_trace_147 (by decide) (fun hc => ?_) (fun hc => ?_)
                    · replace h := h.1 hc
                      refine g_iinc (v := (1 : Int32)) 181 4 [(4, .int (v4 + (1 : Int32))), (3, .int (v3 - (2 : Int32))), (2, .int (v2 - (1 : Int32))), (6, .int (0 : Int32)), (5, .int r1), (0, .ref (ad b0)), (1, .ref (ad b1))] hC dX1_trace_181 rfl (by decide) (by rw [hn]; decide) rfl ?_
                      refine g_goto 184 24 hC dX1_trace_184 (by decide) ?_
                      refine G.sub [0, 1, 2, 5, 6] rfl ?_
                      exact ih _ _ _ _ _ h
                    · replace h := h.2 hc
                      refine g_aload_n 150 5 hC dX1_trace_150 rfl ?_
                      refine g_get 151 0 3 hC inlX1 wq_74 dX1_trace_151 rfl rfl (by decide) rfl ?_
                      refine g_aload_n 154 5 hC dX1_trace_154 rfl ?_
                      refine g_get 155 0 4 hC inlX1 wq_272 dX1_trace_155 rfl rfl (by decide) rfl ?_
                      refine g_bipush (v := (100 : Int32)) 158 hC dX1_trace_158 (by decide) ?_
                      refine g_iload 160 3 hC dX1_trace_160 rfl ?_
                      refine g_imul 162 hC dX1_trace_162 ?_
                      refine g_bipush (v := (10 : Int32)) 163 hC dX1_trace_163 (by decide) ?_
                      refine g_iload_n 165 1 hC dX1_trace_165 rfl ?_
                      refine g_imul 166 hC dX1_trace_166 ?_
                      refine g_iadd 167 hC dX1_trace_167 ?_
                      refine g_iload_n 168 0 hC dX1_trace_168 rfl ?_
                      refine g_iadd 169 hC dX1_trace_169 ?_
                      obtain ⟨hj, h⟩ := h
                      refine g_iast 170 15 (Wd_X1_trace cI cS cT ad b0 b1 fN ld fln ftk gln gtk tb (upd ls (Int32.toNatClampNeg ld) ((((100 : Int32) * r1) + ((10 : Int32) * (v2 - (1 : Int32)))) + (v3 - (2 : Int32)))) fa) hC dX1_trace_170 rfl rfl hj rfl ?_
                      refine g_aload_n 171 5 hC dX1_trace_171 rfl ?_
                      refine g_dup 172 hC dX1_trace_172 rfl ?_
                      refine g_get 173 0 4 hC inlX1 wq_272 dX1_trace_173 rfl rfl (by decide) rfl ?_
                      refine g_iconst (v := (1 : Int32)) 176 hC dX1_trace_176 (by decide) ?_
                      refine g_iadd 177 hC dX1_trace_177 ?_
                      refine g_put 178 0 4 (Wd_X1_trace cI cS cT ad b0 b1 fN (ld + (1 : Int32)) fln ftk gln gtk tb (upd ls (Int32.toNatClampNeg ld) ((((100 : Int32) * r1) + ((10 : Int32) * (v2 - (1 : Int32)))) + (v3 - (2 : Int32)))) fa) hC inlX1 tyX1_ok nmX1 wq_272 dX1_trace_178 rfl rfl (by decide) rfl rfl (Nat.le_of_ble_eq_true rfl) rfl ?_
                      refine g_iinc (v := (1 : Int32)) 181 4 [(4, .int (v4 + (1 : Int32))), (3, .int (v3 - (2 : Int32))), (2, .int (v2 - (1 : Int32))), (6, .int (0 : Int32)), (5, .int r1), (0, .ref (ad b0)), (1, .ref (ad b1))] hC dX1_trace_181 rfl (by decide) (by rw [hn]; decide) rfl ?_
                      refine g_goto 184 24 hC dX1_trace_184 (by decide) ?_
                      refine G.sub [0, 1, 2, 5, 6] rfl ?_
                      exact ih _ _ _ _ _ h
                · replace h := h.2 hc
                  refine g_iconst (v := (0 : Int32)) 116 hC dX1_trace_116 (by decide) ?_
                  refine g_goto 117 131 hC dX1_trace_117 (by decide) ?_
                  refine g_isub 131 hC dX1_trace_131 ?_
                  refine g_istore_n 132 [(3, .int (v3 - (0 : Int32))), (2, .int (v2 - (1 : Int32))), (6, .int (0 : Int32)), (5, .int r1), (4, .int v4), (0, .ref (ad b0)), (1, .ref (ad b1))] hC dX1_trace_132 (by rw [hn]; decide) rfl ?_
                  refine g_iload 133 2 hC dX1_trace_133 rfl ?_
                  refine g_if_ne 135 181 hC dX1_trace_135 (by decide) (fun hc => absurd hc (by decide)) (fun _ => ?_)
                  refine g_aload_n 138 5 hC dX1_trace_138 rfl ?_
                  refine g_get 139 0 4 hC inlX1 wq_272 dX1_trace_139 rfl rfl (by decide) rfl ?_
                  refine g_aload_n 142 5 hC dX1_trace_142 rfl ?_
                  refine g_get 143 0 3 hC inlX1 wq_74 dX1_trace_143 rfl rfl (by decide) rfl ?_
                  refine g_alen 146 15 0 hC dX1_trace_146 rfl rfl ?_
                  refine g_icmp_ge 147 181 hC dX1_trace_147 (by decide) (fun hc => ?_) (fun hc => ?_)
                  · replace h := h.1 hc
                    refine g_iinc (v := (1 : Int32)) 181 4 [(4, .int (v4 + (1 : Int32))), (3, .int (v3 - (0 : Int32))), (2, .int (v2 - (1 : Int32))), (6, .int (0 : Int32)), (5, .int r1), (0, .ref (ad b0)), (1, .ref (ad b1))] hC dX1_trace_181 rfl (by decide) (by rw [hn]; decide) rfl ?_
                    refine g_goto 184 24 hC dX1_trace_184 (by decide) ?_
                    refine G.sub [0, 1, 2, 5, 6] rfl ?_
                    exact ih _ _ _ _ _ h
                  · replace h := h.2 hc
                    refine g_aload_n 150 5 hC dX1_trace_150 rfl ?_
                    refine g_get 151 0 3 hC inlX1 wq_74 dX1_trace_151 rfl rfl (by decide) rfl ?_
                    refine g_aload_n 154 5 hC dX1_trace_154 rfl ?_
                    refine g_get 155 0 4 hC inlX1 wq_272 dX1_trace_155 rfl rfl (by decide) rfl ?_
                    refine g_bipush (v := (100 : Int32)) 158 hC dX1_trace_158 (by decide) ?_
                    refine g_iload 160 3 hC dX1_trace_160 rfl ?_
                    refine g_imul 162 hC dX1_trace_162 ?_
                    refine g_bipush (v := (10 : Int32)) 163 hC dX1_trace_163 (by decide) ?_
                    refine g_iload_n 165 1 hC dX1_trace_165 rfl ?_
                    refine g_imul 166 hC dX1_trace_166 ?_
                    refine g_iadd 167 hC dX1_trace_167 ?_
                    refine g_iload_n 168 0 hC dX1_trace_168 rfl ?_
                    refine g_iadd 169 hC dX1_trace_169 ?_
                    obtain ⟨hj, h⟩ := h
                    refine g_iast 170 15 (Wd_X1_trace cI cS cT ad b0 b1 fN ld fln ftk gln gtk tb (upd ls (Int32.toNatClampNeg ld) ((((100 : Int32) * r1) + ((10 : Int32) * (v2 - (1 : Int32)))) + (v3 - (0 : Int32)))) fa) hC dX1_trace_170 rfl rfl hj rfl ?_
                    refine g_aload_n 171 5 hC dX1_trace_171 rfl ?_
                    refine g_dup 172 hC dX1_trace_172 rfl ?_
                    refine g_get 173 0 4 hC inlX1 wq_272 dX1_trace_173 rfl rfl (by decide) rfl ?_
                    refine g_iconst (v := (1 : Int32)) 176 hC dX1_trace_176 (by decide) ?_
                    refine g_iadd 177 hC dX1_trace_177 ?_
                    refine g_put 178 0 4 (Wd_X1_trace cI cS cT ad b0 b1 fN (ld + (1 : Int32)) fln ftk gln gtk tb (upd ls (Int32.toNatClampNeg ld) ((((100 : Int32) * r1) + ((10 : Int32) * (v2 - (1 : Int32)))) + (v3 - (0 : Int32)))) fa) hC inlX1 tyX1_ok nmX1 wq_272 dX1_trace_178 rfl rfl (by decide) rfl rfl (Nat.le_of_ble_eq_true rfl) rfl ?_
                    refine g_iinc (v := (1 : Int32)) 181 4 [(4, .int (v4 + (1 : Int32))), (3, .int (v3 - (0 : Int32))), (2, .int (v2 - (1 : Int32))), (6, .int (0 : Int32)), (5, .int r1), (0, .ref (ad b0)), (1, .ref (ad b1))] hC dX1_trace_181 rfl (by decide) (by rw [hn]; decide) rfl ?_
                    refine g_goto 184 24 hC dX1_trace_184 (by decide) ?_
                    refine G.sub [0, 1, 2, 5, 6] rfl ?_
                    exact ih _ _ _ _ _ h
              · replace h := h.2 hc
                refine g_iconst (v := (2 : Int32)) 102 hC dX1_trace_102 (by decide) ?_
                refine g_goto 103 107 hC dX1_trace_103 (by decide) ?_
                refine g_isub 107 hC dX1_trace_107 ?_
                refine g_istore_n 108 [(2, .int (v2 - (2 : Int32))), (6, .int (0 : Int32)), (5, .int r1), (4, .int v4), (3, .int v3), (0, .ref (ad b0)), (1, .ref (ad b1))] hC dX1_trace_108 (by rw [hn]; decide) rfl ?_
                refine g_iload_n 109 4 hC dX1_trace_109 rfl ?_
                refine g_iload 110 2 hC dX1_trace_110 rfl ?_
                refine g_iconst (v := (2 : Int32)) 112 hC dX1_trace_112 (by decide) ?_
                refine g_icmp_ne 113 120 hC dX1_trace_113 (by decide) (fun hc => ?_) (fun hc => ?_)
                · replace h := h.1 hc
                  refine g_iload 120 2 hC dX1_trace_120 rfl ?_
                  refine g_iconst (v := (4 : Int32)) 122 hC dX1_trace_122 (by decide) ?_
                  refine g_icmp_ne 123 130 hC dX1_trace_123 (by decide) (fun hc => ?_) (fun hc => ?_)
                  · replace h := h.1 hc
                    refine g_iconst (v := (1 : Int32)) 130 hC dX1_trace_130 (by decide) ?_
                    refine g_isub 131 hC dX1_trace_131 ?_
                    refine g_istore_n 132 [(3, .int (v3 - (1 : Int32))), (2, .int (v2 - (2 : Int32))), (6, .int (0 : Int32)), (5, .int r1), (4, .int v4), (0, .ref (ad b0)), (1, .ref (ad b1))] hC dX1_trace_132 (by rw [hn]; decide) rfl ?_
                    refine g_iload 133 2 hC dX1_trace_133 rfl ?_
                    refine g_if_ne 135 181 hC dX1_trace_135 (by decide) (fun hc => absurd hc (by decide)) (fun _ => ?_)
                    refine g_aload_n 138 5 hC dX1_trace_138 rfl ?_
                    refine g_get 139 0 4 hC inlX1 wq_272 dX1_trace_139 rfl rfl (by decide) rfl ?_
                    refine g_aload_n 142 5 hC dX1_trace_142 rfl ?_
                    refine g_get 143 0 3 hC inlX1 wq_74 dX1_trace_143 rfl rfl (by decide) rfl ?_
                    refine g_alen 146 15 0 hC dX1_trace_146 rfl rfl ?_
                    refine g_icmp_ge 147 181 hC dX1_trace_147 (by decide) (fun hc => ?_) (fun hc => ?_)
                    · replace h := h.1 hc
                      refine g_iinc (v := (1 : Int32)) 181 4 [(4, .int (v4 + (1 : Int32))), (3, .int (v3 - (1 : Int32))), (2, .int (v2 - (2 : Int32))), (6, .int (0 : Int32)), (5, .int r1), (0, .ref (ad b0)), (1, .ref (ad b1))] hC dX1_trace_181 rfl (by decide) (by rw [hn]; decide) rfl ?_
                      refine g_goto 184 24 hC dX1_trace_184 (by decide) ?_
                      refine G.sub [0, 1, 2, 5, 6] rfl ?_
                      exact ih _ _ _ _ _ h
                    · replace h := h.2 hc
                      refine g_aload_n 150 5 hC dX1_trace_150 rfl ?_
                      refine g_get 151 0 3 hC inlX1 wq_74 dX1_trace_151 rfl rfl (by decide) rfl ?_
                      refine g_aload_n 154 5 hC dX1_trace_154 rfl ?_
                      refine g_get 155 0 4 hC inlX1 wq_272 dX1_trace_155 rfl rfl (by decide) rfl ?_
                      refine g_bipush (v := (100 : Int32)) 158 hC dX1_trace_158 (by decide) ?_
                      refine g_iload 160 3 hC dX1_trace_160 rfl ?_
                      refine g_imul 162 hC dX1_trace_162 ?_
                      refine g_bipush (v := (10 : Int32)) 163 hC dX1_trace_163 (by decide) ?_
                      refine g_iload_n 165 1 hC dX1_trace_165 rfl ?_
                      refine g_imul 166 hC dX1_trace_166 ?_
                      refine g_iadd 167 hC dX1_trace_167 ?_
                      refine g_iload_n 168 0 hC dX1_trace_168 rfl ?_
                      refine g_iadd 169 hC dX1_trace_169 ?_
                      obtain ⟨hj, h⟩ := h
                      refine g_iast 170 15 (Wd_X1_trace cI cS cT ad b0 b1 fN ld fln ftk gln gtk tb (upd ls (Int32.toNatClampNeg ld) ((((100 : Int32) * r1) + ((10 : Int32) * (v2 - (2 : Int32)))) + (v3 - (1 : Int32)))) fa) hC dX1_trace_170 rfl rfl hj rfl ?_
                      refine g_aload_n 171 5 hC dX1_trace_171 rfl ?_
                      refine g_dup 172 hC dX1_trace_172 rfl ?_
                      refine g_get 173 0 4 hC inlX1 wq_272 dX1_trace_173 rfl rfl (by decide) rfl ?_
                      refine g_iconst (v := (1 : Int32)) 176 hC dX1_trace_176 (by decide) ?_
                      refine g_iadd 177 hC dX1_trace_177 ?_
                      refine g_put 178 0 4 (Wd_X1_trace cI cS cT ad b0 b1 fN (ld + (1 : Int32)) fln ftk gln gtk tb (upd ls (Int32.toNatClampNeg ld) ((((100 : Int32) * r1) + ((10 : Int32) * (v2 - (2 : Int32)))) + (v3 - (1 : Int32)))) fa) hC inlX1 tyX1_ok nmX1 wq_272 dX1_trace_178 rfl rfl (by decide) rfl rfl (Nat.le_of_ble_eq_true rfl) rfl ?_
                      refine g_iinc (v := (1 : Int32)) 181 4 [(4, .int (v4 + (1 : Int32))), (3, .int (v3 - (1 : Int32))), (2, .int (v2 - (2 : Int32))), (6, .int (0 : Int32)), (5, .int r1), (0, .ref (ad b0)), (1, .ref (ad b1))] hC dX1_trace_181 rfl (by decide) (by rw [hn]; decide) rfl ?_
                      refine g_goto 184 24 hC dX1_trace_184 (by decide) ?_
                      refine G.sub [0, 1, 2, 5, 6] rfl ?_
                      exact ih _ _ _ _ _ h
                  · replace h := h.2 hc
                    refine g_iconst (v := (2 : Int32)) 126 hC dX1_trace_126 (by decide) ?_
                    refine g_goto 127 131 hC dX1_trace_127 (by decide) ?_
                    refine g_isub 131 hC dX1_trace_131 ?_
                    refine g_istore_n 132 [(3, .int (v3 - (2 : Int32))), (2, .int (v2 - (2 : Int32))), (6, .int (0 : Int32)), (5, .int r1), (4, .int v4), (0, .ref (ad b0)), (1, .ref (ad b1))] hC dX1_trace_132 (by rw [hn]; decide) rfl ?_
                    refine g_iload 133 2 hC dX1_trace_133 rfl ?_
                    refine g_if_ne 135 181 hC dX1_trace_135 (by decide) (fun hc => absurd hc (by decide)) (fun _ => ?_)
                    refine g_aload_n 138 5 hC dX1_trace_138 rfl ?_
                    refine g_get 139 0 4 hC inlX1 wq_272 dX1_trace_139 rfl rfl (by decide) rfl ?_
                    refine g_aload_n 142 5 hC dX1_trace_142 rfl ?_
                    refine g_get 143 0 3 hC inlX1 wq_74 dX1_trace_143 rfl rfl (by decide) rfl ?_
                    refine g_alen 146 15 0 hC dX1_trace_146 rfl rfl ?_
                    refine g_icmp_ge 147 181 hC dX1_trace_147 (by decide) (fun hc => ?_) (fun hc => ?_)
                    · replace h := h.1 hc
                      refine g_iinc (v := (1 : Int32)) 181 4 [(4, .int (v4 + (1 : Int32))), (3, .int (v3 - (2 : Int32))), (2, .int (v2 - (2 : Int32))), (6, .int (0 : Int32)), (5, .int r1), (0, .ref (ad b0)), (1, .ref (ad b1))] hC dX1_trace_181 rfl (by decide) (by rw [hn]; decide) rfl ?_
                      refine g_goto 184 24 hC dX1_trace_184 (by decide) ?_
                      refine G.sub [0, 1, 2, 5, 6] rfl ?_
                      exact ih _ _ _ _ _ h
                    · replace h := h.2 hc
                      refine g_aload_n 150 5 hC dX1_trace_150 rfl ?_
                      refine g_get 151 0 3 hC inlX1 wq_74 dX1_trace_151 rfl rfl (by decide) rfl ?_
                      refine g_aload_n 154 5 hC dX1_trace_154 rfl ?_
                      refine g_get 155 0 4 hC inlX1 wq_272 dX1_trace_155 rfl rfl (by decide) rfl ?_
                      refine g_bipush (v := (100 : Int32)) 158 hC dX1_trace_158 (by decide) ?_
                      refine g_iload 160 3 hC dX1_trace_160 rfl ?_
                      refine g_imul 162 hC dX1_trace_162 ?_
                      refine g_bipush (v := (10 : Int32)) 163 hC dX1_trace_163 (by decide) ?_
                      refine g_iload_n 165 1 hC dX1_trace_165 rfl ?_
                      refine g_imul 166 hC dX1_trace_166 ?_
                      refine g_iadd 167 hC dX1_trace_167 ?_
                      refine g_iload_n 168 0 hC dX1_trace_168 rfl ?_
                      refine g_iadd 169 hC dX1_trace_169 ?_
                      obtain ⟨hj, h⟩ := h
                      refine g_iast 170 15 (Wd_X1_trace cI cS cT ad b0 b1 fN ld fln ftk gln gtk tb (upd ls (Int32.toNatClampNeg ld) ((((100 : Int32) * r1) + ((10 : Int32) * (v2 - (2 : Int32)))) + (v3 - (2 : Int32)))) fa) hC dX1_trace_170 rfl rfl hj rfl ?_
                      refine g_aload_n 171 5 hC dX1_trace_171 rfl ?_
                      refine g_dup 172 hC dX1_trace_172 rfl ?_
                      refine g_get 173 0 4 hC inlX1 wq_272 dX1_trace_173 rfl rfl (by decide) rfl ?_
                      refine g_iconst (v := (1 : Int32)) 176 hC dX1_trace_176 (by decide) ?_
                      refine g_iadd 177 hC dX1_trace_177 ?_
                      refine g_put 178 0 4 (Wd_X1_trace cI cS cT ad b0 b1 fN (ld + (1 : Int32)) fln ftk gln gtk tb (upd ls (Int32.toNatClampNeg ld) ((((100 : Int32) * r1) + ((10 : Int32) * (v2 - (2 : Int32)))) + (v3 - (2 : Int32)))) fa) hC inlX1 tyX1_ok nmX1 wq_272 dX1_trace_178 rfl rfl (by decide) rfl rfl (Nat.le_of_ble_eq_true rfl) rfl ?_
                      refine g_iinc (v := (1 : Int32)) 181 4 [(4, .int (v4 + (1 : Int32))), (3, .int (v3 - (2 : Int32))), (2, .int (v2 - (2 : Int32))), (6, .int (0 : Int32)), (5, .int r1), (0, .ref (ad b0)), (1, .ref (ad b1))] hC dX1_trace_181 rfl (by decide) (by rw [hn]; decide) rfl ?_
                      refine g_goto 184 24 hC dX1_trace_184 (by decide) ?_
                      refine G.sub [0, 1, 2, 5, 6] rfl ?_
                      exact ih _ _ _ _ _ h
                · replace h := h.2 hc
                  refine g_iconst (v := (0 : Int32)) 116 hC dX1_trace_116 (by decide) ?_
                  refine g_goto 117 131 hC dX1_trace_117 (by decide) ?_
                  refine g_isub 131 hC dX1_trace_131 ?_
                  refine g_istore_n 132 [(3, .int (v3 - (0 : Int32))), (2, .int (v2 - (2 : Int32))), (6, .int (0 : Int32)), (5, .int r1), (4, .int v4), (0, .ref (ad b0)), (1, .ref (ad b1))] hC dX1_trace_132 (by rw [hn]; decide) rfl ?_
                  refine g_iload 133 2 hC dX1_trace_133 rfl ?_
                  refine g_if_ne 135 181 hC dX1_trace_135 (by decide) (fun hc => absurd hc (by decide)) (fun _ => ?_)
                  refine g_aload_n 138 5 hC dX1_trace_138 rfl ?_
                  refine g_get 139 0 4 hC inlX1 wq_272 dX1_trace_139 rfl rfl (by decide) rfl ?_
                  refine g_aload_n 142 5 hC dX1_trace_142 rfl ?_
                  refine g_get 143 0 3 hC inlX1 wq_74 dX1_trace_143 rfl rfl (by decide) rfl ?_
                  refine g_alen 146 15 0 hC dX1_trace_146 rfl rfl ?_
                  refine g_icmp_ge 147 181 hC dX1_trace_147 (by decide) (fun hc => ?_) (fun hc => ?_)
                  · replace h := h.1 hc
                    refine g_iinc (v := (1 : Int32)) 181 4 [(4, .int (v4 + (1 : Int32))), (3, .int (v3 - (0 : Int32))), (2, .int (v2 - (2 : Int32))), (6, .int (0 : Int32)), (5, .int r1), (0, .ref (ad b0)), (1, .ref (ad b1))] hC dX1_trace_181 rfl (by decide) (by rw [hn]; decide) rfl ?_
                    refine g_goto 184 24 hC dX1_trace_184 (by decide) ?_
                    refine G.sub [0, 1, 2, 5, 6] rfl ?_
                    exact ih _ _ _ _ _ h
                  · replace h := h.2 hc
                    refine g_aload_n 150 5 hC dX1_trace_150 rfl ?_
                    refine g_get 151 0 3 hC inlX1 wq_74 dX1_trace_151 rfl rfl (by decide) rfl ?_
                    refine g_aload_n 154 5 hC dX1_trace_154 rfl ?_
                    refine g_get 155 0 4 hC inlX1 wq_272 dX1_trace_155 rfl rfl (by decide) rfl ?_
                    refine g_bipush (v := (100 : Int32)) 158 hC dX1_trace_158 (by decide) ?_
                    refine g_iload 160 3 hC dX1_trace_160 rfl ?_
                    refine g_imul 162 hC dX1_trace_162 ?_
                    refine g_bipush (v := (10 : Int32)) 163 hC dX1_trace_163 (by decide) ?_
                    refine g_iload_n 165 1 hC dX1_trace_165 rfl ?_
                    refine g_imul 166 hC dX1_trace_166 ?_
                    refine g_iadd 167 hC dX1_trace_167 ?_
                    refine g_iload_n 168 0 hC dX1_trace_168 rfl ?_
                    refine g_iadd 169 hC dX1_trace_169 ?_
                    obtain ⟨hj, h⟩ := h
                    refine g_iast 170 15 (Wd_X1_trace cI cS cT ad b0 b1 fN ld fln ftk gln gtk tb (upd ls (Int32.toNatClampNeg ld) ((((100 : Int32) * r1) + ((10 : Int32) * (v2 - (2 : Int32)))) + (v3 - (0 : Int32)))) fa) hC dX1_trace_170 rfl rfl hj rfl ?_
                    refine g_aload_n 171 5 hC dX1_trace_171 rfl ?_
                    refine g_dup 172 hC dX1_trace_172 rfl ?_
                    refine g_get 173 0 4 hC inlX1 wq_272 dX1_trace_173 rfl rfl (by decide) rfl ?_
                    refine g_iconst (v := (1 : Int32)) 176 hC dX1_trace_176 (by decide) ?_
                    refine g_iadd 177 hC dX1_trace_177 ?_
                    refine g_put 178 0 4 (Wd_X1_trace cI cS cT ad b0 b1 fN (ld + (1 : Int32)) fln ftk gln gtk tb (upd ls (Int32.toNatClampNeg ld) ((((100 : Int32) * r1) + ((10 : Int32) * (v2 - (2 : Int32)))) + (v3 - (0 : Int32)))) fa) hC inlX1 tyX1_ok nmX1 wq_272 dX1_trace_178 rfl rfl (by decide) rfl rfl (Nat.le_of_ble_eq_true rfl) rfl ?_
                    refine g_iinc (v := (1 : Int32)) 181 4 [(4, .int (v4 + (1 : Int32))), (3, .int (v3 - (0 : Int32))), (2, .int (v2 - (2 : Int32))), (6, .int (0 : Int32)), (5, .int r1), (0, .ref (ad b0)), (1, .ref (ad b1))] hC dX1_trace_181 rfl (by decide) (by rw [hn]; decide) rfl ?_
                    refine g_goto 184 24 hC dX1_trace_184 (by decide) ?_
                    refine G.sub [0, 1, 2, 5, 6] rfl ?_
                    exact ih _ _ _ _ _ h
            · replace h := h.2 hc
              refine g_iconst (v := (0 : Int32)) 92 hC dX1_trace_92 (by decide) ?_
              refine g_goto 93 107 hC dX1_trace_93 (by decide) ?_
              refine g_isub 107 hC dX1_trace_107 ?_
              refine g_istore_n 108 [(2, .int (v2 - (0 : Int32))), (6, .int (0 : Int32)), (5, .int r1), (4, .int v4), (3, .int v3), (0, .ref (ad b0)), (1, .ref (ad b1))] hC dX1_trace_108 (by rw [hn]; decide) rfl ?_
              refine g_iload_n 109 4 hC dX1_trace_109 rfl ?_
              refine g_iload 110 2 hC dX1_trace_110 rfl ?_
              refine g_iconst (v := (2 : Int32)) 112 hC dX1_trace_112 (by decide) ?_
              refine g_icmp_ne 113 120 hC dX1_trace_113 (by decide) (fun hc => ?_) (fun hc => ?_)
              · replace h := h.1 hc
                refine g_iload 120 2 hC dX1_trace_120 rfl ?_
                refine g_iconst (v := (4 : Int32)) 122 hC dX1_trace_122 (by decide) ?_
                refine g_icmp_ne 123 130 hC dX1_trace_123 (by decide) (fun hc => ?_) (fun hc => ?_)
                · replace h := h.1 hc
                  refine g_iconst (v := (1 : Int32)) 130 hC dX1_trace_130 (by decide) ?_
                  refine g_isub 131 hC dX1_trace_131 ?_
                  refine g_istore_n 132 [(3, .int (v3 - (1 : Int32))), (2, .int (v2 - (0 : Int32))), (6, .int (0 : Int32)), (5, .int r1), (4, .int v4), (0, .ref (ad b0)), (1, .ref (ad b1))] hC dX1_trace_132 (by rw [hn]; decide) rfl ?_
                  refine g_iload 133 2 hC dX1_trace_133 rfl ?_
                  refine g_if_ne 135 181 hC dX1_trace_135 (by decide) (fun hc => absurd hc (by decide)) (fun _ => ?_)
                  refine g_aload_n 138 5 hC dX1_trace_138 rfl ?_
                  refine g_get 139 0 4 hC inlX1 wq_272 dX1_trace_139 rfl rfl (by decide) rfl ?_
                  refine g_aload_n 142 5 hC dX1_trace_142 rfl ?_
                  refine g_get 143 0 3 hC inlX1 wq_74 dX1_trace_143 rfl rfl (by decide) rfl ?_
                  refine g_alen 146 15 0 hC dX1_trace_146 rfl rfl ?_
                  refine g_icmp_ge 147 181 hC dX1_trace_147 (by decide) (fun hc => ?_) (fun hc => ?_)
                  · replace h := h.1 hc
                    refine g_iinc (v := (1 : Int32)) 181 4 [(4, .int (v4 + (1 : Int32))), (3, .int (v3 - (1 : Int32))), (2, .int (v2 - (0 : Int32))), (6, .int (0 : Int32)), (5, .int r1), (0, .ref (ad b0)), (1, .ref (ad b1))] hC dX1_trace_181 rfl (by decide) (by rw [hn]; decide) rfl ?_
                    refine g_goto 184 24 hC dX1_trace_184 (by decide) ?_
                    refine G.sub [0, 1, 2, 5, 6] rfl ?_
                    exact ih _ _ _ _ _ h
                  · replace h := h.2 hc
                    refine g_aload_n 150 5 hC dX1_trace_150 rfl ?_
                    refine g_get 151 0 3 hC inlX1 wq_74 dX1_trace_151 rfl rfl (by decide) rfl ?_
                    refine g_aload_n 154 5 hC dX1_trace_154 rfl ?_
                    refine g_get 155 0 4 hC inlX1 wq_272 dX1_trace_155 rfl rfl (by decide) rfl ?_
                    refine g_bipush (v := (100 : Int32)) 158 hC dX1_trace_158 (by decide) ?_
                    refine g_iload 160 3 hC dX1_trace_160 rfl ?_
                    refine g_imul 162 hC dX1_trace_162 ?_
                    refine g_bipush (v := (10 : Int32)) 163 hC dX1_trace_163 (by decide) ?_
                    refine g_iload_n 165 1 hC dX1_trace_165 rfl ?_
                    refine g_imul 166 hC dX1_trace_166 ?_
                    refine g_iadd 167 hC dX1_trace_167 ?_
                    refine g_iload_n 168 0 hC dX1_trace_168 rfl ?_
                    refine g_iadd 169 hC dX1_trace_169 ?_
                    obtain ⟨hj, h⟩ := h
                    refine g_iast 170 15 (Wd_X1_trace cI cS cT ad b0 b1 fN ld fln ftk gln gtk tb (upd ls (Int32.toNatClampNeg ld) ((((100 : Int32) * r1) + ((10 : Int32) * (v2 - (0 : Int32)))) + (v3 - (1 : Int32)))) fa) hC dX1_trace_170 rfl rfl hj rfl ?_
                    refine g_aload_n 171 5 hC dX1_trace_171 rfl ?_
                    refine g_dup 172 hC dX1_trace_172 rfl ?_
                    refine g_get 173 0 4 hC inlX1 wq_272 dX1_trace_173 rfl rfl (by decide) rfl ?_
                    refine g_iconst (v := (1 : Int32)) 176 hC dX1_trace_176 (by decide) ?_
                    refine g_iadd 177 hC dX1_trace_177 ?_
                    refine g_put 178 0 4 (Wd_X1_trace cI cS cT ad b0 b1 fN (ld + (1 : Int32)) fln ftk gln gtk tb (upd ls (Int32.toNatClampNeg ld) ((((100 : Int32) * r1) + ((10 : Int32) * (v2 - (0 : Int32)))) + (v3 - (1 : Int32)))) fa) hC inlX1 tyX1_ok nmX1 wq_272 dX1_trace_178 rfl rfl (by decide) rfl rfl (Nat.le_of_ble_eq_true rfl) rfl ?_
                    refine g_iinc (v := (1 : Int32)) 181 4 [(4, .int (v4 + (1 : Int32))), (3, .int (v3 - (1 : Int32))), (2, .int (v2 - (0 : Int32))), (6, .int (0 : Int32)), (5, .int r1), (0, .ref (ad b0)), (1, .ref (ad b1))] hC dX1_trace_181 rfl (by decide) (by rw [hn]; decide) rfl ?_
                    refine g_goto 184 24 hC dX1_trace_184 (by decide) ?_
                    refine G.sub [0, 1, 2, 5, 6] rfl ?_
                    exact ih _ _ _ _ _ h
                · replace h := h.2 hc
                  refine g_iconst (v := (2 : Int32)) 126 hC dX1_trace_126 (by decide) ?_
                  refine g_goto 127 131 hC dX1_trace_127 (by decide) ?_
                  refine g_isub 131 hC dX1_trace_131 ?_
                  refine g_istore_n 132 [(3, .int (v3 - (2 : Int32))), (2, .int (v2 - (0 : Int32))), (6, .int (0 : Int32)), (5, .int r1), (4, .int v4), (0, .ref (ad b0)), (1, .ref (ad b1))] hC dX1_trace_132 (by rw [hn]; decide) rfl ?_
                  refine g_iload 133 2 hC dX1_trace_133 rfl ?_
                  refine g_if_ne 135 181 hC dX1_trace_135 (by decide) (fun hc => absurd hc (by decide)) (fun _ => ?_)
                  refine g_aload_n 138 5 hC dX1_trace_138 rfl ?_
                  refine g_get 139 0 4 hC inlX1 wq_272 dX1_trace_139 rfl rfl (by decide) rfl ?_
                  refine g_aload_n 142 5 hC dX1_trace_142 rfl ?_
                  refine g_get 143 0 3 hC inlX1 wq_74 dX1_trace_143 rfl rfl (by decide) rfl ?_
                  refine g_alen 146 15 0 hC dX1_trace_146 rfl rfl ?_
                  refine g_icmp_ge 147 181 hC dX1_trace_147 (by decide) (fun hc => ?_) (fun hc => ?_)
                  · replace h := h.1 hc
                    refine g_iinc (v := (1 : Int32)) 181 4 [(4, .int (v4 + (1 : Int32))), (3, .int (v3 - (2 : Int32))), (2, .int (v2 - (0 : Int32))), (6, .int (0 : Int32)), (5, .int r1), (0, .ref (ad b0)), (1, .ref (ad b1))] hC dX1_trace_181 rfl (by decide) (by rw [hn]; decide) rfl ?_
                    refine g_goto 184 24 hC dX1_trace_184 (by decide) ?_
                    refine G.sub [0, 1, 2, 5, 6] rfl ?_
                    exact ih _ _ _ _ _ h
                  · replace h := h.2 hc
                    refine g_aload_n 150 5 hC dX1_trace_150 rfl ?_
                    refine g_get 151 0 3 hC inlX1 wq_74 dX1_trace_151 rfl rfl (by decide) rfl ?_
                    refine g_aload_n 154 5 hC dX1_trace_154 rfl ?_
                    refine g_get 155 0 4 hC inlX1 wq_272 dX1_trace_155 rfl rfl (by decide) rfl ?_
                    refine g_bipush (v := (100 : Int32)) 158 hC dX1_trace_158 (by decide) ?_
                    refine g_iload 160 3 hC dX1_trace_160 rfl ?_
                    refine g_imul 162 hC dX1_trace_162 ?_
                    refine g_bipush (v := (10 : Int32)) 163 hC dX1_trace_163 (by decide) ?_
                    refine g_iload_n 165 1 hC dX1_trace_165 rfl ?_
                    refine g_imul 166 hC dX1_trace_166 ?_
                    refine g_iadd 167 hC dX1_trace_167 ?_
                    refine g_iload_n 168 0 hC dX1_trace_168 rfl ?_
                    refine g_iadd 169 hC dX1_trace_169 ?_
                    obtain ⟨hj, h⟩ := h
                    refine g_iast 170 15 (Wd_X1_trace cI cS cT ad b0 b1 fN ld fln ftk gln gtk tb (upd ls (Int32.toNatClampNeg ld) ((((100 : Int32) * r1) + ((10 : Int32) * (v2 - (0 : Int32)))) + (v3 - (2 : Int32)))) fa) hC dX1_trace_170 rfl rfl hj rfl ?_
                    refine g_aload_n 171 5 hC dX1_trace_171 rfl ?_
                    refine g_dup 172 hC dX1_trace_172 rfl ?_
                    refine g_get 173 0 4 hC inlX1 wq_272 dX1_trace_173 rfl rfl (by decide) rfl ?_
                    refine g_iconst (v := (1 : Int32)) 176 hC dX1_trace_176 (by decide) ?_
                    refine g_iadd 177 hC dX1_trace_177 ?_
                    refine g_put 178 0 4 (Wd_X1_trace cI cS cT ad b0 b1 fN (ld + (1 : Int32)) fln ftk gln gtk tb (upd ls (Int32.toNatClampNeg ld) ((((100 : Int32) * r1) + ((10 : Int32) * (v2 - (0 : Int32)))) + (v3 - (2 : Int32)))) fa) hC inlX1 tyX1_ok nmX1 wq_272 dX1_trace_178 rfl rfl (by decide) rfl rfl (Nat.le_of_ble_eq_true rfl) rfl ?_
                    refine g_iinc (v := (1 : Int32)) 181 4 [(4, .int (v4 + (1 : Int32))), (3, .int (v3 - (2 : Int32))), (2, .int (v2 - (0 : Int32))), (6, .int (0 : Int32)), (5, .int r1), (0, .ref (ad b0)), (1, .ref (ad b1))] hC dX1_trace_181 rfl (by decide) (by rw [hn]; decide) rfl ?_
                    refine g_goto 184 24 hC dX1_trace_184 (by decide) ?_
                    refine G.sub [0, 1, 2, 5, 6] rfl ?_
                    exact ih _ _ _ _ _ h
              · replace h := h.2 hc
                refine g_iconst (v := (0 : Int32)) 116 hC dX1_trace_116 (by decide) ?_
                refine g_goto 117 131 hC dX1_trace_117 (by decide) ?_
                refine g_isub 131 hC dX1_trace_131 ?_
                refine g_istore_n 132 [(3, .int (v3 - (0 : Int32))), (2, .int (v2 - (0 : Int32))), (6, .int (0 : Int32)), (5, .int r1), (4, .int v4), (0, .ref (ad b0)), (1, .ref (ad b1))] hC dX1_trace_132 (by rw [hn]; decide) rfl ?_
                refine g_iload 133 2 hC dX1_trace_133 rfl ?_
                refine g_if_ne 135 181 hC dX1_trace_135 (by decide) (fun hc => absurd hc (by decide)) (fun _ => ?_)
                refine g_aload_n 138 5 hC dX1_trace_138 rfl ?_
                refine g_get 139 0 4 hC inlX1 wq_272 dX1_trace_139 rfl rfl (by decide) rfl ?_
                refine g_aload_n 142 5 hC dX1_trace_142 rfl ?_
                refine g_get 143 0 3 hC inlX1 wq_74 dX1_trace_143 rfl rfl (by decide) rfl ?_
                refine g_alen 146 15 0 hC dX1_trace_146 rfl rfl ?_
                refine g_icmp_ge 147 181 hC dX1_trace_147 (by decide) (fun hc => ?_) (fun hc => ?_)
                · replace h := h.1 hc
                  refine g_iinc (v := (1 : Int32)) 181 4 [(4, .int (v4 + (1 : Int32))), (3, .int (v3 - (0 : Int32))), (2, .int (v2 - (0 : Int32))), (6, .int (0 : Int32)), (5, .int r1), (0, .ref (ad b0)), (1, .ref (ad b1))] hC dX1_trace_181 rfl (by decide) (by rw [hn]; decide) rfl ?_
                  refine g_goto 184 24 hC dX1_trace_184 (by decide) ?_
                  refine G.sub [0, 1, 2, 5, 6] rfl ?_
                  exact ih _ _ _ _ _ h
                · replace h := h.2 hc
                  refine g_aload_n 150 5 hC dX1_trace_150 rfl ?_
                  refine g_get 151 0 3 hC inlX1 wq_74 dX1_trace_151 rfl rfl (by decide) rfl ?_
                  refine g_aload_n 154 5 hC dX1_trace_154 rfl ?_
                  refine g_get 155 0 4 hC inlX1 wq_272 dX1_trace_155 rfl rfl (by decide) rfl ?_
                  refine g_bipush (v := (100 : Int32)) 158 hC dX1_trace_158 (by decide) ?_
                  refine g_iload 160 3 hC dX1_trace_160 rfl ?_
                  refine g_imul 162 hC dX1_trace_162 ?_
                  refine g_bipush (v := (10 : Int32)) 163 hC dX1_trace_163 (by decide) ?_
                  refine g_iload_n 165 1 hC dX1_trace_165 rfl ?_
                  refine g_imul 166 hC dX1_trace_166 ?_
                  refine g_iadd 167 hC dX1_trace_167 ?_
                  refine g_iload_n 168 0 hC dX1_trace_168 rfl ?_
                  refine g_iadd 169 hC dX1_trace_169 ?_
                  obtain ⟨hj, h⟩ := h
                  refine g_iast 170 15 (Wd_X1_trace cI cS cT ad b0 b1 fN ld fln ftk gln gtk tb (upd ls (Int32.toNatClampNeg ld) ((((100 : Int32) * r1) + ((10 : Int32) * (v2 - (0 : Int32)))) + (v3 - (0 : Int32)))) fa) hC dX1_trace_170 rfl rfl hj rfl ?_
                  refine g_aload_n 171 5 hC dX1_trace_171 rfl ?_
                  refine g_dup 172 hC dX1_trace_172 rfl ?_
                  refine g_get 173 0 4 hC inlX1 wq_272 dX1_trace_173 rfl rfl (by decide) rfl ?_
                  refine g_iconst (v := (1 : Int32)) 176 hC dX1_trace_176 (by decide) ?_
                  refine g_iadd 177 hC dX1_trace_177 ?_
                  refine g_put 178 0 4 (Wd_X1_trace cI cS cT ad b0 b1 fN (ld + (1 : Int32)) fln ftk gln gtk tb (upd ls (Int32.toNatClampNeg ld) ((((100 : Int32) * r1) + ((10 : Int32) * (v2 - (0 : Int32)))) + (v3 - (0 : Int32)))) fa) hC inlX1 tyX1_ok nmX1 wq_272 dX1_trace_178 rfl rfl (by decide) rfl rfl (Nat.le_of_ble_eq_true rfl) rfl ?_
                  refine g_iinc (v := (1 : Int32)) 181 4 [(4, .int (v4 + (1 : Int32))), (3, .int (v3 - (0 : Int32))), (2, .int (v2 - (0 : Int32))), (6, .int (0 : Int32)), (5, .int r1), (0, .ref (ad b0)), (1, .ref (ad b1))] hC dX1_trace_181 rfl (by decide) (by rw [hn]; decide) rfl ?_
                  refine g_goto 184 24 hC dX1_trace_184 (by decide) ?_
                  refine G.sub [0, 1, 2, 5, 6] rfl ?_
                  exact ih _ _ _ _ _ h
          · replace h := h.2 hc
            refine g_iconst (v := (1 : Int32)) 78 hC dX1_trace_78 (by decide) ?_
            refine g_goto 79 83 hC dX1_trace_79 (by decide) ?_
            refine g_istore 83 [(6, .int (1 : Int32)), (5, .int r1), (4, .int v4), (3, .int v3), (2, .int v2), (0, .ref (ad b0)), (1, .ref (ad b1))] hC dX1_trace_83 (by rw [hn]; decide) rfl ?_
            refine g_iload_n 85 4 hC dX1_trace_85 rfl ?_
            refine g_iload 86 1 hC dX1_trace_86 rfl ?_
            refine g_iconst (v := (3 : Int32)) 88 hC dX1_trace_88 (by decide) ?_
            refine g_icmp_ne 89 96 hC dX1_trace_89 (by decide) (fun hc => ?_) (fun hc => ?_)
            · replace h := h.1 hc
              refine g_iload 96 1 hC dX1_trace_96 rfl ?_
              refine g_iconst (v := (4 : Int32)) 98 hC dX1_trace_98 (by decide) ?_
              refine g_icmp_ne 99 106 hC dX1_trace_99 (by decide) (fun hc => ?_) (fun hc => ?_)
              · replace h := h.1 hc
                refine g_iconst (v := (1 : Int32)) 106 hC dX1_trace_106 (by decide) ?_
                refine g_isub 107 hC dX1_trace_107 ?_
                refine g_istore_n 108 [(2, .int (v2 - (1 : Int32))), (6, .int (1 : Int32)), (5, .int r1), (4, .int v4), (3, .int v3), (0, .ref (ad b0)), (1, .ref (ad b1))] hC dX1_trace_108 (by rw [hn]; decide) rfl ?_
                refine g_iload_n 109 4 hC dX1_trace_109 rfl ?_
                refine g_iload 110 2 hC dX1_trace_110 rfl ?_
                refine g_iconst (v := (2 : Int32)) 112 hC dX1_trace_112 (by decide) ?_
                refine g_icmp_ne 113 120 hC dX1_trace_113 (by decide) (fun hc => ?_) (fun hc => ?_)
                · replace h := h.1 hc
                  refine g_iload 120 2 hC dX1_trace_120 rfl ?_
                  refine g_iconst (v := (4 : Int32)) 122 hC dX1_trace_122 (by decide) ?_
                  refine g_icmp_ne 123 130 hC dX1_trace_123 (by decide) (fun hc => ?_) (fun hc => ?_)
                  · replace h := h.1 hc
                    refine g_iconst (v := (1 : Int32)) 130 hC dX1_trace_130 (by decide) ?_
                    refine g_isub 131 hC dX1_trace_131 ?_
                    refine g_istore_n 132 [(3, .int (v3 - (1 : Int32))), (2, .int (v2 - (1 : Int32))), (6, .int (1 : Int32)), (5, .int r1), (4, .int v4), (0, .ref (ad b0)), (1, .ref (ad b1))] hC dX1_trace_132 (by rw [hn]; decide) rfl ?_
                    refine g_iload 133 2 hC dX1_trace_133 rfl ?_
                    refine g_if_ne 135 181 hC dX1_trace_135 (by decide) (fun _ => ?_) (fun hc => absurd hc (by decide))
                    refine g_iinc (v := (1 : Int32)) 181 4 [(4, .int (v4 + (1 : Int32))), (3, .int (v3 - (1 : Int32))), (2, .int (v2 - (1 : Int32))), (6, .int (1 : Int32)), (5, .int r1), (0, .ref (ad b0)), (1, .ref (ad b1))] hC dX1_trace_181 rfl (by decide) (by rw [hn]; decide) rfl ?_
                    refine g_goto 184 24 hC dX1_trace_184 (by decide) ?_
                    refine G.sub [0, 1, 2, 5, 6] rfl ?_
                    exact ih _ _ _ _ _ h
                  · replace h := h.2 hc
                    refine g_iconst (v := (2 : Int32)) 126 hC dX1_trace_126 (by decide) ?_
                    refine g_goto 127 131 hC dX1_trace_127 (by decide) ?_
                    refine g_isub 131 hC dX1_trace_131 ?_
                    refine g_istore_n 132 [(3, .int (v3 - (2 : Int32))), (2, .int (v2 - (1 : Int32))), (6, .int (1 : Int32)), (5, .int r1), (4, .int v4), (0, .ref (ad b0)), (1, .ref (ad b1))] hC dX1_trace_132 (by rw [hn]; decide) rfl ?_
                    refine g_iload 133 2 hC dX1_trace_133 rfl ?_
                    refine g_if_ne 135 181 hC dX1_trace_135 (by decide) (fun _ => ?_) (fun hc => absurd hc (by decide))
                    refine g_iinc (v := (1 : Int32)) 181 4 [(4, .int (v4 + (1 : Int32))), (3, .int (v3 - (2 : Int32))), (2, .int (v2 - (1 : Int32))), (6, .int (1 : Int32)), (5, .int r1), (0, .ref (ad b0)), (1, .ref (ad b1))] hC dX1_trace_181 rfl (by decide) (by rw [hn]; decide) rfl ?_
                    refine g_goto 184 24 hC dX1_trace_184 (by decide) ?_
                    refine G.sub [0, 1, 2, 5, 6] rfl ?_
                    exact ih _ _ _ _ _ h
                · replace h := h.2 hc
                  refine g_iconst (v := (0 : Int32)) 116 hC dX1_trace_116 (by decide) ?_
                  refine g_goto 117 131 hC dX1_trace_117 (by decide) ?_
                  refine g_isub 131 hC dX1_trace_131 ?_
                  refine g_istore_n 132 [(3, .int (v3 - (0 : Int32))), (2, .int (v2 - (1 : Int32))), (6, .int (1 : Int32)), (5, .int r1), (4, .int v4), (0, .ref (ad b0)), (1, .ref (ad b1))] hC dX1_trace_132 (by rw [hn]; decide) rfl ?_
                  refine g_iload 133 2 hC dX1_trace_133 rfl ?_
                  refine g_if_ne 135 181 hC dX1_trace_135 (by decide) (fun _ => ?_) (fun hc => absurd hc (by decide))
                  refine g_iinc (v := (1 : Int32)) 181 4 [(4, .int (v4 + (1 : Int32))), (3, .int (v3 - (0 : Int32))), (2, .int (v2 - (1 : Int32))), (6, .int (1 : Int32)), (5, .int r1), (0, .ref (ad b0)), (1, .ref (ad b1))] hC dX1_trace_181 rfl (by decide) (by rw [hn]; decide) rfl ?_
                  refine g_goto 184 24 hC dX1_trace_184 (by decide) ?_
                  refine G.sub [0, 1, 2, 5, 6] rfl ?_
                  exact ih _ _ _ _ _ h
              · replace h := h.2 hc
                refine g_iconst (v := (2 : Int32)) 102 hC dX1_trace_102 (by decide) ?_
                refine g_goto 103 107 hC dX1_trace_103 (by decide) ?_
                refine g_isub 107 hC dX1_trace_107 ?_
                refine g_istore_n 108 [(2, .int (v2 - (2 : Int32))), (6, .int (1 : Int32)), (5, .int r1), (4, .int v4), (3, .int v3), (0, .ref (ad b0)), (1, .ref (ad b1))] hC dX1_trace_108 (by rw [hn]; decide) rfl ?_
                refine g_iload_n 109 4 hC dX1_trace_109 rfl ?_
                refine g_iload 110 2 hC dX1_trace_110 rfl ?_
                refine g_iconst (v := (2 : Int32)) 112 hC dX1_trace_112 (by decide) ?_
                refine g_icmp_ne 113 120 hC dX1_trace_113 (by decide) (fun hc => ?_) (fun hc => ?_)
                · replace h := h.1 hc
                  refine g_iload 120 2 hC dX1_trace_120 rfl ?_
                  refine g_iconst (v := (4 : Int32)) 122 hC dX1_trace_122 (by decide) ?_
                  refine g_icmp_ne 123 130 hC dX1_trace_123 (by decide) (fun hc => ?_) (fun hc => ?_)
                  · replace h := h.1 hc
                    refine g_iconst (v := (1 : Int32)) 130 hC dX1_trace_130 (by decide) ?_
                    refine g_isub 131 hC dX1_trace_131 ?_
                    refine g_istore_n 132 [(3, .int (v3 - (1 : Int32))), (2, .int (v2 - (2 : Int32))), (6, .int (1 : Int32)), (5, .int r1), (4, .int v4), (0, .ref (ad b0)), (1, .ref (ad b1))] hC dX1_trace_132 (by rw [hn]; decide) rfl ?_
                    refine g_iload 133 2 hC dX1_trace_133 rfl ?_
                    refine g_if_ne 135 181 hC dX1_trace_135 (by decide) (fun _ => ?_) (fun hc => absurd hc (by decide))
                    refine g_iinc (v := (1 : Int32)) 181 4 [(4, .int (v4 + (1 : Int32))), (3, .int (v3 - (1 : Int32))), (2, .int (v2 - (2 : Int32))), (6, .int (1 : Int32)), (5, .int r1), (0, .ref (ad b0)), (1, .ref (ad b1))] hC dX1_trace_181 rfl (by decide) (by rw [hn]; decide) rfl ?_
                    refine g_goto 184 24 hC dX1_trace_184 (by decide) ?_
                    refine G.sub [0, 1, 2, 5, 6] rfl ?_
                    exact ih _ _ _ _ _ h
                  · replace h := h.2 hc
                    refine g_iconst (v := (2 : Int32)) 126 hC dX1_trace_126 (by decide) ?_
                    refine g_goto 127 131 hC dX1_trace_127 (by decide) ?_
                    refine g_isub 131 hC dX1_trace_131 ?_
                    refine g_istore_n 132 [(3, .int (v3 - (2 : Int32))), (2, .int (v2 - (2 : Int32))), (6, .int (1 : Int32)), (5, .int r1), (4, .int v4), (0, .ref (ad b0)), (1, .ref (ad b1))] hC dX1_trace_132 (by rw [hn]; decide) rfl ?_
                    refine g_iload 133 2 hC dX1_trace_133 rfl ?_
                    refine g_if_ne 135 181 hC dX1_trace_135 (by decide) (fun _ => ?_) (fun hc => absurd hc (by decide))
                    refine g_iinc (v := (1 : Int32)) 181 4 [(4, .int (v4 + (1 : Int32))), (3, .int (v3 - (2 : Int32))), (2, .int (v2 - (2 : Int32))), (6, .int (1 : Int32)), (5, .int r1), (0, .ref (ad b0)), (1, .ref (ad b1))] hC dX1_trace_181 rfl (by decide) (by rw [hn]; decide) rfl ?_
                    refine g_goto 184 24 hC dX1_trace_184 (by decide) ?_
                    refine G.sub [0, 1, 2, 5, 6] rfl ?_
                    exact ih _ _ _ _ _ h
                · replace h := h.2 hc
                  refine g_iconst (v := (0 : Int32)) 116 hC dX1_trace_116 (by decide) ?_
                  refine g_goto 117 131 hC dX1_trace_117 (by decide) ?_
                  refine g_isub 131 hC dX1_trace_131 ?_
                  refine g_istore_n 132 [(3, .int (v3 - (0 : Int32))), (2, .int (v2 - (2 : Int32))), (6, .int (1 : Int32)), (5, .int r1), (4, .int v4), (0, .ref (ad b0)), (1, .ref (ad b1))] hC dX1_trace_132 (by rw [hn]; decide) rfl ?_
                  refine g_iload 133 2 hC dX1_trace_133 rfl ?_
                  refine g_if_ne 135 181 hC dX1_trace_135 (by decide) (fun _ => ?_) (fun hc => absurd hc (by decide))
                  refine g_iinc (v := (1 : Int32)) 181 4 [(4, .int (v4 + (1 : Int32))), (3, .int (v3 - (0 : Int32))), (2, .int (v2 - (2 : Int32))), (6, .int (1 : Int32)), (5, .int r1), (0, .ref (ad b0)), (1, .ref (ad b1))] hC dX1_trace_181 rfl (by decide) (by rw [hn]; decide) rfl ?_
                  refine g_goto 184 24 hC dX1_trace_184 (by decide) ?_
                  refine G.sub [0, 1, 2, 5, 6] rfl ?_
                  exact ih _ _ _ _ _ h
            · replace h := h.2 hc
              refine g_iconst (v := (0 : Int32)) 92 hC dX1_trace_92 (by decide) ?_
              refine g_goto 93 107 hC dX1_trace_93 (by decide) ?_
              refine g_isub 107 hC dX1_trace_107 ?_
              refine g_istore_n 108 [(2, .int (v2 - (0 : Int32))), (6, .int (1 : Int32)), (5, .int r1), (4, .int v4), (3, .int v3), (0, .ref (ad b0)), (1, .ref (ad b1))] hC dX1_trace_108 (by rw [hn]; decide) rfl ?_
              refine g_iload_n 109 4 hC dX1_trace_109 rfl ?_
              refine g_iload 110 2 hC dX1_trace_110 rfl ?_
              refine g_iconst (v := (2 : Int32)) 112 hC dX1_trace_112 (by decide) ?_
              refine g_icmp_ne 113 120 hC dX1_trace_113 (by decide) (fun hc => ?_) (fun hc => ?_)
              · replace h := h.1 hc
                refine g_iload 120 2 hC dX1_trace_120 rfl ?_
                refine g_iconst (v := (4 : Int32)) 122 hC dX1_trace_122 (by decide) ?_
                refine g_icmp_ne 123 130 hC dX1_trace_123 (by decide) (fun hc => ?_) (fun hc => ?_)
                · replace h := h.1 hc
                  refine g_iconst (v := (1 : Int32)) 130 hC dX1_trace_130 (by decide) ?_
                  refine g_isub 131 hC dX1_trace_131 ?_
                  refine g_istore_n 132 [(3, .int (v3 - (1 : Int32))), (2, .int (v2 - (0 : Int32))), (6, .int (1 : Int32)), (5, .int r1), (4, .int v4), (0, .ref (ad b0)), (1, .ref (ad b1))] hC dX1_trace_132 (by rw [hn]; decide) rfl ?_
                  refine g_iload 133 2 hC dX1_trace_133 rfl ?_
                  refine g_if_ne 135 181 hC dX1_trace_135 (by decide) (fun _ => ?_) (fun hc => absurd hc (by decide))
                  refine g_iinc (v := (1 : Int32)) 181 4 [(4, .int (v4 + (1 : Int32))), (3, .int (v3 - (1 : Int32))), (2, .int (v2 - (0 : Int32))), (6, .int (1 : Int32)), (5, .int r1), (0, .ref (ad b0)), (1, .ref (ad b1))] hC dX1_trace_181 rfl (by decide) (by rw [hn]; decide) rfl ?_
                  refine g_goto 184 24 hC dX1_trace_184 (by decide) ?_
                  refine G.sub [0, 1, 2, 5, 6] rfl ?_
                  exact ih _ _ _ _ _ h
                · replace h := h.2 hc
                  refine g_iconst (v := (2 : Int32)) 126 hC dX1_trace_126 (by decide) ?_
                  refine g_goto 127 131 hC dX1_trace_127 (by decide) ?_
                  refine g_isub 131 hC dX1_trace_131 ?_
                  refine g_istore_n 132 [(3, .int (v3 - (2 : Int32))), (2, .int (v2 - (0 : Int32))), (6, .int (1 : Int32)), (5, .int r1), (4, .int v4), (0, .ref (ad b0)), (1, .ref (ad b1))] hC dX1_trace_132 (by rw [hn]; decide) rfl ?_
                  refine g_iload 133 2 hC dX1_trace_133 rfl ?_
                  refine g_if_ne 135 181 hC dX1_trace_135 (by decide) (fun _ => ?_) (fun hc => absurd hc (by decide))
                  refine g_iinc (v := (1 : Int32)) 181 4 [(4, .int (v4 + (1 : Int32))), (3, .int (v3 - (2 : Int32))), (2, .int (v2 - (0 : Int32))), (6, .int (1 : Int32)), (5, .int r1), (0, .ref (ad b0)), (1, .ref (ad b1))] hC dX1_trace_181 rfl (by decide) (by rw [hn]; decide) rfl ?_
                  refine g_goto 184 24 hC dX1_trace_184 (by decide) ?_
                  refine G.sub [0, 1, 2, 5, 6] rfl ?_
                  exact ih _ _ _ _ _ h
              · replace h := h.2 hc
                refine g_iconst (v := (0 : Int32)) 116 hC dX1_trace_116 (by decide) ?_
                refine g_goto 117 131 hC dX1_trace_117 (by decide) ?_
                refine g_isub 131 hC dX1_trace_131 ?_
                refine g_istore_n 132 [(3, .int (v3 - (0 : Int32))), (2, .int (v2 - (0 : Int32))), (6, .int (1 : Int32)), (5, .int r1), (4, .int v4), (0, .ref (ad b0)), (1, .ref (ad b1))] hC dX1_trace_132 (by rw [hn]; decide) rfl ?_
                refine g_iload 133 2 hC dX1_trace_133 rfl ?_
                refine g_if_ne 135 181 hC dX1_trace_135 (by decide) (fun _ => ?_) (fun hc => absurd hc (by decide))
                refine g_iinc (v := (1 : Int32)) 181 4 [(4, .int (v4 + (1 : Int32))), (3, .int (v3 - (0 : Int32))), (2, .int (v2 - (0 : Int32))), (6, .int (1 : Int32)), (5, .int r1), (0, .ref (ad b0)), (1, .ref (ad b1))] hC dX1_trace_181 rfl (by decide) (by rw [hn]; decide) rfl ?_
                refine g_goto 184 24 hC dX1_trace_184 (by decide) ?_
                refine G.sub [0, 1, 2, 5, 6] rfl ?_
                exact ih _ _ _ _ _ h
set_option maxHeartbeats 4000000 in
set_option maxRecDepth 100000 in
theorem c_X1_trace (l : Launch) (D : va_G) (cI cS cT : ClassId) (ad : Nat → Nat) (b0 : Nat) (b1 : Nat) (fN : Nat) (ld : Int32) (fln : Int32) (ftk : Nat → Int32) (gln : Int32) (gtk : Nat → Int32) (tb : Nat → Nat → Int32) (ls : Nat → Int32) (fa : Nat → Int32) (post : Int32 → (Nat → Int32) → Prop) (h : P_X1_trace fN ld fln ftk gln gtk tb ls fa post) : MV l D (TY cI cS cT) yX1_trace cX1_trace 7 rm_X1_trace [.ref (ad b0), .ref (ad b1)] (Wd_X1_trace cI cS cT ad b0 b1 fN ld fln ftk gln gtk tb ls fa) (fun w => ∃ (u_ld : Int32) (u_ls : Nat → Int32), w = (Wd_X1_trace cI cS cT ad b0 b1 fN u_ld fln ftk gln gtk tb u_ls fa) ∧ post u_ld u_ls) := by
  refine MV.of (by decide) (Nat.le_of_ble_eq_true rfl) (fun E hC hR hn => ?_)
  replace hC : Cx l D (TY cI cS cT) E rm_X1_trace cX1_trace RX1 := hC
  replace hR : RetV D E (fun w => ∃ (u_ld : Int32) (u_ls : Nat → Int32), w = (Wd_X1_trace cI cS cT ad b0 b1 fN u_ld fln ftk gln gtk tb u_ls fa) ∧ post u_ld u_ls) 0 0 := hR
  unfold P_X1_trace at h
  change G l D E 0 0 _ [(0, .ref (ad b0)), (1, .ref (ad b1))] 0 []
  refine g_aload_n 0 0 hC dX1_trace_0 rfl ?_
  refine g_iconst (v := (0 : Int32)) 1 hC dX1_trace_1 (by decide) ?_
  refine g_put 2 0 4 (Wd_X1_trace cI cS cT ad b0 b1 fN (0 : Int32) fln ftk gln gtk tb ls fa) hC inlX1 tyX1_ok nmX1 wq_272 dX1_trace_2 rfl rfl (by decide) rfl rfl (Nat.le_of_ble_eq_true rfl) rfl ?_
  refine g_aload_n 5 0 hC dX1_trace_5 rfl ?_
  refine g_get 6 0 0 hC inlX1 wq_70 dX1_trace_6 rfl rfl (by decide) rfl ?_
  refine g_getN 9 1 1 hC inlX5 nq_30 dX1_trace_9 rfl rfl (by decide) rfl ?_
  refine g_istore_n 12 [(2, .int fln), (0, .ref (ad b0)), (1, .ref (ad b1))] hC dX1_trace_12 (by rw [hn]; decide) rfl ?_
  refine g_aload_n 13 1 hC dX1_trace_13 rfl ?_
  refine g_get 14 0 1 hC inlX1 wq_71 dX1_trace_14 rfl rfl (by decide) rfl ?_
  refine g_getN 17 3 1 hC inlX5 nq_30 dX1_trace_17 rfl rfl (by decide) rfl ?_
  refine g_istore_n 20 [(3, .int gln), (2, .int fln), (0, .ref (ad b0)), (1, .ref (ad b1))] hC dX1_trace_20 (by rw [hn]; decide) rfl ?_
  refine g_iconst (v := (0 : Int32)) 21 hC dX1_trace_21 (by decide) ?_
  refine g_istore 22 [(4, .int (0 : Int32)), (3, .int gln), (2, .int fln), (0, .ref (ad b0)), (1, .ref (ad b1))] hC dX1_trace_22 (by rw [hn]; decide) rfl ?_
  obtain ⟨n, h⟩ := h
  refine L_X1_trace_24 hC hR hn _ (fun w4_4 w3_4 w2_4 ld_4 ls_4 h => ?_) n _ _ _ _ _ h
  exact g_vret 187 hC hR dX1_trace_187 ⟨ld_4, ls_4, rfl, h⟩

/-! ===== ProverbCollection$Edits.fromBeginning(I)I ===== -/
def Wd_X1_fromBeginning (cI cS cT : ClassId) (ad : Nat → Nat) (b0 : Nat) (ld : Int32) (ls : Nat → Int32) : va_W := [(ad b0, .inr (1, [.ref (ad (b0 + 1)), .ref (ad (b0 + 3)), .ref (ad (b0 + 5)), .ref (ad (b0 + 15)), .int ld])), (ad (b0 + 15), .inl (cI, 16, .inl ls))]
def rm_X1_fromBeginning : Room := { frames := 0, cells := 0, slots := 0, locals := 0 }
theorem kX1_fromBeginning : KV yX1_fromBeginning cX1_fromBeginning 2 (some .int) 1 := ⟨wq_286, wq_24, wq_284, wq_285, by decide +kernel⟩
def P_X1_fromBeginning (x1 : Int32) (ld : Int32) (ls : Nat → Int32) (post : Int32 → Prop) : Prop :=
  (x1 < 0 → post (-4 : Int32)) ∧ (¬ x1 < 0 → ((ld ≤ x1 → post (-4 : Int32)) ∧ (¬ ld ≤ x1 → (vp_in ((ld - (1 : Int32)) - x1) 16 ∧ (post (ls (Int32.toNatClampNeg ((ld - (1 : Int32)) - x1))))))))
set_option maxHeartbeats 4000000 in
set_option maxRecDepth 100000 in
theorem c_X1_fromBeginning (l : Launch) (D : va_G) (cI cS cT : ClassId) (ad : Nat → Nat) (b0 : Nat) (x1 : Int32) (ld : Int32) (ls : Nat → Int32) (post : Int32 → Prop) (h : P_X1_fromBeginning x1 ld ls post) : MI l D (TY cI cS cT) yX1_fromBeginning cX1_fromBeginning 2 (some .int) rm_X1_fromBeginning [.ref (ad b0), .int x1] (Wd_X1_fromBeginning cI cS cT ad b0 ld ls) (fun (r : Int32) w => w = (Wd_X1_fromBeginning cI cS cT ad b0 ld ls) ∧ post r) := by
  refine MI.of (by decide) (Nat.le_of_ble_eq_true rfl) (fun E hC hR hn => ?_)
  replace hC : Cx l D (TY cI cS cT) E rm_X1_fromBeginning cX1_fromBeginning RX1 := hC
  replace hR : RetI D E (fun (r : Int32) w => w = (Wd_X1_fromBeginning cI cS cT ad b0 ld ls) ∧ post r) 0 0 (some .int) := hR
  unfold P_X1_fromBeginning at h
  change G l D E 0 0 _ [(0, .ref (ad b0)), (1, .int x1)] 0 []
  refine g_iload_n 0 1 hC dX1_fromBeginning_0 rfl ?_
  refine g_if_lt 1 28 hC dX1_fromBeginning_1 (by decide) (fun hc => ?_) (fun hc => ?_)
  · replace h := h.1 hc
    refine g_bipush (v := (-4 : Int32)) 28 hC dX1_fromBeginning_28 (by decide) ?_
    exact g_iret 30 hC hR dX1_fromBeginning_30 ⟨rfl, h⟩
  · replace h := h.2 hc
    refine g_iload_n 4 1 hC dX1_fromBeginning_4 rfl ?_
    refine g_aload_n 5 0 hC dX1_fromBeginning_5 rfl ?_
    refine g_get 6 0 4 hC inlX1 wq_272 dX1_fromBeginning_6 rfl rfl (by decide) rfl ?_
    refine g_icmp_ge 9 28 hC dX1_fromBeginning_9 (by decide) (fun hc => ?_) (fun hc => ?_)
    · replace h := h.1 hc
      refine g_bipush (v := (-4 : Int32)) 28 hC dX1_fromBeginning_28 (by decide) ?_
      exact g_iret 30 hC hR dX1_fromBeginning_30 ⟨rfl, h⟩
    · replace h := h.2 hc
      refine g_aload_n 12 0 hC dX1_fromBeginning_12 rfl ?_
      refine g_get 13 0 3 hC inlX1 wq_74 dX1_fromBeginning_13 rfl rfl (by decide) rfl ?_
      refine g_aload_n 16 0 hC dX1_fromBeginning_16 rfl ?_
      refine g_get 17 0 4 hC inlX1 wq_272 dX1_fromBeginning_17 rfl rfl (by decide) rfl ?_
      refine g_iconst (v := (1 : Int32)) 20 hC dX1_fromBeginning_20 (by decide) ?_
      refine g_isub 21 hC dX1_fromBeginning_21 ?_
      refine g_iload_n 22 1 hC dX1_fromBeginning_22 rfl ?_
      refine g_isub 23 hC dX1_fromBeginning_23 ?_
      obtain ⟨hj, h⟩ := h
      refine g_iald 24 1 hC dX1_fromBeginning_24 rfl rfl hj ?_
      refine g_goto 25 30 hC dX1_fromBeginning_25 (by decide) ?_
      exact g_iret 30 hC hR dX1_fromBeginning_30 ⟨rfl, h⟩
