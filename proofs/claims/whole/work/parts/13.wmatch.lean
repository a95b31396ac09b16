/-! written by wip/whole/gen/walk.py: worlds, predicates and contracts -/
/-! ===== ProverbCollection$Matcher.noteFilling(I)V ===== -/
def Wd_X4_noteFilling (cI cS cT : ClassId) (ad : Nat → Nat) (b0 : Nat) (fo : Int32) (sln : Int32) (sw : Nat → Int32) (fw : Nat → Int32) : va_W := [(ad b0, .inr (4, [.ref (ad (b0 + 1)), .ref (ad (b0 + 3)), .ref (ad (b0 + 5)), .ref (ad (b0 + 6)), .int fo])), (ad (b0 + 3), .inr (5, [.ref (ad (b0 + 4)), .int sln])), (ad (b0 + 5), .inl (cI, 4, .inl sw)), (ad (b0 + 6), .inl (cI, 4, .inl fw))]
def rm_X4_noteFilling : Room := { frames := 2, cells := 0, slots := 0, locals := 61 }
theorem kX4_noteFilling : KV yX4_noteFilling cX4_noteFilling 2 none 1 := ⟨wq_460, wq_30, wq_458, wq_459, by decide +kernel⟩
def P_X4_noteFilling (x1 : Int32) (fo : Int32) (sln : Int32) (sw : Nat → Int32) (fw : Nat → Int32) (post : Int32 → (Nat → Int32) → Prop) : Prop :=
  (x1 = sln → ((¬ fo = 0 → post (fo + (1 : Int32)) fw) ∧ (fo = 0 → P_X8_copyAll 4 4 sw fw (fun u1 => post (fo + (1 : Int32)) u1)))) ∧ (¬ x1 = sln → post fo fw)
set_option maxHeartbeats 4000000 in
set_option maxRecDepth 100000 in
theorem c_X4_noteFilling (l : Launch) (D : va_G) (cI cS cT : ClassId) (ad : Nat → Nat) (b0 : Nat) (x1 : Int32) (fo : Int32) (sln : Int32) (sw : Nat → Int32) (fw : Nat → Int32) (post : Int32 → (Nat → Int32) → Prop) (h : P_X4_noteFilling x1 fo sln sw fw post) : MV l D (TY cI cS cT) yX4_noteFilling cX4_noteFilling 2 rm_X4_noteFilling [.ref (ad b0), .int x1] (Wd_X4_noteFilling cI cS cT ad b0 fo sln sw fw) (fun w => ∃ (u_fo : Int32) (u_fw : Nat → Int32), w = (Wd_X4_noteFilling cI cS cT ad b0 u_fo sln sw u_fw) ∧ post u_fo u_fw) := by
  refine MV.of (by decide) (Nat.le_of_ble_eq_true rfl) (fun E hC hR hn => ?_)
  replace hC : Cx l D (TY cI cS cT) E rm_X4_noteFilling cX4_noteFilling RX4 := hC
  replace hR : RetV D E (fun w => ∃ (u_fo : Int32) (u_fw : Nat → Int32), w = (Wd_X4_noteFilling cI cS cT ad b0 u_fo sln sw u_fw) ∧ post u_fo u_fw) 0 0 := hR
  unfold P_X4_noteFilling at h
  change G l D E 0 0 _ [(0, .ref (ad b0)), (1, .int x1)] 0 []
  refine g_iload_n 0 1 hC dX4_noteFilling_0 rfl ?_
  refine g_aload_n 1 0 hC dX4_noteFilling_1 rfl ?_
  refine g_get 2 0 1 hC inlX4 wq_83 dX4_noteFilling_2 rfl rfl (by decide) rfl ?_
  refine g_getN 5 1 1 hC inlX5 nq_34 dX4_noteFilling_5 rfl rfl (by decide) rfl ?_
  refine g_icmp_eq 8 12 hC dX4_noteFilling_8 (by decide) (fun hc => ?_) (fun hc => ?_)
  · replace h := h.1 hc
    refine g_aload_n 12 0 hC dX4_noteFilling_12 rfl ?_
    refine g_get 13 0 4 hC inlX4 wq_452 dX4_noteFilling_13 rfl rfl (by decide) rfl ?_
    refine g_if_ne 16 30 hC dX4_noteFilling_16 (by decide) (fun hc => ?_) (fun hc => ?_)
    · replace h := h.1 hc
      refine g_aload_n 30 0 hC dX4_noteFilling_30 rfl ?_
      refine g_dup 31 hC dX4_noteFilling_31 rfl ?_
      refine g_get 32 0 4 hC inlX4 wq_452 dX4_noteFilling_32 rfl rfl (by decide) rfl ?_
      refine g_iconst (v := (1 : Int32)) 35 hC dX4_noteFilling_35 (by decide) ?_
      refine g_iadd 36 hC dX4_noteFilling_36 ?_
      refine g_put 37 0 4 (Wd_X4_noteFilling cI cS cT ad b0 (fo + (1 : Int32)) sln sw fw) hC inlX4 tyX4_ok nmX4 wq_452 dX4_noteFilling_37 rfl rfl (by decide) rfl rfl (Nat.le_of_ble_eq_true rfl) rfl ?_
      exact g_vret 40 hC hR dX4_noteFilling_40 ⟨(fo + (1 : Int32)), fw, rfl, h⟩
    · replace h := h.2 hc
      refine g_aload_n 19 0 hC dX4_noteFilling_19 rfl ?_
      refine g_get 20 0 2 hC inlX4 wq_84 dX4_noteFilling_20 rfl rfl (by decide) rfl ?_
      refine g_aload_n 23 0 hC dX4_noteFilling_23 rfl ?_
      refine g_get 24 0 3 hC inlX4 wq_85 dX4_noteFilling_24 rfl rfl (by decide) rfl ?_
      refine g_cSNv (As := [.ref (ad (b0 + 5)), .ref (ad (b0 + 6))]) (rest := []) 27 [2, 3] hC (c_X8_copyAll l D cI cS cT ad (b0 + 5) (b0 + 6) 4 4 sw fw _ h) kX8_copyAll nq_465 dX4_noteFilling_27 ⟨Nat.le_of_ble_eq_true rfl, Nat.le_of_ble_eq_true rfl⟩ rfl rfl (Nat.zero_le _) (Nat.zero_le _) rfl rfl rfl (Nat.le_of_ble_eq_true rfl) ?_
      rintro _ ⟨u1, rfl, h⟩
      refine ⟨Nat.le_of_ble_eq_true rfl, G.upd [0, 1] (Wd_X4_noteFilling cI cS cT ad b0 fo sln sw u1) rfl rfl rfl rfl rfl ?_⟩
      refine g_aload_n 30 0 hC dX4_noteFilling_30 rfl ?_
      refine g_dup 31 hC dX4_noteFilling_31 rfl ?_
      refine g_get 32 0 4 hC inlX4 wq_452 dX4_noteFilling_32 rfl rfl (by decide) rfl ?_
      refine g_iconst (v := (1 : Int32)) 35 hC dX4_noteFilling_35 (by decide) ?_
      refine g_iadd 36 hC dX4_noteFilling_36 ?_
      refine g_put 37 0 4 (Wd_X4_noteFilling cI cS cT ad b0 (fo + (1 : Int32)) sln sw u1) hC inlX4 tyX4_ok nmX4 wq_452 dX4_noteFilling_37 rfl rfl (by decide) rfl rfl (Nat.le_of_ble_eq_true rfl) rfl ?_
      exact g_vret 40 hC hR dX4_noteFilling_40 ⟨(fo + (1 : Int32)), u1, rfl, h⟩
  · replace h := h.2 hc
    exact g_vret 11 hC hR dX4_noteFilling_11 ⟨fo, fw, rfl, h⟩

def Wd_X4_fill (cI cS cT : ClassId) (ad : Nat → Nat) (b0 : Nat) (fo : Int32) (pln : Int32) (ptk : Nat → Int32) (sln : Int32) (stk : Nat → Int32) (sw : Nat → Int32) (fw : Nat → Int32) : va_W := [(ad b0, .inr (4, [.ref (ad (b0 + 1)), .ref (ad (b0 + 3)), .ref (ad (b0 + 5)), .ref (ad (b0 + 6)), .int fo])), (ad (b0 + 1), .inr (5, [.ref (ad (b0 + 2)), .int pln])), (ad (b0 + 2), .inl (cI, 8, .inl ptk)), (ad (b0 + 3), .inr (5, [.ref (ad (b0 + 4)), .int sln])), (ad (b0 + 4), .inl (cI, 8, .inl stk)), (ad (b0 + 5), .inl (cI, 4, .inl sw)), (ad (b0 + 6), .inl (cI, 4, .inl fw))]
def rm_X4_fill (d : Nat) : Room := { frames := 2 * d + 2, cells := 0, slots := 0, locals := 60 * d + 200 }
def rm_X4_fillOne (d : Nat) : Room := { frames := 2 * d + 3, cells := 0, slots := 0, locals := 60 * d + 230 }
theorem kX4_fill : KV yX4_fill cX4_fill 4 none 2 := ⟨wq_456, wq_30, wq_454, wq_455, by decide +kernel⟩
/-! ===== ProverbCollection$Matcher.fillOne(II)V ===== -/
def Wd_X4_fillOne (cI cS cT : ClassId) (ad : Nat → Nat) (b0 : Nat) (fo : Int32) (pln : Int32) (ptk : Nat → Int32) (sln : Int32) (stk : Nat → Int32) (sw : Nat → Int32) (fw : Nat → Int32) : va_W := [(ad b0, .inr (4, [.ref (ad (b0 + 1)), .ref (ad (b0 + 3)), .ref (ad (b0 + 5)), .ref (ad (b0 + 6)), .int fo])), (ad (b0 + 1), .inr (5, [.ref (ad (b0 + 2)), .int pln])), (ad (b0 + 2), .inl (cI, 8, .inl ptk)), (ad (b0 + 3), .inr (5, [.ref (ad (b0 + 4)), .int sln])), (ad (b0 + 4), .inl (cI, 8, .inl stk)), (ad (b0 + 5), .inl (cI, 4, .inl sw)), (ad (b0 + 6), .inl (cI, 4, .inl fw))]
theorem kX4_fillOne : KV yX4_fillOne cX4_fillOne 5 none 2 := ⟨wq_464, wq_30, wq_462, wq_463, by decide +kernel⟩
def P_X4_fillOne (rcF : Int32 → Int32 → Int32 → Int32 → (Nat → Int32) → Int32 → (Nat → Int32) → (Nat → Int32) → (Nat → Int32) → (Int32 → (Nat → Int32) → (Nat → Int32) → Prop) → Prop) (x1 : Int32) (x2 : Int32) (fo : Int32) (pln : Int32) (ptk : Nat → Int32) (sln : Int32) (stk : Nat → Int32) (sw : Nat → Int32) (fw : Nat → Int32) (post : Int32 → (Nat → Int32) → (Nat → Int32) → Prop) : Prop :=
  P_X5_at x1 pln ptk (fun r1 => ((r1 - (60 : Int32)) < 0 → (P_X5_at x1 pln ptk (fun r2 => P_X5_at x2 sln stk (fun r3 => (¬ r2 = r3 → post fo sw fw) ∧ (r2 = r3 → rcF (x1 + (1 : Int32)) (x2 + (1 : Int32)) fo pln ptk sln stk sw fw (fun u4 u5 u6 => post u4 u5 u6)))))) ∧ (¬ (r1 - (60 : Int32)) < 0 → (((r1 - (60 : Int32)) < (4 : Int32) → (vp_in (r1 - (60 : Int32)) 4 ∧ (((sw (Int32.toNatClampNeg (r1 - (60 : Int32)))) = (-1 : Int32) → (P_X5_at x2 sln stk (fun r8 => vp_in (r1 - (60 : Int32)) 4 ∧ (rcF (x1 + (1 : Int32)) (x2 + (1 : Int32)) fo pln ptk sln stk (upd sw (Int32.toNatClampNeg (r1 - (60 : Int32))) r8) fw (fun u9 u10 u11 => vp_in (r1 - (60 : Int32)) 4 ∧ (post u9 (upd u10 (Int32.toNatClampNeg (r1 - (60 : Int32))) (sw (Int32.toNatClampNeg (r1 - (60 : Int32))))) u11)))))) ∧ (¬ (sw (Int32.toNatClampNeg (r1 - (60 : Int32)))) = (-1 : Int32) → (P_X5_at x2 sln stk (fun r13 => (¬ (sw (Int32.toNatClampNeg (r1 - (60 : Int32)))) = r13 → post fo sw fw) ∧ ((sw (Int32.toNatClampNeg (r1 - (60 : Int32)))) = r13 → (P_X5_at x2 sln stk (fun r14 => vp_in (r1 - (60 : Int32)) 4 ∧ (rcF (x1 + (1 : Int32)) (x2 + (1 : Int32)) fo pln ptk sln stk (upd sw (Int32.toNatClampNeg (r1 - (60 : Int32))) r14) fw (fun u15 u16 u17 => vp_in (r1 - (60 : Int32)) 4 ∧ (post u15 (upd u16 (Int32.toNatClampNeg (r1 - (60 : Int32))) (sw (Int32.toNatClampNeg (r1 - (60 : Int32))))) u17)))))))))))) ∧ (¬ (r1 - (60 : Int32)) < (4 : Int32) → (P_X5_at x1 pln ptk (fun r19 => P_X5_at x2 sln stk (fun r20 => (¬ r19 = r20 → post fo sw fw) ∧ (r19 = r20 → rcF (x1 + (1 : Int32)) (x2 + (1 : Int32)) fo pln ptk sln stk sw fw (fun u21 u22 u23 => post u21 u22 u23)))))))))
set_option maxHeartbeats 4000000 in
set_option maxRecDepth 100000 in
theorem c_X4_fillOne (d : Nat) (rcF : Int32 → Int32 → Int32 → Int32 → (Nat → Int32) → Int32 → (Nat → Int32) → (Nat → Int32) → (Nat → Int32) → (Int32 → (Nat → Int32) → (Nat → Int32) → Prop) → Prop) (l : Launch) (D : va_G) (cI cS cT : ClassId) (ad : Nat → Nat) (b0 : Nat) (hrec : ∀ (b0 : Nat) (x1 x2 : Int32) (fo : Int32) (pln : Int32) (ptk : Nat → Int32) (sln : Int32) (stk : Nat → Int32) (sw : Nat → Int32) (fw : Nat → Int32) (post : Int32 → (Nat → Int32) → (Nat → Int32) → Prop), rcF x1 x2 fo pln ptk sln stk sw fw post → MV l D (TY cI cS cT) yX4_fill cX4_fill 4 (rm_X4_fill d) [.ref (ad b0), .int x1, .int x2] (Wd_X4_fill cI cS cT ad b0 fo pln ptk sln stk sw fw) (fun w => ∃ (u_fo : Int32) (u_sw : Nat → Int32) (u_fw : Nat → Int32), w = (Wd_X4_fill cI cS cT ad b0 u_fo pln ptk sln stk u_sw u_fw) ∧ post u_fo u_sw u_fw)) (x1 : Int32) (x2 : Int32) (fo : Int32) (pln : Int32) (ptk : Nat → Int32) (sln : Int32) (stk : Nat → Int32) (sw : Nat → Int32) (fw : Nat → Int32) (post : Int32 → (Nat → Int32) → (Nat → Int32) → Prop) (h : P_X4_fillOne rcF x1 x2 fo pln ptk sln stk sw fw post) : MV l D (TY cI cS cT) yX4_fillOne cX4_fillOne 5 (rm_X4_fillOne d) [.ref (ad b0), .int x1, .int x2] (Wd_X4_fillOne cI cS cT ad b0 fo pln ptk sln stk sw fw) (fun w => ∃ (u_fo : Int32) (u_sw : Nat → Int32) (u_fw : Nat → Int32), w = (Wd_X4_fillOne cI cS cT ad b0 u_fo pln ptk sln stk u_sw u_fw) ∧ post u_fo u_sw u_fw) := by
  refine MV.of (by decide) (Nat.le_of_ble_eq_true rfl) (fun E hC hR hn => ?_)
  replace hC : Cx l D (TY cI cS cT) E (rm_X4_fillOne d) cX4_fillOne RX4 := hC
  replace hR : RetV D E (fun w => ∃ (u_fo : Int32) (u_sw : Nat → Int32) (u_fw : Nat → Int32), w = (Wd_X4_fillOne cI cS cT ad b0 u_fo pln ptk sln stk u_sw u_fw) ∧ post u_fo u_sw u_fw) 0 0 := hR
  unfold P_X4_fillOne at h
  change G l D E 0 0 _ [(0, .ref (ad b0)), (1, .int x1), (2, .int x2)] 0 []
  refine g_aload_n 0 0 hC dX4_fillOne_0 rfl ?_
  refine g_get 1 0 0 hC inlX4 wq_82 dX4_fillOne_1 rfl rfl (by decide) rfl ?_
  refine g_iload_n 4 1 hC dX4_fillOne_4 rfl ?_
  refine g_cVNi (As := [.int x1]) (rest := []) 5 1 [1, 2] hC (c_X5_at l D cI cS cT ad (b0 + 1) x1 pln ptk _ h) kX5_at nq_466 dX4_fillOne_5 rfl rfl (by refine ⟨?_, ?_⟩ <;> first | exact Nat.le_of_ble_eq_true rfl | (simp only [rm_X4_fill, rm_X4_fillOne, rm_X4_noteFilling, rm_X5_at]; omega)) rfl rfl (Nat.zero_le _) (Nat.zero_le _) rfl rfl rfl (Nat.le_of_ble_eq_true rfl) ?_
  rintro r1 _ ⟨rfl, h⟩
  refine ⟨Nat.le_of_ble_eq_true rfl, G.upd [0, 3, 4, 5, 6] (Wd_X4_fillOne cI cS cT ad b0 fo pln ptk sln stk sw fw) rfl rfl rfl rfl rfl ?_⟩
  refine g_bipush (v := (60 : Int32)) 8 hC dX4_fillOne_8 (by decide) ?_
  refine g_isub 10 hC dX4_fillOne_10 ?_
  refine g_istore_n 11 [(3, .int (r1 - (60 : Int32))), (0, .ref (ad b0)), (1, .int x1), (2, .int x2)] hC dX4_fillOne_11 (by rw [hn]; decide) rfl ?_
  refine g_iload_n 12 0 hC dX4_fillOne_12 rfl ?_
  refine g_if_lt 13 21 hC dX4_fillOne_13 (by decide) (fun hc => ?_) (fun hc => ?_)
  · replace h := h.1 hc
    refine g_aload_n 21 1 hC dX4_fillOne_21 rfl ?_
    refine g_get 22 0 0 hC inlX4 wq_82 dX4_fillOne_22 rfl rfl (by decide) rfl ?_
    refine g_iload_n 25 2 hC dX4_fillOne_25 rfl ?_
    refine g_cVNi (As := [.int x1]) (rest := []) 26 1 [1, 2] hC (c_X5_at l D cI cS cT ad (b0 + 1) x1 pln ptk _ h) kX5_at nq_466 dX4_fillOne_26 rfl rfl (by refine ⟨?_, ?_⟩ <;> first | exact Nat.le_of_ble_eq_true rfl | (simp only [rm_X4_fill, rm_X4_fillOne, rm_X4_noteFilling, rm_X5_at]; omega)) rfl rfl (Nat.zero_le _) (Nat.zero_le _) rfl rfl rfl (Nat.le_of_ble_eq_true rfl) ?_
    rintro r2 _ ⟨rfl, h⟩
    refine ⟨Nat.le_of_ble_eq_true rfl, G.upd [0, 3, 4, 5, 6] (Wd_X4_fillOne cI cS cT ad b0 fo pln ptk sln stk sw fw) rfl rfl rfl rfl rfl ?_⟩
    refine g_aload_n 29 1 hC dX4_fillOne_29 rfl ?_
    refine g_get 30 0 1 hC inlX4 wq_83 dX4_fillOne_30 rfl rfl (by decide) rfl ?_
    refine g_iload_n 33 3 hC dX4_fillOne_33 rfl ?_
    refine g_cVNi (As := [.int x2]) (rest := [.int r2]) 34 3 [3, 4] hC (c_X5_at l D cI cS cT ad (b0 + 3) x2 sln stk _ h) kX5_at nq_466 dX4_fillOne_34 rfl rfl (by refine ⟨?_, ?_⟩ <;> first | exact Nat.le_of_ble_eq_true rfl | (simp only [rm_X4_fill, rm_X4_fillOne, rm_X4_noteFilling, rm_X5_at]; omega)) rfl rfl (Nat.zero_le _) (Nat.zero_le _) rfl rfl rfl (Nat.le_of_ble_eq_true rfl) ?_
    rintro r3 _ ⟨rfl, h⟩
    refine ⟨Nat.le_of_ble_eq_true rfl, G.upd [0, 1, 2, 5, 6] (Wd_X4_fillOne cI cS cT ad b0 fo pln ptk sln stk sw fw) rfl rfl rfl rfl rfl ?_⟩
    refine g_icmp_ne 37 50 hC dX4_fillOne_37 (by decide) (fun hc => ?_) (fun hc => ?_)
    · replace h := h.1 hc
      exact g_vret 50 hC hR dX4_fillOne_50 ⟨fo, sw, fw, rfl, h⟩
    · replace h := h.2 hc
      refine g_aload_n 40 1 hC dX4_fillOne_40 rfl ?_
      refine g_iload_n 41 2 hC dX4_fillOne_41 rfl ?_
      refine g_iconst (v := (1 : Int32)) 42 hC dX4_fillOne_42 (by decide) ?_
      refine g_iadd 43 hC dX4_fillOne_43 ?_
      refine g_iload_n 44 3 hC dX4_fillOne_44 rfl ?_
      refine g_iconst (v := (1 : Int32)) 45 hC dX4_fillOne_45 (by decide) ?_
      refine g_iadd 46 hC dX4_fillOne_46 ?_
      refine g_cVv (As := [.int (x1 + (1 : Int32)), .int (x2 + (1 : Int32))]) (rest := []) 47 0 [0, 1, 2, 3, 4, 5, 6] hC (hrec b0 (x1 + (1 : Int32)) (x2 + (1 : Int32)) fo pln ptk sln stk sw fw _ h) kX4_fill wq_453 dX4_fillOne_47 rfl rfl (by refine ⟨?_, ?_⟩ <;> first | exact Nat.le_of_ble_eq_true rfl | (simp only [rm_X4_fill, rm_X4_fillOne, rm_X4_noteFilling, rm_X5_at]; omega)) rfl rfl (Nat.zero_le _) (Nat.zero_le _) rfl rfl rfl (Nat.le_of_ble_eq_true rfl) ?_
      rintro _ ⟨u4, u5, u6, rfl, h⟩
      refine ⟨Nat.le_of_ble_eq_true rfl, G.upd [] (Wd_X4_fillOne cI cS cT ad b0 u4 pln ptk sln stk u5 u6) rfl rfl rfl rfl rfl ?_⟩
      exact g_vret 50 hC hR dX4_fillOne_50 ⟨u4, u5, u6, rfl, h⟩
  · replace h := h.2 hc
    refine g_iload_n 16 0 hC dX4_fillOne_16 rfl ?_
    refine g_iconst (v := (4 : Int32)) 17 hC dX4_fillOne_17 (by decide) ?_
    refine g_icmp_lt 18 51 hC dX4_fillOne_18 (by decide) (fun hc => ?_) (fun hc => ?_)
    · replace h := h.1 hc
      refine g_aload_n 51 1 hC dX4_fillOne_51 rfl ?_
      refine g_get 52 0 2 hC inlX4 wq_84 dX4_fillOne_52 rfl rfl (by decide) rfl ?_
      refine g_iload_n 55 0 hC dX4_fillOne_55 rfl ?_
      obtain ⟨hj, h⟩ := h
      refine g_iald 56 5 hC dX4_fillOne_56 rfl rfl hj ?_
      refine g_istore 57 [(4, .int (sw (Int32.toNatClampNeg (r1 - (60 : Int32))))), (3, .int (r1 - (60 : Int32))), (0, .ref (ad b0)), (1, .int x1), (2, .int x2)] hC dX4_fillOne_57 (by rw [hn]; decide) rfl ?_
      refine g_iload 59 0 hC dX4_fillOne_59 rfl ?_
      refine g_iconst (v := (-1 : Int32)) 61 hC dX4_fillOne_61 (by decide) ?_
      refine g_icmp_eq 62 78 hC dX4_fillOne_62 (by decide) (fun hc => ?_) (fun hc => ?_)
      · replace h := h.1 hc
        refine g_aload_n 78 2 hC dX4_fillOne_78 rfl ?_
        refine g_get 79 0 2 hC inlX4 wq_84 dX4_fillOne_79 rfl rfl (by decide) rfl ?_
        refine g_iload_n 82 1 hC dX4_fillOne_82 rfl ?_
        refine g_aload_n 83 2 hC dX4_fillOne_83 rfl ?_
        refine g_get 84 0 1 hC inlX4 wq_83 dX4_fillOne_84 rfl rfl (by decide) rfl ?_
        refine g_iload_n 87 4 hC dX4_fillOne_87 rfl ?_
        refine g_cVNi (As := [.int x2]) (rest := [.int (r1 - (60 : Int32)), .ref (ad (b0 + 5))]) 88 3 [3, 4] hC (c_X5_at l D cI cS cT ad (b0 + 3) x2 sln stk _ h) kX5_at nq_466 dX4_fillOne_88 rfl rfl (by refine ⟨?_, ?_⟩ <;> first | exact Nat.le_of_ble_eq_true rfl | (simp only [rm_X4_fill, rm_X4_fillOne, rm_X4_noteFilling, rm_X5_at]; omega)) rfl rfl (Nat.zero_le _) (Nat.zero_le _) rfl rfl rfl (Nat.le_of_ble_eq_true rfl) ?_
        rintro r8 _ ⟨rfl, h⟩
        refine ⟨Nat.le_of_ble_eq_true rfl, G.upd [0, 1, 2, 5, 6] (Wd_X4_fillOne cI cS cT ad b0 fo pln ptk sln stk sw fw) rfl rfl rfl rfl rfl ?_⟩
        obtain ⟨hj, h⟩ := h
        refine g_iast 91 5 (Wd_X4_fillOne cI cS cT ad b0 fo pln ptk sln stk (upd sw (Int32.toNatClampNeg (r1 - (60 : Int32))) r8) fw) hC dX4_fillOne_91 rfl rfl hj rfl ?_
        refine g_aload_n 92 2 hC dX4_fillOne_92 rfl ?_
        refine g_iload_n 93 3 hC dX4_fillOne_93 rfl ?_
        refine g_iconst (v := (1 : Int32)) 94 hC dX4_fillOne_94 (by decide) ?_
        refine g_iadd 95 hC dX4_fillOne_95 ?_
        refine g_iload_n 96 4 hC dX4_fillOne_96 rfl ?_
        refine g_iconst (v := (1 : Int32)) 97 hC dX4_fillOne_97 (by decide) ?_
        refine g_iadd 98 hC dX4_fillOne_98 ?_
        refine g_cVv (As := [.int (x1 + (1 : Int32)), .int (x2 + (1 : Int32))]) (rest := []) 99 0 [0, 1, 2, 3, 4, 5, 6] hC (hrec b0 (x1 + (1 : Int32)) (x2 + (1 : Int32)) fo pln ptk sln stk (upd sw (Int32.toNatClampNeg (r1 - (60 : Int32))) r8) fw _ h) kX4_fill wq_453 dX4_fillOne_99 rfl rfl (by refine ⟨?_, ?_⟩ <;> first | exact Nat.le_of_ble_eq_true rfl | (simp only [rm_X4_fill, rm_X4_fillOne, rm_X4_noteFilling, rm_X5_at]; omega)) rfl rfl (Nat.zero_le _) (Nat.zero_le _) rfl rfl rfl (Nat.le_of_ble_eq_true rfl) ?_
        rintro _ ⟨u9, u10, u11, rfl, h⟩
        refine ⟨Nat.le_of_ble_eq_true rfl, G.upd [] (Wd_X4_fillOne cI cS cT ad b0 u9 pln ptk sln stk u10 u11) rfl rfl rfl rfl rfl ?_⟩
        refine g_aload_n 102 2 hC dX4_fillOne_102 rfl ?_
        refine g_get 103 0 2 hC inlX4 wq_84 dX4_fillOne_103 rfl rfl (by decide) rfl ?_
        refine g_iload_n 106 1 hC dX4_fillOne_106 rfl ?_
        refine g_iload 107 0 hC dX4_fillOne_107 rfl ?_
        obtain ⟨hj, h⟩ := h
        refine g_iast 109 5 (Wd_X4_fillOne cI cS cT ad b0 u9 pln ptk sln stk (upd u10 (Int32.toNatClampNeg (r1 - (60 : Int32))) (sw (Int32.toNatClampNeg (r1 - (60 : Int32))))) u11) hC dX4_fillOne_109 rfl rfl hj rfl ?_
        exact g_vret 110 hC hR dX4_fillOne_110 ⟨u9, (upd u10 (Int32.toNatClampNeg (r1 - (60 : Int32))) (sw (Int32.toNatClampNeg (r1 - (60 : Int32))))), u11, rfl, h⟩
      · replace h := h.2 hc
        refine g_iload 65 0 hC dX4_fillOne_65 rfl ?_
        refine g_aload_n 67 2 hC dX4_fillOne_67 rfl ?_
        refine g_get 68 0 1 hC inlX4 wq_83 dX4_fillOne_68 rfl rfl (by decide) rfl ?_
        refine g_iload_n 71 4 hC dX4_fillOne_71 rfl ?_
        refine g_cVNi (As := [.int x2]) (rest := [.int (sw (Int32.toNatClampNeg (r1 - (60 : Int32))))]) 72 3 [3, 4] hC (c_X5_at l D cI cS cT ad (b0 + 3) x2 sln stk _ h) kX5_at nq_466 dX4_fillOne_72 rfl rfl (by refine ⟨?_, ?_⟩ <;> first | exact Nat.le_of_ble_eq_true rfl | (simp only [rm_X4_fill, rm_X4_fillOne, rm_X4_noteFilling, rm_X5_at]; omega)) rfl rfl (Nat.zero_le _) (Nat.zero_le _) rfl rfl rfl (Nat.le_of_ble_eq_true rfl) ?_
        rintro r13 _ ⟨rfl, h⟩
        refine ⟨Nat.le_of_ble_eq_true rfl, G.upd [0, 1, 2, 5, 6] (Wd_X4_fillOne cI cS cT ad b0 fo pln ptk sln stk sw fw) rfl rfl rfl rfl rfl ?_⟩
        refine g_icmp_ne 75 110 hC dX4_fillOne_75 (by decide) (fun hc => ?_) (fun hc => ?_)
        · replace h := h.1 hc
          exact g_vret 110 hC hR dX4_fillOne_110 ⟨fo, sw, fw, rfl, h⟩
        · replace h := h.2 hc
          refine g_aload_n 78 2 hC dX4_fillOne_78 rfl ?_
          refine g_get 79 0 2 hC inlX4 wq_84 dX4_fillOne_79 rfl rfl (by decide) rfl ?_
          refine g_iload_n 82 1 hC dX4_fillOne_82 rfl ?_
          refine g_aload_n 83 2 hC dX4_fillOne_83 rfl ?_
          refine g_get 84 0 1 hC inlX4 wq_83 dX4_fillOne_84 rfl rfl (by decide) rfl ?_
          refine g_iload_n 87 4 hC dX4_fillOne_87 rfl ?_
          refine g_cVNi (As := [.int x2]) (rest := [.int (r1 - (60 : Int32)), .ref (ad (b0 + 5))]) 88 3 [3, 4] hC (c_X5_at l D cI cS cT ad (b0 + 3) x2 sln stk _ h) kX5_at nq_466 dX4_fillOne_88 rfl rfl (by refine ⟨?_, ?_⟩ <;> first | exact Nat.le_of_ble_eq_true rfl | (simp only [rm_X4_fill, rm_X4_fillOne, rm_X4_noteFilling, rm_X5_at]; omega)) rfl rfl (Nat.zero_le _) (Nat.zero_le _) rfl rfl rfl (Nat.le_of_ble_eq_true rfl) ?_
          rintro r14 _ ⟨rfl, h⟩
          refine ⟨Nat.le_of_ble_eq_true rfl, G.upd [0, 1, 2, 5, 6] (Wd_X4_fillOne cI cS cT ad b0 fo pln ptk sln stk sw fw) rfl rfl rfl rfl rfl ?_⟩
          obtain ⟨hj, h⟩ := h
          refine g_iast 91 5 (Wd_X4_fillOne cI cS cT ad b0 fo pln ptk sln stk (upd sw (Int32.toNatClampNeg (r1 - (60 : Int32))) r14) fw) hC dX4_fillOne_91 rfl rfl hj rfl ?_
          refine g_aload_n 92 2 hC dX4_fillOne_92 rfl ?_
          refine g_iload_n 93 3 hC dX4_fillOne_93 rfl ?_
          refine g_iconst (v := (1 : Int32)) 94 hC dX4_fillOne_94 (by decide) ?_
          refine g_iadd 95 hC dX4_fillOne_95 ?_
          refine g_iload_n 96 4 hC dX4_fillOne_96 rfl ?_
          refine g_iconst (v := (1 : Int32)) 97 hC dX4_fillOne_97 (by decide) ?_
          refine g_iadd 98 hC dX4_fillOne_98 ?_
          refine g_cVv (As := [.int (x1 + (1 : Int32)), .int (x2 + (1 : Int32))]) (rest := []) 99 0 [0, 1, 2, 3, 4, 5, 6] hC (hrec b0 (x1 + (1 : Int32)) (x2 + (1 : Int32)) fo pln ptk sln stk (upd sw (Int32.toNatClampNeg (r1 - (60 : Int32))) r14) fw _ h) kX4_fill wq_453 dX4_fillOne_99 rfl rfl (by refine ⟨?_, ?_⟩ <;> first | exact Nat.le_of_ble_eq_true rfl | (simp only [rm_X4_fill, rm_X4_fillOne, rm_X4_noteFilling, rm_X5_at]; omega)) rfl rfl (Nat.zero_le _) (Nat.zero_le _) rfl rfl rfl (Nat.le_of_ble_eq_true rfl) ?_
          rintro _ ⟨u15, u16, u17, rfl, h⟩
          refine ⟨Nat.le_of_ble_eq_true rfl, G.upd [] (Wd_X4_fillOne cI cS cT ad b0 u15 pln ptk sln stk u16 u17) rfl rfl rfl rfl rfl ?_⟩
          refine g_aload_n 102 2 hC dX4_fillOne_102 rfl ?_
          refine g_get 103 0 2 hC inlX4 wq_84 dX4_fillOne_103 rfl rfl (by decide) rfl ?_
          refine g_iload_n 106 1 hC dX4_fillOne_106 rfl ?_
          refine g_iload 107 0 hC dX4_fillOne_107 rfl ?_
          obtain ⟨hj, h⟩ := h
          refine g_iast 109 5 (Wd_X4_fillOne cI cS cT ad b0 u15 pln ptk sln stk (upd u16 (Int32.toNatClampNeg (r1 - (60 : Int32))) (sw (Int32.toNatClampNeg (r1 - (60 : Int32))))) u17) hC dX4_fillOne_109 rfl rfl hj rfl ?_
          exact g_vret 110 hC hR dX4_fillOne_110 ⟨u15, (upd u16 (Int32.toNatClampNeg (r1 - (60 : Int32))) (sw (Int32.toNatClampNeg (r1 - (60 : Int32))))), u17, rfl, h⟩
    · replace h := h.2 hc
      refine g_aload_n 21 1 hC dX4_fillOne_21 rfl ?_
      refine g_get 22 0 0 hC inlX4 wq_82 dX4_fillOne_22 rfl rfl (by decide) rfl ?_
      refine g_iload_n 25 2 hC dX4_fillOne_25 rfl ?_
      refine g_cVNi (As := [.int x1]) (rest := []) 26 1 [1, 2] hC (c_X5_at l D cI cS cT ad (b0 + 1) x1 pln ptk _ h) kX5_at nq_466 dX4_fillOne_26 rfl rfl (by refine ⟨?_, ?_⟩ <;> first | exact Nat.le_of_ble_eq_true rfl | (simp only [rm_X4_fill, rm_X4_fillOne, rm_X4_noteFilling, rm_X5_at]; omega)) rfl rfl (Nat.zero_le _) (Nat.zero_le _) rfl rfl rfl (Nat.le_of_ble_eq_true rfl) ?_
      rintro r19 _ ⟨rfl, h⟩
      refine ⟨Nat.le_of_ble_eq_true rfl, G.upd [0, 3, 4, 5, 6] (Wd_X4_fillOne cI cS cT ad b0 fo pln ptk sln stk sw fw) rfl rfl rfl rfl rfl ?_⟩
      refine g_aload_n 29 1 hC dX4_fillOne_29 rfl ?_
      refine g_get 30 0 1 hC inlX4 wq_83 dX4_fillOne_30 rfl rfl (by decide) rfl ?_
      refine g_iload_n 33 3 hC dX4_fillOne_33 rfl ?_
      refine g_cVNi (As := [.int x2]) (rest := [.int r19]) 34 3 [3, 4] hC (c_X5_at l D cI cS cT ad (b0 + 3) x2 sln stk _ h) kX5_at nq_466 dX4_fillOne_34 rfl rfl (by refine ⟨?_, ?_⟩ <;> first | exact Nat.le_of_ble_eq_true rfl | (simp only [rm_X4_fill, rm_X4_fillOne, rm_X4_noteFilling, rm_X5_at]; omega)) rfl rfl (Nat.zero_le _) (Nat.zero_le _) rfl rfl rfl (Nat.le_of_ble_eq_true rfl) ?_
      rintro r20 _ ⟨rfl, h⟩
      refine ⟨Nat.le_of_ble_eq_true rfl, G.upd [0, 1, 2, 5, 6] (Wd_X4_fillOne cI cS cT ad b0 fo pln ptk sln stk sw fw) rfl rfl rfl rfl rfl ?_⟩
      refine g_icmp_ne 37 50 hC dX4_fillOne_37 (by decide) (fun hc => ?_) (fun hc => ?_)
      · replace h := h.1 hc
        exact g_vret 50 hC hR dX4_fillOne_50 ⟨fo, sw, fw, rfl, h⟩
      · replace h := h.2 hc
        refine g_aload_n 40 1 hC dX4_fillOne_40 rfl ?_
        refine g_iload_n 41 2 hC dX4_fillOne_41 rfl ?_
        refine g_iconst (v := (1 : Int32)) 42 hC dX4_fillOne_42 (by decide) ?_
        refine g_iadd 43 hC dX4_fillOne_43 ?_
        refine g_iload_n 44 3 hC dX4_fillOne_44 rfl ?_
        refine g_iconst (v := (1 : Int32)) 45 hC dX4_fillOne_45 (by decide) ?_
        refine g_iadd 46 hC dX4_fillOne_46 ?_
        refine g_cVv (As := [.int (x1 + (1 : Int32)), .int (x2 + (1 : Int32))]) (rest := []) 47 0 [0, 1, 2, 3, 4, 5, 6] hC (hrec b0 (x1 + (1 : Int32)) (x2 + (1 : Int32)) fo pln ptk sln stk sw fw _ h) kX4_fill wq_453 dX4_fillOne_47 rfl rfl (by refine ⟨?_, ?_⟩ <;> first | exact Nat.le_of_ble_eq_true rfl | (simp only [rm_X4_fill, rm_X4_fillOne, rm_X4_noteFilling, rm_X5_at]; omega)) rfl rfl (Nat.zero_le _) (Nat.zero_le _) rfl rfl rfl (Nat.le_of_ble_eq_true rfl) ?_
        rintro _ ⟨u21, u22, u23, rfl, h⟩
        refine ⟨Nat.le_of_ble_eq_true rfl, G.upd [] (Wd_X4_fillOne cI cS cT ad b0 u21 pln ptk sln stk u22 u23) rfl rfl rfl rfl rfl ?_⟩
        exact g_vret 50 hC hR dX4_fillOne_50 ⟨u21, u22, u23, rfl, h⟩

/-! ===== ProverbCollection$Matcher.fill(II)V ===== -/
def B_X4_fill_34 (rcF : Int32 → Int32 → Int32 → Int32 → (Nat → Int32) → Int32 → (Nat → Int32) → (Nat → Int32) → (Nat → Int32) → (Int32 → (Nat → Int32) → (Nat → Int32) → Prop) → Prop) (v1 : Int32) (pln : Int32) (ptk : Nat → Int32) (sln : Int32) (stk : Nat → Int32) (K : Int32 → Int32 → (Nat → Int32) → (Nat → Int32) → Prop) (rc : Int32 → Int32 → (Nat → Int32) → (Nat → Int32) → Prop) (v3 : Int32) (fo : Int32) (sw : Nat → Int32) (fw : Nat → Int32) : Prop :=
  (sln < v3 → K v3 fo sw fw) ∧ (¬ sln < v3 → rcF (v1 + (1 : Int32)) v3 fo pln ptk sln stk sw fw (fun u6 u7 u8 => rc (v3 + (1 : Int32)) u6 u7 u8))
def P_X4_fill_34 (rcF : Int32 → Int32 → Int32 → Int32 → (Nat → Int32) → Int32 → (Nat → Int32) → (Nat → Int32) → (Nat → Int32) → (Int32 → (Nat → Int32) → (Nat → Int32) → Prop) → Prop) (v1 : Int32) (pln : Int32) (ptk : Nat → Int32) (sln : Int32) (stk : Nat → Int32) (K : Int32 → Int32 → (Nat → Int32) → (Nat → Int32) → Prop) : Nat → Int32 → Int32 → (Nat → Int32) → (Nat → Int32) → Prop
  | 0 => fun _ _ _ _ => False
  | n + 1 => fun v3 fo sw fw => B_X4_fill_34 rcF v1 pln ptk sln stk K (P_X4_fill_34 rcF v1 pln ptk sln stk K n) v3 fo sw fw
def B_X4_fill (rcF : Int32 → Int32 → Int32 → Int32 → (Nat → Int32) → Int32 → (Nat → Int32) → (Nat → Int32) → (Nat → Int32) → (Int32 → (Nat → Int32) → (Nat → Int32) → Prop) → Prop) (x1 : Int32) (x2 : Int32) (fo : Int32) (pln : Int32) (ptk : Nat → Int32) (sln : Int32) (stk : Nat → Int32) (sw : Nat → Int32) (fw : Nat → Int32) (post : Int32 → (Nat → Int32) → (Nat → Int32) → Prop) : Prop :=
  (x1 < pln → (P_X5_at x1 pln ptk (fun r1 => (¬ r1 = (64 : Int32) → ((sln ≤ x2 → post fo sw fw) ∧ (¬ sln ≤ x2 → P_X4_fillOne rcF x1 x2 fo pln ptk sln stk sw fw (fun u2 u3 u4 => post u2 u3 u4)))) ∧ (r1 = (64 : Int32) → (∃ n : Nat, P_X4_fill_34 rcF x1 pln ptk sln stk (fun w3_10 fo_10 sw_10 fw_10 => post fo_10 sw_10 fw_10) n x2 fo sw fw))))) ∧ (¬ x1 < pln → P_X4_noteFilling x2 fo sln sw fw (fun u11 u12 => post u11 sw u12))
set_option maxHeartbeats 4000000 in
set_option maxRecDepth 100000 in
theorem L_X4_fill_34 {d : Nat} {rcF : Int32 → Int32 → Int32 → Int32 → (Nat → Int32) → Int32 → (Nat → Int32) → (Nat → Int32) → (Nat → Int32) → (Int32 → (Nat → Int32) → (Nat → Int32) → Prop) → Prop} {l : Launch} {D : va_G} {cI cS cT : ClassId} {ad : Nat → Nat} {b0 : Nat} {E : CE} {v1 : Int32} {v2 : Int32} {pln : Int32} {ptk : Nat → Int32} {sln : Int32} {stk : Nat → Int32} {post : Int32 → (Nat → Int32) → (Nat → Int32) → Prop} (hC : Cx l D (TY cI cS cT) E (rm_X4_fill (d + 1)) cX4_fill RX4) (hrec : ∀ (b0 : Nat) (x1 x2 : Int32) (fo : Int32) (pln : Int32) (ptk : Nat → Int32) (sln : Int32) (stk : Nat → Int32) (sw : Nat → Int32) (fw : Nat → Int32) (post : Int32 → (Nat → Int32) → (Nat → Int32) → Prop), rcF x1 x2 fo pln ptk sln stk sw fw post → MV l D (TY cI cS cT) yX4_fill cX4_fill 4 (rm_X4_fill d) [.ref (ad b0), .int x1, .int x2] (Wd_X4_fill cI cS cT ad b0 fo pln ptk sln stk sw fw) (fun w => ∃ (u_fo : Int32) (u_sw : Nat → Int32) (u_fw : Nat → Int32), w = (Wd_X4_fill cI cS cT ad b0 u_fo pln ptk sln stk u_sw u_fw) ∧ post u_fo u_sw u_fw)) (hR : RetV D E (fun w => ∃ (u_fo : Int32) (u_sw : Nat → Int32) (u_fw : Nat → Int32), w = (Wd_X4_fill cI cS cT ad b0 u_fo pln ptk sln stk u_sw u_fw) ∧ post u_fo u_sw u_fw) 0 0) (hn : E.nL = 4) (K : Int32 → Int32 → (Nat → Int32) → (Nat → Int32) → Prop) (hK : ∀ (v3 : Int32) (fo : Int32) (sw : Nat → Int32) (fw : Nat → Int32), K v3 fo sw fw → G l D E 0 0 (Wd_X4_fill cI cS cT ad b0 fo pln ptk sln stk sw fw) [(3, .int v3), (0, .ref (ad b0)), (1, .int v1), (2, .int v2)] 59 []) : ∀ (n : Nat) (v3 : Int32) (fo : Int32) (sw : Nat → Int32) (fw : Nat → Int32), P_X4_fill_34 rcF v1 pln ptk sln stk K n v3 fo sw fw → G l D E 0 0 (Wd_X4_fill cI cS cT ad b0 fo pln ptk sln stk sw fw) [(3, .int v3), (0, .ref (ad b0)), (1, .int v1), (2, .int v2)] 34 [] := by
  intro n
  induction n with
  | zero => exact fun _ _ _ _ h => h.elim
  | succ n ih =>
    intro v3 fo sw fw h
    replace h : B_X4_fill_34 rcF v1 pln ptk sln stk K (P_X4_fill_34 rcF v1 pln ptk sln stk K n) v3 fo sw fw := h
    unfold B_X4_fill_34 at h
    refine g_iload_n 34 0 hC dX4_fill_34 rfl ?_
    refine g_aload_n 35 1 hC dX4_fill_35 rfl ?_
    refine g_get 36 0 1 hC inlX4 wq_83 dX4_fill_36 rfl rfl (by decide) rfl ?_
    refine g_getN 39 3 1 hC inlX5 nq_34 dX4_fill_39 rfl rfl (by decide) rfl ?_
    refine g_icmp_gt 42 59 hC dX4_fill_42 (by decide) (fun hc => ?_) (fun hc => ?_)
    · replace h := h.1 hc
      refine G.sub [0, 1, 2, 3] rfl ?_
      exact hK v3 fo sw fw h
    · replace h := h.2 hc
      refine g_aload_n 45 1 hC dX4_fill_45 rfl ?_
      refine g_iload_n 46 2 hC dX4_fill_46 rfl ?_
      refine g_iconst (v := (1 : Int32)) 47 hC dX4_fill_47 (by decide) ?_
      refine g_iadd 48 hC dX4_fill_48 ?_
      refine g_iload_n 49 0 hC dX4_fill_49 rfl ?_
      refine g_cVv (As := [.int (v1 + (1 : Int32)), .int v3]) (rest := []) 50 0 [0, 1, 2, 3, 4, 5, 6] hC (hrec b0 (v1 + (1 : Int32)) v3 fo pln ptk sln stk sw fw _ h) kX4_fill wq_453 dX4_fill_50 rfl rfl (by refine ⟨?_, ?_⟩ <;> first | exact Nat.le_of_ble_eq_true rfl | (simp only [rm_X4_fill, rm_X4_fillOne, rm_X4_noteFilling, rm_X5_at]; omega)) rfl rfl (Nat.zero_le _) (Nat.zero_le _) rfl rfl rfl (Nat.le_of_ble_eq_true rfl) ?_
      rintro _ ⟨u6, u7, u8, rfl, h⟩
      refine ⟨Nat.le_of_ble_eq_true rfl, G.upd [] (Wd_X4_fill cI cS cT ad b0 u6 pln ptk sln stk u7 u8) rfl rfl rfl rfl rfl ?_⟩
      refine g_iinc (v := (1 : Int32)) 53 0 [(3, .int (v3 + (1 : Int32))), (0, .ref (ad b0)), (1, .int v1), (2, .int v2)] hC dX4_fill_53 rfl (by decide) (by rw [hn]; decide) rfl ?_
      refine g_goto 56 34 hC dX4_fill_56 (by decide) ?_
      refine G.sub [0, 1, 2, 3] rfl ?_
      exact ih _ _ _ _ h
set_option maxHeartbeats 4000000 in
set_option maxRecDepth 100000 in
theorem cB_X4_fill (d : Nat) (rcF : Int32 → Int32 → Int32 → Int32 → (Nat → Int32) → Int32 → (Nat → Int32) → (Nat → Int32) → (Nat → Int32) → (Int32 → (Nat → Int32) → (Nat → Int32) → Prop) → Prop) (l : Launch) (D : va_G) (cI cS cT : ClassId) (ad : Nat → Nat) (b0 : Nat) (hrec : ∀ (b0 : Nat) (x1 x2 : Int32) (fo : Int32) (pln : Int32) (ptk : Nat → Int32) (sln : Int32) (stk : Nat → Int32) (sw : Nat → Int32) (fw : Nat → Int32) (post : Int32 → (Nat → Int32) → (Nat → Int32) → Prop), rcF x1 x2 fo pln ptk sln stk sw fw post → MV l D (TY cI cS cT) yX4_fill cX4_fill 4 (rm_X4_fill d) [.ref (ad b0), .int x1, .int x2] (Wd_X4_fill cI cS cT ad b0 fo pln ptk sln stk sw fw) (fun w => ∃ (u_fo : Int32) (u_sw : Nat → Int32) (u_fw : Nat → Int32), w = (Wd_X4_fill cI cS cT ad b0 u_fo pln ptk sln stk u_sw u_fw) ∧ post u_fo u_sw u_fw)) (x1 : Int32) (x2 : Int32) (fo : Int32) (pln : Int32) (ptk : Nat → Int32) (sln : Int32) (stk : Nat → Int32) (sw : Nat → Int32) (fw : Nat → Int32) (post : Int32 → (Nat → Int32) → (Nat → Int32) → Prop) (h : B_X4_fill rcF x1 x2 fo pln ptk sln stk sw fw post) : MV l D (TY cI cS cT) yX4_fill cX4_fill 4 (rm_X4_fill (d + 1)) [.ref (ad b0), .int x1, .int x2] (Wd_X4_fill cI cS cT ad b0 fo pln ptk sln stk sw fw) (fun w => ∃ (u_fo : Int32) (u_sw : Nat → Int32) (u_fw : Nat → Int32), w = (Wd_X4_fill cI cS cT ad b0 u_fo pln ptk sln stk u_sw u_fw) ∧ post u_fo u_sw u_fw) := by
  refine MV.of (by decide) (Nat.le_of_ble_eq_true rfl) (fun E hC hR hn => ?_)
  replace hC : Cx l D (TY cI cS cT) E (rm_X4_fill (d + 1)) cX4_fill RX4 := hC
  replace hR : RetV D E (fun w => ∃ (u_fo : Int32) (u_sw : Nat → Int32) (u_fw : Nat → Int32), w = (Wd_X4_fill cI cS cT ad b0 u_fo pln ptk sln stk u_sw u_fw) ∧ post u_fo u_sw u_fw) 0 0 := hR
  unfold B_X4_fill at h
  change G l D E 0 0 _ [(0, .ref (ad b0)), (1, .int x1), (2, .int x2)] 0 []
  refine g_iload_n 0 1 hC dX4_fill_0 rfl ?_
  refine g_aload_n 1 0 hC dX4_fill_1 rfl ?_
  refine g_get 2 0 0 hC inlX4 wq_82 dX4_fill_2 rfl rfl (by decide) rfl ?_
  refine g_getN 5 1 1 hC inlX5 nq_34 dX4_fill_5 rfl rfl (by decide) rfl ?_
  refine g_icmp_lt 8 19 hC dX4_fill_8 (by decide) (fun hc => ?_) (fun hc => ?_)
  · replace h := h.1 hc
    refine g_aload_n 19 0 hC dX4_fill_19 rfl ?_
    refine g_get 20 0 0 hC inlX4 wq_82 dX4_fill_20 rfl rfl (by decide) rfl ?_
    refine g_iload_n 23 1 hC dX4_fill_23 rfl ?_
    refine g_cVNi (As := [.int x1]) (rest := []) 24 1 [1, 2] hC (c_X5_at l D cI cS cT ad (b0 + 1) x1 pln ptk _ h) kX5_at nq_466 dX4_fill_24 rfl rfl (by refine ⟨?_, ?_⟩ <;> first | exact Nat.le_of_ble_eq_true rfl | (simp only [rm_X4_fill, rm_X4_fillOne, rm_X4_noteFilling, rm_X5_at]; omega)) rfl rfl (Nat.zero_le _) (Nat.zero_le _) rfl rfl rfl (Nat.le_of_ble_eq_true rfl) ?_
    rintro r1 _ ⟨rfl, h⟩
    refine ⟨Nat.le_of_ble_eq_true rfl, G.upd [0, 3, 4, 5, 6] (Wd_X4_fill cI cS cT ad b0 fo pln ptk sln stk sw fw) rfl rfl rfl rfl rfl ?_⟩
    refine g_bipush (v := (64 : Int32)) 27 hC dX4_fill_27 (by decide) ?_
    refine g_icmp_ne 29 62 hC dX4_fill_29 (by decide) (fun hc => ?_) (fun hc => ?_)
    · replace h := h.1 hc
      refine g_iload_n 62 2 hC dX4_fill_62 rfl ?_
      refine g_aload_n 63 0 hC dX4_fill_63 rfl ?_
      refine g_get 64 0 1 hC inlX4 wq_83 dX4_fill_64 rfl rfl (by decide) rfl ?_
      refine g_getN 67 3 1 hC inlX5 nq_34 dX4_fill_67 rfl rfl (by decide) rfl ?_
      refine g_icmp_ge 70 79 hC dX4_fill_70 (by decide) (fun hc => ?_) (fun hc => ?_)
      · replace h := h.1 hc
        exact g_vret 79 hC hR dX4_fill_79 ⟨fo, sw, fw, rfl, h⟩
      · replace h := h.2 hc
        refine g_aload_n 73 0 hC dX4_fill_73 rfl ?_
        refine g_iload_n 74 1 hC dX4_fill_74 rfl ?_
        refine g_iload_n 75 2 hC dX4_fill_75 rfl ?_
        refine g_cVv (As := [.int x1, .int x2]) (rest := []) 76 0 [0, 1, 2, 3, 4, 5, 6] hC (c_X4_fillOne d rcF l D cI cS cT ad b0 hrec x1 x2 fo pln ptk sln stk sw fw _ h) kX4_fillOne wq_461 dX4_fill_76 rfl rfl (by refine ⟨?_, ?_⟩ <;> first | exact Nat.le_of_ble_eq_true rfl | (simp only [rm_X4_fill, rm_X4_fillOne, rm_X4_noteFilling, rm_X5_at]; omega)) rfl rfl (Nat.zero_le _) (Nat.zero_le _) rfl rfl rfl (Nat.le_of_ble_eq_true rfl) ?_
        rintro _ ⟨u2, u3, u4, rfl, h⟩
        refine ⟨Nat.le_of_ble_eq_true rfl, G.upd [] (Wd_X4_fill cI cS cT ad b0 u2 pln ptk sln stk u3 u4) rfl rfl rfl rfl rfl ?_⟩
        exact g_vret 79 hC hR dX4_fill_79 ⟨u2, u3, u4, rfl, h⟩
    · replace h := h.2 hc
      refine g_iload_n 32 2 hC dX4_fill_32 rfl ?_
      refine g_istore_n 33 [(3, .int x2), (0, .ref (ad b0)), (1, .int x1), (2, .int x2)] hC dX4_fill_33 (by rw [hn]; decide) rfl ?_
      obtain ⟨n, h⟩ := h
      refine L_X4_fill_34 hC hrec hR hn _ (fun w3_10 fo_10 sw_10 fw_10 h => ?_) n _ _ _ _ h
      refine g_goto 59 79 hC dX4_fill_59 (by decide) ?_
      exact g_vret 79 hC hR dX4_fill_79 ⟨fo_10, sw_10, fw_10, rfl, h⟩
  · replace h := h.2 hc
    refine g_aload_n 11 0 hC dX4_fill_11 rfl ?_
    refine g_iload_n 12 2 hC dX4_fill_12 rfl ?_
    refine g_cVv (As := [.int x2]) (rest := []) 13 0 [0, 3, 5, 6] hC (c_X4_noteFilling l D cI cS cT ad b0 x2 fo sln sw fw _ h) kX4_noteFilling wq_457 dX4_fill_13 rfl rfl (by refine ⟨?_, ?_⟩ <;> first | exact Nat.le_of_ble_eq_true rfl | (simp only [rm_X4_fill, rm_X4_fillOne, rm_X4_noteFilling, rm_X5_at]; omega)) rfl rfl (Nat.zero_le _) (Nat.zero_le _) rfl rfl rfl (Nat.le_of_ble_eq_true rfl) ?_
    rintro _ ⟨u11, u12, rfl, h⟩
    refine ⟨Nat.le_of_ble_eq_true rfl, G.upd [1, 2, 4] (Wd_X4_fill cI cS cT ad b0 u11 pln ptk sln stk sw u12) rfl rfl rfl rfl rfl ?_⟩
    refine g_goto 16 79 hC dX4_fill_16 (by decide) ?_
    exact g_vret 79 hC hR dX4_fill_79 ⟨u11, sw, u12, rfl, h⟩
def P_X4_fill : Nat → Int32 → Int32 → Int32 → Int32 → (Nat → Int32) → Int32 → (Nat → Int32) → (Nat → Int32) → (Nat → Int32) → (Int32 → (Nat → Int32) → (Nat → Int32) → Prop) → Prop
  | 0 => fun _ _ _ _ _ _ _ _ _ _ => False
  | d + 1 => fun x1 x2 fo pln ptk sln stk sw fw post => B_X4_fill (P_X4_fill d) x1 x2 fo pln ptk sln stk sw fw post
theorem c_X4_fill (d : Nat) (l : Launch) (D : va_G) (cI cS cT : ClassId) (ad : Nat → Nat) : ∀  (b0 : Nat) (x1 : Int32) (x2 : Int32) (fo : Int32) (pln : Int32) (ptk : Nat → Int32) (sln : Int32) (stk : Nat → Int32) (sw : Nat → Int32) (fw : Nat → Int32) (post : Int32 → (Nat → Int32) → (Nat → Int32) → Prop) (h : P_X4_fill d x1 x2 fo pln ptk sln stk sw fw post), MV l D (TY cI cS cT) yX4_fill cX4_fill 4 (rm_X4_fill d) [.ref (ad b0), .int x1, .int x2] (Wd_X4_fill cI cS cT ad b0 fo pln ptk sln stk sw fw) (fun w => ∃ (u_fo : Int32) (u_sw : Nat → Int32) (u_fw : Nat → Int32), w = (Wd_X4_fill cI cS cT ad b0 u_fo pln ptk sln stk u_sw u_fw) ∧ post u_fo u_sw u_fw) := by
  induction d with
  | zero => intro b0 x1 x2 fo pln ptk sln stk sw fw post h; exact h.elim
  | succ d ih => intro b0 x1 x2 fo pln ptk sln stk sw fw post h; exact cB_X4_fill d (P_X4_fill d) l D cI cS cT ad b0 (fun b0 x1 x2 fo pln ptk sln stk sw fw post h => ih b0 x1 x2 fo pln ptk sln stk sw fw post h) x1 x2 fo pln ptk sln stk sw fw post h

/-! ===== ProverbCollection$Matcher.match(LProverbCollection$State;II)I ===== -/
def Wd_X4_match (cI cS cT : ClassId) (ad : Nat → Nat) (b0 : Nat) (b1 : Nat) (fo : Int32) (pln : Int32) (ptk : Nat → Int32) (sln : Int32) (stk : Nat → Int32) (sw : Nat → Int32) (fw : Nat → Int32) (nli : Int32) (nsct : Int32) (nstk : Nat → Int32) (nsle : Nat → Int32) (npct : Int32) (nptk : Nat → Int32) (nple : Nat → Int32) : va_W := [(ad b0, .inr (4, [.ref (ad (b0 + 1)), .ref (ad (b0 + 3)), .ref (ad (b0 + 5)), .ref (ad (b0 + 6)), .int fo])), (ad (b0 + 1), .inr (5, [.ref (ad (b0 + 2)), .int pln])), (ad (b0 + 2), .inl (cI, 8, .inl ptk)), (ad (b0 + 3), .inr (5, [.ref (ad (b0 + 4)), .int sln])), (ad (b0 + 4), .inl (cI, 8, .inl stk)), (ad (b0 + 5), .inl (cI, 4, .inl sw)), (ad (b0 + 6), .inl (cI, 4, .inl fw)), (ad b1, .inr (7, [.ref (ad (b1 + 1)), .ref (ad (b1 + 4)), .ref (ad (b1 + 5)), .ref (ad (b1 + 6)), .ref (ad (b1 + 9)), .int nli])), (ad (b1 + 1), .inr (6, [.int 12, .ref (ad (b1 + 2)), .ref (ad (b1 + 3)), .int nsct])), (ad (b1 + 2), .inl (cI, 96, .inl nstk)), (ad (b1 + 3), .inl (cI, 12, .inl nsle)), (ad (b1 + 6), .inr (6, [.int 6, .ref (ad (b1 + 7)), .ref (ad (b1 + 8)), .int npct])), (ad (b1 + 7), .inl (cI, 48, .inl nptk)), (ad (b1 + 8), .inl (cI, 6, .inl nple))]
def rm_X4_match : Room := { frames := 21, cells := 0, slots := 0, locals := 763 }
theorem kX4_match : KV yX4_match cX4_match 5 (some .int) 3 := ⟨wq_451, wq_30, wq_449, wq_450, by decide +kernel⟩
def B_X4_match_27 (K : Int32 → (Nat → Int32) → (Nat → Int32) → Prop) (rc : Int32 → (Nat → Int32) → (Nat → Int32) → Prop) (v4 : Int32) (sw : Nat → Int32) (fw : Nat → Int32) : Prop :=
  ((4 : Int32) ≤ v4 → K v4 sw fw) ∧ (¬ (4 : Int32) ≤ v4 → (vp_in v4 4 ∧ (vp_in v4 4 ∧ (rc (v4 + (1 : Int32)) (upd sw (Int32.toNatClampNeg v4) (-1 : Int32)) (upd fw (Int32.toNatClampNeg v4) (-1 : Int32))))))
def P_X4_match_27 (K : Int32 → (Nat → Int32) → (Nat → Int32) → Prop) : Nat → Int32 → (Nat → Int32) → (Nat → Int32) → Prop
  | 0 => fun _ _ _ => False
  | n + 1 => fun v4 sw fw => B_X4_match_27 K (P_X4_match_27 K n) v4 sw fw
def P_X4_match (x2 : Int32) (x3 : Int32) (fo : Int32) (pln : Int32) (ptk : Nat → Int32) (sln : Int32) (stk : Nat → Int32) (sw : Nat → Int32) (fw : Nat → Int32) (nli : Int32) (nsct : Int32) (nstk : Nat → Int32) (nsle : Nat → Int32) (npct : Int32) (nptk : Nat → Int32) (nple : Nat → Int32) (post : Int32 → Int32 → Int32 → (Nat → Int32) → Int32 → (Nat → Int32) → (Nat → Int32) → (Nat → Int32) → Prop) : Prop :=
  P_X6_load (6 : Int32) 48 6 x2 npct nptk nple pln ptk (fun u1 u2 => P_X6_load (12 : Int32) 96 12 x3 nsct nstk nsle sln stk (fun u4 u5 => ∃ n : Nat, P_X4_match_27 (fun w4_7 sw_7 fw_7 => P_X4_fill 9 (0 : Int32) (0 : Int32) (0 : Int32) u1 u2 u4 u5 sw_7 fw_7 (fun u8 u9 u10 => post u8 u8 u1 u2 u4 u5 u9 u10)) n (0 : Int32) sw fw))
set_option maxHeartbeats 4000000 in
set_option maxRecDepth 100000 in
theorem L_X4_match_27 {l : Launch} {D : va_G} {cI cS cT : ClassId} {ad : Nat → Nat} {b0 : Nat} {b1 : Nat} {E : CE} {v2 : Int32} {v3 : Int32} {fo : Int32} {pln : Int32} {ptk : Nat → Int32} {sln : Int32} {stk : Nat → Int32} {nli : Int32} {nsct : Int32} {nstk : Nat → Int32} {nsle : Nat → Int32} {npct : Int32} {nptk : Nat → Int32} {nple : Nat → Int32} {post : Int32 → Int32 → Int32 → (Nat → Int32) → Int32 → (Nat → Int32) → (Nat → Int32) → (Nat → Int32) → Prop} (hC : Cx l D (TY cI cS cT) E rm_X4_match cX4_match RX4) (hR : RetI D E (fun (r : Int32) w => ∃ (u_fo : Int32) (u_pln : Int32) (u_ptk : Nat → Int32) (u_sln : Int32) (u_stk : Nat → Int32) (u_sw : Nat → Int32) (u_fw : Nat → Int32), w = (Wd_X4_match cI cS cT ad b0 b1 u_fo u_pln u_ptk u_sln u_stk u_sw u_fw nli nsct nstk nsle npct nptk nple) ∧ post r u_fo u_pln u_ptk u_sln u_stk u_sw u_fw) 0 0 (some .int)) (hn : E.nL = 5) (K : Int32 → (Nat → Int32) → (Nat → Int32) → Prop) (hK : ∀ (v4 : Int32) (sw : Nat → Int32) (fw : Nat → Int32), K v4 sw fw → G l D E 0 0 (Wd_X4_match cI cS cT ad b0 b1 fo pln ptk sln stk sw fw nli nsct nstk nsle npct nptk nple) [(4, .int v4), (0, .ref (ad b0)), (1, .ref (ad b1)), (2, .int v2), (3, .int v3)] 55 []) : ∀ (n : Nat) (v4 : Int32) (sw : Nat → Int32) (fw : Nat → Int32), P_X4_match_27 K n v4 sw fw → G l D E 0 0 (Wd_X4_match cI cS cT ad b0 b1 fo pln ptk sln stk sw fw nli nsct nstk nsle npct nptk nple) [(4, .int v4), (0, .ref (ad b0)), (1, .ref (ad b1)), (2, .int v2), (3, .int v3)] 27 [] := by
  intro n
  induction n with
  | zero => exact fun _ _ _ h => h.elim
  | succ n ih =>
    intro v4 sw fw h
    replace h : B_X4_match_27 K (P_X4_match_27 K n) v4 sw fw := h
    unfold B_X4_match_27 at h
    refine g_iload 27 0 hC dX4_match_27 rfl ?_
    refine g_iconst (v := (4 : Int32)) 29 hC dX4_match_29 (by decide) ?_
    refine g_icmp_ge 30 55 hC dX4_match_30 (by decide) (fun hc => ?_) (fun hc => ?_)
    · replace h := h.1 hc
      refine G.sub [0, 1, 2, 3, 4] rfl ?_
      exact hK v4 sw fw h
    · replace h := h.2 hc
      refine g_aload_n 33 1 hC dX4_match_33 rfl ?_
      refine g_get 34 0 2 hC inlX4 wq_84 dX4_match_34 rfl rfl (by decide) rfl ?_
      refine g_iload 37 0 hC dX4_match_37 rfl ?_
      refine g_iconst (v := (-1 : Int32)) 39 hC dX4_match_39 (by decide) ?_
      obtain ⟨hj, h⟩ := h
      refine g_iast 40 5 (Wd_X4_match cI cS cT ad b0 b1 fo pln ptk sln stk (upd sw (Int32.toNatClampNeg v4) (-1 : Int32)) fw nli nsct nstk nsle npct nptk nple) hC dX4_match_40 rfl rfl hj rfl ?_
      refine g_aload_n 41 1 hC dX4_match_41 rfl ?_
      refine g_get 42 0 3 hC inlX4 wq_85 dX4_match_42 rfl rfl (by decide) rfl ?_
      refine g_iload 45 0 hC dX4_match_45 rfl ?_
      refine g_iconst (v := (-1 : Int32)) 47 hC dX4_match_47 (by decide) ?_
      obtain ⟨hj, h⟩ := h
      refine g_iast 48 6 (Wd_X4_match cI cS cT ad b0 b1 fo pln ptk sln stk (upd sw (Int32.toNatClampNeg v4) (-1 : Int32)) (upd fw (Int32.toNatClampNeg v4) (-1 : Int32)) nli nsct nstk nsle npct nptk nple) hC dX4_match_48 rfl rfl hj rfl ?_
      refine g_iinc (v := (1 : Int32)) 49 0 [(4, .int (v4 + (1 : Int32))), (0, .ref (ad b0)), (1, .ref (ad b1)), (2, .int v2), (3, .int v3)] hC dX4_match_49 rfl (by decide) (by rw [hn]; decide) rfl ?_
      refine g_goto 52 27 hC dX4_match_52 (by decide) ?_
      refine G.sub [0, 1, 2, 3, 4] rfl ?_
      exact ih _ _ _ h
set_option maxHeartbeats 4000000 in
set_option maxRecDepth 100000 in
theorem c_X4_match (l : Launch) (D : va_G) (cI cS cT : ClassId) (ad : Nat → Nat) (b0 : Nat) (b1 : Nat) (x2 : Int32) (x3 : Int32) (fo : Int32) (pln : Int32) (ptk : Nat → Int32) (sln : Int32) (stk : Nat → Int32) (sw : Nat → Int32) (fw : Nat → Int32) (nli : Int32) (nsct : Int32) (nstk : Nat → Int32) (nsle : Nat → Int32) (npct : Int32) (nptk : Nat → Int32) (nple : Nat → Int32) (post : Int32 → Int32 → Int32 → (Nat → Int32) → Int32 → (Nat → Int32) → (Nat → Int32) → (Nat → Int32) → Prop) (h : P_X4_match x2 x3 fo pln ptk sln stk sw fw nli nsct nstk nsle npct nptk nple post) : MI l D (TY cI cS cT) yX4_match cX4_match 5 (some .int) rm_X4_match [.ref (ad b0), .ref (ad b1), .int x2, .int x3] (Wd_X4_match cI cS cT ad b0 b1 fo pln ptk sln stk sw fw nli nsct nstk nsle npct nptk nple) (fun (r : Int32) w => ∃ (u_fo : Int32) (u_pln : Int32) (u_ptk : Nat → Int32) (u_sln : Int32) (u_stk : Nat → Int32) (u_sw : Nat → Int32) (u_fw : Nat → Int32), w = (Wd_X4_match cI cS cT ad b0 b1 u_fo u_pln u_ptk u_sln u_stk u_sw u_fw nli nsct nstk nsle npct nptk nple) ∧ post r u_fo u_pln u_ptk u_sln u_stk u_sw u_fw) := by
  refine MI.of (by decide) (Nat.le_of_ble_eq_true rfl) (fun E hC hR hn => ?_)
  replace hC : Cx l D (TY cI cS cT) E rm_X4_match cX4_match RX4 := hC
  replace hR : RetI D E (fun (r : Int32) w => ∃ (u_fo : Int32) (u_pln : Int32) (u_ptk : Nat → Int32) (u_sln : Int32) (u_stk : Nat → Int32) (u_sw : Nat → Int32) (u_fw : Nat → Int32), w = (Wd_X4_match cI cS cT ad b0 b1 u_fo u_pln u_ptk u_sln u_stk u_sw u_fw nli nsct nstk nsle npct nptk nple) ∧ post r u_fo u_pln u_ptk u_sln u_stk u_sw u_fw) 0 0 (some .int) := hR
  unfold P_X4_match at h
  change G l D E 0 0 _ [(0, .ref (ad b0)), (1, .ref (ad b1)), (2, .int x2), (3, .int x3)] 0 []
  refine g_aload_n 0 1 hC dX4_match_0 rfl ?_
  refine g_getN 1 7 3 hC inlX7 nq_80 dX4_match_1 rfl rfl (by decide) rfl ?_
  refine g_iload_n 4 2 hC dX4_match_4 rfl ?_
  refine g_aload_n 5 0 hC dX4_match_5 rfl ?_
  refine g_get 6 0 0 hC inlX4 wq_82 dX4_match_6 rfl rfl (by decide) rfl ?_
  refine g_cVNv (As := [.int x2, .ref (ad (b0 + 1))]) (rest := []) 9 11 [11, 12, 13, 1, 2] hC (c_X6_load l D cI cS cT ad (b1 + 6) (b0 + 1) (6 : Int32) 48 6 x2 npct nptk nple pln ptk _ h) kX6_load nq_456 dX4_match_9 rfl rfl ⟨Nat.le_of_ble_eq_true rfl, Nat.le_of_ble_eq_true rfl⟩ rfl rfl (Nat.zero_le _) (Nat.zero_le _) rfl rfl rfl (Nat.le_of_ble_eq_true rfl) ?_
  rintro _ ⟨u1, u2, rfl, h⟩
  refine ⟨Nat.le_of_ble_eq_true rfl, G.upd [0, 3, 4, 5, 6, 7, 8, 9, 10] (Wd_X4_match cI cS cT ad b0 b1 fo u1 u2 sln stk sw fw nli nsct nstk nsle npct nptk nple) rfl rfl rfl rfl rfl ?_⟩
  refine g_aload_n 12 1 hC dX4_match_12 rfl ?_
  refine g_getN 13 7 0 hC inlX7 nq_73 dX4_match_13 rfl rfl (by decide) rfl ?_
  refine g_iload_n 16 3 hC dX4_match_16 rfl ?_
  refine g_aload_n 17 0 hC dX4_match_17 rfl ?_
  refine g_get 18 0 1 hC inlX4 wq_83 dX4_match_18 rfl rfl (by decide) rfl ?_
  refine g_cVNv (As := [.int x3, .ref (ad (b0 + 3))]) (rest := []) 21 8 [8, 9, 10, 3, 4] hC (c_X6_load l D cI cS cT ad (b1 + 1) (b0 + 3) (12 : Int32) 96 12 x3 nsct nstk nsle sln stk _ h) kX6_load nq_456 dX4_match_21 rfl rfl ⟨Nat.le_of_ble_eq_true rfl, Nat.le_of_ble_eq_true rfl⟩ rfl rfl (Nat.zero_le _) (Nat.zero_le _) rfl rfl rfl (Nat.le_of_ble_eq_true rfl) ?_
  rintro _ ⟨u4, u5, rfl, h⟩
  refine ⟨Nat.le_of_ble_eq_true rfl, G.upd [0, 1, 2, 5, 6, 7, 11, 12, 13] (Wd_X4_match cI cS cT ad b0 b1 fo u1 u2 u4 u5 sw fw nli nsct nstk nsle npct nptk nple) rfl rfl rfl rfl rfl ?_⟩
  refine g_iconst (v := (0 : Int32)) 24 hC dX4_match_24 (by decide) ?_
  refine g_istore 25 [(4, .int (0 : Int32)), (0, .ref (ad b0)), (1, .ref (ad b1)), (2, .int x2), (3, .int x3)] hC dX4_match_25 (by rw [hn]; decide) rfl ?_
  obtain ⟨n, h⟩ := h
  refine L_X4_match_27 hC hR hn _ (fun w4_7 sw_7 fw_7 h => ?_) n _ _ _ h
  refine g_aload_n 55 1 hC dX4_match_55 rfl ?_
  refine g_iconst (v := (0 : Int32)) 56 hC dX4_match_56 (by decide) ?_
  refine g_put 57 0 4 (Wd_X4_match cI cS cT ad b0 b1 (0 : Int32) u1 u2 u4 u5 sw_7 fw_7 nli nsct nstk nsle npct nptk nple) hC inlX4 tyX4_ok nmX4 wq_452 dX4_match_57 rfl rfl (by decide) rfl rfl (Nat.le_of_ble_eq_true rfl) rfl ?_
  refine g_aload_n 60 1 hC dX4_match_60 rfl ?_
  refine g_iconst (v := (0 : Int32)) 61 hC dX4_match_61 (by decide) ?_
  refine g_iconst (v := (0 : Int32)) 62 hC dX4_match_62 (by decide) ?_
  refine g_cVv (As := [.int (0 : Int32), .int (0 : Int32)]) (rest := []) 63 0 [0, 1, 2, 3, 4, 5, 6] hC (c_X4_fill 9 l D cI cS cT ad b0 (0 : Int32) (0 : Int32) (0 : Int32) u1 u2 u4 u5 sw_7 fw_7 _ h) kX4_fill wq_453 dX4_match_63 rfl rfl ⟨Nat.le_of_ble_eq_true rfl, Nat.le_of_ble_eq_true rfl⟩ rfl rfl (Nat.zero_le _) (Nat.zero_le _) rfl rfl rfl (Nat.le_of_ble_eq_true rfl) ?_
  rintro _ ⟨u8, u9, u10, rfl, h⟩
  refine ⟨Nat.le_of_ble_eq_true rfl, G.upd [7, 8, 9, 10, 11, 12, 13] (Wd_X4_match cI cS cT ad b0 b1 u8 u1 u2 u4 u5 u9 u10 nli nsct nstk nsle npct nptk nple) rfl rfl rfl rfl rfl ?_⟩
  refine g_aload_n 66 1 hC dX4_match_66 rfl ?_
  refine g_get 67 0 4 hC inlX4 wq_452 dX4_match_67 rfl rfl (by decide) rfl ?_
  exact g_iret 70 hC hR dX4_match_70 ⟨u8, u1, u2, u4, u5, u9, u10, rfl, h⟩

/-! ===== ProverbCollection$Matcher.fit()I ===== -/
def Wd_X4_fit (cI cS cT : ClassId) (ad : Nat → Nat) (b0 : Nat) (fo : Int32) (pln : Int32) (ptk : Nat → Int32) : va_W := [(ad b0, .inr (4, [.ref (ad (b0 + 1)), .ref (ad (b0 + 3)), .ref (ad (b0 + 5)), .ref (ad (b0 + 6)), .int fo])), (ad (b0 + 1), .inr (5, [.ref (ad (b0 + 2)), .int pln])), (ad (b0 + 2), .inl (cI, 8, .inl ptk))]
def rm_X4_fit : Room := { frames := 1, cells := 0, slots := 0, locals := 22 }
theorem kX4_fit : KV yX4_fit cX4_fit 1 (some .int) 0 := ⟨wq_507, wq_30, wq_505, wq_506, by decide +kernel⟩
def P_X4_fit (fo : Int32) (pln : Int32) (ptk : Nat → Int32) (post : Int32 → Prop) : Prop :=
  P_X5_wordCount pln ptk (fun r1 => P_X5_gapCount pln ptk (fun r2 => post (((r1 * (9 : Int32)) + (8 : Int32)) - r2)))
set_option maxHeartbeats 4000000 in
set_option maxRecDepth 100000 in
theorem c_X4_fit (l : Launch) (D : va_G) (cI cS cT : ClassId) (ad : Nat → Nat) (b0 : Nat) (fo : Int32) (pln : Int32) (ptk : Nat → Int32) (post : Int32 → Prop) (h : P_X4_fit fo pln ptk post) : MI l D (TY cI cS cT) yX4_fit cX4_fit 1 (some .int) rm_X4_fit [.ref (ad b0)] (Wd_X4_fit cI cS cT ad b0 fo pln ptk) (fun (r : Int32) w => w = (Wd_X4_fit cI cS cT ad b0 fo pln ptk) ∧ post r) := by
  refine MI.of (by decide) (Nat.le_of_ble_eq_true rfl) (fun E hC hR hn => ?_)
  replace hC : Cx l D (TY cI cS cT) E rm_X4_fit cX4_fit RX4 := hC
  replace hR : RetI D E (fun (r : Int32) w => w = (Wd_X4_fit cI cS cT ad b0 fo pln ptk) ∧ post r) 0 0 (some .int) := hR
  unfold P_X4_fit at h
  change G l D E 0 0 _ [(0, .ref (ad b0))] 0 []
  refine g_aload_n 0 0 hC dX4_fit_0 rfl ?_
  refine g_get 1 0 0 hC inlX4 wq_82 dX4_fit_1 rfl rfl (by decide) rfl ?_
  refine g_cVNi (As := []) (rest := []) 4 1 [1, 2] hC (c_X5_wordCount l D cI cS cT ad (b0 + 1) pln ptk _ h) kX5_wordCount nq_487 dX4_fit_4 rfl rfl ⟨Nat.le_of_ble_eq_true rfl, Nat.le_of_ble_eq_true rfl⟩ rfl rfl (Nat.zero_le _) (Nat.zero_le _) rfl rfl rfl (Nat.le_of_ble_eq_true rfl) ?_
  rintro r1 _ ⟨rfl, h⟩
  refine ⟨Nat.le_of_ble_eq_true rfl, G.upd [0] (Wd_X4_fit cI cS cT ad b0 fo pln ptk) rfl rfl rfl rfl rfl ?_⟩
  refine g_bipush (v := (9 : Int32)) 7 hC dX4_fit_7 (by decide) ?_
  refine g_imul 9 hC dX4_fit_9 ?_
  refine g_bipush (v := (8 : Int32)) 10 hC dX4_fit_10 (by decide) ?_
  refine g_iadd 12 hC dX4_fit_12 ?_
  refine g_aload_n 13 0 hC dX4_fit_13 rfl ?_
  refine g_get 14 0 0 hC inlX4 wq_82 dX4_fit_14 rfl rfl (by decide) rfl ?_
  refine g_cVNi (As := []) (rest := [.int ((r1 * (9 : Int32)) + (8 : Int32))]) 17 1 [1, 2] hC (c_X5_gapCount l D cI cS cT ad (b0 + 1) pln ptk _ h) kX5_gapCount nq_488 dX4_fit_17 rfl rfl ⟨Nat.le_of_ble_eq_true rfl, Nat.le_of_ble_eq_true rfl⟩ rfl rfl (Nat.zero_le _) (Nat.zero_le _) rfl rfl rfl (Nat.le_of_ble_eq_true rfl) ?_
  rintro r2 _ ⟨rfl, h⟩
  refine ⟨Nat.le_of_ble_eq_true rfl, G.upd [0] (Wd_X4_fit cI cS cT ad b0 fo pln ptk) rfl rfl rfl rfl rfl ?_⟩
  refine g_isub 20 hC dX4_fit_20 ?_
  exact g_iret 21 hC hR dX4_fit_21 ⟨rfl, h⟩
