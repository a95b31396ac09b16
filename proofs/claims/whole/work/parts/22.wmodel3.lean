/-! written by wip/whole/gen/walk.py: worlds, predicates and contracts -/
/-! ===== ProverbCollectionModel.addPattern()I ===== -/
def Wd_X9_addPattern (cI cS cT : ClassId) (ad : Nat → Nat) (b0 : Nat) (mnow : Nat → Int32) (mbefore : Nat → Int32) (mundoMany : Int32) (mtokens : Int32) (mbuffer : Nat → Int32) (moneLong : Int32) (motherLong : Int32) (medits : Int32) (mgroups : Int32) : va_W := [(ad b0, .inr (9, [.ref (ad (b0 + 1)), .ref (ad (b0 + 2)), .int mundoMany, .int mtokens, .ref (ad (b0 + 3)), .ref (ad (b0 + 4)), .ref (ad (b0 + 5)), .int moneLong, .int motherLong, .ref (ad (b0 + 6)), .int medits, .ref (ad (b0 + 7)), .ref (ad (b0 + 8)), .ref (ad (b0 + 9)), .ref (ad (b0 + 10)), .int mgroups, .ref (ad (b0 + 11)), .ref (ad (b0 + 12))])), (ad (b0 + 1), .inl (cI, 193, .inl mnow)), (ad (b0 + 2), .inl (cI, 965, .inl mbefore)), (ad (b0 + 3), .inl (cI, 8, .inl mbuffer))]
def rm_X9_addPattern : Room := { frames := 1, cells := 0, slots := 0, locals := 21 }
theorem kX9_addPattern : KV yX9_addPattern cX9_addPattern 3 (some .int) 0 := ⟨wq_432, wq_5, wq_430, wq_431, by decide +kernel⟩
def B_X9_addPattern_67 (v1 : Int32) (mtokens : Int32) (mbuffer : Nat → Int32) (K : Int32 → (Nat → Int32) → Prop) (rc : Int32 → (Nat → Int32) → Prop) (v2 : Int32) (mnow : Nat → Int32) : Prop :=
  (mtokens ≤ v2 → K v2 mnow) ∧ (¬ mtokens ≤ v2 → (vp_in v2 8 ∧ (vp_in (((140 : Int32) + ((8 : Int32) * v1)) + v2) 193 ∧ (rc (v2 + (1 : Int32)) (upd mnow (Int32.toNatClampNeg (((140 : Int32) + ((8 : Int32) * v1)) + v2)) (mbuffer (Int32.toNatClampNeg v2)))))))
def P_X9_addPattern_67 (v1 : Int32) (mtokens : Int32) (mbuffer : Nat → Int32) (K : Int32 → (Nat → Int32) → Prop) : Nat → Int32 → (Nat → Int32) → Prop
  | 0 => fun _ _ => False
  | n + 1 => fun v2 mnow => B_X9_addPattern_67 v1 mtokens mbuffer K (P_X9_addPattern_67 v1 mtokens mbuffer K n) v2 mnow
def P_X9_addPattern (mnow : Nat → Int32) (mbefore : Nat → Int32) (mundoMany : Int32) (mtokens : Int32) (mbuffer : Nat → Int32) (moneLong : Int32) (motherLong : Int32) (medits : Int32) (mgroups : Int32) (post : Int32 → (Nat → Int32) → (Nat → Int32) → Int32 → Int32 → Prop) : Prop :=
  (¬ mtokens = 0 → ((¬ (mnow (Int32.toNatClampNeg (133 : Int32))) = (6 : Int32) → (P_X9_keeps mnow mbefore mundoMany mtokens moneLong motherLong medits mgroups (fun u1 u2 => vp_in ((134 : Int32) + (mnow (Int32.toNatClampNeg (133 : Int32)))) 193 ∧ (∃ n : Nat, P_X9_addPattern_67 (mnow (Int32.toNatClampNeg (133 : Int32))) mtokens mbuffer (fun w2_4 mnow_4 => post (mnow (Int32.toNatClampNeg (133 : Int32))) mnow_4 u1 u2 (0 : Int32)) n (0 : Int32) (upd (upd mnow (Int32.toNatClampNeg (133 : Int32)) ((mnow (Int32.toNatClampNeg (133 : Int32))) + (1 : Int32))) (Int32.toNatClampNeg ((134 : Int32) + (mnow (Int32.toNatClampNeg (133 : Int32))))) mtokens))))) ∧ ((mnow (Int32.toNatClampNeg (133 : Int32))) = (6 : Int32) → post (-3 : Int32) mnow mbefore mundoMany mtokens))) ∧ (mtokens = 0 → post (-2 : Int32) mnow mbefore mundoMany mtokens)
set_option maxHeartbeats 4000000 in
set_option maxRecDepth 100000 in
theorem L_X9_addPattern_67 {l : Launch} {D : va_G} {cI cS cT : ClassId} {ad : Nat → Nat} {b0 : Nat} {E : CE} {v1 : Int32} {mbefore : Nat → Int32} {mundoMany : Int32} {mtokens : Int32} {mbuffer : Nat → Int32} {moneLong : Int32} {motherLong : Int32} {medits : Int32} {mgroups : Int32} {post : Int32 → (Nat → Int32) → (Nat → Int32) → Int32 → Int32 → Prop} (hC : Cx l D (TY cI cS cT) E rm_X9_addPattern cX9_addPattern RX9) (hR : RetI D E (fun (r : Int32) w => ∃ (u_mnow : Nat → Int32) (u_mbefore : Nat → Int32) (u_mundoMany : Int32) (u_mtokens : Int32), w = (Wd_X9_addPattern cI cS cT ad b0 u_mnow u_mbefore u_mundoMany u_mtokens mbuffer moneLong motherLong medits mgroups) ∧ post r u_mnow u_mbefore u_mundoMany u_mtokens) 0 0 (some .int)) (hn : E.nL = 3) (K : Int32 → (Nat → Int32) → Prop) (hK : ∀ (v2 : Int32) (mnow : Nat → Int32), K v2 mnow → G l D E 0 0 (Wd_X9_addPattern cI cS cT ad b0 mnow mbefore mundoMany mtokens mbuffer moneLong motherLong medits mgroups) [(2, .int v2), (1, .int v1), (0, .ref (ad b0))] 102 []) : ∀ (n : Nat) (v2 : Int32) (mnow : Nat → Int32), P_X9_addPattern_67 v1 mtokens mbuffer K n v2 mnow → G l D E 0 0 (Wd_X9_addPattern cI cS cT ad b0 mnow mbefore mundoMany mtokens mbuffer moneLong motherLong medits mgroups) [(2, .int v2), (1, .int v1), (0, .ref (ad b0))] 67 [] := by
  intro n
  induction n with
  | zero => exact fun _ _ h => h.elim
  | succ n ih =>
    intro v2 mnow h
    replace h : B_X9_addPattern_67 v1 mtokens mbuffer K (P_X9_addPattern_67 v1 mtokens mbuffer K n) v2 mnow := h
    unfold B_X9_addPattern_67 at h
    refine g_iload_n 67 0 hC dX9_addPattern_67 rfl ?_
    refine g_aload_n 68 2 hC dX9_addPattern_68 rfl ?_
    refine g_get 69 0 3 hC inlX9 wq_129 dX9_addPattern_69 rfl rfl (by decide) rfl ?_
    refine g_icmp_ge 72 102 hC dX9_addPattern_72 (by decide) (fun hc => ?_) (fun hc => ?_)
    · replace h := h.1 hc
      refine G.sub [0, 1, 2] rfl ?_
      exact hK v2 mnow h
    · replace h := h.2 hc
      refine g_aload_n 75 2 hC dX9_addPattern_75 rfl ?_
      refine g_get 76 0 0 hC inlX9 wq_104 dX9_addPattern_76 rfl rfl (by decide) rfl ?_
      refine g_sipush (v := (140 : Int32)) 79 hC dX9_addPattern_79 (by decide) ?_
      refine g_bipush (v := (8 : Int32)) 82 hC dX9_addPattern_82 (by decide) ?_
      refine g_iload_n 84 1 hC dX9_addPattern_84 rfl ?_
      refine g_imul 85 hC dX9_addPattern_85 ?_
      refine g_iadd 86 hC dX9_addPattern_86 ?_
      refine g_iload_n 87 0 hC dX9_addPattern_87 rfl ?_
      refine g_iadd 88 hC dX9_addPattern_88 ?_
      refine g_aload_n 89 2 hC dX9_addPattern_89 rfl ?_
      refine g_get 90 0 4 hC inlX9 wq_106 dX9_addPattern_90 rfl rfl (by decide) rfl ?_
      refine g_iload_n 93 0 hC dX9_addPattern_93 rfl ?_
      obtain ⟨hj, h⟩ := h
      refine g_iald 94 3 hC dX9_addPattern_94 rfl rfl hj ?_
      obtain ⟨hj, h⟩ := h
      refine g_iast 95 1 (Wd_X9_addPattern cI cS cT ad b0 (upd mnow (Int32.toNatClampNeg (((140 : Int32) + ((8 : Int32) * v1)) + v2)) (mbuffer (Int32.toNatClampNeg v2))) mbefore mundoMany mtokens mbuffer moneLong motherLong medits mgroups) hC dX9_addPattern_95 rfl rfl hj rfl ?_
      refine g_iinc (v := (1 : Int32)) 96 0 [(2, .int (v2 + (1 : Int32))), (1, .int v1), (0, .ref (ad b0))] hC dX9_addPattern_96 rfl (by decide) (by rw [hn]; decide) rfl ?_
      refine g_goto 99 67 hC dX9_addPattern_99 (by decide) ?_
      refine G.sub [0, 1, 2] rfl ?_
      exact ih _ _ h
set_option maxHeartbeats 4000000 in
set_option maxRecDepth 100000 in
theorem c_X9_addPattern (l : Launch) (D : va_G) (cI cS cT : ClassId) (ad : Nat → Nat) (b0 : Nat) (mnow : Nat → Int32) (mbefore : Nat → Int32) (mundoMany : Int32) (mtokens : Int32) (mbuffer : Nat → Int32) (moneLong : Int32) (motherLong : Int32) (medits : Int32) (mgroups : Int32) (post : Int32 → (Nat → Int32) → (Nat → Int32) → Int32 → Int32 → Prop) (h : P_X9_addPattern mnow mbefore mundoMany mtokens mbuffer moneLong motherLong medits mgroups post) : MI l D (TY cI cS cT) yX9_addPattern cX9_addPattern 3 (some .int) rm_X9_addPattern [.ref (ad b0)] (Wd_X9_addPattern cI cS cT ad b0 mnow mbefore mundoMany mtokens mbuffer moneLong motherLong medits mgroups) (fun (r : Int32) w => ∃ (u_mnow : Nat → Int32) (u_mbefore : Nat → Int32) (u_mundoMany : Int32) (u_mtokens : Int32), w = (Wd_X9_addPattern cI cS cT ad b0 u_mnow u_mbefore u_mundoMany u_mtokens mbuffer moneLong motherLong medits mgroups) ∧ post r u_mnow u_mbefore u_mundoMany u_mtokens) := by
  refine MI.of (by decide) (Nat.le_of_ble_eq_true rfl) (fun E hC hR hn => ?_)
  replace hC : Cx l D (TY cI cS cT) E rm_X9_addPattern cX9_addPattern RX9 := hC
  replace hR : RetI D E (fun (r : Int32) w => ∃ (u_mnow : Nat → Int32) (u_mbefore : Nat → Int32) (u_mundoMany : Int32) (u_mtokens : Int32), w = (Wd_X9_addPattern cI cS cT ad b0 u_mnow u_mbefore u_mundoMany u_mtokens mbuffer moneLong motherLong medits mgroups) ∧ post r u_mnow u_mbefore u_mundoMany u_mtokens) 0 0 (some .int) := hR
  unfold P_X9_addPattern at h
  change G l D E 0 0 _ [(0, .ref (ad b0))] 0 []
  refine g_aload_n 0 0 hC dX9_addPattern_0 rfl ?_
  refine g_get 1 0 3 hC inlX9 wq_129 dX9_addPattern_1 rfl rfl (by decide) rfl ?_
  refine g_if_ne 4 10 hC dX9_addPattern_4 (by decide) (fun hc => ?_) (fun hc => ?_)
  · replace h := h.1 hc
    refine g_aload_n 10 0 hC dX9_addPattern_10 rfl ?_
    refine g_get 11 0 0 hC inlX9 wq_104 dX9_addPattern_11 rfl rfl (by decide) rfl ?_
    refine g_sipush (v := (133 : Int32)) 14 hC dX9_addPattern_14 (by decide) ?_
    refine g_iald 17 1 hC dX9_addPattern_17 rfl rfl (by unfold vp_in; decide) ?_
    refine g_bipush (v := (6 : Int32)) 18 hC dX9_addPattern_18 (by decide) ?_
    refine g_icmp_ne 20 26 hC dX9_addPattern_20 (by decide) (fun hc => ?_) (fun hc => ?_)
    · replace h := h.1 hc
      refine g_aload_n 26 0 hC dX9_addPattern_26 rfl ?_
      refine g_cVv (As := []) (rest := []) 27 0 [0, 1, 2] hC (c_X9_keeps l D cI cS cT ad b0 mnow mbefore mundoMany mtokens moneLong motherLong medits mgroups _ h) kX9_keeps wq_193 dX9_addPattern_27 rfl rfl ⟨Nat.le_of_ble_eq_true rfl, Nat.le_of_ble_eq_true rfl⟩ rfl rfl (Nat.zero_le _) (Nat.zero_le _) rfl rfl rfl (Nat.le_of_ble_eq_true rfl) ?_
      rintro _ ⟨u1, u2, rfl, h⟩
      refine ⟨Nat.le_of_ble_eq_true rfl, G.upd [3] (Wd_X9_addPattern cI cS cT ad b0 mnow u1 u2 mtokens mbuffer moneLong motherLong medits mgroups) rfl rfl rfl rfl rfl ?_⟩
      refine g_aload_n 30 0 hC dX9_addPattern_30 rfl ?_
      refine g_get 31 0 0 hC inlX9 wq_104 dX9_addPattern_31 rfl rfl (by decide) rfl ?_
      refine g_sipush (v := (133 : Int32)) 34 hC dX9_addPattern_34 (by decide) ?_
      refine g_iald 37 1 hC dX9_addPattern_37 rfl rfl (by unfold vp_in; decide) ?_
      refine g_istore_n 38 [(1, .int (mnow (Int32.toNatClampNeg (133 : Int32)))), (0, .ref (ad b0))] hC dX9_addPattern_38 (by rw [hn]; decide) rfl ?_
      refine g_aload_n 39 1 hC dX9_addPattern_39 rfl ?_
      refine g_get 40 0 0 hC inlX9 wq_104 dX9_addPattern_40 rfl rfl (by decide) rfl ?_
      refine g_sipush (v := (133 : Int32)) 43 hC dX9_addPattern_43 (by decide) ?_
      refine g_dup2 46 hC dX9_addPattern_46 rfl rfl ?_
      refine g_iald 47 1 hC dX9_addPattern_47 rfl rfl (by unfold vp_in; decide) ?_
      refine g_iconst (v := (1 : Int32)) 48 hC dX9_addPattern_48 (by decide) ?_
      refine g_iadd 49 hC dX9_addPattern_49 ?_
      refine g_iast 50 1 (Wd_X9_addPattern cI cS cT ad b0 (upd mnow (Int32.toNatClampNeg (133 : Int32)) ((mnow (Int32.toNatClampNeg (133 : Int32))) + (1 : Int32))) u1 u2 mtokens mbuffer moneLong motherLong medits mgroups) hC dX9_addPattern_50 rfl rfl (by unfold vp_in; decide) rfl ?_
      refine g_aload_n 51 1 hC dX9_addPattern_51 rfl ?_
      refine g_get 52 0 0 hC inlX9 wq_104 dX9_addPattern_52 rfl rfl (by decide) rfl ?_
      refine g_sipush (v := (134 : Int32)) 55 hC dX9_addPattern_55 (by decide) ?_
      refine g_iload_n 58 0 hC dX9_addPattern_58 rfl ?_
      refine g_iadd 59 hC dX9_addPattern_59 ?_
      refine g_aload_n 60 1 hC dX9_addPattern_60 rfl ?_
      refine g_get 61 0 3 hC inlX9 wq_129 dX9_addPattern_61 rfl rfl (by decide) rfl ?_
      obtain ⟨hj, h⟩ := h
      refine g_iast 64 1 (Wd_X9_addPattern cI cS cT ad b0 (upd (upd mnow (Int32.toNatClampNeg (133 : Int32)) ((mnow (Int32.toNatClampNeg (133 : Int32))) + (1 : Int32))) (Int32.toNatClampNeg ((134 : Int32) + (mnow (Int32.toNatClampNeg (133 : Int32))))) mtokens) u1 u2 mtokens mbuffer moneLong motherLong medits mgroups) hC dX9_addPattern_64 rfl rfl hj rfl ?_
      refine g_iconst (v := (0 : Int32)) 65 hC dX9_addPattern_65 (by decide) ?_
      refine g_istore_n 66 [(2, .int (0 : Int32)), (1, .int (mnow (Int32.toNatClampNeg (133 : Int32)))), (0, .ref (ad b0))] hC dX9_addPattern_66 (by rw [hn]; decide) rfl ?_
      obtain ⟨n, h⟩ := h
      refine L_X9_addPattern_67 hC hR hn _ (fun w2_4 mnow_4 h => ?_) n _ _ h
      refine g_aload_n 102 2 hC dX9_addPattern_102 rfl ?_
      refine g_iconst (v := (0 : Int32)) 103 hC dX9_addPattern_103 (by decide) ?_
      refine g_put 104 0 3 (Wd_X9_addPattern cI cS cT ad b0 mnow_4 u1 u2 (0 : Int32) mbuffer moneLong motherLong medits mgroups) hC inlX9 tyX9_ok nmX9 wq_129 dX9_addPattern_104 rfl rfl (by decide) rfl rfl (Nat.le_of_ble_eq_true rfl) rfl ?_
      refine g_iload_n 107 1 hC dX9_addPattern_107 rfl ?_
      exact g_iret 108 hC hR dX9_addPattern_108 ⟨mnow_4, u1, u2, (0 : Int32), rfl, h⟩
    · replace h := h.2 hc
      refine g_bipush (v := (-3 : Int32)) 23 hC dX9_addPattern_23 (by decide) ?_
      exact g_iret 25 hC hR dX9_addPattern_25 ⟨mnow, mbefore, mundoMany, mtokens, rfl, h⟩
  · replace h := h.2 hc
    refine g_bipush (v := (-2 : Int32)) 7 hC dX9_addPattern_7 (by decide) ?_
    exact g_iret 9 hC hR dX9_addPattern_9 ⟨mnow, mbefore, mundoMany, mtokens, rfl, h⟩

/-! ===== ProverbCollectionModel.removePattern(I)I ===== -/
def Wd_X9_removePattern (cI cS cT : ClassId) (ad : Nat → Nat) (b0 : Nat) (mnow : Nat → Int32) (mbefore : Nat → Int32) (mundoMany : Int32) (mtokens : Int32) (moneLong : Int32) (motherLong : Int32) (medits : Int32) (mgroups : Int32) : va_W := [(ad b0, .inr (9, [.ref (ad (b0 + 1)), .ref (ad (b0 + 2)), .int mundoMany, .int mtokens, .ref (ad (b0 + 3)), .ref (ad (b0 + 4)), .ref (ad (b0 + 5)), .int moneLong, .int motherLong, .ref (ad (b0 + 6)), .int medits, .ref (ad (b0 + 7)), .ref (ad (b0 + 8)), .ref (ad (b0 + 9)), .ref (ad (b0 + 10)), .int mgroups, .ref (ad (b0 + 11)), .ref (ad (b0 + 12))])), (ad (b0 + 1), .inl (cI, 193, .inl mnow)), (ad (b0 + 2), .inl (cI, 965, .inl mbefore))]
def rm_X9_removePattern : Room := { frames := 2, cells := 0, slots := 0, locals := 46 }
theorem kX9_removePattern : KV yX9_removePattern cX9_removePattern 4 (some .int) 1 := ⟨wq_440, wq_5, wq_438, wq_439, by decide +kernel⟩
def B_X9_removePattern_64 (v2 : Int32) (K : Int32 → (Nat → Int32) → Prop) (rc : Int32 → (Nat → Int32) → Prop) (v3 : Int32) (mnow : Nat → Int32) : Prop :=
  ((8 : Int32) ≤ v3 → K v3 mnow) ∧ (¬ (8 : Int32) ≤ v3 → (vp_in ((((140 : Int32) + ((8 : Int32) * v2)) + (8 : Int32)) + v3) 193 ∧ (vp_in (((140 : Int32) + ((8 : Int32) * v2)) + v3) 193 ∧ (rc (v3 + (1 : Int32)) (upd mnow (Int32.toNatClampNeg (((140 : Int32) + ((8 : Int32) * v2)) + v3)) (mnow (Int32.toNatClampNeg ((((140 : Int32) + ((8 : Int32) * v2)) + (8 : Int32)) + v3))))))))
def P_X9_removePattern_64 (v2 : Int32) (K : Int32 → (Nat → Int32) → Prop) : Nat → Int32 → (Nat → Int32) → Prop
  | 0 => fun _ _ => False
  | n + 1 => fun v3 mnow => B_X9_removePattern_64 v2 K (P_X9_removePattern_64 v2 K n) v3 mnow
def B_X9_removePattern_28 (K : Int32 → (Nat → Int32) → Prop) (rc : Int32 → (Nat → Int32) → Prop) (v2 : Int32) (mnow : Nat → Int32) : Prop :=
  ((mnow (Int32.toNatClampNeg (133 : Int32))) ≤ v2 → K v2 mnow) ∧ (¬ (mnow (Int32.toNatClampNeg (133 : Int32))) ≤ v2 → (vp_in (((134 : Int32) + v2) + (1 : Int32)) 193 ∧ (vp_in ((134 : Int32) + v2) 193 ∧ (∃ n : Nat, P_X9_removePattern_64 v2 (fun w3_5 mnow_5 => rc (v2 + (1 : Int32)) mnow_5) n (0 : Int32) (upd mnow (Int32.toNatClampNeg ((134 : Int32) + v2)) (mnow (Int32.toNatClampNeg (((134 : Int32) + v2) + (1 : Int32)))))))))
def P_X9_removePattern_28 (K : Int32 → (Nat → Int32) → Prop) : Nat → Int32 → (Nat → Int32) → Prop
  | 0 => fun _ _ => False
  | n + 1 => fun v2 mnow => B_X9_removePattern_28 K (P_X9_removePattern_28 K n) v2 mnow
def P_X9_removePattern (x1 : Int32) (mnow : Nat → Int32) (mbefore : Nat → Int32) (mundoMany : Int32) (mtokens : Int32) (moneLong : Int32) (motherLong : Int32) (medits : Int32) (mgroups : Int32) (post : Int32 → (Nat → Int32) → (Nat → Int32) → Int32 → Prop) : Prop :=
  P_X9_isPattern x1 mnow mundoMany mtokens moneLong motherLong medits mgroups (fun r1 => (¬ r1 = 0 → P_X9_keeps mnow mbefore mundoMany mtokens moneLong motherLong medits mgroups (fun u2 u3 => ∃ n : Nat, P_X9_removePattern_28 (fun w2_6 mnow_6 => post (mnow_6 (Int32.toNatClampNeg (133 : Int32))) mnow_6 u2 u3) n x1 (upd mnow (Int32.toNatClampNeg (133 : Int32)) ((mnow (Int32.toNatClampNeg (133 : Int32))) - (1 : Int32))))) ∧ (r1 = 0 → post (-1 : Int32) mnow mbefore mundoMany))
set_option maxHeartbeats 4000000 in
set_option maxRecDepth 100000 in
theorem L_X9_removePattern_64 {l : Launch} {D : va_G} {cI cS cT : ClassId} {ad : Nat → Nat} {b0 : Nat} {E : CE} {v2 : Int32} {v1 : Int32} {mbefore : Nat → Int32} {mundoMany : Int32} {mtokens : Int32} {moneLong : Int32} {motherLong : Int32} {medits : Int32} {mgroups : Int32} {post : Int32 → (Nat → Int32) → (Nat → Int32) → Int32 → Prop} (hC : Cx l D (TY cI cS cT) E rm_X9_removePattern cX9_removePattern RX9) (hR : RetI D E (fun (r : Int32) w => ∃ (u_mnow : Nat → Int32) (u_mbefore : Nat → Int32) (u_mundoMany : Int32), w = (Wd_X9_removePattern cI cS cT ad b0 u_mnow u_mbefore u_mundoMany mtokens moneLong motherLong medits mgroups) ∧ post r u_mnow u_mbefore u_mundoMany) 0 0 (some .int)) (hn : E.nL = 4) (K : Int32 → (Nat → Int32) → Prop) (hK : ∀ (v3 : Int32) (mnow : Nat → Int32), K v3 mnow → G l D E 0 0 (Wd_X9_removePattern cI cS cT ad b0 mnow mbefore mundoMany mtokens moneLong motherLong medits mgroups) [(3, .int v3), (2, .int v2), (0, .ref (ad b0)), (1, .int v1)] 109 []) : ∀ (n : Nat) (v3 : Int32) (mnow : Nat → Int32), P_X9_removePattern_64 v2 K n v3 mnow → G l D E 0 0 (Wd_X9_removePattern cI cS cT ad b0 mnow mbefore mundoMany mtokens moneLong motherLong medits mgroups) [(3, .int v3), (2, .int v2), (0, .ref (ad b0)), (1, .int v1)] 64 [] := by
  intro n
  induction n with
  | zero => exact fun _ _ h => h.elim
  | succ n ih =>
    intro v3 mnow h
    replace h : B_X9_removePattern_64 v2 K (P_X9_removePattern_64 v2 K n) v3 mnow := h
    unfold B_X9_removePattern_64 at h
    refine g_iload_n 64 0 hC dX9_removePattern_64 rfl ?_
    refine g_bipush (v := (8 : Int32)) 65 hC dX9_removePattern_65 (by decide) ?_
    refine g_icmp_ge 67 109 hC dX9_removePattern_67 (by decide) (fun hc => ?_) (fun hc => ?_)
    · replace h := h.1 hc
      refine G.sub [0, 1, 2, 3] rfl ?_
      exact hK v3 mnow h
    · replace h := h.2 hc
      refine g_aload_n 70 2 hC dX9_removePattern_70 rfl ?_
      refine g_get 71 0 0 hC inlX9 wq_104 dX9_removePattern_71 rfl rfl (by decide) rfl ?_
      refine g_sipush (v := (140 : Int32)) 74 hC dX9_removePattern_74 (by decide) ?_
      refine g_bipush (v := (8 : Int32)) 77 hC dX9_removePattern_77 (by decide) ?_
      refine g_iload_n 79 1 hC dX9_removePattern_79 rfl ?_
      refine g_imul 80 hC dX9_removePattern_80 ?_
      refine g_iadd 81 hC dX9_removePattern_81 ?_
      refine g_iload_n 82 0 hC dX9_removePattern_82 rfl ?_
      refine g_iadd 83 hC dX9_removePattern_83 ?_
      refine g_aload_n 84 2 hC dX9_removePattern_84 rfl ?_
      refine g_get 85 0 0 hC inlX9 wq_104 dX9_removePattern_85 rfl rfl (by decide) rfl ?_
      refine g_sipush (v := (140 : Int32)) 88 hC dX9_removePattern_88 (by decide) ?_
      refine g_bipush (v := (8 : Int32)) 91 hC dX9_removePattern_91 (by decide) ?_
      refine g_iload_n 93 1 hC dX9_removePattern_93 rfl ?_
      refine g_imul 94 hC dX9_removePattern_94 ?_
      refine g_iadd 95 hC dX9_removePattern_95 ?_
      refine g_bipush (v := (8 : Int32)) 96 hC dX9_removePattern_96 (by decide) ?_
      refine g_iadd 98 hC dX9_removePattern_98 ?_
      refine g_iload_n 99 0 hC dX9_removePattern_99 rfl ?_
      refine g_iadd 100 hC dX9_removePattern_100 ?_
      obtain ⟨hj, h⟩ := h
      refine g_iald 101 1 hC dX9_removePattern_101 rfl rfl hj ?_
      obtain ⟨hj, h⟩ := h
      refine g_iast 102 1 (Wd_X9_removePattern cI cS cT ad b0 (upd mnow (Int32.toNatClampNeg (((140 : Int32) + ((8 : Int32) * v2)) + v3)) (mnow (Int32.toNatClampNeg ((((140 : Int32) + ((8 : Int32) * v2)) + (8 : Int32)) + v3)))) mbefore mundoMany mtokens moneLong motherLong medits mgroups) hC dX9_removePattern_102 rfl rfl hj rfl ?_
      refine g_iinc (v := (1 : Int32)) 103 0 [(3, .int (v3 + (1 : Int32))), (2, .int v2), (0, .ref (ad b0)), (1, .int v1)] hC dX9_removePattern_103 rfl (by decide) (by rw [hn]; decide) rfl ?_
      refine g_goto 106 64 hC dX9_removePattern_106 (by decide) ?_
      refine G.sub [0, 1, 2, 3] rfl ?_
      exact ih _ _ h
set_option maxHeartbeats 4000000 in
set_option maxRecDepth 100000 in
theorem L_X9_removePattern_28 {l : Launch} {D : va_G} {cI cS cT : ClassId} {ad : Nat → Nat} {b0 : Nat} {E : CE} {v1 : Int32} {mbefore : Nat → Int32} {mundoMany : Int32} {mtokens : Int32} {moneLong : Int32} {motherLong : Int32} {medits : Int32} {mgroups : Int32} {post : Int32 → (Nat → Int32) → (Nat → Int32) → Int32 → Prop} (hC : Cx l D (TY cI cS cT) E rm_X9_removePattern cX9_removePattern RX9) (hR : RetI D E (fun (r : Int32) w => ∃ (u_mnow : Nat → Int32) (u_mbefore : Nat → Int32) (u_mundoMany : Int32), w = (Wd_X9_removePattern cI cS cT ad b0 u_mnow u_mbefore u_mundoMany mtokens moneLong motherLong medits mgroups) ∧ post r u_mnow u_mbefore u_mundoMany) 0 0 (some .int)) (hn : E.nL = 4) (K : Int32 → (Nat → Int32) → Prop) (hK : ∀ (v2 : Int32) (mnow : Nat → Int32), K v2 mnow → G l D E 0 0 (Wd_X9_removePattern cI cS cT ad b0 mnow mbefore mundoMany mtokens moneLong motherLong medits mgroups) [(2, .int v2), (0, .ref (ad b0)), (1, .int v1)] 115 []) : ∀ (n : Nat) (v2 : Int32) (mnow : Nat → Int32), P_X9_removePattern_28 K n v2 mnow → G l D E 0 0 (Wd_X9_removePattern cI cS cT ad b0 mnow mbefore mundoMany mtokens moneLong motherLong medits mgroups) [(2, .int v2), (0, .ref (ad b0)), (1, .int v1)] 28 [] := by
  intro n
  induction n with
  | zero => exact fun _ _ h => h.elim
  | succ n ih =>
    intro v2 mnow h
    replace h : B_X9_removePattern_28 K (P_X9_removePattern_28 K n) v2 mnow := h
    unfold B_X9_removePattern_28 at h
    refine g_iload_n 28 0 hC dX9_removePattern_28 rfl ?_
    refine g_aload_n 29 1 hC dX9_removePattern_29 rfl ?_
    refine g_get 30 0 0 hC inlX9 wq_104 dX9_removePattern_30 rfl rfl (by decide) rfl ?_
    refine g_sipush (v := (133 : Int32)) 33 hC dX9_removePattern_33 (by decide) ?_
    refine g_iald 36 1 hC dX9_removePattern_36 rfl rfl (by unfold vp_in; decide) ?_
    refine g_icmp_ge 37 115 hC dX9_removePattern_37 (by decide) (fun hc => ?_) (fun hc => ?_)
    · replace h := h.1 hc
      refine G.sub [0, 1, 2] rfl ?_
      exact hK v2 mnow h
    · replace h := h.2 hc
      refine g_aload_n 40 1 hC dX9_removePattern_40 rfl ?_
      refine g_get 41 0 0 hC inlX9 wq_104 dX9_removePattern_41 rfl rfl (by decide) rfl ?_
      refine g_sipush (v := (134 : Int32)) 44 hC dX9_removePattern_44 (by decide) ?_
      refine g_iload_n 47 0 hC dX9_removePattern_47 rfl ?_
      refine g_iadd 48 hC dX9_removePattern_48 ?_
      refine g_aload_n 49 1 hC dX9_removePattern_49 rfl ?_
      refine g_get 50 0 0 hC inlX9 wq_104 dX9_removePattern_50 rfl rfl (by decide) rfl ?_
      refine g_sipush (v := (134 : Int32)) 53 hC dX9_removePattern_53 (by decide) ?_
      refine g_iload_n 56 0 hC dX9_removePattern_56 rfl ?_
      refine g_iadd 57 hC dX9_removePattern_57 ?_
      refine g_iconst (v := (1 : Int32)) 58 hC dX9_removePattern_58 (by decide) ?_
      refine g_iadd 59 hC dX9_removePattern_59 ?_
      obtain ⟨hj, h⟩ := h
      refine g_iald 60 1 hC dX9_removePattern_60 rfl rfl hj ?_
      obtain ⟨hj, h⟩ := h
      refine g_iast 61 1 (Wd_X9_removePattern cI cS cT ad b0 (upd mnow (Int32.toNatClampNeg ((134 : Int32) + v2)) (mnow (Int32.toNatClampNeg (((134 : Int32) + v2) + (1 : Int32))))) mbefore mundoMany mtokens moneLong motherLong medits mgroups) hC dX9_removePattern_61 rfl rfl hj rfl ?_
      refine g_iconst (v := (0 : Int32)) 62 hC dX9_removePattern_62 (by decide) ?_
      refine g_istore_n 63 [(3, .int (0 : Int32)), (2, .int v2), (0, .ref (ad b0)), (1, .int v1)] hC dX9_removePattern_63 (by rw [hn]; decide) rfl ?_
      obtain ⟨n, h⟩ := h
      refine L_X9_removePattern_64 hC hR hn _ (fun w3_5 mnow_5 h => ?_) n _ _ h
      refine g_iinc (v := (1 : Int32)) 109 1 [(2, .int (v2 + (1 : Int32))), (3, .int w3_5), (0, .ref (ad b0)), (1, .int v1)] hC dX9_removePattern_109 rfl (by decide) (by rw [hn]; decide) rfl ?_
      refine g_goto 112 28 hC dX9_removePattern_112 (by decide) ?_
      refine G.sub [0, 2, 3] rfl ?_
      exact ih _ _ h
set_option maxHeartbeats 4000000 in
set_option maxRecDepth 100000 in
theorem c_X9_removePattern (l : Launch) (D : va_G) (cI cS cT : ClassId) (ad : Nat → Nat) (b0 : Nat) (x1 : Int32) (mnow : Nat → Int32) (mbefore : Nat → Int32) (mundoMany : Int32) (mtokens : Int32) (moneLong : Int32) (motherLong : Int32) (medits : Int32) (mgroups : Int32) (post : Int32 → (Nat → Int32) → (Nat → Int32) → Int32 → Prop) (h : P_X9_removePattern x1 mnow mbefore mundoMany mtokens moneLong motherLong medits mgroups post) : MI l D (TY cI cS cT) yX9_removePattern cX9_removePattern 4 (some .int) rm_X9_removePattern [.ref (ad b0), .int x1] (Wd_X9_removePattern cI cS cT ad b0 mnow mbefore mundoMany mtokens moneLong motherLong medits mgroups) (fun (r : Int32) w => ∃ (u_mnow : Nat → Int32) (u_mbefore : Nat → Int32) (u_mundoMany : Int32), w = (Wd_X9_removePattern cI cS cT ad b0 u_mnow u_mbefore u_mundoMany mtokens moneLong motherLong medits mgroups) ∧ post r u_mnow u_mbefore u_mundoMany) := by
  refine MI.of (by decide) (Nat.le_of_ble_eq_true rfl) (fun E hC hR hn => ?_)
  replace hC : Cx l D (TY cI cS cT) E rm_X9_removePattern cX9_removePattern RX9 := hC
  replace hR : RetI D E (fun (r : Int32) w => ∃ (u_mnow : Nat → Int32) (u_mbefore : Nat → Int32) (u_mundoMany : Int32), w = (Wd_X9_removePattern cI cS cT ad b0 u_mnow u_mbefore u_mundoMany mtokens moneLong motherLong medits mgroups) ∧ post r u_mnow u_mbefore u_mundoMany) 0 0 (some .int) := hR
  unfold P_X9_removePattern at h
  change G l D E 0 0 _ [(0, .ref (ad b0)), (1, .int x1)] 0 []
  refine g_aload_n 0 0 hC dX9_removePattern_0 rfl ?_
  refine g_iload_n 1 1 hC dX9_removePattern_1 rfl ?_
  refine g_cVi (As := [.int x1]) (rest := []) 2 0 [0, 1] hC (c_X9_isPattern l D cI cS cT ad b0 x1 mnow mundoMany mtokens moneLong motherLong medits mgroups _ h) kX9_isPattern wq_441 dX9_removePattern_2 rfl rfl ⟨Nat.le_of_ble_eq_true rfl, Nat.le_of_ble_eq_true rfl⟩ rfl rfl (Nat.zero_le _) (Nat.zero_le _) rfl rfl rfl (Nat.le_of_ble_eq_true rfl) ?_
  rintro r1 _ ⟨rfl, h⟩
  refine ⟨Nat.le_of_ble_eq_true rfl, G.upd [2] (Wd_X9_removePattern cI cS cT ad b0 mnow mbefore mundoMany mtokens moneLong motherLong medits mgroups) rfl rfl rfl rfl rfl ?_⟩
  refine g_if_ne 5 10 hC dX9_removePattern_5 (by decide) (fun hc => ?_) (fun hc => ?_)
  · replace h := h.1 hc
    refine g_aload_n 10 0 hC dX9_removePattern_10 rfl ?_
    refine g_cVv (As := []) (rest := []) 11 0 [0, 1, 2] hC (c_X9_keeps l D cI cS cT ad b0 mnow mbefore mundoMany mtokens moneLong motherLong medits mgroups _ h) kX9_keeps wq_193 dX9_removePattern_11 rfl rfl ⟨Nat.le_of_ble_eq_true rfl, Nat.le_of_ble_eq_true rfl⟩ rfl rfl (Nat.zero_le _) (Nat.zero_le _) rfl rfl rfl (Nat.le_of_ble_eq_true rfl) ?_
    rintro _ ⟨u2, u3, rfl, h⟩
    refine ⟨Nat.le_of_ble_eq_true rfl, G.upd [] (Wd_X9_removePattern cI cS cT ad b0 mnow u2 u3 mtokens moneLong motherLong medits mgroups) rfl rfl rfl rfl rfl ?_⟩
    refine g_aload_n 14 0 hC dX9_removePattern_14 rfl ?_
    refine g_get 15 0 0 hC inlX9 wq_104 dX9_removePattern_15 rfl rfl (by decide) rfl ?_
    refine g_sipush (v := (133 : Int32)) 18 hC dX9_removePattern_18 (by decide) ?_
    refine g_dup2 21 hC dX9_removePattern_21 rfl rfl ?_
    refine g_iald 22 1 hC dX9_removePattern_22 rfl rfl (by unfold vp_in; decide) ?_
    refine g_iconst (v := (1 : Int32)) 23 hC dX9_removePattern_23 (by decide) ?_
    refine g_isub 24 hC dX9_removePattern_24 ?_
    refine g_iast 25 1 (Wd_X9_removePattern cI cS cT ad b0 (upd mnow (Int32.toNatClampNeg (133 : Int32)) ((mnow (Int32.toNatClampNeg (133 : Int32))) - (1 : Int32))) u2 u3 mtokens moneLong motherLong medits mgroups) hC dX9_removePattern_25 rfl rfl (by unfold vp_in; decide) rfl ?_
    refine g_iload_n 26 1 hC dX9_removePattern_26 rfl ?_
    refine g_istore_n 27 [(2, .int x1), (0, .ref (ad b0)), (1, .int x1)] hC dX9_removePattern_27 (by rw [hn]; decide) rfl ?_
    obtain ⟨n, h⟩ := h
    refine L_X9_removePattern_28 hC hR hn _ (fun w2_6 mnow_6 h => ?_) n _ _ h
    refine g_aload_n 115 1 hC dX9_removePattern_115 rfl ?_
    refine g_get 116 0 0 hC inlX9 wq_104 dX9_removePattern_116 rfl rfl (by decide) rfl ?_
    refine g_sipush (v := (133 : Int32)) 119 hC dX9_removePattern_119 (by decide) ?_
    refine g_iald 122 1 hC dX9_removePattern_122 rfl rfl (by unfold vp_in; decide) ?_
    exact g_iret 123 hC hR dX9_removePattern_123 ⟨mnow_6, u2, u3, rfl, h⟩
  · replace h := h.2 hc
    refine g_iconst (v := (-1 : Int32)) 8 hC dX9_removePattern_8 (by decide) ?_
    exact g_iret 9 hC hR dX9_removePattern_9 ⟨mnow, mbefore, mundoMany, rfl, h⟩

/-! ===== ProverbCollectionModel.tokensOf(III)I ===== -/
def Wd_X9_tokensOf (cI cS cT : ClassId) (ad : Nat → Nat) (b0 : Nat) (mnow : Nat → Int32) (mundoMany : Int32) (mtokens : Int32) (moneLong : Int32) (motherLong : Int32) (medits : Int32) (mgroups : Int32) : va_W := [(ad b0, .inr (9, [.ref (ad (b0 + 1)), .ref (ad (b0 + 2)), .int mundoMany, .int mtokens, .ref (ad (b0 + 3)), .ref (ad (b0 + 4)), .ref (ad (b0 + 5)), .int moneLong, .int motherLong, .ref (ad (b0 + 6)), .int medits, .ref (ad (b0 + 7)), .ref (ad (b0 + 8)), .ref (ad (b0 + 9)), .ref (ad (b0 + 10)), .int mgroups, .ref (ad (b0 + 11)), .ref (ad (b0 + 12))])), (ad (b0 + 1), .inl (cI, 193, .inl mnow))]
def rm_X9_tokensOf : Room := { frames := 1, cells := 0, slots := 0, locals := 25 }
theorem kX9_tokensOf : KV yX9_tokensOf cX9_tokensOf 6 (some .int) 3 := ⟨wq_476, wq_5, wq_474, wq_475, by decide +kernel⟩
def B_X9_tokensOf_6 (v1 : Int32) (v2 : Int32) (v3 : Int32) (mnow : Nat → Int32) (K : Int32 → Int32 → Prop) (rc : Int32 → Int32 → Prop) (v5 : Int32) (v4 : Int32) : Prop :=
  vp_in ((134 : Int32) + v1) 193 ∧ (((mnow (Int32.toNatClampNeg ((134 : Int32) + v1))) ≤ v5 → K v5 v4) ∧ (¬ (mnow (Int32.toNatClampNeg ((134 : Int32) + v1))) ≤ v5 → (vp_in (((140 : Int32) + ((8 : Int32) * v1)) + v5) 193 ∧ (P_X9_in (Int32.toInt64 (mnow (Int32.toNatClampNeg (((140 : Int32) + ((8 : Int32) * v1)) + v5)))) (Int32.toInt64 v2) (Int32.toInt64 v3) (fun r1 => (r1 = 0 → rc (v5 + (1 : Int32)) (v4 + (0 : Int32))) ∧ (¬ r1 = 0 → rc (v5 + (1 : Int32)) (v4 + (1 : Int32))))))))
def P_X9_tokensOf_6 (v1 : Int32) (v2 : Int32) (v3 : Int32) (mnow : Nat → Int32) (K : Int32 → Int32 → Prop) : Nat → Int32 → Int32 → Prop
  | 0 => fun _ _ => False
  | n + 1 => fun v5 v4 => B_X9_tokensOf_6 v1 v2 v3 mnow K (P_X9_tokensOf_6 v1 v2 v3 mnow K n) v5 v4
def P_X9_tokensOf (x1 : Int32) (x2 : Int32) (x3 : Int32) (mnow : Nat → Int32) (mundoMany : Int32) (mtokens : Int32) (moneLong : Int32) (motherLong : Int32) (medits : Int32) (mgroups : Int32) (post : Int32 → Prop) : Prop :=
  ∃ n : Nat, P_X9_tokensOf_6 x1 x2 x3 mnow (fun w5_2 w4_2 => post w4_2) n (0 : Int32) (0 : Int32)
set_option maxHeartbeats 4000000 in
set_option maxRecDepth 100000 in
theorem L_X9_tokensOf_6 {l : Launch} {D : va_G} {cI cS cT : ClassId} {ad : Nat → Nat} {b0 : Nat} {E : CE} {v1 : Int32} {v2 : Int32} {v3 : Int32} {mnow : Nat → Int32} {mundoMany : Int32} {mtokens : Int32} {moneLong : Int32} {motherLong : Int32} {medits : Int32} {mgroups : Int32} {post : Int32 → Prop} (hC : Cx l D (TY cI cS cT) E rm_X9_tokensOf cX9_tokensOf RX9) (hR : RetI D E (fun (r : Int32) w => w = (Wd_X9_tokensOf cI cS cT ad b0 mnow mundoMany mtokens moneLong motherLong medits mgroups) ∧ post r) 0 0 (some .int)) (hn : E.nL = 6) (K : Int32 → Int32 → Prop) (hK : ∀ (v5 : Int32) (v4 : Int32), K v5 v4 → G l D E 0 0 (Wd_X9_tokensOf cI cS cT ad b0 mnow mundoMany mtokens moneLong motherLong medits mgroups) [(5, .int v5), (4, .int v4), (0, .ref (ad b0)), (1, .int v1), (2, .int v2), (3, .int v3)] 64 []) : ∀ (n : Nat) (v5 : Int32) (v4 : Int32), P_X9_tokensOf_6 v1 v2 v3 mnow K n v5 v4 → G l D E 0 0 (Wd_X9_tokensOf cI cS cT ad b0 mnow mundoMany mtokens moneLong motherLong medits mgroups) [(5, .int v5), (4, .int v4), (0, .ref (ad b0)), (1, .int v1), (2, .int v2), (3, .int v3)] 6 [] := by
  intro n
  induction n with
  | zero => exact fun _ _ h => h.elim
  | succ n ih =>
    intro v5 v4 h
    replace h : B_X9_tokensOf_6 v1 v2 v3 mnow K (P_X9_tokensOf_6 v1 v2 v3 mnow K n) v5 v4 := h
    unfold B_X9_tokensOf_6 at h
    refine g_iload 6 0 hC dX9_tokensOf_6 rfl ?_
    refine g_aload_n 8 2 hC dX9_tokensOf_8 rfl ?_
    refine g_get 9 0 0 hC inlX9 wq_104 dX9_tokensOf_9 rfl rfl (by decide) rfl ?_
    refine g_sipush (v := (134 : Int32)) 12 hC dX9_tokensOf_12 (by decide) ?_
    refine g_iload_n 15 3 hC dX9_tokensOf_15 rfl ?_
    refine g_iadd 16 hC dX9_tokensOf_16 ?_
    obtain ⟨hj, h⟩ := h
    refine g_iald 17 1 hC dX9_tokensOf_17 rfl rfl hj ?_
    refine g_icmp_ge 18 64 hC dX9_tokensOf_18 (by decide) (fun hc => ?_) (fun hc => ?_)
    · replace h := h.1 hc
      refine G.sub [0, 1, 2, 3, 4, 5] rfl ?_
      exact hK v5 v4 h
    · replace h := h.2 hc
      refine g_iload 21 1 hC dX9_tokensOf_21 rfl ?_
      refine g_aload_n 23 2 hC dX9_tokensOf_23 rfl ?_
      refine g_get 24 0 0 hC inlX9 wq_104 dX9_tokensOf_24 rfl rfl (by decide) rfl ?_
      refine g_sipush (v := (140 : Int32)) 27 hC dX9_tokensOf_27 (by decide) ?_
      refine g_bipush (v := (8 : Int32)) 30 hC dX9_tokensOf_30 (by decide) ?_
      refine g_iload_n 32 3 hC dX9_tokensOf_32 rfl ?_
      refine g_imul 33 hC dX9_tokensOf_33 ?_
      refine g_iadd 34 hC dX9_tokensOf_34 ?_
      refine g_iload 35 0 hC dX9_tokensOf_35 rfl ?_
      refine g_iadd 37 hC dX9_tokensOf_37 ?_
      obtain ⟨hj, h⟩ := h
      refine g_iald 38 1 hC dX9_tokensOf_38 rfl rfl hj ?_
      refine g_i2l 39 hC dX9_tokensOf_39 ?_
      refine g_iload_n 40 4 hC dX9_tokensOf_40 rfl ?_
      refine g_i2l 41 hC dX9_tokensOf_41 ?_
      refine g_iload_n 42 5 hC dX9_tokensOf_42 rfl ?_
      refine g_i2l 43 hC dX9_tokensOf_43 ?_
      refine g_cSi (As := [.long (Int32.toInt64 (mnow (Int32.toNatClampNeg (((140 : Int32) + ((8 : Int32) * v1)) + v5)))), .long (Int32.toInt64 v2), .long (Int32.toInt64 v3)]) (rest := [.int v4]) 44 [] hC (c_X9_in l D cI cS cT ad (Int32.toInt64 (mnow (Int32.toNatClampNeg (((140 : Int32) + ((8 : Int32) * v1)) + v5)))) (Int32.toInt64 v2) (Int32.toInt64 v3) _ h) kX9_in wq_130 dX9_tokensOf_44 ⟨Nat.le_of_ble_eq_true rfl, Nat.le_of_ble_eq_true rfl⟩ rfl rfl (Nat.zero_le _) (Nat.zero_le _) rfl rfl rfl (Nat.le_of_ble_eq_true rfl) ?_
      rintro r1 _ ⟨rfl, h⟩
      refine ⟨Nat.le_of_ble_eq_true rfl, G.upd [0, 1] (Wd_X9_tokensOf cI cS cT ad b0 mnow mundoMany mtokens moneLong motherLong medits mgroups) rfl rfl rfl rfl rfl ?_⟩
      refine g_if_eq 47 54 hC dX9_tokensOf_47 (by decide) (fun hc => ?_) (fun hc => ?_)
      · replace h := h.1 hc
        refine g_iconst (v := (0 : Int32)) 54 hC dX9_tokensOf_54 (by decide) ?_
        refine g_iadd 55 hC dX9_tokensOf_55 ?_
        refine g_istore 56 [(4, .int (v4 + (0 : Int32))), (5, .int v5), (0, .ref (ad b0)), (1, .int v1), (2, .int v2), (3, .int v3)] hC dX9_tokensOf_56 (by rw [hn]; decide) rfl ?_
        refine g_iinc (v := (1 : Int32)) 58 1 [(5, .int (v5 + (1 : Int32))), (4, .int (v4 + (0 : Int32))), (0, .ref (ad b0)), (1, .int v1), (2, .int v2), (3, .int v3)] hC dX9_tokensOf_58 rfl (by decide) (by rw [hn]; decide) rfl ?_
        refine g_goto 61 6 hC dX9_tokensOf_61 (by decide) ?_
        refine G.sub [0, 1, 2, 3, 4, 5] rfl ?_
        exact ih _ _ h
      · replace h := h.2 hc
        refine g_iconst (v := (1 : Int32)) 50 hC dX9_tokensOf_50 (by decide) ?_
        refine g_goto 51 55 hC dX9_tokensOf_51 (by decide) ?_
        refine g_iadd 55 hC dX9_tokensOf_55 ?_
        refine g_istore 56 [(4, .int (v4 + (1 : Int32))), (5, .int v5), (0, .ref (ad b0)), (1, .int v1), (2, .int v2), (3, .int v3)] hC dX9_tokensOf_56 (by rw [hn]; decide) rfl ?_
        refine g_iinc (v := (1 : Int32)) 58 1 [(5, .int (v5 + (1 : Int32))), (4, .int (v4 + (1 : Int32))), (0, .ref (ad b0)), (1, .int v1), (2, .int v2), (3, .int v3)] hC dX9_tokensOf_58 rfl (by decide) (by rw [hn]; decide) rfl ?_
        refine g_goto 61 6 hC dX9_tokensOf_61 (by decide) ?_
        refine G.sub [0, 1, 2, 3, 4, 5] rfl ?_
        exact ih _ _ h
set_option maxHeartbeats 4000000 in
set_option maxRecDepth 100000 in
theorem c_X9_tokensOf (l : Launch) (D : va_G) (cI cS cT : ClassId) (ad : Nat → Nat) (b0 : Nat) (x1 : Int32) (x2 : Int32) (x3 : Int32) (mnow : Nat → Int32) (mundoMany : Int32) (mtokens : Int32) (moneLong : Int32) (motherLong : Int32) (medits : Int32) (mgroups : Int32) (post : Int32 → Prop) (h : P_X9_tokensOf x1 x2 x3 mnow mundoMany mtokens moneLong motherLong medits mgroups post) : MI l D (TY cI cS cT) yX9_tokensOf cX9_tokensOf 6 (some .int) rm_X9_tokensOf [.ref (ad b0), .int x1, .int x2, .int x3] (Wd_X9_tokensOf cI cS cT ad b0 mnow mundoMany mtokens moneLong motherLong medits mgroups) (fun (r : Int32) w => w = (Wd_X9_tokensOf cI cS cT ad b0 mnow mundoMany mtokens moneLong motherLong medits mgroups) ∧ post r) := by
  refine MI.of (by decide) (Nat.le_of_ble_eq_true rfl) (fun E hC hR hn => ?_)
  replace hC : Cx l D (TY cI cS cT) E rm_X9_tokensOf cX9_tokensOf RX9 := hC
  replace hR : RetI D E (fun (r : Int32) w => w = (Wd_X9_tokensOf cI cS cT ad b0 mnow mundoMany mtokens moneLong motherLong medits mgroups) ∧ post r) 0 0 (some .int) := hR
  unfold P_X9_tokensOf at h
  change G l D E 0 0 _ [(0, .ref (ad b0)), (1, .int x1), (2, .int x2), (3, .int x3)] 0 []
  refine g_iconst (v := (0 : Int32)) 0 hC dX9_tokensOf_0 (by decide) ?_
  refine g_istore 1 [(4, .int (0 : Int32)), (0, .ref (ad b0)), (1, .int x1), (2, .int x2), (3, .int x3)] hC dX9_tokensOf_1 (by rw [hn]; decide) rfl ?_
  refine g_iconst (v := (0 : Int32)) 3 hC dX9_tokensOf_3 (by decide) ?_
  refine g_istore 4 [(5, .int (0 : Int32)), (4, .int (0 : Int32)), (0, .ref (ad b0)), (1, .int x1), (2, .int x2), (3, .int x3)] hC dX9_tokensOf_4 (by rw [hn]; decide) rfl ?_
  obtain ⟨n, h⟩ := h
  refine L_X9_tokensOf_6 hC hR hn _ (fun w5_2 w4_2 h => ?_) n _ _ h
  refine g_iload 64 1 hC dX9_tokensOf_64 rfl ?_
  exact g_iret 66 hC hR dX9_tokensOf_66 ⟨rfl, h⟩

/-! ===== ProverbCollectionModel.isFilled(II)Z ===== -/
def Wd_X9_isFilled (cI cS cT : ClassId) (ad : Nat → Nat) (b0 : Nat) (mnow : Nat → Int32) (mundoMany : Int32) (mtokens : Int32) (moneLong : Int32) (motherLong : Int32) (medits : Int32) (mgap : Nat → Int32) (mslot : Nat → Int32) (mgroups : Int32) : va_W := [(ad b0, .inr (9, [.ref (ad (b0 + 1)), .ref (ad (b0 + 2)), .int mundoMany, .int mtokens, .ref (ad (b0 + 3)), .ref (ad (b0 + 4)), .ref (ad (b0 + 5)), .int moneLong, .int motherLong, .ref (ad (b0 + 6)), .int medits, .ref (ad (b0 + 7)), .ref (ad (b0 + 8)), .ref (ad (b0 + 9)), .ref (ad (b0 + 10)), .int mgroups, .ref (ad (b0 + 11)), .ref (ad (b0 + 12))])), (ad (b0 + 1), .inl (cI, 193, .inl mnow)), (ad (b0 + 8), .inl (cI, 8, .inl mgap)), (ad (b0 + 9), .inl (cI, 4, .inl mslot))]
def rm_X9_isFilled : Room := { frames := 0, cells := 0, slots := 0, locals := 0 }
theorem kX9_isFilled : KV yX9_isFilled cX9_isFilled 9 (some .boolean) 2 := ⟨wq_480, wq_5, wq_478, wq_479, by decide +kernel⟩
def B_X9_isFilled_2 (K : Int32 → (Nat → Int32) → Prop) (rc : Int32 → (Nat → Int32) → Prop) (v3 : Int32) (mslot : Nat → Int32) : Prop :=
  ((4 : Int32) ≤ v3 → K v3 mslot) ∧ (¬ (4 : Int32) ≤ v3 → (vp_in v3 4 ∧ (rc (v3 + (1 : Int32)) (upd mslot (Int32.toNatClampNeg v3) (-1 : Int32)))))
def P_X9_isFilled_2 (K : Int32 → (Nat → Int32) → Prop) : Nat → Int32 → (Nat → Int32) → Prop
  | 0 => fun _ _ => False
  | n + 1 => fun v3 mslot => B_X9_isFilled_2 K (P_X9_isFilled_2 K n) v3 mslot
def B_X9_isFilled_28 (v1 : Int32) (v2 : Int32) (mnow : Nat → Int32) (mgap : Nat → Int32) (post : Int32 → (Nat → Int32) → Prop) (K : Int32 → Int32 → Int32 → (Nat → Int32) → Prop) (rc : Int32 → Int32 → Int32 → (Nat → Int32) → Prop) (v5 : Int32) (v4 : Int32) (v3 : Int32) (mslot : Nat → Int32) : Prop :=
  vp_in ((134 : Int32) + v1) 193 ∧ (((mnow (Int32.toNatClampNeg ((134 : Int32) + v1))) ≤ v5 → K v5 v4 v3 mslot) ∧ (¬ (mnow (Int32.toNatClampNeg ((134 : Int32) + v1))) ≤ v5 → (vp_in (((140 : Int32) + ((8 : Int32) * v1)) + v5) 193 ∧ ((¬ (mnow (Int32.toNatClampNeg (((140 : Int32) + ((8 : Int32) * v1)) + v5))) = (64 : Int32) → (vp_in (((13 : Int32) + ((8 : Int32) * v2)) + v3) 193 ∧ (((60 : Int32) ≤ (mnow (Int32.toNatClampNeg (((140 : Int32) + ((8 : Int32) * v1)) + v5))) → (vp_in ((mnow (Int32.toNatClampNeg (((140 : Int32) + ((8 : Int32) * v1)) + v5))) - (60 : Int32)) 4 ∧ (((mslot (Int32.toNatClampNeg ((mnow (Int32.toNatClampNeg (((140 : Int32) + ((8 : Int32) * v1)) + v5))) - (60 : Int32)))) < 0 → (((mnow (Int32.toNatClampNeg (((140 : Int32) + ((8 : Int32) * v1)) + v5))) < (60 : Int32) → rc (v5 + (1 : Int32)) v4 (v3 + (1 : Int32)) mslot) ∧ (¬ (mnow (Int32.toNatClampNeg (((140 : Int32) + ((8 : Int32) * v1)) + v5))) < (60 : Int32) → (vp_in ((mnow (Int32.toNatClampNeg (((140 : Int32) + ((8 : Int32) * v1)) + v5))) - (60 : Int32)) 4 ∧ (rc (v5 + (1 : Int32)) v4 (v3 + (1 : Int32)) (upd mslot (Int32.toNatClampNeg ((mnow (Int32.toNatClampNeg (((140 : Int32) + ((8 : Int32) * v1)) + v5))) - (60 : Int32))) (mnow (Int32.toNatClampNeg (((13 : Int32) + ((8 : Int32) * v2)) + v3))))))))) ∧ (¬ (mslot (Int32.toNatClampNeg ((mnow (Int32.toNatClampNeg (((140 : Int32) + ((8 : Int32) * v1)) + v5))) - (60 : Int32)))) < 0 → (vp_in ((mnow (Int32.toNatClampNeg (((140 : Int32) + ((8 : Int32) * v1)) + v5))) - (60 : Int32)) 4 ∧ ((¬ (mslot (Int32.toNatClampNeg ((mnow (Int32.toNatClampNeg (((140 : Int32) + ((8 : Int32) * v1)) + v5))) - (60 : Int32)))) = (mnow (Int32.toNatClampNeg (((13 : Int32) + ((8 : Int32) * v2)) + v3))) → post (0 : Int32) mslot) ∧ ((mslot (Int32.toNatClampNeg ((mnow (Int32.toNatClampNeg (((140 : Int32) + ((8 : Int32) * v1)) + v5))) - (60 : Int32)))) = (mnow (Int32.toNatClampNeg (((13 : Int32) + ((8 : Int32) * v2)) + v3))) → (((mnow (Int32.toNatClampNeg (((140 : Int32) + ((8 : Int32) * v1)) + v5))) < (60 : Int32) → rc (v5 + (1 : Int32)) v4 (v3 + (1 : Int32)) mslot) ∧ (¬ (mnow (Int32.toNatClampNeg (((140 : Int32) + ((8 : Int32) * v1)) + v5))) < (60 : Int32) → (vp_in ((mnow (Int32.toNatClampNeg (((140 : Int32) + ((8 : Int32) * v1)) + v5))) - (60 : Int32)) 4 ∧ (rc (v5 + (1 : Int32)) v4 (v3 + (1 : Int32)) (upd mslot (Int32.toNatClampNeg ((mnow (Int32.toNatClampNeg (((140 : Int32) + ((8 : Int32) * v1)) + v5))) - (60 : Int32))) (mnow (Int32.toNatClampNeg (((13 : Int32) + ((8 : Int32) * v2)) + v3))))))))))))))) ∧ (¬ (60 : Int32) ≤ (mnow (Int32.toNatClampNeg (((140 : Int32) + ((8 : Int32) * v1)) + v5))) → ((¬ (mnow (Int32.toNatClampNeg (((13 : Int32) + ((8 : Int32) * v2)) + v3))) = (mnow (Int32.toNatClampNeg (((140 : Int32) + ((8 : Int32) * v1)) + v5))) → post (0 : Int32) mslot) ∧ ((mnow (Int32.toNatClampNeg (((13 : Int32) + ((8 : Int32) * v2)) + v3))) = (mnow (Int32.toNatClampNeg (((140 : Int32) + ((8 : Int32) * v1)) + v5))) → (((mnow (Int32.toNatClampNeg (((140 : Int32) + ((8 : Int32) * v1)) + v5))) < (60 : Int32) → rc (v5 + (1 : Int32)) v4 (v3 + (1 : Int32)) mslot) ∧ (¬ (mnow (Int32.toNatClampNeg (((140 : Int32) + ((8 : Int32) * v1)) + v5))) < (60 : Int32) → (vp_in ((mnow (Int32.toNatClampNeg (((140 : Int32) + ((8 : Int32) * v1)) + v5))) - (60 : Int32)) 4 ∧ (rc (v5 + (1 : Int32)) v4 (v3 + (1 : Int32)) (upd mslot (Int32.toNatClampNeg ((mnow (Int32.toNatClampNeg (((140 : Int32) + ((8 : Int32) * v1)) + v5))) - (60 : Int32))) (mnow (Int32.toNatClampNeg (((13 : Int32) + ((8 : Int32) * v2)) + v3)))))))))))))) ∧ ((mnow (Int32.toNatClampNeg (((140 : Int32) + ((8 : Int32) * v1)) + v5))) = (64 : Int32) → (vp_in v4 8 ∧ (rc (v5 + (1 : Int32)) (v4 + (1 : Int32)) (v3 + (mgap (Int32.toNatClampNeg v4))) mslot)))))))
def P_X9_isFilled_28 (v1 : Int32) (v2 : Int32) (mnow : Nat → Int32) (mgap : Nat → Int32) (post : Int32 → (Nat → Int32) → Prop) (K : Int32 → Int32 → Int32 → (Nat → Int32) → Prop) : Nat → Int32 → Int32 → Int32 → (Nat → Int32) → Prop
  | 0 => fun _ _ _ _ => False
  | n + 1 => fun v5 v4 v3 mslot => B_X9_isFilled_28 v1 v2 mnow mgap post K (P_X9_isFilled_28 v1 v2 mnow mgap post K n) v5 v4 v3 mslot
def P_X9_isFilled (x1 : Int32) (x2 : Int32) (mnow : Nat → Int32) (mundoMany : Int32) (mtokens : Int32) (moneLong : Int32) (motherLong : Int32) (medits : Int32) (mgap : Nat → Int32) (mslot : Nat → Int32) (mgroups : Int32) (post : Int32 → (Nat → Int32) → Prop) : Prop :=
  ∃ n : Nat, P_X9_isFilled_2 (fun w3_1 mslot_1 => ∃ n : Nat, P_X9_isFilled_28 x1 x2 mnow mgap post (fun w5_2 w4_2 w3_2 mslot_2 => post (1 : Int32) mslot_2) n (0 : Int32) (0 : Int32) (0 : Int32) mslot_1) n (0 : Int32) mslot
set_option maxHeartbeats 4000000 in
set_option maxRecDepth 100000 in
theorem L_X9_isFilled_2 {l : Launch} {D : va_G} {cI cS cT : ClassId} {ad : Nat → Nat} {b0 : Nat} {E : CE} {v1 : Int32} {v2 : Int32} {mnow : Nat → Int32} {mundoMany : Int32} {mtokens : Int32} {moneLong : Int32} {motherLong : Int32} {medits : Int32} {mgap : Nat → Int32} {mgroups : Int32} {post : Int32 → (Nat → Int32) → Prop} (hC : Cx l D (TY cI cS cT) E rm_X9_isFilled cX9_isFilled RX9) (hR : RetI D E (fun (r : Int32) w => ∃ (u_mslot : Nat → Int32), w = (Wd_X9_isFilled cI cS cT ad b0 mnow mundoMany mtokens moneLong motherLong medits mgap u_mslot mgroups) ∧ post r u_mslot) 0 0 (some .boolean)) (hn : E.nL = 9) (K : Int32 → (Nat → Int32) → Prop) (hK : ∀ (v3 : Int32) (mslot : Nat → Int32), K v3 mslot → G l D E 0 0 (Wd_X9_isFilled cI cS cT ad b0 mnow mundoMany mtokens moneLong motherLong medits mgap mslot mgroups) [(3, .int v3), (0, .ref (ad b0)), (1, .int v1), (2, .int v2)] 20 []) : ∀ (n : Nat) (v3 : Int32) (mslot : Nat → Int32), P_X9_isFilled_2 K n v3 mslot → G l D E 0 0 (Wd_X9_isFilled cI cS cT ad b0 mnow mundoMany mtokens moneLong motherLong medits mgap mslot mgroups) [(3, .int v3), (0, .ref (ad b0)), (1, .int v1), (2, .int v2)] 2 [] := by
  intro n
  induction n with
  | zero => exact fun _ _ h => h.elim
  | succ n ih =>
    intro v3 mslot h
    replace h : B_X9_isFilled_2 K (P_X9_isFilled_2 K n) v3 mslot := h
    unfold B_X9_isFilled_2 at h
    refine g_iload_n 2 0 hC dX9_isFilled_2 rfl ?_
    refine g_iconst (v := (4 : Int32)) 3 hC dX9_isFilled_3 (by decide) ?_
    refine g_icmp_ge 4 20 hC dX9_isFilled_4 (by decide) (fun hc => ?_) (fun hc => ?_)
    · replace h := h.1 hc
      refine G.sub [0, 1, 2, 3] rfl ?_
      exact hK v3 mslot h
    · replace h := h.2 hc
      refine g_aload_n 7 1 hC dX9_isFilled_7 rfl ?_
      refine g_get 8 0 13 hC inlX9 wq_112 dX9_isFilled_8 rfl rfl (by decide) rfl ?_
      refine g_iload_n 11 0 hC dX9_isFilled_11 rfl ?_
      refine g_iconst (v := (-1 : Int32)) 12 hC dX9_isFilled_12 (by decide) ?_
      obtain ⟨hj, h⟩ := h
      refine g_iast 13 3 (Wd_X9_isFilled cI cS cT ad b0 mnow mundoMany mtokens moneLong motherLong medits mgap (upd mslot (Int32.toNatClampNeg v3) (-1 : Int32)) mgroups) hC dX9_isFilled_13 rfl rfl hj rfl ?_
      refine g_iinc (v := (1 : Int32)) 14 0 [(3, .int (v3 + (1 : Int32))), (0, .ref (ad b0)), (1, .int v1), (2, .int v2)] hC dX9_isFilled_14 rfl (by decide) (by rw [hn]; decide) rfl ?_
      refine g_goto 17 2 hC dX9_isFilled_17 (by decide) ?_
      refine G.sub [0, 1, 2, 3] rfl ?_
      exact ih _ _ h
set_option maxHeartbeats 4000000 in
set_option maxRecDepth 100000 in
theorem L_X9_isFilled_28 {l : Launch} {D : va_G} {cI cS cT : ClassId} {ad : Nat → Nat} {b0 : Nat} {E : CE} {v1 : Int32} {v2 : Int32} {mnow : Nat → Int32} {mundoMany : Int32} {mtokens : Int32} {moneLong : Int32} {motherLong : Int32} {medits : Int32} {mgap : Nat → Int32} {mgroups : Int32} {post : Int32 → (Nat → Int32) → Prop} (hC : Cx l D (TY cI cS cT) E rm_X9_isFilled cX9_isFilled RX9) (hR : RetI D E (fun (r : Int32) w => ∃ (u_mslot : Nat → Int32), w = (Wd_X9_isFilled cI cS cT ad b0 mnow mundoMany mtokens moneLong motherLong medits mgap u_mslot mgroups) ∧ post r u_mslot) 0 0 (some .boolean)) (hn : E.nL = 9) (K : Int32 → Int32 → Int32 → (Nat → Int32) → Prop) (hK : ∀ (v5 : Int32) (v4 : Int32) (v3 : Int32) (mslot : Nat → Int32), K v5 v4 v3 mslot → G l D E 0 0 (Wd_X9_isFilled cI cS cT ad b0 mnow mundoMany mtokens moneLong motherLong medits mgap mslot mgroups) [(5, .int v5), (4, .int v4), (3, .int v3), (0, .ref (ad b0)), (1, .int v1), (2, .int v2)] 192 []) : ∀ (n : Nat) (v5 : Int32) (v4 : Int32) (v3 : Int32) (mslot : Nat → Int32), P_X9_isFilled_28 v1 v2 mnow mgap post K n v5 v4 v3 mslot → G l D E 0 0 (Wd_X9_isFilled cI cS cT ad b0 mnow mundoMany mtokens moneLong motherLong medits mgap mslot mgroups) [(5, .int v5), (4, .int v4), (3, .int v3), (0, .ref (ad b0)), (1, .int v1), (2, .int v2)] 28 [] := by
  intro n
  induction n with
  | zero => exact fun _ _ _ _ h => h.elim
  | succ n ih =>
    intro v5 v4 v3 mslot h
    replace h : B_X9_isFilled_28 v1 v2 mnow mgap post K (P_X9_isFilled_28 v1 v2 mnow mgap post K n) v5 v4 v3 mslot := h
    unfold B_X9_isFilled_28 at h
    refine g_iload 28 0 hC dX9_isFilled_28 rfl ?_
    refine g_aload_n 30 3 hC dX9_isFilled_30 rfl ?_
    refine g_get 31 0 0 hC inlX9 wq_104 dX9_isFilled_31 rfl rfl (by decide) rfl ?_
    refine g_sipush (v := (134 : Int32)) 34 hC dX9_isFilled_34 (by decide) ?_
    refine g_iload_n 37 4 hC dX9_isFilled_37 rfl ?_
    refine g_iadd 38 hC dX9_isFilled_38 ?_
    obtain ⟨hj, h⟩ := h
    refine g_iald 39 1 hC dX9_isFilled_39 rfl rfl hj ?_
    refine g_icmp_ge 40 192 hC dX9_isFilled_40 (by decide) (fun hc => ?_) (fun hc => ?_)
    · replace h := h.1 hc
      refine G.sub [0, 1, 2, 3, 4, 5] rfl ?_
      exact hK v5 v4 v3 mslot h
    · replace h := h.2 hc
      refine g_aload_n 43 3 hC dX9_isFilled_43 rfl ?_
      refine g_get 44 0 0 hC inlX9 wq_104 dX9_isFilled_44 rfl rfl (by decide) rfl ?_
      refine g_sipush (v := (140 : Int32)) 47 hC dX9_isFilled_47 (by decide) ?_
      refine g_bipush (v := (8 : Int32)) 50 hC dX9_isFilled_50 (by decide) ?_
      refine g_iload_n 52 4 hC dX9_isFilled_52 rfl ?_
      refine g_imul 53 hC dX9_isFilled_53 ?_
      refine g_iadd 54 hC dX9_isFilled_54 ?_
      refine g_iload 55 0 hC dX9_isFilled_55 rfl ?_
      refine g_iadd 57 hC dX9_isFilled_57 ?_
      obtain ⟨hj, h⟩ := h
      refine g_iald 58 1 hC dX9_isFilled_58 rfl rfl hj ?_
      refine g_istore 59 [(6, .int (mnow (Int32.toNatClampNeg (((140 : Int32) + ((8 : Int32) * v1)) + v5)))), (5, .int v5), (4, .int v4), (3, .int v3), (0, .ref (ad b0)), (1, .int v1), (2, .int v2)] hC dX9_isFilled_59 (by rw [hn]; decide) rfl ?_
      refine g_iload 61 0 hC dX9_isFilled_61 rfl ?_
      refine g_bipush (v := (64 : Int32)) 63 hC dX9_isFilled_63 (by decide) ?_
      refine g_icmp_ne 65 84 hC dX9_isFilled_65 (by decide) (fun hc => ?_) (fun hc => ?_)
      · replace h := h.1 hc
        refine g_aload_n 84 4 hC dX9_isFilled_84 rfl ?_
        refine g_get 85 0 0 hC inlX9 wq_104 dX9_isFilled_85 rfl rfl (by decide) rfl ?_
        refine g_bipush (v := (13 : Int32)) 88 hC dX9_isFilled_88 (by decide) ?_
        refine g_bipush (v := (8 : Int32)) 90 hC dX9_isFilled_90 (by decide) ?_
        refine g_iload_n 92 6 hC dX9_isFilled_92 rfl ?_
        refine g_imul 93 hC dX9_isFilled_93 ?_
        refine g_iadd 94 hC dX9_isFilled_94 ?_
        refine g_iload_n 95 3 hC dX9_isFilled_95 rfl ?_
        refine g_iadd 96 hC dX9_isFilled_96 ?_
        obtain ⟨hj, h⟩ := h
        refine g_iald 97 1 hC dX9_isFilled_97 rfl rfl hj ?_
        refine g_istore 98 [(7, .int (mnow (Int32.toNatClampNeg (((13 : Int32) + ((8 : Int32) * v2)) + v3)))), (6, .int (mnow (Int32.toNatClampNeg (((140 : Int32) + ((8 : Int32) * v1)) + v5)))), (5, .int v5), (4, .int v4), (3, .int v3), (0, .ref (ad b0)), (1, .int v1), (2, .int v2)] hC dX9_isFilled_98 (by rw [hn]; decide) rfl ?_
        refine g_iload 100 1 hC dX9_isFilled_100 rfl ?_
        refine g_bipush (v := (60 : Int32)) 102 hC dX9_isFilled_102 (by decide) ?_
        refine g_icmp_ge 104 122 hC dX9_isFilled_104 (by decide) (fun hc => ?_) (fun hc => ?_)
        · replace h := h.1 hc
          refine g_aload_n 122 5 hC dX9_isFilled_122 rfl ?_
          refine g_get 123 0 13 hC inlX9 wq_112 dX9_isFilled_123 rfl rfl (by decide) rfl ?_
          refine g_iload 126 1 hC dX9_isFilled_126 rfl ?_
          refine g_bipush (v := (60 : Int32)) 128 hC dX9_isFilled_128 (by decide) ?_
          refine g_isub 130 hC dX9_isFilled_130 ?_
          obtain ⟨hj, h⟩ := h
          refine g_iald 131 3 hC dX9_isFilled_131 rfl rfl hj ?_
          refine g_if_lt 132 150 hC dX9_isFilled_132 (by decide) (fun hc => ?_) (fun hc => ?_)
          · replace h := h.1 hc
            refine g_iconst (v := (1 : Int32)) 150 hC dX9_isFilled_150 (by decide) ?_
            refine g_goto 151 155 hC dX9_isFilled_151 (by decide) ?_
            refine g_istore 155 [(8, .int (1 : Int32)), (7, .int (mnow (Int32.toNatClampNeg (((13 : Int32) + ((8 : Int32) * v2)) + v3)))), (6, .int (mnow (Int32.toNatClampNeg (((140 : Int32) + ((8 : Int32) * v1)) + v5)))), (5, .int v5), (4, .int v4), (3, .int v3), (0, .ref (ad b0)), (1, .int v1), (2, .int v2)] hC dX9_isFilled_155 (by rw [hn]; decide) rfl ?_
            refine g_iload 157 0 hC dX9_isFilled_157 rfl ?_
            refine g_if_ne 159 164 hC dX9_isFilled_159 (by decide) (fun _ => ?_) (fun hc => absurd hc (by decide))
            refine g_iload 164 2 hC dX9_isFilled_164 rfl ?_
            refine g_bipush (v := (60 : Int32)) 166 hC dX9_isFilled_166 (by decide) ?_
            refine g_icmp_lt 168 183 hC dX9_isFilled_168 (by decide) (fun hc => ?_) (fun hc => ?_)
            · replace h := h.1 hc
              refine g_iinc (v := (1 : Int32)) 183 5 [(3, .int (v3 + (1 : Int32))), (8, .int (1 : Int32)), (7, .int (mnow (Int32.toNatClampNeg (((13 : Int32) + ((8 : Int32) * v2)) + v3)))), (6, .int (mnow (Int32.toNatClampNeg (((140 : Int32) + ((8 : Int32) * v1)) + v5)))), (5, .int v5), (4, .int v4), (0, .ref (ad b0)), (1, .int v1), (2, .int v2)] hC dX9_isFilled_183 rfl (by decide) (by rw [hn]; decide) rfl ?_
              refine g_iinc (v := (1 : Int32)) 186 4 [(5, .int (v5 + (1 : Int32))), (3, .int (v3 + (1 : Int32))), (8, .int (1 : Int32)), (7, .int (mnow (Int32.toNatClampNeg (((13 : Int32) + ((8 : Int32) * v2)) + v3)))), (6, .int (mnow (Int32.toNatClampNeg (((140 : Int32) + ((8 : Int32) * v1)) + v5)))), (4, .int v4), (0, .ref (ad b0)), (1, .int v1), (2, .int v2)] hC dX9_isFilled_186 rfl (by decide) (by rw [hn]; decide) rfl ?_
              refine g_goto 189 28 hC dX9_isFilled_189 (by decide) ?_
              refine G.sub [0, 5, 1, 6, 7, 8] rfl ?_
              exact ih _ _ _ _ h
            · replace h := h.2 hc
              refine g_aload_n 171 6 hC dX9_isFilled_171 rfl ?_
              refine g_get 172 0 13 hC inlX9 wq_112 dX9_isFilled_172 rfl rfl (by decide) rfl ?_
              refine g_iload 175 2 hC dX9_isFilled_175 rfl ?_
              refine g_bipush (v := (60 : Int32)) 177 hC dX9_isFilled_177 (by decide) ?_
              refine g_isub 179 hC dX9_isFilled_179 ?_
              refine g_iload 180 1 hC dX9_isFilled_180 rfl ?_
              obtain ⟨hj, h⟩ := h
              refine g_iast 182 3 (Wd_X9_isFilled cI cS cT ad b0 mnow mundoMany mtokens moneLong motherLong medits mgap (upd mslot (Int32.toNatClampNeg ((mnow (Int32.toNatClampNeg (((140 : Int32) + ((8 : Int32) * v1)) + v5))) - (60 : Int32))) (mnow (Int32.toNatClampNeg (((13 : Int32) + ((8 : Int32) * v2)) + v3)))) mgroups) hC dX9_isFilled_182 rfl rfl hj rfl ?_
              refine g_iinc (v := (1 : Int32)) 183 5 [(3, .int (v3 + (1 : Int32))), (8, .int (1 : Int32)), (7, .int (mnow (Int32.toNatClampNeg (((13 : Int32) + ((8 : Int32) * v2)) + v3)))), (6, .int (mnow (Int32.toNatClampNeg (((140 : Int32) + ((8 : Int32) * v1)) + v5)))), (5, .int v5), (4, .int v4), (0, .ref (ad b0)), (1, .int v1), (2, .int v2)] hC dX9_isFilled_183 rfl (by decide) (by rw [hn]; decide) rfl ?_
              refine g_iinc (v := (1 : Int32)) 186 4 [(5, .int (v5 + (1 : Int32))), (3, .int (v3 + (1 : Int32))), (8, .int (1 : Int32)), (7, .int (mnow (Int32.toNatClampNeg (((13 : Int32) + ((8 : Int32) * v2)) + v3)))), (6, .int (mnow (Int32.toNatClampNeg (((140 : Int32) + ((8 : Int32) * v1)) + v5)))), (4, .int v4), (0, .ref (ad b0)), (1, .int v1), (2, .int v2)] hC dX9_isFilled_186 rfl (by decide) (by rw [hn]; decide) rfl ?_
              refine g_goto 189 28 hC dX9_isFilled_189 (by decide) ?_
              refine G.sub [0, 5, 1, 6, 7, 8] rfl ?_
              exact ih _ _ _ _ h
          · replace h := h.2 hc
            refine g_aload_n 135 5 hC dX9_isFilled_135 rfl ?_
            refine g_get 136 0 13 hC inlX9 wq_112 dX9_isFilled_136 rfl rfl (by decide) rfl ?_
            refine g_iload 139 1 hC dX9_isFilled_139 rfl ?_
            refine g_bipush (v := (60 : Int32)) 141 hC dX9_isFilled_141 (by decide) ?_
            refine g_isub 143 hC dX9_isFilled_143 ?_
            obtain ⟨hj, h⟩ := h
            refine g_iald 144 3 hC dX9_isFilled_144 rfl rfl hj ?_
            refine g_iload 145 0 hC dX9_isFilled_145 rfl ?_
            refine g_icmp_ne 147 154 hC dX9_isFilled_147 (by decide) (fun hc => ?_) (fun hc => ?_)
            · replace h := h.1 hc
              refine g_iconst (v := (0 : Int32)) 154 hC dX9_isFilled_154 (by decide) ?_
              refine g_istore 155 [(8, .int (0 : Int32)), (7, .int (mnow (Int32.toNatClampNeg (((13 : Int32) + ((8 : Int32) * v2)) + v3)))), (6, .int (mnow (Int32.toNatClampNeg (((140 : Int32) + ((8 : Int32) * v1)) + v5)))), (5, .int v5), (4, .int v4), (3, .int v3), (0, .ref (ad b0)), (1, .int v1), (2, .int v2)] hC dX9_isFilled_155 (by rw [hn]; decide) rfl ?_
              refine g_iload 157 0 hC dX9_isFilled_157 rfl ?_
              refine g_if_ne 159 164 hC dX9_isFilled_159 (by decide) (fun hc => absurd hc (by decide)) (fun _ => ?_)
              refine g_iconst (v := (0 : Int32)) 162 hC dX9_isFilled_162 (by decide) ?_
              exact g_zret 163 hC hR dX9_isFilled_163 (by decide) ⟨mslot, rfl, h⟩
            · replace h := h.2 hc
              refine g_iconst (v := (1 : Int32)) 150 hC dX9_isFilled_150 (by decide) ?_
              refine g_goto 151 155 hC dX9_isFilled_151 (by decide) ?_
              refine g_istore 155 [(8, .int (1 : Int32)), (7, .int (mnow (Int32.toNatClampNeg (((13 : Int32) + ((8 : Int32) * v2)) + v3)))), (6, .int (mnow (Int32.toNatClampNeg (((140 : Int32) + ((8 : Int32) * v1)) + v5)))), (5, .int v5), (4, .int v4), (3, .int v3), (0, .ref (ad b0)), (1, .int v1), (2, .int v2)] hC dX9_isFilled_155 (by rw [hn]; decide) rfl ?_
              refine g_iload 157 0 hC dX9_isFilled_157 rfl ?_
              refine g_if_ne 159 164 hC dX9_isFilled_159 (by decide) (fun _ => ?_) (fun hc => absurd hc (by decide))
              refine g_iload 164 2 hC dX9_isFilled_164 rfl ?_
              refine g_bipush (v := (60 : Int32)) 166 hC dX9_isFilled_166 (by decide) ?_
              refine g_icmp_lt 168 183 hC dX9_isFilled_168 (by decide) (fun hc => ?_) (fun hc => ?_)
              · replace h := h.1 hc
                refine g_iinc (v := (1 : Int32)) 183 5 [(3, .int (v3 + (1 : Int32))), (8, .int (1 : Int32)), (7, .int (mnow (Int32.toNatClampNeg (((13 : Int32) + ((8 : Int32) * v2)) + v3)))), (6, .int (mnow (Int32.toNatClampNeg (((140 : Int32) + ((8 : Int32) * v1)) + v5)))), (5, .int v5), (4, .int v4), (0, .ref (ad b0)), (1, .int v1), (2, .int v2)] hC dX9_isFilled_183 rfl (by decide) (by rw [hn]; decide) rfl ?_
                refine g_iinc (v := (1 : Int32)) 186 4 [(5, .int (v5 + (1 : Int32))), (3, .int (v3 + (1 : Int32))), (8, .int (1 : Int32)), (7, .int (mnow (Int32.toNatClampNeg (((13 : Int32) + ((8 : Int32) * v2)) + v3)))), (6, .int (mnow (Int32.toNatClampNeg (((140 : Int32) + ((8 : Int32) * v1)) + v5)))), (4, .int v4), (0, .ref (ad b0)), (1, .int v1), (2, .int v2)] hC dX9_isFilled_186 rfl (by decide) (by rw [hn]; decide) rfl ?_
                refine g_goto 189 28 hC dX9_isFilled_189 (by decide) ?_
                refine G.sub [0, 5, 1, 6, 7, 8] rfl ?_
                exact ih _ _ _ _ h
              · replace h := h.2 hc
                refine g_aload_n 171 6 hC dX9_isFilled_171 rfl ?_
                refine g_get 172 0 13 hC inlX9 wq_112 dX9_isFilled_172 rfl rfl (by decide) rfl ?_
                refine g_iload 175 2 hC dX9_isFilled_175 rfl ?_
                refine g_bipush (v := (60 : Int32)) 177 hC dX9_isFilled_177 (by decide) ?_
                refine g_isub 179 hC dX9_isFilled_179 ?_
                refine g_iload 180 1 hC dX9_isFilled_180 rfl ?_
                obtain ⟨hj, h⟩ := h
                refine g_iast 182 3 (Wd_X9_isFilled cI cS cT ad b0 mnow mundoMany mtokens moneLong motherLong medits mgap (upd mslot (Int32.toNatClampNeg ((mnow (Int32.toNatClampNeg (((140 : Int32) + ((8 : Int32) * v1)) + v5))) - (60 : Int32))) (mnow (Int32.toNatClampNeg (((13 : Int32) + ((8 : Int32) * v2)) + v3)))) mgroups) hC dX9_isFilled_182 rfl rfl hj rfl ?_
                refine g_iinc (v := (1 : Int32)) 183 5 [(3, .int (v3 + (1 : Int32))), (8, .int (1 : Int32)), (7, .int (mnow (Int32.toNatClampNeg (((13 : Int32) + ((8 : Int32) * v2)) + v3)))), (6, .int (mnow (Int32.toNatClampNeg (((140 : Int32) + ((8 : Int32) * v1)) + v5)))), (5, .int v5), (4, .int v4), (0, .ref (ad b0)), (1, .int v1), (2, .int v2)] hC dX9_isFilled_183 rfl (by decide) (by rw [hn]; decide) rfl ?_
                refine g_iinc (v := (1 : Int32)) 186 4 [(5, .int (v5 + (1 : Int32))), (3, .int (v3 + (1 : Int32))), (8, .int (1 : Int32)), (7, .int (mnow (Int32.toNatClampNeg (((13 : Int32) + ((8 : Int32) * v2)) + v3)))), (6, .int (mnow (Int32.toNatClampNeg (((140 : Int32) + ((8 : Int32) * v1)) + v5)))), (4, .int v4), (0, .ref (ad b0)), (1, .int v1), (2, .int v2)] hC dX9_isFilled_186 rfl (by decide) (by rw [hn]; decide) rfl ?_
                refine g_goto 189 28 hC dX9_isFilled_189 (by decide) ?_
                refine G.sub [0, 5, 1, 6, 7, 8] rfl ?_
                exact ih _ _ _ _ h
        · replace h := h.2 hc
          refine g_iload 107 0 hC dX9_isFilled_107 rfl ?_
          refine g_iload 109 1 hC dX9_isFilled_109 rfl ?_
          refine g_icmp_ne 111 118 hC dX9_isFilled_111 (by decide) (fun hc => ?_) (fun hc => ?_)
          · replace h := h.1 hc
            refine g_iconst (v := (0 : Int32)) 118 hC dX9_isFilled_118 (by decide) ?_
            refine g_goto 119 155 hC dX9_isFilled_119 (by decide) ?_
            refine g_istore 155 [(8, .int (0 : Int32)), (7, .int (mnow (Int32.toNatClampNeg (((13 : Int32) + ((8 : Int32) * v2)) + v3)))), (6, .int (mnow (Int32.toNatClampNeg (((140 : Int32) + ((8 : Int32) * v1)) + v5)))), (5, .int v5), (4, .int v4), (3, .int v3), (0, .ref (ad b0)), (1, .int v1), (2, .int v2)] hC dX9_isFilled_155 (by rw [hn]; decide) rfl ?_
            refine g_iload 157 0 hC dX9_isFilled_157 rfl ?_
            refine g_if_ne 159 164 hC dX9_isFilled_159 (by decide) (fun hc => absurd hc (by decide)) (fun _ => ?_)
            refine g_iconst (v := (0 : Int32)) 162 hC dX9_isFilled_162 (by decide) ?_
            exact g_zret 163 hC hR dX9_isFilled_163 (by decide) ⟨mslot, rfl, h⟩
          · replace h := h.2 hc
            refine g_iconst (v := (1 : Int32)) 114 hC dX9_isFilled_114 (by decide) ?_
            refine g_goto 115 155 hC dX9_isFilled_115 (by decide) ?_
            refine g_istore 155 [(8, .int (1 : Int32)), (7, .int (mnow (Int32.toNatClampNeg (((13 : Int32) + ((8 : Int32) * v2)) + v3)))), (6, .int (mnow (Int32.toNatClampNeg (((140 : Int32) + ((8 : Int32) * v1)) + v5)))), (5, .int v5), (4, .int v4), (3, .int v3), (0, .ref (ad b0)), (1, .int v1), (2, .int v2)] hC dX9_isFilled_155 (by rw [hn]; decide) rfl ?_
            refine g_iload 157 0 hC dX9_isFilled_157 rfl ?_
            refine g_if_ne 159 164 hC dX9_isFilled_159 (by decide) (fun _ => ?_) (fun hc => absurd hc (by decide))
            refine g_iload 164 2 hC dX9_isFilled_164 rfl ?_
            refine g_bipush (v := (60 : Int32)) 166 hC dX9_isFilled_166 (by decide) ?_
            refine g_icmp_lt 168 183 hC dX9_isFilled_168 (by decide) (fun hc => ?_) (fun hc => ?_)
            · replace h := h.1 hc
              refine g_iinc (v := (1 : Int32)) 183 5 [(3, .int (v3 + (1 : Int32))), (8, .int (1 : Int32)), (7, .int (mnow (Int32.toNatClampNeg (((13 : Int32) + ((8 : Int32) * v2)) + v3)))), (6, .int (mnow (Int32.toNatClampNeg (((140 : Int32) + ((8 : Int32) * v1)) + v5)))), (5, .int v5), (4, .int v4), (0, .ref (ad b0)), (1, .int v1), (2, .int v2)] hC dX9_isFilled_183 rfl (by decide) (by rw [hn]; decide) rfl ?_
              refine g_iinc (v := (1 : Int32)) 186 4 [(5, .int (v5 + (1 : Int32))), (3, .int (v3 + (1 : Int32))), (8, .int (1 : Int32)), (7, .int (mnow (Int32.toNatClampNeg (((13 : Int32) + ((8 : Int32) * v2)) + v3)))), (6, .int (mnow (Int32.toNatClampNeg (((140 : Int32) + ((8 : Int32) * v1)) + v5)))), (4, .int v4), (0, .ref (ad b0)), (1, .int v1), (2, .int v2)] hC dX9_isFilled_186 rfl (by decide) (by rw [hn]; decide) rfl ?_
              refine g_goto 189 28 hC dX9_isFilled_189 (by decide) ?_
              refine G.sub [0, 5, 1, 6, 7, 8] rfl ?_
              exact ih _ _ _ _ h
            · replace h := h.2 hc
              refine g_aload_n 171 6 hC dX9_isFilled_171 rfl ?_
              refine g_get 172 0 13 hC inlX9 wq_112 dX9_isFilled_172 rfl rfl (by decide) rfl ?_
              refine g_iload 175 2 hC dX9_isFilled_175 rfl ?_
              refine g_bipush (v := (60 : Int32)) 177 hC dX9_isFilled_177 (by decide) ?_
              refine g_isub 179 hC dX9_isFilled_179 ?_
              refine g_iload 180 1 hC dX9_isFilled_180 rfl ?_
              obtain ⟨hj, h⟩ := h
              refine g_iast 182 3 (Wd_X9_isFilled cI cS cT ad b0 mnow mundoMany mtokens moneLong motherLong medits mgap (upd mslot (Int32.toNatClampNeg ((mnow (Int32.toNatClampNeg (((140 : Int32) + ((8 : Int32) * v1)) + v5))) - (60 : Int32))) (mnow (Int32.toNatClampNeg (((13 : Int32) + ((8 : Int32) * v2)) + v3)))) mgroups) hC dX9_isFilled_182 rfl rfl hj rfl ?_
              refine g_iinc (v := (1 : Int32)) 183 5 [(3, .int (v3 + (1 : Int32))), (8, .int (1 : Int32)), (7, .int (mnow (Int32.toNatClampNeg (((13 : Int32) + ((8 : Int32) * v2)) + v3)))), (6, .int (mnow (Int32.toNatClampNeg (((140 : Int32) + ((8 : Int32) * v1)) + v5)))), (5, .int v5), (4, .int v4), (0, .ref (ad b0)), (1, .int v1), (2, .int v2)] hC dX9_isFilled_183 rfl (by decide) (by rw [hn]; decide) rfl ?_
              refine g_iinc (v := (1 : Int32)) 186 4 [(5, .int (v5 + (1 : Int32))), (3, .int (v3 + (1 : Int32))), (8, .int (1 : Int32)), (7, .int (mnow (Int32.toNatClampNeg (((13 : Int32) + ((8 : Int32) * v2)) + v3)))), (6, .int (mnow (Int32.toNatClampNeg (((140 : Int32) + ((8 : Int32) * v1)) + v5)))), (4, .int v4), (0, .ref (ad b0)), (1, .int v1), (2, .int v2)] hC dX9_isFilled_186 rfl (by decide) (by rw [hn]; decide) rfl ?_
              refine g_goto 189 28 hC dX9_isFilled_189 (by decide) ?_
              refine G.sub [0, 5, 1, 6, 7, 8] rfl ?_
              exact ih _ _ _ _ h
      · replace h := h.2 hc
        refine g_iload_n 68 3 hC dX9_isFilled_68 rfl ?_
        refine g_aload_n 69 4 hC dX9_isFilled_69 rfl ?_
        refine g_get 70 0 12 hC inlX9 wq_111 dX9_isFilled_70 rfl rfl (by decide) rfl ?_
        refine g_iload 73 2 hC dX9_isFilled_73 rfl ?_
        obtain ⟨hj, h⟩ := h
        refine g_iald 75 2 hC dX9_isFilled_75 rfl rfl hj ?_
        refine g_iadd 76 hC dX9_isFilled_76 ?_
        refine g_istore_n 77 [(3, .int (v3 + (mgap (Int32.toNatClampNeg v4)))), (6, .int (mnow (Int32.toNatClampNeg (((140 : Int32) + ((8 : Int32) * v1)) + v5)))), (5, .int v5), (4, .int v4), (0, .ref (ad b0)), (1, .int v1), (2, .int v2)] hC dX9_isFilled_77 (by rw [hn]; decide) rfl ?_
        refine g_iinc (v := (1 : Int32)) 78 3 [(4, .int (v4 + (1 : Int32))), (3, .int (v3 + (mgap (Int32.toNatClampNeg v4)))), (6, .int (mnow (Int32.toNatClampNeg (((140 : Int32) + ((8 : Int32) * v1)) + v5)))), (5, .int v5), (0, .ref (ad b0)), (1, .int v1), (2, .int v2)] hC dX9_isFilled_78 rfl (by decide) (by rw [hn]; decide) rfl ?_
        refine g_goto 81 186 hC dX9_isFilled_81 (by decide) ?_
        refine g_iinc (v := (1 : Int32)) 186 3 [(5, .int (v5 + (1 : Int32))), (4, .int (v4 + (1 : Int32))), (3, .int (v3 + (mgap (Int32.toNatClampNeg v4)))), (6, .int (mnow (Int32.toNatClampNeg (((140 : Int32) + ((8 : Int32) * v1)) + v5)))), (0, .ref (ad b0)), (1, .int v1), (2, .int v2)] hC dX9_isFilled_186 rfl (by decide) (by rw [hn]; decide) rfl ?_
        refine g_goto 189 28 hC dX9_isFilled_189 (by decide) ?_
        refine G.sub [0, 1, 2, 4, 5, 6] rfl ?_
        exact ih _ _ _ _ h
set_option maxHeartbeats 4000000 in
set_option maxRecDepth 100000 in
theorem c_X9_isFilled (l : Launch) (D : va_G) (cI cS cT : ClassId) (ad : Nat → Nat) (b0 : Nat) (x1 : Int32) (x2 : Int32) (mnow : Nat → Int32) (mundoMany : Int32) (mtokens : Int32) (moneLong : Int32) (motherLong : Int32) (medits : Int32) (mgap : Nat → Int32) (mslot : Nat → Int32) (mgroups : Int32) (post : Int32 → (Nat → Int32) → Prop) (h : P_X9_isFilled x1 x2 mnow mundoMany mtokens moneLong motherLong medits mgap mslot mgroups post) : MI l D (TY cI cS cT) yX9_isFilled cX9_isFilled 9 (some .boolean) rm_X9_isFilled [.ref (ad b0), .int x1, .int x2] (Wd_X9_isFilled cI cS cT ad b0 mnow mundoMany mtokens moneLong motherLong medits mgap mslot mgroups) (fun (r : Int32) w => ∃ (u_mslot : Nat → Int32), w = (Wd_X9_isFilled cI cS cT ad b0 mnow mundoMany mtokens moneLong motherLong medits mgap u_mslot mgroups) ∧ post r u_mslot) := by
  refine MI.of (by decide) (Nat.le_of_ble_eq_true rfl) (fun E hC hR hn => ?_)
  replace hC : Cx l D (TY cI cS cT) E rm_X9_isFilled cX9_isFilled RX9 := hC
  replace hR : RetI D E (fun (r : Int32) w => ∃ (u_mslot : Nat → Int32), w = (Wd_X9_isFilled cI cS cT ad b0 mnow mundoMany mtokens moneLong motherLong medits mgap u_mslot mgroups) ∧ post r u_mslot) 0 0 (some .boolean) := hR
  unfold P_X9_isFilled at h
  change G l D E 0 0 _ [(0, .ref (ad b0)), (1, .int x1), (2, .int x2)] 0 []
  refine g_iconst (v := (0 : Int32)) 0 hC dX9_isFilled_0 (by decide) ?_
  refine g_istore_n 1 [(3, .int (0 : Int32)), (0, .ref (ad b0)), (1, .int x1), (2, .int x2)] hC dX9_isFilled_1 (by rw [hn]; decide) rfl ?_
  obtain ⟨n, h⟩ := h
  refine L_X9_isFilled_2 hC hR hn _ (fun w3_1 mslot_1 h => ?_) n _ _ h
  refine g_iconst (v := (0 : Int32)) 20 hC dX9_isFilled_20 (by decide) ?_
  refine g_istore_n 21 [(3, .int (0 : Int32)), (0, .ref (ad b0)), (1, .int x1), (2, .int x2)] hC dX9_isFilled_21 (by rw [hn]; decide) rfl ?_
  refine g_iconst (v := (0 : Int32)) 22 hC dX9_isFilled_22 (by decide) ?_
  refine g_istore 23 [(4, .int (0 : Int32)), (3, .int (0 : Int32)), (0, .ref (ad b0)), (1, .int x1), (2, .int x2)] hC dX9_isFilled_23 (by rw [hn]; decide) rfl ?_
  refine g_iconst (v := (0 : Int32)) 25 hC dX9_isFilled_25 (by decide) ?_
  refine g_istore 26 [(5, .int (0 : Int32)), (4, .int (0 : Int32)), (3, .int (0 : Int32)), (0, .ref (ad b0)), (1, .int x1), (2, .int x2)] hC dX9_isFilled_26 (by rw [hn]; decide) rfl ?_
  obtain ⟨n, h⟩ := h
  refine L_X9_isFilled_28 hC hR hn _ (fun w5_2 w4_2 w3_2 mslot_2 h => ?_) n _ _ _ _ h
  refine g_iconst (v := (1 : Int32)) 192 hC dX9_isFilled_192 (by decide) ?_
  exact g_zret 193 hC hR dX9_isFilled_193 (by decide) ⟨mslot_2, rfl, h⟩

/-! ===== ProverbCollectionModel.goesOn(I)Z ===== -/
def Wd_X9_goesOn (cI cS cT : ClassId) (ad : Nat → Nat) (b0 : Nat) (mundoMany : Int32) (mtokens : Int32) (moneLong : Int32) (motherLong : Int32) (medits : Int32) (mgap : Nat → Int32) (mgroups : Int32) : va_W := [(ad b0, .inr (9, [.ref (ad (b0 + 1)), .ref (ad (b0 + 2)), .int mundoMany, .int mtokens, .ref (ad (b0 + 3)), .ref (ad (b0 + 4)), .ref (ad (b0 + 5)), .int moneLong, .int motherLong, .ref (ad (b0 + 6)), .int medits, .ref (ad (b0 + 7)), .ref (ad (b0 + 8)), .ref (ad (b0 + 9)), .ref (ad (b0 + 10)), .int mgroups, .ref (ad (b0 + 11)), .ref (ad (b0 + 12))])), (ad (b0 + 8), .inl (cI, 8, .inl mgap))]
def rm_X9_goesOn : Room := { frames := 0, cells := 0, slots := 0, locals := 0 }
theorem kX9_goesOn : KV yX9_goesOn cX9_goesOn 5 (some .boolean) 1 := ⟨wq_484, wq_5, wq_482, wq_483, by decide +kernel⟩
def B_X9_goesOn_13 (mgap : Nat → Int32) (K : Int32 → Prop) (rc : Int32 → Prop) (v3 : Int32) : Prop :=
  (v3 ≤ 0 → K v3) ∧ (¬ v3 ≤ 0 → (vp_in v3 8 ∧ ((¬ (mgap (Int32.toNatClampNeg v3)) = 0 → K v3) ∧ ((mgap (Int32.toNatClampNeg v3)) = 0 → rc (v3 + (-1 : Int32))))))
def P_X9_goesOn_13 (mgap : Nat → Int32) (K : Int32 → Prop) : Nat → Int32 → Prop
  | 0 => fun _ => False
  | n + 1 => fun v3 => B_X9_goesOn_13 mgap K (P_X9_goesOn_13 mgap K n) v3
def P_X9_goesOn (x1 : Int32) (mundoMany : Int32) (mtokens : Int32) (moneLong : Int32) (motherLong : Int32) (medits : Int32) (mgap : Nat → Int32) (mgroups : Int32) (post : Int32 → (Nat → Int32) → Prop) : Prop :=
  ((2 : Int32) ≤ x1 → (∃ n : Nat, P_X9_goesOn_13 mgap (fun w3_1 => (¬ w3_1 = 0 → (vp_in w3_1 8 ∧ (vp_in w3_1 8 ∧ (vp_in (w3_1 - (1 : Int32)) 8 ∧ (vp_in (w3_1 - (1 : Int32)) 8 ∧ (vp_in (x1 - (1 : Int32)) 8 ∧ (post (1 : Int32) (upd (upd (upd mgap (Int32.toNatClampNeg w3_1) (0 : Int32)) (Int32.toNatClampNeg (w3_1 - (1 : Int32))) (((upd mgap (Int32.toNatClampNeg w3_1) (0 : Int32)) (Int32.toNatClampNeg (w3_1 - (1 : Int32)))) + (1 : Int32))) (Int32.toNatClampNeg (x1 - (1 : Int32))) ((mgap (Int32.toNatClampNeg w3_1)) - (1 : Int32)))))))))) ∧ (w3_1 = 0 → post (0 : Int32) mgap)) n (x1 - (1 : Int32)))) ∧ (¬ (2 : Int32) ≤ x1 → post (0 : Int32) mgap)
set_option maxHeartbeats 4000000 in
set_option maxRecDepth 100000 in
theorem L_X9_goesOn_13 {l : Launch} {D : va_G} {cI cS cT : ClassId} {ad : Nat → Nat} {b0 : Nat} {E : CE} {v2 : Int32} {v1 : Int32} {mundoMany : Int32} {mtokens : Int32} {moneLong : Int32} {motherLong : Int32} {medits : Int32} {mgap : Nat → Int32} {mgroups : Int32} {post : Int32 → (Nat → Int32) → Prop} (hC : Cx l D (TY cI cS cT) E rm_X9_goesOn cX9_goesOn RX9) (hR : RetI D E (fun (r : Int32) w => ∃ (u_mgap : Nat → Int32), w = (Wd_X9_goesOn cI cS cT ad b0 mundoMany mtokens moneLong motherLong medits u_mgap mgroups) ∧ post r u_mgap) 0 0 (some .boolean)) (hn : E.nL = 5) (K : Int32 → Prop) (hK : ∀ (v3 : Int32), K v3 → G l D E 0 0 (Wd_X9_goesOn cI cS cT ad b0 mundoMany mtokens moneLong motherLong medits mgap mgroups) [(3, .int v3), (2, .int v2), (0, .ref (ad b0)), (1, .int v1)] 32 []) : ∀ (n : Nat) (v3 : Int32), P_X9_goesOn_13 mgap K n v3 → G l D E 0 0 (Wd_X9_goesOn cI cS cT ad b0 mundoMany mtokens moneLong motherLong medits mgap mgroups) [(3, .int v3), (2, .int v2), (0, .ref (ad b0)), (1, .int v1)] 13 [] := by
  intro n
  induction n with
  | zero => exact fun _ h => h.elim
  | succ n ih =>
    intro v3 h
    replace h : B_X9_goesOn_13 mgap K (P_X9_goesOn_13 mgap K n) v3 := h
    unfold B_X9_goesOn_13 at h
    refine g_iload_n 13 0 hC dX9_goesOn_13 rfl ?_
    refine g_if_le 14 32 hC dX9_goesOn_14 (by decide) (fun hc => ?_) (fun hc => ?_)
    · replace h := h.1 hc
      refine G.sub [0, 1, 2, 3] rfl ?_
      exact hK v3 h
    · replace h := h.2 hc
      refine g_aload_n 17 2 hC dX9_goesOn_17 rfl ?_
      refine g_get 18 0 12 hC inlX9 wq_111 dX9_goesOn_18 rfl rfl (by decide) rfl ?_
      refine g_iload_n 21 0 hC dX9_goesOn_21 rfl ?_
      obtain ⟨hj, h⟩ := h
      refine g_iald 22 1 hC dX9_goesOn_22 rfl rfl hj ?_
      refine g_if_ne 23 32 hC dX9_goesOn_23 (by decide) (fun hc => ?_) (fun hc => ?_)
      · replace h := h.1 hc
        refine G.sub [0, 1, 2, 3] rfl ?_
        exact hK v3 h
      · replace h := h.2 hc
        refine g_iinc (v := (-1 : Int32)) 26 0 [(3, .int (v3 + (-1 : Int32))), (2, .int v2), (0, .ref (ad b0)), (1, .int v1)] hC dX9_goesOn_26 rfl (by decide) (by rw [hn]; decide) rfl ?_
        refine g_goto 29 13 hC dX9_goesOn_29 (by decide) ?_
        refine G.sub [0, 1, 2, 3] rfl ?_
        exact ih _ h
set_option maxHeartbeats 4000000 in
set_option maxRecDepth 100000 in
theorem c_X9_goesOn (l : Launch) (D : va_G) (cI cS cT : ClassId) (ad : Nat → Nat) (b0 : Nat) (x1 : Int32) (mundoMany : Int32) (mtokens : Int32) (moneLong : Int32) (motherLong : Int32) (medits : Int32) (mgap : Nat → Int32) (mgroups : Int32) (post : Int32 → (Nat → Int32) → Prop) (h : P_X9_goesOn x1 mundoMany mtokens moneLong motherLong medits mgap mgroups post) : MI l D (TY cI cS cT) yX9_goesOn cX9_goesOn 5 (some .boolean) rm_X9_goesOn [.ref (ad b0), .int x1] (Wd_X9_goesOn cI cS cT ad b0 mundoMany mtokens moneLong motherLong medits mgap mgroups) (fun (r : Int32) w => ∃ (u_mgap : Nat → Int32), w = (Wd_X9_goesOn cI cS cT ad b0 mundoMany mtokens moneLong motherLong medits u_mgap mgroups) ∧ post r u_mgap) := by
  refine MI.of (by decide) (Nat.le_of_ble_eq_true rfl) (fun E hC hR hn => ?_)
  replace hC : Cx l D (TY cI cS cT) E rm_X9_goesOn cX9_goesOn RX9 := hC
  replace hR : RetI D E (fun (r : Int32) w => ∃ (u_mgap : Nat → Int32), w = (Wd_X9_goesOn cI cS cT ad b0 mundoMany mtokens moneLong motherLong medits u_mgap mgroups) ∧ post r u_mgap) 0 0 (some .boolean) := hR
  unfold P_X9_goesOn at h
  change G l D E 0 0 _ [(0, .ref (ad b0)), (1, .int x1)] 0 []
  refine g_iload_n 0 1 hC dX9_goesOn_0 rfl ?_
  refine g_iconst (v := (2 : Int32)) 1 hC dX9_goesOn_1 (by decide) ?_
  refine g_icmp_ge 2 7 hC dX9_goesOn_2 (by decide) (fun hc => ?_) (fun hc => ?_)
  · replace h := h.1 hc
    refine g_iload_n 7 1 hC dX9_goesOn_7 rfl ?_
    refine g_iconst (v := (1 : Int32)) 8 hC dX9_goesOn_8 (by decide) ?_
    refine g_isub 9 hC dX9_goesOn_9 ?_
    refine g_istore_n 10 [(2, .int (x1 - (1 : Int32))), (0, .ref (ad b0)), (1, .int x1)] hC dX9_goesOn_10 (by rw [hn]; decide) rfl ?_
    refine g_iload_n 11 0 hC dX9_goesOn_11 rfl ?_
    refine g_istore_n 12 [(3, .int (x1 - (1 : Int32))), (2, .int (x1 - (1 : Int32))), (0, .ref (ad b0)), (1, .int x1)] hC dX9_goesOn_12 (by rw [hn]; decide) rfl ?_
    obtain ⟨n, h⟩ := h
    refine L_X9_goesOn_13 hC hR hn _ (fun w3_1 h => ?_) n _ h
    refine g_iload_n 32 0 hC dX9_goesOn_32 rfl ?_
    refine g_if_ne 33 38 hC dX9_goesOn_33 (by decide) (fun hc => ?_) (fun hc => ?_)
    · replace h := h.1 hc
      refine g_aload_n 38 2 hC dX9_goesOn_38 rfl ?_
      refine g_get 39 0 12 hC inlX9 wq_111 dX9_goesOn_39 rfl rfl (by decide) rfl ?_
      refine g_iload_n 42 0 hC dX9_goesOn_42 rfl ?_
      obtain ⟨hj, h⟩ := h
      refine g_iald 43 1 hC dX9_goesOn_43 rfl rfl hj ?_
      refine g_istore 44 [(4, .int (mgap (Int32.toNatClampNeg w3_1))), (3, .int w3_1), (2, .int (x1 - (1 : Int32))), (0, .ref (ad b0)), (1, .int x1)] hC dX9_goesOn_44 (by rw [hn]; decide) rfl ?_
      refine g_aload_n 46 3 hC dX9_goesOn_46 rfl ?_
      refine g_get 47 0 12 hC inlX9 wq_111 dX9_goesOn_47 rfl rfl (by decide) rfl ?_
      refine g_iload_n 50 1 hC dX9_goesOn_50 rfl ?_
      refine g_iconst (v := (0 : Int32)) 51 hC dX9_goesOn_51 (by decide) ?_
      obtain ⟨hj, h⟩ := h
      refine g_iast 52 1 (Wd_X9_goesOn cI cS cT ad b0 mundoMany mtokens moneLong motherLong medits (upd mgap (Int32.toNatClampNeg w3_1) (0 : Int32)) mgroups) hC dX9_goesOn_52 rfl rfl hj rfl ?_
      refine g_aload_n 53 3 hC dX9_goesOn_53 rfl ?_
      refine g_get 54 0 12 hC inlX9 wq_111 dX9_goesOn_54 rfl rfl (by decide) rfl ?_
      refine g_iload_n 57 1 hC dX9_goesOn_57 rfl ?_
      refine g_iconst (v := (1 : Int32)) 58 hC dX9_goesOn_58 (by decide) ?_
      refine g_isub 59 hC dX9_goesOn_59 ?_
      refine g_dup2 60 hC dX9_goesOn_60 rfl rfl ?_
      obtain ⟨hj, h⟩ := h
      refine g_iald 61 1 hC dX9_goesOn_61 rfl rfl hj ?_
      refine g_iconst (v := (1 : Int32)) 62 hC dX9_goesOn_62 (by decide) ?_
      refine g_iadd 63 hC dX9_goesOn_63 ?_
      obtain ⟨hj, h⟩ := h
      refine g_iast 64 1 (Wd_X9_goesOn cI cS cT ad b0 mundoMany mtokens moneLong motherLong medits (upd (upd mgap (Int32.toNatClampNeg w3_1) (0 : Int32)) (Int32.toNatClampNeg (w3_1 - (1 : Int32))) (((upd mgap (Int32.toNatClampNeg w3_1) (0 : Int32)) (Int32.toNatClampNeg (w3_1 - (1 : Int32)))) + (1 : Int32))) mgroups) hC dX9_goesOn_64 rfl rfl hj rfl ?_
      refine g_aload_n 65 3 hC dX9_goesOn_65 rfl ?_
      refine g_get 66 0 12 hC inlX9 wq_111 dX9_goesOn_66 rfl rfl (by decide) rfl ?_
      refine g_iload_n 69 2 hC dX9_goesOn_69 rfl ?_
      refine g_iload 70 0 hC dX9_goesOn_70 rfl ?_
      refine g_iconst (v := (1 : Int32)) 72 hC dX9_goesOn_72 (by decide) ?_
      refine g_isub 73 hC dX9_goesOn_73 ?_
      obtain ⟨hj, h⟩ := h
      refine g_iast 74 1 (Wd_X9_goesOn cI cS cT ad b0 mundoMany mtokens moneLong motherLong medits (upd (upd (upd mgap (Int32.toNatClampNeg w3_1) (0 : Int32)) (Int32.toNatClampNeg (w3_1 - (1 : Int32))) (((upd mgap (Int32.toNatClampNeg w3_1) (0 : Int32)) (Int32.toNatClampNeg (w3_1 - (1 : Int32)))) + (1 : Int32))) (Int32.toNatClampNeg (x1 - (1 : Int32))) ((mgap (Int32.toNatClampNeg w3_1)) - (1 : Int32))) mgroups) hC dX9_goesOn_74 rfl rfl hj rfl ?_
      refine g_iconst (v := (1 : Int32)) 75 hC dX9_goesOn_75 (by decide) ?_
      exact g_zret 76 hC hR dX9_goesOn_76 (by decide) ⟨(upd (upd (upd mgap (Int32.toNatClampNeg w3_1) (0 : Int32)) (Int32.toNatClampNeg (w3_1 - (1 : Int32))) (((upd mgap (Int32.toNatClampNeg w3_1) (0 : Int32)) (Int32.toNatClampNeg (w3_1 - (1 : Int32)))) + (1 : Int32))) (Int32.toNatClampNeg (x1 - (1 : Int32))) ((mgap (Int32.toNatClampNeg w3_1)) - (1 : Int32))), rfl, h⟩
    · replace h := h.2 hc
      refine g_iconst (v := (0 : Int32)) 36 hC dX9_goesOn_36 (by decide) ?_
      exact g_zret 37 hC hR dX9_goesOn_37 (by decide) ⟨mgap, rfl, h⟩
  · replace h := h.2 hc
    refine g_iconst (v := (0 : Int32)) 5 hC dX9_goesOn_5 (by decide) ?_
    exact g_zret 6 hC hR dX9_goesOn_6 (by decide) ⟨mgap, rfl, h⟩

/-! ===== ProverbCollectionModel.fills(II)I ===== -/
def Wd_X9_fills (cI cS cT : ClassId) (ad : Nat → Nat) (b0 : Nat) (mnow : Nat → Int32) (mundoMany : Int32) (mtokens : Int32) (moneLong : Int32) (motherLong : Int32) (medits : Int32) (mgap : Nat → Int32) (mslot : Nat → Int32) (mfirstSlot : Nat → Int32) (mgroups : Int32) : va_W := [(ad b0, .inr (9, [.ref (ad (b0 + 1)), .ref (ad (b0 + 2)), .int mundoMany, .int mtokens, .ref (ad (b0 + 3)), .ref (ad (b0 + 4)), .ref (ad (b0 + 5)), .int moneLong, .int motherLong, .ref (ad (b0 + 6)), .int medits, .ref (ad (b0 + 7)), .ref (ad (b0 + 8)), .ref (ad (b0 + 9)), .ref (ad (b0 + 10)), .int mgroups, .ref (ad (b0 + 11)), .ref (ad (b0 + 12))])), (ad (b0 + 1), .inl (cI, 193, .inl mnow)), (ad (b0 + 8), .inl (cI, 8, .inl mgap)), (ad (b0 + 9), .inl (cI, 4, .inl mslot)), (ad (b0 + 10), .inl (cI, 4, .inl mfirstSlot))]
def rm_X9_fills : Room := { frames := 2, cells := 0, slots := 0, locals := 50 }
theorem kX9_fills : KV yX9_fills cX9_fills 8 (some .int) 2 := ⟨wq_472, wq_5, wq_470, wq_471, by decide +kernel⟩
def B_X9_fills_52 (K : Int32 → (Nat → Int32) → Prop) (rc : Int32 → (Nat → Int32) → Prop) (v5 : Int32) (mgap : Nat → Int32) : Prop :=
  ((8 : Int32) ≤ v5 → K v5 mgap) ∧ (¬ (8 : Int32) ≤ v5 → (vp_in v5 8 ∧ (rc (v5 + (1 : Int32)) (upd mgap (Int32.toNatClampNeg v5) (0 : Int32)))))
def P_X9_fills_52 (K : Int32 → (Nat → Int32) → Prop) : Nat → Int32 → (Nat → Int32) → Prop
  | 0 => fun _ _ => False
  | n + 1 => fun v5 mgap => B_X9_fills_52 K (P_X9_fills_52 K n) v5 mgap
def B_X9_fills_110 (v5 : Int32) (mslot : Nat → Int32) (K : Int32 → (Nat → Int32) → Prop) (rc : Int32 → (Nat → Int32) → Prop) (v7 : Int32) (mfirstSlot : Nat → Int32) : Prop :=
  ((4 : Int32) ≤ v7 → K v7 mfirstSlot) ∧ (¬ (4 : Int32) ≤ v7 → ((¬ v5 = 0 → K v7 mfirstSlot) ∧ (v5 = 0 → (vp_in v7 4 ∧ (vp_in v7 4 ∧ (rc (v7 + (1 : Int32)) (upd mfirstSlot (Int32.toNatClampNeg v7) (mslot (Int32.toNatClampNeg v7)))))))))
def P_X9_fills_110 (v5 : Int32) (mslot : Nat → Int32) (K : Int32 → (Nat → Int32) → Prop) : Nat → Int32 → (Nat → Int32) → Prop
  | 0 => fun _ _ => False
  | n + 1 => fun v7 mfirstSlot => B_X9_fills_110 v5 mslot K (P_X9_fills_110 v5 mslot K n) v7 mfirstSlot
def B_X9_fills_93 (v3 : Int32) (v1 : Int32) (v2 : Int32) (mnow : Nat → Int32) (mundoMany : Int32) (mtokens : Int32) (moneLong : Int32) (motherLong : Int32) (medits : Int32) (mgroups : Int32) (K : Int32 → Int32 → (Nat → Int32) → (Nat → Int32) → (Nat → Int32) → Prop) (rc : Int32 → Int32 → (Nat → Int32) → (Nat → Int32) → (Nat → Int32) → Prop) (v6 : Int32) (v5 : Int32) (mgap : Nat → Int32) (mslot : Nat → Int32) (mfirstSlot : Nat → Int32) : Prop :=
  (v6 = 0 → K v6 v5 mgap mslot mfirstSlot) ∧ (¬ v6 = 0 → (P_X9_isFilled v1 v2 mnow mundoMany mtokens moneLong motherLong medits mgap mslot mgroups (fun r4 u3 => (r4 = 0 → P_X9_goesOn v3 mundoMany mtokens moneLong motherLong medits mgap mgroups (fun r6 u5 => rc r6 v5 u5 u3 mfirstSlot)) ∧ (¬ r4 = 0 → (∃ n : Nat, P_X9_fills_110 v5 u3 (fun w7_7 mfirstSlot_7 => P_X9_goesOn v3 mundoMany mtokens moneLong motherLong medits mgap mgroups (fun r9 u8 => rc r9 (v5 + (1 : Int32)) u8 u3 mfirstSlot_7)) n (0 : Int32) mfirstSlot)))))
def P_X9_fills_93 (v3 : Int32) (v1 : Int32) (v2 : Int32) (mnow : Nat → Int32) (mundoMany : Int32) (mtokens : Int32) (moneLong : Int32) (motherLong : Int32) (medits : Int32) (mgroups : Int32) (K : Int32 → Int32 → (Nat → Int32) → (Nat → Int32) → (Nat → Int32) → Prop) : Nat → Int32 → Int32 → (Nat → Int32) → (Nat → Int32) → (Nat → Int32) → Prop
  | 0 => fun _ _ _ _ _ => False
  | n + 1 => fun v6 v5 mgap mslot mfirstSlot => B_X9_fills_93 v3 v1 v2 mnow mundoMany mtokens moneLong motherLong medits mgroups K (P_X9_fills_93 v3 v1 v2 mnow mundoMany mtokens moneLong motherLong medits mgroups K n) v6 v5 mgap mslot mfirstSlot
def P_X9_fills (x1 : Int32) (x2 : Int32) (mnow : Nat → Int32) (mundoMany : Int32) (mtokens : Int32) (moneLong : Int32) (motherLong : Int32) (medits : Int32) (mgap : Nat → Int32) (mslot : Nat → Int32) (mfirstSlot : Nat → Int32) (mgroups : Int32) (post : Int32 → (Nat → Int32) → (Nat → Int32) → (Nat → Int32) → Prop) : Prop :=
  P_X9_tokensOf x1 (64 : Int32) (64 : Int32) mnow mundoMany mtokens moneLong motherLong medits mgroups (fun r1 => vp_in ((1 : Int32) + x2) 193 ∧ (vp_in ((134 : Int32) + x1) 193 ∧ ((((mnow (Int32.toNatClampNeg ((1 : Int32) + x2))) - ((mnow (Int32.toNatClampNeg ((134 : Int32) + x1))) - r1)) < 0 → post (0 : Int32) mgap mslot mfirstSlot) ∧ (¬ ((mnow (Int32.toNatClampNeg ((1 : Int32) + x2))) - ((mnow (Int32.toNatClampNeg ((134 : Int32) + x1))) - r1)) < 0 → ((¬ r1 = 0 → (∃ n : Nat, P_X9_fills_52 (fun w5_2 mgap_2 => (r1 ≤ 0 → (∃ n : Nat, P_X9_fills_93 r1 x1 x2 mnow mundoMany mtokens moneLong motherLong medits mgroups (fun w6_10 w5_10 mgap_10 mslot_10 mfirstSlot_10 => post w5_10 mgap_10 mslot_10 mfirstSlot_10) n (1 : Int32) (0 : Int32) mgap_2 mslot mfirstSlot)) ∧ (¬ r1 ≤ 0 → (vp_in (r1 - (1 : Int32)) 8 ∧ (∃ n : Nat, P_X9_fills_93 r1 x1 x2 mnow mundoMany mtokens moneLong motherLong medits mgroups (fun w6_18 w5_18 mgap_18 mslot_18 mfirstSlot_18 => post w5_18 mgap_18 mslot_18 mfirstSlot_18) n (1 : Int32) (0 : Int32) (upd mgap_2 (Int32.toNatClampNeg (r1 - (1 : Int32))) ((mnow (Int32.toNatClampNeg ((1 : Int32) + x2))) - ((mnow (Int32.toNatClampNeg ((134 : Int32) + x1))) - r1))) mslot mfirstSlot)))) n (0 : Int32) mgap)) ∧ (r1 = 0 → ((((mnow (Int32.toNatClampNeg ((1 : Int32) + x2))) - ((mnow (Int32.toNatClampNeg ((134 : Int32) + x1))) - r1)) ≤ 0 → (∃ n : Nat, P_X9_fills_52 (fun w5_19 mgap_19 => (r1 ≤ 0 → (∃ n : Nat, P_X9_fills_93 r1 x1 x2 mnow mundoMany mtokens moneLong motherLong medits mgroups (fun w6_27 w5_27 mgap_27 mslot_27 mfirstSlot_27 => post w5_27 mgap_27 mslot_27 mfirstSlot_27) n (1 : Int32) (0 : Int32) mgap_19 mslot mfirstSlot)) ∧ (¬ r1 ≤ 0 → (vp_in (r1 - (1 : Int32)) 8 ∧ (∃ n : Nat, P_X9_fills_93 r1 x1 x2 mnow mundoMany mtokens moneLong motherLong medits mgroups (fun w6_35 w5_35 mgap_35 mslot_35 mfirstSlot_35 => post w5_35 mgap_35 mslot_35 mfirstSlot_35) n (1 : Int32) (0 : Int32) (upd mgap_19 (Int32.toNatClampNeg (r1 - (1 : Int32))) ((mnow (Int32.toNatClampNeg ((1 : Int32) + x2))) - ((mnow (Int32.toNatClampNeg ((134 : Int32) + x1))) - r1))) mslot mfirstSlot)))) n (0 : Int32) mgap)) ∧ (¬ ((mnow (Int32.toNatClampNeg ((1 : Int32) + x2))) - ((mnow (Int32.toNatClampNeg ((134 : Int32) + x1))) - r1)) ≤ 0 → post (0 : Int32) mgap mslot mfirstSlot))))))))
set_option maxHeartbeats 4000000 in
set_option maxRecDepth 100000 in
theorem L_X9_fills_52 {l : Launch} {D : va_G} {cI cS cT : ClassId} {ad : Nat → Nat} {b0 : Nat} {E : CE} {v4 : Int32} {v3 : Int32} {v1 : Int32} {v2 : Int32} {mnow : Nat → Int32} {mundoMany : Int32} {mtokens : Int32} {moneLong : Int32} {motherLong : Int32} {medits : Int32} {mslot : Nat → Int32} {mfirstSlot : Nat → Int32} {mgroups : Int32} {post : Int32 → (Nat → Int32) → (Nat → Int32) → (Nat → Int32) → Prop} (hC : Cx l D (TY cI cS cT) E rm_X9_fills cX9_fills RX9) (hR : RetI D E (fun (r : Int32) w => ∃ (u_mgap : Nat → Int32) (u_mslot : Nat → Int32) (u_mfirstSlot : Nat → Int32), w = (Wd_X9_fills cI cS cT ad b0 mnow mundoMany mtokens moneLong motherLong medits u_mgap u_mslot u_mfirstSlot mgroups) ∧ post r u_mgap u_mslot u_mfirstSlot) 0 0 (some .int)) (hn : E.nL = 8) (K : Int32 → (Nat → Int32) → Prop) (hK : ∀ (v5 : Int32) (mgap : Nat → Int32), K v5 mgap → G l D E 0 0 (Wd_X9_fills cI cS cT ad b0 mnow mundoMany mtokens moneLong motherLong medits mgap mslot mfirstSlot mgroups) [(5, .int v5), (4, .int v4), (3, .int v3), (0, .ref (ad b0)), (1, .int v1), (2, .int v2)] 73 []) : ∀ (n : Nat) (v5 : Int32) (mgap : Nat → Int32), P_X9_fills_52 K n v5 mgap → G l D E 0 0 (Wd_X9_fills cI cS cT ad b0 mnow mundoMany mtokens moneLong motherLong medits mgap mslot mfirstSlot mgroups) [(5, .int v5), (4, .int v4), (3, .int v3), (0, .ref (ad b0)), (1, .int v1), (2, .int v2)] 52 [] := by
  intro n
  induction n with
  | zero => exact fun _ _ h => h.elim
  | succ n ih =>
    intro v5 mgap h
    replace h : B_X9_fills_52 K (P_X9_fills_52 K n) v5 mgap := h
    unfold B_X9_fills_52 at h
    refine g_iload 52 0 hC dX9_fills_52 rfl ?_
    refine g_bipush (v := (8 : Int32)) 54 hC dX9_fills_54 (by decide) ?_
    refine g_icmp_ge 56 73 hC dX9_fills_56 (by decide) (fun hc => ?_) (fun hc => ?_)
    · replace h := h.1 hc
      refine G.sub [0, 1, 2, 3, 4, 5] rfl ?_
      exact hK v5 mgap h
    · replace h := h.2 hc
      refine g_aload_n 59 3 hC dX9_fills_59 rfl ?_
      refine g_get 60 0 12 hC inlX9 wq_111 dX9_fills_60 rfl rfl (by decide) rfl ?_
      refine g_iload 63 0 hC dX9_fills_63 rfl ?_
      refine g_iconst (v := (0 : Int32)) 65 hC dX9_fills_65 (by decide) ?_
      obtain ⟨hj, h⟩ := h
      refine g_iast 66 2 (Wd_X9_fills cI cS cT ad b0 mnow mundoMany mtokens moneLong motherLong medits (upd mgap (Int32.toNatClampNeg v5) (0 : Int32)) mslot mfirstSlot mgroups) hC dX9_fills_66 rfl rfl hj rfl ?_
      refine g_iinc (v := (1 : Int32)) 67 0 [(5, .int (v5 + (1 : Int32))), (4, .int v4), (3, .int v3), (0, .ref (ad b0)), (1, .int v1), (2, .int v2)] hC dX9_fills_67 rfl (by decide) (by rw [hn]; decide) rfl ?_
      refine g_goto 70 52 hC dX9_fills_70 (by decide) ?_
      refine G.sub [0, 1, 2, 3, 4, 5] rfl ?_
      exact ih _ _ h
set_option maxHeartbeats 4000000 in
set_option maxRecDepth 100000 in
theorem L_X9_fills_110 {l : Launch} {D : va_G} {cI cS cT : ClassId} {ad : Nat → Nat} {b0 : Nat} {E : CE} {v6 : Int32} {v5 : Int32} {v4 : Int32} {v3 : Int32} {v1 : Int32} {v2 : Int32} {mnow : Nat → Int32} {mundoMany : Int32} {mtokens : Int32} {moneLong : Int32} {motherLong : Int32} {medits : Int32} {mgap : Nat → Int32} {mslot : Nat → Int32} {mgroups : Int32} {post : Int32 → (Nat → Int32) → (Nat → Int32) → (Nat → Int32) → Prop} (hC : Cx l D (TY cI cS cT) E rm_X9_fills cX9_fills RX9) (hR : RetI D E (fun (r : Int32) w => ∃ (u_mgap : Nat → Int32) (u_mslot : Nat → Int32) (u_mfirstSlot : Nat → Int32), w = (Wd_X9_fills cI cS cT ad b0 mnow mundoMany mtokens moneLong motherLong medits u_mgap u_mslot u_mfirstSlot mgroups) ∧ post r u_mgap u_mslot u_mfirstSlot) 0 0 (some .int)) (hn : E.nL = 8) (K : Int32 → (Nat → Int32) → Prop) (hK : ∀ (v7 : Int32) (mfirstSlot : Nat → Int32), K v7 mfirstSlot → G l D E 0 0 (Wd_X9_fills cI cS cT ad b0 mnow mundoMany mtokens moneLong motherLong medits mgap mslot mfirstSlot mgroups) [(7, .int v7), (6, .int v6), (5, .int v5), (4, .int v4), (3, .int v3), (0, .ref (ad b0)), (1, .int v1), (2, .int v2)] 141 []) : ∀ (n : Nat) (v7 : Int32) (mfirstSlot : Nat → Int32), P_X9_fills_110 v5 mslot K n v7 mfirstSlot → G l D E 0 0 (Wd_X9_fills cI cS cT ad b0 mnow mundoMany mtokens moneLong motherLong medits mgap mslot mfirstSlot mgroups) [(7, .int v7), (6, .int v6), (5, .int v5), (4, .int v4), (3, .int v3), (0, .ref (ad b0)), (1, .int v1), (2, .int v2)] 110 [] := by
  intro n
  induction n with
  | zero => exact fun _ _ h => h.elim
  | succ n ih =>
    intro v7 mfirstSlot h
    replace h : B_X9_fills_110 v5 mslot K (P_X9_fills_110 v5 mslot K n) v7 mfirstSlot := h
    unfold B_X9_fills_110 at h
    refine g_iload 110 0 hC dX9_fills_110 rfl ?_
    refine g_iconst (v := (4 : Int32)) 112 hC dX9_fills_112 (by decide) ?_
    refine g_icmp_ge 113 141 hC dX9_fills_113 (by decide) (fun hc => ?_) (fun hc => ?_)
    · replace h := h.1 hc
      refine G.sub [0, 1, 2, 3, 4, 5, 6, 7] rfl ?_
      exact hK v7 mfirstSlot h
    · replace h := h.2 hc
      refine g_iload 116 2 hC dX9_fills_116 rfl ?_
      refine g_if_ne 118 141 hC dX9_fills_118 (by decide) (fun hc => ?_) (fun hc => ?_)
      · replace h := h.1 hc
        refine G.sub [0, 1, 2, 3, 4, 5, 6, 7] rfl ?_
        exact hK v7 mfirstSlot h
      · replace h := h.2 hc
        refine g_aload_n 121 5 hC dX9_fills_121 rfl ?_
        refine g_get 122 0 14 hC inlX9 wq_113 dX9_fills_122 rfl rfl (by decide) rfl ?_
        refine g_iload 125 0 hC dX9_fills_125 rfl ?_
        refine g_aload_n 127 5 hC dX9_fills_127 rfl ?_
        refine g_get 128 0 13 hC inlX9 wq_112 dX9_fills_128 rfl rfl (by decide) rfl ?_
        refine g_iload 131 0 hC dX9_fills_131 rfl ?_
        obtain ⟨hj, h⟩ := h
        refine g_iald 133 3 hC dX9_fills_133 rfl rfl hj ?_
        obtain ⟨hj, h⟩ := h
        refine g_iast 134 4 (Wd_X9_fills cI cS cT ad b0 mnow mundoMany mtokens moneLong motherLong medits mgap mslot (upd mfirstSlot (Int32.toNatClampNeg v7) (mslot (Int32.toNatClampNeg v7))) mgroups) hC dX9_fills_134 rfl rfl hj rfl ?_
        refine g_iinc (v := (1 : Int32)) 135 0 [(7, .int (v7 + (1 : Int32))), (6, .int v6), (5, .int v5), (4, .int v4), (3, .int v3), (0, .ref (ad b0)), (1, .int v1), (2, .int v2)] hC dX9_fills_135 rfl (by decide) (by rw [hn]; decide) rfl ?_
        refine g_goto 138 110 hC dX9_fills_138 (by decide) ?_
        refine G.sub [0, 1, 2, 3, 4, 5, 6, 7] rfl ?_
        exact ih _ _ h
set_option maxHeartbeats 4000000 in
set_option maxRecDepth 100000 in
theorem L_X9_fills_93 {l : Launch} {D : va_G} {cI cS cT : ClassId} {ad : Nat → Nat} {b0 : Nat} {E : CE} {v4 : Int32} {v3 : Int32} {v1 : Int32} {v2 : Int32} {mnow : Nat → Int32} {mundoMany : Int32} {mtokens : Int32} {moneLong : Int32} {motherLong : Int32} {medits : Int32} {mgroups : Int32} {post : Int32 → (Nat → Int32) → (Nat → Int32) → (Nat → Int32) → Prop} (hC : Cx l D (TY cI cS cT) E rm_X9_fills cX9_fills RX9) (hR : RetI D E (fun (r : Int32) w => ∃ (u_mgap : Nat → Int32) (u_mslot : Nat → Int32) (u_mfirstSlot : Nat → Int32), w = (Wd_X9_fills cI cS cT ad b0 mnow mundoMany mtokens moneLong motherLong medits u_mgap u_mslot u_mfirstSlot mgroups) ∧ post r u_mgap u_mslot u_mfirstSlot) 0 0 (some .int)) (hn : E.nL = 8) (K : Int32 → Int32 → (Nat → Int32) → (Nat → Int32) → (Nat → Int32) → Prop) (hK : ∀ (v6 : Int32) (v5 : Int32) (mgap : Nat → Int32) (mslot : Nat → Int32) (mfirstSlot : Nat → Int32), K v6 v5 mgap mslot mfirstSlot → G l D E 0 0 (Wd_X9_fills cI cS cT ad b0 mnow mundoMany mtokens moneLong motherLong medits mgap mslot mfirstSlot mgroups) [(6, .int v6), (5, .int v5), (4, .int v4), (3, .int v3), (0, .ref (ad b0)), (1, .int v1), (2, .int v2)] 154 []) : ∀ (n : Nat) (v6 : Int32) (v5 : Int32) (mgap : Nat → Int32) (mslot : Nat → Int32) (mfirstSlot : Nat → Int32), P_X9_fills_93 v3 v1 v2 mnow mundoMany mtokens moneLong motherLong medits mgroups K n v6 v5 mgap mslot mfirstSlot → G l D E 0 0 (Wd_X9_fills cI cS cT ad b0 mnow mundoMany mtokens moneLong motherLong medits mgap mslot mfirstSlot mgroups) [(6, .int v6), (5, .int v5), (4, .int v4), (3, .int v3), (0, .ref (ad b0)), (1, .int v1), (2, .int v2)] 93 [] := by
  intro n
  induction n with
  | zero => exact fun _ _ _ _ _ h => h.elim
  | succ n ih =>
    intro v6 v5 mgap mslot mfirstSlot h
    replace h : B_X9_fills_93 v3 v1 v2 mnow mundoMany mtokens moneLong motherLong medits mgroups K (P_X9_fills_93 v3 v1 v2 mnow mundoMany mtokens moneLong motherLong medits mgroups K n) v6 v5 mgap mslot mfirstSlot := h
    unfold B_X9_fills_93 at h
    refine g_iload 93 0 hC dX9_fills_93 rfl ?_
    refine g_if_eq 95 154 hC dX9_fills_95 (by decide) (fun hc => ?_) (fun hc => ?_)
    · replace h := h.1 hc
      refine G.sub [0, 1, 2, 3, 4, 5, 6] rfl ?_
      exact hK v6 v5 mgap mslot mfirstSlot h
    · replace h := h.2 hc
      refine g_aload_n 98 4 hC dX9_fills_98 rfl ?_
      refine g_iload_n 99 5 hC dX9_fills_99 rfl ?_
      refine g_iload_n 100 6 hC dX9_fills_100 rfl ?_
      refine g_cVi (As := [.int v1, .int v2]) (rest := []) 101 0 [0, 1, 2, 3] hC (c_X9_isFilled l D cI cS cT ad b0 v1 v2 mnow mundoMany mtokens moneLong motherLong medits mgap mslot mgroups _ h) kX9_isFilled wq_477 dX9_fills_101 rfl rfl ⟨Nat.le_of_ble_eq_true rfl, Nat.le_of_ble_eq_true rfl⟩ rfl rfl (Nat.zero_le _) (Nat.zero_le _) rfl rfl rfl (Nat.le_of_ble_eq_true rfl) ?_
      rintro r4 _ ⟨u3, rfl, h⟩
      refine ⟨Nat.le_of_ble_eq_true rfl, G.upd [4] (Wd_X9_fills cI cS cT ad b0 mnow mundoMany mtokens moneLong motherLong medits mgap u3 mfirstSlot mgroups) rfl rfl rfl rfl rfl ?_⟩
      refine g_if_eq 104 144 hC dX9_fills_104 (by decide) (fun hc => ?_) (fun hc => ?_)
      · replace h := h.1 hc
        refine g_aload_n 144 4 hC dX9_fills_144 rfl ?_
        refine g_iload_n 145 3 hC dX9_fills_145 rfl ?_
        refine g_cVi (As := [.int v3]) (rest := []) 146 0 [0, 2] hC (c_X9_goesOn l D cI cS cT ad b0 v3 mundoMany mtokens moneLong motherLong medits mgap mgroups _ h) kX9_goesOn wq_481 dX9_fills_146 rfl rfl ⟨Nat.le_of_ble_eq_true rfl, Nat.le_of_ble_eq_true rfl⟩ rfl rfl (Nat.zero_le _) (Nat.zero_le _) rfl rfl rfl (Nat.le_of_ble_eq_true rfl) ?_
        rintro r6 _ ⟨u5, rfl, h⟩
        refine ⟨Nat.le_of_ble_eq_true rfl, G.upd [1, 3, 4] (Wd_X9_fills cI cS cT ad b0 mnow mundoMany mtokens moneLong motherLong medits u5 u3 mfirstSlot mgroups) rfl rfl rfl rfl rfl ?_⟩
        refine g_istore 149 [(6, .int r6), (5, .int v5), (4, .int v4), (3, .int v3), (0, .ref (ad b0)), (1, .int v1), (2, .int v2)] hC dX9_fills_149 (by rw [hn]; decide) rfl ?_
        refine g_goto 151 93 hC dX9_fills_151 (by decide) ?_
        refine G.sub [0, 1, 2, 3, 4, 5, 6] rfl ?_
        exact ih _ _ _ _ _ h
      · replace h := h.2 hc
        refine g_iconst (v := (0 : Int32)) 107 hC dX9_fills_107 (by decide) ?_
        refine g_istore 108 [(7, .int (0 : Int32)), (6, .int v6), (5, .int v5), (4, .int v4), (3, .int v3), (0, .ref (ad b0)), (1, .int v1), (2, .int v2)] hC dX9_fills_108 (by rw [hn]; decide) rfl ?_
        obtain ⟨n, h⟩ := h
        refine L_X9_fills_110 hC hR hn _ (fun w7_7 mfirstSlot_7 h => ?_) n _ _ h
        refine g_iinc (v := (1 : Int32)) 141 2 [(5, .int (v5 + (1 : Int32))), (7, .int w7_7), (6, .int v6), (4, .int v4), (3, .int v3), (0, .ref (ad b0)), (1, .int v1), (2, .int v2)] hC dX9_fills_141 rfl (by decide) (by rw [hn]; decide) rfl ?_
        refine g_aload_n 144 5 hC dX9_fills_144 rfl ?_
        refine g_iload_n 145 4 hC dX9_fills_145 rfl ?_
        refine g_cVi (As := [.int v3]) (rest := []) 146 0 [0, 2] hC (c_X9_goesOn l D cI cS cT ad b0 v3 mundoMany mtokens moneLong motherLong medits mgap mgroups _ h) kX9_goesOn wq_481 dX9_fills_146 rfl rfl ⟨Nat.le_of_ble_eq_true rfl, Nat.le_of_ble_eq_true rfl⟩ rfl rfl (Nat.zero_le _) (Nat.zero_le _) rfl rfl rfl (Nat.le_of_ble_eq_true rfl) ?_
        rintro r9 _ ⟨u8, rfl, h⟩
        refine ⟨Nat.le_of_ble_eq_true rfl, G.upd [1, 3, 4] (Wd_X9_fills cI cS cT ad b0 mnow mundoMany mtokens moneLong motherLong medits u8 u3 mfirstSlot_7 mgroups) rfl rfl rfl rfl rfl ?_⟩
        refine g_istore 149 [(6, .int r9), (5, .int (v5 + (1 : Int32))), (7, .int w7_7), (4, .int v4), (3, .int v3), (0, .ref (ad b0)), (1, .int v1), (2, .int v2)] hC dX9_fills_149 (by rw [hn]; decide) rfl ?_
        refine g_goto 151 93 hC dX9_fills_151 (by decide) ?_
        refine G.sub [0, 1, 3, 4, 5, 6, 7] rfl ?_
        exact ih _ _ _ _ _ h
set_option maxHeartbeats 4000000 in
set_option maxRecDepth 100000 in
theorem c_X9_fills (l : Launch) (D : va_G) (cI cS cT : ClassId) (ad : Nat → Nat) (b0 : Nat) (x1 : Int32) (x2 : Int32) (mnow : Nat → Int32) (mundoMany : Int32) (mtokens : Int32) (moneLong : Int32) (motherLong : Int32) (medits : Int32) (mgap : Nat → Int32) (mslot : Nat → Int32) (mfirstSlot : Nat → Int32) (mgroups : Int32) (post : Int32 → (Nat → Int32) → (Nat → Int32) → (Nat → Int32) → Prop) (h : P_X9_fills x1 x2 mnow mundoMany mtokens moneLong motherLong medits mgap mslot mfirstSlot mgroups post) : MI l D (TY cI cS cT) yX9_fills cX9_fills 8 (some .int) rm_X9_fills [.ref (ad b0), .int x1, .int x2] (Wd_X9_fills cI cS cT ad b0 mnow mundoMany mtokens moneLong motherLong medits mgap mslot mfirstSlot mgroups) (fun (r : Int32) w => ∃ (u_mgap : Nat → Int32) (u_mslot : Nat → Int32) (u_mfirstSlot : Nat → Int32), w = (Wd_X9_fills cI cS cT ad b0 mnow mundoMany mtokens moneLong motherLong medits u_mgap u_mslot u_mfirstSlot mgroups) ∧ post r u_mgap u_mslot u_mfirstSlot) := by
  refine MI.of (by decide) (Nat.le_of_ble_eq_true rfl) (fun E hC hR hn => ?_)
  replace hC : Cx l D (TY cI cS cT) E rm_X9_fills cX9_fills RX9 := hC
  replace hR : RetI D E (fun (r : Int32) w => ∃ (u_mgap : Nat → Int32) (u_mslot : Nat → Int32) (u_mfirstSlot : Nat → Int32), w = (Wd_X9_fills cI cS cT ad b0 mnow mundoMany mtokens moneLong motherLong medits u_mgap u_mslot u_mfirstSlot mgroups) ∧ post r u_mgap u_mslot u_mfirstSlot) 0 0 (some .int) := hR
  unfold P_X9_fills at h
  change G l D E 0 0 _ [(0, .ref (ad b0)), (1, .int x1), (2, .int x2)] 0 []
  refine g_aload_n 0 0 hC dX9_fills_0 rfl ?_
  refine g_iload_n 1 1 hC dX9_fills_1 rfl ?_
  refine g_bipush (v := (64 : Int32)) 2 hC dX9_fills_2 (by decide) ?_
  refine g_bipush (v := (64 : Int32)) 4 hC dX9_fills_4 (by decide) ?_
  refine g_cVi (As := [.int x1, .int (64 : Int32), .int (64 : Int32)]) (rest := []) 6 0 [0, 1] hC (c_X9_tokensOf l D cI cS cT ad b0 x1 (64 : Int32) (64 : Int32) mnow mundoMany mtokens moneLong motherLong medits mgroups _ h) kX9_tokensOf wq_473 dX9_fills_6 rfl rfl ⟨Nat.le_of_ble_eq_true rfl, Nat.le_of_ble_eq_true rfl⟩ rfl rfl (Nat.zero_le _) (Nat.zero_le _) rfl rfl rfl (Nat.le_of_ble_eq_true rfl) ?_
  rintro r1 _ ⟨rfl, h⟩
  refine ⟨Nat.le_of_ble_eq_true rfl, G.upd [2, 3, 4] (Wd_X9_fills cI cS cT ad b0 mnow mundoMany mtokens moneLong motherLong medits mgap mslot mfirstSlot mgroups) rfl rfl rfl rfl rfl ?_⟩
  refine g_istore_n 9 [(3, .int r1), (0, .ref (ad b0)), (1, .int x1), (2, .int x2)] hC dX9_fills_9 (by rw [hn]; decide) rfl ?_
  refine g_aload_n 10 1 hC dX9_fills_10 rfl ?_
  refine g_get 11 0 0 hC inlX9 wq_104 dX9_fills_11 rfl rfl (by decide) rfl ?_
  refine g_iconst (v := (1 : Int32)) 14 hC dX9_fills_14 (by decide) ?_
  refine g_iload_n 15 3 hC dX9_fills_15 rfl ?_
  refine g_iadd 16 hC dX9_fills_16 ?_
  obtain ⟨hj, h⟩ := h
  refine g_iald 17 1 hC dX9_fills_17 rfl rfl hj ?_
  refine g_aload_n 18 1 hC dX9_fills_18 rfl ?_
  refine g_get 19 0 0 hC inlX9 wq_104 dX9_fills_19 rfl rfl (by decide) rfl ?_
  refine g_sipush (v := (134 : Int32)) 22 hC dX9_fills_22 (by decide) ?_
  refine g_iload_n 25 2 hC dX9_fills_25 rfl ?_
  refine g_iadd 26 hC dX9_fills_26 ?_
  obtain ⟨hj, h⟩ := h
  refine g_iald 27 1 hC dX9_fills_27 rfl rfl hj ?_
  refine g_iload_n 28 0 hC dX9_fills_28 rfl ?_
  refine g_isub 29 hC dX9_fills_29 ?_
  refine g_isub 30 hC dX9_fills_30 ?_
  refine g_istore 31 [(4, .int ((mnow (Int32.toNatClampNeg ((1 : Int32) + x2))) - ((mnow (Int32.toNatClampNeg ((134 : Int32) + x1))) - r1))), (3, .int r1), (0, .ref (ad b0)), (1, .int x1), (2, .int x2)] hC dX9_fills_31 (by rw [hn]; decide) rfl ?_
  refine g_iload 33 0 hC dX9_fills_33 rfl ?_
  refine g_if_lt 35 47 hC dX9_fills_35 (by decide) (fun hc => ?_) (fun hc => ?_)
  · replace h := h.1 hc
    refine g_iconst (v := (0 : Int32)) 47 hC dX9_fills_47 (by decide) ?_
    exact g_iret 48 hC hR dX9_fills_48 ⟨mgap, mslot, mfirstSlot, rfl, h⟩
  · replace h := h.2 hc
    refine g_iload_n 38 1 hC dX9_fills_38 rfl ?_
    refine g_if_ne 39 49 hC dX9_fills_39 (by decide) (fun hc => ?_) (fun hc => ?_)
    · replace h := h.1 hc
      refine g_iconst (v := (0 : Int32)) 49 hC dX9_fills_49 (by decide) ?_
      refine g_istore 50 [(5, .int (0 : Int32)), (4, .int ((mnow (Int32.toNatClampNeg ((1 : Int32) + x2))) - ((mnow (Int32.toNatClampNeg ((134 : Int32) + x1))) - r1))), (3, .int r1), (0, .ref (ad b0)), (1, .int x1), (2, .int x2)] hC dX9_fills_50 (by rw [hn]; decide) rfl ?_
      obtain ⟨n, h⟩ := h
      refine L_X9_fills_52 hC hR hn _ (fun w5_2 mgap_2 h => ?_) n _ _ h
      refine g_iload_n 73 2 hC dX9_fills_73 rfl ?_
      refine g_if_le 74 87 hC dX9_fills_74 (by decide) (fun hc => ?_) (fun hc => ?_)
      · replace h := h.1 hc
        refine g_iconst (v := (0 : Int32)) 87 hC dX9_fills_87 (by decide) ?_
        refine g_istore 88 [(5, .int (0 : Int32)), (4, .int ((mnow (Int32.toNatClampNeg ((1 : Int32) + x2))) - ((mnow (Int32.toNatClampNeg ((134 : Int32) + x1))) - r1))), (3, .int r1), (0, .ref (ad b0)), (1, .int x1), (2, .int x2)] hC dX9_fills_88 (by rw [hn]; decide) rfl ?_
        refine g_iconst (v := (1 : Int32)) 90 hC dX9_fills_90 (by decide) ?_
        refine g_istore 91 [(6, .int (1 : Int32)), (5, .int (0 : Int32)), (4, .int ((mnow (Int32.toNatClampNeg ((1 : Int32) + x2))) - ((mnow (Int32.toNatClampNeg ((134 : Int32) + x1))) - r1))), (3, .int r1), (0, .ref (ad b0)), (1, .int x1), (2, .int x2)] hC dX9_fills_91 (by rw [hn]; decide) rfl ?_
        obtain ⟨n, h⟩ := h
        refine L_X9_fills_93 hC hR hn _ (fun w6_10 w5_10 mgap_10 mslot_10 mfirstSlot_10 h => ?_) n _ _ _ _ _ h
        refine g_iload 154 1 hC dX9_fills_154 rfl ?_
        exact g_iret 156 hC hR dX9_fills_156 ⟨mgap_10, mslot_10, mfirstSlot_10, rfl, h⟩
      · replace h := h.2 hc
        refine g_aload_n 77 3 hC dX9_fills_77 rfl ?_
        refine g_get 78 0 12 hC inlX9 wq_111 dX9_fills_78 rfl rfl (by decide) rfl ?_
        refine g_iload_n 81 2 hC dX9_fills_81 rfl ?_
        refine g_iconst (v := (1 : Int32)) 82 hC dX9_fills_82 (by decide) ?_
        refine g_isub 83 hC dX9_fills_83 ?_
        refine g_iload 84 1 hC dX9_fills_84 rfl ?_
        obtain ⟨hj, h⟩ := h
        refine g_iast 86 2 (Wd_X9_fills cI cS cT ad b0 mnow mundoMany mtokens moneLong motherLong medits (upd mgap_2 (Int32.toNatClampNeg (r1 - (1 : Int32))) ((mnow (Int32.toNatClampNeg ((1 : Int32) + x2))) - ((mnow (Int32.toNatClampNeg ((134 : Int32) + x1))) - r1))) mslot mfirstSlot mgroups) hC dX9_fills_86 rfl rfl hj rfl ?_
        refine g_iconst (v := (0 : Int32)) 87 hC dX9_fills_87 (by decide) ?_
        refine g_istore 88 [(5, .int (0 : Int32)), (4, .int ((mnow (Int32.toNatClampNeg ((1 : Int32) + x2))) - ((mnow (Int32.toNatClampNeg ((134 : Int32) + x1))) - r1))), (3, .int r1), (0, .ref (ad b0)), (1, .int x1), (2, .int x2)] hC dX9_fills_88 (by rw [hn]; decide) rfl ?_
        refine g_iconst (v := (1 : Int32)) 90 hC dX9_fills_90 (by decide) ?_
        refine g_istore 91 [(6, .int (1 : Int32)), (5, .int (0 : Int32)), (4, .int ((mnow (Int32.toNatClampNeg ((1 : Int32) + x2))) - ((mnow (Int32.toNatClampNeg ((134 : Int32) + x1))) - r1))), (3, .int r1), (0, .ref (ad b0)), (1, .int x1), (2, .int x2)] hC dX9_fills_91 (by rw [hn]; decide) rfl ?_
        obtain ⟨n, h⟩ := h
        refine L_X9_fills_93 hC hR hn _ (fun w6_18 w5_18 mgap_18 mslot_18 mfirstSlot_18 h => ?_) n _ _ _ _ _ h
        refine g_iload 154 1 hC dX9_fills_154 rfl ?_
        exact g_iret 156 hC hR dX9_fills_156 ⟨mgap_18, mslot_18, mfirstSlot_18, rfl, h⟩
    · replace h := h.2 hc
      refine g_iload 42 0 hC dX9_fills_42 rfl ?_
      refine g_if_le 44 49 hC dX9_fills_44 (by decide) (fun hc => ?_) (fun hc => ?_)
      · replace h := h.1 hc
        refine g_iconst (v := (0 : Int32)) 49 hC dX9_fills_49 (by decide) ?_
        refine g_istore 50 [(5, .int (0 : Int32)), (4, .int ((mnow (Int32.toNatClampNeg ((1 : Int32) + x2))) - ((mnow (Int32.toNatClampNeg ((134 : Int32) + x1))) - r1))), (3, .int r1), (0, .ref (ad b0)), (1, .int x1), (2, .int x2)] hC dX9_fills_50 (by rw [hn]; decide) rfl ?_
        obtain ⟨n, h⟩ := h
        refine L_X9_fills_52 hC hR hn _ (fun w5_19 mgap_19 h => ?_) n _ _ h
        refine g_iload_n 73 2 hC dX9_fills_73 rfl ?_
        refine g_if_le 74 87 hC dX9_fills_74 (by decide) (fun hc => ?_) (fun hc => ?_)
        · replace h := h.1 hc
          refine g_iconst (v := (0 : Int32)) 87 hC dX9_fills_87 (by decide) ?_
          refine g_istore 88 [(5, .int (0 : Int32)), (4, .int ((mnow (Int32.toNatClampNeg ((1 : Int32) + x2))) - ((mnow (Int32.toNatClampNeg ((134 : Int32) + x1))) - r1))), (3, .int r1), (0, .ref (ad b0)), (1, .int x1), (2, .int x2)] hC dX9_fills_88 (by rw [hn]; decide) rfl ?_
          refine g_iconst (v := (1 : Int32)) 90 hC dX9_fills_90 (by decide) ?_
          refine g_istore 91 [(6, .int (1 : Int32)), (5, .int (0 : Int32)), (4, .int ((mnow (Int32.toNatClampNeg ((1 : Int32) + x2))) - ((mnow (Int32.toNatClampNeg ((134 : Int32) + x1))) - r1))), (3, .int r1), (0, .ref (ad b0)), (1, .int x1), (2, .int x2)] hC dX9_fills_91 (by rw [hn]; decide) rfl ?_
          obtain ⟨n, h⟩ := h
          refine L_X9_fills_93 hC hR hn _ (fun w6_27 w5_27 mgap_27 mslot_27 mfirstSlot_27 h => ?_) n _ _ _ _ _ h
          refine g_iload 154 1 hC dX9_fills_154 rfl ?_
          exact g_iret 156 hC hR dX9_fills_156 ⟨mgap_27, mslot_27, mfirstSlot_27, rfl, h⟩
        · replace h := h.2 hc
          refine g_aload_n 77 3 hC dX9_fills_77 rfl ?_
          refine g_get 78 0 12 hC inlX9 wq_111 dX9_fills_78 rfl rfl (by decide) rfl ?_
          refine g_iload_n 81 2 hC dX9_fills_81 rfl ?_
          refine g_iconst (v := (1 : Int32)) 82 hC dX9_fills_82 (by decide) ?_
          refine g_isub 83 hC dX9_fills_83 ?_
          refine g_iload 84 1 hC dX9_fills_84 rfl ?_
          obtain ⟨hj, h⟩ := h
          refine g_iast 86 2 (Wd_X9_fills cI cS cT ad b0 mnow mundoMany mtokens moneLong motherLong medits (upd mgap_19 (Int32.toNatClampNeg (r1 - (1 : Int32))) ((mnow (Int32.toNatClampNeg ((1 : Int32) + x2))) - ((mnow (Int32.toNatClampNeg ((134 : Int32) + x1))) - r1))) mslot mfirstSlot mgroups) hC dX9_fills_86 rfl rfl hj rfl ?_
          refine g_iconst (v := (0 : Int32)) 87 hC dX9_fills_87 (by decide) ?_
          refine g_istore 88 [(5, .int (0 : Int32)), (4, .int ((mnow (Int32.toNatClampNeg ((1 : Int32) + x2))) - ((mnow (Int32.toNatClampNeg ((134 : Int32) + x1))) - r1))), (3, .int r1), (0, .ref (ad b0)), (1, .int x1), (2, .int x2)] hC dX9_fills_88 (by rw [hn]; decide) rfl ?_
          refine g_iconst (v := (1 : Int32)) 90 hC dX9_fills_90 (by decide) ?_
          refine g_istore 91 [(6, .int (1 : Int32)), (5, .int (0 : Int32)), (4, .int ((mnow (Int32.toNatClampNeg ((1 : Int32) + x2))) - ((mnow (Int32.toNatClampNeg ((134 : Int32) + x1))) - r1))), (3, .int r1), (0, .ref (ad b0)), (1, .int x1), (2, .int x2)] hC dX9_fills_91 (by rw [hn]; decide) rfl ?_
          obtain ⟨n, h⟩ := h
          refine L_X9_fills_93 hC hR hn _ (fun w6_35 w5_35 mgap_35 mslot_35 mfirstSlot_35 h => ?_) n _ _ _ _ _ h
          refine g_iload 154 1 hC dX9_fills_154 rfl ?_
          exact g_iret 156 hC hR dX9_fills_156 ⟨mgap_35, mslot_35, mfirstSlot_35, rfl, h⟩
      · replace h := h.2 hc
        refine g_iconst (v := (0 : Int32)) 47 hC dX9_fills_47 (by decide) ?_
        exact g_iret 48 hC hR dX9_fills_48 ⟨mgap, mslot, mfirstSlot, rfl, h⟩

/-! ===== ProverbCollectionModel.fillings(II)I ===== -/
def Wd_X9_fillings (cI cS cT : ClassId) (ad : Nat → Nat) (b0 : Nat) (mnow : Nat → Int32) (mundoMany : Int32) (mtokens : Int32) (moneLong : Int32) (motherLong : Int32) (medits : Int32) (mgap : Nat → Int32) (mslot : Nat → Int32) (mfirstSlot : Nat → Int32) (mgroups : Int32) : va_W := [(ad b0, .inr (9, [.ref (ad (b0 + 1)), .ref (ad (b0 + 2)), .int mundoMany, .int mtokens, .ref (ad (b0 + 3)), .ref (ad (b0 + 4)), .ref (ad (b0 + 5)), .int moneLong, .int motherLong, .ref (ad (b0 + 6)), .int medits, .ref (ad (b0 + 7)), .ref (ad (b0 + 8)), .ref (ad (b0 + 9)), .ref (ad (b0 + 10)), .int mgroups, .ref (ad (b0 + 11)), .ref (ad (b0 + 12))])), (ad (b0 + 1), .inl (cI, 193, .inl mnow)), (ad (b0 + 8), .inl (cI, 8, .inl mgap)), (ad (b0 + 9), .inl (cI, 4, .inl mslot)), (ad (b0 + 10), .inl (cI, 4, .inl mfirstSlot))]
def rm_X9_fillings : Room := { frames := 3, cells := 0, slots := 0, locals := 77 }
theorem kX9_fillings : KV yX9_fillings cX9_fillings 3 (some .int) 2 := ⟨wq_468, wq_5, wq_466, wq_467, by decide +kernel⟩
def P_X9_fillings (x1 : Int32) (x2 : Int32) (mnow : Nat → Int32) (mundoMany : Int32) (mtokens : Int32) (moneLong : Int32) (motherLong : Int32) (medits : Int32) (mgap : Nat → Int32) (mslot : Nat → Int32) (mfirstSlot : Nat → Int32) (mgroups : Int32) (post : Int32 → (Nat → Int32) → (Nat → Int32) → (Nat → Int32) → Prop) : Prop :=
  P_X9_isPattern x1 mnow mundoMany mtokens moneLong motherLong medits mgroups (fun r1 => (r1 = 0 → post (-1 : Int32) mgap mslot mfirstSlot) ∧ (¬ r1 = 0 → (P_X9_isSaying x2 mnow mundoMany mtokens moneLong motherLong medits mgroups (fun r2 => (r2 = 0 → post (-1 : Int32) mgap mslot mfirstSlot) ∧ (¬ r2 = 0 → P_X9_fills x1 x2 mnow mundoMany mtokens moneLong motherLong medits mgap mslot mfirstSlot mgroups (fun r6 u3 u4 u5 => post r6 u3 u4 u5))))))
set_option maxHeartbeats 4000000 in
set_option maxRecDepth 100000 in
theorem c_X9_fillings (l : Launch) (D : va_G) (cI cS cT : ClassId) (ad : Nat → Nat) (b0 : Nat) (x1 : Int32) (x2 : Int32) (mnow : Nat → Int32) (mundoMany : Int32) (mtokens : Int32) (moneLong : Int32) (motherLong : Int32) (medits : Int32) (mgap : Nat → Int32) (mslot : Nat → Int32) (mfirstSlot : Nat → Int32) (mgroups : Int32) (post : Int32 → (Nat → Int32) → (Nat → Int32) → (Nat → Int32) → Prop) (h : P_X9_fillings x1 x2 mnow mundoMany mtokens moneLong motherLong medits mgap mslot mfirstSlot mgroups post) : MI l D (TY cI cS cT) yX9_fillings cX9_fillings 3 (some .int) rm_X9_fillings [.ref (ad b0), .int x1, .int x2] (Wd_X9_fillings cI cS cT ad b0 mnow mundoMany mtokens moneLong motherLong medits mgap mslot mfirstSlot mgroups) (fun (r : Int32) w => ∃ (u_mgap : Nat → Int32) (u_mslot : Nat → Int32) (u_mfirstSlot : Nat → Int32), w = (Wd_X9_fillings cI cS cT ad b0 mnow mundoMany mtokens moneLong motherLong medits u_mgap u_mslot u_mfirstSlot mgroups) ∧ post r u_mgap u_mslot u_mfirstSlot) := by
  refine MI.of (by decide) (Nat.le_of_ble_eq_true rfl) (fun E hC hR hn => ?_)
  replace hC : Cx l D (TY cI cS cT) E rm_X9_fillings cX9_fillings RX9 := hC
  replace hR : RetI D E (fun (r : Int32) w => ∃ (u_mgap : Nat → Int32) (u_mslot : Nat → Int32) (u_mfirstSlot : Nat → Int32), w = (Wd_X9_fillings cI cS cT ad b0 mnow mundoMany mtokens moneLong motherLong medits u_mgap u_mslot u_mfirstSlot mgroups) ∧ post r u_mgap u_mslot u_mfirstSlot) 0 0 (some .int) := hR
  unfold P_X9_fillings at h
  change G l D E 0 0 _ [(0, .ref (ad b0)), (1, .int x1), (2, .int x2)] 0 []
  refine g_aload_n 0 0 hC dX9_fillings_0 rfl ?_
  refine g_iload_n 1 1 hC dX9_fillings_1 rfl ?_
  refine g_cVi (As := [.int x1]) (rest := []) 2 0 [0, 1] hC (c_X9_isPattern l D cI cS cT ad b0 x1 mnow mundoMany mtokens moneLong motherLong medits mgroups _ h) kX9_isPattern wq_441 dX9_fillings_2 rfl rfl ⟨Nat.le_of_ble_eq_true rfl, Nat.le_of_ble_eq_true rfl⟩ rfl rfl (Nat.zero_le _) (Nat.zero_le _) rfl rfl rfl (Nat.le_of_ble_eq_true rfl) ?_
  rintro r1 _ ⟨rfl, h⟩
  refine ⟨Nat.le_of_ble_eq_true rfl, G.upd [2, 3, 4] (Wd_X9_fillings cI cS cT ad b0 mnow mundoMany mtokens moneLong motherLong medits mgap mslot mfirstSlot mgroups) rfl rfl rfl rfl rfl ?_⟩
  refine g_if_eq 5 25 hC dX9_fillings_5 (by decide) (fun hc => ?_) (fun hc => ?_)
  · replace h := h.1 hc
    refine g_iconst (v := (-1 : Int32)) 25 hC dX9_fillings_25 (by decide) ?_
    exact g_iret 26 hC hR dX9_fillings_26 ⟨mgap, mslot, mfirstSlot, rfl, h⟩
  · replace h := h.2 hc
    refine g_aload_n 8 0 hC dX9_fillings_8 rfl ?_
    refine g_iload_n 9 2 hC dX9_fillings_9 rfl ?_
    refine g_cVi (As := [.int x2]) (rest := []) 10 0 [0, 1] hC (c_X9_isSaying l D cI cS cT ad b0 x2 mnow mundoMany mtokens moneLong motherLong medits mgroups _ h) kX9_isSaying wq_215 dX9_fillings_10 rfl rfl ⟨Nat.le_of_ble_eq_true rfl, Nat.le_of_ble_eq_true rfl⟩ rfl rfl (Nat.zero_le _) (Nat.zero_le _) rfl rfl rfl (Nat.le_of_ble_eq_true rfl) ?_
    rintro r2 _ ⟨rfl, h⟩
    refine ⟨Nat.le_of_ble_eq_true rfl, G.upd [2, 3, 4] (Wd_X9_fillings cI cS cT ad b0 mnow mundoMany mtokens moneLong motherLong medits mgap mslot mfirstSlot mgroups) rfl rfl rfl rfl rfl ?_⟩
    refine g_if_eq 13 25 hC dX9_fillings_13 (by decide) (fun hc => ?_) (fun hc => ?_)
    · replace h := h.1 hc
      refine g_iconst (v := (-1 : Int32)) 25 hC dX9_fillings_25 (by decide) ?_
      exact g_iret 26 hC hR dX9_fillings_26 ⟨mgap, mslot, mfirstSlot, rfl, h⟩
    · replace h := h.2 hc
      refine g_aload_n 16 0 hC dX9_fillings_16 rfl ?_
      refine g_iload_n 17 1 hC dX9_fillings_17 rfl ?_
      refine g_iload_n 18 2 hC dX9_fillings_18 rfl ?_
      refine g_cVi (As := [.int x1, .int x2]) (rest := []) 19 0 [0, 1, 2, 3, 4] hC (c_X9_fills l D cI cS cT ad b0 x1 x2 mnow mundoMany mtokens moneLong motherLong medits mgap mslot mfirstSlot mgroups _ h) kX9_fills wq_469 dX9_fillings_19 rfl rfl ⟨Nat.le_of_ble_eq_true rfl, Nat.le_of_ble_eq_true rfl⟩ rfl rfl (Nat.zero_le _) (Nat.zero_le _) rfl rfl rfl (Nat.le_of_ble_eq_true rfl) ?_
      rintro r6 _ ⟨u3, u4, u5, rfl, h⟩
      refine ⟨Nat.le_of_ble_eq_true rfl, G.upd [] (Wd_X9_fillings cI cS cT ad b0 mnow mundoMany mtokens moneLong motherLong medits u3 u4 u5 mgroups) rfl rfl rfl rfl rfl ?_⟩
      refine g_goto 22 26 hC dX9_fillings_22 (by decide) ?_
      exact g_iret 26 hC hR dX9_fillings_26 ⟨u3, u4, u5, rfl, h⟩

/-! ===== ProverbCollectionModel.slotWord(III)I ===== -/
def Wd_X9_slotWord (cI cS cT : ClassId) (ad : Nat → Nat) (b0 : Nat) (mnow : Nat → Int32) (mundoMany : Int32) (mtokens : Int32) (moneLong : Int32) (motherLong : Int32) (medits : Int32) (mgap : Nat → Int32) (mslot : Nat → Int32) (mfirstSlot : Nat → Int32) (mgroups : Int32) : va_W := [(ad b0, .inr (9, [.ref (ad (b0 + 1)), .ref (ad (b0 + 2)), .int mundoMany, .int mtokens, .ref (ad (b0 + 3)), .ref (ad (b0 + 4)), .ref (ad (b0 + 5)), .int moneLong, .int motherLong, .ref (ad (b0 + 6)), .int medits, .ref (ad (b0 + 7)), .ref (ad (b0 + 8)), .ref (ad (b0 + 9)), .ref (ad (b0 + 10)), .int mgroups, .ref (ad (b0 + 11)), .ref (ad (b0 + 12))])), (ad (b0 + 1), .inl (cI, 193, .inl mnow)), (ad (b0 + 8), .inl (cI, 8, .inl mgap)), (ad (b0 + 9), .inl (cI, 4, .inl mslot)), (ad (b0 + 10), .inl (cI, 4, .inl mfirstSlot))]
def rm_X9_slotWord : Room := { frames := 3, cells := 0, slots := 0, locals := 77 }
theorem kX9_slotWord : KV yX9_slotWord cX9_slotWord 5 (some .int) 3 := ⟨wq_492, wq_5, wq_490, wq_491, by decide +kernel⟩
def P_X9_slotWord (x1 : Int32) (x2 : Int32) (x3 : Int32) (mnow : Nat → Int32) (mundoMany : Int32) (mtokens : Int32) (moneLong : Int32) (motherLong : Int32) (medits : Int32) (mgap : Nat → Int32) (mslot : Nat → Int32) (mfirstSlot : Nat → Int32) (mgroups : Int32) (post : Int32 → (Nat → Int32) → (Nat → Int32) → (Nat → Int32) → Prop) : Prop :=
  P_X9_isPattern x1 mnow mundoMany mtokens moneLong motherLong medits mgroups (fun r1 => (r1 = 0 → post (-1 : Int32) mgap mslot mfirstSlot) ∧ (¬ r1 = 0 → (P_X9_isSaying x2 mnow mundoMany mtokens moneLong motherLong medits mgroups (fun r2 => (r2 = 0 → post (-1 : Int32) mgap mslot mfirstSlot) ∧ (¬ r2 = 0 → (P_X9_in (Int32.toInt64 x3) (0 : Int64) (3 : Int64) (fun r3 => (¬ r3 = 0 → (P_X9_fills x1 x2 mnow mundoMany mtokens moneLong motherLong medits mgap mslot mfirstSlot mgroups (fun r7 u4 u5 u6 => (r7 ≤ 0 → post (-4 : Int32) u4 u5 u6) ∧ (¬ r7 ≤ 0 → (P_X9_tokensOf x1 ((60 : Int32) + x3) ((60 : Int32) + x3) mnow mundoMany mtokens moneLong motherLong medits mgroups (fun r8 => (r8 ≤ 0 → post (-4 : Int32) u4 u5 u6) ∧ (¬ r8 ≤ 0 → (vp_in x3 4 ∧ (post (u6 (Int32.toNatClampNeg x3)) u4 u5 u6))))))))) ∧ (r3 = 0 → post (-1 : Int32) mgap mslot mfirstSlot))))))))
set_option maxHeartbeats 4000000 in
set_option maxRecDepth 100000 in
theorem c_X9_slotWord (l : Launch) (D : va_G) (cI cS cT : ClassId) (ad : Nat → Nat) (b0 : Nat) (x1 : Int32) (x2 : Int32) (x3 : Int32) (mnow : Nat → Int32) (mundoMany : Int32) (mtokens : Int32) (moneLong : Int32) (motherLong : Int32) (medits : Int32) (mgap : Nat → Int32) (mslot : Nat → Int32) (mfirstSlot : Nat → Int32) (mgroups : Int32) (post : Int32 → (Nat → Int32) → (Nat → Int32) → (Nat → Int32) → Prop) (h : P_X9_slotWord x1 x2 x3 mnow mundoMany mtokens moneLong motherLong medits mgap mslot mfirstSlot mgroups post) : MI l D (TY cI cS cT) yX9_slotWord cX9_slotWord 5 (some .int) rm_X9_slotWord [.ref (ad b0), .int x1, .int x2, .int x3] (Wd_X9_slotWord cI cS cT ad b0 mnow mundoMany mtokens moneLong motherLong medits mgap mslot mfirstSlot mgroups) (fun (r : Int32) w => ∃ (u_mgap : Nat → Int32) (u_mslot : Nat → Int32) (u_mfirstSlot : Nat → Int32), w = (Wd_X9_slotWord cI cS cT ad b0 mnow mundoMany mtokens moneLong motherLong medits u_mgap u_mslot u_mfirstSlot mgroups) ∧ post r u_mgap u_mslot u_mfirstSlot) := by
  refine MI.of (by decide) (Nat.le_of_ble_eq_true rfl) (fun E hC hR hn => ?_)
  replace hC : Cx l D (TY cI cS cT) E rm_X9_slotWord cX9_slotWord RX9 := hC
  replace hR : RetI D E (fun (r : Int32) w => ∃ (u_mgap : Nat → Int32) (u_mslot : Nat → Int32) (u_mfirstSlot : Nat → Int32), w = (Wd_X9_slotWord cI cS cT ad b0 mnow mundoMany mtokens moneLong motherLong medits u_mgap u_mslot u_mfirstSlot mgroups) ∧ post r u_mgap u_mslot u_mfirstSlot) 0 0 (some .int) := hR
  unfold P_X9_slotWord at h
  change G l D E 0 0 _ [(0, .ref (ad b0)), (1, .int x1), (2, .int x2), (3, .int x3)] 0 []
  refine g_aload_n 0 0 hC dX9_slotWord_0 rfl ?_
  refine g_iload_n 1 1 hC dX9_slotWord_1 rfl ?_
  refine g_cVi (As := [.int x1]) (rest := []) 2 0 [0, 1] hC (c_X9_isPattern l D cI cS cT ad b0 x1 mnow mundoMany mtokens moneLong motherLong medits mgroups _ h) kX9_isPattern wq_441 dX9_slotWord_2 rfl rfl ⟨Nat.le_of_ble_eq_true rfl, Nat.le_of_ble_eq_true rfl⟩ rfl rfl (Nat.zero_le _) (Nat.zero_le _) rfl rfl rfl (Nat.le_of_ble_eq_true rfl) ?_
  rintro r1 _ ⟨rfl, h⟩
  refine ⟨Nat.le_of_ble_eq_true rfl, G.upd [2, 3, 4] (Wd_X9_slotWord cI cS cT ad b0 mnow mundoMany mtokens moneLong motherLong medits mgap mslot mfirstSlot mgroups) rfl rfl rfl rfl rfl ?_⟩
  refine g_if_eq 5 28 hC dX9_slotWord_5 (by decide) (fun hc => ?_) (fun hc => ?_)
  · replace h := h.1 hc
    refine g_iconst (v := (-1 : Int32)) 28 hC dX9_slotWord_28 (by decide) ?_
    exact g_iret 29 hC hR dX9_slotWord_29 ⟨mgap, mslot, mfirstSlot, rfl, h⟩
  · replace h := h.2 hc
    refine g_aload_n 8 0 hC dX9_slotWord_8 rfl ?_
    refine g_iload_n 9 2 hC dX9_slotWord_9 rfl ?_
    refine g_cVi (As := [.int x2]) (rest := []) 10 0 [0, 1] hC (c_X9_isSaying l D cI cS cT ad b0 x2 mnow mundoMany mtokens moneLong motherLong medits mgroups _ h) kX9_isSaying wq_215 dX9_slotWord_10 rfl rfl ⟨Nat.le_of_ble_eq_true rfl, Nat.le_of_ble_eq_true rfl⟩ rfl rfl (Nat.zero_le _) (Nat.zero_le _) rfl rfl rfl (Nat.le_of_ble_eq_true rfl) ?_
    rintro r2 _ ⟨rfl, h⟩
    refine ⟨Nat.le_of_ble_eq_true rfl, G.upd [2, 3, 4] (Wd_X9_slotWord cI cS cT ad b0 mnow mundoMany mtokens moneLong motherLong medits mgap mslot mfirstSlot mgroups) rfl rfl rfl rfl rfl ?_⟩
    refine g_if_eq 13 28 hC dX9_slotWord_13 (by decide) (fun hc => ?_) (fun hc => ?_)
    · replace h := h.1 hc
      refine g_iconst (v := (-1 : Int32)) 28 hC dX9_slotWord_28 (by decide) ?_
      exact g_iret 29 hC hR dX9_slotWord_29 ⟨mgap, mslot, mfirstSlot, rfl, h⟩
    · replace h := h.2 hc
      refine g_iload_n 16 3 hC dX9_slotWord_16 rfl ?_
      refine g_i2l 17 hC dX9_slotWord_17 ?_
      refine g_lconst (v := (0 : Int64)) 18 hC dX9_slotWord_18 (by decide) ?_
      refine g_ldc2 19 hC dX9_slotWord_19 wq_284 ?_
      refine g_cSi (As := [.long (Int32.toInt64 x3), .long (0 : Int64), .long (3 : Int64)]) (rest := []) 22 [] hC (c_X9_in l D cI cS cT ad (Int32.toInt64 x3) (0 : Int64) (3 : Int64) _ h) kX9_in wq_130 dX9_slotWord_22 ⟨Nat.le_of_ble_eq_true rfl, Nat.le_of_ble_eq_true rfl⟩ rfl rfl (Nat.zero_le _) (Nat.zero_le _) rfl rfl rfl (Nat.le_of_ble_eq_true rfl) ?_
      rintro r3 _ ⟨rfl, h⟩
      refine ⟨Nat.le_of_ble_eq_true rfl, G.upd [0, 1, 2, 3, 4] (Wd_X9_slotWord cI cS cT ad b0 mnow mundoMany mtokens moneLong motherLong medits mgap mslot mfirstSlot mgroups) rfl rfl rfl rfl rfl ?_⟩
      refine g_if_ne 25 30 hC dX9_slotWord_25 (by decide) (fun hc => ?_) (fun hc => ?_)
      · replace h := h.1 hc
        refine g_aload_n 30 0 hC dX9_slotWord_30 rfl ?_
        refine g_iload_n 31 1 hC dX9_slotWord_31 rfl ?_
        refine g_iload_n 32 2 hC dX9_slotWord_32 rfl ?_
        refine g_cVi (As := [.int x1, .int x2]) (rest := []) 33 0 [0, 1, 2, 3, 4] hC (c_X9_fills l D cI cS cT ad b0 x1 x2 mnow mundoMany mtokens moneLong motherLong medits mgap mslot mfirstSlot mgroups _ h) kX9_fills wq_469 dX9_slotWord_33 rfl rfl ⟨Nat.le_of_ble_eq_true rfl, Nat.le_of_ble_eq_true rfl⟩ rfl rfl (Nat.zero_le _) (Nat.zero_le _) rfl rfl rfl (Nat.le_of_ble_eq_true rfl) ?_
        rintro r7 _ ⟨u4, u5, u6, rfl, h⟩
        refine ⟨Nat.le_of_ble_eq_true rfl, G.upd [] (Wd_X9_slotWord cI cS cT ad b0 mnow mundoMany mtokens moneLong motherLong medits u4 u5 u6 mgroups) rfl rfl rfl rfl rfl ?_⟩
        refine g_if_le 36 59 hC dX9_slotWord_36 (by decide) (fun hc => ?_) (fun hc => ?_)
        · replace h := h.1 hc
          refine g_iconst (v := (0 : Int32)) 59 hC dX9_slotWord_59 (by decide) ?_
          refine g_istore 60 [(4, .int (0 : Int32)), (0, .ref (ad b0)), (1, .int x1), (2, .int x2), (3, .int x3)] hC dX9_slotWord_60 (by rw [hn]; decide) rfl ?_
          refine g_iload 62 0 hC dX9_slotWord_62 rfl ?_
          refine g_if_eq 64 76 hC dX9_slotWord_64 (by decide) (fun _ => ?_) (fun hc => absurd hc (by decide))
          refine g_bipush (v := (-4 : Int32)) 76 hC dX9_slotWord_76 (by decide) ?_
          exact g_iret 78 hC hR dX9_slotWord_78 ⟨u4, u5, u6, rfl, h⟩
        · replace h := h.2 hc
          refine g_aload_n 39 0 hC dX9_slotWord_39 rfl ?_
          refine g_iload_n 40 1 hC dX9_slotWord_40 rfl ?_
          refine g_bipush (v := (60 : Int32)) 41 hC dX9_slotWord_41 (by decide) ?_
          refine g_iload_n 43 3 hC dX9_slotWord_43 rfl ?_
          refine g_iadd 44 hC dX9_slotWord_44 ?_
          refine g_bipush (v := (60 : Int32)) 45 hC dX9_slotWord_45 (by decide) ?_
          refine g_iload_n 47 3 hC dX9_slotWord_47 rfl ?_
          refine g_iadd 48 hC dX9_slotWord_48 ?_
          refine g_cVi (As := [.int x1, .int ((60 : Int32) + x3), .int ((60 : Int32) + x3)]) (rest := []) 49 0 [0, 1] hC (c_X9_tokensOf l D cI cS cT ad b0 x1 ((60 : Int32) + x3) ((60 : Int32) + x3) mnow mundoMany mtokens moneLong motherLong medits mgroups _ h) kX9_tokensOf wq_473 dX9_slotWord_49 rfl rfl ⟨Nat.le_of_ble_eq_true rfl, Nat.le_of_ble_eq_true rfl⟩ rfl rfl (Nat.zero_le _) (Nat.zero_le _) rfl rfl rfl (Nat.le_of_ble_eq_true rfl) ?_
          rintro r8 _ ⟨rfl, h⟩
          refine ⟨Nat.le_of_ble_eq_true rfl, G.upd [2, 3, 4] (Wd_X9_slotWord cI cS cT ad b0 mnow mundoMany mtokens moneLong motherLong medits u4 u5 u6 mgroups) rfl rfl rfl rfl rfl ?_⟩
          refine g_if_le 52 59 hC dX9_slotWord_52 (by decide) (fun hc => ?_) (fun hc => ?_)
          · replace h := h.1 hc
            refine g_iconst (v := (0 : Int32)) 59 hC dX9_slotWord_59 (by decide) ?_
            refine g_istore 60 [(4, .int (0 : Int32)), (0, .ref (ad b0)), (1, .int x1), (2, .int x2), (3, .int x3)] hC dX9_slotWord_60 (by rw [hn]; decide) rfl ?_
            refine g_iload 62 0 hC dX9_slotWord_62 rfl ?_
            refine g_if_eq 64 76 hC dX9_slotWord_64 (by decide) (fun _ => ?_) (fun hc => absurd hc (by decide))
            refine g_bipush (v := (-4 : Int32)) 76 hC dX9_slotWord_76 (by decide) ?_
            exact g_iret 78 hC hR dX9_slotWord_78 ⟨u4, u5, u6, rfl, h⟩
          · replace h := h.2 hc
            refine g_iconst (v := (1 : Int32)) 55 hC dX9_slotWord_55 (by decide) ?_
            refine g_goto 56 60 hC dX9_slotWord_56 (by decide) ?_
            refine g_istore 60 [(4, .int (1 : Int32)), (0, .ref (ad b0)), (1, .int x1), (2, .int x2), (3, .int x3)] hC dX9_slotWord_60 (by rw [hn]; decide) rfl ?_
            refine g_iload 62 0 hC dX9_slotWord_62 rfl ?_
            refine g_if_eq 64 76 hC dX9_slotWord_64 (by decide) (fun hc => absurd hc (by decide)) (fun _ => ?_)
            refine g_aload_n 67 1 hC dX9_slotWord_67 rfl ?_
            refine g_get 68 0 14 hC inlX9 wq_113 dX9_slotWord_68 rfl rfl (by decide) rfl ?_
            refine g_iload_n 71 4 hC dX9_slotWord_71 rfl ?_
            obtain ⟨hj, h⟩ := h
            refine g_iald 72 4 hC dX9_slotWord_72 rfl rfl hj ?_
            refine g_goto 73 78 hC dX9_slotWord_73 (by decide) ?_
            exact g_iret 78 hC hR dX9_slotWord_78 ⟨u4, u5, u6, rfl, h⟩
      · replace h := h.2 hc
        refine g_iconst (v := (-1 : Int32)) 28 hC dX9_slotWord_28 (by decide) ?_
        exact g_iret 29 hC hR dX9_slotWord_29 ⟨mgap, mslot, mfirstSlot, rfl, h⟩

/-! ===== ProverbCollectionModel.matchedSayings(I)I ===== -/
def Wd_X9_matchedSayings (cI cS cT : ClassId) (ad : Nat → Nat) (b0 : Nat) (mnow : Nat → Int32) (mundoMany : Int32) (mtokens : Int32) (moneLong : Int32) (motherLong : Int32) (medits : Int32) (mgap : Nat → Int32) (mslot : Nat → Int32) (mfirstSlot : Nat → Int32) (mgroups : Int32) : va_W := [(ad b0, .inr (9, [.ref (ad (b0 + 1)), .ref (ad (b0 + 2)), .int mundoMany, .int mtokens, .ref (ad (b0 + 3)), .ref (ad (b0 + 4)), .ref (ad (b0 + 5)), .int moneLong, .int motherLong, .ref (ad (b0 + 6)), .int medits, .ref (ad (b0 + 7)), .ref (ad (b0 + 8)), .ref (ad (b0 + 9)), .ref (ad (b0 + 10)), .int mgroups, .ref (ad (b0 + 11)), .ref (ad (b0 + 12))])), (ad (b0 + 1), .inl (cI, 193, .inl mnow)), (ad (b0 + 8), .inl (cI, 8, .inl mgap)), (ad (b0 + 9), .inl (cI, 4, .inl mslot)), (ad (b0 + 10), .inl (cI, 4, .inl mfirstSlot))]
def rm_X9_matchedSayings : Room := { frames := 3, cells := 0, slots := 0, locals := 77 }
theorem kX9_matchedSayings : KV yX9_matchedSayings cX9_matchedSayings 4 (some .int) 1 := ⟨wq_500, wq_5, wq_498, wq_499, by decide +kernel⟩
def B_X9_matchedSayings_14 (v1 : Int32) (mnow : Nat → Int32) (mundoMany : Int32) (mtokens : Int32) (moneLong : Int32) (motherLong : Int32) (medits : Int32) (mgroups : Int32) (K : Int32 → Int32 → (Nat → Int32) → (Nat → Int32) → (Nat → Int32) → Prop) (rc : Int32 → Int32 → (Nat → Int32) → (Nat → Int32) → (Nat → Int32) → Prop) (v3 : Int32) (v2 : Int32) (mgap : Nat → Int32) (mslot : Nat → Int32) (mfirstSlot : Nat → Int32) : Prop :=
  ((mnow (Int32.toNatClampNeg (0 : Int32))) ≤ v3 → K v3 v2 mgap mslot mfirstSlot) ∧ (¬ (mnow (Int32.toNatClampNeg (0 : Int32))) ≤ v3 → (P_X9_fills v1 v3 mnow mundoMany mtokens moneLong motherLong medits mgap mslot mfirstSlot mgroups (fun r5 u2 u3 u4 => (r5 ≤ 0 → rc (v3 + (1 : Int32)) (v2 ||| (0 : Int32)) u2 u3 u4) ∧ (¬ r5 ≤ 0 → rc (v3 + (1 : Int32)) (v2 ||| ((1 : Int32) <<< (v3 &&& 31))) u2 u3 u4))))
def P_X9_matchedSayings_14 (v1 : Int32) (mnow : Nat → Int32) (mundoMany : Int32) (mtokens : Int32) (moneLong : Int32) (motherLong : Int32) (medits : Int32) (mgroups : Int32) (K : Int32 → Int32 → (Nat → Int32) → (Nat → Int32) → (Nat → Int32) → Prop) : Nat → Int32 → Int32 → (Nat → Int32) → (Nat → Int32) → (Nat → Int32) → Prop
  | 0 => fun _ _ _ _ _ => False
  | n + 1 => fun v3 v2 mgap mslot mfirstSlot => B_X9_matchedSayings_14 v1 mnow mundoMany mtokens moneLong motherLong medits mgroups K (P_X9_matchedSayings_14 v1 mnow mundoMany mtokens moneLong motherLong medits mgroups K n) v3 v2 mgap mslot mfirstSlot
def P_X9_matchedSayings (x1 : Int32) (mnow : Nat → Int32) (mundoMany : Int32) (mtokens : Int32) (moneLong : Int32) (motherLong : Int32) (medits : Int32) (mgap : Nat → Int32) (mslot : Nat → Int32) (mfirstSlot : Nat → Int32) (mgroups : Int32) (post : Int32 → (Nat → Int32) → (Nat → Int32) → (Nat → Int32) → Prop) : Prop :=
  P_X9_isPattern x1 mnow mundoMany mtokens moneLong motherLong medits mgroups (fun r1 => (¬ r1 = 0 → (∃ n : Nat, P_X9_matchedSayings_14 x1 mnow mundoMany mtokens moneLong motherLong medits mgroups (fun w3_6 w2_6 mgap_6 mslot_6 mfirstSlot_6 => post w2_6 mgap_6 mslot_6 mfirstSlot_6) n (0 : Int32) (0 : Int32) mgap mslot mfirstSlot)) ∧ (r1 = 0 → post (-1 : Int32) mgap mslot mfirstSlot))
set_option maxHeartbeats 4000000 in
set_option maxRecDepth 100000 in
theorem L_X9_matchedSayings_14 {l : Launch} {D : va_G} {cI cS cT : ClassId} {ad : Nat → Nat} {b0 : Nat} {E : CE} {v1 : Int32} {mnow : Nat → Int32} {mundoMany : Int32} {mtokens : Int32} {moneLong : Int32} {motherLong : Int32} {medits : Int32} {mgroups : Int32} {post : Int32 → (Nat → Int32) → (Nat → Int32) → (Nat → Int32) → Prop} (hC : Cx l D (TY cI cS cT) E rm_X9_matchedSayings cX9_matchedSayings RX9) (hR : RetI D E (fun (r : Int32) w => ∃ (u_mgap : Nat → Int32) (u_mslot : Nat → Int32) (u_mfirstSlot : Nat → Int32), w = (Wd_X9_matchedSayings cI cS cT ad b0 mnow mundoMany mtokens moneLong motherLong medits u_mgap u_mslot u_mfirstSlot mgroups) ∧ post r u_mgap u_mslot u_mfirstSlot) 0 0 (some .int)) (hn : E.nL = 4) (K : Int32 → Int32 → (Nat → Int32) → (Nat → Int32) → (Nat → Int32) → Prop) (hK : ∀ (v3 : Int32) (v2 : Int32) (mgap : Nat → Int32) (mslot : Nat → Int32) (mfirstSlot : Nat → Int32), K v3 v2 mgap mslot mfirstSlot → G l D E 0 0 (Wd_X9_matchedSayings cI cS cT ad b0 mnow mundoMany mtokens moneLong motherLong medits mgap mslot mfirstSlot mgroups) [(3, .int v3), (2, .int v2), (0, .ref (ad b0)), (1, .int v1)] 49 []) : ∀ (n : Nat) (v3 : Int32) (v2 : Int32) (mgap : Nat → Int32) (mslot : Nat → Int32) (mfirstSlot : Nat → Int32), P_X9_matchedSayings_14 v1 mnow mundoMany mtokens moneLong motherLong medits mgroups K n v3 v2 mgap mslot mfirstSlot → G l D E 0 0 (Wd_X9_matchedSayings cI cS cT ad b0 mnow mundoMany mtokens moneLong motherLong medits mgap mslot mfirstSlot mgroups) [(3, .int v3), (2, .int v2), (0, .ref (ad b0)), (1, .int v1)] 14 [] := by
  intro n
  induction n with
  | zero => exact fun _ _ _ _ _ h => h.elim
  | succ n ih =>
    intro v3 v2 mgap mslot mfirstSlot h
    replace h : B_X9_matchedSayings_14 v1 mnow mundoMany mtokens moneLong motherLong medits mgroups K (P_X9_matchedSayings_14 v1 mnow mundoMany mtokens moneLong motherLong medits mgroups K n) v3 v2 mgap mslot mfirstSlot := h
    unfold B_X9_matchedSayings_14 at h
    refine g_iload_n 14 0 hC dX9_matchedSayings_14 rfl ?_
    refine g_aload_n 15 2 hC dX9_matchedSayings_15 rfl ?_
    refine g_get 16 0 0 hC inlX9 wq_104 dX9_matchedSayings_16 rfl rfl (by decide) rfl ?_
    refine g_iconst (v := (0 : Int32)) 19 hC dX9_matchedSayings_19 (by decide) ?_
    refine g_iald 20 1 hC dX9_matchedSayings_20 rfl rfl (by unfold vp_in; decide) ?_
    refine g_icmp_ge 21 49 hC dX9_matchedSayings_21 (by decide) (fun hc => ?_) (fun hc => ?_)
    · replace h := h.1 hc
      refine G.sub [0, 1, 2, 3] rfl ?_
      exact hK v3 v2 mgap mslot mfirstSlot h
    · replace h := h.2 hc
      refine g_iload_n 24 1 hC dX9_matchedSayings_24 rfl ?_
      refine g_aload_n 25 2 hC dX9_matchedSayings_25 rfl ?_
      refine g_iload_n 26 3 hC dX9_matchedSayings_26 rfl ?_
      refine g_iload_n 27 0 hC dX9_matchedSayings_27 rfl ?_
      refine g_cVi (As := [.int v1, .int v3]) (rest := [.int v2]) 28 0 [0, 1, 2, 3, 4] hC (c_X9_fills l D cI cS cT ad b0 v1 v3 mnow mundoMany mtokens moneLong motherLong medits mgap mslot mfirstSlot mgroups _ h) kX9_fills wq_469 dX9_matchedSayings_28 rfl rfl ⟨Nat.le_of_ble_eq_true rfl, Nat.le_of_ble_eq_true rfl⟩ rfl rfl (Nat.zero_le _) (Nat.zero_le _) rfl rfl rfl (Nat.le_of_ble_eq_true rfl) ?_
      rintro r5 _ ⟨u2, u3, u4, rfl, h⟩
      refine ⟨Nat.le_of_ble_eq_true rfl, G.upd [] (Wd_X9_matchedSayings cI cS cT ad b0 mnow mundoMany mtokens moneLong motherLong medits u2 u3 u4 mgroups) rfl rfl rfl rfl rfl ?_⟩
      refine g_if_le 31 40 hC dX9_matchedSayings_31 (by decide) (fun hc => ?_) (fun hc => ?_)
      · replace h := h.1 hc
        refine g_iconst (v := (0 : Int32)) 40 hC dX9_matchedSayings_40 (by decide) ?_
        refine g_ior 41 hC dX9_matchedSayings_41 ?_
        refine g_istore_n 42 [(2, .int (v2 ||| (0 : Int32))), (3, .int v3), (0, .ref (ad b0)), (1, .int v1)] hC dX9_matchedSayings_42 (by rw [hn]; decide) rfl ?_
        refine g_iinc (v := (1 : Int32)) 43 1 [(3, .int (v3 + (1 : Int32))), (2, .int (v2 ||| (0 : Int32))), (0, .ref (ad b0)), (1, .int v1)] hC dX9_matchedSayings_43 rfl (by decide) (by rw [hn]; decide) rfl ?_
        refine g_goto 46 14 hC dX9_matchedSayings_46 (by decide) ?_
        refine G.sub [0, 1, 2, 3] rfl ?_
        exact ih _ _ _ _ _ h
      · replace h := h.2 hc
        refine g_iconst (v := (1 : Int32)) 34 hC dX9_matchedSayings_34 (by decide) ?_
        refine g_iload_n 35 0 hC dX9_matchedSayings_35 rfl ?_
        refine g_ishl 36 hC dX9_matchedSayings_36 ?_
        refine g_goto 37 41 hC dX9_matchedSayings_37 (by decide) ?_
        refine g_ior 41 hC dX9_matchedSayings_41 ?_
        refine g_istore_n 42 [(2, .int (v2 ||| ((1 : Int32) <<< (v3 &&& 31)))), (3, .int v3), (0, .ref (ad b0)), (1, .int v1)] hC dX9_matchedSayings_42 (by rw [hn]; decide) rfl ?_
        refine g_iinc (v := (1 : Int32)) 43 1 [(3, .int (v3 + (1 : Int32))), (2, .int (v2 ||| ((1 : Int32) <<< (v3 &&& 31)))), (0, .ref (ad b0)), (1, .int v1)] hC dX9_matchedSayings_43 rfl (by decide) (by rw [hn]; decide) rfl ?_
        refine g_goto 46 14 hC dX9_matchedSayings_46 (by decide) ?_
        refine G.sub [0, 1, 2, 3] rfl ?_
        exact ih _ _ _ _ _ h
set_option maxHeartbeats 4000000 in
set_option maxRecDepth 100000 in
theorem c_X9_matchedSayings (l : Launch) (D : va_G) (cI cS cT : ClassId) (ad : Nat → Nat) (b0 : Nat) (x1 : Int32) (mnow : Nat → Int32) (mundoMany : Int32) (mtokens : Int32) (moneLong : Int32) (motherLong : Int32) (medits : Int32) (mgap : Nat → Int32) (mslot : Nat → Int32) (mfirstSlot : Nat → Int32) (mgroups : Int32) (post : Int32 → (Nat → Int32) → (Nat → Int32) → (Nat → Int32) → Prop) (h : P_X9_matchedSayings x1 mnow mundoMany mtokens moneLong motherLong medits mgap mslot mfirstSlot mgroups post) : MI l D (TY cI cS cT) yX9_matchedSayings cX9_matchedSayings 4 (some .int) rm_X9_matchedSayings [.ref (ad b0), .int x1] (Wd_X9_matchedSayings cI cS cT ad b0 mnow mundoMany mtokens moneLong motherLong medits mgap mslot mfirstSlot mgroups) (fun (r : Int32) w => ∃ (u_mgap : Nat → Int32) (u_mslot : Nat → Int32) (u_mfirstSlot : Nat → Int32), w = (Wd_X9_matchedSayings cI cS cT ad b0 mnow mundoMany mtokens moneLong motherLong medits u_mgap u_mslot u_mfirstSlot mgroups) ∧ post r u_mgap u_mslot u_mfirstSlot) := by
  refine MI.of (by decide) (Nat.le_of_ble_eq_true rfl) (fun E hC hR hn => ?_)
  replace hC : Cx l D (TY cI cS cT) E rm_X9_matchedSayings cX9_matchedSayings RX9 := hC
  replace hR : RetI D E (fun (r : Int32) w => ∃ (u_mgap : Nat → Int32) (u_mslot : Nat → Int32) (u_mfirstSlot : Nat → Int32), w = (Wd_X9_matchedSayings cI cS cT ad b0 mnow mundoMany mtokens moneLong motherLong medits u_mgap u_mslot u_mfirstSlot mgroups) ∧ post r u_mgap u_mslot u_mfirstSlot) 0 0 (some .int) := hR
  unfold P_X9_matchedSayings at h
  change G l D E 0 0 _ [(0, .ref (ad b0)), (1, .int x1)] 0 []
  refine g_aload_n 0 0 hC dX9_matchedSayings_0 rfl ?_
  refine g_iload_n 1 1 hC dX9_matchedSayings_1 rfl ?_
  refine g_cVi (As := [.int x1]) (rest := []) 2 0 [0, 1] hC (c_X9_isPattern l D cI cS cT ad b0 x1 mnow mundoMany mtokens moneLong motherLong medits mgroups _ h) kX9_isPattern wq_441 dX9_matchedSayings_2 rfl rfl ⟨Nat.le_of_ble_eq_true rfl, Nat.le_of_ble_eq_true rfl⟩ rfl rfl (Nat.zero_le _) (Nat.zero_le _) rfl rfl rfl (Nat.le_of_ble_eq_true rfl) ?_
  rintro r1 _ ⟨rfl, h⟩
  refine ⟨Nat.le_of_ble_eq_true rfl, G.upd [2, 3, 4] (Wd_X9_matchedSayings cI cS cT ad b0 mnow mundoMany mtokens moneLong motherLong medits mgap mslot mfirstSlot mgroups) rfl rfl rfl rfl rfl ?_⟩
  refine g_if_ne 5 10 hC dX9_matchedSayings_5 (by decide) (fun hc => ?_) (fun hc => ?_)
  · replace h := h.1 hc
    refine g_iconst (v := (0 : Int32)) 10 hC dX9_matchedSayings_10 (by decide) ?_
    refine g_istore_n 11 [(2, .int (0 : Int32)), (0, .ref (ad b0)), (1, .int x1)] hC dX9_matchedSayings_11 (by rw [hn]; decide) rfl ?_
    refine g_iconst (v := (0 : Int32)) 12 hC dX9_matchedSayings_12 (by decide) ?_
    refine g_istore_n 13 [(3, .int (0 : Int32)), (2, .int (0 : Int32)), (0, .ref (ad b0)), (1, .int x1)] hC dX9_matchedSayings_13 (by rw [hn]; decide) rfl ?_
    obtain ⟨n, h⟩ := h
    refine L_X9_matchedSayings_14 hC hR hn _ (fun w3_6 w2_6 mgap_6 mslot_6 mfirstSlot_6 h => ?_) n _ _ _ _ _ h
    refine g_iload_n 49 1 hC dX9_matchedSayings_49 rfl ?_
    exact g_iret 50 hC hR dX9_matchedSayings_50 ⟨mgap_6, mslot_6, mfirstSlot_6, rfl, h⟩
  · replace h := h.2 hc
    refine g_iconst (v := (-1 : Int32)) 8 hC dX9_matchedSayings_8 (by decide) ?_
    exact g_iret 9 hC hR dX9_matchedSayings_9 ⟨mgap, mslot, mfirstSlot, rfl, h⟩

/-! ===== ProverbCollectionModel.bestPattern(I)I ===== -/
def Wd_X9_bestPattern (cI cS cT : ClassId) (ad : Nat → Nat) (b0 : Nat) (mnow : Nat → Int32) (mundoMany : Int32) (mtokens : Int32) (moneLong : Int32) (motherLong : Int32) (medits : Int32) (mgap : Nat → Int32) (mslot : Nat → Int32) (mfirstSlot : Nat → Int32) (mgroups : Int32) : va_W := [(ad b0, .inr (9, [.ref (ad (b0 + 1)), .ref (ad (b0 + 2)), .int mundoMany, .int mtokens, .ref (ad (b0 + 3)), .ref (ad (b0 + 4)), .ref (ad (b0 + 5)), .int moneLong, .int motherLong, .ref (ad (b0 + 6)), .int medits, .ref (ad (b0 + 7)), .ref (ad (b0 + 8)), .ref (ad (b0 + 9)), .ref (ad (b0 + 10)), .int mgroups, .ref (ad (b0 + 11)), .ref (ad (b0 + 12))])), (ad (b0 + 1), .inl (cI, 193, .inl mnow)), (ad (b0 + 8), .inl (cI, 8, .inl mgap)), (ad (b0 + 9), .inl (cI, 4, .inl mslot)), (ad (b0 + 10), .inl (cI, 4, .inl mfirstSlot))]
def rm_X9_bestPattern : Room := { frames := 3, cells := 0, slots := 0, locals := 77 }
theorem kX9_bestPattern : KV yX9_bestPattern cX9_bestPattern 6 (some .int) 1 := ⟨wq_514, wq_5, wq_512, wq_513, by decide +kernel⟩
def B_X9_bestPattern_18 (v1 : Int32) (mnow : Nat → Int32) (mundoMany : Int32) (mtokens : Int32) (moneLong : Int32) (motherLong : Int32) (medits : Int32) (mgroups : Int32) (K : Int32 → Int32 → Int32 → (Nat → Int32) → (Nat → Int32) → (Nat → Int32) → Prop) (rc : Int32 → Int32 → Int32 → (Nat → Int32) → (Nat → Int32) → (Nat → Int32) → Prop) (v4 : Int32) (v3 : Int32) (v2 : Int32) (mgap : Nat → Int32) (mslot : Nat → Int32) (mfirstSlot : Nat → Int32) : Prop :=
  ((mnow (Int32.toNatClampNeg (133 : Int32))) ≤ v4 → K v4 v3 v2 mgap mslot mfirstSlot) ∧ (¬ (mnow (Int32.toNatClampNeg (133 : Int32))) ≤ v4 → (P_X9_tokensOf v4 (0 : Int32) (59 : Int32) mnow mundoMany mtokens moneLong motherLong medits mgroups (fun r2 => P_X9_tokensOf v4 (64 : Int32) (64 : Int32) mnow mundoMany mtokens moneLong motherLong medits mgroups (fun r3 => P_X9_fills v4 v1 mnow mundoMany mtokens moneLong motherLong medits mgap mslot mfirstSlot mgroups (fun r7 u4 u5 u6 => (r7 ≤ 0 → rc (v4 + (1 : Int32)) v3 v2 u4 u5 u6) ∧ (¬ r7 ≤ 0 → ((((((10 : Int32) * r2) + (8 : Int32)) - r3) ≤ v3 → rc (v4 + (1 : Int32)) v3 v2 u4 u5 u6) ∧ (¬ ((((10 : Int32) * r2) + (8 : Int32)) - r3) ≤ v3 → rc (v4 + (1 : Int32)) ((((10 : Int32) * r2) + (8 : Int32)) - r3) v4 u4 u5 u6))))))))
def P_X9_bestPattern_18 (v1 : Int32) (mnow : Nat → Int32) (mundoMany : Int32) (mtokens : Int32) (moneLong : Int32) (motherLong : Int32) (medits : Int32) (mgroups : Int32) (K : Int32 → Int32 → Int32 → (Nat → Int32) → (Nat → Int32) → (Nat → Int32) → Prop) : Nat → Int32 → Int32 → Int32 → (Nat → Int32) → (Nat → Int32) → (Nat → Int32) → Prop
  | 0 => fun _ _ _ _ _ _ => False
  | n + 1 => fun v4 v3 v2 mgap mslot mfirstSlot => B_X9_bestPattern_18 v1 mnow mundoMany mtokens moneLong motherLong medits mgroups K (P_X9_bestPattern_18 v1 mnow mundoMany mtokens moneLong motherLong medits mgroups K n) v4 v3 v2 mgap mslot mfirstSlot
def P_X9_bestPattern (x1 : Int32) (mnow : Nat → Int32) (mundoMany : Int32) (mtokens : Int32) (moneLong : Int32) (motherLong : Int32) (medits : Int32) (mgap : Nat → Int32) (mslot : Nat → Int32) (mfirstSlot : Nat → Int32) (mgroups : Int32) (post : Int32 → (Nat → Int32) → (Nat → Int32) → (Nat → Int32) → Prop) : Prop :=
  P_X9_isSaying x1 mnow mundoMany mtokens moneLong motherLong medits mgroups (fun r1 => (¬ r1 = 0 → (∃ n : Nat, P_X9_bestPattern_18 x1 mnow mundoMany mtokens moneLong motherLong medits mgroups (fun w4_8 w3_8 w2_8 mgap_8 mslot_8 mfirstSlot_8 => post w2_8 mgap_8 mslot_8 mfirstSlot_8) n (0 : Int32) (-1 : Int32) (-4 : Int32) mgap mslot mfirstSlot)) ∧ (r1 = 0 → post (-1 : Int32) mgap mslot mfirstSlot))
set_option maxHeartbeats 4000000 in
set_option maxRecDepth 100000 in
theorem L_X9_bestPattern_18 {l : Launch} {D : va_G} {cI cS cT : ClassId} {ad : Nat → Nat} {b0 : Nat} {E : CE} {v1 : Int32} {mnow : Nat → Int32} {mundoMany : Int32} {mtokens : Int32} {moneLong : Int32} {motherLong : Int32} {medits : Int32} {mgroups : Int32} {post : Int32 → (Nat → Int32) → (Nat → Int32) → (Nat → Int32) → Prop} (hC : Cx l D (TY cI cS cT) E rm_X9_bestPattern cX9_bestPattern RX9) (hR : RetI D E (fun (r : Int32) w => ∃ (u_mgap : Nat → Int32) (u_mslot : Nat → Int32) (u_mfirstSlot : Nat → Int32), w = (Wd_X9_bestPattern cI cS cT ad b0 mnow mundoMany mtokens moneLong motherLong medits u_mgap u_mslot u_mfirstSlot mgroups) ∧ post r u_mgap u_mslot u_mfirstSlot) 0 0 (some .int)) (hn : E.nL = 6) (K : Int32 → Int32 → Int32 → (Nat → Int32) → (Nat → Int32) → (Nat → Int32) → Prop) (hK : ∀ (v4 : Int32) (v3 : Int32) (v2 : Int32) (mgap : Nat → Int32) (mslot : Nat → Int32) (mfirstSlot : Nat → Int32), K v4 v3 v2 mgap mslot mfirstSlot → G l D E 0 0 (Wd_X9_bestPattern cI cS cT ad b0 mnow mundoMany mtokens moneLong motherLong medits mgap mslot mfirstSlot mgroups) [(4, .int v4), (3, .int v3), (2, .int v2), (0, .ref (ad b0)), (1, .int v1)] 87 []) : ∀ (n : Nat) (v4 : Int32) (v3 : Int32) (v2 : Int32) (mgap : Nat → Int32) (mslot : Nat → Int32) (mfirstSlot : Nat → Int32), P_X9_bestPattern_18 v1 mnow mundoMany mtokens moneLong motherLong medits mgroups K n v4 v3 v2 mgap mslot mfirstSlot → G l D E 0 0 (Wd_X9_bestPattern cI cS cT ad b0 mnow mundoMany mtokens moneLong motherLong medits mgap mslot mfirstSlot mgroups) [(4, .int v4), (3, .int v3), (2, .int v2), (0, .ref (ad b0)), (1, .int v1)] 18 [] := by
  intro n
  induction n with
  | zero => exact fun _ _ _ _ _ _ h => h.elim
  | succ n ih =>
    intro v4 v3 v2 mgap mslot mfirstSlot h
    replace h : B_X9_bestPattern_18 v1 mnow mundoMany mtokens moneLong motherLong medits mgroups K (P_X9_bestPattern_18 v1 mnow mundoMany mtokens moneLong motherLong medits mgroups K n) v4 v3 v2 mgap mslot mfirstSlot := h
    unfold B_X9_bestPattern_18 at h
    refine g_iload 18 0 hC dX9_bestPattern_18 rfl ?_
    refine g_aload_n 20 3 hC dX9_bestPattern_20 rfl ?_
    refine g_get 21 0 0 hC inlX9 wq_104 dX9_bestPattern_21 rfl rfl (by decide) rfl ?_
    refine g_sipush (v := (133 : Int32)) 24 hC dX9_bestPattern_24 (by decide) ?_
    refine g_iald 27 1 hC dX9_bestPattern_27 rfl rfl (by unfold vp_in; decide) ?_
    refine g_icmp_ge 28 87 hC dX9_bestPattern_28 (by decide) (fun hc => ?_) (fun hc => ?_)
    · replace h := h.1 hc
      refine G.sub [0, 1, 2, 3, 4] rfl ?_
      exact hK v4 v3 v2 mgap mslot mfirstSlot h
    · replace h := h.2 hc
      refine g_bipush (v := (10 : Int32)) 31 hC dX9_bestPattern_31 (by decide) ?_
      refine g_aload_n 33 3 hC dX9_bestPattern_33 rfl ?_
      refine g_iload 34 0 hC dX9_bestPattern_34 rfl ?_
      refine g_iconst (v := (0 : Int32)) 36 hC dX9_bestPattern_36 (by decide) ?_
      refine g_bipush (v := (59 : Int32)) 37 hC dX9_bestPattern_37 (by decide) ?_
      refine g_cVi (As := [.int v4, .int (0 : Int32), .int (59 : Int32)]) (rest := [.int (10 : Int32)]) 39 0 [0, 1] hC (c_X9_tokensOf l D cI cS cT ad b0 v4 (0 : Int32) (59 : Int32) mnow mundoMany mtokens moneLong motherLong medits mgroups _ h) kX9_tokensOf wq_473 dX9_bestPattern_39 rfl rfl ⟨Nat.le_of_ble_eq_true rfl, Nat.le_of_ble_eq_true rfl⟩ rfl rfl (Nat.zero_le _) (Nat.zero_le _) rfl rfl rfl (Nat.le_of_ble_eq_true rfl) ?_
      rintro r2 _ ⟨rfl, h⟩
      refine ⟨Nat.le_of_ble_eq_true rfl, G.upd [2, 3, 4] (Wd_X9_bestPattern cI cS cT ad b0 mnow mundoMany mtokens moneLong motherLong medits mgap mslot mfirstSlot mgroups) rfl rfl rfl rfl rfl ?_⟩
      refine g_imul 42 hC dX9_bestPattern_42 ?_
      refine g_bipush (v := (8 : Int32)) 43 hC dX9_bestPattern_43 (by decide) ?_
      refine g_iadd 45 hC dX9_bestPattern_45 ?_
      refine g_aload_n 46 3 hC dX9_bestPattern_46 rfl ?_
      refine g_iload 47 0 hC dX9_bestPattern_47 rfl ?_
      refine g_bipush (v := (64 : Int32)) 49 hC dX9_bestPattern_49 (by decide) ?_
      refine g_bipush (v := (64 : Int32)) 51 hC dX9_bestPattern_51 (by decide) ?_
      refine g_cVi (As := [.int v4, .int (64 : Int32), .int (64 : Int32)]) (rest := [.int (((10 : Int32) * r2) + (8 : Int32))]) 53 0 [0, 1] hC (c_X9_tokensOf l D cI cS cT ad b0 v4 (64 : Int32) (64 : Int32) mnow mundoMany mtokens moneLong motherLong medits mgroups _ h) kX9_tokensOf wq_473 dX9_bestPattern_53 rfl rfl ⟨Nat.le_of_ble_eq_true rfl, Nat.le_of_ble_eq_true rfl⟩ rfl rfl (Nat.zero_le _) (Nat.zero_le _) rfl rfl rfl (Nat.le_of_ble_eq_true rfl) ?_
      rintro r3 _ ⟨rfl, h⟩
      refine ⟨Nat.le_of_ble_eq_true rfl, G.upd [2, 3, 4] (Wd_X9_bestPattern cI cS cT ad b0 mnow mundoMany mtokens moneLong motherLong medits mgap mslot mfirstSlot mgroups) rfl rfl rfl rfl rfl ?_⟩
      refine g_isub 56 hC dX9_bestPattern_56 ?_
      refine g_istore 57 [(5, .int ((((10 : Int32) * r2) + (8 : Int32)) - r3)), (4, .int v4), (3, .int v3), (2, .int v2), (0, .ref (ad b0)), (1, .int v1)] hC dX9_bestPattern_57 (by rw [hn]; decide) rfl ?_
      refine g_aload_n 59 4 hC dX9_bestPattern_59 rfl ?_
      refine g_iload 60 1 hC dX9_bestPattern_60 rfl ?_
      refine g_iload_n 62 5 hC dX9_bestPattern_62 rfl ?_
      refine g_cVi (As := [.int v4, .int v1]) (rest := []) 63 0 [0, 1, 2, 3, 4] hC (c_X9_fills l D cI cS cT ad b0 v4 v1 mnow mundoMany mtokens moneLong motherLong medits mgap mslot mfirstSlot mgroups _ h) kX9_fills wq_469 dX9_bestPattern_63 rfl rfl ⟨Nat.le_of_ble_eq_true rfl, Nat.le_of_ble_eq_true rfl⟩ rfl rfl (Nat.zero_le _) (Nat.zero_le _) rfl rfl rfl (Nat.le_of_ble_eq_true rfl) ?_
      rintro r7 _ ⟨u4, u5, u6, rfl, h⟩
      refine ⟨Nat.le_of_ble_eq_true rfl, G.upd [] (Wd_X9_bestPattern cI cS cT ad b0 mnow mundoMany mtokens moneLong motherLong medits u4 u5 u6 mgroups) rfl rfl rfl rfl rfl ?_⟩
      refine g_if_le 66 81 hC dX9_bestPattern_66 (by decide) (fun hc => ?_) (fun hc => ?_)
      · replace h := h.1 hc
        refine g_iinc (v := (1 : Int32)) 81 1 [(4, .int (v4 + (1 : Int32))), (5, .int ((((10 : Int32) * r2) + (8 : Int32)) - r3)), (3, .int v3), (2, .int v2), (0, .ref (ad b0)), (1, .int v1)] hC dX9_bestPattern_81 rfl (by decide) (by rw [hn]; decide) rfl ?_
        refine g_goto 84 18 hC dX9_bestPattern_84 (by decide) ?_
        refine G.sub [0, 2, 3, 4, 5] rfl ?_
        exact ih _ _ _ _ _ _ h
      · replace h := h.2 hc
        refine g_iload 69 0 hC dX9_bestPattern_69 rfl ?_
        refine g_iload_n 71 2 hC dX9_bestPattern_71 rfl ?_
        refine g_icmp_le 72 81 hC dX9_bestPattern_72 (by decide) (fun hc => ?_) (fun hc => ?_)
        · replace h := h.1 hc
          refine g_iinc (v := (1 : Int32)) 81 1 [(4, .int (v4 + (1 : Int32))), (5, .int ((((10 : Int32) * r2) + (8 : Int32)) - r3)), (3, .int v3), (2, .int v2), (0, .ref (ad b0)), (1, .int v1)] hC dX9_bestPattern_81 rfl (by decide) (by rw [hn]; decide) rfl ?_
          refine g_goto 84 18 hC dX9_bestPattern_84 (by decide) ?_
          refine G.sub [0, 2, 3, 4, 5] rfl ?_
          exact ih _ _ _ _ _ _ h
        · replace h := h.2 hc
          refine g_iload 75 1 hC dX9_bestPattern_75 rfl ?_
          refine g_istore_n 77 [(2, .int v4), (5, .int ((((10 : Int32) * r2) + (8 : Int32)) - r3)), (4, .int v4), (3, .int v3), (0, .ref (ad b0)), (1, .int v1)] hC dX9_bestPattern_77 (by rw [hn]; decide) rfl ?_
          refine g_iload 78 1 hC dX9_bestPattern_78 rfl ?_
          refine g_istore_n 80 [(3, .int ((((10 : Int32) * r2) + (8 : Int32)) - r3)), (2, .int v4), (5, .int ((((10 : Int32) * r2) + (8 : Int32)) - r3)), (4, .int v4), (0, .ref (ad b0)), (1, .int v1)] hC dX9_bestPattern_80 (by rw [hn]; decide) rfl ?_
          refine g_iinc (v := (1 : Int32)) 81 3 [(4, .int (v4 + (1 : Int32))), (3, .int ((((10 : Int32) * r2) + (8 : Int32)) - r3)), (2, .int v4), (5, .int ((((10 : Int32) * r2) + (8 : Int32)) - r3)), (0, .ref (ad b0)), (1, .int v1)] hC dX9_bestPattern_81 rfl (by decide) (by rw [hn]; decide) rfl ?_
          refine g_goto 84 18 hC dX9_bestPattern_84 (by decide) ?_
          refine G.sub [0, 1, 2, 4, 5] rfl ?_
          exact ih _ _ _ _ _ _ h
set_option maxHeartbeats 4000000 in
set_option maxRecDepth 100000 in
theorem c_X9_bestPattern (l : Launch) (D : va_G) (cI cS cT : ClassId) (ad : Nat → Nat) (b0 : Nat) (x1 : Int32) (mnow : Nat → Int32) (mundoMany : Int32) (mtokens : Int32) (moneLong : Int32) (motherLong : Int32) (medits : Int32) (mgap : Nat → Int32) (mslot : Nat → Int32) (mfirstSlot : Nat → Int32) (mgroups : Int32) (post : Int32 → (Nat → Int32) → (Nat → Int32) → (Nat → Int32) → Prop) (h : P_X9_bestPattern x1 mnow mundoMany mtokens moneLong motherLong medits mgap mslot mfirstSlot mgroups post) : MI l D (TY cI cS cT) yX9_bestPattern cX9_bestPattern 6 (some .int) rm_X9_bestPattern [.ref (ad b0), .int x1] (Wd_X9_bestPattern cI cS cT ad b0 mnow mundoMany mtokens moneLong motherLong medits mgap mslot mfirstSlot mgroups) (fun (r : Int32) w => ∃ (u_mgap : Nat → Int32) (u_mslot : Nat → Int32) (u_mfirstSlot : Nat → Int32), w = (Wd_X9_bestPattern cI cS cT ad b0 mnow mundoMany mtokens moneLong motherLong medits u_mgap u_mslot u_mfirstSlot mgroups) ∧ post r u_mgap u_mslot u_mfirstSlot) := by
  refine MI.of (by decide) (Nat.le_of_ble_eq_true rfl) (fun E hC hR hn => ?_)
  replace hC : Cx l D (TY cI cS cT) E rm_X9_bestPattern cX9_bestPattern RX9 := hC
  replace hR : RetI D E (fun (r : Int32) w => ∃ (u_mgap : Nat → Int32) (u_mslot : Nat → Int32) (u_mfirstSlot : Nat → Int32), w = (Wd_X9_bestPattern cI cS cT ad b0 mnow mundoMany mtokens moneLong motherLong medits u_mgap u_mslot u_mfirstSlot mgroups) ∧ post r u_mgap u_mslot u_mfirstSlot) 0 0 (some .int) := hR
  unfold P_X9_bestPattern at h
  change G l D E 0 0 _ [(0, .ref (ad b0)), (1, .int x1)] 0 []
  refine g_aload_n 0 0 hC dX9_bestPattern_0 rfl ?_
  refine g_iload_n 1 1 hC dX9_bestPattern_1 rfl ?_
  refine g_cVi (As := [.int x1]) (rest := []) 2 0 [0, 1] hC (c_X9_isSaying l D cI cS cT ad b0 x1 mnow mundoMany mtokens moneLong motherLong medits mgroups _ h) kX9_isSaying wq_215 dX9_bestPattern_2 rfl rfl ⟨Nat.le_of_ble_eq_true rfl, Nat.le_of_ble_eq_true rfl⟩ rfl rfl (Nat.zero_le _) (Nat.zero_le _) rfl rfl rfl (Nat.le_of_ble_eq_true rfl) ?_
  rintro r1 _ ⟨rfl, h⟩
  refine ⟨Nat.le_of_ble_eq_true rfl, G.upd [2, 3, 4] (Wd_X9_bestPattern cI cS cT ad b0 mnow mundoMany mtokens moneLong motherLong medits mgap mslot mfirstSlot mgroups) rfl rfl rfl rfl rfl ?_⟩
  refine g_if_ne 5 10 hC dX9_bestPattern_5 (by decide) (fun hc => ?_) (fun hc => ?_)
  · replace h := h.1 hc
    refine g_bipush (v := (-4 : Int32)) 10 hC dX9_bestPattern_10 (by decide) ?_
    refine g_istore_n 12 [(2, .int (-4 : Int32)), (0, .ref (ad b0)), (1, .int x1)] hC dX9_bestPattern_12 (by rw [hn]; decide) rfl ?_
    refine g_iconst (v := (-1 : Int32)) 13 hC dX9_bestPattern_13 (by decide) ?_
    refine g_istore_n 14 [(3, .int (-1 : Int32)), (2, .int (-4 : Int32)), (0, .ref (ad b0)), (1, .int x1)] hC dX9_bestPattern_14 (by rw [hn]; decide) rfl ?_
    refine g_iconst (v := (0 : Int32)) 15 hC dX9_bestPattern_15 (by decide) ?_
    refine g_istore 16 [(4, .int (0 : Int32)), (3, .int (-1 : Int32)), (2, .int (-4 : Int32)), (0, .ref (ad b0)), (1, .int x1)] hC dX9_bestPattern_16 (by rw [hn]; decide) rfl ?_
    obtain ⟨n, h⟩ := h
    refine L_X9_bestPattern_18 hC hR hn _ (fun w4_8 w3_8 w2_8 mgap_8 mslot_8 mfirstSlot_8 h => ?_) n _ _ _ _ _ _ h
    refine g_iload_n 87 2 hC dX9_bestPattern_87 rfl ?_
    exact g_iret 88 hC hR dX9_bestPattern_88 ⟨mgap_8, mslot_8, mfirstSlot_8, rfl, h⟩
  · replace h := h.2 hc
    refine g_iconst (v := (-1 : Int32)) 8 hC dX9_bestPattern_8 (by decide) ?_
    exact g_iret 9 hC hR dX9_bestPattern_9 ⟨mgap, mslot, mfirstSlot, rfl, h⟩

/-! ===== ProverbCollectionModel.makesGroups()V ===== -/
def Wd_X9_makesGroups (cI cS cT : ClassId) (ad : Nat → Nat) (b0 : Nat) (mnow : Nat → Int32) (mundoMany : Int32) (mtokens : Int32) (mone : Nat → Int32) (mother : Nat → Int32) (moneLong : Int32) (motherLong : Int32) (mfar : Nat → Int32) (medits : Int32) (mgroups : Int32) (mgroup : Nat → Int32) (mcentre : Nat → Int32) : va_W := [(ad b0, .inr (9, [.ref (ad (b0 + 1)), .ref (ad (b0 + 2)), .int mundoMany, .int mtokens, .ref (ad (b0 + 3)), .ref (ad (b0 + 4)), .ref (ad (b0 + 5)), .int moneLong, .int motherLong, .ref (ad (b0 + 6)), .int medits, .ref (ad (b0 + 7)), .ref (ad (b0 + 8)), .ref (ad (b0 + 9)), .ref (ad (b0 + 10)), .int mgroups, .ref (ad (b0 + 11)), .ref (ad (b0 + 12))])), (ad (b0 + 1), .inl (cI, 193, .inl mnow)), (ad (b0 + 4), .inl (cI, 8, .inl mone)), (ad (b0 + 5), .inl (cI, 8, .inl mother)), (ad (b0 + 6), .inl (cI, 81, .inl mfar)), (ad (b0 + 11), .inl (cI, 12, .inl mgroup)), (ad (b0 + 12), .inl (cI, 12, .inl mcentre))]
def rm_X9_makesGroups : Room := { frames := 4, cells := 0, slots := 0, locals := 91 }
theorem kX9_makesGroups : KV yX9_makesGroups cX9_makesGroups 5 none 0 := ⟨wq_540, wq_5, wq_538, wq_539, by decide +kernel⟩
def B_X9_makesGroups_7 (K : Int32 → (Nat → Int32) → Prop) (rc : Int32 → (Nat → Int32) → Prop) (v1 : Int32) (mgroup : Nat → Int32) : Prop :=
  ((12 : Int32) ≤ v1 → K v1 mgroup) ∧ (¬ (12 : Int32) ≤ v1 → (vp_in v1 12 ∧ (rc (v1 + (1 : Int32)) (upd mgroup (Int32.toNatClampNeg v1) (-1 : Int32)))))
def P_X9_makesGroups_7 (K : Int32 → (Nat → Int32) → Prop) : Nat → Int32 → (Nat → Int32) → Prop
  | 0 => fun _ _ => False
  | n + 1 => fun v1 mgroup => B_X9_makesGroups_7 K (P_X9_makesGroups_7 K n) v1 mgroup
def B_X9_makesGroups_77 (v2 : Int32) (mnow : Nat → Int32) (mundoMany : Int32) (mtokens : Int32) (medits : Int32) (mgroups : Int32) (K : Int32 → (Nat → Int32) → (Nat → Int32) → Int32 → Int32 → (Nat → Int32) → (Nat → Int32) → Prop) (rc : Int32 → (Nat → Int32) → (Nat → Int32) → Int32 → Int32 → (Nat → Int32) → (Nat → Int32) → Prop) (v3 : Int32) (mone : Nat → Int32) (mother : Nat → Int32) (moneLong : Int32) (motherLong : Int32) (mfar : Nat → Int32) (mgroup : Nat → Int32) : Prop :=
  ((mnow (Int32.toNatClampNeg (0 : Int32))) ≤ v3 → K v3 mone mother moneLong motherLong mfar mgroup) ∧ (¬ (mnow (Int32.toNatClampNeg (0 : Int32))) ≤ v3 → (P_X9_atAge v3 mnow mundoMany mtokens moneLong motherLong medits mgroups (fun r3 => vp_in r3 12 ∧ ((0 ≤ (mgroup (Int32.toNatClampNeg r3)) → rc (v3 + (1 : Int32)) mone mother moneLong motherLong mfar mgroup) ∧ (¬ 0 ≤ (mgroup (Int32.toNatClampNeg r3)) → (P_X9_distanceOf v2 r3 mnow mundoMany mtokens mone mother moneLong motherLong mfar medits mgroups (fun r9 u4 u5 u6 u7 u8 => ((mnow (Int32.toNatClampNeg (192 : Int32))) < r9 → rc (v3 + (1 : Int32)) u4 u5 u6 u7 u8 mgroup) ∧ (¬ (mnow (Int32.toNatClampNeg (192 : Int32))) < r9 → (vp_in r3 12 ∧ (rc (v3 + (1 : Int32)) u4 u5 u6 u7 u8 (upd mgroup (Int32.toNatClampNeg r3) mgroups)))))))))))
def P_X9_makesGroups_77 (v2 : Int32) (mnow : Nat → Int32) (mundoMany : Int32) (mtokens : Int32) (medits : Int32) (mgroups : Int32) (K : Int32 → (Nat → Int32) → (Nat → Int32) → Int32 → Int32 → (Nat → Int32) → (Nat → Int32) → Prop) : Nat → Int32 → (Nat → Int32) → (Nat → Int32) → Int32 → Int32 → (Nat → Int32) → (Nat → Int32) → Prop
  | 0 => fun _ _ _ _ _ _ _ => False
  | n + 1 => fun v3 mone mother moneLong motherLong mfar mgroup => B_X9_makesGroups_77 v2 mnow mundoMany mtokens medits mgroups K (P_X9_makesGroups_77 v2 mnow mundoMany mtokens medits mgroups K n) v3 mone mother moneLong motherLong mfar mgroup
def B_X9_makesGroups_28 (mnow : Nat → Int32) (mundoMany : Int32) (mtokens : Int32) (medits : Int32) (K : Int32 → (Nat → Int32) → (Nat → Int32) → Int32 → Int32 → (Nat → Int32) → Int32 → (Nat → Int32) → (Nat → Int32) → Prop) (rc : Int32 → (Nat → Int32) → (Nat → Int32) → Int32 → Int32 → (Nat → Int32) → Int32 → (Nat → Int32) → (Nat → Int32) → Prop) (v1 : Int32) (mone : Nat → Int32) (mother : Nat → Int32) (moneLong : Int32) (motherLong : Int32) (mfar : Nat → Int32) (mgroups : Int32) (mgroup : Nat → Int32) (mcentre : Nat → Int32) : Prop :=
  ((mnow (Int32.toNatClampNeg (0 : Int32))) ≤ v1 → K v1 mone mother moneLong motherLong mfar mgroups mgroup mcentre) ∧ (¬ (mnow (Int32.toNatClampNeg (0 : Int32))) ≤ v1 → (P_X9_atAge v1 mnow mundoMany mtokens moneLong motherLong medits mgroups (fun r2 => vp_in r2 12 ∧ ((0 ≤ (mgroup (Int32.toNatClampNeg r2)) → rc (v1 + (1 : Int32)) mone mother moneLong motherLong mfar mgroups mgroup mcentre) ∧ (¬ 0 ≤ (mgroup (Int32.toNatClampNeg r2)) → (vp_in r2 12 ∧ (vp_in mgroups 12 ∧ (∃ n : Nat, P_X9_makesGroups_77 r2 mnow mundoMany mtokens medits mgroups (fun w3_10 mone_10 mother_10 moneLong_10 motherLong_10 mfar_10 mgroup_10 => rc (v1 + (1 : Int32)) mone_10 mother_10 moneLong_10 motherLong_10 mfar_10 (mgroups + (1 : Int32)) mgroup_10 (upd mcentre (Int32.toNatClampNeg mgroups) r2)) n (v1 + (1 : Int32)) mone mother moneLong motherLong mfar (upd mgroup (Int32.toNatClampNeg r2) mgroups)))))))))
def P_X9_makesGroups_28 (mnow : Nat → Int32) (mundoMany : Int32) (mtokens : Int32) (medits : Int32) (K : Int32 → (Nat → Int32) → (Nat → Int32) → Int32 → Int32 → (Nat → Int32) → Int32 → (Nat → Int32) → (Nat → Int32) → Prop) : Nat → Int32 → (Nat → Int32) → (Nat → Int32) → Int32 → Int32 → (Nat → Int32) → Int32 → (Nat → Int32) → (Nat → Int32) → Prop
  | 0 => fun _ _ _ _ _ _ _ _ _ => False
  | n + 1 => fun v1 mone mother moneLong motherLong mfar mgroups mgroup mcentre => B_X9_makesGroups_28 mnow mundoMany mtokens medits K (P_X9_makesGroups_28 mnow mundoMany mtokens medits K n) v1 mone mother moneLong motherLong mfar mgroups mgroup mcentre
def P_X9_makesGroups (mnow : Nat → Int32) (mundoMany : Int32) (mtokens : Int32) (mone : Nat → Int32) (mother : Nat → Int32) (moneLong : Int32) (motherLong : Int32) (mfar : Nat → Int32) (medits : Int32) (mgroups : Int32) (mgroup : Nat → Int32) (mcentre : Nat → Int32) (post : (Nat → Int32) → (Nat → Int32) → Int32 → Int32 → (Nat → Int32) → Int32 → (Nat → Int32) → (Nat → Int32) → Prop) : Prop :=
  ∃ n : Nat, P_X9_makesGroups_7 (fun w1_1 mgroup_1 => ∃ n : Nat, P_X9_makesGroups_28 mnow mundoMany mtokens medits (fun w1_11 mone_11 mother_11 moneLong_11 motherLong_11 mfar_11 mgroups_11 mgroup_11 mcentre_11 => post mone_11 mother_11 moneLong_11 motherLong_11 mfar_11 mgroups_11 mgroup_11 mcentre_11) n (0 : Int32) mone mother moneLong motherLong mfar (0 : Int32) mgroup_1 mcentre) n (0 : Int32) mgroup
set_option maxHeartbeats 4000000 in
set_option maxRecDepth 100000 in
theorem L_X9_makesGroups_7 {l : Launch} {D : va_G} {cI cS cT : ClassId} {ad : Nat → Nat} {b0 : Nat} {E : CE} {mnow : Nat → Int32} {mundoMany : Int32} {mtokens : Int32} {mone : Nat → Int32} {mother : Nat → Int32} {moneLong : Int32} {motherLong : Int32} {mfar : Nat → Int32} {medits : Int32} {mgroups : Int32} {mcentre : Nat → Int32} {post : (Nat → Int32) → (Nat → Int32) → Int32 → Int32 → (Nat → Int32) → Int32 → (Nat → Int32) → (Nat → Int32) → Prop} (hC : Cx l D (TY cI cS cT) E rm_X9_makesGroups cX9_makesGroups RX9) (hR : RetV D E (fun w => ∃ (u_mone : Nat → Int32) (u_mother : Nat → Int32) (u_moneLong : Int32) (u_motherLong : Int32) (u_mfar : Nat → Int32) (u_mgroups : Int32) (u_mgroup : Nat → Int32) (u_mcentre : Nat → Int32), w = (Wd_X9_makesGroups cI cS cT ad b0 mnow mundoMany mtokens u_mone u_mother u_moneLong u_motherLong u_mfar medits u_mgroups u_mgroup u_mcentre) ∧ post u_mone u_mother u_moneLong u_motherLong u_mfar u_mgroups u_mgroup u_mcentre) 0 0) (hn : E.nL = 5) (K : Int32 → (Nat → Int32) → Prop) (hK : ∀ (v1 : Int32) (mgroup : Nat → Int32), K v1 mgroup → G l D E 0 0 (Wd_X9_makesGroups cI cS cT ad b0 mnow mundoMany mtokens mone mother moneLong motherLong mfar medits mgroups mgroup mcentre) [(1, .int v1), (0, .ref (ad b0))] 26 []) : ∀ (n : Nat) (v1 : Int32) (mgroup : Nat → Int32), P_X9_makesGroups_7 K n v1 mgroup → G l D E 0 0 (Wd_X9_makesGroups cI cS cT ad b0 mnow mundoMany mtokens mone mother moneLong motherLong mfar medits mgroups mgroup mcentre) [(1, .int v1), (0, .ref (ad b0))] 7 [] := by
  intro n
  induction n with
  | zero => exact fun _ _ h => h.elim
  | succ n ih =>
    intro v1 mgroup h
    replace h : B_X9_makesGroups_7 K (P_X9_makesGroups_7 K n) v1 mgroup := h
    unfold B_X9_makesGroups_7 at h
    refine g_iload_n 7 0 hC dX9_makesGroups_7 rfl ?_
    refine g_bipush (v := (12 : Int32)) 8 hC dX9_makesGroups_8 (by decide) ?_
    refine g_icmp_ge 10 26 hC dX9_makesGroups_10 (by decide) (fun hc => ?_) (fun hc => ?_)
    · replace h := h.1 hc
      refine G.sub [0, 1] rfl ?_
      exact hK v1 mgroup h
    · replace h := h.2 hc
      refine g_aload_n 13 1 hC dX9_makesGroups_13 rfl ?_
      refine g_get 14 0 16 hC inlX9 wq_114 dX9_makesGroups_14 rfl rfl (by decide) rfl ?_
      refine g_iload_n 17 0 hC dX9_makesGroups_17 rfl ?_
      refine g_iconst (v := (-1 : Int32)) 18 hC dX9_makesGroups_18 (by decide) ?_
      obtain ⟨hj, h⟩ := h
      refine g_iast 19 5 (Wd_X9_makesGroups cI cS cT ad b0 mnow mundoMany mtokens mone mother moneLong motherLong mfar medits mgroups (upd mgroup (Int32.toNatClampNeg v1) (-1 : Int32)) mcentre) hC dX9_makesGroups_19 rfl rfl hj rfl ?_
      refine g_iinc (v := (1 : Int32)) 20 0 [(1, .int (v1 + (1 : Int32))), (0, .ref (ad b0))] hC dX9_makesGroups_20 rfl (by decide) (by rw [hn]; decide) rfl ?_
      refine g_goto 23 7 hC dX9_makesGroups_23 (by decide) ?_
      refine G.sub [0, 1] rfl ?_
      exact ih _ _ h
set_option maxHeartbeats 4000000 in
set_option maxRecDepth 100000 in
theorem L_X9_makesGroups_77 {l : Launch} {D : va_G} {cI cS cT : ClassId} {ad : Nat → Nat} {b0 : Nat} {E : CE} {v2 : Int32} {v1 : Int32} {mnow : Nat → Int32} {mundoMany : Int32} {mtokens : Int32} {medits : Int32} {mgroups : Int32} {mcentre : Nat → Int32} {post : (Nat → Int32) → (Nat → Int32) → Int32 → Int32 → (Nat → Int32) → Int32 → (Nat → Int32) → (Nat → Int32) → Prop} (hC : Cx l D (TY cI cS cT) E rm_X9_makesGroups cX9_makesGroups RX9) (hR : RetV D E (fun w => ∃ (u_mone : Nat → Int32) (u_mother : Nat → Int32) (u_moneLong : Int32) (u_motherLong : Int32) (u_mfar : Nat → Int32) (u_mgroups : Int32) (u_mgroup : Nat → Int32) (u_mcentre : Nat → Int32), w = (Wd_X9_makesGroups cI cS cT ad b0 mnow mundoMany mtokens u_mone u_mother u_moneLong u_motherLong u_mfar medits u_mgroups u_mgroup u_mcentre) ∧ post u_mone u_mother u_moneLong u_motherLong u_mfar u_mgroups u_mgroup u_mcentre) 0 0) (hn : E.nL = 5) (K : Int32 → (Nat → Int32) → (Nat → Int32) → Int32 → Int32 → (Nat → Int32) → (Nat → Int32) → Prop) (hK : ∀ (v3 : Int32) (mone : Nat → Int32) (mother : Nat → Int32) (moneLong : Int32) (motherLong : Int32) (mfar : Nat → Int32) (mgroup : Nat → Int32), K v3 mone mother moneLong motherLong mfar mgroup → G l D E 0 0 (Wd_X9_makesGroups cI cS cT ad b0 mnow mundoMany mtokens mone mother moneLong motherLong mfar medits mgroups mgroup mcentre) [(3, .int v3), (2, .int v2), (1, .int v1), (0, .ref (ad b0))] 139 []) : ∀ (n : Nat) (v3 : Int32) (mone : Nat → Int32) (mother : Nat → Int32) (moneLong : Int32) (motherLong : Int32) (mfar : Nat → Int32) (mgroup : Nat → Int32), P_X9_makesGroups_77 v2 mnow mundoMany mtokens medits mgroups K n v3 mone mother moneLong motherLong mfar mgroup → G l D E 0 0 (Wd_X9_makesGroups cI cS cT ad b0 mnow mundoMany mtokens mone mother moneLong motherLong mfar medits mgroups mgroup mcentre) [(3, .int v3), (2, .int v2), (1, .int v1), (0, .ref (ad b0))] 77 [] := by
  intro n
  induction n with
  | zero => exact fun _ _ _ _ _ _ _ h => h.elim
  | succ n ih =>
    intro v3 mone mother moneLong motherLong mfar mgroup h
    replace h : B_X9_makesGroups_77 v2 mnow mundoMany mtokens medits mgroups K (P_X9_makesGroups_77 v2 mnow mundoMany mtokens medits mgroups K n) v3 mone mother moneLong motherLong mfar mgroup := h
    unfold B_X9_makesGroups_77 at h
    refine g_iload_n 77 0 hC dX9_makesGroups_77 rfl ?_
    refine g_aload_n 78 3 hC dX9_makesGroups_78 rfl ?_
    refine g_get 79 0 0 hC inlX9 wq_104 dX9_makesGroups_79 rfl rfl (by decide) rfl ?_
    refine g_iconst (v := (0 : Int32)) 82 hC dX9_makesGroups_82 (by decide) ?_
    refine g_iald 83 1 hC dX9_makesGroups_83 rfl rfl (by unfold vp_in; decide) ?_
    refine g_icmp_ge 84 139 hC dX9_makesGroups_84 (by decide) (fun hc => ?_) (fun hc => ?_)
    · replace h := h.1 hc
      refine G.sub [0, 1, 2, 3] rfl ?_
      exact hK v3 mone mother moneLong motherLong mfar mgroup h
    · replace h := h.2 hc
      refine g_aload_n 87 3 hC dX9_makesGroups_87 rfl ?_
      refine g_iload_n 88 0 hC dX9_makesGroups_88 rfl ?_
      refine g_cVi (As := [.int v3]) (rest := []) 89 0 [0, 1] hC (c_X9_atAge l D cI cS cT ad b0 v3 mnow mundoMany mtokens moneLong motherLong medits mgroups _ h) kX9_atAge wq_268 dX9_makesGroups_89 rfl rfl ⟨Nat.le_of_ble_eq_true rfl, Nat.le_of_ble_eq_true rfl⟩ rfl rfl (Nat.zero_le _) (Nat.zero_le _) rfl rfl rfl (Nat.le_of_ble_eq_true rfl) ?_
      rintro r3 _ ⟨rfl, h⟩
      refine ⟨Nat.le_of_ble_eq_true rfl, G.upd [2, 3, 4, 5, 6] (Wd_X9_makesGroups cI cS cT ad b0 mnow mundoMany mtokens mone mother moneLong motherLong mfar medits mgroups mgroup mcentre) rfl rfl rfl rfl rfl ?_⟩
      refine g_istore 92 [(4, .int r3), (3, .int v3), (2, .int v2), (1, .int v1), (0, .ref (ad b0))] hC dX9_makesGroups_92 (by rw [hn]; decide) rfl ?_
      refine g_aload_n 94 4 hC dX9_makesGroups_94 rfl ?_
      refine g_get 95 0 16 hC inlX9 wq_114 dX9_makesGroups_95 rfl rfl (by decide) rfl ?_
      refine g_iload 98 0 hC dX9_makesGroups_98 rfl ?_
      obtain ⟨hj, h⟩ := h
      refine g_iald 100 5 hC dX9_makesGroups_100 rfl rfl hj ?_
      refine g_if_ge 101 133 hC dX9_makesGroups_101 (by decide) (fun hc => ?_) (fun hc => ?_)
      · replace h := h.1 hc
        refine g_iinc (v := (1 : Int32)) 133 1 [(3, .int (v3 + (1 : Int32))), (4, .int r3), (2, .int v2), (1, .int v1), (0, .ref (ad b0))] hC dX9_makesGroups_133 rfl (by decide) (by rw [hn]; decide) rfl ?_
        refine g_goto 136 77 hC dX9_makesGroups_136 (by decide) ?_
        refine G.sub [0, 2, 3, 4] rfl ?_
        exact ih _ _ _ _ _ _ _ h
      · replace h := h.2 hc
        refine g_aload_n 104 4 hC dX9_makesGroups_104 rfl ?_
        refine g_iload_n 105 2 hC dX9_makesGroups_105 rfl ?_
        refine g_iload 106 0 hC dX9_makesGroups_106 rfl ?_
        refine g_cVi (As := [.int v2, .int r3]) (rest := []) 108 0 [0, 1, 2, 3, 4] hC (c_X9_distanceOf l D cI cS cT ad b0 v2 r3 mnow mundoMany mtokens mone mother moneLong motherLong mfar medits mgroups _ h) kX9_distanceOf wq_323 dX9_makesGroups_108 rfl rfl ⟨Nat.le_of_ble_eq_true rfl, Nat.le_of_ble_eq_true rfl⟩ rfl rfl (Nat.zero_le _) (Nat.zero_le _) rfl rfl rfl (Nat.le_of_ble_eq_true rfl) ?_
        rintro r9 _ ⟨u4, u5, u6, u7, u8, rfl, h⟩
        refine ⟨Nat.le_of_ble_eq_true rfl, G.upd [5, 6] (Wd_X9_makesGroups cI cS cT ad b0 mnow mundoMany mtokens u4 u5 u6 u7 u8 medits mgroups mgroup mcentre) rfl rfl rfl rfl rfl ?_⟩
        refine g_aload_n 111 4 hC dX9_makesGroups_111 rfl ?_
        refine g_get 112 0 0 hC inlX9 wq_104 dX9_makesGroups_112 rfl rfl (by decide) rfl ?_
        refine g_sipush (v := (192 : Int32)) 115 hC dX9_makesGroups_115 (by decide) ?_
        refine g_iald 118 1 hC dX9_makesGroups_118 rfl rfl (by unfold vp_in; decide) ?_
        refine g_icmp_gt 119 133 hC dX9_makesGroups_119 (by decide) (fun hc => ?_) (fun hc => ?_)
        · replace h := h.1 hc
          refine g_iinc (v := (1 : Int32)) 133 1 [(3, .int (v3 + (1 : Int32))), (4, .int r3), (2, .int v2), (1, .int v1), (0, .ref (ad b0))] hC dX9_makesGroups_133 rfl (by decide) (by rw [hn]; decide) rfl ?_
          refine g_goto 136 77 hC dX9_makesGroups_136 (by decide) ?_
          refine G.sub [0, 2, 3, 4] rfl ?_
          exact ih _ _ _ _ _ _ _ h
        · replace h := h.2 hc
          refine g_aload_n 122 4 hC dX9_makesGroups_122 rfl ?_
          refine g_get 123 0 16 hC inlX9 wq_114 dX9_makesGroups_123 rfl rfl (by decide) rfl ?_
          refine g_iload 126 0 hC dX9_makesGroups_126 rfl ?_
          refine g_aload_n 128 4 hC dX9_makesGroups_128 rfl ?_
          refine g_get 129 0 15 hC inlX9 wq_536 dX9_makesGroups_129 rfl rfl (by decide) rfl ?_
          obtain ⟨hj, h⟩ := h
          refine g_iast 132 5 (Wd_X9_makesGroups cI cS cT ad b0 mnow mundoMany mtokens u4 u5 u6 u7 u8 medits mgroups (upd mgroup (Int32.toNatClampNeg r3) mgroups) mcentre) hC dX9_makesGroups_132 rfl rfl hj rfl ?_
          refine g_iinc (v := (1 : Int32)) 133 1 [(3, .int (v3 + (1 : Int32))), (4, .int r3), (2, .int v2), (1, .int v1), (0, .ref (ad b0))] hC dX9_makesGroups_133 rfl (by decide) (by rw [hn]; decide) rfl ?_
          refine g_goto 136 77 hC dX9_makesGroups_136 (by decide) ?_
          refine G.sub [0, 2, 3, 4] rfl ?_
          exact ih _ _ _ _ _ _ _ h
set_option maxHeartbeats 4000000 in
set_option maxRecDepth 100000 in
theorem L_X9_makesGroups_28 {l : Launch} {D : va_G} {cI cS cT : ClassId} {ad : Nat → Nat} {b0 : Nat} {E : CE} {mnow : Nat → Int32} {mundoMany : Int32} {mtokens : Int32} {medits : Int32} {post : (Nat → Int32) → (Nat → Int32) → Int32 → Int32 → (Nat → Int32) → Int32 → (Nat → Int32) → (Nat → Int32) → Prop} (hC : Cx l D (TY cI cS cT) E rm_X9_makesGroups cX9_makesGroups RX9) (hR : RetV D E (fun w => ∃ (u_mone : Nat → Int32) (u_mother : Nat → Int32) (u_moneLong : Int32) (u_motherLong : Int32) (u_mfar : Nat → Int32) (u_mgroups : Int32) (u_mgroup : Nat → Int32) (u_mcentre : Nat → Int32), w = (Wd_X9_makesGroups cI cS cT ad b0 mnow mundoMany mtokens u_mone u_mother u_moneLong u_motherLong u_mfar medits u_mgroups u_mgroup u_mcentre) ∧ post u_mone u_mother u_moneLong u_motherLong u_mfar u_mgroups u_mgroup u_mcentre) 0 0) (hn : E.nL = 5) (K : Int32 → (Nat → Int32) → (Nat → Int32) → Int32 → Int32 → (Nat → Int32) → Int32 → (Nat → Int32) → (Nat → Int32) → Prop) (hK : ∀ (v1 : Int32) (mone : Nat → Int32) (mother : Nat → Int32) (moneLong : Int32) (motherLong : Int32) (mfar : Nat → Int32) (mgroups : Int32) (mgroup : Nat → Int32) (mcentre : Nat → Int32), K v1 mone mother moneLong motherLong mfar mgroups mgroup mcentre → G l D E 0 0 (Wd_X9_makesGroups cI cS cT ad b0 mnow mundoMany mtokens mone mother moneLong motherLong mfar medits mgroups mgroup mcentre) [(1, .int v1), (0, .ref (ad b0))] 155 []) : ∀ (n : Nat) (v1 : Int32) (mone : Nat → Int32) (mother : Nat → Int32) (moneLong : Int32) (motherLong : Int32) (mfar : Nat → Int32) (mgroups : Int32) (mgroup : Nat → Int32) (mcentre : Nat → Int32), P_X9_makesGroups_28 mnow mundoMany mtokens medits K n v1 mone mother moneLong motherLong mfar mgroups mgroup mcentre → G l D E 0 0 (Wd_X9_makesGroups cI cS cT ad b0 mnow mundoMany mtokens mone mother moneLong motherLong mfar medits mgroups mgroup mcentre) [(1, .int v1), (0, .ref (ad b0))] 28 [] := by
  intro n
  induction n with
  | zero => exact fun _ _ _ _ _ _ _ _ _ h => h.elim
  | succ n ih =>
    intro v1 mone mother moneLong motherLong mfar mgroups mgroup mcentre h
    replace h : B_X9_makesGroups_28 mnow mundoMany mtokens medits K (P_X9_makesGroups_28 mnow mundoMany mtokens medits K n) v1 mone mother moneLong motherLong mfar mgroups mgroup mcentre := h
    unfold B_X9_makesGroups_28 at h
    refine g_iload_n 28 0 hC dX9_makesGroups_28 rfl ?_
    refine g_aload_n 29 1 hC dX9_makesGroups_29 rfl ?_
    refine g_get 30 0 0 hC inlX9 wq_104 dX9_makesGroups_30 rfl rfl (by decide) rfl ?_
    refine g_iconst (v := (0 : Int32)) 33 hC dX9_makesGroups_33 (by decide) ?_
    refine g_iald 34 1 hC dX9_makesGroups_34 rfl rfl (by unfold vp_in; decide) ?_
    refine g_icmp_ge 35 155 hC dX9_makesGroups_35 (by decide) (fun hc => ?_) (fun hc => ?_)
    · replace h := h.1 hc
      refine G.sub [0, 1] rfl ?_
      exact hK v1 mone mother moneLong motherLong mfar mgroups mgroup mcentre h
    · replace h := h.2 hc
      refine g_aload_n 38 1 hC dX9_makesGroups_38 rfl ?_
      refine g_iload_n 39 0 hC dX9_makesGroups_39 rfl ?_
      refine g_cVi (As := [.int v1]) (rest := []) 40 0 [0, 1] hC (c_X9_atAge l D cI cS cT ad b0 v1 mnow mundoMany mtokens moneLong motherLong medits mgroups _ h) kX9_atAge wq_268 dX9_makesGroups_40 rfl rfl ⟨Nat.le_of_ble_eq_true rfl, Nat.le_of_ble_eq_true rfl⟩ rfl rfl (Nat.zero_le _) (Nat.zero_le _) rfl rfl rfl (Nat.le_of_ble_eq_true rfl) ?_
      rintro r2 _ ⟨rfl, h⟩
      refine ⟨Nat.le_of_ble_eq_true rfl, G.upd [2, 3, 4, 5, 6] (Wd_X9_makesGroups cI cS cT ad b0 mnow mundoMany mtokens mone mother moneLong motherLong mfar medits mgroups mgroup mcentre) rfl rfl rfl rfl rfl ?_⟩
      refine g_istore_n 43 [(2, .int r2), (1, .int v1), (0, .ref (ad b0))] hC dX9_makesGroups_43 (by rw [hn]; decide) rfl ?_
      refine g_aload_n 44 2 hC dX9_makesGroups_44 rfl ?_
      refine g_get 45 0 16 hC inlX9 wq_114 dX9_makesGroups_45 rfl rfl (by decide) rfl ?_
      refine g_iload_n 48 0 hC dX9_makesGroups_48 rfl ?_
      obtain ⟨hj, h⟩ := h
      refine g_iald 49 5 hC dX9_makesGroups_49 rfl rfl hj ?_
      refine g_if_ge 50 149 hC dX9_makesGroups_50 (by decide) (fun hc => ?_) (fun hc => ?_)
      · replace h := h.1 hc
        refine g_iinc (v := (1 : Int32)) 149 1 [(1, .int (v1 + (1 : Int32))), (2, .int r2), (0, .ref (ad b0))] hC dX9_makesGroups_149 rfl (by decide) (by rw [hn]; decide) rfl ?_
        refine g_goto 152 28 hC dX9_makesGroups_152 (by decide) ?_
        refine G.sub [0, 2] rfl ?_
        exact ih _ _ _ _ _ _ _ _ _ h
      · replace h := h.2 hc
        refine g_aload_n 53 2 hC dX9_makesGroups_53 rfl ?_
        refine g_get 54 0 16 hC inlX9 wq_114 dX9_makesGroups_54 rfl rfl (by decide) rfl ?_
        refine g_iload_n 57 0 hC dX9_makesGroups_57 rfl ?_
        refine g_aload_n 58 2 hC dX9_makesGroups_58 rfl ?_
        refine g_get 59 0 15 hC inlX9 wq_536 dX9_makesGroups_59 rfl rfl (by decide) rfl ?_
        obtain ⟨hj, h⟩ := h
        refine g_iast 62 5 (Wd_X9_makesGroups cI cS cT ad b0 mnow mundoMany mtokens mone mother moneLong motherLong mfar medits mgroups (upd mgroup (Int32.toNatClampNeg r2) mgroups) mcentre) hC dX9_makesGroups_62 rfl rfl hj rfl ?_
        refine g_aload_n 63 2 hC dX9_makesGroups_63 rfl ?_
        refine g_get 64 0 17 hC inlX9 wq_115 dX9_makesGroups_64 rfl rfl (by decide) rfl ?_
        refine g_aload_n 67 2 hC dX9_makesGroups_67 rfl ?_
        refine g_get 68 0 15 hC inlX9 wq_536 dX9_makesGroups_68 rfl rfl (by decide) rfl ?_
        refine g_iload_n 71 0 hC dX9_makesGroups_71 rfl ?_
        obtain ⟨hj, h⟩ := h
        refine g_iast 72 6 (Wd_X9_makesGroups cI cS cT ad b0 mnow mundoMany mtokens mone mother moneLong motherLong mfar medits mgroups (upd mgroup (Int32.toNatClampNeg r2) mgroups) (upd mcentre (Int32.toNatClampNeg mgroups) r2)) hC dX9_makesGroups_72 rfl rfl hj rfl ?_
        refine g_iload_n 73 1 hC dX9_makesGroups_73 rfl ?_
        refine g_iconst (v := (1 : Int32)) 74 hC dX9_makesGroups_74 (by decide) ?_
        refine g_iadd 75 hC dX9_makesGroups_75 ?_
        refine g_istore_n 76 [(3, .int (v1 + (1 : Int32))), (2, .int r2), (1, .int v1), (0, .ref (ad b0))] hC dX9_makesGroups_76 (by rw [hn]; decide) rfl ?_
        obtain ⟨n, h⟩ := h
        refine L_X9_makesGroups_77 hC hR hn _ (fun w3_10 mone_10 mother_10 moneLong_10 motherLong_10 mfar_10 mgroup_10 h => ?_) n _ _ _ _ _ _ _ h
        refine g_aload_n 139 3 hC dX9_makesGroups_139 rfl ?_
        refine g_dup 140 hC dX9_makesGroups_140 rfl ?_
        refine g_get 141 0 15 hC inlX9 wq_536 dX9_makesGroups_141 rfl rfl (by decide) rfl ?_
        refine g_iconst (v := (1 : Int32)) 144 hC dX9_makesGroups_144 (by decide) ?_
        refine g_iadd 145 hC dX9_makesGroups_145 ?_
        refine g_put 146 0 15 (Wd_X9_makesGroups cI cS cT ad b0 mnow mundoMany mtokens mone_10 mother_10 moneLong_10 motherLong_10 mfar_10 medits (mgroups + (1 : Int32)) mgroup_10 (upd mcentre (Int32.toNatClampNeg mgroups) r2)) hC inlX9 tyX9_ok nmX9 wq_536 dX9_makesGroups_146 rfl rfl (by decide) rfl rfl (Nat.le_of_ble_eq_true rfl) rfl ?_
        refine g_iinc (v := (1 : Int32)) 149 2 [(1, .int (v1 + (1 : Int32))), (3, .int w3_10), (2, .int r2), (0, .ref (ad b0))] hC dX9_makesGroups_149 rfl (by decide) (by rw [hn]; decide) rfl ?_
        refine g_goto 152 28 hC dX9_makesGroups_152 (by decide) ?_
        refine G.sub [0, 3] rfl ?_
        exact ih _ _ _ _ _ _ _ _ _ h
set_option maxHeartbeats 4000000 in
set_option maxRecDepth 100000 in
theorem c_X9_makesGroups (l : Launch) (D : va_G) (cI cS cT : ClassId) (ad : Nat → Nat) (b0 : Nat) (mnow : Nat → Int32) (mundoMany : Int32) (mtokens : Int32) (mone : Nat → Int32) (mother : Nat → Int32) (moneLong : Int32) (motherLong : Int32) (mfar : Nat → Int32) (medits : Int32) (mgroups : Int32) (mgroup : Nat → Int32) (mcentre : Nat → Int32) (post : (Nat → Int32) → (Nat → Int32) → Int32 → Int32 → (Nat → Int32) → Int32 → (Nat → Int32) → (Nat → Int32) → Prop) (h : P_X9_makesGroups mnow mundoMany mtokens mone mother moneLong motherLong mfar medits mgroups mgroup mcentre post) : MV l D (TY cI cS cT) yX9_makesGroups cX9_makesGroups 5 rm_X9_makesGroups [.ref (ad b0)] (Wd_X9_makesGroups cI cS cT ad b0 mnow mundoMany mtokens mone mother moneLong motherLong mfar medits mgroups mgroup mcentre) (fun w => ∃ (u_mone : Nat → Int32) (u_mother : Nat → Int32) (u_moneLong : Int32) (u_motherLong : Int32) (u_mfar : Nat → Int32) (u_mgroups : Int32) (u_mgroup : Nat → Int32) (u_mcentre : Nat → Int32), w = (Wd_X9_makesGroups cI cS cT ad b0 mnow mundoMany mtokens u_mone u_mother u_moneLong u_motherLong u_mfar medits u_mgroups u_mgroup u_mcentre) ∧ post u_mone u_mother u_moneLong u_motherLong u_mfar u_mgroups u_mgroup u_mcentre) := by
  refine MV.of (by decide) (Nat.le_of_ble_eq_true rfl) (fun E hC hR hn => ?_)
  replace hC : Cx l D (TY cI cS cT) E rm_X9_makesGroups cX9_makesGroups RX9 := hC
  replace hR : RetV D E (fun w => ∃ (u_mone : Nat → Int32) (u_mother : Nat → Int32) (u_moneLong : Int32) (u_motherLong : Int32) (u_mfar : Nat → Int32) (u_mgroups : Int32) (u_mgroup : Nat → Int32) (u_mcentre : Nat → Int32), w = (Wd_X9_makesGroups cI cS cT ad b0 mnow mundoMany mtokens u_mone u_mother u_moneLong u_motherLong u_mfar medits u_mgroups u_mgroup u_mcentre) ∧ post u_mone u_mother u_moneLong u_motherLong u_mfar u_mgroups u_mgroup u_mcentre) 0 0 := hR
  unfold P_X9_makesGroups at h
  change G l D E 0 0 _ [(0, .ref (ad b0))] 0 []
  refine g_aload_n 0 0 hC dX9_makesGroups_0 rfl ?_
  refine g_iconst (v := (0 : Int32)) 1 hC dX9_makesGroups_1 (by decide) ?_
  refine g_put 2 0 15 (Wd_X9_makesGroups cI cS cT ad b0 mnow mundoMany mtokens mone mother moneLong motherLong mfar medits (0 : Int32) mgroup mcentre) hC inlX9 tyX9_ok nmX9 wq_536 dX9_makesGroups_2 rfl rfl (by decide) rfl rfl (Nat.le_of_ble_eq_true rfl) rfl ?_
  refine g_iconst (v := (0 : Int32)) 5 hC dX9_makesGroups_5 (by decide) ?_
  refine g_istore_n 6 [(1, .int (0 : Int32)), (0, .ref (ad b0))] hC dX9_makesGroups_6 (by rw [hn]; decide) rfl ?_
  obtain ⟨n, h⟩ := h
  refine L_X9_makesGroups_7 hC hR hn _ (fun w1_1 mgroup_1 h => ?_) n _ _ h
  refine g_iconst (v := (0 : Int32)) 26 hC dX9_makesGroups_26 (by decide) ?_
  refine g_istore_n 27 [(1, .int (0 : Int32)), (0, .ref (ad b0))] hC dX9_makesGroups_27 (by rw [hn]; decide) rfl ?_
  obtain ⟨n, h⟩ := h
  refine L_X9_makesGroups_28 hC hR hn _ (fun w1_11 mone_11 mother_11 moneLong_11 motherLong_11 mfar_11 mgroups_11 mgroup_11 mcentre_11 h => ?_) n _ _ _ _ _ _ _ _ _ h
  exact g_vret 155 hC hR dX9_makesGroups_155 ⟨mone_11, mother_11, moneLong_11, motherLong_11, mfar_11, mgroups_11, mgroup_11, mcentre_11, rfl, h⟩

/-! ===== ProverbCollectionModel.setLimit(I)I ===== -/
def Wd_X9_setLimit (cI cS cT : ClassId) (ad : Nat → Nat) (b0 : Nat) (mnow : Nat → Int32) (mbefore : Nat → Int32) (mundoMany : Int32) (mtokens : Int32) (moneLong : Int32) (motherLong : Int32) (medits : Int32) (mgroups : Int32) : va_W := [(ad b0, .inr (9, [.ref (ad (b0 + 1)), .ref (ad (b0 + 2)), .int mundoMany, .int mtokens, .ref (ad (b0 + 3)), .ref (ad (b0 + 4)), .ref (ad (b0 + 5)), .int moneLong, .int motherLong, .ref (ad (b0 + 6)), .int medits, .ref (ad (b0 + 7)), .ref (ad (b0 + 8)), .ref (ad (b0 + 9)), .ref (ad (b0 + 10)), .int mgroups, .ref (ad (b0 + 11)), .ref (ad (b0 + 12))])), (ad (b0 + 1), .inl (cI, 193, .inl mnow)), (ad (b0 + 2), .inl (cI, 965, .inl mbefore))]
def rm_X9_setLimit : Room := { frames := 1, cells := 0, slots := 0, locals := 25 }
theorem kX9_setLimit : KV yX9_setLimit cX9_setLimit 3 (some .int) 1 := ⟨wq_522, wq_5, wq_520, wq_521, by decide +kernel⟩
def P_X9_setLimit (x1 : Int32) (mnow : Nat → Int32) (mbefore : Nat → Int32) (mundoMany : Int32) (mtokens : Int32) (moneLong : Int32) (motherLong : Int32) (medits : Int32) (mgroups : Int32) (post : Int32 → (Nat → Int32) → (Nat → Int32) → Int32 → Prop) : Prop :=
  P_X9_in (Int32.toInt64 x1) (0 : Int64) (20 : Int64) (fun r1 => (¬ r1 = 0 → P_X9_keeps mnow mbefore mundoMany mtokens moneLong motherLong medits mgroups (fun u2 u3 => post (mnow (Int32.toNatClampNeg (192 : Int32))) (upd mnow (Int32.toNatClampNeg (192 : Int32)) x1) u2 u3)) ∧ (r1 = 0 → post (-1 : Int32) mnow mbefore mundoMany))
set_option maxHeartbeats 4000000 in
set_option maxRecDepth 100000 in
theorem c_X9_setLimit (l : Launch) (D : va_G) (cI cS cT : ClassId) (ad : Nat → Nat) (b0 : Nat) (x1 : Int32) (mnow : Nat → Int32) (mbefore : Nat → Int32) (mundoMany : Int32) (mtokens : Int32) (moneLong : Int32) (motherLong : Int32) (medits : Int32) (mgroups : Int32) (post : Int32 → (Nat → Int32) → (Nat → Int32) → Int32 → Prop) (h : P_X9_setLimit x1 mnow mbefore mundoMany mtokens moneLong motherLong medits mgroups post) : MI l D (TY cI cS cT) yX9_setLimit cX9_setLimit 3 (some .int) rm_X9_setLimit [.ref (ad b0), .int x1] (Wd_X9_setLimit cI cS cT ad b0 mnow mbefore mundoMany mtokens moneLong motherLong medits mgroups) (fun (r : Int32) w => ∃ (u_mnow : Nat → Int32) (u_mbefore : Nat → Int32) (u_mundoMany : Int32), w = (Wd_X9_setLimit cI cS cT ad b0 u_mnow u_mbefore u_mundoMany mtokens moneLong motherLong medits mgroups) ∧ post r u_mnow u_mbefore u_mundoMany) := by
  refine MI.of (by decide) (Nat.le_of_ble_eq_true rfl) (fun E hC hR hn => ?_)
  replace hC : Cx l D (TY cI cS cT) E rm_X9_setLimit cX9_setLimit RX9 := hC
  replace hR : RetI D E (fun (r : Int32) w => ∃ (u_mnow : Nat → Int32) (u_mbefore : Nat → Int32) (u_mundoMany : Int32), w = (Wd_X9_setLimit cI cS cT ad b0 u_mnow u_mbefore u_mundoMany mtokens moneLong motherLong medits mgroups) ∧ post r u_mnow u_mbefore u_mundoMany) 0 0 (some .int) := hR
  unfold P_X9_setLimit at h
  change G l D E 0 0 _ [(0, .ref (ad b0)), (1, .int x1)] 0 []
  refine g_iload_n 0 1 hC dX9_setLimit_0 rfl ?_
  refine g_i2l 1 hC dX9_setLimit_1 ?_
  refine g_lconst (v := (0 : Int64)) 2 hC dX9_setLimit_2 (by decide) ?_
  refine g_ldc2 3 hC dX9_setLimit_3 wq_523 ?_
  refine g_cSi (As := [.long (Int32.toInt64 x1), .long (0 : Int64), .long (20 : Int64)]) (rest := []) 6 [] hC (c_X9_in l D cI cS cT ad (Int32.toInt64 x1) (0 : Int64) (20 : Int64) _ h) kX9_in wq_130 dX9_setLimit_6 ⟨Nat.le_of_ble_eq_true rfl, Nat.le_of_ble_eq_true rfl⟩ rfl rfl (Nat.zero_le _) (Nat.zero_le _) rfl rfl rfl (Nat.le_of_ble_eq_true rfl) ?_
  rintro r1 _ ⟨rfl, h⟩
  refine ⟨Nat.le_of_ble_eq_true rfl, G.upd [0, 1, 2] (Wd_X9_setLimit cI cS cT ad b0 mnow mbefore mundoMany mtokens moneLong motherLong medits mgroups) rfl rfl rfl rfl rfl ?_⟩
  refine g_if_ne 9 14 hC dX9_setLimit_9 (by decide) (fun hc => ?_) (fun hc => ?_)
  · replace h := h.1 hc
    refine g_aload_n 14 0 hC dX9_setLimit_14 rfl ?_
    refine g_cVv (As := []) (rest := []) 15 0 [0, 1, 2] hC (c_X9_keeps l D cI cS cT ad b0 mnow mbefore mundoMany mtokens moneLong motherLong medits mgroups _ h) kX9_keeps wq_193 dX9_setLimit_15 rfl rfl ⟨Nat.le_of_ble_eq_true rfl, Nat.le_of_ble_eq_true rfl⟩ rfl rfl (Nat.zero_le _) (Nat.zero_le _) rfl rfl rfl (Nat.le_of_ble_eq_true rfl) ?_
    rintro _ ⟨u2, u3, rfl, h⟩
    refine ⟨Nat.le_of_ble_eq_true rfl, G.upd [] (Wd_X9_setLimit cI cS cT ad b0 mnow u2 u3 mtokens moneLong motherLong medits mgroups) rfl rfl rfl rfl rfl ?_⟩
    refine g_aload_n 18 0 hC dX9_setLimit_18 rfl ?_
    refine g_get 19 0 0 hC inlX9 wq_104 dX9_setLimit_19 rfl rfl (by decide) rfl ?_
    refine g_sipush (v := (192 : Int32)) 22 hC dX9_setLimit_22 (by decide) ?_
    refine g_iald 25 1 hC dX9_setLimit_25 rfl rfl (by unfold vp_in; decide) ?_
    refine g_istore_n 26 [(2, .int (mnow (Int32.toNatClampNeg (192 : Int32)))), (0, .ref (ad b0)), (1, .int x1)] hC dX9_setLimit_26 (by rw [hn]; decide) rfl ?_
    refine g_aload_n 27 1 hC dX9_setLimit_27 rfl ?_
    refine g_get 28 0 0 hC inlX9 wq_104 dX9_setLimit_28 rfl rfl (by decide) rfl ?_
    refine g_sipush (v := (192 : Int32)) 31 hC dX9_setLimit_31 (by decide) ?_
    refine g_iload_n 34 2 hC dX9_setLimit_34 rfl ?_
    refine g_iast 35 1 (Wd_X9_setLimit cI cS cT ad b0 (upd mnow (Int32.toNatClampNeg (192 : Int32)) x1) u2 u3 mtokens moneLong motherLong medits mgroups) hC dX9_setLimit_35 rfl rfl (by unfold vp_in; decide) rfl ?_
    refine g_iload_n 36 0 hC dX9_setLimit_36 rfl ?_
    exact g_iret 37 hC hR dX9_setLimit_37 ⟨(upd mnow (Int32.toNatClampNeg (192 : Int32)) x1), u2, u3, rfl, h⟩
  · replace h := h.2 hc
    refine g_iconst (v := (-1 : Int32)) 12 hC dX9_setLimit_12 (by decide) ?_
    exact g_iret 13 hC hR dX9_setLimit_13 ⟨mnow, mbefore, mundoMany, rfl, h⟩

/-! ===== ProverbCollectionModel.groupCount()I ===== -/
def Wd_X9_groupCount (cI cS cT : ClassId) (ad : Nat → Nat) (b0 : Nat) (mnow : Nat → Int32) (mundoMany : Int32) (mtokens : Int32) (mone : Nat → Int32) (mother : Nat → Int32) (moneLong : Int32) (motherLong : Int32) (mfar : Nat → Int32) (medits : Int32) (mgroups : Int32) (mgroup : Nat → Int32) (mcentre : Nat → Int32) : va_W := [(ad b0, .inr (9, [.ref (ad (b0 + 1)), .ref (ad (b0 + 2)), .int mundoMany, .int mtokens, .ref (ad (b0 + 3)), .ref (ad (b0 + 4)), .ref (ad (b0 + 5)), .int moneLong, .int motherLong, .ref (ad (b0 + 6)), .int medits, .ref (ad (b0 + 7)), .ref (ad (b0 + 8)), .ref (ad (b0 + 9)), .ref (ad (b0 + 10)), .int mgroups, .ref (ad (b0 + 11)), .ref (ad (b0 + 12))])), (ad (b0 + 1), .inl (cI, 193, .inl mnow)), (ad (b0 + 4), .inl (cI, 8, .inl mone)), (ad (b0 + 5), .inl (cI, 8, .inl mother)), (ad (b0 + 6), .inl (cI, 81, .inl mfar)), (ad (b0 + 11), .inl (cI, 12, .inl mgroup)), (ad (b0 + 12), .inl (cI, 12, .inl mcentre))]
def rm_X9_groupCount : Room := { frames := 5, cells := 0, slots := 0, locals := 115 }
theorem kX9_groupCount : KV yX9_groupCount cX9_groupCount 1 (some .int) 0 := ⟨wq_535, wq_5, wq_533, wq_534, by decide +kernel⟩
def P_X9_groupCount (mnow : Nat → Int32) (mundoMany : Int32) (mtokens : Int32) (mone : Nat → Int32) (mother : Nat → Int32) (moneLong : Int32) (motherLong : Int32) (mfar : Nat → Int32) (medits : Int32) (mgroups : Int32) (mgroup : Nat → Int32) (mcentre : Nat → Int32) (post : Int32 → (Nat → Int32) → (Nat → Int32) → Int32 → Int32 → (Nat → Int32) → Int32 → (Nat → Int32) → (Nat → Int32) → Prop) : Prop :=
  P_X9_makesGroups mnow mundoMany mtokens mone mother moneLong motherLong mfar medits mgroups mgroup mcentre (fun u1 u2 u3 u4 u5 u6 u7 u8 => post u6 u1 u2 u3 u4 u5 u6 u7 u8)
set_option maxHeartbeats 4000000 in
set_option maxRecDepth 100000 in
theorem c_X9_groupCount (l : Launch) (D : va_G) (cI cS cT : ClassId) (ad : Nat → Nat) (b0 : Nat) (mnow : Nat → Int32) (mundoMany : Int32) (mtokens : Int32) (mone : Nat → Int32) (mother : Nat → Int32) (moneLong : Int32) (motherLong : Int32) (mfar : Nat → Int32) (medits : Int32) (mgroups : Int32) (mgroup : Nat → Int32) (mcentre : Nat → Int32) (post : Int32 → (Nat → Int32) → (Nat → Int32) → Int32 → Int32 → (Nat → Int32) → Int32 → (Nat → Int32) → (Nat → Int32) → Prop) (h : P_X9_groupCount mnow mundoMany mtokens mone mother moneLong motherLong mfar medits mgroups mgroup mcentre post) : MI l D (TY cI cS cT) yX9_groupCount cX9_groupCount 1 (some .int) rm_X9_groupCount [.ref (ad b0)] (Wd_X9_groupCount cI cS cT ad b0 mnow mundoMany mtokens mone mother moneLong motherLong mfar medits mgroups mgroup mcentre) (fun (r : Int32) w => ∃ (u_mone : Nat → Int32) (u_mother : Nat → Int32) (u_moneLong : Int32) (u_motherLong : Int32) (u_mfar : Nat → Int32) (u_mgroups : Int32) (u_mgroup : Nat → Int32) (u_mcentre : Nat → Int32), w = (Wd_X9_groupCount cI cS cT ad b0 mnow mundoMany mtokens u_mone u_mother u_moneLong u_motherLong u_mfar medits u_mgroups u_mgroup u_mcentre) ∧ post r u_mone u_mother u_moneLong u_motherLong u_mfar u_mgroups u_mgroup u_mcentre) := by
  refine MI.of (by decide) (Nat.le_of_ble_eq_true rfl) (fun E hC hR hn => ?_)
  replace hC : Cx l D (TY cI cS cT) E rm_X9_groupCount cX9_groupCount RX9 := hC
  replace hR : RetI D E (fun (r : Int32) w => ∃ (u_mone : Nat → Int32) (u_mother : Nat → Int32) (u_moneLong : Int32) (u_motherLong : Int32) (u_mfar : Nat → Int32) (u_mgroups : Int32) (u_mgroup : Nat → Int32) (u_mcentre : Nat → Int32), w = (Wd_X9_groupCount cI cS cT ad b0 mnow mundoMany mtokens u_mone u_mother u_moneLong u_motherLong u_mfar medits u_mgroups u_mgroup u_mcentre) ∧ post r u_mone u_mother u_moneLong u_motherLong u_mfar u_mgroups u_mgroup u_mcentre) 0 0 (some .int) := hR
  unfold P_X9_groupCount at h
  change G l D E 0 0 _ [(0, .ref (ad b0))] 0 []
  refine g_aload_n 0 0 hC dX9_groupCount_0 rfl ?_
  refine g_cVv (As := []) (rest := []) 1 0 [0, 1, 2, 3, 4, 5, 6] hC (c_X9_makesGroups l D cI cS cT ad b0 mnow mundoMany mtokens mone mother moneLong motherLong mfar medits mgroups mgroup mcentre _ h) kX9_makesGroups wq_537 dX9_groupCount_1 rfl rfl ⟨Nat.le_of_ble_eq_true rfl, Nat.le_of_ble_eq_true rfl⟩ rfl rfl (Nat.zero_le _) (Nat.zero_le _) rfl rfl rfl (Nat.le_of_ble_eq_true rfl) ?_
  rintro _ ⟨u1, u2, u3, u4, u5, u6, u7, u8, rfl, h⟩
  refine ⟨Nat.le_of_ble_eq_true rfl, G.upd [] (Wd_X9_groupCount cI cS cT ad b0 mnow mundoMany mtokens u1 u2 u3 u4 u5 medits u6 u7 u8) rfl rfl rfl rfl rfl ?_⟩
  refine g_aload_n 4 0 hC dX9_groupCount_4 rfl ?_
  refine g_get 5 0 15 hC inlX9 wq_536 dX9_groupCount_5 rfl rfl (by decide) rfl ?_
  exact g_iret 8 hC hR dX9_groupCount_8 ⟨u1, u2, u3, u4, u5, u6, u7, u8, rfl, h⟩

/-! ===== ProverbCollectionModel.groupOf(I)I ===== -/
def Wd_X9_groupOf (cI cS cT : ClassId) (ad : Nat → Nat) (b0 : Nat) (mnow : Nat → Int32) (mundoMany : Int32) (mtokens : Int32) (mone : Nat → Int32) (mother : Nat → Int32) (moneLong : Int32) (motherLong : Int32) (mfar : Nat → Int32) (medits : Int32) (mgroups : Int32) (mgroup : Nat → Int32) (mcentre : Nat → Int32) : va_W := [(ad b0, .inr (9, [.ref (ad (b0 + 1)), .ref (ad (b0 + 2)), .int mundoMany, .int mtokens, .ref (ad (b0 + 3)), .ref (ad (b0 + 4)), .ref (ad (b0 + 5)), .int moneLong, .int motherLong, .ref (ad (b0 + 6)), .int medits, .ref (ad (b0 + 7)), .ref (ad (b0 + 8)), .ref (ad (b0 + 9)), .ref (ad (b0 + 10)), .int mgroups, .ref (ad (b0 + 11)), .ref (ad (b0 + 12))])), (ad (b0 + 1), .inl (cI, 193, .inl mnow)), (ad (b0 + 4), .inl (cI, 8, .inl mone)), (ad (b0 + 5), .inl (cI, 8, .inl mother)), (ad (b0 + 6), .inl (cI, 81, .inl mfar)), (ad (b0 + 11), .inl (cI, 12, .inl mgroup)), (ad (b0 + 12), .inl (cI, 12, .inl mcentre))]
def rm_X9_groupOf : Room := { frames := 5, cells := 0, slots := 0, locals := 115 }
theorem kX9_groupOf : KV yX9_groupOf cX9_groupOf 2 (some .int) 1 := ⟨wq_548, wq_5, wq_546, wq_547, by decide +kernel⟩
def P_X9_groupOf (x1 : Int32) (mnow : Nat → Int32) (mundoMany : Int32) (mtokens : Int32) (mone : Nat → Int32) (mother : Nat → Int32) (moneLong : Int32) (motherLong : Int32) (mfar : Nat → Int32) (medits : Int32) (mgroups : Int32) (mgroup : Nat → Int32) (mcentre : Nat → Int32) (post : Int32 → (Nat → Int32) → (Nat → Int32) → Int32 → Int32 → (Nat → Int32) → Int32 → (Nat → Int32) → (Nat → Int32) → Prop) : Prop :=
  P_X9_isSaying x1 mnow mundoMany mtokens moneLong motherLong medits mgroups (fun r1 => (¬ r1 = 0 → (P_X9_makesGroups mnow mundoMany mtokens mone mother moneLong motherLong mfar medits mgroups mgroup mcentre (fun u2 u3 u4 u5 u6 u7 u8 u9 => vp_in x1 12 ∧ (post (u8 (Int32.toNatClampNeg x1)) u2 u3 u4 u5 u6 u7 u8 u9)))) ∧ (r1 = 0 → post (-1 : Int32) mone mother moneLong motherLong mfar mgroups mgroup mcentre))
set_option maxHeartbeats 4000000 in
set_option maxRecDepth 100000 in
theorem c_X9_groupOf (l : Launch) (D : va_G) (cI cS cT : ClassId) (ad : Nat → Nat) (b0 : Nat) (x1 : Int32) (mnow : Nat → Int32) (mundoMany : Int32) (mtokens : Int32) (mone : Nat → Int32) (mother : Nat → Int32) (moneLong : Int32) (motherLong : Int32) (mfar : Nat → Int32) (medits : Int32) (mgroups : Int32) (mgroup : Nat → Int32) (mcentre : Nat → Int32) (post : Int32 → (Nat → Int32) → (Nat → Int32) → Int32 → Int32 → (Nat → Int32) → Int32 → (Nat → Int32) → (Nat → Int32) → Prop) (h : P_X9_groupOf x1 mnow mundoMany mtokens mone mother moneLong motherLong mfar medits mgroups mgroup mcentre post) : MI l D (TY cI cS cT) yX9_groupOf cX9_groupOf 2 (some .int) rm_X9_groupOf [.ref (ad b0), .int x1] (Wd_X9_groupOf cI cS cT ad b0 mnow mundoMany mtokens mone mother moneLong motherLong mfar medits mgroups mgroup mcentre) (fun (r : Int32) w => ∃ (u_mone : Nat → Int32) (u_mother : Nat → Int32) (u_moneLong : Int32) (u_motherLong : Int32) (u_mfar : Nat → Int32) (u_mgroups : Int32) (u_mgroup : Nat → Int32) (u_mcentre : Nat → Int32), w = (Wd_X9_groupOf cI cS cT ad b0 mnow mundoMany mtokens u_mone u_mother u_moneLong u_motherLong u_mfar medits u_mgroups u_mgroup u_mcentre) ∧ post r u_mone u_mother u_moneLong u_motherLong u_mfar u_mgroups u_mgroup u_mcentre) := by
  refine MI.of (by decide) (Nat.le_of_ble_eq_true rfl) (fun E hC hR hn => ?_)
  replace hC : Cx l D (TY cI cS cT) E rm_X9_groupOf cX9_groupOf RX9 := hC
  replace hR : RetI D E (fun (r : Int32) w => ∃ (u_mone : Nat → Int32) (u_mother : Nat → Int32) (u_moneLong : Int32) (u_motherLong : Int32) (u_mfar : Nat → Int32) (u_mgroups : Int32) (u_mgroup : Nat → Int32) (u_mcentre : Nat → Int32), w = (Wd_X9_groupOf cI cS cT ad b0 mnow mundoMany mtokens u_mone u_mother u_moneLong u_motherLong u_mfar medits u_mgroups u_mgroup u_mcentre) ∧ post r u_mone u_mother u_moneLong u_motherLong u_mfar u_mgroups u_mgroup u_mcentre) 0 0 (some .int) := hR
  unfold P_X9_groupOf at h
  change G l D E 0 0 _ [(0, .ref (ad b0)), (1, .int x1)] 0 []
  refine g_aload_n 0 0 hC dX9_groupOf_0 rfl ?_
  refine g_iload_n 1 1 hC dX9_groupOf_1 rfl ?_
  refine g_cVi (As := [.int x1]) (rest := []) 2 0 [0, 1] hC (c_X9_isSaying l D cI cS cT ad b0 x1 mnow mundoMany mtokens moneLong motherLong medits mgroups _ h) kX9_isSaying wq_215 dX9_groupOf_2 rfl rfl ⟨Nat.le_of_ble_eq_true rfl, Nat.le_of_ble_eq_true rfl⟩ rfl rfl (Nat.zero_le _) (Nat.zero_le _) rfl rfl rfl (Nat.le_of_ble_eq_true rfl) ?_
  rintro r1 _ ⟨rfl, h⟩
  refine ⟨Nat.le_of_ble_eq_true rfl, G.upd [2, 3, 4, 5, 6] (Wd_X9_groupOf cI cS cT ad b0 mnow mundoMany mtokens mone mother moneLong motherLong mfar medits mgroups mgroup mcentre) rfl rfl rfl rfl rfl ?_⟩
  refine g_if_ne 5 10 hC dX9_groupOf_5 (by decide) (fun hc => ?_) (fun hc => ?_)
  · replace h := h.1 hc
    refine g_aload_n 10 0 hC dX9_groupOf_10 rfl ?_
    refine g_cVv (As := []) (rest := []) 11 0 [0, 1, 2, 3, 4, 5, 6] hC (c_X9_makesGroups l D cI cS cT ad b0 mnow mundoMany mtokens mone mother moneLong motherLong mfar medits mgroups mgroup mcentre _ h) kX9_makesGroups wq_537 dX9_groupOf_11 rfl rfl ⟨Nat.le_of_ble_eq_true rfl, Nat.le_of_ble_eq_true rfl⟩ rfl rfl (Nat.zero_le _) (Nat.zero_le _) rfl rfl rfl (Nat.le_of_ble_eq_true rfl) ?_
    rintro _ ⟨u2, u3, u4, u5, u6, u7, u8, u9, rfl, h⟩
    refine ⟨Nat.le_of_ble_eq_true rfl, G.upd [] (Wd_X9_groupOf cI cS cT ad b0 mnow mundoMany mtokens u2 u3 u4 u5 u6 medits u7 u8 u9) rfl rfl rfl rfl rfl ?_⟩
    refine g_aload_n 14 0 hC dX9_groupOf_14 rfl ?_
    refine g_get 15 0 16 hC inlX9 wq_114 dX9_groupOf_15 rfl rfl (by decide) rfl ?_
    refine g_iload_n 18 1 hC dX9_groupOf_18 rfl ?_
    obtain ⟨hj, h⟩ := h
    refine g_iald 19 5 hC dX9_groupOf_19 rfl rfl hj ?_
    exact g_iret 20 hC hR dX9_groupOf_20 ⟨u2, u3, u4, u5, u6, u7, u8, u9, rfl, h⟩
  · replace h := h.2 hc
    refine g_iconst (v := (-1 : Int32)) 8 hC dX9_groupOf_8 (by decide) ?_
    exact g_iret 9 hC hR dX9_groupOf_9 ⟨mone, mother, moneLong, motherLong, mfar, mgroups, mgroup, mcentre, rfl, h⟩

/-! ===== ProverbCollectionModel.centreOf(I)I ===== -/
def Wd_X9_centreOf (cI cS cT : ClassId) (ad : Nat → Nat) (b0 : Nat) (mnow : Nat → Int32) (mundoMany : Int32) (mtokens : Int32) (mone : Nat → Int32) (mother : Nat → Int32) (moneLong : Int32) (motherLong : Int32) (mfar : Nat → Int32) (medits : Int32) (mgroups : Int32) (mgroup : Nat → Int32) (mcentre : Nat → Int32) : va_W := [(ad b0, .inr (9, [.ref (ad (b0 + 1)), .ref (ad (b0 + 2)), .int mundoMany, .int mtokens, .ref (ad (b0 + 3)), .ref (ad (b0 + 4)), .ref (ad (b0 + 5)), .int moneLong, .int motherLong, .ref (ad (b0 + 6)), .int medits, .ref (ad (b0 + 7)), .ref (ad (b0 + 8)), .ref (ad (b0 + 9)), .ref (ad (b0 + 10)), .int mgroups, .ref (ad (b0 + 11)), .ref (ad (b0 + 12))])), (ad (b0 + 1), .inl (cI, 193, .inl mnow)), (ad (b0 + 4), .inl (cI, 8, .inl mone)), (ad (b0 + 5), .inl (cI, 8, .inl mother)), (ad (b0 + 6), .inl (cI, 81, .inl mfar)), (ad (b0 + 11), .inl (cI, 12, .inl mgroup)), (ad (b0 + 12), .inl (cI, 12, .inl mcentre))]
def rm_X9_centreOf : Room := { frames := 5, cells := 0, slots := 0, locals := 115 }
theorem kX9_centreOf : KV yX9_centreOf cX9_centreOf 2 (some .int) 1 := ⟨wq_559, wq_5, wq_557, wq_558, by decide +kernel⟩
def P_X9_centreOf (x1 : Int32) (mnow : Nat → Int32) (mundoMany : Int32) (mtokens : Int32) (mone : Nat → Int32) (mother : Nat → Int32) (moneLong : Int32) (motherLong : Int32) (mfar : Nat → Int32) (medits : Int32) (mgroups : Int32) (mgroup : Nat → Int32) (mcentre : Nat → Int32) (post : Int32 → (Nat → Int32) → (Nat → Int32) → Int32 → Int32 → (Nat → Int32) → Int32 → (Nat → Int32) → (Nat → Int32) → Prop) : Prop :=
  (0 ≤ x1 → (P_X9_makesGroups mnow mundoMany mtokens mone mother moneLong motherLong mfar medits mgroups mgroup mcentre (fun u1 u2 u3 u4 u5 u6 u7 u8 => (u6 ≤ x1 → post (-4 : Int32) u1 u2 u3 u4 u5 u6 u7 u8) ∧ (¬ u6 ≤ x1 → (vp_in x1 12 ∧ (post (u8 (Int32.toNatClampNeg x1)) u1 u2 u3 u4 u5 u6 u7 u8)))))) ∧ (¬ 0 ≤ x1 → post (-1 : Int32) mone mother moneLong motherLong mfar mgroups mgroup mcentre)
set_option maxHeartbeats 4000000 in
set_option maxRecDepth 100000 in
theorem c_X9_centreOf (l : Launch) (D : va_G) (cI cS cT : ClassId) (ad : Nat → Nat) (b0 : Nat) (x1 : Int32) (mnow : Nat → Int32) (mundoMany : Int32) (mtokens : Int32) (mone : Nat → Int32) (mother : Nat → Int32) (moneLong : Int32) (motherLong : Int32) (mfar : Nat → Int32) (medits : Int32) (mgroups : Int32) (mgroup : Nat → Int32) (mcentre : Nat → Int32) (post : Int32 → (Nat → Int32) → (Nat → Int32) → Int32 → Int32 → (Nat → Int32) → Int32 → (Nat → Int32) → (Nat → Int32) → Prop) (h : P_X9_centreOf x1 mnow mundoMany mtokens mone mother moneLong motherLong mfar medits mgroups mgroup mcentre post) : MI l D (TY cI cS cT) yX9_centreOf cX9_centreOf 2 (some .int) rm_X9_centreOf [.ref (ad b0), .int x1] (Wd_X9_centreOf cI cS cT ad b0 mnow mundoMany mtokens mone mother moneLong motherLong mfar medits mgroups mgroup mcentre) (fun (r : Int32) w => ∃ (u_mone : Nat → Int32) (u_mother : Nat → Int32) (u_moneLong : Int32) (u_motherLong : Int32) (u_mfar : Nat → Int32) (u_mgroups : Int32) (u_mgroup : Nat → Int32) (u_mcentre : Nat → Int32), w = (Wd_X9_centreOf cI cS cT ad b0 mnow mundoMany mtokens u_mone u_mother u_moneLong u_motherLong u_mfar medits u_mgroups u_mgroup u_mcentre) ∧ post r u_mone u_mother u_moneLong u_motherLong u_mfar u_mgroups u_mgroup u_mcentre) := by
  refine MI.of (by decide) (Nat.le_of_ble_eq_true rfl) (fun E hC hR hn => ?_)
  replace hC : Cx l D (TY cI cS cT) E rm_X9_centreOf cX9_centreOf RX9 := hC
  replace hR : RetI D E (fun (r : Int32) w => ∃ (u_mone : Nat → Int32) (u_mother : Nat → Int32) (u_moneLong : Int32) (u_motherLong : Int32) (u_mfar : Nat → Int32) (u_mgroups : Int32) (u_mgroup : Nat → Int32) (u_mcentre : Nat → Int32), w = (Wd_X9_centreOf cI cS cT ad b0 mnow mundoMany mtokens u_mone u_mother u_moneLong u_motherLong u_mfar medits u_mgroups u_mgroup u_mcentre) ∧ post r u_mone u_mother u_moneLong u_motherLong u_mfar u_mgroups u_mgroup u_mcentre) 0 0 (some .int) := hR
  unfold P_X9_centreOf at h
  change G l D E 0 0 _ [(0, .ref (ad b0)), (1, .int x1)] 0 []
  refine g_iload_n 0 1 hC dX9_centreOf_0 rfl ?_
  refine g_if_ge 1 6 hC dX9_centreOf_1 (by decide) (fun hc => ?_) (fun hc => ?_)
  · replace h := h.1 hc
    refine g_aload_n 6 0 hC dX9_centreOf_6 rfl ?_
    refine g_cVv (As := []) (rest := []) 7 0 [0, 1, 2, 3, 4, 5, 6] hC (c_X9_makesGroups l D cI cS cT ad b0 mnow mundoMany mtokens mone mother moneLong motherLong mfar medits mgroups mgroup mcentre _ h) kX9_makesGroups wq_537 dX9_centreOf_7 rfl rfl ⟨Nat.le_of_ble_eq_true rfl, Nat.le_of_ble_eq_true rfl⟩ rfl rfl (Nat.zero_le _) (Nat.zero_le _) rfl rfl rfl (Nat.le_of_ble_eq_true rfl) ?_
    rintro _ ⟨u1, u2, u3, u4, u5, u6, u7, u8, rfl, h⟩
    refine ⟨Nat.le_of_ble_eq_true rfl, G.upd [] (Wd_X9_centreOf cI cS cT ad b0 mnow mundoMany mtokens u1 u2 u3 u4 u5 medits u6 u7 u8) rfl rfl rfl rfl rfl ?_⟩
    refine g_iload_n 10 1 hC dX9_centreOf_10 rfl ?_
    refine g_aload_n 11 0 hC dX9_centreOf_11 rfl ?_
    refine g_get 12 0 15 hC inlX9 wq_536 dX9_centreOf_12 rfl rfl (by decide) rfl ?_
    refine g_icmp_ge 15 27 hC dX9_centreOf_15 (by decide) (fun hc => ?_) (fun hc => ?_)
    · replace h := h.1 hc
      refine g_bipush (v := (-4 : Int32)) 27 hC dX9_centreOf_27 (by decide) ?_
      exact g_iret 29 hC hR dX9_centreOf_29 ⟨u1, u2, u3, u4, u5, u6, u7, u8, rfl, h⟩
    · replace h := h.2 hc
      refine g_aload_n 18 0 hC dX9_centreOf_18 rfl ?_
      refine g_get 19 0 17 hC inlX9 wq_115 dX9_centreOf_19 rfl rfl (by decide) rfl ?_
      refine g_iload_n 22 1 hC dX9_centreOf_22 rfl ?_
      obtain ⟨hj, h⟩ := h
      refine g_iald 23 6 hC dX9_centreOf_23 rfl rfl hj ?_
      refine g_goto 24 29 hC dX9_centreOf_24 (by decide) ?_
      exact g_iret 29 hC hR dX9_centreOf_29 ⟨u1, u2, u3, u4, u5, u6, u7, u8, rfl, h⟩
  · replace h := h.2 hc
    refine g_iconst (v := (-1 : Int32)) 4 hC dX9_centreOf_4 (by decide) ?_
    exact g_iret 5 hC hR dX9_centreOf_5 ⟨mone, mother, moneLong, motherLong, mfar, mgroups, mgroup, mcentre, rfl, h⟩

/-! ===== ProverbCollectionModel.groupInfo(II)I ===== -/
def Wd_X9_groupInfo (cI cS cT : ClassId) (ad : Nat → Nat) (b0 : Nat) (mnow : Nat → Int32) (mundoMany : Int32) (mtokens : Int32) (mone : Nat → Int32) (mother : Nat → Int32) (moneLong : Int32) (motherLong : Int32) (mfar : Nat → Int32) (medits : Int32) (mgroups : Int32) (mgroup : Nat → Int32) (mcentre : Nat → Int32) : va_W := [(ad b0, .inr (9, [.ref (ad (b0 + 1)), .ref (ad (b0 + 2)), .int mundoMany, .int mtokens, .ref (ad (b0 + 3)), .ref (ad (b0 + 4)), .ref (ad (b0 + 5)), .int moneLong, .int motherLong, .ref (ad (b0 + 6)), .int medits, .ref (ad (b0 + 7)), .ref (ad (b0 + 8)), .ref (ad (b0 + 9)), .ref (ad (b0 + 10)), .int mgroups, .ref (ad (b0 + 11)), .ref (ad (b0 + 12))])), (ad (b0 + 1), .inl (cI, 193, .inl mnow)), (ad (b0 + 4), .inl (cI, 8, .inl mone)), (ad (b0 + 5), .inl (cI, 8, .inl mother)), (ad (b0 + 6), .inl (cI, 81, .inl mfar)), (ad (b0 + 11), .inl (cI, 12, .inl mgroup)), (ad (b0 + 12), .inl (cI, 12, .inl mcentre))]
def rm_X9_groupInfo : Room := { frames := 5, cells := 0, slots := 0, locals := 115 }
theorem kX9_groupInfo : KV yX9_groupInfo cX9_groupInfo 8 (some .int) 2 := ⟨wq_585, wq_5, wq_583, wq_584, by decide +kernel⟩
def B_X9_groupInfo_44 (v1 : Int32) (mnow : Nat → Int32) (mundoMany : Int32) (mtokens : Int32) (medits : Int32) (mgroups : Int32) (mgroup : Nat → Int32) (mcentre : Nat → Int32) (K : Int32 → Int32 → Int32 → Int32 → (Nat → Int32) → (Nat → Int32) → Int32 → Int32 → (Nat → Int32) → Prop) (rc : Int32 → Int32 → Int32 → Int32 → (Nat → Int32) → (Nat → Int32) → Int32 → Int32 → (Nat → Int32) → Prop) (v6 : Int32) (v5 : Int32) (v4 : Int32) (v3 : Int32) (mone : Nat → Int32) (mother : Nat → Int32) (moneLong : Int32) (motherLong : Int32) (mfar : Nat → Int32) : Prop :=
  ((mnow (Int32.toNatClampNeg (0 : Int32))) ≤ v6 → K v6 v5 v4 v3 mone mother moneLong motherLong mfar) ∧ (¬ (mnow (Int32.toNatClampNeg (0 : Int32))) ≤ v6 → (vp_in v6 12 ∧ ((¬ (mgroup (Int32.toNatClampNeg v6)) = v1 → rc (v6 + (1 : Int32)) v5 v4 v3 mone mother moneLong motherLong mfar) ∧ ((mgroup (Int32.toNatClampNeg v6)) = v1 → (vp_in ((121 : Int32) + v6) 193 ∧ (vp_in v1 12 ∧ (P_X9_distanceOf (mcentre (Int32.toNatClampNeg v1)) v6 mnow mundoMany mtokens mone mother moneLong motherLong mfar medits mgroups (fun r16 u11 u12 u13 u14 u15 => (r16 ≤ v5 → rc (v6 + (1 : Int32)) v5 (v4 ||| ((1 : Int32) <<< ((mnow (Int32.toNatClampNeg ((121 : Int32) + v6))) &&& 31))) (v3 + (1 : Int32)) u11 u12 u13 u14 u15) ∧ (¬ r16 ≤ v5 → rc (v6 + (1 : Int32)) r16 (v4 ||| ((1 : Int32) <<< ((mnow (Int32.toNatClampNeg ((121 : Int32) + v6))) &&& 31))) (v3 + (1 : Int32)) u11 u12 u13 u14 u15)))))))))
def P_X9_groupInfo_44 (v1 : Int32) (mnow : Nat → Int32) (mundoMany : Int32) (mtokens : Int32) (medits : Int32) (mgroups : Int32) (mgroup : Nat → Int32) (mcentre : Nat → Int32) (K : Int32 → Int32 → Int32 → Int32 → (Nat → Int32) → (Nat → Int32) → Int32 → Int32 → (Nat → Int32) → Prop) : Nat → Int32 → Int32 → Int32 → Int32 → (Nat → Int32) → (Nat → Int32) → Int32 → Int32 → (Nat → Int32) → Prop
  | 0 => fun _ _ _ _ _ _ _ _ _ => False
  | n + 1 => fun v6 v5 v4 v3 mone mother moneLong motherLong mfar => B_X9_groupInfo_44 v1 mnow mundoMany mtokens medits mgroups mgroup mcentre K (P_X9_groupInfo_44 v1 mnow mundoMany mtokens medits mgroups mgroup mcentre K n) v6 v5 v4 v3 mone mother moneLong motherLong mfar
def B_X9_groupInfo_129 (K : Int32 → Int32 → Prop) (rc : Int32 → Int32 → Prop) (v7 : Int32) (v6 : Int32) : Prop :=
  (v7 = 0 → K v7 v6) ∧ (¬ v7 = 0 → rc (v7 &&& (v7 - (1 : Int32))) (v6 + (1 : Int32)))
def P_X9_groupInfo_129 (K : Int32 → Int32 → Prop) : Nat → Int32 → Int32 → Prop
  | 0 => fun _ _ => False
  | n + 1 => fun v7 v6 => B_X9_groupInfo_129 K (P_X9_groupInfo_129 K n) v7 v6
def P_X9_groupInfo (x1 : Int32) (x2 : Int32) (mnow : Nat → Int32) (mundoMany : Int32) (mtokens : Int32) (mone : Nat → Int32) (mother : Nat → Int32) (moneLong : Int32) (motherLong : Int32) (mfar : Nat → Int32) (medits : Int32) (mgroups : Int32) (mgroup : Nat → Int32) (mcentre : Nat → Int32) (post : Int32 → (Nat → Int32) → (Nat → Int32) → Int32 → Int32 → (Nat → Int32) → Int32 → (Nat → Int32) → (Nat → Int32) → Prop) : Prop :=
  (x1 < 0 → post (-1 : Int32) mone mother moneLong motherLong mfar mgroups mgroup mcentre) ∧ (¬ x1 < 0 → (P_X9_in (Int32.toInt64 x2) (0 : Int64) (2 : Int64) (fun r1 => (¬ r1 = 0 → (P_X9_makesGroups mnow mundoMany mtokens mone mother moneLong motherLong mfar medits mgroups mgroup mcentre (fun u2 u3 u4 u5 u6 u7 u8 u9 => (x1 < u7 → (∃ n : Nat, P_X9_groupInfo_44 x1 mnow mundoMany mtokens medits u7 u8 u9 (fun w6_17 w5_17 w4_17 w3_17 mone_17 mother_17 moneLong_17 motherLong_17 mfar_17 => ∃ n : Nat, P_X9_groupInfo_129 (fun w7_18 w6_18 => (¬ x2 = 0 → ((¬ x2 = (1 : Int32) → post w5_17 mone_17 mother_17 moneLong_17 motherLong_17 mfar_17 u7 u8 u9) ∧ (x2 = (1 : Int32) → post w6_18 mone_17 mother_17 moneLong_17 motherLong_17 mfar_17 u7 u8 u9))) ∧ (x2 = 0 → post w3_17 mone_17 mother_17 moneLong_17 motherLong_17 mfar_17 u7 u8 u9)) n w4_17 (0 : Int32)) n (0 : Int32) (0 : Int32) (0 : Int32) (0 : Int32) u2 u3 u4 u5 u6)) ∧ (¬ x1 < u7 → post (-4 : Int32) u2 u3 u4 u5 u6 u7 u8 u9)))) ∧ (r1 = 0 → post (-1 : Int32) mone mother moneLong motherLong mfar mgroups mgroup mcentre))))
set_option maxHeartbeats 4000000 in
set_option maxRecDepth 100000 in
theorem L_X9_groupInfo_44 {l : Launch} {D : va_G} {cI cS cT : ClassId} {ad : Nat → Nat} {b0 : Nat} {E : CE} {v1 : Int32} {v2 : Int32} {mnow : Nat → Int32} {mundoMany : Int32} {mtokens : Int32} {medits : Int32} {mgroups : Int32} {mgroup : Nat → Int32} {mcentre : Nat → Int32} {post : Int32 → (Nat → Int32) → (Nat → Int32) → Int32 → Int32 → (Nat → Int32) → Int32 → (Nat → Int32) → (Nat → Int32) → Prop} (hC : Cx l D (TY cI cS cT) E rm_X9_groupInfo cX9_groupInfo RX9) (hR : RetI D E (fun (r : Int32) w => ∃ (u_mone : Nat → Int32) (u_mother : Nat → Int32) (u_moneLong : Int32) (u_motherLong : Int32) (u_mfar : Nat → Int32) (u_mgroups : Int32) (u_mgroup : Nat → Int32) (u_mcentre : Nat → Int32), w = (Wd_X9_groupInfo cI cS cT ad b0 mnow mundoMany mtokens u_mone u_mother u_moneLong u_motherLong u_mfar medits u_mgroups u_mgroup u_mcentre) ∧ post r u_mone u_mother u_moneLong u_motherLong u_mfar u_mgroups u_mgroup u_mcentre) 0 0 (some .int)) (hn : E.nL = 8) (K : Int32 → Int32 → Int32 → Int32 → (Nat → Int32) → (Nat → Int32) → Int32 → Int32 → (Nat → Int32) → Prop) (hK : ∀ (v6 : Int32) (v5 : Int32) (v4 : Int32) (v3 : Int32) (mone : Nat → Int32) (mother : Nat → Int32) (moneLong : Int32) (motherLong : Int32) (mfar : Nat → Int32), K v6 v5 v4 v3 mone mother moneLong motherLong mfar → G l D E 0 0 (Wd_X9_groupInfo cI cS cT ad b0 mnow mundoMany mtokens mone mother moneLong motherLong mfar medits mgroups mgroup mcentre) [(6, .int v6), (5, .int v5), (4, .int v4), (3, .int v3), (0, .ref (ad b0)), (1, .int v1), (2, .int v2)] 122 []) : ∀ (n : Nat) (v6 : Int32) (v5 : Int32) (v4 : Int32) (v3 : Int32) (mone : Nat → Int32) (mother : Nat → Int32) (moneLong : Int32) (motherLong : Int32) (mfar : Nat → Int32), P_X9_groupInfo_44 v1 mnow mundoMany mtokens medits mgroups mgroup mcentre K n v6 v5 v4 v3 mone mother moneLong motherLong mfar → G l D E 0 0 (Wd_X9_groupInfo cI cS cT ad b0 mnow mundoMany mtokens mone mother moneLong motherLong mfar medits mgroups mgroup mcentre) [(6, .int v6), (5, .int v5), (4, .int v4), (3, .int v3), (0, .ref (ad b0)), (1, .int v1), (2, .int v2)] 44 [] := by
  intro n
  induction n with
  | zero => exact fun _ _ _ _ _ _ _ _ _ h => h.elim
  | succ n ih =>
    intro v6 v5 v4 v3 mone mother moneLong motherLong mfar h
    replace h : B_X9_groupInfo_44 v1 mnow mundoMany mtokens medits mgroups mgroup mcentre K (P_X9_groupInfo_44 v1 mnow mundoMany mtokens medits mgroups mgroup mcentre K n) v6 v5 v4 v3 mone mother moneLong motherLong mfar := h
    unfold B_X9_groupInfo_44 at h
    refine g_iload 44 0 hC dX9_groupInfo_44 rfl ?_
    refine g_aload_n 46 4 hC dX9_groupInfo_46 rfl ?_
    refine g_get 47 0 0 hC inlX9 wq_104 dX9_groupInfo_47 rfl rfl (by decide) rfl ?_
    refine g_iconst (v := (0 : Int32)) 50 hC dX9_groupInfo_50 (by decide) ?_
    refine g_iald 51 1 hC dX9_groupInfo_51 rfl rfl (by unfold vp_in; decide) ?_
    refine g_icmp_ge 52 122 hC dX9_groupInfo_52 (by decide) (fun hc => ?_) (fun hc => ?_)
    · replace h := h.1 hc
      refine G.sub [0, 1, 2, 3, 4, 5, 6] rfl ?_
      exact hK v6 v5 v4 v3 mone mother moneLong motherLong mfar h
    · replace h := h.2 hc
      refine g_aload_n 55 4 hC dX9_groupInfo_55 rfl ?_
      refine g_get 56 0 16 hC inlX9 wq_114 dX9_groupInfo_56 rfl rfl (by decide) rfl ?_
      refine g_iload 59 0 hC dX9_groupInfo_59 rfl ?_
      obtain ⟨hj, h⟩ := h
      refine g_iald 61 5 hC dX9_groupInfo_61 rfl rfl hj ?_
      refine g_iload_n 62 5 hC dX9_groupInfo_62 rfl ?_
      refine g_icmp_ne 63 116 hC dX9_groupInfo_63 (by decide) (fun hc => ?_) (fun hc => ?_)
      · replace h := h.1 hc
        refine g_iinc (v := (1 : Int32)) 116 0 [(6, .int (v6 + (1 : Int32))), (5, .int v5), (4, .int v4), (3, .int v3), (0, .ref (ad b0)), (1, .int v1), (2, .int v2)] hC dX9_groupInfo_116 rfl (by decide) (by rw [hn]; decide) rfl ?_
        refine g_goto 119 44 hC dX9_groupInfo_119 (by decide) ?_
        refine G.sub [0, 1, 2, 3, 4, 5, 6] rfl ?_
        exact ih _ _ _ _ _ _ _ _ _ h
      · replace h := h.2 hc
        refine g_iinc (v := (1 : Int32)) 66 3 [(3, .int (v3 + (1 : Int32))), (6, .int v6), (5, .int v5), (4, .int v4), (0, .ref (ad b0)), (1, .int v1), (2, .int v2)] hC dX9_groupInfo_66 rfl (by decide) (by rw [hn]; decide) rfl ?_
        refine g_iload 69 3 hC dX9_groupInfo_69 rfl ?_
        refine g_iconst (v := (1 : Int32)) 71 hC dX9_groupInfo_71 (by decide) ?_
        refine g_aload_n 72 4 hC dX9_groupInfo_72 rfl ?_
        refine g_get 73 0 0 hC inlX9 wq_104 dX9_groupInfo_73 rfl rfl (by decide) rfl ?_
        refine g_bipush (v := (121 : Int32)) 76 hC dX9_groupInfo_76 (by decide) ?_
        refine g_iload 78 1 hC dX9_groupInfo_78 rfl ?_
        refine g_iadd 80 hC dX9_groupInfo_80 ?_
        obtain ⟨hj, h⟩ := h
        refine g_iald 81 1 hC dX9_groupInfo_81 rfl rfl hj ?_
        refine g_ishl 82 hC dX9_groupInfo_82 ?_
        refine g_ior 83 hC dX9_groupInfo_83 ?_
        refine g_istore 84 [(4, .int (v4 ||| ((1 : Int32) <<< ((mnow (Int32.toNatClampNeg ((121 : Int32) + v6))) &&& 31)))), (3, .int (v3 + (1 : Int32))), (6, .int v6), (5, .int v5), (0, .ref (ad b0)), (1, .int v1), (2, .int v2)] hC dX9_groupInfo_84 (by rw [hn]; decide) rfl ?_
        refine g_aload_n 86 4 hC dX9_groupInfo_86 rfl ?_
        refine g_aload_n 87 4 hC dX9_groupInfo_87 rfl ?_
        refine g_get 88 0 17 hC inlX9 wq_115 dX9_groupInfo_88 rfl rfl (by decide) rfl ?_
        refine g_iload_n 91 5 hC dX9_groupInfo_91 rfl ?_
        obtain ⟨hj, h⟩ := h
        refine g_iald 92 6 hC dX9_groupInfo_92 rfl rfl hj ?_
        refine g_iload 93 2 hC dX9_groupInfo_93 rfl ?_
        refine g_cVi (As := [.int (mcentre (Int32.toNatClampNeg v1)), .int v6]) (rest := []) 95 0 [0, 1, 2, 3, 4] hC (c_X9_distanceOf l D cI cS cT ad b0 (mcentre (Int32.toNatClampNeg v1)) v6 mnow mundoMany mtokens mone mother moneLong motherLong mfar medits mgroups _ h) kX9_distanceOf wq_323 dX9_groupInfo_95 rfl rfl ⟨Nat.le_of_ble_eq_true rfl, Nat.le_of_ble_eq_true rfl⟩ rfl rfl (Nat.zero_le _) (Nat.zero_le _) rfl rfl rfl (Nat.le_of_ble_eq_true rfl) ?_
        rintro r16 _ ⟨u11, u12, u13, u14, u15, rfl, h⟩
        refine ⟨Nat.le_of_ble_eq_true rfl, G.upd [5, 6] (Wd_X9_groupInfo cI cS cT ad b0 mnow mundoMany mtokens u11 u12 u13 u14 u15 medits mgroups mgroup mcentre) rfl rfl rfl rfl rfl ?_⟩
        refine g_istore 98 [(7, .int r16), (4, .int (v4 ||| ((1 : Int32) <<< ((mnow (Int32.toNatClampNeg ((121 : Int32) + v6))) &&& 31)))), (3, .int (v3 + (1 : Int32))), (6, .int v6), (5, .int v5), (0, .ref (ad b0)), (1, .int v1), (2, .int v2)] hC dX9_groupInfo_98 (by rw [hn]; decide) rfl ?_
        refine g_iload 100 0 hC dX9_groupInfo_100 rfl ?_
        refine g_iload 102 4 hC dX9_groupInfo_102 rfl ?_
        refine g_icmp_le 104 112 hC dX9_groupInfo_104 (by decide) (fun hc => ?_) (fun hc => ?_)
        · replace h := h.1 hc
          refine g_iload 112 4 hC dX9_groupInfo_112 rfl ?_
          refine g_istore 114 [(5, .int v5), (7, .int r16), (4, .int (v4 ||| ((1 : Int32) <<< ((mnow (Int32.toNatClampNeg ((121 : Int32) + v6))) &&& 31)))), (3, .int (v3 + (1 : Int32))), (6, .int v6), (0, .ref (ad b0)), (1, .int v1), (2, .int v2)] hC dX9_groupInfo_114 (by rw [hn]; decide) rfl ?_
          refine g_iinc (v := (1 : Int32)) 116 4 [(6, .int (v6 + (1 : Int32))), (5, .int v5), (7, .int r16), (4, .int (v4 ||| ((1 : Int32) <<< ((mnow (Int32.toNatClampNeg ((121 : Int32) + v6))) &&& 31)))), (3, .int (v3 + (1 : Int32))), (0, .ref (ad b0)), (1, .int v1), (2, .int v2)] hC dX9_groupInfo_116 rfl (by decide) (by rw [hn]; decide) rfl ?_
          refine g_goto 119 44 hC dX9_groupInfo_119 (by decide) ?_
          refine G.sub [0, 1, 3, 4, 5, 6, 7] rfl ?_
          exact ih _ _ _ _ _ _ _ _ _ h
        · replace h := h.2 hc
          refine g_iload 107 0 hC dX9_groupInfo_107 rfl ?_
          refine g_goto 109 114 hC dX9_groupInfo_109 (by decide) ?_
          refine g_istore 114 [(5, .int r16), (7, .int r16), (4, .int (v4 ||| ((1 : Int32) <<< ((mnow (Int32.toNatClampNeg ((121 : Int32) + v6))) &&& 31)))), (3, .int (v3 + (1 : Int32))), (6, .int v6), (0, .ref (ad b0)), (1, .int v1), (2, .int v2)] hC dX9_groupInfo_114 (by rw [hn]; decide) rfl ?_
          refine g_iinc (v := (1 : Int32)) 116 4 [(6, .int (v6 + (1 : Int32))), (5, .int r16), (7, .int r16), (4, .int (v4 ||| ((1 : Int32) <<< ((mnow (Int32.toNatClampNeg ((121 : Int32) + v6))) &&& 31)))), (3, .int (v3 + (1 : Int32))), (0, .ref (ad b0)), (1, .int v1), (2, .int v2)] hC dX9_groupInfo_116 rfl (by decide) (by rw [hn]; decide) rfl ?_
          refine g_goto 119 44 hC dX9_groupInfo_119 (by decide) ?_
          refine G.sub [0, 1, 3, 4, 5, 6, 7] rfl ?_
          exact ih _ _ _ _ _ _ _ _ _ h
set_option maxHeartbeats 4000000 in
set_option maxRecDepth 100000 in
theorem L_X9_groupInfo_129 {l : Launch} {D : va_G} {cI cS cT : ClassId} {ad : Nat → Nat} {b0 : Nat} {E : CE} {v5 : Int32} {v4 : Int32} {v3 : Int32} {v1 : Int32} {v2 : Int32} {mnow : Nat → Int32} {mundoMany : Int32} {mtokens : Int32} {mone : Nat → Int32} {mother : Nat → Int32} {moneLong : Int32} {motherLong : Int32} {mfar : Nat → Int32} {medits : Int32} {mgroups : Int32} {mgroup : Nat → Int32} {mcentre : Nat → Int32} {post : Int32 → (Nat → Int32) → (Nat → Int32) → Int32 → Int32 → (Nat → Int32) → Int32 → (Nat → Int32) → (Nat → Int32) → Prop} (hC : Cx l D (TY cI cS cT) E rm_X9_groupInfo cX9_groupInfo RX9) (hR : RetI D E (fun (r : Int32) w => ∃ (u_mone : Nat → Int32) (u_mother : Nat → Int32) (u_moneLong : Int32) (u_motherLong : Int32) (u_mfar : Nat → Int32) (u_mgroups : Int32) (u_mgroup : Nat → Int32) (u_mcentre : Nat → Int32), w = (Wd_X9_groupInfo cI cS cT ad b0 mnow mundoMany mtokens u_mone u_mother u_moneLong u_motherLong u_mfar medits u_mgroups u_mgroup u_mcentre) ∧ post r u_mone u_mother u_moneLong u_motherLong u_mfar u_mgroups u_mgroup u_mcentre) 0 0 (some .int)) (hn : E.nL = 8) (K : Int32 → Int32 → Prop) (hK : ∀ (v7 : Int32) (v6 : Int32), K v7 v6 → G l D E 0 0 (Wd_X9_groupInfo cI cS cT ad b0 mnow mundoMany mtokens mone mother moneLong motherLong mfar medits mgroups mgroup mcentre) [(7, .int v7), (6, .int v6), (5, .int v5), (4, .int v4), (3, .int v3), (0, .ref (ad b0)), (1, .int v1), (2, .int v2)] 149 []) : ∀ (n : Nat) (v7 : Int32) (v6 : Int32), P_X9_groupInfo_129 K n v7 v6 → G l D E 0 0 (Wd_X9_groupInfo cI cS cT ad b0 mnow mundoMany mtokens mone mother moneLong motherLong mfar medits mgroups mgroup mcentre) [(7, .int v7), (6, .int v6), (5, .int v5), (4, .int v4), (3, .int v3), (0, .ref (ad b0)), (1, .int v1), (2, .int v2)] 129 [] := by
  intro n
  induction n with
  | zero => exact fun _ _ h => h.elim
  | succ n ih =>
    intro v7 v6 h
    replace h : B_X9_groupInfo_129 K (P_X9_groupInfo_129 K n) v7 v6 := h
    unfold B_X9_groupInfo_129 at h
    refine g_iload 129 0 hC dX9_groupInfo_129 rfl ?_
    refine g_if_eq 131 149 hC dX9_groupInfo_131 (by decide) (fun hc => ?_) (fun hc => ?_)
    · replace h := h.1 hc
      refine G.sub [0, 1, 2, 3, 4, 5, 6, 7] rfl ?_
      exact hK v7 v6 h
    · replace h := h.2 hc
      refine g_iinc (v := (1 : Int32)) 134 1 [(6, .int (v6 + (1 : Int32))), (7, .int v7), (5, .int v5), (4, .int v4), (3, .int v3), (0, .ref (ad b0)), (1, .int v1), (2, .int v2)] hC dX9_groupInfo_134 rfl (by decide) (by rw [hn]; decide) rfl ?_
      refine g_iload 137 1 hC dX9_groupInfo_137 rfl ?_
      refine g_iload 139 1 hC dX9_groupInfo_139 rfl ?_
      refine g_iconst (v := (1 : Int32)) 141 hC dX9_groupInfo_141 (by decide) ?_
      refine g_isub 142 hC dX9_groupInfo_142 ?_
      refine g_iand 143 hC dX9_groupInfo_143 ?_
      refine g_istore 144 [(7, .int (v7 &&& (v7 - (1 : Int32)))), (6, .int (v6 + (1 : Int32))), (5, .int v5), (4, .int v4), (3, .int v3), (0, .ref (ad b0)), (1, .int v1), (2, .int v2)] hC dX9_groupInfo_144 (by rw [hn]; decide) rfl ?_
      refine g_goto 146 129 hC dX9_groupInfo_146 (by decide) ?_
      refine G.sub [0, 1, 2, 3, 4, 5, 6, 7] rfl ?_
      exact ih _ _ h
set_option maxHeartbeats 4000000 in
set_option maxRecDepth 100000 in
theorem c_X9_groupInfo (l : Launch) (D : va_G) (cI cS cT : ClassId) (ad : Nat → Nat) (b0 : Nat) (x1 : Int32) (x2 : Int32) (mnow : Nat → Int32) (mundoMany : Int32) (mtokens : Int32) (mone : Nat → Int32) (mother : Nat → Int32) (moneLong : Int32) (motherLong : Int32) (mfar : Nat → Int32) (medits : Int32) (mgroups : Int32) (mgroup : Nat → Int32) (mcentre : Nat → Int32) (post : Int32 → (Nat → Int32) → (Nat → Int32) → Int32 → Int32 → (Nat → Int32) → Int32 → (Nat → Int32) → (Nat → Int32) → Prop) (h : P_X9_groupInfo x1 x2 mnow mundoMany mtokens mone mother moneLong motherLong mfar medits mgroups mgroup mcentre post) : MI l D (TY cI cS cT) yX9_groupInfo cX9_groupInfo 8 (some .int) rm_X9_groupInfo [.ref (ad b0), .int x1, .int x2] (Wd_X9_groupInfo cI cS cT ad b0 mnow mundoMany mtokens mone mother moneLong motherLong mfar medits mgroups mgroup mcentre) (fun (r : Int32) w => ∃ (u_mone : Nat → Int32) (u_mother : Nat → Int32) (u_moneLong : Int32) (u_motherLong : Int32) (u_mfar : Nat → Int32) (u_mgroups : Int32) (u_mgroup : Nat → Int32) (u_mcentre : Nat → Int32), w = (Wd_X9_groupInfo cI cS cT ad b0 mnow mundoMany mtokens u_mone u_mother u_moneLong u_motherLong u_mfar medits u_mgroups u_mgroup u_mcentre) ∧ post r u_mone u_mother u_moneLong u_motherLong u_mfar u_mgroups u_mgroup u_mcentre) := by
  refine MI.of (by decide) (Nat.le_of_ble_eq_true rfl) (fun E hC hR hn => ?_)
  replace hC : Cx l D (TY cI cS cT) E rm_X9_groupInfo cX9_groupInfo RX9 := hC
  replace hR : RetI D E (fun (r : Int32) w => ∃ (u_mone : Nat → Int32) (u_mother : Nat → Int32) (u_moneLong : Int32) (u_motherLong : Int32) (u_mfar : Nat → Int32) (u_mgroups : Int32) (u_mgroup : Nat → Int32) (u_mcentre : Nat → Int32), w = (Wd_X9_groupInfo cI cS cT ad b0 mnow mundoMany mtokens u_mone u_mother u_moneLong u_motherLong u_mfar medits u_mgroups u_mgroup u_mcentre) ∧ post r u_mone u_mother u_moneLong u_motherLong u_mfar u_mgroups u_mgroup u_mcentre) 0 0 (some .int) := hR
  unfold P_X9_groupInfo at h
  change G l D E 0 0 _ [(0, .ref (ad b0)), (1, .int x1), (2, .int x2)] 0 []
  refine g_iload_n 0 1 hC dX9_groupInfo_0 rfl ?_
  refine g_if_lt 1 16 hC dX9_groupInfo_1 (by decide) (fun hc => ?_) (fun hc => ?_)
  · replace h := h.1 hc
    refine g_iconst (v := (-1 : Int32)) 16 hC dX9_groupInfo_16 (by decide) ?_
    exact g_iret 17 hC hR dX9_groupInfo_17 ⟨mone, mother, moneLong, motherLong, mfar, mgroups, mgroup, mcentre, rfl, h⟩
  · replace h := h.2 hc
    refine g_iload_n 4 2 hC dX9_groupInfo_4 rfl ?_
    refine g_i2l 5 hC dX9_groupInfo_5 ?_
    refine g_lconst (v := (0 : Int64)) 6 hC dX9_groupInfo_6 (by decide) ?_
    refine g_ldc2 7 hC dX9_groupInfo_7 wq_586 ?_
    refine g_cSi (As := [.long (Int32.toInt64 x2), .long (0 : Int64), .long (2 : Int64)]) (rest := []) 10 [] hC (c_X9_in l D cI cS cT ad (Int32.toInt64 x2) (0 : Int64) (2 : Int64) _ h) kX9_in wq_130 dX9_groupInfo_10 ⟨Nat.le_of_ble_eq_true rfl, Nat.le_of_ble_eq_true rfl⟩ rfl rfl (Nat.zero_le _) (Nat.zero_le _) rfl rfl rfl (Nat.le_of_ble_eq_true rfl) ?_
    rintro r1 _ ⟨rfl, h⟩
    refine ⟨Nat.le_of_ble_eq_true rfl, G.upd [0, 1, 2, 3, 4, 5, 6] (Wd_X9_groupInfo cI cS cT ad b0 mnow mundoMany mtokens mone mother moneLong motherLong mfar medits mgroups mgroup mcentre) rfl rfl rfl rfl rfl ?_⟩
    refine g_if_ne 13 18 hC dX9_groupInfo_13 (by decide) (fun hc => ?_) (fun hc => ?_)
    · replace h := h.1 hc
      refine g_aload_n 18 0 hC dX9_groupInfo_18 rfl ?_
      refine g_cVv (As := []) (rest := []) 19 0 [0, 1, 2, 3, 4, 5, 6] hC (c_X9_makesGroups l D cI cS cT ad b0 mnow mundoMany mtokens mone mother moneLong motherLong mfar medits mgroups mgroup mcentre _ h) kX9_makesGroups wq_537 dX9_groupInfo_19 rfl rfl ⟨Nat.le_of_ble_eq_true rfl, Nat.le_of_ble_eq_true rfl⟩ rfl rfl (Nat.zero_le _) (Nat.zero_le _) rfl rfl rfl (Nat.le_of_ble_eq_true rfl) ?_
      rintro _ ⟨u2, u3, u4, u5, u6, u7, u8, u9, rfl, h⟩
      refine ⟨Nat.le_of_ble_eq_true rfl, G.upd [] (Wd_X9_groupInfo cI cS cT ad b0 mnow mundoMany mtokens u2 u3 u4 u5 u6 medits u7 u8 u9) rfl rfl rfl rfl rfl ?_⟩
      refine g_iload_n 22 1 hC dX9_groupInfo_22 rfl ?_
      refine g_aload_n 23 0 hC dX9_groupInfo_23 rfl ?_
      refine g_get 24 0 15 hC inlX9 wq_536 dX9_groupInfo_24 rfl rfl (by decide) rfl ?_
      refine g_icmp_lt 27 33 hC dX9_groupInfo_27 (by decide) (fun hc => ?_) (fun hc => ?_)
      · replace h := h.1 hc
        refine g_iconst (v := (0 : Int32)) 33 hC dX9_groupInfo_33 (by decide) ?_
        refine g_istore_n 34 [(3, .int (0 : Int32)), (0, .ref (ad b0)), (1, .int x1), (2, .int x2)] hC dX9_groupInfo_34 (by rw [hn]; decide) rfl ?_
        refine g_iconst (v := (0 : Int32)) 35 hC dX9_groupInfo_35 (by decide) ?_
        refine g_istore 36 [(4, .int (0 : Int32)), (3, .int (0 : Int32)), (0, .ref (ad b0)), (1, .int x1), (2, .int x2)] hC dX9_groupInfo_36 (by rw [hn]; decide) rfl ?_
        refine g_iconst (v := (0 : Int32)) 38 hC dX9_groupInfo_38 (by decide) ?_
        refine g_istore 39 [(5, .int (0 : Int32)), (4, .int (0 : Int32)), (3, .int (0 : Int32)), (0, .ref (ad b0)), (1, .int x1), (2, .int x2)] hC dX9_groupInfo_39 (by rw [hn]; decide) rfl ?_
        refine g_iconst (v := (0 : Int32)) 41 hC dX9_groupInfo_41 (by decide) ?_
        refine g_istore 42 [(6, .int (0 : Int32)), (5, .int (0 : Int32)), (4, .int (0 : Int32)), (3, .int (0 : Int32)), (0, .ref (ad b0)), (1, .int x1), (2, .int x2)] hC dX9_groupInfo_42 (by rw [hn]; decide) rfl ?_
        obtain ⟨n, h⟩ := h
        refine L_X9_groupInfo_44 hC hR hn _ (fun w6_17 w5_17 w4_17 w3_17 mone_17 mother_17 moneLong_17 motherLong_17 mfar_17 h => ?_) n _ _ _ _ _ _ _ _ _ h
        refine g_iconst (v := (0 : Int32)) 122 hC dX9_groupInfo_122 (by decide) ?_
        refine g_istore 123 [(6, .int (0 : Int32)), (5, .int w5_17), (4, .int w4_17), (3, .int w3_17), (0, .ref (ad b0)), (1, .int x1), (2, .int x2)] hC dX9_groupInfo_123 (by rw [hn]; decide) rfl ?_
        refine g_iload 125 2 hC dX9_groupInfo_125 rfl ?_
        refine g_istore 127 [(7, .int w4_17), (6, .int (0 : Int32)), (5, .int w5_17), (4, .int w4_17), (3, .int w3_17), (0, .ref (ad b0)), (1, .int x1), (2, .int x2)] hC dX9_groupInfo_127 (by rw [hn]; decide) rfl ?_
        obtain ⟨n, h⟩ := h
        refine L_X9_groupInfo_129 hC hR hn _ (fun w7_18 w6_18 h => ?_) n _ _ h
        refine g_iload_n 149 7 hC dX9_groupInfo_149 rfl ?_
        refine g_if_ne 150 157 hC dX9_groupInfo_150 (by decide) (fun hc => ?_) (fun hc => ?_)
        · replace h := h.1 hc
          refine g_iload_n 157 7 hC dX9_groupInfo_157 rfl ?_
          refine g_iconst (v := (1 : Int32)) 158 hC dX9_groupInfo_158 (by decide) ?_
          refine g_icmp_ne 159 167 hC dX9_groupInfo_159 (by decide) (fun hc => ?_) (fun hc => ?_)
          · replace h := h.1 hc
            refine g_iload 167 2 hC dX9_groupInfo_167 rfl ?_
            exact g_iret 169 hC hR dX9_groupInfo_169 ⟨mone_17, mother_17, moneLong_17, motherLong_17, mfar_17, u7, u8, u9, rfl, h⟩
          · replace h := h.2 hc
            refine g_iload 162 1 hC dX9_groupInfo_162 rfl ?_
            refine g_goto 164 169 hC dX9_groupInfo_164 (by decide) ?_
            exact g_iret 169 hC hR dX9_groupInfo_169 ⟨mone_17, mother_17, moneLong_17, motherLong_17, mfar_17, u7, u8, u9, rfl, h⟩
        · replace h := h.2 hc
          refine g_iload_n 153 4 hC dX9_groupInfo_153 rfl ?_
          refine g_goto 154 169 hC dX9_groupInfo_154 (by decide) ?_
          exact g_iret 169 hC hR dX9_groupInfo_169 ⟨mone_17, mother_17, moneLong_17, motherLong_17, mfar_17, u7, u8, u9, rfl, h⟩
      · replace h := h.2 hc
        refine g_bipush (v := (-4 : Int32)) 30 hC dX9_groupInfo_30 (by decide) ?_
        exact g_iret 32 hC hR dX9_groupInfo_32 ⟨u2, u3, u4, u5, u6, u7, u8, u9, rfl, h⟩
    · replace h := h.2 hc
      refine g_iconst (v := (-1 : Int32)) 16 hC dX9_groupInfo_16 (by decide) ?_
      exact g_iret 17 hC hR dX9_groupInfo_17 ⟨mone, mother, moneLong, motherLong, mfar, mgroups, mgroup, mcentre, rfl, h⟩

/-! ===== ProverbCollectionModel.crossed(III)I ===== -/
def Wd_X9_crossed (cI cS cT : ClassId) (ad : Nat → Nat) (b0 : Nat) (mnow : Nat → Int32) (mundoMany : Int32) (mtokens : Int32) (mone : Nat → Int32) (mother : Nat → Int32) (moneLong : Int32) (motherLong : Int32) (mfar : Nat → Int32) (medits : Int32) (mgroups : Int32) : va_W := [(ad b0, .inr (9, [.ref (ad (b0 + 1)), .ref (ad (b0 + 2)), .int mundoMany, .int mtokens, .ref (ad (b0 + 3)), .ref (ad (b0 + 4)), .ref (ad (b0 + 5)), .int moneLong, .int motherLong, .ref (ad (b0 + 6)), .int medits, .ref (ad (b0 + 7)), .ref (ad (b0 + 8)), .ref (ad (b0 + 9)), .ref (ad (b0 + 10)), .int mgroups, .ref (ad (b0 + 11)), .ref (ad (b0 + 12))])), (ad (b0 + 1), .inl (cI, 193, .inl mnow)), (ad (b0 + 4), .inl (cI, 8, .inl mone)), (ad (b0 + 5), .inl (cI, 8, .inl mother)), (ad (b0 + 6), .inl (cI, 81, .inl mfar))]
def rm_X9_crossed : Room := { frames := 3, cells := 0, slots := 0, locals := 69 }
theorem kX9_crossed : KV yX9_crossed cX9_crossed 8 (some .int) 3 := ⟨wq_608, wq_5, wq_606, wq_607, by decide +kernel⟩
def B_X9_crossed_63 (v5 : Int32) (v2 : Int32) (mnow : Nat → Int32) (K : Int32 → (Nat → Int32) → Prop) (rc : Int32 → (Nat → Int32) → Prop) (v7 : Int32) (mother : Nat → Int32) : Prop :=
  (v5 ≤ v7 → K v7 mother) ∧ (¬ v5 ≤ v7 → (vp_in (((13 : Int32) + ((8 : Int32) * v2)) + v7) 193 ∧ (vp_in v7 8 ∧ (rc (v7 + (1 : Int32)) (upd mother (Int32.toNatClampNeg v7) (mnow (Int32.toNatClampNeg (((13 : Int32) + ((8 : Int32) * v2)) + v7))))))))
def P_X9_crossed_63 (v5 : Int32) (v2 : Int32) (mnow : Nat → Int32) (K : Int32 → (Nat → Int32) → Prop) : Nat → Int32 → (Nat → Int32) → Prop
  | 0 => fun _ _ => False
  | n + 1 => fun v7 mother => B_X9_crossed_63 v5 v2 mnow K (P_X9_crossed_63 v5 v2 mnow K n) v7 mother
def B_X9_crossed_101 (v6 : Int32) (v5 : Int32) (v3 : Int32) (mnow : Nat → Int32) (K : Int32 → (Nat → Int32) → Prop) (rc : Int32 → (Nat → Int32) → Prop) (v7 : Int32) (mother : Nat → Int32) : Prop :=
  (v6 ≤ v7 → K v7 mother) ∧ (¬ v6 ≤ v7 → (vp_in ((1 : Int32) + v3) 193 ∧ (vp_in (((((13 : Int32) + ((8 : Int32) * v3)) + (mnow (Int32.toNatClampNeg ((1 : Int32) + v3)))) - v6) + v7) 193 ∧ (vp_in (v5 + v7) 8 ∧ (rc (v7 + (1 : Int32)) (upd mother (Int32.toNatClampNeg (v5 + v7)) (mnow (Int32.toNatClampNeg (((((13 : Int32) + ((8 : Int32) * v3)) + (mnow (Int32.toNatClampNeg ((1 : Int32) + v3)))) - v6) + v7)))))))))
def P_X9_crossed_101 (v6 : Int32) (v5 : Int32) (v3 : Int32) (mnow : Nat → Int32) (K : Int32 → (Nat → Int32) → Prop) : Nat → Int32 → (Nat → Int32) → Prop
  | 0 => fun _ _ => False
  | n + 1 => fun v7 mother => B_X9_crossed_101 v6 v5 v3 mnow K (P_X9_crossed_101 v6 v5 v3 mnow K n) v7 mother
def B_X9_crossed_28 (v5 : Int32) (v2 : Int32) (v3 : Int32) (mnow : Nat → Int32) (mundoMany : Int32) (mtokens : Int32) (mone : Nat → Int32) (moneLong : Int32) (medits : Int32) (mgroups : Int32) (K : Int32 → Int32 → (Nat → Int32) → Int32 → (Nat → Int32) → Prop) (rc : Int32 → Int32 → (Nat → Int32) → Int32 → (Nat → Int32) → Prop) (v6 : Int32) (v4 : Int32) (mother : Nat → Int32) (motherLong : Int32) (mfar : Nat → Int32) : Prop :=
  vp_in ((1 : Int32) + v3) 193 ∧ (((mnow (Int32.toNatClampNeg ((1 : Int32) + v3))) ≤ v6 → K v6 v4 mother motherLong mfar) ∧ (¬ (mnow (Int32.toNatClampNeg ((1 : Int32) + v3))) ≤ v6 → (((8 : Int32) < (v5 + v6) → K v6 v4 mother motherLong mfar) ∧ (¬ (8 : Int32) < (v5 + v6) → (∃ n : Nat, P_X9_crossed_63 v5 v2 mnow (fun w7_4 mother_4 => ∃ n : Nat, P_X9_crossed_101 v6 v5 v3 mnow (fun w7_5 mother_5 => P_X9_lays mnow mundoMany mtokens mone mother_5 moneLong (v5 + v6) mfar medits mgroups (fun r7 u6 => (v4 < 0 → rc (v6 + (1 : Int32)) r7 mother_5 (v5 + v6) u6) ∧ (¬ v4 < 0 → ((v4 ≤ r7 → rc (v6 + (1 : Int32)) v4 mother_5 (v5 + v6) u6) ∧ (¬ v4 ≤ r7 → rc (v6 + (1 : Int32)) r7 mother_5 (v5 + v6) u6))))) n (0 : Int32) mother_4) n (0 : Int32) mother)))))
def P_X9_crossed_28 (v5 : Int32) (v2 : Int32) (v3 : Int32) (mnow : Nat → Int32) (mundoMany : Int32) (mtokens : Int32) (mone : Nat → Int32) (moneLong : Int32) (medits : Int32) (mgroups : Int32) (K : Int32 → Int32 → (Nat → Int32) → Int32 → (Nat → Int32) → Prop) : Nat → Int32 → Int32 → (Nat → Int32) → Int32 → (Nat → Int32) → Prop
  | 0 => fun _ _ _ _ _ => False
  | n + 1 => fun v6 v4 mother motherLong mfar => B_X9_crossed_28 v5 v2 v3 mnow mundoMany mtokens mone moneLong medits mgroups K (P_X9_crossed_28 v5 v2 v3 mnow mundoMany mtokens mone moneLong medits mgroups K n) v6 v4 mother motherLong mfar
def B_X9_crossed_12 (v2 : Int32) (v3 : Int32) (mnow : Nat → Int32) (mundoMany : Int32) (mtokens : Int32) (mone : Nat → Int32) (moneLong : Int32) (medits : Int32) (mgroups : Int32) (K : Int32 → Int32 → (Nat → Int32) → Int32 → (Nat → Int32) → Prop) (rc : Int32 → Int32 → (Nat → Int32) → Int32 → (Nat → Int32) → Prop) (v5 : Int32) (v4 : Int32) (mother : Nat → Int32) (motherLong : Int32) (mfar : Nat → Int32) : Prop :=
  vp_in ((1 : Int32) + v2) 193 ∧ (((mnow (Int32.toNatClampNeg ((1 : Int32) + v2))) ≤ v5 → K v5 v4 mother motherLong mfar) ∧ (¬ (mnow (Int32.toNatClampNeg ((1 : Int32) + v2))) ≤ v5 → (∃ n : Nat, P_X9_crossed_28 v5 v2 v3 mnow mundoMany mtokens mone moneLong medits mgroups (fun w6_8 w4_8 mother_8 motherLong_8 mfar_8 => rc (v5 + (1 : Int32)) w4_8 mother_8 motherLong_8 mfar_8) n (1 : Int32) v4 mother motherLong mfar)))
def P_X9_crossed_12 (v2 : Int32) (v3 : Int32) (mnow : Nat → Int32) (mundoMany : Int32) (mtokens : Int32) (mone : Nat → Int32) (moneLong : Int32) (medits : Int32) (mgroups : Int32) (K : Int32 → Int32 → (Nat → Int32) → Int32 → (Nat → Int32) → Prop) : Nat → Int32 → Int32 → (Nat → Int32) → Int32 → (Nat → Int32) → Prop
  | 0 => fun _ _ _ _ _ => False
  | n + 1 => fun v5 v4 mother motherLong mfar => B_X9_crossed_12 v2 v3 mnow mundoMany mtokens mone moneLong medits mgroups K (P_X9_crossed_12 v2 v3 mnow mundoMany mtokens mone moneLong medits mgroups K n) v5 v4 mother motherLong mfar
def P_X9_crossed (x1 : Int32) (x2 : Int32) (x3 : Int32) (mnow : Nat → Int32) (mundoMany : Int32) (mtokens : Int32) (mone : Nat → Int32) (mother : Nat → Int32) (moneLong : Int32) (motherLong : Int32) (mfar : Nat → Int32) (medits : Int32) (mgroups : Int32) (post : Int32 → (Nat → Int32) → (Nat → Int32) → Int32 → Int32 → (Nat → Int32) → Prop) : Prop :=
  P_X9_takesOne x1 mnow mundoMany mtokens mone moneLong motherLong medits mgroups (fun u1 u2 => ∃ n : Nat, P_X9_crossed_12 x2 x3 mnow mundoMany mtokens u1 u2 medits mgroups (fun w5_9 w4_9 mother_9 motherLong_9 mfar_9 => post w4_9 u1 mother_9 u2 motherLong_9 mfar_9) n (1 : Int32) (-4 : Int32) mother motherLong mfar)
set_option maxHeartbeats 4000000 in
set_option maxRecDepth 100000 in
theorem L_X9_crossed_63 {l : Launch} {D : va_G} {cI cS cT : ClassId} {ad : Nat → Nat} {b0 : Nat} {E : CE} {v6 : Int32} {v5 : Int32} {v4 : Int32} {v1 : Int32} {v2 : Int32} {v3 : Int32} {mnow : Nat → Int32} {mundoMany : Int32} {mtokens : Int32} {mone : Nat → Int32} {moneLong : Int32} {motherLong : Int32} {mfar : Nat → Int32} {medits : Int32} {mgroups : Int32} {post : Int32 → (Nat → Int32) → (Nat → Int32) → Int32 → Int32 → (Nat → Int32) → Prop} (hC : Cx l D (TY cI cS cT) E rm_X9_crossed cX9_crossed RX9) (hR : RetI D E (fun (r : Int32) w => ∃ (u_mone : Nat → Int32) (u_mother : Nat → Int32) (u_moneLong : Int32) (u_motherLong : Int32) (u_mfar : Nat → Int32), w = (Wd_X9_crossed cI cS cT ad b0 mnow mundoMany mtokens u_mone u_mother u_moneLong u_motherLong u_mfar medits mgroups) ∧ post r u_mone u_mother u_moneLong u_motherLong u_mfar) 0 0 (some .int)) (hn : E.nL = 8) (K : Int32 → (Nat → Int32) → Prop) (hK : ∀ (v7 : Int32) (mother : Nat → Int32), K v7 mother → G l D E 0 0 (Wd_X9_crossed cI cS cT ad b0 mnow mundoMany mtokens mone mother moneLong motherLong mfar medits mgroups) [(7, .int v7), (6, .int v6), (5, .int v5), (4, .int v4), (0, .ref (ad b0)), (1, .int v1), (2, .int v2), (3, .int v3)] 98 []) : ∀ (n : Nat) (v7 : Int32) (mother : Nat → Int32), P_X9_crossed_63 v5 v2 mnow K n v7 mother → G l D E 0 0 (Wd_X9_crossed cI cS cT ad b0 mnow mundoMany mtokens mone mother moneLong motherLong mfar medits mgroups) [(7, .int v7), (6, .int v6), (5, .int v5), (4, .int v4), (0, .ref (ad b0)), (1, .int v1), (2, .int v2), (3, .int v3)] 63 [] := by
  intro n
  induction n with
  | zero => exact fun _ _ h => h.elim
  | succ n ih =>
    intro v7 mother h
    replace h : B_X9_crossed_63 v5 v2 mnow K (P_X9_crossed_63 v5 v2 mnow K n) v7 mother := h
    unfold B_X9_crossed_63 at h
    refine g_iload 63 0 hC dX9_crossed_63 rfl ?_
    refine g_iload 65 2 hC dX9_crossed_65 rfl ?_
    refine g_icmp_ge 67 98 hC dX9_crossed_67 (by decide) (fun hc => ?_) (fun hc => ?_)
    · replace h := h.1 hc
      refine G.sub [0, 1, 2, 3, 4, 5, 6, 7] rfl ?_
      exact hK v7 mother h
    · replace h := h.2 hc
      refine g_aload_n 70 4 hC dX9_crossed_70 rfl ?_
      refine g_get 71 0 6 hC inlX9 wq_108 dX9_crossed_71 rfl rfl (by decide) rfl ?_
      refine g_iload 74 0 hC dX9_crossed_74 rfl ?_
      refine g_aload_n 76 4 hC dX9_crossed_76 rfl ?_
      refine g_get 77 0 0 hC inlX9 wq_104 dX9_crossed_77 rfl rfl (by decide) rfl ?_
      refine g_bipush (v := (13 : Int32)) 80 hC dX9_crossed_80 (by decide) ?_
      refine g_bipush (v := (8 : Int32)) 82 hC dX9_crossed_82 (by decide) ?_
      refine g_iload_n 84 6 hC dX9_crossed_84 rfl ?_
      refine g_imul 85 hC dX9_crossed_85 ?_
      refine g_iadd 86 hC dX9_crossed_86 ?_
      refine g_iload 87 0 hC dX9_crossed_87 rfl ?_
      refine g_iadd 89 hC dX9_crossed_89 ?_
      obtain ⟨hj, h⟩ := h
      refine g_iald 90 1 hC dX9_crossed_90 rfl rfl hj ?_
      obtain ⟨hj, h⟩ := h
      refine g_iast 91 3 (Wd_X9_crossed cI cS cT ad b0 mnow mundoMany mtokens mone (upd mother (Int32.toNatClampNeg v7) (mnow (Int32.toNatClampNeg (((13 : Int32) + ((8 : Int32) * v2)) + v7)))) moneLong motherLong mfar medits mgroups) hC dX9_crossed_91 rfl rfl hj rfl ?_
      refine g_iinc (v := (1 : Int32)) 92 0 [(7, .int (v7 + (1 : Int32))), (6, .int v6), (5, .int v5), (4, .int v4), (0, .ref (ad b0)), (1, .int v1), (2, .int v2), (3, .int v3)] hC dX9_crossed_92 rfl (by decide) (by rw [hn]; decide) rfl ?_
      refine g_goto 95 63 hC dX9_crossed_95 (by decide) ?_
      refine G.sub [0, 1, 2, 3, 4, 5, 6, 7] rfl ?_
      exact ih _ _ h
set_option maxHeartbeats 4000000 in
set_option maxRecDepth 100000 in
theorem L_X9_crossed_101 {l : Launch} {D : va_G} {cI cS cT : ClassId} {ad : Nat → Nat} {b0 : Nat} {E : CE} {v6 : Int32} {v5 : Int32} {v4 : Int32} {v1 : Int32} {v2 : Int32} {v3 : Int32} {mnow : Nat → Int32} {mundoMany : Int32} {mtokens : Int32} {mone : Nat → Int32} {moneLong : Int32} {motherLong : Int32} {mfar : Nat → Int32} {medits : Int32} {mgroups : Int32} {post : Int32 → (Nat → Int32) → (Nat → Int32) → Int32 → Int32 → (Nat → Int32) → Prop} (hC : Cx l D (TY cI cS cT) E rm_X9_crossed cX9_crossed RX9) (hR : RetI D E (fun (r : Int32) w => ∃ (u_mone : Nat → Int32) (u_mother : Nat → Int32) (u_moneLong : Int32) (u_motherLong : Int32) (u_mfar : Nat → Int32), w = (Wd_X9_crossed cI cS cT ad b0 mnow mundoMany mtokens u_mone u_mother u_moneLong u_motherLong u_mfar medits mgroups) ∧ post r u_mone u_mother u_moneLong u_motherLong u_mfar) 0 0 (some .int)) (hn : E.nL = 8) (K : Int32 → (Nat → Int32) → Prop) (hK : ∀ (v7 : Int32) (mother : Nat → Int32), K v7 mother → G l D E 0 0 (Wd_X9_crossed cI cS cT ad b0 mnow mundoMany mtokens mone mother moneLong motherLong mfar medits mgroups) [(7, .int v7), (6, .int v6), (5, .int v5), (4, .int v4), (0, .ref (ad b0)), (1, .int v1), (2, .int v2), (3, .int v3)] 151 []) : ∀ (n : Nat) (v7 : Int32) (mother : Nat → Int32), P_X9_crossed_101 v6 v5 v3 mnow K n v7 mother → G l D E 0 0 (Wd_X9_crossed cI cS cT ad b0 mnow mundoMany mtokens mone mother moneLong motherLong mfar medits mgroups) [(7, .int v7), (6, .int v6), (5, .int v5), (4, .int v4), (0, .ref (ad b0)), (1, .int v1), (2, .int v2), (3, .int v3)] 101 [] := by
  intro n
  induction n with
  | zero => exact fun _ _ h => h.elim
  | succ n ih =>
    intro v7 mother h
    replace h : B_X9_crossed_101 v6 v5 v3 mnow K (P_X9_crossed_101 v6 v5 v3 mnow K n) v7 mother := h
    unfold B_X9_crossed_101 at h
    refine g_iload 101 0 hC dX9_crossed_101 rfl ?_
    refine g_iload 103 1 hC dX9_crossed_103 rfl ?_
    refine g_icmp_ge 105 151 hC dX9_crossed_105 (by decide) (fun hc => ?_) (fun hc => ?_)
    · replace h := h.1 hc
      refine G.sub [0, 1, 2, 3, 4, 5, 6, 7] rfl ?_
      exact hK v7 mother h
    · replace h := h.2 hc
      refine g_aload_n 108 4 hC dX9_crossed_108 rfl ?_
      refine g_get 109 0 6 hC inlX9 wq_108 dX9_crossed_109 rfl rfl (by decide) rfl ?_
      refine g_iload 112 2 hC dX9_crossed_112 rfl ?_
      refine g_iload 114 0 hC dX9_crossed_114 rfl ?_
      refine g_iadd 116 hC dX9_crossed_116 ?_
      refine g_aload_n 117 4 hC dX9_crossed_117 rfl ?_
      refine g_get 118 0 0 hC inlX9 wq_104 dX9_crossed_118 rfl rfl (by decide) rfl ?_
      refine g_bipush (v := (13 : Int32)) 121 hC dX9_crossed_121 (by decide) ?_
      refine g_bipush (v := (8 : Int32)) 123 hC dX9_crossed_123 (by decide) ?_
      refine g_iload_n 125 7 hC dX9_crossed_125 rfl ?_
      refine g_imul 126 hC dX9_crossed_126 ?_
      refine g_iadd 127 hC dX9_crossed_127 ?_
      refine g_aload_n 128 4 hC dX9_crossed_128 rfl ?_
      refine g_get 129 0 0 hC inlX9 wq_104 dX9_crossed_129 rfl rfl (by decide) rfl ?_
      refine g_iconst (v := (1 : Int32)) 132 hC dX9_crossed_132 (by decide) ?_
      refine g_iload_n 133 7 hC dX9_crossed_133 rfl ?_
      refine g_iadd 134 hC dX9_crossed_134 ?_
      obtain ⟨hj, h⟩ := h
      refine g_iald 135 1 hC dX9_crossed_135 rfl rfl hj ?_
      refine g_iadd 136 hC dX9_crossed_136 ?_
      refine g_iload 137 1 hC dX9_crossed_137 rfl ?_
      refine g_isub 139 hC dX9_crossed_139 ?_
      refine g_iload 140 0 hC dX9_crossed_140 rfl ?_
      refine g_iadd 142 hC dX9_crossed_142 ?_
      obtain ⟨hj, h⟩ := h
      refine g_iald 143 1 hC dX9_crossed_143 rfl rfl hj ?_
      obtain ⟨hj, h⟩ := h
      refine g_iast 144 3 (Wd_X9_crossed cI cS cT ad b0 mnow mundoMany mtokens mone (upd mother (Int32.toNatClampNeg (v5 + v7)) (mnow (Int32.toNatClampNeg (((((13 : Int32) + ((8 : Int32) * v3)) + (mnow (Int32.toNatClampNeg ((1 : Int32) + v3)))) - v6) + v7)))) moneLong motherLong mfar medits mgroups) hC dX9_crossed_144 rfl rfl hj rfl ?_
      refine g_iinc (v := (1 : Int32)) 145 0 [(7, .int (v7 + (1 : Int32))), (6, .int v6), (5, .int v5), (4, .int v4), (0, .ref (ad b0)), (1, .int v1), (2, .int v2), (3, .int v3)] hC dX9_crossed_145 rfl (by decide) (by rw [hn]; decide) rfl ?_
      refine g_goto 148 101 hC dX9_crossed_148 (by decide) ?_
      refine G.sub [0, 1, 2, 3, 4, 5, 6, 7] rfl ?_
      exact ih _ _ h
set_option maxHeartbeats 4000000 in
set_option maxRecDepth 100000 in
theorem L_X9_crossed_28 {l : Launch} {D : va_G} {cI cS cT : ClassId} {ad : Nat → Nat} {b0 : Nat} {E : CE} {v5 : Int32} {v1 : Int32} {v2 : Int32} {v3 : Int32} {mnow : Nat → Int32} {mundoMany : Int32} {mtokens : Int32} {mone : Nat → Int32} {moneLong : Int32} {medits : Int32} {mgroups : Int32} {post : Int32 → (Nat → Int32) → (Nat → Int32) → Int32 → Int32 → (Nat → Int32) → Prop} (hC : Cx l D (TY cI cS cT) E rm_X9_crossed cX9_crossed RX9) (hR : RetI D E (fun (r : Int32) w => ∃ (u_mone : Nat → Int32) (u_mother : Nat → Int32) (u_moneLong : Int32) (u_motherLong : Int32) (u_mfar : Nat → Int32), w = (Wd_X9_crossed cI cS cT ad b0 mnow mundoMany mtokens u_mone u_mother u_moneLong u_motherLong u_mfar medits mgroups) ∧ post r u_mone u_mother u_moneLong u_motherLong u_mfar) 0 0 (some .int)) (hn : E.nL = 8) (K : Int32 → Int32 → (Nat → Int32) → Int32 → (Nat → Int32) → Prop) (hK : ∀ (v6 : Int32) (v4 : Int32) (mother : Nat → Int32) (motherLong : Int32) (mfar : Nat → Int32), K v6 v4 mother motherLong mfar → G l D E 0 0 (Wd_X9_crossed cI cS cT ad b0 mnow mundoMany mtokens mone mother moneLong motherLong mfar medits mgroups) [(6, .int v6), (5, .int v5), (4, .int v4), (0, .ref (ad b0)), (1, .int v1), (2, .int v2), (3, .int v3)] 184 []) : ∀ (n : Nat) (v6 : Int32) (v4 : Int32) (mother : Nat → Int32) (motherLong : Int32) (mfar : Nat → Int32), P_X9_crossed_28 v5 v2 v3 mnow mundoMany mtokens mone moneLong medits mgroups K n v6 v4 mother motherLong mfar → G l D E 0 0 (Wd_X9_crossed cI cS cT ad b0 mnow mundoMany mtokens mone mother moneLong motherLong mfar medits mgroups) [(6, .int v6), (5, .int v5), (4, .int v4), (0, .ref (ad b0)), (1, .int v1), (2, .int v2), (3, .int v3)] 28 [] := by
  intro n
  induction n with
  | zero => exact fun _ _ _ _ _ h => h.elim
  | succ n ih =>
    intro v6 v4 mother motherLong mfar h
    replace h : B_X9_crossed_28 v5 v2 v3 mnow mundoMany mtokens mone moneLong medits mgroups K (P_X9_crossed_28 v5 v2 v3 mnow mundoMany mtokens mone moneLong medits mgroups K n) v6 v4 mother motherLong mfar := h
    unfold B_X9_crossed_28 at h
    refine g_iload 28 0 hC dX9_crossed_28 rfl ?_
    refine g_aload_n 30 3 hC dX9_crossed_30 rfl ?_
    refine g_get 31 0 0 hC inlX9 wq_104 dX9_crossed_31 rfl rfl (by decide) rfl ?_
    refine g_iconst (v := (1 : Int32)) 34 hC dX9_crossed_34 (by decide) ?_
    refine g_iload_n 35 6 hC dX9_crossed_35 rfl ?_
    refine g_iadd 36 hC dX9_crossed_36 ?_
    obtain ⟨hj, h⟩ := h
    refine g_iald 37 1 hC dX9_crossed_37 rfl rfl hj ?_
    refine g_icmp_ge 38 184 hC dX9_crossed_38 (by decide) (fun hc => ?_) (fun hc => ?_)
    · replace h := h.1 hc
      refine G.sub [0, 1, 2, 3, 4, 5, 6] rfl ?_
      exact hK v6 v4 mother motherLong mfar h
    · replace h := h.2 hc
      refine g_iload 41 1 hC dX9_crossed_41 rfl ?_
      refine g_iload 43 0 hC dX9_crossed_43 rfl ?_
      refine g_iadd 45 hC dX9_crossed_45 ?_
      refine g_bipush (v := (8 : Int32)) 46 hC dX9_crossed_46 (by decide) ?_
      refine g_icmp_gt 48 184 hC dX9_crossed_48 (by decide) (fun hc => ?_) (fun hc => ?_)
      · replace h := h.1 hc
        refine G.sub [0, 1, 2, 3, 4, 5, 6] rfl ?_
        exact hK v6 v4 mother motherLong mfar h
      · replace h := h.2 hc
        refine g_aload_n 51 3 hC dX9_crossed_51 rfl ?_
        refine g_iload 52 1 hC dX9_crossed_52 rfl ?_
        refine g_iload 54 0 hC dX9_crossed_54 rfl ?_
        refine g_iadd 56 hC dX9_crossed_56 ?_
        refine g_put 57 0 8 (Wd_X9_crossed cI cS cT ad b0 mnow mundoMany mtokens mone mother moneLong (v5 + v6) mfar medits mgroups) hC inlX9 tyX9_ok nmX9 wq_336 dX9_crossed_57 rfl rfl (by decide) rfl rfl (Nat.le_of_ble_eq_true rfl) rfl ?_
        refine g_iconst (v := (0 : Int32)) 60 hC dX9_crossed_60 (by decide) ?_
        refine g_istore 61 [(7, .int (0 : Int32)), (6, .int v6), (5, .int v5), (4, .int v4), (0, .ref (ad b0)), (1, .int v1), (2, .int v2), (3, .int v3)] hC dX9_crossed_61 (by rw [hn]; decide) rfl ?_
        obtain ⟨n, h⟩ := h
        refine L_X9_crossed_63 hC hR hn _ (fun w7_4 mother_4 h => ?_) n _ _ h
        refine g_iconst (v := (0 : Int32)) 98 hC dX9_crossed_98 (by decide) ?_
        refine g_istore 99 [(7, .int (0 : Int32)), (6, .int v6), (5, .int v5), (4, .int v4), (0, .ref (ad b0)), (1, .int v1), (2, .int v2), (3, .int v3)] hC dX9_crossed_99 (by rw [hn]; decide) rfl ?_
        obtain ⟨n, h⟩ := h
        refine L_X9_crossed_101 hC hR hn _ (fun w7_5 mother_5 h => ?_) n _ _ h
        refine g_aload_n 151 4 hC dX9_crossed_151 rfl ?_
        refine g_cVi (As := []) (rest := []) 152 0 [0, 1, 2, 3, 4] hC (c_X9_lays l D cI cS cT ad b0 mnow mundoMany mtokens mone mother_5 moneLong (v5 + v6) mfar medits mgroups _ h) kX9_lays wq_337 dX9_crossed_152 rfl rfl ⟨Nat.le_of_ble_eq_true rfl, Nat.le_of_ble_eq_true rfl⟩ rfl rfl (Nat.zero_le _) (Nat.zero_le _) rfl rfl rfl (Nat.le_of_ble_eq_true rfl) ?_
        rintro r7 _ ⟨u6, rfl, h⟩
        refine ⟨Nat.le_of_ble_eq_true rfl, G.upd [] (Wd_X9_crossed cI cS cT ad b0 mnow mundoMany mtokens mone mother_5 moneLong (v5 + v6) u6 medits mgroups) rfl rfl rfl rfl rfl ?_⟩
        refine g_istore 155 [(7, .int r7), (6, .int v6), (5, .int v5), (4, .int v4), (0, .ref (ad b0)), (1, .int v1), (2, .int v2), (3, .int v3)] hC dX9_crossed_155 (by rw [hn]; decide) rfl ?_
        refine g_iload 157 3 hC dX9_crossed_157 rfl ?_
        refine g_if_lt 159 169 hC dX9_crossed_159 (by decide) (fun hc => ?_) (fun hc => ?_)
        · replace h := h.1 hc
          refine g_iload 169 0 hC dX9_crossed_169 rfl ?_
          refine g_goto 171 176 hC dX9_crossed_171 (by decide) ?_
          refine g_istore 176 [(4, .int r7), (7, .int r7), (6, .int v6), (5, .int v5), (0, .ref (ad b0)), (1, .int v1), (2, .int v2), (3, .int v3)] hC dX9_crossed_176 (by rw [hn]; decide) rfl ?_
          refine g_iinc (v := (1 : Int32)) 178 2 [(6, .int (v6 + (1 : Int32))), (4, .int r7), (7, .int r7), (5, .int v5), (0, .ref (ad b0)), (1, .int v1), (2, .int v2), (3, .int v3)] hC dX9_crossed_178 rfl (by decide) (by rw [hn]; decide) rfl ?_
          refine g_goto 181 28 hC dX9_crossed_181 (by decide) ?_
          refine G.sub [0, 3, 1, 4, 5, 6, 7] rfl ?_
          exact ih _ _ _ _ _ h
        · replace h := h.2 hc
          refine g_iload 162 0 hC dX9_crossed_162 rfl ?_
          refine g_iload 164 3 hC dX9_crossed_164 rfl ?_
          refine g_icmp_ge 166 174 hC dX9_crossed_166 (by decide) (fun hc => ?_) (fun hc => ?_)
          · replace h := h.1 hc
            refine g_iload 174 3 hC dX9_crossed_174 rfl ?_
            refine g_istore 176 [(4, .int v4), (7, .int r7), (6, .int v6), (5, .int v5), (0, .ref (ad b0)), (1, .int v1), (2, .int v2), (3, .int v3)] hC dX9_crossed_176 (by rw [hn]; decide) rfl ?_
            refine g_iinc (v := (1 : Int32)) 178 2 [(6, .int (v6 + (1 : Int32))), (4, .int v4), (7, .int r7), (5, .int v5), (0, .ref (ad b0)), (1, .int v1), (2, .int v2), (3, .int v3)] hC dX9_crossed_178 rfl (by decide) (by rw [hn]; decide) rfl ?_
            refine g_goto 181 28 hC dX9_crossed_181 (by decide) ?_
            refine G.sub [0, 3, 1, 4, 5, 6, 7] rfl ?_
            exact ih _ _ _ _ _ h
          · replace h := h.2 hc
            refine g_iload 169 0 hC dX9_crossed_169 rfl ?_
            refine g_goto 171 176 hC dX9_crossed_171 (by decide) ?_
            refine g_istore 176 [(4, .int r7), (7, .int r7), (6, .int v6), (5, .int v5), (0, .ref (ad b0)), (1, .int v1), (2, .int v2), (3, .int v3)] hC dX9_crossed_176 (by rw [hn]; decide) rfl ?_
            refine g_iinc (v := (1 : Int32)) 178 2 [(6, .int (v6 + (1 : Int32))), (4, .int r7), (7, .int r7), (5, .int v5), (0, .ref (ad b0)), (1, .int v1), (2, .int v2), (3, .int v3)] hC dX9_crossed_178 rfl (by decide) (by rw [hn]; decide) rfl ?_
            refine g_goto 181 28 hC dX9_crossed_181 (by decide) ?_
            refine G.sub [0, 3, 1, 4, 5, 6, 7] rfl ?_
            exact ih _ _ _ _ _ h
set_option maxHeartbeats 4000000 in
set_option maxRecDepth 100000 in
theorem L_X9_crossed_12 {l : Launch} {D : va_G} {cI cS cT : ClassId} {ad : Nat → Nat} {b0 : Nat} {E : CE} {v1 : Int32} {v2 : Int32} {v3 : Int32} {mnow : Nat → Int32} {mundoMany : Int32} {mtokens : Int32} {mone : Nat → Int32} {moneLong : Int32} {medits : Int32} {mgroups : Int32} {post : Int32 → (Nat → Int32) → (Nat → Int32) → Int32 → Int32 → (Nat → Int32) → Prop} (hC : Cx l D (TY cI cS cT) E rm_X9_crossed cX9_crossed RX9) (hR : RetI D E (fun (r : Int32) w => ∃ (u_mone : Nat → Int32) (u_mother : Nat → Int32) (u_moneLong : Int32) (u_motherLong : Int32) (u_mfar : Nat → Int32), w = (Wd_X9_crossed cI cS cT ad b0 mnow mundoMany mtokens u_mone u_mother u_moneLong u_motherLong u_mfar medits mgroups) ∧ post r u_mone u_mother u_moneLong u_motherLong u_mfar) 0 0 (some .int)) (hn : E.nL = 8) (K : Int32 → Int32 → (Nat → Int32) → Int32 → (Nat → Int32) → Prop) (hK : ∀ (v5 : Int32) (v4 : Int32) (mother : Nat → Int32) (motherLong : Int32) (mfar : Nat → Int32), K v5 v4 mother motherLong mfar → G l D E 0 0 (Wd_X9_crossed cI cS cT ad b0 mnow mundoMany mtokens mone mother moneLong motherLong mfar medits mgroups) [(5, .int v5), (4, .int v4), (0, .ref (ad b0)), (1, .int v1), (2, .int v2), (3, .int v3)] 190 []) : ∀ (n : Nat) (v5 : Int32) (v4 : Int32) (mother : Nat → Int32) (motherLong : Int32) (mfar : Nat → Int32), P_X9_crossed_12 v2 v3 mnow mundoMany mtokens mone moneLong medits mgroups K n v5 v4 mother motherLong mfar → G l D E 0 0 (Wd_X9_crossed cI cS cT ad b0 mnow mundoMany mtokens mone mother moneLong motherLong mfar medits mgroups) [(5, .int v5), (4, .int v4), (0, .ref (ad b0)), (1, .int v1), (2, .int v2), (3, .int v3)] 12 [] := by
  intro n
  induction n with
  | zero => exact fun _ _ _ _ _ h => h.elim
  | succ n ih =>
    intro v5 v4 mother motherLong mfar h
    replace h : B_X9_crossed_12 v2 v3 mnow mundoMany mtokens mone moneLong medits mgroups K (P_X9_crossed_12 v2 v3 mnow mundoMany mtokens mone moneLong medits mgroups K n) v5 v4 mother motherLong mfar := h
    unfold B_X9_crossed_12 at h
    refine g_iload 12 0 hC dX9_crossed_12 rfl ?_
    refine g_aload_n 14 2 hC dX9_crossed_14 rfl ?_
    refine g_get 15 0 0 hC inlX9 wq_104 dX9_crossed_15 rfl rfl (by decide) rfl ?_
    refine g_iconst (v := (1 : Int32)) 18 hC dX9_crossed_18 (by decide) ?_
    refine g_iload_n 19 4 hC dX9_crossed_19 rfl ?_
    refine g_iadd 20 hC dX9_crossed_20 ?_
    obtain ⟨hj, h⟩ := h
    refine g_iald 21 1 hC dX9_crossed_21 rfl rfl hj ?_
    refine g_icmp_ge 22 190 hC dX9_crossed_22 (by decide) (fun hc => ?_) (fun hc => ?_)
    · replace h := h.1 hc
      refine G.sub [0, 1, 2, 3, 4, 5] rfl ?_
      exact hK v5 v4 mother motherLong mfar h
    · replace h := h.2 hc
      refine g_iconst (v := (1 : Int32)) 25 hC dX9_crossed_25 (by decide) ?_
      refine g_istore 26 [(6, .int (1 : Int32)), (5, .int v5), (4, .int v4), (0, .ref (ad b0)), (1, .int v1), (2, .int v2), (3, .int v3)] hC dX9_crossed_26 (by rw [hn]; decide) rfl ?_
      obtain ⟨n, h⟩ := h
      refine L_X9_crossed_28 hC hR hn _ (fun w6_8 w4_8 mother_8 motherLong_8 mfar_8 h => ?_) n _ _ _ _ _ h
      refine g_iinc (v := (1 : Int32)) 184 1 [(5, .int (v5 + (1 : Int32))), (6, .int w6_8), (4, .int w4_8), (0, .ref (ad b0)), (1, .int v1), (2, .int v2), (3, .int v3)] hC dX9_crossed_184 rfl (by decide) (by rw [hn]; decide) rfl ?_
      refine g_goto 187 12 hC dX9_crossed_187 (by decide) ?_
      refine G.sub [0, 2, 3, 4, 5, 6] rfl ?_
      exact ih _ _ _ _ _ h
set_option maxHeartbeats 4000000 in
set_option maxRecDepth 100000 in
theorem c_X9_crossed (l : Launch) (D : va_G) (cI cS cT : ClassId) (ad : Nat → Nat) (b0 : Nat) (x1 : Int32) (x2 : Int32) (x3 : Int32) (mnow : Nat → Int32) (mundoMany : Int32) (mtokens : Int32) (mone : Nat → Int32) (mother : Nat → Int32) (moneLong : Int32) (motherLong : Int32) (mfar : Nat → Int32) (medits : Int32) (mgroups : Int32) (post : Int32 → (Nat → Int32) → (Nat → Int32) → Int32 → Int32 → (Nat → Int32) → Prop) (h : P_X9_crossed x1 x2 x3 mnow mundoMany mtokens mone mother moneLong motherLong mfar medits mgroups post) : MI l D (TY cI cS cT) yX9_crossed cX9_crossed 8 (some .int) rm_X9_crossed [.ref (ad b0), .int x1, .int x2, .int x3] (Wd_X9_crossed cI cS cT ad b0 mnow mundoMany mtokens mone mother moneLong motherLong mfar medits mgroups) (fun (r : Int32) w => ∃ (u_mone : Nat → Int32) (u_mother : Nat → Int32) (u_moneLong : Int32) (u_motherLong : Int32) (u_mfar : Nat → Int32), w = (Wd_X9_crossed cI cS cT ad b0 mnow mundoMany mtokens u_mone u_mother u_moneLong u_motherLong u_mfar medits mgroups) ∧ post r u_mone u_mother u_moneLong u_motherLong u_mfar) := by
  refine MI.of (by decide) (Nat.le_of_ble_eq_true rfl) (fun E hC hR hn => ?_)
  replace hC : Cx l D (TY cI cS cT) E rm_X9_crossed cX9_crossed RX9 := hC
  replace hR : RetI D E (fun (r : Int32) w => ∃ (u_mone : Nat → Int32) (u_mother : Nat → Int32) (u_moneLong : Int32) (u_motherLong : Int32) (u_mfar : Nat → Int32), w = (Wd_X9_crossed cI cS cT ad b0 mnow mundoMany mtokens u_mone u_mother u_moneLong u_motherLong u_mfar medits mgroups) ∧ post r u_mone u_mother u_moneLong u_motherLong u_mfar) 0 0 (some .int) := hR
  unfold P_X9_crossed at h
  change G l D E 0 0 _ [(0, .ref (ad b0)), (1, .int x1), (2, .int x2), (3, .int x3)] 0 []
  refine g_bipush (v := (-4 : Int32)) 0 hC dX9_crossed_0 (by decide) ?_
  refine g_istore 2 [(4, .int (-4 : Int32)), (0, .ref (ad b0)), (1, .int x1), (2, .int x2), (3, .int x3)] hC dX9_crossed_2 (by rw [hn]; decide) rfl ?_
  refine g_aload_n 4 1 hC dX9_crossed_4 rfl ?_
  refine g_iload_n 5 2 hC dX9_crossed_5 rfl ?_
  refine g_cVv (As := [.int x1]) (rest := []) 6 0 [0, 1, 2] hC (c_X9_takesOne l D cI cS cT ad b0 x1 mnow mundoMany mtokens mone moneLong motherLong medits mgroups _ h) kX9_takesOne wq_327 dX9_crossed_6 rfl rfl ⟨Nat.le_of_ble_eq_true rfl, Nat.le_of_ble_eq_true rfl⟩ rfl rfl (Nat.zero_le _) (Nat.zero_le _) rfl rfl rfl (Nat.le_of_ble_eq_true rfl) ?_
  rintro _ ⟨u1, u2, rfl, h⟩
  refine ⟨Nat.le_of_ble_eq_true rfl, G.upd [3, 4] (Wd_X9_crossed cI cS cT ad b0 mnow mundoMany mtokens u1 mother u2 motherLong mfar medits mgroups) rfl rfl rfl rfl rfl ?_⟩
  refine g_iconst (v := (1 : Int32)) 9 hC dX9_crossed_9 (by decide) ?_
  refine g_istore 10 [(5, .int (1 : Int32)), (4, .int (-4 : Int32)), (0, .ref (ad b0)), (1, .int x1), (2, .int x2), (3, .int x3)] hC dX9_crossed_10 (by rw [hn]; decide) rfl ?_
  obtain ⟨n, h⟩ := h
  refine L_X9_crossed_12 hC hR hn _ (fun w5_9 w4_9 mother_9 motherLong_9 mfar_9 h => ?_) n _ _ _ _ _ h
  refine g_iload 190 1 hC dX9_crossed_190 rfl ?_
  exact g_iret 192 hC hR dX9_crossed_192 ⟨u1, mother_9, u2, motherLong_9, mfar_9, rfl, h⟩

/-! ===== ProverbCollectionModel.crossingCost(III)I ===== -/
def Wd_X9_crossingCost (cI cS cT : ClassId) (ad : Nat → Nat) (b0 : Nat) (mnow : Nat → Int32) (mundoMany : Int32) (mtokens : Int32) (mone : Nat → Int32) (mother : Nat → Int32) (moneLong : Int32) (motherLong : Int32) (mfar : Nat → Int32) (medits : Int32) (mgroups : Int32) : va_W := [(ad b0, .inr (9, [.ref (ad (b0 + 1)), .ref (ad (b0 + 2)), .int mundoMany, .int mtokens, .ref (ad (b0 + 3)), .ref (ad (b0 + 4)), .ref (ad (b0 + 5)), .int moneLong, .int motherLong, .ref (ad (b0 + 6)), .int medits, .ref (ad (b0 + 7)), .ref (ad (b0 + 8)), .ref (ad (b0 + 9)), .ref (ad (b0 + 10)), .int mgroups, .ref (ad (b0 + 11)), .ref (ad (b0 + 12))])), (ad (b0 + 1), .inl (cI, 193, .inl mnow)), (ad (b0 + 4), .inl (cI, 8, .inl mone)), (ad (b0 + 5), .inl (cI, 8, .inl mother)), (ad (b0 + 6), .inl (cI, 81, .inl mfar))]
def rm_X9_crossingCost : Room := { frames := 4, cells := 0, slots := 0, locals := 96 }
theorem kX9_crossingCost : KV yX9_crossingCost cX9_crossingCost 4 (some .int) 3 := ⟨wq_604, wq_5, wq_602, wq_603, by decide +kernel⟩
def P_X9_crossingCost (x1 : Int32) (x2 : Int32) (x3 : Int32) (mnow : Nat → Int32) (mundoMany : Int32) (mtokens : Int32) (mone : Nat → Int32) (mother : Nat → Int32) (moneLong : Int32) (motherLong : Int32) (mfar : Nat → Int32) (medits : Int32) (mgroups : Int32) (post : Int32 → (Nat → Int32) → (Nat → Int32) → Int32 → Int32 → (Nat → Int32) → Prop) : Prop :=
  P_X9_isSaying x1 mnow mundoMany mtokens moneLong motherLong medits mgroups (fun r1 => (r1 = 0 → post (-1 : Int32) mone mother moneLong motherLong mfar) ∧ (¬ r1 = 0 → (P_X9_isSaying x2 mnow mundoMany mtokens moneLong motherLong medits mgroups (fun r2 => (r2 = 0 → post (-1 : Int32) mone mother moneLong motherLong mfar) ∧ (¬ r2 = 0 → (P_X9_isSaying x3 mnow mundoMany mtokens moneLong motherLong medits mgroups (fun r3 => (r3 = 0 → post (-1 : Int32) mone mother moneLong motherLong mfar) ∧ (¬ r3 = 0 → ((x1 = x2 → post (-1 : Int32) mone mother moneLong motherLong mfar) ∧ (¬ x1 = x2 → ((x1 = x3 → post (-1 : Int32) mone mother moneLong motherLong mfar) ∧ (¬ x1 = x3 → ((¬ x2 = x3 → P_X9_crossed x1 x2 x3 mnow mundoMany mtokens mone mother moneLong motherLong mfar medits mgroups (fun r9 u4 u5 u6 u7 u8 => post r9 u4 u5 u6 u7 u8)) ∧ (x2 = x3 → post (-1 : Int32) mone mother moneLong motherLong mfar))))))))))))))
set_option maxHeartbeats 4000000 in
set_option maxRecDepth 100000 in
theorem c_X9_crossingCost (l : Launch) (D : va_G) (cI cS cT : ClassId) (ad : Nat → Nat) (b0 : Nat) (x1 : Int32) (x2 : Int32) (x3 : Int32) (mnow : Nat → Int32) (mundoMany : Int32) (mtokens : Int32) (mone : Nat → Int32) (mother : Nat → Int32) (moneLong : Int32) (motherLong : Int32) (mfar : Nat → Int32) (medits : Int32) (mgroups : Int32) (post : Int32 → (Nat → Int32) → (Nat → Int32) → Int32 → Int32 → (Nat → Int32) → Prop) (h : P_X9_crossingCost x1 x2 x3 mnow mundoMany mtokens mone mother moneLong motherLong mfar medits mgroups post) : MI l D (TY cI cS cT) yX9_crossingCost cX9_crossingCost 4 (some .int) rm_X9_crossingCost [.ref (ad b0), .int x1, .int x2, .int x3] (Wd_X9_crossingCost cI cS cT ad b0 mnow mundoMany mtokens mone mother moneLong motherLong mfar medits mgroups) (fun (r : Int32) w => ∃ (u_mone : Nat → Int32) (u_mother : Nat → Int32) (u_moneLong : Int32) (u_motherLong : Int32) (u_mfar : Nat → Int32), w = (Wd_X9_crossingCost cI cS cT ad b0 mnow mundoMany mtokens u_mone u_mother u_moneLong u_motherLong u_mfar medits mgroups) ∧ post r u_mone u_mother u_moneLong u_motherLong u_mfar) := by
  refine MI.of (by decide) (Nat.le_of_ble_eq_true rfl) (fun E hC hR hn => ?_)
  replace hC : Cx l D (TY cI cS cT) E rm_X9_crossingCost cX9_crossingCost RX9 := hC
  replace hR : RetI D E (fun (r : Int32) w => ∃ (u_mone : Nat → Int32) (u_mother : Nat → Int32) (u_moneLong : Int32) (u_motherLong : Int32) (u_mfar : Nat → Int32), w = (Wd_X9_crossingCost cI cS cT ad b0 mnow mundoMany mtokens u_mone u_mother u_moneLong u_motherLong u_mfar medits mgroups) ∧ post r u_mone u_mother u_moneLong u_motherLong u_mfar) 0 0 (some .int) := hR
  unfold P_X9_crossingCost at h
  change G l D E 0 0 _ [(0, .ref (ad b0)), (1, .int x1), (2, .int x2), (3, .int x3)] 0 []
  refine g_aload_n 0 0 hC dX9_crossingCost_0 rfl ?_
  refine g_iload_n 1 1 hC dX9_crossingCost_1 rfl ?_
  refine g_cVi (As := [.int x1]) (rest := []) 2 0 [0, 1] hC (c_X9_isSaying l D cI cS cT ad b0 x1 mnow mundoMany mtokens moneLong motherLong medits mgroups _ h) kX9_isSaying wq_215 dX9_crossingCost_2 rfl rfl ⟨Nat.le_of_ble_eq_true rfl, Nat.le_of_ble_eq_true rfl⟩ rfl rfl (Nat.zero_le _) (Nat.zero_le _) rfl rfl rfl (Nat.le_of_ble_eq_true rfl) ?_
  rintro r1 _ ⟨rfl, h⟩
  refine ⟨Nat.le_of_ble_eq_true rfl, G.upd [2, 3, 4] (Wd_X9_crossingCost cI cS cT ad b0 mnow mundoMany mtokens mone mother moneLong motherLong mfar medits mgroups) rfl rfl rfl rfl rfl ?_⟩
  refine g_if_eq 5 39 hC dX9_crossingCost_5 (by decide) (fun hc => ?_) (fun hc => ?_)
  · replace h := h.1 hc
    refine g_iconst (v := (-1 : Int32)) 39 hC dX9_crossingCost_39 (by decide) ?_
    exact g_iret 40 hC hR dX9_crossingCost_40 ⟨mone, mother, moneLong, motherLong, mfar, rfl, h⟩
  · replace h := h.2 hc
    refine g_aload_n 8 0 hC dX9_crossingCost_8 rfl ?_
    refine g_iload_n 9 2 hC dX9_crossingCost_9 rfl ?_
    refine g_cVi (As := [.int x2]) (rest := []) 10 0 [0, 1] hC (c_X9_isSaying l D cI cS cT ad b0 x2 mnow mundoMany mtokens moneLong motherLong medits mgroups _ h) kX9_isSaying wq_215 dX9_crossingCost_10 rfl rfl ⟨Nat.le_of_ble_eq_true rfl, Nat.le_of_ble_eq_true rfl⟩ rfl rfl (Nat.zero_le _) (Nat.zero_le _) rfl rfl rfl (Nat.le_of_ble_eq_true rfl) ?_
    rintro r2 _ ⟨rfl, h⟩
    refine ⟨Nat.le_of_ble_eq_true rfl, G.upd [2, 3, 4] (Wd_X9_crossingCost cI cS cT ad b0 mnow mundoMany mtokens mone mother moneLong motherLong mfar medits mgroups) rfl rfl rfl rfl rfl ?_⟩
    refine g_if_eq 13 39 hC dX9_crossingCost_13 (by decide) (fun hc => ?_) (fun hc => ?_)
    · replace h := h.1 hc
      refine g_iconst (v := (-1 : Int32)) 39 hC dX9_crossingCost_39 (by decide) ?_
      exact g_iret 40 hC hR dX9_crossingCost_40 ⟨mone, mother, moneLong, motherLong, mfar, rfl, h⟩
    · replace h := h.2 hc
      refine g_aload_n 16 0 hC dX9_crossingCost_16 rfl ?_
      refine g_iload_n 17 3 hC dX9_crossingCost_17 rfl ?_
      refine g_cVi (As := [.int x3]) (rest := []) 18 0 [0, 1] hC (c_X9_isSaying l D cI cS cT ad b0 x3 mnow mundoMany mtokens moneLong motherLong medits mgroups _ h) kX9_isSaying wq_215 dX9_crossingCost_18 rfl rfl ⟨Nat.le_of_ble_eq_true rfl, Nat.le_of_ble_eq_true rfl⟩ rfl rfl (Nat.zero_le _) (Nat.zero_le _) rfl rfl rfl (Nat.le_of_ble_eq_true rfl) ?_
      rintro r3 _ ⟨rfl, h⟩
      refine ⟨Nat.le_of_ble_eq_true rfl, G.upd [2, 3, 4] (Wd_X9_crossingCost cI cS cT ad b0 mnow mundoMany mtokens mone mother moneLong motherLong mfar medits mgroups) rfl rfl rfl rfl rfl ?_⟩
      refine g_if_eq 21 39 hC dX9_crossingCost_21 (by decide) (fun hc => ?_) (fun hc => ?_)
      · replace h := h.1 hc
        refine g_iconst (v := (-1 : Int32)) 39 hC dX9_crossingCost_39 (by decide) ?_
        exact g_iret 40 hC hR dX9_crossingCost_40 ⟨mone, mother, moneLong, motherLong, mfar, rfl, h⟩
      · replace h := h.2 hc
        refine g_iload_n 24 1 hC dX9_crossingCost_24 rfl ?_
        refine g_iload_n 25 2 hC dX9_crossingCost_25 rfl ?_
        refine g_icmp_eq 26 39 hC dX9_crossingCost_26 (by decide) (fun hc => ?_) (fun hc => ?_)
        · replace h := h.1 hc
          refine g_iconst (v := (-1 : Int32)) 39 hC dX9_crossingCost_39 (by decide) ?_
          exact g_iret 40 hC hR dX9_crossingCost_40 ⟨mone, mother, moneLong, motherLong, mfar, rfl, h⟩
        · replace h := h.2 hc
          refine g_iload_n 29 1 hC dX9_crossingCost_29 rfl ?_
          refine g_iload_n 30 3 hC dX9_crossingCost_30 rfl ?_
          refine g_icmp_eq 31 39 hC dX9_crossingCost_31 (by decide) (fun hc => ?_) (fun hc => ?_)
          · replace h := h.1 hc
            refine g_iconst (v := (-1 : Int32)) 39 hC dX9_crossingCost_39 (by decide) ?_
            exact g_iret 40 hC hR dX9_crossingCost_40 ⟨mone, mother, moneLong, motherLong, mfar, rfl, h⟩
          · replace h := h.2 hc
            refine g_iload_n 34 2 hC dX9_crossingCost_34 rfl ?_
            refine g_iload_n 35 3 hC dX9_crossingCost_35 rfl ?_
            refine g_icmp_ne 36 41 hC dX9_crossingCost_36 (by decide) (fun hc => ?_) (fun hc => ?_)
            · replace h := h.1 hc
              refine g_aload_n 41 0 hC dX9_crossingCost_41 rfl ?_
              refine g_iload_n 42 1 hC dX9_crossingCost_42 rfl ?_
              refine g_iload_n 43 2 hC dX9_crossingCost_43 rfl ?_
              refine g_iload_n 44 3 hC dX9_crossingCost_44 rfl ?_
              refine g_cVi (As := [.int x1, .int x2, .int x3]) (rest := []) 45 0 [0, 1, 2, 3, 4] hC (c_X9_crossed l D cI cS cT ad b0 x1 x2 x3 mnow mundoMany mtokens mone mother moneLong motherLong mfar medits mgroups _ h) kX9_crossed wq_605 dX9_crossingCost_45 rfl rfl ⟨Nat.le_of_ble_eq_true rfl, Nat.le_of_ble_eq_true rfl⟩ rfl rfl (Nat.zero_le _) (Nat.zero_le _) rfl rfl rfl (Nat.le_of_ble_eq_true rfl) ?_
              rintro r9 _ ⟨u4, u5, u6, u7, u8, rfl, h⟩
              refine ⟨Nat.le_of_ble_eq_true rfl, G.upd [] (Wd_X9_crossingCost cI cS cT ad b0 mnow mundoMany mtokens u4 u5 u6 u7 u8 medits mgroups) rfl rfl rfl rfl rfl ?_⟩
              exact g_iret 48 hC hR dX9_crossingCost_48 ⟨u4, u5, u6, u7, u8, rfl, h⟩
            · replace h := h.2 hc
              refine g_iconst (v := (-1 : Int32)) 39 hC dX9_crossingCost_39 (by decide) ?_
              exact g_iret 40 hC hR dX9_crossingCost_40 ⟨mone, mother, moneLong, motherLong, mfar, rfl, h⟩

/-! ===== ProverbCollectionModel.crossing(II)I ===== -/
def Wd_X9_crossing (cI cS cT : ClassId) (ad : Nat → Nat) (b0 : Nat) (mnow : Nat → Int32) (mundoMany : Int32) (mtokens : Int32) (mone : Nat → Int32) (mother : Nat → Int32) (moneLong : Int32) (motherLong : Int32) (mfar : Nat → Int32) (medits : Int32) (mgroups : Int32) : va_W := [(ad b0, .inr (9, [.ref (ad (b0 + 1)), .ref (ad (b0 + 2)), .int mundoMany, .int mtokens, .ref (ad (b0 + 3)), .ref (ad (b0 + 4)), .ref (ad (b0 + 5)), .int moneLong, .int motherLong, .ref (ad (b0 + 6)), .int medits, .ref (ad (b0 + 7)), .ref (ad (b0 + 8)), .ref (ad (b0 + 9)), .ref (ad (b0 + 10)), .int mgroups, .ref (ad (b0 + 11)), .ref (ad (b0 + 12))])), (ad (b0 + 1), .inl (cI, 193, .inl mnow)), (ad (b0 + 4), .inl (cI, 8, .inl mone)), (ad (b0 + 5), .inl (cI, 8, .inl mother)), (ad (b0 + 6), .inl (cI, 81, .inl mfar))]
def rm_X9_crossing : Room := { frames := 4, cells := 0, slots := 0, locals := 96 }
theorem kX9_crossing : KV yX9_crossing cX9_crossing 11 (some .int) 2 := ⟨wq_620, wq_5, wq_618, wq_619, by decide +kernel⟩
def B_X9_crossing_45 (v5 : Int32) (v1 : Int32) (v2 : Int32) (mnow : Nat → Int32) (mundoMany : Int32) (mtokens : Int32) (medits : Int32) (mgroups : Int32) (K : Int32 → Int32 → Int32 → (Nat → Int32) → (Nat → Int32) → Int32 → Int32 → (Nat → Int32) → Prop) (rc : Int32 → Int32 → Int32 → (Nat → Int32) → (Nat → Int32) → Int32 → Int32 → (Nat → Int32) → Prop) (v6 : Int32) (v4 : Int32) (v3 : Int32) (mone : Nat → Int32) (mother : Nat → Int32) (moneLong : Int32) (motherLong : Int32) (mfar : Nat → Int32) : Prop :=
  ((mnow (Int32.toNatClampNeg (0 : Int32))) ≤ v6 → K v6 v4 v3 mone mother moneLong motherLong mfar) ∧ (¬ (mnow (Int32.toNatClampNeg (0 : Int32))) ≤ v6 → (P_X9_atAge v5 mnow mundoMany mtokens moneLong motherLong medits mgroups (fun r3 => P_X9_atAge v6 mnow mundoMany mtokens moneLong motherLong medits mgroups (fun r4 => (r3 = r4 → rc (v6 + (1 : Int32)) v4 v3 mone mother moneLong motherLong mfar) ∧ (¬ r3 = r4 → (P_X9_isOlder r3 v1 mnow mundoMany mtokens moneLong motherLong medits mgroups (fun r5 => (r5 = 0 → rc (v6 + (1 : Int32)) v4 v3 mone mother moneLong motherLong mfar) ∧ (¬ r5 = 0 → (P_X9_isOlder r4 v1 mnow mundoMany mtokens moneLong motherLong medits mgroups (fun r6 => (r6 = 0 → rc (v6 + (1 : Int32)) v4 v3 mone mother moneLong motherLong mfar) ∧ (¬ r6 = 0 → (P_X9_crossed v1 r3 r4 mnow mundoMany mtokens mone mother moneLong motherLong mfar medits mgroups (fun r12 u7 u8 u9 u10 u11 => P_X9_in (Int32.toInt64 r12) (0 : Int64) (Int32.toInt64 v2) (fun r13 => (r13 = 0 → rc (v6 + (1 : Int32)) v4 v3 u7 u8 u9 u10 u11) ∧ (¬ r13 = 0 → (P_X9_distanceOf v1 r3 mnow mundoMany mtokens u7 u8 u9 u10 u11 medits mgroups (fun r19 u14 u15 u16 u17 u18 => (r19 ≤ r12 → rc (v6 + (1 : Int32)) v4 v3 u14 u15 u16 u17 u18) ∧ (¬ r19 ≤ r12 → (P_X9_distanceOf v1 r4 mnow mundoMany mtokens u14 u15 u16 u17 u18 medits mgroups (fun r25 u20 u21 u22 u23 u24 => (r25 ≤ r12 → rc (v6 + (1 : Int32)) v4 v3 u20 u21 u22 u23 u24) ∧ (¬ r25 ≤ r12 → ((v3 < 0 → rc (v6 + (1 : Int32)) r12 (((100 : Int32) * r3) + r4) u20 u21 u22 u23 u24) ∧ (¬ v3 < 0 → ((v4 ≤ r12 → rc (v6 + (1 : Int32)) v4 v3 u20 u21 u22 u23 u24) ∧ (¬ v4 ≤ r12 → rc (v6 + (1 : Int32)) r12 (((100 : Int32) * r3) + r4) u20 u21 u22 u23 u24)))))))))))))))))))))))))
def P_X9_crossing_45 (v5 : Int32) (v1 : Int32) (v2 : Int32) (mnow : Nat → Int32) (mundoMany : Int32) (mtokens : Int32) (medits : Int32) (mgroups : Int32) (K : Int32 → Int32 → Int32 → (Nat → Int32) → (Nat → Int32) → Int32 → Int32 → (Nat → Int32) → Prop) : Nat → Int32 → Int32 → Int32 → (Nat → Int32) → (Nat → Int32) → Int32 → Int32 → (Nat → Int32) → Prop
  | 0 => fun _ _ _ _ _ _ _ _ => False
  | n + 1 => fun v6 v4 v3 mone mother moneLong motherLong mfar => B_X9_crossing_45 v5 v1 v2 mnow mundoMany mtokens medits mgroups K (P_X9_crossing_45 v5 v1 v2 mnow mundoMany mtokens medits mgroups K n) v6 v4 v3 mone mother moneLong motherLong mfar
def B_X9_crossing_31 (v1 : Int32) (v2 : Int32) (mnow : Nat → Int32) (mundoMany : Int32) (mtokens : Int32) (medits : Int32) (mgroups : Int32) (K : Int32 → Int32 → Int32 → (Nat → Int32) → (Nat → Int32) → Int32 → Int32 → (Nat → Int32) → Prop) (rc : Int32 → Int32 → Int32 → (Nat → Int32) → (Nat → Int32) → Int32 → Int32 → (Nat → Int32) → Prop) (v5 : Int32) (v4 : Int32) (v3 : Int32) (mone : Nat → Int32) (mother : Nat → Int32) (moneLong : Int32) (motherLong : Int32) (mfar : Nat → Int32) : Prop :=
  ((mnow (Int32.toNatClampNeg (0 : Int32))) ≤ v5 → K v5 v4 v3 mone mother moneLong motherLong mfar) ∧ (¬ (mnow (Int32.toNatClampNeg (0 : Int32))) ≤ v5 → (∃ n : Nat, P_X9_crossing_45 v5 v1 v2 mnow mundoMany mtokens medits mgroups (fun w6_26 w4_26 w3_26 mone_26 mother_26 moneLong_26 motherLong_26 mfar_26 => rc (v5 + (1 : Int32)) w4_26 w3_26 mone_26 mother_26 moneLong_26 motherLong_26 mfar_26) n (0 : Int32) v4 v3 mone mother moneLong motherLong mfar))
def P_X9_crossing_31 (v1 : Int32) (v2 : Int32) (mnow : Nat → Int32) (mundoMany : Int32) (mtokens : Int32) (medits : Int32) (mgroups : Int32) (K : Int32 → Int32 → Int32 → (Nat → Int32) → (Nat → Int32) → Int32 → Int32 → (Nat → Int32) → Prop) : Nat → Int32 → Int32 → Int32 → (Nat → Int32) → (Nat → Int32) → Int32 → Int32 → (Nat → Int32) → Prop
  | 0 => fun _ _ _ _ _ _ _ _ => False
  | n + 1 => fun v5 v4 v3 mone mother moneLong motherLong mfar => B_X9_crossing_31 v1 v2 mnow mundoMany mtokens medits mgroups K (P_X9_crossing_31 v1 v2 mnow mundoMany mtokens medits mgroups K n) v5 v4 v3 mone mother moneLong motherLong mfar
def P_X9_crossing (x1 : Int32) (x2 : Int32) (mnow : Nat → Int32) (mundoMany : Int32) (mtokens : Int32) (mone : Nat → Int32) (mother : Nat → Int32) (moneLong : Int32) (motherLong : Int32) (mfar : Nat → Int32) (medits : Int32) (mgroups : Int32) (post : Int32 → (Nat → Int32) → (Nat → Int32) → Int32 → Int32 → (Nat → Int32) → Prop) : Prop :=
  P_X9_isSaying x1 mnow mundoMany mtokens moneLong motherLong medits mgroups (fun r1 => (r1 = 0 → post (-1 : Int32) mone mother moneLong motherLong mfar) ∧ (¬ r1 = 0 → (P_X9_in (Int32.toInt64 x2) (0 : Int64) (20 : Int64) (fun r2 => (¬ r2 = 0 → (∃ n : Nat, P_X9_crossing_31 x1 x2 mnow mundoMany mtokens medits mgroups (fun w5_27 w4_27 w3_27 mone_27 mother_27 moneLong_27 motherLong_27 mfar_27 => post w3_27 mone_27 mother_27 moneLong_27 motherLong_27 mfar_27) n (0 : Int32) (0 : Int32) (-4 : Int32) mone mother moneLong motherLong mfar)) ∧ (r2 = 0 → post (-1 : Int32) mone mother moneLong motherLong mfar)))))
set_option maxHeartbeats 4000000 in
set_option maxRecDepth 100000 in
theorem L_X9_crossing_45 {l : Launch} {D : va_G} {cI cS cT : ClassId} {ad : Nat → Nat} {b0 : Nat} {E : CE} {v5 : Int32} {v1 : Int32} {v2 : Int32} {mnow : Nat → Int32} {mundoMany : Int32} {mtokens : Int32} {medits : Int32} {mgroups : Int32} {post : Int32 → (Nat → Int32) → (Nat → Int32) → Int32 → Int32 → (Nat → Int32) → Prop} (hC : Cx l D (TY cI cS cT) E rm_X9_crossing cX9_crossing RX9) (hR : RetI D E (fun (r : Int32) w => ∃ (u_mone : Nat → Int32) (u_mother : Nat → Int32) (u_moneLong : Int32) (u_motherLong : Int32) (u_mfar : Nat → Int32), w = (Wd_X9_crossing cI cS cT ad b0 mnow mundoMany mtokens u_mone u_mother u_moneLong u_motherLong u_mfar medits mgroups) ∧ post r u_mone u_mother u_moneLong u_motherLong u_mfar) 0 0 (some .int)) (hn : E.nL = 11) (K : Int32 → Int32 → Int32 → (Nat → Int32) → (Nat → Int32) → Int32 → Int32 → (Nat → Int32) → Prop) (hK : ∀ (v6 : Int32) (v4 : Int32) (v3 : Int32) (mone : Nat → Int32) (mother : Nat → Int32) (moneLong : Int32) (motherLong : Int32) (mfar : Nat → Int32), K v6 v4 v3 mone mother moneLong motherLong mfar → G l D E 0 0 (Wd_X9_crossing cI cS cT ad b0 mnow mundoMany mtokens mone mother moneLong motherLong mfar medits mgroups) [(6, .int v6), (5, .int v5), (4, .int v4), (3, .int v3), (0, .ref (ad b0)), (1, .int v1), (2, .int v2)] 188 []) : ∀ (n : Nat) (v6 : Int32) (v4 : Int32) (v3 : Int32) (mone : Nat → Int32) (mother : Nat → Int32) (moneLong : Int32) (motherLong : Int32) (mfar : Nat → Int32), P_X9_crossing_45 v5 v1 v2 mnow mundoMany mtokens medits mgroups K n v6 v4 v3 mone mother moneLong motherLong mfar → G l D E 0 0 (Wd_X9_crossing cI cS cT ad b0 mnow mundoMany mtokens mone mother moneLong motherLong mfar medits mgroups) [(6, .int v6), (5, .int v5), (4, .int v4), (3, .int v3), (0, .ref (ad b0)), (1, .int v1), (2, .int v2)] 45 [] := by
  intro n
  induction n with
  | zero => exact fun _ _ _ _ _ _ _ _ h => h.elim
  | succ n ih =>
    intro v6 v4 v3 mone mother moneLong motherLong mfar h
    replace h : B_X9_crossing_45 v5 v1 v2 mnow mundoMany mtokens medits mgroups K (P_X9_crossing_45 v5 v1 v2 mnow mundoMany mtokens medits mgroups K n) v6 v4 v3 mone mother moneLong motherLong mfar := h
    unfold B_X9_crossing_45 at h
    refine g_iload 45 0 hC dX9_crossing_45 rfl ?_
    refine g_aload_n 47 4 hC dX9_crossing_47 rfl ?_
    refine g_get 48 0 0 hC inlX9 wq_104 dX9_crossing_48 rfl rfl (by decide) rfl ?_
    refine g_iconst (v := (0 : Int32)) 51 hC dX9_crossing_51 (by decide) ?_
    refine g_iald 52 1 hC dX9_crossing_52 rfl rfl (by unfold vp_in; decide) ?_
    refine g_icmp_ge 53 188 hC dX9_crossing_53 (by decide) (fun hc => ?_) (fun hc => ?_)
    · replace h := h.1 hc
      refine G.sub [0, 1, 2, 3, 4, 5, 6] rfl ?_
      exact hK v6 v4 v3 mone mother moneLong motherLong mfar h
    · replace h := h.2 hc
      refine g_aload_n 56 4 hC dX9_crossing_56 rfl ?_
      refine g_iload 57 1 hC dX9_crossing_57 rfl ?_
      refine g_cVi (As := [.int v5]) (rest := []) 59 0 [0, 1] hC (c_X9_atAge l D cI cS cT ad b0 v5 mnow mundoMany mtokens moneLong motherLong medits mgroups _ h) kX9_atAge wq_268 dX9_crossing_59 rfl rfl ⟨Nat.le_of_ble_eq_true rfl, Nat.le_of_ble_eq_true rfl⟩ rfl rfl (Nat.zero_le _) (Nat.zero_le _) rfl rfl rfl (Nat.le_of_ble_eq_true rfl) ?_
      rintro r3 _ ⟨rfl, h⟩
      refine ⟨Nat.le_of_ble_eq_true rfl, G.upd [2, 3, 4] (Wd_X9_crossing cI cS cT ad b0 mnow mundoMany mtokens mone mother moneLong motherLong mfar medits mgroups) rfl rfl rfl rfl rfl ?_⟩
      refine g_istore 62 [(7, .int r3), (6, .int v6), (5, .int v5), (4, .int v4), (3, .int v3), (0, .ref (ad b0)), (1, .int v1), (2, .int v2)] hC dX9_crossing_62 (by rw [hn]; decide) rfl ?_
      refine g_aload_n 64 5 hC dX9_crossing_64 rfl ?_
      refine g_iload 65 1 hC dX9_crossing_65 rfl ?_
      refine g_cVi (As := [.int v6]) (rest := []) 67 0 [0, 1] hC (c_X9_atAge l D cI cS cT ad b0 v6 mnow mundoMany mtokens moneLong motherLong medits mgroups _ h) kX9_atAge wq_268 dX9_crossing_67 rfl rfl ⟨Nat.le_of_ble_eq_true rfl, Nat.le_of_ble_eq_true rfl⟩ rfl rfl (Nat.zero_le _) (Nat.zero_le _) rfl rfl rfl (Nat.le_of_ble_eq_true rfl) ?_
      rintro r4 _ ⟨rfl, h⟩
      refine ⟨Nat.le_of_ble_eq_true rfl, G.upd [2, 3, 4] (Wd_X9_crossing cI cS cT ad b0 mnow mundoMany mtokens mone mother moneLong motherLong mfar medits mgroups) rfl rfl rfl rfl rfl ?_⟩
      refine g_istore 70 [(8, .int r4), (7, .int r3), (6, .int v6), (5, .int v5), (4, .int v4), (3, .int v3), (0, .ref (ad b0)), (1, .int v1), (2, .int v2)] hC dX9_crossing_70 (by rw [hn]; decide) rfl ?_
      refine g_iload 72 1 hC dX9_crossing_72 rfl ?_
      refine g_iload 74 0 hC dX9_crossing_74 rfl ?_
      refine g_icmp_eq 76 182 hC dX9_crossing_76 (by decide) (fun hc => ?_) (fun hc => ?_)
      · replace h := h.1 hc
        refine g_iinc (v := (1 : Int32)) 182 2 [(6, .int (v6 + (1 : Int32))), (8, .int r4), (7, .int r3), (5, .int v5), (4, .int v4), (3, .int v3), (0, .ref (ad b0)), (1, .int v1), (2, .int v2)] hC dX9_crossing_182 rfl (by decide) (by rw [hn]; decide) rfl ?_
        refine g_goto 185 45 hC dX9_crossing_185 (by decide) ?_
        refine G.sub [0, 3, 4, 5, 6, 7, 8] rfl ?_
        exact ih _ _ _ _ _ _ _ _ h
      · replace h := h.2 hc
        refine g_aload_n 79 6 hC dX9_crossing_79 rfl ?_
        refine g_iload 80 1 hC dX9_crossing_80 rfl ?_
        refine g_iload_n 82 7 hC dX9_crossing_82 rfl ?_
        refine g_cVi (As := [.int r3, .int v1]) (rest := []) 83 0 [0, 1] hC (c_X9_isOlder l D cI cS cT ad b0 r3 v1 mnow mundoMany mtokens moneLong motherLong medits mgroups _ h) kX9_isOlder wq_272 dX9_crossing_83 rfl rfl ⟨Nat.le_of_ble_eq_true rfl, Nat.le_of_ble_eq_true rfl⟩ rfl rfl (Nat.zero_le _) (Nat.zero_le _) rfl rfl rfl (Nat.le_of_ble_eq_true rfl) ?_
        rintro r5 _ ⟨rfl, h⟩
        refine ⟨Nat.le_of_ble_eq_true rfl, G.upd [2, 3, 4] (Wd_X9_crossing cI cS cT ad b0 mnow mundoMany mtokens mone mother moneLong motherLong mfar medits mgroups) rfl rfl rfl rfl rfl ?_⟩
        refine g_if_eq 86 182 hC dX9_crossing_86 (by decide) (fun hc => ?_) (fun hc => ?_)
        · replace h := h.1 hc
          refine g_iinc (v := (1 : Int32)) 182 2 [(6, .int (v6 + (1 : Int32))), (8, .int r4), (7, .int r3), (5, .int v5), (4, .int v4), (3, .int v3), (0, .ref (ad b0)), (1, .int v1), (2, .int v2)] hC dX9_crossing_182 rfl (by decide) (by rw [hn]; decide) rfl ?_
          refine g_goto 185 45 hC dX9_crossing_185 (by decide) ?_
          refine G.sub [0, 3, 4, 5, 6, 7, 8] rfl ?_
          exact ih _ _ _ _ _ _ _ _ h
        · replace h := h.2 hc
          refine g_aload_n 89 6 hC dX9_crossing_89 rfl ?_
          refine g_iload 90 0 hC dX9_crossing_90 rfl ?_
          refine g_iload_n 92 7 hC dX9_crossing_92 rfl ?_
          refine g_cVi (As := [.int r4, .int v1]) (rest := []) 93 0 [0, 1] hC (c_X9_isOlder l D cI cS cT ad b0 r4 v1 mnow mundoMany mtokens moneLong motherLong medits mgroups _ h) kX9_isOlder wq_272 dX9_crossing_93 rfl rfl ⟨Nat.le_of_ble_eq_true rfl, Nat.le_of_ble_eq_true rfl⟩ rfl rfl (Nat.zero_le _) (Nat.zero_le _) rfl rfl rfl (Nat.le_of_ble_eq_true rfl) ?_
          rintro r6 _ ⟨rfl, h⟩
          refine ⟨Nat.le_of_ble_eq_true rfl, G.upd [2, 3, 4] (Wd_X9_crossing cI cS cT ad b0 mnow mundoMany mtokens mone mother moneLong motherLong mfar medits mgroups) rfl rfl rfl rfl rfl ?_⟩
          refine g_if_eq 96 182 hC dX9_crossing_96 (by decide) (fun hc => ?_) (fun hc => ?_)
          · replace h := h.1 hc
            refine g_iinc (v := (1 : Int32)) 182 2 [(6, .int (v6 + (1 : Int32))), (8, .int r4), (7, .int r3), (5, .int v5), (4, .int v4), (3, .int v3), (0, .ref (ad b0)), (1, .int v1), (2, .int v2)] hC dX9_crossing_182 rfl (by decide) (by rw [hn]; decide) rfl ?_
            refine g_goto 185 45 hC dX9_crossing_185 (by decide) ?_
            refine G.sub [0, 3, 4, 5, 6, 7, 8] rfl ?_
            exact ih _ _ _ _ _ _ _ _ h
          · replace h := h.2 hc
            refine g_aload_n 99 6 hC dX9_crossing_99 rfl ?_
            refine g_iload_n 100 7 hC dX9_crossing_100 rfl ?_
            refine g_iload 101 1 hC dX9_crossing_101 rfl ?_
            refine g_iload 103 0 hC dX9_crossing_103 rfl ?_
            refine g_cVi (As := [.int v1, .int r3, .int r4]) (rest := []) 105 0 [0, 1, 2, 3, 4] hC (c_X9_crossed l D cI cS cT ad b0 v1 r3 r4 mnow mundoMany mtokens mone mother moneLong motherLong mfar medits mgroups _ h) kX9_crossed wq_605 dX9_crossing_105 rfl rfl ⟨Nat.le_of_ble_eq_true rfl, Nat.le_of_ble_eq_true rfl⟩ rfl rfl (Nat.zero_le _) (Nat.zero_le _) rfl rfl rfl (Nat.le_of_ble_eq_true rfl) ?_
            rintro r12 _ ⟨u7, u8, u9, u10, u11, rfl, h⟩
            refine ⟨Nat.le_of_ble_eq_true rfl, G.upd [] (Wd_X9_crossing cI cS cT ad b0 mnow mundoMany mtokens u7 u8 u9 u10 u11 medits mgroups) rfl rfl rfl rfl rfl ?_⟩
            refine g_istore 108 [(9, .int r12), (8, .int r4), (7, .int r3), (6, .int v6), (5, .int v5), (4, .int v4), (3, .int v3), (0, .ref (ad b0)), (1, .int v1), (2, .int v2)] hC dX9_crossing_108 (by rw [hn]; decide) rfl ?_
            refine g_iload 110 0 hC dX9_crossing_110 rfl ?_
            refine g_i2l 112 hC dX9_crossing_112 ?_
            refine g_lconst (v := (0 : Int64)) 113 hC dX9_crossing_113 (by decide) ?_
            refine g_iload_n 114 9 hC dX9_crossing_114 rfl ?_
            refine g_i2l 115 hC dX9_crossing_115 ?_
            refine g_cSi (As := [.long (Int32.toInt64 r12), .long (0 : Int64), .long (Int32.toInt64 v2)]) (rest := []) 116 [] hC (c_X9_in l D cI cS cT ad (Int32.toInt64 r12) (0 : Int64) (Int32.toInt64 v2) _ h) kX9_in wq_130 dX9_crossing_116 ⟨Nat.le_of_ble_eq_true rfl, Nat.le_of_ble_eq_true rfl⟩ rfl rfl (Nat.zero_le _) (Nat.zero_le _) rfl rfl rfl (Nat.le_of_ble_eq_true rfl) ?_
            rintro r13 _ ⟨rfl, h⟩
            refine ⟨Nat.le_of_ble_eq_true rfl, G.upd [0, 1, 2, 3, 4] (Wd_X9_crossing cI cS cT ad b0 mnow mundoMany mtokens u7 u8 u9 u10 u11 medits mgroups) rfl rfl rfl rfl rfl ?_⟩
            refine g_if_eq 119 150 hC dX9_crossing_119 (by decide) (fun hc => ?_) (fun hc => ?_)
            · replace h := h.1 hc
              refine g_iconst (v := (0 : Int32)) 150 hC dX9_crossing_150 (by decide) ?_
              refine g_istore 151 [(10, .int (0 : Int32)), (9, .int r12), (8, .int r4), (7, .int r3), (6, .int v6), (5, .int v5), (4, .int v4), (3, .int v3), (0, .ref (ad b0)), (1, .int v1), (2, .int v2)] hC dX9_crossing_151 (by rw [hn]; decide) rfl ?_
              refine g_iload 153 0 hC dX9_crossing_153 rfl ?_
              refine g_if_eq 155 182 hC dX9_crossing_155 (by decide) (fun _ => ?_) (fun hc => absurd hc (by decide))
              refine g_iinc (v := (1 : Int32)) 182 4 [(6, .int (v6 + (1 : Int32))), (10, .int (0 : Int32)), (9, .int r12), (8, .int r4), (7, .int r3), (5, .int v5), (4, .int v4), (3, .int v3), (0, .ref (ad b0)), (1, .int v1), (2, .int v2)] hC dX9_crossing_182 rfl (by decide) (by rw [hn]; decide) rfl ?_
              refine g_goto 185 45 hC dX9_crossing_185 (by decide) ?_
              refine G.sub [0, 5, 6, 7, 8, 9, 10] rfl ?_
              exact ih _ _ _ _ _ _ _ _ h
            · replace h := h.2 hc
              refine g_iload 122 0 hC dX9_crossing_122 rfl ?_
              refine g_aload_n 124 7 hC dX9_crossing_124 rfl ?_
              refine g_iload_n 125 8 hC dX9_crossing_125 rfl ?_
              refine g_iload 126 2 hC dX9_crossing_126 rfl ?_
              refine g_cVi (As := [.int v1, .int r3]) (rest := [.int r12]) 128 0 [0, 1, 2, 3, 4] hC (c_X9_distanceOf l D cI cS cT ad b0 v1 r3 mnow mundoMany mtokens u7 u8 u9 u10 u11 medits mgroups _ h) kX9_distanceOf wq_323 dX9_crossing_128 rfl rfl ⟨Nat.le_of_ble_eq_true rfl, Nat.le_of_ble_eq_true rfl⟩ rfl rfl (Nat.zero_le _) (Nat.zero_le _) rfl rfl rfl (Nat.le_of_ble_eq_true rfl) ?_
              rintro r19 _ ⟨u14, u15, u16, u17, u18, rfl, h⟩
              refine ⟨Nat.le_of_ble_eq_true rfl, G.upd [] (Wd_X9_crossing cI cS cT ad b0 mnow mundoMany mtokens u14 u15 u16 u17 u18 medits mgroups) rfl rfl rfl rfl rfl ?_⟩
              refine g_icmp_ge 131 150 hC dX9_crossing_131 (by decide) (fun hc => ?_) (fun hc => ?_)
              · replace h := h.1 hc
                refine g_iconst (v := (0 : Int32)) 150 hC dX9_crossing_150 (by decide) ?_
                refine g_istore 151 [(10, .int (0 : Int32)), (9, .int r12), (8, .int r4), (7, .int r3), (6, .int v6), (5, .int v5), (4, .int v4), (3, .int v3), (0, .ref (ad b0)), (1, .int v1), (2, .int v2)] hC dX9_crossing_151 (by rw [hn]; decide) rfl ?_
                refine g_iload 153 0 hC dX9_crossing_153 rfl ?_
                refine g_if_eq 155 182 hC dX9_crossing_155 (by decide) (fun _ => ?_) (fun hc => absurd hc (by decide))
                refine g_iinc (v := (1 : Int32)) 182 4 [(6, .int (v6 + (1 : Int32))), (10, .int (0 : Int32)), (9, .int r12), (8, .int r4), (7, .int r3), (5, .int v5), (4, .int v4), (3, .int v3), (0, .ref (ad b0)), (1, .int v1), (2, .int v2)] hC dX9_crossing_182 rfl (by decide) (by rw [hn]; decide) rfl ?_
                refine g_goto 185 45 hC dX9_crossing_185 (by decide) ?_
                refine G.sub [0, 5, 6, 7, 8, 9, 10] rfl ?_
                exact ih _ _ _ _ _ _ _ _ h
              · replace h := h.2 hc
                refine g_iload 134 0 hC dX9_crossing_134 rfl ?_
                refine g_aload_n 136 7 hC dX9_crossing_136 rfl ?_
                refine g_iload_n 137 8 hC dX9_crossing_137 rfl ?_
                refine g_iload 138 1 hC dX9_crossing_138 rfl ?_
                refine g_cVi (As := [.int v1, .int r4]) (rest := [.int r12]) 140 0 [0, 1, 2, 3, 4] hC (c_X9_distanceOf l D cI cS cT ad b0 v1 r4 mnow mundoMany mtokens u14 u15 u16 u17 u18 medits mgroups _ h) kX9_distanceOf wq_323 dX9_crossing_140 rfl rfl ⟨Nat.le_of_ble_eq_true rfl, Nat.le_of_ble_eq_true rfl⟩ rfl rfl (Nat.zero_le _) (Nat.zero_le _) rfl rfl rfl (Nat.le_of_ble_eq_true rfl) ?_
                rintro r25 _ ⟨u20, u21, u22, u23, u24, rfl, h⟩
                refine ⟨Nat.le_of_ble_eq_true rfl, G.upd [] (Wd_X9_crossing cI cS cT ad b0 mnow mundoMany mtokens u20 u21 u22 u23 u24 medits mgroups) rfl rfl rfl rfl rfl ?_⟩
                refine g_icmp_ge 143 150 hC dX9_crossing_143 (by decide) (fun hc => ?_) (fun hc => ?_)
                · replace h := h.1 hc
                  refine g_iconst (v := (0 : Int32)) 150 hC dX9_crossing_150 (by decide) ?_
                  refine g_istore 151 [(10, .int (0 : Int32)), (9, .int r12), (8, .int r4), (7, .int r3), (6, .int v6), (5, .int v5), (4, .int v4), (3, .int v3), (0, .ref (ad b0)), (1, .int v1), (2, .int v2)] hC dX9_crossing_151 (by rw [hn]; decide) rfl ?_
                  refine g_iload 153 0 hC dX9_crossing_153 rfl ?_
                  refine g_if_eq 155 182 hC dX9_crossing_155 (by decide) (fun _ => ?_) (fun hc => absurd hc (by decide))
                  refine g_iinc (v := (1 : Int32)) 182 4 [(6, .int (v6 + (1 : Int32))), (10, .int (0 : Int32)), (9, .int r12), (8, .int r4), (7, .int r3), (5, .int v5), (4, .int v4), (3, .int v3), (0, .ref (ad b0)), (1, .int v1), (2, .int v2)] hC dX9_crossing_182 rfl (by decide) (by rw [hn]; decide) rfl ?_
                  refine g_goto 185 45 hC dX9_crossing_185 (by decide) ?_
                  refine G.sub [0, 5, 6, 7, 8, 9, 10] rfl ?_
                  exact ih _ _ _ _ _ _ _ _ h
                · replace h := h.2 hc
                  refine g_iconst (v := (1 : Int32)) 146 hC dX9_crossing_146 (by decide) ?_
                  refine g_goto 147 151 hC dX9_crossing_147 (by decide) ?_
                  refine g_istore 151 [(10, .int (1 : Int32)), (9, .int r12), (8, .int r4), (7, .int r3), (6, .int v6), (5, .int v5), (4, .int v4), (3, .int v3), (0, .ref (ad b0)), (1, .int v1), (2, .int v2)] hC dX9_crossing_151 (by rw [hn]; decide) rfl ?_
                  refine g_iload 153 0 hC dX9_crossing_153 rfl ?_
                  refine g_if_eq 155 182 hC dX9_crossing_155 (by decide) (fun hc => absurd hc (by decide)) (fun _ => ?_)
                  refine g_iload_n 158 7 hC dX9_crossing_158 rfl ?_
                  refine g_if_lt 159 169 hC dX9_crossing_159 (by decide) (fun hc => ?_) (fun hc => ?_)
                  · replace h := h.1 hc
                    refine g_bipush (v := (100 : Int32)) 169 hC dX9_crossing_169 (by decide) ?_
                    refine g_iload 171 3 hC dX9_crossing_171 rfl ?_
                    refine g_imul 173 hC dX9_crossing_173 ?_
                    refine g_iload 174 2 hC dX9_crossing_174 rfl ?_
                    refine g_iadd 176 hC dX9_crossing_176 ?_
                    refine g_istore_n 177 [(3, .int (((100 : Int32) * r3) + r4)), (10, .int (1 : Int32)), (9, .int r12), (8, .int r4), (7, .int r3), (6, .int v6), (5, .int v5), (4, .int v4), (0, .ref (ad b0)), (1, .int v1), (2, .int v2)] hC dX9_crossing_177 (by rw [hn]; decide) rfl ?_
                    refine g_iload 178 2 hC dX9_crossing_178 rfl ?_
                    refine g_istore 180 [(4, .int r12), (3, .int (((100 : Int32) * r3) + r4)), (10, .int (1 : Int32)), (9, .int r12), (8, .int r4), (7, .int r3), (6, .int v6), (5, .int v5), (0, .ref (ad b0)), (1, .int v1), (2, .int v2)] hC dX9_crossing_180 (by rw [hn]; decide) rfl ?_
                    refine g_iinc (v := (1 : Int32)) 182 6 [(6, .int (v6 + (1 : Int32))), (4, .int r12), (3, .int (((100 : Int32) * r3) + r4)), (10, .int (1 : Int32)), (9, .int r12), (8, .int r4), (7, .int r3), (5, .int v5), (0, .ref (ad b0)), (1, .int v1), (2, .int v2)] hC dX9_crossing_182 rfl (by decide) (by rw [hn]; decide) rfl ?_
                    refine g_goto 185 45 hC dX9_crossing_185 (by decide) ?_
                    refine G.sub [0, 7, 1, 2, 8, 9, 10] rfl ?_
                    exact ih _ _ _ _ _ _ _ _ h
                  · replace h := h.2 hc
                    refine g_iload 162 1 hC dX9_crossing_162 rfl ?_
                    refine g_iload 164 6 hC dX9_crossing_164 rfl ?_
                    refine g_icmp_ge 166 182 hC dX9_crossing_166 (by decide) (fun hc => ?_) (fun hc => ?_)
                    · replace h := h.1 hc
                      refine g_iinc (v := (1 : Int32)) 182 4 [(6, .int (v6 + (1 : Int32))), (10, .int (1 : Int32)), (9, .int r12), (8, .int r4), (7, .int r3), (5, .int v5), (4, .int v4), (3, .int v3), (0, .ref (ad b0)), (1, .int v1), (2, .int v2)] hC dX9_crossing_182 rfl (by decide) (by rw [hn]; decide) rfl ?_
                      refine g_goto 185 45 hC dX9_crossing_185 (by decide) ?_
                      refine G.sub [0, 5, 6, 7, 8, 9, 10] rfl ?_
                      exact ih _ _ _ _ _ _ _ _ h
                    · replace h := h.2 hc
                      refine g_bipush (v := (100 : Int32)) 169 hC dX9_crossing_169 (by decide) ?_
                      refine g_iload 171 3 hC dX9_crossing_171 rfl ?_
                      refine g_imul 173 hC dX9_crossing_173 ?_
                      refine g_iload 174 2 hC dX9_crossing_174 rfl ?_
                      refine g_iadd 176 hC dX9_crossing_176 ?_
                      refine g_istore_n 177 [(3, .int (((100 : Int32) * r3) + r4)), (10, .int (1 : Int32)), (9, .int r12), (8, .int r4), (7, .int r3), (6, .int v6), (5, .int v5), (4, .int v4), (0, .ref (ad b0)), (1, .int v1), (2, .int v2)] hC dX9_crossing_177 (by rw [hn]; decide) rfl ?_
                      refine g_iload 178 2 hC dX9_crossing_178 rfl ?_
                      refine g_istore 180 [(4, .int r12), (3, .int (((100 : Int32) * r3) + r4)), (10, .int (1 : Int32)), (9, .int r12), (8, .int r4), (7, .int r3), (6, .int v6), (5, .int v5), (0, .ref (ad b0)), (1, .int v1), (2, .int v2)] hC dX9_crossing_180 (by rw [hn]; decide) rfl ?_
                      refine g_iinc (v := (1 : Int32)) 182 6 [(6, .int (v6 + (1 : Int32))), (4, .int r12), (3, .int (((100 : Int32) * r3) + r4)), (10, .int (1 : Int32)), (9, .int r12), (8, .int r4), (7, .int r3), (5, .int v5), (0, .ref (ad b0)), (1, .int v1), (2, .int v2)] hC dX9_crossing_182 rfl (by decide) (by rw [hn]; decide) rfl ?_
                      refine g_goto 185 45 hC dX9_crossing_185 (by decide) ?_
                      refine G.sub [0, 7, 1, 2, 8, 9, 10] rfl ?_
                      exact ih _ _ _ _ _ _ _ _ h
set_option maxHeartbeats 4000000 in
set_option maxRecDepth 100000 in
theorem L_X9_crossing_31 {l : Launch} {D : va_G} {cI cS cT : ClassId} {ad : Nat → Nat} {b0 : Nat} {E : CE} {v1 : Int32} {v2 : Int32} {mnow : Nat → Int32} {mundoMany : Int32} {mtokens : Int32} {medits : Int32} {mgroups : Int32} {post : Int32 → (Nat → Int32) → (Nat → Int32) → Int32 → Int32 → (Nat → Int32) → Prop} (hC : Cx l D (TY cI cS cT) E rm_X9_crossing cX9_crossing RX9) (hR : RetI D E (fun (r : Int32) w => ∃ (u_mone : Nat → Int32) (u_mother : Nat → Int32) (u_moneLong : Int32) (u_motherLong : Int32) (u_mfar : Nat → Int32), w = (Wd_X9_crossing cI cS cT ad b0 mnow mundoMany mtokens u_mone u_mother u_moneLong u_motherLong u_mfar medits mgroups) ∧ post r u_mone u_mother u_moneLong u_motherLong u_mfar) 0 0 (some .int)) (hn : E.nL = 11) (K : Int32 → Int32 → Int32 → (Nat → Int32) → (Nat → Int32) → Int32 → Int32 → (Nat → Int32) → Prop) (hK : ∀ (v5 : Int32) (v4 : Int32) (v3 : Int32) (mone : Nat → Int32) (mother : Nat → Int32) (moneLong : Int32) (motherLong : Int32) (mfar : Nat → Int32), K v5 v4 v3 mone mother moneLong motherLong mfar → G l D E 0 0 (Wd_X9_crossing cI cS cT ad b0 mnow mundoMany mtokens mone mother moneLong motherLong mfar medits mgroups) [(5, .int v5), (4, .int v4), (3, .int v3), (0, .ref (ad b0)), (1, .int v1), (2, .int v2)] 194 []) : ∀ (n : Nat) (v5 : Int32) (v4 : Int32) (v3 : Int32) (mone : Nat → Int32) (mother : Nat → Int32) (moneLong : Int32) (motherLong : Int32) (mfar : Nat → Int32), P_X9_crossing_31 v1 v2 mnow mundoMany mtokens medits mgroups K n v5 v4 v3 mone mother moneLong motherLong mfar → G l D E 0 0 (Wd_X9_crossing cI cS cT ad b0 mnow mundoMany mtokens mone mother moneLong motherLong mfar medits mgroups) [(5, .int v5), (4, .int v4), (3, .int v3), (0, .ref (ad b0)), (1, .int v1), (2, .int v2)] 31 [] := by
  intro n
  induction n with
  | zero => exact fun _ _ _ _ _ _ _ _ h => h.elim
  | succ n ih =>
    intro v5 v4 v3 mone mother moneLong motherLong mfar h
    replace h : B_X9_crossing_31 v1 v2 mnow mundoMany mtokens medits mgroups K (P_X9_crossing_31 v1 v2 mnow mundoMany mtokens medits mgroups K n) v5 v4 v3 mone mother moneLong motherLong mfar := h
    unfold B_X9_crossing_31 at h
    refine g_iload 31 0 hC dX9_crossing_31 rfl ?_
    refine g_aload_n 33 3 hC dX9_crossing_33 rfl ?_
    refine g_get 34 0 0 hC inlX9 wq_104 dX9_crossing_34 rfl rfl (by decide) rfl ?_
    refine g_iconst (v := (0 : Int32)) 37 hC dX9_crossing_37 (by decide) ?_
    refine g_iald 38 1 hC dX9_crossing_38 rfl rfl (by unfold vp_in; decide) ?_
    refine g_icmp_ge 39 194 hC dX9_crossing_39 (by decide) (fun hc => ?_) (fun hc => ?_)
    · replace h := h.1 hc
      refine G.sub [0, 1, 2, 3, 4, 5] rfl ?_
      exact hK v5 v4 v3 mone mother moneLong motherLong mfar h
    · replace h := h.2 hc
      refine g_iconst (v := (0 : Int32)) 42 hC dX9_crossing_42 (by decide) ?_
      refine g_istore 43 [(6, .int (0 : Int32)), (5, .int v5), (4, .int v4), (3, .int v3), (0, .ref (ad b0)), (1, .int v1), (2, .int v2)] hC dX9_crossing_43 (by rw [hn]; decide) rfl ?_
      obtain ⟨n, h⟩ := h
      refine L_X9_crossing_45 hC hR hn _ (fun w6_26 w4_26 w3_26 mone_26 mother_26 moneLong_26 motherLong_26 mfar_26 h => ?_) n _ _ _ _ _ _ _ _ h
      refine g_iinc (v := (1 : Int32)) 188 1 [(5, .int (v5 + (1 : Int32))), (6, .int w6_26), (4, .int w4_26), (3, .int w3_26), (0, .ref (ad b0)), (1, .int v1), (2, .int v2)] hC dX9_crossing_188 rfl (by decide) (by rw [hn]; decide) rfl ?_
      refine g_goto 191 31 hC dX9_crossing_191 (by decide) ?_
      refine G.sub [0, 2, 3, 4, 5, 6] rfl ?_
      exact ih _ _ _ _ _ _ _ _ h
set_option maxHeartbeats 4000000 in
set_option maxRecDepth 100000 in
theorem c_X9_crossing (l : Launch) (D : va_G) (cI cS cT : ClassId) (ad : Nat → Nat) (b0 : Nat) (x1 : Int32) (x2 : Int32) (mnow : Nat → Int32) (mundoMany : Int32) (mtokens : Int32) (mone : Nat → Int32) (mother : Nat → Int32) (moneLong : Int32) (motherLong : Int32) (mfar : Nat → Int32) (medits : Int32) (mgroups : Int32) (post : Int32 → (Nat → Int32) → (Nat → Int32) → Int32 → Int32 → (Nat → Int32) → Prop) (h : P_X9_crossing x1 x2 mnow mundoMany mtokens mone mother moneLong motherLong mfar medits mgroups post) : MI l D (TY cI cS cT) yX9_crossing cX9_crossing 11 (some .int) rm_X9_crossing [.ref (ad b0), .int x1, .int x2] (Wd_X9_crossing cI cS cT ad b0 mnow mundoMany mtokens mone mother moneLong motherLong mfar medits mgroups) (fun (r : Int32) w => ∃ (u_mone : Nat → Int32) (u_mother : Nat → Int32) (u_moneLong : Int32) (u_motherLong : Int32) (u_mfar : Nat → Int32), w = (Wd_X9_crossing cI cS cT ad b0 mnow mundoMany mtokens u_mone u_mother u_moneLong u_motherLong u_mfar medits mgroups) ∧ post r u_mone u_mother u_moneLong u_motherLong u_mfar) := by
  refine MI.of (by decide) (Nat.le_of_ble_eq_true rfl) (fun E hC hR hn => ?_)
  replace hC : Cx l D (TY cI cS cT) E rm_X9_crossing cX9_crossing RX9 := hC
  replace hR : RetI D E (fun (r : Int32) w => ∃ (u_mone : Nat → Int32) (u_mother : Nat → Int32) (u_moneLong : Int32) (u_motherLong : Int32) (u_mfar : Nat → Int32), w = (Wd_X9_crossing cI cS cT ad b0 mnow mundoMany mtokens u_mone u_mother u_moneLong u_motherLong u_mfar medits mgroups) ∧ post r u_mone u_mother u_moneLong u_motherLong u_mfar) 0 0 (some .int) := hR
  unfold P_X9_crossing at h
  change G l D E 0 0 _ [(0, .ref (ad b0)), (1, .int x1), (2, .int x2)] 0 []
  refine g_aload_n 0 0 hC dX9_crossing_0 rfl ?_
  refine g_iload_n 1 1 hC dX9_crossing_1 rfl ?_
  refine g_cVi (As := [.int x1]) (rest := []) 2 0 [0, 1] hC (c_X9_isSaying l D cI cS cT ad b0 x1 mnow mundoMany mtokens moneLong motherLong medits mgroups _ h) kX9_isSaying wq_215 dX9_crossing_2 rfl rfl ⟨Nat.le_of_ble_eq_true rfl, Nat.le_of_ble_eq_true rfl⟩ rfl rfl (Nat.zero_le _) (Nat.zero_le _) rfl rfl rfl (Nat.le_of_ble_eq_true rfl) ?_
  rintro r1 _ ⟨rfl, h⟩
  refine ⟨Nat.le_of_ble_eq_true rfl, G.upd [2, 3, 4] (Wd_X9_crossing cI cS cT ad b0 mnow mundoMany mtokens mone mother moneLong motherLong mfar medits mgroups) rfl rfl rfl rfl rfl ?_⟩
  refine g_if_eq 5 20 hC dX9_crossing_5 (by decide) (fun hc => ?_) (fun hc => ?_)
  · replace h := h.1 hc
    refine g_iconst (v := (-1 : Int32)) 20 hC dX9_crossing_20 (by decide) ?_
    exact g_iret 21 hC hR dX9_crossing_21 ⟨mone, mother, moneLong, motherLong, mfar, rfl, h⟩
  · replace h := h.2 hc
    refine g_iload_n 8 2 hC dX9_crossing_8 rfl ?_
    refine g_i2l 9 hC dX9_crossing_9 ?_
    refine g_lconst (v := (0 : Int64)) 10 hC dX9_crossing_10 (by decide) ?_
    refine g_ldc2 11 hC dX9_crossing_11 wq_523 ?_
    refine g_cSi (As := [.long (Int32.toInt64 x2), .long (0 : Int64), .long (20 : Int64)]) (rest := []) 14 [] hC (c_X9_in l D cI cS cT ad (Int32.toInt64 x2) (0 : Int64) (20 : Int64) _ h) kX9_in wq_130 dX9_crossing_14 ⟨Nat.le_of_ble_eq_true rfl, Nat.le_of_ble_eq_true rfl⟩ rfl rfl (Nat.zero_le _) (Nat.zero_le _) rfl rfl rfl (Nat.le_of_ble_eq_true rfl) ?_
    rintro r2 _ ⟨rfl, h⟩
    refine ⟨Nat.le_of_ble_eq_true rfl, G.upd [0, 1, 2, 3, 4] (Wd_X9_crossing cI cS cT ad b0 mnow mundoMany mtokens mone mother moneLong motherLong mfar medits mgroups) rfl rfl rfl rfl rfl ?_⟩
    refine g_if_ne 17 22 hC dX9_crossing_17 (by decide) (fun hc => ?_) (fun hc => ?_)
    · replace h := h.1 hc
      refine g_bipush (v := (-4 : Int32)) 22 hC dX9_crossing_22 (by decide) ?_
      refine g_istore_n 24 [(3, .int (-4 : Int32)), (0, .ref (ad b0)), (1, .int x1), (2, .int x2)] hC dX9_crossing_24 (by rw [hn]; decide) rfl ?_
      refine g_iconst (v := (0 : Int32)) 25 hC dX9_crossing_25 (by decide) ?_
      refine g_istore 26 [(4, .int (0 : Int32)), (3, .int (-4 : Int32)), (0, .ref (ad b0)), (1, .int x1), (2, .int x2)] hC dX9_crossing_26 (by rw [hn]; decide) rfl ?_
      refine g_iconst (v := (0 : Int32)) 28 hC dX9_crossing_28 (by decide) ?_
      refine g_istore 29 [(5, .int (0 : Int32)), (4, .int (0 : Int32)), (3, .int (-4 : Int32)), (0, .ref (ad b0)), (1, .int x1), (2, .int x2)] hC dX9_crossing_29 (by rw [hn]; decide) rfl ?_
      obtain ⟨n, h⟩ := h
      refine L_X9_crossing_31 hC hR hn _ (fun w5_27 w4_27 w3_27 mone_27 mother_27 moneLong_27 motherLong_27 mfar_27 h => ?_) n _ _ _ _ _ _ _ _ h
      refine g_iload_n 194 2 hC dX9_crossing_194 rfl ?_
      exact g_iret 195 hC hR dX9_crossing_195 ⟨mone_27, mother_27, moneLong_27, motherLong_27, mfar_27, rfl, h⟩
    · replace h := h.2 hc
      refine g_iconst (v := (-1 : Int32)) 20 hC dX9_crossing_20 (by decide) ?_
      exact g_iret 21 hC hR dX9_crossing_21 ⟨mone, mother, moneLong, motherLong, mfar, rfl, h⟩
