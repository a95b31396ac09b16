/-! written by wip/whole/gen/walk.py: worlds, predicates and contracts -/
/-! ===== ProverbCollectionModel.findsEdits(II)V ===== -/
def Wd_X9_findsEdits (cI cS cT : ClassId) (ad : Nat → Nat) (b0 : Nat) (mnow : Nat → Int32) (mundoMany : Int32) (mtokens : Int32) (mone : Nat → Int32) (mother : Nat → Int32) (moneLong : Int32) (motherLong : Int32) (mfar : Nat → Int32) (medits : Int32) (medit : Nat → Int32) (mgroups : Int32) : va_W := [(ad b0, .inr (9, [.ref (ad (b0 + 1)), .ref (ad (b0 + 2)), .int mundoMany, .int mtokens, .ref (ad (b0 + 3)), .ref (ad (b0 + 4)), .ref (ad (b0 + 5)), .int moneLong, .int motherLong, .ref (ad (b0 + 6)), .int medits, .ref (ad (b0 + 7)), .ref (ad (b0 + 8)), .ref (ad (b0 + 9)), .ref (ad (b0 + 10)), .int mgroups, .ref (ad (b0 + 11)), .ref (ad (b0 + 12))])), (ad (b0 + 1), .inl (cI, 193, .inl mnow)), (ad (b0 + 4), .inl (cI, 8, .inl mone)), (ad (b0 + 5), .inl (cI, 8, .inl mother)), (ad (b0 + 6), .inl (cI, 81, .inl mfar)), (ad (b0 + 7), .inl (cI, 16, .inl medit))]
def rm_X9_findsEdits : Room := { frames := 4, cells := 0, slots := 0, locals := 91 }
theorem kX9_findsEdits : KV yX9_findsEdits cX9_findsEdits 7 none 2 := ⟨wq_404, wq_5, wq_402, wq_403, by decide +kernel⟩
def B_X9_findsEdits_33 (v4 : Int32) (v3 : Int32) (mnow : Nat → Int32) (mundoMany : Int32) (mtokens : Int32) (mone : Nat → Int32) (mother : Nat → Int32) (moneLong : Int32) (motherLong : Int32) (mfar : Nat → Int32) (medits : Int32) (mgroups : Int32) (K : Int32 → Prop) (rc : Int32 → Prop) (v5 : Int32) : Prop :=
  P_X9_isStep v5 v3 v4 mundoMany mtokens mone mother moneLong motherLong medits mgroups (fun r7 => (r7 = 0 → rc (v5 + (1 : Int32))) ∧ (¬ r7 = 0 → (P_X9_by v5 v3 v4 mnow mundoMany mtokens mone mother moneLong motherLong mfar medits mgroups (fun r8 => vp_in (((9 : Int32) * v3) + v4) 81 ∧ ((r8 = (mfar (Int32.toNatClampNeg (((9 : Int32) * v3) + v4))) → K v5) ∧ (¬ r8 = (mfar (Int32.toNatClampNeg (((9 : Int32) * v3) + v4))) → rc (v5 + (1 : Int32))))))))
def P_X9_findsEdits_33 (v4 : Int32) (v3 : Int32) (mnow : Nat → Int32) (mundoMany : Int32) (mtokens : Int32) (mone : Nat → Int32) (mother : Nat → Int32) (moneLong : Int32) (motherLong : Int32) (mfar : Nat → Int32) (medits : Int32) (mgroups : Int32) (K : Int32 → Prop) : Nat → Int32 → Prop
  | 0 => fun _ => False
  | n + 1 => fun v5 => B_X9_findsEdits_33 v4 v3 mnow mundoMany mtokens mone mother moneLong motherLong mfar medits mgroups K (P_X9_findsEdits_33 v4 v3 mnow mundoMany mtokens mone mother moneLong motherLong mfar medits mgroups K n) v5
def B_X9_findsEdits_23 (mnow : Nat → Int32) (mundoMany : Int32) (mtokens : Int32) (mone : Nat → Int32) (mother : Nat → Int32) (moneLong : Int32) (motherLong : Int32) (mfar : Nat → Int32) (mgroups : Int32) (K : Int32 → Int32 → Int32 → (Nat → Int32) → Prop) (rc : Int32 → Int32 → Int32 → (Nat → Int32) → Prop) (v4 : Int32) (v3 : Int32) (medits : Int32) (medit : Nat → Int32) : Prop :=
  ((v3 + v4) ≤ 0 → K v4 v3 medits medit) ∧ (¬ (v3 + v4) ≤ 0 → (∃ n : Nat, P_X9_findsEdits_33 v4 v3 mnow mundoMany mtokens mone mother moneLong motherLong mfar medits mgroups (fun w5_9 => (¬ w5_9 = (1 : Int32) → ((¬ w5_9 = (3 : Int32) → ((¬ w5_9 = (4 : Int32) → ((¬ w5_9 = (2 : Int32) → ((¬ w5_9 = (4 : Int32) → (vp_in medits 16 ∧ (rc (v4 - (1 : Int32)) (v3 - (1 : Int32)) (medits + (1 : Int32)) (upd medit (Int32.toNatClampNeg medits) ((((100 : Int32) * w5_9) + ((10 : Int32) * (v3 - (1 : Int32)))) + (v4 - (1 : Int32))))))) ∧ (w5_9 = (4 : Int32) → (vp_in medits 16 ∧ (rc (v4 - (2 : Int32)) (v3 - (1 : Int32)) (medits + (1 : Int32)) (upd medit (Int32.toNatClampNeg medits) ((((100 : Int32) * w5_9) + ((10 : Int32) * (v3 - (1 : Int32)))) + (v4 - (2 : Int32))))))))) ∧ (w5_9 = (2 : Int32) → (vp_in medits 16 ∧ (rc (v4 - (0 : Int32)) (v3 - (1 : Int32)) (medits + (1 : Int32)) (upd medit (Int32.toNatClampNeg medits) ((((100 : Int32) * w5_9) + ((10 : Int32) * (v3 - (1 : Int32)))) + (v4 - (0 : Int32))))))))) ∧ (w5_9 = (4 : Int32) → ((¬ w5_9 = (2 : Int32) → ((¬ w5_9 = (4 : Int32) → (vp_in medits 16 ∧ (rc (v4 - (1 : Int32)) (v3 - (2 : Int32)) (medits + (1 : Int32)) (upd medit (Int32.toNatClampNeg medits) ((((100 : Int32) * w5_9) + ((10 : Int32) * (v3 - (2 : Int32)))) + (v4 - (1 : Int32))))))) ∧ (w5_9 = (4 : Int32) → (vp_in medits 16 ∧ (rc (v4 - (2 : Int32)) (v3 - (2 : Int32)) (medits + (1 : Int32)) (upd medit (Int32.toNatClampNeg medits) ((((100 : Int32) * w5_9) + ((10 : Int32) * (v3 - (2 : Int32)))) + (v4 - (2 : Int32))))))))) ∧ (w5_9 = (2 : Int32) → (vp_in medits 16 ∧ (rc (v4 - (0 : Int32)) (v3 - (2 : Int32)) (medits + (1 : Int32)) (upd medit (Int32.toNatClampNeg medits) ((((100 : Int32) * w5_9) + ((10 : Int32) * (v3 - (2 : Int32)))) + (v4 - (0 : Int32))))))))))) ∧ (w5_9 = (3 : Int32) → ((¬ w5_9 = (2 : Int32) → ((¬ w5_9 = (4 : Int32) → (vp_in medits 16 ∧ (rc (v4 - (1 : Int32)) (v3 - (0 : Int32)) (medits + (1 : Int32)) (upd medit (Int32.toNatClampNeg medits) ((((100 : Int32) * w5_9) + ((10 : Int32) * (v3 - (0 : Int32)))) + (v4 - (1 : Int32))))))) ∧ (w5_9 = (4 : Int32) → (vp_in medits 16 ∧ (rc (v4 - (2 : Int32)) (v3 - (0 : Int32)) (medits + (1 : Int32)) (upd medit (Int32.toNatClampNeg medits) ((((100 : Int32) * w5_9) + ((10 : Int32) * (v3 - (0 : Int32)))) + (v4 - (2 : Int32))))))))) ∧ (w5_9 = (2 : Int32) → (vp_in medits 16 ∧ (rc (v4 - (0 : Int32)) (v3 - (0 : Int32)) (medits + (1 : Int32)) (upd medit (Int32.toNatClampNeg medits) ((((100 : Int32) * w5_9) + ((10 : Int32) * (v3 - (0 : Int32)))) + (v4 - (0 : Int32))))))))))) ∧ (w5_9 = (1 : Int32) → (vp_in (v3 - (1 : Int32)) 8 ∧ (vp_in (v4 - (1 : Int32)) 8 ∧ ((¬ (mone (Int32.toNatClampNeg (v3 - (1 : Int32)))) = (mother (Int32.toNatClampNeg (v4 - (1 : Int32)))) → ((¬ w5_9 = (3 : Int32) → ((¬ w5_9 = (4 : Int32) → ((¬ w5_9 = (2 : Int32) → ((¬ w5_9 = (4 : Int32) → (vp_in medits 16 ∧ (rc (v4 - (1 : Int32)) (v3 - (1 : Int32)) (medits + (1 : Int32)) (upd medit (Int32.toNatClampNeg medits) ((((100 : Int32) * w5_9) + ((10 : Int32) * (v3 - (1 : Int32)))) + (v4 - (1 : Int32))))))) ∧ (w5_9 = (4 : Int32) → (vp_in medits 16 ∧ (rc (v4 - (2 : Int32)) (v3 - (1 : Int32)) (medits + (1 : Int32)) (upd medit (Int32.toNatClampNeg medits) ((((100 : Int32) * w5_9) + ((10 : Int32) * (v3 - (1 : Int32)))) + (v4 - (2 : Int32))))))))) ∧ (w5_9 = (2 : Int32) → (vp_in medits 16 ∧ (rc (v4 - (0 : Int32)) (v3 - (1 : Int32)) (medits + (1 : Int32)) (upd medit (Int32.toNatClampNeg medits) ((((100 : Int32) * w5_9) + ((10 : Int32) * (v3 - (1 : Int32)))) + (v4 - (0 : Int32))))))))) ∧ (w5_9 = (4 : Int32) → ((¬ w5_9 = (2 : Int32) → ((¬ w5_9 = (4 : Int32) → (vp_in medits 16 ∧ (rc (v4 - (1 : Int32)) (v3 - (2 : Int32)) (medits + (1 : Int32)) (upd medit (Int32.toNatClampNeg medits) ((((100 : Int32) * w5_9) + ((10 : Int32) * (v3 - (2 : Int32)))) + (v4 - (1 : Int32))))))) ∧ (w5_9 = (4 : Int32) → (vp_in medits 16 ∧ (rc (v4 - (2 : Int32)) (v3 - (2 : Int32)) (medits + (1 : Int32)) (upd medit (Int32.toNatClampNeg medits) ((((100 : Int32) * w5_9) + ((10 : Int32) * (v3 - (2 : Int32)))) + (v4 - (2 : Int32))))))))) ∧ (w5_9 = (2 : Int32) → (vp_in medits 16 ∧ (rc (v4 - (0 : Int32)) (v3 - (2 : Int32)) (medits + (1 : Int32)) (upd medit (Int32.toNatClampNeg medits) ((((100 : Int32) * w5_9) + ((10 : Int32) * (v3 - (2 : Int32)))) + (v4 - (0 : Int32))))))))))) ∧ (w5_9 = (3 : Int32) → ((¬ w5_9 = (2 : Int32) → ((¬ w5_9 = (4 : Int32) → (vp_in medits 16 ∧ (rc (v4 - (1 : Int32)) (v3 - (0 : Int32)) (medits + (1 : Int32)) (upd medit (Int32.toNatClampNeg medits) ((((100 : Int32) * w5_9) + ((10 : Int32) * (v3 - (0 : Int32)))) + (v4 - (1 : Int32))))))) ∧ (w5_9 = (4 : Int32) → (vp_in medits 16 ∧ (rc (v4 - (2 : Int32)) (v3 - (0 : Int32)) (medits + (1 : Int32)) (upd medit (Int32.toNatClampNeg medits) ((((100 : Int32) * w5_9) + ((10 : Int32) * (v3 - (0 : Int32)))) + (v4 - (2 : Int32))))))))) ∧ (w5_9 = (2 : Int32) → (vp_in medits 16 ∧ (rc (v4 - (0 : Int32)) (v3 - (0 : Int32)) (medits + (1 : Int32)) (upd medit (Int32.toNatClampNeg medits) ((((100 : Int32) * w5_9) + ((10 : Int32) * (v3 - (0 : Int32)))) + (v4 - (0 : Int32))))))))))) ∧ ((mone (Int32.toNatClampNeg (v3 - (1 : Int32)))) = (mother (Int32.toNatClampNeg (v4 - (1 : Int32)))) → ((¬ w5_9 = (3 : Int32) → ((¬ w5_9 = (4 : Int32) → ((¬ w5_9 = (2 : Int32) → ((¬ w5_9 = (4 : Int32) → rc (v4 - (1 : Int32)) (v3 - (1 : Int32)) medits medit) ∧ (w5_9 = (4 : Int32) → rc (v4 - (2 : Int32)) (v3 - (1 : Int32)) medits medit))) ∧ (w5_9 = (2 : Int32) → rc (v4 - (0 : Int32)) (v3 - (1 : Int32)) medits medit))) ∧ (w5_9 = (4 : Int32) → ((¬ w5_9 = (2 : Int32) → ((¬ w5_9 = (4 : Int32) → rc (v4 - (1 : Int32)) (v3 - (2 : Int32)) medits medit) ∧ (w5_9 = (4 : Int32) → rc (v4 - (2 : Int32)) (v3 - (2 : Int32)) medits medit))) ∧ (w5_9 = (2 : Int32) → rc (v4 - (0 : Int32)) (v3 - (2 : Int32)) medits medit))))) ∧ (w5_9 = (3 : Int32) → ((¬ w5_9 = (2 : Int32) → ((¬ w5_9 = (4 : Int32) → rc (v4 - (1 : Int32)) (v3 - (0 : Int32)) medits medit) ∧ (w5_9 = (4 : Int32) → rc (v4 - (2 : Int32)) (v3 - (0 : Int32)) medits medit))) ∧ (w5_9 = (2 : Int32) → rc (v4 - (0 : Int32)) (v3 - (0 : Int32)) medits medit)))))))))) n (1 : Int32)))
def P_X9_findsEdits_23 (mnow : Nat → Int32) (mundoMany : Int32) (mtokens : Int32) (mone : Nat → Int32) (mother : Nat → Int32) (moneLong : Int32) (motherLong : Int32) (mfar : Nat → Int32) (mgroups : Int32) (K : Int32 → Int32 → Int32 → (Nat → Int32) → Prop) : Nat → Int32 → Int32 → Int32 → (Nat → Int32) → Prop
  | 0 => fun _ _ _ _ => False
  | n + 1 => fun v4 v3 medits medit => B_X9_findsEdits_23 mnow mundoMany mtokens mone mother moneLong motherLong mfar mgroups K (P_X9_findsEdits_23 mnow mundoMany mtokens mone mother moneLong motherLong mfar mgroups K n) v4 v3 medits medit
def P_X9_findsEdits (x1 : Int32) (x2 : Int32) (mnow : Nat → Int32) (mundoMany : Int32) (mtokens : Int32) (mone : Nat → Int32) (mother : Nat → Int32) (moneLong : Int32) (motherLong : Int32) (mfar : Nat → Int32) (medits : Int32) (medit : Nat → Int32) (mgroups : Int32) (post : (Nat → Int32) → (Nat → Int32) → Int32 → Int32 → (Nat → Int32) → Int32 → (Nat → Int32) → Prop) : Prop :=
  P_X9_distanceOf x1 x2 mnow mundoMany mtokens mone mother moneLong motherLong mfar medits mgroups (fun r6 u1 u2 u3 u4 u5 => ∃ n : Nat, P_X9_findsEdits_23 mnow mundoMany mtokens u1 u2 u3 u4 u5 mgroups (fun w4_10 w3_10 medits_10 medit_10 => post u1 u2 u3 u4 u5 medits_10 medit_10) n u4 u3 (0 : Int32) medit)
set_option maxHeartbeats 4000000 in
set_option maxRecDepth 100000 in
theorem L_X9_findsEdits_33 {l : Launch} {D : va_G} {cI cS cT : ClassId} {ad : Nat → Nat} {b0 : Nat} {E : CE} {v4 : Int32} {v3 : Int32} {v1 : Int32} {v2 : Int32} {mnow : Nat → Int32} {mundoMany : Int32} {mtokens : Int32} {mone : Nat → Int32} {mother : Nat → Int32} {moneLong : Int32} {motherLong : Int32} {mfar : Nat → Int32} {medits : Int32} {medit : Nat → Int32} {mgroups : Int32} {post : (Nat → Int32) → (Nat → Int32) → Int32 → Int32 → (Nat → Int32) → Int32 → (Nat → Int32) → Prop} (hC : Cx l D (TY cI cS cT) E rm_X9_findsEdits cX9_findsEdits RX9) (hR : RetV D E (fun w => ∃ (u_mone : Nat → Int32) (u_mother : Nat → Int32) (u_moneLong : Int32) (u_motherLong : Int32) (u_mfar : Nat → Int32) (u_medits : Int32) (u_medit : Nat → Int32), w = (Wd_X9_findsEdits cI cS cT ad b0 mnow mundoMany mtokens u_mone u_mother u_moneLong u_motherLong u_mfar u_medits u_medit mgroups) ∧ post u_mone u_mother u_moneLong u_motherLong u_mfar u_medits u_medit) 0 0) (hn : E.nL = 7) (K : Int32 → Prop) (hK : ∀ (v5 : Int32), K v5 → G l D E 0 0 (Wd_X9_findsEdits cI cS cT ad b0 mnow mundoMany mtokens mone mother moneLong motherLong mfar medits medit mgroups) [(5, .int v5), (4, .int v4), (3, .int v3), (0, .ref (ad b0)), (1, .int v1), (2, .int v2)] 75 []) : ∀ (n : Nat) (v5 : Int32), P_X9_findsEdits_33 v4 v3 mnow mundoMany mtokens mone mother moneLong motherLong mfar medits mgroups K n v5 → G l D E 0 0 (Wd_X9_findsEdits cI cS cT ad b0 mnow mundoMany mtokens mone mother moneLong motherLong mfar medits medit mgroups) [(5, .int v5), (4, .int v4), (3, .int v3), (0, .ref (ad b0)), (1, .int v1), (2, .int v2)] 33 [] := by
  intro n
  induction n with
  | zero => exact fun _ h => h.elim
  | succ n ih =>
    intro v5 h
    replace h : B_X9_findsEdits_33 v4 v3 mnow mundoMany mtokens mone mother moneLong motherLong mfar medits mgroups K (P_X9_findsEdits_33 v4 v3 mnow mundoMany mtokens mone mother moneLong motherLong mfar medits mgroups K n) v5 := h
    unfold B_X9_findsEdits_33 at h
    refine g_aload_n 33 3 hC dX9_findsEdits_33 rfl ?_
    refine g_iload 34 0 hC dX9_findsEdits_34 rfl ?_
    refine g_iload_n 36 2 hC dX9_findsEdits_36 rfl ?_
    refine g_iload 37 1 hC dX9_findsEdits_37 rfl ?_
    refine g_cVi (As := [.int v5, .int v3, .int v4]) (rest := []) 39 0 [0, 2, 3] hC (c_X9_isStep l D cI cS cT ad b0 v5 v3 v4 mundoMany mtokens mone mother moneLong motherLong medits mgroups _ h) kX9_isStep wq_341 dX9_findsEdits_39 rfl rfl ⟨Nat.le_of_ble_eq_true rfl, Nat.le_of_ble_eq_true rfl⟩ rfl rfl (Nat.zero_le _) (Nat.zero_le _) rfl rfl rfl (Nat.le_of_ble_eq_true rfl) ?_
    rintro r7 _ ⟨rfl, h⟩
    refine ⟨Nat.le_of_ble_eq_true rfl, G.upd [1, 4, 5] (Wd_X9_findsEdits cI cS cT ad b0 mnow mundoMany mtokens mone mother moneLong motherLong mfar medits medit mgroups) rfl rfl rfl rfl rfl ?_⟩
    refine g_if_eq 42 69 hC dX9_findsEdits_42 (by decide) (fun hc => ?_) (fun hc => ?_)
    · replace h := h.1 hc
      refine g_iinc (v := (1 : Int32)) 69 0 [(5, .int (v5 + (1 : Int32))), (4, .int v4), (3, .int v3), (0, .ref (ad b0)), (1, .int v1), (2, .int v2)] hC dX9_findsEdits_69 rfl (by decide) (by rw [hn]; decide) rfl ?_
      refine g_goto 72 33 hC dX9_findsEdits_72 (by decide) ?_
      refine G.sub [0, 1, 2, 3, 4, 5] rfl ?_
      exact ih _ h
    · replace h := h.2 hc
      refine g_aload_n 45 3 hC dX9_findsEdits_45 rfl ?_
      refine g_iload 46 0 hC dX9_findsEdits_46 rfl ?_
      refine g_iload_n 48 2 hC dX9_findsEdits_48 rfl ?_
      refine g_iload 49 1 hC dX9_findsEdits_49 rfl ?_
      refine g_cVi (As := [.int v5, .int v3, .int v4]) (rest := []) 51 0 [0, 1, 2, 3, 4] hC (c_X9_by l D cI cS cT ad b0 v5 v3 v4 mnow mundoMany mtokens mone mother moneLong motherLong mfar medits mgroups _ h) kX9_by wq_349 dX9_findsEdits_51 rfl rfl ⟨Nat.le_of_ble_eq_true rfl, Nat.le_of_ble_eq_true rfl⟩ rfl rfl (Nat.zero_le _) (Nat.zero_le _) rfl rfl rfl (Nat.le_of_ble_eq_true rfl) ?_
      rintro r8 _ ⟨rfl, h⟩
      refine ⟨Nat.le_of_ble_eq_true rfl, G.upd [5] (Wd_X9_findsEdits cI cS cT ad b0 mnow mundoMany mtokens mone mother moneLong motherLong mfar medits medit mgroups) rfl rfl rfl rfl rfl ?_⟩
      refine g_aload_n 54 3 hC dX9_findsEdits_54 rfl ?_
      refine g_get 55 0 9 hC inlX9 wq_109 dX9_findsEdits_55 rfl rfl (by decide) rfl ?_
      refine g_bipush (v := (9 : Int32)) 58 hC dX9_findsEdits_58 (by decide) ?_
      refine g_iload_n 60 2 hC dX9_findsEdits_60 rfl ?_
      refine g_imul 61 hC dX9_findsEdits_61 ?_
      refine g_iload 62 1 hC dX9_findsEdits_62 rfl ?_
      refine g_iadd 64 hC dX9_findsEdits_64 ?_
      obtain ⟨hj, h⟩ := h
      refine g_iald 65 4 hC dX9_findsEdits_65 rfl rfl hj ?_
      refine g_icmp_eq 66 75 hC dX9_findsEdits_66 (by decide) (fun hc => ?_) (fun hc => ?_)
      · replace h := h.1 hc
        refine G.sub [0, 1, 2, 3, 4, 5] rfl ?_
        exact hK v5 h
      · replace h := h.2 hc
        refine g_iinc (v := (1 : Int32)) 69 0 [(5, .int (v5 + (1 : Int32))), (4, .int v4), (3, .int v3), (0, .ref (ad b0)), (1, .int v1), (2, .int v2)] hC dX9_findsEdits_69 rfl (by decide) (by rw [hn]; decide) rfl ?_
        refine g_goto 72 33 hC dX9_findsEdits_72 (by decide) ?_
        refine G.sub [0, 1, 2, 3, 4, 5] rfl ?_
        exact ih _ h
set_option maxHeartbeats 4000000 in
set_option maxRecDepth 100000 in
theorem L_X9_findsEdits_23 {l : Launch} {D : va_G} {cI cS cT : ClassId} {ad : Nat → Nat} {b0 : Nat} {E : CE} {v1 : Int32} {v2 : Int32} {mnow : Nat → Int32} {mundoMany : Int32} {mtokens : Int32} {mone : Nat → Int32} {mother : Nat → Int32} {moneLong : Int32} {motherLong : Int32} {mfar : Nat → Int32} {mgroups : Int32} {post : (Nat → Int32) → (Nat → Int32) → Int32 → Int32 → (Nat → Int32) → Int32 → (Nat → Int32) → Prop} (hC : Cx l D (TY cI cS cT) E rm_X9_findsEdits cX9_findsEdits RX9) (hR : RetV D E (fun w => ∃ (u_mone : Nat → Int32) (u_mother : Nat → Int32) (u_moneLong : Int32) (u_motherLong : Int32) (u_mfar : Nat → Int32) (u_medits : Int32) (u_medit : Nat → Int32), w = (Wd_X9_findsEdits cI cS cT ad b0 mnow mundoMany mtokens u_mone u_mother u_moneLong u_motherLong u_mfar u_medits u_medit mgroups) ∧ post u_mone u_mother u_moneLong u_motherLong u_mfar u_medits u_medit) 0 0) (hn : E.nL = 7) (K : Int32 → Int32 → Int32 → (Nat → Int32) → Prop) (hK : ∀ (v4 : Int32) (v3 : Int32) (medits : Int32) (medit : Nat → Int32), K v4 v3 medits medit → G l D E 0 0 (Wd_X9_findsEdits cI cS cT ad b0 mnow mundoMany mtokens mone mother moneLong motherLong mfar medits medit mgroups) [(4, .int v4), (3, .int v3), (0, .ref (ad b0)), (1, .int v1), (2, .int v2)] 198 []) : ∀ (n : Nat) (v4 : Int32) (v3 : Int32) (medits : Int32) (medit : Nat → Int32), P_X9_findsEdits_23 mnow mundoMany mtokens mone mother moneLong motherLong mfar mgroups K n v4 v3 medits medit → G l D E 0 0 (Wd_X9_findsEdits cI cS cT ad b0 mnow mundoMany mtokens mone mother moneLong motherLong mfar medits medit mgroups) [(4, .int v4), (3, .int v3), (0, .ref (ad b0)), (1, .int v1), (2, .int v2)] 23 [] := by
  intro n
  induction n with
  | zero => exact fun _ _ _ _ h => h.elim
  | succ n ih =>
    intro v4 v3 medits medit h
    replace h : B_X9_findsEdits_23 mnow mundoMany mtokens mone mother moneLong motherLong mfar mgroups K (P_X9_findsEdits_23 mnow mundoMany mtokens mone mother moneLong motherLong mfar mgroups K n) v4 v3 medits medit := h
    unfold B_X9_findsEdits_23 at h
    refine g_iload_n 23 1 hC dX9_findsEdits_23 rfl ?_
    refine g_iload 24 0 hC dX9_findsEdits_24 rfl ?_
    refine g_iadd 26 hC dX9_findsEdits_26 ?_
    refine g_if_le 27 198 hC dX9_findsEdits_27 (by decide) (fun hc => ?_) (fun hc => ?_)
    · replace h := h.1 hc
      refine G.sub [0, 1, 2, 3, 4] rfl ?_
      exact hK v4 v3 medits medit h
    · replace h := h.2 hc
      refine g_iconst (v := (1 : Int32)) 30 hC dX9_findsEdits_30 (by decide) ?_
      refine g_istore 31 [(5, .int (1 : Int32)), (4, .int v4), (3, .int v3), (0, .ref (ad b0)), (1, .int v1), (2, .int v2)] hC dX9_findsEdits_31 (by rw [hn]; decide) rfl ?_
      obtain ⟨n, h⟩ := h
      refine L_X9_findsEdits_33 hC hR hn _ (fun w5_9 h => ?_) n _ h
      refine g_iload 75 0 hC dX9_findsEdits_75 rfl ?_
      refine g_iconst (v := (1 : Int32)) 77 hC dX9_findsEdits_77 (by decide) ?_
      refine g_icmp_ne 78 105 hC dX9_findsEdits_78 (by decide) (fun hc => ?_) (fun hc => ?_)
      · replace h := h.1 hc
        refine g_iconst (v := (0 : Int32)) 105 hC dX9_findsEdits_105 (by decide) ?_
        refine g_istore 106 [(6, .int (0 : Int32)), (5, .int w5_9), (4, .int v4), (3, .int v3), (0, .ref (ad b0)), (1, .int v1), (2, .int v2)] hC dX9_findsEdits_106 (by rw [hn]; decide) rfl ?_
        refine g_iload_n 108 3 hC dX9_findsEdits_108 rfl ?_
        refine g_iload 109 1 hC dX9_findsEdits_109 rfl ?_
        refine g_iconst (v := (3 : Int32)) 111 hC dX9_findsEdits_111 (by decide) ?_
        refine g_icmp_ne 112 119 hC dX9_findsEdits_112 (by decide) (fun hc => ?_) (fun hc => ?_)
        · replace h := h.1 hc
          refine g_iload 119 1 hC dX9_findsEdits_119 rfl ?_
          refine g_iconst (v := (4 : Int32)) 121 hC dX9_findsEdits_121 (by decide) ?_
          refine g_icmp_ne 122 129 hC dX9_findsEdits_122 (by decide) (fun hc => ?_) (fun hc => ?_)
          · replace h := h.1 hc
            refine g_iconst (v := (1 : Int32)) 129 hC dX9_findsEdits_129 (by decide) ?_
            refine g_isub 130 hC dX9_findsEdits_130 ?_
            refine g_istore_n 131 [(3, .int (v3 - (1 : Int32))), (6, .int (0 : Int32)), (5, .int w5_9), (4, .int v4), (0, .ref (ad b0)), (1, .int v1), (2, .int v2)] hC dX9_findsEdits_131 (by rw [hn]; decide) rfl ?_
            refine g_iload 132 3 hC dX9_findsEdits_132 rfl ?_
            refine g_iload 134 2 hC dX9_findsEdits_134 rfl ?_
            refine g_iconst (v := (2 : Int32)) 136 hC dX9_findsEdits_136 (by decide) ?_
            refine g_icmp_ne 137 144 hC dX9_findsEdits_137 (by decide) (fun hc => ?_) (fun hc => ?_)
            · replace h := h.1 hc
              refine g_iload 144 2 hC dX9_findsEdits_144 rfl ?_
              refine g_iconst (v := (4 : Int32)) 146 hC dX9_findsEdits_146 (by decide) ?_
              refine g_icmp_ne 147 154 hC dX9_findsEdits_147 (by decide) (fun hc => ?_) (fun hc => ?_)
              · replace h := h.1 hc
                refine g_iconst (v := (1 : Int32)) 154 hC dX9_findsEdits_154 (by decide) ?_
                refine g_isub 155 hC dX9_findsEdits_155 ?_
                refine g_istore 156 [(4, .int (v4 - (1 : Int32))), (3, .int (v3 - (1 : Int32))), (6, .int (0 : Int32)), (5, .int w5_9), (0, .ref (ad b0)), (1, .int v1), (2, .int v2)] hC dX9_findsEdits_156 (by rw [hn]; decide) rfl ?_
                refine g_iload 158 2 hC dX9_findsEdits_158 rfl ?_
                refine g_if_ne 160 195 hC dX9_findsEdits_160 (by decide) (fun hc => absurd hc (by decide)) (fun _ => ?_)
                refine g_aload_n 163 4 hC dX9_findsEdits_163 rfl ?_
                refine g_get 164 0 11 hC inlX9 wq_110 dX9_findsEdits_164 rfl rfl (by decide) rfl ?_
                refine g_aload_n 167 4 hC dX9_findsEdits_167 rfl ?_
                refine g_get 168 0 10 hC inlX9 wq_400 dX9_findsEdits_168 rfl rfl (by decide) rfl ?_
                refine g_bipush (v := (100 : Int32)) 171 hC dX9_findsEdits_171 (by decide) ?_
                refine g_iload 173 3 hC dX9_findsEdits_173 rfl ?_
                refine g_imul 175 hC dX9_findsEdits_175 ?_
                refine g_bipush (v := (10 : Int32)) 176 hC dX9_findsEdits_176 (by decide) ?_
                refine g_iload_n 178 1 hC dX9_findsEdits_178 rfl ?_
                refine g_imul 179 hC dX9_findsEdits_179 ?_
                refine g_iadd 180 hC dX9_findsEdits_180 ?_
                refine g_iload 181 0 hC dX9_findsEdits_181 rfl ?_
                refine g_iadd 183 hC dX9_findsEdits_183 ?_
                obtain ⟨hj, h⟩ := h
                refine g_iast 184 5 (Wd_X9_findsEdits cI cS cT ad b0 mnow mundoMany mtokens mone mother moneLong motherLong mfar medits (upd medit (Int32.toNatClampNeg medits) ((((100 : Int32) * w5_9) + ((10 : Int32) * (v3 - (1 : Int32)))) + (v4 - (1 : Int32)))) mgroups) hC dX9_findsEdits_184 rfl rfl hj rfl ?_
                refine g_aload_n 185 4 hC dX9_findsEdits_185 rfl ?_
                refine g_dup 186 hC dX9_findsEdits_186 rfl ?_
                refine g_get 187 0 10 hC inlX9 wq_400 dX9_findsEdits_187 rfl rfl (by decide) rfl ?_
                refine g_iconst (v := (1 : Int32)) 190 hC dX9_findsEdits_190 (by decide) ?_
                refine g_iadd 191 hC dX9_findsEdits_191 ?_
                refine g_put 192 0 10 (Wd_X9_findsEdits cI cS cT ad b0 mnow mundoMany mtokens mone mother moneLong motherLong mfar (medits + (1 : Int32)) (upd medit (Int32.toNatClampNeg medits) ((((100 : Int32) * w5_9) + ((10 : Int32) * (v3 - (1 : Int32)))) + (v4 - (1 : Int32)))) mgroups) hC inlX9 tyX9_ok nmX9 wq_400 dX9_findsEdits_192 rfl rfl (by decide) rfl rfl (Nat.le_of_ble_eq_true rfl) rfl ?_
                refine g_goto 195 23 hC dX9_findsEdits_195 (by decide) ?_
                refine G.sub [0, 1, 4, 5, 6] rfl ?_
                exact ih _ _ _ _ h
              · replace h := h.2 hc
                refine g_iconst (v := (2 : Int32)) 150 hC dX9_findsEdits_150 (by decide) ?_
                refine g_goto 151 155 hC dX9_findsEdits_151 (by decide) ?_
                refine g_isub 155 hC dX9_findsEdits_155 ?_
                refine g_istore 156 [(4, .int (v4 - (2 : Int32))), (3, .int (v3 - (1 : Int32))), (6, .int (0 : Int32)), (5, .int w5_9), (0, .ref (ad b0)), (1, .int v1), (2, .int v2)] hC dX9_findsEdits_156 (by rw [hn]; decide) rfl ?_
                refine g_iload 158 2 hC dX9_findsEdits_158 rfl ?_
                refine g_if_ne 160 195 hC dX9_findsEdits_160 (by decide) (fun hc => absurd hc (by decide)) (fun _ => ?_)
                refine g_aload_n 163 4 hC dX9_findsEdits_163 rfl ?_
                refine g_get 164 0 11 hC inlX9 wq_110 dX9_findsEdits_164 rfl rfl (by decide) rfl ?_
                refine g_aload_n 167 4 hC dX9_findsEdits_167 rfl ?_
                refine g_get 168 0 10 hC inlX9 wq_400 dX9_findsEdits_168 rfl rfl (by decide) rfl ?_
                refine g_bipush (v := (100 : Int32)) 171 hC dX9_findsEdits_171 (by decide) ?_
                refine g_iload 173 3 hC dX9_findsEdits_173 rfl ?_
                refine g_imul 175 hC dX9_findsEdits_175 ?_
                refine g_bipush (v := (10 : Int32)) 176 hC dX9_findsEdits_176 (by decide) ?_
                refine g_iload_n 178 1 hC dX9_findsEdits_178 rfl ?_
                refine g_imul 179 hC dX9_findsEdits_179 ?_
                refine g_iadd 180 hC dX9_findsEdits_180 ?_
                refine g_iload 181 0 hC dX9_findsEdits_181 rfl ?_
                refine g_iadd 183 hC dX9_findsEdits_183 ?_
                obtain ⟨hj, h⟩ := h
                refine g_iast 184 5 (Wd_X9_findsEdits cI cS cT ad b0 mnow mundoMany mtokens mone mother moneLong motherLong mfar medits (upd medit (Int32.toNatClampNeg medits) ((((100 : Int32) * w5_9) + ((10 : Int32) * (v3 - (1 : Int32)))) + (v4 - (2 : Int32)))) mgroups) hC dX9_findsEdits_184 rfl rfl hj rfl ?_
                refine g_aload_n 185 4 hC dX9_findsEdits_185 rfl ?_
                refine g_dup 186 hC dX9_findsEdits_186 rfl ?_
                refine g_get 187 0 10 hC inlX9 wq_400 dX9_findsEdits_187 rfl rfl (by decide) rfl ?_
                refine g_iconst (v := (1 : Int32)) 190 hC dX9_findsEdits_190 (by decide) ?_
                refine g_iadd 191 hC dX9_findsEdits_191 ?_
                refine g_put 192 0 10 (Wd_X9_findsEdits cI cS cT ad b0 mnow mundoMany mtokens mone mother moneLong motherLong mfar (medits + (1 : Int32)) (upd medit (Int32.toNatClampNeg medits) ((((100 : Int32) * w5_9) + ((10 : Int32) * (v3 - (1 : Int32)))) + (v4 - (2 : Int32)))) mgroups) hC inlX9 tyX9_ok nmX9 wq_400 dX9_findsEdits_192 rfl rfl (by decide) rfl rfl (Nat.le_of_ble_eq_true rfl) rfl ?_
                refine g_goto 195 23 hC dX9_findsEdits_195 (by decide) ?_
                refine G.sub [0, 1, 4, 5, 6] rfl ?_
                exact ih _ _ _ _ h
            · replace h := h.2 hc
              refine g_iconst (v := (0 : Int32)) 140 hC dX9_findsEdits_140 (by decide) ?_
              refine g_goto 141 155 hC dX9_findsEdits_141 (by decide) ?_
              refine g_isub 155 hC dX9_findsEdits_155 ?_
              refine g_istore 156 [(4, .int (v4 - (0 : Int32))), (3, .int (v3 - (1 : Int32))), (6, .int (0 : Int32)), (5, .int w5_9), (0, .ref (ad b0)), (1, .int v1), (2, .int v2)] hC dX9_findsEdits_156 (by rw [hn]; decide) rfl ?_
              refine g_iload 158 2 hC dX9_findsEdits_158 rfl ?_
              refine g_if_ne 160 195 hC dX9_findsEdits_160 (by decide) (fun hc => absurd hc (by decide)) (fun _ => ?_)
              refine g_aload_n 163 4 hC dX9_findsEdits_163 rfl ?_
              refine g_get 164 0 11 hC inlX9 wq_110 dX9_findsEdits_164 rfl rfl (by decide) rfl ?_
              refine g_aload_n 167 4 hC dX9_findsEdits_167 rfl ?_
              refine g_get 168 0 10 hC inlX9 wq_400 dX9_findsEdits_168 rfl rfl (by decide) rfl ?_
              refine g_bipush (v := (100 : Int32)) 171 hC dX9_findsEdits_171 (by decide) ?_
              refine g_iload 173 3 hC dX9_findsEdits_173 rfl ?_
              refine g_imul 175 hC dX9_findsEdits_175 ?_
              refine g_bipush (v := (10 : Int32)) 176 hC dX9_findsEdits_176 (by decide) ?_
              refine g_iload_n 178 1 hC dX9_findsEdits_178 rfl ?_
              refine g_imul 179 hC dX9_findsEdits_179 ?_
              refine g_iadd 180 hC dX9_findsEdits_180 ?_
              refine g_iload 181 0 hC dX9_findsEdits_181 rfl ?_
              refine g_iadd 183 hC dX9_findsEdits_183 ?_
              obtain ⟨hj, h⟩ := h
              refine g_iast 184 5 (Wd_X9_findsEdits cI cS cT ad b0 mnow mundoMany mtokens mone mother moneLong motherLong mfar medits (upd medit (Int32.toNatClampNeg medits) ((((100 : Int32) * w5_9) + ((10 : Int32) * (v3 - (1 : Int32)))) + (v4 - (0 : Int32)))) mgroups) hC dX9_findsEdits_184 rfl rfl hj rfl ?_
              refine g_aload_n 185 4 hC dX9_findsEdits_185 rfl ?_
              refine g_dup 186 hC dX9_findsEdits_186 rfl ?_
              refine g_get 187 0 10 hC inlX9 wq_400 dX9_findsEdits_187 rfl rfl (by decide) rfl ?_
              refine g_iconst (v := (1 : Int32)) 190 hC dX9_findsEdits_190 (by decide) ?_
              refine g_iadd 191 hC dX9_findsEdits_191 ?_
              refine g_put 192 0 10 (Wd_X9_findsEdits cI cS cT ad b0 mnow mundoMany mtokens mone mother moneLong motherLong mfar (medits + (1 : Int32)) (upd medit (Int32.toNatClampNeg medits) ((((100 : Int32) * w5_9) + ((10 : Int32) * (v3 - (1 : Int32)))) + (v4 - (0 : Int32)))) mgroups) hC inlX9 tyX9_ok nmX9 wq_400 dX9_findsEdits_192 rfl rfl (by decide) rfl rfl (Nat.le_of_ble_eq_true rfl) rfl ?_
              refine g_goto 195 23 hC dX9_findsEdits_195 (by decide) ?_
              refine G.sub [0, 1, 4, 5, 6] rfl ?_
              exact ih _ _ _ _ h
          · replace h := h.2 hc
            refine g_iconst (v := (2 : Int32)) 125 hC dX9_findsEdits_125 (by decide) ?_
            refine g_goto 126 130 hC dX9_findsEdits_126 (by decide) ?_
            refine g_isub 130 hC dX9_findsEdits_130 ?_
            refine g_istore_n 131 [(3, .int (v3 - (2 : Int32))), (6, .int (0 : Int32)), (5, .int w5_9), (4, .int v4), (0, .ref (ad b0)), (1, .int v1), (2, .int v2)] hC dX9_findsEdits_131 (by rw [hn]; decide) rfl ?_
            refine g_iload 132 3 hC dX9_findsEdits_132 rfl ?_
            refine g_iload 134 2 hC dX9_findsEdits_134 rfl ?_
            refine g_iconst (v := (2 : Int32)) 136 hC dX9_findsEdits_136 (by decide) ?_
            refine g_icmp_ne 137 144 hC dX9_findsEdits_137 (by decide) (fun hc => ?_) (fun hc => ?_)
            · replace h := h.1 hc
              refine g_iload 144 2 hC dX9_findsEdits_144 rfl ?_
              refine g_iconst (v := (4 : Int32)) 146 hC dX9_findsEdits_146 (by decide) ?_
              refine g_icmp_ne 147 154 hC dX9_findsEdits_147 (by decide) (fun hc => ?_) (fun hc => ?_)
              · replace h := h.1 hc
                refine g_iconst (v := (1 : Int32)) 154 hC dX9_findsEdits_154 (by decide) ?_
                refine g_isub 155 hC dX9_findsEdits_155 ?_
                refine g_istore 156 [(4, .int (v4 - (1 : Int32))), (3, .int (v3 - (2 : Int32))), (6, .int (0 : Int32)), (5, .int w5_9), (0, .ref (ad b0)), (1, .int v1), (2, .int v2)] hC dX9_findsEdits_156 (by rw [hn]; decide) rfl ?_
                refine g_iload 158 2 hC dX9_findsEdits_158 rfl ?_
                refine g_if_ne 160 195 hC dX9_findsEdits_160 (by decide) (fun hc => absurd hc (by decide)) (fun _ => ?_)
                refine g_aload_n 163 4 hC dX9_findsEdits_163 rfl ?_
                refine g_get 164 0 11 hC inlX9 wq_110 dX9_findsEdits_164 rfl rfl (by decide) rfl ?_
                refine g_aload_n 167 4 hC dX9_findsEdits_167 rfl ?_
                refine g_get 168 0 10 hC inlX9 wq_400 dX9_findsEdits_168 rfl rfl (by decide) rfl ?_
                refine g_bipush (v := (100 : Int32)) 171 hC dX9_findsEdits_171 (by decide) ?_
                refine g_iload 173 3 hC dX9_findsEdits_173 rfl ?_
                refine g_imul 175 hC dX9_findsEdits_175 ?_
                refine g_bipush (v := (10 : Int32)) 176 hC dX9_findsEdits_176 (by decide) ?_
                refine g_iload_n 178 1 hC dX9_findsEdits_178 rfl ?_
                refine g_imul 179 hC dX9_findsEdits_179 ?_
                refine g_iadd 180 hC dX9_findsEdits_180 ?_
                refine g_iload 181 0 hC dX9_findsEdits_181 rfl ?_
                refine g_iadd 183 hC dX9_findsEdits_183 ?_
                obtain ⟨hj, h⟩ := h
                refine g_iast 184 5 (Wd_X9_findsEdits cI cS cT ad b0 mnow mundoMany mtokens mone mother moneLong motherLong mfar medits (upd medit (Int32.toNatClampNeg medits) ((((100 : Int32) * w5_9) + ((10 : Int32) * (v3 - (2 : Int32)))) + (v4 - (1 : Int32)))) mgroups) hC dX9_findsEdits_184 rfl rfl hj rfl ?_
                refine g_aload_n 185 4 hC dX9_findsEdits_185 rfl ?_
                refine g_dup 186 hC dX9_findsEdits_186 rfl ?_
                refine g_get 187 0 10 hC inlX9 wq_400 dX9_findsEdits_187 rfl rfl (by decide) rfl ?_
                refine g_iconst (v := (1 : Int32)) 190 hC dX9_findsEdits_190 (by decide) ?_
                refine g_iadd 191 hC dX9_findsEdits_191 ?_
                refine g_put 192 0 10 (Wd_X9_findsEdits cI cS cT ad b0 mnow mundoMany mtokens mone mother moneLong motherLong mfar (medits + (1 : Int32)) (upd medit (Int32.toNatClampNeg medits) ((((100 : Int32) * w5_9) + ((10 : Int32) * (v3 - (2 : Int32)))) + (v4 - (1 : Int32)))) mgroups) hC inlX9 tyX9_ok nmX9 wq_400 dX9_findsEdits_192 rfl rfl (by decide) rfl rfl (Nat.le_of_ble_eq_true rfl) rfl ?_
                refine g_goto 195 23 hC dX9_findsEdits_195 (by decide) ?_
                refine G.sub [0, 1, 4, 5, 6] rfl ?_
                exact ih _ _ _ _ h
              · replace h := h.2 hc
                refine g_iconst (v := (2 : Int32)) 150 hC dX9_findsEdits_150 (by decide) ?_
                refine g_goto 151 155 hC dX9_findsEdits_151 (by decide) ?_
                refine g_isub 155 hC dX9_findsEdits_155 ?_
                refine g_istore 156 [(4, .int (v4 - (2 : Int32))), (3, .int (v3 - (2 : Int32))), (6, .int (0 : Int32)), (5, .int w5_9), (0, .ref (ad b0)), (1, .int v1), (2, .int v2)] hC dX9_findsEdits_156 (by rw [hn]; decide) rfl ?_
                refine g_iload 158 2 hC dX9_findsEdits_158 rfl ?_
                refine g_if_ne 160 195 hC dX9_findsEdits_160 (by decide) (fun hc => absurd hc (by decide)) (fun _ => ?_)
                refine g_aload_n 163 4 hC dX9_findsEdits_163 rfl ?_
                refine g_get 164 0 11 hC inlX9 wq_110 dX9_findsEdits_164 rfl rfl (by decide) rfl ?_
                refine g_aload_n 167 4 hC dX9_findsEdits_167 rfl ?_
                refine g_get 168 0 10 hC inlX9 wq_400 dX9_findsEdits_168 rfl rfl (by decide) rfl ?_
                refine g_bipush (v := (100 : Int32)) 171 hC dX9_findsEdits_171 (by decide) ?_
                refine g_iload 173 3 hC dX9_findsEdits_173 rfl ?_
                refine g_imul 175 hC dX9_findsEdits_175 ?_
                refine g_bipush (v := (10 : Int32)) 176 hC dX9_findsEdits_176 (by decide) ?_
                refine g_iload_n 178 1 hC dX9_findsEdits_178 rfl ?_
                refine g_imul 179 hC dX9_findsEdits_179 ?_
                refine g_iadd 180 hC dX9_findsEdits_180 ?_
                refine g_iload 181 0 hC dX9_findsEdits_181 rfl ?_
                refine g_iadd 183 hC dX9_findsEdits_183 ?_
                obtain ⟨hj, h⟩ := h
                refine g_iast 184 5 (Wd_X9_findsEdits cI cS cT ad b0 mnow mundoMany mtokens mone mother moneLong motherLong mfar medits (upd medit (Int32.toNatClampNeg medits) ((((100 : Int32) * w5_9) + ((10 : Int32) * (v3 - (2 : Int32)))) + (v4 - (2 : Int32)))) mgroups) hC dX9_findsEdits_184 rfl rfl hj rfl ?_
                refine g_aload_n 185 4 hC dX9_findsEdits_185 rfl ?_
                refine g_dup 186 hC dX9_findsEdits_186 rfl ?_
                refine g_get 187 0 10 hC inlX9 wq_400 dX9_findsEdits_187 rfl rfl (by decide) rfl ?_
                refine g_iconst (v := (1 : Int32)) 190 hC dX9_findsEdits_190 (by decide) ?_
                refine g_iadd 191 hC dX9_findsEdits_191 ?_
                refine g_put 192 0 10 (Wd_X9_findsEdits cI cS cT ad b0 mnow mundoMany mtokens mone mother moneLong motherLong mfar (medits + (1 : Int32)) (upd medit (Int32.toNatClampNeg medits) ((((100 : Int32) * w5_9) + ((10 : Int32) * (v3 - (2 : Int32)))) + (v4 - (2 : Int32)))) mgroups) hC inlX9 tyX9_ok nmX9 wq_400 dX9_findsEdits_192 rfl rfl (by decide) rfl rfl (Nat.le_of_ble_eq_true rfl) rfl ?_
                refine g_goto 195 23 hC dX9_findsEdits_195 (by decide) ?_
                refine G.sub [0, 1, 4, 5, 6] rfl ?_
                exact ih _ _ _ _ h
            · replace h := h.2 hc
              refine g_iconst (v := (0 : Int32)) 140 hC dX9_findsEdits_140 (by decide) ?_
              refine g_goto 141 155 hC dX9_findsEdits_141 (by decide) ?_
              refine g_isub 155 hC dX9_findsEdits_155 ?_
              refine g_istore 156 [(4, .int (v4 - (0 : Int32))), (3, .int (v3 - (2 : Int32))), (6, .int (0 : Int32)), (5, .int w5_9), (0, .ref (ad b0)), (1, .int v1), (2, .int v2)] hC dX9_findsEdits_156 (by rw [hn]; decide) rfl ?_
              refine g_iload 158 2 hC dX9_findsEdits_158 rfl ?_
              refine g_if_ne 160 195 hC dX9_findsEdits_160 (by decide) (fun hc => absurd hc (by decide)) (fun _ => ?_)
              refine g_aload_n 163 4 hC dX9_findsEdits_163 rfl ?_
              refine g_get 164 0 11 hC inlX9 wq_110 dX9_findsEdits_164 rfl rfl (by decide) rfl ?_
              refine g_aload_n 167 4 hC dX9_findsEdits_167 rfl ?_
              refine g_get 168 0 10 hC inlX9 wq_400 dX9_findsEdits_168 rfl rfl (by decide) rfl ?_
              refine g_bipush (v := (100 : Int32)) 171 hC dX9_findsEdits_171 (by decide) ?_
              refine g_iload 173 3 hC dX9_findsEdits_173 rfl ?_
              refine g_imul 175 hC dX9_findsEdits_175 ?_
              refine g_bipush (v := (10 : Int32)) 176 hC dX9_findsEdits_176 (by decide) ?_
              refine g_iload_n 178 1 hC dX9_findsEdits_178 rfl ?_
              refine g_imul 179 hC dX9_findsEdits_179 ?_
              refine g_iadd 180 hC dX9_findsEdits_180 ?_
              refine g_iload 181 0 hC dX9_findsEdits_181 rfl ?_
              refine g_iadd 183 hC dX9_findsEdits_183 ?_
              obtain ⟨hj, h⟩ := h
              refine g_iast 184 5 (Wd_X9_findsEdits cI cS cT ad b0 mnow mundoMany mtokens mone mother moneLong motherLong mfar medits (upd medit (Int32.toNatClampNeg medits) ((((100 : Int32) * w5_9) + ((10 : Int32) * (v3 - (2 : Int32)))) + (v4 - (0 : Int32)))) mgroups) hC dX9_findsEdits_184 rfl rfl hj rfl ?_
              refine g_aload_n 185 4 hC dX9_findsEdits_185 rfl ?_
              refine g_dup 186 hC dX9_findsEdits_186 rfl ?_
              refine g_get 187 0 10 hC inlX9 wq_400 dX9_findsEdits_187 rfl rfl (by decide) rfl ?_
              refine g_iconst (v := (1 : Int32)) 190 hC dX9_findsEdits_190 (by decide) ?_
              refine g_iadd 191 hC dX9_findsEdits_191 ?_
              refine g_put 192 0 10 (Wd_X9_findsEdits cI cS cT ad b0 mnow mundoMany mtokens mone mother moneLong motherLong mfar (medits + (1 : Int32)) (upd medit (Int32.toNatClampNeg medits) ((((100 : Int32) * w5_9) + ((10 : Int32) * (v3 - (2 : Int32)))) + (v4 - (0 : Int32)))) mgroups) hC inlX9 tyX9_ok nmX9 wq_400 dX9_findsEdits_192 rfl rfl (by decide) rfl rfl (Nat.le_of_ble_eq_true rfl) rfl ?_
              refine g_goto 195 23 hC dX9_findsEdits_195 (by decide) ?_
              refine G.sub [0, 1, 4, 5, 6] rfl ?_
              exact ih _ _ _ _ h
        · replace h := h.2 hc
          refine g_iconst (v := (0 : Int32)) 115 hC dX9_findsEdits_115 (by decide) ?_
          refine g_goto 116 130 hC dX9_findsEdits_116 (by decide) ?_
          refine g_isub 130 hC dX9_findsEdits_130 ?_
          refine g_istore_n 131 [(3, .int (v3 - (0 : Int32))), (6, .int (0 : Int32)), (5, .int w5_9), (4, .int v4), (0, .ref (ad b0)), (1, .int v1), (2, .int v2)] hC dX9_findsEdits_131 (by rw [hn]; decide) rfl ?_
          refine g_iload 132 3 hC dX9_findsEdits_132 rfl ?_
          refine g_iload 134 2 hC dX9_findsEdits_134 rfl ?_
          refine g_iconst (v := (2 : Int32)) 136 hC dX9_findsEdits_136 (by decide) ?_
          refine g_icmp_ne 137 144 hC dX9_findsEdits_137 (by decide) (fun hc => ?_) (fun hc => ?_)
          · replace h := h.1 hc
            refine g_iload 144 2 hC dX9_findsEdits_144 rfl ?_
            refine g_iconst (v := (4 : Int32)) 146 hC dX9_findsEdits_146 (by decide) ?_
            refine g_icmp_ne 147 154 hC dX9_findsEdits_147 (by decide) (fun hc => ?_) (fun hc => ?_)
            · replace h := h.1 hc
              refine g_iconst (v := (1 : Int32)) 154 hC dX9_findsEdits_154 (by decide) ?_
              refine g_isub 155 hC dX9_findsEdits_155 ?_
              refine g_istore 156 [(4, .int (v4 - (1 : Int32))), (3, .int (v3 - (0 : Int32))), (6, .int (0 : Int32)), (5, .int w5_9), (0, .ref (ad b0)), (1, .int v1), (2, .int v2)] hC dX9_findsEdits_156 (by rw [hn]; decide) rfl ?_
              refine g_iload 158 2 hC dX9_findsEdits_158 rfl ?_
              refine g_if_ne 160 195 hC dX9_findsEdits_160 (by decide) (fun hc => absurd hc (by decide)) (fun _ => ?_)
              refine g_aload_n 163 4 hC dX9_findsEdits_163 rfl ?_
              refine g_get 164 0 11 hC inlX9 wq_110 dX9_findsEdits_164 rfl rfl (by decide) rfl ?_
              refine g_aload_n 167 4 hC dX9_findsEdits_167 rfl ?_
              refine g_get 168 0 10 hC inlX9 wq_400 dX9_findsEdits_168 rfl rfl (by decide) rfl ?_
              refine g_bipush (v := (100 : Int32)) 171 hC dX9_findsEdits_171 (by decide) ?_
              refine g_iload 173 3 hC dX9_findsEdits_173 rfl ?_
              refine g_imul 175 hC dX9_findsEdits_175 ?_
              refine g_bipush (v := (10 : Int32)) 176 hC dX9_findsEdits_176 (by decide) ?_
              refine g_iload_n 178 1 hC dX9_findsEdits_178 rfl ?_
              refine g_imul 179 hC dX9_findsEdits_179 ?_
              refine g_iadd 180 hC dX9_findsEdits_180 ?_
              refine g_iload 181 0 hC dX9_findsEdits_181 rfl ?_
              refine g_iadd 183 hC dX9_findsEdits_183 ?_
              obtain ⟨hj, h⟩ := h
              refine g_iast 184 5 (Wd_X9_findsEdits cI cS cT ad b0 mnow mundoMany mtokens mone mother moneLong motherLong mfar medits (upd medit (Int32.toNatClampNeg medits) ((((100 : Int32) * w5_9) + ((10 : Int32) * (v3 - (0 : Int32)))) + (v4 - (1 : Int32)))) mgroups) hC dX9_findsEdits_184 rfl rfl hj rfl ?_
              refine g_aload_n 185 4 hC dX9_findsEdits_185 rfl ?_
              refine g_dup 186 hC dX9_findsEdits_186 rfl ?_
              refine g_get 187 0 10 hC inlX9 wq_400 dX9_findsEdits_187 rfl rfl (by decide) rfl ?_
              refine g_iconst (v := (1 : Int32)) 190 hC dX9_findsEdits_190 (by decide) ?_
              refine g_iadd 191 hC dX9_findsEdits_191 ?_
              refine g_put 192 0 10 (Wd_X9_findsEdits cI cS cT ad b0 mnow mundoMany mtokens mone mother moneLong motherLong mfar (medits + (1 : Int32)) (upd medit (Int32.toNatClampNeg medits) ((((100 : Int32) * w5_9) + ((10 : Int32) * (v3 - (0 : Int32)))) + (v4 - (1 : Int32)))) mgroups) hC inlX9 tyX9_ok nmX9 wq_400 dX9_findsEdits_192 rfl rfl (by decide) rfl rfl (Nat.le_of_ble_eq_true rfl) rfl ?_
              refine g_goto 195 23 hC dX9_findsEdits_195 (by decide) ?_
              refine G.sub [0, 1, 4, 5, 6] rfl ?_
              exact ih _ _ _ _ h
            · replace h := h.2 hc
              refine g_iconst (v := (2 : Int32)) 150 hC dX9_findsEdits_150 (by decide) ?_
              refine g_goto 151 155 hC dX9_findsEdits_151 (by decide) ?_
              refine g_isub 155 hC dX9_findsEdits_155 ?_
              refine g_istore 156 [(4, .int (v4 - (2 : Int32))), (3, .int (v3 - (0 : Int32))), (6, .int (0 : Int32)), (5, .int w5_9), (0, .ref (ad b0)), (1, .int v1), (2, .int v2)] hC dX9_findsEdits_156 (by rw [hn]; decide) rfl ?_
              refine g_iload 158 2 hC dX9_findsEdits_158 rfl ?_
              refine g_if_ne 160 195 hC dX9_findsEdits_160 (by decide) (fun hc => absurd hc (by decide)) (fun _ => ?_)
              refine g_aload_n 163 4 hC dX9_findsEdits_163 rfl ?_
              refine g_get 164 0 11 hC inlX9 wq_110 dX9_findsEdits_164 rfl rfl (by decide) rfl ?_
              refine g_aload_n 167 4 hC dX9_findsEdits_167 rfl ?_
              refine g_get 168 0 10 hC inlX9 wq_400 dX9_findsEdits_168 rfl rfl (by decide) rfl ?_
              refine g_bipush (v := (100 : Int32)) 171 hC dX9_findsEdits_171 (by decide) ?_
              refine g_iload 173 3 hC dX9_findsEdits_173 rfl ?_
              refine g_imul 175 hC dX9_findsEdits_175 ?_
              refine g_bipush (v := (10 : Int32)) 176 hC dX9_findsEdits_176 (by decide) ?_
              refine g_iload_n 178 1 hC dX9_findsEdits_178 rfl ?_
              refine g_imul 179 hC dX9_findsEdits_179 ?_
              refine g_iadd 180 hC dX9_findsEdits_180 ?_
              refine g_iload 181 0 hC dX9_findsEdits_181 rfl ?_
              refine g_iadd 183 hC dX9_findsEdits_183 ?_
              obtain ⟨hj, h⟩ := h
              refine g_iast 184 5 (Wd_X9_findsEdits cI cS cT ad b0 mnow mundoMany mtokens mone mother moneLong motherLong mfar medits (upd medit (Int32.toNatClampNeg medits) ((((100 : Int32) * w5_9) + ((10 : Int32) * (v3 - (0 : Int32)))) + (v4 - (2 : Int32)))) mgroups) hC dX9_findsEdits_184 rfl rfl hj rfl ?_
              refine g_aload_n 185 4 hC dX9_findsEdits_185 rfl ?_
              refine g_dup 186 hC dX9_findsEdits_186 rfl ?_
              refine g_get 187 0 10 hC inlX9 wq_400 dX9_findsEdits_187 rfl rfl (by decide) rfl ?_
              refine g_iconst (v := (1 : Int32)) 190 hC dX9_findsEdits_190 (by decide) ?_
              refine g_iadd 191 hC dX9_findsEdits_191 ?_
              refine g_put 192 0 10 (Wd_X9_findsEdits cI cS cT ad b0 mnow mundoMany mtokens mone mother moneLong motherLong mfar (medits + (1 : Int32)) (upd medit (Int32.toNatClampNeg medits) ((((100 : Int32) * w5_9) + ((10 : Int32) * (v3 - (0 : Int32)))) + (v4 - (2 : Int32)))) mgroups) hC inlX9 tyX9_ok nmX9 wq_400 dX9_findsEdits_192 rfl rfl (by decide) rfl rfl (Nat.le_of_ble_eq_true rfl) rfl ?_
              refine g_goto 195 23 hC dX9_findsEdits_195 (by decide) ?_
              refine G.sub [0, 1, 4, 5, 6] rfl ?_
              exact ih _ _ _ _ h
          · replace h := h.2 hc
            refine g_iconst (v := (0 : Int32)) 140 hC dX9_findsEdits_140 (by decide) ?_
            refine g_goto 141 155 hC dX9_findsEdits_141 (by decide) ?_
            refine g_isub 155 hC dX9_findsEdits_155 ?_
            refine g_istore 156 [(4, .int (v4 - (0 : Int32))), (3, .int (v3 - (0 : Int32))), (6, .int (0 : Int32)), (5, .int w5_9), (0, .ref (ad b0)), (1, .int v1), (2, .int v2)] hC dX9_findsEdits_156 (by rw [hn]; decide) rfl ?_
            refine g_iload 158 2 hC dX9_findsEdits_158 rfl ?_
            refine g_if_ne 160 195 hC dX9_findsEdits_160 (by decide) (fun hc => absurd hc (by decide)) (fun _ => ?_)
            refine g_aload_n 163 4 hC dX9_findsEdits_163 rfl ?_
            refine g_get 164 0 11 hC inlX9 wq_110 dX9_findsEdits_164 rfl rfl (by decide) rfl ?_
            refine g_aload_n 167 4 hC dX9_findsEdits_167 rfl ?_
            refine g_get 168 0 10 hC inlX9 wq_400 dX9_findsEdits_168 rfl rfl (by decide) rfl ?_
            refine g_bipush (v := (100 : Int32)) 171 hC dX9_findsEdits_171 (by decide) ?_
            refine g_iload 173 3 hC dX9_findsEdits_173 rfl ?_
            refine g_imul 175 hC dX9_findsEdits_175 ?_
            refine g_bipush (v := (10 : Int32)) 176 hC dX9_findsEdits_176 (by decide) ?_
            refine g_iload_n 178 1 hC dX9_findsEdits_178 rfl ?_
            refine g_imul 179 hC dX9_findsEdits_179 ?_
            refine g_iadd 180 hC dX9_findsEdits_180 ?_
            refine g_iload 181 0 hC dX9_findsEdits_181 rfl ?_
            refine g_iadd 183 hC dX9_findsEdits_183 ?_
            obtain ⟨hj, h⟩ := h
            refine g_iast 184 5 (Wd_X9_findsEdits cI cS cT ad b0 mnow mundoMany mtokens mone mother moneLong motherLong mfar medits (upd medit (Int32.toNatClampNeg medits) ((((100 : Int32) * w5_9) + ((10 : Int32) * (v3 - (0 : Int32)))) + (v4 - (0 : Int32)))) mgroups) hC dX9_findsEdits_184 rfl rfl hj rfl ?_
            refine g_aload_n 185 4 hC dX9_findsEdits_185 rfl ?_
            refine g_dup 186 hC dX9_findsEdits_186 rfl ?_
            refine g_get 187 0 10 hC inlX9 wq_400 dX9_findsEdits_187 rfl rfl (by decide) rfl ?_
            refine g_iconst (v := (1 : Int32)) 190 hC dX9_findsEdits_190 (by decide) ?_
            refine g_iadd 191 hC dX9_findsEdits_191 ?_
            refine g_put 192 0 10 (Wd_X9_findsEdits cI cS cT ad b0 mnow mundoMany mtokens mone mother moneLong motherLong mfar (medits + (1 : Int32)) (upd medit (Int32.toNatClampNeg medits) ((((100 : Int32) * w5_9) + ((10 : Int32) * (v3 - (0 : Int32)))) + (v4 - (0 : Int32)))) mgroups) hC inlX9 tyX9_ok nmX9 wq_400 dX9_findsEdits_192 rfl rfl (by decide) rfl rfl (Nat.le_of_ble_eq_true rfl) rfl ?_
            refine g_goto 195 23 hC dX9_findsEdits_195 (by decide) ?_
            refine G.sub [0, 1, 4, 5, 6] rfl ?_
            exact ih _ _ _ _ h
      · replace h := h.2 hc
        refine g_aload_n 81 3 hC dX9_findsEdits_81 rfl ?_
        refine g_get 82 0 5 hC inlX9 wq_107 dX9_findsEdits_82 rfl rfl (by decide) rfl ?_
        refine g_iload_n 85 2 hC dX9_findsEdits_85 rfl ?_
        refine g_iconst (v := (1 : Int32)) 86 hC dX9_findsEdits_86 (by decide) ?_
        refine g_isub 87 hC dX9_findsEdits_87 ?_
        obtain ⟨hj, h⟩ := h
        refine g_iald 88 2 hC dX9_findsEdits_88 rfl rfl hj ?_
        refine g_aload_n 89 3 hC dX9_findsEdits_89 rfl ?_
        refine g_get 90 0 6 hC inlX9 wq_108 dX9_findsEdits_90 rfl rfl (by decide) rfl ?_
        refine g_iload 93 1 hC dX9_findsEdits_93 rfl ?_
        refine g_iconst (v := (1 : Int32)) 95 hC dX9_findsEdits_95 (by decide) ?_
        refine g_isub 96 hC dX9_findsEdits_96 ?_
        obtain ⟨hj, h⟩ := h
        refine g_iald 97 3 hC dX9_findsEdits_97 rfl rfl hj ?_
        refine g_icmp_ne 98 105 hC dX9_findsEdits_98 (by decide) (fun hc => ?_) (fun hc => ?_)
        · replace h := h.1 hc
          refine g_iconst (v := (0 : Int32)) 105 hC dX9_findsEdits_105 (by decide) ?_
          refine g_istore 106 [(6, .int (0 : Int32)), (5, .int w5_9), (4, .int v4), (3, .int v3), (0, .ref (ad b0)), (1, .int v1), (2, .int v2)] hC dX9_findsEdits_106 (by rw [hn]; decide) rfl ?_
          refine g_iload_n 108 3 hC dX9_findsEdits_108 rfl ?_
          refine g_iload 109 1 hC dX9_findsEdits_109 rfl ?_
          refine g_iconst (v := (3 : Int32)) 111 hC dX9_findsEdits_111 (by decide) ?_
          refine g_icmp_ne 112 119 hC dX9_findsEdits_112 (by decide) (fun hc => ?_) (fun hc => ?_)
          · replace h := h.1 hc
            refine g_iload 119 1 hC dX9_findsEdits_119 rfl ?_
            refine g_iconst (v := (4 : Int32)) 121 hC dX9_findsEdits_121 (by decide) ?_
            refine g_icmp_ne 122 129 hC dX9_findsEdits_122 (by decide) (fun hc => ?_) (fun hc => ?_)
            · replace h := h.1 hc
              refine g_iconst (v := (1 : Int32)) 129 hC dX9_findsEdits_129 (by decide) ?_
              refine g_isub 130 hC dX9_findsEdits_130 ?_
              refine g_istore_n 131 [(3, .int (v3 - (1 : Int32))), (6, .int (0 : Int32)), (5, .int w5_9), (4, .int v4), (0, .ref (ad b0)), (1, .int v1), (2, .int v2)] hC dX9_findsEdits_131 (by rw [hn]; decide) rfl ?_
              refine g_iload 132 3 hC dX9_findsEdits_132 rfl ?_
              refine g_iload 134 2 hC dX9_findsEdits_134 rfl ?_
              refine g_iconst (v := (2 : Int32)) 136 hC dX9_findsEdits_136 (by decide) ?_
              refine g_icmp_ne 137 144 hC dX9_findsEdits_137 (by decide) (fun hc => ?_) (fun hc => ?_)
              · replace h := h.1 hc
                refine g_iload 144 2 hC dX9_findsEdits_144 rfl ?_
                refine g_iconst (v := (4 : Int32)) 146 hC dX9_findsEdits_146 (by decide) ?_
                refine g_icmp_ne 147 154 hC dX9_findsEdits_147 (by decide) (fun hc => ?_) (fun hc => ?_)
                · replace h := h.1 hc
                  refine g_iconst (v := (1 : Int32)) 154 hC dX9_findsEdits_154 (by decide) ?_
                  refine g_isub 155 hC dX9_findsEdits_155 ?_
                  refine g_istore 156 [(4, .int (v4 - (1 : Int32))), (3, .int (v3 - (1 : Int32))), (6, .int (0 : Int32)), (5, .int w5_9), (0, .ref (ad b0)), (1, .int v1), (2, .int v2)] hC dX9_findsEdits_156 (by rw [hn]; decide) rfl ?_
                  refine g_iload 158 2 hC dX9_findsEdits_158 rfl ?_
                  refine g_if_ne 160 195 hC dX9_findsEdits_160 (by decide) (fun hc => absurd hc (by decide)) (fun _ => ?_)
                  refine g_aload_n 163 4 hC dX9_findsEdits_163 rfl ?_
                  refine g_get 164 0 11 hC inlX9 wq_110 dX9_findsEdits_164 rfl rfl (by decide) rfl ?_
                  refine g_aload_n 167 4 hC dX9_findsEdits_167 rfl ?_
                  refine g_get 168 0 10 hC inlX9 wq_400 dX9_findsEdits_168 rfl rfl (by decide) rfl ?_
                  refine g_bipush (v := (100 : Int32)) 171 hC dX9_findsEdits_171 (by decide) ?_
                  refine g_iload 173 3 hC dX9_findsEdits_173 rfl ?_
                  refine g_imul 175 hC dX9_findsEdits_175 ?_
                  refine g_bipush (v := (10 : Int32)) 176 hC dX9_findsEdits_176 (by decide) ?_
                  refine g_iload_n 178 1 hC dX9_findsEdits_178 rfl ?_
                  refine g_imul 179 hC dX9_findsEdits_179 ?_
                  refine g_iadd 180 hC dX9_findsEdits_180 ?_
                  refine g_iload 181 0 hC dX9_findsEdits_181 rfl ?_
                  refine g_iadd 183 hC dX9_findsEdits_183 ?_
                  obtain ⟨hj, h⟩ := h
                  refine g_iast 184 5 (Wd_X9_findsEdits cI cS cT ad b0 mnow mundoMany mtokens mone mother moneLong motherLong mfar medits (upd medit (Int32.toNatClampNeg medits) ((((100 : Int32) * w5_9) + ((10 : Int32) * (v3 - (1 : Int32)))) + (v4 - (1 : Int32)))) mgroups) hC dX9_findsEdits_184 rfl rfl hj rfl ?_
                  refine g_aload_n 185 4 hC dX9_findsEdits_185 rfl ?_
                  refine g_dup 186 hC dX9_findsEdits_186 rfl ?_
                  refine g_get 187 0 10 hC inlX9 wq_400 dX9_findsEdits_187 rfl rfl (by decide) rfl ?_
                  refine g_iconst (v := (1 : Int32)) 190 hC dX9_findsEdits_190 (by decide) ?_
                  refine g_iadd 191 hC dX9_findsEdits_191 ?_
                  refine g_put 192 0 10 (Wd_X9_findsEdits cI cS cT ad b0 mnow mundoMany mtokens mone mother moneLong motherLong mfar (medits + (1 : Int32)) (upd medit (Int32.toNatClampNeg medits) ((((100 : Int32) * w5_9) + ((10 : Int32) * (v3 - (1 : Int32)))) + (v4 - (1 : Int32)))) mgroups) hC inlX9 tyX9_ok nmX9 wq_400 dX9_findsEdits_192 rfl rfl (by decide) rfl rfl (Nat.le_of_ble_eq_true rfl) rfl ?_
                  refine g_goto 195 23 hC dX9_findsEdits_195 (by decide) ?_
                  refine G.sub [0, 1, 4, 5, 6] rfl ?_
                  exact ih _ _ _ _ h
                · replace h := h.2 hc
                  refine g_iconst (v := (2 : Int32)) 150 hC dX9_findsEdits_150 (by decide) ?_
                  refine g_goto 151 155 hC dX9_findsEdits_151 (by decide) ?_
                  refine g_isub 155 hC dX9_findsEdits_155 ?_
                  refine g_istore 156 [(4, .int (v4 - (2 : Int32))), (3, .int (v3 - (1 : Int32))), (6, .int (0 : Int32)), (5, .int w5_9), (0, .ref (ad b0)), (1, .int v1), (2, .int v2)] hC dX9_findsEdits_156 (by rw [hn]; decide) rfl ?_
                  refine g_iload 158 2 hC dX9_findsEdits_158 rfl ?_
                  refine g_if_ne 160 195 hC dX9_findsEdits_160 (by decide) (fun hc => absurd hc (by decide)) (fun _ => ?_)
                  refine g_aload_n 163 4 hC dX9_findsEdits_163 rfl ?_
                  refine g_get 164 0 11 hC inlX9 wq_110 dX9_findsEdits_164 rfl rfl (by decide) rfl ?_
                  refine g_aload_n 167 4 hC dX9_findsEdits_167 rfl ?_
                  refine g_get 168 0 10 hC inlX9 wq_400 dX9_findsEdits_168 rfl rfl (by decide) rfl ?_
                  refine g_bipush (v := (100 : Int32)) 171 hC dX9_findsEdits_171 (by decide) ?_
                  refine g_iload 173 3 hC dX9_findsEdits_173 rfl ?_
                  refine g_imul 175 hC dX9_findsEdits_175 ?_
                  refine g_bipush (v := (10 : Int32)) 176 hC dX9_findsEdits_176 (by decide) ?_
                  refine g_iload_n 178 1 hC dX9_findsEdits_178 rfl ?_
                  refine g_imul 179 hC dX9_findsEdits_179 ?_
                  refine g_iadd 180 hC dX9_findsEdits_180 ?_
                  refine g_iload 181 0 hC dX9_findsEdits_181 rfl ?_
                  refine g_iadd 183 hC dX9_findsEdits_183 ?_
                  obtain ⟨hj, h⟩ := h
                  refine g_iast 184 5 (Wd_X9_findsEdits cI cS cT ad b0 mnow mundoMany mtokens mone mother moneLong motherLong mfar medits (upd medit (Int32.toNatClampNeg medits) ((((100 : Int32) * w5_9) + ((10 : Int32) * (v3 - (1 : Int32)))) + (v4 - (2 : Int32)))) mgroups) hC dX9_findsEdits_184 rfl rfl hj rfl ?_
                  refine g_aload_n 185 4 hC dX9_findsEdits_185 rfl ?_
                  refine g_dup 186 hC dX9_findsEdits_186 rfl ?_
                  refine g_get 187 0 10 hC inlX9 wq_400 dX9_findsEdits_187 rfl rfl (by decide) rfl ?_
                  refine g_iconst (v := (1 : Int32)) 190 hC dX9_findsEdits_190 (by decide) ?_
                  refine g_iadd 191 hC dX9_findsEdits_191 ?_
                  refine g_put 192 0 10 (Wd_X9_findsEdits cI cS cT ad b0 mnow mundoMany mtokens mone mother moneLong motherLong mfar (medits + (1 : Int32)) (upd medit (Int32.toNatClampNeg medits) ((((100 : Int32) * w5_9) + ((10 : Int32) * (v3 - (1 : Int32)))) + (v4 - (2 : Int32)))) mgroups) hC inlX9 tyX9_ok nmX9 wq_400 dX9_findsEdits_192 rfl rfl (by decide) rfl rfl (Nat.le_of_ble_eq_true rfl) rfl ?_
                  refine g_goto 195 23 hC dX9_findsEdits_195 (by decide) ?_
                  refine G.sub [0, 1, 4, 5, 6] rfl ?_
                  exact ih _ _ _ _ h
              · replace h := h.2 hc
                refine g_iconst (v := (0 : Int32)) 140 hC dX9_findsEdits_140 (by decide) ?_
                refine g_goto 141 155 hC dX9_findsEdits_141 (by decide) ?_
                refine g_isub 155 hC dX9_findsEdits_155 ?_
                refine g_istore 156 [(4, .int (v4 - (0 : Int32))), (3, .int (v3 - (1 : Int32))), (6, .int (0 : Int32)), (5, .int w5_9), (0, .ref (ad b0)), (1, .int v1), (2, .int v2)] hC dX9_findsEdits_156 (by rw [hn]; decide) rfl ?_
                refine g_iload 158 2 hC dX9_findsEdits_158 rfl ?_
                refine g_if_ne 160 195 hC dX9_findsEdits_160 (by decide) (fun hc => absurd hc (by decide)) (fun _ => ?_)
                refine g_aload_n 163 4 hC dX9_findsEdits_163 rfl ?_
                refine g_get 164 0 11 hC inlX9 wq_110 dX9_findsEdits_164 rfl rfl (by decide) rfl ?_
                refine g_aload_n 167 4 hC dX9_findsEdits_167 rfl ?_
                refine g_get 168 0 10 hC inlX9 wq_400 dX9_findsEdits_168 rfl rfl (by decide) rfl ?_
                refine g_bipush (v := (100 : Int32)) 171 hC dX9_findsEdits_171 (by decide) ?_
                refine g_iload 173 3 hC dX9_findsEdits_173 rfl ?_
                refine g_imul 175 hC dX9_findsEdits_175 ?_
                refine g_bipush (v := (10 : Int32)) 176 hC dX9_findsEdits_176 (by decide) ?_
                refine g_iload_n 178 1 hC dX9_findsEdits_178 rfl ?_
                refine g_imul 179 hC dX9_findsEdits_179 ?_
                refine g_iadd 180 hC dX9_findsEdits_180 ?_
                refine g_iload 181 0 hC dX9_findsEdits_181 rfl ?_
                refine g_iadd 183 hC dX9_findsEdits_183 ?_
                obtain ⟨hj, h⟩ := h
                refine g_iast 184 5 (Wd_X9_findsEdits cI cS cT ad b0 mnow mundoMany mtokens mone mother moneLong motherLong mfar medits (upd medit (Int32.toNatClampNeg medits) ((((100 : Int32) * w5_9) + ((10 : Int32) * (v3 - (1 : Int32)))) + (v4 - (0 : Int32)))) mgroups) hC dX9_findsEdits_184 rfl rfl hj rfl ?_
                refine g_aload_n 185 4 hC dX9_findsEdits_185 rfl ?_
                refine g_dup 186 hC dX9_findsEdits_186 rfl ?_
                refine g_get 187 0 10 hC inlX9 wq_400 dX9_findsEdits_187 rfl rfl (by decide) rfl ?_
                refine g_iconst (v := (1 : Int32)) 190 hC dX9_findsEdits_190 (by decide) ?_
                refine g_iadd 191 hC dX9_findsEdits_191 ?_
                refine g_put 192 0 10 (Wd_X9_findsEdits cI cS cT ad b0 mnow mundoMany mtokens mone mother moneLong motherLong mfar (medits + (1 : Int32)) (upd medit (Int32.toNatClampNeg medits) ((((100 : Int32) * w5_9) + ((10 : Int32) * (v3 - (1 : Int32)))) + (v4 - (0 : Int32)))) mgroups) hC inlX9 tyX9_ok nmX9 wq_400 dX9_findsEdits_192 rfl rfl (by decide) rfl rfl (Nat.le_of_ble_eq_true rfl) rfl ?_
                refine g_goto 195 23 hC dX9_findsEdits_195 (by decide) ?_
                refine G.sub [0, 1, 4, 5, 6] rfl ?_
                exact ih _ _ _ _ h
            · replace h := h.2 hc
              refine g_iconst (v := (2 : Int32)) 125 hC dX9_findsEdits_125 (by decide) ?_
              refine g_goto 126 130 hC dX9_findsEdits_126 (by decide) ?_
              refine g_isub 130 hC dX9_findsEdits_130 ?_
              refine g_istore_n 131 [(3, .int (v3 - (2 : Int32))), (6, .int (0 : Int32)), (5, .int w5_9), (4, .int v4), (0, .ref (ad b0)), (1, .int v1), (2, .int v2)] hC dX9_findsEdits_131 (by rw [hn]; decide) rfl ?_
              refine g_iload 132 3 hC dX9_findsEdits_132 rfl ?_
              refine g_iload 134 2 hC dX9_findsEdits_134 rfl ?_
              refine g_iconst (v := (2 : Int32)) 136 hC dX9_findsEdits_136 (by decide) ?_
              refine g_icmp_ne 137 144 hC dX9_findsEdits_137 (by decide) (fun hc => ?_) (fun hc => ?_)
              · replace h := h.1 hc
                refine g_iload 144 2 hC dX9_findsEdits_144 rfl ?_
                refine g_iconst (v := (4 : Int32)) 146 hC dX9_findsEdits_146 (by decide) ?_
                refine g_icmp_ne 147 154 hC dX9_findsEdits_147 (by decide) (fun hc => ?_) (fun hc => ?_)
                · replace h := h.1 hc
                  refine g_iconst (v := (1 : Int32)) 154 hC dX9_findsEdits_154 (by decide) ?_
                  refine g_isub 155 hC dX9_findsEdits_155 ?_
                  refine g_istore 156 [(4, .int (v4 - (1 : Int32))), (3, .int (v3 - (2 : Int32))), (6, .int (0 : Int32)), (5, .int w5_9), (0, .ref (ad b0)), (1, .int v1), (2, .int v2)] hC dX9_findsEdits_156 (by rw [hn]; decide) rfl ?_
                  refine g_iload 158 2 hC dX9_findsEdits_158 rfl ?_
                  refine g_if_ne 160 195 hC dX9_findsEdits_160 (by decide) (fun hc => absurd hc (by decide)) (fun _ => ?_)
                  refine g_aload_n 163 4 hC dX9_findsEdits_163 rfl ?_
                  refine g_get 164 0 11 hC inlX9 wq_110 dX9_findsEdits_164 rfl rfl (by decide) rfl ?_
                  refine g_aload_n 167 4 hC dX9_findsEdits_167 rfl ?_
                  refine g_get 168 0 10 hC inlX9 wq_400 dX9_findsEdits_168 rfl rfl (by decide) rfl ?_
                  refine g_bipush (v := (100 : Int32)) 171 hC dX9_findsEdits_171 (by decide) ?_
                  refine g_iload 173 3 hC dX9_findsEdits_173 rfl ?_
                  refine g_imul 175 hC dX9_findsEdits_175 ?_
                  refine g_bipush (v := (10 : Int32)) 176 hC dX9_findsEdits_176 (by decide) ?_
                  refine g_iload_n 178 1 hC dX9_findsEdits_178 rfl ?_
                  refine g_imul 179 hC dX9_findsEdits_179 ?_
                  refine g_iadd 180 hC dX9_findsEdits_180 ?_
                  refine g_iload 181 0 hC dX9_findsEdits_181 rfl ?_
                  refine g_iadd 183 hC dX9_findsEdits_183 ?_
                  obtain ⟨hj, h⟩ := h
                  refine g_iast 184 5 (Wd_X9_findsEdits cI cS cT ad b0 mnow mundoMany mtokens mone mother moneLong motherLong mfar medits (upd medit (Int32.toNatClampNeg medits) ((((100 : Int32) * w5_9) + ((10 : Int32) * (v3 - (2 : Int32)))) + (v4 - (1 : Int32)))) mgroups) hC dX9_findsEdits_184 rfl rfl hj rfl ?_
                  refine g_aload_n 185 4 hC dX9_findsEdits_185 rfl ?_
                  refine g_dup 186 hC dX9_findsEdits_186 rfl ?_
                  refine g_get 187 0 10 hC inlX9 wq_400 dX9_findsEdits_187 rfl rfl (by decide) rfl ?_
                  refine g_iconst (v := (1 : Int32)) 190 hC dX9_findsEdits_190 (by decide) ?_
                  refine g_iadd 191 hC dX9_findsEdits_191 ?_
                  refine g_put 192 0 10 (Wd_X9_findsEdits cI cS cT ad b0 mnow mundoMany mtokens mone mother moneLong motherLong mfar (medits + (1 : Int32)) (upd medit (Int32.toNatClampNeg medits) ((((100 : Int32) * w5_9) + ((10 : Int32) * (v3 - (2 : Int32)))) + (v4 - (1 : Int32)))) mgroups) hC inlX9 tyX9_ok nmX9 wq_400 dX9_findsEdits_192 rfl rfl (by decide) rfl rfl (Nat.le_of_ble_eq_true rfl) rfl ?_
                  refine g_goto 195 23 hC dX9_findsEdits_195 (by decide) ?_
                  refine G.sub [0, 1, 4, 5, 6] rfl ?_
                  exact ih _ _ _ _ h
                · replace h := h.2 hc
                  refine g_iconst (v := (2 : Int32)) 150 hC dX9_findsEdits_150 (by decide) ?_
                  refine g_goto 151 155 hC dX9_findsEdits_151 (by decide) ?_
                  refine g_isub 155 hC dX9_findsEdits_155 ?_
                  refine g_istore 156 [(4, .int (v4 - (2 : Int32))), (3, .int (v3 - (2 : Int32))), (6, .int (0 : Int32)), (5, .int w5_9), (0, .ref (ad b0)), (1, .int v1), (2, .int v2)] hC dX9_findsEdits_156 (by rw [hn]; decide) rfl ?_
                  refine g_iload 158 2 hC dX9_findsEdits_158 rfl ?_
                  refine g_if_ne 160 195 hC dX9_findsEdits_160 (by decide) (fun hc => absurd hc (by decide)) (fun _ => ?_)
                  refine g_aload_n 163 4 hC dX9_findsEdits_163 rfl ?_
                  refine g_get 164 0 11 hC inlX9 wq_110 dX9_findsEdits_164 rfl rfl (by decide) rfl ?_
                  refine g_aload_n 167 4 hC dX9_findsEdits_167 rfl ?_
                  refine g_get 168 0 10 hC inlX9 wq_400 dX9_findsEdits_168 rfl rfl (by decide) rfl ?_
                  refine g_bipush (v := (100 : Int32)) 171 hC dX9_findsEdits_171 (by decide) ?_
                  refine g_iload 173 3 hC dX9_findsEdits_173 rfl ?_
                  refine g_imul 175 hC dX9_findsEdits_175 ?_
                  refine g_bipush (v := (10 : Int32)) 176 hC dX9_findsEdits_176 (by decide) ?_
                  refine g_iload_n 178 1 hC dX9_findsEdits_178 rfl ?_
                  refine g_imul 179 hC dX9_findsEdits_179 ?_
                  refine g_iadd 180 hC dX9_findsEdits_180 ?_
                  refine g_iload 181 0 hC dX9_findsEdits_181 rfl ?_
                  refine g_iadd 183 hC dX9_findsEdits_183 ?_
                  obtain ⟨hj, h⟩ := h
                  refine g_iast 184 5 (Wd_X9_findsEdits cI cS cT ad b0 mnow mundoMany mtokens mone mother moneLong motherLong mfar medits (upd medit (Int32.toNatClampNeg medits) ((((100 : Int32) * w5_9) + ((10 : Int32) * (v3 - (2 : Int32)))) + (v4 - (2 : Int32)))) mgroups) hC dX9_findsEdits_184 rfl rfl hj rfl ?_
                  refine g_aload_n 185 4 hC dX9_findsEdits_185 rfl ?_
                  refine g_dup 186 hC dX9_findsEdits_186 rfl ?_
                  refine g_get 187 0 10 hC inlX9 wq_400 dX9_findsEdits_187 rfl rfl (by decide) rfl ?_
                  refine g_iconst (v := (1 : Int32)) 190 hC dX9_findsEdits_190 (by decide) ?_
                  refine g_iadd 191 hC dX9_findsEdits_191 ?_
                  refine g_put 192 0 10 (Wd_X9_findsEdits cI cS cT ad b0 mnow mundoMany mtokens mone mother moneLong motherLong mfar (medits + (1 : Int32)) (upd medit (Int32.toNatClampNeg medits) ((((100 : Int32) * w5_9) + ((10 : Int32) * (v3 - (2 : Int32)))) + (v4 - (2 : Int32)))) mgroups) hC inlX9 tyX9_ok nmX9 wq_400 dX9_findsEdits_192 rfl rfl (by decide) rfl rfl (Nat.le_of_ble_eq_true rfl) rfl ?_
                  refine g_goto 195 23 hC dX9_findsEdits_195 (by decide) ?_
                  refine G.sub [0, 1, 4, 5, 6] rfl ?_
                  exact ih _ _ _ _ h
              · replace h := h.2 hc
                refine g_iconst (v := (0 : Int32)) 140 hC dX9_findsEdits_140 (by decide) ?_
                refine g_goto 141 155 hC dX9_findsEdits_141 (by decide) ?_
                refine g_isub 155 hC dX9_findsEdits_155 ?_
                refine g_istore 156 [(4, .int (v4 - (0 : Int32))), (3, .int (v3 - (2 : Int32))), (6, .int (0 : Int32)), (5, .int w5_9), (0, .ref (ad b0)), (1, .int v1), (2, .int v2)] hC dX9_findsEdits_156 (by rw [hn]; decide) rfl ?_
                refine g_iload 158 2 hC dX9_findsEdits_158 rfl ?_
                refine g_if_ne 160 195 hC dX9_findsEdits_160 (by decide) (fun hc => absurd hc (by decide)) (fun _ => ?_)
                refine g_aload_n 163 4 hC dX9_findsEdits_163 rfl ?_
                refine g_get 164 0 11 hC inlX9 wq_110 dX9_findsEdits_164 rfl rfl (by decide) rfl ?_
                refine g_aload_n 167 4 hC dX9_findsEdits_167 rfl ?_
                refine g_get 168 0 10 hC inlX9 wq_400 dX9_findsEdits_168 rfl rfl (by decide) rfl ?_
                refine g_bipush (v := (100 : Int32)) 171 hC dX9_findsEdits_171 (by decide) ?_
                refine g_iload 173 3 hC dX9_findsEdits_173 rfl ?_
                refine g_imul 175 hC dX9_findsEdits_175 ?_
                refine g_bipush (v := (10 : Int32)) 176 hC dX9_findsEdits_176 (by decide) ?_
                refine g_iload_n 178 1 hC dX9_findsEdits_178 rfl ?_
                refine g_imul 179 hC dX9_findsEdits_179 ?_
                refine g_iadd 180 hC dX9_findsEdits_180 ?_
                refine g_iload 181 0 hC dX9_findsEdits_181 rfl ?_
                refine g_iadd 183 hC dX9_findsEdits_183 ?_
                obtain ⟨hj, h⟩ := h
                refine g_iast 184 5 (Wd_X9_findsEdits cI cS cT ad b0 mnow mundoMany mtokens mone mother moneLong motherLong mfar medits (upd medit (Int32.toNatClampNeg medits) ((((100 : Int32) * w5_9) + ((10 : Int32) * (v3 - (2 : Int32)))) + (v4 - (0 : Int32)))) mgroups) hC dX9_findsEdits_184 rfl rfl hj rfl ?_
                refine g_aload_n 185 4 hC dX9_findsEdits_185 rfl ?_
                refine g_dup 186 hC dX9_findsEdits_186 rfl ?_
                refine g_get 187 0 10 hC inlX9 wq_400 dX9_findsEdits_187 rfl rfl (by decide) rfl ?_
                refine g_iconst (v := (1 : Int32)) 190 hC dX9_findsEdits_190 (by decide) ?_
                refine g_iadd 191 hC dX9_findsEdits_191 ?_
                refine g_put 192 0 10 (Wd_X9_findsEdits cI cS cT ad b0 mnow mundoMany mtokens mone mother moneLong motherLong mfar (medits + (1 : Int32)) (upd medit (Int32.toNatClampNeg medits) ((((100 : Int32) * w5_9) + ((10 : Int32) * (v3 - (2 : Int32)))) + (v4 - (0 : Int32)))) mgroups) hC inlX9 tyX9_ok nmX9 wq_400 dX9_findsEdits_192 rfl rfl (by decide) rfl rfl (Nat.le_of_ble_eq_true rfl) rfl ?_
                refine g_goto 195 23 hC dX9_findsEdits_195 (by decide) ?_
                refine G.sub [0, 1, 4, 5, 6] rfl ?_
                exact ih _ _ _ _ h
          · replace h := h.2 hc
            refine g_iconst (v := (0 : Int32)) 115 hC dX9_findsEdits_115 (by decide) ?_
            refine g_goto 116 130 hC dX9_findsEdits_116 (by decide) ?_
            refine g_isub 130 hC dX9_findsEdits_130 ?_
            refine g_istore_n 131 [(3, .int (v3 - (0 : Int32))), (6, .int (0 : Int32)), (5, .int w5_9), (4, .int v4), (0, .ref (ad b0)), (1, .int v1), (2, .int v2)] hC dX9_findsEdits_131 (by rw [hn]; decide) rfl ?_
            refine g_iload 132 3 hC dX9_findsEdits_132 rfl ?_
            refine g_iload 134 2 hC dX9_findsEdits_134 rfl ?_
            refine g_iconst (v := (2 : Int32)) 136 hC dX9_findsEdits_136 (by decide) ?_
            refine g_icmp_ne 137 144 hC dX9_findsEdits_137 (by decide) (fun hc => ?_) (fun hc => ?_)
            · replace h := h.1 hc
              refine g_iload 144 2 hC dX9_findsEdits_144 rfl ?_
              refine g_iconst (v := (4 : Int32)) 146 hC dX9_findsEdits_146 (by decide) ?_
              refine g_icmp_ne 147 154 hC dX9_findsEdits_147 (by decide) (fun hc => ?_) (fun hc => ?_)
              · replace h := h.1 hc
                refine g_iconst (v := (1 : Int32)) 154 hC dX9_findsEdits_154 (by decide) ?_
                refine g_isub 155 hC dX9_findsEdits_155 ?_
                refine g_istore 156 [(4, .int (v4 - (1 : Int32))), (3, .int (v3 - (0 : Int32))), (6, .int (0 : Int32)), (5, .int w5_9), (0, .ref (ad b0)), (1, .int v1), (2, .int v2)] hC dX9_findsEdits_156 (by rw [hn]; decide) rfl ?_
                refine g_iload 158 2 hC dX9_findsEdits_158 rfl ?_
                refine g_if_ne 160 195 hC dX9_findsEdits_160 (by decide) (fun hc => absurd hc (by decide)) (fun _ => ?_)
                refine g_aload_n 163 4 hC dX9_findsEdits_163 rfl ?_
                refine g_get 164 0 11 hC inlX9 wq_110 dX9_findsEdits_164 rfl rfl (by decide) rfl ?_
                refine g_aload_n 167 4 hC dX9_findsEdits_167 rfl ?_
                refine g_get 168 0 10 hC inlX9 wq_400 dX9_findsEdits_168 rfl rfl (by decide) rfl ?_
                refine g_bipush (v := (100 : Int32)) 171 hC dX9_findsEdits_171 (by decide) ?_
                refine g_iload 173 3 hC dX9_findsEdits_173 rfl ?_
                refine g_imul 175 hC dX9_findsEdits_175 ?_
                refine g_bipush (v := (10 : Int32)) 176 hC dX9_findsEdits_176 (by decide) ?_
                refine g_iload_n 178 1 hC dX9_findsEdits_178 rfl ?_
                refine g_imul 179 hC dX9_findsEdits_179 ?_
                refine g_iadd 180 hC dX9_findsEdits_180 ?_
                refine g_iload 181 0 hC dX9_findsEdits_181 rfl ?_
                refine g_iadd 183 hC dX9_findsEdits_183 ?_
                obtain ⟨hj, h⟩ := h
                refine g_iast 184 5 (Wd_X9_findsEdits cI cS cT ad b0 mnow mundoMany mtokens mone mother moneLong motherLong mfar medits (upd medit (Int32.toNatClampNeg medits) ((((100 : Int32) * w5_9) + ((10 : Int32) * (v3 - (0 : Int32)))) + (v4 - (1 : Int32)))) mgroups) hC dX9_findsEdits_184 rfl rfl hj rfl ?_
                refine g_aload_n 185 4 hC dX9_findsEdits_185 rfl ?_
                refine g_dup 186 hC dX9_findsEdits_186 rfl ?_
                refine g_get 187 0 10 hC inlX9 wq_400 dX9_findsEdits_187 rfl rfl (by decide) rfl ?_
                refine g_iconst (v := (1 : Int32)) 190 hC dX9_findsEdits_190 (by decide) ?_
                refine g_iadd 191 hC dX9_findsEdits_191 ?_
                refine g_put 192 0 10 (Wd_X9_findsEdits cI cS cT ad b0 mnow mundoMany mtokens mone mother moneLong motherLong mfar (medits + (1 : Int32)) (upd medit (Int32.toNatClampNeg medits) ((((100 : Int32) * w5_9) + ((10 : Int32) * (v3 - (0 : Int32)))) + (v4 - (1 : Int32)))) mgroups) hC inlX9 tyX9_ok nmX9 wq_400 dX9_findsEdits_192 rfl rfl (by decide) rfl rfl (Nat.le_of_ble_eq_true rfl) rfl ?_
                refine g_goto 195 23 hC dX9_findsEdits_195 (by decide) ?_
                refine G.sub [0, 1, 4, 5, 6] rfl ?_
                exact ih _ _ _ _ h
              · replace h := h.2 hc
                refine g_iconst (v := (2 : Int32)) 150 hC dX9_findsEdits_150 (by decide) ?_
                refine g_goto 151 155 hC dX9_findsEdits_151 (by decide) ?_
                refine g_isub 155 hC dX9_findsEdits_155 ?_
                refine g_istore 156 [(4, .int (v4 - (2 : Int32))), (3, .int (v3 - (0 : Int32))), (6, .int (0 : Int32)), (5, .int w5_9), (0, .ref (ad b0)), (1, .int v1), (2, .int v2)] hC dX9_findsEdits_156 (by rw [hn]; decide) rfl ?_
                refine g_iload 158 2 hC dX9_findsEdits_158 rfl ?_
                refine g_if_ne 160 195 hC dX9_findsEdits_160 (by decide) (fun hc => absurd hc (by decide)) (fun _ => ?_)
                refine g_aload_n 163 4 hC dX9_findsEdits_163 rfl ?_
                refine g_get 164 0 11 hC inlX9 wq_110 dX9_findsEdits_164 rfl rfl (by decide) rfl ?_
                refine g_aload_n 167 4 hC dX9_findsEdits_167 rfl ?_
                refine g_get 168 0 10 hC inlX9 wq_400 dX9_findsEdits_168 rfl rfl (by decide) rfl ?_
                refine g_bipush (v := (100 : Int32)) 171 hC dX9_findsEdits_171 (by decide) ?_
                refine g_iload 173 3 hC dX9_findsEdits_173 rfl ?_
                refine g_imul 175 hC dX9_findsEdits_175 ?_
                refine g_bipush (v := (10 : Int32)) 176 hC dX9_findsEdits_176 (by decide) ?_
                refine g_iload_n 178 1 hC dX9_findsEdits_178 rfl ?_
                refine g_imul 179 hC dX9_findsEdits_179 ?_
                refine g_iadd 180 hC dX9_findsEdits_180 ?_
                refine g_iload 181 0 hC dX9_findsEdits_181 rfl ?_
                refine g_iadd 183 hC dX9_findsEdits_183 ?_
                obtain ⟨hj, h⟩ := h
                refine g_iast 184 5 (Wd_X9_findsEdits cI cS cT ad b0 mnow mundoMany mtokens mone mother moneLong motherLong mfar medits (upd medit (Int32.toNatClampNeg medits) ((((100 : Int32) * w5_9) + ((10 : Int32) * (v3 - (0 : Int32)))) + (v4 - (2 : Int32)))) mgroups) hC dX9_findsEdits_184 rfl rfl hj rfl ?_
                refine g_aload_n 185 4 hC dX9_findsEdits_185 rfl ?_
                refine g_dup 186 hC dX9_findsEdits_186 rfl ?_
                refine g_get 187 0 10 hC inlX9 wq_400 dX9_findsEdits_187 rfl rfl (by decide) rfl ?_
                refine g_iconst (v := (1 : Int32)) 190 hC dX9_findsEdits_190 (by decide) ?_
                refine g_iadd 191 hC dX9_findsEdits_191 ?_
                refine g_put 192 0 10 (Wd_X9_findsEdits cI cS cT ad b0 mnow mundoMany mtokens mone mother moneLong motherLong mfar (medits + (1 : Int32)) (upd medit (Int32.toNatClampNeg medits) ((((100 : Int32) * w5_9) + ((10 : Int32) * (v3 - (0 : Int32)))) + (v4 - (2 : Int32)))) mgroups) hC inlX9 tyX9_ok nmX9 wq_400 dX9_findsEdits_192 rfl rfl (by decide) rfl rfl (Nat.le_of_ble_eq_true rfl) rfl ?_
                refine g_goto 195 23 hC dX9_findsEdits_195 (by decide) ?_
                refine G.sub [0, 1, 4, 5, 6] rfl ?_
                exact ih _ _ _ _ h
            · replace h := h.2 hc
              refine g_iconst (v := (0 : Int32)) 140 hC dX9_findsEdits_140 (by decide) ?_
              refine g_goto 141 155 hC dX9_findsEdits_141 (by decide) ?_
              refine g_isub 155 hC dX9_findsEdits_155 ?_
              refine g_istore 156 [(4, .int (v4 - (0 : Int32))), (3, .int (v3 - (0 : Int32))), (6, .int (0 : Int32)), (5, .int w5_9), (0, .ref (ad b0)), (1, .int v1), (2, .int v2)] hC dX9_findsEdits_156 (by rw [hn]; decide) rfl ?_
              refine g_iload 158 2 hC dX9_findsEdits_158 rfl ?_
              refine g_if_ne 160 195 hC dX9_findsEdits_160 (by decide) (fun hc => absurd hc (by decide)) (fun _ => ?_)
              refine g_aload_n 163 4 hC dX9_findsEdits_163 rfl ?_
              refine g_get 164 0 11 hC inlX9 wq_110 dX9_findsEdits_164 rfl rfl (by decide) rfl ?_
              refine g_aload_n 167 4 hC dX9_findsEdits_167 rfl ?_
              refine g_get 168 0 10 hC inlX9 wq_400 dX9_findsEdits_168 rfl rfl (by decide) rfl ?_
              refine g_bipush (v := (100 : Int32)) 171 hC dX9_findsEdits_171 (by decide) ?_
              refine g_iload 173 3 hC dX9_findsEdits_173 rfl ?_
              refine g_imul 175 hC dX9_findsEdits_175 ?_
              refine g_bipush (v := (10 : Int32)) 176 hC dX9_findsEdits_176 (by decide) ?_
              refine g_iload_n 178 1 hC dX9_findsEdits_178 rfl ?_
              refine g_imul 179 hC dX9_findsEdits_179 ?_
              refine g_iadd 180 hC dX9_findsEdits_180 ?_
              refine g_iload 181 0 hC dX9_findsEdits_181 rfl ?_
              refine g_iadd 183 hC dX9_findsEdits_183 ?_
              obtain ⟨hj, h⟩ := h
              refine g_iast 184 5 (Wd_X9_findsEdits cI cS cT ad b0 mnow mundoMany mtokens mone mother moneLong motherLong mfar medits (upd medit (Int32.toNatClampNeg medits) ((((100 : Int32) * w5_9) + ((10 : Int32) * (v3 - (0 : Int32)))) + (v4 - (0 : Int32)))) mgroups) hC dX9_findsEdits_184 rfl rfl hj rfl ?_
              refine g_aload_n 185 4 hC dX9_findsEdits_185 rfl ?_
              refine g_dup 186 hC dX9_findsEdits_186 rfl ?_
              refine g_get 187 0 10 hC inlX9 wq_400 dX9_findsEdits_187 rfl rfl (by decide) rfl ?_
              refine g_iconst (v := (1 : Int32)) 190 hC dX9_findsEdits_190 (by decide) ?_
              refine g_iadd 191 hC dX9_findsEdits_191 ?_
              refine g_put 192 0 10 (Wd_X9_findsEdits cI cS cT ad b0 mnow mundoMany mtokens mone mother moneLong motherLong mfar (medits + (1 : Int32)) (upd medit (Int32.toNatClampNeg medits) ((((100 : Int32) * w5_9) + ((10 : Int32) * (v3 - (0 : Int32)))) + (v4 - (0 : Int32)))) mgroups) hC inlX9 tyX9_ok nmX9 wq_400 dX9_findsEdits_192 rfl rfl (by decide) rfl rfl (Nat.le_of_ble_eq_true rfl) rfl ?_
              refine g_goto 195 23 hC dX9_findsEdits_195 (by decide) ?_
              refine G.sub [0, 1, 4, 5, 6] rfl ?_
              exact ih _ _ _ _ h
        · replace h := h.2 hc
          refine g_iconst (v := (1 : Int32)) 101 hC dX9_findsEdits_101 (by decide) ?_
          refine g_goto 102 106 hC dX9_findsEdits_102 (by decide) ?_
          refine g_istore 106 [(6, .int (1 : Int32)), (5, .int w5_9), (4, .int v4), (3, .int v3), (0, .ref (ad b0)), (1, .int v1), (2, .int v2)] hC dX9_findsEdits_106 (by rw [hn]; decide) rfl ?_
          refine g_iload_n 108 3 hC dX9_findsEdits_108 rfl ?_
          refine g_iload 109 1 hC dX9_findsEdits_109 rfl ?_
          refine g_iconst (v := (3 : Int32)) 111 hC dX9_findsEdits_111 (by decide) ?_
          refine g_icmp_ne 112 119 hC dX9_findsEdits_112 (by decide) (fun hc => ?_) (fun hc => ?_)
          · replace h := h.1 hc
            refine g_iload 119 1 hC dX9_findsEdits_119 rfl ?_
            refine g_iconst (v := (4 : Int32)) 121 hC dX9_findsEdits_121 (by decide) ?_
            refine g_icmp_ne 122 129 hC dX9_findsEdits_122 (by decide) (fun hc => ?_) (fun hc => ?_)
            · replace h := h.1 hc
              refine g_iconst (v := (1 : Int32)) 129 hC dX9_findsEdits_129 (by decide) ?_
              refine g_isub 130 hC dX9_findsEdits_130 ?_
              refine g_istore_n 131 [(3, .int (v3 - (1 : Int32))), (6, .int (1 : Int32)), (5, .int w5_9), (4, .int v4), (0, .ref (ad b0)), (1, .int v1), (2, .int v2)] hC dX9_findsEdits_131 (by rw [hn]; decide) rfl ?_
              refine g_iload 132 3 hC dX9_findsEdits_132 rfl ?_
              refine g_iload 134 2 hC dX9_findsEdits_134 rfl ?_
              refine g_iconst (v := (2 : Int32)) 136 hC dX9_findsEdits_136 (by decide) ?_
              refine g_icmp_ne 137 144 hC dX9_findsEdits_137 (by decide) (fun hc => ?_) (fun hc => ?_)
              · replace h := h.1 hc
                refine g_iload 144 2 hC dX9_findsEdits_144 rfl ?_
                refine g_iconst (v := (4 : Int32)) 146 hC dX9_findsEdits_146 (by decide) ?_
                refine g_icmp_ne 147 154 hC dX9_findsEdits_147 (by decide) (fun hc => ?_) (fun hc => ?_)
                · replace h := h.1 hc
                  refine g_iconst (v := (1 : Int32)) 154 hC dX9_findsEdits_154 (by decide) ?_
                  refine g_isub 155 hC dX9_findsEdits_155 ?_
                  refine g_istore 156 [(4, .int (v4 - (1 : Int32))), (3, .int (v3 - (1 : Int32))), (6, .int (1 : Int32)), (5, .int w5_9), (0, .ref (ad b0)), (1, .int v1), (2, .int v2)] hC dX9_findsEdits_156 (by rw [hn]; decide) rfl ?_
                  refine g_iload 158 2 hC dX9_findsEdits_158 rfl ?_
                  refine g_if_ne 160 195 hC dX9_findsEdits_160 (by decide) (fun _ => ?_) (fun hc => absurd hc (by decide))
                  refine g_goto 195 23 hC dX9_findsEdits_195 (by decide) ?_
                  refine G.sub [0, 1, 4, 5, 6] rfl ?_
                  exact ih _ _ _ _ h
                · replace h := h.2 hc
                  refine g_iconst (v := (2 : Int32)) 150 hC dX9_findsEdits_150 (by decide) ?_
                  refine g_goto 151 155 hC dX9_findsEdits_151 (by decide) ?_
                  refine g_isub 155 hC dX9_findsEdits_155 ?_
                  refine g_istore 156 [(4, .int (v4 - (2 : Int32))), (3, .int (v3 - (1 : Int32))), (6, .int (1 : Int32)), (5, .int w5_9), (0, .ref (ad b0)), (1, .int v1), (2, .int v2)] hC dX9_findsEdits_156 (by rw [hn]; decide) rfl ?_
                  refine g_iload 158 2 hC dX9_findsEdits_158 rfl ?_
                  refine g_if_ne 160 195 hC dX9_findsEdits_160 (by decide) (fun _ => ?_) (fun hc => absurd hc (by decide))
                  refine g_goto 195 23 hC dX9_findsEdits_195 (by decide) ?_
                  refine G.sub [0, 1, 4, 5, 6] rfl ?_
                  exact ih _ _ _ _ h
              · replace h := h.2 hc
                refine g_iconst (v := (0 : Int32)) 140 hC dX9_findsEdits_140 (by decide) ?_
                refine g_goto 141 155 hC dX9_findsEdits_141 (by decide) ?_
                refine g_isub 155 hC dX9_findsEdits_155 ?_
                refine g_istore 156 [(4, .int (v4 - (0 : Int32))), (3, .int (v3 - (1 : Int32))), (6, .int (1 : Int32)), (5, .int w5_9), (0, .ref (ad b0)), (1, .int v1), (2, .int v2)] hC dX9_findsEdits_156 (by rw [hn]; decide) rfl ?_
                refine g_iload 158 2 hC dX9_findsEdits_158 rfl ?_
                refine g_if_ne 160 195 hC dX9_findsEdits_160 (by decide) (fun _ => ?_) (fun hc => absurd hc (by decide))
                refine g_goto 195 23 hC dX9_findsEdits_195 (by decide) ?_
                refine G.sub [0, 1, 4, 5, 6] rfl ?_
                exact ih _ _ _ _ h
            · replace h := h.2 hc
              refine g_iconst (v := (2 : Int32)) 125 hC dX9_findsEdits_125 (by decide) ?_
              refine g_goto 126 130 hC dX9_findsEdits_126 (by decide) ?_
              refine g_isub 130 hC dX9_findsEdits_130 ?_
              refine g_istore_n 131 [(3, .int (v3 - (2 : Int32))), (6, .int (1 : Int32)), (5, .int w5_9), (4, .int v4), (0, .ref (ad b0)), (1, .int v1), (2, .int v2)] hC dX9_findsEdits_131 (by rw [hn]; decide) rfl ?_
              refine g_iload 132 3 hC dX9_findsEdits_132 rfl ?_
              refine g_iload 134 2 hC dX9_findsEdits_134 rfl ?_
              refine g_iconst (v := (2 : Int32)) 136 hC dX9_findsEdits_136 (by decide) ?_
              refine g_icmp_ne 137 144 hC dX9_findsEdits_137 (by decide) (fun hc => ?_) (fun hc => ?_)
              · replace h := h.1 hc
                refine g_iload 144 2 hC dX9_findsEdits_144 rfl ?_
                refine g_iconst (v := (4 : Int32)) 146 hC dX9_findsEdits_146 (by decide) ?_
                refine g_icmp_ne 147 154 hC dX9_findsEdits_147 (by decide) (fun hc => ?_) (fun hc => ?_)
                · replace h := h.1 hc
                  refine g_iconst (v := (1 : Int32)) 154 hC dX9_findsEdits_154 (by decide) ?_
                  refine g_isub 155 hC dX9_findsEdits_155 ?_
                  refine g_istore 156 [(4, .int (v4 - (1 : Int32))), (3, .int (v3 - (2 : Int32))), (6, .int (1 : Int32)), (5, .int w5_9), (0, .ref (ad b0)), (1, .int v1), (2, .int v2)] hC dX9_findsEdits_156 (by rw [hn]; decide) rfl ?_
                  refine g_iload 158 2 hC dX9_findsEdits_158 rfl ?_
                  refine g_if_ne 160 195 hC dX9_findsEdits_160 (by decide) (fun _ => ?_) (fun hc => absurd hc (by decide))
                  refine g_goto 195 23 hC dX9_findsEdits_195 (by decide) ?_
                  refine G.sub [0, 1, 4, 5, 6] rfl ?_
                  exact ih _ _ _ _ h
                · replace h := h.2 hc
                  refine g_iconst (v := (2 : Int32)) 150 hC dX9_findsEdits_150 (by decide) ?_
                  refine g_goto 151 155 hC dX9_findsEdits_151 (by decide) ?_
                  refine g_isub 155 hC dX9_findsEdits_155 ?_
                  refine g_istore 156 [(4, .int (v4 - (2 : Int32))), (3, .int (v3 - (2 : Int32))), (6, .int (1 : Int32)), (5, .int w5_9), (0, .ref (ad b0)), (1, .int v1), (2, .int v2)] hC dX9_findsEdits_156 (by rw [hn]; decide) rfl ?_
                  refine g_iload 158 2 hC dX9_findsEdits_158 rfl ?_
                  refine g_if_ne 160 195 hC dX9_findsEdits_160 (by decide) (fun _ => ?_) (fun hc => absurd hc (by decide))
                  refine g_goto 195 23 hC dX9_findsEdits_195 (by decide) ?_
                  refine G.sub [0, 1, 4, 5, 6] rfl ?_
                  exact ih _ _ _ _ h
              · replace h := h.2 hc
                refine g_iconst (v := (0 : Int32)) 140 hC dX9_findsEdits_140 (by decide) ?_
                refine g_goto 141 155 hC dX9_findsEdits_141 (by decide) ?_
                refine g_isub 155 hC dX9_findsEdits_155 ?_
                refine g_istore 156 [(4, .int (v4 - (0 : Int32))), (3, .int (v3 - (2 : Int32))), (6, .int (1 : Int32)), (5, .int w5_9), (0, .ref (ad b0)), (1, .int v1), (2, .int v2)] hC dX9_findsEdits_156 (by rw [hn]; decide) rfl ?_
                refine g_iload 158 2 hC dX9_findsEdits_158 rfl ?_
                refine g_if_ne 160 195 hC dX9_findsEdits_160 (by decide) (fun _ => ?_) (fun hc => absurd hc (by decide))
                refine g_goto 195 23 hC dX9_findsEdits_195 (by decide) ?_
                refine G.sub [0, 1, 4, 5, 6] rfl ?_
                exact ih _ _ _ _ h
          · replace h := h.2 hc
            refine g_iconst (v := (0 : Int32)) 115 hC dX9_findsEdits_115 (by decide) ?_
            refine g_goto 116 130 hC dX9_findsEdits_116 (by decide) ?_
            refine g_isub 130 hC dX9_findsEdits_130 ?_
            refine g_istore_n 131 [(3, .int (v3 - (0 : Int32))), (6, .int (1 : Int32)), (5, .int w5_9), (4, .int v4), (0, .ref (ad b0)), (1, .int v1), (2, .int v2)] hC dX9_findsEdits_131 (by rw [hn]; decide) rfl ?_
            refine g_iload 132 3 hC dX9_findsEdits_132 rfl ?_
            refine g_iload 134 2 hC dX9_findsEdits_134 rfl ?_
            refine g_iconst (v := (2 : Int32)) 136 hC dX9_findsEdits_136 (by decide) ?_
            refine g_icmp_ne 137 144 hC dX9_findsEdits_137 (by decide) (fun hc => ?_) (fun hc => ?_)
            · replace h := h.1 hc
              refine g_iload 144 2 hC dX9_findsEdits_144 rfl ?_
              refine g_iconst (v := (4 : Int32)) 146 hC dX9_findsEdits_146 (by decide) ?_
              refine g_icmp_ne 147 154 hC dX9_findsEdits_147 (by decide) (fun hc => ?_) (fun hc => ?_)
              · replace h := h.1 hc
                refine g_iconst (v := (1 : Int32)) 154 hC dX9_findsEdits_154 (by decide) ?_
                refine g_isub 155 hC dX9_findsEdits_155 ?_
                refine g_istore 156 [(4, .int (v4 - (1 : Int32))), (3, .int (v3 - (0 : Int32))), (6, .int (1 : Int32)), (5, .int w5_9), (0, .ref (ad b0)), (1, .int v1), (2, .int v2)] hC dX9_findsEdits_156 (by rw [hn]; decide) rfl ?_
                refine g_iload 158 2 hC dX9_findsEdits_158 rfl ?_
                refine g_if_ne 160 195 hC dX9_findsEdits_160 (by decide) (fun _ => ?_) (fun hc => absurd hc (by decide))
                refine g_goto 195 23 hC dX9_findsEdits_195 (by decide) ?_
                refine G.sub [0, 1, 4, 5, 6] rfl ?_
                exact ih _ _ _ _ h
              · replace h := h.2 hc
                refine g_iconst (v := (2 : Int32)) 150 hC dX9_findsEdits_150 (by decide) ?_
                refine g_goto 151 155 hC dX9_findsEdits_151 (by decide) ?_
                refine g_isub 155 hC dX9_findsEdits_155 ?_
                refine g_istore 156 [(4, .int (v4 - (2 : Int32))), (3, .int (v3 - (0 : Int32))), (6, .int (1 : Int32)), (5, .int w5_9), (0, .ref (ad b0)), (1, .int v1), (2, .int v2)] hC dX9_findsEdits_156 (by rw [hn]; decide) rfl ?_
                refine g_iload 158 2 hC dX9_findsEdits_158 rfl ?_
                refine g_if_ne 160 195 hC dX9_findsEdits_160 (by decide) (fun _ => ?_) (fun hc => absurd hc (by decide))
                refine g_goto 195 23 hC dX9_findsEdits_195 (by decide) ?_
                refine G.sub [0, 1, 4, 5, 6] rfl ?_
                exact ih _ _ _ _ h
            · replace h := h.2 hc
              refine g_iconst (v := (0 : Int32)) 140 hC dX9_findsEdits_140 (by decide) ?_
              refine g_goto 141 155 hC dX9_findsEdits_141 (by decide) ?_
              refine g_isub 155 hC dX9_findsEdits_155 ?_
              refine g_istore 156 [(4, .int (v4 - (0 : Int32))), (3, .int (v3 - (0 : Int32))), (6, .int (1 : Int32)), (5, .int w5_9), (0, .ref (ad b0)), (1, .int v1), (2, .int v2)] hC dX9_findsEdits_156 (by rw [hn]; decide) rfl ?_
              refine g_iload 158 2 hC dX9_findsEdits_158 rfl ?_
              refine g_if_ne 160 195 hC dX9_findsEdits_160 (by decide) (fun _ => ?_) (fun hc => absurd hc (by decide))
              refine g_goto 195 23 hC dX9_findsEdits_195 (by decide) ?_
              refine G.sub [0, 1, 4, 5, 6] rfl ?_
              exact ih _ _ _ _ h
set_option maxHeartbeats 4000000 in
set_option maxRecDepth 100000 in
theorem c_X9_findsEdits (l : Launch) (D : va_G) (cI cS cT : ClassId) (ad : Nat → Nat) (b0 : Nat) (x1 : Int32) (x2 : Int32) (mnow : Nat → Int32) (mundoMany : Int32) (mtokens : Int32) (mone : Nat → Int32) (mother : Nat → Int32) (moneLong : Int32) (motherLong : Int32) (mfar : Nat → Int32) (medits : Int32) (medit : Nat → Int32) (mgroups : Int32) (post : (Nat → Int32) → (Nat → Int32) → Int32 → Int32 → (Nat → Int32) → Int32 → (Nat → Int32) → Prop) (h : P_X9_findsEdits x1 x2 mnow mundoMany mtokens mone mother moneLong motherLong mfar medits medit mgroups post) : MV l D (TY cI cS cT) yX9_findsEdits cX9_findsEdits 7 rm_X9_findsEdits [.ref (ad b0), .int x1, .int x2] (Wd_X9_findsEdits cI cS cT ad b0 mnow mundoMany mtokens mone mother moneLong motherLong mfar medits medit mgroups) (fun w => ∃ (u_mone : Nat → Int32) (u_mother : Nat → Int32) (u_moneLong : Int32) (u_motherLong : Int32) (u_mfar : Nat → Int32) (u_medits : Int32) (u_medit : Nat → Int32), w = (Wd_X9_findsEdits cI cS cT ad b0 mnow mundoMany mtokens u_mone u_mother u_moneLong u_motherLong u_mfar u_medits u_medit mgroups) ∧ post u_mone u_mother u_moneLong u_motherLong u_mfar u_medits u_medit) := by
  refine MV.of (by decide) (Nat.le_of_ble_eq_true rfl) (fun E hC hR hn => ?_)
  replace hC : Cx l D (TY cI cS cT) E rm_X9_findsEdits cX9_findsEdits RX9 := hC
  replace hR : RetV D E (fun w => ∃ (u_mone : Nat → Int32) (u_mother : Nat → Int32) (u_moneLong : Int32) (u_motherLong : Int32) (u_mfar : Nat → Int32) (u_medits : Int32) (u_medit : Nat → Int32), w = (Wd_X9_findsEdits cI cS cT ad b0 mnow mundoMany mtokens u_mone u_mother u_moneLong u_motherLong u_mfar u_medits u_medit mgroups) ∧ post u_mone u_mother u_moneLong u_motherLong u_mfar u_medits u_medit) 0 0 := hR
  unfold P_X9_findsEdits at h
  change G l D E 0 0 _ [(0, .ref (ad b0)), (1, .int x1), (2, .int x2)] 0 []
  refine g_aload_n 0 0 hC dX9_findsEdits_0 rfl ?_
  refine g_iload_n 1 1 hC dX9_findsEdits_1 rfl ?_
  refine g_iload_n 2 2 hC dX9_findsEdits_2 rfl ?_
  refine g_cVi (As := [.int x1, .int x2]) (rest := []) 3 0 [0, 1, 2, 3, 4] hC (c_X9_distanceOf l D cI cS cT ad b0 x1 x2 mnow mundoMany mtokens mone mother moneLong motherLong mfar medits mgroups _ h) kX9_distanceOf wq_323 dX9_findsEdits_3 rfl rfl ⟨Nat.le_of_ble_eq_true rfl, Nat.le_of_ble_eq_true rfl⟩ rfl rfl (Nat.zero_le _) (Nat.zero_le _) rfl rfl rfl (Nat.le_of_ble_eq_true rfl) ?_
  rintro r6 _ ⟨u1, u2, u3, u4, u5, rfl, h⟩
  refine ⟨Nat.le_of_ble_eq_true rfl, G.upd [5] (Wd_X9_findsEdits cI cS cT ad b0 mnow mundoMany mtokens u1 u2 u3 u4 u5 medits medit mgroups) rfl rfl rfl rfl rfl ?_⟩
  refine g_pop 6 hC dX9_findsEdits_6 rfl ?_
  refine g_aload_n 7 0 hC dX9_findsEdits_7 rfl ?_
  refine g_iconst (v := (0 : Int32)) 8 hC dX9_findsEdits_8 (by decide) ?_
  refine g_put 9 0 10 (Wd_X9_findsEdits cI cS cT ad b0 mnow mundoMany mtokens u1 u2 u3 u4 u5 (0 : Int32) medit mgroups) hC inlX9 tyX9_ok nmX9 wq_400 dX9_findsEdits_9 rfl rfl (by decide) rfl rfl (Nat.le_of_ble_eq_true rfl) rfl ?_
  refine g_aload_n 12 0 hC dX9_findsEdits_12 rfl ?_
  refine g_get 13 0 7 hC inlX9 wq_331 dX9_findsEdits_13 rfl rfl (by decide) rfl ?_
  refine g_istore_n 16 [(3, .int u3), (0, .ref (ad b0)), (1, .int x1), (2, .int x2)] hC dX9_findsEdits_16 (by rw [hn]; decide) rfl ?_
  refine g_aload_n 17 1 hC dX9_findsEdits_17 rfl ?_
  refine g_get 18 0 8 hC inlX9 wq_336 dX9_findsEdits_18 rfl rfl (by decide) rfl ?_
  refine g_istore 21 [(4, .int u4), (3, .int u3), (0, .ref (ad b0)), (1, .int x1), (2, .int x2)] hC dX9_findsEdits_21 (by rw [hn]; decide) rfl ?_
  obtain ⟨n, h⟩ := h
  refine L_X9_findsEdits_23 hC hR hn _ (fun w4_10 w3_10 medits_10 medit_10 h => ?_) n _ _ _ _ h
  exact g_vret 198 hC hR dX9_findsEdits_198 ⟨u1, u2, u3, u4, u5, medits_10, medit_10, rfl, h⟩

/-! ===== ProverbCollectionModel.editCount(II)I ===== -/
def Wd_X9_editCount (cI cS cT : ClassId) (ad : Nat → Nat) (b0 : Nat) (mnow : Nat → Int32) (mundoMany : Int32) (mtokens : Int32) (mone : Nat → Int32) (mother : Nat → Int32) (moneLong : Int32) (motherLong : Int32) (mfar : Nat → Int32) (medits : Int32) (medit : Nat → Int32) (mgroups : Int32) : va_W := [(ad b0, .inr (9, [.ref (ad (b0 + 1)), .ref (ad (b0 + 2)), .int mundoMany, .int mtokens, .ref (ad (b0 + 3)), .ref (ad (b0 + 4)), .ref (ad (b0 + 5)), .int moneLong, .int motherLong, .ref (ad (b0 + 6)), .int medits, .ref (ad (b0 + 7)), .ref (ad (b0 + 8)), .ref (ad (b0 + 9)), .ref (ad (b0 + 10)), .int mgroups, .ref (ad (b0 + 11)), .ref (ad (b0 + 12))])), (ad (b0 + 1), .inl (cI, 193, .inl mnow)), (ad (b0 + 4), .inl (cI, 8, .inl mone)), (ad (b0 + 5), .inl (cI, 8, .inl mother)), (ad (b0 + 6), .inl (cI, 81, .inl mfar)), (ad (b0 + 7), .inl (cI, 16, .inl medit))]
def rm_X9_editCount : Room := { frames := 5, cells := 0, slots := 0, locals := 117 }
theorem kX9_editCount : KV yX9_editCount cX9_editCount 3 (some .int) 2 := ⟨wq_399, wq_5, wq_397, wq_398, by decide +kernel⟩
def P_X9_editCount (x1 : Int32) (x2 : Int32) (mnow : Nat → Int32) (mundoMany : Int32) (mtokens : Int32) (mone : Nat → Int32) (mother : Nat → Int32) (moneLong : Int32) (motherLong : Int32) (mfar : Nat → Int32) (medits : Int32) (medit : Nat → Int32) (mgroups : Int32) (post : Int32 → (Nat → Int32) → (Nat → Int32) → Int32 → Int32 → (Nat → Int32) → Int32 → (Nat → Int32) → Prop) : Prop :=
  P_X9_isSaying x1 mnow mundoMany mtokens moneLong motherLong medits mgroups (fun r1 => (r1 = 0 → post (-1 : Int32) mone mother moneLong motherLong mfar medits medit) ∧ (¬ r1 = 0 → (P_X9_isSaying x2 mnow mundoMany mtokens moneLong motherLong medits mgroups (fun r2 => (¬ r2 = 0 → P_X9_findsEdits x1 x2 mnow mundoMany mtokens mone mother moneLong motherLong mfar medits medit mgroups (fun u3 u4 u5 u6 u7 u8 u9 => post u8 u3 u4 u5 u6 u7 u8 u9)) ∧ (r2 = 0 → post (-1 : Int32) mone mother moneLong motherLong mfar medits medit)))))
set_option maxHeartbeats 4000000 in
set_option maxRecDepth 100000 in
theorem c_X9_editCount (l : Launch) (D : va_G) (cI cS cT : ClassId) (ad : Nat → Nat) (b0 : Nat) (x1 : Int32) (x2 : Int32) (mnow : Nat → Int32) (mundoMany : Int32) (mtokens : Int32) (mone : Nat → Int32) (mother : Nat → Int32) (moneLong : Int32) (motherLong : Int32) (mfar : Nat → Int32) (medits : Int32) (medit : Nat → Int32) (mgroups : Int32) (post : Int32 → (Nat → Int32) → (Nat → Int32) → Int32 → Int32 → (Nat → Int32) → Int32 → (Nat → Int32) → Prop) (h : P_X9_editCount x1 x2 mnow mundoMany mtokens mone mother moneLong motherLong mfar medits medit mgroups post) : MI l D (TY cI cS cT) yX9_editCount cX9_editCount 3 (some .int) rm_X9_editCount [.ref (ad b0), .int x1, .int x2] (Wd_X9_editCount cI cS cT ad b0 mnow mundoMany mtokens mone mother moneLong motherLong mfar medits medit mgroups) (fun (r : Int32) w => ∃ (u_mone : Nat → Int32) (u_mother : Nat → Int32) (u_moneLong : Int32) (u_motherLong : Int32) (u_mfar : Nat → Int32) (u_medits : Int32) (u_medit : Nat → Int32), w = (Wd_X9_editCount cI cS cT ad b0 mnow mundoMany mtokens u_mone u_mother u_moneLong u_motherLong u_mfar u_medits u_medit mgroups) ∧ post r u_mone u_mother u_moneLong u_motherLong u_mfar u_medits u_medit) := by
  refine MI.of (by decide) (Nat.le_of_ble_eq_true rfl) (fun E hC hR hn => ?_)
  replace hC : Cx l D (TY cI cS cT) E rm_X9_editCount cX9_editCount RX9 := hC
  replace hR : RetI D E (fun (r : Int32) w => ∃ (u_mone : Nat → Int32) (u_mother : Nat → Int32) (u_moneLong : Int32) (u_motherLong : Int32) (u_mfar : Nat → Int32) (u_medits : Int32) (u_medit : Nat → Int32), w = (Wd_X9_editCount cI cS cT ad b0 mnow mundoMany mtokens u_mone u_mother u_moneLong u_motherLong u_mfar u_medits u_medit mgroups) ∧ post r u_mone u_mother u_moneLong u_motherLong u_mfar u_medits u_medit) 0 0 (some .int) := hR
  unfold P_X9_editCount at h
  change G l D E 0 0 _ [(0, .ref (ad b0)), (1, .int x1), (2, .int x2)] 0 []
  refine g_aload_n 0 0 hC dX9_editCount_0 rfl ?_
  refine g_iload_n 1 1 hC dX9_editCount_1 rfl ?_
  refine g_cVi (As := [.int x1]) (rest := []) 2 0 [0, 1] hC (c_X9_isSaying l D cI cS cT ad b0 x1 mnow mundoMany mtokens moneLong motherLong medits mgroups _ h) kX9_isSaying wq_215 dX9_editCount_2 rfl rfl ⟨Nat.le_of_ble_eq_true rfl, Nat.le_of_ble_eq_true rfl⟩ rfl rfl (Nat.zero_le _) (Nat.zero_le _) rfl rfl rfl (Nat.le_of_ble_eq_true rfl) ?_
  rintro r1 _ ⟨rfl, h⟩
  refine ⟨Nat.le_of_ble_eq_true rfl, G.upd [2, 3, 4, 5] (Wd_X9_editCount cI cS cT ad b0 mnow mundoMany mtokens mone mother moneLong motherLong mfar medits medit mgroups) rfl rfl rfl rfl rfl ?_⟩
  refine g_if_eq 5 16 hC dX9_editCount_5 (by decide) (fun hc => ?_) (fun hc => ?_)
  · replace h := h.1 hc
    refine g_iconst (v := (-1 : Int32)) 16 hC dX9_editCount_16 (by decide) ?_
    exact g_iret 17 hC hR dX9_editCount_17 ⟨mone, mother, moneLong, motherLong, mfar, medits, medit, rfl, h⟩
  · replace h := h.2 hc
    refine g_aload_n 8 0 hC dX9_editCount_8 rfl ?_
    refine g_iload_n 9 2 hC dX9_editCount_9 rfl ?_
    refine g_cVi (As := [.int x2]) (rest := []) 10 0 [0, 1] hC (c_X9_isSaying l D cI cS cT ad b0 x2 mnow mundoMany mtokens moneLong motherLong medits mgroups _ h) kX9_isSaying wq_215 dX9_editCount_10 rfl rfl ⟨Nat.le_of_ble_eq_true rfl, Nat.le_of_ble_eq_true rfl⟩ rfl rfl (Nat.zero_le _) (Nat.zero_le _) rfl rfl rfl (Nat.le_of_ble_eq_true rfl) ?_
    rintro r2 _ ⟨rfl, h⟩
    refine ⟨Nat.le_of_ble_eq_true rfl, G.upd [2, 3, 4, 5] (Wd_X9_editCount cI cS cT ad b0 mnow mundoMany mtokens mone mother moneLong motherLong mfar medits medit mgroups) rfl rfl rfl rfl rfl ?_⟩
    refine g_if_ne 13 18 hC dX9_editCount_13 (by decide) (fun hc => ?_) (fun hc => ?_)
    · replace h := h.1 hc
      refine g_aload_n 18 0 hC dX9_editCount_18 rfl ?_
      refine g_iload_n 19 1 hC dX9_editCount_19 rfl ?_
      refine g_iload_n 20 2 hC dX9_editCount_20 rfl ?_
      refine g_cVv (As := [.int x1, .int x2]) (rest := []) 21 0 [0, 1, 2, 3, 4, 5] hC (c_X9_findsEdits l D cI cS cT ad b0 x1 x2 mnow mundoMany mtokens mone mother moneLong motherLong mfar medits medit mgroups _ h) kX9_findsEdits wq_401 dX9_editCount_21 rfl rfl ⟨Nat.le_of_ble_eq_true rfl, Nat.le_of_ble_eq_true rfl⟩ rfl rfl (Nat.zero_le _) (Nat.zero_le _) rfl rfl rfl (Nat.le_of_ble_eq_true rfl) ?_
      rintro _ ⟨u3, u4, u5, u6, u7, u8, u9, rfl, h⟩
      refine ⟨Nat.le_of_ble_eq_true rfl, G.upd [] (Wd_X9_editCount cI cS cT ad b0 mnow mundoMany mtokens u3 u4 u5 u6 u7 u8 u9 mgroups) rfl rfl rfl rfl rfl ?_⟩
      refine g_aload_n 24 0 hC dX9_editCount_24 rfl ?_
      refine g_get 25 0 10 hC inlX9 wq_400 dX9_editCount_25 rfl rfl (by decide) rfl ?_
      exact g_iret 28 hC hR dX9_editCount_28 ⟨u3, u4, u5, u6, u7, u8, u9, rfl, h⟩
    · replace h := h.2 hc
      refine g_iconst (v := (-1 : Int32)) 16 hC dX9_editCount_16 (by decide) ?_
      exact g_iret 17 hC hR dX9_editCount_17 ⟨mone, mother, moneLong, motherLong, mfar, medits, medit, rfl, h⟩

/-! ===== ProverbCollectionModel.editAt(III)I ===== -/
def Wd_X9_editAt (cI cS cT : ClassId) (ad : Nat → Nat) (b0 : Nat) (mnow : Nat → Int32) (mundoMany : Int32) (mtokens : Int32) (mone : Nat → Int32) (mother : Nat → Int32) (moneLong : Int32) (motherLong : Int32) (mfar : Nat → Int32) (medits : Int32) (medit : Nat → Int32) (mgroups : Int32) : va_W := [(ad b0, .inr (9, [.ref (ad (b0 + 1)), .ref (ad (b0 + 2)), .int mundoMany, .int mtokens, .ref (ad (b0 + 3)), .ref (ad (b0 + 4)), .ref (ad (b0 + 5)), .int moneLong, .int motherLong, .ref (ad (b0 + 6)), .int medits, .ref (ad (b0 + 7)), .ref (ad (b0 + 8)), .ref (ad (b0 + 9)), .ref (ad (b0 + 10)), .int mgroups, .ref (ad (b0 + 11)), .ref (ad (b0 + 12))])), (ad (b0 + 1), .inl (cI, 193, .inl mnow)), (ad (b0 + 4), .inl (cI, 8, .inl mone)), (ad (b0 + 5), .inl (cI, 8, .inl mother)), (ad (b0 + 6), .inl (cI, 81, .inl mfar)), (ad (b0 + 7), .inl (cI, 16, .inl medit))]
def rm_X9_editAt : Room := { frames := 5, cells := 0, slots := 0, locals := 117 }
theorem kX9_editAt : KV yX9_editAt cX9_editAt 4 (some .int) 3 := ⟨wq_415, wq_5, wq_413, wq_414, by decide +kernel⟩
def P_X9_editAt (x1 : Int32) (x2 : Int32) (x3 : Int32) (mnow : Nat → Int32) (mundoMany : Int32) (mtokens : Int32) (mone : Nat → Int32) (mother : Nat → Int32) (moneLong : Int32) (motherLong : Int32) (mfar : Nat → Int32) (medits : Int32) (medit : Nat → Int32) (mgroups : Int32) (post : Int32 → (Nat → Int32) → (Nat → Int32) → Int32 → Int32 → (Nat → Int32) → Int32 → (Nat → Int32) → Prop) : Prop :=
  P_X9_isSaying x1 mnow mundoMany mtokens moneLong motherLong medits mgroups (fun r1 => (r1 = 0 → post (-1 : Int32) mone mother moneLong motherLong mfar medits medit) ∧ (¬ r1 = 0 → (P_X9_isSaying x2 mnow mundoMany mtokens moneLong motherLong medits mgroups (fun r2 => (r2 = 0 → post (-1 : Int32) mone mother moneLong motherLong mfar medits medit) ∧ (¬ r2 = 0 → ((0 ≤ x3 → (P_X9_findsEdits x1 x2 mnow mundoMany mtokens mone mother moneLong motherLong mfar medits medit mgroups (fun u3 u4 u5 u6 u7 u8 u9 => (u8 ≤ x3 → post (-4 : Int32) u3 u4 u5 u6 u7 u8 u9) ∧ (¬ u8 ≤ x3 → (vp_in ((u8 - (1 : Int32)) - x3) 16 ∧ (post (u9 (Int32.toNatClampNeg ((u8 - (1 : Int32)) - x3))) u3 u4 u5 u6 u7 u8 u9)))))) ∧ (¬ 0 ≤ x3 → post (-1 : Int32) mone mother moneLong motherLong mfar medits medit)))))))
set_option maxHeartbeats 4000000 in
set_option maxRecDepth 100000 in
theorem c_X9_editAt (l : Launch) (D : va_G) (cI cS cT : ClassId) (ad : Nat → Nat) (b0 : Nat) (x1 : Int32) (x2 : Int32) (x3 : Int32) (mnow : Nat → Int32) (mundoMany : Int32) (mtokens : Int32) (mone : Nat → Int32) (mother : Nat → Int32) (moneLong : Int32) (motherLong : Int32) (mfar : Nat → Int32) (medits : Int32) (medit : Nat → Int32) (mgroups : Int32) (post : Int32 → (Nat → Int32) → (Nat → Int32) → Int32 → Int32 → (Nat → Int32) → Int32 → (Nat → Int32) → Prop) (h : P_X9_editAt x1 x2 x3 mnow mundoMany mtokens mone mother moneLong motherLong mfar medits medit mgroups post) : MI l D (TY cI cS cT) yX9_editAt cX9_editAt 4 (some .int) rm_X9_editAt [.ref (ad b0), .int x1, .int x2, .int x3] (Wd_X9_editAt cI cS cT ad b0 mnow mundoMany mtokens mone mother moneLong motherLong mfar medits medit mgroups) (fun (r : Int32) w => ∃ (u_mone : Nat → Int32) (u_mother : Nat → Int32) (u_moneLong : Int32) (u_motherLong : Int32) (u_mfar : Nat → Int32) (u_medits : Int32) (u_medit : Nat → Int32), w = (Wd_X9_editAt cI cS cT ad b0 mnow mundoMany mtokens u_mone u_mother u_moneLong u_motherLong u_mfar u_medits u_medit mgroups) ∧ post r u_mone u_mother u_moneLong u_motherLong u_mfar u_medits u_medit) := by
  refine MI.of (by decide) (Nat.le_of_ble_eq_true rfl) (fun E hC hR hn => ?_)
  replace hC : Cx l D (TY cI cS cT) E rm_X9_editAt cX9_editAt RX9 := hC
  replace hR : RetI D E (fun (r : Int32) w => ∃ (u_mone : Nat → Int32) (u_mother : Nat → Int32) (u_moneLong : Int32) (u_motherLong : Int32) (u_mfar : Nat → Int32) (u_medits : Int32) (u_medit : Nat → Int32), w = (Wd_X9_editAt cI cS cT ad b0 mnow mundoMany mtokens u_mone u_mother u_moneLong u_motherLong u_mfar u_medits u_medit mgroups) ∧ post r u_mone u_mother u_moneLong u_motherLong u_mfar u_medits u_medit) 0 0 (some .int) := hR
  unfold P_X9_editAt at h
  change G l D E 0 0 _ [(0, .ref (ad b0)), (1, .int x1), (2, .int x2), (3, .int x3)] 0 []
  refine g_aload_n 0 0 hC dX9_editAt_0 rfl ?_
  refine g_iload_n 1 1 hC dX9_editAt_1 rfl ?_
  refine g_cVi (As := [.int x1]) (rest := []) 2 0 [0, 1] hC (c_X9_isSaying l D cI cS cT ad b0 x1 mnow mundoMany mtokens moneLong motherLong medits mgroups _ h) kX9_isSaying wq_215 dX9_editAt_2 rfl rfl ⟨Nat.le_of_ble_eq_true rfl, Nat.le_of_ble_eq_true rfl⟩ rfl rfl (Nat.zero_le _) (Nat.zero_le _) rfl rfl rfl (Nat.le_of_ble_eq_true rfl) ?_
  rintro r1 _ ⟨rfl, h⟩
  refine ⟨Nat.le_of_ble_eq_true rfl, G.upd [2, 3, 4, 5] (Wd_X9_editAt cI cS cT ad b0 mnow mundoMany mtokens mone mother moneLong motherLong mfar medits medit mgroups) rfl rfl rfl rfl rfl ?_⟩
  refine g_if_eq 5 20 hC dX9_editAt_5 (by decide) (fun hc => ?_) (fun hc => ?_)
  · replace h := h.1 hc
    refine g_iconst (v := (-1 : Int32)) 20 hC dX9_editAt_20 (by decide) ?_
    exact g_iret 21 hC hR dX9_editAt_21 ⟨mone, mother, moneLong, motherLong, mfar, medits, medit, rfl, h⟩
  · replace h := h.2 hc
    refine g_aload_n 8 0 hC dX9_editAt_8 rfl ?_
    refine g_iload_n 9 2 hC dX9_editAt_9 rfl ?_
    refine g_cVi (As := [.int x2]) (rest := []) 10 0 [0, 1] hC (c_X9_isSaying l D cI cS cT ad b0 x2 mnow mundoMany mtokens moneLong motherLong medits mgroups _ h) kX9_isSaying wq_215 dX9_editAt_10 rfl rfl ⟨Nat.le_of_ble_eq_true rfl, Nat.le_of_ble_eq_true rfl⟩ rfl rfl (Nat.zero_le _) (Nat.zero_le _) rfl rfl rfl (Nat.le_of_ble_eq_true rfl) ?_
    rintro r2 _ ⟨rfl, h⟩
    refine ⟨Nat.le_of_ble_eq_true rfl, G.upd [2, 3, 4, 5] (Wd_X9_editAt cI cS cT ad b0 mnow mundoMany mtokens mone mother moneLong motherLong mfar medits medit mgroups) rfl rfl rfl rfl rfl ?_⟩
    refine g_if_eq 13 20 hC dX9_editAt_13 (by decide) (fun hc => ?_) (fun hc => ?_)
    · replace h := h.1 hc
      refine g_iconst (v := (-1 : Int32)) 20 hC dX9_editAt_20 (by decide) ?_
      exact g_iret 21 hC hR dX9_editAt_21 ⟨mone, mother, moneLong, motherLong, mfar, medits, medit, rfl, h⟩
    · replace h := h.2 hc
      refine g_iload_n 16 3 hC dX9_editAt_16 rfl ?_
      refine g_if_ge 17 22 hC dX9_editAt_17 (by decide) (fun hc => ?_) (fun hc => ?_)
      · replace h := h.1 hc
        refine g_aload_n 22 0 hC dX9_editAt_22 rfl ?_
        refine g_iload_n 23 1 hC dX9_editAt_23 rfl ?_
        refine g_iload_n 24 2 hC dX9_editAt_24 rfl ?_
        refine g_cVv (As := [.int x1, .int x2]) (rest := []) 25 0 [0, 1, 2, 3, 4, 5] hC (c_X9_findsEdits l D cI cS cT ad b0 x1 x2 mnow mundoMany mtokens mone mother moneLong motherLong mfar medits medit mgroups _ h) kX9_findsEdits wq_401 dX9_editAt_25 rfl rfl ⟨Nat.le_of_ble_eq_true rfl, Nat.le_of_ble_eq_true rfl⟩ rfl rfl (Nat.zero_le _) (Nat.zero_le _) rfl rfl rfl (Nat.le_of_ble_eq_true rfl) ?_
        rintro _ ⟨u3, u4, u5, u6, u7, u8, u9, rfl, h⟩
        refine ⟨Nat.le_of_ble_eq_true rfl, G.upd [] (Wd_X9_editAt cI cS cT ad b0 mnow mundoMany mtokens u3 u4 u5 u6 u7 u8 u9 mgroups) rfl rfl rfl rfl rfl ?_⟩
        refine g_iload_n 28 3 hC dX9_editAt_28 rfl ?_
        refine g_aload_n 29 0 hC dX9_editAt_29 rfl ?_
        refine g_get 30 0 10 hC inlX9 wq_400 dX9_editAt_30 rfl rfl (by decide) rfl ?_
        refine g_icmp_ge 33 52 hC dX9_editAt_33 (by decide) (fun hc => ?_) (fun hc => ?_)
        · replace h := h.1 hc
          refine g_bipush (v := (-4 : Int32)) 52 hC dX9_editAt_52 (by decide) ?_
          exact g_iret 54 hC hR dX9_editAt_54 ⟨u3, u4, u5, u6, u7, u8, u9, rfl, h⟩
        · replace h := h.2 hc
          refine g_aload_n 36 0 hC dX9_editAt_36 rfl ?_
          refine g_get 37 0 11 hC inlX9 wq_110 dX9_editAt_37 rfl rfl (by decide) rfl ?_
          refine g_aload_n 40 0 hC dX9_editAt_40 rfl ?_
          refine g_get 41 0 10 hC inlX9 wq_400 dX9_editAt_41 rfl rfl (by decide) rfl ?_
          refine g_iconst (v := (1 : Int32)) 44 hC dX9_editAt_44 (by decide) ?_
          refine g_isub 45 hC dX9_editAt_45 ?_
          refine g_iload_n 46 3 hC dX9_editAt_46 rfl ?_
          refine g_isub 47 hC dX9_editAt_47 ?_
          obtain ⟨hj, h⟩ := h
          refine g_iald 48 5 hC dX9_editAt_48 rfl rfl hj ?_
          refine g_goto 49 54 hC dX9_editAt_49 (by decide) ?_
          exact g_iret 54 hC hR dX9_editAt_54 ⟨u3, u4, u5, u6, u7, u8, u9, rfl, h⟩
      · replace h := h.2 hc
        refine g_iconst (v := (-1 : Int32)) 20 hC dX9_editAt_20 (by decide) ?_
        exact g_iret 21 hC hR dX9_editAt_21 ⟨mone, mother, moneLong, motherLong, mfar, medits, medit, rfl, h⟩

/-! ===== ProverbCollectionModel.nearest(I)I ===== -/
def Wd_X9_nearest (cI cS cT : ClassId) (ad : Nat → Nat) (b0 : Nat) (mnow : Nat → Int32) (mundoMany : Int32) (mtokens : Int32) (mone : Nat → Int32) (mother : Nat → Int32) (moneLong : Int32) (motherLong : Int32) (mfar : Nat → Int32) (medits : Int32) (mgroups : Int32) : va_W := [(ad b0, .inr (9, [.ref (ad (b0 + 1)), .ref (ad (b0 + 2)), .int mundoMany, .int mtokens, .ref (ad (b0 + 3)), .ref (ad (b0 + 4)), .ref (ad (b0 + 5)), .int moneLong, .int motherLong, .ref (ad (b0 + 6)), .int medits, .ref (ad (b0 + 7)), .ref (ad (b0 + 8)), .ref (ad (b0 + 9)), .ref (ad (b0 + 10)), .int mgroups, .ref (ad (b0 + 11)), .ref (ad (b0 + 12))])), (ad (b0 + 1), .inl (cI, 193, .inl mnow)), (ad (b0 + 4), .inl (cI, 8, .inl mone)), (ad (b0 + 5), .inl (cI, 8, .inl mother)), (ad (b0 + 6), .inl (cI, 81, .inl mfar))]
def rm_X9_nearest : Room := { frames := 4, cells := 0, slots := 0, locals := 91 }
theorem kX9_nearest : KV yX9_nearest cX9_nearest 7 (some .int) 1 := ⟨wq_424, wq_5, wq_422, wq_423, by decide +kernel⟩
def B_X9_nearest_18 (v1 : Int32) (mnow : Nat → Int32) (mundoMany : Int32) (mtokens : Int32) (medits : Int32) (mgroups : Int32) (K : Int32 → Int32 → Int32 → (Nat → Int32) → (Nat → Int32) → Int32 → Int32 → (Nat → Int32) → Prop) (rc : Int32 → Int32 → Int32 → (Nat → Int32) → (Nat → Int32) → Int32 → Int32 → (Nat → Int32) → Prop) (v4 : Int32) (v3 : Int32) (v2 : Int32) (mone : Nat → Int32) (mother : Nat → Int32) (moneLong : Int32) (motherLong : Int32) (mfar : Nat → Int32) : Prop :=
  ((mnow (Int32.toNatClampNeg (0 : Int32))) ≤ v4 → K v4 v3 v2 mone mother moneLong motherLong mfar) ∧ (¬ (mnow (Int32.toNatClampNeg (0 : Int32))) ≤ v4 → (P_X9_atAge v4 mnow mundoMany mtokens moneLong motherLong medits mgroups (fun r2 => (¬ r2 = v1 → (P_X9_distanceOf v1 r2 mnow mundoMany mtokens mone mother moneLong motherLong mfar medits mgroups (fun r8 u3 u4 u5 u6 u7 => (r2 = v1 → rc (v4 + (1 : Int32)) v3 v2 u3 u4 u5 u6 u7) ∧ (¬ r2 = v1 → ((v2 < 0 → rc (v4 + (1 : Int32)) r8 r2 u3 u4 u5 u6 u7) ∧ (¬ v2 < 0 → ((v3 ≤ r8 → rc (v4 + (1 : Int32)) v3 v2 u3 u4 u5 u6 u7) ∧ (¬ v3 ≤ r8 → rc (v4 + (1 : Int32)) r8 r2 u3 u4 u5 u6 u7)))))))) ∧ (r2 = v1 → ((r2 = v1 → rc (v4 + (1 : Int32)) v3 v2 mone mother moneLong motherLong mfar) ∧ (¬ r2 = v1 → ((v2 < 0 → rc (v4 + (1 : Int32)) (0 : Int32) r2 mone mother moneLong motherLong mfar) ∧ (¬ v2 < 0 → ((v3 ≤ (0 : Int32) → rc (v4 + (1 : Int32)) v3 v2 mone mother moneLong motherLong mfar) ∧ (¬ v3 ≤ (0 : Int32) → rc (v4 + (1 : Int32)) (0 : Int32) r2 mone mother moneLong motherLong mfar))))))))))
def P_X9_nearest_18 (v1 : Int32) (mnow : Nat → Int32) (mundoMany : Int32) (mtokens : Int32) (medits : Int32) (mgroups : Int32) (K : Int32 → Int32 → Int32 → (Nat → Int32) → (Nat → Int32) → Int32 → Int32 → (Nat → Int32) → Prop) : Nat → Int32 → Int32 → Int32 → (Nat → Int32) → (Nat → Int32) → Int32 → Int32 → (Nat → Int32) → Prop
  | 0 => fun _ _ _ _ _ _ _ _ => False
  | n + 1 => fun v4 v3 v2 mone mother moneLong motherLong mfar => B_X9_nearest_18 v1 mnow mundoMany mtokens medits mgroups K (P_X9_nearest_18 v1 mnow mundoMany mtokens medits mgroups K n) v4 v3 v2 mone mother moneLong motherLong mfar
def P_X9_nearest (x1 : Int32) (mnow : Nat → Int32) (mundoMany : Int32) (mtokens : Int32) (mone : Nat → Int32) (mother : Nat → Int32) (moneLong : Int32) (motherLong : Int32) (mfar : Nat → Int32) (medits : Int32) (mgroups : Int32) (post : Int32 → (Nat → Int32) → (Nat → Int32) → Int32 → Int32 → (Nat → Int32) → Prop) : Prop :=
  P_X9_isSaying x1 mnow mundoMany mtokens moneLong motherLong medits mgroups (fun r1 => (¬ r1 = 0 → (∃ n : Nat, P_X9_nearest_18 x1 mnow mundoMany mtokens medits mgroups (fun w4_9 w3_9 w2_9 mone_9 mother_9 moneLong_9 motherLong_9 mfar_9 => post w2_9 mone_9 mother_9 moneLong_9 motherLong_9 mfar_9) n (0 : Int32) (0 : Int32) (-4 : Int32) mone mother moneLong motherLong mfar)) ∧ (r1 = 0 → post (-1 : Int32) mone mother moneLong motherLong mfar))
set_option maxHeartbeats 4000000 in
set_option maxRecDepth 100000 in
theorem L_X9_nearest_18 {l : Launch} {D : va_G} {cI cS cT : ClassId} {ad : Nat → Nat} {b0 : Nat} {E : CE} {v1 : Int32} {mnow : Nat → Int32} {mundoMany : Int32} {mtokens : Int32} {medits : Int32} {mgroups : Int32} {post : Int32 → (Nat → Int32) → (Nat → Int32) → Int32 → Int32 → (Nat → Int32) → Prop} (hC : Cx l D (TY cI cS cT) E rm_X9_nearest cX9_nearest RX9) (hR : RetI D E (fun (r : Int32) w => ∃ (u_mone : Nat → Int32) (u_mother : Nat → Int32) (u_moneLong : Int32) (u_motherLong : Int32) (u_mfar : Nat → Int32), w = (Wd_X9_nearest cI cS cT ad b0 mnow mundoMany mtokens u_mone u_mother u_moneLong u_motherLong u_mfar medits mgroups) ∧ post r u_mone u_mother u_moneLong u_motherLong u_mfar) 0 0 (some .int)) (hn : E.nL = 7) (K : Int32 → Int32 → Int32 → (Nat → Int32) → (Nat → Int32) → Int32 → Int32 → (Nat → Int32) → Prop) (hK : ∀ (v4 : Int32) (v3 : Int32) (v2 : Int32) (mone : Nat → Int32) (mother : Nat → Int32) (moneLong : Int32) (motherLong : Int32) (mfar : Nat → Int32), K v4 v3 v2 mone mother moneLong motherLong mfar → G l D E 0 0 (Wd_X9_nearest cI cS cT ad b0 mnow mundoMany mtokens mone mother moneLong motherLong mfar medits mgroups) [(4, .int v4), (3, .int v3), (2, .int v2), (0, .ref (ad b0)), (1, .int v1)] 84 []) : ∀ (n : Nat) (v4 : Int32) (v3 : Int32) (v2 : Int32) (mone : Nat → Int32) (mother : Nat → Int32) (moneLong : Int32) (motherLong : Int32) (mfar : Nat → Int32), P_X9_nearest_18 v1 mnow mundoMany mtokens medits mgroups K n v4 v3 v2 mone mother moneLong motherLong mfar → G l D E 0 0 (Wd_X9_nearest cI cS cT ad b0 mnow mundoMany mtokens mone mother moneLong motherLong mfar medits mgroups) [(4, .int v4), (3, .int v3), (2, .int v2), (0, .ref (ad b0)), (1, .int v1)] 18 [] := by
  intro n
  induction n with
  | zero => exact fun _ _ _ _ _ _ _ _ h => h.elim
  | succ n ih =>
    intro v4 v3 v2 mone mother moneLong motherLong mfar h
    replace h : B_X9_nearest_18 v1 mnow mundoMany mtokens medits mgroups K (P_X9_nearest_18 v1 mnow mundoMany mtokens medits mgroups K n) v4 v3 v2 mone mother moneLong motherLong mfar := h
    unfold B_X9_nearest_18 at h
    refine g_iload 18 0 hC dX9_nearest_18 rfl ?_
    refine g_aload_n 20 3 hC dX9_nearest_20 rfl ?_
    refine g_get 21 0 0 hC inlX9 wq_104 dX9_nearest_21 rfl rfl (by decide) rfl ?_
    refine g_iconst (v := (0 : Int32)) 24 hC dX9_nearest_24 (by decide) ?_
    refine g_iald 25 1 hC dX9_nearest_25 rfl rfl (by unfold vp_in; decide) ?_
    refine g_icmp_ge 26 84 hC dX9_nearest_26 (by decide) (fun hc => ?_) (fun hc => ?_)
    · replace h := h.1 hc
      refine G.sub [0, 1, 2, 3, 4] rfl ?_
      exact hK v4 v3 v2 mone mother moneLong motherLong mfar h
    · replace h := h.2 hc
      refine g_aload_n 29 3 hC dX9_nearest_29 rfl ?_
      refine g_iload 30 0 hC dX9_nearest_30 rfl ?_
      refine g_cVi (As := [.int v4]) (rest := []) 32 0 [0, 1] hC (c_X9_atAge l D cI cS cT ad b0 v4 mnow mundoMany mtokens moneLong motherLong medits mgroups _ h) kX9_atAge wq_268 dX9_nearest_32 rfl rfl ⟨Nat.le_of_ble_eq_true rfl, Nat.le_of_ble_eq_true rfl⟩ rfl rfl (Nat.zero_le _) (Nat.zero_le _) rfl rfl rfl (Nat.le_of_ble_eq_true rfl) ?_
      rintro r2 _ ⟨rfl, h⟩
      refine ⟨Nat.le_of_ble_eq_true rfl, G.upd [2, 3, 4] (Wd_X9_nearest cI cS cT ad b0 mnow mundoMany mtokens mone mother moneLong motherLong mfar medits mgroups) rfl rfl rfl rfl rfl ?_⟩
      refine g_istore 35 [(5, .int r2), (4, .int v4), (3, .int v3), (2, .int v2), (0, .ref (ad b0)), (1, .int v1)] hC dX9_nearest_35 (by rw [hn]; decide) rfl ?_
      refine g_iload 37 0 hC dX9_nearest_37 rfl ?_
      refine g_iload_n 39 5 hC dX9_nearest_39 rfl ?_
      refine g_icmp_ne 40 47 hC dX9_nearest_40 (by decide) (fun hc => ?_) (fun hc => ?_)
      · replace h := h.1 hc
        refine g_aload_n 47 4 hC dX9_nearest_47 rfl ?_
        refine g_iload_n 48 5 hC dX9_nearest_48 rfl ?_
        refine g_iload 49 0 hC dX9_nearest_49 rfl ?_
        refine g_cVi (As := [.int v1, .int r2]) (rest := []) 51 0 [0, 1, 2, 3, 4] hC (c_X9_distanceOf l D cI cS cT ad b0 v1 r2 mnow mundoMany mtokens mone mother moneLong motherLong mfar medits mgroups _ h) kX9_distanceOf wq_323 dX9_nearest_51 rfl rfl ⟨Nat.le_of_ble_eq_true rfl, Nat.le_of_ble_eq_true rfl⟩ rfl rfl (Nat.zero_le _) (Nat.zero_le _) rfl rfl rfl (Nat.le_of_ble_eq_true rfl) ?_
        rintro r8 _ ⟨u3, u4, u5, u6, u7, rfl, h⟩
        refine ⟨Nat.le_of_ble_eq_true rfl, G.upd [] (Wd_X9_nearest cI cS cT ad b0 mnow mundoMany mtokens u3 u4 u5 u6 u7 medits mgroups) rfl rfl rfl rfl rfl ?_⟩
        refine g_istore 54 [(6, .int r8), (5, .int r2), (4, .int v4), (3, .int v3), (2, .int v2), (0, .ref (ad b0)), (1, .int v1)] hC dX9_nearest_54 (by rw [hn]; decide) rfl ?_
        refine g_iload 56 1 hC dX9_nearest_56 rfl ?_
        refine g_iload_n 58 6 hC dX9_nearest_58 rfl ?_
        refine g_icmp_eq 59 78 hC dX9_nearest_59 (by decide) (fun hc => ?_) (fun hc => ?_)
        · replace h := h.1 hc
          refine g_iinc (v := (1 : Int32)) 78 2 [(4, .int (v4 + (1 : Int32))), (6, .int r8), (5, .int r2), (3, .int v3), (2, .int v2), (0, .ref (ad b0)), (1, .int v1)] hC dX9_nearest_78 rfl (by decide) (by rw [hn]; decide) rfl ?_
          refine g_goto 81 18 hC dX9_nearest_81 (by decide) ?_
          refine G.sub [0, 3, 4, 5, 6] rfl ?_
          exact ih _ _ _ _ _ _ _ _ h
        · replace h := h.2 hc
          refine g_iload_n 62 4 hC dX9_nearest_62 rfl ?_
          refine g_if_lt 63 72 hC dX9_nearest_63 (by decide) (fun hc => ?_) (fun hc => ?_)
          · replace h := h.1 hc
            refine g_iload 72 1 hC dX9_nearest_72 rfl ?_
            refine g_istore_n 74 [(2, .int r2), (6, .int r8), (5, .int r2), (4, .int v4), (3, .int v3), (0, .ref (ad b0)), (1, .int v1)] hC dX9_nearest_74 (by rw [hn]; decide) rfl ?_
            refine g_iload 75 1 hC dX9_nearest_75 rfl ?_
            refine g_istore_n 77 [(3, .int r8), (2, .int r2), (6, .int r8), (5, .int r2), (4, .int v4), (0, .ref (ad b0)), (1, .int v1)] hC dX9_nearest_77 (by rw [hn]; decide) rfl ?_
            refine g_iinc (v := (1 : Int32)) 78 4 [(4, .int (v4 + (1 : Int32))), (3, .int r8), (2, .int r2), (6, .int r8), (5, .int r2), (0, .ref (ad b0)), (1, .int v1)] hC dX9_nearest_78 rfl (by decide) (by rw [hn]; decide) rfl ?_
            refine g_goto 81 18 hC dX9_nearest_81 (by decide) ?_
            refine G.sub [0, 1, 2, 5, 6] rfl ?_
            exact ih _ _ _ _ _ _ _ _ h
          · replace h := h.2 hc
            refine g_iload 66 0 hC dX9_nearest_66 rfl ?_
            refine g_iload_n 68 3 hC dX9_nearest_68 rfl ?_
            refine g_icmp_ge 69 78 hC dX9_nearest_69 (by decide) (fun hc => ?_) (fun hc => ?_)
            · replace h := h.1 hc
              refine g_iinc (v := (1 : Int32)) 78 2 [(4, .int (v4 + (1 : Int32))), (6, .int r8), (5, .int r2), (3, .int v3), (2, .int v2), (0, .ref (ad b0)), (1, .int v1)] hC dX9_nearest_78 rfl (by decide) (by rw [hn]; decide) rfl ?_
              refine g_goto 81 18 hC dX9_nearest_81 (by decide) ?_
              refine G.sub [0, 3, 4, 5, 6] rfl ?_
              exact ih _ _ _ _ _ _ _ _ h
            · replace h := h.2 hc
              refine g_iload 72 1 hC dX9_nearest_72 rfl ?_
              refine g_istore_n 74 [(2, .int r2), (6, .int r8), (5, .int r2), (4, .int v4), (3, .int v3), (0, .ref (ad b0)), (1, .int v1)] hC dX9_nearest_74 (by rw [hn]; decide) rfl ?_
              refine g_iload 75 1 hC dX9_nearest_75 rfl ?_
              refine g_istore_n 77 [(3, .int r8), (2, .int r2), (6, .int r8), (5, .int r2), (4, .int v4), (0, .ref (ad b0)), (1, .int v1)] hC dX9_nearest_77 (by rw [hn]; decide) rfl ?_
              refine g_iinc (v := (1 : Int32)) 78 4 [(4, .int (v4 + (1 : Int32))), (3, .int r8), (2, .int r2), (6, .int r8), (5, .int r2), (0, .ref (ad b0)), (1, .int v1)] hC dX9_nearest_78 rfl (by decide) (by rw [hn]; decide) rfl ?_
              refine g_goto 81 18 hC dX9_nearest_81 (by decide) ?_
              refine G.sub [0, 1, 2, 5, 6] rfl ?_
              exact ih _ _ _ _ _ _ _ _ h
      · replace h := h.2 hc
        refine g_iconst (v := (0 : Int32)) 43 hC dX9_nearest_43 (by decide) ?_
        refine g_goto 44 54 hC dX9_nearest_44 (by decide) ?_
        refine g_istore 54 [(6, .int (0 : Int32)), (5, .int r2), (4, .int v4), (3, .int v3), (2, .int v2), (0, .ref (ad b0)), (1, .int v1)] hC dX9_nearest_54 (by rw [hn]; decide) rfl ?_
        refine g_iload 56 1 hC dX9_nearest_56 rfl ?_
        refine g_iload_n 58 6 hC dX9_nearest_58 rfl ?_
        refine g_icmp_eq 59 78 hC dX9_nearest_59 (by decide) (fun hc => ?_) (fun hc => ?_)
        · replace h := h.1 hc
          refine g_iinc (v := (1 : Int32)) 78 2 [(4, .int (v4 + (1 : Int32))), (6, .int (0 : Int32)), (5, .int r2), (3, .int v3), (2, .int v2), (0, .ref (ad b0)), (1, .int v1)] hC dX9_nearest_78 rfl (by decide) (by rw [hn]; decide) rfl ?_
          refine g_goto 81 18 hC dX9_nearest_81 (by decide) ?_
          refine G.sub [0, 3, 4, 5, 6] rfl ?_
          exact ih _ _ _ _ _ _ _ _ h
        · replace h := h.2 hc
          refine g_iload_n 62 4 hC dX9_nearest_62 rfl ?_
          refine g_if_lt 63 72 hC dX9_nearest_63 (by decide) (fun hc => ?_) (fun hc => ?_)
          · replace h := h.1 hc
            refine g_iload 72 1 hC dX9_nearest_72 rfl ?_
            refine g_istore_n 74 [(2, .int r2), (6, .int (0 : Int32)), (5, .int r2), (4, .int v4), (3, .int v3), (0, .ref (ad b0)), (1, .int v1)] hC dX9_nearest_74 (by rw [hn]; decide) rfl ?_
            refine g_iload 75 1 hC dX9_nearest_75 rfl ?_
            refine g_istore_n 77 [(3, .int (0 : Int32)), (2, .int r2), (6, .int (0 : Int32)), (5, .int r2), (4, .int v4), (0, .ref (ad b0)), (1, .int v1)] hC dX9_nearest_77 (by rw [hn]; decide) rfl ?_
            refine g_iinc (v := (1 : Int32)) 78 4 [(4, .int (v4 + (1 : Int32))), (3, .int (0 : Int32)), (2, .int r2), (6, .int (0 : Int32)), (5, .int r2), (0, .ref (ad b0)), (1, .int v1)] hC dX9_nearest_78 rfl (by decide) (by rw [hn]; decide) rfl ?_
            refine g_goto 81 18 hC dX9_nearest_81 (by decide) ?_
            refine G.sub [0, 1, 2, 5, 6] rfl ?_
            exact ih _ _ _ _ _ _ _ _ h
          · replace h := h.2 hc
            refine g_iload 66 0 hC dX9_nearest_66 rfl ?_
            refine g_iload_n 68 3 hC dX9_nearest_68 rfl ?_
            refine g_icmp_ge 69 78 hC dX9_nearest_69 (by decide) (fun hc => ?_) (fun hc => ?_)
            · replace h := h.1 hc
              refine g_iinc (v := (1 : Int32)) 78 2 [(4, .int (v4 + (1 : Int32))), (6, .int (0 : Int32)), (5, .int r2), (3, .int v3), (2, .int v2), (0, .ref (ad b0)), (1, .int v1)] hC dX9_nearest_78 rfl (by decide) (by rw [hn]; decide) rfl ?_
              refine g_goto 81 18 hC dX9_nearest_81 (by decide) ?_
              refine G.sub [0, 3, 4, 5, 6] rfl ?_
              exact ih _ _ _ _ _ _ _ _ h
            · replace h := h.2 hc
              refine g_iload 72 1 hC dX9_nearest_72 rfl ?_
              refine g_istore_n 74 [(2, .int r2), (6, .int (0 : Int32)), (5, .int r2), (4, .int v4), (3, .int v3), (0, .ref (ad b0)), (1, .int v1)] hC dX9_nearest_74 (by rw [hn]; decide) rfl ?_
              refine g_iload 75 1 hC dX9_nearest_75 rfl ?_
              refine g_istore_n 77 [(3, .int (0 : Int32)), (2, .int r2), (6, .int (0 : Int32)), (5, .int r2), (4, .int v4), (0, .ref (ad b0)), (1, .int v1)] hC dX9_nearest_77 (by rw [hn]; decide) rfl ?_
              refine g_iinc (v := (1 : Int32)) 78 4 [(4, .int (v4 + (1 : Int32))), (3, .int (0 : Int32)), (2, .int r2), (6, .int (0 : Int32)), (5, .int r2), (0, .ref (ad b0)), (1, .int v1)] hC dX9_nearest_78 rfl (by decide) (by rw [hn]; decide) rfl ?_
              refine g_goto 81 18 hC dX9_nearest_81 (by decide) ?_
              refine G.sub [0, 1, 2, 5, 6] rfl ?_
              exact ih _ _ _ _ _ _ _ _ h
set_option maxHeartbeats 4000000 in
set_option maxRecDepth 100000 in
theorem c_X9_nearest (l : Launch) (D : va_G) (cI cS cT : ClassId) (ad : Nat → Nat) (b0 : Nat) (x1 : Int32) (mnow : Nat → Int32) (mundoMany : Int32) (mtokens : Int32) (mone : Nat → Int32) (mother : Nat → Int32) (moneLong : Int32) (motherLong : Int32) (mfar : Nat → Int32) (medits : Int32) (mgroups : Int32) (post : Int32 → (Nat → Int32) → (Nat → Int32) → Int32 → Int32 → (Nat → Int32) → Prop) (h : P_X9_nearest x1 mnow mundoMany mtokens mone mother moneLong motherLong mfar medits mgroups post) : MI l D (TY cI cS cT) yX9_nearest cX9_nearest 7 (some .int) rm_X9_nearest [.ref (ad b0), .int x1] (Wd_X9_nearest cI cS cT ad b0 mnow mundoMany mtokens mone mother moneLong motherLong mfar medits mgroups) (fun (r : Int32) w => ∃ (u_mone : Nat → Int32) (u_mother : Nat → Int32) (u_moneLong : Int32) (u_motherLong : Int32) (u_mfar : Nat → Int32), w = (Wd_X9_nearest cI cS cT ad b0 mnow mundoMany mtokens u_mone u_mother u_moneLong u_motherLong u_mfar medits mgroups) ∧ post r u_mone u_mother u_moneLong u_motherLong u_mfar) := by
  refine MI.of (by decide) (Nat.le_of_ble_eq_true rfl) (fun E hC hR hn => ?_)
  replace hC : Cx l D (TY cI cS cT) E rm_X9_nearest cX9_nearest RX9 := hC
  replace hR : RetI D E (fun (r : Int32) w => ∃ (u_mone : Nat → Int32) (u_mother : Nat → Int32) (u_moneLong : Int32) (u_motherLong : Int32) (u_mfar : Nat → Int32), w = (Wd_X9_nearest cI cS cT ad b0 mnow mundoMany mtokens u_mone u_mother u_moneLong u_motherLong u_mfar medits mgroups) ∧ post r u_mone u_mother u_moneLong u_motherLong u_mfar) 0 0 (some .int) := hR
  unfold P_X9_nearest at h
  change G l D E 0 0 _ [(0, .ref (ad b0)), (1, .int x1)] 0 []
  refine g_aload_n 0 0 hC dX9_nearest_0 rfl ?_
  refine g_iload_n 1 1 hC dX9_nearest_1 rfl ?_
  refine g_cVi (As := [.int x1]) (rest := []) 2 0 [0, 1] hC (c_X9_isSaying l D cI cS cT ad b0 x1 mnow mundoMany mtokens moneLong motherLong medits mgroups _ h) kX9_isSaying wq_215 dX9_nearest_2 rfl rfl ⟨Nat.le_of_ble_eq_true rfl, Nat.le_of_ble_eq_true rfl⟩ rfl rfl (Nat.zero_le _) (Nat.zero_le _) rfl rfl rfl (Nat.le_of_ble_eq_true rfl) ?_
  rintro r1 _ ⟨rfl, h⟩
  refine ⟨Nat.le_of_ble_eq_true rfl, G.upd [2, 3, 4] (Wd_X9_nearest cI cS cT ad b0 mnow mundoMany mtokens mone mother moneLong motherLong mfar medits mgroups) rfl rfl rfl rfl rfl ?_⟩
  refine g_if_ne 5 10 hC dX9_nearest_5 (by decide) (fun hc => ?_) (fun hc => ?_)
  · replace h := h.1 hc
    refine g_bipush (v := (-4 : Int32)) 10 hC dX9_nearest_10 (by decide) ?_
    refine g_istore_n 12 [(2, .int (-4 : Int32)), (0, .ref (ad b0)), (1, .int x1)] hC dX9_nearest_12 (by rw [hn]; decide) rfl ?_
    refine g_iconst (v := (0 : Int32)) 13 hC dX9_nearest_13 (by decide) ?_
    refine g_istore_n 14 [(3, .int (0 : Int32)), (2, .int (-4 : Int32)), (0, .ref (ad b0)), (1, .int x1)] hC dX9_nearest_14 (by rw [hn]; decide) rfl ?_
    refine g_iconst (v := (0 : Int32)) 15 hC dX9_nearest_15 (by decide) ?_
    refine g_istore 16 [(4, .int (0 : Int32)), (3, .int (0 : Int32)), (2, .int (-4 : Int32)), (0, .ref (ad b0)), (1, .int x1)] hC dX9_nearest_16 (by rw [hn]; decide) rfl ?_
    obtain ⟨n, h⟩ := h
    refine L_X9_nearest_18 hC hR hn _ (fun w4_9 w3_9 w2_9 mone_9 mother_9 moneLong_9 motherLong_9 mfar_9 h => ?_) n _ _ _ _ _ _ _ _ h
    refine g_iload_n 84 2 hC dX9_nearest_84 rfl ?_
    exact g_iret 85 hC hR dX9_nearest_85 ⟨mone_9, mother_9, moneLong_9, motherLong_9, mfar_9, rfl, h⟩
  · replace h := h.2 hc
    refine g_iconst (v := (-1 : Int32)) 8 hC dX9_nearest_8 (by decide) ?_
    exact g_iret 9 hC hR dX9_nearest_9 ⟨mone, mother, moneLong, motherLong, mfar, rfl, h⟩
