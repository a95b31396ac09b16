/-! ===== constructors, by wip/p31/gen/ctor.py ===== -/
def iCo : Nat → Int32 := (upd (upd (upd (upd (fun _ => 0) (Int32.toNatClampNeg (0 : Int32)) (2 : Int32)) (Int32.toNatClampNeg (1 : Int32)) (3 : Int32)) (Int32.toNatClampNeg (2 : Int32)) (1 : Int32)) (Int32.toNatClampNeg (3 : Int32)) (2 : Int32))
def Wf_X5 (cI cS cT : ClassId) (ad : Nat → Nat) (b0 : Nat) (ln : Int32) (tk : Nat → Int32) : va_W := [(ad b0, .inr (5, [.ref (ad (b0 + 1)), .int ln])), (ad (b0 + 1), .inl (cI, 8, .inl tk))]
def rm_X5_init : Room := { frames := 1, cells := 1, slots := 8, locals := 12 }
set_option maxHeartbeats 4000000 in
set_option maxRecDepth 100000 in
theorem c_X5_init (l : Launch) (D : va_G) (cI cS cT : ClassId) (a : Nat) : MC l D (TY cI cS cT) yX5_init cX5_init 1 rm_X5_init [.ref a] [(a, .inr (5, [.null, .int 0]))] (fun w => ∃ ad : Nat → Nat, ad 0 = a ∧ w = Wf_X5 cI cS cT ad 0 0 (fun _ => 0)) := by
  refine MC.of (by decide) (Nat.le_of_ble_eq_true rfl) (fun E hC hO hR hn hm => ?_)
  replace hC : Cx l D (TY cI cS cT) E rm_X5_init cX5_init RX5 := hC
  replace hR : RetV D E (fun w => ∃ ad : Nat → Nat, ad 0 = a ∧ w = Wf_X5 cI cS cT ad 0 0 (fun _ => 0)) 1 8 := hR
  replace hm : E.meth.name = "<init>" := hm
  change G l D E 0 0 _ [(0, .ref a)] 0 []
  refine g_aload_n 0 0 hC dX5_init_0 rfl ?_
  refine g_objInit 1 hC wq_41 dX5_init_1 (Nat.le_of_ble_eq_true rfl) (Nat.le_of_ble_eq_true rfl) ?_
  refine g_aload_n 4 0 hC dX5_init_4 rfl ?_
  refine g_bipush (v := (8 : Int32)) 5 hC dX5_init_5 (by decide) ?_
  refine g_newa (cI := cI) (N := 8) 7 hC dX5_init_7 rfl (by decide) (by decide) (by decide) (by first | exact Nat.le_of_ble_eq_true rfl | (simp only [rm_X6_init]; omega)) (by first | exact Nat.le_of_ble_eq_true rfl | (simp only [rm_X6_init]; omega)) (fun q1 => ?_)
  refine g_putF 9 0 0 ([(a, .inr (5, [.ref q1, .int 0]))] ++ [(q1, .inl (cI, 8, .inl (fun _ => 0)))]) hC hm inlX5 tyX5_ok nmX5 wq_42 dX5_init_9 rfl rfl (by decide) rfl rfl (fty := (.array .int)) rfl rfl rfl (Nat.le_of_ble_eq_true rfl) rfl ?_
  exact g_vret 12 hC hR dX5_init_12 ⟨(fun i => if i < 1 then a else q1), rfl, rfl⟩

def Wf_X6 (cI cS cT : ClassId) (ad : Nat → Nat) (b0 : Nat) (mo : Int32) (NT : Nat) (NL : Nat) (ct : Int32) (tk : Nat → Int32) (le : Nat → Int32) : va_W := [(ad b0, .inr (6, [.int mo, .ref (ad (b0 + 1)), .ref (ad (b0 + 2)), .int ct])), (ad (b0 + 1), .inl (cI, NT, .inl tk)), (ad (b0 + 2), .inl (cI, NL, .inl le))]
def rm_X6_init (NT NL : Nat) : Room := { frames := 1, cells := 2, slots := NT + NL, locals := 13 }
set_option maxHeartbeats 4000000 in
set_option maxRecDepth 100000 in
theorem c_X6_init (l : Launch) (D : va_G) (cI cS cT : ClassId) (a : Nat) (m : Int32) (NT NL : Nat) (h1 : ¬ m * 8 < 0) (h2 : (m * 8).toNatClampNeg = NT) (h3 : ¬ m < 0) (h4 : m.toNatClampNeg = NL) (hb1 : NT * 4 ≤ 536870912) (hb2 : NL * 4 ≤ 536870912) : MC l D (TY cI cS cT) yX6_init cX6_init 2 (rm_X6_init NT NL) [.ref a, .int m] [(a, .inr (6, [.int 0, .null, .null, .int 0]))] (fun w => ∃ ad : Nat → Nat, ad 0 = a ∧ w = Wf_X6 cI cS cT ad 0 m NT NL 0 (fun _ => 0) (fun _ => 0)) := by
  refine MC.of (by decide) (Nat.le_of_ble_eq_true rfl) (fun E hC hO hR hn hm => ?_)
  replace hC : Cx l D (TY cI cS cT) E (rm_X6_init NT NL) cX6_init RX6 := hC
  replace hR : RetV D E (fun w => ∃ ad : Nat → Nat, ad 0 = a ∧ w = Wf_X6 cI cS cT ad 0 m NT NL 0 (fun _ => 0) (fun _ => 0)) 2 (NT + NL) := hR
  replace hm : E.meth.name = "<init>" := hm
  change G l D E 0 0 _ [(0, .ref a), (1, .int m)] 0 []
  refine g_aload_n 0 0 hC dX6_init_0 rfl ?_
  refine g_objInit 1 hC wq_57 dX6_init_1 (Nat.le_of_ble_eq_true rfl) (Nat.le_of_ble_eq_true rfl) ?_
  refine g_aload_n 4 0 hC dX6_init_4 rfl ?_
  refine g_iload_n 5 1 hC dX6_init_5 rfl ?_
  refine g_putF 6 0 0 ([(a, .inr (6, [.int m, .null, .null, .int 0]))]) hC hm inlX6 tyX6_ok nmX6 wq_58 dX6_init_6 rfl rfl (by decide) rfl rfl (fty := .int) rfl rfl rfl (Nat.le_of_ble_eq_true rfl) rfl ?_
  refine g_aload_n 9 0 hC dX6_init_9 rfl ?_
  refine g_iload_n 10 1 hC dX6_init_10 rfl ?_
  refine g_bipush (v := (8 : Int32)) 11 hC dX6_init_11 (by decide) ?_
  refine g_imul 13 hC dX6_init_13 ?_
  refine g_newa (cI := cI) (N := NT) 14 hC dX6_init_14 rfl h1 h2 hb1 (by first | exact Nat.le_of_ble_eq_true rfl | (simp only [rm_X6_init]; omega)) (by first | exact Nat.le_of_ble_eq_true rfl | (simp only [rm_X6_init]; omega)) (fun q1 => ?_)
  refine g_putF 16 0 1 ([(a, .inr (6, [.int m, .ref q1, .null, .int 0]))] ++ [(q1, .inl (cI, NT, .inl (fun _ => 0)))]) hC hm inlX6 tyX6_ok nmX6 wq_59 dX6_init_16 rfl rfl (by decide) rfl rfl (fty := (.array .int)) rfl rfl rfl (Nat.le_of_ble_eq_true rfl) rfl ?_
  refine g_aload_n 19 0 hC dX6_init_19 rfl ?_
  refine g_iload_n 20 1 hC dX6_init_20 rfl ?_
  refine g_newa (cI := cI) (N := NL) 21 hC dX6_init_21 rfl h3 h4 hb2 (by first | exact Nat.le_of_ble_eq_true rfl | (simp only [rm_X6_init]; omega)) (by first | exact Nat.le_of_ble_eq_true rfl | (simp only [rm_X6_init]; omega)) (fun q2 => ?_)
  refine g_putF 23 0 2 ([(a, .inr (6, [.int m, .ref q1, .ref q2, .int 0]))] ++ [(q1, .inl (cI, NT, .inl (fun _ => 0)))] ++ [(q2, .inl (cI, NL, .inl (fun _ => 0)))]) hC hm inlX6 tyX6_ok nmX6 wq_60 dX6_init_23 rfl rfl (by decide) rfl rfl (fty := (.array .int)) rfl rfl rfl (Nat.le_of_ble_eq_true rfl) rfl ?_
  refine G.kn (k2 := 2) (n2 := NT + NL) rfl (by omega) ?_
  exact g_vret 26 hC hR dX6_init_26 ⟨(fun i => if i < 1 then a else if i < 2 then q1 else q2), rfl, rfl⟩

def Wf_X7 (cI cS cT : ClassId) (ad : Nat → Nat) (b0 : Nat) (li : Int32) (sct : Int32) (stk : Nat → Int32) (sle : Nat → Int32) (ye : Nat → Int32) (re : Nat → Int32) (pct : Int32) (ptk : Nat → Int32) (ple : Nat → Int32) (co : Nat → Int32) : va_W := [(ad b0, .inr (7, [.ref (ad (b0 + 1)), .ref (ad (b0 + 4)), .ref (ad (b0 + 5)), .ref (ad (b0 + 6)), .ref (ad (b0 + 9)), .int li])), (ad (b0 + 1), .inr (6, [.int 12, .ref (ad (b0 + 2)), .ref (ad (b0 + 3)), .int sct])), (ad (b0 + 2), .inl (cI, 96, .inl stk)), (ad (b0 + 3), .inl (cI, 12, .inl sle)), (ad (b0 + 4), .inl (cI, 12, .inl ye)), (ad (b0 + 5), .inl (cI, 12, .inl re)), (ad (b0 + 6), .inr (6, [.int 6, .ref (ad (b0 + 7)), .ref (ad (b0 + 8)), .int pct])), (ad (b0 + 7), .inl (cI, 48, .inl ptk)), (ad (b0 + 8), .inl (cI, 6, .inl ple)), (ad (b0 + 9), .inl (cI, 4, .inl co))]
def rm_X7_init : Room := { frames := 2, cells := 9, slots := 198, locals := 34 }
set_option maxHeartbeats 4000000 in
set_option maxRecDepth 100000 in
theorem c_X7_init (l : Launch) (D : va_G) (cI cS cT : ClassId) (a : Nat) : MC l D (TY cI cS cT) yX7_init cX7_init 1 rm_X7_init [.ref a] [(a, .inr (7, [.null, .null, .null, .null, .null, .int 0]))] (fun w => ∃ ad : Nat → Nat, ad 0 = a ∧ w = Wf_X7 cI cS cT ad 0 (3 : Int32) 0 (fun _ => 0) (fun _ => 0) (fun _ => 0) (fun _ => 0) 0 (fun _ => 0) (fun _ => 0) iCo) := by
  refine MC.of (by decide) (Nat.le_of_ble_eq_true rfl) (fun E hC hO hR hn hm => ?_)
  replace hC : Cx l D (TY cI cS cT) E rm_X7_init cX7_init RX7 := hC
  replace hR : RetV D E (fun w => ∃ ad : Nat → Nat, ad 0 = a ∧ w = Wf_X7 cI cS cT ad 0 (3 : Int32) 0 (fun _ => 0) (fun _ => 0) (fun _ => 0) (fun _ => 0) 0 (fun _ => 0) (fun _ => 0) iCo) 9 198 := hR
  replace hm : E.meth.name = "<init>" := hm
  change G l D E 0 0 _ [(0, .ref a)] 0 []
  refine g_aload_n 0 0 hC dX7_init_0 rfl ?_
  refine g_objInit 1 hC wq_45 dX7_init_1 (Nat.le_of_ble_eq_true rfl) (Nat.le_of_ble_eq_true rfl) ?_
  refine g_aload_n 4 0 hC dX7_init_4 rfl ?_
  refine g_new (ci := 6) 5 [.int 0, .null, .null, .int 0] hC inlX6 tyX6_ok wq_46 wq_47 wq_48 dX7_init_5 rfl (fun j hj => by rcases (show j = 0 ∨ j = 1 ∨ j = 2 ∨ j = 3 by omega) with rfl | rfl | rfl | rfl <;> rfl) (Nat.le_of_ble_eq_true rfl) (Nat.le_of_ble_eq_true rfl) (fun q1 => ?_)
  refine g_dup 8 hC dX7_init_8 rfl ?_
  refine g_bipush (v := (12 : Int32)) 9 hC dX7_init_9 (by decide) ?_
  refine g_cIN (mc := 2) (ms := 108) (As := [.int (12 : Int32)]) (rest := [.ref q1, .ref a]) 11 hC hO (c_X6_init l D cI cS cT q1 (12 : Int32) 96 12 (by decide) (by decide) (by decide) (by decide) (by decide) (by decide)) wq_56 wq_48 wq_55 rfl (by decide +kernel) nq_46 dX7_init_11 ⟨Nat.le_of_ble_eq_true rfl, Nat.le_of_ble_eq_true rfl⟩ rfl rfl (Nat.le_of_ble_eq_true rfl) (Nat.le_of_ble_eq_true rfl) rfl (Nat.le_of_ble_eq_true rfl) ?_
  rintro _ ⟨ad2, rfl, rfl⟩
  refine g_putF 14 0 0 ([(a, .inr (7, [.ref (ad2 0), .null, .null, .null, .null, .int 0]))] ++ Wf_X6 cI cS cT ad2 0 (12 : Int32) 96 12 0 (fun _ => 0) (fun _ => 0)) hC hm inlX7 tyX7_ok nmX7 wq_49 dX7_init_14 rfl rfl (by decide) rfl rfl (fty := (.object "ProverbCollection$Shelf")) rfl rfl rfl (Nat.le_of_ble_eq_true rfl) rfl ?_
  refine g_aload_n 17 0 hC dX7_init_17 rfl ?_
  refine g_bipush (v := (12 : Int32)) 18 hC dX7_init_18 (by decide) ?_
  refine g_newa (cI := cI) (N := 12) 20 hC dX7_init_20 rfl (by decide) (by decide) (by decide) (by first | exact Nat.le_of_ble_eq_true rfl | (simp only [rm_X6_init]; omega)) (by first | exact Nat.le_of_ble_eq_true rfl | (simp only [rm_X6_init]; omega)) (fun q3 => ?_)
  refine g_putF 22 0 1 ([(a, .inr (7, [.ref (ad2 0), .ref q3, .null, .null, .null, .int 0]))] ++ Wf_X6 cI cS cT ad2 0 (12 : Int32) 96 12 0 (fun _ => 0) (fun _ => 0) ++ [(q3, .inl (cI, 12, .inl (fun _ => 0)))]) hC hm inlX7 tyX7_ok nmX7 wq_50 dX7_init_22 rfl rfl (by decide) rfl rfl (fty := (.array .int)) rfl rfl rfl (Nat.le_of_ble_eq_true rfl) rfl ?_
  refine g_aload_n 25 0 hC dX7_init_25 rfl ?_
  refine g_bipush (v := (12 : Int32)) 26 hC dX7_init_26 (by decide) ?_
  refine g_newa (cI := cI) (N := 12) 28 hC dX7_init_28 rfl (by decide) (by decide) (by decide) (by first | exact Nat.le_of_ble_eq_true rfl | (simp only [rm_X6_init]; omega)) (by first | exact Nat.le_of_ble_eq_true rfl | (simp only [rm_X6_init]; omega)) (fun q4 => ?_)
  refine g_putF 30 0 2 ([(a, .inr (7, [.ref (ad2 0), .ref q3, .ref q4, .null, .null, .int 0]))] ++ Wf_X6 cI cS cT ad2 0 (12 : Int32) 96 12 0 (fun _ => 0) (fun _ => 0) ++ [(q3, .inl (cI, 12, .inl (fun _ => 0)))] ++ [(q4, .inl (cI, 12, .inl (fun _ => 0)))]) hC hm inlX7 tyX7_ok nmX7 wq_51 dX7_init_30 rfl rfl (by decide) rfl rfl (fty := (.array .int)) rfl rfl rfl (Nat.le_of_ble_eq_true rfl) rfl ?_
  refine g_aload_n 33 0 hC dX7_init_33 rfl ?_
  refine g_new (ci := 6) 34 [.int 0, .null, .null, .int 0] hC inlX6 tyX6_ok wq_46 wq_47 wq_48 dX7_init_34 rfl (fun j hj => by rcases (show j = 0 ∨ j = 1 ∨ j = 2 ∨ j = 3 by omega) with rfl | rfl | rfl | rfl <;> rfl) (Nat.le_of_ble_eq_true rfl) (Nat.le_of_ble_eq_true rfl) (fun q5 => ?_)
  refine g_dup 37 hC dX7_init_37 rfl ?_
  refine g_bipush (v := (6 : Int32)) 38 hC dX7_init_38 (by decide) ?_
  refine g_cIN (mc := 2) (ms := 54) (As := [.int (6 : Int32)]) (rest := [.ref q5, .ref a]) 40 hC hO (c_X6_init l D cI cS cT q5 (6 : Int32) 48 6 (by decide) (by decide) (by decide) (by decide) (by decide) (by decide)) wq_56 wq_48 wq_55 rfl (by decide +kernel) nq_46 dX7_init_40 ⟨Nat.le_of_ble_eq_true rfl, Nat.le_of_ble_eq_true rfl⟩ rfl rfl (Nat.le_of_ble_eq_true rfl) (Nat.le_of_ble_eq_true rfl) rfl (Nat.le_of_ble_eq_true rfl) ?_
  rintro _ ⟨ad6, rfl, rfl⟩
  refine g_putF 43 0 3 ([(a, .inr (7, [.ref (ad2 0), .ref q3, .ref q4, .ref (ad6 0), .null, .int 0]))] ++ Wf_X6 cI cS cT ad2 0 (12 : Int32) 96 12 0 (fun _ => 0) (fun _ => 0) ++ [(q3, .inl (cI, 12, .inl (fun _ => 0)))] ++ [(q4, .inl (cI, 12, .inl (fun _ => 0)))] ++ Wf_X6 cI cS cT ad6 0 (6 : Int32) 48 6 0 (fun _ => 0) (fun _ => 0)) hC hm inlX7 tyX7_ok nmX7 wq_52 dX7_init_43 rfl rfl (by decide) rfl rfl (fty := (.object "ProverbCollection$Shelf")) rfl rfl rfl (Nat.le_of_ble_eq_true rfl) rfl ?_
  refine g_aload_n 46 0 hC dX7_init_46 rfl ?_
  refine g_iconst (v := (4 : Int32)) 47 hC dX7_init_47 (by decide) ?_
  refine g_newa (cI := cI) (N := 4) 48 hC dX7_init_48 rfl (by decide) (by decide) (by decide) (by first | exact Nat.le_of_ble_eq_true rfl | (simp only [rm_X6_init]; omega)) (by first | exact Nat.le_of_ble_eq_true rfl | (simp only [rm_X6_init]; omega)) (fun q7 => ?_)
  refine g_putF 50 0 4 ([(a, .inr (7, [.ref (ad2 0), .ref q3, .ref q4, .ref (ad6 0), .ref q7, .int 0]))] ++ Wf_X6 cI cS cT ad2 0 (12 : Int32) 96 12 0 (fun _ => 0) (fun _ => 0) ++ [(q3, .inl (cI, 12, .inl (fun _ => 0)))] ++ [(q4, .inl (cI, 12, .inl (fun _ => 0)))] ++ Wf_X6 cI cS cT ad6 0 (6 : Int32) 48 6 0 (fun _ => 0) (fun _ => 0) ++ [(q7, .inl (cI, 4, .inl (fun _ => 0)))]) hC hm inlX7 tyX7_ok nmX7 wq_53 dX7_init_50 rfl rfl (by decide) rfl rfl (fty := (.array .int)) rfl rfl rfl (Nat.le_of_ble_eq_true rfl) rfl ?_
  refine g_aload_n 53 0 hC dX7_init_53 rfl ?_
  refine g_iconst (v := (3 : Int32)) 54 hC dX7_init_54 (by decide) ?_
  refine g_put 55 0 5 ([(a, .inr (7, [.ref (ad2 0), .ref q3, .ref q4, .ref (ad6 0), .ref q7, .int (3 : Int32)]))] ++ Wf_X6 cI cS cT ad2 0 (12 : Int32) 96 12 0 (fun _ => 0) (fun _ => 0) ++ [(q3, .inl (cI, 12, .inl (fun _ => 0)))] ++ [(q4, .inl (cI, 12, .inl (fun _ => 0)))] ++ Wf_X6 cI cS cT ad6 0 (6 : Int32) 48 6 0 (fun _ => 0) (fun _ => 0) ++ [(q7, .inl (cI, 4, .inl (fun _ => 0)))]) hC inlX7 tyX7_ok nmX7 wq_54 dX7_init_55 rfl rfl (by decide) rfl rfl (Nat.le_of_ble_eq_true rfl) rfl ?_
  refine g_aload_n 58 0 hC dX7_init_58 rfl ?_
  refine g_get 59 0 4 hC inlX7 wq_53 dX7_init_59 rfl rfl (by decide) rfl ?_
  refine g_iconst (v := (0 : Int32)) 62 hC dX7_init_62 (by decide) ?_
  refine g_iconst (v := (2 : Int32)) 63 hC dX7_init_63 (by decide) ?_
  refine g_iast 64 9 ([(a, .inr (7, [.ref (ad2 0), .ref q3, .ref q4, .ref (ad6 0), .ref q7, .int (3 : Int32)]))] ++ Wf_X6 cI cS cT ad2 0 (12 : Int32) 96 12 0 (fun _ => 0) (fun _ => 0) ++ [(q3, .inl (cI, 12, .inl (fun _ => 0)))] ++ [(q4, .inl (cI, 12, .inl (fun _ => 0)))] ++ Wf_X6 cI cS cT ad6 0 (6 : Int32) 48 6 0 (fun _ => 0) (fun _ => 0) ++ [(q7, .inl (cI, 4, .inl (upd (fun _ => 0) (Int32.toNatClampNeg (0 : Int32)) (2 : Int32))))]) hC dX7_init_64 rfl rfl (by unfold vp_in; decide) rfl ?_
  refine g_aload_n 65 0 hC dX7_init_65 rfl ?_
  refine g_get 66 0 4 hC inlX7 wq_53 dX7_init_66 rfl rfl (by decide) rfl ?_
  refine g_iconst (v := (1 : Int32)) 69 hC dX7_init_69 (by decide) ?_
  refine g_iconst (v := (3 : Int32)) 70 hC dX7_init_70 (by decide) ?_
  refine g_iast 71 9 ([(a, .inr (7, [.ref (ad2 0), .ref q3, .ref q4, .ref (ad6 0), .ref q7, .int (3 : Int32)]))] ++ Wf_X6 cI cS cT ad2 0 (12 : Int32) 96 12 0 (fun _ => 0) (fun _ => 0) ++ [(q3, .inl (cI, 12, .inl (fun _ => 0)))] ++ [(q4, .inl (cI, 12, .inl (fun _ => 0)))] ++ Wf_X6 cI cS cT ad6 0 (6 : Int32) 48 6 0 (fun _ => 0) (fun _ => 0) ++ [(q7, .inl (cI, 4, .inl (upd (upd (fun _ => 0) (Int32.toNatClampNeg (0 : Int32)) (2 : Int32)) (Int32.toNatClampNeg (1 : Int32)) (3 : Int32))))]) hC dX7_init_71 rfl rfl (by unfold vp_in; decide) rfl ?_
  refine g_aload_n 72 0 hC dX7_init_72 rfl ?_
  refine g_get 73 0 4 hC inlX7 wq_53 dX7_init_73 rfl rfl (by decide) rfl ?_
  refine g_iconst (v := (2 : Int32)) 76 hC dX7_init_76 (by decide) ?_
  refine g_iconst (v := (1 : Int32)) 77 hC dX7_init_77 (by decide) ?_
  refine g_iast 78 9 ([(a, .inr (7, [.ref (ad2 0), .ref q3, .ref q4, .ref (ad6 0), .ref q7, .int (3 : Int32)]))] ++ Wf_X6 cI cS cT ad2 0 (12 : Int32) 96 12 0 (fun _ => 0) (fun _ => 0) ++ [(q3, .inl (cI, 12, .inl (fun _ => 0)))] ++ [(q4, .inl (cI, 12, .inl (fun _ => 0)))] ++ Wf_X6 cI cS cT ad6 0 (6 : Int32) 48 6 0 (fun _ => 0) (fun _ => 0) ++ [(q7, .inl (cI, 4, .inl (upd (upd (upd (fun _ => 0) (Int32.toNatClampNeg (0 : Int32)) (2 : Int32)) (Int32.toNatClampNeg (1 : Int32)) (3 : Int32)) (Int32.toNatClampNeg (2 : Int32)) (1 : Int32))))]) hC dX7_init_78 rfl rfl (by unfold vp_in; decide) rfl ?_
  refine g_aload_n 79 0 hC dX7_init_79 rfl ?_
  refine g_get 80 0 4 hC inlX7 wq_53 dX7_init_80 rfl rfl (by decide) rfl ?_
  refine g_iconst (v := (3 : Int32)) 83 hC dX7_init_83 (by decide) ?_
  refine g_iconst (v := (2 : Int32)) 84 hC dX7_init_84 (by decide) ?_
  refine g_iast 85 9 ([(a, .inr (7, [.ref (ad2 0), .ref q3, .ref q4, .ref (ad6 0), .ref q7, .int (3 : Int32)]))] ++ Wf_X6 cI cS cT ad2 0 (12 : Int32) 96 12 0 (fun _ => 0) (fun _ => 0) ++ [(q3, .inl (cI, 12, .inl (fun _ => 0)))] ++ [(q4, .inl (cI, 12, .inl (fun _ => 0)))] ++ Wf_X6 cI cS cT ad6 0 (6 : Int32) 48 6 0 (fun _ => 0) (fun _ => 0) ++ [(q7, .inl (cI, 4, .inl (upd (upd (upd (upd (fun _ => 0) (Int32.toNatClampNeg (0 : Int32)) (2 : Int32)) (Int32.toNatClampNeg (1 : Int32)) (3 : Int32)) (Int32.toNatClampNeg (2 : Int32)) (1 : Int32)) (Int32.toNatClampNeg (3 : Int32)) (2 : Int32))))]) hC dX7_init_85 rfl rfl (by unfold vp_in; decide) rfl ?_
  exact g_vret 86 hC hR dX7_init_86 ⟨(fun i => if i < 1 then a else if i < 4 then ad2 (i - 1) else if i < 5 then q3 else if i < 6 then q4 else if i < 9 then ad6 (i - 6) else q7), rfl, rfl⟩

def Wf_X4 (cI cS cT : ClassId) (ad : Nat → Nat) (b0 : Nat) (fo : Int32) (pln : Int32) (ptk : Nat → Int32) (sln : Int32) (stk : Nat → Int32) (sw : Nat → Int32) (fw : Nat → Int32) : va_W := [(ad b0, .inr (4, [.ref (ad (b0 + 1)), .ref (ad (b0 + 3)), .ref (ad (b0 + 5)), .ref (ad (b0 + 6)), .int fo])), (ad (b0 + 1), .inr (5, [.ref (ad (b0 + 2)), .int pln])), (ad (b0 + 2), .inl (cI, 8, .inl ptk)), (ad (b0 + 3), .inr (5, [.ref (ad (b0 + 4)), .int sln])), (ad (b0 + 4), .inl (cI, 8, .inl stk)), (ad (b0 + 5), .inl (cI, 4, .inl sw)), (ad (b0 + 6), .inl (cI, 4, .inl fw))]
def rm_X4_init : Room := { frames := 2, cells := 6, slots := 28, locals := 32 }
set_option maxHeartbeats 4000000 in
set_option maxRecDepth 100000 in
theorem c_X4_init (l : Launch) (D : va_G) (cI cS cT : ClassId) (a : Nat) : MC l D (TY cI cS cT) yX4_init cX4_init 1 rm_X4_init [.ref a] [(a, .inr (4, [.null, .null, .null, .null, .int 0]))] (fun w => ∃ ad : Nat → Nat, ad 0 = a ∧ w = Wf_X4 cI cS cT ad 0 0 0 (fun _ => 0) 0 (fun _ => 0) (fun _ => 0) (fun _ => 0)) := by
  refine MC.of (by decide) (Nat.le_of_ble_eq_true rfl) (fun E hC hO hR hn hm => ?_)
  replace hC : Cx l D (TY cI cS cT) E rm_X4_init cX4_init RX4 := hC
  replace hR : RetV D E (fun w => ∃ ad : Nat → Nat, ad 0 = a ∧ w = Wf_X4 cI cS cT ad 0 0 0 (fun _ => 0) 0 (fun _ => 0) (fun _ => 0) (fun _ => 0)) 6 28 := hR
  replace hm : E.meth.name = "<init>" := hm
  change G l D E 0 0 _ [(0, .ref a)] 0 []
  refine g_aload_n 0 0 hC dX4_init_0 rfl ?_
  refine g_objInit 1 hC wq_77 dX4_init_1 (Nat.le_of_ble_eq_true rfl) (Nat.le_of_ble_eq_true rfl) ?_
  refine g_aload_n 4 0 hC dX4_init_4 rfl ?_
  refine g_new (ci := 5) 5 [.null, .int 0] hC inlX5 tyX5_ok wq_78 wq_11 wq_12 dX4_init_5 rfl (fun j hj => by rcases (show j = 0 ∨ j = 1 by omega) with rfl | rfl <;> rfl) (Nat.le_of_ble_eq_true rfl) (Nat.le_of_ble_eq_true rfl) (fun q1 => ?_)
  refine g_dup 8 hC dX4_init_8 rfl ?_
  refine g_cIN (mc := 1) (ms := 8) (As := []) (rest := [.ref q1, .ref a]) 9 hC hO (c_X5_init l D cI cS cT q1) wq_40 wq_12 wq_39 rfl (by decide +kernel) nq_147 dX4_init_9 ⟨Nat.le_of_ble_eq_true rfl, Nat.le_of_ble_eq_true rfl⟩ rfl rfl (Nat.le_of_ble_eq_true rfl) (Nat.le_of_ble_eq_true rfl) rfl (Nat.le_of_ble_eq_true rfl) ?_
  rintro _ ⟨ad2, rfl, rfl⟩
  refine g_putF 12 0 0 ([(a, .inr (4, [.ref (ad2 0), .null, .null, .null, .int 0]))] ++ Wf_X5 cI cS cT ad2 0 0 (fun _ => 0)) hC hm inlX4 tyX4_ok nmX4 wq_79 dX4_init_12 rfl rfl (by decide) rfl rfl (fty := (.object "ProverbCollection$Sequence")) rfl rfl rfl (Nat.le_of_ble_eq_true rfl) rfl ?_
  refine g_aload_n 15 0 hC dX4_init_15 rfl ?_
  refine g_new (ci := 5) 16 [.null, .int 0] hC inlX5 tyX5_ok wq_78 wq_11 wq_12 dX4_init_16 rfl (fun j hj => by rcases (show j = 0 ∨ j = 1 by omega) with rfl | rfl <;> rfl) (Nat.le_of_ble_eq_true rfl) (Nat.le_of_ble_eq_true rfl) (fun q3 => ?_)
  refine g_dup 19 hC dX4_init_19 rfl ?_
  refine g_cIN (mc := 1) (ms := 8) (As := []) (rest := [.ref q3, .ref a]) 20 hC hO (c_X5_init l D cI cS cT q3) wq_40 wq_12 wq_39 rfl (by decide +kernel) nq_147 dX4_init_20 ⟨Nat.le_of_ble_eq_true rfl, Nat.le_of_ble_eq_true rfl⟩ rfl rfl (Nat.le_of_ble_eq_true rfl) (Nat.le_of_ble_eq_true rfl) rfl (Nat.le_of_ble_eq_true rfl) ?_
  rintro _ ⟨ad4, rfl, rfl⟩
  refine g_putF 23 0 1 ([(a, .inr (4, [.ref (ad2 0), .ref (ad4 0), .null, .null, .int 0]))] ++ Wf_X5 cI cS cT ad2 0 0 (fun _ => 0) ++ Wf_X5 cI cS cT ad4 0 0 (fun _ => 0)) hC hm inlX4 tyX4_ok nmX4 wq_80 dX4_init_23 rfl rfl (by decide) rfl rfl (fty := (.object "ProverbCollection$Sequence")) rfl rfl rfl (Nat.le_of_ble_eq_true rfl) rfl ?_
  refine g_aload_n 26 0 hC dX4_init_26 rfl ?_
  refine g_iconst (v := (4 : Int32)) 27 hC dX4_init_27 (by decide) ?_
  refine g_newa (cI := cI) (N := 4) 28 hC dX4_init_28 rfl (by decide) (by decide) (by decide) (by first | exact Nat.le_of_ble_eq_true rfl | (simp only [rm_X6_init]; omega)) (by first | exact Nat.le_of_ble_eq_true rfl | (simp only [rm_X6_init]; omega)) (fun q5 => ?_)
  refine g_putF 30 0 2 ([(a, .inr (4, [.ref (ad2 0), .ref (ad4 0), .ref q5, .null, .int 0]))] ++ Wf_X5 cI cS cT ad2 0 0 (fun _ => 0) ++ Wf_X5 cI cS cT ad4 0 0 (fun _ => 0) ++ [(q5, .inl (cI, 4, .inl (fun _ => 0)))]) hC hm inlX4 tyX4_ok nmX4 wq_81 dX4_init_30 rfl rfl (by decide) rfl rfl (fty := (.array .int)) rfl rfl rfl (Nat.le_of_ble_eq_true rfl) rfl ?_
  refine g_aload_n 33 0 hC dX4_init_33 rfl ?_
  refine g_iconst (v := (4 : Int32)) 34 hC dX4_init_34 (by decide) ?_
  refine g_newa (cI := cI) (N := 4) 35 hC dX4_init_35 rfl (by decide) (by decide) (by decide) (by first | exact Nat.le_of_ble_eq_true rfl | (simp only [rm_X6_init]; omega)) (by first | exact Nat.le_of_ble_eq_true rfl | (simp only [rm_X6_init]; omega)) (fun q6 => ?_)
  refine g_putF 37 0 3 ([(a, .inr (4, [.ref (ad2 0), .ref (ad4 0), .ref q5, .ref q6, .int 0]))] ++ Wf_X5 cI cS cT ad2 0 0 (fun _ => 0) ++ Wf_X5 cI cS cT ad4 0 0 (fun _ => 0) ++ [(q5, .inl (cI, 4, .inl (fun _ => 0)))] ++ [(q6, .inl (cI, 4, .inl (fun _ => 0)))]) hC hm inlX4 tyX4_ok nmX4 wq_82 dX4_init_37 rfl rfl (by decide) rfl rfl (fty := (.array .int)) rfl rfl rfl (Nat.le_of_ble_eq_true rfl) rfl ?_
  exact g_vret 40 hC hR dX4_init_40 ⟨(fun i => if i < 1 then a else if i < 3 then ad2 (i - 1) else if i < 5 then ad4 (i - 3) else if i < 6 then q5 else q6), rfl, rfl⟩

def Wf_X2 (cI cS cT : ClassId) (ad : Nat → Nat) (b0 : Nat) (gc : Int32) (or : Nat → Int32) (me : Nat → Int32) (ce : Nat → Int32) : va_W := [(ad b0, .inr (2, [.ref (ad (b0 + 1)), .ref (ad (b0 + 2)), .ref (ad (b0 + 3)), .int gc])), (ad (b0 + 1), .inl (cI, 12, .inl or)), (ad (b0 + 2), .inl (cI, 12, .inl me)), (ad (b0 + 3), .inl (cI, 12, .inl ce))]
def rm_X2_init : Room := { frames := 1, cells := 3, slots := 36, locals := 12 }
set_option maxHeartbeats 4000000 in
set_option maxRecDepth 100000 in
theorem c_X2_init (l : Launch) (D : va_G) (cI cS cT : ClassId) (a : Nat) : MC l D (TY cI cS cT) yX2_init cX2_init 1 rm_X2_init [.ref a] [(a, .inr (2, [.null, .null, .null, .int 0]))] (fun w => ∃ ad : Nat → Nat, ad 0 = a ∧ w = Wf_X2 cI cS cT ad 0 0 (fun _ => 0) (fun _ => 0) (fun _ => 0)) := by
  refine MC.of (by decide) (Nat.le_of_ble_eq_true rfl) (fun E hC hO hR hn hm => ?_)
  replace hC : Cx l D (TY cI cS cT) E rm_X2_init cX2_init RX2 := hC
  replace hR : RetV D E (fun w => ∃ ad : Nat → Nat, ad 0 = a ∧ w = Wf_X2 cI cS cT ad 0 0 (fun _ => 0) (fun _ => 0) (fun _ => 0)) 3 36 := hR
  replace hm : E.meth.name = "<init>" := hm
  change G l D E 0 0 _ [(0, .ref a)] 0 []
  refine g_aload_n 0 0 hC dX2_init_0 rfl ?_
  refine g_objInit 1 hC wq_85 dX2_init_1 (Nat.le_of_ble_eq_true rfl) (Nat.le_of_ble_eq_true rfl) ?_
  refine g_aload_n 4 0 hC dX2_init_4 rfl ?_
  refine g_bipush (v := (12 : Int32)) 5 hC dX2_init_5 (by decide) ?_
  refine g_newa (cI := cI) (N := 12) 7 hC dX2_init_7 rfl (by decide) (by decide) (by decide) (by first | exact Nat.le_of_ble_eq_true rfl | (simp only [rm_X6_init]; omega)) (by first | exact Nat.le_of_ble_eq_true rfl | (simp only [rm_X6_init]; omega)) (fun q1 => ?_)
  refine g_putF 9 0 0 ([(a, .inr (2, [.ref q1, .null, .null, .int 0]))] ++ [(q1, .inl (cI, 12, .inl (fun _ => 0)))]) hC hm inlX2 tyX2_ok nmX2 wq_86 dX2_init_9 rfl rfl (by decide) rfl rfl (fty := (.array .int)) rfl rfl rfl (Nat.le_of_ble_eq_true rfl) rfl ?_
  refine g_aload_n 12 0 hC dX2_init_12 rfl ?_
  refine g_bipush (v := (12 : Int32)) 13 hC dX2_init_13 (by decide) ?_
  refine g_newa (cI := cI) (N := 12) 15 hC dX2_init_15 rfl (by decide) (by decide) (by decide) (by first | exact Nat.le_of_ble_eq_true rfl | (simp only [rm_X6_init]; omega)) (by first | exact Nat.le_of_ble_eq_true rfl | (simp only [rm_X6_init]; omega)) (fun q2 => ?_)
  refine g_putF 17 0 1 ([(a, .inr (2, [.ref q1, .ref q2, .null, .int 0]))] ++ [(q1, .inl (cI, 12, .inl (fun _ => 0)))] ++ [(q2, .inl (cI, 12, .inl (fun _ => 0)))]) hC hm inlX2 tyX2_ok nmX2 wq_87 dX2_init_17 rfl rfl (by decide) rfl rfl (fty := (.array .int)) rfl rfl rfl (Nat.le_of_ble_eq_true rfl) rfl ?_
  refine g_aload_n 20 0 hC dX2_init_20 rfl ?_
  refine g_bipush (v := (12 : Int32)) 21 hC dX2_init_21 (by decide) ?_
  refine g_newa (cI := cI) (N := 12) 23 hC dX2_init_23 rfl (by decide) (by decide) (by decide) (by first | exact Nat.le_of_ble_eq_true rfl | (simp only [rm_X6_init]; omega)) (by first | exact Nat.le_of_ble_eq_true rfl | (simp only [rm_X6_init]; omega)) (fun q3 => ?_)
  refine g_putF 25 0 2 ([(a, .inr (2, [.ref q1, .ref q2, .ref q3, .int 0]))] ++ [(q1, .inl (cI, 12, .inl (fun _ => 0)))] ++ [(q2, .inl (cI, 12, .inl (fun _ => 0)))] ++ [(q3, .inl (cI, 12, .inl (fun _ => 0)))]) hC hm inlX2 tyX2_ok nmX2 wq_88 dX2_init_25 rfl rfl (by decide) rfl rfl (fty := (.array .int)) rfl rfl rfl (Nat.le_of_ble_eq_true rfl) rfl ?_
  exact g_vret 28 hC hR dX2_init_28 ⟨(fun i => if i < 1 then a else if i < 2 then q1 else if i < 3 then q2 else q3), rfl, rfl⟩

def Wf_X0 (cI cS cT : ClassId) (ad : Nat → Nat) (b0 : Nat) (fln : Int32) (ftk : Nat → Int32) (bln : Int32) (btk : Nat → Int32) (or : Nat → Int32) (ap : Nat → Int32) : va_W := [(ad b0, .inr (0, [.ref (ad (b0 + 1)), .ref (ad (b0 + 3)), .ref (ad (b0 + 5)), .ref (ad (b0 + 6))])), (ad (b0 + 1), .inr (5, [.ref (ad (b0 + 2)), .int fln])), (ad (b0 + 2), .inl (cI, 8, .inl ftk)), (ad (b0 + 3), .inr (5, [.ref (ad (b0 + 4)), .int bln])), (ad (b0 + 4), .inl (cI, 8, .inl btk)), (ad (b0 + 5), .inl (cI, 12, .inl or)), (ad (b0 + 6), .inl (cI, 12, .inl ap))]
def rm_X0_init : Room := { frames := 2, cells := 6, slots := 44, locals := 32 }
set_option maxHeartbeats 4000000 in
set_option maxRecDepth 100000 in
theorem c_X0_init (l : Launch) (D : va_G) (cI cS cT : ClassId) (a : Nat) : MC l D (TY cI cS cT) yX0_init cX0_init 1 rm_X0_init [.ref a] [(a, .inr (0, [.null, .null, .null, .null]))] (fun w => ∃ ad : Nat → Nat, ad 0 = a ∧ w = Wf_X0 cI cS cT ad 0 0 (fun _ => 0) 0 (fun _ => 0) (fun _ => 0) (fun _ => 0)) := by
  refine MC.of (by decide) (Nat.le_of_ble_eq_true rfl) (fun E hC hO hR hn hm => ?_)
  replace hC : Cx l D (TY cI cS cT) E rm_X0_init cX0_init RX0 := hC
  replace hR : RetV D E (fun w => ∃ ad : Nat → Nat, ad 0 = a ∧ w = Wf_X0 cI cS cT ad 0 0 (fun _ => 0) 0 (fun _ => 0) (fun _ => 0) (fun _ => 0)) 6 44 := hR
  replace hm : E.meth.name = "<init>" := hm
  change G l D E 0 0 _ [(0, .ref a)] 0 []
  refine g_aload_n 0 0 hC dX0_init_0 rfl ?_
  refine g_objInit 1 hC wq_91 dX0_init_1 (Nat.le_of_ble_eq_true rfl) (Nat.le_of_ble_eq_true rfl) ?_
  refine g_aload_n 4 0 hC dX0_init_4 rfl ?_
  refine g_new (ci := 5) 5 [.null, .int 0] hC inlX5 tyX5_ok wq_92 wq_11 wq_12 dX0_init_5 rfl (fun j hj => by rcases (show j = 0 ∨ j = 1 by omega) with rfl | rfl <;> rfl) (Nat.le_of_ble_eq_true rfl) (Nat.le_of_ble_eq_true rfl) (fun q1 => ?_)
  refine g_dup 8 hC dX0_init_8 rfl ?_
  refine g_cIN (mc := 1) (ms := 8) (As := []) (rest := [.ref q1, .ref a]) 9 hC hO (c_X5_init l D cI cS cT q1) wq_40 wq_12 wq_39 rfl (by decide +kernel) nq_191 dX0_init_9 ⟨Nat.le_of_ble_eq_true rfl, Nat.le_of_ble_eq_true rfl⟩ rfl rfl (Nat.le_of_ble_eq_true rfl) (Nat.le_of_ble_eq_true rfl) rfl (Nat.le_of_ble_eq_true rfl) ?_
  rintro _ ⟨ad2, rfl, rfl⟩
  refine g_putF 12 0 0 ([(a, .inr (0, [.ref (ad2 0), .null, .null, .null]))] ++ Wf_X5 cI cS cT ad2 0 0 (fun _ => 0)) hC hm inlX0 tyX0_ok nmX0 wq_93 dX0_init_12 rfl rfl (by decide) rfl rfl (fty := (.object "ProverbCollection$Sequence")) rfl rfl rfl (Nat.le_of_ble_eq_true rfl) rfl ?_
  refine g_aload_n 15 0 hC dX0_init_15 rfl ?_
  refine g_new (ci := 5) 16 [.null, .int 0] hC inlX5 tyX5_ok wq_92 wq_11 wq_12 dX0_init_16 rfl (fun j hj => by rcases (show j = 0 ∨ j = 1 by omega) with rfl | rfl <;> rfl) (Nat.le_of_ble_eq_true rfl) (Nat.le_of_ble_eq_true rfl) (fun q3 => ?_)
  refine g_dup 19 hC dX0_init_19 rfl ?_
  refine g_cIN (mc := 1) (ms := 8) (As := []) (rest := [.ref q3, .ref a]) 20 hC hO (c_X5_init l D cI cS cT q3) wq_40 wq_12 wq_39 rfl (by decide +kernel) nq_191 dX0_init_20 ⟨Nat.le_of_ble_eq_true rfl, Nat.le_of_ble_eq_true rfl⟩ rfl rfl (Nat.le_of_ble_eq_true rfl) (Nat.le_of_ble_eq_true rfl) rfl (Nat.le_of_ble_eq_true rfl) ?_
  rintro _ ⟨ad4, rfl, rfl⟩
  refine g_putF 23 0 1 ([(a, .inr (0, [.ref (ad2 0), .ref (ad4 0), .null, .null]))] ++ Wf_X5 cI cS cT ad2 0 0 (fun _ => 0) ++ Wf_X5 cI cS cT ad4 0 0 (fun _ => 0)) hC hm inlX0 tyX0_ok nmX0 wq_94 dX0_init_23 rfl rfl (by decide) rfl rfl (fty := (.object "ProverbCollection$Sequence")) rfl rfl rfl (Nat.le_of_ble_eq_true rfl) rfl ?_
  refine g_aload_n 26 0 hC dX0_init_26 rfl ?_
  refine g_bipush (v := (12 : Int32)) 27 hC dX0_init_27 (by decide) ?_
  refine g_newa (cI := cI) (N := 12) 29 hC dX0_init_29 rfl (by decide) (by decide) (by decide) (by first | exact Nat.le_of_ble_eq_true rfl | (simp only [rm_X6_init]; omega)) (by first | exact Nat.le_of_ble_eq_true rfl | (simp only [rm_X6_init]; omega)) (fun q5 => ?_)
  refine g_putF 31 0 2 ([(a, .inr (0, [.ref (ad2 0), .ref (ad4 0), .ref q5, .null]))] ++ Wf_X5 cI cS cT ad2 0 0 (fun _ => 0) ++ Wf_X5 cI cS cT ad4 0 0 (fun _ => 0) ++ [(q5, .inl (cI, 12, .inl (fun _ => 0)))]) hC hm inlX0 tyX0_ok nmX0 wq_95 dX0_init_31 rfl rfl (by decide) rfl rfl (fty := (.array .int)) rfl rfl rfl (Nat.le_of_ble_eq_true rfl) rfl ?_
  refine g_aload_n 34 0 hC dX0_init_34 rfl ?_
  refine g_bipush (v := (12 : Int32)) 35 hC dX0_init_35 (by decide) ?_
  refine g_newa (cI := cI) (N := 12) 37 hC dX0_init_37 rfl (by decide) (by decide) (by decide) (by first | exact Nat.le_of_ble_eq_true rfl | (simp only [rm_X6_init]; omega)) (by first | exact Nat.le_of_ble_eq_true rfl | (simp only [rm_X6_init]; omega)) (fun q6 => ?_)
  refine g_putF 39 0 3 ([(a, .inr (0, [.ref (ad2 0), .ref (ad4 0), .ref q5, .ref q6]))] ++ Wf_X5 cI cS cT ad2 0 0 (fun _ => 0) ++ Wf_X5 cI cS cT ad4 0 0 (fun _ => 0) ++ [(q5, .inl (cI, 12, .inl (fun _ => 0)))] ++ [(q6, .inl (cI, 12, .inl (fun _ => 0)))]) hC hm inlX0 tyX0_ok nmX0 wq_96 dX0_init_39 rfl rfl (by decide) rfl rfl (fty := (.array .int)) rfl rfl rfl (Nat.le_of_ble_eq_true rfl) rfl ?_
  exact g_vret 42 hC hR dX0_init_42 ⟨(fun i => if i < 1 then a else if i < 3 then ad2 (i - 1) else if i < 5 then ad4 (i - 3) else if i < 6 then q5 else q6), rfl, rfl⟩
