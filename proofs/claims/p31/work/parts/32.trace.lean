/-! ===== the class: Edits.between, lastStep ===== -/
theorem REd_of {q r : Sy} {co : Nat → Nat} {fN : Nat} {fln : Int32} {ftk : Nat → Int32} {gln : Int32} {gtk fa : Nat → Int32} (hq : RQ q fln ftk) (hr : RQ r gln gtk) (q8 : q.1 ≤ 8) (r8 : r.1 ≤ 8) (qw : ∀ j, j < q.1 → q.2 j < 60) (rw9 : ∀ j, j < r.1 → r.2 j < 60) (hN : 4 ≤ fN) (hco : ∀ i, i < 4 → fa i = nI (co i) ∧ co i ≤ 9) : REd q r co fN fln ftk gln gtk fa := ⟨hq, hr, q8, r8, qw, rw9, hN, hco⟩
theorem s_between {A : AS} {a b : Nat} {ld fln gln li sct pct : Int32} {ftk gtk stk sle ye re ptk ple co : Nat → Int32} {tb : Nat → Nat → Int32} {post : Int32 → Int32 → (Nat → Int32) → Int32 → (Nat → Int32) → (Nat → Nat → Int32) → Prop} (hV : VA A) (hR : RC A li sct stk sle ye re pct ptk ple co) (ha : a < A.nS) (hb : b < A.nS) (h : ∀ f1 f2 g1 g2 tb', REd (A.sy a) (A.sy b) A.co 4 f1 f2 g1 g2 co → Tab A.co (A.sy a) (A.sy b) ((A.sy a).1 + 1) 0 tb' → post (nI (DD A.co (A.sy a).2 (A.sy b).2 (A.sy a).1 (A.sy b).1)) f1 f2 g1 g2 tb') : P_X1_between (nI a) (nI b) ld fln ftk gln gtk tb li sct stk sle co post := by
  have hs := hV.2.1
  have h12 := hV.1
  have hco : ∀ i, i < 4 → co i = nI (A.co i) ∧ A.co i ≤ 9 := fun i hi => ⟨hR.2.2.2.1 i hi, (hV.2.2.2.2.1 i hi).2⟩
  have sa := hs a ha
  have sb := hs b hb
  unfold P_X1_between
  refine s_load hR.1 ha h12 (by omega) (by omega) sa.2.1 (fun f1 f2 hf => ?_)
  refine s_load hR.1 hb h12 (by omega) (by omega) sb.2.1 (fun g1 g2 hg => ?_)
  have hE : REd (A.sy a) (A.sy b) A.co 4 f1 f2 g1 g2 co := ⟨hf, hg, sa.2.1, sb.2.1, sa.2.2.2, sb.2.2.2, by omega, hco⟩
  exact s_measure hE (fun tb' hT => h f1 f2 g1 g2 tb' hE hT)
/-- this kind can be the last step of a way that costs D(i, j) -/
def isl (co f g : Nat → Nat) (k i j : Nat) : Prop := bok f g k i j ∧ bv co f g (DD co f g) k i j = DD co f g i j
noncomputable def lastk (co f g : Nat → Nat) (i j : Nat) : Nat := by
  classical exact if isl co f g 1 i j then 1 else if isl co f g 2 i j then 2 else if isl co f g 3 i j then 3 else 4
theorem Tab_mono {co : Nat → Nat} {q r : Sy} {i j i' j' : Nat} {tb : Nat → Nat → Int32} (h : Tab co q r i j tb) (hi : i' < i) : Tab co q r i' j' tb := fun a b ha hb hab => h a b ha hb (by omega)
theorem s_ls_one {q r : Sy} {co : Nat → Nat} {fN k i j n : Nat} {ld fln gln : Int32} {ftk gtk fa : Nat → Int32} {tb : Nat → Nat → Int32} {post K : Int32 → Prop} (hE : REd q r co fN fln ftk gln gtk fa) (hk1 : 1 ≤ k) (hk : k ≤ 3) (hi : i ≤ q.1) (hj : j ≤ r.1) (hT : Tab co q r (q.1 + 1) 0 tb) (hy : isl co q.2 r.2 k i j → post (nI k)) (hn : ¬ isl co q.2 r.2 k i j → P_X1_lastStep_40 fN (1 : Int32) (nI i) (nI j) ld fln ftk gln gtk tb fa post K n (nI (k + 1))) : P_X1_lastStep_40 fN (1 : Int32) (nI i) (nI j) ld fln ftk gln gtk tb fa post K (n + 1) (nI k) := by
  show B_X1_lastStep_40 fN (1 : Int32) (nI i) (nI j) ld fln ftk gln gtk tb fa post K (P_X1_lastStep_40 fN (1 : Int32) (nI i) (nI j) ld fln ftk gln gtk tb fa post K n) (nI k)
  have q8 := hE.2.2.1
  have r8 := hE.2.2.2.1
  have hco := hE.2.2.2.2.2.2.2
  have hd := DD_bd (co := co) q.2 r.2 (hco 0 (by omega)).2 (show i ≤ 8 by omega) (show j ≤ 8 by omega)
  have hb := bv_bd (co := co) q.2 r.2 (k := k) (fun i hi => (hco i hi).2) (show i ≤ 8 by omega) (show j ≤ 8 by omega)
  unfold B_X1_lastStep_40
  refine ⟨fun z => absurd z (by decide), fun _ => ⟨fun z => ?_, fun _ => s_by hE hk1 (by omega) hi hj (Tab_mono hT (by omega)) (fun c => ?_) (fun c => ?_)⟩⟩
  · simp (disch := omega) only [iL0, iL1, iL2, iL3, iL4, iL5, iL6, iL7, iL8, iL9, iL10, iL11, iL12, iL13, iL14, iL16, iL20, iL21, iL40, iL48, iL60, iL64, iL65, iL96, iL100, iL10000, iL1000000, nI_leI, nI_ltI, nI_eq, nI_add, pk_mul, pk_sub, nI_clamp, vpi, ofN] at z
    omega
  · simp (disch := omega) only [iL0, iL1, iL2, iL3, iL4, iL5, iL6, iL7, iL8, iL9, iL10, iL11, iL12, iL13, iL14, iL16, iL20, iL21, iL40, iL48, iL60, iL64, iL65, iL96, iL100, iL10000, iL1000000, nI_leI, nI_ltI, nI_eq, nI_add, pk_mul, pk_sub, nI_clamp, vpi, ofN]
    rw [hT i j hi hj (by omega)]
    simp (disch := omega) only [iL0, iL1, iL2, iL3, iL4, iL5, iL6, iL7, iL8, iL9, iL10, iL11, iL12, iL13, iL14, iL16, iL20, iL21, iL40, iL48, iL60, iL64, iL65, iL96, iL100, iL10000, iL1000000, nI_leI, nI_ltI, nI_eq, nI_add, pk_mul, pk_sub, nI_clamp, vpi, ofN]
    exact ⟨by omega, by omega, fun z => hn (fun y => z y.2), fun z => hy ⟨c, z⟩⟩
  · simp (disch := omega) only [iL0, iL1, iL2, iL3, iL4, iL5, iL6, iL7, iL8, iL9, iL10, iL11, iL12, iL13, iL14, iL16, iL20, iL21, iL40, iL48, iL60, iL64, iL65, iL96, iL100, iL10000, iL1000000, nI_leI, nI_ltI, nI_eq, nI_add, pk_mul, pk_sub, nI_clamp, vpi, ofN]
    rw [hT i j hi hj (by omega)]
    simp (disch := omega) only [iL0, iL1, iL2, iL3, iL4, iL5, iL6, iL7, iL8, iL9, iL10, iL11, iL12, iL13, iL14, iL16, iL20, iL21, iL40, iL48, iL60, iL64, iL65, iL96, iL100, iL10000, iL1000000, nI_leI, nI_ltI, nI_eq, nI_add, pk_mul, pk_sub, nI_clamp, vpi, ofN]
    exact ⟨by omega, by omega, fun z => hn (fun y => c y.1), fun z => by omega⟩
theorem s_lastStep {q r : Sy} {co : Nat → Nat} {fN i j : Nat} {ld fln gln : Int32} {ftk gtk fa : Nat → Int32} {tb : Nat → Nat → Int32} {post : Int32 → Prop} (hE : REd q r co fN fln ftk gln gtk fa) (hi : i ≤ q.1) (hj : j ≤ r.1) (hT : Tab co q r (q.1 + 1) 0 tb) (h : post (nI (lastk co q.2 r.2 i j))) : P_X1_lastStep fN (nI i) (nI j) ld fln ftk gln gtk tb fa post := by
  unfold lastk at h
  have q8 := hE.2.2.1
  have r8 := hE.2.2.2.1
  unfold P_X1_lastStep
  refine ⟨fun z => absurd z (nI_pos (by omega)), fun _ => ⟨fun z => ?_, fun _ => ⟨fun z => absurd z (nI_pos (by omega)), fun _ => ⟨fun z => ?_, fun _ => ?_⟩⟩⟩⟩
  · rw [hE.1.1, nI_ltI (by omega) (by omega)] at z
    omega
  · rw [hE.2.1.1, nI_ltI (by omega) (by omega)] at z
    omega
  refine ⟨4, s_ls_one (k := 1) hE (by omega) (by omega) hi hj hT (fun c => ?_) (fun c1 => s_ls_one (k := 2) hE (by omega) (by omega) hi hj hT (fun c => ?_) (fun c2 => s_ls_one (k := 3) hE (by omega) (by omega) hi hj hT (fun c => ?_) (fun c3 => ?_)))⟩
  · rw [if_pos c] at h
    exact h
  · rw [if_neg c1, if_pos c] at h
    exact h
  · rw [if_neg c1, if_neg c2, if_pos c] at h
    exact h
  · rw [if_neg c1, if_neg c2, if_neg c3] at h
    show B_X1_lastStep_40 fN (1 : Int32) (nI i) (nI j) ld fln ftk gln gtk tb fa post _ _ (nI 4)
    unfold B_X1_lastStep_40
    exact ⟨fun z => absurd z (by decide), fun _ => ⟨fun _ => h, fun z => absurd (show (4 : Int32) ≤ nI 4 from Int32.le_refl _) z⟩⟩
/-- the last step is one that can be taken -/
theorem lastk_ok {co f g : Nat → Nat} {i j : Nat} (hco : ∀ i, i < 4 → co i ≤ 9) (hi : i ≤ 8) (hj : j ≤ 8) (h0 : ¬ (i = 0 ∧ j = 0)) : bok f g (lastk co f g i j) i j ∧ 1 ≤ lastk co f g i j ∧ lastk co f g i j ≤ 4 := by
  have hd := DD_stp co f g i j 10000 (by omega) (hco 0 (by omega)) (by omega) h0
  have hb := DD_bd (co := co) f g (hco 0 (by omega)) hi hj
  unfold lastk
  by_cases c1 : isl co f g 1 i j
  · rw [if_pos c1]
    exact ⟨c1.1, by omega, by omega⟩
  rw [if_neg c1]
  by_cases c2 : isl co f g 2 i j
  · rw [if_pos c2]
    exact ⟨c2.1, by omega, by omega⟩
  rw [if_neg c2]
  by_cases c3 : isl co f g 3 i j
  · rw [if_pos c3]
    exact ⟨c3.1, by omega, by omega⟩
  rw [if_neg c3]
  refine ⟨?_, by omega, by omega⟩
  refine Classical.byContradiction (fun c4 => ?_)
  unfold isl at c1 c2 c3
  unfold stp at hd
  rw [if_neg c4] at hd
  by_cases b1 : bok f g 1 i j <;> by_cases b2 : bok f g 2 i j <;> by_cases b3 : bok f g 3 i j <;> simp only [b1, b2, b3, if_true, if_false, if_pos, if_neg, not_false_iff, true_and, false_and] at hd c1 c2 c3 <;> omega
