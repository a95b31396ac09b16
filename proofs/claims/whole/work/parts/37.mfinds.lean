theorem lastk_isl {co f g : Nat → Nat} {i j : Nat} (hco : ∀ i, i < 4 → co i ≤ 9) (hi : i ≤ 8) (hj : j ≤ 8) (h0 : ¬ (i = 0 ∧ j = 0)) : isl co f g (lastk co f g i j) i j := by
  have ok := lastk_ok (co := co) (f := f) (g := g) hco hi hj h0
  have hd := DD_stp co f g i j 10000 (by omega) (hco 0 (by omega)) (by omega) h0
  have hb := DD_bd (co := co) f g (hco 0 (by omega)) hi hj
  unfold lastk at ok ⊢
  by_cases c1 : isl co f g 1 i j
  · rw [if_pos c1]
    exact c1
  rw [if_neg c1] at ok ⊢
  by_cases c2 : isl co f g 2 i j
  · rw [if_pos c2]
    exact c2
  rw [if_neg c2] at ok ⊢
  by_cases c3 : isl co f g 3 i j
  · rw [if_pos c3]
    exact c3
  rw [if_neg c3] at ok ⊢
  refine ⟨ok.1, ?_⟩
  have b4 := ok.1
  clear ok
  unfold isl at c1 c2 c3
  unfold stp at hd
  rw [if_pos b4] at hd
  by_cases b1 : bok f g 1 i j <;> by_cases b2 : bok f g 2 i j <;> by_cases b3 : bok f g 3 i j <;> simp only [b1, b2, b3, if_true, if_false, if_pos, if_neg, not_false_iff, true_and, false_and] at hd c1 c2 c3 <;> omega
theorem m_finds_one {q r : Sy} {co : Nat → Nat} {k i j n : Nat} {now one other far : Nat → Int32} {n1 n2 um mt me mg : Int32} {K : Int32 → Prop} (hE : REm q r co now one other n1 n2) (hk1 : 1 ≤ k) (hk : k ≤ 4) (hi : i ≤ q.1) (hj : j ≤ r.1) (hT : Tab co q r (q.1 + 1) 0 (fun a b => far (9 * a + b))) (hy : isl co q.2 r.2 k i j → K (nI k)) (hn : ¬ isl co q.2 r.2 k i j → P_X9_findsEdits_33 (nI j) (nI i) now um mt one other n1 n2 far me mg K n (nI (k + 1))) : P_X9_findsEdits_33 (nI j) (nI i) now um mt one other n1 n2 far me mg K (n + 1) (nI k) := by
  have q8 := hE.2.2.1
  have r8 := hE.2.2.2.1
  have hco : ∀ i, i < 4 → co i ≤ 9 := fun i hi => (hE.2.2.2.2.2.2 i hi).2
  have hd := DD_bd (co := co) q.2 r.2 (hco 0 (by omega)) (show i ≤ 8 by omega) (show j ≤ 8 by omega)
  have hb := bv_bd (co := co) q.2 r.2 (k := k) hco (show i ≤ 8 by omega) (show j ≤ 8 by omega)
  have t := hT i j hi hj (by omega)
  dsimp only at t
  have g9 : (9 : Int32) = nI 9 := rfl
  show B_X9_findsEdits_33 (nI j) (nI i) now um mt one other n1 n2 far me mg K (P_X9_findsEdits_33 (nI j) (nI i) now um mt one other n1 n2 far me mg K n) (nI k)
  unfold B_X9_findsEdits_33
  refine m_isStep hE hk1 hk hi hj (fun c => ⟨fun z => absurd z (by decide), fun _ => m_by hE hk1 hk hi hj (Tab_mono hT (by omega)) c ?_⟩) (fun c => ⟨fun _ => ?_, fun z => absurd rfl z⟩)
  · simp (disch := omega) only [iL0, iL1, iL2, iL3, iL4, iL5, iL6, iL7, iL8, iL9, iL10, iL11, iL12, iL13, iL16, iL20, iL48, iL60, iL64, iL96, iL100, iL109, iL121, iL133, iL134, iL140, iL188, iL192, iL193, iL772, iL965, iL10000, iL1000000, nI_leI, nI_ltI, nI_eq, nI_add, pk_mul, pk_sub, nI_clamp, vpi, ofN, t]
    exact ⟨by omega, fun z => hy ⟨c, z⟩, fun z => hn (fun y => z y.2)⟩
  · simp (disch := omega) only [iL0, iL1, iL2, iL3, iL4, iL5, iL6, iL7, iL8, iL9, iL10, iL11, iL12, iL13, iL16, iL20, iL48, iL60, iL64, iL96, iL100, iL109, iL121, iL133, iL134, iL140, iL188, iL192, iL193, iL772, iL965, iL10000, iL1000000, nI_leI, nI_ltI, nI_eq, nI_add, pk_mul, pk_sub, nI_clamp, vpi, ofN]
    exact hn (fun y => c y.1)
theorem m_finds_33 {q r : Sy} {co : Nat → Nat} {i j : Nat} {now one other far : Nat → Int32} {n1 n2 um mt me mg : Int32} {K : Int32 → Prop} (hE : REm q r co now one other n1 n2) (hi : i ≤ q.1) (hj : j ≤ r.1) (h0 : ¬ (i = 0 ∧ j = 0)) (hT : Tab co q r (q.1 + 1) 0 (fun a b => far (9 * a + b))) (h : K (nI (lastk co q.2 r.2 i j))) : P_X9_findsEdits_33 (nI j) (nI i) now um mt one other n1 n2 far me mg K 4 (nI 1) := by
  have q8 := hE.2.2.1
  have r8 := hE.2.2.2.1
  have li := lastk_isl (co := co) (f := q.2) (g := r.2) (fun i hi => (hE.2.2.2.2.2.2 i hi).2) (show i ≤ 8 by omega) (show j ≤ 8 by omega) h0
  unfold lastk at h li
  refine m_finds_one (k := 1) hE (by omega) (by omega) hi hj hT (fun c => ?_) (fun c1 => m_finds_one (k := 2) hE (by omega) (by omega) hi hj hT (fun c => ?_) (fun c2 => m_finds_one (k := 3) hE (by omega) (by omega) hi hj hT (fun c => ?_) (fun c3 => m_finds_one (k := 4) hE (by omega) (by omega) hi hj hT (fun c => ?_) (fun c4 => ?_))))
  · rw [if_pos c] at h
    exact h
  · rw [if_neg c1, if_pos c] at h
    exact h
  · rw [if_neg c1, if_neg c2, if_pos c] at h
    exact h
  · rw [if_neg c1, if_neg c2, if_neg c3] at h
    exact h
  · rw [if_neg c1, if_neg c2, if_neg c3] at li
    exact absurd li c4
theorem m_finds_23 {q r : Sy} {co : Nat → Nat} {now one other far : Nat → Int32} {n1 n2 um mt mg : Int32} {K : Int32 → Int32 → Int32 → (Nat → Int32) → Prop} (hE : REm q r co now one other n1 n2) (hT : Tab co q r (q.1 + 1) 0 (fun a b => far (9 * a + b))) : ∀ (d i j : Nat) (P : List Nat) (ld : Int32) (ls : Nat → Int32), d ≤ 16 → i + j ≤ d → i ≤ q.1 → j ≤ r.1 → P.length + d ≤ 16 → IsL P ld ls → (∀ v4 v3 ld' ls', IsL (P ++ trs co q.2 r.2 d i j) ld' ls' → K v4 v3 ld' ls') → P_X9_findsEdits_23 now um mt one other n1 n2 far mg K (d + 1) (nI j) (nI i) ld ls := by
  have q8 := hE.2.2.1
  have r8 := hE.2.2.2.1
  have hco : ∀ i, i < 4 → co i ≤ 9 := fun i hi => (hE.2.2.2.2.2.2 i hi).2
  intro d
  induction d with
  | zero =>
    intro i j P ld ls hs hij hi hj hP hL hK
    show B_X9_findsEdits_23 now um mt one other n1 n2 far mg K _ (nI j) (nI i) ld ls
    unfold B_X9_findsEdits_23
    refine ⟨fun _ => hK _ _ _ _ ?_, fun z => ?_⟩
    · rw [trs, List.append_nil]
      exact hL
    · simp (disch := omega) only [iL0, iL1, iL2, iL3, iL4, iL5, iL6, iL7, iL8, iL9, iL10, iL11, iL12, iL13, iL16, iL20, iL48, iL60, iL64, iL96, iL100, iL109, iL121, iL133, iL134, iL140, iL188, iL192, iL193, iL772, iL965, iL10000, iL1000000, nI_leI, nI_ltI, nI_eq, nI_add, pk_mul, pk_sub, nI_clamp, vpi, ofN] at z
      omega
  | succ d ih =>
    intro i j P ld ls hs hij hi hj hP hL hK
    show B_X9_findsEdits_23 now um mt one other n1 n2 far mg K (P_X9_findsEdits_23 now um mt one other n1 n2 far mg K (d + 1)) (nI j) (nI i) ld ls
    unfold B_X9_findsEdits_23
    refine ⟨fun z => ?_, fun z => ⟨4, m_finds_33 hE hi hj ?_ hT ?_⟩⟩
    · simp (disch := omega) only [iL0, iL1, iL2, iL3, iL4, iL5, iL6, iL7, iL8, iL9, iL10, iL11, iL12, iL13, iL16, iL20, iL48, iL60, iL64, iL96, iL100, iL109, iL121, iL133, iL134, iL140, iL188, iL192, iL193, iL772, iL965, iL10000, iL1000000, nI_leI, nI_ltI, nI_eq, nI_add, pk_mul, pk_sub, nI_clamp, vpi, ofN] at z
      refine hK _ _ _ _ ?_
      rw [trs, if_pos (by omega), List.append_nil]
      exact hL
    · simp (disch := omega) only [iL0, iL1, iL2, iL3, iL4, iL5, iL6, iL7, iL8, iL9, iL10, iL11, iL12, iL13, iL16, iL20, iL48, iL60, iL64, iL96, iL100, iL109, iL121, iL133, iL134, iL140, iL188, iL192, iL193, iL772, iL965, iL10000, iL1000000, nI_leI, nI_ltI, nI_eq, nI_add, pk_mul, pk_sub, nI_clamp, vpi, ofN] at z
      omega
    · simp (disch := omega) only [iL0, iL1, iL2, iL3, iL4, iL5, iL6, iL7, iL8, iL9, iL10, iL11, iL12, iL13, iL16, iL20, iL48, iL60, iL64, iL96, iL100, iL109, iL121, iL133, iL134, iL140, iL188, iL192, iL193, iL772, iL965, iL10000, iL1000000, nI_leI, nI_ltI, nI_eq, nI_add, pk_mul, pk_sub, nI_clamp, vpi, ofN] at z
      have ok := lastk_ok (co := co) (f := q.2) (g := r.2) hco (show i ≤ 8 by omega) (show j ≤ 8 by omega) (by omega)
      have hst : trs co q.2 r.2 (d + 1) i j = if lastk co q.2 r.2 i j = 1 ∧ q.2 (i - 1) = r.2 (j - 1) then trs co q.2 r.2 d (i - 1) (j - 1) else (100 * lastk co q.2 r.2 i j + 10 * (i - di (lastk co q.2 r.2 i j)) + (j - dj (lastk co q.2 r.2 i j))) :: trs co q.2 r.2 d (i - di (lastk co q.2 r.2 i j)) (j - dj (lastk co q.2 r.2 i j)) := by
        rw [trs, if_neg (by omega)]
      generalize lastk co q.2 r.2 i j = k at ok hst ⊢
      have go : ∀ (i' j' x : Nat), i' = i - di k → j' = j - dj k → ¬ (k = 1 ∧ q.2 (i - 1) = r.2 (j - 1)) → x = 100 * k + 10 * i' + j' → vp_in ld 16 ∧ P_X9_findsEdits_23 now um mt one other n1 n2 far mg K (d + 1) (nI j') (nI i') (ld + (1 : Int32)) (upd ls (Int32.toNatClampNeg ld) (nI x)) := by
        intro i' j' x ei ej hk ex
        have hlen := hL.1
        rw [hlen]
        simp (disch := omega) only [iL0, iL1, iL2, iL3, iL4, iL5, iL6, iL7, iL8, iL9, iL10, iL11, iL12, iL13, iL16, iL20, iL48, iL60, iL64, iL96, iL100, iL109, iL121, iL133, iL134, iL140, iL188, iL192, iL193, iL772, iL965, iL10000, iL1000000, nI_leI, nI_ltI, nI_eq, nI_add, pk_mul, pk_sub, nI_clamp, vpi, ofN]
        refine ⟨by omega, ih i' j' (P ++ [x]) _ _ (by omega) ?_ (by omega) (by omega) ?_ (IsL_snoc hL x (by omega)) (fun v4 v3 ld' ls' hL' => hK v4 v3 ld' ls' ?_)⟩
        · rcases (show k = 1 ∨ k = 2 ∨ k = 3 ∨ k = 4 by omega) with rfl | rfl | rfl | rfl <;> simp only [bok, di, dj, Nat.reduceEqDiff, if_true, if_false] at ok ei ej <;> omega
        · rw [List.length_append]
          show P.length + 1 + d ≤ 16
          omega
        · rw [hst, if_neg hk, ← ei, ← ej, ← ex]
          rw [List.append_assoc] at hL'
          exact hL'
      rcases (show k = 1 ∨ k = 2 ∨ k = 3 ∨ k = 4 by omega) with rfl | rfl | rfl | rfl
      · simp only [bok, if_true] at ok
        have e1 := hE.1.2 (i - 1) (by omega)
        have e2 := hE.2.1.2 (j - 1) (by omega)
        have a1 := hE.2.2.2.2.1 (i - 1) (by omega)
        have a2 := hE.2.2.2.2.2.1 (j - 1) (by omega)
        simp (disch := omega) only [iL0, iL1, iL2, iL3, iL4, iL5, iL6, iL7, iL8, iL9, iL10, iL11, iL12, iL13, iL16, iL20, iL48, iL60, iL64, iL96, iL100, iL109, iL121, iL133, iL134, iL140, iL188, iL192, iL193, iL772, iL965, iL10000, iL1000000, nI_leI, nI_ltI, nI_eq, nI_add, pk_mul, pk_sub, nI_clamp, vpi, ofN, e1, e2, Nat.reduceEqDiff, not_true, not_false_iff, false_implies, true_implies, true_and, and_true]
        refine ⟨by omega, by omega, fun c => ?_, fun c => ?_⟩
        · exact go (i - 1) (j - 1) _ rfl rfl (fun y => c y.2) rfl
        · refine ih (i - 1) (j - 1) P _ _ (by omega) (by omega) (by omega) (by omega) (by omega) hL (fun v4 v3 ld' ls' hL' => hK v4 v3 ld' ls' ?_)
          rw [hst, if_pos ⟨rfl, c⟩]
          exact hL'
      · simp only [bok, Nat.reduceEqDiff, if_true, if_false] at ok
        simp (disch := omega) only [iL0, iL1, iL2, iL3, iL4, iL5, iL6, iL7, iL8, iL9, iL10, iL11, iL12, iL13, iL16, iL20, iL48, iL60, iL64, iL96, iL100, iL109, iL121, iL133, iL134, iL140, iL188, iL192, iL193, iL772, iL965, iL10000, iL1000000, nI_leI, nI_ltI, nI_eq, nI_add, pk_mul, pk_sub, nI_clamp, vpi, ofN, Nat.reduceEqDiff, not_true, not_false_iff, false_implies, true_implies, true_and, and_true]
        exact go (i - 1) (j - 0) _ rfl rfl (by omega) rfl
      · simp only [bok, Nat.reduceEqDiff, if_true, if_false] at ok
        simp (disch := omega) only [iL0, iL1, iL2, iL3, iL4, iL5, iL6, iL7, iL8, iL9, iL10, iL11, iL12, iL13, iL16, iL20, iL48, iL60, iL64, iL96, iL100, iL109, iL121, iL133, iL134, iL140, iL188, iL192, iL193, iL772, iL965, iL10000, iL1000000, nI_leI, nI_ltI, nI_eq, nI_add, pk_mul, pk_sub, nI_clamp, vpi, ofN, Nat.reduceEqDiff, not_true, not_false_iff, false_implies, true_implies, true_and, and_true]
        exact go (i - 0) (j - 1) _ rfl rfl (by omega) rfl
      · simp only [bok, Nat.reduceEqDiff, if_true, if_false] at ok
        simp (disch := omega) only [iL0, iL1, iL2, iL3, iL4, iL5, iL6, iL7, iL8, iL9, iL10, iL11, iL12, iL13, iL16, iL20, iL48, iL60, iL64, iL96, iL100, iL109, iL121, iL133, iL134, iL140, iL188, iL192, iL193, iL772, iL965, iL10000, iL1000000, nI_leI, nI_ltI, nI_eq, nI_add, pk_mul, pk_sub, nI_clamp, vpi, ofN, Nat.reduceEqDiff, not_true, not_false_iff, false_implies, true_implies, true_and, and_true]
        exact go (i - 2) (j - 2) _ rfl rfl (by omega) rfl
theorem m_findsEdits {A : AS} {a b : Nat} {now one other far ls : Nat → Int32} {n1 n2 um mt me mg : Int32} {post : (Nat → Int32) → (Nat → Int32) → Int32 → Int32 → (Nat → Int32) → Int32 → (Nat → Int32) → Prop} (hV : VA A) (hM : RM A 0 now) (ha : a < A.nS) (hb : b < A.nS) (h : ∀ f1 f2 g1 g2 far' ld' ls', IsL (trs A.co (A.sy a).2 (A.sy b).2 16 (A.sy a).1 (A.sy b).1) ld' ls' → post f1 f2 g1 g2 far' ld' ls') : P_X9_findsEdits (nI a) (nI b) now um mt one other n1 n2 far me ls mg post := by
  unfold P_X9_findsEdits
  refine m_distanceOf hV hM ha hb (fun f1 f2 g1 g2 far' hE hT => ⟨17, ?_⟩)
  have q8 := hE.2.2.1
  have r8 := hE.2.2.2.1
  have t := m_finds_23 (um := um) (mt := mt) (mg := mg) (K := fun w4_10 w3_10 medits_10 medit_10 => post f1 f2 g1 g2 far' medits_10 medit_10) hE hT 16 (A.sy a).1 (A.sy b).1 [] (nI 0) ls (by omega) (by omega) (Nat.le_refl _) (Nat.le_refl _) (Nat.le_refl _) ⟨rfl, fun t ht => absurd ht (Nat.not_lt_zero t)⟩ (fun v4 v3 ld' ls' hL => h f1 f2 g1 g2 far' ld' ls' hL)
  rw [← hE.1.1, ← hE.2.1.1] at t
  exact t
