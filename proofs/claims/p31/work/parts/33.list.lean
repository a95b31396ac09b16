/-! ===== the class: Edits.trace, fromBeginning ===== -/
def di (k : Nat) : Nat := if k = 3 then 0 else if k = 4 then 2 else 1
def dj (k : Nat) : Nat := if k = 2 then 0 else if k = 4 then 2 else 1
/-- the edits of the way back from (i, j), the last one first -/
noncomputable def trs (co f g : Nat → Nat) : Nat → Nat → Nat → List Nat
  | 0, _, _ => []
  | n + 1, i, j => if i + j = 0 then [] else if lastk co f g i j = 1 ∧ f (i - 1) = g (j - 1) then trs co f g n (i - 1) (j - 1) else (100 * lastk co f g i j + 10 * (i - di (lastk co f g i j)) + (j - dj (lastk co f g i j))) :: trs co f g n (i - di (lastk co f g i j)) (j - dj (lastk co f g i j))
def IsL (L : List Nat) (ld : Int32) (ls : Nat → Int32) : Prop := ld = nI L.length ∧ ∀ t, t < L.length → ls t = nI (L.getD t 0)
theorem IsL_snoc {L : List Nat} {ld : Int32} {ls : Nat → Int32} (h : IsL L ld ls) (x : Nat) (hL : L.length < 1000) : IsL (L ++ [x]) (nI (L.length + 1)) (upd ls L.length (nI x)) := by
  refine ⟨by rw [List.length_append]; rfl, fun t ht => ?_⟩
  rw [List.length_append] at ht
  by_cases e : t = L.length
  · subst e
    rw [pk_us]
    rw [List.getD_eq_getElem?_getD, List.getElem?_append_right (Nat.le_refl _), Nat.sub_self]
    rfl
  · have ht' : t < L.length := by
      have : t < L.length + 1 := ht
      omega
    rw [pk_un e, h.2 t ht', List.getD_eq_getElem?_getD, List.getD_eq_getElem?_getD, List.getElem?_append_left ht']
theorem s_trace_24 {q r : Sy} {co : Nat → Nat} {fN : Nat} {fln gln : Int32} {ftk gtk fa : Nat → Int32} {tb : Nat → Nat → Int32} {K : Int32 → Int32 → Int32 → Int32 → (Nat → Int32) → Prop} (hE : REd q r co fN fln ftk gln gtk fa) (hT : Tab co q r (q.1 + 1) 0 tb) : ∀ (d s i j : Nat) (P : List Nat) (ld : Int32) (ls : Nat → Int32), s + d = 16 → i + j ≤ d → i ≤ q.1 → j ≤ r.1 → P.length ≤ s → IsL P ld ls → (∀ v4 v3 v2 ld' ls', IsL (P ++ trs co q.2 r.2 d i j) ld' ls' → K v4 v3 v2 ld' ls') → P_X1_trace_24 fN fln ftk gln gtk tb fa K (d + 1) (nI s) (nI j) (nI i) ld ls := by
  have q8 := hE.2.2.1
  have r8 := hE.2.2.2.1
  have hco : ∀ i, i < 4 → co i ≤ 9 := fun i hi => (hE.2.2.2.2.2.2.2 i hi).2
  intro d
  induction d with
  | zero =>
    intro s i j P ld ls hs hij hi hj hP hL hK
    show B_X1_trace_24 fN fln ftk gln gtk tb fa K _ (nI s) (nI j) (nI i) ld ls
    unfold B_X1_trace_24
    have e : s = 16 := by omega
    subst e
    simp (disch := omega) only [iL0, iL1, iL2, iL3, iL4, iL5, iL6, iL7, iL8, iL9, iL10, iL11, iL12, iL13, iL14, iL16, iL20, iL21, iL40, iL48, iL60, iL64, iL65, iL96, iL100, iL10000, iL1000000, nI_leI, nI_ltI, nI_eq, nI_add, pk_mul, pk_sub, nI_clamp, vpi, ofN]
    refine ⟨fun _ => hK _ _ _ _ _ ?_, fun z => by omega⟩
    rw [trs, List.append_nil]
    exact hL
  | succ d ih =>
    intro s i j P ld ls hs hij hi hj hP hL hK
    show B_X1_trace_24 fN fln ftk gln gtk tb fa K (P_X1_trace_24 fN fln ftk gln gtk tb fa K (d + 1)) (nI s) (nI j) (nI i) ld ls
    unfold B_X1_trace_24
    refine ⟨fun z => ?_, fun _ => ⟨fun z => ?_, fun z => s_lastStep hE hi hj hT ?_⟩⟩
    · simp (disch := omega) only [iL0, iL1, iL2, iL3, iL4, iL5, iL6, iL7, iL8, iL9, iL10, iL11, iL12, iL13, iL14, iL16, iL20, iL21, iL40, iL48, iL60, iL64, iL65, iL96, iL100, iL10000, iL1000000, nI_leI, nI_ltI, nI_eq, nI_add, pk_mul, pk_sub, nI_clamp, vpi, ofN] at z
      omega
    · simp (disch := omega) only [iL0, iL1, iL2, iL3, iL4, iL5, iL6, iL7, iL8, iL9, iL10, iL11, iL12, iL13, iL14, iL16, iL20, iL21, iL40, iL48, iL60, iL64, iL65, iL96, iL100, iL10000, iL1000000, nI_leI, nI_ltI, nI_eq, nI_add, pk_mul, pk_sub, nI_clamp, vpi, ofN] at z
      refine hK _ _ _ _ _ ?_
      rw [trs, if_pos (by omega), List.append_nil]
      exact hL
    · simp (disch := omega) only [iL0, iL1, iL2, iL3, iL4, iL5, iL6, iL7, iL8, iL9, iL10, iL11, iL12, iL13, iL14, iL16, iL20, iL21, iL40, iL48, iL60, iL64, iL65, iL96, iL100, iL10000, iL1000000, nI_leI, nI_ltI, nI_eq, nI_add, pk_mul, pk_sub, nI_clamp, vpi, ofN] at z
      have ok := lastk_ok (co := co) (f := q.2) (g := r.2) hco (show i ≤ 8 by omega) (show j ≤ 8 by omega) (by omega)
      have hst : trs co q.2 r.2 (d + 1) i j = if lastk co q.2 r.2 i j = 1 ∧ q.2 (i - 1) = r.2 (j - 1) then trs co q.2 r.2 d (i - 1) (j - 1) else (100 * lastk co q.2 r.2 i j + 10 * (i - di (lastk co q.2 r.2 i j)) + (j - dj (lastk co q.2 r.2 i j))) :: trs co q.2 r.2 d (i - di (lastk co q.2 r.2 i j)) (j - dj (lastk co q.2 r.2 i j)) := by
        rw [trs, if_neg (by omega)]
      generalize lastk co q.2 r.2 i j = k at ok hst ⊢
      have go : ∀ (i' j' x : Nat), i' = i - di k → j' = j - dj k → ¬ (k = 1 ∧ q.2 (i - 1) = r.2 (j - 1)) → x = 100 * k + 10 * i' + j' → (nI 16 ≤ ld → P_X1_trace_24 fN fln ftk gln gtk tb fa K (d + 1) (nI (s + 1)) (nI j') (nI i') ld ls) ∧ (¬ nI 16 ≤ ld → (vp_in ld 16 ∧ P_X1_trace_24 fN fln ftk gln gtk tb fa K (d + 1) (nI (s + 1)) (nI j') (nI i') (ld + (1 : Int32)) (upd ls (Int32.toNatClampNeg ld) (nI x)))) := by
        intro i' j' x ei ej hk ex
        have hlen := hL.1
        rw [hlen]
        simp (disch := omega) only [iL0, iL1, iL2, iL3, iL4, iL5, iL6, iL7, iL8, iL9, iL10, iL11, iL12, iL13, iL14, iL16, iL20, iL21, iL40, iL48, iL60, iL64, iL65, iL96, iL100, iL10000, iL1000000, nI_leI, nI_ltI, nI_eq, nI_add, pk_mul, pk_sub, nI_clamp, vpi, ofN]
        refine ⟨fun z => by omega, fun _ => ⟨by omega, ih (s + 1) i' j' (P ++ [x]) _ _ (by omega) ?_ (by omega) (by omega) ?_ (IsL_snoc hL x (by omega)) (fun v4 v3 v2 ld' ls' hL' => hK v4 v3 v2 ld' ls' ?_)⟩⟩
        · rcases (show k = 1 ∨ k = 2 ∨ k = 3 ∨ k = 4 by omega) with rfl | rfl | rfl | rfl <;> simp only [bok, di, dj, Nat.reduceEqDiff, if_true, if_false] at ok ei ej <;> omega
        · rw [List.length_append]
          show P.length + 1 ≤ s + 1
          omega
        · rw [hst, if_neg hk, ← ei, ← ej, ← ex]
          rw [List.append_assoc] at hL'
          exact hL'
      rcases (show k = 1 ∨ k = 2 ∨ k = 3 ∨ k = 4 by omega) with rfl | rfl | rfl | rfl
      · simp only [bok, if_true] at ok
        simp (disch := omega) only [iL0, iL1, iL2, iL3, iL4, iL5, iL6, iL7, iL8, iL9, iL10, iL11, iL12, iL13, iL14, iL16, iL20, iL21, iL40, iL48, iL60, iL64, iL65, iL96, iL100, iL10000, iL1000000, nI_leI, nI_ltI, nI_eq, nI_add, pk_mul, pk_sub, nI_clamp, vpi, ofN, Nat.reduceEqDiff, not_true, not_false_iff, false_implies, true_implies, true_and, and_true]
        refine s_at_q hE.1 (by omega) q8 (s_at_q hE.2.1 (by omega) r8 ?_)
        have a1 := hE.2.2.2.2.1 (i - 1) (by omega)
        have a2 := hE.2.2.2.2.2.1 (j - 1) (by omega)
        simp (disch := omega) only [iL0, iL1, iL2, iL3, iL4, iL5, iL6, iL7, iL8, iL9, iL10, iL11, iL12, iL13, iL14, iL16, iL20, iL21, iL40, iL48, iL60, iL64, iL65, iL96, iL100, iL10000, iL1000000, nI_leI, nI_ltI, nI_eq, nI_add, pk_mul, pk_sub, nI_clamp, vpi, ofN, Nat.reduceEqDiff, not_true, not_false_iff, false_implies, true_implies, true_and, and_true]
        refine ⟨fun c => ?_, fun c => ?_⟩
        · exact go (i - 1) (j - 1) _ rfl rfl (fun y => c y.2) rfl
        · refine ih (s + 1) (i - 1) (j - 1) P _ _ (by omega) (by omega) (by omega) (by omega) (by omega) hL (fun v4 v3 v2 ld' ls' hL' => hK v4 v3 v2 ld' ls' ?_)
          rw [hst, if_pos ⟨rfl, c⟩]
          exact hL'
      · simp only [bok, Nat.reduceEqDiff, if_true, if_false] at ok
        simp (disch := omega) only [iL0, iL1, iL2, iL3, iL4, iL5, iL6, iL7, iL8, iL9, iL10, iL11, iL12, iL13, iL14, iL16, iL20, iL21, iL40, iL48, iL60, iL64, iL65, iL96, iL100, iL10000, iL1000000, nI_leI, nI_ltI, nI_eq, nI_add, pk_mul, pk_sub, nI_clamp, vpi, ofN, Nat.reduceEqDiff, not_true, not_false_iff, false_implies, true_implies, true_and, and_true]
        exact go (i - 1) (j - 0) _ rfl rfl (by omega) rfl
      · simp only [bok, Nat.reduceEqDiff, if_true, if_false] at ok
        simp (disch := omega) only [iL0, iL1, iL2, iL3, iL4, iL5, iL6, iL7, iL8, iL9, iL10, iL11, iL12, iL13, iL14, iL16, iL20, iL21, iL40, iL48, iL60, iL64, iL65, iL96, iL100, iL10000, iL1000000, nI_leI, nI_ltI, nI_eq, nI_add, pk_mul, pk_sub, nI_clamp, vpi, ofN, Nat.reduceEqDiff, not_true, not_false_iff, false_implies, true_implies, true_and, and_true]
        exact go (i - 0) (j - 1) _ rfl rfl (by omega) rfl
      · simp only [bok, Nat.reduceEqDiff, if_true, if_false] at ok
        simp (disch := omega) only [iL0, iL1, iL2, iL3, iL4, iL5, iL6, iL7, iL8, iL9, iL10, iL11, iL12, iL13, iL14, iL16, iL20, iL21, iL40, iL48, iL60, iL64, iL65, iL96, iL100, iL10000, iL1000000, nI_leI, nI_ltI, nI_eq, nI_add, pk_mul, pk_sub, nI_clamp, vpi, ofN, Nat.reduceEqDiff, not_true, not_false_iff, false_implies, true_implies, true_and, and_true]
        exact go (i - 2) (j - 2) _ rfl rfl (by omega) rfl
theorem s_trace {q r : Sy} {co : Nat → Nat} {fN : Nat} {fln gln ld : Int32} {ftk gtk fa ls : Nat → Int32} {tb : Nat → Nat → Int32} {post : Int32 → (Nat → Int32) → Prop} (hE : REd q r co fN fln ftk gln gtk fa) (hT : Tab co q r (q.1 + 1) 0 tb) (h : ∀ ld' ls', IsL (trs co q.2 r.2 16 q.1 r.1) ld' ls' → post ld' ls') : P_X1_trace fN ld fln ftk gln gtk tb ls fa post := by
  have q8 := hE.2.2.1
  have r8 := hE.2.2.2.1
  unfold P_X1_trace
  refine ⟨17, ?_⟩
  have t := s_trace_24 (K := fun w4_4 w3_4 w2_4 ld_4 ls_4 => post ld_4 ls_4) hE hT 16 0 q.1 r.1 [] _ ls rfl (by omega) (Nat.le_refl _) (Nat.le_refl _) (Nat.le_refl _) ⟨rfl, fun t ht => absurd ht (Nat.not_lt_zero t)⟩ (fun v4 v3 v2 ld' ls' hL => h ld' ls' hL)
  rw [← hE.1.1, ← hE.2.1.1] at t
  exact t
theorem trs_len {co f g : Nat → Nat} : ∀ (n i j : Nat), (trs co f g n i j).length ≤ n := by
  intro n
  induction n with
  | zero => intro i j; rw [trs]; exact Nat.le_refl _
  | succ n ih =>
    intro i j
    rw [trs]
    by_cases h : i + j = 0
    · rw [if_pos h]; exact Nat.zero_le _
    · rw [if_neg h]
      by_cases c : lastk co f g i j = 1 ∧ f (i - 1) = g (j - 1)
      · rw [if_pos c]
        exact Nat.le_trans (ih _ _) (Nat.le_succ n)
      · rw [if_neg c]
        exact Nat.succ_le_succ (ih _ _)
theorem s_fromBeginning {L : List Nat} {x ld : Int32} {ls : Nat → Int32} {post : Int32 → Prop} (hL : IsL L ld ls) (h16 : L.length ≤ 16) (h0 : x < 0 ∨ nI L.length ≤ x → post (-4)) (h1 : ∀ k, k < L.length → x = nI k → post (nI (L.getD (L.length - 1 - k) 0))) : P_X1_fromBeginning x ld ls post := by
  unfold P_X1_fromBeginning
  rw [hL.1]
  refine ⟨fun z => h0 (Or.inl z), fun z => ⟨fun z2 => h0 (Or.inr z2), fun z2 => ?_⟩⟩
  obtain ⟨k, hk, rfl⟩ := nI_below (m := L.length) (by omega) z z2
  simp (disch := omega) only [iL0, iL1, iL2, iL3, iL4, iL5, iL6, iL7, iL8, iL9, iL10, iL11, iL12, iL13, iL14, iL16, iL20, iL21, iL40, iL48, iL60, iL64, iL65, iL96, iL100, iL10000, iL1000000, nI_leI, nI_ltI, nI_eq, nI_add, pk_mul, pk_sub, nI_clamp, vpi, ofN]
  refine ⟨by omega, ?_⟩
  rw [hL.2 _ (by omega)]
  exact h1 k hk rfl
