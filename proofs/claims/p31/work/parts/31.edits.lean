/-! ===== the table of edit distances ===== -/
def rp (co : Nat → Nat) (a b : Nat) : Nat := if a = b then 0 else if a / 4 = b / 4 then co 2 else co 1
def crs (f g : Nat → Nat) (i j : Nat) : Prop := 2 ≤ i ∧ 2 ≤ j ∧ f (i - 1) = g (j - 2) ∧ f (i - 2) = g (j - 1)
noncomputable def DD (co f g : Nat → Nat) (i j : Nat) : Nat :=
  if _h0 : i = 0 ∧ j = 0 then 0 else
  min (min (min (if _h1 : 1 ≤ i ∧ 1 ≤ j then DD co f g (i - 1) (j - 1) + rp co (f (i - 1)) (g (j - 1)) else 10000)
    (if _h2 : 1 ≤ i then DD co f g (i - 1) j + co 0 else 10000))
    (if _h3 : 1 ≤ j then DD co f g i (j - 1) + co 0 else 10000))
    (if _h4 : 2 ≤ i ∧ 2 ≤ j ∧ f (i - 1) = g (j - 2) ∧ f (i - 2) = g (j - 1) then DD co f g (i - 2) (j - 2) + co 3 else 10000)
termination_by i + j
decreasing_by all_goals omega
/-- what D(i, j) would be with this kind of step as the last one -/
def bv (co f g : Nat → Nat) (T : Nat → Nat → Nat) (k i j : Nat) : Nat :=
  if k = 1 then T (i - 1) (j - 1) + rp co (f (i - 1)) (g (j - 1)) else if k = 2 then T (i - 1) j + co 0 else if k = 3 then T i (j - 1) + co 0 else T (i - 2) (j - 2) + co 3
def bok (f g : Nat → Nat) (k i j : Nat) : Prop :=
  if k = 1 then 1 ≤ i ∧ 1 ≤ j else if k = 2 then 1 ≤ i else if k = 3 then 1 ≤ j else 2 ≤ i ∧ 2 ≤ j ∧ f (i - 1) = g (j - 2) ∧ f (i - 2) = g (j - 1)
noncomputable def stp (co f g : Nat → Nat) (T : Nat → Nat → Nat) (k i j m : Nat) : Nat := by
  classical exact if bok f g k i j then min m (bv co f g T k i j) else m
theorem DD_00 (co f g : Nat → Nat) : DD co f g 0 0 = 0 := by
  rw [DD]
  simp
theorem DD_le (co f g : Nat → Nat) : ∀ (n i j : Nat), i + j = n → DD co f g i j ≤ co 0 * (i + j) := by
  intro n
  induction n using Nat.strongRecOn with
  | _ n ih =>
    intro i j hn
    rw [DD]
    by_cases h0 : i = 0 ∧ j = 0
    · rw [dif_pos h0]
      exact Nat.zero_le _
    · rw [dif_neg h0]
      by_cases hi : 1 ≤ i
      · have h1 := ih (n - 1) (by omega) (i - 1) j (by omega)
        rw [dif_pos hi]
        have e : co 0 * (i + j) = co 0 * (i - 1 + j) + co 0 := by
          rw [show i + j = (i - 1 + j) + 1 by omega, Nat.mul_add, Nat.mul_one]
        have : DD co f g (i - 1) j + co 0 ≤ co 0 * (i + j) := by omega
        refine Nat.le_trans ?_ this
        exact Nat.le_trans (Nat.min_le_left _ _) (Nat.le_trans (Nat.min_le_left _ _) (Nat.min_le_right _ _))
      · have hj : 1 ≤ j := by omega
        have h1 := ih (n - 1) (by omega) i (j - 1) (by omega)
        rw [dif_pos hj]
        have e : co 0 * (i + j) = co 0 * (i + (j - 1)) + co 0 := by
          rw [show i + j = (i + (j - 1)) + 1 by omega, Nat.mul_add, Nat.mul_one]
        have : DD co f g i (j - 1) + co 0 ≤ co 0 * (i + j) := by omega
        refine Nat.le_trans ?_ this
        exact Nat.le_trans (Nat.min_le_left _ _) (Nat.min_le_right _ _)
/-- the four steps one after the other, from any number that isn't less than 10000 -/
theorem DD_stp (co f g : Nat → Nat) (i j B : Nat) (hB : 10000 ≤ B) (hco : co 0 ≤ 9) (hij : i + j ≤ 16) (h0 : ¬ (i = 0 ∧ j = 0)) :
    stp co f g (DD co f g) 4 i j (stp co f g (DD co f g) 3 i j (stp co f g (DD co f g) 2 i j (stp co f g (DD co f g) 1 i j B))) = DD co f g i j := by
  have hle := DD_le co f g _ i j rfl
  have hb : co 0 * (i + j) ≤ 9 * 16 := Nat.mul_le_mul hco hij
  rw [DD, dif_neg h0] at hle ⊢
  simp only [stp, bok, bv, if_pos, if_neg, Nat.reduceEqDiff, if_true, if_false]
  by_cases h1 : 1 ≤ i ∧ 1 ≤ j <;> by_cases h2 : 1 ≤ i <;> by_cases h3 : 1 ≤ j <;> by_cases h4 : 2 ≤ i ∧ 2 ≤ j ∧ f (i - 1) = g (j - 2) ∧ f (i - 2) = g (j - 1) <;> simp only [h1, h2, h3, h4, dif_pos, dif_neg, if_pos, if_neg, not_false_iff, dite_true, dite_false, if_true, if_false, and_self, true_and, and_true] at hle ⊢ <;> omega
/-! ===== the class: Edits.measure ===== -/
theorem s_at_q {q : Sy} {ln : Int32} {tk : Nat → Int32} {k : Nat} {post : Int32 → Prop} (hq : RQ q ln tk) (hk : k < q.1) (h8 : q.1 ≤ 8) (h : post (nI (q.2 k))) : P_X5_at (nI k) ln tk post := by
  obtain ⟨rfl, h2⟩ := hq
  refine s_at_in hk h8 ?_
  rw [h2 k hk]
  exact h
/-- two sequences of words, and costs, in an Edits' cells -/
def REd (q r : Sy) (co : Nat → Nat) (fN : Nat) (fln : Int32) (ftk : Nat → Int32) (gln : Int32) (gtk fa : Nat → Int32) : Prop := RQ q fln ftk ∧ RQ r gln gtk ∧ q.1 ≤ 8 ∧ r.1 ≤ 8 ∧ (∀ j, j < q.1 → q.2 j < 60) ∧ (∀ j, j < r.1 → r.2 j < 60) ∧ 4 ≤ fN ∧ (∀ i, i < 4 → fa i = nI (co i) ∧ co i ≤ 9)
theorem s_replacing {q r : Sy} {co : Nat → Nat} {fN i j : Nat} {ld fln gln : Int32} {ftk gtk fa : Nat → Int32} {post : Int32 → Prop} (hE : REd q r co fN fln ftk gln gtk fa) (hi : 1 ≤ i) (hi2 : i ≤ q.1) (hj : 1 ≤ j) (hj2 : j ≤ r.1) (h : post (nI (rp co (q.2 (i - 1)) (r.2 (j - 1))))) : P_X1_replacing fN (nI i) (nI j) ld fln ftk gln gtk fa post := by
  obtain ⟨hq, hr, q8, r8, qw, rw9, hN, hco⟩ := hE
  unfold P_X1_replacing
  simp (disch := omega) only [iL1, pk_sub]
  refine s_at_q hq (by omega) q8 (s_at_q hr (by omega) r8 ?_)
  have ha := qw (i - 1) (by omega)
  have hb := rw9 (j - 1) (by omega)
  simp (disch := omega) only [iL0, iL1, iL2, iL3, iL4, iL5, iL6, iL7, iL8, iL9, iL10, iL11, iL12, iL13, iL14, iL16, iL20, iL21, iL40, iL48, iL60, iL64, iL65, iL96, iL100, iL10000, iL1000000, nI_leI, nI_ltI, nI_eq, nI_add, pk_mul, pk_sub, nI_clamp, vpi, ofN, pk_div]
  refine ⟨fun h1 => ⟨fun h2 => ⟨by omega, ?_⟩, fun h2 => ⟨by omega, ?_⟩⟩, fun h1 => ?_⟩
  · rw [(hco 1 (by omega)).1]
    rw [rp, if_neg h1, if_neg h2] at h
    exact h
  · rw [(hco 2 (by omega)).1]
    rw [rp, if_neg h1, if_pos h2] at h
    exact h
  · rw [rp, if_pos h1] at h
    exact h
theorem s_swaps {q r : Sy} {co : Nat → Nat} {fN i j : Nat} {ld fln gln : Int32} {ftk gtk fa : Nat → Int32} {post : Int32 → Prop} (hE : REd q r co fN fln ftk gln gtk fa) (hi2 : i ≤ q.1) (hj2 : j ≤ r.1) (h1 : (2 ≤ i ∧ 2 ≤ j ∧ q.2 (i - 1) = r.2 (j - 2) ∧ q.2 (i - 2) = r.2 (j - 1)) → post (nI 1)) (h0 : ¬ (2 ≤ i ∧ 2 ≤ j ∧ q.2 (i - 1) = r.2 (j - 2) ∧ q.2 (i - 2) = r.2 (j - 1)) → post (nI 0)) : P_X1_swaps (nI i) (nI j) ld fln ftk gln gtk post := by
  obtain ⟨hq, hr, q8, r8, qw, rw9, hN, hco⟩ := hE
  unfold P_X1_swaps
  simp (disch := omega) only [iL0, iL1, iL2, nI_ltI]
  refine ⟨fun c => h0 (fun z => by omega), fun c1 => ⟨fun c => h0 (fun z => by omega), fun c2 => ?_⟩⟩
  simp (disch := omega) only [pk_sub]
  refine s_at_q hq (by omega) q8 (s_at_q hr (by omega) r8 ?_)
  have ha := qw (i - 1) (by omega)
  have hb := rw9 (j - 2) (by omega)
  have ha2 := qw (i - 2) (by omega)
  have hb2 := rw9 (j - 1) (by omega)
  simp (disch := omega) only [nI_eq]
  refine ⟨fun c => h0 (fun z => c z.2.2.1), fun c3 => s_at_q hq (by omega) q8 (s_at_q hr (by omega) r8 ?_)⟩
  simp (disch := omega) only [nI_eq]
  exact ⟨fun c => h0 (fun z => c z.2.2.2), fun c4 => h1 ⟨by omega, by omega, c3, c4⟩⟩
/-- the table stands up to (i, j) -/
def Tab (co : Nat → Nat) (q r : Sy) (i j : Nat) (tb : Nat → Nat → Int32) : Prop := ∀ a b, a ≤ q.1 → b ≤ r.1 → (a < i ∨ (a = i ∧ b < j)) → tb a b = nI (DD co q.2 r.2 a b)
theorem DD_bd {co : Nat → Nat} (f g : Nat → Nat) {i j : Nat} (hco : co 0 ≤ 9) (hi : i ≤ 8) (hj : j ≤ 8) : DD co f g i j ≤ 144 := by
  have h1 := DD_le co f g _ i j rfl
  have h2 : co 0 * (i + j) ≤ 9 * 16 := Nat.mul_le_mul hco (by omega)
  omega
theorem s_by {q r : Sy} {co : Nat → Nat} {fN k i j : Nat} {ld fln gln : Int32} {ftk gtk fa : Nat → Int32} {tb : Nat → Nat → Int32} {post : Int32 → Prop} (hE : REd q r co fN fln ftk gln gtk fa) (hk1 : 1 ≤ k) (hk : k ≤ 4) (hi : i ≤ q.1) (hj : j ≤ r.1) (hT : Tab co q r i j tb) (h1 : bok q.2 r.2 k i j → post (nI (bv co q.2 r.2 (DD co q.2 r.2) k i j))) (h0 : ¬ bok q.2 r.2 k i j → post (nI 1000000)) : P_X1_by fN (nI k) (nI i) (nI j) ld fln ftk gln gtk tb fa post := by
  have hE0 := hE
  obtain ⟨hq, hr, q8, r8, qw, rw9, hN, hco⟩ := hE
  have hc0 := hco 0 (by omega)
  have hc3 := hco 3 (by omega)
  unfold P_X1_by
  simp (disch := omega) only [iL0, iL1, iL2, iL3, iL4, iL5, iL6, iL7, iL8, iL9, iL10, iL11, iL12, iL13, iL14, iL16, iL20, iL21, iL40, iL48, iL60, iL64, iL65, iL96, iL100, iL10000, iL1000000, nI_leI, nI_ltI, nI_eq, nI_add, pk_mul, pk_sub, nI_clamp, vpi, ofN]
  refine ⟨?_, ?_, ?_, ?_⟩
  · rintro rfl
    simp only [bok, bv, if_true] at h1 h0
    refine ⟨fun c => h0 (by omega), fun c1 => ⟨fun c => h0 (by omega), fun c2 => ?_⟩⟩
    simp (disch := omega) only [iL0, iL1, iL2, iL3, iL4, iL5, iL6, iL7, iL8, iL9, iL10, iL11, iL12, iL13, iL14, iL16, iL20, iL21, iL40, iL48, iL60, iL64, iL65, iL96, iL100, iL10000, iL1000000, nI_leI, nI_ltI, nI_eq, nI_add, pk_mul, pk_sub, nI_clamp, vpi, ofN]
    refine ⟨by omega, by omega, s_replacing hE0 (by omega) hi (by omega) hj ?_⟩
    rw [hT (i - 1) (j - 1) (by omega) (by omega) (by omega), nI_add]
    exact h1 (by omega)
  · rintro rfl
    simp only [bok, bv, Nat.reduceEqDiff, if_true, if_false] at h1 h0
    refine ⟨fun c => h0 (by omega), fun c1 => ?_⟩
    simp (disch := omega) only [iL0, iL1, iL2, iL3, iL4, iL5, iL6, iL7, iL8, iL9, iL10, iL11, iL12, iL13, iL14, iL16, iL20, iL21, iL40, iL48, iL60, iL64, iL65, iL96, iL100, iL10000, iL1000000, nI_leI, nI_ltI, nI_eq, nI_add, pk_mul, pk_sub, nI_clamp, vpi, ofN]
    refine ⟨by omega, by omega, by omega, ?_⟩
    rw [hT (i - 1) j (by omega) (by omega) (by omega), hc0.1, nI_add]
    exact h1 (by omega)
  · rintro rfl
    simp only [bok, bv, Nat.reduceEqDiff, if_true, if_false] at h1 h0
    refine ⟨fun c => h0 (by omega), fun c1 => ?_⟩
    simp (disch := omega) only [iL0, iL1, iL2, iL3, iL4, iL5, iL6, iL7, iL8, iL9, iL10, iL11, iL12, iL13, iL14, iL16, iL20, iL21, iL40, iL48, iL60, iL64, iL65, iL96, iL100, iL10000, iL1000000, nI_leI, nI_ltI, nI_eq, nI_add, pk_mul, pk_sub, nI_clamp, vpi, ofN]
    refine ⟨by omega, by omega, by omega, ?_⟩
    rw [hT i (j - 1) (by omega) (by omega) (by omega), hc0.1, nI_add]
    exact h1 (by omega)
  · intro n1 n2 n3
    have e : k = 4 := by omega
    subst e
    simp only [bok, bv, Nat.reduceEqDiff, if_false] at h1 h0
    refine s_swaps hE0 hi hj (fun c => ?_) (fun c => ?_)
    · simp (disch := omega) only [iL0, iL1, iL2, iL3, iL4, iL5, iL6, iL7, iL8, iL9, iL10, iL11, iL12, iL13, iL14, iL16, iL20, iL21, iL40, iL48, iL60, iL64, iL65, iL96, iL100, iL10000, iL1000000, nI_leI, nI_ltI, nI_eq, nI_add, pk_mul, pk_sub, nI_clamp, vpi, ofN]
      refine ⟨fun z => by omega, fun _ => ⟨by omega, by omega, by omega, ?_⟩⟩
      rw [hT (i - 2) (j - 2) (by omega) (by omega) (by omega), hc3.1, nI_add]
      exact h1 c
    · simp (disch := omega) only [iL0, iL1, iL2, iL3, iL4, iL5, iL6, iL7, iL8, iL9, iL10, iL11, iL12, iL13, iL14, iL16, iL20, iL21, iL40, iL48, iL60, iL64, iL65, iL96, iL100, iL10000, iL1000000, nI_leI, nI_ltI, nI_eq, nI_add, pk_mul, pk_sub, nI_clamp, vpi, ofN]
      exact ⟨fun _ => h0 c, fun z => absurd trivial z⟩
theorem min_if (a b : Nat) (ha : a < 2 ^ 31) (hb : b < 2 ^ 31) : (if nI a < nI b then nI a else nI b) = nI (min b a) := by
  by_cases h : a < b
  · rw [if_pos ((nI_ltI ha hb).mpr h), Nat.min_eq_right (Nat.le_of_lt h)]
  · rw [if_neg (fun q => h ((nI_ltI ha hb).mp q)), Nat.min_eq_left (by omega)]
theorem stp_le (co f g : Nat → Nat) (T : Nat → Nat → Nat) (k i j m : Nat) : stp co f g T k i j m ≤ m := by
  unfold stp
  by_cases h : bok f g k i j
  · rw [if_pos h]
    exact Nat.min_le_left _ _
  · rw [if_neg h]
    exact Nat.le_refl _
theorem bv_bd {co : Nat → Nat} (f g : Nat → Nat) {k i j : Nat} (hco : ∀ i, i < 4 → co i ≤ 9) (hi : i ≤ 8) (hj : j ≤ 8) : bv co f g (DD co f g) k i j ≤ 200 := by
  have h0 := hco 0 (by omega)
  have h1 := hco 1 (by omega)
  have h2 := hco 2 (by omega)
  have h3 := hco 3 (by omega)
  have d1 := DD_bd f g h0 (i := i - 1) (j := j - 1) (by omega) (by omega)
  have d2 := DD_bd f g h0 (i := i - 1) (j := j) (by omega) (by omega)
  have d3 := DD_bd f g h0 (i := i) (j := j - 1) (by omega) (by omega)
  have d4 := DD_bd f g h0 (i := i - 2) (j := j - 2) (by omega) (by omega)
  have hr : rp co (f (i - 1)) (g (j - 1)) ≤ 9 := by
    unfold rp
    split
    · omega
    · split <;> omega
  unfold bv
  split
  · omega
  · split
    · omega
    · split <;> omega
/-- one round of the loop over the kinds of steps -/
theorem s_measure_45 {q r : Sy} {co : Nat → Nat} {fN i j : Nat} {ld fln gln : Int32} {ftk gtk fa : Nat → Int32} {tb : Nat → Nat → Int32} {K : Int32 → Int32 → Prop} (hE : REd q r co fN fln ftk gln gtk fa) (hi : i ≤ q.1) (hj : j ≤ r.1) (hT : Tab co q r i j tb) {n k m : Nat} (hk1 : 1 ≤ k) (hk : k ≤ 4) (hm : m ≤ 1000000) (h : P_X1_measure_45 fN (nI j) (nI i) ld fln ftk gln gtk tb fa K n (nI (k + 1)) (nI (stp co q.2 r.2 (DD co q.2 r.2) k i j m))) : P_X1_measure_45 fN (nI j) (nI i) ld fln ftk gln gtk tb fa K (n + 1) (nI k) (nI m) := by
  show B_X1_measure_45 fN (nI j) (nI i) ld fln ftk gln gtk tb fa K (P_X1_measure_45 fN (nI j) (nI i) ld fln ftk gln gtk tb fa K n) (nI k) (nI m)
  have hE0 := hE
  obtain ⟨hq, hr, q8, r8, qw, rw9, hN, hco⟩ := hE
  unfold B_X1_measure_45
  simp (disch := omega) only [iL1, iL4, nI_ltI, nI_add]
  refine ⟨fun z => by omega, fun _ => s_by hE0 hk1 hk hi hj hT (fun c => ?_) (fun c => ?_)⟩
  · have hb := bv_bd q.2 r.2 (k := k) (fun i hi => (hco i hi).2) (show i ≤ 8 by omega) (show j ≤ 8 by omega)
    rw [min_if _ _ (by omega) (by omega)]
    rw [stp, if_pos c] at h
    exact h
  · rw [min_if _ _ (by omega) (by omega), Nat.min_eq_left hm]
    rw [stp, if_neg c] at h
    exact h
theorem s_measure_45_all {q r : Sy} {co : Nat → Nat} {fN i j : Nat} {ld fln gln : Int32} {ftk gtk fa : Nat → Int32} {tb : Nat → Nat → Int32} {K : Int32 → Int32 → Prop} (hE : REd q r co fN fln ftk gln gtk fa) (hi : i ≤ q.1) (hj : j ≤ r.1) (hT : Tab co q r i j tb) {m : Nat} (hm : m ≤ 1000000) (h : K (nI 5) (nI (stp co q.2 r.2 (DD co q.2 r.2) 4 i j (stp co q.2 r.2 (DD co q.2 r.2) 3 i j (stp co q.2 r.2 (DD co q.2 r.2) 2 i j (stp co q.2 r.2 (DD co q.2 r.2) 1 i j m)))))) : P_X1_measure_45 fN (nI j) (nI i) ld fln ftk gln gtk tb fa K 5 (nI 1) (nI m) := by
  have l1 := stp_le co q.2 r.2 (DD co q.2 r.2) 1 i j m
  have l2 := stp_le co q.2 r.2 (DD co q.2 r.2) 2 i j (stp co q.2 r.2 (DD co q.2 r.2) 1 i j m)
  have l3 := stp_le co q.2 r.2 (DD co q.2 r.2) 3 i j (stp co q.2 r.2 (DD co q.2 r.2) 2 i j (stp co q.2 r.2 (DD co q.2 r.2) 1 i j m))
  refine s_measure_45 hE hi hj hT (by omega) (by omega) hm (s_measure_45 hE hi hj hT (by omega) (by omega) (Nat.le_trans l1 hm) (s_measure_45 hE hi hj hT (by omega) (by omega) (Nat.le_trans l2 (Nat.le_trans l1 hm)) (s_measure_45 hE hi hj hT (by omega) (by omega) (Nat.le_trans l3 (Nat.le_trans l2 (Nat.le_trans l1 hm))) ?_)))
  show B_X1_measure_45 fN (nI j) (nI i) ld fln ftk gln gtk tb fa K _ (nI 5) _
  unfold B_X1_measure_45
  simp (disch := omega) only [iL1, iL4, nI_ltI]
  exact ⟨fun _ => h, fun z => by omega⟩
theorem Tab_put {co : Nat → Nat} {q r : Sy} {i j : Nat} {tb : Nat → Nat → Int32} {x : Int32} (h : Tab co q r i j tb) (hx : x = nI (DD co q.2 r.2 i j)) : Tab co q r i (j + 1) (va_up tb i (upd (tb i) j x)) := by
  intro a b ha hb hab
  by_cases ea : a = i
  · subst ea
    have e1 : va_up tb a (upd (tb a) j x) a = upd (tb a) j x := if_pos rfl
    rw [e1]
    by_cases eb : b = j
    · subst eb
      rw [pk_us]
      exact hx
    · rw [pk_un eb]
      exact h a b ha hb (by omega)
  · have e1 : va_up tb i (upd (tb i) j x) a = tb a := if_neg ea
    rw [e1]
    exact h a b ha hb (by omega)
theorem Tab_next {co : Nat → Nat} {q r : Sy} {i j : Nat} {tb : Nat → Nat → Int32} (h : Tab co q r i j tb) (hj : r.1 < j) : Tab co q r (i + 1) 0 tb := fun a b ha hb hab => h a b ha hb (by omega)
theorem s_measure_15 {q r : Sy} {co : Nat → Nat} {fN i : Nat} {ld fln gln : Int32} {ftk gtk fa : Nat → Int32} {K : Int32 → (Nat → Nat → Int32) → Prop} (hE : REd q r co fN fln ftk gln gtk fa) (hi : i ≤ q.1) (hK : ∀ tb, Tab co q r i (r.1 + 1) tb → K (nI (r.1 + 1)) tb) : ∀ (d j : Nat) (tb : Nat → Nat → Int32), j + d = r.1 + 1 → Tab co q r i j tb → P_X1_measure_15 fN (nI i) ld fln ftk gln gtk fa K (d + 1) (nI j) tb := by
  have hE0 := hE
  obtain ⟨hq, hr, q8, r8, qw, rw9, hN, hco⟩ := hE
  have hc0 := (hco 0 (by omega)).2
  intro d
  induction d with
  | zero =>
    intro j tb hj hT
    show B_X1_measure_15 fN (nI i) ld fln ftk gln gtk fa K _ (nI j) tb
    unfold B_X1_measure_15
    obtain ⟨rfl, -⟩ := hr
    simp (disch := omega) only [nI_ltI]
    have e : j = r.1 + 1 := by omega
    subst e
    exact ⟨fun _ => hK tb hT, fun z => by omega⟩
  | succ d ih =>
    intro j tb hj hT
    show B_X1_measure_15 fN (nI i) ld fln ftk gln gtk fa K (P_X1_measure_15 fN (nI i) ld fln ftk gln gtk fa K (d + 1)) (nI j) tb
    unfold B_X1_measure_15
    have hrl := hr.1
    have fin : ∀ (v : Int32), v = nI (DD co q.2 r.2 i j) → vp_in (nI i) 9 ∧ (vp_in (nI j) 9 ∧ (P_X1_measure_15 fN (nI i) ld fln ftk gln gtk fa K (d + 1) (nI j + (1 : Int32)) (va_up tb (Int32.toNatClampNeg (nI i)) (upd (tb (Int32.toNatClampNeg (nI i))) (Int32.toNatClampNeg (nI j)) v)))) := by
      intro v hv
      simp (disch := omega) only [iL1, nI_add, nI_clamp, vpi]
      exact ⟨by omega, by omega, ih (j + 1) _ (by omega) (Tab_put hT hv)⟩
    refine ⟨fun z => ?_, fun _ => ⟨fun z => ?_, fun z => ⟨fun z2 => ?_, fun z2 => ?_⟩⟩⟩
    · rw [hrl] at z
      simp (disch := omega) only [nI_ltI] at z
      omega
    · refine ⟨5, s_measure_45_all (m := 1000000) hE0 hi (by omega) hT (by omega) (fin _ (congrArg nI (DD_stp co q.2 r.2 i j 1000000 (by omega) hc0 (by omega) (fun c => z (by rw [c.1]; rfl)))))⟩
    · refine ⟨5, s_measure_45_all (m := 1000000) hE0 hi (by omega) hT (by omega) (fin _ (congrArg nI (DD_stp co q.2 r.2 i j 1000000 (by omega) hc0 (by omega) (fun c => z2 (by rw [c.2]; rfl)))))⟩
    · have ei : i = 0 := (nI_eq (by omega) (by omega)).mp z
      have ej : j = 0 := (nI_eq (by omega) (by omega)).mp z2
      subst ei
      subst ej
      refine ⟨5, s_measure_45_all (m := 0) hE0 hi (by omega) hT (by omega) (fin _ (congrArg nI ?_))⟩
      rw [DD_00]
      have g1 := stp_le co q.2 r.2 (DD co q.2 r.2) 1 0 0 0
      have g2 := stp_le co q.2 r.2 (DD co q.2 r.2) 2 0 0 (stp co q.2 r.2 (DD co q.2 r.2) 1 0 0 0)
      have g3 := stp_le co q.2 r.2 (DD co q.2 r.2) 3 0 0 (stp co q.2 r.2 (DD co q.2 r.2) 2 0 0 (stp co q.2 r.2 (DD co q.2 r.2) 1 0 0 0))
      have g4 := stp_le co q.2 r.2 (DD co q.2 r.2) 4 0 0 (stp co q.2 r.2 (DD co q.2 r.2) 3 0 0 (stp co q.2 r.2 (DD co q.2 r.2) 2 0 0 (stp co q.2 r.2 (DD co q.2 r.2) 1 0 0 0)))
      omega
theorem s_measure_2 {q r : Sy} {co : Nat → Nat} {fN : Nat} {ld fln gln : Int32} {ftk gtk fa : Nat → Int32} {K : Int32 → (Nat → Nat → Int32) → Prop} (hE : REd q r co fN fln ftk gln gtk fa) (hK : ∀ tb, Tab co q r (q.1 + 1) 0 tb → K (nI (q.1 + 1)) tb) : ∀ (d i : Nat) (tb : Nat → Nat → Int32), i + d = q.1 + 1 → Tab co q r i 0 tb → P_X1_measure_2 fN ld fln ftk gln gtk fa K (d + 1) (nI i) tb := by
  have hE0 := hE
  obtain ⟨hq, hr, q8, r8, qw, rw9, hN, hco⟩ := hE
  have hql := hq.1
  intro d
  induction d with
  | zero =>
    intro i tb hi hT
    show B_X1_measure_2 fN ld fln ftk gln gtk fa K _ (nI i) tb
    unfold B_X1_measure_2
    rw [hql]
    simp (disch := omega) only [nI_ltI]
    have e : i = q.1 + 1 := by omega
    subst e
    exact ⟨fun _ => hK tb hT, fun z => by omega⟩
  | succ d ih =>
    intro i tb hi hT
    show B_X1_measure_2 fN ld fln ftk gln gtk fa K (P_X1_measure_2 fN ld fln ftk gln gtk fa K (d + 1)) (nI i) tb
    unfold B_X1_measure_2
    refine ⟨fun z => ?_, fun _ => ⟨r.1 + 1 + 1, s_measure_15 hE0 (by omega) (fun tb' hT' => ?_) (r.1 + 1) 0 tb (by omega) hT⟩⟩
    · rw [hql] at z
      simp (disch := omega) only [nI_ltI] at z
      omega
    · simp (disch := omega) only [iL1, nI_add]
      exact ih (i + 1) tb' (by omega) (Tab_next hT' (by omega))
theorem s_measure {q r : Sy} {co : Nat → Nat} {fN : Nat} {ld fln gln : Int32} {ftk gtk fa : Nat → Int32} {tb : Nat → Nat → Int32} {post : Int32 → (Nat → Nat → Int32) → Prop} (hE : REd q r co fN fln ftk gln gtk fa) (h : ∀ tb', Tab co q r (q.1 + 1) 0 tb' → post (nI (DD co q.2 r.2 q.1 r.1)) tb') : P_X1_measure fN ld fln ftk gln gtk tb fa post := by
  have hE0 := hE
  obtain ⟨hq, hr, q8, r8, qw, rw9, hN, hco⟩ := hE
  unfold P_X1_measure
  refine ⟨q.1 + 1 + 1, s_measure_2 hE0 (fun tb' hT => ?_) (q.1 + 1) 0 tb (by omega) (fun a b _ _ z => by omega)⟩
  rw [hq.1, hr.1]
  simp (disch := omega) only [nI_clamp, vpi]
  refine ⟨by omega, by omega, ?_⟩
  rw [hT q.1 r.1 (by omega) (by omega) (by omega)]
  exact h tb' hT
