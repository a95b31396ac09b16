/-! ===== the reference: takesOne .. distanceOf ===== -/
theorem iL189 : (189 : Int32) = nI 189 := rfl
theorem iL190 : (190 : Int32) = nI 190 := rfl
theorem iL191 : (191 : Int32) = nI 191 := rfl
theorem iL81 : (81 : Int32) = nI 81 := rfl
theorem RM_co {A : AS} {now : Nat → Int32} (h : RM A 0 now) {i : Nat} (hi : i < 4) : now (188 + i) = nI (A.co i) := by
  have t := h.2.2.2.1 i hi
  rw [Nat.zero_add] at t
  exact t
/-- two sequences and costs, in the reference's cells -/
def REm (q r : Sy) (co : Nat → Nat) (now one other : Nat → Int32) (n1 n2 : Int32) : Prop := RQ q n1 one ∧ RQ r n2 other ∧ q.1 ≤ 8 ∧ r.1 ≤ 8 ∧ (∀ j, j < q.1 → q.2 j < 60) ∧ (∀ j, j < r.1 → r.2 j < 60) ∧ (∀ i, i < 4 → now (188 + i) = nI (co i) ∧ co i ≤ 9)
theorem m_exchange {a b : Nat} {co : Nat → Nat} {now : Nat → Int32} {um mt ml ol me mg : Int32} {post : Int32 → Prop} (ha : a < 60) (hb : b < 60) (hco : ∀ i, i < 4 → now (188 + i) = nI (co i) ∧ co i ≤ 9) (h : post (nI (rp co a b))) : P_X9_exchange (nI a) (nI b) now um mt ml ol me mg post := by
  have c1 : now 189 = nI (co 1) := (hco 1 (by omega)).1
  have c2 : now 190 = nI (co 2) := (hco 2 (by omega)).1
  unfold P_X9_exchange
  simp (disch := omega) only [iL0, iL1, iL2, iL3, iL4, iL5, iL6, iL7, iL8, iL9, iL10, iL11, iL12, iL13, iL16, iL20, iL48, iL60, iL64, iL96, iL100, iL109, iL121, iL133, iL134, iL140, iL188, iL192, iL193, iL772, iL965, iL10000, iL1000000, nI_leI, nI_ltI, nI_eq, nI_add, pk_mul, pk_sub, nI_clamp, vpi, ofN, iL189, iL190, pk_div]
  refine ⟨fun h1 => ⟨fun h2 => ?_, fun h2 => ?_⟩, fun h1 => ?_⟩
  · rw [c1]
    rw [rp, if_neg h1, if_neg h2] at h
    exact h
  · rw [c2]
    rw [rp, if_neg h1, if_pos h2] at h
    exact h
  · rw [rp, if_pos h1] at h
    exact h
theorem m_isCrossed {q r : Sy} {co : Nat → Nat} {i j : Nat} {now one other : Nat → Int32} {n1 n2 um mt me mg : Int32} {post : Int32 → Prop} (hE : REm q r co now one other n1 n2) (hi2 : i ≤ q.1) (hj2 : j ≤ r.1) (h1 : (2 ≤ i ∧ 2 ≤ j ∧ q.2 (i - 1) = r.2 (j - 2) ∧ q.2 (i - 2) = r.2 (j - 1)) → post 1) (h0 : ¬ (2 ≤ i ∧ 2 ≤ j ∧ q.2 (i - 1) = r.2 (j - 2) ∧ q.2 (i - 2) = r.2 (j - 1)) → post 0) : P_X9_isCrossed (nI i) (nI j) um mt one other n1 n2 me mg post := by
  obtain ⟨hq, hr, q8, r8, qw, rw9, hco⟩ := hE
  unfold P_X9_isCrossed
  refine ⟨fun z => ?_, fun z => ⟨fun z2 => ?_, fun z2 => ?_⟩⟩
  · simp (disch := omega) only [iL1, nI_leI] at z
    exact h0 (fun c => by omega)
  · simp (disch := omega) only [iL1, nI_leI] at z2
    exact h0 (fun c => by omega)
  · simp (disch := omega) only [iL1, nI_leI] at z z2
    have ha := qw (i - 1) (by omega)
    have hb := rw9 (j - 2) (by omega)
    have ha2 := qw (i - 2) (by omega)
    have hb2 := rw9 (j - 1) (by omega)
    have e1 := hq.2 (i - 1) (by omega)
    have e2 := hq.2 (i - 2) (by omega)
    have e3 := hr.2 (j - 1) (by omega)
    have e4 := hr.2 (j - 2) (by omega)
    rw [show (1 : Int32) = nI 1 from rfl] at h1
    rw [show (0 : Int32) = nI 0 from rfl] at h0
    simp (disch := omega) only [iL0, iL1, iL2, pk_sub, nI_clamp, vpi, e1, e2, e3, e4, nI_eq]
    exact ⟨by omega, by omega, fun c => h0 (fun y => c y.2.2.1), fun c => ⟨by omega, by omega, fun c2 => h0 (fun y => c2 y.2.2.2), fun c2 => h1 ⟨by omega, by omega, c, c2⟩⟩⟩
theorem m_isStep {q r : Sy} {co : Nat → Nat} {k i j : Nat} {now one other : Nat → Int32} {n1 n2 um mt me mg : Int32} {post : Int32 → Prop} (hE : REm q r co now one other n1 n2) (hk1 : 1 ≤ k) (hk : k ≤ 4) (hi2 : i ≤ q.1) (hj2 : j ≤ r.1) (h1 : bok q.2 r.2 k i j → post 1) (h0 : ¬ bok q.2 r.2 k i j → post 0) : P_X9_isStep (nI k) (nI i) (nI j) um mt one other n1 n2 me mg post := by
  have q8 := hE.2.2.1
  have r8 := hE.2.2.2.1
  unfold P_X9_isStep
  rcases (show k = 1 ∨ k = 2 ∨ k = 3 ∨ k = 4 by omega) with rfl | rfl | rfl | rfl <;> simp only [bok, Nat.reduceEqDiff, if_true, if_false] at h1 h0
  · refine ⟨fun c => absurd rfl c, fun _ => ?_⟩
    rw [show (0 : Int32) = nI 0 from rfl] at h0 ⊢
    simp (disch := omega) only [nI_leI]
    exact ⟨fun z => h0 (by omega), fun z => ⟨fun z2 => h0 (by omega), fun z2 => h1 (by omega)⟩⟩
  · refine ⟨fun _ => ⟨fun c => absurd rfl c, fun _ => ?_⟩, fun c => absurd c (by decide)⟩
    rw [show (0 : Int32) = nI 0 from rfl] at h0 ⊢
    simp (disch := omega) only [nI_leI]
    exact ⟨fun z => h0 (by omega), fun z => h1 (by omega)⟩
  · refine ⟨fun _ => ⟨fun _ => ⟨fun c => absurd rfl c, fun _ => ?_⟩, fun c => absurd c (by decide)⟩, fun c => absurd c (by decide)⟩
    rw [show (0 : Int32) = nI 0 from rfl] at h0 ⊢
    simp (disch := omega) only [nI_leI]
    exact ⟨fun z => h0 (by omega), fun z => h1 (by omega)⟩
  · refine ⟨fun _ => ⟨fun _ => ⟨fun _ => ?_, fun c => absurd c (by decide)⟩, fun c => absurd c (by decide)⟩, fun c => absurd c (by decide)⟩
    exact m_isCrossed hE hi2 hj2 (fun c => ⟨Or.inr rfl, h1 c⟩) (fun c => ⟨Or.inl rfl, h0 c⟩)
theorem m_by {q r : Sy} {co : Nat → Nat} {k i j : Nat} {now one other far : Nat → Int32} {n1 n2 um mt me mg : Int32} {post : Int32 → Prop} (hE : REm q r co now one other n1 n2) (hk1 : 1 ≤ k) (hk : k ≤ 4) (hi : i ≤ q.1) (hj : j ≤ r.1) (hT : Tab co q r i j (fun a b => far (9 * a + b))) (hb : bok q.2 r.2 k i j) (h : post (nI (bv co q.2 r.2 (DD co q.2 r.2) k i j))) : P_X9_by (nI k) (nI i) (nI j) now um mt one other n1 n2 far me mg post := by
  have hE0 := hE
  obtain ⟨hq, hr, q8, r8, qw, rw9, hco⟩ := hE
  have c0 : now 188 = nI (co 0) := (hco 0 (by omega)).1
  have c3 : now 191 = nI (co 3) := (hco 3 (by omega)).1
  have g9 : (9 : Int32) = nI 9 := rfl
  unfold P_X9_by
  rcases (show k = 1 ∨ k = 2 ∨ k = 3 ∨ k = 4 by omega) with rfl | rfl | rfl | rfl <;> simp only [bok, bv, Nat.reduceEqDiff, if_true, if_false] at hb h
  · refine ⟨fun _ => ?_, fun c => absurd c (by decide), fun c => absurd c (by decide), fun c => absurd rfl c⟩
    have e1 := hq.2 (i - 1) (by omega)
    have e3 := hr.2 (j - 1) (by omega)
    have t := hT (i - 1) (j - 1) (by omega) (by omega) (by omega)
    dsimp only at t
    have ix : 9 * (i - 1) + j - 1 = 9 * (i - 1) + (j - 1) := by omega
    simp (disch := omega) only [iL0, iL1, iL2, iL3, iL4, iL5, iL6, iL7, iL8, iL9, iL10, iL11, iL12, iL13, iL16, iL20, iL48, iL60, iL64, iL96, iL100, iL109, iL121, iL133, iL134, iL140, iL188, iL192, iL193, iL772, iL965, iL10000, iL1000000, nI_leI, nI_ltI, nI_eq, nI_add, pk_mul, pk_sub, nI_clamp, vpi, ofN, e1, e3, ix]
    refine ⟨by omega, by omega, by omega, m_exchange (qw _ (by omega)) (rw9 _ (by omega)) hco ?_⟩
    rw [t, nI_add]
    exact h
  · refine ⟨fun c => absurd c (by decide), fun _ => ?_, fun c => absurd c (by decide), fun _ c => absurd rfl c⟩
    have t := hT (i - 1) j (by omega) (by omega) (by omega)
    dsimp only at t
    simp (disch := omega) only [iL0, iL1, iL2, iL3, iL4, iL5, iL6, iL7, iL8, iL9, iL10, iL11, iL12, iL13, iL16, iL20, iL48, iL60, iL64, iL96, iL100, iL109, iL121, iL133, iL134, iL140, iL188, iL192, iL193, iL772, iL965, iL10000, iL1000000, nI_leI, nI_ltI, nI_eq, nI_add, pk_mul, pk_sub, nI_clamp, vpi, ofN]
    refine ⟨by omega, ?_⟩
    rw [t, c0, nI_add]
    exact h
  · refine ⟨fun c => absurd c (by decide), fun c => absurd c (by decide), fun _ => ?_, fun _ _ c => absurd rfl c⟩
    have t := hT i (j - 1) (by omega) (by omega) (by omega)
    dsimp only at t
    have ix : 9 * i + j - 1 = 9 * i + (j - 1) := by omega
    simp (disch := omega) only [iL0, iL1, iL2, iL3, iL4, iL5, iL6, iL7, iL8, iL9, iL10, iL11, iL12, iL13, iL16, iL20, iL48, iL60, iL64, iL96, iL100, iL109, iL121, iL133, iL134, iL140, iL188, iL192, iL193, iL772, iL965, iL10000, iL1000000, nI_leI, nI_ltI, nI_eq, nI_add, pk_mul, pk_sub, nI_clamp, vpi, ofN, ix]
    refine ⟨by omega, ?_⟩
    rw [t, c0, nI_add]
    exact h
  · refine ⟨fun c => absurd c (by decide), fun c => absurd c (by decide), fun c => absurd c (by decide), fun _ _ _ => ?_⟩
    have t := hT (i - 2) (j - 2) (by omega) (by omega) (by omega)
    dsimp only at t
    have ix : 9 * (i - 2) + j - 2 = 9 * (i - 2) + (j - 2) := by omega
    simp (disch := omega) only [iL0, iL1, iL2, iL3, iL4, iL5, iL6, iL7, iL8, iL9, iL10, iL11, iL12, iL13, iL16, iL20, iL48, iL60, iL64, iL96, iL100, iL109, iL121, iL133, iL134, iL140, iL188, iL192, iL193, iL772, iL965, iL10000, iL1000000, nI_leI, nI_ltI, nI_eq, nI_add, pk_mul, pk_sub, nI_clamp, vpi, ofN, iL191, ix]
    refine ⟨by omega, ?_⟩
    rw [t, c3, nI_add]
    exact h
