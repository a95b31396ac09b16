theorem RM_sy {A : AS} {now : Nat → Int32} (h : RM A 0 now) {s : Nat} (hs : s < A.nS) : now (1 + s) = nI (A.sy s).1 ∧ ∀ j, j < (A.sy s).1 → now (13 + (8 * s + j)) = nI ((A.sy s).2 j) := by
  have t := h.1.2 s hs
  dsimp only at t
  rw [Nat.zero_add, Nat.zero_add] at t
  exact t
theorem m_takesOne_14 {q : Sy} {s : Nat} {now : Nat → Int32} {K : Int32 → (Nat → Int32) → Prop} (hs : s < 12) (hq : q.1 ≤ 8) (hw : ∀ j, j < q.1 → now (13 + (8 * s + j)) = nI (q.2 j)) (hK : ∀ v f, (∀ j, j < q.1 → f j = nI (q.2 j)) → K v f) : ∀ (d j : Nat) (f : Nat → Int32), j + d = q.1 → (∀ i, i < j → f i = nI (q.2 i)) → P_X9_takesOne_14 (nI s) now (nI q.1) K (d + 1) (nI j) f := by
  have g13 : (13 : Int32) = nI 13 := rfl
  intro d
  induction d with
  | zero =>
    intro j f hj hf
    show B_X9_takesOne_14 (nI s) now (nI q.1) K _ (nI j) f
    unfold B_X9_takesOne_14
    have e : j = q.1 := by omega
    subst e
    exact ⟨fun _ => hK _ f hf, fun z => absurd (Int32.le_refl _) z⟩
  | succ d ih =>
    intro j f hj hf
    show B_X9_takesOne_14 (nI s) now (nI q.1) K (P_X9_takesOne_14 (nI s) now (nI q.1) K (d + 1)) (nI j) f
    unfold B_X9_takesOne_14
    have ix : 13 + 8 * s + j = 13 + (8 * s + j) := by omega
    simp (disch := omega) only [iL0, iL1, iL2, iL3, iL4, iL5, iL6, iL7, iL8, iL9, iL10, iL11, iL12, iL13, iL16, iL20, iL48, iL60, iL64, iL96, iL100, iL109, iL121, iL133, iL134, iL140, iL188, iL192, iL193, iL772, iL965, iL10000, iL1000000, nI_leI, nI_ltI, nI_eq, nI_add, pk_mul, pk_sub, nI_clamp, vpi, ofN, ix]
    refine ⟨fun z => by omega, fun _ => ⟨by omega, by omega, ih (j + 1) _ (by omega) (fun i hi => ?_)⟩⟩
    by_cases e : i = j
    · subst e
      rw [pk_us]
      exact hw i (by omega)
    · rw [pk_un e]
      exact hf i (by omega)
theorem m_takesOther_14 {q : Sy} {s : Nat} {now : Nat → Int32} {K : Int32 → (Nat → Int32) → Prop} (hs : s < 12) (hq : q.1 ≤ 8) (hw : ∀ j, j < q.1 → now (13 + (8 * s + j)) = nI (q.2 j)) (hK : ∀ v f, (∀ j, j < q.1 → f j = nI (q.2 j)) → K v f) : ∀ (d j : Nat) (f : Nat → Int32), j + d = q.1 → (∀ i, i < j → f i = nI (q.2 i)) → P_X9_takesOther_14 (nI s) now (nI q.1) K (d + 1) (nI j) f := by
  have g13 : (13 : Int32) = nI 13 := rfl
  intro d
  induction d with
  | zero =>
    intro j f hj hf
    show B_X9_takesOther_14 (nI s) now (nI q.1) K _ (nI j) f
    unfold B_X9_takesOther_14
    have e : j = q.1 := by omega
    subst e
    exact ⟨fun _ => hK _ f hf, fun z => absurd (Int32.le_refl _) z⟩
  | succ d ih =>
    intro j f hj hf
    show B_X9_takesOther_14 (nI s) now (nI q.1) K (P_X9_takesOther_14 (nI s) now (nI q.1) K (d + 1)) (nI j) f
    unfold B_X9_takesOther_14
    have ix : 13 + 8 * s + j = 13 + (8 * s + j) := by omega
    simp (disch := omega) only [iL0, iL1, iL2, iL3, iL4, iL5, iL6, iL7, iL8, iL9, iL10, iL11, iL12, iL13, iL16, iL20, iL48, iL60, iL64, iL96, iL100, iL109, iL121, iL133, iL134, iL140, iL188, iL192, iL193, iL772, iL965, iL10000, iL1000000, nI_leI, nI_ltI, nI_eq, nI_add, pk_mul, pk_sub, nI_clamp, vpi, ofN, ix]
    refine ⟨fun z => by omega, fun _ => ⟨by omega, by omega, ih (j + 1) _ (by omega) (fun i hi => ?_)⟩⟩
    by_cases e : i = j
    · subst e
      rw [pk_us]
      exact hw i (by omega)
    · rw [pk_un e]
      exact hf i (by omega)
theorem m_takesOne {A : AS} {s : Nat} {now one : Nat → Int32} {um mt n1 n2 me mg : Int32} {post : (Nat → Int32) → Int32 → Prop} (hV : VA A) (hM : RM A 0 now) (hs : s < A.nS) (h : ∀ f ln, RQ (A.sy s) ln f → post f ln) : P_X9_takesOne (nI s) now um mt one n1 n2 me mg post := by
  have h12 := hV.1
  have hss := hV.2.1 s hs
  have ht := RM_sy hM hs
  unfold P_X9_takesOne
  simp (disch := omega) only [iL1, nI_add, nI_clamp, vpi, ht.1]
  exact ⟨by omega, _, m_takesOne_14 (by omega) hss.2.1 ht.2 (fun v f hf => h f _ ⟨rfl, hf⟩) (A.sy s).1 0 one (by omega) (fun i hi => absurd hi (Nat.not_lt_zero i))⟩
theorem m_takesOther {A : AS} {s : Nat} {now one : Nat → Int32} {um mt n1 n2 me mg : Int32} {post : (Nat → Int32) → Int32 → Prop} (hV : VA A) (hM : RM A 0 now) (hs : s < A.nS) (h : ∀ f ln, RQ (A.sy s) ln f → post f ln) : P_X9_takesOther (nI s) now um mt one n1 n2 me mg post := by
  have h12 := hV.1
  have hss := hV.2.1 s hs
  have ht := RM_sy hM hs
  unfold P_X9_takesOther
  simp (disch := omega) only [iL1, nI_add, nI_clamp, vpi, ht.1]
  exact ⟨by omega, _, m_takesOther_14 (by omega) hss.2.1 ht.2 (fun v f hf => h f _ ⟨rfl, hf⟩) (A.sy s).1 0 one (by omega) (fun i hi => absurd hi (Nat.not_lt_zero i))⟩
theorem m_distanceOf {A : AS} {a b : Nat} {now one other far : Nat → Int32} {n1 n2 um mt me mg : Int32} {post : Int32 → (Nat → Int32) → (Nat → Int32) → Int32 → Int32 → (Nat → Int32) → Prop} (hV : VA A) (hM : RM A 0 now) (ha : a < A.nS) (hb : b < A.nS) (h : ∀ f1 f2 g1 g2 far', REm (A.sy a) (A.sy b) A.co now f1 f2 g1 g2 → Tab A.co (A.sy a) (A.sy b) ((A.sy a).1 + 1) 0 (fun i j => far' (9 * i + j)) → post (nI (DD A.co (A.sy a).2 (A.sy b).2 (A.sy a).1 (A.sy b).1)) f1 f2 g1 g2 far') : P_X9_distanceOf (nI a) (nI b) now um mt one other n1 n2 far me mg post := by
  have sa := hV.2.1 a ha
  have sb := hV.2.1 b hb
  unfold P_X9_distanceOf
  refine m_takesOne hV hM ha (fun f1 g1 h1 => m_takesOther hV hM hb (fun f2 g2 h2 => ?_))
  have hE : REm (A.sy a) (A.sy b) A.co now f1 f2 g1 g2 := ⟨h1, h2, sa.2.1, sb.2.1, sa.2.2.2, sb.2.2.2, fun i hi => ⟨RM_co hM hi, (hV.2.2.2.2.1 i hi).2⟩⟩
  exact m_lays hE (fun far' hT => h f1 f2 g1 g2 far' hE hT)
