theorem m_age_17 {n s : Nat} {now yr : Nat → Int32} {n1 n2 um mt me mg : Int32} {K : Int32 → Int32 → Prop} (hn : n ≤ 12) (hs : s < n) (h0 : now 0 = nI n) (hy : ∀ t, t < n → now (109 + t) = yr t) (hK : ∀ v, K v (nI (rank yr n s))) : ∀ (d t : Nat), t + d = n → P_X9_atAge_17 (nI s) now um mt n1 n2 me mg K (d + 1) (nI t) (nI (cnt (fun t => old yr t s) t)) := by
  classical
  have h0' : now (Int32.toNatClampNeg (0 : Int32)) = nI n := h0
  intro d
  induction d with
  | zero =>
    intro t ht
    show B_X9_atAge_17 (nI s) now um mt n1 n2 me mg K _ (nI t) _
    unfold B_X9_atAge_17
    have e : t = n := by omega
    subst e
    rw [h0']
    exact ⟨fun _ => hK _, fun z => absurd (Int32.le_refl _) z⟩
  | succ d ih =>
    intro t ht
    have hc := cnt_le (fun t => old yr t s) t
    have i := ih (t + 1) (by omega)
    rw [cnt_succ] at i
    show B_X9_atAge_17 (nI s) now um mt n1 n2 me mg K (P_X9_atAge_17 (nI s) now um mt n1 n2 me mg K (d + 1)) (nI t) _
    unfold B_X9_atAge_17
    rw [h0']
    refine ⟨fun z => ?_, fun _ => m_isOlder (by omega) (by omega) (hy t (by omega)) (hy s hs) (fun o => ⟨fun z => absurd z (by decide), fun _ => ?_⟩) (fun o => ⟨fun _ => ?_, fun z => absurd rfl z⟩)⟩
    · simp (disch := omega) only [nI_leI] at z
      omega
    · rw [if_pos o] at i
      simp (disch := omega) only [iL1, nI_add]
      exact i
    · rw [if_neg o] at i
      simp (disch := omega) only [iL0, iL1, nI_add]
      exact i
theorem m_age_2 {n : Nat} {x : Int32} {now yr : Nat → Int32} {n1 n2 um mt me mg : Int32} {post K : Int32 → Prop} (hn : n ≤ 12) (h0 : now 0 = nI n) (hy : ∀ t, t < n → now (109 + t) = yr t) (hp : ∀ s, s < n → nI (rank yr n s) = x → post (nI s)) (hK : (∀ s, s < n → nI (rank yr n s) ≠ x) → ∀ v, K v) : ∀ (d s : Nat), s + d = n → (∀ t, t < s → nI (rank yr n t) ≠ x) → P_X9_atAge_2 x now um mt n1 n2 me mg post K (d + 1) (nI s) := by
  have h0' : now (Int32.toNatClampNeg (0 : Int32)) = nI n := h0
  intro d
  induction d with
  | zero =>
    intro s hs hf
    show B_X9_atAge_2 x now um mt n1 n2 me mg post K _ (nI s)
    unfold B_X9_atAge_2
    have e : s = n := by omega
    subst e
    rw [h0']
    exact ⟨fun _ => hK hf _, fun z => absurd (Int32.le_refl _) z⟩
  | succ d ih =>
    intro s hs hf
    show B_X9_atAge_2 x now um mt n1 n2 me mg post K (P_X9_atAge_2 x now um mt n1 n2 me mg post K (d + 1)) (nI s)
    unfold B_X9_atAge_2
    rw [h0']
    refine ⟨fun z => ?_, fun _ => ⟨n + 1, m_age_17 hn (by omega) h0 hy (fun _ => ⟨fun z => ?_, fun z => hp s (by omega) z⟩) n 0 (by omega)⟩⟩
    · simp (disch := omega) only [nI_leI] at z
      omega
    · simp (disch := omega) only [iL1, nI_add]
      refine ih (s + 1) (by omega) (fun t ht => ?_)
      by_cases e : t = s
      · rw [e]
        exact z
      · exact hf t (by omega)
