/-- the sayings in the order of age -/
def IsO (yr : Nat → Int32) (n : Nat) (fa : Nat → Int32) : Prop := ∀ s, s < n → fa (rank yr n s) = nI s
theorem s_sort_2 {fN n : Nat} {li : Int32} {ye yr : Nat → Int32} {K : Int32 → (Nat → Int32) → Prop} (hn : n ≤ 12) (hN : 12 ≤ fN) (hN2 : fN < 1000) (hy : ∀ t, t < n → ye t = yr t) (hK : ∀ v fa, IsO yr n fa → K v fa) : ∀ (d s : Nat) (fa : Nat → Int32), s + d = n → (∀ t, t < s → fa (rank yr n t) = nI t) → P_X7_sortByAge_2 fN li (nI n) ye K (d + 1) (nI s) fa := by
  intro d
  induction d with
  | zero =>
    intro s fa hs hf
    show B_X7_sortByAge_2 fN li (nI n) ye K _ (nI s) fa
    unfold B_X7_sortByAge_2
    have e : s = n := by omega
    subst e
    exact ⟨fun _ => hK _ fa hf, fun z => absurd (Int32.le_refl _) z⟩
  | succ d ih =>
    intro s fa hs hf
    have hr := rank_lt (ye := yr) (n := n) (s := s) (by omega)
    show B_X7_sortByAge_2 fN li (nI n) ye K (P_X7_sortByAge_2 fN li (nI n) ye K (d + 1)) (nI s) fa
    unfold B_X7_sortByAge_2
    refine ⟨fun z => ?_, fun _ => s_place hn (by omega) hy ?_⟩
    · simp (disch := omega) only [nI_leI] at z
      omega
    · simp (disch := omega) only [iL1, nI_add, nI_clamp, vpi, ofN, nI_leI]
      refine ⟨fun z => by omega, fun _ => ⟨by omega, ih (s + 1) _ (by omega) (fun t ht => ?_)⟩⟩
      by_cases e : t = s
      · subst e
        exact pk_us
      · rw [pk_un (fun q => e (rank_inj (by omega) (by omega) q))]
        exact hf t (by omega)
theorem s_sortByAge {fN n : Nat} {li : Int32} {ye yr fa : Nat → Int32} {post : (Nat → Int32) → Prop} (hn : n ≤ 12) (hN : 12 ≤ fN) (hN2 : fN < 1000) (hy : ∀ t, t < n → ye t = yr t) (h : ∀ fa', IsO yr n fa' → post fa') : P_X7_sortByAge fN li (nI n) ye fa post :=
  ⟨n + 1, s_sort_2 hn hN hN2 hy (fun _ fa' q => h fa' q) n 0 fa (by omega) (fun t ht => absurd ht (Nat.not_lt_zero t))⟩
