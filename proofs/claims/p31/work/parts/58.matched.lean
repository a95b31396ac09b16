/-! ===== matchedSayings, bestPattern ===== -/
theorem s_wordCount_4 {q : Sy} {ln : Int32} {tk : Nat → Int32} {K : Int32 → Int32 → Prop} (hq : RQ q ln tk) (q8 : q.1 ≤ 8) (qt : ∀ j, j < q.1 → q.2 j ≤ 64) (hK : ∀ v, K v (nI (tcn q 0 59 q.1))) : ∀ (d k : Nat), k + d = q.1 → P_X5_wordCount_4 ln tk K (d + 1) (nI k) (nI (tcn q 0 59 k)) := by
  intro d
  induction d with
  | zero =>
    intro k hk
    show B_X5_wordCount_4 ln tk K _ (nI k) (nI (tcn q 0 59 k))
    unfold B_X5_wordCount_4
    have e : k = q.1 := by omega
    subst e
    rw [hq.1]
    exact ⟨fun _ => hK _, fun z => absurd (Int32.le_refl _) z⟩
  | succ d ih =>
    intro k hk
    have ht := qt k (by omega)
    have i := ih (k + 1) (by omega)
    rw [tcn_s] at i
    show B_X5_wordCount_4 ln tk K (P_X5_wordCount_4 ln tk K (d + 1)) (nI k) (nI (tcn q 0 59 k))
    unfold B_X5_wordCount_4
    rw [nI_clamp (by omega), hq.2 k (by omega), nI_1, nI_1, iL60, iL0, nI_add, nI_leI (a := 60) (by omega) (by omega)]
    refine ⟨fun z => ?_, fun _ => ⟨(vpi (by omega)).mpr (by omega), fun c => ?_, fun c => ?_⟩⟩
    · rw [hq.1, nI_leI (by omega) (by omega)] at z
      omega
    · rw [if_neg (by omega)] at i
      exact i
    · rw [if_pos (by omega)] at i
      exact i
