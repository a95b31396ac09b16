/-! ===== byAge ===== -/
noncomputable def atRank (yr : Nat → Int32) (n k : Nat) : Nat := by
  classical exact if h : ∃ s, s < n ∧ rank yr n s = k then Classical.choose h else 0
theorem atRank_rank {yr : Nat → Int32} {n s : Nat} (hs : s < n) : atRank yr n (rank yr n s) = s := by
  have h : ∃ t, t < n ∧ rank yr n t = rank yr n s := ⟨s, hs, rfl⟩
  unfold atRank
  rw [dif_pos h]
  have t := Classical.choose_spec h
  exact rank_inj t.1 hs t.2
theorem rank_at {yr : Nat → Int32} {n k : Nat} (hk : k < n) : atRank yr n k < n ∧ rank yr n (atRank yr n k) = k := by
  have h : ∃ t, t < n ∧ rank yr n t = k := pigeon n (rank yr n) (fun a ha => rank_lt ha) (fun a b ha hb e => rank_inj ha hb e) k hk
  unfold atRank
  rw [dif_pos h]
  exact Classical.choose_spec h
noncomputable def vByAge (A : AS) (x : Int32) : Int32 := by
  classical exact if 0 ≤ x then (if isRow A.nS x then nI (atRank A.yr A.nS x.toNatClampNeg) else -4) else -1
theorem s_byAge {A : AS} {x li sct pct : Int32} {stk sle ye re ptk ple co ao : Nat → Int32} {post : Int32 → (Nat → Int32) → Prop} (hV : VA A) (hR : RC A li sct stk sle ye re pct ptk ple co) (h : ∀ ao', post (vByAge A x) ao') : P_X8_byAge x li sct ye ao post := by
  have h12 := hV.1
  unfold P_X8_byAge
  rw [hR.1.1]
  unfold vByAge at h
  refine ⟨fun w => ⟨fun c => ?_, fun c => ?_⟩, fun w => ?_⟩
  · obtain ⟨k, hk, rfl⟩ := nI_below (m := A.nS) (by omega) (fun q => absurd w (Int32.not_le.mpr q)) (Int32.not_le.mpr c)
    rw [if_pos w, if_pos ⟨k, hk, rfl⟩, nI_clamp (by omega)] at h
    refine s_sortByAge h12 (by omega) (by omega) (fun t ht => (hR.2.1 t ht).1) (fun fa hO => ?_)
    simp (disch := omega) only [nI_clamp, vpi]
    refine ⟨by omega, ?_⟩
    have ra := rank_at (yr := A.yr) hk
    have e := hO _ ra.1
    rw [ra.2] at e
    rw [e]
    exact h fa
  · rw [if_pos w, if_neg (not_row (by omega) (Or.inr (Int32.not_lt.mp c)))] at h
    exact h ao
  · rw [if_neg w] at h
    exact h ao
