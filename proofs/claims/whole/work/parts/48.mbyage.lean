theorem m_atAge {A : AS} {x : Int32} {now : Nat → Int32} {n1 n2 um mt me mg : Int32} {post : Int32 → Prop} (hV : VA A) (hM : RM A 0 now) (hx : 0 ≤ x) (h : post (vByAge A x)) : P_X9_atAge x now um mt n1 n2 me mg post := by
  have h12 := hV.1
  have e0 : now 0 = nI A.nS := hM.1.1
  have hy : ∀ t, t < A.nS → now (109 + t) = A.yr t := by
    intro t ht
    have q := (hM.2.1 t ht).1
    dsimp only at q
    rw [Nat.zero_add] at q
    exact q
  unfold vByAge at h
  rw [if_pos hx] at h
  refine ⟨A.nS + 1, m_age_2 h12 e0 hy (fun s hs e => ?_) (fun no v => ?_) A.nS 0 (by omega) (fun t ht => absurd ht (Nat.not_lt_zero t))⟩
  · subst e
    have hr := rank_lt (ye := A.yr) hs
    rw [if_pos ⟨_, hr, rfl⟩, nI_clamp (by omega), atRank_rank hs] at h
    exact h
  · rw [if_neg] at h
    · exact h
    · rintro ⟨k, hk, rfl⟩
      have ra := rank_at (yr := A.yr) hk
      exact no _ ra.1 (by rw [ra.2])
theorem m_byAge {A : AS} {x : Int32} {now : Nat → Int32} {n1 n2 um mt me mg : Int32} {post : Int32 → Prop} (hV : VA A) (hM : RM A 0 now) (h : post (vByAge A x)) : P_X9_byAge x now um mt n1 n2 me mg post := by
  unfold P_X9_byAge
  refine ⟨fun w => m_atAge hV hM w h, fun w => ?_⟩
  unfold vByAge at h
  rw [if_neg w] at h
  exact h
