/-! ===== lengthOf, wordAt ===== -/
noncomputable def vLen (A : AS) (x : Int32) : Int32 := by
  classical exact if isRow A.nS x then nI (A.sy x.toNatClampNeg).1 else -1
noncomputable def vWord (A : AS) (x y : Int32) : Int32 := by
  classical exact if isRow A.nS x then (if 0 ≤ y then (if nI (A.sy x.toNatClampNeg).1 ≤ y then -4 else nI ((A.sy x.toNatClampNeg).2 y.toNatClampNeg)) else -1) else -1
theorem s_lengthOf {A : AS} {x li sct pct : Int32} {stk sle ye re ptk ple co : Nat → Int32} {post : Int32 → Prop} (hV : VA A) (hR : RC A li sct stk sle ye re pct ptk ple co) (h : post (vLen A x)) : P_X8_lengthOf x li sct sle post := by
  have h12 := hV.1
  unfold P_X8_lengthOf
  rw [hR.1.1]
  unfold vLen at h
  rcases row_or x (n := A.nS) (by omega) with c | ⟨s, hs, rfl⟩
  · rw [if_neg (not_row (by omega) c)] at h
    exact s_has_no c ⟨fun w => absurd rfl w, fun _ => h⟩
  · rw [if_pos ⟨s, hs, rfl⟩, nI_clamp (by omega)] at h
    refine s_has_yes hs (by omega) ⟨fun _ => s_size hs h12 (by omega) ?_, fun w => absurd w (by decide)⟩
    rw [(hR.1.2 s hs).1]
    exact h
theorem s_wordAt {A : AS} {x y li sct pct : Int32} {stk sle ye re ptk ple co : Nat → Int32} {post : Int32 → Prop} (hV : VA A) (hR : RC A li sct stk sle ye re pct ptk ple co) (h : post (vWord A x y)) : P_X8_wordAt x y li sct stk sle post := by
  have h12 := hV.1
  unfold P_X8_wordAt
  rw [hR.1.1]
  unfold vWord at h
  rcases row_or x (n := A.nS) (by omega) with c | ⟨s, hs, rfl⟩
  · rw [if_neg (not_row (by omega) c)] at h
    exact s_has_no c ⟨fun _ => h, fun w => absurd rfl w⟩
  · rw [if_pos ⟨s, hs, rfl⟩, nI_clamp (by omega)] at h
    have h8 := (hV.2.1 s hs).2.1
    have hR1 := hR.1.2 s hs
    refine s_has_yes hs (by omega) ⟨fun w => absurd w (by decide), fun _ => ⟨fun w => s_size hs h12 (by omega) ?_, fun w => ?_⟩⟩
    · rw [if_pos w] at h
      rw [hR1.1]
      refine ⟨fun c => ?_, fun c => ?_⟩
      · obtain ⟨k, hk, rfl⟩ := nI_below (m := (A.sy s).1) (by omega) (fun q => absurd w (Int32.not_le.mpr q)) (Int32.not_le.mpr c)
        rw [if_neg (Int32.not_le.mpr c), nI_clamp (by omega)] at h
        refine s_token hs h12 (by omega) (by omega) h8 hk hR1.1 ?_
        rw [hR1.2 k hk]
        exact h
      · rw [if_pos (Int32.not_lt.mp c)] at h
        exact h
    · rw [if_neg w] at h
      exact h
