/-! ===== is there such a saying, such a pattern ===== -/
/-- a number is a row's or it is not -/
theorem row_or (x : Int32) {n : Nat} (hn : n < 1000) : (x < 0 ∨ nI n ≤ x) ∨ ∃ s, s < n ∧ x = nI s := by
  by_cases h : x < nI 0
  · exact Or.inl (Or.inl h)
  · by_cases h2 : nI n ≤ x
    · exact Or.inl (Or.inr h2)
    · exact Or.inr (nI_below (by omega) h h2)
theorem s_hasBoth {x y li : Int32} {n : Nat} {post : Int32 → Prop} (hn : n < 1000) (h1 : ∀ s t, s < n → t < n → x = nI s → y = nI t → post 1) (h0 : (x < 0 ∨ nI n ≤ x) ∨ (y < 0 ∨ nI n ≤ y) → post 0) : P_X8_hasBoth x y li (nI n) post := by
  unfold P_X8_hasBoth
  rcases row_or x hn with c | ⟨s, hs, rfl⟩
  · exact s_has_no c ⟨fun _ => h0 (Or.inl c), fun z => absurd rfl z⟩
  · refine s_has_yes hs hn ⟨fun z => absurd z (by decide), fun _ => ?_⟩
    rcases row_or y hn with c | ⟨t, ht, rfl⟩
    · exact s_has_no c ⟨fun _ => h0 (Or.inr c), fun z => absurd rfl z⟩
    · exact s_has_yes ht hn ⟨fun z => absurd z (by decide), fun _ => h1 s t hs ht rfl rfl⟩
