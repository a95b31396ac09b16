/-! ===== is there such a saying, such a pattern ===== -/
theorem nI_m1 {n : Nat} (hn : n < 1000) : (nI n - (1 : Int32)).toInt = (n : Int) - 1 := by
  by_cases h : n = 0
  · subst h
    rfl
  · simp (disch := omega) only [iL1, pk_sub]
    rw [nI_toInt (by omega)]
    omega
theorem lt0_of {a : Int32} (h : ¬ 0 ≤ a) : a < 0 := Int32.not_le.mp h
theorem m_in {x : Int32} {n : Nat} {post : Int32 → Prop} (hn : n < 1000) (h1 : ∀ s, s < n → x = nI s → post 1) (h0 : x < 0 ∨ nI n ≤ x → post 0) : P_X9_in (Int32.toInt64 x) (0 : Int64) (Int32.toInt64 (nI n - (1 : Int32))) post := by
  have e0 : (0 : Int64).toInt = 0 := rfl
  have e00 : (0 : Int32).toInt = 0 := rfl
  unfold P_X9_in
  refine ⟨fun c => h0 (Or.inl ?_), fun c => ⟨fun c2 => h0 (Or.inr ?_), fun c2 => ?_⟩⟩
  · have t : ¬ (0 : Int64) ≤ Int32.toInt64 x := fun z => absurd ((lg_cmp_ge _ _).mpr z) (Int32.not_le.mpr c)
    rw [Int64.le_iff_toInt_le, Int32.toInt_toInt64, e0] at t
    rw [Int32.lt_iff_toInt_lt, e00]
    omega
  · have t : ¬ Int32.toInt64 x ≤ Int32.toInt64 (nI n - (1 : Int32)) := fun z => absurd ((lg_cmp_le _ _).mpr z) (Int32.not_le.mpr c2)
    rw [Int64.le_iff_toInt_le, Int32.toInt_toInt64, Int32.toInt_toInt64, nI_m1 hn] at t
    rw [Int32.le_iff_toInt_le, nI_toInt (by omega)]
    omega
  · have t := (lg_cmp_ge _ _).mp (Int32.not_lt.mp c)
    have t2 := (lg_cmp_le _ _).mp (Int32.not_lt.mp c2)
    rw [Int64.le_iff_toInt_le, Int32.toInt_toInt64, e0] at t
    rw [Int64.le_iff_toInt_le, Int32.toInt_toInt64, Int32.toInt_toInt64, nI_m1 hn] at t2
    refine h1 x.toInt.toNat (by omega) ?_
    apply Int32.toInt_inj.mp
    rw [nI_toInt (by omega)]
    omega
theorem m_isSaying {A : AS} {x : Int32} {now : Nat → Int32} {um mt n1 n2 me mg : Int32} {post : Int32 → Prop} (hV : VA A) (hM : RM A 0 now) (h1 : ∀ s, s < A.nS → x = nI s → post 1) (h0 : x < 0 ∨ nI A.nS ≤ x → post 0) : P_X9_isSaying x now um mt n1 n2 me mg post := by
  have h12 := hV.1
  have e : now 0 = nI A.nS := hM.1.1
  unfold P_X9_isSaying
  simp (disch := omega) only [iL0, nI_clamp, e]
  exact m_in (by omega) (fun s hs hx => ⟨Or.inr rfl, h1 s hs hx⟩) (fun c => ⟨Or.inl rfl, h0 c⟩)
theorem m_isPattern {A : AS} {x : Int32} {now : Nat → Int32} {um mt n1 n2 me mg : Int32} {post : Int32 → Prop} (hV : VA A) (hM : RM A 0 now) (h1 : ∀ s, s < A.nP → x = nI s → post 1) (h0 : x < 0 ∨ nI A.nP ≤ x → post 0) : P_X9_isPattern x now um mt n1 n2 me mg post := by
  have h12 := hV.2.2.1
  have e : now 133 = nI A.nP := hM.2.2.1.1
  unfold P_X9_isPattern
  simp (disch := omega) only [iL133, nI_clamp, e]
  exact m_in (by omega) (fun s hs hx => ⟨Or.inr rfl, h1 s hs hx⟩) (fun c => ⟨Or.inl rfl, h0 c⟩)
/-- a number is a row's or it is not -/
theorem row_or (x : Int32) {n : Nat} (hn : n < 1000) : (x < 0 ∨ nI n ≤ x) ∨ ∃ s, s < n ∧ x = nI s := by
  by_cases h : x < nI 0
  · exact Or.inl (Or.inl h)
  · by_cases h2 : nI n ≤ x
    · exact Or.inl (Or.inr h2)
    · exact Or.inr (nI_below (by omega) h h2)
theorem s_hasBoth {x y li : Int32} {n : Nat} {post : Int32 → Prop} (hn : n < 1000) (h1 : ∀ s t, s < n → t < n → x = nI s → y = nI t → post 1) (h0 : (x < 0 ∨ nI n ≤ x) ∨ (y < 0 ∨ nI n ≤ y) → post 0) : P_X8_hasBoth x y li (nI n) post := by
  unfold P_X8_hasBoth
  rcases row_or x hn with c | ⟨s, hs, rfl⟩
  · exact s_has_no c ⟨fun _ => h0 (Or.inl c), fun z => absurd rfl z⟩
  · refine s_has_yes hs hn ⟨fun z => absurd z (by decide), fun _ => ?_⟩
    rcases row_or y hn with c | ⟨t, ht, rfl⟩
    · exact s_has_no c ⟨fun _ => h0 (Or.inr c), fun z => absurd rfl z⟩
    · exact s_has_yes ht hn ⟨fun z => absurd z (by decide), fun _ => h1 s t hs ht rfl rfl⟩
