/-! ===== fillings, slotWord ===== -/
noncomputable def vFill (A : AS) (x y : Int32) : Int32 := by
  classical exact if isRow A.nP x ∧ isRow A.nS y then nI (fil A x.toNatClampNeg y.toNatClampNeg).length else -1
noncomputable def vSlot (A : AS) (x y z : Int32) : Int32 := by
  classical exact if isRow A.nP x ∧ isRow A.nS y ∧ isRow 4 z then c4 ((fil A x.toNatClampNeg y.toNatClampNeg).headD (fun _ => 0) z.toNatClampNeg) else -1
theorem s_fillings {A : AS} {x y fo pln sln li sct pct : Int32} {mptk mstk sw fw stk sle ye re ptk ple co : Nat → Int32} {post : Int32 → Int32 → Int32 → (Nat → Int32) → Int32 → (Nat → Int32) → (Nat → Int32) → (Nat → Int32) → Prop} (hV : VA A) (hR : RC A li sct stk sle ye re pct ptk ple co) (h : ∀ fo' a1 a2 b1 b2 sw' fw', post (vFill A x y) fo' a1 a2 b1 b2 sw' fw') : P_X8_fillings x y li sct stk sle pct ptk ple fo pln mptk sln mstk sw fw post := by
  have h12 := hV.1
  have h6 := hV.2.2.1
  have e := hR.1.1
  have e2 := hR.2.2.1.1
  unfold P_X8_fillings
  unfold vFill at h
  rw [e, e2]
  rcases row_or x (n := A.nP) (by omega) with c | ⟨p, hp, rfl⟩
  · rw [if_neg (fun z => not_row (by omega) c z.1)] at h
    exact s_has_no c ⟨fun _ => h _ _ _ _ _ _ _, fun w => absurd rfl w⟩
  · refine s_has_yes hp (by omega) ⟨fun w => absurd w (by decide), fun _ => ?_⟩
    rcases row_or y (n := A.nS) (by omega) with c | ⟨s, hs, rfl⟩
    · rw [if_neg (fun z => not_row (by omega) c z.2)] at h
      exact s_has_no c ⟨fun w => absurd rfl w, fun _ => h _ _ _ _ _ _ _⟩
    · rw [if_pos ⟨⟨p, hp, rfl⟩, ⟨s, hs, rfl⟩⟩, nI_clamp (by omega), nI_clamp (by omega)] at h
      refine s_has_yes hs (by omega) ⟨fun _ => ?_, fun w => absurd w (by decide)⟩
      rw [← e, ← e2]
      refine s_match hV hR hp hs (fun fo' a1 a2 b1 b2 sw' fw' _ hF => ?_)
      have t := h fo' a1 a2 b1 b2 sw' fw'
      rw [← hF.1] at t
      exact t
theorem m_fillings {A : AS} {x y : Int32} {now gap sl fs : Nat → Int32} {n1 n2 um mt me mg : Int32} {post : Int32 → (Nat → Int32) → (Nat → Int32) → (Nat → Int32) → Prop} (hV : VA A) (hM : RM A 0 now) (h : ∀ gap' sl' fs', post (vFill A x y) gap' sl' fs') : P_X9_fillings x y now um mt n1 n2 me gap sl fs mg post := by
  have h12 := hV.1
  have h6 := hV.2.2.1
  unfold P_X9_fillings
  unfold vFill at h
  refine m_isPattern hV hM (fun p hp hx => ⟨fun z => absurd z (by decide), fun _ => m_isSaying hV hM (fun s hs hy => ⟨fun z => absurd z (by decide), fun _ => ?_⟩) (fun c => ⟨fun _ => ?_, fun z => absurd rfl z⟩)⟩) (fun c => ⟨fun _ => ?_, fun z => absurd rfl z⟩)
  · subst hx
    subst hy
    rw [if_pos ⟨⟨p, hp, rfl⟩, ⟨s, hs, rfl⟩⟩, nI_clamp (by omega), nI_clamp (by omega)] at h
    refine m_fills hV hM hp hs (fun n gap' sl' fs' hF => ?_)
    have t := h gap' sl' fs'
    rw [← hF.1] at t
    exact t
  · rw [if_neg (fun z => not_row (by omega) c z.2)] at h
    exact h _ _ _
  · rw [if_neg (fun z => not_row (by omega) c z.1)] at h
    exact h _ _ _
/-- the slots of a filling are those that the pattern has -/
theorem lpl_mem {f : Nat → List (Nat → Nat)} {x : Nat → Nat} : ∀ n e, x ∈ lpl f e n → ∃ e', x ∈ f e' := by
  intro n
  induction n with
  | zero => intro e h; rw [lpl] at h; exact absurd h List.not_mem_nil
  | succ n ih =>
    intro e h
    rw [lpl] at h
    rcases List.mem_append.mp h with h | h
    · exact ⟨e, h⟩
    · exact ih _ h
theorem en_slot {q r : Sy} {i : Nat} (hi : i < 4) : ∀ (d k w : Nat) (σ σ' : Nat → Nat), (∀ j, j < d → q.2 (k + j) ≤ 64) → σ' ∈ en q r d k w σ → (σ' i ≠ 0 ↔ σ i ≠ 0 ∨ ∃ j, j < d ∧ q.2 (k + j) = 60 + i) := by
  intro d
  induction d with
  | zero =>
    intro k w σ σ' _ h
    rw [en] at h
    by_cases c : w = r.1
    · rw [if_pos c] at h
      rw [List.mem_singleton.mp h]
      exact ⟨fun z => Or.inl z, fun z => z.elim id (fun ⟨j, hj, _⟩ => absurd hj (Nat.not_lt_zero j))⟩
    · rw [if_neg c] at h
      exact absurd h List.not_mem_nil
  | succ d ih =>
    intro k w σ σ' ht h
    have ht' : ∀ j, j < d → q.2 (k + 1 + j) ≤ 64 := by
      intro j hj
      have t := ht (j + 1) (by omega)
      rw [show k + (j + 1) = k + 1 + j by omega] at t
      exact t
    have tk0 := ht 0 (by omega)
    rw [Nat.add_zero k] at tk0
    have split : (∃ j, j < d + 1 ∧ q.2 (k + j) = 60 + i) ↔ q.2 k = 60 + i ∨ ∃ j, j < d ∧ q.2 (k + 1 + j) = 60 + i := by
      constructor
      · rintro ⟨j, hj, e⟩
        cases j with
        | zero => exact Or.inl e
        | succ j => exact Or.inr ⟨j, by omega, by rw [show k + 1 + j = k + (j + 1) by omega]; exact e⟩
      · rintro (e | ⟨j, hj, e⟩)
        · exact ⟨0, by omega, e⟩
        · exact ⟨j + 1, by omega, by rw [show k + (j + 1) = k + 1 + j by omega]; exact e⟩
    rw [split]
    rw [en_s] at h
    by_cases c : q.2 k = 64
    · rw [if_pos c] at h
      obtain ⟨e', h'⟩ := lpl_mem _ _ h
      rw [ih (k + 1) e' σ σ' ht' h']
      refine ⟨fun z => z.elim Or.inl (fun y => Or.inr (Or.inr y)), fun z => z.elim Or.inl (fun y => y.elim (fun y => by omega) Or.inr)⟩
    · rw [if_neg c] at h
      by_cases c2 : w < r.1 ∧ tok (q.2 k) (r.2 w) σ = true
      · rw [if_pos c2] at h
        rw [ih (k + 1) (w + 1) _ σ' ht' h]
        unfold tset
        by_cases c3 : q.2 k < 60
        · rw [if_pos c3]
          refine ⟨fun z => z.elim Or.inl (fun y => Or.inr (Or.inr y)), fun z => z.elim Or.inl (fun y => y.elim (fun y => by omega) Or.inr)⟩
        · rw [if_neg c3]
          unfold sset
          by_cases c4 : i = q.2 k - 60
          · rw [if_pos c4]
            have e5 : q.2 k = 60 + i := by omega
            exact ⟨fun _ => Or.inr (Or.inl e5), fun _ => Or.inl (Nat.succ_ne_zero _)⟩
          · rw [if_neg c4]
            have n5 : ¬ q.2 k = 60 + i := by omega
            refine ⟨fun z => z.elim Or.inl (fun y => Or.inr (Or.inr y)), fun z => z.elim Or.inl (fun y => y.elim (fun y => absurd y n5) Or.inr)⟩
      · rw [if_neg c2] at h
        exact absurd h List.not_mem_nil
theorem tcn_pos (q : Sy) (t : Nat) : ∀ n, 0 < tcn q t t n ↔ ∃ j, j < n ∧ q.2 j = t := by
  intro n
  induction n with
  | zero => exact ⟨fun z => absurd z (Nat.lt_irrefl 0), fun ⟨j, hj, _⟩ => absurd hj (Nat.not_lt_zero j)⟩
  | succ n ih =>
    rw [tcn_s]
    constructor
    · intro z
      by_cases c : t ≤ q.2 n ∧ q.2 n ≤ t
      · exact ⟨n, by omega, by omega⟩
      · rw [if_neg c] at z
        obtain ⟨j, hj, e⟩ := ih.mp z
        exact ⟨j, by omega, e⟩
    · rintro ⟨j, hj, e⟩
      by_cases c : j = n
      · subst c
        rw [if_pos ⟨by omega, by omega⟩]
        omega
      · have := ih.mpr ⟨j, by omega, e⟩
        omega
theorem fil_slot {A : AS} {p s i : Nat} (hV : VA A) (hp : p < A.nP) (hi : i < 4) (hne : fil A p s ≠ []) : (fil A p s).headD (fun _ => 0) i ≠ 0 ↔ 0 < tcn (A.pt p) (60 + i) (60 + i) (A.pt p).1 := by
  have vp := hV.2.2.2.1 p hp
  rw [tcn_pos]
  cases hf : fil A p s with
  | nil => exact absurd hf hne
  | cons a b =>
    have hm : a ∈ en (A.pt p) (A.sy s) (A.pt p).1 0 0 (fun _ => 0) := by
      have : a ∈ fil A p s := by rw [hf]; exact List.mem_cons_self
      exact this
    have t := en_slot hi (A.pt p).1 0 0 (fun _ => 0) a (fun j hj => by rw [Nat.zero_add]; exact vp.2.2 j hj) hm
    show a i ≠ 0 ↔ _
    rw [t]
    refine ⟨fun z => z.elim (fun y => absurd rfl y) (fun ⟨j, hj, e⟩ => ⟨j, hj, by rw [Nat.zero_add] at e; exact e⟩), fun ⟨j, hj, e⟩ => Or.inr ⟨j, hj, by rw [Nat.zero_add]; exact e⟩⟩
theorem s_slotWord {A : AS} {x y z fo pln sln li sct pct : Int32} {mptk mstk sw fw stk sle ye re ptk ple co : Nat → Int32} {post : Int32 → Int32 → Int32 → (Nat → Int32) → Int32 → (Nat → Int32) → (Nat → Int32) → (Nat → Int32) → Prop} (hV : VA A) (hR : RC A li sct stk sle ye re pct ptk ple co) (h : ∀ fo' a1 a2 b1 b2 sw' fw', post (vSlot A x y z) fo' a1 a2 b1 b2 sw' fw') : P_X8_slotWord x y z li sct stk sle pct ptk ple fo pln mptk sln mstk sw fw post := by
  have h12 := hV.1
  have h6 := hV.2.2.1
  have e := hR.1.1
  have e2 := hR.2.2.1.1
  unfold P_X8_slotWord
  unfold vSlot at h
  rw [e, e2]
  rcases row_or x (n := A.nP) (by omega) with c | ⟨p, hp, rfl⟩
  · rw [if_neg (fun z => not_row (by omega) c z.1)] at h
    exact s_has_no c ⟨fun _ => h _ _ _ _ _ _ _, fun w => absurd rfl w⟩
  refine s_has_yes hp (by omega) ⟨fun w => absurd w (by decide), fun _ => ?_⟩
  rcases row_or y (n := A.nS) (by omega) with c | ⟨s, hs, rfl⟩
  · rw [if_neg (fun z => not_row (by omega) c z.2.1)] at h
    exact s_has_no c ⟨fun _ => h _ _ _ _ _ _ _, fun w => absurd rfl w⟩
  refine s_has_yes hs (by omega) ⟨fun w => absurd w (by decide), fun _ => ?_⟩
  refine ⟨fun c => ?_, fun c => ⟨fun c2 => ?_, fun c2 => ?_⟩⟩
  · rw [if_neg (fun w => not_row (by omega) (Or.inl c) w.2.2)] at h
    exact h _ _ _ _ _ _ _
  · obtain ⟨i, hi, rfl⟩ := nI_below (m := 4) (by omega) c (Int32.not_le.mpr c2)
    rw [if_pos ⟨⟨p, hp, rfl⟩, ⟨s, hs, rfl⟩, ⟨i, hi, rfl⟩⟩, nI_clamp (by omega), nI_clamp (by omega), nI_clamp (by omega)] at h
    rw [← e, ← e2]
    refine s_match hV hR hp hs (fun fo' a1 a2 b1 b2 sw' fw' hMa hF => ?_)
    have hv := hF.2 i hi
    have t := h fo' a1 a2 b1 b2 sw' fw'
    have fin : ∀ v, fw' i = c1 v ∧ v ≤ 60 → post (c4 v) fo' a1 a2 b1 b2 sw' fw' → (¬ fw' i = (-1 : Int32) → post (fw' i) fo' a1 a2 b1 b2 sw' fw') ∧ (fw' i = (-1 : Int32) → post (-4 : Int32) fo' a1 a2 b1 b2 sw' fw') := by
      intro v hv t
      rw [hv.1, c1_m1 (by omega)]
      unfold c4 at t
      unfold c1
      by_cases y : v = 0
      · rw [if_pos y] at t
        exact ⟨fun w => absurd y w, fun _ => t⟩
      · rw [if_neg y] at t
        rw [if_neg y]
        exact ⟨fun _ => t, fun w => absurd w y⟩
    rw [nI_clamp (by omega)]
    exact ⟨(vpi (by omega)).mpr hi, fin _ hv t⟩
  · rw [if_neg (fun w => not_row (n := 4) (by omega) (Or.inr (Int32.not_lt.mp c2)) w.2.2)] at h
    exact h _ _ _ _ _ _ _
theorem m_in3 {x : Int32} {post : Int32 → Prop} (h1 : ∀ s, s < 4 → x = nI s → post 1) (h0 : x < 0 ∨ nI 4 ≤ x → post 0) : P_X9_in (Int32.toInt64 x) (0 : Int64) (3 : Int64) post := m_in (n := 4) (by omega) h1 h0
theorem m_slotWord {A : AS} {x y z : Int32} {now gap sl fs : Nat → Int32} {n1 n2 um mt me mg : Int32} {post : Int32 → (Nat → Int32) → (Nat → Int32) → (Nat → Int32) → Prop} (hV : VA A) (hM : RM A 0 now) (h : ∀ gap' sl' fs', post (vSlot A x y z) gap' sl' fs') : P_X9_slotWord x y z now um mt n1 n2 me gap sl fs mg post := by
  have h12 := hV.1
  have h6 := hV.2.2.1
  unfold P_X9_slotWord
  unfold vSlot at h
  refine m_isPattern hV hM (fun p hp hx => ⟨fun z => absurd z (by decide), fun _ => m_isSaying hV hM (fun s hs hy => ⟨fun z => absurd z (by decide), fun _ => m_in3 (fun i hi hz => ⟨fun _ => ?_, fun w => absurd w (by decide)⟩) (fun c => ⟨fun w => absurd rfl w, fun _ => ?_⟩)⟩) (fun c => ⟨fun _ => ?_, fun z => absurd rfl z⟩)⟩) (fun c => ⟨fun _ => ?_, fun z => absurd rfl z⟩)
  · subst hx
    subst hy
    subst hz
    rw [if_pos ⟨⟨p, hp, rfl⟩, ⟨s, hs, rfl⟩, ⟨i, hi, rfl⟩⟩, nI_clamp (by omega), nI_clamp (by omega), nI_clamp (by omega)] at h
    have hl := fil_len hV hp hs
    have vp := hV.2.2.2.1 p hp
    have tl := tcn_le (A.pt p) (60 + i) (60 + i) (A.pt p).1
    have eS : (60 : Int32) + nI i = nI (60 + i) := by rw [iL60, nI_add]
    rw [eS]
    refine m_fills hV hM hp hs (fun n gap' sl' fs' hF => ?_)
    have t := h gap' sl' fs'
    rw [hF.1, iL0, nI_leI (by omega) (by omega)]
    refine ⟨fun c => ?_, fun c => m_tokensOf hV hM hp (by omega) (by omega) ?_⟩
    · have e0 : fil A p s = [] := List.eq_nil_of_length_eq_zero (by omega)
      rw [e0] at t
      exact t
    · have hne : fil A p s ≠ [] := by
        intro e0
        rw [e0] at c
        exact c (Nat.le_refl _)
      have fs4 := fil_slot (s := s) hV hp hi hne
      have e4 := hF.2 hne i hi
      rw [nI_leI (by omega) (by omega), nI_clamp (by omega), e4]
      unfold c4 at t
      unfold c1
      refine ⟨fun c2 => ?_, fun c2 => ⟨(vpi (by omega)).mpr hi, ?_⟩⟩
      · rw [if_pos (Classical.byContradiction (fun y => by have := fs4.mp y; omega))] at t
        exact t
      · have y := fs4.mpr (by omega)
        rw [if_neg y] at t
        rw [if_neg y]
        exact t
  · rw [if_neg (fun z => not_row (by omega) c z.2.2)] at h
    exact h _ _ _
  · rw [if_neg (fun z => not_row (by omega) c z.2.1)] at h
    exact h _ _ _
  · rw [if_neg (fun z => not_row (by omega) c z.1)] at h
    exact h _ _ _
