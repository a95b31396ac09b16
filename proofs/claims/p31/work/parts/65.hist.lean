/-! ===== what was before: the ring and the rows ===== -/
theorem upv_s {α : Type} {f : Nat → α} {k : Nat} {v : α} : va_up f k v k = v := if_pos rfl
theorem upv_n {α : Type} {f : Nat → α} {k j : Nat} {v : α} (h : j ≠ k) : va_up f k v j = f j := if_neg h
theorem RSh_ext {n NT NL : Nat} {q : Nat → Sy} {ct : Int32} {tk le tk' le' : Nat → Int32} (h : RSh n q ct tk le) (hq : ∀ s, s < n → (q s).1 ≤ 8) (hn : n ≤ NL) (hT : 8 * NL ≤ NT) (e1 : ∀ i, i < NT → tk' i = tk i) (e2 : ∀ i, i < NL → le' i = le i) : RSh n q ct tk' le' := by
  refine ⟨h.1, fun s hs => ?_⟩
  have t := h.2 s hs
  have h8 := hq s hs
  rw [e2 s (by omega)]
  refine ⟨t.1, fun j hj => ?_⟩
  rw [e1 (8 * s + j) (by omega)]
  exact t.2 j hj
theorem VA_s8 {A : AS} (hV : VA A) : ∀ s, s < A.nS → (A.sy s).1 ≤ 8 := fun s hs => (hV.2.1 s hs).2.1
theorem VA_p8 {A : AS} (hV : VA A) : ∀ p, p < A.nP → (A.pt p).1 ≤ 8 := fun p hp => (hV.2.2.2.1 p hp).2.1
theorem RC_ext {A : AS} {li sct pct : Int32} {stk sle ye re ptk ple co stk' sle' ye' re' ptk' ple' co' : Nat → Int32} (hV : VA A) (hR : RC A li sct stk sle ye re pct ptk ple co) (e1 : ∀ i, i < 96 → stk' i = stk i) (e2 : ∀ i, i < 12 → sle' i = sle i) (e3 : ∀ i, i < 12 → ye' i = ye i) (e4 : ∀ i, i < 12 → re' i = re i) (e5 : ∀ i, i < 48 → ptk' i = ptk i) (e6 : ∀ i, i < 6 → ple' i = ple i) (e7 : ∀ i, i < 4 → co' i = co i) : RC A li sct stk' sle' ye' re' pct ptk' ple' co' := by
  have h12 := hV.1
  have h6 := hV.2.2.1
  refine ⟨RSh_ext hR.1 (VA_s8 hV) h12 (by omega) e1 e2, fun s hs => ?_, RSh_ext hR.2.2.1 (VA_p8 hV) h6 (by omega) e5 e6, fun i hi => ?_, hR.2.2.2.2⟩
  · rw [e3 s (by omega), e4 s (by omega)]
    exact hR.2.1 s hs
  · rw [e7 i hi]
    exact hR.2.2.2.1 i hi
theorem s_copyFrom {A : AS} {li0 sct0 pct0 li sct pct : Int32} {stk0 sle0 ye0 re0 ptk0 ple0 co0 stk sle ye re ptk ple co : Nat → Int32} {post : Int32 → Int32 → (Nat → Int32) → (Nat → Int32) → (Nat → Int32) → (Nat → Int32) → Int32 → (Nat → Int32) → (Nat → Int32) → (Nat → Int32) → Prop} (hV : VA A) (hR : RC A li sct stk sle ye re pct ptk ple co) (h : ∀ stk' sle' ye' re' ptk' ple' co', RC A li sct stk' sle' ye' re' pct ptk' ple' co' → post li sct stk' sle' ye' re' pct ptk' ple' co') : P_X7_copyFrom li0 sct0 stk0 sle0 ye0 re0 pct0 ptk0 ple0 co0 li sct stk sle ye re pct ptk ple co post := by
  unfold P_X7_copyFrom P_X6_copyFrom
  refine s_copyAll (by omega) (fun a1 h1 => s_copyAll (by omega) (fun a2 h2 => s_copyAll (by omega) (fun a3 h3 => s_copyAll (by omega) (fun a4 h4 => s_copyAll (by omega) (fun a5 h5 => s_copyAll (by omega) (fun a6 h6 => s_copyAll (by omega) (fun a7 h7 => ?_)))))))
  exact h a1 a2 a3 a4 a5 a6 a7 (RC_ext hV hR h1 h2 h3 h4 h5 h6 h7)
def RCx (A : AS) (rli rsct : Nat → Int32) (rstk rsle rye rre : Nat → Nat → Int32) (rpct : Nat → Int32) (rptk rple rco : Nat → Nat → Int32) (i : Nat) : Prop := RC A (rli i) (rsct i) (rstk i) (rsle i) (rye i) (rre i) (rpct i) (rptk i) (rple i) (rco i)
/-- the class's ring holds k earlier ones, the latest just ahead of x -/
def HC (k x : Nat) (h : Nat → AS) (nx cn : Int32) (rli rsct : Nat → Int32) (rstk rsle rye rre : Nat → Nat → Int32) (rpct : Nat → Int32) (rptk rple rco : Nat → Nat → Int32) : Prop := (nx = nI x ∨ x = 0 ∧ nx = nI 5) ∧ cn = nI k ∧ x < 5 ∧ k ≤ 5 ∧ ∀ j, j < k → RCx (h j) rli rsct rstk rsle rye rre rpct rptk rple rco ((x + 4 - j) % 5)
def hsh (A : AS) (h : Nat → AS) : Nat → AS := fun j => if j = 0 then A else h (j - 1)
theorem hsh_s (A : AS) (h : Nat → AS) (j : Nat) : hsh A h (j + 1) = h j := by
  unfold hsh
  rw [if_neg (Nat.succ_ne_zero j), Nat.add_sub_cancel]
theorem s_keep {A : AS} {k x : Nat} {h : Nat → AS} {nx cn li sct pct : Int32} {rli rsct rpct stk sle ye re ptk ple co : Nat → Int32} {rstk rsle rye rre rptk rple rco : Nat → Nat → Int32} {post : Int32 → Int32 → (Nat → Int32) → (Nat → Int32) → (Nat → Nat → Int32) → (Nat → Nat → Int32) → (Nat → Nat → Int32) → (Nat → Nat → Int32) → (Nat → Int32) → (Nat → Nat → Int32) → (Nat → Nat → Int32) → (Nat → Nat → Int32) → Prop} (hV : VA A) (hR : RC A li sct stk sle ye re pct ptk ple co) (hH : HC k x h nx cn rli rsct rstk rsle rye rre rpct rptk rple rco) (hp : ∀ nx' cn' rli' rsct' rstk' rsle' rye' rre' rpct' rptk' rple' rco', HC (min (k + 1) 5) ((x + 1) % 5) (hsh A h) nx' cn' rli' rsct' rstk' rsle' rye' rre' rpct' rptk' rple' rco' → post nx' cn' rli' rsct' rstk' rsle' rye' rre' rpct' rptk' rple' rco') : P_X3_keep nx cn rli rsct rstk rsle rye rre rpct rptk rple rco li sct stk sle ye re pct ptk ple co post := by
  obtain ⟨hnx, rfl, hx, hk, hr⟩ := hH
  have ecn : (if (5 : Int32) < (nI k + (1 : Int32)) then (5 : Int32) else (nI k + (1 : Int32))) = nI (min (k + 1) 5) := by
    rw [nI_1, iL5]
    exact min_if 5 (k + 1) (by omega) (by omega)
  unfold P_X3_keep
  rw [ecn]
  have body : ∀ (kk : Nat) (nx' : Int32), kk = x → (nx' = nI ((x + 1) % 5) ∨ (x + 1) % 5 = 0 ∧ nx' = nI 5) → P_X7_copyFrom (rli kk) (rsct kk) (rstk kk) (rsle kk) (rye kk) (rre kk) (rpct kk) (rptk kk) (rple kk) (rco kk) li sct stk sle ye re pct ptk ple co (fun u2 u3 u4 u5 u6 u7 u8 u9 u10 u11 => post nx' (nI (min (k + 1) 5)) (va_up rli kk u2) (va_up rsct kk u3) (va_up rstk kk u4) (va_up rsle kk u5) (va_up rye kk u6) (va_up rre kk u7) (va_up rpct kk u8) (va_up rptk kk u9) (va_up rple kk u10) (va_up rco kk u11)) := by
    intro kk nx' ekk enx
    subst kk
    refine s_copyFrom hV hR (fun stk' sle' ye' re' ptk' ple' co' hR' => hp _ _ _ _ _ _ _ _ _ _ _ _ ⟨enx, rfl, by omega, by omega, fun j hj => ?_⟩)
    cases j with
    | zero =>
      rw [show ((x + 1) % 5 + 4 - 0) % 5 = x by omega]
      unfold RCx
      simp only [upv_s]
      exact hR'
    | succ j =>
      have hne : (x + 4 - j) % 5 ≠ x := by omega
      rw [show ((x + 1) % 5 + 4 - (j + 1)) % 5 = (x + 4 - j) % 5 by omega, hsh_s]
      unfold RCx
      simp only [upv_n hne]
      exact hr j (by omega)
  refine ⟨fun c => ?_, fun c => ?_⟩
  · have hx0 : x = 0 := by
      rcases hnx with e | e
      · rw [e, iL5, nI_leI (by omega) (by omega)] at c
        omega
      · exact e.1
    refine ⟨(vpi (k := 0) (by omega)).mpr (by omega), fun kk ekk => body kk _ ?_ (Or.inl ?_)⟩
    · rw [ekk, hx0]
      rfl
    · rw [hx0]
      rfl
  · have e : nx = nI x := by
      rcases hnx with e | e
      · exact e
      · rw [e.2] at c
        exact absurd (Int32.le_refl _) c
    rw [e, nI_1]
    refine ⟨(vpi (by omega)).mpr (by omega), fun kk ekk => body kk _ ?_ ?_⟩
    · rw [ekk, nI_clamp (by omega)]
    · by_cases h4 : x = 4
      · exact Or.inr ⟨by omega, by rw [h4]⟩
      · exact Or.inl (by rw [show (x + 1) % 5 = x + 1 by omega])
theorem s_restore {k x : Nat} {h : Nat → AS} {nx cn li sct pct : Int32} {rli rsct rpct stk sle ye re ptk ple co : Nat → Int32} {rstk rsle rye rre rptk rple rco : Nat → Nat → Int32} {post : Int32 → Int32 → Int32 → Int32 → (Nat → Int32) → (Nat → Int32) → (Nat → Int32) → (Nat → Int32) → Int32 → (Nat → Int32) → (Nat → Int32) → (Nat → Int32) → Prop} (hV : VA (h 0)) (h0 : 0 < k) (hH : HC k x h nx cn rli rsct rstk rsle rye rre rpct rptk rple rco) (hp : ∀ nx' li' sct' stk' sle' ye' re' pct' ptk' ple' co', RC (h 0) li' sct' stk' sle' ye' re' pct' ptk' ple' co' → HC (k - 1) ((x + 4) % 5) (fun j => h (j + 1)) nx' (nI (k - 1)) rli rsct rstk rsle rye rre rpct rptk rple rco → post nx' (nI (k - 1)) li' sct' stk' sle' ye' re' pct' ptk' ple' co') : P_X3_restore nx cn rli rsct rstk rsle rye rre rpct rptk rple rco li sct stk sle ye re pct ptk ple co post := by
  obtain ⟨hnx, rfl, hx, hk, hr⟩ := hH
  have hr0 := hr 0 h0
  unfold RCx at hr0
  rw [Nat.sub_zero] at hr0
  have fin : ∀ nx', nx' = nI ((x + 4) % 5) → HC (k - 1) ((x + 4) % 5) (fun j => h (j + 1)) nx' (nI (k - 1)) rli rsct rstk rsle rye rre rpct rptk rple rco := by
    intro nx' enx
    refine ⟨Or.inl enx, rfl, by omega, by omega, fun j hj => ?_⟩
    have t := hr (j + 1) (by omega)
    rw [show (x + 4 - (j + 1)) % 5 = ((x + 4) % 5 + 4 - j) % 5 by omega] at t
    exact t
  unfold P_X3_restore
  refine ⟨fun c => ⟨(vpi (k := 4) (by omega)).mpr (by omega), fun kk ekk => ?_⟩, fun c => ?_⟩
  · have hx0 : x = 0 := by
      rcases hnx with e | e
      · rw [e, iL0, nI_leI (by omega) (by omega)] at c
        omega
      · exact e.1
    have ek : kk = (x + 4) % 5 := by
      rw [ekk, hx0]
      rfl
    clear ekk
    subst kk
    refine s_copyFrom hV hr0 (fun stk' sle' ye' re' ptk' ple' co' hR' => ?_)
    rw [iL1, pk_sub (by omega)]
    exact hp _ _ _ _ _ _ _ _ _ _ _ hR' (fin _ (by rw [show (x + 4) % 5 = 4 by omega]; rfl))
  · have e1 : nx - (1 : Int32) = nI ((x + 4) % 5) := by
      rcases hnx with e | e
      · rw [e, iL0, nI_leI (by omega) (by omega)] at c
        rw [e, iL1, pk_sub (by omega), show (x + 4) % 5 = x - 1 by omega]
      · rw [e.2, e.1]
        rfl
    rw [e1]
    refine ⟨(vpi (by omega)).mpr (by omega), fun kk ekk => ?_⟩
    rw [nI_clamp (by omega)] at ekk
    subst kk
    refine s_copyFrom hV hr0 (fun stk' sle' ye' re' ptk' ple' co' hR' => ?_)
    rw [iL1, pk_sub (by omega)]
    exact hp _ _ _ _ _ _ _ _ _ _ _ hR' (fin _ rfl)
/-! the reference's rows -/
theorem RM_cp {A : AS} {o o' : Nat} {f g : Nat → Int32} (hV : VA A) (h : RM A o f) (e : ∀ i, i < 193 → g (o' + i) = f (o + i)) : RM A o' g := by
  have h12 := hV.1
  have h6 := hV.2.2.1
  obtain ⟨⟨a1, a2⟩, b1, ⟨c1, c2⟩, d1, d2⟩ := h
  dsimp only at a2 b1 c2 d1
  refine ⟨⟨?_, fun s hs => ?_⟩, fun s hs => ?_, ⟨?_, fun p hp => ?_⟩, fun i hi => ?_, ?_⟩
  · have t := e 0 (by omega)
    rw [Nat.add_zero o', Nat.add_zero o] at t
    rw [t]
    exact a1
  · have t := a2 s hs
    have h8 := VA_s8 hV s hs
    dsimp only
    refine ⟨?_, fun j hj => ?_⟩
    · rw [Nat.add_assoc, e (1 + s) (by omega), ← Nat.add_assoc]
      exact t.1
    · rw [Nat.add_assoc, e (13 + (8 * s + j)) (by omega), ← Nat.add_assoc]
      exact t.2 j hj
  · have t := b1 s hs
    dsimp only
    rw [Nat.add_assoc o' 109, Nat.add_assoc o' 121, e (109 + s) (by omega), e (121 + s) (by omega), ← Nat.add_assoc, ← Nat.add_assoc]
    exact t
  · rw [e 133 (by omega)]
    exact c1
  · have t := c2 p hp
    have h8 := VA_p8 hV p hp
    dsimp only
    refine ⟨?_, fun j hj => ?_⟩
    · rw [Nat.add_assoc, e (134 + p) (by omega), ← Nat.add_assoc]
      exact t.1
    · rw [Nat.add_assoc, e (140 + (8 * p + j)) (by omega), ← Nat.add_assoc]
      exact t.2 j hj
  · have t := d1 i hi
    dsimp only
    rw [Nat.add_assoc, e (188 + i) (by omega), ← Nat.add_assoc]
    exact t
  · rw [e 192 (by omega)]
    exact d2
/-- the reference's rows hold k earlier ones, the latest last -/
def HM (k : Nat) (h : Nat → AS) (before : Nat → Int32) (um : Int32) : Prop := um = nI k ∧ ∀ j, j < k → RM (h j) (193 * (k - 1 - j)) before
theorem s_undo {k x : Nat} {h : Nat → AS} {nx cn li sct pct : Int32} {rli rsct rpct stk sle ye re ptk ple co : Nat → Int32} {rstk rsle rye rre rptk rple rco : Nat → Nat → Int32} {post : Int32 → Int32 → Int32 → (Nat → Int32) → (Nat → Int32) → (Nat → Int32) → (Nat → Int32) → Int32 → (Nat → Int32) → (Nat → Int32) → (Nat → Int32) → Int32 → Int32 → Prop} (hv : ∀ j, j < k → VA (h j)) (hH : HC k x h nx cn rli rsct rstk rsle rye rre rpct rptk rple rco) (h1 : 0 < k → ∀ nx' li' sct' stk' sle' ye' re' pct' ptk' ple' co', RC (h 0) li' sct' stk' sle' ye' re' pct' ptk' ple' co' → HC (k - 1) ((x + 4) % 5) (fun j => h (j + 1)) nx' (nI (k - 1)) rli rsct rstk rsle rye rre rpct rptk rple rco → post (nI (k - 1)) li' sct' stk' sle' ye' re' pct' ptk' ple' co' nx' (nI (k - 1))) (h0 : k = 0 → post (-2) li sct stk sle ye re pct ptk ple co nx cn) : P_X8_undo li sct stk sle ye re pct ptk ple co nx cn rli rsct rstk rsle rye rre rpct rptk rple rco post := by
  have ek := hH.2.1
  have hk := hH.2.2.2.1
  unfold P_X8_undo
  refine ⟨fun c => ?_, fun c => ?_⟩
  · rw [ek, iL0, nI_eq (by omega) (by omega)] at c
    exact s_restore (hv 0 (by omega)) (by omega) hH (fun nx' li' sct' stk' sle' ye' re' pct' ptk' ple' co' hR' hH' => h1 (by omega) nx' li' sct' stk' sle' ye' re' pct' ptk' ple' co' hR' hH')
  · rw [ek, iL0, nI_eq (by omega) (by omega)] at c
    exact h0 c
