/-! ===== matchedSayings, bestPattern ===== -/
noncomputable def mrk (A : AS) (p : Nat) : Nat → Int32
  | 0 => 0
  | s + 1 => if (fil A p s).length = 0 then mrk A p s else mrk A p s ||| ((1 : Int32) <<< (nI s &&& 31))
theorem mrk_s (A : AS) (p s : Nat) : mrk A p (s + 1) = if (fil A p s).length = 0 then mrk A p s else mrk A p s ||| ((1 : Int32) <<< (nI s &&& 31)) := by rw [mrk]
noncomputable def vMat (A : AS) (x : Int32) : Int32 := by
  classical exact if isRow A.nP x then mrk A x.toNatClampNeg A.nS else -1
theorem s_mat_20 {A : AS} {p : Nat} {li sct pct : Int32} {stk sle ye re ptk ple co : Nat → Int32} {K : Int32 → Int32 → Int32 → Int32 → (Nat → Int32) → Int32 → (Nat → Int32) → (Nat → Int32) → (Nat → Int32) → Prop} (hV : VA A) (hR : RC A li sct stk sle ye re pct ptk ple co) (hp : p < A.nP) (hK : ∀ v fo a1 a2 b1 b2 sw fw, K v (mrk A p A.nS) fo a1 a2 b1 b2 sw fw) : ∀ (d s : Nat) (fo a1 : Int32) (a2 : Nat → Int32) (b1 : Int32) (b2 sw fw : Nat → Int32), s + d = A.nS → P_X8_matchedSayings_20 (nI p) li sct stk sle pct ptk ple K (d + 1) (nI s) (mrk A p s) fo a1 a2 b1 b2 sw fw := by
  have h12 := hV.1
  intro d
  induction d with
  | zero =>
    intro s fo a1 a2 b1 b2 sw fw hs
    show B_X8_matchedSayings_20 (nI p) li sct stk sle pct ptk ple K _ (nI s) (mrk A p s) fo a1 a2 b1 b2 sw fw
    unfold B_X8_matchedSayings_20
    have e : s = A.nS := by omega
    subst e
    refine ⟨fun _ => hK _ _ _ _ _ _ _ _, fun z => ?_⟩
    rw [hR.1.1] at z
    exact absurd (Int32.le_refl _) z
  | succ d ih =>
    intro s fo a1 a2 b1 b2 sw fw hs
    have hs' : s < A.nS := by omega
    have hl := fil_len hV hp hs'
    have i := fun fo a1 a2 b1 b2 sw fw => ih (s + 1) fo a1 a2 b1 b2 sw fw (by omega)
    simp only [mrk_s] at i
    show B_X8_matchedSayings_20 (nI p) li sct stk sle pct ptk ple K (P_X8_matchedSayings_20 (nI p) li sct stk sle pct ptk ple K (d + 1)) (nI s) (mrk A p s) fo a1 a2 b1 b2 sw fw
    unfold B_X8_matchedSayings_20
    rw [nI_1]
    refine ⟨fun z => ?_, fun _ => s_match hV hR hp hs' (fun fo' a1 a2 b1 b2 sw' fw' hMa hF => ?_)⟩
    · rw [hR.1.1, nI_leI (by omega) (by omega)] at z
      omega
    · have i2 := i fo' a1 a2 b1 b2 sw' fw'
      have e0 := hF.1
      rw [e0, iL0, nI_leI (by omega) (by omega)]
      rw [e0] at i2
      refine ⟨fun c => ?_, fun c => ?_⟩
      · rw [if_pos (by omega)] at i2
        exact i2
      · rw [if_neg (by omega)] at i2
        exact i2
theorem s_matchedSayings {A : AS} {x fo pln sln li sct pct : Int32} {mptk mstk sw fw stk sle ye re ptk ple co : Nat → Int32} {post : Int32 → Int32 → Int32 → (Nat → Int32) → Int32 → (Nat → Int32) → (Nat → Int32) → (Nat → Int32) → Prop} (hV : VA A) (hR : RC A li sct stk sle ye re pct ptk ple co) (h : ∀ fo' a1 a2 b1 b2 sw' fw', post (vMat A x) fo' a1 a2 b1 b2 sw' fw') : P_X8_matchedSayings x li sct stk sle pct ptk ple fo pln mptk sln mstk sw fw post := by
  have h6 := hV.2.2.1
  have e2 := hR.2.2.1.1
  unfold P_X8_matchedSayings
  unfold vMat at h
  rw [e2]
  rcases row_or x (n := A.nP) (by omega) with c | ⟨p, hp, rfl⟩
  · rw [if_neg (not_row (by omega) c)] at h
    exact s_has_no c ⟨fun w => absurd rfl w, fun _ => h _ _ _ _ _ _ _⟩
  · rw [if_pos ⟨p, hp, rfl⟩, nI_clamp (by omega)] at h
    refine s_has_yes hp (by omega) ⟨fun _ => ?_, fun w => absurd w (by decide)⟩
    rw [← e2]
    exact ⟨A.nS + 1, s_mat_20 (K := fun w3_10 w2_10 mfo_10 mpln_10 mptk_10 msln_10 mstk_10 msw_10 mfw_10 => post w2_10 mfo_10 mpln_10 mptk_10 msln_10 mstk_10 msw_10 mfw_10) hV hR hp (fun _ fo a1 a2 b1 b2 sw fw => h fo a1 a2 b1 b2 sw fw) A.nS 0 fo pln mptk sln mstk sw fw (by omega)⟩
theorem m_mat_14 {A : AS} {p : Nat} {now : Nat → Int32} {n1 n2 um mt me mg : Int32} {K : Int32 → Int32 → (Nat → Int32) → (Nat → Int32) → (Nat → Int32) → Prop} (hV : VA A) (hM : RM A 0 now) (hp : p < A.nP) (hK : ∀ v g sl fs, K v (mrk A p A.nS) g sl fs) : ∀ (d s : Nat) (g sl fs : Nat → Int32), s + d = A.nS → P_X9_matchedSayings_14 (nI p) now um mt n1 n2 me mg K (d + 1) (nI s) (mrk A p s) g sl fs := by
  have h12 := hV.1
  have h0' : now (Int32.toNatClampNeg (0 : Int32)) = nI A.nS := hM.1.1
  intro d
  induction d with
  | zero =>
    intro s g sl fs hs
    show B_X9_matchedSayings_14 (nI p) now um mt n1 n2 me mg K _ (nI s) (mrk A p s) g sl fs
    unfold B_X9_matchedSayings_14
    have e : s = A.nS := by omega
    subst e
    rw [h0']
    exact ⟨fun _ => hK _ _ _ _, fun z => absurd (Int32.le_refl _) z⟩
  | succ d ih =>
    intro s g sl fs hs
    have hs' : s < A.nS := by omega
    have hl := fil_len hV hp hs'
    have i := fun g sl fs => ih (s + 1) g sl fs (by omega)
    simp only [mrk_s] at i
    show B_X9_matchedSayings_14 (nI p) now um mt n1 n2 me mg K (P_X9_matchedSayings_14 (nI p) now um mt n1 n2 me mg K (d + 1)) (nI s) (mrk A p s) g sl fs
    unfold B_X9_matchedSayings_14
    rw [h0', nI_1, Int32.or_zero]
    refine ⟨fun z => ?_, fun _ => m_fills hV hM hp hs' (fun n gap' sl' fs' hF => ?_)⟩
    · rw [nI_leI (by omega) (by omega)] at z
      omega
    · have i2 := i gap' sl' fs'
      rw [hF.1, iL0, nI_leI (by omega) (by omega)]
      refine ⟨fun c => ?_, fun c => ?_⟩
      · rw [if_pos (by omega)] at i2
        exact i2
      · rw [if_neg (by omega)] at i2
        exact i2
theorem m_matchedSayings {A : AS} {x : Int32} {now gap sl fs : Nat → Int32} {n1 n2 um mt me mg : Int32} {post : Int32 → (Nat → Int32) → (Nat → Int32) → (Nat → Int32) → Prop} (hV : VA A) (hM : RM A 0 now) (h : ∀ gap' sl' fs', post (vMat A x) gap' sl' fs') : P_X9_matchedSayings x now um mt n1 n2 me gap sl fs mg post := by
  have h6 := hV.2.2.1
  unfold P_X9_matchedSayings
  unfold vMat at h
  refine m_isPattern hV hM (fun p hp hx => ⟨fun _ => ?_, fun w => absurd w (by decide)⟩) (fun c => ⟨fun w => absurd rfl w, fun _ => ?_⟩)
  · subst hx
    rw [if_pos ⟨p, hp, rfl⟩, nI_clamp (by omega)] at h
    exact ⟨A.nS + 1, m_mat_14 (K := fun w3_6 w2_6 mgap_6 mslot_6 mfirstSlot_6 => post w2_6 mgap_6 mslot_6 mfirstSlot_6) hV hM hp (fun _ g sl fs => h g sl fs) A.nS 0 gap sl fs (by omega)⟩
  · rw [if_neg (not_row (by omega) c)] at h
    exact h _ _ _
theorem s_wordCount_4 {q : Sy} {ln : Int32} {tk : Nat → Int32} {K : Int32 → Int32 → Prop} (hq : RQ q ln tk) (q8 : q.1 ≤ 8) (qt : ∀ j, j < q.1 → q.2 j ≤ 64) (hK : ∀ v, K v (nI (tcn q 0 59 q.1))) : ∀ (d k : Nat), k + d = q.1 → P_X5_wordCount_4 ln tk K (d + 1) (nI k) (nI (tcn q 0 59 k)) := by
  intro d
  induction d with
  | zero =>
    intro k hk
    show B_X5_wordCount_4 ln tk K _ (nI k) (nI (tcn q 0 59 k))
    unfold B_X5_wordCount_4
    have e : k = q.1 := by omega
    subst e
    rw [hq.1]
    exact ⟨fun _ => hK _, fun z => absurd (Int32.le_refl _) z⟩
  | succ d ih =>
    intro k hk
    have ht := qt k (by omega)
    have i := ih (k + 1) (by omega)
    rw [tcn_s] at i
    show B_X5_wordCount_4 ln tk K (P_X5_wordCount_4 ln tk K (d + 1)) (nI k) (nI (tcn q 0 59 k))
    unfold B_X5_wordCount_4
    rw [nI_clamp (by omega), hq.2 k (by omega), nI_1, nI_1, iL60, iL0, nI_add, nI_leI (a := 60) (by omega) (by omega)]
    refine ⟨fun z => ?_, fun _ => ⟨(vpi (by omega)).mpr (by omega), fun c => ?_, fun c => ?_⟩⟩
    · rw [hq.1, nI_leI (by omega) (by omega)] at z
      omega
    · rw [if_neg (by omega)] at i
      exact i
    · rw [if_pos (by omega)] at i
      exact i
theorem s_gapCount_4 {q : Sy} {ln : Int32} {tk : Nat → Int32} {K : Int32 → Int32 → Prop} (hq : RQ q ln tk) (q8 : q.1 ≤ 8) (qt : ∀ j, j < q.1 → q.2 j ≤ 64) (hK : ∀ v, K v (nI (tcn q 64 64 q.1))) : ∀ (d k : Nat), k + d = q.1 → P_X5_gapCount_4 ln tk K (d + 1) (nI k) (nI (tcn q 64 64 k)) := by
  intro d
  induction d with
  | zero =>
    intro k hk
    show B_X5_gapCount_4 ln tk K _ (nI k) (nI (tcn q 64 64 k))
    unfold B_X5_gapCount_4
    have e : k = q.1 := by omega
    subst e
    rw [hq.1]
    exact ⟨fun _ => hK _, fun z => absurd (Int32.le_refl _) z⟩
  | succ d ih =>
    intro k hk
    have ht := qt k (by omega)
    have i := ih (k + 1) (by omega)
    rw [tcn_s] at i
    show B_X5_gapCount_4 ln tk K (P_X5_gapCount_4 ln tk K (d + 1)) (nI k) (nI (tcn q 64 64 k))
    unfold B_X5_gapCount_4
    rw [nI_clamp (by omega), hq.2 k (by omega), nI_1, nI_1, iL64, iL0, nI_add, nI_eq (b := 64) (by omega) (by omega)]
    refine ⟨fun z => ?_, fun _ => ⟨(vpi (by omega)).mpr (by omega), fun c => ?_, fun c => ?_⟩⟩
    · rw [hq.1, nI_leI (by omega) (by omega)] at z
      omega
    · rw [if_neg (by omega)] at i
      exact i
    · rw [if_pos (by omega)] at i
      exact i
theorem tcn_add (q : Sy) : ∀ n, tcn q 0 59 n + tcn q 64 64 n ≤ n := by
  intro n
  induction n with
  | zero => exact Nat.le_refl _
  | succ n ih =>
    rw [tcn_s, tcn_s]
    by_cases a : 0 ≤ q.2 n ∧ q.2 n ≤ 59
    · rw [if_pos a, if_neg (by omega)]; omega
    · rw [if_neg a]
      by_cases b : 64 ≤ q.2 n ∧ q.2 n ≤ 64
      · rw [if_pos b]; omega
      · rw [if_neg b]; omega
noncomputable def wd (A : AS) (p : Nat) : Nat := tcn (A.pt p) 0 59 (A.pt p).1
noncomputable def gs (A : AS) (p : Nat) : Nat := tcn (A.pt p) 64 64 (A.pt p).1
theorem wd_gs {A : AS} {p : Nat} (hV : VA A) (hp : p < A.nP) : wd A p + gs A p ≤ 8 := Nat.le_trans (tcn_add _ _) (hV.2.2.2.1 p hp).2.1
theorem s_fit {A : AS} {p : Nat} {q r : Sy} {fo pln sln : Int32} {ptk stk : Nat → Int32} {post : Int32 → Prop} (hV : VA A) (hp : p < A.nP) (hM : RMa (A.pt p) r pln ptk sln stk) (h : post (nI (9 * wd A p + 8 - gs A p))) : P_X4_fit fo pln ptk post := by
  have wg := wd_gs hV hp
  unfold P_X4_fit
  refine ⟨(A.pt p).1 + 1, s_wordCount_4 (K := fun _ w1 => P_X5_gapCount pln ptk (fun r2 => post (((w1 * (9 : Int32)) + (8 : Int32)) - r2))) hM.1 hM.2.2.1 hM.2.2.2.2.1 (fun _ => ⟨(A.pt p).1 + 1, s_gapCount_4 (K := fun _ w1 => post (((nI (tcn (A.pt p) 0 59 (A.pt p).1) * (9 : Int32)) + (8 : Int32)) - w1)) hM.1 hM.2.2.1 hM.2.2.2.2.1 (fun _ => ?_) (A.pt p).1 0 (by omega)⟩) (A.pt p).1 0 (by omega)⟩
  show post (((nI (wd A p) * (9 : Int32)) + (8 : Int32)) - nI (gs A p))
  rw [iL9, iL8, pk_mul, nI_add, pk_sub (by omega), Nat.mul_comm (wd A p) 9]
  exact h
/-- this pattern is better than the best one so far (0: none, else one more than its number) -/
def btr (A : AS) (p b : Nat) : Prop := b = 0 ∨ wd A (b - 1) < wd A p ∨ (wd A (b - 1) = wd A p ∧ gs A p < gs A (b - 1))
noncomputable def bsp (A : AS) (s : Nat) : Nat → Nat
  | 0 => 0
  | p + 1 => by classical exact if 0 < (fil A p s).length ∧ btr A p (bsp A s p) then p + 1 else bsp A s p
theorem bsp_y {A : AS} {s p : Nat} (h : 0 < (fil A p s).length ∧ btr A p (bsp A s p)) : bsp A s (p + 1) = p + 1 := by
  rw [bsp, if_pos h]
theorem bsp_n {A : AS} {s p : Nat} (h : ¬ (0 < (fil A p s).length ∧ btr A p (bsp A s p))) : bsp A s (p + 1) = bsp A s p := by
  rw [bsp, if_neg h]
theorem bsp_le (A : AS) (s : Nat) : ∀ p, bsp A s p ≤ p := by
  classical
  intro p
  induction p with
  | zero => exact Nat.le_refl _
  | succ p ih =>
    by_cases h : 0 < (fil A p s).length ∧ btr A p (bsp A s p)
    · rw [bsp_y h]; exact Nat.le_refl _
    · rw [bsp_n h]; omega
noncomputable def vBest (A : AS) (x : Int32) : Int32 := by
  classical exact if isRow A.nS x then c4 (bsp A x.toNatClampNeg A.nP) else -1
/-- the worth of the best one so far, with m points a word -/
noncomputable def wth (A : AS) (m b : Nat) : Int32 := if b = 0 then -1 else nI (m * wd A (b - 1) + 8 - gs A (b - 1))
theorem wth_le {A : AS} {m b p : Nat} (hm : m = 9 ∨ m = 10) (wb : b ≠ 0 → wd A (b - 1) + gs A (b - 1) ≤ 8) (wp : wd A p + gs A p ≤ 8) : nI (m * wd A p + 8 - gs A p) ≤ wth A m b ↔ ¬ btr A p b := by
  unfold wth btr
  by_cases hb : b = 0
  · rw [if_pos hb]
    refine ⟨fun z => ?_, fun z => absurd (Or.inl hb) z⟩
    have h2 : ∀ k : Nat, k < 1000 → ¬ nI k ≤ (-1 : Int32) := by
      intro k hk z
      rw [Int32.le_iff_toInt_le, nI_toInt (by omega)] at z
      have e : (-1 : Int32).toInt = -1 := rfl
      omega
    rcases hm with rfl | rfl <;> exact absurd z (h2 _ (by omega))
  · rw [if_neg hb]
    have := wb hb
    rcases hm with rfl | rfl <;> rw [nI_leI (by omega) (by omega)] <;> omega
theorem wth_m1 {A : AS} {m b : Nat} (hm : m = 9 ∨ m = 10) (wb : b ≠ 0 → wd A (b - 1) + gs A (b - 1) ≤ 8) : (-1 : Int32) ≤ wth A m b := by
  unfold wth
  by_cases hb : b = 0
  · rw [if_pos hb]
    exact Int32.le_refl _
  · rw [if_neg hb]
    have := wb hb
    have h2 : ∀ k : Nat, k < 1000 → (-1 : Int32) ≤ nI k := by
      intro k hk
      rw [Int32.le_iff_toInt_le, nI_toInt (by omega)]
      have e : (-1 : Int32).toInt = -1 := rfl
      omega
    rcases hm with rfl | rfl <;> exact h2 _ (by omega)
theorem s_best_24 {A : AS} {s : Nat} {li sct pct : Int32} {stk sle ye re ptk ple co : Nat → Int32} {K : Int32 → Int32 → Int32 → Int32 → Int32 → (Nat → Int32) → Int32 → (Nat → Int32) → (Nat → Int32) → (Nat → Int32) → Prop} (hV : VA A) (hR : RC A li sct stk sle ye re pct ptk ple co) (hs : s < A.nS) (hK : ∀ v v3 fo a1 a2 b1 b2 sw fw, K v v3 (c4 (bsp A s A.nP)) fo a1 a2 b1 b2 sw fw) : ∀ (d p : Nat) (fo a1 : Int32) (a2 : Nat → Int32) (b1 : Int32) (b2 sw fw : Nat → Int32), p + d = A.nP → P_X8_bestPattern_24 (nI s) li sct stk sle pct ptk ple K (d + 1) (nI p) (wth A 9 (bsp A s p)) (c4 (bsp A s p)) fo a1 a2 b1 b2 sw fw := by
  classical
  have h12 := hV.1
  have h6 := hV.2.2.1
  intro d
  induction d with
  | zero =>
    intro p fo a1 a2 b1 b2 sw fw hp
    show B_X8_bestPattern_24 (nI s) li sct stk sle pct ptk ple K _ (nI p) (wth A 9 (bsp A s p)) (c4 (bsp A s p)) fo a1 a2 b1 b2 sw fw
    unfold B_X8_bestPattern_24
    have e : p = A.nP := by omega
    subst e
    refine ⟨fun _ => hK _ _ _ _ _ _ _ _ _, fun z => ?_⟩
    rw [hR.2.2.1.1] at z
    exact absurd (Int32.le_refl _) z
  | succ d ih =>
    intro p fo a1 a2 b1 b2 sw fw hp
    have hp' : p < A.nP := by omega
    have hl := fil_len hV hp' hs
    have bl := bsp_le A s p
    have wp := wd_gs hV hp'
    have wb : bsp A s p ≠ 0 → wd A (bsp A s p - 1) + gs A (bsp A s p - 1) ≤ 8 := fun z => wd_gs hV (by omega)
    have i := fun fo a1 a2 b1 b2 sw fw => ih (p + 1) fo a1 a2 b1 b2 sw fw (by omega)
    show B_X8_bestPattern_24 (nI s) li sct stk sle pct ptk ple K (P_X8_bestPattern_24 (nI s) li sct stk sle pct ptk ple K (d + 1)) (nI p) (wth A 9 (bsp A s p)) (c4 (bsp A s p)) fo a1 a2 b1 b2 sw fw
    unfold B_X8_bestPattern_24
    rw [nI_1]
    refine ⟨fun z => ?_, fun _ => s_match hV hR hp' hs (fun fo' a1 a2 b1 b2 sw' fw' hMa hF => ?_)⟩
    · rw [hR.2.2.1.1, nI_leI (by omega) (by omega)] at z
      omega
    · have i2 := i fo' a1 a2 b1 b2 sw' fw'
      refine ⟨fun c => ⟨fun _ => ?_, fun z => absurd (wth_m1 (Or.inl rfl) wb) z⟩, fun c => s_fit (q := A.pt p) hV hp' hMa ⟨fun z => ?_, fun z => ?_⟩⟩
      · rw [hF.1, iL0, nI_leI (by omega) (by omega)] at c
        rw [bsp_n (by omega)] at i2
        exact i2
      · rw [wth_le (Or.inl rfl) wb wp] at z
        rw [bsp_n (fun y => z y.2)] at i2
        exact i2
      · rw [wth_le (Or.inl rfl) wb wp] at z
        rw [hF.1, iL0, nI_leI (by omega) (by omega)] at c
        rw [bsp_y ⟨by omega, Classical.not_not.mp z⟩] at i2
        exact i2
theorem s_bestPattern {A : AS} {x fo pln sln li sct pct : Int32} {mptk mstk sw fw stk sle ye re ptk ple co : Nat → Int32} {post : Int32 → Int32 → Int32 → (Nat → Int32) → Int32 → (Nat → Int32) → (Nat → Int32) → (Nat → Int32) → Prop} (hV : VA A) (hR : RC A li sct stk sle ye re pct ptk ple co) (h : ∀ fo' a1 a2 b1 b2 sw' fw', post (vBest A x) fo' a1 a2 b1 b2 sw' fw') : P_X8_bestPattern x li sct stk sle pct ptk ple fo pln mptk sln mstk sw fw post := by
  have h12 := hV.1
  have e := hR.1.1
  unfold P_X8_bestPattern
  unfold vBest at h
  rw [e]
  rcases row_or x (n := A.nS) (by omega) with c | ⟨s, hs, rfl⟩
  · rw [if_neg (not_row (by omega) c)] at h
    exact s_has_no c ⟨fun w => absurd rfl w, fun _ => h _ _ _ _ _ _ _⟩
  · rw [if_pos ⟨s, hs, rfl⟩, nI_clamp (by omega)] at h
    refine s_has_yes hs (by omega) ⟨fun _ => ?_, fun w => absurd w (by decide)⟩
    rw [← e]
    exact ⟨A.nP + 1, s_best_24 (K := fun w4_11 w3_11 w2_11 mfo_11 mpln_11 mptk_11 msln_11 mstk_11 msw_11 mfw_11 => post w2_11 mfo_11 mpln_11 mptk_11 msln_11 mstk_11 msw_11 mfw_11) hV hR hs (fun _ _ fo a1 a2 b1 b2 sw fw => h fo a1 a2 b1 b2 sw fw) A.nP 0 fo pln mptk sln mstk sw fw (by omega)⟩
theorem m_best_18 {A : AS} {s : Nat} {now : Nat → Int32} {n1 n2 um mt me mg : Int32} {K : Int32 → Int32 → Int32 → (Nat → Int32) → (Nat → Int32) → (Nat → Int32) → Prop} (hV : VA A) (hM : RM A 0 now) (hs : s < A.nS) (hK : ∀ v v3 g sl fs, K v v3 (c4 (bsp A s A.nP)) g sl fs) : ∀ (d p : Nat) (g sl fs : Nat → Int32), p + d = A.nP → P_X9_bestPattern_18 (nI s) now um mt n1 n2 me mg K (d + 1) (nI p) (wth A 10 (bsp A s p)) (c4 (bsp A s p)) g sl fs := by
  classical
  have h12 := hV.1
  have h6 := hV.2.2.1
  have h0' : now (Int32.toNatClampNeg (133 : Int32)) = nI A.nP := hM.2.2.1.1
  intro d
  induction d with
  | zero =>
    intro p g sl fs hp
    show B_X9_bestPattern_18 (nI s) now um mt n1 n2 me mg K _ (nI p) (wth A 10 (bsp A s p)) (c4 (bsp A s p)) g sl fs
    unfold B_X9_bestPattern_18
    have e : p = A.nP := by omega
    subst e
    rw [h0']
    exact ⟨fun _ => hK _ _ _ _ _, fun z => absurd (Int32.le_refl _) z⟩
  | succ d ih =>
    intro p g sl fs hp
    have hp' : p < A.nP := by omega
    have hl := fil_len hV hp' hs
    have bl := bsp_le A s p
    have wp := wd_gs hV hp'
    have wb : bsp A s p ≠ 0 → wd A (bsp A s p - 1) + gs A (bsp A s p - 1) ≤ 8 := fun z => wd_gs hV (by omega)
    have i := fun g sl fs => ih (p + 1) g sl fs (by omega)
    show B_X9_bestPattern_18 (nI s) now um mt n1 n2 me mg K (P_X9_bestPattern_18 (nI s) now um mt n1 n2 me mg K (d + 1)) (nI p) (wth A 10 (bsp A s p)) (c4 (bsp A s p)) g sl fs
    unfold B_X9_bestPattern_18
    rw [h0', nI_1]
    refine ⟨fun z => ?_, fun _ => m_tokensOf (lo := 0) (hi := 59) hV hM hp' (by omega) (by omega) (m_tokensOf (lo := 64) (hi := 64) hV hM hp' (by omega) (by omega) (m_fills hV hM hp' hs (fun n gap' sl' fs' hF => ?_)))⟩
    · rw [nI_leI (by omega) (by omega)] at z
      omega
    · have i2 := i gap' sl' fs'
      have ev : (((10 : Int32) * nI (tcn (A.pt p) 0 59 (A.pt p).1)) + (8 : Int32)) - nI (tcn (A.pt p) 64 64 (A.pt p).1) = nI (10 * wd A p + 8 - gs A p) := by
        show (((10 : Int32) * nI (wd A p)) + (8 : Int32)) - nI (gs A p) = _
        rw [iL10, iL8, pk_mul, nI_add, pk_sub (by omega)]
      rw [hF.1, ev, iL0, nI_leI (b := 0) (by omega) (by omega), wth_le (Or.inr rfl) wb wp]
      refine ⟨fun c => ?_, fun c => ⟨fun z => ?_, fun z => ?_⟩⟩
      · rw [bsp_n (by omega)] at i2
        exact i2
      · rw [bsp_n (fun y => z y.2)] at i2
        exact i2
      · rw [bsp_y ⟨by omega, Classical.not_not.mp z⟩] at i2
        exact i2
theorem m_bestPattern {A : AS} {x : Int32} {now gap sl fs : Nat → Int32} {n1 n2 um mt me mg : Int32} {post : Int32 → (Nat → Int32) → (Nat → Int32) → (Nat → Int32) → Prop} (hV : VA A) (hM : RM A 0 now) (h : ∀ gap' sl' fs', post (vBest A x) gap' sl' fs') : P_X9_bestPattern x now um mt n1 n2 me gap sl fs mg post := by
  have h12 := hV.1
  unfold P_X9_bestPattern
  unfold vBest at h
  refine m_isSaying hV hM (fun s hs hx => ⟨fun _ => ?_, fun w => absurd w (by decide)⟩) (fun c => ⟨fun w => absurd rfl w, fun _ => ?_⟩)
  · subst hx
    rw [if_pos ⟨s, hs, rfl⟩, nI_clamp (by omega)] at h
    exact ⟨A.nP + 1, m_best_18 (K := fun w4_8 w3_8 w2_8 mgap_8 mslot_8 mfirstSlot_8 => post w2_8 mgap_8 mslot_8 mfirstSlot_8) hV hM hs (fun _ _ g sl fs => h g sl fs) A.nP 0 gap sl fs (by omega)⟩
  · rw [if_neg (not_row (by omega) c)] at h
    exact h _ _ _
