/-! ===== what the groups are ===== -/
def GI (A : AS) (p k : Nat) (m ce : Nat → Nat) : Prop := k ≤ p ∧ (∀ g, g < k → ce g < A.nS ∧ m (ce g) = g + 1) ∧ (∀ s, m s ≤ k) ∧ (∀ s g, m s = g + 1 → dd A (ce g) s ≤ A.li) ∧ (∀ h g, h < g → g < k → A.li < dd A (ce h) (ce g)) ∧ (∀ q, q < p → m (atRank A.yr A.nS q) ≠ 0) ∧ (∀ g q, g < k → q < A.nS → m (atRank A.yr A.nS q) = 0 → A.li < dd A (ce g) (atRank A.yr A.nS q))
theorem jn_b {A : AS} {c g : Nat} : ∀ (d q : Nat) (m : Nat → Nat) (s : Nat), jn A c g d q m s = m s ∨ (m s = 0 ∧ jn A c g d q m s = g + 1 ∧ dd A c s ≤ A.li) := by
  intro d
  induction d with
  | zero =>
    intro q m s
    rw [jn]
    exact Or.inl rfl
  | succ d ih =>
    intro q m s
    rw [jn_s]
    by_cases cd : m (atRank A.yr A.nS q) = 0 ∧ dd A c (atRank A.yr A.nS q) ≤ A.li
    · rw [if_pos cd]
      have t := ih (q + 1) (sset m (atRank A.yr A.nS q) g) s
      by_cases e : s = atRank A.yr A.nS q
      · have e1 : sset m (atRank A.yr A.nS q) g s = g + 1 := if_pos e
        rw [e1] at t
        rcases t with t | t
        · exact Or.inr ⟨by rw [e]; exact cd.1, t, by rw [e]; exact cd.2⟩
        · exact absurd t.1 (Nat.succ_ne_zero _)
      · have e1 : sset m (atRank A.yr A.nS q) g s = m s := if_neg e
        rw [e1] at t
        exact t
    · rw [if_neg cd]
      exact ih (q + 1) m s
theorem jn_c {A : AS} {c g : Nat} : ∀ (d q : Nat) (m : Nat → Nat) (r : Nat), q ≤ r → r < q + d → jn A c g d q m (atRank A.yr A.nS r) = 0 → A.li < dd A c (atRank A.yr A.nS r) := by
  intro d
  induction d with
  | zero =>
    intro q m r h1 h2 h0
    omega
  | succ d ih =>
    intro q m r h1 h2 h0
    rw [jn_s] at h0
    by_cases e : r = q
    · subst e
      by_cases cd : m (atRank A.yr A.nS r) = 0 ∧ dd A c (atRank A.yr A.nS r) ≤ A.li
      · rw [if_pos cd] at h0
        have e1 : sset m (atRank A.yr A.nS r) g (atRank A.yr A.nS r) = g + 1 := if_pos rfl
        rcases jn_b (A := A) (c := c) (g := g) d (r + 1) (sset m (atRank A.yr A.nS r) g) (atRank A.yr A.nS r) with t | t
        · rw [t, e1] at h0
          exact absurd h0 (Nat.succ_ne_zero _)
        · rw [t.2.1] at h0
          exact absurd h0 (Nat.succ_ne_zero _)
      · rw [if_neg cd] at h0
        rcases jn_b (A := A) (c := c) (g := g) d (r + 1) m (atRank A.yr A.nS r) with t | t
        · rw [t] at h0
          exact Nat.lt_of_not_le (fun z => cd ⟨h0, z⟩)
        · rw [t.2.1] at h0
          exact absurd h0 (Nat.succ_ne_zero _)
    · exact ih (q + 1) _ r (by omega) (by omega) h0
theorem grp_inv {A : AS} : ∀ (d p k : Nat) (m ce : Nat → Nat), p + d = A.nS → GI A p k m ce → GI A A.nS (grp A d p k m ce).1 (grp A d p k m ce).2.1 (grp A d p k m ce).2.2 := by
  intro d
  induction d with
  | zero =>
    intro p k m ce hp h
    rw [grp]
    have e : p = A.nS := by omega
    rw [e] at h
    exact h
  | succ d ih =>
    intro p k m ce hp h
    rw [grp_s]
    obtain ⟨h0, h1, h2, h3, h4, h5, h6⟩ := h
    have hr := rank_at (yr := A.yr) (show p < A.nS by omega)
    by_cases c0 : m (atRank A.yr A.nS p) = 0
    · rw [if_pos c0]
      refine ih (p + 1) (k + 1) _ _ (by omega) ?_
      have hb := jn_b (A := A) (c := atRank A.yr A.nS p) (g := k) (d + 1) p m
      have hc := jn_c (A := A) (c := atRank A.yr A.nS p) (g := k) (d + 1) p m
      generalize jn A (atRank A.yr A.nS p) k (d + 1) p m = m' at hb hc ⊢
      have ck : (fun j => if j = k then atRank A.yr A.nS p else ce j) k = atRank A.yr A.nS p := if_pos rfl
      have cg : ∀ g, g < k → (fun j => if j = k then atRank A.yr A.nS p else ce j) g = ce g := fun g hg => if_neg (by omega)
      generalize (fun j => if j = k then atRank A.yr A.nS p else ce j) = ce' at ck cg ⊢
      have mc : m' (atRank A.yr A.nS p) = k + 1 := by
        rcases hb (atRank A.yr A.nS p) with t | t
        · have z := hc p (Nat.le_refl _) (by omega) (t.trans c0)
          rw [dd_self] at z
          exact absurd z (Nat.not_lt_zero _)
        · exact t.2.1
      have keep : ∀ s, m s ≠ 0 → m' s = m s := by
        intro s hs
        rcases hb s with t | t
        · exact t
        · exact absurd t.1 hs
      refine ⟨by omega, fun g hg => ?_, fun s => ?_, fun s g hs => ?_, fun h g hh hg => ?_, fun q hq => ?_, fun g q hg hq hz => ?_⟩
      · by_cases e : g = k
        · rw [e, ck]
          exact ⟨hr.1, mc⟩
        · obtain ⟨a1, a2⟩ := h1 g (by omega)
          rw [cg g (by omega)]
          exact ⟨a1, (keep _ (by omega)).trans a2⟩
      · rcases hb s with t | t
        · have := h2 s
          omega
        · omega
      · rcases hb s with t | t
        · rw [t] at hs
          have := h2 s
          rw [cg g (by omega)]
          exact h3 s g hs
        · have e : g = k := by omega
          rw [e, ck]
          exact t.2.2
      · by_cases e : g = k
        · rw [e, ck, cg h (by omega)]
          exact h6 h p (by omega) (by omega) c0
        · rw [cg g (by omega), cg h (by omega)]
          exact h4 h g hh (by omega)
      · by_cases e : q = p
        · rw [e, mc]
          exact Nat.succ_ne_zero _
        · have t := h5 q (by omega)
          rw [keep _ t]
          exact t
      · by_cases e : g = k
        · rw [e, ck]
          by_cases e2 : q < p
          · have t := h5 q e2
            rw [keep _ t] at hz
            exact absurd hz t
          · exact hc q (by omega) (by omega) hz
        · rw [cg g (by omega)]
          refine h6 g q (by omega) hq ?_
          rcases hb (atRank A.yr A.nS q) with t | t
          · exact t.symm.trans hz
          · exact t.1
    · rw [if_neg c0]
      refine ih (p + 1) k m ce (by omega) ⟨by omega, h1, h2, h3, h4, fun q hq => ?_, h6⟩
      by_cases e : q = p
      · rw [e]
        exact c0
      · exact h5 q (by omega)
theorem grs_inv (A : AS) : GI A A.nS (grs A).1 (grs A).2.1 (grs A).2.2 :=
  grp_inv A.nS 0 0 (fun _ => 0) (fun _ => 0) (by omega) ⟨Nat.le_refl _, fun g hg => absurd hg (Nat.not_lt_zero g), fun s => Nat.le_refl _, fun s g hs => absurd hs.symm (Nat.succ_ne_zero g), fun h g hh hg => absurd hg (Nat.not_lt_zero g), fun q hq => absurd hq (Nat.not_lt_zero q), fun g q hg => absurd hg (Nat.not_lt_zero g)⟩
theorem grs_at {A : AS} {s : Nat} (hs : s < A.nS) : (grs A).2.1 s ≠ 0 ∧ (grs A).2.1 s ≤ (grs A).1 := by
  obtain ⟨-, -, h2, -, -, h5, -⟩ := grs_inv A
  have t := h5 (rank A.yr A.nS s) (rank_lt hs)
  rw [atRank_rank hs] at t
  exact ⟨t, h2 s⟩
theorem rad_lim {A : AS} {m : Nat → Nat} {c g L : Nat} (h : ∀ s, m s = g + 1 → dd A c s ≤ L) : ∀ n, rad A m c g n ≤ L := by
  intro n
  induction n with
  | zero =>
    rw [rad]
    exact Nat.zero_le _
  | succ n ih =>
    rw [rad_s]
    by_cases e : m n = g + 1
    · rw [if_pos e]
      exact Nat.max_le.mpr ⟨ih, h n e⟩
    · rw [if_neg e]
      exact ih
set_option maxRecDepth 100000 in
theorem pc_all : ∀ k, k < 1024 → ∀ r, r < 10 → pcn 10 k ≤ pcn 10 (k ||| 2 ^ r) ∧ pcn 10 (k ||| 2 ^ r) ≤ pcn 10 k + 1 ∧ 1 ≤ pcn 10 (k ||| 2 ^ r) := by decide +kernel
theorem reg_mcn {A : AS} {m : Nat → Nat} {g : Nat} (hV : VA A) : ∀ n, n ≤ A.nS → pcn 10 (rgb A m g n) ≤ mcn m g n ∧ ((∃ s, s < n ∧ m s = g + 1) → 1 ≤ pcn 10 (rgb A m g n)) := by
  intro n
  induction n with
  | zero =>
    intro _
    refine ⟨?_, fun ⟨s, hs, _⟩ => absurd hs (Nat.not_lt_zero s)⟩
    have e : pcn 10 0 = 0 := by decide
    rw [rgb, e]
    exact Nat.zero_le _
  | succ n ih =>
    intro hn
    obtain ⟨i1, i2⟩ := ih (by omega)
    have hl := rgb_lt (m := m) (g := g) hV n (by omega)
    have hr := (hV.2.1 n (by omega)).2.2.1
    rw [rgb_s, mcn_s]
    by_cases e : m n = g + 1
    · rw [if_pos e, if_pos e]
      have p := pc_all _ hl (A.rg n) (by omega)
      exact ⟨by omega, fun _ => p.2.2⟩
    · rw [if_neg e, if_neg e]
      refine ⟨i1, fun ⟨s, hs, hm⟩ => i2 ⟨s, ?_, hm⟩⟩
      have : s ≠ n := fun z => e (z ▸ hm)
      omega
noncomputable def smn (m : Nat → Nat) (n : Nat) : Nat → Nat
  | 0 => 0
  | g + 1 => smn m n g + mcn m g n
theorem smn_n (m : Nat → Nat) (n : Nat) : ∀ g, smn m (n + 1) g = smn m n g + (if 1 ≤ m n ∧ m n ≤ g then 1 else 0) := by
  intro g
  induction g with
  | zero =>
    have e1 : smn m (n + 1) 0 = 0 := by rw [smn]
    have e2 : smn m n 0 = 0 := by rw [smn]
    have e3 : (if 1 ≤ m n ∧ m n ≤ 0 then 1 else 0) = 0 := if_neg (by omega)
    rw [e1, e2, e3, Nat.add_zero]
  | succ g ih =>
    rw [smn, smn, ih, mcn_s]
    by_cases e : m n = g + 1
    · rw [if_pos e, if_neg (by omega), if_pos (by omega)]
      omega
    · rw [if_neg e]
      by_cases c : 1 ≤ m n ∧ m n ≤ g
      · rw [if_pos c, if_pos (by omega)]
        omega
      · rw [if_neg c, if_neg (by omega)]
        omega
theorem smn_0 (m : Nat → Nat) : ∀ g, smn m 0 g = 0 := by
  intro g
  induction g with
  | zero => rw [smn]
  | succ g ih =>
    rw [smn, ih]
    have := mcn_le m g 0
    omega
theorem smn_all {m : Nat → Nat} {G : Nat} : ∀ n, (∀ s, s < n → m s ≠ 0 ∧ m s ≤ G) → smn m n G = n := by
  intro n
  induction n with
  | zero => exact fun _ => smn_0 m G
  | succ n ih =>
    intro h
    have t := h n (Nat.lt_succ_self n)
    rw [smn_n, ih (fun s hs => h s (by omega)), if_pos (by omega)]
theorem smn_grs (A : AS) : smn (grs A).2.1 A.nS (grs A).1 = A.nS := smn_all A.nS (fun s hs => grs_at hs)
theorem smn_le (m : Nat → Nat) (n : Nat) : ∀ g, smn m n g ≤ g * n := by
  intro g
  induction g with
  | zero =>
    rw [smn]
    exact Nat.zero_le _
  | succ g ih =>
    rw [smn, Nat.add_mul, Nat.one_mul]
    exact Nat.add_le_add ih (mcn_le m g n)
/-! ===== what the class answers of them ===== -/
theorem s_gcount {A : AS} {li sct pct : Int32} {stk sle ye re ptk ple co : Nat → Int32} {eld efln egln : Int32} {eftk egtk : Nat → Int32} {etb : Nat → Nat → Int32} {gc : Int32} {gor gme gce : Nat → Int32} {post : Int32 → Int32 → (Nat → Int32) → Int32 → (Nat → Int32) → (Nat → Nat → Int32) → Int32 → (Nat → Int32) → (Nat → Int32) → (Nat → Int32) → Prop} (hV : VA A) (hR : RC A li sct stk sle ye re pct ptk ple co) (h : ∀ f1 f2 g1 g2 tb' k' fo' me' ce', post (nI (grs A).1) f1 f2 g1 g2 tb' k' fo' me' ce') : P_X8_groupCount li sct stk sle ye co eld efln eftk egln egtk etb gc gor gme gce post := s_groupCount hV hR h
theorem s_cen {A : AS} {g : Nat} {li sct pct : Int32} {stk sle ye re ptk ple co : Nat → Int32} {eld efln egln : Int32} {eftk egtk : Nat → Int32} {etb : Nat → Nat → Int32} {gc : Int32} {gor gme gce : Nat → Int32} {post : Int32 → Int32 → (Nat → Int32) → Int32 → (Nat → Int32) → (Nat → Nat → Int32) → Int32 → (Nat → Int32) → (Nat → Int32) → (Nat → Int32) → Prop} (hV : VA A) (hR : RC A li sct stk sle ye re pct ptk ple co) (hg : g < (grs A).1) (h : ∀ f1 f2 g1 g2 tb' k' fo' me' ce', post (nI ((grs A).2.2 g)) f1 f2 g1 g2 tb' k' fo' me' ce') : P_X8_centreOf (nI g) li sct stk sle ye co eld efln eftk egln egtk etb gc gor gme gce post := by
  have h12 := hV.1
  have hG := (grs_inv A).1
  refine s_centreOf hV hR ?_
  unfold vCO
  rw [if_pos (nI_pos' (by omega)), if_pos ⟨g, hg, rfl⟩, nI_clamp (by omega)]
  exact h
theorem s_cenEnd {A : AS} {li sct pct : Int32} {stk sle ye re ptk ple co : Nat → Int32} {eld efln egln : Int32} {eftk egtk : Nat → Int32} {etb : Nat → Nat → Int32} {gc : Int32} {gor gme gce : Nat → Int32} {post : Int32 → Int32 → (Nat → Int32) → Int32 → (Nat → Int32) → (Nat → Nat → Int32) → Int32 → (Nat → Int32) → (Nat → Int32) → (Nat → Int32) → Prop} (hV : VA A) (hR : RC A li sct stk sle ye re pct ptk ple co) (h : ∀ f1 f2 g1 g2 tb' k' fo' me' ce', post (-4 : Int32) f1 f2 g1 g2 tb' k' fo' me' ce') : P_X8_centreOf (nI (grs A).1) li sct stk sle ye co eld efln eftk egln egtk etb gc gor gme gce post := by
  have h12 := hV.1
  have hG := (grs_inv A).1
  refine s_centreOf hV hR ?_
  unfold vCO
  rw [if_pos (nI_pos' (by omega)), if_neg (not_row (by omega) (Or.inr (Int32.le_refl _)))]
  exact h
theorem s_gof {A : AS} {s : Nat} {li sct pct : Int32} {stk sle ye re ptk ple co : Nat → Int32} {eld efln egln : Int32} {eftk egtk : Nat → Int32} {etb : Nat → Nat → Int32} {gc : Int32} {gor gme gce : Nat → Int32} {post : Int32 → Int32 → (Nat → Int32) → Int32 → (Nat → Int32) → (Nat → Nat → Int32) → Int32 → (Nat → Int32) → (Nat → Int32) → (Nat → Int32) → Prop} (hV : VA A) (hR : RC A li sct stk sle ye re pct ptk ple co) (hs : s < A.nS) (h : ∀ f1 f2 g1 g2 tb' k' fo' me' ce', post (nI ((grs A).2.1 s - 1)) f1 f2 g1 g2 tb' k' fo' me' ce') : P_X8_groupOf (nI s) li sct stk sle ye co eld efln eftk egln egtk etb gc gor gme gce post := by
  have h12 := hV.1
  refine s_groupOf hV hR ?_
  unfold vGO
  rw [if_pos ⟨s, hs, rfl⟩, nI_clamp (by omega), c1, if_neg (grs_at hs).1]
  exact h
theorem s_inf0 {A : AS} {g : Nat} {li sct pct : Int32} {stk sle ye re ptk ple co : Nat → Int32} {eld efln egln : Int32} {eftk egtk : Nat → Int32} {etb : Nat → Nat → Int32} {gc : Int32} {gor gme gce : Nat → Int32} {post : Int32 → Int32 → (Nat → Int32) → Int32 → (Nat → Int32) → (Nat → Nat → Int32) → Int32 → (Nat → Int32) → (Nat → Int32) → (Nat → Int32) → Prop} (hV : VA A) (hR : RC A li sct stk sle ye re pct ptk ple co) (hg : g < (grs A).1) (h : ∀ f1 f2 g1 g2 tb' k' fo' me' ce', post (nI (mcn (grs A).2.1 g A.nS)) f1 f2 g1 g2 tb' k' fo' me' ce') : P_X8_groupInfo (nI g) (0 : Int32) li sct stk sle ye re co eld efln eftk egln egtk etb gc gor gme gce post := by
  have h12 := hV.1
  have hG := (grs_inv A).1
  refine s_groupInfo hV hR ?_
  unfold vGI
  rw [if_pos ⟨nI_pos' (by omega), ⟨0, by omega, rfl⟩⟩, if_pos ⟨g, hg, rfl⟩, if_pos rfl, nI_clamp (by omega)]
  exact h
theorem s_inf1 {A : AS} {g : Nat} {li sct pct : Int32} {stk sle ye re ptk ple co : Nat → Int32} {eld efln egln : Int32} {eftk egtk : Nat → Int32} {etb : Nat → Nat → Int32} {gc : Int32} {gor gme gce : Nat → Int32} {post : Int32 → Int32 → (Nat → Int32) → Int32 → (Nat → Int32) → (Nat → Nat → Int32) → Int32 → (Nat → Int32) → (Nat → Int32) → (Nat → Int32) → Prop} (hV : VA A) (hR : RC A li sct stk sle ye re pct ptk ple co) (hg : g < (grs A).1) (h : ∀ f1 f2 g1 g2 tb' k' fo' me' ce', post (nI (pcn 10 (rgb A (grs A).2.1 g A.nS))) f1 f2 g1 g2 tb' k' fo' me' ce') : P_X8_groupInfo (nI g) (1 : Int32) li sct stk sle ye re co eld efln eftk egln egtk etb gc gor gme gce post := by
  have h12 := hV.1
  have hG := (grs_inv A).1
  refine s_groupInfo hV hR ?_
  unfold vGI
  rw [if_pos ⟨nI_pos' (by omega), ⟨1, by omega, rfl⟩⟩, if_pos ⟨g, hg, rfl⟩, if_neg (by decide), if_pos rfl, nI_clamp (by omega)]
  exact h
theorem s_inf2 {A : AS} {g : Nat} {li sct pct : Int32} {stk sle ye re ptk ple co : Nat → Int32} {eld efln egln : Int32} {eftk egtk : Nat → Int32} {etb : Nat → Nat → Int32} {gc : Int32} {gor gme gce : Nat → Int32} {post : Int32 → Int32 → (Nat → Int32) → Int32 → (Nat → Int32) → (Nat → Nat → Int32) → Int32 → (Nat → Int32) → (Nat → Int32) → (Nat → Int32) → Prop} (hV : VA A) (hR : RC A li sct stk sle ye re pct ptk ple co) (hg : g < (grs A).1) (h : ∀ f1 f2 g1 g2 tb' k' fo' me' ce', post (nI (rad A (grs A).2.1 ((grs A).2.2 g) g A.nS)) f1 f2 g1 g2 tb' k' fo' me' ce') : P_X8_groupInfo (nI g) (2 : Int32) li sct stk sle ye re co eld efln eftk egln egtk etb gc gor gme gce post := by
  have h12 := hV.1
  have hG := (grs_inv A).1
  refine s_groupInfo hV hR ?_
  unfold vGI
  rw [if_pos ⟨nI_pos' (by omega), ⟨2, by omega, rfl⟩⟩, if_pos ⟨g, hg, rfl⟩, if_neg (by decide), if_neg (by decide), nI_clamp (by omega)]
  exact h
theorem s_infEnd {A : AS} {li sct pct : Int32} {stk sle ye re ptk ple co : Nat → Int32} {eld efln egln : Int32} {eftk egtk : Nat → Int32} {etb : Nat → Nat → Int32} {gc : Int32} {gor gme gce : Nat → Int32} {post : Int32 → Int32 → (Nat → Int32) → Int32 → (Nat → Int32) → (Nat → Nat → Int32) → Int32 → (Nat → Int32) → (Nat → Int32) → (Nat → Int32) → Prop} (hV : VA A) (hR : RC A li sct stk sle ye re pct ptk ple co) (h : ∀ f1 f2 g1 g2 tb' k' fo' me' ce', post (-4 : Int32) f1 f2 g1 g2 tb' k' fo' me' ce') : P_X8_groupInfo (nI (grs A).1) (0 : Int32) li sct stk sle ye re co eld efln eftk egln egtk etb gc gor gme gce post := by
  have h12 := hV.1
  have hG := (grs_inv A).1
  refine s_groupInfo hV hR ?_
  unfold vGI
  rw [if_pos ⟨nI_pos' (by omega), ⟨0, by omega, rfl⟩⟩, if_neg (not_row (by omega) (Or.inr (Int32.le_refl _)))]
  exact h
