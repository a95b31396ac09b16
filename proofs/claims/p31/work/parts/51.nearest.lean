/-! ===== nearest ===== -/
/-- how -4 (nothing) or a number is written: 0, or one more than the number -/
def c4 (x : Nat) : Int32 := if x = 0 then -4 else nI (x - 1)
def c1 (x : Nat) : Int32 := if x = 0 then -1 else nI (x - 1)
theorem c1_neg {x : Nat} (hx : x < 1000000) : c1 x < 0 ↔ x = 0 := by
  unfold c1
  by_cases h : x = 0
  · rw [if_pos h]
    exact ⟨fun _ => h, fun _ => by decide⟩
  · rw [if_neg h]
    exact ⟨fun z => absurd z (nI_pos (by omega)), fun z => absurd z h⟩
theorem nI_nm1 {x : Nat} (hx : x < 1000000) : ¬ nI x = (-1 : Int32) := by
  intro z
  have h := nI_pos (n := x) (by omega)
  rw [z] at h
  exact h (by decide)
theorem c1_m1 {x : Nat} (hx : x < 1000000) : c1 x = (-1 : Int32) ↔ x = 0 := by
  unfold c1
  by_cases h : x = 0
  · rw [if_pos h]
    exact ⟨fun _ => h, fun _ => rfl⟩
  · rw [if_neg h]
    exact ⟨fun z => absurd z (nI_nm1 (by omega)), fun z => absurd z h⟩
theorem c1_nI {x w : Nat} (hx : x < 1000000) (hw : w < 1000000) : c1 x = nI w ↔ x = w + 1 := by
  unfold c1
  by_cases h : x = 0
  · rw [if_pos h]
    exact ⟨fun z => absurd z.symm (nI_nm1 hw), fun z => by omega⟩
  · rw [if_neg h, nI_eq (by omega) (by omega)]
    omega
theorem IsO_at {yr : Nat → Int32} {n k : Nat} {fa : Nat → Int32} (hO : IsO yr n fa) (hk : k < n) : fa k = nI (atRank yr n k) := by
  have ra := rank_at (yr := yr) hk
  have e := hO _ ra.1
  rw [ra.2] at e
  exact e
theorem dd_bd {A : AS} {s t : Nat} (hV : VA A) (hs : s < A.nS) (ht : t < A.nS) : dd A s t ≤ 144 :=
  DD_bd _ _ (hV.2.2.2.2.1 0 (by omega)).2 (hV.2.1 s hs).2.1 (hV.2.1 t ht).2.1
noncomputable def nrs (A : AS) (s : Nat) : Nat → Nat × Nat
  | 0 => (1000000, 0)
  | p + 1 => if atRank A.yr A.nS p ≠ s ∧ dd A s (atRank A.yr A.nS p) < (nrs A s p).1 then (dd A s (atRank A.yr A.nS p), atRank A.yr A.nS p + 1) else nrs A s p
theorem nrs_s (A : AS) (s p : Nat) : nrs A s (p + 1) = if atRank A.yr A.nS p ≠ s ∧ dd A s (atRank A.yr A.nS p) < (nrs A s p).1 then (dd A s (atRank A.yr A.nS p), atRank A.yr A.nS p + 1) else nrs A s p := by rw [nrs]
theorem nrs_le {A : AS} {s : Nat} (h12 : A.nS ≤ 12) : ∀ p, p ≤ A.nS → (nrs A s p).1 ≤ 1000000 ∧ ((nrs A s p).2 = 0 → (nrs A s p).1 = 1000000) ∧ (nrs A s p).2 ≤ 12 := by
  intro p
  induction p with
  | zero => exact fun _ => ⟨Nat.le_refl _, fun _ => rfl, Nat.zero_le _⟩
  | succ p ih =>
    intro hp
    have i := ih (by omega)
    have hr := rank_at (yr := A.yr) (show p < A.nS by omega)
    rw [nrs_s]
    by_cases c : atRank A.yr A.nS p ≠ s ∧ dd A s (atRank A.yr A.nS p) < (nrs A s p).1
    · rw [if_pos c]
      refine ⟨by show dd A s (atRank A.yr A.nS p) ≤ 1000000; omega, fun z => ?_, by show atRank A.yr A.nS p + 1 ≤ 12; omega⟩
      exact absurd z (Nat.succ_ne_zero _)
    · rw [if_neg c]
      exact i
noncomputable def vNear (A : AS) (x : Int32) : Int32 := by
  classical exact if isRow A.nS x then c4 (nrs A x.toNatClampNeg A.nS).2 else -1
theorem s_near_36 {A : AS} {s : Nat} {ld li sct pct : Int32} {stk sle ye re ptk ple co ao : Nat → Int32} {K : Int32 → Int32 → Int32 → Int32 → (Nat → Int32) → Int32 → (Nat → Int32) → (Nat → Nat → Int32) → Prop} (hV : VA A) (hR : RC A li sct stk sle ye re pct ptk ple co) (hs : s < A.nS) (hO : IsO A.yr A.nS ao) (hK : ∀ v4 v3 f1 f2 g1 g2 tb, K v4 v3 (c4 (nrs A s A.nS).2) f1 f2 g1 g2 tb) : ∀ (d p : Nat) (f1 : Int32) (f2 : Nat → Int32) (g1 : Int32) (g2 : Nat → Int32) (tb : Nat → Nat → Int32), p + d = A.nS → P_X8_nearest_36 (nI s) li sct stk sle co ld ao K (d + 1) (nI p) (nI (nrs A s p).1) (c4 (nrs A s p).2) f1 f2 g1 g2 tb := by
  have h12 := hV.1
  intro d
  induction d with
  | zero =>
    intro p f1 f2 g1 g2 tb hp
    show B_X8_nearest_36 (nI s) li sct stk sle co ld ao K _ (nI p) (nI (nrs A s p).1) (c4 (nrs A s p).2) f1 f2 g1 g2 tb
    unfold B_X8_nearest_36
    have e : p = A.nS := by omega
    subst e
    refine ⟨fun _ => hK _ _ _ _ _ _ _, fun z => ?_⟩
    rw [hR.1.1] at z
    exact absurd (Int32.le_refl _) z
  | succ d ih =>
    intro p f1 f2 g1 g2 tb hp
    have hp' : p < A.nS := by omega
    have ha := IsO_at hO hp'
    have hr := rank_at (yr := A.yr) hp'
    have hb := dd_bd hV hs hr.1
    have hn := nrs_le (s := s) h12 p (by omega)
    have i := fun f1 f2 g1 g2 tb => ih (p + 1) f1 f2 g1 g2 tb (by omega)
    simp only [nrs_s] at i
    show B_X8_nearest_36 (nI s) li sct stk sle co ld ao K (P_X8_nearest_36 (nI s) li sct stk sle co ld ao K (d + 1)) (nI p) (nI (nrs A s p).1) (c4 (nrs A s p).2) f1 f2 g1 g2 tb
    unfold B_X8_nearest_36
    rw [nI_clamp (by omega), ha, nI_1]
    refine ⟨fun z => ?_, fun _ => ⟨(vpi (by omega)).mpr (by omega), fun c => ?_, fun c => ?_⟩⟩
    · rw [hR.1.1, nI_leI (by omega) (by omega)] at z
      omega
    · rw [nI_eq (by omega) (by omega)] at c
      refine s_between hV hR hs hr.1 (fun f1 f2 g1 g2 tb' _ _ => ⟨fun z => ?_, fun z => ?_⟩)
      · change nI (nrs A s p).1 ≤ nI (dd A s (atRank A.yr A.nS p)) at z
        rw [nI_leI (by omega) (by omega)] at z
        have i2 := i f1 f2 g1 g2 tb'
        rw [if_neg (by omega)] at i2
        exact i2
      · change ¬ nI (nrs A s p).1 ≤ nI (dd A s (atRank A.yr A.nS p)) at z
        rw [nI_leI (by omega) (by omega)] at z
        have i2 := i f1 f2 g1 g2 tb'
        rw [if_pos ⟨c, by omega⟩] at i2
        exact i2
    · rw [nI_eq (by omega) (by omega)] at c
      have i2 := i f1 f2 g1 g2 tb
      rw [if_neg (fun y => y.1 c)] at i2
      refine ⟨fun _ => i2, fun z => ?_⟩
      rw [iL1000000, nI_leI (by omega) (by omega)] at z
      omega
theorem s_nearest {A : AS} {x : Int32} {ld fln gln li sct pct : Int32} {ftk gtk stk sle ye re ptk ple co ao : Nat → Int32} {tb : Nat → Nat → Int32} {post : Int32 → Int32 → (Nat → Int32) → Int32 → (Nat → Int32) → (Nat → Nat → Int32) → (Nat → Int32) → Prop} (hV : VA A) (hR : RC A li sct stk sle ye re pct ptk ple co) (h : ∀ f1 f2 g1 g2 tb' ao', post (vNear A x) f1 f2 g1 g2 tb' ao') : P_X8_nearest x li sct stk sle ye co ld fln ftk gln gtk tb ao post := by
  have h12 := hV.1
  have e := hR.1.1
  unfold P_X8_nearest
  rw [e]
  unfold vNear at h
  rcases row_or x (n := A.nS) (by omega) with c | ⟨s, hs, rfl⟩
  · rw [if_neg (not_row (by omega) c)] at h
    exact s_has_no c ⟨fun w => absurd rfl w, fun _ => h _ _ _ _ _ _⟩
  · rw [if_pos ⟨s, hs, rfl⟩, nI_clamp (by omega)] at h
    refine s_has_yes hs (by omega) ⟨fun _ => s_sortByAge h12 (by omega) (by omega) (fun t ht => (hR.2.1 t ht).1) (fun fa hO => ?_), fun w => absurd w (by decide)⟩
    rw [← e]
    exact ⟨A.nS + 1, s_near_36 (K := fun w4_10 w3_10 w2_10 efln_10 eftk_10 egln_10 egtk_10 etb_10 => post w2_10 efln_10 eftk_10 egln_10 egtk_10 etb_10 fa) hV hR hs hO (fun _ _ f1 f2 g1 g2 tb => h f1 f2 g1 g2 tb fa) A.nS 0 fln ftk gln gtk tb (by omega)⟩
