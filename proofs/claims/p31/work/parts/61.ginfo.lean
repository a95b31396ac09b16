/-! ===== groupCount, groupOf, centreOf, groupInfo ===== -/
noncomputable def mcn (m : Nat → Nat) (g n : Nat) : Nat := cnt (fun s => m s = g + 1) n
theorem mcn_s (m : Nat → Nat) (g n : Nat) : mcn m g (n + 1) = mcn m g n + (if m n = g + 1 then 1 else 0) := cnt_succ (fun s => m s = g + 1) n
theorem mcn_le (m : Nat → Nat) (g n : Nat) : mcn m g n ≤ n := cnt_le _ n
def rgb (A : AS) (m : Nat → Nat) (g : Nat) : Nat → Nat
  | 0 => 0
  | s + 1 => if m s = g + 1 then rgb A m g s ||| 2 ^ A.rg s else rgb A m g s
theorem rgb_s (A : AS) (m : Nat → Nat) (g s : Nat) : rgb A m g (s + 1) = if m s = g + 1 then rgb A m g s ||| 2 ^ A.rg s else rgb A m g s := by rw [rgb]
theorem rgb_lt {A : AS} {m : Nat → Nat} {g : Nat} (hV : VA A) : ∀ s, s ≤ A.nS → rgb A m g s < 1024 := by
  intro s
  induction s with
  | zero => intro _; rw [rgb]; omega
  | succ s ih =>
    intro hs
    have i := ih (by omega)
    have hr := (hV.2.1 s (by omega)).2.2.1
    rw [rgb_s]
    by_cases c : m s = g + 1
    · rw [if_pos c]
      exact (or_all _ i _ (by omega)).2
    · rw [if_neg c]
      exact i
noncomputable def rad (A : AS) (m : Nat → Nat) (c g : Nat) : Nat → Nat
  | 0 => 0
  | s + 1 => if m s = g + 1 then max (rad A m c g s) (dd A c s) else rad A m c g s
theorem rad_s (A : AS) (m : Nat → Nat) (c g s : Nat) : rad A m c g (s + 1) = if m s = g + 1 then max (rad A m c g s) (dd A c s) else rad A m c g s := by rw [rad]
theorem rad_le {A : AS} {m : Nat → Nat} {c g : Nat} (hV : VA A) (hc : c < A.nS) : ∀ s, s ≤ A.nS → rad A m c g s ≤ 144 := by
  intro s
  induction s with
  | zero => intro _; exact Nat.zero_le _
  | succ s ih =>
    intro hs
    have i := ih (by omega)
    have hd := dd_bd hV hc (show s < A.nS by omega)
    rw [rad_s]
    by_cases h : m s = g + 1
    · rw [if_pos h]
      omega
    · rw [if_neg h]
      exact i
theorem s_members {A : AS} {g : Nat} {gc li sct pct : Int32} {me stk sle ye re ptk ple co : Nat → Int32} {m : Nat → Nat} {post : Int32 → Prop} (hV : VA A) (hR : RC A li sct stk sle ye re pct ptk ple co) (hm : IsM m me) (hg : g < 12) (h : post (nI (mcn m g A.nS))) : P_X2_members (nI g) gc me li sct post := by
  have h12 := hV.1
  have lp : ∀ (K : Int32 → Int32 → Prop), (∀ v, K v (nI (mcn m g A.nS))) → ∀ (d s : Nat), s + d = A.nS → P_X2_members_5 (nI g) me sct K (d + 1) (nI s) (nI (mcn m g s)) := by
    intro K hK d
    induction d with
    | zero =>
      intro s hs
      show B_X2_members_5 (nI g) me sct K _ (nI s) (nI (mcn m g s))
      unfold B_X2_members_5
      have e : s = A.nS := by omega
      subst e
      rw [hR.1.1]
      exact ⟨fun _ => hK _, fun z => absurd (Int32.le_refl _) z⟩
    | succ d ih =>
      intro s hs
      have hms := hm s (by omega)
      have i := ih (s + 1) (by omega)
      rw [mcn_s] at i
      show B_X2_members_5 (nI g) me sct K (P_X2_members_5 (nI g) me sct K (d + 1)) (nI s) (nI (mcn m g s))
      unfold B_X2_members_5
      rw [hR.1.1, nI_clamp (by omega), hms.1, c1_nI (by omega) (by omega), nI_1, nI_1, iL0, nI_add]
      refine ⟨fun z => ?_, fun _ => ⟨(vpi (by omega)).mpr (by omega), fun c => ?_, fun c => ?_⟩⟩
      · rw [nI_leI (by omega) (by omega)] at z
        omega
      · rw [if_neg c] at i
        rw [hR.1.1] at i
        exact i
      · rw [if_pos c] at i
        rw [hR.1.1] at i
        exact i
  exact ⟨A.nS + 1, lp (fun w4_1 w3_1 => post w3_1) (fun _ => h) A.nS 0 (by omega)⟩
theorem s_regions {A : AS} {g : Nat} {gc li sct pct : Int32} {me stk sle ye re ptk ple co : Nat → Int32} {m : Nat → Nat} {post : Int32 → Prop} (hV : VA A) (hR : RC A li sct stk sle ye re pct ptk ple co) (hm : IsM m me) (hg : g < 12) (h : post (nI (pcn 10 (rgb A m g A.nS)))) : P_X2_regions (nI g) gc me li sct re post := by
  have h12 := hV.1
  have lp : ∀ (K : Int32 → Int32 → Prop), (∀ v, K v (nI (rgb A m g A.nS))) → ∀ (d s : Nat), s + d = A.nS → P_X2_regions_5 (nI g) me sct re K (d + 1) (nI s) (nI (rgb A m g s)) := by
    intro K hK d
    induction d with
    | zero =>
      intro s hs
      show B_X2_regions_5 (nI g) me sct re K _ (nI s) (nI (rgb A m g s))
      unfold B_X2_regions_5
      have e : s = A.nS := by omega
      subst e
      rw [hR.1.1]
      exact ⟨fun _ => hK _, fun z => absurd (Int32.le_refl _) z⟩
    | succ d ih =>
      intro s hs
      have hms := hm s (by omega)
      have hre := (hR.2.1 s (by omega)).2
      have hr9 := (hV.2.1 s (by omega)).2.2.1
      have hb := rgb_lt (m := m) (g := g) hV s (by omega)
      have i := ih (s + 1) (by omega)
      rw [rgb_s] at i
      show B_X2_regions_5 (nI g) me sct re K (P_X2_regions_5 (nI g) me sct re K (d + 1)) (nI s) (nI (rgb A m g s))
      unfold B_X2_regions_5
      rw [nI_clamp (by omega), hms.1, c1_nI (by omega) (by omega), nI_1, hre, (or_all _ hb _ (by omega)).1]
      refine ⟨fun z => ?_, fun _ => ⟨(vpi (by omega)).mpr (by omega), fun c => ?_, fun c => ⟨(vpi (by omega)).mpr (by omega), ?_⟩⟩⟩
      · rw [hR.1.1, nI_leI (by omega) (by omega)] at z
        omega
      · rw [if_neg c] at i
        exact i
      · rw [if_pos c] at i
        exact i
  have hb := rgb_lt (m := m) (g := g) hV A.nS (Nat.le_refl _)
  exact ⟨A.nS + 1, lp (fun w4_1 w3_1 => P_J6_bitCount_0f7a4 w3_1 (fun r2 => post r2)) (fun _ => s_bitCount hb h) A.nS 0 (by omega)⟩
theorem max_if (a b : Nat) (ha : a < 2 ^ 31) (hb : b < 2 ^ 31) : (if nI a < nI b then nI b else nI a) = nI (max a b) := by
  by_cases h : a < b
  · rw [if_pos ((nI_ltI ha hb).mpr h), Nat.max_eq_right (Nat.le_of_lt h)]
  · rw [if_neg (fun q => h ((nI_ltI ha hb).mp q)), Nat.max_eq_left (by omega)]
theorem s_centre {g k : Nat} {gc : Int32} {ce : Nat → Int32} {post : Int32 → Prop} (hgc : gc = nI k) (hg : g < k) (hk : k ≤ 12) (h : post (ce g)) : P_X2_centre (nI g) gc ce post := by
  subst hgc
  unfold P_X2_centre
  refine ⟨fun z => absurd z (nI_pos (by omega)), fun _ => ⟨fun z => ?_, fun _ => ⟨(vpi (by omega)).mpr (by omega), ?_⟩⟩⟩
  · rw [nI_leI (by omega) (by omega)] at z
    omega
  · rw [nI_clamp (by omega)]
    exact h
theorem s_radius {A : AS} {g c kk : Nat} {gc ld fln gln li sct pct : Int32} {me ce ftk gtk stk sle ye re ptk ple co : Nat → Int32} {tb : Nat → Nat → Int32} {m : Nat → Nat} {post : Int32 → Int32 → (Nat → Int32) → Int32 → (Nat → Int32) → (Nat → Nat → Int32) → Prop} (hV : VA A) (hR : RC A li sct stk sle ye re pct ptk ple co) (hm : IsM m me) (hg : g < 12) (hc : c < A.nS) (hce : ce g = nI c) (hgc : gc = nI kk) (hgl : g < kk) (hkk : kk ≤ 12) (h : ∀ f1 f2 g1 g2 tb', post (nI (rad A m c g A.nS)) f1 f2 g1 g2 tb') : P_X2_radius (nI g) gc me ce li sct stk sle co ld fln ftk gln gtk tb post := by
  have h12 := hV.1
  have lp : ∀ (K : Int32 → Int32 → Int32 → (Nat → Int32) → Int32 → (Nat → Int32) → (Nat → Nat → Int32) → Prop), (∀ v f1 f2 g1 g2 tb, K v (nI (rad A m c g A.nS)) f1 f2 g1 g2 tb) → ∀ (d s : Nat) (f1 : Int32) (f2 : Nat → Int32) (g1 : Int32) (g2 : Nat → Int32) (tb : Nat → Nat → Int32), s + d = A.nS → P_X2_radius_6 (nI g) gc me ce li sct stk sle co ld K (d + 1) (nI s) (nI (rad A m c g s)) f1 f2 g1 g2 tb := by
    intro K hK d
    induction d with
    | zero =>
      intro s f1 f2 g1 g2 tb hs
      show B_X2_radius_6 (nI g) gc me ce li sct stk sle co ld K _ (nI s) (nI (rad A m c g s)) f1 f2 g1 g2 tb
      unfold B_X2_radius_6
      have e : s = A.nS := by omega
      subst e
      refine ⟨fun _ => hK _ _ _ _ _ _, fun z => ?_⟩
      rw [hR.1.1] at z
      exact absurd (Int32.le_refl _) z
    | succ d ih =>
      intro s f1 f2 g1 g2 tb hs
      have hs' : s < A.nS := by omega
      have hms := hm s (by omega)
      have hb := rad_le (m := m) (g := g) hV hc s (by omega)
      have hd := dd_bd hV hc hs'
      have i := fun f1 f2 g1 g2 tb => ih (s + 1) f1 f2 g1 g2 tb (by omega)
      rw [rad_s] at i
      show B_X2_radius_6 (nI g) gc me ce li sct stk sle co ld K (P_X2_radius_6 (nI g) gc me ce li sct stk sle co ld K (d + 1)) (nI s) (nI (rad A m c g s)) f1 f2 g1 g2 tb
      unfold B_X2_radius_6
      rw [nI_clamp (n := s) (by omega), hms.1, c1_nI (by omega) (by omega), nI_1]
      refine ⟨fun z => ?_, fun _ => ⟨(vpi (by omega)).mpr (by omega), fun y => ?_, fun y => s_centre hgc hgl hkk ?_⟩⟩
      · rw [hR.1.1, nI_leI (by omega) (by omega)] at z
        omega
      · rw [if_neg y] at i
        exact i f1 f2 g1 g2 tb
      · rw [if_pos y] at i
        rw [hce]
        refine s_between hV hR hc hs' (fun f1 f2 g1 g2 tb' _ _ => ?_)
        have e := max_if (rad A m c g s) (dd A c s) (by omega) (by omega)
        have i2 := i f1 f2 g1 g2 tb'
        rw [← e] at i2
        exact i2
  exact ⟨A.nS + 1, lp (fun w5_7 w4_7 efln_7 eftk_7 egln_7 egtk_7 etb_7 => post w4_7 efln_7 eftk_7 egln_7 egtk_7 etb_7) (fun _ f1 f2 g1 g2 tb => h f1 f2 g1 g2 tb) A.nS 0 fln ftk gln gtk tb (by omega)⟩
noncomputable def vGC (A : AS) : Int32 := nI (grs A).1
noncomputable def vGO (A : AS) (x : Int32) : Int32 := by
  classical exact if isRow A.nS x then c1 ((grs A).2.1 x.toNatClampNeg) else -1
noncomputable def vCO (A : AS) (x : Int32) : Int32 := by
  classical exact if 0 ≤ x then (if isRow (grs A).1 x then nI ((grs A).2.2 x.toNatClampNeg) else -4) else -1
noncomputable def vGI (A : AS) (x z : Int32) : Int32 := by
  classical exact if 0 ≤ x ∧ isRow 3 z then (if isRow (grs A).1 x then (if z = 0 then nI (mcn (grs A).2.1 x.toNatClampNeg A.nS) else if z = 1 then nI (pcn 10 (rgb A (grs A).2.1 x.toNatClampNeg A.nS)) else nI (rad A (grs A).2.1 ((grs A).2.2 x.toNatClampNeg) x.toNatClampNeg A.nS)) else -4) else -1
theorem s_groupCount {A : AS} {k ld fln gln li sct pct : Int32} {fo me ce ftk gtk stk sle ye re ptk ple co : Nat → Int32} {tb : Nat → Nat → Int32} {post : Int32 → Int32 → (Nat → Int32) → Int32 → (Nat → Int32) → (Nat → Nat → Int32) → Int32 → (Nat → Int32) → (Nat → Int32) → (Nat → Int32) → Prop} (hV : VA A) (hR : RC A li sct stk sle ye re pct ptk ple co) (h : ∀ f1 f2 g1 g2 tb' k' fo' me' ce', post (vGC A) f1 f2 g1 g2 tb' k' fo' me' ce') : P_X8_groupCount li sct stk sle ye co ld fln ftk gln gtk tb k fo me ce post := by
  unfold P_X8_groupCount
  refine s_form hV hR (fun k' fo' me' ce' f1 f2 g1 g2 tb' hG => ?_)
  have t := h f1 f2 g1 g2 tb' k' fo' me' ce'
  unfold vGC at t
  rw [← hG.1] at t
  exact t
theorem s_groupOf {A : AS} {x k ld fln gln li sct pct : Int32} {fo me ce ftk gtk stk sle ye re ptk ple co : Nat → Int32} {tb : Nat → Nat → Int32} {post : Int32 → Int32 → (Nat → Int32) → Int32 → (Nat → Int32) → (Nat → Nat → Int32) → Int32 → (Nat → Int32) → (Nat → Int32) → (Nat → Int32) → Prop} (hV : VA A) (hR : RC A li sct stk sle ye re pct ptk ple co) (h : ∀ f1 f2 g1 g2 tb' k' fo' me' ce', post (vGO A x) f1 f2 g1 g2 tb' k' fo' me' ce') : P_X8_groupOf x li sct stk sle ye co ld fln ftk gln gtk tb k fo me ce post := by
  have h12 := hV.1
  have e := hR.1.1
  unfold P_X8_groupOf
  unfold vGO at h
  rw [e]
  rcases row_or x (n := A.nS) (by omega) with c | ⟨s, hs, rfl⟩
  · rw [if_neg (not_row (by omega) c)] at h
    exact s_has_no c ⟨fun w => absurd rfl w, fun _ => h _ _ _ _ _ _ _ _ _⟩
  · rw [if_pos ⟨s, hs, rfl⟩, nI_clamp (by omega)] at h
    refine s_has_yes hs (by omega) ⟨fun _ => ?_, fun w => absurd w (by decide)⟩
    rw [← e]
    refine s_form hV hR (fun k' fo' me' ce' f1 f2 g1 g2 tb' hG => ⟨(vpi (by omega)).mpr (by omega), ?_⟩)
    rw [nI_clamp (by omega), (hG.2.2.1 s (by omega)).1]
    exact h _ _ _ _ _ _ _ _ _
theorem s_centreOf {A : AS} {x k ld fln gln li sct pct : Int32} {fo me ce ftk gtk stk sle ye re ptk ple co : Nat → Int32} {tb : Nat → Nat → Int32} {post : Int32 → Int32 → (Nat → Int32) → Int32 → (Nat → Int32) → (Nat → Nat → Int32) → Int32 → (Nat → Int32) → (Nat → Int32) → (Nat → Int32) → Prop} (hV : VA A) (hR : RC A li sct stk sle ye re pct ptk ple co) (h : ∀ f1 f2 g1 g2 tb' k' fo' me' ce', post (vCO A x) f1 f2 g1 g2 tb' k' fo' me' ce') : P_X8_centreOf x li sct stk sle ye co ld fln ftk gln gtk tb k fo me ce post := by
  have h12 := hV.1
  unfold P_X8_centreOf
  unfold vCO at h
  refine ⟨fun w => s_form hV hR (fun k' fo' me' ce' f1 f2 g1 g2 tb' hG => ?_), fun w => ?_⟩
  · rw [if_pos w] at h
    have hk := hG.1
    have hl := hG.2.1
    unfold P_X2_centre
    refine ⟨fun c => absurd c (Int32.not_lt.mpr w), fun _ => ⟨fun c => ?_, fun c => ?_⟩⟩
    · rw [hk] at c
      rw [if_neg (not_row (by omega) (Or.inr c))] at h
      exact h _ _ _ _ _ _ _ _ _
    · rw [hk] at c
      obtain ⟨j, hj, rfl⟩ := nI_below (m := (grs A).1) (by omega) (fun q => absurd w (Int32.not_le.mpr q)) c
      rw [if_pos ⟨j, hj, rfl⟩, nI_clamp (by omega)] at h
      rw [nI_clamp (by omega), (hG.2.2.2 j hj).1]
      exact ⟨(vpi (by omega)).mpr (by omega), h _ _ _ _ _ _ _ _ _⟩
  · rw [if_neg w] at h
    exact h _ _ _ _ _ _ _ _ _
theorem s_groupInfo {A : AS} {x z k ld fln gln li sct pct : Int32} {fo me ce ftk gtk stk sle ye re ptk ple co : Nat → Int32} {tb : Nat → Nat → Int32} {post : Int32 → Int32 → (Nat → Int32) → Int32 → (Nat → Int32) → (Nat → Nat → Int32) → Int32 → (Nat → Int32) → (Nat → Int32) → (Nat → Int32) → Prop} (hV : VA A) (hR : RC A li sct stk sle ye re pct ptk ple co) (h : ∀ f1 f2 g1 g2 tb' k' fo' me' ce', post (vGI A x z) f1 f2 g1 g2 tb' k' fo' me' ce') : P_X8_groupInfo x z li sct stk sle ye re co ld fln ftk gln gtk tb k fo me ce post := by
  have h12 := hV.1
  have e3 : ∀ {y : Int32}, y ≤ (2 : Int32) ↔ ¬ nI 3 ≤ y := by
    intro y
    have e1 : (2 : Int32).toInt = 2 := rfl
    have e2 : (nI 3).toInt = 3 := rfl
    rw [Int32.le_iff_toInt_le, Int32.le_iff_toInt_le, e1, e2]
    omega
  unfold P_X8_groupInfo
  unfold vGI at h
  refine ⟨fun w => ?_, fun w => ⟨fun w2 => ?_, fun w2 => ⟨fun w3 => s_form hV hR (fun k' fo' me' ce' f1 f2 g1 g2 tb' hG => ?_), fun w3 => ?_⟩⟩⟩
  · rw [if_neg (fun q => absurd q.1 (Int32.not_le.mpr w))] at h
    exact h _ _ _ _ _ _ _ _ _
  · rw [if_neg (fun q => not_row (by omega) (Or.inl w2) q.2)] at h
    exact h _ _ _ _ _ _ _ _ _
  · have hz : isRow 3 z := nI_below (m := 3) (by omega) w2 (e3.mp w3)
    rw [if_pos ⟨Int32.not_lt.mp w, hz⟩] at h
    have hk := hG.1
    have hl := hG.2.1
    refine ⟨fun c => ?_, fun c => ?_⟩
    · rw [hk] at c
      obtain ⟨j, hj, rfl⟩ := nI_below (m := (grs A).1) (by omega) w (Int32.not_le.mpr c)
      rw [if_pos ⟨j, hj, rfl⟩, nI_clamp (by omega)] at h
      have hcj := hG.2.2.2 j hj
      refine ⟨fun z0 => ⟨fun z1 => s_radius hV hR hG.2.2.1 (by omega) hcj.2 hcj.1 hk hj (by omega) (fun a1 a2 b1 b2 tb2 => ?_), fun z1 => s_regions hV hR hG.2.2.1 (by omega) ?_⟩, fun z0 => s_members hV hR hG.2.2.1 (by omega) ?_⟩
      · rw [if_neg z0, if_neg z1] at h
        exact h _ _ _ _ _ _ _ _ _
      · rw [if_neg z0, if_pos z1] at h
        exact h _ _ _ _ _ _ _ _ _
      · rw [if_pos z0] at h
        exact h _ _ _ _ _ _ _ _ _
    · rw [hk] at c
      rw [if_neg (not_row (by omega) (Or.inr (Int32.not_lt.mp c)))] at h
      exact h _ _ _ _ _ _ _ _ _
  · rw [if_neg (fun q => not_row (by omega) (Or.inr (Classical.byContradiction (fun y => w3 (e3.mpr y)))) q.2)] at h
    exact h _ _ _ _ _ _ _ _ _
