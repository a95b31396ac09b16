/-! ===== the law: areGroups ===== -/
def HX (nx cn : Int32) (rli rsct : Nat → Int32) (rstk rsle rye rre : Nat → Nat → Int32) (rpct : Nat → Int32) (rptk rple rco : Nat → Nat → Int32) : Prop := ∃ (k x : Nat) (h : Nat → AS), (∀ j, j < k → VA (h j)) ∧ HC k x h nx cn rli rsct rstk rsle rye rre rpct rptk rple rco
theorem VA_push {A : AS} {h : Nat → AS} {k : Nat} (hV : VA A) (hv : ∀ j, j < k → VA (h j)) : ∀ j, j < min (k + 1) 5 → VA (hsh A h j) := by
  intro j hj
  cases j with
  | zero => exact hV
  | succ j =>
    rw [hsh_s]
    exact hv j (by omega)
theorem s_ag121 {A : AS} {g : Nat} {li sct pct : Int32} {stk sle ye re ptk ple co : Nat → Int32} {eld : Int32} {K : Int32 → Int32 → Int32 → (Nat → Int32) → Int32 → (Nat → Int32) → (Nat → Nat → Int32) → Int32 → (Nat → Int32) → (Nat → Int32) → (Nat → Int32) → Prop} (hV : VA A) (hR : RC A li sct stk sle ye re pct ptk ple co) (hg : g < (grs A).1) (hK : ∀ v efln eftk egln egtk etb gc gor gme gce, K v (1 : Int32) efln eftk egln egtk etb gc gor gme gce) : ∀ (d i : Nat), i + d = g → ∀ efln eftk egln egtk etb gc gor gme gce, P_L_areGroups_121 (nI ((grs A).2.2 g)) (nI g) (nI A.li) li sct stk sle ye co eld K (d + 1) (nI i) (1 : Int32) efln eftk egln egtk etb gc gor gme gce := by
  have h12 := hV.1
  have hl20 := hV.2.2.2.2.2
  obtain ⟨h0, h1, h2, h3, h4, h5, h6⟩ := grs_inv A
  intro d
  induction d with
  | zero =>
    intro i hi efln eftk egln egtk etb gc gor gme gce
    show B_L_areGroups_121 (nI ((grs A).2.2 g)) (nI g) (nI A.li) li sct stk sle ye co eld K _ (nI i) (1 : Int32) efln eftk egln egtk etb gc gor gme gce
    unfold B_L_areGroups_121
    have e : i = g := by omega
    subst e
    exact ⟨fun _ => hK _ _ _ _ _ _ _ _ _ _, fun z => absurd (Int32.le_refl _) z⟩
  | succ d ih =>
    intro i hi efln eftk egln egtk etb gc gor gme gce
    show B_L_areGroups_121 (nI ((grs A).2.2 g)) (nI g) (nI A.li) li sct stk sle ye co eld K (P_L_areGroups_121 (nI ((grs A).2.2 g)) (nI g) (nI A.li) li sct stk sle ye co eld K (d + 1)) (nI i) (1 : Int32) efln eftk egln egtk etb gc gor gme gce
    unfold B_L_areGroups_121
    refine ⟨fun z => ?_, fun _ => ⟨fun z => absurd z (by decide), fun _ => ⟨fun r _ _ _ _ _ _ _ _ _ => r = (1 : Int32), fun r f1 f2 g1 g2 tb k' fo' me' ce' hr => ?_, s_cen hV hR (by omega) (fun f1 f2 g1 g2 tb k' fo' me' ce' => s_dist hV hR (h1 i (by omega)).1 (h1 g hg).1 (fun f1 f2 g1 g2 tb => ⟨fun z => ?_, fun _ => rfl⟩))⟩⟩⟩
    · rw [nI_leI (by omega) (by omega)] at z
      omega
    · replace hr : r = (1 : Int32) := hr
      subst hr
      rw [nI_1]
      exact ih (i + 1) (by omega) _ _ _ _ _ _ _ _ _
    · have b := dd_bd hV (h1 i (by omega)).1 (h1 g hg).1
      rw [nI_leI (by omega) (by omega)] at z
      have := h4 i g (by omega) hg
      omega
theorem s_ag31 {A : AS} {li sct pct : Int32} {stk sle ye re ptk ple co : Nat → Int32} {eld : Int32} {K : Int32 → Int32 → Int32 → Int32 → (Nat → Int32) → Int32 → (Nat → Int32) → (Nat → Nat → Int32) → Int32 → (Nat → Int32) → (Nat → Int32) → (Nat → Int32) → Prop} (hV : VA A) (hR : RC A li sct stk sle ye re pct ptk ple co) (hK : ∀ v efln eftk egln egtk etb gc gor gme gce, K v (nI A.nS) (1 : Int32) efln eftk egln egtk etb gc gor gme gce) : ∀ (d g : Nat), g + d = (grs A).1 → ∀ efln eftk egln egtk etb gc gor gme gce, P_L_areGroups_31 (nI (grs A).1) (nI A.li) li sct stk sle ye re co eld K (d + 1) (nI g) (nI (smn (grs A).2.1 A.nS g)) (1 : Int32) efln eftk egln egtk etb gc gor gme gce := by
  have h12 := hV.1
  have hl20 := hV.2.2.2.2.2
  obtain ⟨h0, h1, h2, h3, h4, h5, h6⟩ := grs_inv A
  intro d
  induction d with
  | zero =>
    intro g hg efln eftk egln egtk etb gc gor gme gce
    show B_L_areGroups_31 (nI (grs A).1) (nI A.li) li sct stk sle ye re co eld K _ (nI g) (nI (smn (grs A).2.1 A.nS g)) (1 : Int32) efln eftk egln egtk etb gc gor gme gce
    unfold B_L_areGroups_31
    have e : g = (grs A).1 := by omega
    rw [e, smn_grs]
    exact ⟨fun _ => hK _ _ _ _ _ _ _ _ _ _, fun z => absurd (Int32.le_refl _) z⟩
  | succ d ih =>
    intro g hg efln eftk egln egtk etb gc gor gme gce
    have hg' : g < (grs A).1 := by omega
    obtain ⟨c1', c2'⟩ := h1 g hg'
    have rl := rad_lim (A := A) (m := (grs A).2.1) (c := (grs A).2.2 g) (g := g) (L := A.li) (fun s hs => h3 s g hs) A.nS
    have rb := reg_mcn (A := A) (m := (grs A).2.1) (g := g) hV A.nS (Nat.le_refl _)
    have r1 := rb.2 ⟨_, c1', c2'⟩
    have ml := mcn_le (grs A).2.1 g A.nS
    have eg : (grs A).2.1 ((grs A).2.2 g) - 1 = g := by omega
    show B_L_areGroups_31 (nI (grs A).1) (nI A.li) li sct stk sle ye re co eld K (P_L_areGroups_31 (nI (grs A).1) (nI A.li) li sct stk sle ye re co eld K (d + 1)) (nI g) (nI (smn (grs A).2.1 A.nS g)) (1 : Int32) efln eftk egln egtk etb gc gor gme gce
    unfold B_L_areGroups_31
    refine ⟨fun z => ?_, fun _ => ⟨fun z => absurd z (by decide), fun _ => s_cen hV hR hg' (fun f1 f2 g1 g2 tb k' fo' me' ce' => s_inf0 hV hR hg' (fun f1 f2 g1 g2 tb k' fo' me' ce' => ⟨fun r _ _ _ _ _ _ _ _ _ => r = (1 : Int32), fun r f1 f2 g1 g2 tb k' fo' me' ce' hr => ?_, s_gof hV hR c1' (fun f1 f2 g1 g2 tb k' fo' me' ce' => ⟨fun z => ?_, fun _ => s_inf2 hV hR hg' (fun f1 f2 g1 g2 tb k' fo' me' ce' => ⟨fun z => ?_, fun _ => s_inf1 hV hR hg' (fun f1 f2 g1 g2 tb k' fo' me' ce' => ⟨fun z => ?_, fun _ => s_inf1 hV hR hg' (fun f1 f2 g1 g2 tb k' fo' me' ce' => s_inf0 hV hR hg' (fun f1 f2 g1 g2 tb k' fo' me' ce' => ⟨fun z => ?_, fun _ => rfl⟩))⟩)⟩)⟩)⟩))⟩⟩
    · rw [nI_leI (by omega) (by omega)] at z
      omega
    · replace hr : r = (1 : Int32) := hr
      subst hr
      refine ⟨g + 1, s_ag121 hV hR hg' (fun v efln eftk egln egtk etb gc gor gme gce => ?_) g 0 (by omega) f1 f2 g1 g2 tb k' fo' me' ce'⟩
      rw [nI_1, nI_add]
      exact ih (g + 1) (by omega) _ _ _ _ _ _ _ _ _
    · rw [eg] at z
      exact absurd rfl z
    · rw [nI_ltI (by omega) (by omega)] at z
      omega
    · rw [show (1 : Int32) = nI 1 from rfl, nI_ltI (by omega) (by omega)] at z
      omega
    · rw [nI_ltI (by omega) (by omega)] at z
      omega
theorem s_ag169 {A : AS} {li sct pct : Int32} {stk sle ye re ptk ple co : Nat → Int32} {eld : Int32} {K : Int32 → Int32 → Int32 → (Nat → Int32) → Int32 → (Nat → Int32) → (Nat → Nat → Int32) → Int32 → (Nat → Int32) → (Nat → Int32) → (Nat → Int32) → Prop} (hV : VA A) (hR : RC A li sct stk sle ye re pct ptk ple co) (hK : ∀ v efln eftk egln egtk etb gc gor gme gce, K v (1 : Int32) efln eftk egln egtk etb gc gor gme gce) : ∀ (d s : Nat), s + d = A.nS → ∀ efln eftk egln egtk etb gc gor gme gce, P_L_areGroups_169 (nI (grs A).1) (nI A.li) (nI A.nS) li sct stk sle ye co eld K (d + 1) (nI s) (1 : Int32) efln eftk egln egtk etb gc gor gme gce := by
  have h12 := hV.1
  have hl20 := hV.2.2.2.2.2
  obtain ⟨h0, h1, h2, h3, h4, h5, h6⟩ := grs_inv A
  intro d
  induction d with
  | zero =>
    intro s hs efln eftk egln egtk etb gc gor gme gce
    show B_L_areGroups_169 (nI (grs A).1) (nI A.li) (nI A.nS) li sct stk sle ye co eld K _ (nI s) (1 : Int32) efln eftk egln egtk etb gc gor gme gce
    unfold B_L_areGroups_169
    have e : s = A.nS := by omega
    rw [e]
    exact ⟨fun _ => hK _ _ _ _ _ _ _ _ _ _, fun z => absurd (Int32.le_refl _) z⟩
  | succ d ih =>
    intro s hs efln eftk egln egtk etb gc gor gme gce
    have hs' : s < A.nS := by omega
    have ga := grs_at hs'
    have hg : (grs A).2.1 s - 1 < (grs A).1 := by omega
    have hl := h3 s ((grs A).2.1 s - 1) (by omega)
    show B_L_areGroups_169 (nI (grs A).1) (nI A.li) (nI A.nS) li sct stk sle ye co eld K (P_L_areGroups_169 (nI (grs A).1) (nI A.li) (nI A.nS) li sct stk sle ye co eld K (d + 1)) (nI s) (1 : Int32) efln eftk egln egtk etb gc gor gme gce
    unfold B_L_areGroups_169
    refine ⟨fun z => ?_, fun _ => ⟨fun z => absurd z (by decide), fun _ => ⟨fun r _ _ _ _ _ _ _ _ _ => r = (1 : Int32), fun r f1 f2 g1 g2 tb k' fo' me' ce' hr => ?_, s_gof hV hR hs' (fun f1 f2 g1 g2 tb k' fo' me' ce' => ⟨fun z => absurd z (nI_pos (by omega)), fun _ => s_gof hV hR hs' (fun f1 f2 g1 g2 tb k' fo' me' ce' => ⟨fun z => ?_, fun _ => s_gof hV hR hs' (fun f1 f2 g1 g2 tb k' fo' me' ce' => s_cen hV hR hg (fun f1 f2 g1 g2 tb k' fo' me' ce' => s_dist hV hR (h1 _ hg).1 hs' (fun f1 f2 g1 g2 tb => ⟨fun z => ?_, fun _ => rfl⟩)))⟩)⟩)⟩⟩⟩
    · rw [nI_leI (by omega) (by omega)] at z
      omega
    · replace hr : r = (1 : Int32) := hr
      subst hr
      rw [nI_1]
      exact ih (s + 1) (by omega) _ _ _ _ _ _ _ _ _
    · rw [nI_leI (by omega) (by omega)] at z
      omega
    · rw [nI_ltI (by omega) (by omega)] at z
      omega
theorem s_areGroups {A : AS} {li sct pct : Int32} {stk sle ye re ptk ple co : Nat → Int32} {nx cn : Int32} {rli rsct rpct : Nat → Int32} {rstk rsle rye rre rptk rple rco : Nat → Nat → Int32} {eld efln egln : Int32} {eftk egtk : Nat → Int32} {etb : Nat → Nat → Int32} {gc : Int32} {gor gme gce : Nat → Int32} {post : Int32 → Int32 → Int32 → (Nat → Int32) → (Nat → Int32) → (Nat → Int32) → (Nat → Int32) → Int32 → (Nat → Int32) → (Nat → Int32) → (Nat → Int32) → Int32 → Int32 → (Nat → Int32) → (Nat → Int32) → (Nat → Nat → Int32) → (Nat → Nat → Int32) → (Nat → Nat → Int32) → (Nat → Nat → Int32) → (Nat → Int32) → (Nat → Nat → Int32) → (Nat → Nat → Int32) → (Nat → Nat → Int32) → Int32 → (Nat → Int32) → Int32 → (Nat → Int32) → (Nat → Nat → Int32) → Int32 → (Nat → Int32) → (Nat → Int32) → (Nat → Int32) → Prop} (hV : VA A) (hR : RC A li sct stk sle ye re pct ptk ple co) (hX : HX nx cn rli rsct rstk rsle rye rre rpct rptk rple rco) (hp : ∀ li' sct' stk' sle' ye' re' pct' ptk' ple' co' nx' cn' rli' rsct' rstk' rsle' rye' rre' rpct' rptk' rple' rco' f1 f2 g1 g2 tb k' fo' me' ce', RC A li' sct' stk' sle' ye' re' pct' ptk' ple' co' → HX nx' cn' rli' rsct' rstk' rsle' rye' rre' rpct' rptk' rple' rco' → post (1 : Int32) li' sct' stk' sle' ye' re' pct' ptk' ple' co' nx' cn' rli' rsct' rstk' rsle' rye' rre' rpct' rptk' rple' rco' f1 f2 g1 g2 tb k' fo' me' ce') : P_L_areGroups (nI A.nS) li sct stk sle ye re pct ptk ple co nx cn rli rsct rstk rsle rye rre rpct rptk rple rco eld efln eftk egln egtk etb gc gor gme gce post := by
  obtain ⟨k, x, h, hv, hH⟩ := hX
  have hk := hH.2.2.2.1
  have h12 := hV.1
  unfold P_L_areGroups
  refine s_setLimit hV hR hH (fun z => (z ⟨3, by omega, rfl⟩).elim) (fun _ li1 nx1 cn1 rli1 rsct1 rstk1 rsle1 rye1 rre1 rpct1 rptk1 rple1 rco1 hR1 hH1 => ?_)
  refine s_undo (VA_push hV hv) hH1 (fun _ nx2 li2 sct2 stk2 sle2 ye2 re2 pct2 ptk2 ple2 co2 hR2 hH2 => ?_) (fun z => absurd z (by omega))
  replace hR2 : RC A li2 sct2 stk2 sle2 ye2 re2 pct2 ptk2 ple2 co2 := hR2
  refine ⟨fun r => r = (1 : Int32), fun r hr => ?_, fun z => absurd z (nI_pos (by omega)), fun _ => rfl⟩
  replace hr : r = (1 : Int32) := hr
  subst hr
  refine s_gcount hV hR2 (fun f1 f2 g1 g2 tb k' fo' me' ce' => ⟨(grs A).1 + 1, ?_⟩)
  refine s_ag31 hV hR2 (fun v efln eftk egln egtk etb gc gor gme gce => ⟨A.nS + 1, s_ag169 hV hR2 (fun v2 efln eftk egln egtk etb gc gor gme gce => ⟨fun z => absurd z (by decide), fun _ => ⟨fun z => absurd rfl z, fun _ => s_cenEnd hV hR2 (fun f1 f2 g1 g2 tb k' fo' me' ce' => ⟨fun z => absurd rfl z, fun _ => s_infEnd hV hR2 (fun f1 f2 g1 g2 tb k' fo' me' ce' => ⟨fun z => absurd rfl z, fun _ => hp _ _ _ _ _ _ _ _ _ _ _ _ _ _ _ _ _ _ _ _ _ _ _ _ _ _ _ _ _ _ _ hR2 ⟨_, _, _, fun j hj => VA_push hV hv (j + 1) (by omega), hH2⟩⟩)⟩)⟩⟩) A.nS 0 (by omega) efln eftk egln egtk etb gc gor gme gce⟩) (grs A).1 0 (by omega) f1 f2 g1 g2 tb k' fo' me' ce'

