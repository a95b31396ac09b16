/-! ===== the law: isWhole ===== -/
theorem s_age {A : AS} {p : Nat} {li sct pct : Int32} {stk sle ye re ptk ple co : Nat → Int32} {ao : Nat → Int32} {post : Int32 → (Nat → Int32) → Prop} (hV : VA A) (hR : RC A li sct stk sle ye re pct ptk ple co) (hp : p < A.nS) (h : ∀ ao', post (nI (atRank A.yr A.nS p)) ao') : P_X8_byAge (nI p) li sct ye ao post := by
  have h12 := hV.1
  refine s_byAge hV hR ?_
  unfold vByAge
  rw [if_pos (nI_pos' (by omega)), if_pos ⟨p, hp, rfl⟩, nI_clamp (by omega)]
  exact h
theorem s_ageEnd {A : AS} {li sct pct : Int32} {stk sle ye re ptk ple co : Nat → Int32} {ao : Nat → Int32} {post : Int32 → (Nat → Int32) → Prop} (hV : VA A) (hR : RC A li sct stk sle ye re pct ptk ple co) (h : ∀ ao', post (-4 : Int32) ao') : P_X8_byAge (nI A.nS) li sct ye ao post := by
  have h12 := hV.1
  refine s_byAge hV hR ?_
  unfold vByAge
  rw [if_pos (nI_pos' (by omega)), if_neg (not_row (by omega) (Or.inr (Int32.le_refl _)))]
  exact h
theorem s_iw27 {A : AS} {li sct pct : Int32} {stk sle ye re ptk ple co : Nat → Int32} {K : Int32 → Int32 → (Nat → Int32) → Prop} (hV : VA A) (hR : RC A li sct stk sle ye re pct ptk ple co) (h6 : A.nS ≤ 6) (hK : ∀ v ao, K v (nI (2 ^ A.nS - 1)) ao) : ∀ (d p : Nat), p + d = A.nS → ∀ ao, P_L_isWhole_27 (1 : Int32) (nI A.nS) li sct ye K (d + 1) (nI p) (nI (sn A p)) ao := by
  intro d
  induction d with
  | zero =>
    intro p hp ao
    show B_L_isWhole_27 (1 : Int32) (nI A.nS) li sct ye K _ (nI p) (nI (sn A p)) ao
    unfold B_L_isWhole_27
    have e : p = A.nS := by omega
    rw [e, sn_all]
    exact ⟨fun _ => hK _ _, fun z => absurd (Int32.le_refl _) z⟩
  | succ d ih =>
    intro p hp ao
    have hr := rank_at (yr := A.yr) (show p < A.nS by omega)
    have hl := sn_lt h6 p (by omega)
    have o := or_all _ hl _ (show atRank A.yr A.nS p < 10 by omega)
    show B_L_isWhole_27 (1 : Int32) (nI A.nS) li sct ye K (P_L_isWhole_27 (1 : Int32) (nI A.nS) li sct ye K (d + 1)) (nI p) (nI (sn A p)) ao
    unfold B_L_isWhole_27
    refine ⟨fun z => ?_, fun _ => ⟨fun z => absurd z (by decide), fun _ => s_age hV hR (by omega) (fun ao' => ?_)⟩⟩
    · rw [nI_leI (by omega) (by omega)] at z
      omega
    · rw [o.1, nI_1, ← sn_s]
      exact ih (p + 1) (by omega) ao'
theorem s_sim {A : AS} {a b : Nat} {li sct pct : Int32} {stk sle ye re ptk ple co : Nat → Int32} {eld efln egln : Int32} {eftk egtk : Nat → Int32} {etb : Nat → Nat → Int32} {post : Int32 → Int32 → (Nat → Int32) → Int32 → (Nat → Int32) → (Nat → Nat → Int32) → Prop} (hV : VA A) (hR : RC A li sct stk sle ye re pct ptk ple co) (h : ∀ f1 f2 g1 g2 tb', post (vSim A (nI a) (nI b)) f1 f2 g1 g2 tb') : P_X8_similarityBits (nI a) (nI b) li sct stk sle co eld efln eftk egln egtk etb post := s_similarityBits hV hR h
theorem s_iw98 {A : AS} {a fN : Nat} {li sct pct : Int32} {stk sle ye re ptk ple co : Nat → Int32} {fa : Nat → Int32} {K : Int32 → Int32 → Int32 → Int32 → Int32 → (Nat → Int32) → Int32 → (Nat → Int32) → (Nat → Nat → Int32) → (Nat → Int32) → Prop} (hV : VA A) (hR : RC A li sct stk sle ye re pct ptk ple co) (ha : a < A.nS) (hf : ∀ i, i < 4 → fa i = nI (A.co i)) (hN : 4 ≤ fN) (hK : ∀ v eld efln eftk egln egtk etb els, K v (nI (lst A a A.nS)) (1 : Int32) eld efln eftk egln egtk etb els) : ∀ (d b : Nat), b + d = A.nS → ∀ eld efln eftk egln egtk etb els, P_L_isWhole_98 fN (nI a) (nI A.nS) li sct stk sle co fa K (d + 1) (nI b) (nI (lst A a b)) (1 : Int32) eld efln eftk egln egtk etb els := by
  have h12 := hV.1
  have f0 : fa (Int32.toNatClampNeg (0 : Int32)) = nI (A.co 0) := hf 0 (by omega)
  have v0 : vp_in (0 : Int32) fN := (vpi (k := 0) (by omega)).mpr (by omega)
  intro d
  induction d with
  | zero =>
    intro b hb eld efln eftk egln egtk etb els
    show B_L_isWhole_98 fN (nI a) (nI A.nS) li sct stk sle co fa K _ (nI b) (nI (lst A a b)) (1 : Int32) eld efln eftk egln egtk etb els
    unfold B_L_isWhole_98
    have e : b = A.nS := by omega
    rw [e]
    exact ⟨fun _ => hK _ _ _ _ _ _ _ _, fun z => absurd (Int32.le_refl _) z⟩
  | succ d ih =>
    intro b hb eld efln eftk egln egtk etb els
    have hb' : b < A.nS := by omega
    have hd := dd_bd hV ha hb'
    have hl := lst_inv A a b
    have hm : dd A a b ≤ A.co 0 * ((A.sy a).1 + (A.sy b).1) := DD_le _ _ _ _ _ _ rfl
    have hwl := (wl_bd hV ha hb').2
    unfold wl at hwl
    have he := ed_nil hV ha hb'
    have h16 := ed_len (A := A) a b
    show B_L_isWhole_98 fN (nI a) (nI A.nS) li sct stk sle co fa K (P_L_isWhole_98 fN (nI a) (nI A.nS) li sct stk sle co fa K (d + 1)) (nI b) (nI (lst A a b)) (1 : Int32) eld efln eftk egln egtk etb els
    unfold B_L_isWhole_98
    refine ⟨fun z => ?_, fun _ => ⟨fun z => absurd z (by decide), fun _ => s_dist hV hR ha hb' (fun f1 f2 g1 g2 tb => ⟨v0, s_wlen hV hR ha (s_wlen hV hR hb' ?_)⟩)⟩⟩
    · rw [nI_leI (by omega) (by omega)] at z
      omega
    rw [f0, nI_add, pk_mul]
    refine ⟨fun r _ _ _ _ _ _ _ => r = (1 : Int32), fun r l f1 f2 g1 g2 tb ls hr => ?_, s_dist hV hR hb' ha (fun f1 f2 g1 g2 tb => ⟨fun z => ?_, fun _ => ⟨fun z => absurd z (nI_pos (by omega)), fun _ => ⟨fun z => ?_, fun _ => ⟨fun z0 => ?_, fun z0 => ?_⟩⟩⟩⟩)⟩
    · replace hr : r = (1 : Int32) := hr
      subst hr
      refine ⟨fun r => r = nI (lst A a (b + 1)), fun r hr => ?_, ?_⟩
      · replace hr : r = nI (lst A a (b + 1)) := hr
        subst hr
        rw [nI_1]
        exact ih (b + 1) (by omega) _ _ _ _ _ _ _
      · refine ⟨fun z => ?_, fun z => ⟨fun z2 => ?_, fun z2 => ?_⟩⟩
        · rw [nI_eq (by omega) (by omega)] at z
          show nI (lst A a b) = nI (lst A a (b + 1))
          rw [lst_s, if_neg (fun y => y.1 z)]
        · rw [nI_leI (by omega) (by omega)] at z2
          show nI (lst A a b) = nI (lst A a (b + 1))
          rw [lst_s, if_neg (fun y => by omega)]
        · rw [nI_leI (by omega) (by omega)] at z2
          rw [nI_eq (by omega) (by omega)] at z
          show nI (dd A a b) = nI (lst A a (b + 1))
          rw [lst_s, if_pos ⟨z, by omega⟩]
    · rw [dd_sym A b a] at z
      exact absurd rfl z
    · rw [nI_ltI (by omega) (by omega)] at z
      omega
    · rw [iL0, nI_eq (by omega) (by omega)] at z0
      refine s_ecnt hV hR ha hb' (fun l f1 f2 g1 g2 tb ls => ⟨fun _ => s_isEdited hV hR ha hb' hf hN (fun l f1 f2 g1 g2 tb ls => ⟨fun z => absurd z (by decide), fun _ => s_sim hV hR (fun f1 f2 g1 g2 tb => s_sim hV hR (fun f1 f2 g1 g2 tb => ⟨fun z => absurd (vSim_sym hV ha hb') z, fun _ => rfl⟩))⟩), fun z => ?_⟩)
      rw [iL0, nI_eq (by omega) (by omega)] at z
      exact absurd (he.mp z) z0
    · rw [iL0, nI_eq (by omega) (by omega)] at z0
      refine s_ecnt hV hR ha hb' (fun l f1 f2 g1 g2 tb ls => ⟨fun z => ?_, fun _ => s_isEdited hV hR ha hb' hf hN (fun l f1 f2 g1 g2 tb ls => ⟨fun z => absurd z (by decide), fun _ => s_sim hV hR (fun f1 f2 g1 g2 tb => s_sim hV hR (fun f1 f2 g1 g2 tb => ⟨fun z => absurd (vSim_sym hV ha hb') z, fun _ => rfl⟩))⟩)⟩)
      rw [iL0, nI_eq (by omega) (by omega)] at z
      exact absurd (he.mpr z0) z
theorem s_near {A : AS} {a : Nat} {li sct pct : Int32} {stk sle ye re ptk ple co : Nat → Int32} {eld efln egln : Int32} {eftk egtk : Nat → Int32} {etb : Nat → Nat → Int32} {ao : Nat → Int32} {post : Int32 → Int32 → (Nat → Int32) → Int32 → (Nat → Int32) → (Nat → Nat → Int32) → (Nat → Int32) → Prop} (hV : VA A) (hR : RC A li sct stk sle ye re pct ptk ple co) (ha : a < A.nS) (h : ∀ f1 f2 g1 g2 tb' ao', post (c4 (nrs A a A.nS).2) f1 f2 g1 g2 tb' ao') : P_X8_nearest (nI a) li sct stk sle ye co eld efln eftk egln egtk etb ao post := by
  have h12 := hV.1
  refine s_nearest hV hR ?_
  unfold vNear
  rw [if_pos ⟨a, ha, rfl⟩, nI_clamp (by omega)]
  exact h
theorem s_iw79 {A : AS} {fN : Nat} {li sct pct : Int32} {stk sle ye re ptk ple co : Nat → Int32} {fa : Nat → Int32} {K : Int32 → Int32 → Int32 → Int32 → (Nat → Int32) → Int32 → (Nat → Int32) → (Nat → Nat → Int32) → (Nat → Int32) → (Nat → Int32) → Prop} (hV : VA A) (hR : RC A li sct stk sle ye re pct ptk ple co) (hf : ∀ i, i < 4 → fa i = nI (A.co i)) (hN : 4 ≤ fN) (hK : ∀ v eld efln eftk egln egtk etb els ao, K v (1 : Int32) eld efln eftk egln egtk etb els ao) : ∀ (d a : Nat), a + d = A.nS → ∀ eld efln eftk egln egtk etb els ao, P_L_isWhole_79 fN (nI A.nS) li sct stk sle ye co fa K (d + 1) (nI a) (1 : Int32) eld efln eftk egln egtk etb els ao := by
  have h12 := hV.1
  intro d
  induction d with
  | zero =>
    intro a ha eld efln eftk egln egtk etb els ao
    show B_L_isWhole_79 fN (nI A.nS) li sct stk sle ye co fa K _ (nI a) (1 : Int32) eld efln eftk egln egtk etb els ao
    unfold B_L_isWhole_79
    have e : a = A.nS := by omega
    rw [e]
    exact ⟨fun _ => hK _ _ _ _ _ _ _ _ _, fun z => absurd (Int32.le_refl _) z⟩
  | succ d ih =>
    intro a ha eld efln eftk egln egtk etb els ao
    have ha' : a < A.nS := by omega
    show B_L_isWhole_79 fN (nI A.nS) li sct stk sle ye co fa K (P_L_isWhole_79 fN (nI A.nS) li sct stk sle ye co fa K (d + 1)) (nI a) (1 : Int32) eld efln eftk egln egtk etb els ao
    unfold B_L_isWhole_79
    refine ⟨fun z => ?_, fun _ => ⟨fun z => absurd z (by decide), fun _ => ⟨A.nS + 1, s_iw98 hV hR ha' hf hN (fun v eld efln eftk egln egtk etb els => s_near hV hR ha' (fun f1 f2 g1 g2 tb ao' => ⟨fun r _ _ _ _ _ => r = (1 : Int32), fun r f1 f2 g1 g2 tb hr => ?_, fun z => absurd z (by decide), fun _ => s_dist hV hR ha' ha' (fun f1 f2 g1 g2 tb => ⟨fun z => ?_, fun _ => ⟨fun z => ?_, fun z => ?_⟩⟩)⟩)) A.nS 0 (by omega) eld efln eftk egln egtk etb els⟩⟩⟩
    · rw [nI_leI (by omega) (by omega)] at z
      omega
    · replace hr : r = (1 : Int32) := hr
      subst hr
      rw [nI_1]
      exact ih (a + 1) (by omega) _ _ _ _ _ _ _ _
    · rw [dd_self] at z
      exact absurd rfl z
    · have z' : A.nS ≠ 1 := fun y => z (by rw [y]; rfl)
      obtain ⟨t, t1, t2, t3, t4⟩ := near_two hV ha' z'
      have e : c4 (nrs A a A.nS).2 = nI t := by
        rw [t1]
        show (if t + 1 = 0 then (-4 : Int32) else nI (t + 1 - 1)) = nI t
        rw [if_neg (Nat.succ_ne_zero t), Nat.add_sub_cancel]
      rw [e]
      refine ⟨fun y => ?_, fun _ => s_dist hV hR ha' t2 (fun f1 f2 g1 g2 tb => ⟨fun y => ?_, fun _ => rfl⟩)⟩
      · rw [nI_eq (by omega) (by omega)] at y
        exact absurd y t3
      · rw [t4] at y
        exact absurd rfl y
    · have z' : A.nS = 1 := by
        rw [show (1 : Int32) = nI 1 from rfl, nI_eq (by omega) (by omega)] at z
        exact z
      have e : c4 (nrs A a A.nS).2 = (-4 : Int32) := by
        rw [near_one ha' z']
        rfl
      rw [e]
      exact ⟨fun y => absurd rfl y, fun _ => rfl⟩
theorem s_isWhole {A : AS} {fN : Nat} {li sct pct : Int32} {stk sle ye re ptk ple co : Nat → Int32} {nx cn : Int32} {rli rsct rpct : Nat → Int32} {rstk rsle rye rre rptk rple rco : Nat → Nat → Int32} {eld efln egln : Int32} {eftk egtk : Nat → Int32} {etb : Nat → Nat → Int32} {els : Nat → Int32} {gc : Int32} {gor gme gce : Nat → Int32} {ao fa : Nat → Int32} {post : Int32 → Int32 → Int32 → (Nat → Int32) → (Nat → Int32) → (Nat → Int32) → (Nat → Int32) → Int32 → (Nat → Int32) → (Nat → Int32) → (Nat → Int32) → Int32 → Int32 → (Nat → Int32) → (Nat → Int32) → (Nat → Nat → Int32) → (Nat → Nat → Int32) → (Nat → Nat → Int32) → (Nat → Nat → Int32) → (Nat → Int32) → (Nat → Nat → Int32) → (Nat → Nat → Int32) → (Nat → Nat → Int32) → Int32 → Int32 → (Nat → Int32) → Int32 → (Nat → Int32) → (Nat → Nat → Int32) → (Nat → Int32) → Int32 → (Nat → Int32) → (Nat → Int32) → (Nat → Int32) → (Nat → Int32) → Prop} (hV : VA A) (hR : RC A li sct stk sle ye re pct ptk ple co) (h6 : A.nS ≤ 6) (hf : ∀ i, i < 4 → fa i = nI (A.co i)) (hN : 4 ≤ fN) (hX : HX nx cn rli rsct rstk rsle rye rre rpct rptk rple rco) (hp : ∀ li' sct' stk' sle' ye' re' pct' ptk' ple' co' nx' cn' rli' rsct' rstk' rsle' rye' rre' rpct' rptk' rple' rco' l f1 f2 g1 g2 tb ls k' fo' me' ce' ao', RC A li' sct' stk' sle' ye' re' pct' ptk' ple' co' → HX nx' cn' rli' rsct' rstk' rsle' rye' rre' rpct' rptk' rple' rco' → post (1 : Int32) li' sct' stk' sle' ye' re' pct' ptk' ple' co' nx' cn' rli' rsct' rstk' rsle' rye' rre' rpct' rptk' rple' rco' l f1 f2 g1 g2 tb ls k' fo' me' ce' ao') : P_L_isWhole fN li sct stk sle ye re pct ptk ple co nx cn rli rsct rstk rsle rye rre rpct rptk rple rco eld efln eftk egln egtk etb els gc gor gme gce ao fa post := by
  have h12 := hV.1
  have es : sct = nI A.nS := hR.1.1
  subst es
  unfold P_L_isWhole P_X8_sayingCount
  refine ⟨fun r _ => r = (1 : Int32), fun r ao1 hr => ?_, s_ageEnd hV hR (fun ao' => ⟨fun z => absurd rfl z, fun _ => rfl⟩)⟩
  replace hr : r = (1 : Int32) := hr
  subst hr
  refine ⟨A.nS + 1, s_iw27 hV hR h6 (fun v ao2 => ⟨fun r => r = (1 : Int32), fun r hr => ?_, fun z => absurd z (by decide), fun _ => ⟨fun z => absurd (sh_all A.nS (by omega)).symm z, fun _ => rfl⟩⟩) A.nS 0 (by omega) ao1⟩
  replace hr : r = (1 : Int32) := hr
  subst hr
  exact ⟨A.nS + 1, s_iw79 hV hR hf hN (fun v l f1 f2 g1 g2 tb ls ao3 => ⟨fun z => absurd z (by decide), fun _ => s_areGroups hV hR hX (fun li' sct' stk' sle' ye' re' pct' ptk' ple' co' nx' cn' rli' rsct' rstk' rsle' rye' rre' rpct' rptk' rple' rco' f1 f2 g1 g2 tb k' fo' me' ce' hR' hX' => ⟨fun z => absurd z (by decide), fun _ => hp _ _ _ _ _ _ _ _ _ _ _ _ _ _ _ _ _ _ _ _ _ _ _ _ _ _ _ _ _ _ _ _ _ _ hR' hX'⟩)⟩) A.nS 0 (by omega) eld efln eftk egln egtk etb els ao2⟩
