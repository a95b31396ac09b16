/-! ===== numbers out of the script ===== -/
theorem shr_nn (x s : Int32) (hx : ¬ x < 0) : ¬ (x >>> s) < 0 := by
  obtain ⟨j, hj, rfl⟩ := nI_of hx
  rw [pk_shrN hj s _ rfl]
  exact nI_pos (Nat.lt_of_le_of_lt (Nat.div_le_self _ _) hj)
theorem rem_row (x : Int32) (m : Nat) (hx : ¬ x < 0) (h0 : 0 < m) (hm : m < 1000) : ∃ r, r < m ∧ x - x / nI m * nI m = nI r := by
  obtain ⟨j, hj, rfl⟩ := nI_of hx
  have e : m * (j / m) + j % m = j := Nat.div_add_mod j m
  have e2 : j / m * m = m * (j / m) := Nat.mul_comm _ _
  refine ⟨j % m, Nat.mod_lt _ h0, ?_⟩
  rw [pk_div hj h0 (by omega), pk_mul, e2, pk_sub (by omega)]
  exact congrArg nI (by omega)
/-! ===== the law: adds ===== -/
theorem RQ_nil (f : Nat → Int32) : RQ (0, fun _ => 0) 0 f := ⟨rfl, fun j hj => absurd hj (Nat.not_lt_zero j)⟩
theorem s_ad23 {N : Nat} {x1 : Int32} {K : Int32 → Int32 → Int32 → (Nat → Int32) → Prop} (hx : ¬ x1 < 0) (hN : N ≤ 8) (hK : ∀ (B : Sy) ln f, RQ B ln f → B.1 = N → (∀ j, j < B.1 → B.2 j < 60) → K (nI N) (1 : Int32) ln f) : ∀ (d k : Nat) (B : Sy) (ln : Int32) (f : Nat → Int32), k + d = N → RQ B ln f → B.1 = k → (∀ j, j < B.1 → B.2 j < 60) → P_L_adds_23 (nI N) x1 K (d + 1) (nI k) (1 : Int32) ln f := by
  intro d
  induction d with
  | zero =>
    intro k B ln f hk hB hl hw
    show B_L_adds_23 (nI N) x1 K _ (nI k) (1 : Int32) ln f
    unfold B_L_adds_23
    have e : k = N := by omega
    rw [e]
    exact ⟨fun _ => hK B ln f hB (hl.trans e) hw, fun z => absurd (Int32.le_refl _) z⟩
  | succ d ih =>
    intro k B ln f hk hB hl hw
    show B_L_adds_23 (nI N) x1 K (P_L_adds_23 (nI N) x1 K (d + 1)) (nI k) (1 : Int32) ln f
    unfold B_L_adds_23
    obtain ⟨w, hw6, ew⟩ := rem_row (x1 >>> (((2 : Int32) + ((2 : Int32) * nI k)) &&& 31)) 6 (shr_nn _ _ hx) (by omega) (by omega)
    have ea : vApp B (nI w) = (nI (B.1 + 1), snoc B w) := by
      unfold vApp
      rw [if_pos ⟨w, by omega, rfl⟩, if_pos (by omega), nI_clamp (by omega)]
    rw [show (x1 >>> (((2 : Int32) + ((2 : Int32) * nI k)) &&& 31)) - (x1 >>> (((2 : Int32) + ((2 : Int32) * nI k)) &&& 31)) / (6 : Int32) * (6 : Int32) = nI w from ew]
    refine ⟨fun z => ?_, fun _ => ⟨fun z => absurd z (by decide), fun _ => ⟨fun r b t => r = (1 : Int32) ∧ ∃ B : Sy, RQ B b t ∧ B.1 = k + 1 ∧ ∀ j, j < B.1 → B.2 j < 60, fun r b t hr => ?_, s_append hB (by omega) (fun ln' f' hq => ?_)⟩⟩⟩
    · rw [nI_leI (by omega) (by omega)] at z
      omega
    · obtain ⟨rfl, B', hB', hl', hw'⟩ := hr
      rw [nI_1]
      exact ih (k + 1) B' b t (by omega) hB' hl' hw'
    · rw [ea] at hq ⊢
      dsimp only at hq ⊢
      refine ⟨fun z => absurd (by rw [nI_1, hl]) z, fun _ => ⟨rfl, snoc B w, hq, ?_, fun j hj => ?_⟩⟩
      · show B.1 + 1 = k + 1
        rw [hl]
      · show (if j = B.1 then w else B.2 j) < 60
        have hj' : j < B.1 + 1 := hj
        by_cases e : j = B.1
        · rw [if_pos e]
          omega
        · rw [if_neg e]
          exact hw j (by omega)
theorem s_adds {A : AS} {B0 : Sy} {x1 bln : Int32} {btk : Nat → Int32} {li sct pct : Int32} {stk sle ye re ptk ple co : Nat → Int32} {nx cn : Int32} {rli rsct rpct : Nat → Int32} {rstk rsle rye rre rptk rple rco : Nat → Nat → Int32} {post : Int32 → Int32 → (Nat → Int32) → Int32 → (Nat → Int32) → (Nat → Int32) → (Nat → Int32) → (Nat → Int32) → Int32 → Int32 → (Nat → Int32) → (Nat → Int32) → (Nat → Nat → Int32) → (Nat → Nat → Int32) → (Nat → Nat → Int32) → (Nat → Nat → Int32) → (Nat → Int32) → (Nat → Nat → Int32) → (Nat → Nat → Int32) → (Nat → Nat → Int32) → Prop} (hV : VA A) (hR : RC A li sct stk sle ye re pct ptk ple co) (hx : ¬ x1 < 0) (hn : A.nS < 12) (hB0 : RQ B0 bln btk) (b08 : B0.1 ≤ 8) (hX : HX nx cn rli rsct rstk rsle rye rre rpct rptk rple rco) (hp : ∀ (B : Sy) (y : Int32) (g : Nat) (bln' : Int32) (btk' : Nat → Int32) sct' stk' sle' ye' re' nx' cn' rli' rsct' rstk' rsle' rye' rre' rpct' rptk' rple' rco', okB B → B.1 ≤ 8 → g ≤ 9 → RQ (0, fun _ => 0) bln' btk' → RC (addS A B y g) li sct' stk' sle' ye' re' pct ptk ple co → HX nx' cn' rli' rsct' rstk' rsle' rye' rre' rpct' rptk' rple' rco' → post (1 : Int32) bln' btk' sct' stk' sle' ye' re' nx' cn' rli' rsct' rstk' rsle' rye' rre' rpct' rptk' rple' rco') : P_L_adds x1 (8 : Int32) bln btk li sct stk sle ye re pct ptk ple co nx cn rli rsct rstk rsle rye rre rpct rptk rple rco post := by
  obtain ⟨k, x, h, hv, hH⟩ := hX
  have h12 := hV.1
  have es : sct = nI A.nS := hR.1.1
  subst es
  obtain ⟨r0, hr0, e0⟩ := rem_row x1 8 hx (by omega) (by omega)
  obtain ⟨y0, hy0, ey⟩ := rem_row (x1 >>> ((5 : Int32) &&& 31)) 40 (shr_nn _ _ hx) (by omega) (by omega)
  obtain ⟨g0, hg0, eg⟩ := rem_row (x1 >>> ((9 : Int32) &&& 31)) 10 (shr_nn _ _ hx) (by omega) (by omega)
  have hyr : isYr (nI y0) := by
    unfold isYr
    have a1 : (-3000 : Int32).toInt = -3000 := rfl
    have a2 : (2100 : Int32).toInt = 2100 := rfl
    rw [Int32.lt_iff_toInt_lt, Int32.lt_iff_toInt_lt, nI_toInt (by omega), a1, a2]
    omega
  unfold P_L_adds P_X8_sayingCount P_X8_clear
  rw [show x1 - x1 / (8 : Int32) * (8 : Int32) = nI r0 from e0, show (x1 >>> ((5 : Int32) &&& 31)) - (x1 >>> ((5 : Int32) &&& 31)) / (40 : Int32) * (40 : Int32) = nI y0 from ey, show (x1 >>> ((9 : Int32) &&& 31)) - (x1 >>> ((9 : Int32) &&& 31)) / (10 : Int32) * (10 : Int32) = nI g0 from eg, show (1 : Int32) + nI r0 = nI (1 + r0) from nI_add 1 r0]
  refine ⟨by decide, fun r b => r = (1 : Int32) ∧ b = (0 : Int32), fun r b hr => ?_, ?_⟩
  · obtain ⟨rfl, rfl⟩ := hr
    refine ⟨1 + r0 + 1, s_ad23 hx (by omega) (fun B ln f hB hl hw => ⟨fun z => absurd z (by decide), fun _ => ?_⟩) (1 + r0) 0 (0, fun _ => 0) 0 btk (by omega) (RQ_nil _) rfl (fun j hj => absurd hj (Nat.not_lt_zero j))⟩
    have hok : okB B := ⟨by omega, hw⟩
    have e0 : eAdd A B (nI y0) (nI g0) = 0 := by
      unfold eAdd
      rw [if_pos ⟨hyr, ⟨g0, hg0, rfl⟩⟩, if_pos hok, if_neg (by omega)]
    refine s_addSaying hV hR hH hB (by omega) (fun j hj => by have := hw j hj; omega) (fun z => absurd e0 z) (fun _ sct' stk' sle' ye' re' nx' cn' rli' rsct' rstk' rsle' rye' rre' rpct' rptk' rple' rco' hR' hH' => ⟨fun z => absurd rfl z, fun _ => ?_⟩)
    rw [nI_clamp (by omega)] at hR'
    have hV' := VA_addS (y := nI y0) hV hn hok (show B.1 ≤ 8 by omega) (show g0 ≤ 9 by omega)
    have el : ((addS A B (nI y0) g0).sy A.nS).1 = B.1 := by
      show (if A.nS = A.nS then B else A.sy A.nS).1 = B.1
      rw [if_pos rfl]
    refine s_wlen hV' hR' (s := A.nS) (Nat.lt_succ_self _) ?_
    rw [el, hl]
    exact ⟨fun z => absurd rfl z, fun _ => hp B (nI y0) g0 0 f _ _ _ _ _ _ _ _ _ _ _ _ _ _ _ _ _ hok (by omega) (by omega) (RQ_nil _) hR' ⟨_, _, _, VA_push hV hv, hH'⟩⟩
  · rw [hB0.1]
    exact ⟨fun z => absurd z (nI_pos (by omega)), fun _ => ⟨rfl, rfl⟩⟩
/-! ===== the law: its loop ===== -/
def LX (A : AS) (B : Sy) (fa : Nat → Int32) (bln : Int32) (btk : Nat → Int32) (li sct : Int32) (stk sle ye re : Nat → Int32) (pct : Int32) (ptk ple co : Nat → Int32) (nx cn : Int32) (rli rsct : Nat → Int32) (rstk rsle rye rre : Nat → Nat → Int32) (rpct : Nat → Int32) (rptk rple rco : Nat → Nat → Int32) : Prop := VA A ∧ A.nS ≤ 6 ∧ RC A li sct stk sle ye re pct ptk ple co ∧ RQ B bln btk ∧ B.1 ≤ 8 ∧ (∀ i, i < 4 → fa i = nI (A.co i)) ∧ HX nx cn rli rsct rstk rsle rye rre rpct rptk rple rco
theorem s_l70 {K : Int32 → Int32 → (Nat → Int32) → Int32 → (Nat → Int32) → Int32 → Int32 → (Nat → Int32) → (Nat → Int32) → (Nat → Int32) → (Nat → Int32) → Int32 → (Nat → Int32) → (Nat → Int32) → (Nat → Int32) → Int32 → Int32 → (Nat → Int32) → (Nat → Int32) → (Nat → Nat → Int32) → (Nat → Nat → Int32) → (Nat → Nat → Int32) → (Nat → Nat → Int32) → (Nat → Int32) → (Nat → Nat → Int32) → (Nat → Nat → Int32) → (Nat → Nat → Int32) → Int32 → Int32 → (Nat → Int32) → Int32 → (Nat → Int32) → (Nat → Nat → Int32) → (Nat → Int32) → Int32 → (Nat → Int32) → (Nat → Int32) → (Nat → Int32) → (Nat → Int32) → Prop} (hK : ∀ A B v4 fa bln btk li sct stk sle ye re pct ptk ple co nx cn rli rsct rstk rsle rye rre rpct rptk rple rco eld efln eftk egln egtk etb els gc gor gme gce ao, LX A B fa bln btk li sct stk sle ye re pct ptk ple co nx cn rli rsct rstk rsle rye rre rpct rptk rple rco → 1 ≤ A.nS → K v4 (1 : Int32) fa bln btk li sct stk sle ye re pct ptk ple co nx cn rli rsct rstk rsle rye rre rpct rptk rple rco eld efln eftk egln egtk etb els gc gor gme gce ao) : ∀ (d i : Nat), i + d = 14 → ∀ A B fa bln btk li sct stk sle ye re pct ptk ple co nx cn rli rsct rstk rsle rye rre rpct rptk rple rco eld efln eftk egln egtk etb els gc gor gme gce ao, LX A B fa bln btk li sct stk sle ye re pct ptk ple co nx cn rli rsct rstk rsle rye rre rpct rptk rple rco → (i = 0 ∨ 1 ≤ A.nS) → P_L_law_70 K (d + 1) (nI i) (1 : Int32) fa bln btk li sct stk sle ye re pct ptk ple co nx cn rli rsct rstk rsle rye rre rpct rptk rple rco eld efln eftk egln egtk etb els gc gor gme gce ao := by
  intro d
  induction d with
  | zero =>
    intro i hi A B fa bln btk li sct stk sle ye re pct ptk ple co nx cn rli rsct rstk rsle rye rre rpct rptk rple rco eld efln eftk egln egtk etb els gc gor gme gce ao hL h1
    show B_L_law_70 K _ (nI i) (1 : Int32) fa bln btk li sct stk sle ye re pct ptk ple co nx cn rli rsct rstk rsle rye rre rpct rptk rple rco eld efln eftk egln egtk etb els gc gor gme gce ao
    unfold B_L_law_70
    have e : i = 14 := by omega
    subst e
    exact ⟨fun _ => hK A B _ _ _ _ _ _ _ _ _ _ _ _ _ _ _ _ _ _ _ _ _ _ _ _ _ _ _ _ _ _ _ _ _ _ _ _ _ _ hL (by omega), fun z => absurd (Int32.le_refl _) z⟩
  | succ d ih =>
    intro i hi A B fa bln btk li sct stk sle ye re pct ptk ple co nx cn rli rsct rstk rsle rye rre rpct rptk rple rco eld efln eftk egln egtk etb els gc gor gme gce ao hL h1
    show B_L_law_70 K (P_L_law_70 K (d + 1)) (nI i) (1 : Int32) fa bln btk li sct stk sle ye re pct ptk ple co nx cn rli rsct rstk rsle rye rre rpct rptk rple rco eld efln eftk egln egtk etb els gc gor gme gce ao
    obtain ⟨hV, h6, hR, hB, b8, hf, k, x, h, hv, hH⟩ := hL
    have h12 := hV.1
    have es : sct = nI A.nS := hR.1.1
    subst es
    unfold B_L_law_70
    refine ⟨fun z => ?_, fun _ => ⟨fun z => absurd z (by decide), fun _ => ⟨nI_pos (by omega), fun c hc => ?_⟩⟩⟩
    · rw [iL14, nI_leI (by omega) (by omega)] at z
      omega
    unfold P_X8_sayingCount
    obtain ⟨ci, hci, e1⟩ := rem_row (c >>> ((3 : Int32) &&& 31)) 4 (shr_nn _ _ hc) (by omega) (by omega)
    obtain ⟨cv, hcv, e2⟩ := rem_row (c >>> ((5 : Int32) &&& 31)) 9 (shr_nn _ _ hc) (by omega) (by omega)
    obtain ⟨lv, hlv, e3⟩ := rem_row (c >>> ((4 : Int32) &&& 31)) 21 (shr_nn _ _ hc) (by omega) (by omega)
    have efc : fa ci = nI (A.co ci) := hf ci (by omega)
    have hcv2 : isCv (nI (1 + cv)) := by
      refine ⟨fun z => ?_, ?_⟩
      · rw [iL1, nI_ltI (by omega) (by omega)] at z
        omega
      · rw [iL9, nI_leI (by omega) (by omega)]
        omega
    rw [show (c >>> ((3 : Int32) &&& 31)) - (c >>> ((3 : Int32) &&& 31)) / (4 : Int32) * (4 : Int32) = nI ci from e1, show (c >>> ((5 : Int32) &&& 31)) - (c >>> ((5 : Int32) &&& 31)) / (9 : Int32) * (9 : Int32) = nI cv from e2, show (c >>> ((4 : Int32) &&& 31)) - (c >>> ((4 : Int32) &&& 31)) / (21 : Int32) * (21 : Int32) = nI lv from e3, show (1 : Int32) + nI cv = nI (1 + cv) from nI_add 1 cv, nI_clamp (n := ci) (by omega), pk_us]
    refine ⟨fun v3 fa' bln' btk' li' sct' stk' sle' ye' re' co' nx' cn' rli' rsct' rstk' rsle' rye' rre' rpct' rptk' rple' rco' => v3 = (1 : Int32) ∧ ∃ A' B', LX A' B' fa' bln' btk' li' sct' stk' sle' ye' re' pct ptk ple co' nx' cn' rli' rsct' rstk' rsle' rye' rre' rpct' rptk' rple' rco' ∧ 1 ≤ A'.nS, fun v3 fa' bln' btk' li' sct' stk' sle' ye' re' co' nx' cn' rli' rsct' rstk' rsle' rye' rre' rpct' rptk' rple' rco' hJ => ?_, ?_⟩
    · obtain ⟨rfl, A', B', ⟨hV', h6', hR', hB', b8', hf', hX'⟩, n1⟩ := hJ
      refine ⟨fun r li2 sct2 stk2 sle2 ye2 re2 pct2 ptk2 ple2 co2 nx2 cn2 rli2 rsct2 rstk2 rsle2 rye2 rre2 rpct2 rptk2 rple2 rco2 _ _ _ _ _ _ _ _ _ _ _ _ => r = (1 : Int32) ∧ RC A' li2 sct2 stk2 sle2 ye2 re2 pct2 ptk2 ple2 co2 ∧ HX nx2 cn2 rli2 rsct2 rstk2 rsle2 rye2 rre2 rpct2 rptk2 rple2 rco2, fun r li2 sct2 stk2 sle2 ye2 re2 pct2 ptk2 ple2 co2 nx2 cn2 rli2 rsct2 rstk2 rsle2 rye2 rre2 rpct2 rptk2 rple2 rco2 q1 q2 q3 q4 q5 q6 q7 q8 q9 q10 q11 q12 hJ => ?_, fun z => absurd z (by decide), fun _ => s_isWhole hV' hR' h6' hf' (Nat.le_refl _) hX' (fun li2 sct2 stk2 sle2 ye2 re2 pct2 ptk2 ple2 co2 nx2 cn2 rli2 rsct2 rstk2 rsle2 rye2 rre2 rpct2 rptk2 rple2 rco2 q1 q2 q3 q4 q5 q6 q7 q8 q9 q10 q11 q12 hR2 hX2 => ⟨fun z => absurd z (by decide), fun _ => ⟨rfl, hR2, hX2⟩⟩)⟩
      obtain ⟨rfl, hR2, hX2⟩ := hJ
      rw [nI_1]
      exact ih (i + 1) (by omega) A' B' _ _ _ _ _ _ _ _ _ _ _ _ _ _ _ _ _ _ _ _ _ _ _ _ _ _ _ _ _ _ _ _ _ _ _ _ _ ⟨hV', h6', hR2, hB', b8', hf', hX2⟩ (Or.inr n1)
    · have adds := fun (hn : A.nS < 6) => s_adds (post := fun v3 bln' btk' sct' stk' sle' ye' re' nx' cn' rli' rsct' rstk' rsle' rye' rre' rpct' rptk' rple' rco' => v3 = (1 : Int32) ∧ ∃ A' B', LX A' B' fa bln' btk' li sct' stk' sle' ye' re' pct ptk ple co nx' cn' rli' rsct' rstk' rsle' rye' rre' rpct' rptk' rple' rco' ∧ 1 ≤ A'.nS) hV hR (shr_nn c ((2 : Int32) &&& 31) hc) (by omega) hB b8 ⟨k, x, h, hv, hH⟩ (fun B' y g bln' btk' sct' stk' sle' ye' re' nx' cn' rli' rsct' rstk' rsle' rye' rre' rpct' rptk' rple' rco' hok b8' g9 hq hR' hX' => ⟨rfl, addS A B' y g, (0, fun _ => 0), ⟨VA_addS hV (by omega) hok b8' g9, show A.nS + 1 ≤ 6 by omega, hR', hq, Nat.zero_le _, hf, hX'⟩, show 1 ≤ A.nS + 1 by omega⟩)
      refine ⟨fun z => adds ?_, fun z => ⟨fun _ => ⟨fun _ => ⟨fun _ => ⟨?_, ?_⟩, fun _ => ?_⟩, fun _ => ⟨(vpi (by omega)).mpr hci, (vpi (by omega)).mpr hci, (vpi (by omega)).mpr hci, ?_⟩⟩, fun _ => ⟨fun _ => ⟨fun _ => ⟨fun _ => ⟨?_, ?_⟩, fun _ => ?_⟩, fun _ => ⟨(vpi (by omega)).mpr hci, (vpi (by omega)).mpr hci, (vpi (by omega)).mpr hci, ?_⟩⟩, fun z6 => adds ?_⟩⟩⟩
      · rw [iL2, nI_ltI (by omega) (by omega)] at z
        omega
      · have n2 : 2 ≤ A.nS := by
          rw [iL2, nI_ltI (by omega) (by omega)] at z
          omega
        intro y
        rw [iL0, nI_eq (by omega) (by omega)] at y
        omega
      · have n2 : 2 ≤ A.nS := by
          rw [iL2, nI_ltI (by omega) (by omega)] at z
          omega
        obtain ⟨s, hs, e4⟩ := rem_row (c >>> ((4 : Int32) &&& 31)) A.nS (shr_nn _ _ hc) (by omega) (by omega)
        rw [e4]
        refine s_removeSaying hV hR hH (fun y => (y ⟨s, hs, rfl⟩).elim) (fun _ sct' stk' sle' ye' re' nx' cn' rli' rsct' rstk' rsle' rye' rre' rpct' rptk' rple' rco' hR' hH' => ⟨fun y => absurd (by rw [iL1, pk_sub (by omega)]) y, fun _ => ⟨rfl, delS A s, B, ⟨VA_delS hV hs, show A.nS - 1 ≤ 6 by omega, ?_, hB, b8, hf, ⟨_, _, _, VA_push hV hv, hH'⟩⟩, show 1 ≤ A.nS - 1 by omega⟩⟩)
        rw [nI_clamp (by omega)] at hR'
        exact hR'
      · have n2 : 2 ≤ A.nS := by
          rw [iL2, nI_ltI (by omega) (by omega)] at z
          omega
        refine s_setLimit hV hR hH (fun y => (y ⟨lv, hlv, rfl⟩).elim) (fun _ li' nx' cn' rli' rsct' rstk' rsle' rye' rre' rpct' rptk' rple' rco' hR' hH' => ⟨fun y => absurd y (nI_pos (by have := hV.2.2.2.2.2; omega)), fun _ => ⟨rfl, stL A lv, B, ⟨VA_stL hV (by omega), h6, ?_, hB, b8, hf, ⟨_, _, _, VA_push hV hv, hH'⟩⟩, ?_⟩⟩)
        · rw [nI_clamp (by omega)] at hR'
          exact hR'
        · show 1 ≤ A.nS
          omega
      · have n2 : 2 ≤ A.nS := by
          rw [iL2, nI_ltI (by omega) (by omega)] at z
          omega
        refine s_setCost hV hR hH (fun y => (y ⟨⟨ci, hci, rfl⟩, hcv2⟩).elim) (fun _ co' nx' cn' rli' rsct' rstk' rsle' rye' rre' rpct' rptk' rple' rco' hR' hH' => ?_)
        rw [nI_clamp (n := ci) (by omega), nI_clamp (n := 1 + cv) (by omega)] at hR'
        rw [nI_clamp (n := ci) (by omega)]
        refine ⟨fun y => absurd efc.symm y, fun _ => ⟨rfl, stC A ci (1 + cv), B, ⟨VA_stC hV (by omega) (by omega), h6, hR', hB, b8, fun j hj => ?_, ⟨_, _, _, VA_push hV hv, hH'⟩⟩, ?_⟩⟩
        · show upd fa ci (nI (1 + cv)) j = nI (if j = ci then 1 + cv else A.co j)
          by_cases e : j = ci
          · rw [if_pos e, e, pk_us]
          · rw [if_neg e, pk_un e]
            exact hf j hj
        · show 1 ≤ A.nS
          omega
      · have n2 : 2 ≤ A.nS := by
          rw [iL2, nI_ltI (by omega) (by omega)] at z
          omega
        intro y
        rw [iL0, nI_eq (by omega) (by omega)] at y
        omega
      · have n2 : 2 ≤ A.nS := by
          rw [iL2, nI_ltI (by omega) (by omega)] at z
          omega
        obtain ⟨s, hs, e4⟩ := rem_row (c >>> ((4 : Int32) &&& 31)) A.nS (shr_nn _ _ hc) (by omega) (by omega)
        rw [e4]
        refine s_removeSaying hV hR hH (fun y => (y ⟨s, hs, rfl⟩).elim) (fun _ sct' stk' sle' ye' re' nx' cn' rli' rsct' rstk' rsle' rye' rre' rpct' rptk' rple' rco' hR' hH' => ⟨fun y => absurd (by rw [iL1, pk_sub (by omega)]) y, fun _ => ⟨rfl, delS A s, B, ⟨VA_delS hV hs, show A.nS - 1 ≤ 6 by omega, ?_, hB, b8, hf, ⟨_, _, _, VA_push hV hv, hH'⟩⟩, show 1 ≤ A.nS - 1 by omega⟩⟩)
        rw [nI_clamp (by omega)] at hR'
        exact hR'
      · have n2 : 2 ≤ A.nS := by
          rw [iL2, nI_ltI (by omega) (by omega)] at z
          omega
        refine s_setLimit hV hR hH (fun y => (y ⟨lv, hlv, rfl⟩).elim) (fun _ li' nx' cn' rli' rsct' rstk' rsle' rye' rre' rpct' rptk' rple' rco' hR' hH' => ⟨fun y => absurd y (nI_pos (by have := hV.2.2.2.2.2; omega)), fun _ => ⟨rfl, stL A lv, B, ⟨VA_stL hV (by omega), h6, ?_, hB, b8, hf, ⟨_, _, _, VA_push hV hv, hH'⟩⟩, ?_⟩⟩)
        · rw [nI_clamp (by omega)] at hR'
          exact hR'
        · show 1 ≤ A.nS
          omega
      · have n2 : 2 ≤ A.nS := by
          rw [iL2, nI_ltI (by omega) (by omega)] at z
          omega
        refine s_setCost hV hR hH (fun y => (y ⟨⟨ci, hci, rfl⟩, hcv2⟩).elim) (fun _ co' nx' cn' rli' rsct' rstk' rsle' rye' rre' rpct' rptk' rple' rco' hR' hH' => ?_)
        rw [nI_clamp (n := ci) (by omega), nI_clamp (n := 1 + cv) (by omega)] at hR'
        rw [nI_clamp (n := ci) (by omega)]
        refine ⟨fun y => absurd efc.symm y, fun _ => ⟨rfl, stC A ci (1 + cv), B, ⟨VA_stC hV (by omega) (by omega), h6, hR', hB, b8, fun j hj => ?_, ⟨_, _, _, VA_push hV hv, hH'⟩⟩, ?_⟩⟩
        · show upd fa ci (nI (1 + cv)) j = nI (if j = ci then 1 + cv else A.co j)
          by_cases e : j = ci
          · rw [if_pos e, e, pk_us]
          · rw [if_neg e, pk_un e]
            exact hf j hj
        · show 1 ≤ A.nS
          omega
      · rw [iL6, nI_leI (by omega) (by omega)] at z6
        omega
/-! ===== the start, and the law ===== -/
def A0 : AS := ((0, (fun _ => (0, fun _ => 0)), (fun _ => 0), (fun _ => 0)), (0, fun _ => (0, fun _ => 0)), (fun i => if i = 0 then 2 else if i = 1 then 3 else if i = 2 then 1 else 2), 3)
theorem A0_ok : VA A0 := by
  refine ⟨Nat.zero_le _, fun s hs => absurd hs (Nat.not_lt_zero s), Nat.zero_le _, fun p hp => absurd hp (Nat.not_lt_zero p), fun i hi => ?_, ?_⟩
  · rcases (show i = 0 ∨ i = 1 ∨ i = 2 ∨ i = 3 by omega) with rfl | rfl | rfl | rfl <;> exact ⟨by decide, by decide⟩
  · show 3 ≤ 20
    omega
theorem A0_RC : RC A0 (3 : Int32) 0 (fun _ => 0) (fun _ => 0) (fun _ => 0) (fun _ => 0) 0 (fun _ => 0) (fun _ => 0) iCo := by
  refine ⟨⟨rfl, fun s hs => absurd hs (Nat.not_lt_zero s)⟩, fun s hs => absurd hs (Nat.not_lt_zero s), ⟨rfl, fun s hs => absurd hs (Nat.not_lt_zero s)⟩, fun i hi => ?_, rfl⟩
  rcases (show i = 0 ∨ i = 1 ∨ i = 2 ∨ i = 3 by omega) with rfl | rfl | rfl | rfl <;> decide +kernel
theorem fin_ok {A : AS} {B : Sy} {fa : Nat → Int32} {bln : Int32} {btk : Nat → Int32} {li sct pct : Int32} {stk sle ye re ptk ple co : Nat → Int32} {nx cn : Int32} {rli rsct rpct : Nat → Int32} {rstk rsle rye rre rptk rple rco : Nat → Nat → Int32} {eld efln egln : Int32} {eftk egtk : Nat → Int32} {etb : Nat → Nat → Int32} (hL : LX A B fa bln btk li sct stk sle ye re pct ptk ple co nx cn rli rsct rstk rsle rye rre rpct rptk rple rco) (h1 : 1 ≤ A.nS) : P_X8_wordAt (0 : Int32) (8 : Int32) li sct stk sle (fun r367 => (¬ r367 = (-4 : Int32) → False) ∧ (r367 = (-4 : Int32) → (P_X8_distance (0 : Int32) (12 : Int32) li sct stk sle co eld efln eftk egln egtk etb (fun r373 u368 u369 u370 u371 u372 => (¬ r373 = (-1 : Int32) → False) ∧ (r373 = (-1 : Int32) → (P_X8_append (65 : Int32) bln btk (fun r376 u374 u375 => (¬ r376 = (-1 : Int32) → False) ∧ (r376 = (-1 : Int32) → True)))))))) := by
  obtain ⟨hV, h6, hR, hB, b8, hf, hX⟩ := hL
  have hl := (hV.2.1 0 (by omega)).2.1
  have e8 : nI (A.sy (Int32.toNatClampNeg (0 : Int32))).1 ≤ (8 : Int32) := by
    show nI (A.sy 0).1 ≤ nI 8
    rw [nI_leI (by omega) (by omega)]
    exact hl
  have ew : vWord A (0 : Int32) (8 : Int32) = (-4 : Int32) := by
    unfold vWord
    rw [if_pos ⟨0, by omega, rfl⟩, if_pos (by decide), if_pos e8]
  have ed : vDist A (0 : Int32) (12 : Int32) = (-1 : Int32) := by
    unfold vDist
    rw [if_neg (fun z => not_row (n := A.nS) (by omega) (Or.inr ?_) z.2)]
    show nI A.nS ≤ nI 12
    rw [nI_leI (by omega) (by omega)]
    omega
  have ea : (vApp B (65 : Int32)).1 = (-1 : Int32) := by
    unfold vApp
    have nr : ¬ isRow 65 (65 : Int32) := not_row (n := 65) (x := (65 : Int32)) (by omega) (Or.inr (show nI 65 ≤ (65 : Int32) from Int32.le_refl _))
    rw [if_neg nr]
  refine s_wordAt hV hR ?_
  rw [ew]
  refine ⟨fun z => absurd rfl z, fun _ => s_distance hV hR ?_⟩
  rw [ed]
  intro f1 f2 g1 g2 tb
  refine ⟨fun z => absurd rfl z, fun _ => s_append hB b8 (fun ln' f' hq => ?_)⟩
  rw [ea]
  exact ⟨fun z => absurd rfl z, fun _ => trivial⟩
theorem law_start : P_L_law (upd (upd (upd (upd (fun _ => 0) (Int32.toNatClampNeg (0 : Int32)) (2 : Int32)) (Int32.toNatClampNeg (1 : Int32)) (3 : Int32)) (Int32.toNatClampNeg (2 : Int32)) (1 : Int32)) (Int32.toNatClampNeg (3 : Int32)) (2 : Int32)) 0 (fun _ => 0) (3 : Int32) 0 (fun _ => 0) (fun _ => 0) (fun _ => 0) (fun _ => 0) 0 (fun _ => 0) (fun _ => 0) iCo 0 0 (fun _ => (3 : Int32)) (fun _ => 0) (fun _ _ => 0) (fun _ _ => 0) (fun _ _ => 0) (fun _ _ => 0) (fun _ => 0) (fun _ _ => 0) (fun _ _ => 0) (fun _ => iCo) 0 0 (fun _ => 0) 0 (fun _ => 0) (fun _ _ => 0) (fun _ => 0) 0 0 (fun _ => 0) 0 (fun _ => 0) (fun _ => 0) (fun _ => 0) 0 (fun _ => 0) (fun _ => 0) (fun _ => 0) 0 (fun _ => 0) 0 (fun _ => 0) (fun _ => 0) (fun _ => 0) (fun _ => 0) := by
  have hH0 : HC 0 0 (fun _ => A0) 0 0 (fun _ => (3 : Int32)) (fun _ => 0) (fun _ _ => 0) (fun _ _ => 0) (fun _ _ => 0) (fun _ _ => 0) (fun _ => 0) (fun _ _ => 0) (fun _ _ => 0) (fun _ => iCo) := ⟨Or.inl rfl, rfl, by omega, by omega, fun j hj => absurd hj (Nat.not_lt_zero j)⟩
  have eg : (grs A0).1 = 0 := by
    have t := (grs_inv A0).1
    have e : A0.nS = 0 := rfl
    omega
  unfold P_L_law
  refine ⟨fun r li sct stk sle ye re pct ptk ple co nx cn _ _ _ _ _ _ _ _ _ _ => r = (1 : Int32) ∧ RC A0 li sct stk sle ye re pct ptk ple co ∧ HC 0 0 (fun _ => A0) nx cn (fun _ => (3 : Int32)) (fun _ => 0) (fun _ _ => 0) (fun _ _ => 0) (fun _ _ => 0) (fun _ _ => 0) (fun _ => 0) (fun _ _ => 0) (fun _ _ => 0) (fun _ => iCo), fun r li sct stk sle ye re pct ptk ple co nx cn q1 q2 q3 q4 q5 q6 q7 q8 q9 q10 hJ => ?_, ?_⟩
  · obtain ⟨rfl, hR, hH⟩ := hJ
    refine ⟨15, s_l70 (fun A B v4 fa bln btk li sct stk sle ye re pct ptk ple co nx cn rli rsct rstk rsle rye rre rpct rptk rple rco eld efln eftk egln egtk etb els gc gor gme gce ao hL n1 => ⟨fun z => absurd z (by decide), fun _ => fin_ok hL n1⟩) 14 0 rfl A0 (0, fun _ => 0) _ _ _ _ _ _ _ _ _ _ _ _ _ _ _ _ _ _ _ _ _ _ _ _ _ _ _ _ _ _ _ _ _ _ _ _ _ ⟨A0_ok, Nat.zero_le _, hR, RQ_nil _, Nat.zero_le _, fun i hi => ?_, ⟨0, 0, _, fun j hj => absurd hj (Nat.not_lt_zero j), hH⟩⟩ (Or.inl rfl)⟩
    rcases (show i = 0 ∨ i = 1 ∨ i = 2 ∨ i = 3 by omega) with rfl | rfl | rfl | rfl <;> decide +kernel
  · refine s_undo (fun j hj => absurd hj (Nat.not_lt_zero j)) hH0 (fun z => absurd z (Nat.lt_irrefl 0)) (fun _ => ⟨fun z => absurd rfl z, fun _ => ?_⟩)
    unfold P_X8_sayingCount
    refine ⟨fun z => absurd rfl z, fun _ => s_gcount A0_ok A0_RC (fun f1 f2 g1 g2 tb k' fo' me' ce' => ?_)⟩
    rw [eg]
    exact ⟨fun z => absurd rfl z, fun _ => s_ageEnd A0_ok A0_RC (fun ao' => ⟨fun z => absurd rfl z, fun _ => ⟨rfl, A0_RC, hH0⟩⟩)⟩
theorem whole_start {p : Program} {e : Env} {s : State} {m : MethodId} {below : List Frame} {meth : Method} {c : Code} (l : Launch) (hflags : l.flags = flags0) {b L : Nat} {xs : Nat → Int32} (hL : L ≤ 260) (C0 : lw_At p s m meth c b L xs) : W p l e room_1 s m #[Value.ref b] below meth c s.heap [] 0 0 (lw_Z below #[Value.ref b] s) (entryFrame m ([Value.ref b] : List Value).toArray 9) := whole_of law_start l hL C0
