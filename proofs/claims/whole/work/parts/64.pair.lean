/-! ===== crossing: the best pair of older sayings ===== -/
theorem old_iff {ye : Nat → Int32} {n a b : Nat} (ha : a < n) (hb : b < n) : old ye a b ↔ rank ye n a < rank ye n b := by
  refine ⟨fun h => rank_old ha h, fun h => ?_⟩
  by_cases e : a = b
  · subst e
    omega
  · rcases old_total (ye := ye) e with q | q
    · exact q
    · have := rank_old (n := n) hb q
      omega
theorem c4_s (x : Nat) : c4 (x + 1) = nI x := by
  unfold c4
  rw [if_neg (Nat.succ_ne_zero x), Nat.add_sub_cancel]
/-- the place-th oldest -/
noncomputable def oa (A : AS) (p : Nat) : Nat := atRank A.yr A.nS p
noncomputable def stq (A : AS) (s R p q : Nat) (S : Nat × Nat) : Nat × Nat :=
  if p ≠ q ∧ p < R ∧ q < R ∧ crn A s (oa A p) (oa A q) < S.1 ∧ crn A s (oa A p) (oa A q) < dd A s (oa A p) ∧ crn A s (oa A p) (oa A q) < dd A s (oa A q) then (crn A s (oa A p) (oa A q), 100 * oa A p + oa A q + 1) else S
noncomputable def bq (A : AS) (s R p : Nat) (S : Nat × Nat) : Nat → Nat × Nat
  | 0 => S
  | q + 1 => stq A s R p q (bq A s R p S q)
noncomputable def bo (A : AS) (s R : Nat) (S : Nat × Nat) : Nat → Nat × Nat
  | 0 => S
  | p + 1 => bq A s R p (bo A s R S p) R
theorem bq_s (A : AS) (s R p : Nat) (S : Nat × Nat) (q : Nat) : bq A s R p S (q + 1) = stq A s R p q (bq A s R p S q) := by rw [bq]
theorem bo_s (A : AS) (s R : Nat) (S : Nat × Nat) (p : Nat) : bo A s R S (p + 1) = bq A s R p (bo A s R S p) R := by rw [bo]
theorem bq_more (A : AS) (s R p : Nat) (S : Nat × Nat) : ∀ t, bq A s R p S (R + t) = bq A s R p S R := by
  intro t
  induction t with
  | zero => rfl
  | succ t ih =>
    rw [← Nat.add_assoc, bq_s, ih]
    unfold stq
    rw [if_neg (by omega)]
theorem bq_none (A : AS) (s R p : Nat) (S : Nat × Nat) (hp : R ≤ p) : ∀ q, bq A s R p S q = S := by
  intro q
  induction q with
  | zero => rfl
  | succ q ih =>
    rw [bq_s, ih]
    unfold stq
    rw [if_neg (by omega)]
theorem bo_more (A : AS) (s R : Nat) (S : Nat × Nat) : ∀ t, bo A s R S (R + t) = bo A s R S R := by
  intro t
  induction t with
  | zero => rfl
  | succ t ih => rw [← Nat.add_assoc, bo_s, ih, bq_none _ _ _ _ _ (by omega)]
/-- what holds of the bound and the pair at each time -/
def Iv (L : Nat) (S : Nat × Nat) : Prop := S.1 ≤ L + 1 ∧ (S.2 = 0 → S.1 = L + 1) ∧ (S.2 ≠ 0 → S.1 ≤ L) ∧ S.2 ≤ 2000
theorem Iv_stq {A : AS} {s R p q L : Nat} {S : Nat × Nat} (hV : VA A) (hR : R ≤ A.nS) (h : Iv L S) : Iv L (stq A s R p q S) := by
  have h12 := hV.1
  unfold stq
  by_cases c : p ≠ q ∧ p < R ∧ q < R ∧ crn A s (oa A p) (oa A q) < S.1 ∧ crn A s (oa A p) (oa A q) < dd A s (oa A p) ∧ crn A s (oa A p) (oa A q) < dd A s (oa A q)
  · rw [if_pos c]
    have hp := rank_at (yr := A.yr) (show p < A.nS by omega)
    have hq := rank_at (yr := A.yr) (show q < A.nS by omega)
    obtain ⟨h1, h2, h3, h4⟩ := h
    have hp1 : oa A p < 12 := Nat.lt_of_lt_of_le hp.1 h12
    have hq1 : oa A q < 12 := Nat.lt_of_lt_of_le hq.1 h12
    refine ⟨?_, fun z => absurd z (Nat.succ_ne_zero _), fun _ => ?_, ?_⟩
    · show crn A s (oa A p) (oa A q) ≤ L + 1
      omega
    · show crn A s (oa A p) (oa A q) ≤ L
      omega
    · show 100 * oa A p + oa A q + 1 ≤ 2000
      omega
  · rw [if_neg c]
    exact h
theorem Iv_bq {A : AS} {s R p L : Nat} {S : Nat × Nat} (hV : VA A) (hR : R ≤ A.nS) (h : Iv L S) : ∀ q, Iv L (bq A s R p S q) := by
  intro q
  induction q with
  | zero => exact h
  | succ q ih =>
    rw [bq_s]
    exact Iv_stq hV hR ih
theorem Iv_bo {A : AS} {s R L : Nat} {S : Nat × Nat} (hV : VA A) (hR : R ≤ A.nS) (h : Iv L S) : ∀ p, Iv L (bo A s R S p) := by
  intro p
  induction p with
  | zero => exact h
  | succ p ih =>
    rw [bo_s]
    exact Iv_bq hV hR ih R
noncomputable def vCr (A : AS) (x z : Int32) : Int32 := by
  classical exact if isRow A.nS x ∧ isRow 21 z then c4 (bo A x.toNatClampNeg (rank A.yr A.nS x.toNatClampNeg) (z.toNatClampNeg + 1, 0) (rank A.yr A.nS x.toNatClampNeg)).2 else -1
/-! ===== the class: bestPair ===== -/
/-- the distances from the older ones -/
def IsAp (A : AS) (s k : Nat) (ap : Nat → Int32) : Prop := ∀ p, p < k → ap p = nI (dd A s (oa A p))
theorem s_pair_18 {A : AS} {s R : Nat} {ld li sct pct : Int32} {stk sle ye re ptk ple co fo : Nat → Int32} {K : Int32 → (Nat → Int32) → Int32 → (Nat → Int32) → Int32 → (Nat → Int32) → (Nat → Nat → Int32) → Prop} (hV : VA A) (hC : RC A li sct stk sle ye re pct ptk ple co) (hs : s < A.nS) (hR : R ≤ A.nS) (hO : IsO A.yr A.nS fo) (hK : ∀ v ap f1 f2 g1 g2 tb, IsAp A s R ap → K v ap f1 f2 g1 g2 tb) : ∀ (d p : Nat) (ap : Nat → Int32) (f1 : Int32) (f2 : Nat → Int32) (g1 : Int32) (g2 : Nat → Int32) (tb : Nat → Nat → Int32), p + d = R → IsAp A s p ap → P_X0_bestPair_18 (nI R) (nI s) fo li sct stk sle co ld K (d + 1) (nI p) ap f1 f2 g1 g2 tb := by
  have h12 := hV.1
  intro d
  induction d with
  | zero =>
    intro p ap f1 f2 g1 g2 tb hp hap
    show B_X0_bestPair_18 (nI R) (nI s) fo li sct stk sle co ld K _ (nI p) ap f1 f2 g1 g2 tb
    unfold B_X0_bestPair_18
    have e : p = R := by omega
    subst e
    exact ⟨fun _ => hK _ _ _ _ _ _ _ hap, fun z => absurd (Int32.le_refl _) z⟩
  | succ d ih =>
    intro p ap f1 f2 g1 g2 tb hp hap
    have hp' : p < A.nS := by omega
    have ha := IsO_at hO hp'
    have hr := rank_at (yr := A.yr) hp'
    show B_X0_bestPair_18 (nI R) (nI s) fo li sct stk sle co ld K (P_X0_bestPair_18 (nI R) (nI s) fo li sct stk sle co ld K (d + 1)) (nI p) ap f1 f2 g1 g2 tb
    unfold B_X0_bestPair_18
    rw [nI_clamp (n := p) (by omega), ha, nI_1]
    refine ⟨fun z => ?_, fun _ => ⟨(vpi (by omega)).mpr (by omega), s_between hV hC hs hr.1 (fun f1 f2 g1 g2 tb' _ _ => ⟨(vpi (by omega)).mpr (by omega), ih (p + 1) _ f1 f2 g1 g2 tb' (by omega) (fun j hj => ?_)⟩)⟩⟩
    · rw [nI_leI (by omega) (by omega)] at z
      omega
    · by_cases e : j = p
      · rw [e, pk_us]
        rfl
      · rw [pk_un e]
        exact hap j (by omega)
theorem s_pair_74 {A : AS} {s R p L : Nat} {ld li sct pct : Int32} {stk sle ye re ptk ple co fo ap : Nat → Int32} {K : Int32 → Int32 → Int32 → Int32 → (Nat → Int32) → Int32 → (Nat → Int32) → Int32 → (Nat → Int32) → Int32 → (Nat → Int32) → (Nat → Nat → Int32) → Prop} (hV : VA A) (hC : RC A li sct stk sle ye re pct ptk ple co) (hs : s < A.nS) (hR : R ≤ A.nS) (hp : p < R) (hL : L ≤ 20) (hO : IsO A.yr A.nS fo) (hap : IsAp A s R ap) (S0 : Nat × Nat) (hI : Iv L S0) (hK : ∀ v a1 a2 b1 b2 f1 f2 g1 g2 tb, K v (nI (bq A s R p S0 R).1) (c4 (bq A s R p S0 R).2) a1 a2 b1 b2 f1 f2 g1 g2 tb) : ∀ (d q : Nat) (a1 : Int32) (a2 : Nat → Int32) (b1 : Int32) (b2 : Nat → Int32) (f1 : Int32) (f2 : Nat → Int32) (g1 : Int32) (g2 : Nat → Int32) (tb : Nat → Nat → Int32), q + d = R → P_X0_bestPair_74 (nI p) (nI R) (nI s) fo ap li sct stk sle co ld K (d + 1) (nI q) (nI (bq A s R p S0 q).1) (c4 (bq A s R p S0 q).2) a1 a2 b1 b2 f1 f2 g1 g2 tb := by
  have h12 := hV.1
  intro d
  induction d with
  | zero =>
    intro q a1 a2 b1 b2 f1 f2 g1 g2 tb hq
    show B_X0_bestPair_74 (nI p) (nI R) (nI s) fo ap li sct stk sle co ld K _ (nI q) (nI (bq A s R p S0 q).1) (c4 (bq A s R p S0 q).2) a1 a2 b1 b2 f1 f2 g1 g2 tb
    unfold B_X0_bestPair_74
    have e : q = R := by omega
    subst e
    exact ⟨fun _ => hK _ _ _ _ _ _ _ _ _ _, fun z => absurd (Int32.le_refl _) z⟩
  | succ d ih =>
    intro q a1 a2 b1 b2 f1 f2 g1 g2 tb hq
    have hp' : p < A.nS := by omega
    have hq' : q < A.nS := by omega
    have fp := IsO_at hO hp'
    have fq := IsO_at hO hq'
    have rp' := rank_at (yr := A.yr) hp'
    have rq' := rank_at (yr := A.yr) hq'
    have ep := hap p hp
    have eq := hap q (by omega)
    have dp := dd_bd hV hs (show oa A p < A.nS from rp'.1)
    have dq := dd_bd hV hs (show oa A q < A.nS from rq'.1)
    have iv := Iv_bq (s := s) (p := p) hV hR hI q
    have ok := crn_ok (s := s) (a := oa A p) (b := oa A q) hV hs
    have i := fun a1 a2 b1 b2 f1 f2 g1 g2 tb => ih (q + 1) a1 a2 b1 b2 f1 f2 g1 g2 tb (by omega)
    simp only [bq_s] at i
    unfold okc at ok
    show B_X0_bestPair_74 (nI p) (nI R) (nI s) fo ap li sct stk sle co ld K (P_X0_bestPair_74 (nI p) (nI R) (nI s) fo ap li sct stk sle co ld K (d + 1)) (nI q) (nI (bq A s R p S0 q).1) (c4 (bq A s R p S0 q).2) a1 a2 b1 b2 f1 f2 g1 g2 tb
    unfold B_X0_bestPair_74
    generalize bq A s R p S0 q = S at iv i ⊢
    obtain ⟨v1, v2, v3, v4⟩ := iv
    rw [nI_clamp (n := p) (by omega), nI_clamp (n := q) (by omega), ep, eq, fp, fq, nI_1, min_if _ _ (by omega) (by omega), min_if _ _ (by omega) (by omega), nI_eq (a := p) (by omega) (by omega), iL0, iL1000000, nI_leI (a := min S.1 (min (dd A s (oa A p)) (dd A s (oa A q)))) (b := 1000000) (by omega) (by omega), nI_leI (a := min S.1 (min (dd A s (oa A p)) (dd A s (oa A q)))) (b := 0) (by omega) (by omega)]
    refine ⟨fun z => ?_, fun _ => ⟨(vpi (by omega)).mpr (by omega), (vpi (by omega)).mpr (by omega), fun z => ⟨fun _ => ?_, fun y => by omega⟩, fun z => ⟨fun y => ⟨fun _ => ?_, fun y => by omega⟩, fun y => ⟨(vpi (by omega)).mpr (by omega), (vpi (by omega)).mpr (by omega), s_cost hV hC hs rp'.1 rq'.1 (fun a1 a2 b1 b2 f1 f2 g1 g2 tb' => ⟨fun y => ?_, fun y => ⟨(vpi (by omega)).mpr (by omega), (vpi (by omega)).mpr (by omega), ?_⟩⟩)⟩⟩⟩⟩
    · rw [nI_leI (by omega) (by omega)] at z
      omega
    · have i2 := i a1 a2 b1 b2 f1 f2 g1 g2 tb
      unfold stq at i2
      rw [if_neg (fun x => x.1 z)] at i2
      exact i2
    · have i2 := i a1 a2 b1 b2 f1 f2 g1 g2 tb
      unfold stq at i2
      rw [if_neg (by omega)] at i2
      exact i2
    · change nI (min S.1 (min (dd A s (oa A p)) (dd A s (oa A q)))) ≤ nI (crn A s (oa A p) (oa A q)) at y
      rw [nI_leI (by omega) (by omega)] at y
      have i2 := i a1 a2 b1 b2 f1 f2 g1 g2 tb'
      unfold stq at i2
      rw [if_neg (by omega)] at i2
      exact i2
    · change ¬ nI (min S.1 (min (dd A s (oa A p)) (dd A s (oa A q)))) ≤ nI (crn A s (oa A p) (oa A q)) at y
      rw [nI_leI (by omega) (by omega)] at y
      have i2 := i a1 a2 b1 b2 f1 f2 g1 g2 tb'
      unfold stq at i2
      rw [if_pos (by omega)] at i2
      rw [iL100, pk_mul, nI_add]
      rw [show ((crn A s (oa A p) (oa A q), 100 * oa A p + oa A q + 1) : Nat × Nat).2 = 100 * oa A p + oa A q + 1 from rfl, c4_s] at i2
      exact i2
theorem s_pair_64 {A : AS} {s R L : Nat} {ld li sct pct : Int32} {stk sle ye re ptk ple co fo ap : Nat → Int32} {K : Int32 → Int32 → Int32 → Int32 → (Nat → Int32) → Int32 → (Nat → Int32) → Int32 → (Nat → Int32) → Int32 → (Nat → Int32) → (Nat → Nat → Int32) → Prop} (hV : VA A) (hC : RC A li sct stk sle ye re pct ptk ple co) (hs : s < A.nS) (hR : R ≤ A.nS) (hL : L ≤ 20) (hO : IsO A.yr A.nS fo) (hap : IsAp A s R ap) (S0 : Nat × Nat) (hI : Iv L S0) (hK : ∀ v v7 a1 a2 b1 b2 f1 f2 g1 g2 tb, K v v7 (c4 (bo A s R S0 R).2) a1 a2 b1 b2 f1 f2 g1 g2 tb) : ∀ (d p : Nat) (a1 : Int32) (a2 : Nat → Int32) (b1 : Int32) (b2 : Nat → Int32) (f1 : Int32) (f2 : Nat → Int32) (g1 : Int32) (g2 : Nat → Int32) (tb : Nat → Nat → Int32), p + d = R → P_X0_bestPair_64 (nI R) (nI s) fo ap li sct stk sle co ld K (d + 1) (nI p) (nI (bo A s R S0 p).1) (c4 (bo A s R S0 p).2) a1 a2 b1 b2 f1 f2 g1 g2 tb := by
  have h12 := hV.1
  intro d
  induction d with
  | zero =>
    intro p a1 a2 b1 b2 f1 f2 g1 g2 tb hp
    show B_X0_bestPair_64 (nI R) (nI s) fo ap li sct stk sle co ld K _ (nI p) (nI (bo A s R S0 p).1) (c4 (bo A s R S0 p).2) a1 a2 b1 b2 f1 f2 g1 g2 tb
    unfold B_X0_bestPair_64
    have e : p = R := by omega
    subst e
    exact ⟨fun _ => hK _ _ _ _ _ _ _ _ _ _ _, fun z => absurd (Int32.le_refl _) z⟩
  | succ d ih =>
    intro p a1 a2 b1 b2 f1 f2 g1 g2 tb hp
    have i := fun a1 a2 b1 b2 f1 f2 g1 g2 tb => ih (p + 1) a1 a2 b1 b2 f1 f2 g1 g2 tb (by omega)
    simp only [bo_s] at i
    show B_X0_bestPair_64 (nI R) (nI s) fo ap li sct stk sle co ld K (P_X0_bestPair_64 (nI R) (nI s) fo ap li sct stk sle co ld K (d + 1)) (nI p) (nI (bo A s R S0 p).1) (c4 (bo A s R S0 p).2) a1 a2 b1 b2 f1 f2 g1 g2 tb
    unfold B_X0_bestPair_64
    rw [nI_1]
    refine ⟨fun z => ?_, fun _ => ⟨R + 1, s_pair_74 hV hC hs hR (by omega) hL hO hap (bo A s R S0 p) (Iv_bo hV hR hI p) (fun _ a1 a2 b1 b2 f1 f2 g1 g2 tb => i a1 a2 b1 b2 f1 f2 g1 g2 tb) R 0 a1 a2 b1 b2 f1 f2 g1 g2 tb (by omega)⟩⟩
    rw [nI_leI (by omega) (by omega)] at z
    omega
theorem s_bestPair {A : AS} {s L : Nat} {ld fln bln eln gln li sct pct : Int32} {ftk btk etk gtk stk sle ye re ptk ple co fo ap : Nat → Int32} {tb : Nat → Nat → Int32} {post : Int32 → Int32 → (Nat → Int32) → Int32 → (Nat → Int32) → (Nat → Int32) → (Nat → Int32) → Int32 → (Nat → Int32) → Int32 → (Nat → Int32) → (Nat → Nat → Int32) → Prop} (hV : VA A) (hC : RC A li sct stk sle ye re pct ptk ple co) (hs : s < A.nS) (hL : L ≤ 20) (h : ∀ a1 a2 b1 b2 fo' ap' f1 f2 g1 g2 tb', post (c4 (bo A s (rank A.yr A.nS s) (L + 1, 0) (rank A.yr A.nS s)).2) a1 a2 b1 b2 fo' ap' f1 f2 g1 g2 tb') : P_X0_bestPair (nI s) (nI L) fln ftk bln btk fo ap li sct stk sle ye co ld eln etk gln gtk tb post := by
  have h12 := hV.1
  have e := hC.1.1
  have hr := rank_lt (ye := A.yr) hs
  unfold P_X0_bestPair
  rw [e, nI_1]
  refine s_sortByAge h12 (by omega) (by omega) (fun t ht => (hC.2.1 t ht).1) (fun fa hO => s_place h12 hs (fun t ht => (hC.2.1 t ht).1) ?_)
  rw [← e]
  exact ⟨rank A.yr A.nS s + 1, s_pair_18 hV hC hs (Nat.le_of_lt hr) hO (fun v ap' f1 f2 g1 g2 tb hap => ⟨rank A.yr A.nS s + 1, s_pair_64 (K := fun w8_22 w7_22 w6_22 fln_22 ftk_22 bln_22 btk_22 efln_22 eftk_22 egln_22 egtk_22 etb_22 => post w6_22 fln_22 ftk_22 bln_22 btk_22 fa ap' efln_22 eftk_22 egln_22 egtk_22 etb_22) hV hC hs (Nat.le_of_lt hr) hL hO hap (L + 1, 0) ⟨Nat.le_refl _, fun _ => rfl, fun z => absurd rfl z, Nat.zero_le _⟩ (fun _ _ a1 a2 b1 b2 f1 f2 g1 g2 tb => h a1 a2 b1 b2 fa ap' f1 f2 g1 g2 tb) (rank A.yr A.nS s) 0 fln ftk bln btk f1 f2 g1 g2 tb (by omega)⟩) (rank A.yr A.nS s) 0 ap eln etk gln gtk tb (by omega) (fun j hj => absurd hj (Nat.not_lt_zero j))⟩
theorem s_crossing {A : AS} {x z : Int32} {ld fln bln eln gln li sct pct : Int32} {ftk btk etk gtk stk sle ye re ptk ple co fo ap : Nat → Int32} {tb : Nat → Nat → Int32} {post : Int32 → Int32 → (Nat → Int32) → Int32 → (Nat → Int32) → (Nat → Nat → Int32) → Int32 → (Nat → Int32) → Int32 → (Nat → Int32) → (Nat → Int32) → (Nat → Int32) → Prop} (hV : VA A) (hC : RC A li sct stk sle ye re pct ptk ple co) (h : ∀ f1 f2 g1 g2 tb' a1 a2 b1 b2 fo' ap', post (vCr A x z) f1 f2 g1 g2 tb' a1 a2 b1 b2 fo' ap') : P_X8_crossing x z li sct stk sle ye co ld eln etk gln gtk tb fln ftk bln btk fo ap post := by
  have h12 := hV.1
  have e := hC.1.1
  have e21 : ∀ {y : Int32}, y ≤ (20 : Int32) ↔ ¬ nI 21 ≤ y := by
    intro y
    have e1 : (20 : Int32).toInt = 20 := rfl
    have e2 : (nI 21).toInt = 21 := rfl
    rw [Int32.le_iff_toInt_le, Int32.le_iff_toInt_le, e1, e2]
    omega
  unfold P_X8_crossing
  unfold vCr at h
  rw [e]
  rcases row_or x (n := A.nS) (by omega) with c | ⟨s, hs, rfl⟩
  · rw [if_neg (fun z => not_row (by omega) c z.1)] at h
    exact s_has_no c ⟨fun _ => h _ _ _ _ _ _ _ _ _ _ _, fun w => absurd rfl w⟩
  refine s_has_yes hs (by omega) ⟨fun w => absurd w (by decide), fun _ => ⟨fun c => ?_, fun c => ⟨fun c2 => ?_, fun c2 => ?_⟩⟩⟩
  · rw [if_neg (fun w => not_row (by omega) (Or.inl c) w.2)] at h
    exact h _ _ _ _ _ _ _ _ _ _ _
  · obtain ⟨L, hL, rfl⟩ := nI_below (m := 21) (by omega) c (e21.mp c2)
    rw [if_pos ⟨⟨s, hs, rfl⟩, ⟨L, hL, rfl⟩⟩, nI_clamp (by omega), nI_clamp (by omega)] at h
    rw [← e]
    exact s_bestPair hV hC hs (by omega) (fun a1 a2 b1 b2 fo' ap' f1 f2 g1 g2 tb' => h f1 f2 g1 g2 tb' a1 a2 b1 b2 fo' ap')
  · rw [if_neg (fun w => not_row (by omega) (Or.inr (Classical.byContradiction (fun y => c2 (e21.mpr y)))) w.2)] at h
    exact h _ _ _ _ _ _ _ _ _ _ _
/-! ===== the reference: crossing ===== -/
theorem m_inl {x L : Nat} {post : Int32 → Prop} (hx : okc x) (hL : L ≤ 20) (h1 : x ≤ L → post 1) (h0 : ¬ x ≤ L → post 0) : P_X9_in (Int32.toInt64 (ccd x)) (0 : Int64) (Int32.toInt64 (nI L)) post := by
  unfold okc at hx
  unfold ccd
  by_cases e : x = 1000000
  · rw [if_pos e]
    unfold P_X9_in
    refine ⟨fun _ => h0 (by omega), fun z => absurd (by decide) z⟩
  · rw [if_neg e]
    have t := m_inr (t := x) (lo := 0) (hi := L) (post := post) (by omega) (by omega) (by omega) (fun c => h1 c.2) (fun c => h0 (by omega))
    exact t
theorem m_crg_45 {A : AS} {s p L : Nat} {now : Nat → Int32} {um mt me mg : Int32} {K : Int32 → Int32 → Int32 → (Nat → Int32) → (Nat → Int32) → Int32 → Int32 → (Nat → Int32) → Prop} (hV : VA A) (hM : RM A 0 now) (hs : s < A.nS) (hp : p < A.nS) (hL : L ≤ 20) (S0 : Nat × Nat) (hI : Iv L S0) (hK : ∀ v v4 f1 f2 g1 g2 far, ((bq A s (rank A.yr A.nS s) p S0 A.nS).2 ≠ 0 → v4 = nI (bq A s (rank A.yr A.nS s) p S0 A.nS).1) → K v v4 (c4 (bq A s (rank A.yr A.nS s) p S0 A.nS).2) f1 f2 g1 g2 far) : ∀ (d q : Nat) (v4 : Int32) (f1 f2 : Nat → Int32) (g1 g2 : Int32) (far : Nat → Int32), q + d = A.nS → ((bq A s (rank A.yr A.nS s) p S0 q).2 ≠ 0 → v4 = nI (bq A s (rank A.yr A.nS s) p S0 q).1) → P_X9_crossing_45 (nI p) (nI s) (nI L) now um mt me mg K (d + 1) (nI q) v4 (c4 (bq A s (rank A.yr A.nS s) p S0 q).2) f1 f2 g1 g2 far := by
  have h12 := hV.1
  have h0' : now (Int32.toNatClampNeg (0 : Int32)) = nI A.nS := hM.1.1
  have hrs := rank_lt (ye := A.yr) hs
  have hyr : ∀ t, t < A.nS → now (109 + t) = A.yr t := by
    intro t ht
    have q := (hM.2.1 t ht).1
    dsimp only at q
    rw [Nat.zero_add] at q
    exact q
  intro d
  induction d with
  | zero =>
    intro q v4 f1 f2 g1 g2 far hq hv
    show B_X9_crossing_45 (nI p) (nI s) (nI L) now um mt me mg K _ (nI q) v4 (c4 (bq A s (rank A.yr A.nS s) p S0 q).2) f1 f2 g1 g2 far
    unfold B_X9_crossing_45
    have e : q = A.nS := by omega
    subst e
    rw [h0']
    exact ⟨fun _ => hK _ _ _ _ _ _ _ hv, fun z => absurd (Int32.le_refl _) z⟩
  | succ d ih =>
    intro q v4 f1 f2 g1 g2 far hq hv
    have hq' : q < A.nS := by omega
    have rp' : oa A p < A.nS ∧ rank A.yr A.nS (oa A p) = p := rank_at (yr := A.yr) hp
    have rq' : oa A q < A.nS ∧ rank A.yr A.nS (oa A q) = q := rank_at (yr := A.yr) hq'
    have dp := dd_bd hV hs (show oa A p < A.nS from rp'.1)
    have dq := dd_bd hV hs (show oa A q < A.nS from rq'.1)
    have iv := Iv_bq (s := s) (p := p) hV (Nat.le_of_lt hrs) hI q
    have ok := crn_ok (s := s) (a := oa A p) (b := oa A q) hV hs
    have ok0 := ok
    unfold okc at ok0
    have i := fun v4 f1 f2 g1 g2 far => ih (q + 1) v4 f1 f2 g1 g2 far (by omega)
    simp only [bq_s] at i
    have op : old A.yr (oa A p) s ↔ p < rank A.yr A.nS s := by
      rw [old_iff rp'.1 hs, rp'.2]
    have oq : old A.yr (oa A q) s ↔ q < rank A.yr A.nS s := by
      rw [old_iff rq'.1 hs, rq'.2]
    show B_X9_crossing_45 (nI p) (nI s) (nI L) now um mt me mg K (P_X9_crossing_45 (nI p) (nI s) (nI L) now um mt me mg K (d + 1)) (nI q) v4 (c4 (bq A s (rank A.yr A.nS s) p S0 q).2) f1 f2 g1 g2 far
    unfold B_X9_crossing_45
    generalize bq A s (rank A.yr A.nS s) p S0 q = S at iv i hv ⊢
    obtain ⟨v1, v2, v3, v40⟩ := iv
    have same : ¬ (p ≠ q ∧ p < rank A.yr A.nS s ∧ q < rank A.yr A.nS s ∧ crn A s (oa A p) (oa A q) < S.1 ∧ crn A s (oa A p) (oa A q) < dd A s (oa A p) ∧ crn A s (oa A p) (oa A q) < dd A s (oa A q)) → ∀ f1 f2 g1 g2 far, P_X9_crossing_45 (nI p) (nI s) (nI L) now um mt me mg K (d + 1) (nI (q + 1)) v4 (c4 S.2) f1 f2 g1 g2 far := by
      intro hn f1 f2 g1 g2 far
      have i2 := i v4 f1 f2 g1 g2 far
      unfold stq at i2
      rw [if_neg hn] at i2
      exact i2 hv
    have other : (p ≠ q ∧ p < rank A.yr A.nS s ∧ q < rank A.yr A.nS s ∧ crn A s (oa A p) (oa A q) < S.1 ∧ crn A s (oa A p) (oa A q) < dd A s (oa A p) ∧ crn A s (oa A p) (oa A q) < dd A s (oa A q)) → ∀ f1 f2 g1 g2 far, P_X9_crossing_45 (nI p) (nI s) (nI L) now um mt me mg K (d + 1) (nI (q + 1)) (ccd (crn A s (oa A p) (oa A q))) (((100 : Int32) * nI (oa A p)) + nI (oa A q)) f1 f2 g1 g2 far := by
      intro hy f1 f2 g1 g2 far
      have e1 : ccd (crn A s (oa A p) (oa A q)) = nI (crn A s (oa A p) (oa A q)) := if_neg (by omega)
      have i2 := i (nI (crn A s (oa A p) (oa A q))) f1 f2 g1 g2 far
      unfold stq at i2
      rw [if_pos hy] at i2
      have i3 := i2 (fun _ => rfl)
      rw [show ((crn A s (oa A p) (oa A q), 100 * oa A p + oa A q + 1) : Nat × Nat).2 = 100 * oa A p + oa A q + 1 from rfl, c4_s] at i3
      rw [e1, iL100, pk_mul, nI_add]
      exact i3
    rw [h0', nI_1]
    refine ⟨fun z => ?_, fun _ => m_atAge hV hM (nI_pos' (by omega)) ?_⟩
    · rw [nI_leI (by omega) (by omega)] at z
      omega
    rw [vByAge_at hV hp]
    refine m_atAge hV hM (nI_pos' (by omega)) ?_
    rw [vByAge_at hV hq']
    change (nI (oa A p) = nI (oa A q) → _) ∧ (¬ nI (oa A p) = nI (oa A q) → _)
    have epq : nI (oa A p) = nI (oa A q) ↔ p = q := by
      rw [nI_eq (Nat.lt_of_lt_of_le rp'.1 (by omega)) (Nat.lt_of_lt_of_le rq'.1 (by omega))]
      refine ⟨fun z => ?_, fun z => by rw [z]⟩
      rw [← rp'.2, z, rq'.2]
    rw [epq]
    refine ⟨fun c => same (fun y => y.1 c) _ _ _ _ _, fun c => ?_⟩
    have hop : oa A p < 12 := Nat.lt_of_lt_of_le rp'.1 h12
    have hoq : oa A q < 12 := Nat.lt_of_lt_of_le rq'.1 h12
    refine m_isOlder (a := oa A p) (b := s) (yr := A.yr) hop (by omega) (hyr _ rp'.1) (hyr s hs) (fun o1 => ⟨fun w => absurd w (by decide), fun _ => ?_⟩) (fun o1 => ⟨fun _ => same (fun y => o1 (op.mpr y.2.1)) _ _ _ _ _, fun w => absurd rfl w⟩)
    refine m_isOlder (a := oa A q) (b := s) (yr := A.yr) hoq (by omega) (hyr _ rq'.1) (hyr s hs) (fun o2 => ⟨fun w => absurd w (by decide), fun _ => ?_⟩) (fun o2 => ⟨fun _ => same (fun y => o2 (oq.mpr y.2.2.1)) _ _ _ _ _, fun w => absurd rfl w⟩)
    refine m_crossed (a := oa A p) (b := oa A q) hV hM hs rp'.1 rq'.1 (fun f1 f2 g1 g2 far' => m_inl ok hL (fun l1 => ⟨fun w => absurd w (by decide), fun _ => ?_⟩) (fun l1 => ⟨fun _ => same (fun y => ?_) _ _ _ _ _, fun w => absurd rfl w⟩))
    · have e1 : ccd (crn A s (oa A p) (oa A q)) = nI (crn A s (oa A p) (oa A q)) := if_neg (by omega)
      refine m_distanceOf (b := oa A p) hV hM hs rp'.1 (fun f1 f2 g1 g2 far' _ _ => ⟨fun w => same (fun y => ?_) _ _ _ _ _, fun w => m_distanceOf (b := oa A q) hV hM hs rq'.1 (fun f1 f2 g1 g2 far' _ _ => ⟨fun w2 => same (fun y => ?_) _ _ _ _ _, fun w2 => ⟨fun w3 => other ⟨c, op.mp o1, oq.mp o2, ?_⟩ _ _ _ _ _, fun w3 => ⟨fun w4 => same (fun y => ?_) _ _ _ _ _, fun w4 => other ⟨c, op.mp o1, oq.mp o2, ?_⟩ _ _ _ _ _⟩⟩⟩)⟩)
      · change nI (dd A s (oa A p)) ≤ ccd (crn A s (oa A p) (oa A q)) at w
        rw [e1, nI_leI (by omega) (by omega)] at w
        omega
      · change nI (dd A s (oa A q)) ≤ ccd (crn A s (oa A p) (oa A q)) at w2
        rw [e1, nI_leI (by omega) (by omega)] at w2
        omega
      · change ¬ nI (dd A s (oa A p)) ≤ ccd (crn A s (oa A p) (oa A q)) at w
        change ¬ nI (dd A s (oa A q)) ≤ ccd (crn A s (oa A p) (oa A q)) at w2
        rw [e1, nI_leI (by omega) (by omega)] at w w2
        rw [c4_neg (by omega)] at w3
        have := v2 w3
        omega
      · rw [c4_neg (by omega)] at w3
        rw [hv w3, e1, nI_leI (by omega) (by omega)] at w4
        omega
      · change ¬ nI (dd A s (oa A p)) ≤ ccd (crn A s (oa A p) (oa A q)) at w
        change ¬ nI (dd A s (oa A q)) ≤ ccd (crn A s (oa A p) (oa A q)) at w2
        rw [e1, nI_leI (by omega) (by omega)] at w w2
        rw [c4_neg (by omega)] at w3
        rw [hv w3, e1, nI_leI (by omega) (by omega)] at w4
        omega
    · omega
theorem m_crg_31 {A : AS} {s L : Nat} {now : Nat → Int32} {um mt me mg : Int32} {K : Int32 → Int32 → Int32 → (Nat → Int32) → (Nat → Int32) → Int32 → Int32 → (Nat → Int32) → Prop} (hV : VA A) (hM : RM A 0 now) (hs : s < A.nS) (hL : L ≤ 20) (hK : ∀ v v4 f1 f2 g1 g2 far, K v v4 (c4 (bo A s (rank A.yr A.nS s) (L + 1, 0) (rank A.yr A.nS s)).2) f1 f2 g1 g2 far) : ∀ (d p : Nat) (v4 : Int32) (f1 f2 : Nat → Int32) (g1 g2 : Int32) (far : Nat → Int32), p + d = A.nS → ((bo A s (rank A.yr A.nS s) (L + 1, 0) p).2 ≠ 0 → v4 = nI (bo A s (rank A.yr A.nS s) (L + 1, 0) p).1) → P_X9_crossing_31 (nI s) (nI L) now um mt me mg K (d + 1) (nI p) v4 (c4 (bo A s (rank A.yr A.nS s) (L + 1, 0) p).2) f1 f2 g1 g2 far := by
  have h12 := hV.1
  have h0' : now (Int32.toNatClampNeg (0 : Int32)) = nI A.nS := hM.1.1
  have hrs := rank_lt (ye := A.yr) hs
  have hI : Iv L (L + 1, 0) := ⟨Nat.le_refl _, fun _ => rfl, fun z => absurd rfl z, Nat.zero_le _⟩
  intro d
  induction d with
  | zero =>
    intro p v4 f1 f2 g1 g2 far hp hv
    show B_X9_crossing_31 (nI s) (nI L) now um mt me mg K _ (nI p) v4 (c4 (bo A s (rank A.yr A.nS s) (L + 1, 0) p).2) f1 f2 g1 g2 far
    unfold B_X9_crossing_31
    have e : p = rank A.yr A.nS s + (A.nS - rank A.yr A.nS s) := by omega
    rw [h0', e, bo_more]
    refine ⟨fun _ => hK _ _ _ _ _ _ _, fun z => ?_⟩
    rw [nI_leI (by omega) (by omega)] at z
    omega
  | succ d ih =>
    intro p v4 f1 f2 g1 g2 far hp hv
    have i := fun v4 f1 f2 g1 g2 far => ih (p + 1) v4 f1 f2 g1 g2 far (by omega)
    have en := bq_more A s (rank A.yr A.nS s) p (bo A s (rank A.yr A.nS s) (L + 1, 0) p) (A.nS - rank A.yr A.nS s)
    rw [show rank A.yr A.nS s + (A.nS - rank A.yr A.nS s) = A.nS by omega] at en
    simp only [bo_s] at i
    rw [← en] at i
    show B_X9_crossing_31 (nI s) (nI L) now um mt me mg K (P_X9_crossing_31 (nI s) (nI L) now um mt me mg K (d + 1)) (nI p) v4 (c4 (bo A s (rank A.yr A.nS s) (L + 1, 0) p).2) f1 f2 g1 g2 far
    unfold B_X9_crossing_31
    rw [h0', nI_1]
    refine ⟨fun z => ?_, fun _ => ⟨A.nS + 1, m_crg_45 hV hM hs (by omega) hL (bo A s (rank A.yr A.nS s) (L + 1, 0) p) (Iv_bo hV (Nat.le_of_lt hrs) hI p) (fun _ v4 f1 f2 g1 g2 far hv' => i v4 f1 f2 g1 g2 far hv') A.nS 0 v4 f1 f2 g1 g2 far (by omega) hv⟩⟩
    rw [nI_leI (by omega) (by omega)] at z
    omega
theorem m_in20 {x : Int32} {post : Int32 → Prop} (h1 : ∀ s, s < 21 → x = nI s → post 1) (h0 : x < 0 ∨ nI 21 ≤ x → post 0) : P_X9_in (Int32.toInt64 x) (0 : Int64) (20 : Int64) post := m_in (n := 21) (by omega) h1 h0
theorem m_crossing {A : AS} {x z : Int32} {now one other far : Nat → Int32} {n1 n2 um mt me mg : Int32} {post : Int32 → (Nat → Int32) → (Nat → Int32) → Int32 → Int32 → (Nat → Int32) → Prop} (hV : VA A) (hM : RM A 0 now) (h : ∀ f1 f2 g1 g2 far', post (vCr A x z) f1 f2 g1 g2 far') : P_X9_crossing x z now um mt one other n1 n2 far me mg post := by
  have h12 := hV.1
  unfold P_X9_crossing
  unfold vCr at h
  refine m_isSaying hV hM (fun s hs hx => ⟨fun w => absurd w (by decide), fun _ => m_in20 (fun L hL hz => ⟨fun _ => ?_, fun w => absurd w (by decide)⟩) (fun c => ⟨fun w => absurd rfl w, fun _ => ?_⟩)⟩) (fun c => ⟨fun _ => ?_, fun w => absurd rfl w⟩)
  · subst hx
    subst hz
    rw [if_pos ⟨⟨s, hs, rfl⟩, ⟨L, hL, rfl⟩⟩, nI_clamp (by omega), nI_clamp (by omega)] at h
    exact ⟨A.nS + 1, m_crg_31 (K := fun w5_27 w4_27 w3_27 mone_27 mother_27 moneLong_27 motherLong_27 mfar_27 => post w3_27 mone_27 mother_27 moneLong_27 motherLong_27 mfar_27) hV hM hs (by omega) (fun _ _ f1 f2 g1 g2 far => h f1 f2 g1 g2 far) A.nS 0 _ one other n1 n2 far (by omega) (fun z => absurd rfl z)⟩
  · rw [if_neg (fun w => not_row (by omega) c w.2)] at h
    exact h _ _ _ _ _
  · rw [if_neg (fun w => not_row (by omega) c w.1)] at h
    exact h _ _ _ _ _
