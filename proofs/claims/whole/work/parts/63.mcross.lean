/-! ===== the reference: crossed ===== -/
def ccd (x : Nat) : Int32 := if x = 1000000 then -4 else nI x
theorem m_crs_63 {q : Sy} {a k : Nat} {now : Nat → Int32} {K : Int32 → (Nat → Int32) → Prop} (ha : a < 12) (hk : k ≤ 8) (hkq : k ≤ q.1) (hw : ∀ j, j < q.1 → now (13 + (8 * a + j)) = nI (q.2 j)) (hK : ∀ v f, (∀ j, j < k → f j = nI (q.2 j)) → K v f) : ∀ (d j : Nat) (f : Nat → Int32), j + d = k → (∀ i, i < j → f i = nI (q.2 i)) → P_X9_crossed_63 (nI k) (nI a) now K (d + 1) (nI j) f := by
  intro d
  induction d with
  | zero =>
    intro j f hj hf
    show B_X9_crossed_63 (nI k) (nI a) now K _ (nI j) f
    unfold B_X9_crossed_63
    have e : j = k := by omega
    subst e
    exact ⟨fun _ => hK _ f hf, fun z => absurd (Int32.le_refl _) z⟩
  | succ d ih =>
    intro j f hj hf
    have eB : ((13 : Int32) + ((8 : Int32) * nI a)) + nI j = nI (13 + (8 * a + j)) := by rw [iL13, iL8, pk_mul, nI_add, nI_add, Nat.add_assoc]
    show B_X9_crossed_63 (nI k) (nI a) now K (P_X9_crossed_63 (nI k) (nI a) now K (d + 1)) (nI j) f
    unfold B_X9_crossed_63
    rw [eB, nI_clamp (n := 13 + (8 * a + j)) (by omega), nI_clamp (n := j) (by omega), nI_1, hw j (by omega)]
    refine ⟨fun z => ?_, fun _ => ⟨(vpi (by omega)).mpr (by omega), (vpi (by omega)).mpr (by omega), ih (j + 1) _ (by omega) (fun i hi => ?_)⟩⟩
    · rw [nI_leI (by omega) (by omega)] at z
      omega
    · by_cases e : i = j
      · rw [e, pk_us]
      · rw [pk_un e]
        exact hf i (by omega)
theorem m_crs_101 {q r : Sy} {b k n : Nat} {now : Nat → Int32} {K : Int32 → (Nat → Int32) → Prop} (hb : b < 12) (r8 : r.1 ≤ 8) (hkn : k + n ≤ 8) (hn : n ≤ r.1) (h1 : now (1 + b) = nI r.1) (hw : ∀ j, j < r.1 → now (13 + (8 * b + j)) = nI (r.2 j)) (hK : ∀ v f, (∀ j, j < k + n → f j = nI ((bld q r k n).2 j)) → K v f) : ∀ (d j : Nat) (f : Nat → Int32), j + d = n → (∀ i, i < k + j → f i = nI ((bld q r k n).2 i)) → P_X9_crossed_101 (nI n) (nI k) (nI b) now K (d + 1) (nI j) f := by
  have eS : (1 : Int32) + nI b = nI (1 + b) := by rw [iL1, nI_add]
  intro d
  induction d with
  | zero =>
    intro j f hj hf
    show B_X9_crossed_101 (nI n) (nI k) (nI b) now K _ (nI j) f
    unfold B_X9_crossed_101
    have e : j = n := by omega
    subst e
    exact ⟨fun _ => hK _ f hf, fun z => absurd (Int32.le_refl _) z⟩
  | succ d ih =>
    intro j f hj hf
    have eB : ((((13 : Int32) + ((8 : Int32) * nI b)) + nI r.1) - nI n) + nI j = nI (13 + (8 * b + (r.1 - n + j))) := by
      rw [iL13, iL8, pk_mul, nI_add, nI_add, pk_sub (by omega), nI_add, show 13 + 8 * b + r.1 - n + j = 13 + (8 * b + (r.1 - n + j)) by omega]
    show B_X9_crossed_101 (nI n) (nI k) (nI b) now K (P_X9_crossed_101 (nI n) (nI k) (nI b) now K (d + 1)) (nI j) f
    unfold B_X9_crossed_101
    rw [eS, nI_clamp (n := 1 + b) (by omega), h1, eB, nI_clamp (n := 13 + (8 * b + (r.1 - n + j))) (by omega), hw (r.1 - n + j) (by omega), nI_add k j, nI_clamp (n := k + j) (by omega), nI_1]
    refine ⟨fun z => ?_, fun _ => ⟨(vpi (by omega)).mpr (by omega), (vpi (by omega)).mpr (by omega), (vpi (by omega)).mpr (by omega), ih (j + 1) _ (by omega) (fun i hi => ?_)⟩⟩
    · rw [nI_leI (by omega) (by omega)] at z
      omega
    · by_cases e : i = k + j
      · rw [e, pk_us]
        show _ = nI (if k + j < k then q.2 (k + j) else r.2 (r.1 - n + (k + j - k)))
        rw [if_neg (by omega), show k + j - k = j by omega]
      · rw [pk_un e]
        exact hf i (by omega)
theorem m_crs_28 {A : AS} {s a b k : Nat} {now one : Nat → Int32} {n1 um mt me mg : Int32} {K : Int32 → Int32 → (Nat → Int32) → Int32 → (Nat → Int32) → Prop} (hV : VA A) (hM : RM A 0 now) (hs : s < A.nS) (ha : a < A.nS) (hb : b < A.nS) (hk1 : 1 ≤ k) (hk : k < (A.sy a).1) (he : RQ (A.sy s) n1 one) : ∀ (d n x : Nat) (f2 : Nat → Int32) (g2 : Int32) (far : Nat → Int32), n + d = (A.sy b).1 → 1 ≤ n → okc x → (∀ v f2 g2 far, K v (ccd (cin A.co (A.sy s) (A.sy a) (A.sy b) k d n x)) f2 g2 far) → P_X9_crossed_28 (nI k) (nI a) (nI b) now um mt one n1 me mg K (d + 1) (nI n) (ccd x) f2 g2 far := by
  have h12 := hV.1
  have vs := hV.2.1 s hs
  have va := hV.2.1 a ha
  have vb := hV.2.1 b hb
  have eS : (1 : Int32) + nI b = nI (1 + b) := by rw [iL1, nI_add]
  have hb1 := (RM_sy hM hb).1
  intro d
  induction d with
  | zero =>
    intro n x f2 g2 far hn hn1 hx hK
    show B_X9_crossed_28 (nI k) (nI a) (nI b) now um mt one n1 me mg K _ (nI n) (ccd x) f2 g2 far
    unfold B_X9_crossed_28
    have e : n = (A.sy b).1 := by omega
    subst e
    rw [cin] at hK
    rw [eS, nI_clamp (by omega), hb1]
    exact ⟨(vpi (by omega)).mpr (by omega), fun _ => hK _ _ _ _, fun z => absurd (Int32.le_refl _) z⟩
  | succ d ih =>
    intro n x f2 g2 far hn hn1 hx hK
    have hx0 := hx
    unfold okc at hx0
    rw [cin_s] at hK
    show B_X9_crossed_28 (nI k) (nI a) (nI b) now um mt one n1 me mg K (P_X9_crossed_28 (nI k) (nI a) (nI b) now um mt one n1 me mg K (d + 1)) (nI n) (ccd x) f2 g2 far
    unfold B_X9_crossed_28
    rw [eS, nI_clamp (by omega), hb1, nI_1, nI_add, iL8, nI_ltI (a := 8) (by omega) (by omega)]
    refine ⟨(vpi (by omega)).mpr (by omega), fun z => ?_, fun _ => ⟨fun z => ?_, fun z => ?_⟩⟩
    · rw [nI_leI (by omega) (by omega)] at z
      omega
    · rw [if_neg (by omega)] at hK
      exact hK _ _ _ _
    · have h8 : k + n ≤ 8 := by omega
      rw [if_pos h8] at hK
      have hw := bld_w (a := A.sy a) (b := A.sy b) (k := k) (n := n) (by omega) (by omega) va.2.2.2 vb.2.2.2
      have hd := bl_dd (co := A.co) (q := A.sy s) (a := A.sy a) (b := A.sy b) (hV.2.2.2.2.1 0 (by omega)).2 vs.2.1 h8
      refine ⟨k + 1, m_crs_63 (q := A.sy a) (by omega) (by omega) (by omega) (RM_sy hM ha).2 (fun _ f1 h1 => ⟨n + 1, m_crs_101 (q := A.sy a) (r := A.sy b) (by omega) vb.2.1 h8 (by omega) hb1 (RM_sy hM hb).2 (fun _ f3 h3 => ?_) n 0 f1 (by omega) (fun i hi => ?_)⟩) k 0 f2 (by omega) (fun i hi => absurd hi (Nat.not_lt_zero i))⟩
      · have hE : REm (A.sy s) (bld (A.sy a) (A.sy b) k n) A.co now one f3 n1 (nI (k + n)) := ⟨he, ⟨rfl, h3⟩, vs.2.1, h8, vs.2.2.2, hw, fun i hi => ⟨RM_co hM hi, (hV.2.2.2.2.1 i hi).2⟩⟩
        refine m_lays hE (fun far' _ => ?_)
        show (ccd x < 0 → P_X9_crossed_28 (nI k) (nI a) (nI b) now um mt one n1 me mg K (d + 1) (nI (n + 1)) (nI (DD A.co (A.sy s).2 (bld (A.sy a) (A.sy b) k n).2 (A.sy s).1 (k + n))) f3 (nI (k + n)) far') ∧ (¬ ccd x < 0 → ((ccd x ≤ nI (DD A.co (A.sy s).2 (bld (A.sy a) (A.sy b) k n).2 (A.sy s).1 (k + n)) → P_X9_crossed_28 (nI k) (nI a) (nI b) now um mt one n1 me mg K (d + 1) (nI (n + 1)) (ccd x) f3 (nI (k + n)) far') ∧ (¬ ccd x ≤ nI (DD A.co (A.sy s).2 (bld (A.sy a) (A.sy b) k n).2 (A.sy s).1 (k + n)) → P_X9_crossed_28 (nI k) (nI a) (nI b) now um mt one n1 me mg K (d + 1) (nI (n + 1)) (nI (DD A.co (A.sy s).2 (bld (A.sy a) (A.sy b) k n).2 (A.sy s).1 (k + n))) f3 (nI (k + n)) far')))
        have i := ih (n + 1) _ f3 (nI (k + n)) far' (by omega) (by omega) (show okc (min x (DD A.co (A.sy s).2 (bld (A.sy a) (A.sy b) k n).2 (A.sy s).1 (k + n))) by unfold okc; omega) hK
        by_cases hx1 : x = 1000000
        · have e1 : ccd (min x (DD A.co (A.sy s).2 (bld (A.sy a) (A.sy b) k n).2 (A.sy s).1 (k + n))) = nI (DD A.co (A.sy s).2 (bld (A.sy a) (A.sy b) k n).2 (A.sy s).1 (k + n)) := by
            unfold ccd
            rw [if_neg (by omega), Nat.min_eq_right (by omega)]
          rw [e1] at i
          have e2 : ccd x = -4 := if_pos hx1
          rw [e2]
          exact ⟨fun _ => i, fun y => absurd (by decide) y⟩
        · have e2 : ccd x = nI x := if_neg hx1
          have e1 : ccd (min x (DD A.co (A.sy s).2 (bld (A.sy a) (A.sy b) k n).2 (A.sy s).1 (k + n))) = nI (min x (DD A.co (A.sy s).2 (bld (A.sy a) (A.sy b) k n).2 (A.sy s).1 (k + n))) := if_neg (by omega)
          rw [e1] at i
          rw [e2, nI_leI (by omega) (by omega)]
          refine ⟨fun y => absurd y (nI_pos (by omega)), fun _ => ⟨fun y => ?_, fun y => ?_⟩⟩
          · rw [Nat.min_eq_left y] at i
            exact i
          · rw [Nat.min_eq_right (by omega)] at i
            exact i
      · rw [Nat.add_zero k] at hi
        rw [h1 i hi]
        show _ = nI (if i < k then (A.sy a).2 i else _)
        rw [if_pos hi]
theorem m_crs_12 {A : AS} {s a b : Nat} {now one : Nat → Int32} {n1 um mt me mg : Int32} {K : Int32 → Int32 → (Nat → Int32) → Int32 → (Nat → Int32) → Prop} (hV : VA A) (hM : RM A 0 now) (hs : s < A.nS) (ha : a < A.nS) (hb : b < A.nS) (he : RQ (A.sy s) n1 one) : ∀ (d k x : Nat) (f2 : Nat → Int32) (g2 : Int32) (far : Nat → Int32), k + d = (A.sy a).1 → 1 ≤ k → okc x → (∀ v f2 g2 far, K v (ccd (cou A.co (A.sy s) (A.sy a) (A.sy b) d k x)) f2 g2 far) → P_X9_crossed_12 (nI a) (nI b) now um mt one n1 me mg K (d + 1) (nI k) (ccd x) f2 g2 far := by
  have h12 := hV.1
  have vs := hV.2.1 s hs
  have va := hV.2.1 a ha
  have vb := hV.2.1 b hb
  have eS : (1 : Int32) + nI a = nI (1 + a) := by rw [iL1, nI_add]
  have ha1 := (RM_sy hM ha).1
  intro d
  induction d with
  | zero =>
    intro k x f2 g2 far hk hk1 hx hK
    show B_X9_crossed_12 (nI a) (nI b) now um mt one n1 me mg K _ (nI k) (ccd x) f2 g2 far
    unfold B_X9_crossed_12
    have e : k = (A.sy a).1 := by omega
    subst e
    rw [cou] at hK
    rw [eS, nI_clamp (by omega), ha1]
    exact ⟨(vpi (by omega)).mpr (by omega), fun _ => hK _ _ _ _, fun z => absurd (Int32.le_refl _) z⟩
  | succ d ih =>
    intro k x f2 g2 far hk hk1 hx hK
    rw [cou_s] at hK
    show B_X9_crossed_12 (nI a) (nI b) now um mt one n1 me mg K (P_X9_crossed_12 (nI a) (nI b) now um mt one n1 me mg K (d + 1)) (nI k) (ccd x) f2 g2 far
    unfold B_X9_crossed_12
    rw [eS, nI_clamp (by omega), ha1, nI_1]
    refine ⟨(vpi (by omega)).mpr (by omega), fun z => ?_, fun _ => ⟨(A.sy b).1 - 1 + 1, m_crs_28 hV hM hs ha hb hk1 (by omega) he ((A.sy b).1 - 1) 1 x f2 g2 far (by omega) (by omega) hx (fun v f2 g2 far => ih (k + 1) _ f2 g2 far (by omega) (by omega) (cin_ok (hV.2.2.2.2.1 0 (by omega)).2 vs.2.1 _ _ _ hx) hK)⟩⟩
    rw [nI_leI (by omega) (by omega)] at z
    omega
theorem m_crossed {A : AS} {s a b : Nat} {now one other far : Nat → Int32} {n1 n2 um mt me mg : Int32} {post : Int32 → (Nat → Int32) → (Nat → Int32) → Int32 → Int32 → (Nat → Int32) → Prop} (hV : VA A) (hM : RM A 0 now) (hs : s < A.nS) (ha : a < A.nS) (hb : b < A.nS) (h : ∀ f1 f2 g1 g2 far', post (ccd (crn A s a b)) f1 f2 g1 g2 far') : P_X9_crossed (nI s) (nI a) (nI b) now um mt one other n1 n2 far me mg post := by
  have va := hV.2.1 a ha
  unfold P_X9_crossed
  refine m_takesOne hV hM hs (fun f1 g1 he => ?_)
  exact ⟨(A.sy a).1 - 1 + 1, m_crs_12 (K := fun w5_9 w4_9 mother_9 motherLong_9 mfar_9 => post w4_9 f1 mother_9 g1 motherLong_9 mfar_9) hV hM hs ha hb he ((A.sy a).1 - 1) 1 1000000 other n2 far (by omega) (Nat.le_refl _) (Or.inl rfl) (fun _ f2 g2 far' => h f1 f2 g1 g2 far')⟩
/-! ===== crossingCost ===== -/
noncomputable def vCC (A : AS) (x y z : Int32) : Int32 := by
  classical exact if isRow A.nS x ∧ (isRow A.nS y ∧ isRow A.nS z) ∧ x ≠ y ∧ x ≠ z ∧ y ≠ z then ccd (crn A x.toNatClampNeg y.toNatClampNeg z.toNatClampNeg) else -1
theorem s_crossingCost {A : AS} {x y z : Int32} {ld fln bln eln gln li sct pct : Int32} {ftk btk etk gtk stk sle ye re ptk ple co : Nat → Int32} {tb : Nat → Nat → Int32} {post : Int32 → Int32 → (Nat → Int32) → Int32 → (Nat → Int32) → (Nat → Nat → Int32) → Int32 → (Nat → Int32) → Int32 → (Nat → Int32) → Prop} (hV : VA A) (hR : RC A li sct stk sle ye re pct ptk ple co) (h : ∀ f1 f2 g1 g2 tb' a1 a2 b1 b2, post (vCC A x y z) f1 f2 g1 g2 tb' a1 a2 b1 b2) : P_X8_crossingCost x y z li sct stk sle co ld eln etk gln gtk tb fln ftk bln btk post := by
  have h12 := hV.1
  have e := hR.1.1
  unfold P_X8_crossingCost
  unfold vCC at h
  rw [e]
  rcases row_or x (n := A.nS) (by omega) with c | ⟨s, hs, rfl⟩
  · rw [if_neg (fun z => not_row (by omega) c z.1)] at h
    exact s_has_no c ⟨fun _ => h _ _ _ _ _ _ _ _ _, fun w => absurd rfl w⟩
  refine s_has_yes hs (by omega) ⟨fun w => absurd w (by decide), fun _ => ?_⟩
  refine s_hasBoth (by omega) (fun a b ha hb hy hz => ⟨fun w => absurd w (by decide), fun _ => ?_⟩) (fun c => ⟨fun _ => ?_, fun w => absurd rfl w⟩)
  · subst hy
    subst hz
    refine ⟨fun c => ?_, fun c => ⟨fun c2 => ?_, fun c2 => ⟨fun c3 => ?_, fun c3 => ?_⟩⟩⟩
    · rw [if_neg (fun w => w.2.2.1 c)] at h
      exact h _ _ _ _ _ _ _ _ _
    · rw [if_neg (fun w => w.2.2.2.1 c2)] at h
      exact h _ _ _ _ _ _ _ _ _
    · rw [if_pos ⟨⟨s, hs, rfl⟩, ⟨⟨a, ha, rfl⟩, ⟨b, hb, rfl⟩⟩, c, c2, c3⟩, nI_clamp (by omega), nI_clamp (by omega), nI_clamp (by omega)] at h
      rw [← e]
      have ok := crn_ok (a := a) (b := b) hV hs
      unfold okc at ok
      refine s_cost hV hR hs ha hb (fun a1 a2 b1 b2 f1 f2 g1 g2 tb' => ?_)
      have t := h f1 f2 g1 g2 tb' a1 a2 b1 b2
      rw [iL1000000, nI_eq (by omega) (by omega)]
      unfold ccd at t
      refine ⟨fun w => ?_, fun w => ?_⟩
      · rw [if_neg w] at t
        exact t
      · rw [if_pos w] at t
        exact t
    · rw [if_neg (fun w => w.2.2.2.2 c3)] at h
      exact h _ _ _ _ _ _ _ _ _
  · rw [if_neg (fun w => c.elim (fun q => not_row (by omega) q w.2.1.1) (fun q => not_row (by omega) q w.2.1.2))] at h
    exact h _ _ _ _ _ _ _ _ _
theorem m_crossingCost {A : AS} {x y z : Int32} {now one other far : Nat → Int32} {n1 n2 um mt me mg : Int32} {post : Int32 → (Nat → Int32) → (Nat → Int32) → Int32 → Int32 → (Nat → Int32) → Prop} (hV : VA A) (hM : RM A 0 now) (h : ∀ f1 f2 g1 g2 far', post (vCC A x y z) f1 f2 g1 g2 far') : P_X9_crossingCost x y z now um mt one other n1 n2 far me mg post := by
  have h12 := hV.1
  unfold P_X9_crossingCost
  unfold vCC at h
  refine m_isSaying hV hM (fun s hs hx => ⟨fun w => absurd w (by decide), fun _ => m_isSaying hV hM (fun a ha hy => ⟨fun w => absurd w (by decide), fun _ => m_isSaying hV hM (fun b hb hz => ⟨fun w => absurd w (by decide), fun _ => ?_⟩) (fun c => ⟨fun _ => ?_, fun w => absurd rfl w⟩)⟩) (fun c => ⟨fun _ => ?_, fun w => absurd rfl w⟩)⟩) (fun c => ⟨fun _ => ?_, fun w => absurd rfl w⟩)
  · subst hx
    subst hy
    subst hz
    refine ⟨fun c => ?_, fun c => ⟨fun c2 => ?_, fun c2 => ⟨fun c3 => ?_, fun c3 => ?_⟩⟩⟩
    · rw [if_neg (fun w => w.2.2.1 c)] at h
      exact h _ _ _ _ _
    · rw [if_neg (fun w => w.2.2.2.1 c2)] at h
      exact h _ _ _ _ _
    · rw [if_pos ⟨⟨s, hs, rfl⟩, ⟨⟨a, ha, rfl⟩, ⟨b, hb, rfl⟩⟩, c, c2, c3⟩, nI_clamp (by omega), nI_clamp (by omega), nI_clamp (by omega)] at h
      exact m_crossed hV hM hs ha hb h
    · rw [if_neg (fun w => w.2.2.2.2 c3)] at h
      exact h _ _ _ _ _
  · rw [if_neg (fun w => not_row (by omega) c w.2.1.2)] at h
    exact h _ _ _ _ _
  · rw [if_neg (fun w => not_row (by omega) c w.2.1.1)] at h
    exact h _ _ _ _ _
  · rw [if_neg (fun w => not_row (by omega) c w.1)] at h
    exact h _ _ _ _ _
