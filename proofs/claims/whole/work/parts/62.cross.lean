/-! ===== crossings: blends and their cost ===== -/
def bld (a b : Sy) (k n : Nat) : Sy := (k + n, fun j => if j < k then a.2 j else b.2 (b.1 - n + (j - k)))
noncomputable def cin (co : Nat → Nat) (q a b : Sy) (k : Nat) : Nat → Nat → Nat → Nat
  | 0, _, x => x
  | d + 1, n, x => if k + n ≤ 8 then cin co q a b k d (n + 1) (min x (DD co q.2 (bld a b k n).2 q.1 (k + n))) else x
noncomputable def cou (co : Nat → Nat) (q a b : Sy) : Nat → Nat → Nat → Nat
  | 0, _, x => x
  | d + 1, k, x => cou co q a b d (k + 1) (cin co q a b k (b.1 - 1) 1 x)
theorem cin_s (co : Nat → Nat) (q a b : Sy) (k d n x : Nat) : cin co q a b k (d + 1) n x = if k + n ≤ 8 then cin co q a b k d (n + 1) (min x (DD co q.2 (bld a b k n).2 q.1 (k + n))) else x := by rw [cin]
theorem cou_s (co : Nat → Nat) (q a b : Sy) (d k x : Nat) : cou co q a b (d + 1) k x = cou co q a b d (k + 1) (cin co q a b k (b.1 - 1) 1 x) := by rw [cou]
noncomputable def crn (A : AS) (s a b : Nat) : Nat := cou A.co (A.sy s) (A.sy a) (A.sy b) ((A.sy a).1 - 1) 1 1000000
/-- none yet, or a distance -/
def okc (x : Nat) : Prop := x = 1000000 ∨ x ≤ 144
theorem bld_w {a b : Sy} {k n : Nat} (hk : k ≤ a.1) (hn : n ≤ b.1) (ha : ∀ j, j < a.1 → a.2 j < 60) (hb : ∀ j, j < b.1 → b.2 j < 60) : ∀ j, j < (bld a b k n).1 → (bld a b k n).2 j < 60 := by
  intro j hj
  have hj' : j < k + n := hj
  show (if j < k then a.2 j else b.2 (b.1 - n + (j - k))) < 60
  by_cases c : j < k
  · rw [if_pos c]
    exact ha j (by omega)
  · rw [if_neg c]
    exact hb _ (by omega)
theorem bl_dd {co : Nat → Nat} {q a b : Sy} {k n : Nat} (hco : co 0 ≤ 9) (q8 : q.1 ≤ 8) (h : k + n ≤ 8) : DD co q.2 (bld a b k n).2 q.1 (k + n) ≤ 144 := DD_bd _ _ hco q8 h
theorem cin_ok {co : Nat → Nat} {q a b : Sy} {k : Nat} (hco : co 0 ≤ 9) (q8 : q.1 ≤ 8) : ∀ (d n x : Nat), okc x → okc (cin co q a b k d n x) := by
  intro d
  induction d with
  | zero => intro n x hx; rw [cin]; exact hx
  | succ d ih =>
    intro n x hx
    rw [cin_s]
    by_cases h : k + n ≤ 8
    · rw [if_pos h]
      have hb := bl_dd (co := co) (q := q) (a := a) (b := b) hco q8 h
      refine ih _ _ ?_
      unfold okc at hx ⊢
      omega
    · rw [if_neg h]
      exact hx
theorem cou_ok {co : Nat → Nat} {q a b : Sy} (hco : co 0 ≤ 9) (q8 : q.1 ≤ 8) : ∀ (d k x : Nat), okc x → okc (cou co q a b d k x) := by
  intro d
  induction d with
  | zero => intro k x hx; rw [cou]; exact hx
  | succ d ih =>
    intro k x hx
    rw [cou_s]
    exact ih _ _ (cin_ok hco q8 _ _ _ hx)
theorem crn_ok {A : AS} {s a b : Nat} (hV : VA A) (hs : s < A.nS) : okc (crn A s a b) := cou_ok (hV.2.2.2.2.1 0 (by omega)).2 (hV.2.1 s hs).2.1 _ _ _ (Or.inl rfl)
/-! ===== the class: addPart, cost ===== -/
theorem s_addPart_3 {q : Sy} {t : Nat} {ln : Int32} {tk : Nat → Int32} {c : Nat → Nat} {K : Int32 → Int32 → (Nat → Int32) → Prop} (hq : RQ q ln tk) (q8 : q.1 ≤ 8) (ht : t ≤ q.1) : ∀ (d i L : Nat) (f : Nat → Int32), i + d = t → L + d ≤ 8 → (∀ j, j < L → f j = nI (c j)) → (∀ j, j < d → c (L + j) = q.2 (i + j)) → (∀ v f', (∀ j, j < L + d → f' j = nI (c j)) → K v (nI (L + d)) f') → P_X5_addPart_3 (nI t) ln tk K (d + 1) (nI i) (nI L) f := by
  intro d
  induction d with
  | zero =>
    intro i L f hi hL hf hc hK
    show B_X5_addPart_3 (nI t) ln tk K _ (nI i) (nI L) f
    unfold B_X5_addPart_3
    have e : i = t := by omega
    subst e
    exact ⟨fun _ => hK _ f hf, fun z => absurd (Int32.le_refl _) z⟩
  | succ d ih =>
    intro i L f hi hL hf hc hK
    show B_X5_addPart_3 (nI t) ln tk K (P_X5_addPart_3 (nI t) ln tk K (d + 1)) (nI i) (nI L) f
    unfold B_X5_addPart_3
    rw [nI_1]
    refine ⟨fun z => ?_, fun _ => s_at_q hq (by omega) q8 (s_add (by omega) (ih (i + 1) (L + 1) _ (by omega) (by omega) (fun j hj => ?_) (fun j hj => ?_) (fun v f' hf' => ?_)))⟩
    · rw [nI_leI (by omega) (by omega)] at z
      omega
    · by_cases e : j = L
      · have t0 := hc 0 (by omega)
        rw [Nat.add_zero L, Nat.add_zero i] at t0
        rw [e, pk_us, t0]
      · rw [pk_un e]
        exact hf j (by omega)
    · have t1 := hc (j + 1) (by omega)
      rw [show L + (j + 1) = L + 1 + j by omega, show i + (j + 1) = i + 1 + j by omega] at t1
      exact t1
    · have t2 := hK v f' (fun j hj => hf' j (by omega))
      rw [show L + (d + 1) = L + 1 + d by omega] at t2
      exact t2
theorem s_addPart {q : Sy} {i t L : Nat} {ln : Int32} {tk f : Nat → Int32} {c : Nat → Nat} {post : Int32 → (Nat → Int32) → Prop} (hq : RQ q ln tk) (q8 : q.1 ≤ 8) (ht : t ≤ q.1) (hi : i ≤ t) (hL : L + (t - i) ≤ 8) (hf : ∀ j, j < L → f j = nI (c j)) (hc : ∀ j, j < t - i → c (L + j) = q.2 (i + j)) (h : ∀ f', (∀ j, j < L + (t - i) → f' j = nI (c j)) → post (nI (L + (t - i))) f') : P_X5_addPart (nI i) (nI t) (nI L) f ln tk post :=
  ⟨t - i + 1, s_addPart_3 (K := fun _ ln_5 tk_5 => post ln_5 tk_5) hq q8 ht (t - i) i L f (by omega) hL hf hc (fun _ f' hf' => h f' hf')⟩
theorem s_cost_60 {A : AS} {s a b k : Nat} {ld fln bln eln : Int32} {ftk btk etk co : Nat → Int32} {K : Int32 → Int32 → Int32 → (Nat → Int32) → (Nat → Nat → Int32) → Prop} (hV : VA A) (hs : s < A.nS) (ha : a < A.nS) (hb : b < A.nS) (hk1 : 1 ≤ k) (hk : k < (A.sy a).1) (hco : ∀ i, i < 4 → co i = nI (A.co i)) (hf : RQ (A.sy a) fln ftk) (hbk : RQ (A.sy b) bln btk) (he : RQ (A.sy s) eln etk) : ∀ (d n x : Nat) (g1 : Int32) (g2 : Nat → Int32) (tb : Nat → Nat → Int32), n + d = (A.sy b).1 → 1 ≤ n → okc x → (∀ v g1 g2 tb, K v (nI (cin A.co (A.sy s) (A.sy a) (A.sy b) k d n x)) g1 g2 tb) → P_X0_cost_60 (nI k) fln ftk bln btk co ld eln etk K (d + 1) (nI n) (nI x) g1 g2 tb := by
  have vs := hV.2.1 s hs
  have va := hV.2.1 a ha
  have vb := hV.2.1 b hb
  intro d
  induction d with
  | zero =>
    intro n x g1 g2 tb hn hn1 hx hK
    show B_X0_cost_60 (nI k) fln ftk bln btk co ld eln etk K _ (nI n) (nI x) g1 g2 tb
    unfold B_X0_cost_60
    have e : n = (A.sy b).1 := by omega
    subst e
    rw [cin] at hK
    refine ⟨fun _ => hK _ _ _ _, fun z => ?_⟩
    rw [hbk.1] at z
    exact absurd (Int32.le_refl _) z
  | succ d ih =>
    intro n x g1 g2 tb hn hn1 hx hK
    have hx0 := hx
    unfold okc at hx0
    rw [cin_s] at hK
    show B_X0_cost_60 (nI k) fln ftk bln btk co ld eln etk K (P_X0_cost_60 (nI k) fln ftk bln btk co ld eln etk K (d + 1)) (nI n) (nI x) g1 g2 tb
    unfold B_X0_cost_60
    rw [hbk.1, nI_1, nI_add, iL8, nI_ltI (a := 8) (by omega) (by omega), pk_sub (by omega)]
    refine ⟨fun z => ?_, fun _ => ⟨fun z => ?_, fun z => ?_⟩⟩
    · rw [nI_leI (by omega) (by omega)] at z
      omega
    · rw [if_neg (by omega)] at hK
      exact hK _ _ _ _
    · have h8 : k + n ≤ 8 := by omega
      rw [if_pos h8] at hK
      have hw := bld_w (a := A.sy a) (b := A.sy b) (k := k) (n := n) (by omega) (by omega) va.2.2.2 vb.2.2.2
      have hd := bl_dd (co := A.co) (q := A.sy s) (a := A.sy a) (b := A.sy b) (hV.2.2.2.2.1 0 (by omega)).2 vs.2.1 h8
      refine s_addPart (c := (bld (A.sy a) (A.sy b) k n).2) (i := 0) (t := k) (L := 0) hf va.2.1 (by omega) (by omega) (by omega) (fun j hj => absurd hj (Nat.not_lt_zero j)) (fun j hj => ?_) (fun f1 h1 => ?_)
      · rw [Nat.zero_add]
        exact if_pos (by omega)
      · refine s_addPart (q := A.sy b) (c := (bld (A.sy a) (A.sy b) k n).2) (i := (A.sy b).1 - n) (t := (A.sy b).1) (L := 0 + (k - 0)) ⟨rfl, hbk.2⟩ vb.2.1 (by omega) (by omega) (by omega) h1 (fun j hj => ?_) (fun f2 h2 => ?_)
        · show (if 0 + (k - 0) + j < k then (A.sy a).2 (0 + (k - 0) + j) else (A.sy b).2 ((A.sy b).1 - n + (0 + (k - 0) + j - k))) = _
          rw [if_neg (by omega), show 0 + (k - 0) + j - k = j by omega]
        · have el : 0 + (k - 0) + ((A.sy b).1 - ((A.sy b).1 - n)) = k + n := by omega
          rw [el] at h2 ⊢
          have hE : REd (A.sy s) (bld (A.sy a) (A.sy b) k n) A.co 4 eln etk (nI (k + n)) f2 co := ⟨he, ⟨rfl, h2⟩, vs.2.1, h8, vs.2.2.2, hw, by omega, fun i hi => ⟨hco i hi, (hV.2.2.2.2.1 i hi).2⟩⟩
          refine s_measure hE (fun tb' _ => ?_)
          show P_X0_cost_60 (nI k) fln ftk (nI (A.sy b).1) btk co ld eln etk K (d + 1) (nI (n + 1)) (if nI (DD A.co (A.sy s).2 (bld (A.sy a) (A.sy b) k n).2 (A.sy s).1 (k + n)) < nI x then nI (DD A.co (A.sy s).2 (bld (A.sy a) (A.sy b) k n).2 (A.sy s).1 (k + n)) else nI x) (nI (k + n)) f2 tb'
          rw [min_if _ _ (by omega) (by omega), ← hbk.1]
          refine ih (n + 1) _ _ _ _ (by omega) (by omega) ?_ hK
          unfold okc
          omega
theorem s_cost_45 {A : AS} {s a b : Nat} {ld fln bln eln : Int32} {ftk btk etk co : Nat → Int32} {K : Int32 → Int32 → Int32 → (Nat → Int32) → (Nat → Nat → Int32) → Prop} (hV : VA A) (hs : s < A.nS) (ha : a < A.nS) (hb : b < A.nS) (hco : ∀ i, i < 4 → co i = nI (A.co i)) (hf : RQ (A.sy a) fln ftk) (hbk : RQ (A.sy b) bln btk) (he : RQ (A.sy s) eln etk) : ∀ (d k x : Nat) (g1 : Int32) (g2 : Nat → Int32) (tb : Nat → Nat → Int32), k + d = (A.sy a).1 → 1 ≤ k → okc x → (∀ v g1 g2 tb, K v (nI (cou A.co (A.sy s) (A.sy a) (A.sy b) d k x)) g1 g2 tb) → P_X0_cost_45 fln ftk bln btk co ld eln etk K (d + 1) (nI k) (nI x) g1 g2 tb := by
  have vs := hV.2.1 s hs
  have va := hV.2.1 a ha
  have vb := hV.2.1 b hb
  intro d
  induction d with
  | zero =>
    intro k x g1 g2 tb hk hk1 hx hK
    show B_X0_cost_45 fln ftk bln btk co ld eln etk K _ (nI k) (nI x) g1 g2 tb
    unfold B_X0_cost_45
    have e : k = (A.sy a).1 := by omega
    subst e
    rw [cou] at hK
    refine ⟨fun _ => hK _ _ _ _, fun z => ?_⟩
    rw [hf.1] at z
    exact absurd (Int32.le_refl _) z
  | succ d ih =>
    intro k x g1 g2 tb hk hk1 hx hK
    rw [cou_s] at hK
    show B_X0_cost_45 fln ftk bln btk co ld eln etk K (P_X0_cost_45 fln ftk bln btk co ld eln etk K (d + 1)) (nI k) (nI x) g1 g2 tb
    unfold B_X0_cost_45
    rw [nI_1]
    refine ⟨fun z => ?_, fun _ => ⟨(A.sy b).1 - 1 + 1, s_cost_60 hV hs ha hb hk1 (by omega) hco hf hbk he ((A.sy b).1 - 1) 1 x g1 g2 tb (by omega) (by omega) hx (fun v g1 g2 tb => ih (k + 1) _ g1 g2 tb (by omega) (by omega) (cin_ok (hV.2.2.2.2.1 0 (by omega)).2 vs.2.1 _ _ _ hx) hK)⟩⟩
    rw [hf.1, nI_leI (by omega) (by omega)] at z
    omega
theorem s_cost {A : AS} {s a b : Nat} {ld fln bln eln gln li sct pct : Int32} {ftk btk etk gtk stk sle ye re ptk ple co : Nat → Int32} {tb : Nat → Nat → Int32} {post : Int32 → Int32 → (Nat → Int32) → Int32 → (Nat → Int32) → Int32 → (Nat → Int32) → Int32 → (Nat → Int32) → (Nat → Nat → Int32) → Prop} (hV : VA A) (hR : RC A li sct stk sle ye re pct ptk ple co) (hs : s < A.nS) (ha : a < A.nS) (hb : b < A.nS) (h : ∀ a1 a2 b1 b2 f1 f2 g1 g2 tb', post (nI (crn A s a b)) a1 a2 b1 b2 f1 f2 g1 g2 tb') : P_X0_cost (nI s) (nI a) (nI b) fln ftk bln btk li sct stk sle co ld eln etk gln gtk tb post := by
  have h12 := hV.1
  have vs := hV.2.1 s hs
  have va := hV.2.1 a ha
  have vb := hV.2.1 b hb
  unfold P_X0_cost
  refine s_load hR.1 hs h12 (by omega) (by omega) vs.2.1 (fun e1 e2 he => s_load hR.1 ha h12 (by omega) (by omega) va.2.1 (fun a1 a2 hf => s_load hR.1 hb h12 (by omega) (by omega) vb.2.1 (fun b1 b2 hbk => ?_)))
  exact ⟨(A.sy a).1 - 1 + 1, s_cost_45 (K := fun w7_19 w6_19 egln_19 egtk_19 etb_19 => post w6_19 a1 a2 b1 b2 e1 e2 egln_19 egtk_19 etb_19) hV hs ha hb hR.2.2.2.1 hf hbk he ((A.sy a).1 - 1) 1 1000000 gln gtk tb (by omega) (Nat.le_refl _) (Or.inl rfl) (fun _ g1 g2 tb => h a1 a2 b1 b2 e1 e2 g1 g2 tb)⟩
