/-! ===== what a change makes ===== -/
def addS (A : AS) (B : Sy) (y : Int32) (g : Nat) : AS := ((A.nS + 1, (fun s => if s = A.nS then B else A.sy s), (fun s => if s = A.nS then y else A.yr s), (fun s => if s = A.nS then g else A.rg s)), A.2)
def delS (A : AS) (x : Nat) : AS := ((A.nS - 1, (fun s => if s < x then A.sy s else A.sy (s + 1)), (fun s => if s < x then A.yr s else A.yr (s + 1)), (fun s => if s < x then A.rg s else A.rg (s + 1))), A.2)
def addP (A : AS) (B : Sy) : AS := (A.1, (A.nP + 1, fun s => if s = A.nP then B else A.pt s), A.2.2)
def delP (A : AS) (x : Nat) : AS := (A.1, (A.nP - 1, fun s => if s < x then A.pt s else A.pt (s + 1)), A.2.2)
def stC (A : AS) (i v : Nat) : AS := (A.1, A.2.1, (fun j => if j = i then v else A.co j), A.li)
def stL (A : AS) (v : Nat) : AS := (A.1, A.2.1, A.co, v)
/-- the buffer holds a saying -/
def okB (B : Sy) : Prop := 0 < B.1 ∧ ∀ j, j < B.1 → B.2 j < 60
theorem VA_addS {A : AS} {B : Sy} {y : Int32} {g : Nat} (hV : VA A) (hn : A.nS < 12) (hB : okB B) (b8 : B.1 ≤ 8) (hg : g ≤ 9) : VA (addS A B y g) := by
  refine ⟨?_, fun s hs => ?_, hV.2.2⟩
  · show A.nS + 1 ≤ 12
    omega
  · have hs' : s < A.nS + 1 := hs
    show 1 ≤ (if s = A.nS then B else A.sy s).1 ∧ (if s = A.nS then B else A.sy s).1 ≤ 8 ∧ (if s = A.nS then g else A.rg s) ≤ 9 ∧ ∀ j, j < (if s = A.nS then B else A.sy s).1 → (if s = A.nS then B else A.sy s).2 j < 60
    by_cases e : s = A.nS
    · rw [if_pos e, if_pos e]
      exact ⟨hB.1, b8, hg, hB.2⟩
    · rw [if_neg e, if_neg e]
      exact hV.2.1 s (by omega)
theorem VA_delS {A : AS} {x : Nat} (hV : VA A) (hx : x < A.nS) : VA (delS A x) := by
  have h12 := hV.1
  refine ⟨?_, fun s hs => ?_, hV.2.2⟩
  · show A.nS - 1 ≤ 12
    omega
  · have hs' : s < A.nS - 1 := hs
    show 1 ≤ (if s < x then A.sy s else A.sy (s + 1)).1 ∧ (if s < x then A.sy s else A.sy (s + 1)).1 ≤ 8 ∧ (if s < x then A.rg s else A.rg (s + 1)) ≤ 9 ∧ ∀ j, j < (if s < x then A.sy s else A.sy (s + 1)).1 → (if s < x then A.sy s else A.sy (s + 1)).2 j < 60
    by_cases e : s < x
    · rw [if_pos e, if_pos e]
      exact hV.2.1 s (by omega)
    · rw [if_neg e, if_neg e]
      exact hV.2.1 (s + 1) (by omega)
theorem VA_addP {A : AS} {B : Sy} (hV : VA A) (hn : A.nP < 6) (b1 : 0 < B.1) (b8 : B.1 ≤ 8) (bt : ∀ j, j < B.1 → B.2 j ≤ 64) : VA (addP A B) := by
  refine ⟨hV.1, hV.2.1, ?_, fun p hp => ?_, hV.2.2.2.2⟩
  · show A.nP + 1 ≤ 6
    omega
  · have hp' : p < A.nP + 1 := hp
    show 1 ≤ (if p = A.nP then B else A.pt p).1 ∧ (if p = A.nP then B else A.pt p).1 ≤ 8 ∧ ∀ j, j < (if p = A.nP then B else A.pt p).1 → (if p = A.nP then B else A.pt p).2 j ≤ 64
    by_cases e : p = A.nP
    · rw [if_pos e]
      exact ⟨b1, b8, bt⟩
    · rw [if_neg e]
      exact hV.2.2.2.1 p (by omega)
theorem VA_delP {A : AS} {x : Nat} (hV : VA A) (hx : x < A.nP) : VA (delP A x) := by
  have h6 := hV.2.2.1
  refine ⟨hV.1, hV.2.1, ?_, fun p hp => ?_, hV.2.2.2.2⟩
  · show A.nP - 1 ≤ 6
    omega
  · have hp' : p < A.nP - 1 := hp
    show 1 ≤ (if p < x then A.pt p else A.pt (p + 1)).1 ∧ (if p < x then A.pt p else A.pt (p + 1)).1 ≤ 8 ∧ ∀ j, j < (if p < x then A.pt p else A.pt (p + 1)).1 → (if p < x then A.pt p else A.pt (p + 1)).2 j ≤ 64
    by_cases e : p < x
    · rw [if_pos e]
      exact hV.2.2.2.1 p (by omega)
    · rw [if_neg e]
      exact hV.2.2.2.1 (p + 1) (by omega)
theorem VA_stC {A : AS} {i v : Nat} (hV : VA A) (h1 : 1 ≤ v) (h9 : v ≤ 9) : VA (stC A i v) := by
  refine ⟨hV.1, hV.2.1, hV.2.2.1, hV.2.2.2.1, fun j hj => ?_, hV.2.2.2.2.2⟩
  show 1 ≤ (if j = i then v else A.co j) ∧ (if j = i then v else A.co j) ≤ 9
  by_cases e : j = i
  · rw [if_pos e]
    exact ⟨h1, h9⟩
  · rw [if_neg e]
    exact hV.2.2.2.2.1 j hj
theorem VA_stL {A : AS} {v : Nat} (hV : VA A) (h : v ≤ 20) : VA (stL A v) := ⟨hV.1, hV.2.1, hV.2.2.1, hV.2.2.2.1, hV.2.2.2.2.1, h⟩
/-! ===== the class: adding and dropping rows ===== -/
theorem s_add_17 {NT n : Nat} {B : Sy} {qln : Int32} {qtk tk0 : Nat → Int32} {K : Int32 → (Nat → Int32) → Prop} (hB : RQ B qln qtk) (b8 : B.1 ≤ 8) (hT : 8 * n + 8 ≤ NT) (hNT : NT < 1000) (hK : ∀ v f, (∀ j, j < B.1 → f (8 * n + j) = nI (B.2 j)) → (∀ i, i < 8 * n → f i = tk0 i) → K v f) : ∀ (d k : Nat) (f : Nat → Int32), k + d = B.1 → (∀ j, j < k → f (8 * n + j) = nI (B.2 j)) → (∀ i, i < 8 * n → f i = tk0 i) → P_X6_add_17 NT (nI n) qln qtk K (d + 1) (nI k) f := by
  intro d
  induction d with
  | zero =>
    intro k f hk h1 h2
    show B_X6_add_17 NT (nI n) qln qtk K _ (nI k) f
    unfold B_X6_add_17
    have e : k = B.1 := by omega
    subst e
    rw [hB.1]
    exact ⟨fun _ => hK _ f h1 h2, fun z => absurd (Int32.le_refl _) z⟩
  | succ d ih =>
    intro k f hk h1 h2
    have eB : (nI n * (8 : Int32)) + nI k = nI (8 * n + k) := by rw [iL8, pk_mul, nI_add, Nat.mul_comm]
    show B_X6_add_17 NT (nI n) qln qtk K (P_X6_add_17 NT (nI n) qln qtk K (d + 1)) (nI k) f
    unfold B_X6_add_17
    rw [eB, nI_clamp (n := 8 * n + k) (by omega), nI_1]
    refine ⟨fun z => ?_, fun _ => s_at_q hB (by omega) b8 ⟨(vpi (by omega)).mpr (by omega), ih (k + 1) _ (by omega) (fun j hj => ?_) (fun i hi => ?_)⟩⟩
    · rw [hB.1, nI_leI (by omega) (by omega)] at z
      omega
    · by_cases e : j = k
      · rw [e, pk_us]
      · rw [pk_un (by omega)]
        exact h1 j (by omega)
    · rw [pk_un (by omega)]
      exact h2 i hi
theorem s_shadd {mo : Int32} {NT NL n : Nat} {q : Nat → Sy} {B : Sy} {ct qln : Int32} {tk le qtk : Nat → Int32} {post : Int32 → Int32 → (Nat → Int32) → (Nat → Int32) → Prop} (hmo : mo = nI NL) (hNL : NL < 100) (hS : RSh n q ct tk le) (hq : ∀ s, s < n → (q s).1 ≤ 8) (hn : n < NL) (hT : 8 * NL ≤ NT) (hNT : NT < 1000) (hB : RQ B qln qtk) (b8 : B.1 ≤ 8) (h : ∀ tk' le', RSh (n + 1) (fun s => if s = n then B else q s) (nI (n + 1)) tk' le' → post (nI n) (nI (n + 1)) tk' le') : P_X6_add mo NT NL ct tk le qln qtk post := by
  obtain ⟨rfl, hS⟩ := hS
  unfold P_X6_add
  rw [hmo, nI_ltI (by omega) (by omega)]
  refine ⟨fun _ => ⟨B.1 + 1, s_add_17 (tk0 := tk) hB b8 (by omega) hNT (fun v f h1 h2 => ⟨(vpi (by omega)).mpr hn, ?_⟩) B.1 0 tk (by omega) (fun j hj => absurd hj (Nat.not_lt_zero j)) (fun _ _ => rfl)⟩, fun z => absurd hn z⟩
  rw [nI_1, nI_clamp (by omega)]
  refine h _ _ ⟨rfl, fun s hs => ?_⟩
  show upd le n qln s = nI (if s = n then B else q s).1 ∧ ∀ j, j < (if s = n then B else q s).1 → f (8 * s + j) = nI ((if s = n then B else q s).2 j)
  by_cases e : s = n
  · rw [if_pos e, e, pk_us, hB.1]
    exact ⟨rfl, h1⟩
  · have h8 := hq s (by omega)
    have t := hS s (by omega)
    rw [if_neg e, pk_un e]
    refine ⟨t.1, fun j hj => ?_⟩
    rw [h2 _ (by omega)]
    exact t.2 j hj
theorem s_closeUp {N x w : Nat} {fa : Nat → Int32} {post : (Nat → Int32) → Prop} (hN : N < 1000) (hw : 0 < w) (hw2 : w < 100) (hx : x < 100) (hx2 : (x + 1) * w ≤ N) (h : ∀ f', (∀ i, i < x * w → f' i = fa i) → (∀ i, x * w ≤ i → i + w < N → f' i = fa (i + w)) → post f') : P_X8_closeUp N (nI x) (nI w) fa post := by
  have e1 : (x + 1) * w = x * w + w := by rw [Nat.add_mul, Nat.one_mul]
  have hN0 : Int32.ofNat N = nI N := rfl
  unfold P_X8_closeUp
  rw [nI_1, pk_mul, pk_mul, hN0, nI_ltI (a := N) (by omega) (by omega)]
  refine ⟨fun z => absurd z (nI_pos (by omega)), fun _ => ⟨fun z => ?_, fun _ => ⟨fun z => absurd hx2 (by omega), fun _ => ?_⟩⟩⟩
  · rw [iL0, nI_leI (by omega) (by omega)] at z
    omega
  · rw [pk_sub (by omega), nI_clamp (by omega), nI_clamp (by omega), nI_clamp (by omega)]
    refine ⟨⟨nI_pos (by omega), nI_pos (by omega), nI_pos (by omega), by omega, by omega⟩, h _ (fun i hi => pk_cpy_out (Or.inl hi)) (fun i hi hi2 => ?_)⟩
    rw [pk_cpy_in hi (by omega), show (x + 1) * w + (i - x * w) = i + w by omega]
theorem s_drop {mo : Int32} {NT NL n x : Nat} {q : Nat → Sy} {ct : Int32} {tk le : Nat → Int32} {post : Int32 → (Nat → Int32) → (Nat → Int32) → Prop} (hS : RSh n q ct tk le) (hq : ∀ s, s < n → (q s).1 ≤ 8) (hx : x < n) (hn : n ≤ NL) (hNL : NL < 100) (hT : 8 * NL ≤ NT) (hNT : NT < 1000) (h : ∀ tk' le', RSh (n - 1) (fun s => if s < x then q s else q (s + 1)) (nI (n - 1)) tk' le' → post (nI (n - 1)) tk' le') : P_X6_drop mo NT NL (nI x) ct tk le post := by
  obtain ⟨rfl, hS⟩ := hS
  unfold P_X6_drop
  refine s_has_yes hx (by omega) ⟨fun z => absurd z (by decide), fun _ => s_closeUp (w := 8) hNT (by omega) (by omega) (by omega) (by omega) (fun f1 a1 a2 => s_closeUp (w := 1) (by omega) (by omega) (by omega) (by omega) (by omega) (fun f2 b1 b2 => ?_))⟩
  rw [iL1, pk_sub (by omega)]
  refine h _ _ ⟨rfl, fun s hs => ?_⟩
  show f2 s = nI (if s < x then q s else q (s + 1)).1 ∧ ∀ j, j < (if s < x then q s else q (s + 1)).1 → f1 (8 * s + j) = nI ((if s < x then q s else q (s + 1)).2 j)
  by_cases e : s < x
  · have t := hS s (by omega)
    have h8 := hq s (by omega)
    rw [if_pos e, b1 s (by omega)]
    refine ⟨t.1, fun j hj => ?_⟩
    rw [a1 _ (by omega)]
    exact t.2 j hj
  · have t := hS (s + 1) (by omega)
    have h8 := hq (s + 1) (by omega)
    rw [if_neg e, b2 s (by omega) (by omega)]
    refine ⟨t.1, fun j hj => ?_⟩
    rw [a2 _ (by omega) (by omega), show 8 * s + j + 8 = 8 * (s + 1) + j by omega]
    exact t.2 j hj
theorem s_takeSaying {A : AS} {B : Sy} {g : Nat} {y li sct pct qln : Int32} {stk sle ye re ptk ple co qtk : Nat → Int32} {post : Int32 → Int32 → (Nat → Int32) → (Nat → Int32) → (Nat → Int32) → (Nat → Int32) → Prop} (hV : VA A) (hR : RC A li sct stk sle ye re pct ptk ple co) (hn : A.nS < 12) (hB : RQ B qln qtk) (b8 : B.1 ≤ 8) (h : ∀ sct' stk' sle' ye' re', RC (addS A B y g) li sct' stk' sle' ye' re' pct ptk ple co → post (nI A.nS) sct' stk' sle' ye' re') : P_X7_takeSaying y (nI g) li sct stk sle ye re qln qtk post := by
  unfold P_X7_takeSaying
  refine s_shadd rfl (by omega) hR.1 (VA_s8 hV) hn (by omega) (by omega) hB b8 (fun tk' le' hS => s_has_yes (by omega) (by omega) ⟨fun z => absurd z (by decide), fun _ => ⟨(vpi (by omega)).mpr hn, (vpi (by omega)).mpr hn, ?_⟩⟩)
  rw [nI_clamp (by omega)]
  refine h _ _ _ _ _ ⟨hS, fun s hs => ?_, hR.2.2⟩
  have hs' : s < A.nS + 1 := hs
  show upd ye A.nS y s = (if s = A.nS then y else A.yr s) ∧ upd re A.nS (nI g) s = nI (if s = A.nS then g else A.rg s)
  by_cases e : s = A.nS
  · rw [if_pos e, if_pos e, e, pk_us, pk_us]
    exact ⟨rfl, rfl⟩
  · rw [if_neg e, if_neg e, pk_un e, pk_un e]
    exact hR.2.1 s (by omega)
theorem s_dropSaying {A : AS} {x : Nat} {li sct pct : Int32} {stk sle ye re ptk ple co : Nat → Int32} {post : Int32 → (Nat → Int32) → (Nat → Int32) → (Nat → Int32) → (Nat → Int32) → Prop} (hV : VA A) (hR : RC A li sct stk sle ye re pct ptk ple co) (hx : x < A.nS) (h : ∀ stk' sle' ye' re', RC (delS A x) li (nI (A.nS - 1)) stk' sle' ye' re' pct ptk ple co → post (nI (A.nS - 1)) stk' sle' ye' re') : P_X7_dropSaying (nI x) li sct stk sle ye re post := by
  have h12 := hV.1
  unfold P_X7_dropSaying
  refine s_drop hR.1 (VA_s8 hV) hx h12 (by omega) (by omega) (by omega) (fun tk' le' hS => s_closeUp (w := 1) (by omega) (by omega) (by omega) (by omega) (by omega) (fun f1 a1 a2 => s_closeUp (w := 1) (by omega) (by omega) (by omega) (by omega) (by omega) (fun f2 b1 b2 => h _ _ _ _ ⟨hS, fun s hs => ?_, hR.2.2⟩)))
  have hs' : s < A.nS - 1 := hs
  show f1 s = (if s < x then A.yr s else A.yr (s + 1)) ∧ f2 s = nI (if s < x then A.rg s else A.rg (s + 1))
  by_cases e : s < x
  · rw [if_pos e, if_pos e, a1 s (by omega), b1 s (by omega)]
    exact hR.2.1 s (by omega)
  · rw [if_neg e, if_neg e, a2 s (by omega) (by omega), b2 s (by omega) (by omega)]
    exact hR.2.1 (s + 1) (by omega)
/-! ===== the class: the changes ===== -/
def isYr (y : Int32) : Prop := ¬ y < (-3000 : Int32) ∧ ¬ (2100 : Int32) < y
noncomputable def eAdd (A : AS) (B : Sy) (y r : Int32) : Int32 := by
  classical exact if isYr y ∧ isRow 10 r then (if okB B then (if A.nS = 12 then -3 else 0) else -2) else -1
theorem tcn_full (q : Sy) : ∀ n, n ≤ tcn q 0 59 n ↔ ∀ j, j < n → q.2 j < 60 := by
  intro n
  induction n with
  | zero => exact ⟨fun _ j hj => absurd hj (Nat.not_lt_zero j), fun _ => Nat.zero_le _⟩
  | succ n ih =>
    have hl := tcn_le q 0 59 n
    rw [tcn_s]
    by_cases c : 0 ≤ q.2 n ∧ q.2 n ≤ 59
    · rw [if_pos c]
      refine ⟨fun z j hj => ?_, fun z => ?_⟩
      · by_cases e : j = n
        · rw [e]
          omega
        · exact ih.mp (by omega) j (by omega)
      · have := ih.mpr (fun j hj => z j (by omega))
        omega
    · rw [if_neg c]
      refine ⟨fun z => by omega, fun z => ?_⟩
      have := z n (by omega)
      omega
theorem s_wordCount {q : Sy} {ln : Int32} {tk : Nat → Int32} {post : Int32 → Prop} (hq : RQ q ln tk) (q8 : q.1 ≤ 8) (qt : ∀ j, j < q.1 → q.2 j ≤ 64) (h : post (nI (tcn q 0 59 q.1))) : P_X5_wordCount ln tk post :=
  ⟨q.1 + 1, s_wordCount_4 (K := fun _ w1 => post w1) hq q8 qt (fun _ => h) q.1 0 (by omega)⟩
theorem s_addSaying {A : AS} {B : Sy} {k x : Nat} {h : Nat → AS} {y r bln nx cn li sct pct : Int32} {btk rli rsct rpct stk sle ye re ptk ple co : Nat → Int32} {rstk rsle rye rre rptk rple rco : Nat → Nat → Int32} {post : Int32 → Int32 → Int32 → (Nat → Int32) → (Nat → Int32) → (Nat → Int32) → (Nat → Int32) → Int32 → Int32 → (Nat → Int32) → (Nat → Int32) → (Nat → Nat → Int32) → (Nat → Nat → Int32) → (Nat → Nat → Int32) → (Nat → Nat → Int32) → (Nat → Int32) → (Nat → Nat → Int32) → (Nat → Nat → Int32) → (Nat → Nat → Int32) → Prop} (hV : VA A) (hR : RC A li sct stk sle ye re pct ptk ple co) (hH : HC k x h nx cn rli rsct rstk rsle rye rre rpct rptk rple rco) (hB : RQ B bln btk) (b8 : B.1 ≤ 8) (bt : ∀ j, j < B.1 → B.2 j ≤ 64)
    (h0 : eAdd A B y r ≠ 0 → post (eAdd A B y r) bln sct stk sle ye re nx cn rli rsct rstk rsle rye rre rpct rptk rple rco)
    (h1 : eAdd A B y r = 0 → ∀ sct' stk' sle' ye' re' nx' cn' rli' rsct' rstk' rsle' rye' rre' rpct' rptk' rple' rco', RC (addS A B y r.toNatClampNeg) li sct' stk' sle' ye' re' pct ptk ple co → HC (min (k + 1) 5) ((x + 1) % 5) (hsh A h) nx' cn' rli' rsct' rstk' rsle' rye' rre' rpct' rptk' rple' rco' → post (nI A.nS) 0 sct' stk' sle' ye' re' nx' cn' rli' rsct' rstk' rsle' rye' rre' rpct' rptk' rple' rco') :
    P_X8_addSaying y r bln btk li sct stk sle ye re pct ptk ple co nx cn rli rsct rstk rsle rye rre rpct rptk rple rco post := by
  have h12 := hV.1
  have e10 : ∀ {z : Int32}, z ≤ (9 : Int32) ↔ ¬ nI 10 ≤ z := by
    intro z
    have e1 : (9 : Int32).toInt = 9 := rfl
    have e2 : (nI 10).toInt = 10 := rfl
    rw [Int32.le_iff_toInt_le, Int32.le_iff_toInt_le, e1, e2]
    omega
  have bad : ¬ (isYr y ∧ isRow 10 r) → post (-1) bln sct stk sle ye re nx cn rli rsct rstk rsle rye rre rpct rptk rple rco := by
    intro c
    unfold eAdd at h0
    rw [if_neg c] at h0
    exact h0 (by decide)
  unfold P_X8_addSaying
  refine ⟨fun c => bad (fun z => z.1.1 c), fun c1 => ⟨fun c => bad (fun z => z.1.2 c), fun c2 => ⟨fun c => bad (fun z => not_row (by omega) (Or.inl c) z.2), fun c3 => ⟨fun c4 => ?_, fun c => bad (fun z => not_row (by omega) (Or.inr (Classical.byContradiction (fun y => c (e10.mpr y)))) z.2)⟩⟩⟩⟩
  obtain ⟨g, hg, rfl⟩ := nI_below (m := 10) (by omega) c3 (e10.mp c4)
  unfold eAdd at h0 h1
  rw [if_pos ⟨⟨c1, c2⟩, ⟨g, hg, rfl⟩⟩] at h0 h1
  rw [nI_clamp (by omega)] at h1
  rw [hB.1, iL0, nI_eq (by omega) (by omega)]
  refine ⟨fun c => ?_, fun c => s_wordCount ⟨rfl, hB.2⟩ b8 bt ?_⟩
  · rw [if_neg (fun z : okB B => absurd z.1 (by omega)), hB.1] at h0
    exact h0 (by decide)
  · have hl := tcn_le B 0 59 B.1
    rw [nI_leI (by omega) (by omega), tcn_full]
    refine ⟨fun w => ?_, fun w => ?_⟩
    · have ok : okB B := ⟨by omega, w⟩
      rw [if_pos ok] at h0 h1
      unfold P_X6_isFull
      rw [hR.1.1, iL12, nI_ltI (by omega) (by omega)]
      refine ⟨fun d => ⟨fun _ => ?_, fun z => absurd rfl z⟩, fun d => ⟨fun z => absurd z (by decide), fun _ => ?_⟩⟩
      · rw [if_neg (by omega)] at h1
        rw [← hR.1.1, ← hB.1]
        exact s_keep hV hR hH (fun nx' cn' rli' rsct' rstk' rsle' rye' rre' rpct' rptk' rple' rco' hH' => s_takeSaying hV hR d hB b8 (fun sct' stk' sle' ye' re' hR' => h1 rfl sct' stk' sle' ye' re' nx' cn' rli' rsct' rstk' rsle' rye' rre' rpct' rptk' rple' rco' hR' hH'))
      · rw [if_pos (show A.nS = 12 by omega), hB.1, hR.1.1] at h0
        exact h0 (by decide)
    · rw [if_neg (fun z : okB B => w z.2), hB.1] at h0
      exact h0 (by decide)
theorem s_removeSaying {A : AS} {k x : Nat} {h : Nat → AS} {z nx cn li sct pct : Int32} {rli rsct rpct stk sle ye re ptk ple co : Nat → Int32} {rstk rsle rye rre rptk rple rco : Nat → Nat → Int32} {post : Int32 → Int32 → (Nat → Int32) → (Nat → Int32) → (Nat → Int32) → (Nat → Int32) → Int32 → Int32 → (Nat → Int32) → (Nat → Int32) → (Nat → Nat → Int32) → (Nat → Nat → Int32) → (Nat → Nat → Int32) → (Nat → Nat → Int32) → (Nat → Int32) → (Nat → Nat → Int32) → (Nat → Nat → Int32) → (Nat → Nat → Int32) → Prop} (hV : VA A) (hR : RC A li sct stk sle ye re pct ptk ple co) (hH : HC k x h nx cn rli rsct rstk rsle rye rre rpct rptk rple rco)
    (h0 : ¬ isRow A.nS z → post (-1) sct stk sle ye re nx cn rli rsct rstk rsle rye rre rpct rptk rple rco)
    (h1 : isRow A.nS z → ∀ sct' stk' sle' ye' re' nx' cn' rli' rsct' rstk' rsle' rye' rre' rpct' rptk' rple' rco', RC (delS A z.toNatClampNeg) li sct' stk' sle' ye' re' pct ptk ple co → HC (min (k + 1) 5) ((x + 1) % 5) (hsh A h) nx' cn' rli' rsct' rstk' rsle' rye' rre' rpct' rptk' rple' rco' → post (nI (A.nS - 1)) sct' stk' sle' ye' re' nx' cn' rli' rsct' rstk' rsle' rye' rre' rpct' rptk' rple' rco') :
    P_X8_removeSaying z li sct stk sle ye re pct ptk ple co nx cn rli rsct rstk rsle rye rre rpct rptk rple rco post := by
  have h12 := hV.1
  have e := hR.1.1
  unfold P_X8_removeSaying
  rcases row_or z (n := A.nS) (by omega) with c | ⟨s, hs, rfl⟩
  · rw [e] at h0 ⊢
    exact s_has_no c ⟨fun w => absurd rfl w, fun _ => h0 (not_row (by omega) c)⟩
  · have h2 := h1 ⟨s, hs, rfl⟩
    rw [nI_clamp (by omega)] at h2
    have hy : ∀ p : Int32 → Prop, p 1 → P_X6_has (12 : Int32) 96 12 (nI s) sct p := by
      intro p hp
      rw [e]
      exact s_has_yes hs (by omega) hp
    refine hy _ ⟨fun _ => ?_, fun w => absurd w (by decide)⟩
    exact s_keep hV hR hH (fun nx' cn' rli' rsct' rstk' rsle' rye' rre' rpct' rptk' rple' rco' hH' => s_dropSaying hV hR hs (fun stk' sle' ye' re' hR' => h2 _ stk' sle' ye' re' nx' cn' rli' rsct' rstk' rsle' rye' rre' rpct' rptk' rple' rco' hR' hH'))
def isCv (v : Int32) : Prop := ¬ v < (1 : Int32) ∧ v ≤ (9 : Int32)
theorem isCv_n {v : Int32} (h : isCv v) : ∃ n : Nat, 1 ≤ n ∧ n ≤ 9 ∧ v = nI n := by
  have h1 := h.1
  have h2 := h.2
  have a1 : (1 : Int32).toInt = 1 := rfl
  have a9 : (9 : Int32).toInt = 9 := rfl
  rw [Int32.lt_iff_toInt_lt, a1] at h1
  rw [Int32.le_iff_toInt_le, a9] at h2
  refine ⟨v.toInt.toNat, by omega, by omega, ?_⟩
  apply Int32.toInt_inj.mp
  rw [nI_toInt (by omega)]
  omega
theorem s_setCost {A : AS} {k x : Nat} {h : Nat → AS} {z v nx cn li sct pct : Int32} {rli rsct rpct stk sle ye re ptk ple co : Nat → Int32} {rstk rsle rye rre rptk rple rco : Nat → Nat → Int32} {post : Int32 → (Nat → Int32) → Int32 → Int32 → (Nat → Int32) → (Nat → Int32) → (Nat → Nat → Int32) → (Nat → Nat → Int32) → (Nat → Nat → Int32) → (Nat → Nat → Int32) → (Nat → Int32) → (Nat → Nat → Int32) → (Nat → Nat → Int32) → (Nat → Nat → Int32) → Prop} (hV : VA A) (hR : RC A li sct stk sle ye re pct ptk ple co) (hH : HC k x h nx cn rli rsct rstk rsle rye rre rpct rptk rple rco)
    (h0 : ¬ (isRow 4 z ∧ isCv v) → post (-1) co nx cn rli rsct rstk rsle rye rre rpct rptk rple rco)
    (h1 : isRow 4 z ∧ isCv v → ∀ co' nx' cn' rli' rsct' rstk' rsle' rye' rre' rpct' rptk' rple' rco', RC (stC A z.toNatClampNeg v.toNatClampNeg) li sct stk sle ye re pct ptk ple co' → HC (min (k + 1) 5) ((x + 1) % 5) (hsh A h) nx' cn' rli' rsct' rstk' rsle' rye' rre' rpct' rptk' rple' rco' → post (nI (A.co z.toNatClampNeg)) co' nx' cn' rli' rsct' rstk' rsle' rye' rre' rpct' rptk' rple' rco') :
    P_X8_setCost z v li sct stk sle ye re pct ptk ple co nx cn rli rsct rstk rsle rye rre rpct rptk rple rco post := by
  unfold P_X8_setCost
  refine ⟨fun c => h0 (fun w => not_row (by omega) (Or.inl c) w.1), fun c1 => ⟨fun c => h0 (fun w => not_row (n := 4) (by omega) (Or.inr c) w.1), fun c2 => ⟨fun c => h0 (fun w => w.2.1 c), fun c3 => ⟨fun c4 => ?_, fun c => h0 (fun w => c w.2.2)⟩⟩⟩⟩
  obtain ⟨i, hi, rfl⟩ := nI_below (m := 4) (by omega) c1 c2
  have h2 := h1 ⟨⟨i, hi, rfl⟩, c3, c4⟩
  obtain ⟨n, n1, n9, rfl⟩ := isCv_n ⟨c3, c4⟩
  rw [nI_clamp (by omega), nI_clamp (by omega)] at h2
  rw [nI_clamp (by omega)]
  refine s_keep hV hR hH (fun nx' cn' rli' rsct' rstk' rsle' rye' rre' rpct' rptk' rple' rco' hH' => ⟨(vpi (by omega)).mpr hi, (vpi (by omega)).mpr hi, ?_⟩)
  rw [hR.2.2.2.1 i hi]
  refine h2 _ nx' cn' rli' rsct' rstk' rsle' rye' rre' rpct' rptk' rple' rco' ⟨hR.1, hR.2.1, hR.2.2.1, fun j hj => ?_, hR.2.2.2.2⟩ hH'
  show upd co i (nI n) j = nI (if j = i then n else A.co j)
  by_cases e : j = i
  · rw [if_pos e, e, pk_us]
  · rw [if_neg e, pk_un e]
    exact hR.2.2.2.1 j hj
theorem s_setLimit {A : AS} {k x : Nat} {h : Nat → AS} {v nx cn li sct pct : Int32} {rli rsct rpct stk sle ye re ptk ple co : Nat → Int32} {rstk rsle rye rre rptk rple rco : Nat → Nat → Int32} {post : Int32 → Int32 → Int32 → Int32 → (Nat → Int32) → (Nat → Int32) → (Nat → Nat → Int32) → (Nat → Nat → Int32) → (Nat → Nat → Int32) → (Nat → Nat → Int32) → (Nat → Int32) → (Nat → Nat → Int32) → (Nat → Nat → Int32) → (Nat → Nat → Int32) → Prop} (hV : VA A) (hR : RC A li sct stk sle ye re pct ptk ple co) (hH : HC k x h nx cn rli rsct rstk rsle rye rre rpct rptk rple rco)
    (h0 : ¬ isRow 21 v → post (-1) li nx cn rli rsct rstk rsle rye rre rpct rptk rple rco)
    (h1 : isRow 21 v → ∀ li' nx' cn' rli' rsct' rstk' rsle' rye' rre' rpct' rptk' rple' rco', RC (stL A v.toNatClampNeg) li' sct stk sle ye re pct ptk ple co → HC (min (k + 1) 5) ((x + 1) % 5) (hsh A h) nx' cn' rli' rsct' rstk' rsle' rye' rre' rpct' rptk' rple' rco' → post (nI A.li) li' nx' cn' rli' rsct' rstk' rsle' rye' rre' rpct' rptk' rple' rco') :
    P_X8_setLimit v li sct stk sle ye re pct ptk ple co nx cn rli rsct rstk rsle rye rre rpct rptk rple rco post := by
  have e21 : ∀ {y : Int32}, y ≤ (20 : Int32) ↔ ¬ nI 21 ≤ y := by
    intro y
    have e1 : (20 : Int32).toInt = 20 := rfl
    have e2 : (nI 21).toInt = 21 := rfl
    rw [Int32.le_iff_toInt_le, Int32.le_iff_toInt_le, e1, e2]
    omega
  unfold P_X8_setLimit
  refine ⟨fun c => h0 (not_row (by omega) (Or.inl c)), fun c1 => ⟨fun c2 => ?_, fun c => h0 (not_row (by omega) (Or.inr (Classical.byContradiction (fun y => c (e21.mpr y)))))⟩⟩
  obtain ⟨n, hn, rfl⟩ := nI_below (m := 21) (by omega) c1 (e21.mp c2)
  have h2 := h1 ⟨n, hn, rfl⟩
  rw [nI_clamp (by omega)] at h2
  refine s_keep hV hR hH (fun nx' cn' rli' rsct' rstk' rsle' rye' rre' rpct' rptk' rple' rco' hH' => ?_)
  have t := h2 (nI n) nx' cn' rli' rsct' rstk' rsle' rye' rre' rpct' rptk' rple' rco' ⟨hR.1, hR.2.1, hR.2.2.1, hR.2.2.2.1, rfl⟩ hH'
  rw [← hR.2.2.2.2] at t
  exact t
noncomputable def eAP (A : AS) (B : Sy) : Int32 := if B.1 = 0 then -2 else if A.nP = 6 then -3 else 0
