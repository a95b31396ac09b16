/-! ===== the reference: the changes ===== -/
theorem RM_mk {A : AS} {f : Nat → Int32} (h0 : f 0 = nI A.nS) (h1 : ∀ s, s < A.nS → f (1 + s) = nI (A.sy s).1 ∧ ∀ j, j < (A.sy s).1 → f (13 + (8 * s + j)) = nI ((A.sy s).2 j)) (h2 : ∀ s, s < A.nS → f (109 + s) = A.yr s ∧ f (121 + s) = nI (A.rg s)) (h3 : f 133 = nI A.nP) (h4 : ∀ p, p < A.nP → f (134 + p) = nI (A.pt p).1 ∧ ∀ j, j < (A.pt p).1 → f (140 + (8 * p + j)) = nI ((A.pt p).2 j)) (h5 : ∀ i, i < 4 → f (188 + i) = nI (A.co i)) (h6 : f 192 = nI A.li) : RM A 0 f := by
  refine ⟨⟨h0, fun s hs => ?_⟩, fun s hs => ?_, ⟨?_, fun p hp => ?_⟩, fun i hi => ?_, ?_⟩
  · dsimp only
    rw [Nat.zero_add, Nat.zero_add]
    exact h1 s hs
  · dsimp only
    rw [Nat.zero_add, Nat.zero_add]
    exact h2 s hs
  · rw [Nat.zero_add]
    exact h3
  · dsimp only
    rw [Nat.zero_add, Nat.zero_add]
    exact h4 p hp
  · dsimp only
    rw [Nat.zero_add]
    exact h5 i hi
  · rw [Nat.zero_add]
    exact h6
theorem RM_yr {A : AS} {now : Nat → Int32} (h : RM A 0 now) {s : Nat} (hs : s < A.nS) : now (109 + s) = A.yr s ∧ now (121 + s) = nI (A.rg s) := by
  have t := h.2.1 s hs
  dsimp only at t
  rw [Nat.zero_add, Nat.zero_add] at t
  exact t
theorem RM_0 {A : AS} {now : Nat → Int32} (h : RM A 0 now) : now 0 = nI A.nS := h.1.1
theorem RM_133 {A : AS} {now : Nat → Int32} (h : RM A 0 now) : now 133 = nI A.nP := h.2.2.1.1
theorem RM_192 {A : AS} {now : Nat → Int32} (h : RM A 0 now) : now 192 = nI A.li := h.2.2.2.2
theorem m_yr {y : Int32} {post : Int32 → Prop} (h1 : isYr y → post 1) (h0 : ¬ isYr y → post 0) : P_X9_in (Int32.toInt64 y) (-3000 : Int64) (2100 : Int64) post := by
  have e1 : (-3000 : Int64) ≤ Int32.toInt64 y ↔ ¬ y < (-3000 : Int32) := by
    have a1 : (-3000 : Int64).toInt = -3000 := rfl
    have a2 : (-3000 : Int32).toInt = -3000 := rfl
    rw [Int64.le_iff_toInt_le, Int32.toInt_toInt64, a1, Int32.lt_iff_toInt_lt, a2]
    omega
  have e2 : Int32.toInt64 y ≤ (2100 : Int64) ↔ ¬ (2100 : Int32) < y := by
    have a1 : (2100 : Int64).toInt = 2100 := rfl
    have a2 : (2100 : Int32).toInt = 2100 := rfl
    rw [Int64.le_iff_toInt_le, Int32.toInt_toInt64, a1, Int32.lt_iff_toInt_lt, a2]
    omega
  unfold P_X9_in
  refine ⟨fun c => h0 (fun z => ?_), fun c => ⟨fun c2 => h0 (fun z => ?_), fun c2 => h1 ⟨?_, ?_⟩⟩⟩
  · exact absurd ((lg_cmp_ge _ _).mpr (e1.mpr z.1)) (Int32.not_le.mpr c)
  · exact absurd ((lg_cmp_le _ _).mpr (e2.mpr z.2)) (Int32.not_le.mpr c2)
  · exact e1.mp ((lg_cmp_ge _ _).mp (Int32.not_lt.mp c))
  · exact e2.mp ((lg_cmp_le _ _).mp (Int32.not_lt.mp c2))
theorem m_cv {y : Int32} {post : Int32 → Prop} (h1 : isCv y → post 1) (h0 : ¬ isCv y → post 0) : P_X9_in (Int32.toInt64 y) (1 : Int64) (9 : Int64) post := by
  have e1 : (1 : Int64) ≤ Int32.toInt64 y ↔ ¬ y < (1 : Int32) := by
    have a1 : (1 : Int64).toInt = 1 := rfl
    have a2 : (1 : Int32).toInt = 1 := rfl
    rw [Int64.le_iff_toInt_le, Int32.toInt_toInt64, a1, Int32.lt_iff_toInt_lt, a2]
    omega
  have e2 : Int32.toInt64 y ≤ (9 : Int64) ↔ y ≤ (9 : Int32) := by
    have a1 : (9 : Int64).toInt = 9 := rfl
    have a2 : (9 : Int32).toInt = 9 := rfl
    rw [Int64.le_iff_toInt_le, Int32.toInt_toInt64, a1, Int32.le_iff_toInt_le, a2]
  unfold P_X9_in
  refine ⟨fun c => h0 (fun z => ?_), fun c => ⟨fun c2 => h0 (fun z => ?_), fun c2 => h1 ⟨?_, ?_⟩⟩⟩
  · exact absurd ((lg_cmp_ge _ _).mpr (e1.mpr z.1)) (Int32.not_le.mpr c)
  · exact absurd ((lg_cmp_le _ _).mpr (e2.mpr z.2)) (Int32.not_le.mpr c2)
  · exact e1.mp ((lg_cmp_ge _ _).mp (Int32.not_lt.mp c))
  · exact e2.mp ((lg_cmp_le _ _).mp (Int32.not_lt.mp c2))
theorem m_in9 {x : Int32} {post : Int32 → Prop} (h1 : ∀ s, s < 10 → x = nI s → post 1) (h0 : x < 0 ∨ nI 10 ≤ x → post 0) : P_X9_in (Int32.toInt64 x) (0 : Int64) (9 : Int64) post := m_in (n := 10) (by omega) h1 h0
/-- whether all words so far are words -/
theorem m_add_44 {B : Sy} {mt : Int32} {buf : Nat → Int32} {K : Int32 → Int32 → Prop} (hB : RQ B mt buf) (b8 : B.1 ≤ 8) (bt : ∀ j, j < B.1 → B.2 j ≤ 64) : ∀ (d i : Nat) (v : Int32), i + d = B.1 → (v = 0 ∨ v = 1) → (v = 1 → (∀ j, i ≤ j → j < B.1 → B.2 j < 60) → ∀ w, K w 1) → ((v = 0 ∨ ¬ ∀ j, i ≤ j → j < B.1 → B.2 j < 60) → ∀ w, K w 0) → P_X9_addSaying_44 mt buf K (d + 1) (nI i) v := by
  intro d
  induction d with
  | zero =>
    intro i v hi hv h1 h0
    show B_X9_addSaying_44 mt buf K _ (nI i) v
    unfold B_X9_addSaying_44
    have e : i = B.1 := by omega
    subst e
    rw [hB.1]
    refine ⟨fun _ => ?_, fun z => absurd (Int32.le_refl _) z⟩
    rcases hv with rfl | rfl
    · exact h0 (Or.inl rfl) _
    · exact h1 rfl (fun j hj hj2 => by omega) _
  | succ d ih =>
    intro i v hi hv h1 h0
    have ht := bt i (by omega)
    have go : ∀ v', (v' = 0 ∨ v' = 1) → (v' = 1 ↔ v = 1 ∧ B.2 i < 60) → P_X9_addSaying_44 mt buf K (d + 1) (nI (i + 1)) v' := by
      intro v' hv' hiff
      refine ih (i + 1) v' (by omega) hv' (fun e all => ?_) (fun c => ?_)
      · obtain ⟨a, b⟩ := hiff.mp e
        refine h1 a (fun j hj hj2 => ?_)
        by_cases ej : j = i
        · rw [ej]
          exact b
        · exact all j (by omega) hj2
      · refine h0 ?_
        rcases hv with e | e
        · exact Or.inl e
        · refine Or.inr (fun all => ?_)
          have e1 := hiff.mpr ⟨e, all i (Nat.le_refl _) (by omega)⟩
          rcases c with c | c
          · rw [e1] at c
            exact absurd c (by decide)
          · exact c (fun j hj hj2 => all j (by omega) hj2)
    show B_X9_addSaying_44 mt buf K (P_X9_addSaying_44 mt buf K (d + 1)) (nI i) v
    unfold B_X9_addSaying_44
    rw [nI_1, nI_clamp (by omega), hB.2 i (by omega), iL60, nI_leI (a := 60) (by omega) (by omega)]
    refine ⟨fun z => ?_, fun _ => ⟨fun z => go 0 (Or.inl rfl) ⟨fun y => absurd y (by decide), fun y => ?_⟩, fun z => ⟨(vpi (by omega)).mpr (by omega), fun c => go 0 (Or.inl rfl) ⟨fun y => absurd y (by decide), fun y => by omega⟩, fun c => go 1 (Or.inr rfl) ⟨fun _ => ⟨?_, by omega⟩, fun _ => rfl⟩⟩⟩⟩
    · rw [hB.1, nI_leI (by omega) (by omega)] at z
      omega
    · rw [z] at y
      exact absurd y.1 (by decide)
    · exact hv.resolve_left z
theorem m_copy_162 {n : Nat} {B : Sy} {mt : Int32} {buf f0 : Nat → Int32} {K : Int32 → (Nat → Int32) → Prop} (hn : n < 12) (hB : RQ B mt buf) (b8 : B.1 ≤ 8) (hK : ∀ v f, (∀ j, j < B.1 → f (13 + (8 * n + j)) = nI (B.2 j)) → (∀ i, i < 13 + 8 * n ∨ 13 + 8 * n + 8 ≤ i → f i = f0 i) → K v f) : ∀ (d k : Nat) (f : Nat → Int32), k + d = B.1 → (∀ j, j < k → f (13 + (8 * n + j)) = nI (B.2 j)) → (∀ i, i < 13 + 8 * n ∨ 13 + 8 * n + 8 ≤ i → f i = f0 i) → P_X9_addSaying_162 (nI n) mt buf K (d + 1) (nI k) f := by
  intro d
  induction d with
  | zero =>
    intro k f hk h1 h2
    show B_X9_addSaying_162 (nI n) mt buf K _ (nI k) f
    unfold B_X9_addSaying_162
    have e : k = B.1 := by omega
    subst e
    rw [hB.1]
    exact ⟨fun _ => hK _ f h1 h2, fun z => absurd (Int32.le_refl _) z⟩
  | succ d ih =>
    intro k f hk h1 h2
    have eB : ((13 : Int32) + ((8 : Int32) * nI n)) + nI k = nI (13 + (8 * n + k)) := by rw [iL13, iL8, pk_mul, nI_add, nI_add, Nat.add_assoc]
    show B_X9_addSaying_162 (nI n) mt buf K (P_X9_addSaying_162 (nI n) mt buf K (d + 1)) (nI k) f
    unfold B_X9_addSaying_162
    rw [eB, nI_clamp (n := 13 + (8 * n + k)) (by omega), nI_clamp (n := k) (by omega), nI_1, hB.2 k (by omega)]
    refine ⟨fun z => ?_, fun _ => ⟨(vpi (by omega)).mpr (by omega), (vpi (by omega)).mpr (by omega), ih (k + 1) _ (by omega) (fun j hj => ?_) (fun i hi => ?_)⟩⟩
    · rw [hB.1, nI_leI (by omega) (by omega)] at z
      omega
    · by_cases e : j = k
      · rw [e, pk_us]
      · rw [pk_un (by omega)]
        exact h1 j (by omega)
    · rw [pk_un (by omega)]
      exact h2 i hi
theorem m_copy_67 {n : Nat} {B : Sy} {mt : Int32} {buf f0 : Nat → Int32} {K : Int32 → (Nat → Int32) → Prop} (hn : n < 6) (hB : RQ B mt buf) (b8 : B.1 ≤ 8) (hK : ∀ v f, (∀ j, j < B.1 → f (140 + (8 * n + j)) = nI (B.2 j)) → (∀ i, i < 140 + 8 * n ∨ 140 + 8 * n + 8 ≤ i → f i = f0 i) → K v f) : ∀ (d k : Nat) (f : Nat → Int32), k + d = B.1 → (∀ j, j < k → f (140 + (8 * n + j)) = nI (B.2 j)) → (∀ i, i < 140 + 8 * n ∨ 140 + 8 * n + 8 ≤ i → f i = f0 i) → P_X9_addPattern_67 (nI n) mt buf K (d + 1) (nI k) f := by
  intro d
  induction d with
  | zero =>
    intro k f hk h1 h2
    show B_X9_addPattern_67 (nI n) mt buf K _ (nI k) f
    unfold B_X9_addPattern_67
    have e : k = B.1 := by omega
    subst e
    rw [hB.1]
    exact ⟨fun _ => hK _ f h1 h2, fun z => absurd (Int32.le_refl _) z⟩
  | succ d ih =>
    intro k f hk h1 h2
    have eB : ((140 : Int32) + ((8 : Int32) * nI n)) + nI k = nI (140 + (8 * n + k)) := by rw [iL140, iL8, pk_mul, nI_add, nI_add, Nat.add_assoc]
    show B_X9_addPattern_67 (nI n) mt buf K (P_X9_addPattern_67 (nI n) mt buf K (d + 1)) (nI k) f
    unfold B_X9_addPattern_67
    rw [eB, nI_clamp (n := 140 + (8 * n + k)) (by omega), nI_clamp (n := k) (by omega), nI_1, hB.2 k (by omega)]
    refine ⟨fun z => ?_, fun _ => ⟨(vpi (by omega)).mpr (by omega), (vpi (by omega)).mpr (by omega), ih (k + 1) _ (by omega) (fun j hj => ?_) (fun i hi => ?_)⟩⟩
    · rw [hB.1, nI_leI (by omega) (by omega)] at z
      omega
    · by_cases e : j = k
      · rw [e, pk_us]
      · rw [pk_un (by omega)]
        exact h1 j (by omega)
    · rw [pk_un (by omega)]
      exact h2 i hi
theorem m_addSaying {A : AS} {B : Sy} {k : Nat} {h : Nat → AS} {y r um mt n1 n2 me mg : Int32} {now before buf : Nat → Int32} {post : Int32 → (Nat → Int32) → (Nat → Int32) → Int32 → Int32 → Prop} (hV : VA A) (hv : ∀ j, j < k → VA (h j)) (hk : k ≤ 5) (hM : RM A 0 now) (hH : HM k h before um) (hB : RQ B mt buf) (b8 : B.1 ≤ 8) (bt : ∀ j, j < B.1 → B.2 j ≤ 64)
    (h0 : eAdd A B y r ≠ 0 → post (eAdd A B y r) now before um mt)
    (h1 : eAdd A B y r = 0 → ∀ now' bef' um', RM (addS A B y r.toNatClampNeg) 0 now' → HM (min (k + 1) 5) (hsh A h) bef' um' → post (nI A.nS) now' bef' um' 0) :
    P_X9_addSaying y r now before um mt buf n1 n2 me mg post := by
  have h12 := hV.1
  have e0 : now (Int32.toNatClampNeg (0 : Int32)) = nI A.nS := hM.1.1
  have bad : ¬ (isYr y ∧ isRow 10 r) → post (-1) now before um mt := by
    intro c
    unfold eAdd at h0
    rw [if_neg c] at h0
    exact h0 (by decide)
  unfold P_X9_addSaying
  refine m_yr (fun c1 => ⟨fun z => absurd z (by decide), fun _ => m_in9 (fun g hg hr => ⟨fun _ => ?_, fun z => absurd z (by decide)⟩) (fun c => ⟨fun z => absurd rfl z, fun _ => bad (fun z => not_row (by omega) c z.2)⟩)⟩) (fun c => ⟨fun _ => bad (fun z => c z.1), fun z => absurd rfl z⟩)
  subst hr
  unfold eAdd at h0 h1
  rw [if_pos ⟨c1, ⟨g, hg, rfl⟩⟩] at h0 h1
  rw [nI_clamp (by omega)] at h1
  have no : ¬ okB B → post (-2) now before um mt := by
    intro c
    rw [if_neg c] at h0
    exact h0 (by decide)
  have go : okB B → (¬ (now (Int32.toNatClampNeg (0 : Int32))) = (12 : Int32) → (P_X9_keeps now before um mt n1 n2 me mg (fun u4 u5 => vp_in ((1 : Int32) + (now (Int32.toNatClampNeg (0 : Int32)))) 193 ∧ (vp_in ((109 : Int32) + (now (Int32.toNatClampNeg (0 : Int32)))) 193 ∧ (vp_in ((121 : Int32) + (now (Int32.toNatClampNeg (0 : Int32)))) 193 ∧ (∃ n : Nat, P_X9_addSaying_162 (now (Int32.toNatClampNeg (0 : Int32))) mt buf (fun w5_7 mnow_7 => post (now (Int32.toNatClampNeg (0 : Int32))) mnow_7 u4 u5 (0 : Int32)) n (0 : Int32) (upd (upd (upd (upd now (Int32.toNatClampNeg (0 : Int32)) ((now (Int32.toNatClampNeg (0 : Int32))) + (1 : Int32))) (Int32.toNatClampNeg ((1 : Int32) + (now (Int32.toNatClampNeg (0 : Int32))))) mt) (Int32.toNatClampNeg ((109 : Int32) + (now (Int32.toNatClampNeg (0 : Int32))))) y) (Int32.toNatClampNeg ((121 : Int32) + (now (Int32.toNatClampNeg (0 : Int32))))) (nI g)))))))) ∧ ((now (Int32.toNatClampNeg (0 : Int32))) = (12 : Int32) → post (-3 : Int32) now before um mt) := by
    intro ok
    rw [if_pos ok] at h0 h1
    rw [e0, iL12, nI_eq (by omega) (by omega)]
    refine ⟨fun c => ?_, fun c => ?_⟩
    · rw [if_neg c] at h1
      have e1 : (1 : Int32) + nI A.nS = nI (1 + A.nS) := by rw [iL1, nI_add]
      have e109 : (109 : Int32) + nI A.nS = nI (109 + A.nS) := by rw [iL109, nI_add]
      have e121 : (121 : Int32) + nI A.nS = nI (121 + A.nS) := by rw [iL121, nI_add]
      have c0 : Int32.toNatClampNeg (0 : Int32) = 0 := rfl
      rw [e1, e109, e121, c0, nI_clamp (n := 1 + A.nS) (by omega), nI_clamp (n := 109 + A.nS) (by omega), nI_clamp (n := 121 + A.nS) (by omega), nI_1]
      refine m_keeps hV hv hk hM hH (fun bef' um' hH' => ⟨(vpi (by omega)).mpr (by omega), (vpi (by omega)).mpr (by omega), (vpi (by omega)).mpr (by omega), B.1 + 1, ?_⟩)
      refine m_copy_162 (f0 := upd (upd (upd (upd now 0 (nI (A.nS + 1))) (1 + A.nS) mt) (109 + A.nS) y) (121 + A.nS) (nI g)) (by omega) hB b8 (fun v f a1 a2 => h1 rfl f bef' um' (RM_mk ?_ (fun s hs => ?_) (fun s hs => ?_) ?_ (fun p hp => ?_) (fun i hi => ?_) ?_) hH') B.1 0 _ (by omega) (fun j hj => absurd hj (Nat.not_lt_zero j)) (fun _ _ => rfl)
      · rw [a2 0 (by omega), pk_un (by omega), pk_un (by omega), pk_un (by omega), pk_us]
        rfl
      · have hs' : s < A.nS + 1 := hs
        show f (1 + s) = nI (if s = A.nS then B else A.sy s).1 ∧ ∀ j, j < (if s = A.nS then B else A.sy s).1 → f (13 + (8 * s + j)) = nI ((if s = A.nS then B else A.sy s).2 j)
        by_cases e : s = A.nS
        · rw [if_pos e, e, a2 _ (by omega), pk_un (by omega), pk_un (by omega), pk_us, hB.1]
          exact ⟨rfl, a1⟩
        · have t := RM_sy hM (show s < A.nS by omega)
          have h8 := VA_s8 hV s (by omega)
          rw [if_neg e, a2 _ (by omega), pk_un (by omega), pk_un (by omega), pk_un (by omega), pk_un (by omega)]
          refine ⟨t.1, fun j hj => ?_⟩
          rw [a2 _ (by omega), pk_un (by omega), pk_un (by omega), pk_un (by omega), pk_un (by omega)]
          exact t.2 j hj
      · have hs' : s < A.nS + 1 := hs
        show f (109 + s) = (if s = A.nS then y else A.yr s) ∧ f (121 + s) = nI (if s = A.nS then g else A.rg s)
        by_cases e : s = A.nS
        · rw [if_pos e, if_pos e, e, a2 _ (by omega), a2 _ (by omega), pk_un (by omega), pk_us, pk_us]
          exact ⟨rfl, rfl⟩
        · rw [if_neg e, if_neg e, a2 _ (by omega), a2 _ (by omega), pk_un (by omega), pk_un (by omega), pk_un (by omega), pk_un (by omega), pk_un (by omega), pk_un (by omega), pk_un (by omega), pk_un (by omega)]
          exact RM_yr (A := A) hM (by omega)
      · rw [a2 133 (by omega), pk_un (by omega), pk_un (by omega), pk_un (by omega), pk_un (by omega)]
        exact RM_133 (A := A) hM
      · have h6 := hV.2.2.1
        have hp' : p < A.nP := hp
        have t := RM_pt hM hp'
        have h8 := VA_p8 hV p hp'
        show f (134 + p) = nI (A.pt p).1 ∧ ∀ j, j < (A.pt p).1 → f (140 + (8 * p + j)) = nI ((A.pt p).2 j)
        rw [a2 _ (by omega), pk_un (by omega), pk_un (by omega), pk_un (by omega), pk_un (by omega)]
        refine ⟨t.1, fun j hj => ?_⟩
        rw [a2 _ (by omega), pk_un (by omega), pk_un (by omega), pk_un (by omega), pk_un (by omega)]
        exact t.2 j hj
      · rw [a2 _ (by omega), pk_un (by omega), pk_un (by omega), pk_un (by omega), pk_un (by omega)]
        exact RM_co (A := A) hM hi
      · rw [a2 192 (by omega), pk_un (by omega), pk_un (by omega), pk_un (by omega), pk_un (by omega)]
        exact RM_192 (A := A) hM
    · rw [if_pos c] at h0
      exact h0 (by decide)
  have all : ∀ v, (v = 0 ∨ v = 1) → (v = 1 ↔ 0 < B.1) → P_X9_addSaying_44 mt buf (fun w4_3 w3_3 => (¬ w3_3 = 0 → ((¬ (now (Int32.toNatClampNeg (0 : Int32))) = (12 : Int32) → (P_X9_keeps now before um mt n1 n2 me mg (fun u4 u5 => vp_in ((1 : Int32) + (now (Int32.toNatClampNeg (0 : Int32)))) 193 ∧ (vp_in ((109 : Int32) + (now (Int32.toNatClampNeg (0 : Int32)))) 193 ∧ (vp_in ((121 : Int32) + (now (Int32.toNatClampNeg (0 : Int32)))) 193 ∧ (∃ n : Nat, P_X9_addSaying_162 (now (Int32.toNatClampNeg (0 : Int32))) mt buf (fun w5_7 mnow_7 => post (now (Int32.toNatClampNeg (0 : Int32))) mnow_7 u4 u5 (0 : Int32)) n (0 : Int32) (upd (upd (upd (upd now (Int32.toNatClampNeg (0 : Int32)) ((now (Int32.toNatClampNeg (0 : Int32))) + (1 : Int32))) (Int32.toNatClampNeg ((1 : Int32) + (now (Int32.toNatClampNeg (0 : Int32))))) mt) (Int32.toNatClampNeg ((109 : Int32) + (now (Int32.toNatClampNeg (0 : Int32))))) y) (Int32.toNatClampNeg ((121 : Int32) + (now (Int32.toNatClampNeg (0 : Int32))))) (nI g)))))))) ∧ ((now (Int32.toNatClampNeg (0 : Int32))) = (12 : Int32) → post (-3 : Int32) now before um mt))) ∧ (w3_3 = 0 → post (-2 : Int32) now before um mt)) (B.1 + 1) (0 : Int32) v := by
    intro v hv hiff
    refine m_add_44 hB b8 bt B.1 0 v (by omega) hv (fun e al w => ⟨fun _ => go ⟨hiff.mp e, fun j hj => al j (Nat.zero_le _) hj⟩, fun z => absurd z (by decide)⟩) (fun c w => ⟨fun z => absurd rfl z, fun _ => no (fun ok => ?_)⟩)
    rcases c with c | c
    · have e := hiff.mpr ok.1
      rw [c] at e
      exact absurd e (by decide)
    · exact c (fun j _ hj => ok.2 j hj)
  refine ⟨fun c => ⟨B.1 + 1, all 0 (Or.inl rfl) ⟨fun z => absurd z (by decide), fun z => ?_⟩⟩, fun c => ⟨B.1 + 1, all 1 (Or.inr rfl) ⟨fun _ => ?_, fun _ => rfl⟩⟩⟩
  · rw [hB.1, iL0, nI_leI (by omega) (by omega)] at c
    omega
  · rw [hB.1, iL0, nI_leI (by omega) (by omega)] at c
    omega
theorem m_addPattern {A : AS} {B : Sy} {k : Nat} {h : Nat → AS} {um mt n1 n2 me mg : Int32} {now before buf : Nat → Int32} {post : Int32 → (Nat → Int32) → (Nat → Int32) → Int32 → Int32 → Prop} (hV : VA A) (hv : ∀ j, j < k → VA (h j)) (hk : k ≤ 5) (hM : RM A 0 now) (hH : HM k h before um) (hB : RQ B mt buf) (b8 : B.1 ≤ 8)
    (h0 : eAP A B ≠ 0 → post (eAP A B) now before um mt)
    (h1 : eAP A B = 0 → ∀ now' bef' um', RM (addP A B) 0 now' → HM (min (k + 1) 5) (hsh A h) bef' um' → post (nI A.nP) now' bef' um' 0) :
    P_X9_addPattern now before um mt buf n1 n2 me mg post := by
  have h12 := hV.1
  have h6 := hV.2.2.1
  have e0 : now (Int32.toNatClampNeg (133 : Int32)) = nI A.nP := hM.2.2.1.1
  unfold P_X9_addPattern
  unfold eAP at h0 h1
  rw [e0, iL6, nI_eq (a := A.nP) (by omega) (by omega)]
  refine ⟨fun c => ?_, fun c => ?_⟩
  · rw [hB.1, iL0, nI_eq (by omega) (by omega)] at c
    rw [if_neg c] at h0 h1
    refine ⟨fun d => ?_, fun d => ?_⟩
    · rw [if_neg d] at h1
      have e134 : (134 : Int32) + nI A.nP = nI (134 + A.nP) := by rw [iL134, nI_add]
      have c0 : Int32.toNatClampNeg (133 : Int32) = 133 := rfl
      rw [e134, c0, nI_clamp (n := 134 + A.nP) (by omega), nI_1]
      refine m_keeps hV hv hk hM hH (fun bef' um' hH' => ⟨(vpi (by omega)).mpr (by omega), B.1 + 1, ?_⟩)
      refine m_copy_67 (f0 := upd (upd now 133 (nI (A.nP + 1))) (134 + A.nP) mt) (by omega) hB b8 (fun v f a1 a2 => h1 rfl f bef' um' (RM_mk ?_ (fun s hs => ?_) (fun s hs => ?_) ?_ (fun p hp => ?_) (fun i hi => ?_) ?_) hH') B.1 0 _ (by omega) (fun j hj => absurd hj (Nat.not_lt_zero j)) (fun _ _ => rfl)
      · rw [a2 0 (by omega), pk_un (by omega), pk_un (by omega)]
        exact RM_0 (A := A) hM
      · have hs' : s < A.nS := hs
        have t := RM_sy hM hs'
        have h8 := VA_s8 hV s hs'
        show f (1 + s) = nI (A.sy s).1 ∧ ∀ j, j < (A.sy s).1 → f (13 + (8 * s + j)) = nI ((A.sy s).2 j)
        rw [a2 _ (by omega), pk_un (by omega), pk_un (by omega)]
        refine ⟨t.1, fun j hj => ?_⟩
        rw [a2 _ (by omega), pk_un (by omega), pk_un (by omega)]
        exact t.2 j hj
      · have hs' : s < A.nS := hs
        show f (109 + s) = A.yr s ∧ f (121 + s) = nI (A.rg s)
        rw [a2 _ (by omega), a2 _ (by omega), pk_un (by omega), pk_un (by omega), pk_un (by omega), pk_un (by omega)]
        exact RM_yr (A := A) hM hs'
      · rw [a2 133 (by omega), pk_un (by omega), pk_us]
        rfl
      · have hp' : p < A.nP + 1 := hp
        show f (134 + p) = nI (if p = A.nP then B else A.pt p).1 ∧ ∀ j, j < (if p = A.nP then B else A.pt p).1 → f (140 + (8 * p + j)) = nI ((if p = A.nP then B else A.pt p).2 j)
        by_cases e : p = A.nP
        · rw [if_pos e, e, a2 _ (by omega), pk_us, hB.1]
          exact ⟨rfl, a1⟩
        · have t := RM_pt hM (show p < A.nP by omega)
          have h8 := VA_p8 hV p (by omega)
          rw [if_neg e, a2 _ (by omega), pk_un (by omega), pk_un (by omega)]
          refine ⟨t.1, fun j hj => ?_⟩
          rw [a2 _ (by omega), pk_un (by omega), pk_un (by omega)]
          exact t.2 j hj
      · rw [a2 _ (by omega), pk_un (by omega), pk_un (by omega)]
        exact RM_co (A := A) hM hi
      · rw [a2 192 (by omega), pk_un (by omega), pk_un (by omega)]
        exact RM_192 (A := A) hM
    · rw [if_pos d] at h0
      exact h0 (by decide)
  · rw [hB.1, iL0, nI_eq (by omega) (by omega)] at c
    rw [if_pos c] at h0
    exact h0 (by decide)
theorem m_setCost {A : AS} {k : Nat} {h : Nat → AS} {z v um mt n1 n2 me mg : Int32} {now before : Nat → Int32} {post : Int32 → (Nat → Int32) → (Nat → Int32) → Int32 → Prop} (hV : VA A) (hv : ∀ j, j < k → VA (h j)) (hk : k ≤ 5) (hM : RM A 0 now) (hH : HM k h before um)
    (h0 : ¬ (isRow 4 z ∧ isCv v) → post (-1) now before um)
    (h1 : isRow 4 z ∧ isCv v → ∀ now' bef' um', RM (stC A z.toNatClampNeg v.toNatClampNeg) 0 now' → HM (min (k + 1) 5) (hsh A h) bef' um' → post (nI (A.co z.toNatClampNeg)) now' bef' um') :
    P_X9_setCost z v now before um mt n1 n2 me mg post := by
  have h12 := hV.1
  have h6 := hV.2.2.1
  unfold P_X9_setCost
  refine m_in3 (fun i hi hz => ⟨fun w => absurd w (by decide), fun _ => m_cv (fun c => ⟨fun _ => ?_, fun w => absurd w (by decide)⟩) (fun c => ⟨fun w => absurd rfl w, fun _ => h0 (fun w => c w.2)⟩)⟩) (fun c => ⟨fun _ => h0 (fun w => not_row (by omega) c w.1), fun w => absurd rfl w⟩)
  subst hz
  have h2 := h1 ⟨⟨i, hi, rfl⟩, c⟩
  obtain ⟨n, n1', n9, rfl⟩ := isCv_n c
  rw [nI_clamp (by omega), nI_clamp (by omega)] at h2
  have e188 : (188 : Int32) + nI i = nI (188 + i) := by rw [iL188, nI_add]
  rw [e188, nI_clamp (by omega), RM_co hM hi]
  refine m_keeps hV hv hk hM hH (fun bef' um' hH' => ⟨(vpi (by omega)).mpr (by omega), (vpi (by omega)).mpr (by omega), h2 _ bef' um' (RM_mk ?_ (fun s hs => ?_) (fun s hs => ?_) ?_ (fun p hp => ?_) (fun j hj => ?_) ?_) hH'⟩)
  · rw [pk_un (by omega)]
    exact RM_0 (A := A) hM
  · have hs' : s < A.nS := hs
    have t := RM_sy hM hs'
    have h8 := VA_s8 hV s hs'
    rw [pk_un (by omega)]
    refine ⟨t.1, fun j hj => ?_⟩
    have hj' : j < (A.sy s).1 := hj
    rw [pk_un (by omega)]
    exact t.2 j hj'
  · have hs' : s < A.nS := hs
    rw [pk_un (by omega), pk_un (by omega)]
    exact RM_yr (A := A) hM hs'
  · rw [pk_un (by omega)]
    exact RM_133 (A := A) hM
  · have hp' : p < A.nP := hp
    have t := RM_pt hM hp'
    have h8 := VA_p8 hV p hp'
    rw [pk_un (by omega)]
    refine ⟨t.1, fun j hj => ?_⟩
    have hj' : j < (A.pt p).1 := hj
    rw [pk_un (by omega)]
    exact t.2 j hj'
  · show upd now (188 + i) (nI n) (188 + j) = nI (if j = i then n else A.co j)
    by_cases e : j = i
    · rw [if_pos e, e, pk_us]
    · rw [if_neg e, pk_un (by omega)]
      exact RM_co (A := A) hM hj
  · rw [pk_un (by omega)]
    exact RM_192 (A := A) hM
theorem m_setLimit {A : AS} {k : Nat} {h : Nat → AS} {v um mt n1 n2 me mg : Int32} {now before : Nat → Int32} {post : Int32 → (Nat → Int32) → (Nat → Int32) → Int32 → Prop} (hV : VA A) (hv : ∀ j, j < k → VA (h j)) (hk : k ≤ 5) (hM : RM A 0 now) (hH : HM k h before um)
    (h0 : ¬ isRow 21 v → post (-1) now before um)
    (h1 : isRow 21 v → ∀ now' bef' um', RM (stL A v.toNatClampNeg) 0 now' → HM (min (k + 1) 5) (hsh A h) bef' um' → post (nI A.li) now' bef' um') :
    P_X9_setLimit v now before um mt n1 n2 me mg post := by
  have h12 := hV.1
  have h6 := hV.2.2.1
  unfold P_X9_setLimit
  refine m_in20 (fun n hn hz => ⟨fun _ => ?_, fun w => absurd w (by decide)⟩) (fun c => ⟨fun w => absurd rfl w, fun _ => h0 (not_row (by omega) c)⟩)
  subst hz
  have h2 := h1 ⟨n, hn, rfl⟩
  rw [nI_clamp (by omega)] at h2
  have c0 : Int32.toNatClampNeg (192 : Int32) = 192 := rfl
  rw [c0, RM_192 hM]
  refine m_keeps hV hv hk hM hH (fun bef' um' hH' => h2 _ bef' um' (RM_mk ?_ (fun s hs => ?_) (fun s hs => ?_) ?_ (fun p hp => ?_) (fun j hj => ?_) ?_) hH')
  · rw [pk_un (by omega)]
    exact RM_0 (A := A) hM
  · have hs' : s < A.nS := hs
    have t := RM_sy hM hs'
    have h8 := VA_s8 hV s hs'
    rw [pk_un (by omega)]
    refine ⟨t.1, fun j hj => ?_⟩
    have hj' : j < (A.sy s).1 := hj
    rw [pk_un (by omega)]
    exact t.2 j hj'
  · have hs' : s < A.nS := hs
    rw [pk_un (by omega), pk_un (by omega)]
    exact RM_yr (A := A) hM hs'
  · rw [pk_un (by omega)]
    exact RM_133 (A := A) hM
  · have hp' : p < A.nP := hp
    have t := RM_pt hM hp'
    have h8 := VA_p8 hV p hp'
    rw [pk_un (by omega)]
    refine ⟨t.1, fun j hj => ?_⟩
    have hj' : j < (A.pt p).1 := hj
    rw [pk_un (by omega)]
    exact t.2 j hj'
  · rw [pk_un (by omega)]
    exact RM_co (A := A) hM hj
  · rw [pk_us]
    rfl
