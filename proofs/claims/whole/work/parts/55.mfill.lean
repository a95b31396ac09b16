/-! ===== the reference: tokensOf, isFilled, goesOn, fills ===== -/
theorem RM_pt {A : AS} {now : Nat → Int32} (h : RM A 0 now) {p : Nat} (hp : p < A.nP) : now (134 + p) = nI (A.pt p).1 ∧ ∀ j, j < (A.pt p).1 → now (140 + (8 * p + j)) = nI ((A.pt p).2 j) := by
  have t := h.2.2.1.2 p hp
  dsimp only at t
  rw [Nat.zero_add, Nat.zero_add] at t
  exact t
theorem m_inr {t lo hi : Nat} {post : Int32 → Prop} (ht : t < 1000) (hlo : lo < 1000) (hhi : hi < 1000) (h1 : lo ≤ t ∧ t ≤ hi → post 1) (h0 : ¬ (lo ≤ t ∧ t ≤ hi) → post 0) : P_X9_in (Int32.toInt64 (nI t)) (Int32.toInt64 (nI lo)) (Int32.toInt64 (nI hi)) post := by
  have e : ∀ {a b : Nat}, a < 1000 → b < 1000 → (Int32.toInt64 (nI a) ≤ Int32.toInt64 (nI b) ↔ a ≤ b) := by
    intro a b ha hb
    rw [Int64.le_iff_toInt_le, Int32.toInt_toInt64, Int32.toInt_toInt64, nI_toInt (by omega), nI_toInt (by omega)]
    omega
  unfold P_X9_in
  refine ⟨fun c => h0 (fun y => ?_), fun c => ⟨fun c2 => h0 (fun y => ?_), fun c2 => h1 ⟨?_, ?_⟩⟩⟩
  · have z : Int32.toInt64 (nI lo) ≤ Int32.toInt64 (nI t) := (e hlo ht).mpr y.1
    exact absurd ((lg_cmp_ge _ _).mpr z) (Int32.not_le.mpr c)
  · have z : Int32.toInt64 (nI t) ≤ Int32.toInt64 (nI hi) := (e ht hhi).mpr y.2
    exact absurd ((lg_cmp_le _ _).mpr z) (Int32.not_le.mpr c2)
  · exact (e hlo ht).mp ((lg_cmp_ge _ _).mp (Int32.not_lt.mp c))
  · exact (e ht hhi).mp ((lg_cmp_le _ _).mp (Int32.not_lt.mp c2))
/-- how many of the tokens are from lo to hi -/
noncomputable def tcn (q : Sy) (lo hi n : Nat) : Nat := cnt (fun k => lo ≤ q.2 k ∧ q.2 k ≤ hi) n
theorem tcn_s (q : Sy) (lo hi n : Nat) : tcn q lo hi (n + 1) = tcn q lo hi n + (if lo ≤ q.2 n ∧ q.2 n ≤ hi then 1 else 0) := cnt_succ (fun k => lo ≤ q.2 k ∧ q.2 k ≤ hi) n
theorem tcn_le (q : Sy) (lo hi n : Nat) : tcn q lo hi n ≤ n := cnt_le _ n
theorem tcn_gp (q : Sy) : ∀ d k, gp q d k + tcn q 64 64 k = tcn q 64 64 (k + d) := by
  intro d
  induction d with
  | zero => intro k; rw [gp, Nat.zero_add, Nat.add_zero k]
  | succ d ih =>
    intro k
    have i := ih (k + 1)
    rw [tcn_s] at i
    rw [gp, show k + (d + 1) = k + 1 + d by omega, ← i]
    by_cases h : q.2 k = 64
    · rw [if_pos h, if_pos (by omega)]; omega
    · rw [if_neg h, if_neg (by omega)]; omega
theorem tcn_gaps (q : Sy) : tcn q 64 64 q.1 = gp q q.1 0 := by
  have t := tcn_gp q q.1 0
  rw [Nat.zero_add] at t
  exact t.symm
theorem m_tok_6 {q : Sy} {p lo hi : Nat} {now : Nat → Int32} {K : Int32 → Int32 → Prop} (hp : p < 6) (q8 : q.1 ≤ 8) (qt : ∀ j, j < q.1 → q.2 j ≤ 64) (hlo : lo < 1000) (hhi : hi < 1000) (h1 : now (134 + p) = nI q.1) (h2 : ∀ j, j < q.1 → now (140 + (8 * p + j)) = nI (q.2 j)) (hK : ∀ v, K v (nI (tcn q lo hi q.1))) : ∀ (d k : Nat), k + d = q.1 → P_X9_tokensOf_6 (nI p) (nI lo) (nI hi) now K (d + 1) (nI k) (nI (tcn q lo hi k)) := by
  have eA : (134 : Int32) + nI p = nI (134 + p) := by rw [iL134, nI_add]
  intro d
  induction d with
  | zero =>
    intro k hk
    show B_X9_tokensOf_6 (nI p) (nI lo) (nI hi) now K _ (nI k) (nI (tcn q lo hi k))
    unfold B_X9_tokensOf_6
    have e : k = q.1 := by omega
    subst e
    rw [eA, nI_clamp (by omega), h1]
    exact ⟨(vpi (by omega)).mpr (by omega), fun _ => hK _, fun z => absurd (Int32.le_refl _) z⟩
  | succ d ih =>
    intro k hk
    have ht := qt k (by omega)
    have eB : ((140 : Int32) + ((8 : Int32) * nI p)) + nI k = nI (140 + (8 * p + k)) := by rw [iL140, iL8, pk_mul, nI_add, nI_add, Nat.add_assoc]
    have i := ih (k + 1) (by omega)
    rw [tcn_s] at i
    show B_X9_tokensOf_6 (nI p) (nI lo) (nI hi) now K (P_X9_tokensOf_6 (nI p) (nI lo) (nI hi) now K (d + 1)) (nI k) (nI (tcn q lo hi k))
    unfold B_X9_tokensOf_6
    rw [eA, eB, nI_clamp (by omega), h1, nI_clamp (by omega), h2 k (by omega), nI_1]
    refine ⟨(vpi (by omega)).mpr (by omega), fun z => ?_, fun _ => ⟨(vpi (by omega)).mpr (by omega), m_inr (by omega) hlo hhi (fun c => ⟨fun z => absurd z (by decide), fun _ => ?_⟩) (fun c => ⟨fun _ => ?_, fun z => absurd rfl z⟩)⟩⟩
    · rw [nI_leI (by omega) (by omega)] at z
      omega
    · rw [if_pos c] at i
      rw [nI_1]
      exact i
    · rw [if_neg c] at i
      rw [iL0, nI_add]
      exact i
theorem m_tokensOf {A : AS} {p lo hi : Nat} {now : Nat → Int32} {n1 n2 um mt me mg : Int32} {post : Int32 → Prop} (hV : VA A) (hM : RM A 0 now) (hp : p < A.nP) (hlo : lo < 1000) (hhi : hi < 1000) (h : post (nI (tcn (A.pt p) lo hi (A.pt p).1))) : P_X9_tokensOf (nI p) (nI lo) (nI hi) now um mt n1 n2 me mg post := by
  have h6 := hV.2.2.1
  have vp := hV.2.2.2.1 p hp
  have t := RM_pt hM hp
  exact ⟨(A.pt p).1 + 1, m_tok_6 (by omega) vp.2.1 vp.2.2 hlo hhi t.1 t.2 (fun _ => h) (A.pt p).1 0 (by omega)⟩
theorem m_isF_2 {K : Int32 → (Nat → Int32) → Prop} (hK : ∀ v sl, Sg (fun _ => 0) sl → K v sl) : ∀ (d i : Nat) (sl : Nat → Int32), i + d = 4 → (∀ j, j < i → sl j = -1) → P_X9_isFilled_2 K (d + 1) (nI i) sl := by
  intro d
  induction d with
  | zero =>
    intro i sl hi hs
    show B_X9_isFilled_2 K _ (nI i) sl
    unfold B_X9_isFilled_2
    have e : i = 4 := by omega
    subst e
    exact ⟨fun _ => hK _ _ (fun j hj => ⟨hs j hj, Nat.zero_le _⟩), fun z => absurd (Int32.le_refl _) z⟩
  | succ d ih =>
    intro i sl hi hs
    show B_X9_isFilled_2 K (P_X9_isFilled_2 K (d + 1)) (nI i) sl
    unfold B_X9_isFilled_2
    rw [nI_1, nI_clamp (by omega)]
    refine ⟨fun z => ?_, fun _ => ⟨(vpi (by omega)).mpr (by omega), ih (i + 1) _ (by omega) (fun j hj => ?_)⟩⟩
    · rw [iL4, nI_leI (by omega) (by omega)] at z
      omega
    · by_cases e : j = i
      · rw [e, pk_us]
      · rw [pk_un e]
        exact hs j (by omega)
theorem m_isF_28 {q r : Sy} {p s : Nat} {now gap : Nat → Int32} {post : Int32 → (Nat → Int32) → Prop} {K : Int32 → Int32 → Int32 → (Nat → Int32) → Prop} (hp : p < 6) (hs : s < 12) (q8 : q.1 ≤ 8) (r8 : r.1 ≤ 8) (qt : ∀ j, j < q.1 → q.2 j ≤ 64) (rw60 : ∀ j, j < r.1 → r.2 j < 60) (hp1 : now (134 + p) = nI q.1) (hp2 : ∀ j, j < q.1 → now (140 + (8 * p + j)) = nI (q.2 j)) (hs2 : ∀ j, j < r.1 → now (13 + (8 * s + j)) = nI (r.2 j)) : ∀ (d k gi w : Nat) (σ : Nat → Nat) (g : List Nat) (sl : Nat → Int32), k + d = q.1 → g.length = gp q d k → w + ngp q d k + g.sum = r.1 → gi + g.length ≤ 8 → (∀ i, i < g.length → gap (gi + i) = nI (g.getD i 0)) → Sg σ sl → (run q r d k w σ g = none → ∀ sl', post 0 sl') → (∀ σ', run q r d k w σ g = some σ' → ∀ v5 v4 v3 sl', Sg σ' sl' → K v5 v4 v3 sl') → P_X9_isFilled_28 (nI p) (nI s) now gap post K (d + 1) (nI k) (nI gi) (nI w) sl := by
  have eA : (134 : Int32) + nI p = nI (134 + p) := by rw [iL134, nI_add]
  intro d
  induction d with
  | zero =>
    intro k gi w σ g sl hk hg hw hgi hgap hS h0 h1
    show B_X9_isFilled_28 (nI p) (nI s) now gap post K _ (nI k) (nI gi) (nI w) sl
    unfold B_X9_isFilled_28
    have e : k = q.1 := by omega
    subst e
    rw [eA, nI_clamp (by omega), hp1]
    exact ⟨(vpi (by omega)).mpr (by omega), fun _ => h1 σ rfl _ _ _ _ hS, fun z => absurd (Int32.le_refl _) z⟩
  | succ d ih =>
    intro k gi w σ g sl hk hg hw hgi hgap hS h0 h1
    have ht := qt k (by omega)
    have eB : ((140 : Int32) + ((8 : Int32) * nI p)) + nI k = nI (140 + (8 * p + k)) := by rw [iL140, iL8, pk_mul, nI_add, nI_add, Nat.add_assoc]
    have eC : ((13 : Int32) + ((8 : Int32) * nI s)) + nI w = nI (13 + (8 * s + w)) := by rw [iL13, iL8, pk_mul, nI_add, nI_add, Nat.add_assoc]
    rw [gp] at hg
    rw [ngp] at hw
    rw [run_s] at h0 h1
    show B_X9_isFilled_28 (nI p) (nI s) now gap post K (P_X9_isFilled_28 (nI p) (nI s) now gap post K (d + 1)) (nI k) (nI gi) (nI w) sl
    unfold B_X9_isFilled_28
    rw [eA, eB, eC, nI_clamp (n := 134 + p) (by omega), hp1, nI_clamp (n := 140 + (8 * p + k)) (by omega), hp2 k (by omega), nI_clamp (n := gi) (by omega), iL60, iL64, nI_eq (by omega) (by omega)]
    refine ⟨(vpi (by omega)).mpr (by omega), fun z => ?_, fun _ => ⟨(vpi (by omega)).mpr (by omega), fun c => ?_, fun c => ?_⟩⟩
    · rw [nI_leI (by omega) (by omega)] at z
      omega
    · rw [if_neg c] at hg hw h0 h1
      have hwr : w < r.1 := by omega
      have hx := rw60 w hwr
      rw [nI_clamp (n := 13 + (8 * s + w)) (by omega), hs2 w hwr]
      refine ⟨(vpi (by omega)).mpr (by omega), fun c6 => ?_, fun c6 => ?_⟩
      · rw [nI_leI (by omega) (by omega)] at c6
        have t4 : q.2 k - 60 < 4 := by omega
        have hσ := hS (q.2 k - 60) t4
        unfold tok tset at h0 h1
        rw [if_neg (show ¬ q.2 k < 60 by omega), if_neg (show ¬ q.2 k < 60 by omega)] at h0 h1
        rw [pk_sub c6, nI_clamp (n := q.2 k - 60) (by omega), hσ.1, c1_neg (by omega), c1_nI (by omega) (by omega)]
        have go : (σ (q.2 k - 60) = 0 ∨ σ (q.2 k - 60) = r.2 w + 1) → (nI (q.2 k) < nI 60 → P_X9_isFilled_28 (nI p) (nI s) now gap post K (d + 1) (nI k + (1 : Int32)) (nI gi) (nI w + (1 : Int32)) sl) ∧ (¬ nI (q.2 k) < nI 60 → (vp_in (nI (q.2 k - 60)) 4 ∧ P_X9_isFilled_28 (nI p) (nI s) now gap post K (d + 1) (nI k + (1 : Int32)) (nI gi) (nI w + (1 : Int32)) (upd sl (q.2 k - 60) (nI (r.2 w))))) := by
          intro y
          refine ⟨fun z => ?_, fun _ => ⟨(vpi (by omega)).mpr t4, ?_⟩⟩
          · rw [nI_ltI (by omega) (by omega)] at z
            omega
          · rw [if_pos (decide_eq_true y)] at h0 h1
            rw [nI_1, nI_1]
            exact ih (k + 1) gi (w + 1) _ g _ (by omega) (by omega) (by omega) hgi hgap (Sg_set hS hx) h0 h1
        refine ⟨(vpi (by omega)).mpr t4, fun z => go (Or.inl z), fun z => ⟨(vpi (by omega)).mpr t4, fun z2 => ?_, fun z2 => go (Or.inr z2)⟩⟩
        rw [if_neg (fun x => (of_decide_eq_true x).elim z z2)] at h0
        exact h0 rfl _
      · rw [nI_leI (by omega) (by omega)] at c6
        unfold tok tset at h0 h1
        rw [if_pos (show q.2 k < 60 by omega), if_pos (show q.2 k < 60 by omega)] at h0 h1
        rw [nI_eq (a := r.2 w) (by omega) (by omega)]
        refine ⟨fun z => ?_, fun z => ⟨fun _ => ?_, fun z2 => ?_⟩⟩
        · rw [if_neg (fun x => z (of_decide_eq_true x).symm)] at h0
          exact h0 rfl _
        · rw [if_pos (decide_eq_true z.symm)] at h0 h1
          rw [nI_1, nI_1]
          exact ih (k + 1) gi (w + 1) _ g _ (by omega) (by omega) (by omega) hgi hgap hS h0 h1
        · rw [nI_ltI (by omega) (by omega)] at z2
          omega
    · rw [if_pos c] at hg hw h0 h1
      cases g with
      | nil => exact absurd hg (Nat.succ_ne_zero _).symm
      | cons a g =>
        rw [List.length_cons] at hg hgi hgap
        rw [List.sum_cons] at hw
        have e0 := hgap 0 (by omega)
        rw [Nat.add_zero gi, List.getD_cons_zero] at e0
        rw [e0, nI_1, nI_1, nI_add]
        refine ⟨(vpi (by omega)).mpr (by omega), ih (k + 1) (gi + 1) (w + a) σ g sl (by omega) (by omega) (by omega) (by omega) (fun i hi => ?_) hS h0 h1⟩
        have t := hgap (i + 1) (by omega)
        rw [List.getD_cons_succ, show gi + (i + 1) = gi + 1 + i by omega] at t
        exact t
/-- the array of gaps holds these lengths -/
def IsV (v : List Nat) (gap : Nat → Int32) : Prop := ∀ i, i < v.length → gap i = nI (v.getD i 0)
theorem m_isFilled {A : AS} {p s : Nat} {v : List Nat} {now gap sl : Nat → Int32} {n1 n2 um mt me mg : Int32} {post : Int32 → (Nat → Int32) → Prop} (hV : VA A) (hM : RM A 0 now) (hp : p < A.nP) (hs : s < A.nS) (hl : v.length = gp (A.pt p) (A.pt p).1 0) (hsum : ngp (A.pt p) (A.pt p).1 0 + v.sum = (A.sy s).1) (hv : IsV v gap) (h0 : run (A.pt p) (A.sy s) (A.pt p).1 0 0 (fun _ => 0) v = none → ∀ sl', post 0 sl') (h1 : ∀ σ', run (A.pt p) (A.sy s) (A.pt p).1 0 0 (fun _ => 0) v = some σ' → ∀ sl', Sg σ' sl' → post 1 sl') : P_X9_isFilled (nI p) (nI s) now um mt n1 n2 me gap sl mg post := by
  have h12 := hV.1
  have h6 := hV.2.2.1
  have vs := hV.2.1 s hs
  have vp := hV.2.2.2.1 p hp
  have t := RM_pt hM hp
  have t2 := RM_sy hM hs
  have hgn := gp_ngp (A.pt p) (A.pt p).1 0
  refine ⟨5, m_isF_2 (fun _ sl' hS => ⟨(A.pt p).1 + 1, ?_⟩) 4 0 sl rfl (fun j hj => absurd hj (Nat.not_lt_zero j))⟩
  refine m_isF_28 (q := A.pt p) (r := A.sy s) (by omega) (by omega) vp.2.1 vs.2.1 vp.2.2 vs.2.2.2 t.1 t.2 t2.2 (A.pt p).1 0 0 0 (fun _ => 0) v sl' (by omega) hl (by omega) (by omega) (fun i hi => ?_) hS h0 (fun σ' e v5 v4 v3 sl2 hS2 => h1 σ' e sl2 hS2)
  rw [Nat.zero_add]
  exact hv i hi
theorem m_goesOn_13 {v : List Nat} {gap : Nat → Int32} {K : Int32 → Prop} (hL : v.length ≤ 8) (hs : v.sum ≤ 8) (hv : IsV v gap) (hK : ∀ k, k < v.length → (∀ i, k < i → i < v.length → v.getD i 0 = 0) → (0 < k → v.getD k 0 ≠ 0) → K (nI k)) : ∀ (k : Nat), k < v.length → (∀ i, k < i → i < v.length → v.getD i 0 = 0) → P_X9_goesOn_13 gap K (k + 1) (nI k) := by
  intro k
  induction k with
  | zero =>
    intro hk hz
    show B_X9_goesOn_13 gap K _ (nI 0)
    unfold B_X9_goesOn_13
    exact ⟨fun _ => hK 0 hk hz (fun z => absurd z (Nat.lt_irrefl 0)), fun z => absurd (Int32.le_refl _) z⟩
  | succ k ih =>
    intro hk hz
    have hb := get_le_sum v (k + 1)
    show B_X9_goesOn_13 gap K (P_X9_goesOn_13 gap K (k + 1)) (nI (k + 1))
    unfold B_X9_goesOn_13
    rw [pk_m1, nI_clamp (by omega), hv (k + 1) hk, iL0, nI_leI (by omega) (by omega), nI_eq (by omega) (by omega)]
    refine ⟨fun z => by omega, fun _ => ⟨(vpi (by omega)).mpr (by omega), fun z => hK (k + 1) hk hz (fun _ => z), fun z => ih (by omega) (fun i hi hi2 => ?_)⟩⟩
    by_cases e : i = k + 1
    · rw [e]
      exact z
    · exact hz i (by omega) hi2
theorem m_goesOn {v : List Nat} {gap : Nat → Int32} {n1 n2 um mt me mg : Int32} {post : Int32 → (Nat → Int32) → Prop} (hL : v.length ≤ 8) (hs : v.sum ≤ 8) (hv : IsV v gap) (h0 : nxt v = none → post 0 gap) (h1 : ∀ v' gap', nxt v = some v' → IsV v' gap' → post 1 gap') : P_X9_goesOn (nI v.length) um mt n1 n2 me gap mg post := by
  unfold P_X9_goesOn
  rw [iL2, nI_leI (by omega) (by omega)]
  refine ⟨fun z => ?_, fun z => h0 (nxt_zero v (fun i hi hi2 => by omega))⟩
  rw [iL1, pk_sub (by omega)]
  refine ⟨v.length - 1 + 1, m_goesOn_13 hL hs hv (fun k hk hz hne => ?_) (v.length - 1) (by omega) (fun i hi hi2 => by omega)⟩
  rw [iL0, nI_eq (by omega) (by omega)]
  refine ⟨fun c => ?_, fun c => h0 (nxt_zero v (fun i hi hi2 => hz i (by omega) hi2))⟩
  have hk0 : 0 < k := by omega
  have hb := get_le_sum v k
  have hb1 := get_le_sum v (k - 1)
  have hk2 := hne hk0
  obtain ⟨v', a1, a2⟩ := nxt_ix v k hk hz hk0 hk2
  have len := ((aft_nxt v).2 v' a1).2.1
  rw [pk_sub (by omega), nI_clamp (by omega), nI_clamp (by omega), nI_clamp (by omega), pk_un (show k - 1 ≠ k by omega), hv (k - 1) (by omega), hv k hk, nI_add, pk_sub (by omega)]
  refine ⟨(vpi (by omega)).mpr (by omega), (vpi (by omega)).mpr (by omega), (vpi (by omega)).mpr (by omega), (vpi (by omega)).mpr (by omega), (vpi (by omega)).mpr (by omega), h1 v' _ a1 (fun i hi => ?_)⟩
  rw [a2 i (by omega)]
  by_cases e1 : i = v.length - 1
  · rw [if_pos e1, e1, pk_us]
  · rw [if_neg e1, pk_un e1]
    by_cases e2 : i = k - 1
    · rw [if_pos e2, e2, pk_us]
    · rw [if_neg e2, pk_un e2]
      by_cases e3 : i = k
      · rw [if_pos e3, e3, pk_us]
      · rw [if_neg e3, pk_un e3]
        exact hv i (by omega)
