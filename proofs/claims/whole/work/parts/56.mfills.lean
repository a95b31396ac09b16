/-! ===== the reference: fills ===== -/
def Fm (L : List (Nat → Nat)) (n : Int32) (fs : Nat → Int32) : Prop := n = nI L.length ∧ (L ≠ [] → ∀ i, i < 4 → fs i = c1 (L.headD (fun _ => 0) i))
theorem m_fills_52 {K : Int32 → (Nat → Int32) → Prop} (hK : ∀ v gap, (∀ j, j < 8 → gap j = nI 0) → K v gap) : ∀ (d i : Nat) (gap : Nat → Int32), i + d = 8 → (∀ j, j < i → gap j = nI 0) → P_X9_fills_52 K (d + 1) (nI i) gap := by
  intro d
  induction d with
  | zero =>
    intro i gap hi hs
    show B_X9_fills_52 K _ (nI i) gap
    unfold B_X9_fills_52
    have e : i = 8 := by omega
    subst e
    exact ⟨fun _ => hK _ _ hs, fun z => absurd (Int32.le_refl _) z⟩
  | succ d ih =>
    intro i gap hi hs
    show B_X9_fills_52 K (P_X9_fills_52 K (d + 1)) (nI i) gap
    unfold B_X9_fills_52
    rw [nI_1, nI_clamp (by omega)]
    refine ⟨fun z => ?_, fun _ => ⟨(vpi (by omega)).mpr (by omega), ih (i + 1) _ (by omega) (fun j hj => ?_)⟩⟩
    · rw [iL8, nI_leI (by omega) (by omega)] at z
      omega
    · by_cases e : j = i
      · rw [e, pk_us]
        rfl
      · rw [pk_un e]
        exact hs j (by omega)
theorem m_fills_110y {sl : Nat → Int32} {K : Int32 → (Nat → Int32) → Prop} (hK : ∀ v fs, (∀ j, j < 4 → fs j = sl j) → K v fs) : ∀ (d i : Nat) (fs : Nat → Int32), i + d = 4 → (∀ j, j < i → fs j = sl j) → P_X9_fills_110 (nI 0) sl K (d + 1) (nI i) fs := by
  intro d
  induction d with
  | zero =>
    intro i fs hi hs
    show B_X9_fills_110 (nI 0) sl K _ (nI i) fs
    unfold B_X9_fills_110
    have e : i = 4 := by omega
    subst e
    exact ⟨fun _ => hK _ _ hs, fun z => absurd (Int32.le_refl _) z⟩
  | succ d ih =>
    intro i fs hi hs
    show B_X9_fills_110 (nI 0) sl K (P_X9_fills_110 (nI 0) sl K (d + 1)) (nI i) fs
    unfold B_X9_fills_110
    rw [nI_1, nI_clamp (by omega)]
    refine ⟨fun z => ?_, fun _ => ⟨fun z => absurd rfl z, fun _ => ⟨(vpi (by omega)).mpr (by omega), (vpi (by omega)).mpr (by omega), ih (i + 1) _ (by omega) (fun j hj => ?_)⟩⟩⟩
    · rw [iL4, nI_leI (by omega) (by omega)] at z
      omega
    · by_cases e : j = i
      · rw [e, pk_us]
      · rw [pk_un e]
        exact hs j (by omega)
theorem m_fills_110 {L : List (Nat → Nat)} {σ : Nat → Nat} {n : Int32} {sl fs : Nat → Int32} {K : Int32 → (Nat → Int32) → Prop} (hF : Fm L n fs) (hB : L.length < 1000000000) (hS : Sg σ sl) (hK : ∀ v fs', Fm (L ++ [σ]) (n + (1 : Int32)) fs' → K v fs') : ∃ m, P_X9_fills_110 n sl K m (0 : Int32) fs := by
  have el : (L ++ [σ]).length = L.length + 1 := by rw [List.length_append]; rfl
  refine ⟨5, ?_⟩
  cases L with
  | nil =>
    have e : n = nI 0 := hF.1
    subst e
    exact m_fills_110y (fun v fs' hs => hK _ _ ⟨rfl, fun _ i hi => (hs i hi).trans (hS i hi).1⟩) 4 0 fs rfl (fun j hj => absurd hj (Nat.not_lt_zero j))
  | cons a b =>
    have hn := hF.1
    rw [List.length_cons] at hn hB
    show B_X9_fills_110 n sl K (P_X9_fills_110 n sl K 4) (0 : Int32) fs
    unfold B_X9_fills_110
    refine ⟨fun z => absurd z (by decide), fun _ => ⟨fun _ => hK _ _ ⟨?_, fun _ i hi => hF.2 (by simp) i hi⟩, fun z => ?_⟩⟩
    · rw [el, hn, nI_1]
      rfl
    · rw [hn, iL0, nI_eq (by omega) (by omega)] at z
      exact absurd z (Nat.succ_ne_zero _)
theorem m_fills_93 {A : AS} {p s : Nat} {now : Nat → Int32} {n1 n2 um mt me mg : Int32} {K : Int32 → Int32 → (Nat → Int32) → (Nat → Int32) → (Nat → Int32) → Prop} (hV : VA A) (hM : RM A 0 now) (hp : p < A.nP) (hs : s < A.nS) : ∀ (R : List (List Nat)) (v : List Nat) (L : List (Nat → Nat)) (n : Int32) (gap sl fs : Nat → Int32), aft v = R → v.length = gp (A.pt p) (A.pt p).1 0 → ngp (A.pt p) (A.pt p).1 0 + v.sum = (A.sy s).1 → IsV v gap → Fm L n fs → (L ++ (v :: R).filterMap (run (A.pt p) (A.sy s) (A.pt p).1 0 0 (fun _ => 0))).length < 1000000000 → (∀ v6 n' gap' sl' fs', Fm (L ++ (v :: R).filterMap (run (A.pt p) (A.sy s) (A.pt p).1 0 0 (fun _ => 0))) n' fs' → K v6 n' gap' sl' fs') → P_X9_fills_93 (nI (gp (A.pt p) (A.pt p).1 0)) (nI p) (nI s) now um mt n1 n2 me mg K (R.length + 2) (1 : Int32) n gap sl fs := by
  have vs := hV.2.1 s hs
  have vp := hV.2.2.2.1 p hp
  have hgn := gp_ngp (A.pt p) (A.pt p).1 0
  intro R
  induction R with
  | nil =>
    intro v L n gap sl fs hR hl hsum hv hF hB hK
    have go : ∀ (L' : List (Nat → Nat)) (n' : Int32) (sl' fs' : Nat → Int32), Fm L' n' fs' → L' = L ++ [v].filterMap (run (A.pt p) (A.sy s) (A.pt p).1 0 0 (fun _ => 0)) → P_X9_goesOn (nI (gp (A.pt p) (A.pt p).1 0)) um mt n1 n2 me gap mg (fun r6 u5 => P_X9_fills_93 (nI (gp (A.pt p) (A.pt p).1 0)) (nI p) (nI s) now um mt n1 n2 me mg K 1 r6 n' u5 sl' fs') := by
      intro L' n' sl' fs' hF' eL
      rw [← hl]
      refine m_goesOn (by omega) (by omega) hv (fun _ => ?_) (fun v' gap' e _ => ?_)
      · show B_X9_fills_93 (nI v.length) (nI p) (nI s) now um mt n1 n2 me mg K _ (0 : Int32) n' gap sl' fs'
        unfold B_X9_fills_93
        rw [eL] at hF'
        exact ⟨fun _ => hK _ _ _ _ _ hF', fun z => absurd rfl z⟩
      · have t := ((aft_nxt v).2 v' e).1
        rw [hR] at t
        exact absurd t (by simp)
    show B_X9_fills_93 (nI (gp (A.pt p) (A.pt p).1 0)) (nI p) (nI s) now um mt n1 n2 me mg K (P_X9_fills_93 (nI (gp (A.pt p) (A.pt p).1 0)) (nI p) (nI s) now um mt n1 n2 me mg K 1) (1 : Int32) n gap sl fs
    unfold B_X9_fills_93
    refine ⟨fun z => absurd z (by decide), fun _ => m_isFilled hV hM hp hs hl hsum hv (fun e sl' => ⟨fun _ => go L n sl' fs hF ?_, fun z => absurd rfl z⟩) (fun σ' e sl' hS => ⟨fun z => absurd z (by decide), fun _ => m_fills_110 hF ?_ hS (fun w7 fs' hF' => go _ _ sl' fs' hF' ?_)⟩)⟩
    · rw [List.filterMap_cons, e]
      exact (List.append_nil L).symm
    · rw [List.length_append] at hB
      omega
    · rw [List.filterMap_cons, e]
      rfl
  | cons v' R ih =>
    intro v L n gap sl fs hR hl hsum hv hF hB hK
    have go : ∀ (L' : List (Nat → Nat)) (n' : Int32) (sl' fs' : Nat → Int32), Fm L' n' fs' → L' ++ (v' :: R).filterMap (run (A.pt p) (A.sy s) (A.pt p).1 0 0 (fun _ => 0)) = L ++ (v :: v' :: R).filterMap (run (A.pt p) (A.sy s) (A.pt p).1 0 0 (fun _ => 0)) → P_X9_goesOn (nI (gp (A.pt p) (A.pt p).1 0)) um mt n1 n2 me gap mg (fun r6 u5 => P_X9_fills_93 (nI (gp (A.pt p) (A.pt p).1 0)) (nI p) (nI s) now um mt n1 n2 me mg K (R.length + 2) r6 n' u5 sl' fs') := by
      intro L' n' sl' fs' hF' eL
      rw [← hl]
      refine m_goesOn (by omega) (by omega) hv (fun e => ?_) (fun v2 gap' e hv' => ?_)
      · have t := (aft_nxt v).1 e
        rw [hR] at t
        exact absurd t (by simp)
      · obtain ⟨t1, t2, t3⟩ := (aft_nxt v).2 v2 e
        rw [hR] at t1
        obtain ⟨rfl, e2⟩ := List.cons.inj t1
        rw [hl]
        rw [← eL] at hB hK
        exact ih v' L' n' gap' sl' fs' e2.symm (by omega) (by omega) hv' hF' hB hK
    show B_X9_fills_93 (nI (gp (A.pt p) (A.pt p).1 0)) (nI p) (nI s) now um mt n1 n2 me mg K (P_X9_fills_93 (nI (gp (A.pt p) (A.pt p).1 0)) (nI p) (nI s) now um mt n1 n2 me mg K (R.length + 2)) (1 : Int32) n gap sl fs
    unfold B_X9_fills_93
    refine ⟨fun z => absurd z (by decide), fun _ => m_isFilled hV hM hp hs hl hsum hv (fun e sl' => ⟨fun _ => go L n sl' fs hF ?_, fun z => absurd rfl z⟩) (fun σ' e sl' hS => ⟨fun z => absurd z (by decide), fun _ => m_fills_110 hF ?_ hS (fun w7 fs' hF' => go _ _ sl' fs' hF' ?_)⟩)⟩
    · rw [List.filterMap_cons (a := v), e]
    · rw [List.length_append] at hB
      omega
    · rw [List.filterMap_cons (a := v), e, List.append_assoc]
      rfl
theorem m_fills {A : AS} {p s : Nat} {now gap sl fs : Nat → Int32} {n1 n2 um mt me mg : Int32} {post : Int32 → (Nat → Int32) → (Nat → Int32) → (Nat → Int32) → Prop} (hV : VA A) (hM : RM A 0 now) (hp : p < A.nP) (hs : s < A.nS) (h : ∀ n gap' sl' fs', Fm (fil A p s) n fs' → post n gap' sl' fs') : P_X9_fills (nI p) (nI s) now um mt n1 n2 me gap sl fs mg post := by
  have h12 := hV.1
  have h6 := hV.2.2.1
  have vs := hV.2.1 s hs
  have vp := hV.2.2.2.1 p hp
  have tp := RM_pt hM hp
  have ts := RM_sy hM hs
  have hgn := gp_ngp (A.pt p) (A.pt p).1 0
  have hl := fil_len hV hp hs
  have ef : fil A p s = (cz (gp (A.pt p) (A.pt p).1 0) (ngp (A.pt p) (A.pt p).1 0) (A.sy s).1).filterMap (run (A.pt p) (A.sy s) (A.pt p).1 0 0 (fun _ => 0)) := by
    unfold fil
    rw [en_eq _ _ _ _ _ _ (Nat.zero_le _), Nat.sub_zero]
  have eA : (134 : Int32) + nI p = nI (134 + p) := by rw [iL134, nI_add]
  have eS : (1 : Int32) + nI s = nI (1 + s) := by rw [iL1, nI_add]
  unfold P_X9_fills
  refine m_tokensOf (lo := 64) (hi := 64) hV hM hp (by omega) (by omega) ?_
  rw [tcn_gaps, eA, eS, nI_clamp (n := 1 + s) (by omega), nI_clamp (n := 134 + p) (by omega), tp.1, ts.1, pk_sub (show gp (A.pt p) (A.pt p).1 0 ≤ (A.pt p).1 by omega), show (A.pt p).1 - gp (A.pt p) (A.pt p).1 0 = ngp (A.pt p) (A.pt p).1 0 by omega, iL0, nI_leI (a := gp (A.pt p) (A.pt p).1 0) (by omega) (by omega), nI_eq (by omega) (by omega)]
  refine ⟨(vpi (by omega)).mpr (by omega), (vpi (by omega)).mpr (by omega), fun c => ?_, fun c => ?_⟩
  · have hlt : (A.sy s).1 < ngp (A.pt p) (A.pt p).1 0 := by
      refine Classical.byContradiction (fun z => ?_)
      rw [pk_sub (by omega)] at c
      exact nI_pos (by omega) c
    refine h _ _ _ _ ?_
    rw [ef, cz, if_pos hlt]
    exact ⟨rfl, fun z => absurd rfl z⟩
  · have hge : ngp (A.pt p) (A.pt p).1 0 ≤ (A.sy s).1 := by
      refine Classical.byContradiction (fun z => ?_)
      exact c (pk_sneg (by omega) (by omega))
    rw [cz, if_neg (by omega)] at ef
    rw [pk_sub hge, nI_leI (by omega) (by omega)]
    refine ⟨fun g0 => ⟨9, m_fills_52 (fun v gap' hz => ⟨fun z => by omega, fun _ => ?_⟩) 8 0 gap rfl (fun j hj => absurd hj (Nat.not_lt_zero j))⟩, fun g0 => ⟨fun z => ⟨9, m_fills_52 (fun v gap' hz => ⟨fun _ => ?_, fun y => by omega⟩) 8 0 gap rfl (fun j hj => absurd hj (Nat.not_lt_zero j))⟩, fun z => ?_⟩⟩
    · obtain ⟨x, ex⟩ : ∃ x, (A.sy s).1 - ngp (A.pt p) (A.pt p).1 0 = x + 1 := ⟨(A.sy s).1 - ngp (A.pt p) (A.pt p).1 0 - 1, by omega⟩
      refine h _ _ _ _ ?_
      rw [ef, g0, ex, comps_0s]
      exact ⟨rfl, fun y => absurd rfl y⟩
    · obtain ⟨m, em⟩ : ∃ m, gp (A.pt p) (A.pt p).1 0 = m + 1 := ⟨gp (A.pt p) (A.pt p).1 0 - 1, by omega⟩
      have e1 : comps (gp (A.pt p) (A.pt p).1 0) ((A.sy s).1 - ngp (A.pt p) (A.pt p).1 0) = fsts (gp (A.pt p) (A.pt p).1 0) ((A.sy s).1 - ngp (A.pt p) (A.pt p).1 0) :: aft (fsts (gp (A.pt p) (A.pt p).1 0) ((A.sy s).1 - ngp (A.pt p) (A.pt p).1 0)) := by
        rw [em]
        exact comps_fst m _
      rw [e1] at ef
      have esum : (fsts (gp (A.pt p) (A.pt p).1 0) ((A.sy s).1 - ngp (A.pt p) (A.pt p).1 0)).sum = (A.sy s).1 - ngp (A.pt p) (A.pt p).1 0 := by
        rw [em]
        exact fsts_sum m _
      rw [iL1, pk_sub (by omega), nI_clamp (by omega)]
      refine ⟨(vpi (by omega)).mpr (by omega), _, m_fills_93 hV hM hp hs _ _ [] _ _ sl fs rfl (fsts_len _ _) (by rw [esum]; omega) (fun i hi => ?_) ⟨rfl, fun y => absurd rfl y⟩ ?_ (fun v6 n' gap2 sl2 fs2 hF => h n' gap2 sl2 fs2 ?_)⟩
      · rw [fsts_len] at hi
        rw [fsts_get _ _ _ hi]
        by_cases e : i = gp (A.pt p) (A.pt p).1 0 - 1
        · rw [if_pos e, e, pk_us]
        · rw [if_neg e, pk_un e]
          exact hz i (by omega)
      · rw [List.nil_append, ← ef]
        exact hl
      · rw [List.nil_append, ← ef] at hF
        exact hF
    · have er : (A.sy s).1 - ngp (A.pt p) (A.pt p).1 0 = 0 := by omega
      rw [g0, er, comps_00] at ef
      refine ⟨_, m_fills_93 hV hM hp hs [] [] [] _ gap' sl fs (by rw [aft]) g0.symm (by rw [List.sum_nil]; omega) (fun i hi => absurd hi (Nat.not_lt_zero i)) ⟨rfl, fun y => absurd rfl y⟩ ?_ (fun v6 n' gap2 sl2 fs2 hF => h n' gap2 sl2 fs2 ?_)⟩
      · rw [List.nil_append, ← ef]
        exact hl
      · rw [List.nil_append, ← ef] at hF
        exact hF
