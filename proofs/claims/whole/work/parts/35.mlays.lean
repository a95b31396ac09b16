theorem m_lays_37 {q r : Sy} {co : Nat → Nat} {i j : Nat} {now one other far : Nat → Int32} {n1 n2 um mt me mg : Int32} {K : Int32 → Int32 → Prop} (hE : REm q r co now one other n1 n2) (hi : i ≤ q.1) (hj : j ≤ r.1) (hT : Tab co q r i j (fun a b => far (9 * a + b))) {n k m : Nat} (hk1 : 1 ≤ k) (hk : k ≤ 4) (hm : m ≤ 1000000) (h : P_X9_lays_37 (nI j) (nI i) now um mt one other n1 n2 far me mg K n (nI (k + 1)) (nI (stp co q.2 r.2 (DD co q.2 r.2) k i j m))) : P_X9_lays_37 (nI j) (nI i) now um mt one other n1 n2 far me mg K (n + 1) (nI k) (nI m) := by
  have q8 := hE.2.2.1
  have r8 := hE.2.2.2.1
  have hb := bv_bd (co := co) q.2 r.2 (k := k) (fun i hi => (hE.2.2.2.2.2.2 i hi).2) (show i ≤ 8 by omega) (show j ≤ 8 by omega)
  show B_X9_lays_37 (nI j) (nI i) now um mt one other n1 n2 far me mg K (P_X9_lays_37 (nI j) (nI i) now um mt one other n1 n2 far me mg K n) (nI k) (nI m)
  unfold B_X9_lays_37
  unfold stp at h
  refine ⟨fun z => ?_, fun _ => m_isStep hE hk1 hk hi hj (fun c => ⟨fun z => absurd z (by decide), fun _ => ?_⟩) (fun c => ⟨fun _ => ?_, fun z => absurd rfl z⟩)⟩
  · simp (disch := omega) only [iL0, iL1, iL2, iL3, iL4, iL5, iL6, iL7, iL8, iL9, iL10, iL11, iL12, iL13, iL16, iL20, iL48, iL60, iL64, iL96, iL100, iL109, iL121, iL133, iL134, iL140, iL188, iL192, iL193, iL772, iL965, iL10000, iL1000000, nI_leI, nI_ltI, nI_eq, nI_add, pk_mul, pk_sub, nI_clamp, vpi, ofN] at z
    omega
  · rw [if_pos c] at h
    refine m_by hE hk1 hk hi hj hT c ⟨fun z => ?_, fun z => m_by hE hk1 hk hi hj hT c ?_⟩
    · simp (disch := omega) only [iL0, iL1, iL2, iL3, iL4, iL5, iL6, iL7, iL8, iL9, iL10, iL11, iL12, iL13, iL16, iL20, iL48, iL60, iL64, iL96, iL100, iL109, iL121, iL133, iL134, iL140, iL188, iL192, iL193, iL772, iL965, iL10000, iL1000000, nI_leI, nI_ltI, nI_eq, nI_add, pk_mul, pk_sub, nI_clamp, vpi, ofN] at z ⊢
      rw [Nat.min_eq_left z] at h
      exact h
    · simp (disch := omega) only [iL0, iL1, iL2, iL3, iL4, iL5, iL6, iL7, iL8, iL9, iL10, iL11, iL12, iL13, iL16, iL20, iL48, iL60, iL64, iL96, iL100, iL109, iL121, iL133, iL134, iL140, iL188, iL192, iL193, iL772, iL965, iL10000, iL1000000, nI_leI, nI_ltI, nI_eq, nI_add, pk_mul, pk_sub, nI_clamp, vpi, ofN] at z ⊢
      rw [Nat.min_eq_right (by omega)] at h
      exact h
  · rw [if_neg c] at h
    simp (disch := omega) only [iL0, iL1, iL2, iL3, iL4, iL5, iL6, iL7, iL8, iL9, iL10, iL11, iL12, iL13, iL16, iL20, iL48, iL60, iL64, iL96, iL100, iL109, iL121, iL133, iL134, iL140, iL188, iL192, iL193, iL772, iL965, iL10000, iL1000000, nI_leI, nI_ltI, nI_eq, nI_add, pk_mul, pk_sub, nI_clamp, vpi, ofN]
    exact h
theorem m_lays_37_all {q r : Sy} {co : Nat → Nat} {i j : Nat} {now one other far : Nat → Int32} {n1 n2 um mt me mg : Int32} {K : Int32 → Int32 → Prop} (hE : REm q r co now one other n1 n2) (hi : i ≤ q.1) (hj : j ≤ r.1) (hT : Tab co q r i j (fun a b => far (9 * a + b))) {m : Nat} (hm : m ≤ 1000000) (h : K (nI 5) (nI (stp co q.2 r.2 (DD co q.2 r.2) 4 i j (stp co q.2 r.2 (DD co q.2 r.2) 3 i j (stp co q.2 r.2 (DD co q.2 r.2) 2 i j (stp co q.2 r.2 (DD co q.2 r.2) 1 i j m)))))) : P_X9_lays_37 (nI j) (nI i) now um mt one other n1 n2 far me mg K 5 (nI 1) (nI m) := by
  have l1 := stp_le co q.2 r.2 (DD co q.2 r.2) 1 i j m
  have l2 := stp_le co q.2 r.2 (DD co q.2 r.2) 2 i j (stp co q.2 r.2 (DD co q.2 r.2) 1 i j m)
  have l3 := stp_le co q.2 r.2 (DD co q.2 r.2) 3 i j (stp co q.2 r.2 (DD co q.2 r.2) 2 i j (stp co q.2 r.2 (DD co q.2 r.2) 1 i j m))
  refine m_lays_37 (k := 1) hE hi hj hT (by omega) (by omega) hm (m_lays_37 (k := 2) hE hi hj hT (by omega) (by omega) (by omega) (m_lays_37 (k := 3) hE hi hj hT (by omega) (by omega) (by omega) (m_lays_37 (k := 4) hE hi hj hT (by omega) (by omega) (by omega) ?_)))
  show B_X9_lays_37 (nI j) (nI i) now um mt one other n1 n2 far me mg K _ (nI 5) _
  unfold B_X9_lays_37
  exact ⟨fun _ => h, fun z => absurd (by decide) z⟩
theorem TabM_put {co : Nat → Nat} {q r : Sy} {i j : Nat} {far : Nat → Int32} {x : Int32} (r8 : r.1 ≤ 8) (hj : j ≤ 8) (h : Tab co q r i j (fun a b => far (9 * a + b))) (hx : x = nI (DD co q.2 r.2 i j)) : Tab co q r i (j + 1) (fun a b => upd far (9 * i + j) x (9 * a + b)) := by
  intro a b ha hb hab
  show upd far (9 * i + j) x (9 * a + b) = _
  by_cases e : a = i ∧ b = j
  · rw [e.1, e.2, pk_us]
    exact hx
  · rw [pk_un (by omega)]
    exact h a b ha hb (by omega)
theorem m_lays_12 {q r : Sy} {co : Nat → Nat} {i : Nat} {now one other : Nat → Int32} {n1 n2 um mt me mg : Int32} {K : Int32 → (Nat → Int32) → Prop} (hE : REm q r co now one other n1 n2) (hi : i ≤ q.1) (hK : ∀ far, Tab co q r i (r.1 + 1) (fun a b => far (9 * a + b)) → K (nI (r.1 + 1)) far) : ∀ (d j : Nat) (far : Nat → Int32), j + d = r.1 + 1 → Tab co q r i j (fun a b => far (9 * a + b)) → P_X9_lays_12 (nI i) now um mt one other n1 n2 me mg K (d + 1) (nI j) far := by
  have q8 := hE.2.2.1
  have r8 := hE.2.2.2.1
  have hrl := hE.2.1.1
  have hc0 := (hE.2.2.2.2.2.2 0 (by omega)).2
  intro d
  induction d with
  | zero =>
    intro j far hj hT
    show B_X9_lays_12 (nI i) now um mt one other n1 n2 me mg K _ (nI j) far
    unfold B_X9_lays_12
    have e : j = r.1 + 1 := by omega
    subst e
    refine ⟨fun _ => hK far hT, fun z => ?_⟩
    rw [hrl] at z
    simp (disch := omega) only [nI_ltI] at z
    omega
  | succ d ih =>
    intro j far hj hT
    show B_X9_lays_12 (nI i) now um mt one other n1 n2 me mg K (P_X9_lays_12 (nI i) now um mt one other n1 n2 me mg K (d + 1)) (nI j) far
    unfold B_X9_lays_12
    have fin : ∀ (v : Int32), v = nI (DD co q.2 r.2 i j) → vp_in (((9 : Int32) * nI i) + nI j) 81 ∧ P_X9_lays_12 (nI i) now um mt one other n1 n2 me mg K (d + 1) (nI j + (1 : Int32)) (upd far (Int32.toNatClampNeg (((9 : Int32) * nI i) + nI j)) v) := by
      intro v hv
      simp (disch := omega) only [iL0, iL1, iL2, iL3, iL4, iL5, iL6, iL7, iL8, iL9, iL10, iL11, iL12, iL13, iL16, iL20, iL48, iL60, iL64, iL96, iL100, iL109, iL121, iL133, iL134, iL140, iL188, iL192, iL193, iL772, iL965, iL10000, iL1000000, nI_leI, nI_ltI, nI_eq, nI_add, pk_mul, pk_sub, nI_clamp, vpi, ofN]
      exact ⟨by omega, ih (j + 1) _ (by omega) (TabM_put r8 (by omega) hT hv)⟩
    refine ⟨fun z => ?_, fun _ => ⟨fun z => ?_, fun z => ?_⟩⟩
    · rw [hrl] at z
      simp (disch := omega) only [nI_ltI] at z
      omega
    · refine ⟨5, m_lays_37_all (m := 10000) hE hi (by omega) hT (by omega) (fin _ (congrArg nI (DD_stp co q.2 r.2 i j 10000 (by omega) hc0 (by omega) (fun c => z (by rw [c.1, c.2]; rfl)))))⟩
    · simp (disch := omega) only [iL0, iL1, iL2, iL3, iL4, iL5, iL6, iL7, iL8, iL9, iL10, iL11, iL12, iL13, iL16, iL20, iL48, iL60, iL64, iL96, iL100, iL109, iL121, iL133, iL134, iL140, iL188, iL192, iL193, iL772, iL965, iL10000, iL1000000, nI_leI, nI_ltI, nI_eq, nI_add, pk_mul, pk_sub, nI_clamp, vpi, ofN] at z
      have ei : i = 0 := by omega
      have ej : j = 0 := by omega
      subst ei
      subst ej
      refine ⟨5, m_lays_37_all (m := 0) hE hi (by omega) hT (by omega) (fin _ (congrArg nI ?_))⟩
      rw [DD_00]
      have g1 := stp_le co q.2 r.2 (DD co q.2 r.2) 1 0 0 0
      have g2 := stp_le co q.2 r.2 (DD co q.2 r.2) 2 0 0 (stp co q.2 r.2 (DD co q.2 r.2) 1 0 0 0)
      have g3 := stp_le co q.2 r.2 (DD co q.2 r.2) 3 0 0 (stp co q.2 r.2 (DD co q.2 r.2) 2 0 0 (stp co q.2 r.2 (DD co q.2 r.2) 1 0 0 0))
      have g4 := stp_le co q.2 r.2 (DD co q.2 r.2) 4 0 0 (stp co q.2 r.2 (DD co q.2 r.2) 3 0 0 (stp co q.2 r.2 (DD co q.2 r.2) 2 0 0 (stp co q.2 r.2 (DD co q.2 r.2) 1 0 0 0)))
      omega
theorem m_lays_2 {q r : Sy} {co : Nat → Nat} {now one other : Nat → Int32} {n1 n2 um mt me mg : Int32} {K : Int32 → (Nat → Int32) → Prop} (hE : REm q r co now one other n1 n2) (hK : ∀ far, Tab co q r (q.1 + 1) 0 (fun a b => far (9 * a + b)) → K (nI (q.1 + 1)) far) : ∀ (d i : Nat) (far : Nat → Int32), i + d = q.1 + 1 → Tab co q r i 0 (fun a b => far (9 * a + b)) → P_X9_lays_2 now um mt one other n1 n2 me mg K (d + 1) (nI i) far := by
  have q8 := hE.2.2.1
  have r8 := hE.2.2.2.1
  have hql := hE.1.1
  intro d
  induction d with
  | zero =>
    intro i far hi hT
    show B_X9_lays_2 now um mt one other n1 n2 me mg K _ (nI i) far
    unfold B_X9_lays_2
    have e : i = q.1 + 1 := by omega
    subst e
    refine ⟨fun _ => hK far hT, fun z => ?_⟩
    rw [hql] at z
    simp (disch := omega) only [nI_ltI] at z
    omega
  | succ d ih =>
    intro i far hi hT
    show B_X9_lays_2 now um mt one other n1 n2 me mg K (P_X9_lays_2 now um mt one other n1 n2 me mg K (d + 1)) (nI i) far
    unfold B_X9_lays_2
    refine ⟨fun z => ?_, fun _ => ⟨r.1 + 1 + 1, m_lays_12 hE (by omega) (fun far' hT' => ?_) (r.1 + 1) 0 far (by omega) hT⟩⟩
    · rw [hql] at z
      simp (disch := omega) only [nI_ltI] at z
      omega
    · simp (disch := omega) only [iL1, nI_add]
      exact ih (i + 1) far' (by omega) (Tab_next hT' (by omega))
theorem m_lays {q r : Sy} {co : Nat → Nat} {now one other far : Nat → Int32} {n1 n2 um mt me mg : Int32} {post : Int32 → (Nat → Int32) → Prop} (hE : REm q r co now one other n1 n2) (h : ∀ far', Tab co q r (q.1 + 1) 0 (fun a b => far' (9 * a + b)) → post (nI (DD co q.2 r.2 q.1 r.1)) far') : P_X9_lays now um mt one other n1 n2 far me mg post := by
  have q8 := hE.2.2.1
  have r8 := hE.2.2.2.1
  unfold P_X9_lays
  refine ⟨q.1 + 1 + 1, m_lays_2 hE (fun far' hT => ?_) (q.1 + 1) 0 far (by omega) (fun a b _ _ z => by omega)⟩
  have t := hT q.1 r.1 (by omega) (by omega) (by omega)
  dsimp only at t
  have g9 : (9 : Int32) = nI 9 := rfl
  rw [hE.1.1, hE.2.1.1]
  simp (disch := omega) only [iL0, iL1, iL2, iL3, iL4, iL5, iL6, iL7, iL8, iL9, iL10, iL11, iL12, iL13, iL16, iL20, iL48, iL60, iL64, iL96, iL100, iL109, iL121, iL133, iL134, iL140, iL188, iL192, iL193, iL772, iL965, iL10000, iL1000000, nI_leI, nI_ltI, nI_eq, nI_add, pk_mul, pk_sub, nI_clamp, vpi, ofN]
  refine ⟨by omega, ?_⟩
  rw [t]
  exact h far' hT
