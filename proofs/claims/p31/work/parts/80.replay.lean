/-! ===== what the class answers for numbers of sayings ===== -/
theorem vWord_in {A : AS} {s i : Nat} (hV : VA A) (hs : s < A.nS) (hi : i < (A.sy s).1) : vWord A (nI s) (nI i) = nI ((A.sy s).2 i) := by
  have h12 := hV.1
  have h8 := (hV.2.1 s hs).2.1
  unfold vWord
  rw [if_pos ⟨s, hs, rfl⟩, if_pos (nI_pos' (by omega)), nI_clamp (n := s) (by omega), nI_clamp (n := i) (by omega), if_neg (fun z => absurd ((nI_leI (by omega) (by omega)).mp z) (by omega))]
theorem s_word {A : AS} {s i : Nat} {li sct pct : Int32} {stk sle ye re ptk ple co : Nat → Int32} {post : Int32 → Prop} (hV : VA A) (hR : RC A li sct stk sle ye re pct ptk ple co) (hs : s < A.nS) (hi : i < (A.sy s).1) (h : post (nI ((A.sy s).2 i))) : P_X8_wordAt (nI s) (nI i) li sct stk sle post := by
  refine s_wordAt hV hR ?_
  rw [vWord_in hV hs hi]
  exact h
theorem s_wlen {A : AS} {s : Nat} {li sct pct : Int32} {stk sle ye re ptk ple co : Nat → Int32} {post : Int32 → Prop} (hV : VA A) (hR : RC A li sct stk sle ye re pct ptk ple co) (hs : s < A.nS) (h : post (nI (A.sy s).1)) : P_X8_lengthOf (nI s) li sct sle post := by
  have h12 := hV.1
  refine s_lengthOf hV hR ?_
  unfold vLen
  rw [if_pos ⟨s, hs, rfl⟩, nI_clamp (by omega)]
  exact h
theorem vDist_in {A : AS} {s t : Nat} (hV : VA A) (hs : s < A.nS) (ht : t < A.nS) : vDist A (nI s) (nI t) = nI (dd A s t) := by
  have h12 := hV.1
  unfold vDist
  rw [if_pos ⟨⟨s, hs, rfl⟩, ⟨t, ht, rfl⟩⟩, nI_clamp (n := s) (by omega), nI_clamp (n := t) (by omega)]
theorem s_dist {A : AS} {s t : Nat} {li sct pct : Int32} {stk sle ye re ptk ple co : Nat → Int32} {eld efln egln : Int32} {eftk egtk : Nat → Int32} {etb : Nat → Nat → Int32} {post : Int32 → Int32 → (Nat → Int32) → Int32 → (Nat → Int32) → (Nat → Nat → Int32) → Prop} (hV : VA A) (hR : RC A li sct stk sle ye re pct ptk ple co) (hs : s < A.nS) (ht : t < A.nS) (h : ∀ f1 f2 g1 g2 tb', post (nI (dd A s t)) f1 f2 g1 g2 tb') : P_X8_distance (nI s) (nI t) li sct stk sle co eld efln eftk egln egtk etb post := by
  refine s_distance hV hR ?_
  rw [vDist_in hV hs ht]
  exact h
theorem ed_len {A : AS} (a b : Nat) : (ed A a b).length ≤ 16 := trs_len _ _ _
theorem s_ecnt {A : AS} {s t : Nat} {li sct pct : Int32} {stk sle ye re ptk ple co : Nat → Int32} {eld efln egln : Int32} {eftk egtk : Nat → Int32} {etb : Nat → Nat → Int32} {els : Nat → Int32} {post : Int32 → Int32 → Int32 → (Nat → Int32) → Int32 → (Nat → Int32) → (Nat → Nat → Int32) → (Nat → Int32) → Prop} (hV : VA A) (hR : RC A li sct stk sle ye re pct ptk ple co) (hs : s < A.nS) (ht : t < A.nS) (h : ∀ l f1 f2 g1 g2 tb' ls', post (nI (ed A s t).length) l f1 f2 g1 g2 tb' ls') : P_X8_editCount (nI s) (nI t) li sct stk sle co eld efln eftk egln egtk etb els post := by
  have h12 := hV.1
  refine s_editCount hV hR ?_
  unfold vECount
  rw [if_pos ⟨⟨s, hs, rfl⟩, ⟨t, ht, rfl⟩⟩, nI_clamp (n := s) (by omega), nI_clamp (n := t) (by omega)]
  exact h
theorem s_eat {A : AS} {s t k : Nat} {li sct pct : Int32} {stk sle ye re ptk ple co : Nat → Int32} {eld efln egln : Int32} {eftk egtk : Nat → Int32} {etb : Nat → Nat → Int32} {els : Nat → Int32} {post : Int32 → Int32 → Int32 → (Nat → Int32) → Int32 → (Nat → Int32) → (Nat → Nat → Int32) → (Nat → Int32) → Prop} (hV : VA A) (hR : RC A li sct stk sle ye re pct ptk ple co) (hs : s < A.nS) (ht : t < A.nS) (hk : k < (ed A s t).length) (h : ∀ l f1 f2 g1 g2 tb' ls', post (nI ((ed A s t).getD ((ed A s t).length - 1 - k) 0)) l f1 f2 g1 g2 tb' ls') : P_X8_editAt (nI s) (nI t) (nI k) li sct stk sle co eld efln eftk egln egtk etb els post := by
  have h12 := hV.1
  have h16 := ed_len (A := A) s t
  refine s_editAt hV hR ?_
  unfold vEAt
  rw [if_pos ⟨⟨s, hs, rfl⟩, ⟨t, ht, rfl⟩⟩, if_pos (nI_pos' (by omega)), nI_clamp (n := s) (by omega), nI_clamp (n := t) (by omega), nI_clamp (n := k) (by omega), if_neg (fun z => absurd ((nI_leI (by omega) (by omega)).mp z) (by omega))]
  exact h
theorem s_eend {A : AS} {s t : Nat} {li sct pct : Int32} {stk sle ye re ptk ple co : Nat → Int32} {eld efln egln : Int32} {eftk egtk : Nat → Int32} {etb : Nat → Nat → Int32} {els : Nat → Int32} {post : Int32 → Int32 → Int32 → (Nat → Int32) → Int32 → (Nat → Int32) → (Nat → Nat → Int32) → (Nat → Int32) → Prop} (hV : VA A) (hR : RC A li sct stk sle ye re pct ptk ple co) (hs : s < A.nS) (ht : t < A.nS) (h : ∀ l f1 f2 g1 g2 tb' ls', post (-4 : Int32) l f1 f2 g1 g2 tb' ls') : P_X8_editAt (nI s) (nI t) (nI (ed A s t).length) li sct stk sle co eld efln eftk egln egtk etb els post := by
  have h12 := hV.1
  have h16 := ed_len (A := A) s t
  refine s_editAt hV hR ?_
  unfold vEAt
  rw [if_pos ⟨⟨s, hs, rfl⟩, ⟨t, ht, rfl⟩⟩, if_pos (nI_pos' (by omega)), nI_clamp (n := s) (by omega), nI_clamp (n := t) (by omega), if_pos (Int32.le_refl _)]
  exact h
/-! ===== the law: exchange, the words between two edits ===== -/
theorem s_exch {fa : Nat → Int32} {c : Nat → Nat} {fN x y : Nat} {post : Int32 → Prop} (hf : ∀ i, i < 4 → fa i = nI (c i)) (hN : 4 ≤ fN) (hx : x < 64) (hy : y < 64) (h : post (nI (rp c x y))) : P_L_exchange fN (nI x) (nI y) fa post := by
  unfold P_L_exchange
  simp (disch := omega) only [iL0, iL1, iL2, iL3, iL4, iL5, iL6, iL7, iL8, iL9, iL10, iL11, iL12, iL13, iL14, iL16, iL20, iL21, iL40, iL48, iL60, iL64, iL65, iL96, iL100, iL10000, iL1000000, nI_leI, nI_ltI, nI_eq, nI_add, pk_mul, pk_sub, nI_clamp, vpi, ofN, pk_div]
  refine ⟨fun h1 => ⟨fun h2 => ⟨by omega, ?_⟩, fun h2 => ⟨by omega, ?_⟩⟩, fun h1 => ?_⟩
  · rw [hf 1 (by omega)]
    rw [rp, if_neg h1, if_neg h2] at h
    exact h
  · rw [hf 2 (by omega)]
    rw [rp, if_neg h1, if_pos h2] at h
    exact h
  · rw [rp, if_pos h1] at h
    exact h
theorem s_w113 {A : AS} {a b i1 j1 : Nat} {li sct pct : Int32} {stk sle ye re ptk ple co : Nat → Int32} {K : Int32 → Int32 → Int32 → Prop} (hV : VA A) (hR : RC A li sct stk sle ye re pct ptk ple co) (ha : a < A.nS) (hb : b < A.nS) (hi1 : i1 ≤ (A.sy a).1) (hj1 : j1 ≤ (A.sy b).1) (hK : K (1 : Int32) (nI j1) (nI i1)) : ∀ (d i j : Nat), i + d = i1 → j + d = j1 → (∀ q, q < d → (A.sy a).2 (i + q) = (A.sy b).2 (j + q)) → P_L_isEdited_113 (nI i1) (nI a) (nI b) li sct stk sle K (d + 1) (1 : Int32) (nI j) (nI i) := by
  have h8 := (hV.2.1 a ha).2.1
  have h8b := (hV.2.1 b hb).2.1
  intro d
  induction d with
  | zero =>
    intro i j hi hj hw
    show B_L_isEdited_113 (nI i1) (nI a) (nI b) li sct stk sle K _ (1 : Int32) (nI j) (nI i)
    unfold B_L_isEdited_113
    have e1 : i = i1 := by omega
    have e2 : j = j1 := by omega
    subst e1
    subst e2
    exact ⟨fun z => absurd z (by decide), fun _ => ⟨fun _ => hK, fun z => absurd (Int32.le_refl _) z⟩⟩
  | succ d ih =>
    intro i j hi hj hw
    show B_L_isEdited_113 (nI i1) (nI a) (nI b) li sct stk sle K (P_L_isEdited_113 (nI i1) (nI a) (nI b) li sct stk sle K (d + 1)) (1 : Int32) (nI j) (nI i)
    unfold B_L_isEdited_113
    refine ⟨fun z => absurd z (by decide), fun _ => ⟨fun z => ?_, fun _ => ⟨fun r => r = (1 : Int32), fun r hr => ?_, s_word hV hR ha (by omega) (s_word hV hR hb (by omega) ⟨fun z => ?_, fun _ => rfl⟩)⟩⟩⟩
    · rw [nI_leI (by omega) (by omega)] at z
      omega
    · replace hr : r = (1 : Int32) := hr
      subst hr
      rw [nI_1 j, nI_1 i]
      refine ih (i + 1) (j + 1) (by omega) (by omega) (fun q hq => ?_)
      have e := hw (q + 1) (by omega)
      rw [show i + 1 + q = i + (q + 1) by omega, show j + 1 + q = j + (q + 1) by omega]
      exact e
    · have e : (A.sy a).2 i = (A.sy b).2 j := hw 0 (by omega)
      exact absurd (congrArg nI e) z
/-! ===== the law: one edit ===== -/
def ei (k : Nat) : Nat := if k = 0 then 0 else if k = 3 then 0 else if k = 4 then 2 else 1
def ej (k : Nat) : Nat := if k = 0 then 0 else if k = 2 then 0 else if k = 4 then 2 else 1
theorem c37 {J : Int32 → Prop} {kd : Nat} (hk : kd ≤ 4) (h : J (nI (ei kd))) : (nI kd = 0 → J (0 : Int32)) ∧ (¬ nI kd = 0 → ((¬ nI kd = (3 : Int32) → ((¬ nI kd = (4 : Int32) → J (1 : Int32)) ∧ (nI kd = (4 : Int32) → J (2 : Int32)))) ∧ (nI kd = (3 : Int32) → J (0 : Int32)))) := by
  rcases (show kd = 0 ∨ kd = 1 ∨ kd = 2 ∨ kd = 3 ∨ kd = 4 by omega) with rfl | rfl | rfl | rfl | rfl
  · exact ⟨fun _ => h, fun z => absurd rfl z⟩
  · exact ⟨fun z => absurd z (by decide), fun _ => ⟨fun _ => ⟨fun _ => h, fun z => absurd z (by decide)⟩, fun z => absurd z (by decide)⟩⟩
  · exact ⟨fun z => absurd z (by decide), fun _ => ⟨fun _ => ⟨fun _ => h, fun z => absurd z (by decide)⟩, fun z => absurd z (by decide)⟩⟩
  · exact ⟨fun z => absurd z (by decide), fun _ => ⟨fun z => absurd rfl z, fun _ => h⟩⟩
  · exact ⟨fun z => absurd z (by decide), fun _ => ⟨fun _ => ⟨fun z => absurd rfl z, fun _ => h⟩, fun z => absurd z (by decide)⟩⟩
theorem c38 {J : Int32 → Prop} {kd : Nat} (hk : kd ≤ 4) (h : J (nI (ej kd))) : (nI kd = 0 → J (0 : Int32)) ∧ (¬ nI kd = 0 → ((¬ nI kd = (2 : Int32) → ((¬ nI kd = (4 : Int32) → J (1 : Int32)) ∧ (nI kd = (4 : Int32) → J (2 : Int32)))) ∧ (nI kd = (2 : Int32) → J (0 : Int32)))) := by
  rcases (show kd = 0 ∨ kd = 1 ∨ kd = 2 ∨ kd = 3 ∨ kd = 4 by omega) with rfl | rfl | rfl | rfl | rfl
  · exact ⟨fun _ => h, fun z => absurd rfl z⟩
  · exact ⟨fun z => absurd z (by decide), fun _ => ⟨fun _ => ⟨fun _ => h, fun z => absurd z (by decide)⟩, fun z => absurd z (by decide)⟩⟩
  · exact ⟨fun z => absurd z (by decide), fun _ => ⟨fun z => absurd rfl z, fun _ => h⟩⟩
  · exact ⟨fun z => absurd z (by decide), fun _ => ⟨fun _ => ⟨fun _ => h, fun z => absurd z (by decide)⟩, fun z => absurd z (by decide)⟩⟩
  · exact ⟨fun z => absurd z (by decide), fun _ => ⟨fun _ => ⟨fun z => absurd rfl z, fun _ => h⟩, fun z => absurd z (by decide)⟩⟩
theorem eNum {E kd i1 j1 : Nat} (hE : E = 100 * kd + 10 * i1 + j1) (hk : kd ≤ 4) (hi : i1 ≤ 8) (hj : j1 ≤ 8) : (nI E / (10 : Int32)) - (nI E / (10 : Int32)) / (10 : Int32) * (10 : Int32) = nI i1 ∧ nI E - nI E / (10 : Int32) * (10 : Int32) = nI j1 ∧ nI E / (100 : Int32) = nI kd := by
  refine ⟨?_, ?_, ?_⟩
  · simp (disch := omega) only [iL10, pk_div, pk_mul, pk_sub]
    exact congrArg nI (by omega)
  · simp (disch := omega) only [iL10, pk_div, pk_mul, pk_sub]
    exact congrArg nI (by omega)
  · simp (disch := omega) only [iL100, pk_div]
    exact congrArg nI (by omega)
def cst (A : AS) (a b i1 j1 kd s s' : Nat) : Prop := (kd = 0 ∧ s' = s) ∨ (kd = 1 ∧ i1 < (A.sy a).1 ∧ j1 < (A.sy b).1 ∧ (A.sy a).2 i1 ≠ (A.sy b).2 j1 ∧ s' = s + rp A.co ((A.sy a).2 i1) ((A.sy b).2 j1)) ∨ (kd = 2 ∧ s' = s + A.co 0) ∨ (kd = 3 ∧ s' = s + A.co 0) ∨ (kd = 4 ∧ i1 + 1 < (A.sy a).1 ∧ j1 + 1 < (A.sy b).1 ∧ (A.sy a).2 i1 = (A.sy b).2 (j1 + 1) ∧ (A.sy a).2 (i1 + 1) = (A.sy b).2 j1 ∧ s' = s + A.co 3)
theorem c36 {A : AS} {a b i1 j1 kd s s' fN : Nat} {li sct pct : Int32} {stk sle ye re ptk ple co : Nat → Int32} {fa : Nat → Int32} {J : Int32 → Int32 → Prop} (hV : VA A) (hR : RC A li sct stk sle ye re pct ptk ple co) (ha : a < A.nS) (hb : b < A.nS) (hf : ∀ i, i < 4 → fa i = nI (A.co i)) (hN : 4 ≤ fN) (hc : cst A a b i1 j1 kd s s') (h : J (1 : Int32) (nI s')) :
    (¬ nI kd = (1 : Int32) → ((¬ nI kd = (4 : Int32) → ((nI kd ≤ (1 : Int32) → J (1 : Int32) (nI s)) ∧ (¬ nI kd ≤ (1 : Int32) → (vp_in (0 : Int32) fN ∧ (J (1 : Int32) (nI s + (fa (Int32.toNatClampNeg (0 : Int32))))))))) ∧ (nI kd = (4 : Int32) → (vp_in (3 : Int32) fN ∧ (((1 : Int32) = 0 → J (0 : Int32) (nI s + (fa (Int32.toNatClampNeg (3 : Int32))))) ∧ (¬ (1 : Int32) = 0 → (P_X8_wordAt (nI a) (nI i1) li sct stk sle (fun r39 => P_X8_wordAt (nI b) (nI j1 + (1 : Int32)) li sct stk sle (fun r40 => (¬ r39 = r40 → J (0 : Int32) (nI s + (fa (Int32.toNatClampNeg (3 : Int32))))) ∧ (r39 = r40 → (P_X8_wordAt (nI a) (nI i1 + (1 : Int32)) li sct stk sle (fun r41 => P_X8_wordAt (nI b) (nI j1) li sct stk sle (fun r42 => (¬ r41 = r42 → J (0 : Int32) (nI s + (fa (Int32.toNatClampNeg (3 : Int32))))) ∧ (r41 = r42 → J (1 : Int32) (nI s + (fa (Int32.toNatClampNeg (3 : Int32)))))))))))))))))) ∧ (nI kd = (1 : Int32) → (P_X8_wordAt (nI a) (nI i1) li sct stk sle (fun r43 => P_X8_wordAt (nI b) (nI j1) li sct stk sle (fun r44 => P_L_exchange fN r43 r44 fa (fun r45 => ((1 : Int32) = 0 → J (0 : Int32) (nI s + r45)) ∧ (¬ (1 : Int32) = 0 → (P_X8_wordAt (nI a) (nI i1) li sct stk sle (fun r46 => P_X8_wordAt (nI b) (nI j1) li sct stk sle (fun r47 => (r46 = r47 → J (0 : Int32) (nI s + r45)) ∧ (¬ r46 = r47 → J (1 : Int32) (nI s + r45))))))))))) := by
  have f0 : fa (Int32.toNatClampNeg (0 : Int32)) = nI (A.co 0) := hf 0 (by omega)
  have f3 : fa (Int32.toNatClampNeg (3 : Int32)) = nI (A.co 3) := hf 3 (by omega)
  have v0 : vp_in (0 : Int32) fN := (vpi (k := 0) (by omega)).mpr (by omega)
  have v3 : vp_in (3 : Int32) fN := (vpi (k := 3) (by omega)).mpr (by omega)
  have h8 := (hV.2.1 a ha).2.1
  have h8b := (hV.2.1 b hb).2.1
  rw [f0, f3, nI_add, nI_add]
  rcases hc with ⟨rfl, rfl⟩ | ⟨rfl, hi, hj, hne, rfl⟩ | ⟨rfl, rfl⟩ | ⟨rfl, rfl⟩ | ⟨rfl, hi, hj, h1, h2, rfl⟩
  · exact ⟨fun _ => ⟨fun _ => ⟨fun _ => h, fun z => absurd (by decide) z⟩, fun z => absurd z (by decide)⟩, fun z => absurd z (by decide)⟩
  · have wx := (hV.2.1 a ha).2.2.2 i1 hi
    have wy := (hV.2.1 b hb).2.2.2 j1 hj
    refine ⟨fun z => absurd rfl z, fun _ => s_word hV hR ha hi (s_word hV hR hb hj (s_exch hf hN (by omega) (by omega) ⟨fun z => absurd z (by decide), fun _ => s_word hV hR ha hi (s_word hV hR hb hj ⟨fun z => ?_, fun _ => ?_⟩)⟩))⟩
    · rw [nI_eq (by omega) (by omega)] at z
      exact absurd z hne
    · rw [nI_add]
      exact h
  · exact ⟨fun _ => ⟨fun _ => ⟨fun z => absurd z (by decide), fun _ => ⟨v0, h⟩⟩, fun z => absurd z (by decide)⟩, fun z => absurd z (by decide)⟩
  · exact ⟨fun _ => ⟨fun _ => ⟨fun z => absurd z (by decide), fun _ => ⟨v0, h⟩⟩, fun z => absurd z (by decide)⟩, fun z => absurd z (by decide)⟩
  · rw [nI_1 i1, nI_1 j1]
    exact ⟨fun _ => ⟨fun z => absurd rfl z, fun _ => ⟨v3, fun z => absurd z (by decide), fun _ => s_word hV hR ha (by omega) (s_word hV hR hb hj ⟨fun z => absurd (congrArg nI h1) z, fun _ => s_word hV hR ha hi (s_word hV hR hb (by omega) ⟨fun z => absurd (congrArg nI h2) z, fun _ => h⟩)⟩)⟩⟩, fun z => absurd z (by decide)⟩
theorem s_step {A : AS} {a b i0 j0 i1 j1 i2 j2 kd s s' k E fN n : Nat} {li sct pct : Int32} {stk sle ye re ptk ple co : Nat → Int32} {fa : Nat → Int32} {eld efln egln : Int32} {eftk egtk : Nat → Int32} {etb : Nat → Nat → Int32} {els : Nat → Int32} {K : Int32 → Int32 → Int32 → Int32 → Int32 → Int32 → Int32 → (Nat → Int32) → Int32 → (Nat → Int32) → (Nat → Nat → Int32) → (Nat → Int32) → Prop} (hV : VA A) (hR : RC A li sct stk sle ye re pct ptk ple co) (ha : a < A.nS) (hb : b < A.nS) (hf : ∀ i, i < 4 → fa i = nI (A.co i)) (hN : 4 ≤ fN) (hk : k ≤ (ed A a b).length) (hi1 : i1 ≤ (A.sy a).1) (hj1 : j1 ≤ (A.sy b).1) (h0 : i0 ≤ i1) (h0' : j0 ≤ j1) (hij : i1 - i0 = j1 - j0) (hw : ∀ q, q < i1 - i0 → (A.sy a).2 (i0 + q) = (A.sy b).2 (j0 + q)) (hkd : kd ≤ 4) (hc : cst A a b i1 j1 kd s s') (hE : E = 100 * kd + 10 * i1 + j1) (hE1 : (ed A a b).length ≤ k → E = 10 * (A.sy a).1 + (A.sy b).1) (hE2 : k < (ed A a b).length → (ed A a b).getD ((ed A a b).length - 1 - k) 0 = E) (hi2 : i1 + ei kd = i2) (hj2 : j1 + ej kd = j2)
    (hnext : ∀ eld efln eftk egln egtk etb els, P_L_isEdited_23 fN (nI (ed A a b).length) (nI a) (nI b) li sct stk sle co fa K n (nI (k + 1)) (1 : Int32) (nI s') (nI j2) (nI i2) eld efln eftk egln egtk etb els) : P_L_isEdited_23 fN (nI (ed A a b).length) (nI a) (nI b) li sct stk sle co fa K (n + 1) (nI k) (1 : Int32) (nI s) (nI j0) (nI i0) eld efln eftk egln egtk etb els := by
  have h8 := (hV.2.1 a ha).2.1
  have h8b := (hV.2.1 b hb).2.1
  have h16 := ed_len (A := A) a b
  obtain ⟨n1, n2, n3⟩ := eNum hE hkd (show i1 ≤ 8 by omega) (show j1 ≤ 8 by omega)
  show B_L_isEdited_23 fN (nI (ed A a b).length) (nI a) (nI b) li sct stk sle co fa K (P_L_isEdited_23 fN (nI (ed A a b).length) (nI a) (nI b) li sct stk sle co fa K n) (nI k) (1 : Int32) (nI s) (nI j0) (nI i0) eld efln eftk egln egtk etb els
  unfold B_L_isEdited_23
  refine ⟨fun z => ?_, fun _ => ⟨fun z => absurd z (by decide), fun _ => ⟨fun e _ _ _ _ _ _ _ => e = nI E, fun e l f1 f2 g1 g2 tb ls he => ?_, fun z => ?_, fun z => ?_⟩⟩⟩
  · rw [nI_ltI (by omega) (by omega)] at z
    omega
  · replace he : e = nI E := he
    subst he
    rw [n1, n2, n3]
    refine ⟨fun r => r = (1 : Int32), fun r hr => ?_, ?_⟩
    · replace hr : r = (1 : Int32) := hr
      subst hr
      refine ⟨i1 - i0 + 1, s_w113 hV hR ha hb hi1 hj1 ?_ (i1 - i0) i0 j0 (by omega) (by omega) hw⟩
      refine ⟨fun v8 v7 => v8 = (1 : Int32) ∧ v7 = nI s', fun v8 v7 hv => ?_, c36 (J := fun v8 v7 => v8 = (1 : Int32) ∧ v7 = nI s') hV hR ha hb hf hN hc ⟨rfl, rfl⟩⟩
      obtain ⟨rfl, rfl⟩ := hv
      refine ⟨fun r => r = nI (ei kd), fun r hr => ?_, c37 (J := fun r => r = nI (ei kd)) hkd rfl⟩
      replace hr : r = nI (ei kd) := hr
      subst hr
      refine ⟨fun r => r = nI (ej kd), fun r hr => ?_, c38 (J := fun r => r = nI (ej kd)) hkd rfl⟩
      replace hr : r = nI (ej kd) := hr
      subst hr
      rw [nI_add, nI_add, hi2, hj2, nI_1]
      exact hnext _ _ _ _ _ _ _
    · refine ⟨fun z => ?_, fun _ => ⟨fun z => ?_, fun _ => rfl⟩⟩
      · rw [pk_sub h0, pk_sub h0', hij] at z
        exact absurd rfl z
      · rw [nI_ltI (by omega) (by omega)] at z
        omega
  · rw [nI_leI (by omega) (by omega)] at z
    refine s_wlen hV hR ha (s_wlen hV hR hb ?_)
    show (10 : Int32) * nI (A.sy a).1 + nI (A.sy b).1 = nI E
    rw [iL10, pk_mul, nI_add, hE1 z]
  · rw [nI_leI (by omega) (by omega)] at z
    refine s_eat hV hR ha hb (by omega) (fun l f1 f2 g1 g2 tb ls => ?_)
    show nI _ = nI E
    rw [hE2 (by omega)]
theorem lastk_bv {co f g : Nat → Nat} {i j : Nat} (hco : ∀ i, i < 4 → co i ≤ 9) (hi : i ≤ 8) (hj : j ≤ 8) (h0 : ¬ (i = 0 ∧ j = 0)) : bv co f g (DD co f g) (lastk co f g i j) i j = DD co f g i j := by
  have hd := DD_stp co f g i j 10000 (by omega) (hco 0 (by omega)) (by omega) h0
  have hb := DD_bd (co := co) f g (hco 0 (by omega)) hi hj
  unfold lastk
  by_cases c1 : isl co f g 1 i j
  · rw [if_pos c1]
    exact c1.2
  rw [if_neg c1]
  by_cases c2 : isl co f g 2 i j
  · rw [if_pos c2]
    exact c2.2
  rw [if_neg c2]
  by_cases c3 : isl co f g 3 i j
  · rw [if_pos c3]
    exact c3.2
  rw [if_neg c3]
  unfold isl at c1 c2 c3
  unfold stp at hd
  by_cases b1 : bok f g 1 i j <;> by_cases b2 : bok f g 2 i j <;> by_cases b3 : bok f g 3 i j <;> by_cases b4 : bok f g 4 i j <;> simp only [b1, b2, b3, b4, if_true, if_false, if_pos, if_neg, not_false_iff, true_and, false_and] at hd c1 c2 c3 <;> omega
theorem rep {A : AS} {a b fN : Nat} {li sct pct : Int32} {stk sle ye re ptk ple co : Nat → Int32} {fa : Nat → Int32} {K : Int32 → Int32 → Int32 → Int32 → Int32 → Int32 → Int32 → (Nat → Int32) → Int32 → (Nat → Int32) → (Nat → Nat → Int32) → (Nat → Int32) → Prop} (hV : VA A) (hR : RC A li sct stk sle ye re pct ptk ple co) (ha : a < A.nS) (hb : b < A.nS) (hf : ∀ i, i < 4 → fa i = nI (A.co i)) (hN : 4 ≤ fN) : ∀ (n i j : Nat) (pre : List Nat), i ≤ (A.sy a).1 → j ≤ (A.sy b).1 → i + j ≤ n → ed A a b = pre ++ trs A.co (A.sy a).2 (A.sy b).2 n i j → ∀ (d : Nat), (∀ i0 j0 eld efln eftk egln egtk etb els, i0 ≤ i → j0 ≤ j → i - i0 = j - j0 → (∀ q, q < i - i0 → (A.sy a).2 (i0 + q) = (A.sy b).2 (j0 + q)) → P_L_isEdited_23 fN (nI (ed A a b).length) (nI a) (nI b) li sct stk sle co fa K d (nI (trs A.co (A.sy a).2 (A.sy b).2 n i j).length) (1 : Int32) (nI (DD A.co (A.sy a).2 (A.sy b).2 i j)) (nI j0) (nI i0) eld efln eftk egln egtk etb els) → ∀ eld efln eftk egln egtk etb els, P_L_isEdited_23 fN (nI (ed A a b).length) (nI a) (nI b) li sct stk sle co fa K (d + (trs A.co (A.sy a).2 (A.sy b).2 n i j).length) (nI 0) (1 : Int32) (nI 0) (nI 0) (nI 0) eld efln eftk egln egtk etb els := by
  have h8 := (hV.2.1 a ha).2.1
  have h8b := (hV.2.1 b hb).2.1
  have hco : ∀ i, i < 4 → A.co i ≤ 9 := fun i hi => (hV.2.2.2.2.1 i hi).2
  have nil : ∀ (n i j : Nat), i + j = 0 → trs A.co (A.sy a).2 (A.sy b).2 n i j = [] := by
    intro n i j h
    cases n with
    | zero => rw [trs]
    | succ n => rw [trs, if_pos h]
  have base : ∀ (n i j : Nat), i + j = 0 → ∀ (d : Nat), (∀ i0 j0 eld efln eftk egln egtk etb els, i0 ≤ i → j0 ≤ j → i - i0 = j - j0 → (∀ q, q < i - i0 → (A.sy a).2 (i0 + q) = (A.sy b).2 (j0 + q)) → P_L_isEdited_23 fN (nI (ed A a b).length) (nI a) (nI b) li sct stk sle co fa K d (nI (trs A.co (A.sy a).2 (A.sy b).2 n i j).length) (1 : Int32) (nI (DD A.co (A.sy a).2 (A.sy b).2 i j)) (nI j0) (nI i0) eld efln eftk egln egtk etb els) → ∀ eld efln eftk egln egtk etb els, P_L_isEdited_23 fN (nI (ed A a b).length) (nI a) (nI b) li sct stk sle co fa K (d + (trs A.co (A.sy a).2 (A.sy b).2 n i j).length) (nI 0) (1 : Int32) (nI 0) (nI 0) (nI 0) eld efln eftk egln egtk etb els := by
    intro n i j h d hh eld efln eftk egln egtk etb els
    have e1 : i = 0 := by omega
    have e2 : j = 0 := by omega
    subst e1
    subst e2
    have t := hh 0 0 eld efln eftk egln egtk etb els (Nat.le_refl _) (Nat.le_refl _) rfl (fun q hq => absurd hq (Nat.not_lt_zero q))
    rw [nil n 0 0 rfl, DD_00] at t
    rw [nil n 0 0 rfl]
    exact t
  intro n
  induction n with
  | zero =>
    intro i j pre hi hj hn hL d hh
    exact base 0 i j (by omega) d hh
  | succ n ih =>
    intro i j pre hi hj hn hL d hh eld efln eftk egln egtk etb els
    by_cases h0 : i + j = 0
    · exact base (n + 1) i j h0 d hh eld efln eftk egln egtk etb els
    have hk := lastk_ok (co := A.co) (f := (A.sy a).2) (g := (A.sy b).2) hco (show i ≤ 8 by omega) (show j ≤ 8 by omega) (by omega)
    have hbv := lastk_bv (co := A.co) (f := (A.sy a).2) (g := (A.sy b).2) hco (show i ≤ 8 by omega) (show j ≤ 8 by omega) (by omega)
    have hst : trs A.co (A.sy a).2 (A.sy b).2 (n + 1) i j = if lastk A.co (A.sy a).2 (A.sy b).2 i j = 1 ∧ (A.sy a).2 (i - 1) = (A.sy b).2 (j - 1) then trs A.co (A.sy a).2 (A.sy b).2 n (i - 1) (j - 1) else (100 * lastk A.co (A.sy a).2 (A.sy b).2 i j + 10 * (i - di (lastk A.co (A.sy a).2 (A.sy b).2 i j)) + (j - dj (lastk A.co (A.sy a).2 (A.sy b).2 i j))) :: trs A.co (A.sy a).2 (A.sy b).2 n (i - di (lastk A.co (A.sy a).2 (A.sy b).2 i j)) (j - dj (lastk A.co (A.sy a).2 (A.sy b).2 i j)) := by
      rw [trs, if_neg h0]
    generalize lastk A.co (A.sy a).2 (A.sy b).2 i j = kk at hk hbv hst
    by_cases c : kk = 1 ∧ (A.sy a).2 (i - 1) = (A.sy b).2 (j - 1)
    · rw [if_pos c] at hst
      obtain ⟨rfl, cw⟩ := c
      rw [hst] at hL hh ⊢
      simp only [bok, if_true] at hk
      rw [bv, if_pos rfl, rp, if_pos cw] at hbv
      refine ih (i - 1) (j - 1) pre (by omega) (by omega) (by omega) hL d (fun i0 j0 eld efln eftk egln egtk etb els g1 g2 g3 g4 => ?_) eld efln eftk egln egtk etb els
      have t := hh i0 j0 eld efln eftk egln egtk etb els (by omega) (by omega) (by omega) (fun q hq => ?_)
      · rw [← hbv] at t
        exact t
      · by_cases e : q < i - 1 - i0
        · exact g4 q e
        · rw [show i0 + q = i - 1 by omega, show j0 + q = j - 1 by omega]
          exact cw
    · rw [if_neg c] at hst
      rw [hst] at hL hh ⊢
      have hb1 := DD_bd (co := A.co) (A.sy a).2 (A.sy b).2 (hco 0 (by omega)) (show i - di kk ≤ 8 by omega) (show j - dj kk ≤ 8 by omega)
      have hlen := congrArg List.length hL
      rw [List.length_append, List.length_cons] at hlen
      have fin : kk ≤ 4 ∧ (i - di kk) + ei kk = i ∧ (j - dj kk) + ej kk = j ∧ i - di kk + (j - dj kk) ≤ n ∧ cst A a b (i - di kk) (j - dj kk) kk (DD A.co (A.sy a).2 (A.sy b).2 (i - di kk) (j - dj kk)) (DD A.co (A.sy a).2 (A.sy b).2 i j) := by
        rcases (show kk = 1 ∨ kk = 2 ∨ kk = 3 ∨ kk = 4 by omega) with rfl | rfl | rfl | rfl
        · simp only [bok, if_true] at hk
          rw [bv, if_pos rfl] at hbv
          refine ⟨by omega, ?_, ?_, ?_, Or.inr (Or.inl ⟨rfl, ?_, ?_, fun z => c ⟨rfl, z⟩, hbv.symm⟩)⟩
          · show i - 1 + 1 = i
            omega
          · show j - 1 + 1 = j
            omega
          · show i - 1 + (j - 1) ≤ n
            omega
          · show i - 1 < _
            omega
          · show j - 1 < _
            omega
        · simp only [bok, Nat.reduceEqDiff, if_true, if_false] at hk
          rw [bv, if_neg (by decide), if_pos rfl] at hbv
          refine ⟨by omega, ?_, ?_, ?_, Or.inr (Or.inr (Or.inl ⟨rfl, hbv.symm⟩))⟩
          · show i - 1 + 1 = i
            omega
          · show j - 0 + 0 = j
            omega
          · show i - 1 + (j - 0) ≤ n
            omega
        · simp only [bok, Nat.reduceEqDiff, if_true, if_false] at hk
          rw [bv, if_neg (by decide), if_neg (by decide), if_pos rfl] at hbv
          refine ⟨by omega, ?_, ?_, ?_, Or.inr (Or.inr (Or.inr (Or.inl ⟨rfl, hbv.symm⟩)))⟩
          · show i - 0 + 0 = i
            omega
          · show j - 1 + 1 = j
            omega
          · show i - 0 + (j - 1) ≤ n
            omega
        · simp only [bok, Nat.reduceEqDiff, if_true, if_false] at hk
          rw [bv, if_neg (by decide), if_neg (by decide), if_neg (by decide)] at hbv
          obtain ⟨⟨k1, k2, k3, k4⟩, -, -⟩ := hk
          refine ⟨by omega, ?_, ?_, ?_, Or.inr (Or.inr (Or.inr (Or.inr ⟨rfl, ?_, ?_, ?_, ?_, hbv.symm⟩)))⟩
          · show i - 2 + 2 = i
            omega
          · show j - 2 + 2 = j
            omega
          · show i - 2 + (j - 2) ≤ n
            omega
          · show i - 2 + 1 < _
            omega
          · show j - 2 + 1 < _
            omega
          · show (A.sy a).2 (i - 2) = (A.sy b).2 (j - 2 + 1)
            rw [show j - 2 + 1 = j - 1 by omega]
            exact k4
          · show (A.sy a).2 (i - 2 + 1) = (A.sy b).2 (j - 2)
            rw [show i - 2 + 1 = i - 1 by omega]
            exact k3
      obtain ⟨f1, f2, f3, f4, f5⟩ := fin
      have t := ih (i - di kk) (j - dj kk) (pre ++ [100 * kk + 10 * (i - di kk) + (j - dj kk)]) (by omega) (by omega) f4 (by rw [hL]; simp) (d + 1) (fun i0 j0 eld efln eftk egln egtk etb els g1 g2 g3 g4 => s_step (E := 100 * kk + 10 * (i - di kk) + (j - dj kk)) hV hR ha hb hf hN (by omega) (by omega) (by omega) g1 g2 g3 g4 f1 f5 rfl (fun z => by omega) (fun z => ?_) f2 f3 (fun eld efln eftk egln egtk etb els => hh i j eld efln eftk egln egtk etb els (Nat.le_refl _) (Nat.le_refl _) (by omega) (fun q hq => by omega))) eld efln eftk egln egtk etb els
      · rw [List.length_cons, show d + ((trs A.co (A.sy a).2 (A.sy b).2 n (i - di kk) (j - dj kk)).length + 1) = d + 1 + (trs A.co (A.sy a).2 (A.sy b).2 n (i - di kk) (j - dj kk)).length by omega]
        exact t
      · rw [hlen, hL, show pre.length + ((trs A.co (A.sy a).2 (A.sy b).2 n (i - di kk) (j - dj kk)).length + 1) - 1 - (trs A.co (A.sy a).2 (A.sy b).2 n (i - di kk) (j - dj kk)).length = pre.length by omega, List.getD_eq_getElem?_getD, List.getElem?_append_right (Nat.le_refl _), Nat.sub_self]
        rfl
theorem s_i23end {m fN n : Nat} {v2 v3 v8 v7 v6 v5 li sct : Int32} {stk sle co : Nat → Int32} {fa : Nat → Int32} {eld efln egln : Int32} {eftk egtk : Nat → Int32} {etb : Nat → Nat → Int32} {els : Nat → Int32} {K : Int32 → Int32 → Int32 → Int32 → Int32 → Int32 → Int32 → (Nat → Int32) → Int32 → (Nat → Int32) → (Nat → Nat → Int32) → (Nat → Int32) → Prop} (hm : m ≤ 16) (h : K (nI (m + 1)) v8 v7 v6 v5 eld efln eftk egln egtk etb els) : P_L_isEdited_23 fN (nI m) v2 v3 li sct stk sle co fa K (n + 1) (nI (m + 1)) v8 v7 v6 v5 eld efln eftk egln egtk etb els := by
  show B_L_isEdited_23 fN (nI m) v2 v3 li sct stk sle co fa K (P_L_isEdited_23 fN (nI m) v2 v3 li sct stk sle co fa K n) (nI (m + 1)) v8 v7 v6 v5 eld efln eftk egln egtk etb els
  unfold B_L_isEdited_23
  refine ⟨fun _ => h, fun z => ?_⟩
  rw [nI_ltI (by omega) (by omega)] at z
  omega
theorem s_isEdited {A : AS} {a b fN : Nat} {li sct pct : Int32} {stk sle ye re ptk ple co : Nat → Int32} {fa : Nat → Int32} {eld efln egln : Int32} {eftk egtk : Nat → Int32} {etb : Nat → Nat → Int32} {els : Nat → Int32} {post : Int32 → Int32 → Int32 → (Nat → Int32) → Int32 → (Nat → Int32) → (Nat → Nat → Int32) → (Nat → Int32) → Prop} (hV : VA A) (hR : RC A li sct stk sle ye re pct ptk ple co) (ha : a < A.nS) (hb : b < A.nS) (hf : ∀ i, i < 4 → fa i = nI (A.co i)) (hN : 4 ≤ fN) (h : ∀ l f1 f2 g1 g2 tb ls, post (1 : Int32) l f1 f2 g1 g2 tb ls) : P_L_isEdited fN (nI a) (nI b) li sct stk sle co eld efln eftk egln egtk etb els fa post := by
  have h8 := (hV.2.1 a ha).2.1
  have h8b := (hV.2.1 b hb).2.1
  have h16 := ed_len (A := A) a b
  unfold P_L_isEdited
  refine s_ecnt hV hR ha hb (fun l f1 f2 g1 g2 tb ls => ⟨2 + (ed A a b).length, ?_⟩)
  refine rep hV hR ha hb hf hN 16 (A.sy a).1 (A.sy b).1 [] (Nat.le_refl _) (Nat.le_refl _) (by omega) rfl 2 (fun i0 j0 eld efln eftk egln egtk etb els g1 g2 g3 g4 => ?_) l f1 f2 g1 g2 tb ls
  have hT : trs A.co (A.sy a).2 (A.sy b).2 16 (A.sy a).1 (A.sy b).1 = ed A a b := rfl
  rw [hT]
  refine s_step (kd := 0) (E := 10 * (A.sy a).1 + (A.sy b).1) hV hR ha hb hf hN (Nat.le_refl _) (Nat.le_refl _) (Nat.le_refl _) g1 g2 g3 g4 (Nat.zero_le _) (Or.inl ⟨rfl, rfl⟩) (by omega) (fun _ => rfl) (fun z => absurd z (Nat.lt_irrefl _)) rfl rfl (fun eld efln eftk egln egtk etb els => s_i23end (n := 0) h16 ⟨fun z => absurd z (by decide), fun _ => s_wlen hV hR ha ⟨fun z => absurd rfl z, fun _ => s_wlen hV hR hb ⟨fun z => absurd rfl z, fun _ => s_dist hV hR ha hb (fun _ _ _ _ _ => ⟨fun z => absurd rfl z, fun _ => s_eend hV hR ha hb (fun _ _ _ _ _ _ _ => ⟨fun z => absurd rfl z, fun _ => h _ _ _ _ _ _ _⟩)⟩)⟩⟩⟩)
