/-! ===== the distance is the same both ways; it is 0 where nothing is edited ===== -/
theorem rp_comm (co : Nat → Nat) (a b : Nat) : rp co a b = rp co b a := by
  unfold rp
  by_cases h : a = b
  · rw [if_pos h, if_pos h.symm]
  · rw [if_neg h, if_neg (fun z : b = a => h z.symm)]
    by_cases h2 : a / 4 = b / 4
    · rw [if_pos h2, if_pos h2.symm]
    · rw [if_neg h2, if_neg (fun z : b / 4 = a / 4 => h2 z.symm)]
theorem DD_eq (co f g : Nat → Nat) (i j : Nat) : DD co f g i j = if i = 0 ∧ j = 0 then 0 else min (min (min (if 1 ≤ i ∧ 1 ≤ j then DD co f g (i - 1) (j - 1) + rp co (f (i - 1)) (g (j - 1)) else 10000) (if 1 ≤ i then DD co f g (i - 1) j + co 0 else 10000)) (if 1 ≤ j then DD co f g i (j - 1) + co 0 else 10000)) (if 2 ≤ i ∧ 2 ≤ j ∧ f (i - 1) = g (j - 2) ∧ f (i - 2) = g (j - 1) then DD co f g (i - 2) (j - 2) + co 3 else 10000) := by
  rw [DD]
  first | rfl | simp only [dite_eq_ite]
theorem min4 (a b c d : Nat) : min (min (min a c) b) d = min (min (min a b) c) d := by omega
theorem DD_sym (co f g : Nat → Nat) : ∀ (n i j : Nat), i + j = n → DD co f g i j = DD co g f j i := by
  intro n
  induction n using Nat.strongRecOn with
  | _ n ih =>
    intro i j hn
    have a1 : 1 ≤ i ∧ 1 ≤ j → DD co f g (i - 1) (j - 1) = DD co g f (j - 1) (i - 1) := fun h => ih (i - 1 + (j - 1)) (by omega) _ _ rfl
    have a2 : 1 ≤ i → DD co f g (i - 1) j = DD co g f j (i - 1) := fun h => ih (i - 1 + j) (by omega) _ _ rfl
    have a3 : 1 ≤ j → DD co f g i (j - 1) = DD co g f (j - 1) i := fun h => ih (i + (j - 1)) (by omega) _ _ rfl
    have a4 : 2 ≤ i → 2 ≤ j → DD co f g (i - 2) (j - 2) = DD co g f (j - 2) (i - 2) := fun h h2 => ih (i - 2 + (j - 2)) (by omega) _ _ rfl
    rw [DD_eq co f g i j, DD_eq co g f j i]
    by_cases h0 : i = 0 ∧ j = 0
    · rw [if_pos h0, if_pos ⟨h0.2, h0.1⟩]
    rw [if_neg h0, if_neg (fun z : j = 0 ∧ i = 0 => h0 ⟨z.2, z.1⟩)]
    have x1 : (if 1 ≤ j ∧ 1 ≤ i then DD co g f (j - 1) (i - 1) + rp co (g (j - 1)) (f (i - 1)) else 10000) = (if 1 ≤ i ∧ 1 ≤ j then DD co f g (i - 1) (j - 1) + rp co (f (i - 1)) (g (j - 1)) else 10000) := by
      by_cases h : 1 ≤ i ∧ 1 ≤ j
      · rw [if_pos h, if_pos ⟨h.2, h.1⟩, a1 h, rp_comm]
      · rw [if_neg h, if_neg (fun z : 1 ≤ j ∧ 1 ≤ i => h ⟨z.2, z.1⟩)]
    have x2 : (if 1 ≤ i then DD co g f j (i - 1) + co 0 else 10000) = (if 1 ≤ i then DD co f g (i - 1) j + co 0 else 10000) := by
      by_cases h : 1 ≤ i
      · rw [if_pos h, if_pos h, a2 h]
      · rw [if_neg h, if_neg h]
    have x3 : (if 1 ≤ j then DD co g f (j - 1) i + co 0 else 10000) = (if 1 ≤ j then DD co f g i (j - 1) + co 0 else 10000) := by
      by_cases h : 1 ≤ j
      · rw [if_pos h, if_pos h, a3 h]
      · rw [if_neg h, if_neg h]
    have x4 : (if 2 ≤ j ∧ 2 ≤ i ∧ g (j - 1) = f (i - 2) ∧ g (j - 2) = f (i - 1) then DD co g f (j - 2) (i - 2) + co 3 else 10000) = (if 2 ≤ i ∧ 2 ≤ j ∧ f (i - 1) = g (j - 2) ∧ f (i - 2) = g (j - 1) then DD co f g (i - 2) (j - 2) + co 3 else 10000) := by
      by_cases h : 2 ≤ i ∧ 2 ≤ j ∧ f (i - 1) = g (j - 2) ∧ f (i - 2) = g (j - 1)
      · rw [if_pos h, if_pos ⟨h.2.1, h.1, h.2.2.2.symm, h.2.2.1.symm⟩, a4 h.1 h.2.1]
      · rw [if_neg h, if_neg (fun z : 2 ≤ j ∧ 2 ≤ i ∧ g (j - 1) = f (i - 2) ∧ g (j - 2) = f (i - 1) => h ⟨z.2.1, z.1, z.2.2.2.symm, z.2.2.1.symm⟩)]
    rw [x1, x2, x3, x4]
    exact min4 _ _ _ _
theorem dd_sym (A : AS) (s t : Nat) : dd A s t = dd A t s := DD_sym _ _ _ _ _ _ rfl
theorem vSim_sym {A : AS} {s t : Nat} (hV : VA A) (hs : s < A.nS) (ht : t < A.nS) : vSim A (nI s) (nI t) = vSim A (nI t) (nI s) := by
  have h12 := hV.1
  unfold vSim
  rw [if_pos ⟨⟨s, hs, rfl⟩, ⟨t, ht, rfl⟩⟩, if_pos ⟨⟨t, ht, rfl⟩, ⟨s, hs, rfl⟩⟩, nI_clamp (n := s) (by omega), nI_clamp (n := t) (by omega), dd_sym A s t]
  unfold wl
  rw [Nat.add_comm (A.sy s).1]
theorem bv_pos {co f g : Nat → Nat} {k i j : Nat} (hco : ∀ i, i < 4 → 1 ≤ co i) (hk : 1 ≤ k ∧ k ≤ 4) (hne : ¬ (k = 1 ∧ f (i - 1) = g (j - 1))) (T : Nat → Nat → Nat) : 0 < bv co f g T k i j := by
  have c0 := hco 0 (by omega)
  have c1 := hco 1 (by omega)
  have c2 := hco 2 (by omega)
  have c3 := hco 3 (by omega)
  rcases (show k = 1 ∨ k = 2 ∨ k = 3 ∨ k = 4 by omega) with rfl | rfl | rfl | rfl
  · rw [bv, if_pos rfl, rp, if_neg (fun z => hne ⟨rfl, z⟩)]
    by_cases h : f (i - 1) / 4 = g (j - 1) / 4
    · rw [if_pos h]
      omega
    · rw [if_neg h]
      omega
  · rw [bv, if_neg (by decide), if_pos rfl]
    omega
  · rw [bv, if_neg (by decide), if_neg (by decide), if_pos rfl]
    omega
  · rw [bv, if_neg (by decide), if_neg (by decide), if_neg (by decide)]
    omega
theorem trs_nil {co f g : Nat → Nat} (hco : ∀ i, i < 4 → 1 ≤ co i ∧ co i ≤ 9) : ∀ (n i j : Nat), i ≤ 8 → j ≤ 8 → i + j ≤ n → ((trs co f g n i j).length = 0 ↔ DD co f g i j = 0) := by
  have hz : ∀ (n i j : Nat), i + j = 0 → ((trs co f g n i j).length = 0 ↔ DD co f g i j = 0) := by
    intro n i j h
    have e1 : i = 0 := by omega
    have e2 : j = 0 := by omega
    subst e1
    subst e2
    rw [DD_00]
    refine ⟨fun _ => rfl, fun _ => ?_⟩
    cases n with
    | zero => rw [trs, List.length_nil]
    | succ n => rw [trs, if_pos h, List.length_nil]
  intro n
  induction n with
  | zero => intro i j hi hj h; exact hz 0 i j (by omega)
  | succ n ih =>
    intro i j hi hj h
    by_cases h0 : i + j = 0
    · exact hz (n + 1) i j h0
    have hk := lastk_ok (co := co) (f := f) (g := g) (fun i hi => (hco i hi).2) hi hj (by omega)
    have hbv := lastk_bv (co := co) (f := f) (g := g) (fun i hi => (hco i hi).2) hi hj (by omega)
    rw [trs, if_neg h0]
    generalize lastk co f g i j = kk at hk hbv ⊢
    by_cases c : kk = 1 ∧ f (i - 1) = g (j - 1)
    · rw [if_pos c]
      obtain ⟨rfl, cw⟩ := c
      rw [bv, if_pos rfl, rp, if_pos cw] at hbv
      rw [← hbv]
      simp only [bok, if_true] at hk
      exact ih (i - 1) (j - 1) (by omega) (by omega) (by omega)
    · rw [if_neg c]
      have p := bv_pos (co := co) (f := f) (g := g) (i := i) (j := j) (fun i hi => (hco i hi).1) hk.2 c (DD co f g)
      rw [hbv] at p
      refine ⟨fun z => ?_, fun z => ?_⟩
      · rw [List.length_cons] at z
        exact absurd z (Nat.succ_ne_zero _)
      · omega
theorem ed_nil {A : AS} {a b : Nat} (hV : VA A) (ha : a < A.nS) (hb : b < A.nS) : (ed A a b).length = 0 ↔ dd A a b = 0 := by
  have h8 := (hV.2.1 a ha).2.1
  have h8b := (hV.2.1 b hb).2.1
  exact trs_nil hV.2.2.2.2.1 16 _ _ h8 h8b (by omega)
