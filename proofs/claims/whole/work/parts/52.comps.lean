/-! ===== the lengths of gaps: all lists of m numbers with the sum r, the first number least first ===== -/
def blk (C : Nat → List (List Nat)) : Nat → Nat → List (List Nat)
  | _, 0 => []
  | k, s + 1 => (C s).map (fun c => k :: c) ++ blk C (k + 1) s
def comps : Nat → Nat → List (List Nat)
  | 0, r => if r = 0 then [[]] else []
  | m + 1, r => blk (comps m) 0 (r + 1)
def fsts : Nat → Nat → List Nat
  | 0, _ => []
  | 1, r => [r]
  | m + 2, r => 0 :: fsts (m + 1) r
/-- those that come after -/
def aft : List Nat → List (List Nat)
  | [] => []
  | k :: g => (aft g).map (fun c => k :: c) ++ blk (comps g.length) (k + 1) g.sum
def nxt : List Nat → Option (List Nat)
  | [] => none
  | k :: g => match nxt g with
    | some g' => some (k :: g')
    | none => if g.sum = 0 then none else some ((k + 1) :: fsts g.length (g.sum - 1))
theorem blk_s (C : Nat → List (List Nat)) (k s : Nat) : blk C k (s + 1) = (C s).map (fun c => k :: c) ++ blk C (k + 1) s := by rw [blk]
theorem blk_0 (C : Nat → List (List Nat)) (k : Nat) : blk C k 0 = [] := by rw [blk]
theorem comps_00 : comps 0 0 = [[]] := by rw [comps, if_pos rfl]
theorem comps_0s (r : Nat) : comps 0 (r + 1) = [] := by rw [comps, if_neg (Nat.succ_ne_zero r)]
theorem comps_s (m r : Nat) : comps (m + 1) r = blk (comps m) 0 (r + 1) := by rw [comps]
theorem blk0 : ∀ (s k : Nat), blk (comps 0) k (s + 1) = [[k + s]] := by
  intro s
  induction s with
  | zero =>
    intro k
    rw [blk_s, blk_0, comps_00]
    rfl
  | succ s ih =>
    intro k
    rw [blk_s, comps_0s, ih (k + 1), show k + 1 + s = k + (s + 1) by omega]
    rfl
theorem fsts_len : ∀ (m r : Nat), (fsts m r).length = m := by
  intro m
  induction m with
  | zero => intro r; rfl
  | succ m ih =>
    intro r
    cases m with
    | zero => rfl
    | succ m =>
      rw [fsts, List.length_cons, ih r]
theorem fsts_sum : ∀ (m r : Nat), (fsts (m + 1) r).sum = r := by
  intro m
  induction m with
  | zero => intro r; rw [fsts, List.sum_cons, List.sum_nil, Nat.add_zero]
  | succ m ih =>
    intro r
    rw [fsts, List.sum_cons, ih r, Nat.zero_add]
theorem comps_fst : ∀ (m r : Nat), comps (m + 1) r = fsts (m + 1) r :: aft (fsts (m + 1) r) := by
  intro m
  induction m with
  | zero =>
    intro r
    rw [comps_s, blk0, Nat.zero_add, fsts, aft, aft, List.sum_nil, blk_0]
    rfl
  | succ m ih =>
    intro r
    rw [comps_s, blk_s, ih r, fsts, aft, fsts_len, fsts_sum, Nat.zero_add]
    rfl
theorem nxt_c (k : Nat) (g : List Nat) : nxt (k :: g) = match nxt g with
    | some g' => some (k :: g')
    | none => if g.sum = 0 then none else some ((k + 1) :: fsts g.length (g.sum - 1)) := by rw [nxt]
theorem nxt_n {k : Nat} {g : List Nat} (h : nxt g = none) : nxt (k :: g) = if g.sum = 0 then none else some ((k + 1) :: fsts g.length (g.sum - 1)) := by rw [nxt_c, h]
theorem nxt_y {k : Nat} {g g' : List Nat} (h : nxt g = some g') : nxt (k :: g) = some (k :: g') := by rw [nxt_c, h]
theorem aft_c (k : Nat) (g : List Nat) : aft (k :: g) = (aft g).map (fun c => k :: c) ++ blk (comps g.length) (k + 1) g.sum := by rw [aft]
theorem aft_nxt : ∀ (v : List Nat), (nxt v = none → aft v = []) ∧ (∀ v', nxt v = some v' → aft v = v' :: aft v' ∧ v'.length = v.length ∧ v'.sum = v.sum) := by
  intro v
  induction v with
  | nil =>
    refine ⟨fun _ => by rw [aft], fun v' h => ?_⟩
    rw [nxt] at h
    exact absurd h (by simp)
  | cons k g ih =>
    cases hg : nxt g with
    | some g' =>
      obtain ⟨a1, a2, a3⟩ := ih.2 g' hg
      rw [nxt_y hg]
      refine ⟨fun h => absurd h (by simp), fun v' h => ?_⟩
      obtain rfl := Option.some.inj h
      refine ⟨?_, by rw [List.length_cons, List.length_cons, a2], by rw [List.sum_cons, List.sum_cons, a3]⟩
      rw [aft_c, aft_c, a1, a2, a3]
      rfl
    | none =>
      have a1 := ih.1 hg
      rw [nxt_n hg]
      by_cases hs : g.sum = 0
      · rw [if_pos hs]
        refine ⟨fun _ => ?_, fun v' h => absurd h (by simp)⟩
        rw [aft_c, a1, hs, blk_0]
        rfl
      · rw [if_neg hs]
        refine ⟨fun h => absurd h (by simp), fun v' h => ?_⟩
        obtain rfl := Option.some.inj h
        obtain ⟨s, es⟩ : ∃ s, g.sum = s + 1 := ⟨g.sum - 1, by omega⟩
        obtain ⟨m, em⟩ : ∃ m, g.length = m + 1 := by
          cases g with
          | nil => exact absurd rfl hs
          | cons a b => exact ⟨b.length, rfl⟩
        refine ⟨?_, by rw [List.length_cons, List.length_cons, fsts_len], ?_⟩
        · rw [aft_c, aft_c, a1, es, em, Nat.add_sub_cancel, fsts_len, fsts_sum, blk_s, comps_fst]
          rfl
        · rw [List.sum_cons, List.sum_cons, em, es, Nat.add_sub_cancel, fsts_sum]
          omega
theorem fsts_get : ∀ (m r i : Nat), i < m → (fsts m r).getD i 0 = if i = m - 1 then r else 0 := by
  intro m
  induction m with
  | zero => intro r i hi; exact absurd hi (Nat.not_lt_zero _)
  | succ m ih =>
    intro r i hi
    cases m with
    | zero =>
      have e : i = 0 := by omega
      subst e
      rfl
    | succ m =>
      rw [fsts]
      cases i with
      | zero =>
        rw [if_neg (by omega)]
        rfl
      | succ i =>
        rw [List.getD_cons_succ, ih r i (by omega)]
        by_cases h : i = m + 1 - 1
        · rw [if_pos h, if_pos (by omega)]
        · rw [if_neg h, if_neg (by omega)]
theorem sum_zero : ∀ (g : List Nat), (∀ i, i < g.length → g.getD i 0 = 0) → g.sum = 0 := by
  intro g
  induction g with
  | nil => intro _; rfl
  | cons a b ih =>
    intro h
    have h0 := h 0 (by rw [List.length_cons]; omega)
    rw [List.getD_cons_zero] at h0
    rw [List.sum_cons, h0, ih (fun i hi => ?_)]
    have t := h (i + 1) (by rw [List.length_cons]; omega)
    rw [List.getD_cons_succ] at t
    exact t
theorem get_le_sum : ∀ (g : List Nat) (i : Nat), g.getD i 0 ≤ g.sum := by
  intro g
  induction g with
  | nil => intro i; exact Nat.zero_le _
  | cons a b ih =>
    intro i
    rw [List.sum_cons]
    cases i with
    | zero => rw [List.getD_cons_zero]; omega
    | succ i =>
      rw [List.getD_cons_succ]
      have := ih i
      omega
theorem nxt_zero : ∀ (v : List Nat), (∀ i, 0 < i → i < v.length → v.getD i 0 = 0) → nxt v = none := by
  intro v
  induction v with
  | nil => intro _; rw [nxt]
  | cons k g ih =>
    intro h
    have hz : ∀ i, i < g.length → g.getD i 0 = 0 := by
      intro i hi
      have t := h (i + 1) (by omega) (by rw [List.length_cons]; omega)
      rw [List.getD_cons_succ] at t
      exact t
    rw [nxt_n (ih (fun i _ hi => hz i hi)), if_pos (sum_zero g hz)]
theorem nxt_ix : ∀ (v : List Nat) (K : Nat), K < v.length → (∀ i, K < i → i < v.length → v.getD i 0 = 0) → 0 < K → v.getD K 0 ≠ 0 → ∃ v', nxt v = some v' ∧ ∀ i, i < v.length → v'.getD i 0 = if i = v.length - 1 then v.getD K 0 - 1 else if i = K - 1 then v.getD (K - 1) 0 + 1 else if i = K then 0 else v.getD i 0 := by
  intro v
  induction v with
  | nil => intro K hK; exact absurd hK (Nat.not_lt_zero _)
  | cons k g ih =>
    intro K hK hz h0 hn
    rw [List.length_cons] at hK hz
    obtain ⟨J, rfl⟩ : ∃ J, K = J + 1 := ⟨K - 1, by omega⟩
    rw [List.getD_cons_succ] at hn
    have hz' : ∀ i, J < i → i < g.length → g.getD i 0 = 0 := by
      intro i hi hi2
      have t := hz (i + 1) (by omega) (by omega)
      rw [List.getD_cons_succ] at t
      exact t
    rw [Nat.add_sub_cancel, List.getD_cons_succ, List.length_cons, Nat.add_sub_cancel]
    by_cases hJ : J = 0
    · subst hJ
      have hs : g.sum = g.getD 0 0 := by
        cases g with
        | nil => rfl
        | cons a b =>
          rw [List.sum_cons, List.getD_cons_zero, sum_zero b (fun i hi => ?_), Nat.add_zero]
          have t := hz' (i + 1) (by omega) (by rw [List.length_cons]; omega)
          rw [List.getD_cons_succ] at t
          exact t
      rw [nxt_n (nxt_zero g (fun i hi hi2 => hz' i hi hi2)), if_neg (by omega)]
      refine ⟨_, rfl, fun i hi => ?_⟩
      cases i with
      | zero =>
        rw [if_neg (by omega), if_pos rfl, List.getD_cons_zero, List.getD_cons_zero]
      | succ i =>
        rw [List.getD_cons_succ, List.getD_cons_succ, fsts_get _ _ _ (by omega), hs]
        by_cases e : i = g.length - 1
        · rw [if_pos e, if_pos (by omega)]
        · rw [if_neg e, if_neg (by omega), if_neg (by omega)]
          by_cases e2 : i = 0
          · rw [if_pos (by omega)]
          · rw [if_neg (by omega), hz' i (by omega) (by omega)]
    · obtain ⟨g', a1, a2⟩ := ih J (by omega) hz' (by omega) hn
      rw [nxt_y a1]
      refine ⟨_, rfl, fun i hi => ?_⟩
      obtain ⟨H, rfl⟩ : ∃ H, J = H + 1 := ⟨J - 1, by omega⟩
      cases i with
      | zero =>
        rw [if_neg (by omega), if_neg (by omega), if_neg (by omega), List.getD_cons_zero, List.getD_cons_zero]
      | succ i =>
        have t := a2 i (by omega)
        rw [Nat.add_sub_cancel] at t
        rw [List.getD_cons_succ, List.getD_cons_succ, List.getD_cons_succ, t]
        by_cases e : i = g.length - 1
        · rw [if_pos e, if_pos (show i + 1 = g.length by omega)]
        · rw [if_neg e, if_neg (show ¬ i + 1 = g.length by omega)]
          by_cases e2 : i = H
          · rw [if_pos e2, if_pos (show i + 1 = H + 1 by omega)]
          · rw [if_neg e2, if_neg (show ¬ i + 1 = H + 1 by omega)]
            by_cases e3 : i = H + 1
            · rw [if_pos e3, if_pos (show i + 1 = H + 1 + 1 by omega)]
            · rw [if_neg e3, if_neg (show ¬ i + 1 = H + 1 + 1 by omega)]
