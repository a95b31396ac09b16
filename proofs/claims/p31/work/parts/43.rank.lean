/-! ===== the order of age: each saying has its own place ===== -/
def old (ye : Nat → Int32) (a b : Nat) : Prop := ye a < ye b ∨ (ye a = ye b ∧ a < b)
theorem old_irr {ye : Nat → Int32} (a : Nat) : ¬ old ye a a := fun h => h.elim (fun q => Int32.lt_irrefl q) (fun q => Nat.lt_irrefl a q.2)
theorem old_trans {ye : Nat → Int32} {a b c : Nat} (h1 : old ye a b) (h2 : old ye b c) : old ye a c := by
  unfold old at *
  rw [Int32.lt_iff_toInt_lt, ← Int32.toInt_inj] at *
  omega
theorem old_total {ye : Nat → Int32} {a b : Nat} (h : a ≠ b) : old ye a b ∨ old ye b a := by
  unfold old
  rw [Int32.lt_iff_toInt_lt, ← Int32.toInt_inj, Int32.lt_iff_toInt_lt, ← Int32.toInt_inj]
  omega
noncomputable def cnt (P : Nat → Prop) : Nat → Nat
  | 0 => 0
  | n + 1 => by classical exact cnt P n + (if P n then 1 else 0)
theorem cnt_succ (P : Nat → Prop) (n : Nat) [Decidable (P n)] : cnt P (n + 1) = cnt P n + (if P n then 1 else 0) := by
  rw [cnt]
  by_cases h : P n
  · rw [if_pos h, if_pos h]
  · rw [if_neg h, if_neg h]
theorem cnt_le (P : Nat → Prop) : ∀ n, cnt P n ≤ n := by
  classical
  intro n
  induction n with
  | zero => exact Nat.le_refl _
  | succ n ih =>
    rw [cnt_succ]
    by_cases h : P n
    · rw [if_pos h]; omega
    · rw [if_neg h]; omega
theorem cnt_mono {P Q : Nat → Prop} : ∀ n, (∀ k, k < n → P k → Q k) → cnt P n ≤ cnt Q n := by
  classical
  intro n
  induction n with
  | zero => intro _; exact Nat.le_refl _
  | succ n ih =>
    intro h
    have i := ih (fun k hk => h k (by omega))
    rw [cnt_succ, cnt_succ]
    by_cases p : P n
    · rw [if_pos p, if_pos (h n (by omega) p)]; omega
    · rw [if_neg p]; omega
theorem cnt_lt {P Q : Nat → Prop} {s : Nat} (hs : ¬ P s) (hq : Q s) : ∀ n, s < n → (∀ k, k < n → P k → Q k) → cnt P n < cnt Q n := by
  classical
  intro n
  induction n with
  | zero => intro h _; exact absurd h (Nat.not_lt_zero _)
  | succ n ih =>
    intro hn h
    rw [cnt_succ, cnt_succ]
    by_cases e : s = n
    · subst e
      have i := cnt_mono (P := P) (Q := Q) s (fun k hk => h k (by omega))
      rw [if_neg hs, if_pos hq]; omega
    · have i := ih (by omega) (fun k hk => h k (by omega))
      by_cases p : P n
      · rw [if_pos p, if_pos (h n (by omega) p)]; omega
      · rw [if_neg p]; omega
noncomputable def rank (ye : Nat → Int32) (n s : Nat) : Nat := cnt (fun t => old ye t s) n
theorem rank_lt {ye : Nat → Int32} {n s : Nat} (hs : s < n) : rank ye n s < n := by
  have h := cnt_lt (P := fun t => old ye t s) (Q := fun _ => True) (old_irr s) trivial n hs (fun _ _ _ => trivial)
  have h2 := cnt_le (fun _ => True) n
  unfold rank
  omega
theorem rank_old {ye : Nat → Int32} {n a b : Nat} (ha : a < n) (h : old ye a b) : rank ye n a < rank ye n b :=
  cnt_lt (P := fun t => old ye t a) (Q := fun t => old ye t b) (old_irr a) h n ha (fun _ _ q => old_trans q h)
theorem rank_inj {ye : Nat → Int32} {n a b : Nat} (ha : a < n) (hb : b < n) (h : rank ye n a = rank ye n b) : a = b := by
  refine Classical.byContradiction (fun c => ?_)
  rcases old_total (ye := ye) c with q | q
  · have := rank_old ha q
    omega
  · have := rank_old hb q
    omega
theorem pigeon : ∀ (n : Nat) (f : Nat → Nat), (∀ a, a < n → f a < n) → (∀ a b, a < n → b < n → f a = f b → a = b) → ∀ k, k < n → ∃ a, a < n ∧ f a = k := by
  classical
  intro n
  induction n with
  | zero => intro f _ _ k hk; exact absurd hk (Nat.not_lt_zero _)
  | succ n ih =>
    intro f hf hi k hk
    have key : ∀ a, a < n → (if f a = n then f n else f a) < n := by
      intro a ha
      have h1 := hf a (by omega)
      have h2 := hf n (by omega)
      by_cases e : f a = n
      · rw [if_pos e]
        have : f n ≠ n := fun z => absurd (hi a n (by omega) (by omega) (by omega)) (by omega)
        omega
      · rw [if_neg e]; omega
    have inj : ∀ a b, a < n → b < n → (if f a = n then f n else f a) = (if f b = n then f n else f b) → a = b := by
      intro a b ha hb h
      by_cases e : f a = n <;> by_cases e2 : f b = n
      · exact hi a b (by omega) (by omega) (by omega)
      · rw [if_pos e, if_neg e2] at h
        have := hi n b (by omega) (by omega) h
        omega
      · rw [if_neg e, if_pos e2] at h
        have := hi a n (by omega) (by omega) h
        omega
      · rw [if_neg e, if_neg e2] at h
        exact hi a b (by omega) (by omega) h
    by_cases c : f n = k
    · exact ⟨n, by omega, c⟩
    · by_cases e : k = n
      · refine Classical.byContradiction (fun no => ?_)
        have hn : f n < n := by
          have := hf n (by omega)
          omega
        obtain ⟨a, ha, hfa⟩ := ih _ key inj (f n) hn
        by_cases e2 : f a = n
        · exact no ⟨a, by omega, by omega⟩
        · rw [if_neg e2] at hfa
          have := hi a n (by omega) (by omega) hfa
          omega
      · obtain ⟨a, ha, hfa⟩ := ih _ key inj k (by omega)
        by_cases e2 : f a = n
        · rw [if_pos e2] at hfa
          exact absurd hfa c
        · rw [if_neg e2] at hfa
          exact ⟨a, by omega, hfa⟩
