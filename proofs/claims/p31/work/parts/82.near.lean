/-! ===== the nearest one; every saying has its place ===== -/
noncomputable def lst (A : AS) (a : Nat) : Nat → Nat
  | 0 => 10000
  | b + 1 => if a ≠ b ∧ dd A a b < lst A a b then dd A a b else lst A a b
theorem lst_s (A : AS) (a b : Nat) : lst A a (b + 1) = if a ≠ b ∧ dd A a b < lst A a b then dd A a b else lst A a b := by rw [lst]
theorem lst_inv (A : AS) (a : Nat) : ∀ b, lst A a b ≤ 10000 ∧ (∀ t, t < b → t ≠ a → lst A a b ≤ dd A a t) ∧ (lst A a b = 10000 ∨ ∃ t, t < b ∧ t ≠ a ∧ dd A a t = lst A a b) := by
  intro b
  induction b with
  | zero => exact ⟨Nat.le_refl _, fun t ht => absurd ht (Nat.not_lt_zero t), Or.inl rfl⟩
  | succ b ih =>
    obtain ⟨i0, i1, i2⟩ := ih
    rw [lst_s]
    by_cases c : a ≠ b ∧ dd A a b < lst A a b
    · rw [if_pos c]
      refine ⟨by omega, fun t ht hne => ?_, Or.inr ⟨b, Nat.lt_succ_self b, fun z => c.1 z.symm, rfl⟩⟩
      by_cases e : t = b
      · rw [e]
        exact Nat.le_refl _
      · have := i1 t (by omega) hne
        omega
    · rw [if_neg c]
      refine ⟨i0, fun t ht hne => ?_, ?_⟩
      · by_cases e : t = b
        · rw [e]
          rw [e] at hne
          exact Nat.le_of_not_lt (fun z => c ⟨fun y => hne y.symm, z⟩)
        · exact i1 t (by omega) hne
      · rcases i2 with q | ⟨t, t1, t2, t3⟩
        · exact Or.inl q
        · exact Or.inr ⟨t, by omega, t2, t3⟩
theorem nrs_inv {A : AS} {s : Nat} : ∀ p, p ≤ A.nS → ((nrs A s p).2 = 0 → (nrs A s p).1 = 1000000 ∧ ∀ q, q < p → atRank A.yr A.nS q ≠ s → 1000000 ≤ dd A s (atRank A.yr A.nS q)) ∧ (∀ t, (nrs A s p).2 = t + 1 → t < A.nS ∧ t ≠ s ∧ dd A s t = (nrs A s p).1 ∧ ∀ q, q < p → atRank A.yr A.nS q ≠ s → (nrs A s p).1 ≤ dd A s (atRank A.yr A.nS q)) := by
  intro p
  induction p with
  | zero => exact fun _ => ⟨fun _ => ⟨rfl, fun q hq => absurd hq (Nat.not_lt_zero q)⟩, fun t z => absurd z.symm (Nat.succ_ne_zero t)⟩
  | succ p ih =>
    intro hp
    obtain ⟨i1, i2⟩ := ih (by omega)
    have hr := rank_at (yr := A.yr) (show p < A.nS by omega)
    rw [nrs_s]
    by_cases c : atRank A.yr A.nS p ≠ s ∧ dd A s (atRank A.yr A.nS p) < (nrs A s p).1
    · rw [if_pos c]
      refine ⟨fun z => absurd z (Nat.succ_ne_zero _), fun t ht => ?_⟩
      have e : atRank A.yr A.nS p = t := Nat.succ.inj ht
      rw [← e]
      refine ⟨hr.1, c.1, rfl, fun q hq hne => ?_⟩
      show dd A s (atRank A.yr A.nS p) ≤ _
      by_cases eq : q = p
      · rw [eq]
        exact Nat.le_refl _
      · cases h2 : (nrs A s p).2 with
        | zero =>
          have j := (i1 h2)
          have := j.2 q (by omega) hne
          omega
        | succ u =>
          have j := (i2 u h2).2.2.2 q (by omega) hne
          omega
    · rw [if_neg c]
      have key : atRank A.yr A.nS p ≠ s → (nrs A s p).1 ≤ dd A s (atRank A.yr A.nS p) := fun h => Nat.le_of_not_lt (fun z => c ⟨h, z⟩)
      refine ⟨fun z => ⟨(i1 z).1, fun q hq hne => ?_⟩, fun t ht => ⟨(i2 t ht).1, (i2 t ht).2.1, (i2 t ht).2.2.1, fun q hq hne => ?_⟩⟩
      · by_cases eq : q = p
        · rw [eq] at hne ⊢
          have := key hne
          rw [(i1 z).1] at this
          exact this
        · exact (i1 z).2 q (by omega) hne
      · by_cases eq : q = p
        · rw [eq] at hne ⊢
          exact key hne
        · exact (i2 t ht).2.2.2 q (by omega) hne
theorem near_one {A : AS} {s : Nat} (hs : s < A.nS) (h1 : A.nS = 1) : (nrs A s A.nS).2 = 0 := by
  cases h2 : (nrs A s A.nS).2 with
  | zero => rfl
  | succ t =>
    have i := (nrs_inv (A := A) (s := s) A.nS (Nat.le_refl _)).2 t h2
    omega
theorem near_two {A : AS} {s : Nat} (hV : VA A) (hs : s < A.nS) (h1 : A.nS ≠ 1) : ∃ t, (nrs A s A.nS).2 = t + 1 ∧ t < A.nS ∧ t ≠ s ∧ dd A s t = lst A s A.nS := by
  obtain ⟨i1, i2⟩ := nrs_inv (A := A) (s := s) A.nS (Nat.le_refl _)
  obtain ⟨l0, l1, l2⟩ := lst_inv A s A.nS
  obtain ⟨u, hu, hus⟩ : ∃ u, u < A.nS ∧ u ≠ s := by
    by_cases e : s = 0
    · exact ⟨1, by omega, by omega⟩
    · exact ⟨0, by omega, fun z => e z.symm⟩
  have all : ∀ v, v < A.nS → ∃ q, q < A.nS ∧ atRank A.yr A.nS q = v := fun v hv => ⟨rank A.yr A.nS v, rank_lt hv, atRank_rank hv⟩
  cases h2 : (nrs A s A.nS).2 with
  | zero =>
    obtain ⟨q, hq, eq⟩ := all u hu
    have j := (i1 h2).2 q hq (by rw [eq]; exact hus)
    rw [eq] at j
    have := dd_bd hV hs hu
    omega
  | succ t =>
    obtain ⟨t1, t2, t3, t4⟩ := i2 t h2
    refine ⟨t, rfl, t1, t2, ?_⟩
    have g1 := l1 t t1 t2
    have b := dd_bd hV hs t1
    rcases l2 with z | ⟨v, v1, v2, v3⟩
    · omega
    · obtain ⟨q, hq, eq⟩ := all v v1
      have j := t4 q hq (by rw [eq]; exact v2)
      rw [eq] at j
      omega
noncomputable def sn (A : AS) : Nat → Nat
  | 0 => 0
  | p + 1 => sn A p ||| 2 ^ atRank A.yr A.nS p
theorem sn_s (A : AS) (p : Nat) : sn A (p + 1) = sn A p ||| 2 ^ atRank A.yr A.nS p := by rw [sn]
theorem sn_bit (A : AS) (i : Nat) : ∀ p, (sn A p).testBit i = true ↔ ∃ q, q < p ∧ atRank A.yr A.nS q = i := by
  intro p
  induction p with
  | zero =>
    rw [sn, Nat.zero_testBit]
    exact ⟨fun z => (by cases z), fun ⟨q, hq, _⟩ => absurd hq (Nat.not_lt_zero q)⟩
  | succ p ih =>
    rw [sn_s, Nat.testBit_or, Bool.or_eq_true, ih, Nat.testBit_two_pow, decide_eq_true_iff]
    constructor
    · rintro (⟨q, hq, e⟩ | e)
      · exact ⟨q, by omega, e⟩
      · exact ⟨p, Nat.lt_succ_self p, e⟩
    · rintro ⟨q, hq, e⟩
      by_cases c : q = p
      · right
        rw [← c]
        exact e
      · exact Or.inl ⟨q, by omega, e⟩
theorem sn_all (A : AS) : sn A A.nS = 2 ^ A.nS - 1 := by
  apply Nat.eq_of_testBit_eq
  intro i
  rw [Nat.testBit_two_pow_sub_one]
  apply Bool.eq_iff_iff.mpr
  rw [sn_bit, decide_eq_true_iff]
  exact ⟨fun ⟨q, hq, e⟩ => e ▸ (rank_at hq).1, fun h => ⟨rank A.yr A.nS i, rank_lt h, atRank_rank h⟩⟩
theorem sn_lt {A : AS} (h6 : A.nS ≤ 6) : ∀ p, p ≤ A.nS → sn A p < 1024 := by
  intro p
  induction p with
  | zero =>
    intro _
    rw [sn]
    omega
  | succ p ih =>
    intro hp
    have hr := rank_at (yr := A.yr) (show p < A.nS by omega)
    rw [sn_s]
    exact (or_all _ (ih (by omega)) _ (show atRank A.yr A.nS p < 10 by omega)).2
theorem sh_all : ∀ n, n < 7 → ((1 : Int32) <<< (nI n &&& 31)) - (1 : Int32) = nI (2 ^ n - 1) := by decide +kernel
