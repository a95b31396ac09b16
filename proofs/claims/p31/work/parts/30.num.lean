/-! ===== numbers: Int32 as nI of a small natural number ===== -/
theorem iL0 : (0 : Int32) = nI 0 := rfl
theorem iL1 : (1 : Int32) = nI 1 := rfl
theorem iL2 : (2 : Int32) = nI 2 := rfl
theorem iL3 : (3 : Int32) = nI 3 := rfl
theorem iL4 : (4 : Int32) = nI 4 := rfl
theorem iL5 : (5 : Int32) = nI 5 := rfl
theorem iL6 : (6 : Int32) = nI 6 := rfl
theorem iL7 : (7 : Int32) = nI 7 := rfl
theorem iL8 : (8 : Int32) = nI 8 := rfl
theorem iL9 : (9 : Int32) = nI 9 := rfl
theorem iL10 : (10 : Int32) = nI 10 := rfl
theorem iL11 : (11 : Int32) = nI 11 := rfl
theorem iL12 : (12 : Int32) = nI 12 := rfl
theorem iL13 : (13 : Int32) = nI 13 := rfl
theorem iL14 : (14 : Int32) = nI 14 := rfl
theorem iL16 : (16 : Int32) = nI 16 := rfl
theorem iL20 : (20 : Int32) = nI 20 := rfl
theorem iL21 : (21 : Int32) = nI 21 := rfl
theorem iL40 : (40 : Int32) = nI 40 := rfl
theorem iL48 : (48 : Int32) = nI 48 := rfl
theorem iL60 : (60 : Int32) = nI 60 := rfl
theorem iL64 : (64 : Int32) = nI 64 := rfl
theorem iL65 : (65 : Int32) = nI 65 := rfl
theorem iL96 : (96 : Int32) = nI 96 := rfl
theorem iL100 : (100 : Int32) = nI 100 := rfl
theorem iL10000 : (10000 : Int32) = nI 10000 := rfl
theorem iL1000000 : (1000000 : Int32) = nI 1000000 := rfl
theorem ofN (n : Nat) : Int32.ofNat n = nI n := rfl
theorem vpi {k N : Nat} (hk : k < 2 ^ 31) : vp_in (nI k) N ↔ k < N := by
  unfold vp_in
  have h1 := nI_pos hk
  rw [nI_clamp hk]
  constructor
  · intro h
    exact Nat.not_le.mp fun q => h (Or.inr q)
  · intro h q
    rcases q with q | q
    · exact h1 q
    · omega
/-- a number that isn't negative and is below a small one -/
theorem nI_below {x : Int32} {m : Nat} (hm : m < 2 ^ 31) (h0 : ¬ x < nI 0) (h : ¬ nI m ≤ x) : ∃ k : Nat, k < m ∧ x = nI k := by
  obtain ⟨j, hj, rfl⟩ := nI_of (x := x) (by rw [nI_0] at h0; exact h0)
  refine ⟨j, ?_, rfl⟩
  rw [nI_leI hm hj] at h
  omega
/-! ===== Sequence ===== -/
theorem s_at_in {k n : Nat} {tk : Nat → Int32} {post : Int32 → Prop} (hk : k < n) (hn : n ≤ 8) (h : post (tk k)) : P_X5_at (nI k) (nI n) tk post := by
  unfold P_X5_at
  simp (disch := omega) only [iL0, iL1, iL2, iL3, iL4, iL5, iL6, iL7, iL8, iL9, iL10, iL11, iL12, iL13, iL14, iL16, iL20, iL21, iL40, iL48, iL60, iL64, iL65, iL96, iL100, iL10000, iL1000000, nI_leI, nI_ltI, nI_eq, nI_add, pk_mul, pk_sub, nI_clamp, vpi, ofN]
  ((repeat' first | (refine And.intro ?_ ?_) | (intro _)) <;> first | assumption | omega | (exfalso; omega))
theorem s_add {k : Nat} {x : Int32} {tk : Nat → Int32} {post : Int32 → (Nat → Int32) → Prop} (hk : k < 8) (h : post (nI (k + 1)) (upd tk k x)) : P_X5_add x (nI k) tk post := by
  unfold P_X5_add
  simp (disch := omega) only [iL0, iL1, iL2, iL3, iL4, iL5, iL6, iL7, iL8, iL9, iL10, iL11, iL12, iL13, iL14, iL16, iL20, iL21, iL40, iL48, iL60, iL64, iL65, iL96, iL100, iL10000, iL1000000, nI_leI, nI_ltI, nI_eq, nI_add, pk_mul, pk_sub, nI_clamp, vpi, ofN]
  ((repeat' first | (refine And.intro ?_ ?_) | (intro _)) <;> first | assumption | omega | (exfalso; omega))
/-! ===== the abstract state ===== -/
/-- a sequence: its length, its entries -/
abbrev Sy : Type := Nat × (Nat → Nat)
/-- sayings (how many, words, years, regions), patterns (how many, tokens), costs, limit -/
abbrev AS : Type := (Nat × (Nat → Sy) × (Nat → Int32) × (Nat → Nat)) × (Nat × (Nat → Sy)) × (Nat → Nat) × Nat
abbrev AS.nS (A : AS) : Nat := A.1.1
abbrev AS.sy (A : AS) : Nat → Sy := A.1.2.1
abbrev AS.yr (A : AS) : Nat → Int32 := A.1.2.2.1
abbrev AS.rg (A : AS) : Nat → Nat := A.1.2.2.2
abbrev AS.nP (A : AS) : Nat := A.2.1.1
abbrev AS.pt (A : AS) : Nat → Sy := A.2.1.2
abbrev AS.co (A : AS) : Nat → Nat := A.2.2.1
abbrev AS.li (A : AS) : Nat := A.2.2.2
/-- a shelf (or its like in the reference's row) holds n sequences -/
def RSh (n : Nat) (q : Nat → Sy) (ct : Int32) (tk le : Nat → Int32) : Prop := ct = nI n ∧ ∀ s, s < n → le s = nI (q s).1 ∧ ∀ j, j < (q s).1 → tk (8 * s + j) = nI ((q s).2 j)
def RC (A : AS) (li sct : Int32) (stk sle ye re : Nat → Int32) (pct : Int32) (ptk ple co : Nat → Int32) : Prop := RSh A.nS A.sy sct stk sle ∧ (∀ s, s < A.nS → ye s = A.yr s ∧ re s = nI (A.rg s)) ∧ RSh A.nP A.pt pct ptk ple ∧ (∀ i, i < 4 → co i = nI (A.co i)) ∧ li = nI A.li
def VA (A : AS) : Prop := A.nS ≤ 12 ∧ (∀ s, s < A.nS → 1 ≤ (A.sy s).1 ∧ (A.sy s).1 ≤ 8 ∧ A.rg s ≤ 9 ∧ ∀ j, j < (A.sy s).1 → (A.sy s).2 j < 60) ∧ A.nP ≤ 6 ∧ (∀ p, p < A.nP → 1 ≤ (A.pt p).1 ∧ (A.pt p).1 ≤ 8 ∧ ∀ j, j < (A.pt p).1 → (A.pt p).2 j ≤ 64) ∧ (∀ i, i < 4 → 1 ≤ A.co i ∧ A.co i ≤ 9) ∧ A.li ≤ 20
/-- the reference's row from o on -/
def RM (A : AS) (o : Nat) (now : Nat → Int32) : Prop := RC A (now (o + 192)) (now o) (fun i => now (o + 13 + i)) (fun i => now (o + 1 + i)) (fun i => now (o + 109 + i)) (fun i => now (o + 121 + i)) (now (o + 133)) (fun i => now (o + 140 + i)) (fun i => now (o + 134 + i)) (fun i => now (o + 188 + i))
/-- a scratch sequence holds q -/
def RQ (q : Sy) (ln : Int32) (tk : Nat → Int32) : Prop := ln = nI q.1 ∧ ∀ j, j < q.1 → tk j = nI (q.2 j)
/-! ===== Shelf ===== -/
theorem s_has_yes {mo : Int32} {NT NL s n : Nat} {post : Int32 → Prop} (hs : s < n) (hn : n < 1000) (h : post 1) : P_X6_has mo NT NL (nI s) (nI n) post := by
  unfold P_X6_has
  have e : (1 : Int32) = nI 1 := rfl
  rw [e] at h
  simp (disch := omega) only [iL0, iL1, iL2, iL3, iL4, iL5, iL6, iL7, iL8, iL9, iL10, iL11, iL12, iL13, iL14, iL16, iL20, iL21, iL40, iL48, iL60, iL64, iL65, iL96, iL100, iL10000, iL1000000, nI_leI, nI_ltI, nI_eq, nI_add, pk_mul, pk_sub, nI_clamp, vpi, ofN]
  ((repeat' first | (refine And.intro ?_ ?_) | (intro _)) <;> first | assumption | omega | (exfalso; omega))
theorem s_has_no {mo x : Int32} {NT NL n : Nat} {post : Int32 → Prop} (hx : x < 0 ∨ nI n ≤ x) (h : post 0) : P_X6_has mo NT NL x (nI n) post := by
  unfold P_X6_has
  refine ⟨fun _ => h, fun h1 => ⟨fun _ => h, fun h2 => ?_⟩⟩
  rcases hx with hx | hx
  · exact absurd hx h1
  · exact absurd hx h2
theorem s_size {mo : Int32} {NT NL s n : Nat} {le : Nat → Int32} {post : Int32 → Prop} (hs : s < n) (hn : n ≤ NL) (hN : NL < 1000) (h : post (le s)) : P_X6_size mo NT NL (nI s) (nI n) le post := by
  unfold P_X6_size
  refine s_has_yes hs (by omega) ?_
  simp (disch := omega) only [iL0, iL1, iL2, iL3, iL4, iL5, iL6, iL7, iL8, iL9, iL10, iL11, iL12, iL13, iL14, iL16, iL20, iL21, iL40, iL48, iL60, iL64, iL65, iL96, iL100, iL10000, iL1000000, nI_leI, nI_ltI, nI_eq, nI_add, pk_mul, pk_sub, nI_clamp, vpi, ofN]
  ((repeat' first | (refine And.intro ?_ ?_) | (intro _)) <;> first | assumption | omega | (exfalso; omega))
theorem s_token {mo : Int32} {NT NL s n j m : Nat} {tk le : Nat → Int32} {post : Int32 → Prop} (hs : s < n) (hn : n ≤ NL) (hN : NL < 1000) (hT : 8 * n ≤ NT) (hm : m ≤ 8) (hj : j < m) (hle : le s = nI m) (h : post (tk (8 * s + j))) : P_X6_token mo NT NL (nI s) (nI j) (nI n) tk le post := by
  unfold P_X6_token
  rw [show 8 * s + j = s * 8 + j by omega] at h
  refine s_has_yes hs (by omega) ⟨fun z => absurd z (by decide), fun _ => ?_⟩
  simp (disch := omega) only [iL0, iL1, iL2, iL3, iL4, iL5, iL6, iL7, iL8, iL9, iL10, iL11, iL12, iL13, iL14, iL16, iL20, iL21, iL40, iL48, iL60, iL64, iL65, iL96, iL100, iL10000, iL1000000, nI_leI, nI_ltI, nI_eq, nI_add, pk_mul, pk_sub, nI_clamp, vpi, ofN]
  rw [hle]
  simp (disch := omega) only [iL0, iL1, iL2, iL3, iL4, iL5, iL6, iL7, iL8, iL9, iL10, iL11, iL12, iL13, iL14, iL16, iL20, iL21, iL40, iL48, iL60, iL64, iL65, iL96, iL100, iL10000, iL1000000, nI_leI, nI_ltI, nI_eq, nI_add, pk_mul, pk_sub, nI_clamp, vpi, ofN]
  ((repeat' first | (refine And.intro ?_ ?_) | (intro _)) <;> first | assumption | omega | (exfalso; omega))
theorem s_load_7 {mo : Int32} {NT NL s n : Nat} {q : Sy} {tk le : Nat → Int32} {K : Int32 → Int32 → (Nat → Int32) → Prop} (hs : s < n) (hn : n ≤ NL) (hN : NL < 1000) (hT : 8 * n ≤ NT) (hq : q.1 ≤ 8) (hle : le s = nI q.1) (htk : ∀ j, j < q.1 → tk (8 * s + j) = nI (q.2 j)) (hK : ∀ f, (∀ j, j < q.1 → f j = nI (q.2 j)) → K (nI q.1) (nI q.1) f) : ∀ (d j : Nat) (f : Nat → Int32), j + d = q.1 → (∀ i, i < j → f i = nI (q.2 i)) → P_X6_load_7 mo NT NL (nI s) (nI n) tk le K (d + 1) (nI j) (nI j) f := by
  intro d
  induction d with
  | zero =>
    intro j f hj hf
    show B_X6_load_7 mo NT NL (nI s) (nI n) tk le K _ (nI j) (nI j) f
    unfold B_X6_load_7
    refine s_size hs hn hN ?_
    rw [hle]
    simp (disch := omega) only [iL0, iL1, iL2, iL3, iL4, iL5, iL6, iL7, iL8, iL9, iL10, iL11, iL12, iL13, iL14, iL16, iL20, iL21, iL40, iL48, iL60, iL64, iL65, iL96, iL100, iL10000, iL1000000, nI_leI, nI_ltI, nI_eq, nI_add, pk_mul, pk_sub, nI_clamp, vpi, ofN]
    refine ⟨fun _ => ?_, fun h => by omega⟩
    have e : j = q.1 := by omega
    subst e
    exact hK f hf
  | succ d ih =>
    intro j f hj hf
    show B_X6_load_7 mo NT NL (nI s) (nI n) tk le K _ (nI j) (nI j) f
    unfold B_X6_load_7
    refine s_size hs hn hN ?_
    rw [hle]
    simp (disch := omega) only [iL0, iL1, iL2, iL3, iL4, iL5, iL6, iL7, iL8, iL9, iL10, iL11, iL12, iL13, iL14, iL16, iL20, iL21, iL40, iL48, iL60, iL64, iL65, iL96, iL100, iL10000, iL1000000, nI_leI, nI_ltI, nI_eq, nI_add, pk_mul, pk_sub, nI_clamp, vpi, ofN]
    refine ⟨fun h => by omega, fun _ => s_token hs hn hN hT hq (by omega) hle (s_add (by omega) ?_)⟩
    refine ih (j + 1) _ (by omega) (fun i hi => ?_)
    by_cases e : i = j
    · subst e
      rw [pk_us]
      exact htk i (by omega)
    · rw [pk_un e]
      exact hf i (by omega)
theorem s_load {mo : Int32} {NT NL s n : Nat} {q : Nat → Sy} {ct : Int32} {tk le : Nat → Int32} {qln : Int32} {qtk : Nat → Int32} {post : Int32 → (Nat → Int32) → Prop} (hS : RSh n q ct tk le) (hs : s < n) (hn : n ≤ NL) (hN : NL < 1000) (hT : 8 * n ≤ NT) (hq : (q s).1 ≤ 8) (h : ∀ ln f, RQ (q s) ln f → post ln f) : P_X6_load mo NT NL (nI s) ct tk le qln qtk post := by
  obtain ⟨rfl, hS⟩ := hS
  obtain ⟨h1, h2⟩ := hS s hs
  unfold P_X6_load
  exact ⟨(q s).1 + 1, s_load_7 hs hn hN hT hq h1 h2 (fun f hf => h _ f ⟨rfl, hf⟩) (q s).1 0 qtk (by omega) (fun i hi => by omega)⟩
