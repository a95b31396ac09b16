/-! ===== fillings: one list for both ways of finding them ===== -/
def sset (σ : Nat → Nat) (i w : Nat) : Nat → Nat := fun j => if j = i then w + 1 else σ j
/-- whether this token may take this word -/
def tok (t w : Nat) (σ : Nat → Nat) : Bool := if t < 60 then decide (t = w) else decide (σ (t - 60) = 0 ∨ σ (t - 60) = w + 1)
def tset (t w : Nat) (σ : Nat → Nat) : Nat → Nat := if t < 60 then σ else sset σ (t - 60) w
def lpl (f : Nat → List (Nat → Nat)) : Nat → Nat → List (Nat → Nat)
  | _, 0 => []
  | e, n + 1 => f e ++ lpl f (e + 1) n
def en (q r : Sy) : Nat → Nat → Nat → (Nat → Nat) → List (Nat → Nat)
  | 0, _, w, σ => if w = r.1 then [σ] else []
  | d + 1, k, w, σ => if q.2 k = 64 then lpl (fun e => en q r d (k + 1) e σ) w (r.1 + 1 - w) else if w < r.1 ∧ tok (q.2 k) (r.2 w) σ = true then en q r d (k + 1) (w + 1) (tset (q.2 k) (r.2 w) σ) else []
def run (q r : Sy) : Nat → Nat → Nat → (Nat → Nat) → List Nat → Option (Nat → Nat)
  | 0, _, _, σ, _ => some σ
  | d + 1, k, w, σ, g => if q.2 k = 64 then run q r d (k + 1) (w + g.headD 0) σ g.tail else if tok (q.2 k) (r.2 w) σ = true then run q r d (k + 1) (w + 1) (tset (q.2 k) (r.2 w) σ) g else none
def gp (q : Sy) : Nat → Nat → Nat
  | 0, _ => 0
  | d + 1, k => gp q d (k + 1) + (if q.2 k = 64 then 1 else 0)
def ngp (q : Sy) : Nat → Nat → Nat
  | 0, _ => 0
  | d + 1, k => ngp q d (k + 1) + (if q.2 k = 64 then 0 else 1)
theorem gp_ngp (q : Sy) : ∀ d k, gp q d k + ngp q d k = d := by
  intro d
  induction d with
  | zero => intro k; rfl
  | succ d ih =>
    intro k
    have i := ih (k + 1)
    rw [gp, ngp]
    by_cases h : q.2 k = 64
    · rw [if_pos h, if_pos h]; omega
    · rw [if_neg h, if_neg h]; omega
theorem fm_none {l : List (List Nat)} : l.filterMap (fun _ => (none : Option (Nat → Nat))) = [] := by
  induction l with
  | nil => rfl
  | cons a b ih => exact ih
def cz (m n l : Nat) : List (List Nat) := if l < n then [] else comps m (l - n)
theorem en_s (q r : Sy) (d k w : Nat) (σ : Nat → Nat) : en q r (d + 1) k w σ = if q.2 k = 64 then lpl (fun e => en q r d (k + 1) e σ) w (r.1 + 1 - w) else if w < r.1 ∧ tok (q.2 k) (r.2 w) σ = true then en q r d (k + 1) (w + 1) (tset (q.2 k) (r.2 w) σ) else [] := by rw [en]
theorem run_s (q r : Sy) (d k w : Nat) (σ : Nat → Nat) (g : List Nat) : run q r (d + 1) k w σ g = if q.2 k = 64 then run q r d (k + 1) (w + g.headD 0) σ g.tail else if tok (q.2 k) (r.2 w) σ = true then run q r d (k + 1) (w + 1) (tset (q.2 k) (r.2 w) σ) g else none := by rw [run]
theorem en_eq (q r : Sy) : ∀ (d k w : Nat) (σ : Nat → Nat), w ≤ r.1 → en q r d k w σ = (cz (gp q d k) (ngp q d k) (r.1 - w)).filterMap (run q r d k w σ) := by
  intro d
  induction d with
  | zero =>
    intro k w σ hw
    rw [en, gp, ngp, cz, if_neg (Nat.not_lt_zero _), Nat.sub_zero]
    by_cases h : w = r.1
    · rw [if_pos h, show r.1 - w = 0 by omega, comps_00]
      rfl
    · rw [if_neg h]
      obtain ⟨z, hz⟩ : ∃ z, r.1 - w = z + 1 := ⟨r.1 - w - 1, by omega⟩
      rw [hz, comps_0s]
      rfl
  | succ d ih =>
    intro k w σ hw
    rw [en_s, gp, ngp]
    by_cases h : q.2 k = 64
    · rw [if_pos h, if_pos h, if_pos h, Nat.add_zero (ngp q d (k + 1))]
      have key : ∀ (c a : Nat), w + a + c = r.1 + 1 → lpl (fun e => en q r d (k + 1) e σ) (w + a) c = (blk (comps (gp q d (k + 1))) a (c - ngp q d (k + 1))).filterMap (run q r (d + 1) k w σ) := by
        intro c
        induction c with
        | zero =>
          intro a _
          rw [lpl, Nat.zero_sub, blk_0]
          rfl
        | succ c ihc =>
          intro a ha
          rw [lpl, show w + a + 1 = w + (a + 1) by omega, ihc (a + 1) (by omega), ih (k + 1) (w + a) σ (by omega), cz, show r.1 - (w + a) = c by omega]
          by_cases hc : c < ngp q d (k + 1)
          · rw [if_pos hc, show c - ngp q d (k + 1) = 0 by omega, show c + 1 - ngp q d (k + 1) = 0 by omega, blk_0, blk_0]
            rfl
          · rw [if_neg hc, show c + 1 - ngp q d (k + 1) = (c - ngp q d (k + 1)) + 1 by omega, blk_s, List.filterMap_append, List.filterMap_map]
            have e : (run q r (d + 1) k w σ ∘ fun c => a :: c) = run q r d (k + 1) (w + a) σ := by
              funext g
              show run q r (d + 1) k w σ (a :: g) = _
              rw [run_s, if_pos h]
              rfl
            rw [e]
      have k0 := key (r.1 + 1 - w) 0 (by omega)
      rw [Nat.add_zero w] at k0
      rw [k0, cz]
      by_cases hl : r.1 - w < ngp q d (k + 1)
      · rw [if_pos hl, show r.1 + 1 - w - ngp q d (k + 1) = 0 by omega, blk_0]
      · rw [if_neg hl, comps_s, show r.1 + 1 - w - ngp q d (k + 1) = r.1 - w - ngp q d (k + 1) + 1 by omega]
    · rw [if_neg h, if_neg h, if_neg h, Nat.add_zero (gp q d (k + 1))]
      have er : ∀ g, run q r (d + 1) k w σ g = if tok (q.2 k) (r.2 w) σ = true then run q r d (k + 1) (w + 1) (tset (q.2 k) (r.2 w) σ) g else none := by
        intro g
        rw [run_s, if_neg h]
      by_cases hwr : w < r.1
      · have ec : cz (gp q d (k + 1)) (ngp q d (k + 1) + 1) (r.1 - w) = cz (gp q d (k + 1)) (ngp q d (k + 1)) (r.1 - (w + 1)) := by
          rw [cz, cz]
          by_cases hl : r.1 - (w + 1) < ngp q d (k + 1)
          · rw [if_pos hl, if_pos (by omega)]
          · rw [if_neg hl, if_neg (by omega), show r.1 - w - (ngp q d (k + 1) + 1) = r.1 - (w + 1) - ngp q d (k + 1) by omega]
        by_cases ht : tok (q.2 k) (r.2 w) σ = true
        · rw [if_pos ⟨hwr, ht⟩, ih _ _ _ (by omega), ec]
          have e : run q r (d + 1) k w σ = run q r d (k + 1) (w + 1) (tset (q.2 k) (r.2 w) σ) := by
            funext g
            rw [er, if_pos ht]
          rw [e]
        · rw [if_neg (fun z => ht z.2)]
          have e : run q r (d + 1) k w σ = fun _ => none := by
            funext g
            rw [er, if_neg ht]
          rw [e, fm_none]
      · rw [if_neg (fun z => hwr z.1), cz, if_pos (by omega)]
        rfl
theorem lpl_len {f : Nat → List (Nat → Nat)} {B : Nat} (h : ∀ e, (f e).length ≤ B) : ∀ n e, (lpl f e n).length ≤ n * B := by
  intro n
  induction n with
  | zero => intro e; rw [lpl]; exact Nat.zero_le _
  | succ n ih =>
    intro e
    have h1 := h e
    have h2 := ih (e + 1)
    rw [lpl, List.length_append, Nat.succ_mul]
    omega
theorem en_len (q r : Sy) (hr : r.1 ≤ 8) : ∀ (d k w : Nat) (σ : Nat → Nat), (en q r d k w σ).length ≤ 9 ^ d := by
  intro d
  induction d with
  | zero =>
    intro k w σ
    rw [en]
    by_cases h : w = r.1
    · rw [if_pos h]; exact Nat.le_refl _
    · rw [if_neg h]; exact Nat.zero_le _
  | succ d ih =>
    intro k w σ
    have h9 : 9 ^ (d + 1) = 9 * 9 ^ d := by rw [Nat.pow_succ, Nat.mul_comm]
    rw [en_s, h9]
    by_cases h : q.2 k = 64
    · rw [if_pos h]
      refine Nat.le_trans (lpl_len (B := 9 ^ d) (fun e => ih (k + 1) e σ) _ _) (Nat.mul_le_mul_right _ (by omega))
    · rw [if_neg h]
      by_cases h2 : w < r.1 ∧ tok (q.2 k) (r.2 w) σ = true
      · rw [if_pos h2]
        have := ih (k + 1) (w + 1) (tset (q.2 k) (r.2 w) σ)
        omega
      · rw [if_neg h2]; exact Nat.zero_le _
/-- all fillings, the slots of each -/
def fil (A : AS) (p s : Nat) : List (Nat → Nat) := en (A.pt p) (A.sy s) (A.pt p).1 0 0 (fun _ => 0)
theorem fil_len {A : AS} {p s : Nat} (hV : VA A) (hp : p < A.nP) (hs : s < A.nS) : (fil A p s).length < 1000000000 := by
  have h1 := en_len (A.pt p) (A.sy s) (hV.2.1 s hs).2.1 (A.pt p).1 0 0 (fun _ => 0)
  have h2 : 9 ^ (A.pt p).1 ≤ 9 ^ 8 := Nat.pow_le_pow_right (by omega) (hV.2.2.2.1 p hp).2.1
  have h3 : 9 ^ 8 = 43046721 := rfl
  unfold fil
  omega
