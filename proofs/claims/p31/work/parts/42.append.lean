def snoc (B : Sy) (k : Nat) : Sy := (B.1 + 1, fun j => if j = B.1 then k else B.2 j)
theorem RQ_snoc {B : Sy} {k : Nat} {f : Nat → Int32} (h : ∀ j, j < B.1 → f j = nI (B.2 j)) : RQ (snoc B k) (nI (B.1 + 1)) (upd f B.1 (nI k)) := by
  refine ⟨rfl, fun j hj => ?_⟩
  show upd f B.1 (nI k) j = nI (if j = B.1 then k else B.2 j)
  by_cases e : j = B.1
  · rw [if_pos e, e, pk_us]
  · rw [if_neg e, pk_un e]
    refine h j ?_
    have : j < B.1 + 1 := hj
    omega
noncomputable def vApp (B : Sy) (x : Int32) : Int32 × Sy := by
  classical exact if isRow 65 x then (if B.1 < 8 then (nI (B.1 + 1), snoc B x.toNatClampNeg) else (-3, B)) else (-1, B)
theorem s_append {B : Sy} {x ln : Int32} {tk : Nat → Int32} {post : Int32 → Int32 → (Nat → Int32) → Prop} (hB : RQ B ln tk) (h8 : B.1 ≤ 8) (h : ∀ ln' f, RQ (vApp B x).2 ln' f → post (vApp B x).1 ln' f) : P_X8_append x ln tk post := by
  have e65 : ∀ {y : Int32}, y ≤ (64 : Int32) ↔ ¬ nI 65 ≤ y := by
    intro y
    have e1 : (64 : Int32).toInt = 64 := rfl
    have e2 : (nI 65).toInt = 65 := rfl
    rw [Int32.le_iff_toInt_le, Int32.le_iff_toInt_le, e1, e2]
    omega
  unfold P_X8_append
  unfold vApp at h
  refine ⟨fun c => ?_, fun c => ⟨fun c2 => ?_, fun c2 => ?_⟩⟩
  · rw [if_neg (not_row (by omega) (Or.inl c))] at h
    exact h _ _ hB
  · obtain ⟨k, hk, rfl⟩ := nI_below (m := 65) (by omega) c (e65.mp c2)
    rw [if_pos ⟨k, hk, rfl⟩, nI_clamp (by omega)] at h
    rw [hB.1, show (8 : Int32) = nI 8 from rfl]
    simp (disch := omega) only [nI_ltI]
    refine ⟨fun c3 => ?_, fun c3 => ?_⟩
    · rw [if_pos c3] at h
      exact s_add c3 (h _ _ (RQ_snoc hB.2))
    · rw [if_neg c3] at h
      rw [← hB.1]
      exact h _ _ hB
  · rw [if_neg (not_row (by omega) (Or.inr (Classical.byContradiction (fun q => c2 (e65.mpr q)))))] at h
    exact h _ _ hB
