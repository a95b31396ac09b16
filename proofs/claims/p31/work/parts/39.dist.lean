/-! ===== distance, editCount, editAt: what is answered ===== -/
def isRow (n : Nat) (x : Int32) : Prop := ∃ s, s < n ∧ x = nI s
theorem not_row {n : Nat} {x : Int32} (hn : n < 1000) (h : x < 0 ∨ nI n ≤ x) : ¬ isRow n x := by
  rintro ⟨s, hs, rfl⟩
  rw [iL0] at h
  simp (disch := omega) only [nI_ltI, nI_leI] at h
  omega
noncomputable def dd (A : AS) (s t : Nat) : Nat := DD A.co (A.sy s).2 (A.sy t).2 (A.sy s).1 (A.sy t).1
noncomputable def ed (A : AS) (s t : Nat) : List Nat := trs A.co (A.sy s).2 (A.sy t).2 16 (A.sy s).1 (A.sy t).1
noncomputable def vDist (A : AS) (x y : Int32) : Int32 := by
  classical exact if isRow A.nS x ∧ isRow A.nS y then nI (dd A x.toNatClampNeg y.toNatClampNeg) else -1
noncomputable def vECount (A : AS) (x y : Int32) : Int32 := by
  classical exact if isRow A.nS x ∧ isRow A.nS y then nI (ed A x.toNatClampNeg y.toNatClampNeg).length else -1
noncomputable def vEAt (A : AS) (x y z : Int32) : Int32 := by
  classical exact if isRow A.nS x ∧ isRow A.nS y then (if 0 ≤ z then (if nI (ed A x.toNatClampNeg y.toNatClampNeg).length ≤ z then -4 else nI ((ed A x.toNatClampNeg y.toNatClampNeg).getD ((ed A x.toNatClampNeg y.toNatClampNeg).length - 1 - z.toNatClampNeg) 0)) else -1) else -1
theorem s_distance {A : AS} {x y : Int32} {ld fln gln li sct pct : Int32} {ftk gtk stk sle ye re ptk ple co : Nat → Int32} {tb : Nat → Nat → Int32} {post : Int32 → Int32 → (Nat → Int32) → Int32 → (Nat → Int32) → (Nat → Nat → Int32) → Prop} (hV : VA A) (hR : RC A li sct stk sle ye re pct ptk ple co) (h : ∀ f1 f2 g1 g2 tb', post (vDist A x y) f1 f2 g1 g2 tb') : P_X8_distance x y li sct stk sle co ld fln ftk gln gtk tb post := by
  have h12 := hV.1
  have e := hR.1.1
  unfold P_X8_distance
  rw [e]
  unfold vDist at h
  refine s_hasBoth (by omega) (fun s t hs ht hx hy => ⟨fun _ => ?_, fun z => absurd z (by decide)⟩) (fun c => ⟨fun z => absurd rfl z, fun _ => ?_⟩)
  · subst hx
    subst hy
    rw [if_pos ⟨⟨s, hs, rfl⟩, ⟨t, ht, rfl⟩⟩, nI_clamp (by omega), nI_clamp (by omega)] at h
    rw [← e]
    exact s_between hV hR hs ht (fun f1 f2 g1 g2 tb' _ _ => h f1 f2 g1 g2 tb')
  · rw [if_neg (fun z => c.elim (fun q => not_row (by omega) q z.1) (fun q => not_row (by omega) q z.2))] at h
    exact h _ _ _ _ _
theorem s_editCount {A : AS} {x y : Int32} {ld fln gln li sct pct : Int32} {ftk gtk stk sle ye re ptk ple co ls : Nat → Int32} {tb : Nat → Nat → Int32} {post : Int32 → Int32 → Int32 → (Nat → Int32) → Int32 → (Nat → Int32) → (Nat → Nat → Int32) → (Nat → Int32) → Prop} (hV : VA A) (hR : RC A li sct stk sle ye re pct ptk ple co) (h : ∀ l f1 f2 g1 g2 tb' ls', post (vECount A x y) l f1 f2 g1 g2 tb' ls') : P_X8_editCount x y li sct stk sle co ld fln ftk gln gtk tb ls post := by
  have h12 := hV.1
  have e := hR.1.1
  unfold P_X8_editCount
  rw [e]
  unfold vECount at h
  refine s_hasBoth (by omega) (fun s t hs ht hx hy => ⟨fun _ => ?_, fun z => absurd z (by decide)⟩) (fun c => ⟨fun z => absurd rfl z, fun _ => ?_⟩)
  · subst hx
    subst hy
    rw [if_pos ⟨⟨s, hs, rfl⟩, ⟨t, ht, rfl⟩⟩, nI_clamp (by omega), nI_clamp (by omega)] at h
    rw [← e]
    refine s_between hV hR hs ht (fun f1 f2 g1 g2 tb' hE hT => s_trace hE hT (fun ld' ls' hL => ?_))
    rw [hL.1]
    exact h _ f1 f2 g1 g2 tb' ls'
  · rw [if_neg (fun z => c.elim (fun q => not_row (by omega) q z.1) (fun q => not_row (by omega) q z.2))] at h
    exact h _ _ _ _ _ _ _
