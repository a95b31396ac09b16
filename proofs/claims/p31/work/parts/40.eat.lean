theorem s_editAt {A : AS} {x y z : Int32} {ld fln gln li sct pct : Int32} {ftk gtk stk sle ye re ptk ple co ls : Nat → Int32} {tb : Nat → Nat → Int32} {post : Int32 → Int32 → Int32 → (Nat → Int32) → Int32 → (Nat → Int32) → (Nat → Nat → Int32) → (Nat → Int32) → Prop} (hV : VA A) (hR : RC A li sct stk sle ye re pct ptk ple co) (h : ∀ l f1 f2 g1 g2 tb' ls', post (vEAt A x y z) l f1 f2 g1 g2 tb' ls') : P_X8_editAt x y z li sct stk sle co ld fln ftk gln gtk tb ls post := by
  have h12 := hV.1
  have e := hR.1.1
  unfold P_X8_editAt
  rw [e]
  unfold vEAt at h
  refine s_hasBoth (by omega) (fun s t hs ht hx hy => ⟨fun w => absurd w (by decide), fun _ => ⟨fun w => ?_, fun w => ?_⟩⟩) (fun c => ⟨fun _ => ?_, fun w => absurd rfl w⟩)
  · subst hx
    subst hy
    rw [if_pos ⟨⟨s, hs, rfl⟩, ⟨t, ht, rfl⟩⟩, nI_clamp (by omega), nI_clamp (by omega), if_pos w] at h
    rw [← e]
    have hl : (ed A s t).length ≤ 16 := trs_len _ _ _
    refine s_between hV hR hs ht (fun f1 f2 g1 g2 tb' hE hT => s_trace hE hT (fun ld' ls' hL => s_fromBeginning hL hl (fun c => ?_) (fun k hk hz => ?_)))
    · have c2 : nI (ed A s t).length ≤ z := c.elim (fun q => absurd w (Int32.not_le.mpr q)) id
      rw [if_pos c2] at h
      exact h _ f1 f2 g1 g2 tb' ls'
    · subst hz
      have hk' : k < (ed A s t).length := hk
      have c2 : ¬ nI (ed A s t).length ≤ nI k := by
        simp (disch := omega) only [nI_leI]
        omega
      rw [if_neg c2, nI_clamp (by omega)] at h
      exact h _ f1 f2 g1 g2 tb' ls'
  · rw [if_pos ⟨⟨s, hs, hx⟩, ⟨t, ht, hy⟩⟩, if_neg w] at h
    exact h _ _ _ _ _ _ _
  · rw [if_neg (fun w => c.elim (fun q => not_row (by omega) q w.1) (fun q => not_row (by omega) q w.2))] at h
    exact h _ _ _ _ _ _ _
