theorem s_editAt {A : AS} {x y z : Int32} {ld fln gln li sct pct : Int32} {ftk gtk stk sle ye re ptk ple co ls : Nat → Int32} {tb : Nat → Nat → Int32} {post : Int32 → Int32 → Int32 → (Nat → Int32) → Int32 → (Nat → Int32) → (Nat → Nat → Int32) → (Nat → Int32) → Prop} (hV : VA A) (hR : RC A li sct stk sle ye re pct ptk ple co) (h : ∀ l f1 f2 g1 g2 tb' ls', post (vEAt A x y z) l f1 f2 g1 g2 tb' ls') : P_X8_editAt x y z li sct stk sle co ld fln ftk gln gtk tb ls post := by
  have h12 := hV.1
  have e := hR.1.1
  unfold P_X8_editAt
  rw [e]
  unfold vEAt at h
  refine s_hasBoth (by omega) (fun s t hs ht hx hy => ⟨fun w => absurd w (by decide), fun _ => ⟨fun w => ?_, fun w => ?_⟩⟩) (fun c => ⟨fun _ => ?_, fun w => absurd rfl w⟩)
  · subst hx
    subst hy
    rw [if_pos ⟨⟨s, hs, rfl⟩, ⟨t, ht, rfl⟩⟩, nI_clamp (by omega), nI_clamp (by omega), if_pos w] at h
    rw [← e]
    have hl : (ed A s t).length ≤ 16 := trs_len _ _ _
    refine s_between hV hR hs ht (fun f1 f2 g1 g2 tb' hE hT => s_trace hE hT (fun ld' ls' hL => s_fromBeginning hL hl (fun c => ?_) (fun k hk hz => ?_)))
    · have c2 : nI (ed A s t).length ≤ z := c.elim (fun q => absurd w (Int32.not_le.mpr q)) id
      rw [if_pos c2] at h
      exact h _ f1 f2 g1 g2 tb' ls'
    · subst hz
      have hk' : k < (ed A s t).length := hk
      have c2 : ¬ nI (ed A s t).length ≤ nI k := by
        simp (disch := omega) only [nI_leI]
        omega
      rw [if_neg c2, nI_clamp (by omega)] at h
      exact h _ f1 f2 g1 g2 tb' ls'
  · rw [if_pos ⟨⟨s, hs, hx⟩, ⟨t, ht, hy⟩⟩, if_neg w] at h
    exact h _ _ _ _ _ _ _
  · rw [if_neg (fun w => c.elim (fun q => not_row (by omega) q w.1) (fun q => not_row (by omega) q w.2))] at h
    exact h _ _ _ _ _ _ _
theorem m_editAt {A : AS} {x y z : Int32} {now one other far ls : Nat → Int32} {n1 n2 um mt me mg : Int32} {post : Int32 → (Nat → Int32) → (Nat → Int32) → Int32 → Int32 → (Nat → Int32) → Int32 → (Nat → Int32) → Prop} (hV : VA A) (hM : RM A 0 now) (h : ∀ f1 f2 g1 g2 far' l ls', post (vEAt A x y z) f1 f2 g1 g2 far' l ls') : P_X9_editAt x y z now um mt one other n1 n2 far me ls mg post := by
  have h12 := hV.1
  unfold P_X9_editAt
  unfold vEAt at h
  refine m_isSaying hV hM (fun s hs hx => ⟨fun w => absurd w (by decide), fun _ => m_isSaying hV hM (fun t ht hy => ⟨fun w => absurd w (by decide), fun _ => ⟨fun w => ?_, fun w => ?_⟩⟩) (fun c => ⟨fun _ => ?_, fun w => absurd rfl w⟩)⟩) (fun c => ⟨fun _ => ?_, fun w => absurd rfl w⟩)
  · subst hx
    subst hy
    rw [if_pos ⟨⟨s, hs, rfl⟩, ⟨t, ht, rfl⟩⟩, nI_clamp (by omega), nI_clamp (by omega), if_pos w] at h
    have hl : (ed A s t).length ≤ 16 := trs_len _ _ _
    refine m_findsEdits hV hM hs ht (fun f1 f2 g1 g2 far' ld' ls' hL => ?_)
    have hL' : IsL (ed A s t) ld' ls' := hL
    rw [hL'.1]
    refine ⟨fun c2 => ?_, fun c2 => ?_⟩
    · rw [if_pos c2] at h
      exact h f1 f2 g1 g2 far' _ ls'
    · obtain ⟨k, hk, rfl⟩ := nI_below (m := (ed A s t).length) (by omega) (fun q => absurd w (Int32.not_le.mpr q)) c2
      rw [if_neg c2, nI_clamp (by omega)] at h
      simp (disch := omega) only [iL0, iL1, iL2, iL3, iL4, iL5, iL6, iL7, iL8, iL9, iL10, iL11, iL12, iL13, iL16, iL20, iL48, iL60, iL64, iL96, iL100, iL109, iL121, iL133, iL134, iL140, iL188, iL192, iL193, iL772, iL965, iL10000, iL1000000, nI_leI, nI_ltI, nI_eq, nI_add, pk_mul, pk_sub, nI_clamp, vpi, ofN]
      refine ⟨by omega, ?_⟩
      rw [hL'.2 _ (by omega)]
      exact h f1 f2 g1 g2 far' _ ls'
  · rw [if_pos ⟨⟨s, hs, hx⟩, ⟨t, ht, hy⟩⟩, if_neg w] at h
    exact h _ _ _ _ _ _ _
  · rw [if_neg (fun w => not_row (by omega) c w.2)] at h
    exact h _ _ _ _ _ _ _
  · rw [if_neg (fun w => not_row (by omega) c w.1)] at h
    exact h _ _ _ _ _ _ _
