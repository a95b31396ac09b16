/-! ===== the class: Matcher ===== -/
theorem s_copyAll {N : Nat} {f g : Nat → Int32} {post : (Nat → Int32) → Prop} (hN : N < 1000) (h : ∀ f', (∀ i, i < N → f' i = f i) → post f') : P_X8_copyAll N N f g post := by
  have em : (if Int32.ofNat N < Int32.ofNat N then Int32.ofNat N else Int32.ofNat N) = nI N := by
    rw [if_neg (Int32.lt_irrefl)]
    rfl
  unfold P_X8_copyAll
  rw [em, iL0, nI_clamp (by omega), nI_clamp (by omega)]
  refine ⟨⟨Int32.lt_irrefl, Int32.lt_irrefl, nI_pos (by omega), by omega, by omega⟩, h _ (fun i hi => ?_)⟩
  rw [pk_cpy_in (by omega) (by omega), Nat.sub_zero, Nat.zero_add]
