theorem s_isOlder {a b n : Nat} {li : Int32} {ye yr : Nat → Int32} {post : Int32 → Prop} (hn : n ≤ 12) (ha : a < n) (hb : b < n) (ea : ye a = yr a) (eb : ye b = yr b) (h1 : old yr a b → post 1) (h0 : ¬ old yr a b → post 0) : P_X7_isOlder (nI a) (nI b) li (nI n) ye post := by
  unfold P_X7_isOlder
  refine s_has_yes ha (by omega) ⟨fun z => absurd z (by decide), fun _ => s_has_yes hb (by omega) ⟨fun z => absurd z (by decide), fun _ => ?_⟩⟩
  simp (disch := omega) only [nI_clamp, vpi, nI_leI, ea, eb]
  unfold old at h1 h0
  refine ⟨by omega, by omega, fun c => h1 (Or.inl c), fun c => ⟨by omega, by omega, fun c2 => h0 (fun q => q.elim c (fun z => c2 z.1)), fun c2 => ⟨fun c3 => h0 (fun q => q.elim c (fun z => by omega)), fun c3 => h1 (Or.inr ⟨c2, by omega⟩)⟩⟩⟩
theorem s_place_4 {n s : Nat} {li : Int32} {ye yr : Nat → Int32} {K : Int32 → Int32 → Prop} (hn : n ≤ 12) (hs : s < n) (hy : ∀ t, t < n → ye t = yr t) (hK : ∀ v, K v (nI (rank yr n s))) : ∀ (d t : Nat), t + d = n → P_X7_place_4 (nI s) li (nI n) ye K (d + 1) (nI t) (nI (cnt (fun t => old yr t s) t)) := by
  classical
  intro d
  induction d with
  | zero =>
    intro t ht
    show B_X7_place_4 (nI s) li (nI n) ye K _ (nI t) _
    unfold B_X7_place_4
    have e : t = n := by omega
    subst e
    exact ⟨fun _ => hK _, fun z => absurd (Int32.le_refl _) z⟩
  | succ d ih =>
    intro t ht
    have hc := cnt_le (fun t => old yr t s) t
    have i := ih (t + 1) (by omega)
    rw [cnt_succ] at i
    show B_X7_place_4 (nI s) li (nI n) ye K (P_X7_place_4 (nI s) li (nI n) ye K (d + 1)) (nI t) _
    unfold B_X7_place_4
    refine ⟨fun z => ?_, fun _ => s_isOlder hn (by omega) hs (hy t (by omega)) (hy s hs) (fun o => ⟨fun z => absurd z (by decide), fun _ => ?_⟩) (fun o => ⟨fun _ => ?_, fun z => absurd rfl z⟩)⟩
    · simp (disch := omega) only [nI_leI] at z
      omega
    · rw [if_pos o] at i
      simp (disch := omega) only [iL1, nI_add]
      exact i
    · rw [if_neg o] at i
      simp (disch := omega) only [iL0, iL1, nI_add]
      exact i
theorem s_place {n s : Nat} {li : Int32} {ye yr : Nat → Int32} {post : Int32 → Prop} (hn : n ≤ 12) (hs : s < n) (hy : ∀ t, t < n → ye t = yr t) (h : post (nI (rank yr n s))) : P_X7_place (nI s) li (nI n) ye post :=
  ⟨n + 1, s_place_4 hn hs hy (fun _ => h) n 0 (by omega)⟩
