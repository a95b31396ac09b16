/-! ===== the reference: removeSaying, removePattern ===== -/
def shS (g : Nat → Int32) (x v : Nat) : Nat → Int32 := fun i => if 1 + x ≤ i ∧ i < 1 + v then g (i + 1) else if 109 + x ≤ i ∧ i < 109 + v then g (i + 1) else if 121 + x ≤ i ∧ i < 121 + v then g (i + 1) else if 13 + 8 * x ≤ i ∧ i < 13 + 8 * v then g (i + 8) else g i
def shP (g : Nat → Int32) (x v : Nat) : Nat → Int32 := fun i => if 134 + x ≤ i ∧ i < 134 + v then g (i + 1) else if 140 + 8 * x ≤ i ∧ i < 140 + 8 * v then g (i + 8) else g i
theorem m_d96 {v : Nat} {f0 : Nat → Int32} {K : Int32 → (Nat → Int32) → Prop} (hv : v ≤ 10) (hK : ∀ w f, (∀ t, t < 8 → f (13 + 8 * v + t) = f0 (13 + 8 * v + 8 + t)) → (∀ i, i < 13 + 8 * v ∨ 13 + 8 * v + 8 ≤ i → f i = f0 i) → K w f) : ∀ (d j : Nat) (f : Nat → Int32), j + d = 8 → (∀ t, t < j → f (13 + 8 * v + t) = f0 (13 + 8 * v + 8 + t)) → (∀ i, i < 13 + 8 * v ∨ 13 + 8 * v + j ≤ i → f i = f0 i) → P_X9_removeSaying_96 (nI v) K (d + 1) (nI j) f := by
  intro d
  induction d with
  | zero =>
    intro j f hj h1 h2
    show B_X9_removeSaying_96 (nI v) K _ (nI j) f
    unfold B_X9_removeSaying_96
    have e : j = 8 := by omega
    subst e
    exact ⟨fun _ => hK _ f h1 h2, fun z => absurd (Int32.le_refl _) z⟩
  | succ d ih =>
    intro j f hj h1 h2
    have eA : (((13 : Int32) + ((8 : Int32) * nI v)) + (8 : Int32)) + nI j = nI (13 + 8 * v + 8 + j) := by rw [iL13, iL8, pk_mul, nI_add, nI_add, nI_add]
    have eB : ((13 : Int32) + ((8 : Int32) * nI v)) + nI j = nI (13 + 8 * v + j) := by rw [iL13, iL8, pk_mul, nI_add, nI_add]
    show B_X9_removeSaying_96 (nI v) K (P_X9_removeSaying_96 (nI v) K (d + 1)) (nI j) f
    unfold B_X9_removeSaying_96
    rw [eA, eB, nI_clamp (n := 13 + 8 * v + j) (by omega), nI_clamp (n := 13 + 8 * v + 8 + j) (by omega), nI_1, h2 (13 + 8 * v + 8 + j) (by omega)]
    refine ⟨fun z => ?_, fun _ => ⟨(vpi (by omega)).mpr (by omega), (vpi (by omega)).mpr (by omega), ih (j + 1) _ (by omega) (fun t ht => ?_) (fun i hi => ?_)⟩⟩
    · rw [iL8, nI_leI (by omega) (by omega)] at z
      omega
    · by_cases e : t = j
      · rw [e, pk_us]
      · rw [pk_un (by omega)]
        exact h1 t (by omega)
    · rw [pk_un (by omega)]
      exact h2 i (by omega)
theorem m_d26 {x n : Nat} {g : Nat → Int32} {K : Int32 → (Nat → Int32) → Prop} (hn : n ≤ 11) (hg : g 0 = nI n) (hK : ∀ w f, (∀ i, i < 193 → f i = shS g x n i) → K w f) : ∀ (d v : Nat) (f : Nat → Int32), v + d = n → x ≤ v → (∀ i, i < 193 → f i = shS g x v i) → P_X9_removeSaying_26 K (d + 1) (nI v) f := by
  have hf0 : ∀ (v : Nat) (f : Nat → Int32), (∀ i, i < 193 → f i = shS g x v i) → f (Int32.toNatClampNeg (0 : Int32)) = nI n := by
    intro v f hf
    show f 0 = nI n
    rw [hf 0 (by omega)]
    unfold shS
    rw [if_neg (by omega), if_neg (by omega), if_neg (by omega), if_neg (by omega)]
    exact hg
  intro d
  induction d with
  | zero =>
    intro v f hv hx hf
    show B_X9_removeSaying_26 K _ (nI v) f
    unfold B_X9_removeSaying_26
    have e : v = n := by omega
    subst e
    rw [hf0 v f hf]
    exact ⟨fun _ => hK _ f hf, fun z => absurd (Int32.le_refl _) z⟩
  | succ d ih =>
    intro v f hv hx hf
    have a1 : (1 : Int32) + nI v = nI (1 + v) := by rw [iL1, nI_add]
    have a109 : (109 : Int32) + nI v = nI (109 + v) := by rw [iL109, nI_add]
    have a121 : (121 : Int32) + nI v = nI (121 + v) := by rw [iL121, nI_add]
    show B_X9_removeSaying_26 K (P_X9_removeSaying_26 K (d + 1)) (nI v) f
    unfold B_X9_removeSaying_26
    rw [hf0 v f hf, a1, a109, a121, nI_1, nI_1, nI_1, nI_1, nI_clamp (n := 1 + v) (by omega), nI_clamp (n := 1 + v + 1) (by omega), nI_clamp (n := 109 + v) (by omega), nI_clamp (n := 109 + v + 1) (by omega), nI_clamp (n := 121 + v) (by omega), nI_clamp (n := 121 + v + 1) (by omega), pk_un (j := 109 + v + 1) (k := 1 + v) (by omega), pk_un (j := 121 + v + 1) (k := 109 + v) (by omega), pk_un (j := 121 + v + 1) (k := 1 + v) (by omega)]
    refine ⟨fun z => ?_, fun _ => ⟨(vpi (by omega)).mpr (by omega), (vpi (by omega)).mpr (by omega), (vpi (by omega)).mpr (by omega), (vpi (by omega)).mpr (by omega), (vpi (by omega)).mpr (by omega), (vpi (by omega)).mpr (by omega), 9, ?_⟩⟩
    · rw [nI_leI (by omega) (by omega)] at z
      omega
    · refine m_d96 (f0 := upd (upd (upd f (1 + v) (f (1 + v + 1))) (109 + v) (f (109 + v + 1))) (121 + v) (f (121 + v + 1))) (by omega) (fun w f' h1 h2 => ih (v + 1) f' (by omega) (by omega) (fun i hi => ?_)) 8 0 _ rfl (fun t ht => absurd ht (Nat.not_lt_zero t)) (fun _ _ => rfl)
      by_cases c : 13 + 8 * v ≤ i ∧ i < 13 + 8 * v + 8
      · have t := h1 (i - (13 + 8 * v)) (by omega)
        rw [show 13 + 8 * v + (i - (13 + 8 * v)) = i by omega, show 13 + 8 * v + 8 + (i - (13 + 8 * v)) = i + 8 by omega] at t
        rw [t, pk_un (by omega), pk_un (by omega), pk_un (by omega), hf (i + 8) (by omega)]
        unfold shS
        repeat' split
        all_goals first | rfl | (exfalso; omega)
      · rw [h2 i (by omega)]
        by_cases c1 : i = 121 + v
        · rw [c1, pk_us, hf (121 + v + 1) (by omega)]
          unfold shS
          repeat' split
          all_goals first | rfl | (exfalso; omega)
        · rw [pk_un c1]
          by_cases c2 : i = 109 + v
          · rw [c2, pk_us, hf (109 + v + 1) (by omega)]
            unfold shS
            repeat' split
            all_goals first | rfl | (exfalso; omega)
          · rw [pk_un c2]
            by_cases c3 : i = 1 + v
            · rw [c3, pk_us, hf (1 + v + 1) (by omega)]
              unfold shS
              repeat' split
              all_goals first | rfl | (exfalso; omega)
            · rw [pk_un c3, hf i hi]
              unfold shS
              repeat' split
              all_goals first | rfl | (exfalso; omega)
theorem RM_delS {A : AS} {x : Nat} {now f : Nat → Int32} (hV : VA A) (hM : RM A 0 now) (hx : x < A.nS) (hf : ∀ i, i < 193 → f i = shS (upd now 0 (nI (A.nS - 1))) x (A.nS - 1) i) : RM (delS A x) 0 f := by
  have h12 := hV.1
  have h6 := hV.2.2.1
  have lo : ∀ i, i < 193 → i ≠ 0 → ¬ (1 + x ≤ i ∧ i < 1 + (A.nS - 1)) → ¬ (109 + x ≤ i ∧ i < 109 + (A.nS - 1)) → ¬ (121 + x ≤ i ∧ i < 121 + (A.nS - 1)) → ¬ (13 + 8 * x ≤ i ∧ i < 13 + 8 * (A.nS - 1)) → f i = now i := by
    intro i hi h0 c1 c2 c3 c4
    rw [hf i hi]
    unfold shS
    rw [if_neg c1, if_neg c2, if_neg c3, if_neg c4, pk_un h0]
  have h1 : ∀ i, i < 193 → ((1 + x ≤ i ∧ i < 1 + (A.nS - 1)) ∨ (109 + x ≤ i ∧ i < 109 + (A.nS - 1)) ∨ (121 + x ≤ i ∧ i < 121 + (A.nS - 1))) → f i = now (i + 1) := by
    intro i hi c
    rw [hf i hi]
    unfold shS
    repeat' split
    all_goals first | exact pk_un (by omega) | (exfalso; omega)
  have h8 : ∀ i, i < 193 → (13 + 8 * x ≤ i ∧ i < 13 + 8 * (A.nS - 1)) → f i = now (i + 8) := by
    intro i hi c
    rw [hf i hi]
    unfold shS
    repeat' split
    all_goals first | exact pk_un (by omega) | (exfalso; omega)
  refine RM_mk ?_ (fun s hs => ?_) (fun s hs => ?_) ?_ (fun p hp => ?_) (fun i hi => ?_) ?_
  · rw [hf 0 (by omega)]
    unfold shS
    rw [if_neg (by omega), if_neg (by omega), if_neg (by omega), if_neg (by omega), pk_us]
    rfl
  · have hs' : s < A.nS - 1 := hs
    show f (1 + s) = nI (if s < x then A.sy s else A.sy (s + 1)).1 ∧ ∀ j, j < (if s < x then A.sy s else A.sy (s + 1)).1 → f (13 + (8 * s + j)) = nI ((if s < x then A.sy s else A.sy (s + 1)).2 j)
    by_cases e : s < x
    · have t := RM_sy hM (show s < A.nS by omega)
      have s8 := VA_s8 hV s (by omega)
      rw [if_pos e, lo (1 + s) (by omega) (by omega) (by omega) (by omega) (by omega) (by omega)]
      refine ⟨t.1, fun j hj => ?_⟩
      rw [lo _ (by omega) (by omega) (by omega) (by omega) (by omega) (by omega)]
      exact t.2 j hj
    · have t := RM_sy hM (show s + 1 < A.nS by omega)
      have s8 := VA_s8 hV (s + 1) (by omega)
      rw [if_neg e, h1 (1 + s) (by omega) (by omega)]
      refine ⟨t.1, fun j hj => ?_⟩
      rw [h8 _ (by omega) (by omega), show 13 + (8 * s + j) + 8 = 13 + (8 * (s + 1) + j) by omega]
      exact t.2 j hj
  · have hs' : s < A.nS - 1 := hs
    show f (109 + s) = (if s < x then A.yr s else A.yr (s + 1)) ∧ f (121 + s) = nI (if s < x then A.rg s else A.rg (s + 1))
    by_cases e : s < x
    · rw [if_pos e, if_pos e, lo (109 + s) (by omega) (by omega) (by omega) (by omega) (by omega) (by omega), lo (121 + s) (by omega) (by omega) (by omega) (by omega) (by omega) (by omega)]
      exact RM_yr (A := A) hM (by omega)
    · rw [if_neg e, if_neg e, h1 (109 + s) (by omega) (by omega), h1 (121 + s) (by omega) (by omega)]
      exact RM_yr (A := A) hM (s := s + 1) (by omega)
  · rw [lo 133 (by omega) (by omega) (by omega) (by omega) (by omega) (by omega)]
    exact RM_133 (A := A) hM
  · have hp' : p < A.nP := hp
    have t := RM_pt hM hp'
    have p8 := VA_p8 hV p hp'
    show f (134 + p) = nI (A.pt p).1 ∧ ∀ j, j < (A.pt p).1 → f (140 + (8 * p + j)) = nI ((A.pt p).2 j)
    rw [lo (134 + p) (by omega) (by omega) (by omega) (by omega) (by omega) (by omega)]
    refine ⟨t.1, fun j hj => ?_⟩
    rw [lo _ (by omega) (by omega) (by omega) (by omega) (by omega) (by omega)]
    exact t.2 j hj
  · rw [lo (188 + i) (by omega) (by omega) (by omega) (by omega) (by omega) (by omega)]
    exact RM_co (A := A) hM hi
  · rw [lo 192 (by omega) (by omega) (by omega) (by omega) (by omega) (by omega)]
    exact RM_192 (A := A) hM
theorem m_removeSaying {A : AS} {k : Nat} {h : Nat → AS} {z um mt n1 n2 me mg : Int32} {now before : Nat → Int32} {post : Int32 → (Nat → Int32) → (Nat → Int32) → Int32 → Prop} (hV : VA A) (hv : ∀ j, j < k → VA (h j)) (hk : k ≤ 5) (hM : RM A 0 now) (hH : HM k h before um)
    (h0 : ¬ isRow A.nS z → post (-1) now before um)
    (h1 : isRow A.nS z → ∀ now' bef' um', RM (delS A z.toNatClampNeg) 0 now' → HM (min (k + 1) 5) (hsh A h) bef' um' → post (nI (A.nS - 1)) now' bef' um') :
    P_X9_removeSaying z now before um mt n1 n2 me mg post := by
  have h12 := hV.1
  unfold P_X9_removeSaying
  refine m_isSaying hV hM (fun s hs hz => ⟨fun _ => ?_, fun w => absurd w (by decide)⟩) (fun c => ⟨fun w => absurd rfl w, fun _ => h0 (not_row (by omega) c)⟩)
  subst hz
  have h2 := h1 ⟨s, hs, rfl⟩
  rw [nI_clamp (by omega)] at h2
  have c0 : Int32.toNatClampNeg (0 : Int32) = 0 := rfl
  rw [c0, RM_0 hM, iL1, pk_sub (by omega)]
  refine m_keeps hV hv hk hM hH (fun bef' um' hH' => ⟨A.nS - 1 - s + 1, m_d26 (x := s) (n := A.nS - 1) (g := upd now 0 (nI (A.nS - 1))) (by omega) pk_us (fun w f hf => ?_) (A.nS - 1 - s) s _ (by omega) (Nat.le_refl _) (fun i hi => ?_)⟩)
  · have hR := RM_delS hV hM hs hf
    rw [RM_0 hR]
    exact h2 f bef' um' hR hH'
  · unfold shS
    rw [if_neg (by omega), if_neg (by omega), if_neg (by omega), if_neg (by omega)]
theorem m_d64 {v : Nat} {f0 : Nat → Int32} {K : Int32 → (Nat → Int32) → Prop} (hv : v ≤ 4) (hK : ∀ w f, (∀ t, t < 8 → f (140 + 8 * v + t) = f0 (140 + 8 * v + 8 + t)) → (∀ i, i < 140 + 8 * v ∨ 140 + 8 * v + 8 ≤ i → f i = f0 i) → K w f) : ∀ (d j : Nat) (f : Nat → Int32), j + d = 8 → (∀ t, t < j → f (140 + 8 * v + t) = f0 (140 + 8 * v + 8 + t)) → (∀ i, i < 140 + 8 * v ∨ 140 + 8 * v + j ≤ i → f i = f0 i) → P_X9_removePattern_64 (nI v) K (d + 1) (nI j) f := by
  intro d
  induction d with
  | zero =>
    intro j f hj h1 h2
    show B_X9_removePattern_64 (nI v) K _ (nI j) f
    unfold B_X9_removePattern_64
    have e : j = 8 := by omega
    subst e
    exact ⟨fun _ => hK _ f h1 h2, fun z => absurd (Int32.le_refl _) z⟩
  | succ d ih =>
    intro j f hj h1 h2
    have eA : (((140 : Int32) + ((8 : Int32) * nI v)) + (8 : Int32)) + nI j = nI (140 + 8 * v + 8 + j) := by rw [iL140, iL8, pk_mul, nI_add, nI_add, nI_add]
    have eB : ((140 : Int32) + ((8 : Int32) * nI v)) + nI j = nI (140 + 8 * v + j) := by rw [iL140, iL8, pk_mul, nI_add, nI_add]
    show B_X9_removePattern_64 (nI v) K (P_X9_removePattern_64 (nI v) K (d + 1)) (nI j) f
    unfold B_X9_removePattern_64
    rw [eA, eB, nI_clamp (n := 140 + 8 * v + j) (by omega), nI_clamp (n := 140 + 8 * v + 8 + j) (by omega), nI_1, h2 (140 + 8 * v + 8 + j) (by omega)]
    refine ⟨fun z => ?_, fun _ => ⟨(vpi (by omega)).mpr (by omega), (vpi (by omega)).mpr (by omega), ih (j + 1) _ (by omega) (fun t ht => ?_) (fun i hi => ?_)⟩⟩
    · rw [iL8, nI_leI (by omega) (by omega)] at z
      omega
    · by_cases e : t = j
      · rw [e, pk_us]
      · rw [pk_un (by omega)]
        exact h1 t (by omega)
    · rw [pk_un (by omega)]
      exact h2 i (by omega)
theorem m_d28 {x n : Nat} {g : Nat → Int32} {K : Int32 → (Nat → Int32) → Prop} (hn : n ≤ 5) (hg : g 133 = nI n) (hK : ∀ w f, (∀ i, i < 193 → f i = shP g x n i) → K w f) : ∀ (d v : Nat) (f : Nat → Int32), v + d = n → x ≤ v → (∀ i, i < 193 → f i = shP g x v i) → P_X9_removePattern_28 K (d + 1) (nI v) f := by
  have hf0 : ∀ (v : Nat) (f : Nat → Int32), (∀ i, i < 193 → f i = shP g x v i) → f (Int32.toNatClampNeg (133 : Int32)) = nI n := by
    intro v f hf
    show f 133 = nI n
    rw [hf 133 (by omega)]
    unfold shP
    rw [if_neg (by omega), if_neg (by omega)]
    exact hg
  intro d
  induction d with
  | zero =>
    intro v f hv hx hf
    show B_X9_removePattern_28 K _ (nI v) f
    unfold B_X9_removePattern_28
    have e : v = n := by omega
    subst e
    rw [hf0 v f hf]
    exact ⟨fun _ => hK _ f hf, fun z => absurd (Int32.le_refl _) z⟩
  | succ d ih =>
    intro v f hv hx hf
    have a134 : (134 : Int32) + nI v = nI (134 + v) := by rw [iL134, nI_add]
    show B_X9_removePattern_28 K (P_X9_removePattern_28 K (d + 1)) (nI v) f
    unfold B_X9_removePattern_28
    rw [hf0 v f hf, a134, nI_1, nI_1, nI_clamp (n := 134 + v) (by omega), nI_clamp (n := 134 + v + 1) (by omega)]
    refine ⟨fun z => ?_, fun _ => ⟨(vpi (by omega)).mpr (by omega), (vpi (by omega)).mpr (by omega), 9, ?_⟩⟩
    · rw [nI_leI (by omega) (by omega)] at z
      omega
    · refine m_d64 (f0 := upd f (134 + v) (f (134 + v + 1))) (by omega) (fun w f' h1 h2 => ih (v + 1) f' (by omega) (by omega) (fun i hi => ?_)) 8 0 _ rfl (fun t ht => absurd ht (Nat.not_lt_zero t)) (fun _ _ => rfl)
      by_cases c : 140 + 8 * v ≤ i ∧ i < 140 + 8 * v + 8
      · have t := h1 (i - (140 + 8 * v)) (by omega)
        rw [show 140 + 8 * v + (i - (140 + 8 * v)) = i by omega, show 140 + 8 * v + 8 + (i - (140 + 8 * v)) = i + 8 by omega] at t
        rw [t, pk_un (by omega), hf (i + 8) (by omega)]
        unfold shP
        repeat' split
        all_goals first | rfl | (exfalso; omega)
      · rw [h2 i (by omega)]
        by_cases c1 : i = 134 + v
        · rw [c1, pk_us, hf (134 + v + 1) (by omega)]
          unfold shP
          repeat' split
          all_goals first | rfl | (exfalso; omega)
        · rw [pk_un c1, hf i hi]
          unfold shP
          repeat' split
          all_goals first | rfl | (exfalso; omega)
theorem RM_delP {A : AS} {x : Nat} {now f : Nat → Int32} (hV : VA A) (hM : RM A 0 now) (hx : x < A.nP) (hf : ∀ i, i < 193 → f i = shP (upd now 133 (nI (A.nP - 1))) x (A.nP - 1) i) : RM (delP A x) 0 f := by
  have h12 := hV.1
  have h6 := hV.2.2.1
  have lo : ∀ i, i < 193 → i ≠ 133 → ¬ (134 + x ≤ i ∧ i < 134 + (A.nP - 1)) → ¬ (140 + 8 * x ≤ i ∧ i < 140 + 8 * (A.nP - 1)) → f i = now i := by
    intro i hi h0 c1 c2
    rw [hf i hi]
    unfold shP
    rw [if_neg c1, if_neg c2, pk_un h0]
  have h1 : ∀ i, i < 193 → (134 + x ≤ i ∧ i < 134 + (A.nP - 1)) → f i = now (i + 1) := by
    intro i hi c
    rw [hf i hi]
    unfold shP
    rw [if_pos c]
    exact pk_un (by omega)
  have h8 : ∀ i, i < 193 → (140 + 8 * x ≤ i ∧ i < 140 + 8 * (A.nP - 1)) → f i = now (i + 8) := by
    intro i hi c
    rw [hf i hi]
    unfold shP
    rw [if_neg (by omega), if_pos c]
    exact pk_un (by omega)
  refine RM_mk ?_ (fun s hs => ?_) (fun s hs => ?_) ?_ (fun p hp => ?_) (fun i hi => ?_) ?_
  · rw [lo 0 (by omega) (by omega) (by omega) (by omega)]
    exact RM_0 (A := A) hM
  · have hs' : s < A.nS := hs
    have t := RM_sy hM hs'
    have s8 := VA_s8 hV s hs'
    show f (1 + s) = nI (A.sy s).1 ∧ ∀ j, j < (A.sy s).1 → f (13 + (8 * s + j)) = nI ((A.sy s).2 j)
    rw [lo (1 + s) (by omega) (by omega) (by omega) (by omega)]
    refine ⟨t.1, fun j hj => ?_⟩
    rw [lo _ (by omega) (by omega) (by omega) (by omega)]
    exact t.2 j hj
  · have hs' : s < A.nS := hs
    show f (109 + s) = A.yr s ∧ f (121 + s) = nI (A.rg s)
    rw [lo (109 + s) (by omega) (by omega) (by omega) (by omega), lo (121 + s) (by omega) (by omega) (by omega) (by omega)]
    exact RM_yr (A := A) hM hs'
  · rw [hf 133 (by omega)]
    unfold shP
    rw [if_neg (by omega), if_neg (by omega), pk_us]
    rfl
  · have hp' : p < A.nP - 1 := hp
    show f (134 + p) = nI (if p < x then A.pt p else A.pt (p + 1)).1 ∧ ∀ j, j < (if p < x then A.pt p else A.pt (p + 1)).1 → f (140 + (8 * p + j)) = nI ((if p < x then A.pt p else A.pt (p + 1)).2 j)
    by_cases e : p < x
    · have t := RM_pt hM (show p < A.nP by omega)
      have p8 := VA_p8 hV p (by omega)
      rw [if_pos e, lo (134 + p) (by omega) (by omega) (by omega) (by omega)]
      refine ⟨t.1, fun j hj => ?_⟩
      rw [lo _ (by omega) (by omega) (by omega) (by omega)]
      exact t.2 j hj
    · have t := RM_pt hM (show p + 1 < A.nP by omega)
      have p8 := VA_p8 hV (p + 1) (by omega)
      rw [if_neg e, h1 (134 + p) (by omega) (by omega)]
      refine ⟨t.1, fun j hj => ?_⟩
      rw [h8 _ (by omega) (by omega), show 140 + (8 * p + j) + 8 = 140 + (8 * (p + 1) + j) by omega]
      exact t.2 j hj
  · rw [lo (188 + i) (by omega) (by omega) (by omega) (by omega)]
    exact RM_co (A := A) hM hi
  · rw [lo 192 (by omega) (by omega) (by omega) (by omega)]
    exact RM_192 (A := A) hM
theorem m_removePattern {A : AS} {k : Nat} {h : Nat → AS} {z um mt n1 n2 me mg : Int32} {now before : Nat → Int32} {post : Int32 → (Nat → Int32) → (Nat → Int32) → Int32 → Prop} (hV : VA A) (hv : ∀ j, j < k → VA (h j)) (hk : k ≤ 5) (hM : RM A 0 now) (hH : HM k h before um)
    (h0 : ¬ isRow A.nP z → post (-1) now before um)
    (h1 : isRow A.nP z → ∀ now' bef' um', RM (delP A z.toNatClampNeg) 0 now' → HM (min (k + 1) 5) (hsh A h) bef' um' → post (nI (A.nP - 1)) now' bef' um') :
    P_X9_removePattern z now before um mt n1 n2 me mg post := by
  have h6 := hV.2.2.1
  unfold P_X9_removePattern
  refine m_isPattern hV hM (fun s hs hz => ⟨fun _ => ?_, fun w => absurd w (by decide)⟩) (fun c => ⟨fun w => absurd rfl w, fun _ => h0 (not_row (by omega) c)⟩)
  subst hz
  have h2 := h1 ⟨s, hs, rfl⟩
  rw [nI_clamp (by omega)] at h2
  have c0 : Int32.toNatClampNeg (133 : Int32) = 133 := rfl
  rw [c0, RM_133 hM, iL1, pk_sub (by omega)]
  refine m_keeps hV hv hk hM hH (fun bef' um' hH' => ⟨A.nP - 1 - s + 1, m_d28 (x := s) (n := A.nP - 1) (g := upd now 133 (nI (A.nP - 1))) (by omega) pk_us (fun w f hf => ?_) (A.nP - 1 - s) s _ (by omega) (Nat.le_refl _) (fun i hi => ?_)⟩)
  · have hR := RM_delP hV hM hs hf
    rw [RM_133 hR]
    exact h2 f bef' um' hR hH'
  · unfold shP
    rw [if_neg (by omega), if_neg (by omega)]
