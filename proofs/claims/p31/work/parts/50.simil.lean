/-! ===== similarityBits ===== -/
theorem chk_of {N b : Nat} (h : ((List.range N).all (fun w => (List.range (w + (b + 1))).all (fun d => chk d (w + b)))) = true) {d w : Nat} (h1 : b ≤ w) (h2 : w < N + b) (hd : d ≤ w) : chk d w = true := by
  have t := List.all_eq_true.mp h (w - b) (List.mem_range.mpr (by omega))
  have t2 := List.all_eq_true.mp t d (List.mem_range.mpr (by omega))
  rw [show w - b + b = w by omega] at t2
  exact t2
theorem chk_ok {d w : Nat} (h0 : 0 < w) (hw : w ≤ 144) (hd : d ≤ w) : chk d w = true := by
  by_cases h1 : w < 41
  · exact chk_of (N := 40) (b := 1) chk_a (by omega) (by omega) hd
  · by_cases h2 : w < 91
    · exact chk_of (N := 50) (b := 41) chk_b (by omega) (by omega) hd
    · by_cases h3 : w < 121
      · exact chk_of (N := 30) (b := 91) chk_c (by omega) (by omega) hd
      · exact chk_of (N := 24) (b := 121) chk_d (by omega) (by omega) hd
theorem and2 {a b : Bool} (h : (a && b) = true) : a = true ∧ b = true := by
  cases a
  · exact absurd h (by simp)
  · exact ⟨rfl, h⟩
theorem fin1_of {e : Nat} {f t : UInt32} {post : Int32 → Prop} (h : fin1 e f t = true) (hp : post (UInt32.toInt32 t)) : vf_n32 (FP.fsub f FP.fconst1) ∧ (vf_n32 (FP.fmul (FP.fsub f FP.fconst1) (1258291200 : UInt32)) ∧ (post ((nI e <<< ((23 : Int32) &&& 31)) + (FP.f2i (FP.fmul (FP.fsub f FP.fconst1) (1258291200 : UInt32)))))) := by
  unfold fin1 at h
  rw [fo_eq, UInt32.ofNat_toNat] at h
  obtain ⟨h1, h2⟩ := and2 h
  rw [fo_eq, UInt32.ofNat_toNat] at h2
  obtain ⟨h3, h4⟩ := and2 h2
  refine ⟨n32_of h1, n32_of h3, ?_⟩
  rw [of_decide_eq_true h4]
  exact hp
theorem s_bits_13 {t : UInt32} {K : Int32 → UInt32 → Prop} (hK : ∀ e f, fin1 e f t = true → K (nI e) f) : ∀ (n e f : Nat), e < 1000 → chkL n e f t = true → P_X8_bitsOf_13 K n (nI e) (UInt32.ofNat f) := by
  intro n
  induction n with
  | zero => intro e f _ h; exact absurd h (by simp [chkL])
  | succ n ih =>
    intro e f he h
    rw [chkL] at h
    show B_X8_bitsOf_13 K (P_X8_bitsOf_13 K n) (nI e) (UInt32.ofNat f)
    unfold B_X8_bitsOf_13
    have e1 : nI e ≤ (1 : Int32) ↔ e ≤ 1 := nI_leI (b := 1) (by omega) (by omega)
    rw [e1]
    refine ⟨fun c => ?_, fun c => ⟨fun c2 => ?_, fun c2 => ?_⟩⟩
    · rw [if_pos c] at h
      exact hK _ _ h
    · rw [if_neg c, if_pos c2] at h
      exact hK _ _ h
    · rw [if_neg c, if_neg c2, fo_eq, UInt32.ofNat_toNat] at h
      obtain ⟨h1, h2⟩ := and2 h
      obtain ⟨k, rfl⟩ : ∃ k, e = k + 1 := ⟨e - 1, by omega⟩
      rw [Nat.add_sub_cancel] at h2
      rw [pk_m1]
      have i := ih k _ (by omega) h2
      rw [UInt32.ofNat_toNat] at i
      exact ⟨n32_of h1, i⟩
/-- the similarity's bits -/
def smb (d w : Nat) : Int32 := UInt32.toInt32 (FP.fsub FP.fconst1 (FP.fdiv (FP.i2f (nI d)) (FP.i2f (nI w))))
theorem chk_split {d w : Nat} (h : chk d w = true) : vf_n32 (FP.fdiv (FP.i2f (nI d)) (FP.i2f (nI w))) ∧ vf_n32 (FP.fsub FP.fconst1 (FP.fdiv (FP.i2f (nI d)) (FP.i2f (nI w)))) ∧ chkS (FP.fsub FP.fconst1 (FP.fdiv (FP.i2f (nI d)) (FP.i2f (nI w)))).toNat = true := by
  unfold chk at h
  rw [fo_eq, UInt32.ofNat_toNat] at h
  obtain ⟨h1, h2⟩ := and2 h
  rw [fo_eq, UInt32.ofNat_toNat] at h2
  obtain ⟨h3, h4⟩ := and2 h2
  exact ⟨n32_of h1, n32_of h3, h4⟩
theorem s_bitsOf {s : UInt32} {post : Int32 → Prop} (h : chkS s.toNat = true) (hp : post (UInt32.toInt32 s)) : P_X8_bitsOf s post := by
  unfold chkS at h
  rw [UInt32.ofNat_toNat] at h
  obtain ⟨h1, h2⟩ := and2 h
  unfold P_X8_bitsOf
  refine ⟨fun c => ⟨130, ?_⟩, fun c => ?_⟩
  · rw [if_pos c] at h2
    have t := s_bits_13 (t := s) (K := fun w2_1 w1_1 => vf_n32 (FP.fsub w1_1 FP.fconst1) ∧ (vf_n32 (FP.fmul (FP.fsub w1_1 FP.fconst1) (1258291200 : UInt32)) ∧ (post ((w2_1 <<< ((23 : Int32) &&& 31)) + (FP.f2i (FP.fmul (FP.fsub w1_1 FP.fconst1) (1258291200 : UInt32))))))) (fun e f hf => fin1_of hf hp) 130 127 s.toNat (by omega) h2
    rw [UInt32.ofNat_toNat] at t
    exact t
  · rw [if_neg c] at h2
    rw [of_decide_eq_true h2] at hp
    exact hp
noncomputable def wl (A : AS) (s t : Nat) : Nat := A.co 0 * ((A.sy s).1 + (A.sy t).1)
theorem dd_wl {A : AS} {s t : Nat} : dd A s t ≤ wl A s t := DD_le _ _ _ _ _ _ rfl
theorem wl_bd {A : AS} {s t : Nat} (hV : VA A) (hs : s < A.nS) (ht : t < A.nS) : 2 ≤ wl A s t ∧ wl A s t ≤ 144 := by
  have c := hV.2.2.2.2.1 0 (by omega)
  have a := hV.2.1 s hs
  have b := hV.2.1 t ht
  have h1 : 1 * 2 ≤ A.co 0 * ((A.sy s).1 + (A.sy t).1) := Nat.mul_le_mul c.1 (by omega)
  have h2 : A.co 0 * ((A.sy s).1 + (A.sy t).1) ≤ 9 * 16 := Nat.mul_le_mul c.2 (by omega)
  unfold wl
  omega
noncomputable def vSim (A : AS) (x y : Int32) : Int32 := by
  classical exact if isRow A.nS x ∧ isRow A.nS y then smb (dd A x.toNatClampNeg y.toNatClampNeg) (wl A x.toNatClampNeg y.toNatClampNeg) else -1
theorem s_similarityBits {A : AS} {x y : Int32} {ld fln gln li sct pct : Int32} {ftk gtk stk sle ye re ptk ple co : Nat → Int32} {tb : Nat → Nat → Int32} {post : Int32 → Int32 → (Nat → Int32) → Int32 → (Nat → Int32) → (Nat → Nat → Int32) → Prop} (hV : VA A) (hR : RC A li sct stk sle ye re pct ptk ple co) (h : ∀ f1 f2 g1 g2 tb', post (vSim A x y) f1 f2 g1 g2 tb') : P_X8_similarityBits x y li sct stk sle co ld fln ftk gln gtk tb post := by
  have h12 := hV.1
  have e := hR.1.1
  unfold P_X8_similarityBits
  rw [e]
  unfold vSim at h
  refine s_hasBoth (by omega) (fun s t hs ht hx hy => ⟨fun _ => ?_, fun z => absurd z (by decide)⟩) (fun c => ⟨fun z => absurd rfl z, fun _ => ?_⟩)
  · subst hx
    subst hy
    rw [if_pos ⟨⟨s, hs, rfl⟩, ⟨t, ht, rfl⟩⟩, nI_clamp (by omega), nI_clamp (by omega)] at h
    have hw := wl_bd hV hs ht
    have hc0 : co (Int32.toNatClampNeg (0 : Int32)) = nI (A.co 0) := hR.2.2.2.1 0 (by omega)
    have hsp := chk_split (chk_ok (d := dd A s t) (w := wl A s t) (by omega) hw.2 dd_wl)
    refine s_size hs h12 (by omega) (s_size ht h12 (by omega) ?_)
    have ew : (if (1 : Int32) < (co (Int32.toNatClampNeg (0 : Int32))) * (sle s + sle t) then (co (Int32.toNatClampNeg (0 : Int32))) * (sle s + sle t) else (1 : Int32)) = nI (wl A s t) := by
      have e1 : (co (Int32.toNatClampNeg (0 : Int32))) * (sle s + sle t) = nI (wl A s t) := by
        rw [hc0, (hR.1.2 s hs).1, (hR.1.2 t ht).1, nI_add, pk_mul]
        rfl
      rw [e1, iL1, if_pos ((nI_ltI (by omega) (by omega)).mpr (by omega))]
    rw [← e, ew]
    exact s_between hV hR hs ht (fun f1 f2 g1 g2 tb' _ _ => ⟨hsp.1, hsp.2.1, s_bitsOf hsp.2.2 (h f1 f2 g1 g2 tb')⟩)
  · rw [if_neg (fun z => c.elim (fun q => not_row (by omega) q z.1) (fun q => not_row (by omega) q z.2))] at h
    exact h _ _ _ _ _
