/-! ===== groups: what they are ===== -/
noncomputable def jn (A : AS) (c g : Nat) : Nat → Nat → (Nat → Nat) → Nat → Nat
  | 0, _, m => m
  | d + 1, q, m => jn A c g d (q + 1) (if m (atRank A.yr A.nS q) = 0 ∧ dd A c (atRank A.yr A.nS q) ≤ A.li then sset m (atRank A.yr A.nS q) g else m)
noncomputable def grp (A : AS) : Nat → Nat → Nat → (Nat → Nat) → (Nat → Nat) → Nat × (Nat → Nat) × (Nat → Nat)
  | 0, _, k, m, ce => (k, m, ce)
  | d + 1, p, k, m, ce => if m (atRank A.yr A.nS p) = 0 then grp A d (p + 1) (k + 1) (jn A (atRank A.yr A.nS p) k (d + 1) p m) (fun j => if j = k then atRank A.yr A.nS p else ce j) else grp A d (p + 1) k m ce
theorem jn_s (A : AS) (c g d q : Nat) (m : Nat → Nat) : jn A c g (d + 1) q m = jn A c g d (q + 1) (if m (atRank A.yr A.nS q) = 0 ∧ dd A c (atRank A.yr A.nS q) ≤ A.li then sset m (atRank A.yr A.nS q) g else m) := by rw [jn]
theorem grp_s (A : AS) (d p k : Nat) (m ce : Nat → Nat) : grp A (d + 1) p k m ce = if m (atRank A.yr A.nS p) = 0 then grp A d (p + 1) (k + 1) (jn A (atRank A.yr A.nS p) k (d + 1) p m) (fun j => if j = k then atRank A.yr A.nS p else ce j) else grp A d (p + 1) k m ce := by rw [grp]
theorem DD_self (co f : Nat → Nat) : ∀ i, DD co f f i i = 0 := by
  intro i
  induction i with
  | zero => exact DD_00 co f f
  | succ i ih =>
    rw [DD, dif_neg (by omega), dif_pos ⟨by omega, by omega⟩, Nat.add_sub_cancel, ih, rp, if_pos rfl]
    omega
theorem dd_self (A : AS) (s : Nat) : dd A s s = 0 := DD_self _ _ _
/-- the centre is the first that joins -/
theorem jn_first {A : AS} {k d p : Nat} {m : Nat → Nat} (h : m (atRank A.yr A.nS p) = 0) : jn A (atRank A.yr A.nS p) k (d + 1) p m = jn A (atRank A.yr A.nS p) k d (p + 1) (sset m (atRank A.yr A.nS p) k) := by
  rw [jn_s, if_pos ⟨h, by rw [dd_self]; exact Nat.zero_le _⟩]
def IsM (m : Nat → Nat) (me : Nat → Int32) : Prop := ∀ j, j < 12 → me j = c1 (m j) ∧ m j ≤ 12
def IsC (n k : Nat) (cn : Nat → Nat) (ce : Nat → Int32) : Prop := ∀ j, j < k → ce j = nI (cn j) ∧ cn j < n
theorem IsM_set {m : Nat → Nat} {me : Nat → Int32} {s g : Nat} (h : IsM m me) (hg : g < 12) : IsM (sset m s g) (upd me s (nI g)) := by
  intro j hj
  show upd me s (nI g) j = c1 (if j = s then g + 1 else m j) ∧ (if j = s then g + 1 else m j) ≤ 12
  by_cases e : j = s
  · rw [if_pos e, e, pk_us]
    exact ⟨rfl, by omega⟩
  · rw [if_neg e, pk_un e]
    exact h j hj
theorem IsC_put {n k c : Nat} {cn : Nat → Nat} {ce : Nat → Int32} (h : IsC n k cn ce) (hc : c < n) : IsC n (k + 1) (fun j => if j = k then c else cn j) (upd ce k (nI c)) := by
  intro j hj
  show upd ce k (nI c) j = nI (if j = k then c else cn j) ∧ (if j = k then c else cn j) < n
  by_cases e : j = k
  · rw [if_pos e, e, pk_us]
    exact ⟨rfl, hc⟩
  · rw [if_neg e, pk_un e]
    exact h j (by omega)
theorem c1_nn {x : Nat} (hx : x < 1000000) : 0 ≤ c1 x ↔ x ≠ 0 := by
  have h := c1_neg hx
  rw [← Int32.not_lt, h]
def IsGS (A : AS) (S : Nat × (Nat → Nat) × (Nat → Nat)) (k : Int32) (me ce : Nat → Int32) : Prop := k = nI S.1 ∧ S.1 ≤ A.nS ∧ IsM S.2.1 me ∧ IsC A.nS S.1 S.2.2 ce
noncomputable def grs (A : AS) : Nat × (Nat → Nat) × (Nat → Nat) := grp A A.nS 0 0 (fun _ => 0) (fun _ => 0)
/-! ===== the class: Groups.form ===== -/
theorem s_form_7 {K : Int32 → (Nat → Int32) → Prop} (hK : ∀ v me, IsM (fun _ => 0) me → K v me) : ∀ (d i : Nat) (me : Nat → Int32), i + d = 12 → (∀ j, j < i → me j = -1) → P_X2_form_7 K (d + 1) (nI i) me := by
  intro d
  induction d with
  | zero =>
    intro i me hi hs
    show B_X2_form_7 K _ (nI i) me
    unfold B_X2_form_7
    have e : i = 12 := by omega
    subst e
    exact ⟨fun _ => hK _ _ (fun j hj => ⟨hs j hj, Nat.zero_le _⟩), fun z => absurd (Int32.le_refl _) z⟩
  | succ d ih =>
    intro i me hi hs
    show B_X2_form_7 K (P_X2_form_7 K (d + 1)) (nI i) me
    unfold B_X2_form_7
    rw [nI_1, nI_clamp (by omega)]
    refine ⟨fun z => ?_, fun _ => ⟨(vpi (by omega)).mpr (by omega), ih (i + 1) _ (by omega) (fun j hj => ?_)⟩⟩
    · rw [iL12, nI_leI (by omega) (by omega)] at z
      omega
    · by_cases e : j = i
      · rw [e, pk_us]
      · rw [pk_un e]
        exact hs j (by omega)
theorem s_form_107 {A : AS} {c g : Nat} {ld li sct pct : Int32} {stk sle ye re ptk ple co fo : Nat → Int32} {K : Int32 → (Nat → Int32) → Int32 → (Nat → Int32) → Int32 → (Nat → Int32) → (Nat → Nat → Int32) → Prop} (hV : VA A) (hR : RC A li sct stk sle ye re pct ptk ple co) (hc : c < A.nS) (hg : g < 12) (hO : IsO A.yr A.nS fo) : ∀ (d q : Nat) (m : Nat → Nat) (me : Nat → Int32) (f1 : Int32) (f2 : Nat → Int32) (g1 : Int32) (g2 : Nat → Int32) (tb : Nat → Nat → Int32), q + d = A.nS → IsM m me → (∀ v me' f1 f2 g1 g2 tb, IsM (jn A c g d q m) me' → K v me' f1 f2 g1 g2 tb) → P_X2_form_107 (nI c) (nI g) fo li sct stk sle co ld K (d + 1) (nI q) me f1 f2 g1 g2 tb := by
  have h12 := hV.1
  have hli := hR.2.2.2.2
  have hl20 := hV.2.2.2.2.2
  intro d
  induction d with
  | zero =>
    intro q m me f1 f2 g1 g2 tb hq hm hK
    show B_X2_form_107 (nI c) (nI g) fo li sct stk sle co ld K _ (nI q) me f1 f2 g1 g2 tb
    unfold B_X2_form_107
    have e : q = A.nS := by omega
    subst e
    rw [jn] at hK
    refine ⟨fun _ => hK _ _ _ _ _ _ _ hm, fun z => ?_⟩
    rw [hR.1.1] at z
    exact absurd (Int32.le_refl _) z
  | succ d ih =>
    intro q m me f1 f2 g1 g2 tb hq hm hK
    have hq' : q < A.nS := by omega
    have ha := IsO_at hO hq'
    have hr := rank_at (yr := A.yr) hq'
    have hb := dd_bd hV hc hr.1
    have hme := hm (atRank A.yr A.nS q) (by omega)
    have i := fun m me f1 f2 g1 g2 tb => ih (q + 1) m me f1 f2 g1 g2 tb (by omega)
    rw [jn_s] at hK
    show B_X2_form_107 (nI c) (nI g) fo li sct stk sle co ld K (P_X2_form_107 (nI c) (nI g) fo li sct stk sle co ld K (d + 1)) (nI q) me f1 f2 g1 g2 tb
    have hy : ∀ pp : Int32 → Prop, pp 1 → P_X6_has (12 : Int32) 96 12 (nI (atRank A.yr A.nS q)) sct pp := by
      intro p' hp'
      rw [hR.1.1]
      exact s_has_yes hr.1 (by omega) hp'
    unfold B_X2_form_107
    rw [nI_clamp (n := q) (by omega), ha, nI_clamp (n := atRank A.yr A.nS q) (by omega), hme.1, nI_1, c1_m1 (by omega)]
    refine ⟨fun z => ?_, fun _ => ⟨(vpi (by omega)).mpr (by omega), hy _ ⟨fun z => absurd z (by decide), fun _ => ⟨(vpi (by omega)).mpr (by omega), fun z => ?_, fun z => ?_⟩⟩⟩⟩
    · rw [hR.1.1, nI_leI (by omega) (by omega)] at z
      omega
    · rw [if_neg (fun y => z y.1)] at hK
      exact i m me f1 f2 g1 g2 tb hm hK
    · refine s_between hV hR hc hr.1 (fun f1 f2 g1 g2 tb' _ _ => ⟨fun y => ?_, fun y => ⟨(vpi (by omega)).mpr (by omega), ?_⟩⟩)
      · change li < nI (dd A c (atRank A.yr A.nS q)) at y
        rw [hli, nI_ltI (by omega) (by omega)] at y
        rw [if_neg (by omega)] at hK
        exact i m me f1 f2 g1 g2 tb' hm hK
      · change ¬ li < nI (dd A c (atRank A.yr A.nS q)) at y
        rw [hli, nI_ltI (by omega) (by omega)] at y
        rw [if_pos ⟨z, by omega⟩] at hK
        exact i _ _ f1 f2 g1 g2 tb' (IsM_set hm hg) hK
theorem s_form_36 {A : AS} {ld li sct pct : Int32} {stk sle ye re ptk ple co fo : Nat → Int32} {K : Int32 → Int32 → (Nat → Int32) → (Nat → Int32) → Int32 → (Nat → Int32) → Int32 → (Nat → Int32) → (Nat → Nat → Int32) → Prop} (hV : VA A) (hR : RC A li sct stk sle ye re pct ptk ple co) (hO : IsO A.yr A.nS fo) : ∀ (d p k : Nat) (m cn : Nat → Nat) (me ce : Nat → Int32) (f1 : Int32) (f2 : Nat → Int32) (g1 : Int32) (g2 : Nat → Int32) (tb : Nat → Nat → Int32), p + d = A.nS → k ≤ p → IsM m me → IsC A.nS k cn ce → (∀ v k' me' ce' f1 f2 g1 g2 tb, IsGS A (grp A d p k m cn) k' me' ce' → K v k' me' ce' f1 f2 g1 g2 tb) → P_X2_form_36 fo li sct stk sle co ld K (d + 1) (nI p) (nI k) me ce f1 f2 g1 g2 tb := by
  have h12 := hV.1
  intro d
  induction d with
  | zero =>
    intro p k m cn me ce f1 f2 g1 g2 tb hp hk hm hc hK
    show B_X2_form_36 fo li sct stk sle co ld K _ (nI p) (nI k) me ce f1 f2 g1 g2 tb
    unfold B_X2_form_36
    have e : p = A.nS := by omega
    subst e
    rw [grp] at hK
    refine ⟨fun _ => hK _ _ _ _ _ _ _ _ _ ⟨rfl, hk, hm, hc⟩, fun z => ?_⟩
    rw [hR.1.1] at z
    exact absurd (Int32.le_refl _) z
  | succ d ih =>
    intro p k m cn me ce f1 f2 g1 g2 tb hp hk hm hc hK
    have hp' : p < A.nS := by omega
    have ha := IsO_at hO hp'
    have hr := rank_at (yr := A.yr) hp'
    have hme := hm (atRank A.yr A.nS p) (by omega)
    rw [grp_s] at hK
    show B_X2_form_36 fo li sct stk sle co ld K (P_X2_form_36 fo li sct stk sle co ld K (d + 1)) (nI p) (nI k) me ce f1 f2 g1 g2 tb
    have hy : ∀ pp : Int32 → Prop, pp 1 → P_X6_has (12 : Int32) 96 12 (nI (atRank A.yr A.nS p)) sct pp := by
      intro p' hp'
      rw [hR.1.1]
      exact s_has_yes hr.1 (by omega) hp'
    unfold B_X2_form_36
    rw [nI_clamp (n := p) (by omega), ha, nI_clamp (n := atRank A.yr A.nS p) (by omega), nI_clamp (n := k) (by omega), hme.1, nI_1, nI_1, c1_m1 (by omega)]
    refine ⟨fun z => ?_, fun _ => ⟨(vpi (by omega)).mpr (by omega), hy _ ⟨fun z => absurd z (by decide), fun _ => ⟨(vpi (by omega)).mpr (by omega), fun z => ?_, fun z => ⟨fun _ => ⟨(vpi (by omega)).mpr (by omega), d + 1 + 1, ?_⟩, fun w => ?_⟩⟩⟩⟩⟩
    · rw [hR.1.1, nI_leI (by omega) (by omega)] at z
      omega
    · rw [if_neg z] at hK
      exact ih (p + 1) k m cn me ce f1 f2 g1 g2 tb (by omega) (by omega) hm hc hK
    · rw [if_pos z] at hK
      exact s_form_107 hV hR hr.1 (by omega) hO (d + 1) p m me f1 f2 g1 g2 tb hp hm (fun v me' f1 f2 g1 g2 tb hm' => ih (p + 1) (k + 1) _ _ me' _ f1 f2 g1 g2 tb (by omega) (by omega) hm' (IsC_put hc hr.1) hK)
    · rw [ofN, nI_ltI (by omega) (by omega)] at w
      omega
theorem s_form {A : AS} {k ld fln gln li sct pct : Int32} {fo me ce ftk gtk stk sle ye re ptk ple co : Nat → Int32} {tb : Nat → Nat → Int32} {post : Int32 → (Nat → Int32) → (Nat → Int32) → (Nat → Int32) → Int32 → (Nat → Int32) → Int32 → (Nat → Int32) → (Nat → Nat → Int32) → Prop} (hV : VA A) (hR : RC A li sct stk sle ye re pct ptk ple co) (h : ∀ k' fo' me' ce' f1 f2 g1 g2 tb', IsGS A (grs A) k' me' ce' → post k' fo' me' ce' f1 f2 g1 g2 tb') : P_X2_form k fo me ce li sct stk sle ye co ld fln ftk gln gtk tb post := by
  have h12 := hV.1
  have e := hR.1.1
  refine ⟨13, s_form_7 (fun v me' hm => ?_) 12 0 me rfl (fun j hj => absurd hj (Nat.not_lt_zero j))⟩
  rw [e]
  refine s_sortByAge h12 (by omega) (by omega) (fun t ht => (hR.2.1 t ht).1) (fun fa hO => ?_)
  rw [← e]
  exact ⟨A.nS + 1, s_form_36 (K := fun w3_11 gc_11 me_11 ce_11 efln_11 eftk_11 egln_11 egtk_11 etb_11 => post gc_11 fa me_11 ce_11 efln_11 eftk_11 egln_11 egtk_11 etb_11) hV hR hO A.nS 0 0 (fun _ => 0) (fun _ => 0) me' ce fln ftk gln gtk tb (by omega) (Nat.le_refl _) hm (fun j hj => absurd hj (Nat.not_lt_zero j)) (fun v k' me' ce' f1 f2 g1 g2 tb hG => h k' fa me' ce' f1 f2 g1 g2 tb hG)⟩
/-! ===== the reference: makesGroups ===== -/
theorem RM_li {A : AS} {now : Nat → Int32} (h : RM A 0 now) : now (Int32.toNatClampNeg (192 : Int32)) = nI A.li := h.2.2.2.2
