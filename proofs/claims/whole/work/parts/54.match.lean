/-! ===== the class: Matcher ===== -/
def Sg (σ : Nat → Nat) (sw : Nat → Int32) : Prop := ∀ i, i < 4 → sw i = c1 (σ i) ∧ σ i ≤ 60
def FdC (L : List (Nat → Nat)) (fo : Int32) (fw : Nat → Int32) : Prop := fo = nI L.length ∧ ∀ i, i < 4 → fw i = c1 (L.headD (fun _ => 0) i) ∧ L.headD (fun _ => 0) i ≤ 60
theorem s_copyAll {N : Nat} {f g : Nat → Int32} {post : (Nat → Int32) → Prop} (hN : N < 1000) (h : ∀ f', (∀ i, i < N → f' i = f i) → post f') : P_X8_copyAll N N f g post := by
  have em : (if Int32.ofNat N < Int32.ofNat N then Int32.ofNat N else Int32.ofNat N) = nI N := by
    rw [if_neg (Int32.lt_irrefl)]
    rfl
  unfold P_X8_copyAll
  rw [em, iL0, nI_clamp (by omega), nI_clamp (by omega)]
  refine ⟨⟨Int32.lt_irrefl, Int32.lt_irrefl, nI_pos (by omega), by omega, by omega⟩, h _ (fun i hi => ?_)⟩
  rw [pk_cpy_in (by omega) (by omega), Nat.sub_zero, Nat.zero_add]
theorem s_note {r : Sy} {w : Nat} {L : List (Nat → Nat)} {σ : Nat → Nat} {fo sln : Int32} {stk sw fw : Nat → Int32} {post : Int32 → (Nat → Int32) → Prop} (hr : RQ r sln stk) (r8 : r.1 ≤ 8) (hw : w ≤ r.1) (hS : Sg σ sw) (hF : FdC L fo fw) (hB : L.length < 1000000000) (h : ∀ fo' fw', FdC (L ++ if w = r.1 then [σ] else []) fo' fw' → post fo' fw') : P_X4_noteFilling (nI w) fo sln sw fw post := by
  unfold P_X4_noteFilling
  rw [hr.1, nI_eq (by omega) (by omega), hF.1, nI_1]
  refine ⟨fun e => ?_, fun e => ?_⟩
  · rw [if_pos e] at h
    rw [iL0, nI_eq (by omega) (by omega)]
    have el : (L ++ [σ]).length = L.length + 1 := by rw [List.length_append]; rfl
    refine ⟨fun c => h _ _ ⟨by rw [el], fun i hi => ?_⟩, fun c => s_copyAll (by omega) (fun f' hf' => h _ _ ⟨by rw [el], fun i hi => ?_⟩)⟩
    · cases L with
      | nil => exact absurd rfl c
      | cons a b => exact hF.2 i hi
    · rw [hf' i hi]
      cases L with
      | nil => exact hS i hi
      | cons a b => exact absurd c (Nat.succ_ne_zero _)
  · rw [if_neg e, List.append_nil] at h
    rw [← hF.1]
    exact h _ _ hF
/-- two rows in the Matcher's cells -/
def RMa (q r : Sy) (pln : Int32) (ptk : Nat → Int32) (sln : Int32) (stk : Nat → Int32) : Prop := RQ q pln ptk ∧ RQ r sln stk ∧ q.1 ≤ 8 ∧ r.1 ≤ 8 ∧ (∀ j, j < q.1 → q.2 j ≤ 64) ∧ (∀ j, j < r.1 → r.2 j < 60)
/-- what a recursive call of fill does -/
def FillOk (q r : Sy) (D d k : Nat) (pln : Int32) (ptk : Nat → Int32) (sln : Int32) (stk : Nat → Int32) : Prop :=
  ∀ (w : Nat) (σ : Nat → Nat) (L : List (Nat → Nat)) (fo : Int32) (sw fw : Nat → Int32) (post : Int32 → (Nat → Int32) → (Nat → Int32) → Prop), w ≤ r.1 → Sg σ sw → FdC L fo fw → L.length + (en q r d k w σ).length < 1000000000 → (∀ fo' sw' fw', Sg σ sw' → FdC (L ++ en q r d k w σ) fo' fw' → post fo' sw' fw') → P_X4_fill D (nI k) (nI w) fo pln ptk sln stk sw fw post
theorem s_fill_34 {q r : Sy} {D d k : Nat} {σ : Nat → Nat} {pln : Int32} {ptk : Nat → Int32} {sln : Int32} {stk : Nat → Int32} {K : Int32 → Int32 → (Nat → Int32) → (Nat → Int32) → Prop} (hR : RMa q r pln ptk sln stk) (hI : FillOk q r D d (k + 1) pln ptk sln stk) : ∀ (c e : Nat) (L : List (Nat → Nat)) (fo : Int32) (sw fw : Nat → Int32), e + c = r.1 + 1 → Sg σ sw → FdC L fo fw → L.length + (lpl (fun e => en q r d (k + 1) e σ) e c).length < 1000000000 → (∀ v fo' sw' fw', Sg σ sw' → FdC (L ++ lpl (fun e => en q r d (k + 1) e σ) e c) fo' fw' → K v fo' sw' fw') → P_X4_fill_34 (P_X4_fill D) (nI k) pln ptk sln stk K (c + 1) (nI e) fo sw fw := by
  have r8 := hR.2.2.2.1
  have hrl := hR.2.1.1
  intro c
  induction c with
  | zero =>
    intro e L fo sw fw he hS hF hB hK
    show B_X4_fill_34 (P_X4_fill D) (nI k) pln ptk sln stk K _ (nI e) fo sw fw
    unfold B_X4_fill_34
    rw [lpl, List.append_nil] at hK
    refine ⟨fun _ => hK _ _ _ _ hS hF, fun z => ?_⟩
    rw [hrl, nI_ltI (by omega) (by omega)] at z
    omega
  | succ c ih =>
    intro e L fo sw fw he hS hF hB hK
    show B_X4_fill_34 (P_X4_fill D) (nI k) pln ptk sln stk K (P_X4_fill_34 (P_X4_fill D) (nI k) pln ptk sln stk K (c + 1)) (nI e) fo sw fw
    unfold B_X4_fill_34
    rw [lpl] at hK hB
    rw [List.length_append] at hB
    rw [nI_1, nI_1]
    refine ⟨fun z => ?_, fun _ => hI e σ L fo sw fw _ (by omega) hS hF (by omega) (fun fo' sw' fw' hS' hF' => ih (e + 1) _ fo' sw' fw' (by omega) hS' hF' ?_ (fun v fo2 sw2 fw2 hS2 hF2 => ?_))⟩
    · rw [hrl, nI_ltI (by omega) (by omega)] at z
      omega
    · rw [List.length_append]
      omega
    · rw [List.append_assoc] at hF2
      exact hK _ _ _ _ hS2 hF2
theorem Sg_set {σ : Nat → Nat} {sw : Nat → Int32} {i w : Nat} (h : Sg σ sw) (hw : w < 60) : Sg (sset σ i w) (upd sw i (nI w)) := by
  intro j hj
  show upd sw i (nI w) j = c1 (if j = i then w + 1 else σ j) ∧ (if j = i then w + 1 else σ j) ≤ 60
  by_cases e : j = i
  · rw [if_pos e, e, pk_us]
    exact ⟨rfl, by omega⟩
  · rw [if_neg e, pk_un e]
    exact h j hj
theorem Sg_back {σ : Nat → Nat} {sw sw' : Nat → Int32} {i w : Nat} (h : Sg σ sw) (h' : Sg (sset σ i w) sw') : Sg σ (upd sw' i (sw i)) := by
  intro j hj
  by_cases e : j = i
  · rw [e, pk_us]
    exact h i (by omega)
  · rw [pk_un e]
    have t := h' j hj
    unfold sset at t
    rw [if_neg e] at t
    exact t
theorem s_fillOne {q r : Sy} {D d k w : Nat} {σ : Nat → Nat} {L : List (Nat → Nat)} {pln : Int32} {ptk : Nat → Int32} {sln fo : Int32} {stk sw fw : Nat → Int32} {post : Int32 → (Nat → Int32) → (Nat → Int32) → Prop} (hR : RMa q r pln ptk sln stk) (hI : FillOk q r D d (k + 1) pln ptk sln stk) (hk : k < q.1) (h64 : q.2 k ≠ 64) (hw : w < r.1) (hS : Sg σ sw) (hF : FdC L fo fw) (hB : L.length + (en q r (d + 1) k w σ).length < 1000000000) (h : ∀ fo' sw' fw', Sg σ sw' → FdC (L ++ en q r (d + 1) k w σ) fo' fw' → post fo' sw' fw') : P_X4_fillOne (P_X4_fill D) (nI k) (nI w) fo pln ptk sln stk sw fw post := by
  obtain ⟨hq, hr, q8, r8, qt, rw60⟩ := hR
  have ht := qt k hk
  have hx := rw60 w hw
  rw [en_s, if_neg h64] at h hB
  unfold P_X4_fillOne
  rw [nI_1, nI_1]
  refine s_at_q hq hk q8 ⟨fun c => s_at_q hq hk q8 (s_at_q hr hw r8 ?_), fun c => ?_⟩
  · have t60 : q.2 k < 60 := by
      refine Classical.byContradiction (fun z => ?_)
      rw [iL60, pk_sub (by omega)] at c
      exact nI_pos (by omega) c
    unfold tok tset at h hB
    rw [if_pos t60, if_pos t60] at h hB
    rw [nI_eq (by omega) (by omega)]
    refine ⟨fun z => ?_, fun z => ?_⟩
    · rw [if_neg (fun y => z (of_decide_eq_true y.2)), List.append_nil] at h
      exact h _ _ _ hS hF
    · rw [if_pos ⟨hw, decide_eq_true z⟩] at h hB
      exact hI (w + 1) σ L fo sw fw _ (by omega) hS hF hB h
  · have t60 : 60 ≤ q.2 k := by
      refine Classical.byContradiction (fun z => ?_)
      rw [iL60] at c
      exact c (pk_sneg (by omega) (by omega))
    have t4 : q.2 k - 60 < 4 := by omega
    have hσ := hS (q.2 k - 60) t4
    unfold tok tset at h hB
    rw [if_neg (show ¬ q.2 k < 60 by omega), if_neg (show ¬ q.2 k < 60 by omega)] at h hB
    rw [iL60, pk_sub t60, nI_clamp (by omega), hσ.1, c1_m1 (by omega)]
    have go : (σ (q.2 k - 60) = 0 ∨ σ (q.2 k - 60) = r.2 w + 1) → vp_in (nI (q.2 k - 60)) 4 ∧ P_X4_fill D (nI (k + 1)) (nI (w + 1)) fo pln ptk sln stk (upd sw (q.2 k - 60) (nI (r.2 w))) fw (fun u9 u10 u11 => vp_in (nI (q.2 k - 60)) 4 ∧ (post u9 (upd u10 (q.2 k - 60) (c1 (σ (q.2 k - 60)))) u11)) := by
      intro y
      rw [if_pos ⟨hw, decide_eq_true y⟩] at h hB
      refine ⟨(vpi (by omega)).mpr t4, hI (w + 1) (sset σ (q.2 k - 60) (r.2 w)) L fo _ fw _ (by omega) (Sg_set hS hx) hF hB (fun fo' sw' fw' hS' hF' => ⟨(vpi (by omega)).mpr t4, h _ _ _ ?_ hF'⟩)⟩
      rw [← hσ.1]
      exact Sg_back hS hS'
    refine ⟨fun _ => ⟨(vpi (by omega)).mpr t4, fun z => s_at_q hr hw r8 (go (Or.inl z)), fun z => s_at_q hr hw r8 ?_⟩, fun z => ?_⟩
    · rw [c1_nI (by omega) (by omega)]
      refine ⟨fun y => ?_, fun y => s_at_q hr hw r8 (go (Or.inr y))⟩
      rw [if_neg (fun x => (of_decide_eq_true x.2).elim z y), List.append_nil] at h
      exact h _ _ _ hS hF
    · rw [iL4, nI_ltI (by omega) (by omega)] at z
      exact absurd t4 z
theorem s_fill {q r : Sy} {pln : Int32} {ptk : Nat → Int32} {sln : Int32} {stk : Nat → Int32} (hR : RMa q r pln ptk sln stk) (x : Nat) : ∀ (d k : Nat), k + d = q.1 → FillOk q r (x + d + 1) d k pln ptk sln stk := by
  have hq := hR.1
  have hr := hR.2.1
  have q8 := hR.2.2.1
  have r8 := hR.2.2.2.1
  have qt := hR.2.2.2.2.1
  intro d
  induction d with
  | zero =>
    intro k hk w σ L fo sw fw post hw hS hF hB h
    show B_X4_fill (P_X4_fill (x + 0)) (nI k) (nI w) fo pln ptk sln stk sw fw post
    unfold B_X4_fill
    rw [en] at h hB
    refine ⟨fun z => ?_, fun _ => s_note hr r8 hw hS hF (by omega) (fun fo' fw' hF' => h _ _ _ hS hF')⟩
    rw [hq.1, nI_ltI (by omega) (by omega)] at z
    omega
  | succ d ih =>
    intro k hk w σ L fo sw fw post hw hS hF hB h
    have hI := ih (k + 1) (by omega)
    have hkq : k < q.1 := by omega
    have ht := qt k hkq
    show B_X4_fill (P_X4_fill (x + d + 1)) (nI k) (nI w) fo pln ptk sln stk sw fw post
    unfold B_X4_fill
    refine ⟨fun _ => s_at_q hq hkq q8 ⟨fun c => ⟨fun z => ?_, fun z => ?_⟩, fun c => ?_⟩, fun z => ?_⟩
    · rw [iL64, nI_eq (by omega) (by omega)] at c
      rw [hr.1, nI_leI (by omega) (by omega)] at z
      rw [en_s, if_neg c, if_neg (by omega), List.append_nil] at h
      exact h _ _ _ hS hF
    · rw [iL64, nI_eq (by omega) (by omega)] at c
      rw [hr.1, nI_leI (by omega) (by omega)] at z
      exact s_fillOne hR hI hkq c (by omega) hS hF hB h
    · rw [iL64, nI_eq (by omega) (by omega)] at c
      rw [en_s, if_pos c] at h hB
      exact ⟨r.1 + 1 - w + 1, s_fill_34 (K := fun w3_10 fo_10 sw_10 fw_10 => post fo_10 sw_10 fw_10) hR hI (r.1 + 1 - w) w L fo sw fw (by omega) hS hF hB (fun _ fo' sw' fw' hS' hF' => h _ _ _ hS' hF')⟩
    · rw [hq.1, nI_ltI (by omega) (by omega)] at z
      omega
theorem s_match_27 {K : Int32 → (Nat → Int32) → (Nat → Int32) → Prop} (hK : ∀ v sw fw, Sg (fun _ => 0) sw → FdC [] 0 fw → K v sw fw) : ∀ (d i : Nat) (sw fw : Nat → Int32), i + d = 4 → (∀ j, j < i → sw j = -1 ∧ fw j = -1) → P_X4_match_27 K (d + 1) (nI i) sw fw := by
  intro d
  induction d with
  | zero =>
    intro i sw fw hi hs
    show B_X4_match_27 K _ (nI i) sw fw
    unfold B_X4_match_27
    have e : i = 4 := by omega
    subst e
    refine ⟨fun _ => hK _ _ _ (fun j hj => ⟨(hs j hj).1, Nat.zero_le _⟩) ⟨rfl, fun j hj => ⟨(hs j hj).2, Nat.zero_le _⟩⟩, fun z => absurd (Int32.le_refl _) z⟩
  | succ d ih =>
    intro i sw fw hi hs
    show B_X4_match_27 K (P_X4_match_27 K (d + 1)) (nI i) sw fw
    unfold B_X4_match_27
    rw [nI_1, nI_clamp (by omega)]
    refine ⟨fun z => ?_, fun _ => ⟨(vpi (by omega)).mpr (by omega), (vpi (by omega)).mpr (by omega), ih (i + 1) _ _ (by omega) (fun j hj => ?_)⟩⟩
    · rw [iL4, nI_leI (by omega) (by omega)] at z
      omega
    · by_cases e : j = i
      · rw [e, pk_us, pk_us]
        exact ⟨rfl, rfl⟩
      · rw [pk_un e, pk_un e]
        exact hs j (by omega)
theorem s_match {A : AS} {p s : Nat} {fo pln sln li sct pct : Int32} {mptk mstk sw fw stk sle ye re ptk ple co : Nat → Int32} {post : Int32 → Int32 → Int32 → (Nat → Int32) → Int32 → (Nat → Int32) → (Nat → Int32) → (Nat → Int32) → Prop} (hV : VA A) (hR : RC A li sct stk sle ye re pct ptk ple co) (hp : p < A.nP) (hs : s < A.nS) (h : ∀ fo' a1 a2 b1 b2 sw' fw', RMa (A.pt p) (A.sy s) a1 a2 b1 b2 → FdC (fil A p s) fo' fw' → post fo' fo' a1 a2 b1 b2 sw' fw') : P_X4_match (nI p) (nI s) fo pln mptk sln mstk sw fw li sct stk sle pct ptk ple post := by
  have h12 := hV.1
  have h6 := hV.2.2.1
  have vs := hV.2.1 s hs
  have vp := hV.2.2.2.1 p hp
  have hl := fil_len hV hp hs
  unfold P_X4_match
  refine s_load hR.2.2.1 hp h6 (by omega) (by omega) vp.2.1 (fun a1 a2 ha => ?_)
  refine s_load hR.1 hs h12 (by omega) (by omega) vs.2.1 (fun b1 b2 hb => ?_)
  have hM : RMa (A.pt p) (A.sy s) a1 a2 b1 b2 := ⟨ha, hb, vp.2.1, vs.2.1, vp.2.2, vs.2.2.2⟩
  refine ⟨5, s_match_27 (fun v sw' fw' hS hF => ?_) 4 0 sw fw rfl (fun j hj => absurd hj (Nat.not_lt_zero j))⟩
  have f := s_fill hM (8 - (A.pt p).1) (A.pt p).1 0 (by omega)
  rw [show 8 - (A.pt p).1 + (A.pt p).1 + 1 = 9 by omega] at f
  have hl' : ([] : List (Nat → Nat)).length + (en (A.pt p) (A.sy s) (A.pt p).1 0 0 (fun _ => 0)).length < 1000000000 := by
    have t := hl
    unfold fil at t
    rw [List.length_nil, Nat.zero_add]
    exact t
  exact f 0 (fun _ => 0) [] _ sw' fw' _ (Nat.zero_le _) hS hF hl' (fun fo' sw2 fw2 _ hF2 => h fo' a1 a2 b1 b2 sw2 fw2 hM hF2)
