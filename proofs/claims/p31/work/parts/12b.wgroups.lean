/-! written by wip/p31/gen/walk.py: worlds, predicates and contracts -/
/-! ===== ProverbCollection$Groups.form(LProverbCollection$State;LProverbCollection$Edits;)V ===== -/
def Wd_X2_form (cI cS cT : ClassId) (ad : Nat → Nat) (b0 : Nat) (b1 : Nat) (b2 : Nat) (gc : Int32) (or : Nat → Int32) (me : Nat → Int32) (ce : Nat → Int32) (nli : Int32) (nsct : Int32) (nstk : Nat → Int32) (nsle : Nat → Int32) (nye : Nat → Int32) (nco : Nat → Int32) (eld : Int32) (efln : Int32) (eftk : Nat → Int32) (egln : Int32) (egtk : Nat → Int32) (etb : Nat → Nat → Int32) : va_W := [(ad b0, .inr (2, [.ref (ad (b0 + 1)), .ref (ad (b0 + 2)), .ref (ad (b0 + 3)), .int gc])), (ad (b0 + 1), .inl (cI, 12, .inl or)), (ad (b0 + 2), .inl (cI, 12, .inl me)), (ad (b0 + 3), .inl (cI, 12, .inl ce)), (ad b1, .inr (7, [.ref (ad (b1 + 1)), .ref (ad (b1 + 4)), .ref (ad (b1 + 5)), .ref (ad (b1 + 6)), .ref (ad (b1 + 9)), .int nli])), (ad (b1 + 1), .inr (6, [.int 12, .ref (ad (b1 + 2)), .ref (ad (b1 + 3)), .int nsct])), (ad (b1 + 2), .inl (cI, 96, .inl nstk)), (ad (b1 + 3), .inl (cI, 12, .inl nsle)), (ad (b1 + 4), .inl (cI, 12, .inl nye)), (ad (b1 + 9), .inl (cI, 4, .inl nco)), (ad b2, .inr (1, [.ref (ad (b2 + 1)), .ref (ad (b2 + 3)), .ref (ad (b2 + 5)), .ref (ad (b2 + 15)), .int eld])), (ad (b2 + 1), .inr (5, [.ref (ad (b2 + 2)), .int efln])), (ad (b2 + 2), .inl (cI, 8, .inl eftk)), (ad (b2 + 3), .inr (5, [.ref (ad (b2 + 4)), .int egln])), (ad (b2 + 4), .inl (cI, 8, .inl egtk)), (ad (b2 + 5), .inl (cT, 9, .inr (.inr (.inr (.inr (fun i => if i < 9 then some (ad (b2 + 6 + i)) else none)))))), (ad (b2 + 6 + 0), .inl (cI, 9, .inl (etb 0))), (ad (b2 + 6 + 1), .inl (cI, 9, .inl (etb 1))), (ad (b2 + 6 + 2), .inl (cI, 9, .inl (etb 2))), (ad (b2 + 6 + 3), .inl (cI, 9, .inl (etb 3))), (ad (b2 + 6 + 4), .inl (cI, 9, .inl (etb 4))), (ad (b2 + 6 + 5), .inl (cI, 9, .inl (etb 5))), (ad (b2 + 6 + 6), .inl (cI, 9, .inl (etb 6))), (ad (b2 + 6 + 7), .inl (cI, 9, .inl (etb 7))), (ad (b2 + 6 + 8), .inl (cI, 9, .inl (etb 8)))]
def rm_X2_form : Room := { frames := 5, cells := 0, slots := 0, locals := 119 }
theorem kX2_form : KV yX2_form cX2_form 7 none 2 := ⟨wq_133, wq_32, wq_131, wq_132, by decide +kernel⟩
def B_X2_form_7 (K : Int32 → (Nat → Int32) → Prop) (rc : Int32 → (Nat → Int32) → Prop) (v3 : Int32) (me : Nat → Int32) : Prop :=
  ((12 : Int32) ≤ v3 → K v3 me) ∧ (¬ (12 : Int32) ≤ v3 → (vp_in v3 12 ∧ (rc (v3 + (1 : Int32)) (upd me (Int32.toNatClampNeg v3) (-1 : Int32)))))
def P_X2_form_7 (K : Int32 → (Nat → Int32) → Prop) : Nat → Int32 → (Nat → Int32) → Prop
  | 0 => fun _ _ => False
  | n + 1 => fun v3 me => B_X2_form_7 K (P_X2_form_7 K n) v3 me
def B_X2_form_107 (v4 : Int32) (gc : Int32) (or : Nat → Int32) (nli : Int32) (nsct : Int32) (nstk : Nat → Int32) (nsle : Nat → Int32) (nco : Nat → Int32) (eld : Int32) (K : Int32 → (Nat → Int32) → Int32 → (Nat → Int32) → Int32 → (Nat → Int32) → (Nat → Nat → Int32) → Prop) (rc : Int32 → (Nat → Int32) → Int32 → (Nat → Int32) → Int32 → (Nat → Int32) → (Nat → Nat → Int32) → Prop) (v5 : Int32) (me : Nat → Int32) (efln : Int32) (eftk : Nat → Int32) (egln : Int32) (egtk : Nat → Int32) (etb : Nat → Nat → Int32) : Prop :=
  (nsct ≤ v5 → K v5 me efln eftk egln egtk etb) ∧ (¬ nsct ≤ v5 → (vp_in v5 12 ∧ (P_X6_has (12 : Int32) 96 12 (or (Int32.toNatClampNeg v5)) nsct (fun r5 => (r5 = 0 → rc (v5 + (1 : Int32)) me efln eftk egln egtk etb) ∧ (¬ r5 = 0 → (vp_in (or (Int32.toNatClampNeg v5)) 12 ∧ ((¬ (me (Int32.toNatClampNeg (or (Int32.toNatClampNeg v5)))) = (-1 : Int32) → rc (v5 + (1 : Int32)) me efln eftk egln egtk etb) ∧ ((me (Int32.toNatClampNeg (or (Int32.toNatClampNeg v5)))) = (-1 : Int32) → (P_X1_between v4 (or (Int32.toNatClampNeg v5)) eld efln eftk egln egtk etb nli nsct nstk nsle nco (fun r11 u6 u7 u8 u9 u10 => (nli < r11 → rc (v5 + (1 : Int32)) me u6 u7 u8 u9 u10) ∧ (¬ nli < r11 → (vp_in (or (Int32.toNatClampNeg v5)) 12 ∧ (rc (v5 + (1 : Int32)) (upd me (Int32.toNatClampNeg (or (Int32.toNatClampNeg v5))) gc) u6 u7 u8 u9 u10)))))))))))))
def P_X2_form_107 (v4 : Int32) (gc : Int32) (or : Nat → Int32) (nli : Int32) (nsct : Int32) (nstk : Nat → Int32) (nsle : Nat → Int32) (nco : Nat → Int32) (eld : Int32) (K : Int32 → (Nat → Int32) → Int32 → (Nat → Int32) → Int32 → (Nat → Int32) → (Nat → Nat → Int32) → Prop) : Nat → Int32 → (Nat → Int32) → Int32 → (Nat → Int32) → Int32 → (Nat → Int32) → (Nat → Nat → Int32) → Prop
  | 0 => fun _ _ _ _ _ _ _ => False
  | n + 1 => fun v5 me efln eftk egln egtk etb => B_X2_form_107 v4 gc or nli nsct nstk nsle nco eld K (P_X2_form_107 v4 gc or nli nsct nstk nsle nco eld K n) v5 me efln eftk egln egtk etb
def B_X2_form_36 (or : Nat → Int32) (nli : Int32) (nsct : Int32) (nstk : Nat → Int32) (nsle : Nat → Int32) (nco : Nat → Int32) (eld : Int32) (K : Int32 → Int32 → (Nat → Int32) → (Nat → Int32) → Int32 → (Nat → Int32) → Int32 → (Nat → Int32) → (Nat → Nat → Int32) → Prop) (rc : Int32 → Int32 → (Nat → Int32) → (Nat → Int32) → Int32 → (Nat → Int32) → Int32 → (Nat → Int32) → (Nat → Nat → Int32) → Prop) (v3 : Int32) (gc : Int32) (me : Nat → Int32) (ce : Nat → Int32) (efln : Int32) (eftk : Nat → Int32) (egln : Int32) (egtk : Nat → Int32) (etb : Nat → Nat → Int32) : Prop :=
  (nsct ≤ v3 → K v3 gc me ce efln eftk egln egtk etb) ∧ (¬ nsct ≤ v3 → (vp_in v3 12 ∧ (P_X6_has (12 : Int32) 96 12 (or (Int32.toNatClampNeg v3)) nsct (fun r4 => (r4 = 0 → rc (v3 + (1 : Int32)) gc me ce efln eftk egln egtk etb) ∧ (¬ r4 = 0 → (vp_in (or (Int32.toNatClampNeg v3)) 12 ∧ ((¬ (me (Int32.toNatClampNeg (or (Int32.toNatClampNeg v3)))) = (-1 : Int32) → rc (v3 + (1 : Int32)) gc me ce efln eftk egln egtk etb) ∧ ((me (Int32.toNatClampNeg (or (Int32.toNatClampNeg v3)))) = (-1 : Int32) → ((gc < (Int32.ofNat 12) → (vp_in gc 12 ∧ (∃ n : Nat, P_X2_form_107 (or (Int32.toNatClampNeg v3)) gc or nli nsct nstk nsle nco eld (fun w5_12 me_12 efln_12 eftk_12 egln_12 egtk_12 etb_12 => rc (v3 + (1 : Int32)) (gc + (1 : Int32)) me_12 (upd ce (Int32.toNatClampNeg gc) (or (Int32.toNatClampNeg v3))) efln_12 eftk_12 egln_12 egtk_12 etb_12) n v3 me efln eftk egln egtk etb))) ∧ (¬ gc < (Int32.ofNat 12) → rc (v3 + (1 : Int32)) gc me ce efln eftk egln egtk etb))))))))))
def P_X2_form_36 (or : Nat → Int32) (nli : Int32) (nsct : Int32) (nstk : Nat → Int32) (nsle : Nat → Int32) (nco : Nat → Int32) (eld : Int32) (K : Int32 → Int32 → (Nat → Int32) → (Nat → Int32) → Int32 → (Nat → Int32) → Int32 → (Nat → Int32) → (Nat → Nat → Int32) → Prop) : Nat → Int32 → Int32 → (Nat → Int32) → (Nat → Int32) → Int32 → (Nat → Int32) → Int32 → (Nat → Int32) → (Nat → Nat → Int32) → Prop
  | 0 => fun _ _ _ _ _ _ _ _ _ => False
  | n + 1 => fun v3 gc me ce efln eftk egln egtk etb => B_X2_form_36 or nli nsct nstk nsle nco eld K (P_X2_form_36 or nli nsct nstk nsle nco eld K n) v3 gc me ce efln eftk egln egtk etb
def P_X2_form (gc : Int32) (or : Nat → Int32) (me : Nat → Int32) (ce : Nat → Int32) (nli : Int32) (nsct : Int32) (nstk : Nat → Int32) (nsle : Nat → Int32) (nye : Nat → Int32) (nco : Nat → Int32) (eld : Int32) (efln : Int32) (eftk : Nat → Int32) (egln : Int32) (egtk : Nat → Int32) (etb : Nat → Nat → Int32) (post : Int32 → (Nat → Int32) → (Nat → Int32) → (Nat → Int32) → Int32 → (Nat → Int32) → Int32 → (Nat → Int32) → (Nat → Nat → Int32) → Prop) : Prop :=
  ∃ n : Nat, P_X2_form_7 (fun w3_1 me_1 => P_X7_sortByAge 12 nli nsct nye or (fun u2 => ∃ n : Nat, P_X2_form_36 u2 nli nsct nstk nsle nco eld (fun w3_13 gc_13 me_13 ce_13 efln_13 eftk_13 egln_13 egtk_13 etb_13 => post gc_13 u2 me_13 ce_13 efln_13 eftk_13 egln_13 egtk_13 etb_13) n (0 : Int32) (0 : Int32) me_1 ce efln eftk egln egtk etb)) n (0 : Int32) me
set_option maxHeartbeats 4000000 in
set_option maxRecDepth 100000 in
theorem L_X2_form_7 {l : Launch} {D : va_G} {cI cS cT : ClassId} {ad : Nat → Nat} {b0 : Nat} {b1 : Nat} {b2 : Nat} {E : CE} {gc : Int32} {or : Nat → Int32} {ce : Nat → Int32} {nli : Int32} {nsct : Int32} {nstk : Nat → Int32} {nsle : Nat → Int32} {nye : Nat → Int32} {nco : Nat → Int32} {eld : Int32} {efln : Int32} {eftk : Nat → Int32} {egln : Int32} {egtk : Nat → Int32} {etb : Nat → Nat → Int32} {post : Int32 → (Nat → Int32) → (Nat → Int32) → (Nat → Int32) → Int32 → (Nat → Int32) → Int32 → (Nat → Int32) → (Nat → Nat → Int32) → Prop} (hC : Cx l D (TY cI cS cT) E rm_X2_form cX2_form RX2) (hR : RetV D E (fun w => ∃ (u_gc : Int32) (u_or : Nat → Int32) (u_me : Nat → Int32) (u_ce : Nat → Int32) (u_efln : Int32) (u_eftk : Nat → Int32) (u_egln : Int32) (u_egtk : Nat → Int32) (u_etb : Nat → Nat → Int32), w = (Wd_X2_form cI cS cT ad b0 b1 b2 u_gc u_or u_me u_ce nli nsct nstk nsle nye nco eld u_efln u_eftk u_egln u_egtk u_etb) ∧ post u_gc u_or u_me u_ce u_efln u_eftk u_egln u_egtk u_etb) 0 0) (hn : E.nL = 7) (K : Int32 → (Nat → Int32) → Prop) (hK : ∀ (v3 : Int32) (me : Nat → Int32), K v3 me → G l D E 0 0 (Wd_X2_form cI cS cT ad b0 b1 b2 gc or me ce nli nsct nstk nsle nye nco eld efln eftk egln egtk etb) [(3, .int v3), (0, .ref (ad b0)), (1, .ref (ad b1)), (2, .ref (ad b2))] 26 []) : ∀ (n : Nat) (v3 : Int32) (me : Nat → Int32), P_X2_form_7 K n v3 me → G l D E 0 0 (Wd_X2_form cI cS cT ad b0 b1 b2 gc or me ce nli nsct nstk nsle nye nco eld efln eftk egln egtk etb) [(3, .int v3), (0, .ref (ad b0)), (1, .ref (ad b1)), (2, .ref (ad b2))] 7 [] := by
  intro n
  induction n with
  | zero => exact fun _ _ h => h.elim
  | succ n ih =>
    intro v3 me h
    replace h : B_X2_form_7 K (P_X2_form_7 K n) v3 me := h
    unfold B_X2_form_7 at h
    refine g_iload_n 7 0 hC dX2_form_7 rfl ?_
    refine g_bipush (v := (12 : Int32)) 8 hC dX2_form_8 (by decide) ?_
    refine g_icmp_ge 10 26 hC dX2_form_10 (by decide) (fun hc => ?_) (fun hc => ?_)
    · replace h := h.1 hc
      refine G.sub [0, 1, 2, 3] rfl ?_
      exact hK v3 me h
    · replace h := h.2 hc
      refine g_aload_n 13 1 hC dX2_form_13 rfl ?_
      refine g_get 14 0 1 hC inlX2 wq_87 dX2_form_14 rfl rfl (by decide) rfl ?_
      refine g_iload_n 17 0 hC dX2_form_17 rfl ?_
      refine g_iconst (v := (-1 : Int32)) 18 hC dX2_form_18 (by decide) ?_
      obtain ⟨hj, h⟩ := h
      refine g_iast 19 2 (Wd_X2_form cI cS cT ad b0 b1 b2 gc or (upd me (Int32.toNatClampNeg v3) (-1 : Int32)) ce nli nsct nstk nsle nye nco eld efln eftk egln egtk etb) hC dX2_form_19 rfl rfl hj rfl ?_
      refine g_iinc (v := (1 : Int32)) 20 0 [(3, .int (v3 + (1 : Int32))), (0, .ref (ad b0)), (1, .ref (ad b1)), (2, .ref (ad b2))] hC dX2_form_20 rfl (by decide) (by rw [hn]; decide) rfl ?_
      refine g_goto 23 7 hC dX2_form_23 (by decide) ?_
      refine G.sub [0, 1, 2, 3] rfl ?_
      exact ih _ _ h
set_option maxHeartbeats 4000000 in
set_option maxRecDepth 100000 in
theorem L_X2_form_107 {l : Launch} {D : va_G} {cI cS cT : ClassId} {ad : Nat → Nat} {b0 : Nat} {b1 : Nat} {b2 : Nat} {E : CE} {v4 : Int32} {v3 : Int32} {gc : Int32} {or : Nat → Int32} {ce : Nat → Int32} {nli : Int32} {nsct : Int32} {nstk : Nat → Int32} {nsle : Nat → Int32} {nye : Nat → Int32} {nco : Nat → Int32} {eld : Int32} {post : Int32 → (Nat → Int32) → (Nat → Int32) → (Nat → Int32) → Int32 → (Nat → Int32) → Int32 → (Nat → Int32) → (Nat → Nat → Int32) → Prop} (hC : Cx l D (TY cI cS cT) E rm_X2_form cX2_form RX2) (hR : RetV D E (fun w => ∃ (u_gc : Int32) (u_or : Nat → Int32) (u_me : Nat → Int32) (u_ce : Nat → Int32) (u_efln : Int32) (u_eftk : Nat → Int32) (u_egln : Int32) (u_egtk : Nat → Int32) (u_etb : Nat → Nat → Int32), w = (Wd_X2_form cI cS cT ad b0 b1 b2 u_gc u_or u_me u_ce nli nsct nstk nsle nye nco eld u_efln u_eftk u_egln u_egtk u_etb) ∧ post u_gc u_or u_me u_ce u_efln u_eftk u_egln u_egtk u_etb) 0 0) (hn : E.nL = 7) (K : Int32 → (Nat → Int32) → Int32 → (Nat → Int32) → Int32 → (Nat → Int32) → (Nat → Nat → Int32) → Prop) (hK : ∀ (v5 : Int32) (me : Nat → Int32) (efln : Int32) (eftk : Nat → Int32) (egln : Int32) (egtk : Nat → Int32) (etb : Nat → Nat → Int32), K v5 me efln eftk egln egtk etb → G l D E 0 0 (Wd_X2_form cI cS cT ad b0 b1 b2 gc or me ce nli nsct nstk nsle nye nco eld efln eftk egln egtk etb) [(5, .int v5), (4, .int v4), (3, .int v3), (0, .ref (ad b0)), (1, .ref (ad b1)), (2, .ref (ad b2))] 184 []) : ∀ (n : Nat) (v5 : Int32) (me : Nat → Int32) (efln : Int32) (eftk : Nat → Int32) (egln : Int32) (egtk : Nat → Int32) (etb : Nat → Nat → Int32), P_X2_form_107 v4 gc or nli nsct nstk nsle nco eld K n v5 me efln eftk egln egtk etb → G l D E 0 0 (Wd_X2_form cI cS cT ad b0 b1 b2 gc or me ce nli nsct nstk nsle nye nco eld efln eftk egln egtk etb) [(5, .int v5), (4, .int v4), (3, .int v3), (0, .ref (ad b0)), (1, .ref (ad b1)), (2, .ref (ad b2))] 107 [] := by
  intro n
  induction n with
  | zero => exact fun _ _ _ _ _ _ _ h => h.elim
  | succ n ih =>
    intro v5 me efln eftk egln egtk etb h
    replace h : B_X2_form_107 v4 gc or nli nsct nstk nsle nco eld K (P_X2_form_107 v4 gc or nli nsct nstk nsle nco eld K n) v5 me efln eftk egln egtk etb := h
    unfold B_X2_form_107 at h
    refine g_iload 107 0 hC dX2_form_107 rfl ?_
    refine g_aload_n 109 4 hC dX2_form_109 rfl ?_
    refine g_getN 110 4 0 hC inlX7 nq_68 dX2_form_110 rfl rfl (by decide) rfl ?_
    refine g_getN 113 5 3 hC inlX6 nq_54 dX2_form_113 rfl rfl (by decide) rfl ?_
    refine g_icmp_ge 116 184 hC dX2_form_116 (by decide) (fun hc => ?_) (fun hc => ?_)
    · replace h := h.1 hc
      refine G.sub [0, 1, 2, 3, 4, 5] rfl ?_
      exact hK v5 me efln eftk egln egtk etb h
    · replace h := h.2 hc
      refine g_aload_n 119 3 hC dX2_form_119 rfl ?_
      refine g_get 120 0 0 hC inlX2 wq_86 dX2_form_120 rfl rfl (by decide) rfl ?_
      refine g_iload 123 0 hC dX2_form_123 rfl ?_
      obtain ⟨hj, h⟩ := h
      refine g_iald 125 1 hC dX2_form_125 rfl rfl hj ?_
      refine g_istore 126 [(6, .int (or (Int32.toNatClampNeg v5))), (5, .int v5), (4, .int v4), (3, .int v3), (0, .ref (ad b0)), (1, .ref (ad b1)), (2, .ref (ad b2))] hC dX2_form_126 (by rw [hn]; decide) rfl ?_
      refine g_aload_n 128 5 hC dX2_form_128 rfl ?_
      refine g_getN 129 4 0 hC inlX7 nq_68 dX2_form_129 rfl rfl (by decide) rfl ?_
      refine g_iload 132 0 hC dX2_form_132 rfl ?_
      refine g_cVNi (As := [.int (or (Int32.toNatClampNeg v5))]) (rest := []) 134 5 [5] hC (c_X6_has l D cI cS cT ad (b1 + 1) (12 : Int32) 96 12 (or (Int32.toNatClampNeg v5)) nsct _ h) kX6_has nq_373 dX2_form_134 rfl rfl ⟨Nat.le_of_ble_eq_true rfl, Nat.le_of_ble_eq_true rfl⟩ rfl rfl (Nat.zero_le _) (Nat.zero_le _) rfl rfl rfl (Nat.le_of_ble_eq_true rfl) ?_
      rintro r5 _ ⟨rfl, h⟩
      refine ⟨Nat.le_of_ble_eq_true rfl, G.upd [0, 1, 2, 3, 4, 6, 7, 8, 9, 10, 11, 12, 13, 14, 15, 16, 17, 18, 19, 20, 21, 22, 23, 24] (Wd_X2_form cI cS cT ad b0 b1 b2 gc or me ce nli nsct nstk nsle nye nco eld efln eftk egln egtk etb) rfl rfl rfl rfl rfl ?_⟩
      refine g_if_eq 137 178 hC dX2_form_137 (by decide) (fun hc => ?_) (fun hc => ?_)
      · replace h := h.1 hc
        refine g_iinc (v := (1 : Int32)) 178 1 [(5, .int (v5 + (1 : Int32))), (6, .int (or (Int32.toNatClampNeg v5))), (4, .int v4), (3, .int v3), (0, .ref (ad b0)), (1, .ref (ad b1)), (2, .ref (ad b2))] hC dX2_form_178 rfl (by decide) (by rw [hn]; decide) rfl ?_
        refine g_goto 181 107 hC dX2_form_181 (by decide) ?_
        refine G.sub [0, 2, 3, 4, 5, 6] rfl ?_
        exact ih _ _ _ _ _ _ _ h
      · replace h := h.2 hc
        refine g_aload_n 140 4 hC dX2_form_140 rfl ?_
        refine g_get 141 0 1 hC inlX2 wq_87 dX2_form_141 rfl rfl (by decide) rfl ?_
        refine g_iload 144 0 hC dX2_form_144 rfl ?_
        obtain ⟨hj, h⟩ := h
        refine g_iald 146 2 hC dX2_form_146 rfl rfl hj ?_
        refine g_iconst (v := (-1 : Int32)) 147 hC dX2_form_147 (by decide) ?_
        refine g_icmp_ne 148 178 hC dX2_form_148 (by decide) (fun hc => ?_) (fun hc => ?_)
        · replace h := h.1 hc
          refine g_iinc (v := (1 : Int32)) 178 1 [(5, .int (v5 + (1 : Int32))), (6, .int (or (Int32.toNatClampNeg v5))), (4, .int v4), (3, .int v3), (0, .ref (ad b0)), (1, .ref (ad b1)), (2, .ref (ad b2))] hC dX2_form_178 rfl (by decide) (by rw [hn]; decide) rfl ?_
          refine g_goto 181 107 hC dX2_form_181 (by decide) ?_
          refine G.sub [0, 2, 3, 4, 5, 6] rfl ?_
          exact ih _ _ _ _ _ _ _ h
        · replace h := h.2 hc
          refine g_aload_n 151 6 hC dX2_form_151 rfl ?_
          refine g_aload_n 152 5 hC dX2_form_152 rfl ?_
          refine g_iload 153 2 hC dX2_form_153 rfl ?_
          refine g_iload 155 0 hC dX2_form_155 rfl ?_
          refine g_cVNi (As := [.ref (ad b1), .int v4, .int (or (Int32.toNatClampNeg v5))]) (rest := []) 157 10 [10, 11, 12, 13, 14, 15, 16, 17, 18, 19, 20, 21, 22, 23, 24, 4, 5, 6, 7, 9] hC (c_X1_between l D cI cS cT ad b2 b1 v4 (or (Int32.toNatClampNeg v5)) eld efln eftk egln egtk etb nli nsct nstk nsle nco _ h) kX1_between nq_374 dX2_form_157 rfl rfl ⟨Nat.le_of_ble_eq_true rfl, Nat.le_of_ble_eq_true rfl⟩ rfl rfl (Nat.zero_le _) (Nat.zero_le _) rfl rfl rfl (Nat.le_of_ble_eq_true rfl) ?_
          rintro r11 _ ⟨u6, u7, u8, u9, u10, rfl, h⟩
          refine ⟨Nat.le_of_ble_eq_true rfl, G.upd [0, 1, 2, 3, 8] (Wd_X2_form cI cS cT ad b0 b1 b2 gc or me ce nli nsct nstk nsle nye nco eld u6 u7 u8 u9 u10) rfl rfl rfl rfl rfl ?_⟩
          refine g_aload_n 160 5 hC dX2_form_160 rfl ?_
          refine g_getN 161 4 5 hC inlX7 nq_78 dX2_form_161 rfl rfl (by decide) rfl ?_
          refine g_icmp_gt 164 178 hC dX2_form_164 (by decide) (fun hc => ?_) (fun hc => ?_)
          · replace h := h.1 hc
            refine g_iinc (v := (1 : Int32)) 178 1 [(5, .int (v5 + (1 : Int32))), (6, .int (or (Int32.toNatClampNeg v5))), (4, .int v4), (3, .int v3), (0, .ref (ad b0)), (1, .ref (ad b1)), (2, .ref (ad b2))] hC dX2_form_178 rfl (by decide) (by rw [hn]; decide) rfl ?_
            refine g_goto 181 107 hC dX2_form_181 (by decide) ?_
            refine G.sub [0, 2, 3, 4, 5, 6] rfl ?_
            exact ih _ _ _ _ _ _ _ h
          · replace h := h.2 hc
            refine g_aload_n 167 4 hC dX2_form_167 rfl ?_
            refine g_get 168 0 1 hC inlX2 wq_87 dX2_form_168 rfl rfl (by decide) rfl ?_
            refine g_iload 171 0 hC dX2_form_171 rfl ?_
            refine g_aload_n 173 4 hC dX2_form_173 rfl ?_
            refine g_get 174 0 3 hC inlX2 wq_134 dX2_form_174 rfl rfl (by decide) rfl ?_
            obtain ⟨hj, h⟩ := h
            refine g_iast 177 2 (Wd_X2_form cI cS cT ad b0 b1 b2 gc or (upd me (Int32.toNatClampNeg (or (Int32.toNatClampNeg v5))) gc) ce nli nsct nstk nsle nye nco eld u6 u7 u8 u9 u10) hC dX2_form_177 rfl rfl hj rfl ?_
            refine g_iinc (v := (1 : Int32)) 178 1 [(5, .int (v5 + (1 : Int32))), (6, .int (or (Int32.toNatClampNeg v5))), (4, .int v4), (3, .int v3), (0, .ref (ad b0)), (1, .ref (ad b1)), (2, .ref (ad b2))] hC dX2_form_178 rfl (by decide) (by rw [hn]; decide) rfl ?_
            refine g_goto 181 107 hC dX2_form_181 (by decide) ?_
            refine G.sub [0, 2, 3, 4, 5, 6] rfl ?_
            exact ih _ _ _ _ _ _ _ h
set_option maxHeartbeats 4000000 in
set_option maxRecDepth 100000 in
theorem L_X2_form_36 {l : Launch} {D : va_G} {cI cS cT : ClassId} {ad : Nat → Nat} {b0 : Nat} {b1 : Nat} {b2 : Nat} {E : CE} {or : Nat → Int32} {nli : Int32} {nsct : Int32} {nstk : Nat → Int32} {nsle : Nat → Int32} {nye : Nat → Int32} {nco : Nat → Int32} {eld : Int32} {post : Int32 → (Nat → Int32) → (Nat → Int32) → (Nat → Int32) → Int32 → (Nat → Int32) → Int32 → (Nat → Int32) → (Nat → Nat → Int32) → Prop} (hC : Cx l D (TY cI cS cT) E rm_X2_form cX2_form RX2) (hR : RetV D E (fun w => ∃ (u_gc : Int32) (u_or : Nat → Int32) (u_me : Nat → Int32) (u_ce : Nat → Int32) (u_efln : Int32) (u_eftk : Nat → Int32) (u_egln : Int32) (u_egtk : Nat → Int32) (u_etb : Nat → Nat → Int32), w = (Wd_X2_form cI cS cT ad b0 b1 b2 u_gc u_or u_me u_ce nli nsct nstk nsle nye nco eld u_efln u_eftk u_egln u_egtk u_etb) ∧ post u_gc u_or u_me u_ce u_efln u_eftk u_egln u_egtk u_etb) 0 0) (hn : E.nL = 7) (K : Int32 → Int32 → (Nat → Int32) → (Nat → Int32) → Int32 → (Nat → Int32) → Int32 → (Nat → Int32) → (Nat → Nat → Int32) → Prop) (hK : ∀ (v3 : Int32) (gc : Int32) (me : Nat → Int32) (ce : Nat → Int32) (efln : Int32) (eftk : Nat → Int32) (egln : Int32) (egtk : Nat → Int32) (etb : Nat → Nat → Int32), K v3 gc me ce efln eftk egln egtk etb → G l D E 0 0 (Wd_X2_form cI cS cT ad b0 b1 b2 gc or me ce nli nsct nstk nsle nye nco eld efln eftk egln egtk etb) [(3, .int v3), (0, .ref (ad b0)), (1, .ref (ad b1)), (2, .ref (ad b2))] 200 []) : ∀ (n : Nat) (v3 : Int32) (gc : Int32) (me : Nat → Int32) (ce : Nat → Int32) (efln : Int32) (eftk : Nat → Int32) (egln : Int32) (egtk : Nat → Int32) (etb : Nat → Nat → Int32), P_X2_form_36 or nli nsct nstk nsle nco eld K n v3 gc me ce efln eftk egln egtk etb → G l D E 0 0 (Wd_X2_form cI cS cT ad b0 b1 b2 gc or me ce nli nsct nstk nsle nye nco eld efln eftk egln egtk etb) [(3, .int v3), (0, .ref (ad b0)), (1, .ref (ad b1)), (2, .ref (ad b2))] 36 [] := by
  intro n
  induction n with
  | zero => exact fun _ _ _ _ _ _ _ _ _ h => h.elim
  | succ n ih =>
    intro v3 gc me ce efln eftk egln egtk etb h
    replace h : B_X2_form_36 or nli nsct nstk nsle nco eld K (P_X2_form_36 or nli nsct nstk nsle nco eld K n) v3 gc me ce efln eftk egln egtk etb := h
    unfold B_X2_form_36 at h
    refine g_iload_n 36 0 hC dX2_form_36 rfl ?_
    refine g_aload_n 37 2 hC dX2_form_37 rfl ?_
    refine g_getN 38 4 0 hC inlX7 nq_68 dX2_form_38 rfl rfl (by decide) rfl ?_
    refine g_getN 41 5 3 hC inlX6 nq_54 dX2_form_41 rfl rfl (by decide) rfl ?_
    refine g_icmp_ge 44 200 hC dX2_form_44 (by decide) (fun hc => ?_) (fun hc => ?_)
    · replace h := h.1 hc
      refine G.sub [0, 1, 2, 3] rfl ?_
      exact hK v3 gc me ce efln eftk egln egtk etb h
    · replace h := h.2 hc
      refine g_aload_n 47 1 hC dX2_form_47 rfl ?_
      refine g_get 48 0 0 hC inlX2 wq_86 dX2_form_48 rfl rfl (by decide) rfl ?_
      refine g_iload_n 51 0 hC dX2_form_51 rfl ?_
      obtain ⟨hj, h⟩ := h
      refine g_iald 52 1 hC dX2_form_52 rfl rfl hj ?_
      refine g_istore 53 [(4, .int (or (Int32.toNatClampNeg v3))), (3, .int v3), (0, .ref (ad b0)), (1, .ref (ad b1)), (2, .ref (ad b2))] hC dX2_form_53 (by rw [hn]; decide) rfl ?_
      refine g_aload_n 55 3 hC dX2_form_55 rfl ?_
      refine g_getN 56 4 0 hC inlX7 nq_68 dX2_form_56 rfl rfl (by decide) rfl ?_
      refine g_iload 59 0 hC dX2_form_59 rfl ?_
      refine g_cVNi (As := [.int (or (Int32.toNatClampNeg v3))]) (rest := []) 61 5 [5] hC (c_X6_has l D cI cS cT ad (b1 + 1) (12 : Int32) 96 12 (or (Int32.toNatClampNeg v3)) nsct _ h) kX6_has nq_373 dX2_form_61 rfl rfl ⟨Nat.le_of_ble_eq_true rfl, Nat.le_of_ble_eq_true rfl⟩ rfl rfl (Nat.zero_le _) (Nat.zero_le _) rfl rfl rfl (Nat.le_of_ble_eq_true rfl) ?_
      rintro r4 _ ⟨rfl, h⟩
      refine ⟨Nat.le_of_ble_eq_true rfl, G.upd [0, 1, 2, 3, 4, 6, 7, 8, 9, 10, 11, 12, 13, 14, 15, 16, 17, 18, 19, 20, 21, 22, 23, 24] (Wd_X2_form cI cS cT ad b0 b1 b2 gc or me ce nli nsct nstk nsle nye nco eld efln eftk egln egtk etb) rfl rfl rfl rfl rfl ?_⟩
      refine g_if_eq 64 194 hC dX2_form_64 (by decide) (fun hc => ?_) (fun hc => ?_)
      · replace h := h.1 hc
        refine g_iinc (v := (1 : Int32)) 194 1 [(3, .int (v3 + (1 : Int32))), (4, .int (or (Int32.toNatClampNeg v3))), (0, .ref (ad b0)), (1, .ref (ad b1)), (2, .ref (ad b2))] hC dX2_form_194 rfl (by decide) (by rw [hn]; decide) rfl ?_
        refine g_goto 197 36 hC dX2_form_197 (by decide) ?_
        refine G.sub [0, 2, 3, 4] rfl ?_
        exact ih _ _ _ _ _ _ _ _ _ h
      · replace h := h.2 hc
        refine g_aload_n 67 2 hC dX2_form_67 rfl ?_
        refine g_get 68 0 1 hC inlX2 wq_87 dX2_form_68 rfl rfl (by decide) rfl ?_
        refine g_iload 71 0 hC dX2_form_71 rfl ?_
        obtain ⟨hj, h⟩ := h
        refine g_iald 73 2 hC dX2_form_73 rfl rfl hj ?_
        refine g_iconst (v := (-1 : Int32)) 74 hC dX2_form_74 (by decide) ?_
        refine g_icmp_ne 75 194 hC dX2_form_75 (by decide) (fun hc => ?_) (fun hc => ?_)
        · replace h := h.1 hc
          refine g_iinc (v := (1 : Int32)) 194 1 [(3, .int (v3 + (1 : Int32))), (4, .int (or (Int32.toNatClampNeg v3))), (0, .ref (ad b0)), (1, .ref (ad b1)), (2, .ref (ad b2))] hC dX2_form_194 rfl (by decide) (by rw [hn]; decide) rfl ?_
          refine g_goto 197 36 hC dX2_form_197 (by decide) ?_
          refine G.sub [0, 2, 3, 4] rfl ?_
          exact ih _ _ _ _ _ _ _ _ _ h
        · replace h := h.2 hc
          refine g_aload_n 78 2 hC dX2_form_78 rfl ?_
          refine g_get 79 0 3 hC inlX2 wq_134 dX2_form_79 rfl rfl (by decide) rfl ?_
          refine g_aload_n 82 2 hC dX2_form_82 rfl ?_
          refine g_get 83 0 2 hC inlX2 wq_88 dX2_form_83 rfl rfl (by decide) rfl ?_
          refine g_alen 86 3 0 hC dX2_form_86 rfl rfl ?_
          refine g_icmp_lt 87 93 hC dX2_form_87 (by decide) (fun hc => ?_) (fun hc => ?_)
          · replace h := h.1 hc
            refine g_aload_n 93 2 hC dX2_form_93 rfl ?_
            refine g_get 94 0 2 hC inlX2 wq_88 dX2_form_94 rfl rfl (by decide) rfl ?_
            refine g_aload_n 97 2 hC dX2_form_97 rfl ?_
            refine g_get 98 0 3 hC inlX2 wq_134 dX2_form_98 rfl rfl (by decide) rfl ?_
            refine g_iload 101 0 hC dX2_form_101 rfl ?_
            obtain ⟨hj, h⟩ := h
            refine g_iast 103 3 (Wd_X2_form cI cS cT ad b0 b1 b2 gc or me (upd ce (Int32.toNatClampNeg gc) (or (Int32.toNatClampNeg v3))) nli nsct nstk nsle nye nco eld efln eftk egln egtk etb) hC dX2_form_103 rfl rfl hj rfl ?_
            refine g_iload_n 104 1 hC dX2_form_104 rfl ?_
            refine g_istore 105 [(5, .int v3), (4, .int (or (Int32.toNatClampNeg v3))), (3, .int v3), (0, .ref (ad b0)), (1, .ref (ad b1)), (2, .ref (ad b2))] hC dX2_form_105 (by rw [hn]; decide) rfl ?_
            obtain ⟨n, h⟩ := h
            refine L_X2_form_107 hC hR hn _ (fun w5_12 me_12 efln_12 eftk_12 egln_12 egtk_12 etb_12 h => ?_) n _ _ _ _ _ _ _ h
            refine g_aload_n 184 3 hC dX2_form_184 rfl ?_
            refine g_dup 185 hC dX2_form_185 rfl ?_
            refine g_get 186 0 3 hC inlX2 wq_134 dX2_form_186 rfl rfl (by decide) rfl ?_
            refine g_iconst (v := (1 : Int32)) 189 hC dX2_form_189 (by decide) ?_
            refine g_iadd 190 hC dX2_form_190 ?_
            refine g_put 191 0 3 (Wd_X2_form cI cS cT ad b0 b1 b2 (gc + (1 : Int32)) or me_12 (upd ce (Int32.toNatClampNeg gc) (or (Int32.toNatClampNeg v3))) nli nsct nstk nsle nye nco eld efln_12 eftk_12 egln_12 egtk_12 etb_12) hC inlX2 tyX2_ok nmX2 wq_134 dX2_form_191 rfl rfl (by decide) rfl rfl (Nat.le_of_ble_eq_true rfl) rfl ?_
            refine g_iinc (v := (1 : Int32)) 194 2 [(3, .int (v3 + (1 : Int32))), (5, .int w5_12), (4, .int (or (Int32.toNatClampNeg v3))), (0, .ref (ad b0)), (1, .ref (ad b1)), (2, .ref (ad b2))] hC dX2_form_194 rfl (by decide) (by rw [hn]; decide) rfl ?_
            refine g_goto 197 36 hC dX2_form_197 (by decide) ?_
            refine G.sub [0, 3, 4, 5] rfl ?_
            exact ih _ _ _ _ _ _ _ _ _ h
          · replace h := h.2 hc
            refine g_goto 90 194 hC dX2_form_90 (by decide) ?_
            refine g_iinc (v := (1 : Int32)) 194 1 [(3, .int (v3 + (1 : Int32))), (4, .int (or (Int32.toNatClampNeg v3))), (0, .ref (ad b0)), (1, .ref (ad b1)), (2, .ref (ad b2))] hC dX2_form_194 rfl (by decide) (by rw [hn]; decide) rfl ?_
            refine g_goto 197 36 hC dX2_form_197 (by decide) ?_
            refine G.sub [0, 2, 3, 4] rfl ?_
            exact ih _ _ _ _ _ _ _ _ _ h
set_option maxHeartbeats 4000000 in
set_option maxRecDepth 100000 in
theorem c_X2_form (l : Launch) (D : va_G) (cI cS cT : ClassId) (ad : Nat → Nat) (b0 : Nat) (b1 : Nat) (b2 : Nat) (gc : Int32) (or : Nat → Int32) (me : Nat → Int32) (ce : Nat → Int32) (nli : Int32) (nsct : Int32) (nstk : Nat → Int32) (nsle : Nat → Int32) (nye : Nat → Int32) (nco : Nat → Int32) (eld : Int32) (efln : Int32) (eftk : Nat → Int32) (egln : Int32) (egtk : Nat → Int32) (etb : Nat → Nat → Int32) (post : Int32 → (Nat → Int32) → (Nat → Int32) → (Nat → Int32) → Int32 → (Nat → Int32) → Int32 → (Nat → Int32) → (Nat → Nat → Int32) → Prop) (h : P_X2_form gc or me ce nli nsct nstk nsle nye nco eld efln eftk egln egtk etb post) : MV l D (TY cI cS cT) yX2_form cX2_form 7 rm_X2_form [.ref (ad b0), .ref (ad b1), .ref (ad b2)] (Wd_X2_form cI cS cT ad b0 b1 b2 gc or me ce nli nsct nstk nsle nye nco eld efln eftk egln egtk etb) (fun w => ∃ (u_gc : Int32) (u_or : Nat → Int32) (u_me : Nat → Int32) (u_ce : Nat → Int32) (u_efln : Int32) (u_eftk : Nat → Int32) (u_egln : Int32) (u_egtk : Nat → Int32) (u_etb : Nat → Nat → Int32), w = (Wd_X2_form cI cS cT ad b0 b1 b2 u_gc u_or u_me u_ce nli nsct nstk nsle nye nco eld u_efln u_eftk u_egln u_egtk u_etb) ∧ post u_gc u_or u_me u_ce u_efln u_eftk u_egln u_egtk u_etb) := by
  refine MV.of (by decide) (Nat.le_of_ble_eq_true rfl) (fun E hC hR hn => ?_)
  replace hC : Cx l D (TY cI cS cT) E rm_X2_form cX2_form RX2 := hC
  replace hR : RetV D E (fun w => ∃ (u_gc : Int32) (u_or : Nat → Int32) (u_me : Nat → Int32) (u_ce : Nat → Int32) (u_efln : Int32) (u_eftk : Nat → Int32) (u_egln : Int32) (u_egtk : Nat → Int32) (u_etb : Nat → Nat → Int32), w = (Wd_X2_form cI cS cT ad b0 b1 b2 u_gc u_or u_me u_ce nli nsct nstk nsle nye nco eld u_efln u_eftk u_egln u_egtk u_etb) ∧ post u_gc u_or u_me u_ce u_efln u_eftk u_egln u_egtk u_etb) 0 0 := hR
  unfold P_X2_form at h
  change G l D E 0 0 _ [(0, .ref (ad b0)), (1, .ref (ad b1)), (2, .ref (ad b2))] 0 []
  refine g_aload_n 0 0 hC dX2_form_0 rfl ?_
  refine g_iconst (v := (0 : Int32)) 1 hC dX2_form_1 (by decide) ?_
  refine g_put 2 0 3 (Wd_X2_form cI cS cT ad b0 b1 b2 (0 : Int32) or me ce nli nsct nstk nsle nye nco eld efln eftk egln egtk etb) hC inlX2 tyX2_ok nmX2 wq_134 dX2_form_2 rfl rfl (by decide) rfl rfl (Nat.le_of_ble_eq_true rfl) rfl ?_
  refine g_iconst (v := (0 : Int32)) 5 hC dX2_form_5 (by decide) ?_
  refine g_istore_n 6 [(3, .int (0 : Int32)), (0, .ref (ad b0)), (1, .ref (ad b1)), (2, .ref (ad b2))] hC dX2_form_6 (by rw [hn]; decide) rfl ?_
  obtain ⟨n, h⟩ := h
  refine L_X2_form_7 hC hR hn _ (fun w3_1 me_1 h => ?_) n _ _ h
  refine g_aload_n 26 2 hC dX2_form_26 rfl ?_
  refine g_aload_n 27 1 hC dX2_form_27 rfl ?_
  refine g_get 28 0 0 hC inlX2 wq_86 dX2_form_28 rfl rfl (by decide) rfl ?_
  refine g_cVNv (As := [.ref (ad (b0 + 1))]) (rest := []) 31 4 [4, 5, 8, 1] hC (c_X7_sortByAge l D cI cS cT ad b1 (b0 + 1) 12 nli nsct nye or _ h) kX7_sortByAge nq_372 dX2_form_31 rfl rfl ⟨Nat.le_of_ble_eq_true rfl, Nat.le_of_ble_eq_true rfl⟩ rfl rfl (Nat.zero_le _) (Nat.zero_le _) rfl rfl rfl (Nat.le_of_ble_eq_true rfl) ?_
  rintro _ ⟨u2, rfl, h⟩
  refine ⟨Nat.le_of_ble_eq_true rfl, G.upd [0, 2, 3, 6, 7, 9, 10, 11, 12, 13, 14, 15, 16, 17, 18, 19, 20, 21, 22, 23, 24] (Wd_X2_form cI cS cT ad b0 b1 b2 (0 : Int32) u2 me_1 ce nli nsct nstk nsle nye nco eld efln eftk egln egtk etb) rfl rfl rfl rfl rfl ?_⟩
  refine g_iconst (v := (0 : Int32)) 34 hC dX2_form_34 (by decide) ?_
  refine g_istore_n 35 [(3, .int (0 : Int32)), (0, .ref (ad b0)), (1, .ref (ad b1)), (2, .ref (ad b2))] hC dX2_form_35 (by rw [hn]; decide) rfl ?_
  obtain ⟨n, h⟩ := h
  refine L_X2_form_36 hC hR hn _ (fun w3_13 gc_13 me_13 ce_13 efln_13 eftk_13 egln_13 egtk_13 etb_13 h => ?_) n _ _ _ _ _ _ _ _ _ h
  exact g_vret 200 hC hR dX2_form_200 ⟨gc_13, u2, me_13, ce_13, efln_13, eftk_13, egln_13, egtk_13, etb_13, rfl, h⟩

/-! ===== ProverbCollection$Groups.centre(I)I ===== -/
def Wd_X2_centre (cI cS cT : ClassId) (ad : Nat → Nat) (b0 : Nat) (gc : Int32) (ce : Nat → Int32) : va_W := [(ad b0, .inr (2, [.ref (ad (b0 + 1)), .ref (ad (b0 + 2)), .ref (ad (b0 + 3)), .int gc])), (ad (b0 + 3), .inl (cI, 12, .inl ce))]
def rm_X2_centre : Room := { frames := 0, cells := 0, slots := 0, locals := 0 }
theorem kX2_centre : KV yX2_centre cX2_centre 2 (some .int) 1 := ⟨wq_319, wq_32, wq_317, wq_318, by decide +kernel⟩
def P_X2_centre (x1 : Int32) (gc : Int32) (ce : Nat → Int32) (post : Int32 → Prop) : Prop :=
  (x1 < 0 → post (-4 : Int32)) ∧ (¬ x1 < 0 → ((gc ≤ x1 → post (-4 : Int32)) ∧ (¬ gc ≤ x1 → (vp_in x1 12 ∧ (post (ce (Int32.toNatClampNeg x1)))))))
set_option maxHeartbeats 4000000 in
set_option maxRecDepth 100000 in
theorem c_X2_centre (l : Launch) (D : va_G) (cI cS cT : ClassId) (ad : Nat → Nat) (b0 : Nat) (x1 : Int32) (gc : Int32) (ce : Nat → Int32) (post : Int32 → Prop) (h : P_X2_centre x1 gc ce post) : MI l D (TY cI cS cT) yX2_centre cX2_centre 2 (some .int) rm_X2_centre [.ref (ad b0), .int x1] (Wd_X2_centre cI cS cT ad b0 gc ce) (fun (r : Int32) w => w = (Wd_X2_centre cI cS cT ad b0 gc ce) ∧ post r) := by
  refine MI.of (by decide) (Nat.le_of_ble_eq_true rfl) (fun E hC hR hn => ?_)
  replace hC : Cx l D (TY cI cS cT) E rm_X2_centre cX2_centre RX2 := hC
  replace hR : RetI D E (fun (r : Int32) w => w = (Wd_X2_centre cI cS cT ad b0 gc ce) ∧ post r) 0 0 (some .int) := hR
  unfold P_X2_centre at h
  change G l D E 0 0 _ [(0, .ref (ad b0)), (1, .int x1)] 0 []
  refine g_iload_n 0 1 hC dX2_centre_0 rfl ?_
  refine g_if_lt 1 21 hC dX2_centre_1 (by decide) (fun hc => ?_) (fun hc => ?_)
  · replace h := h.1 hc
    refine g_bipush (v := (-4 : Int32)) 21 hC dX2_centre_21 (by decide) ?_
    exact g_iret 23 hC hR dX2_centre_23 ⟨rfl, h⟩
  · replace h := h.2 hc
    refine g_iload_n 4 1 hC dX2_centre_4 rfl ?_
    refine g_aload_n 5 0 hC dX2_centre_5 rfl ?_
    refine g_get 6 0 3 hC inlX2 wq_134 dX2_centre_6 rfl rfl (by decide) rfl ?_
    refine g_icmp_ge 9 21 hC dX2_centre_9 (by decide) (fun hc => ?_) (fun hc => ?_)
    · replace h := h.1 hc
      refine g_bipush (v := (-4 : Int32)) 21 hC dX2_centre_21 (by decide) ?_
      exact g_iret 23 hC hR dX2_centre_23 ⟨rfl, h⟩
    · replace h := h.2 hc
      refine g_aload_n 12 0 hC dX2_centre_12 rfl ?_
      refine g_get 13 0 2 hC inlX2 wq_88 dX2_centre_13 rfl rfl (by decide) rfl ?_
      refine g_iload_n 16 1 hC dX2_centre_16 rfl ?_
      obtain ⟨hj, h⟩ := h
      refine g_iald 17 1 hC dX2_centre_17 rfl rfl hj ?_
      refine g_goto 18 23 hC dX2_centre_18 (by decide) ?_
      exact g_iret 23 hC hR dX2_centre_23 ⟨rfl, h⟩

/-! ===== ProverbCollection$Groups.members(LProverbCollection$State;I)I ===== -/
def Wd_X2_members (cI cS cT : ClassId) (ad : Nat → Nat) (b0 : Nat) (b1 : Nat) (gc : Int32) (me : Nat → Int32) (nli : Int32) (nsct : Int32) : va_W := [(ad b0, .inr (2, [.ref (ad (b0 + 1)), .ref (ad (b0 + 2)), .ref (ad (b0 + 3)), .int gc])), (ad (b0 + 2), .inl (cI, 12, .inl me)), (ad b1, .inr (7, [.ref (ad (b1 + 1)), .ref (ad (b1 + 4)), .ref (ad (b1 + 5)), .ref (ad (b1 + 6)), .ref (ad (b1 + 9)), .int nli])), (ad (b1 + 1), .inr (6, [.int 12, .ref (ad (b1 + 2)), .ref (ad (b1 + 3)), .int nsct]))]
def rm_X2_members : Room := { frames := 0, cells := 0, slots := 0, locals := 0 }
theorem kX2_members : KV yX2_members cX2_members 5 (some .int) 2 := ⟨wq_326, wq_32, wq_324, wq_325, by decide +kernel⟩
def B_X2_members_5 (v2 : Int32) (me : Nat → Int32) (nsct : Int32) (K : Int32 → Int32 → Prop) (rc : Int32 → Int32 → Prop) (v4 : Int32) (v3 : Int32) : Prop :=
  (nsct ≤ v4 → K v4 v3) ∧ (¬ nsct ≤ v4 → (vp_in v4 12 ∧ ((¬ (me (Int32.toNatClampNeg v4)) = v2 → rc (v4 + (1 : Int32)) (v3 + (0 : Int32))) ∧ ((me (Int32.toNatClampNeg v4)) = v2 → rc (v4 + (1 : Int32)) (v3 + (1 : Int32))))))
def P_X2_members_5 (v2 : Int32) (me : Nat → Int32) (nsct : Int32) (K : Int32 → Int32 → Prop) : Nat → Int32 → Int32 → Prop
  | 0 => fun _ _ => False
  | n + 1 => fun v4 v3 => B_X2_members_5 v2 me nsct K (P_X2_members_5 v2 me nsct K n) v4 v3
def P_X2_members (x2 : Int32) (gc : Int32) (me : Nat → Int32) (nli : Int32) (nsct : Int32) (post : Int32 → Prop) : Prop :=
  ∃ n : Nat, P_X2_members_5 x2 me nsct (fun w4_1 w3_1 => post w3_1) n (0 : Int32) (0 : Int32)
set_option maxHeartbeats 4000000 in
set_option maxRecDepth 100000 in
theorem L_X2_members_5 {l : Launch} {D : va_G} {cI cS cT : ClassId} {ad : Nat → Nat} {b0 : Nat} {b1 : Nat} {E : CE} {v2 : Int32} {gc : Int32} {me : Nat → Int32} {nli : Int32} {nsct : Int32} {post : Int32 → Prop} (hC : Cx l D (TY cI cS cT) E rm_X2_members cX2_members RX2) (hR : RetI D E (fun (r : Int32) w => w = (Wd_X2_members cI cS cT ad b0 b1 gc me nli nsct) ∧ post r) 0 0 (some .int)) (hn : E.nL = 5) (K : Int32 → Int32 → Prop) (hK : ∀ (v4 : Int32) (v3 : Int32), K v4 v3 → G l D E 0 0 (Wd_X2_members cI cS cT ad b0 b1 gc me nli nsct) [(4, .int v4), (3, .int v3), (0, .ref (ad b0)), (1, .ref (ad b1)), (2, .int v2)] 42 []) : ∀ (n : Nat) (v4 : Int32) (v3 : Int32), P_X2_members_5 v2 me nsct K n v4 v3 → G l D E 0 0 (Wd_X2_members cI cS cT ad b0 b1 gc me nli nsct) [(4, .int v4), (3, .int v3), (0, .ref (ad b0)), (1, .ref (ad b1)), (2, .int v2)] 5 [] := by
  intro n
  induction n with
  | zero => exact fun _ _ h => h.elim
  | succ n ih =>
    intro v4 v3 h
    replace h : B_X2_members_5 v2 me nsct K (P_X2_members_5 v2 me nsct K n) v4 v3 := h
    unfold B_X2_members_5 at h
    refine g_iload 5 0 hC dX2_members_5 rfl ?_
    refine g_aload_n 7 3 hC dX2_members_7 rfl ?_
    refine g_getN 8 2 0 hC inlX7 nq_68 dX2_members_8 rfl rfl (by decide) rfl ?_
    refine g_getN 11 3 3 hC inlX6 nq_54 dX2_members_11 rfl rfl (by decide) rfl ?_
    refine g_icmp_ge 14 42 hC dX2_members_14 (by decide) (fun hc => ?_) (fun hc => ?_)
    · replace h := h.1 hc
      refine G.sub [0, 1, 2, 3, 4] rfl ?_
      exact hK v4 v3 h
    · replace h := h.2 hc
      refine g_iload_n 17 1 hC dX2_members_17 rfl ?_
      refine g_aload_n 18 2 hC dX2_members_18 rfl ?_
      refine g_get 19 0 1 hC inlX2 wq_87 dX2_members_19 rfl rfl (by decide) rfl ?_
      refine g_iload 22 0 hC dX2_members_22 rfl ?_
      obtain ⟨hj, h⟩ := h
      refine g_iald 24 1 hC dX2_members_24 rfl rfl hj ?_
      refine g_iload_n 25 4 hC dX2_members_25 rfl ?_
      refine g_icmp_ne 26 33 hC dX2_members_26 (by decide) (fun hc => ?_) (fun hc => ?_)
      · replace h := h.1 hc
        refine g_iconst (v := (0 : Int32)) 33 hC dX2_members_33 (by decide) ?_
        refine g_iadd 34 hC dX2_members_34 ?_
        refine g_istore_n 35 [(3, .int (v3 + (0 : Int32))), (4, .int v4), (0, .ref (ad b0)), (1, .ref (ad b1)), (2, .int v2)] hC dX2_members_35 (by rw [hn]; decide) rfl ?_
        refine g_iinc (v := (1 : Int32)) 36 1 [(4, .int (v4 + (1 : Int32))), (3, .int (v3 + (0 : Int32))), (0, .ref (ad b0)), (1, .ref (ad b1)), (2, .int v2)] hC dX2_members_36 rfl (by decide) (by rw [hn]; decide) rfl ?_
        refine g_goto 39 5 hC dX2_members_39 (by decide) ?_
        refine G.sub [0, 1, 2, 3, 4] rfl ?_
        exact ih _ _ h
      · replace h := h.2 hc
        refine g_iconst (v := (1 : Int32)) 29 hC dX2_members_29 (by decide) ?_
        refine g_goto 30 34 hC dX2_members_30 (by decide) ?_
        refine g_iadd 34 hC dX2_members_34 ?_
        refine g_istore_n 35 [(3, .int (v3 + (1 : Int32))), (4, .int v4), (0, .ref (ad b0)), (1, .ref (ad b1)), (2, .int v2)] hC dX2_members_35 (by rw [hn]; decide) rfl ?_
        refine g_iinc (v := (1 : Int32)) 36 1 [(4, .int (v4 + (1 : Int32))), (3, .int (v3 + (1 : Int32))), (0, .ref (ad b0)), (1, .ref (ad b1)), (2, .int v2)] hC dX2_members_36 rfl (by decide) (by rw [hn]; decide) rfl ?_
        refine g_goto 39 5 hC dX2_members_39 (by decide) ?_
        refine G.sub [0, 1, 2, 3, 4] rfl ?_
        exact ih _ _ h
set_option maxHeartbeats 4000000 in
set_option maxRecDepth 100000 in
theorem c_X2_members (l : Launch) (D : va_G) (cI cS cT : ClassId) (ad : Nat → Nat) (b0 : Nat) (b1 : Nat) (x2 : Int32) (gc : Int32) (me : Nat → Int32) (nli : Int32) (nsct : Int32) (post : Int32 → Prop) (h : P_X2_members x2 gc me nli nsct post) : MI l D (TY cI cS cT) yX2_members cX2_members 5 (some .int) rm_X2_members [.ref (ad b0), .ref (ad b1), .int x2] (Wd_X2_members cI cS cT ad b0 b1 gc me nli nsct) (fun (r : Int32) w => w = (Wd_X2_members cI cS cT ad b0 b1 gc me nli nsct) ∧ post r) := by
  refine MI.of (by decide) (Nat.le_of_ble_eq_true rfl) (fun E hC hR hn => ?_)
  replace hC : Cx l D (TY cI cS cT) E rm_X2_members cX2_members RX2 := hC
  replace hR : RetI D E (fun (r : Int32) w => w = (Wd_X2_members cI cS cT ad b0 b1 gc me nli nsct) ∧ post r) 0 0 (some .int) := hR
  unfold P_X2_members at h
  change G l D E 0 0 _ [(0, .ref (ad b0)), (1, .ref (ad b1)), (2, .int x2)] 0 []
  refine g_iconst (v := (0 : Int32)) 0 hC dX2_members_0 (by decide) ?_
  refine g_istore_n 1 [(3, .int (0 : Int32)), (0, .ref (ad b0)), (1, .ref (ad b1)), (2, .int x2)] hC dX2_members_1 (by rw [hn]; decide) rfl ?_
  refine g_iconst (v := (0 : Int32)) 2 hC dX2_members_2 (by decide) ?_
  refine g_istore 3 [(4, .int (0 : Int32)), (3, .int (0 : Int32)), (0, .ref (ad b0)), (1, .ref (ad b1)), (2, .int x2)] hC dX2_members_3 (by rw [hn]; decide) rfl ?_
  obtain ⟨n, h⟩ := h
  refine L_X2_members_5 hC hR hn _ (fun w4_1 w3_1 h => ?_) n _ _ h
  refine g_iload_n 42 1 hC dX2_members_42 rfl ?_
  exact g_iret 43 hC hR dX2_members_43 ⟨rfl, h⟩

/-! ===== ProverbCollection$Groups.regions(LProverbCollection$State;I)I ===== -/
def Wd_X2_regions (cI cS cT : ClassId) (ad : Nat → Nat) (b0 : Nat) (b1 : Nat) (gc : Int32) (me : Nat → Int32) (nli : Int32) (nsct : Int32) (nre : Nat → Int32) : va_W := [(ad b0, .inr (2, [.ref (ad (b0 + 1)), .ref (ad (b0 + 2)), .ref (ad (b0 + 3)), .int gc])), (ad (b0 + 2), .inl (cI, 12, .inl me)), (ad b1, .inr (7, [.ref (ad (b1 + 1)), .ref (ad (b1 + 4)), .ref (ad (b1 + 5)), .ref (ad (b1 + 6)), .ref (ad (b1 + 9)), .int nli])), (ad (b1 + 1), .inr (6, [.int 12, .ref (ad (b1 + 2)), .ref (ad (b1 + 3)), .int nsct])), (ad (b1 + 5), .inl (cI, 12, .inl nre))]
def rm_X2_regions : Room := { frames := 1, cells := 0, slots := 0, locals := 20 }
theorem kX2_regions : KV yX2_regions cX2_regions 5 (some .int) 2 := ⟨wq_329, wq_32, wq_327, wq_328, by decide +kernel⟩
def B_X2_regions_5 (v2 : Int32) (me : Nat → Int32) (nsct : Int32) (nre : Nat → Int32) (K : Int32 → Int32 → Prop) (rc : Int32 → Int32 → Prop) (v4 : Int32) (v3 : Int32) : Prop :=
  (nsct ≤ v4 → K v4 v3) ∧ (¬ nsct ≤ v4 → (vp_in v4 12 ∧ ((¬ (me (Int32.toNatClampNeg v4)) = v2 → rc (v4 + (1 : Int32)) v3) ∧ ((me (Int32.toNatClampNeg v4)) = v2 → (vp_in v4 12 ∧ (rc (v4 + (1 : Int32)) (v3 ||| ((1 : Int32) <<< ((nre (Int32.toNatClampNeg v4)) &&& 31)))))))))
def P_X2_regions_5 (v2 : Int32) (me : Nat → Int32) (nsct : Int32) (nre : Nat → Int32) (K : Int32 → Int32 → Prop) : Nat → Int32 → Int32 → Prop
  | 0 => fun _ _ => False
  | n + 1 => fun v4 v3 => B_X2_regions_5 v2 me nsct nre K (P_X2_regions_5 v2 me nsct nre K n) v4 v3
def P_X2_regions (x2 : Int32) (gc : Int32) (me : Nat → Int32) (nli : Int32) (nsct : Int32) (nre : Nat → Int32) (post : Int32 → Prop) : Prop :=
  ∃ n : Nat, P_X2_regions_5 x2 me nsct nre (fun w4_1 w3_1 => P_J6_bitCount_0f7a4 w3_1 (fun r2 => post r2)) n (0 : Int32) (0 : Int32)
set_option maxHeartbeats 4000000 in
set_option maxRecDepth 100000 in
theorem L_X2_regions_5 {l : Launch} {D : va_G} {cI cS cT : ClassId} {ad : Nat → Nat} {b0 : Nat} {b1 : Nat} {E : CE} {v2 : Int32} {gc : Int32} {me : Nat → Int32} {nli : Int32} {nsct : Int32} {nre : Nat → Int32} {post : Int32 → Prop} (hC : Cx l D (TY cI cS cT) E rm_X2_regions cX2_regions RX2) (hR : RetI D E (fun (r : Int32) w => w = (Wd_X2_regions cI cS cT ad b0 b1 gc me nli nsct nre) ∧ post r) 0 0 (some .int)) (hn : E.nL = 5) (K : Int32 → Int32 → Prop) (hK : ∀ (v4 : Int32) (v3 : Int32), K v4 v3 → G l D E 0 0 (Wd_X2_regions cI cS cT ad b0 b1 gc me nli nsct nre) [(4, .int v4), (3, .int v3), (0, .ref (ad b0)), (1, .ref (ad b1)), (2, .int v2)] 46 []) : ∀ (n : Nat) (v4 : Int32) (v3 : Int32), P_X2_regions_5 v2 me nsct nre K n v4 v3 → G l D E 0 0 (Wd_X2_regions cI cS cT ad b0 b1 gc me nli nsct nre) [(4, .int v4), (3, .int v3), (0, .ref (ad b0)), (1, .ref (ad b1)), (2, .int v2)] 5 [] := by
  intro n
  induction n with
  | zero => exact fun _ _ h => h.elim
  | succ n ih =>
    intro v4 v3 h
    replace h : B_X2_regions_5 v2 me nsct nre K (P_X2_regions_5 v2 me nsct nre K n) v4 v3 := h
    unfold B_X2_regions_5 at h
    refine g_iload 5 0 hC dX2_regions_5 rfl ?_
    refine g_aload_n 7 3 hC dX2_regions_7 rfl ?_
    refine g_getN 8 2 0 hC inlX7 nq_68 dX2_regions_8 rfl rfl (by decide) rfl ?_
    refine g_getN 11 3 3 hC inlX6 nq_54 dX2_regions_11 rfl rfl (by decide) rfl ?_
    refine g_icmp_ge 14 46 hC dX2_regions_14 (by decide) (fun hc => ?_) (fun hc => ?_)
    · replace h := h.1 hc
      refine G.sub [0, 1, 2, 3, 4] rfl ?_
      exact hK v4 v3 h
    · replace h := h.2 hc
      refine g_aload_n 17 2 hC dX2_regions_17 rfl ?_
      refine g_get 18 0 1 hC inlX2 wq_87 dX2_regions_18 rfl rfl (by decide) rfl ?_
      refine g_iload 21 0 hC dX2_regions_21 rfl ?_
      obtain ⟨hj, h⟩ := h
      refine g_iald 23 1 hC dX2_regions_23 rfl rfl hj ?_
      refine g_iload_n 24 4 hC dX2_regions_24 rfl ?_
      refine g_icmp_ne 25 40 hC dX2_regions_25 (by decide) (fun hc => ?_) (fun hc => ?_)
      · replace h := h.1 hc
        refine g_iinc (v := (1 : Int32)) 40 0 [(4, .int (v4 + (1 : Int32))), (3, .int v3), (0, .ref (ad b0)), (1, .ref (ad b1)), (2, .int v2)] hC dX2_regions_40 rfl (by decide) (by rw [hn]; decide) rfl ?_
        refine g_goto 43 5 hC dX2_regions_43 (by decide) ?_
        refine G.sub [0, 1, 2, 3, 4] rfl ?_
        exact ih _ _ h
      · replace h := h.2 hc
        refine g_iload_n 28 1 hC dX2_regions_28 rfl ?_
        refine g_iconst (v := (1 : Int32)) 29 hC dX2_regions_29 (by decide) ?_
        refine g_aload_n 30 3 hC dX2_regions_30 rfl ?_
        refine g_getN 31 2 2 hC inlX7 nq_72 dX2_regions_31 rfl rfl (by decide) rfl ?_
        refine g_iload 34 0 hC dX2_regions_34 rfl ?_
        obtain ⟨hj, h⟩ := h
        refine g_iald 36 4 hC dX2_regions_36 rfl rfl hj ?_
        refine g_ishl 37 hC dX2_regions_37 ?_
        refine g_ior 38 hC dX2_regions_38 ?_
        refine g_istore_n 39 [(3, .int (v3 ||| ((1 : Int32) <<< ((nre (Int32.toNatClampNeg v4)) &&& 31)))), (4, .int v4), (0, .ref (ad b0)), (1, .ref (ad b1)), (2, .int v2)] hC dX2_regions_39 (by rw [hn]; decide) rfl ?_
        refine g_iinc (v := (1 : Int32)) 40 1 [(4, .int (v4 + (1 : Int32))), (3, .int (v3 ||| ((1 : Int32) <<< ((nre (Int32.toNatClampNeg v4)) &&& 31)))), (0, .ref (ad b0)), (1, .ref (ad b1)), (2, .int v2)] hC dX2_regions_40 rfl (by decide) (by rw [hn]; decide) rfl ?_
        refine g_goto 43 5 hC dX2_regions_43 (by decide) ?_
        refine G.sub [0, 1, 2, 3, 4] rfl ?_
        exact ih _ _ h
set_option maxHeartbeats 4000000 in
set_option maxRecDepth 100000 in
theorem c_X2_regions (l : Launch) (D : va_G) (cI cS cT : ClassId) (ad : Nat → Nat) (b0 : Nat) (b1 : Nat) (x2 : Int32) (gc : Int32) (me : Nat → Int32) (nli : Int32) (nsct : Int32) (nre : Nat → Int32) (post : Int32 → Prop) (h : P_X2_regions x2 gc me nli nsct nre post) : MI l D (TY cI cS cT) yX2_regions cX2_regions 5 (some .int) rm_X2_regions [.ref (ad b0), .ref (ad b1), .int x2] (Wd_X2_regions cI cS cT ad b0 b1 gc me nli nsct nre) (fun (r : Int32) w => w = (Wd_X2_regions cI cS cT ad b0 b1 gc me nli nsct nre) ∧ post r) := by
  refine MI.of (by decide) (Nat.le_of_ble_eq_true rfl) (fun E hC hR hn => ?_)
  replace hC : Cx l D (TY cI cS cT) E rm_X2_regions cX2_regions RX2 := hC
  replace hR : RetI D E (fun (r : Int32) w => w = (Wd_X2_regions cI cS cT ad b0 b1 gc me nli nsct nre) ∧ post r) 0 0 (some .int) := hR
  unfold P_X2_regions at h
  change G l D E 0 0 _ [(0, .ref (ad b0)), (1, .ref (ad b1)), (2, .int x2)] 0 []
  refine g_iconst (v := (0 : Int32)) 0 hC dX2_regions_0 (by decide) ?_
  refine g_istore_n 1 [(3, .int (0 : Int32)), (0, .ref (ad b0)), (1, .ref (ad b1)), (2, .int x2)] hC dX2_regions_1 (by rw [hn]; decide) rfl ?_
  refine g_iconst (v := (0 : Int32)) 2 hC dX2_regions_2 (by decide) ?_
  refine g_istore 3 [(4, .int (0 : Int32)), (3, .int (0 : Int32)), (0, .ref (ad b0)), (1, .ref (ad b1)), (2, .int x2)] hC dX2_regions_3 (by rw [hn]; decide) rfl ?_
  obtain ⟨n, h⟩ := h
  refine L_X2_regions_5 hC hR hn _ (fun w4_1 w3_1 h => ?_) n _ _ h
  refine g_iload_n 46 1 hC dX2_regions_46 rfl ?_
  refine g_cSi (As := [.int w3_1]) (rest := []) 47 [] hC (c_J6_bitCount_0f7a4 l D cI cS cT ad w3_1 _ h) kJ6_bitCount_0f7a4 wq_330 dX2_regions_47 ⟨Nat.le_of_ble_eq_true rfl, Nat.le_of_ble_eq_true rfl⟩ rfl rfl (Nat.zero_le _) (Nat.zero_le _) rfl rfl rfl (Nat.le_of_ble_eq_true rfl) ?_
  rintro r2 _ ⟨rfl, h⟩
  refine ⟨Nat.le_of_ble_eq_true rfl, G.upd [0, 1, 2, 3, 4] (Wd_X2_regions cI cS cT ad b0 b1 gc me nli nsct nre) rfl rfl rfl rfl rfl ?_⟩
  exact g_iret 50 hC hR dX2_regions_50 ⟨rfl, h⟩

/-! ===== ProverbCollection$Groups.radius(LProverbCollection$State;LProverbCollection$Edits;I)I ===== -/
def Wd_X2_radius (cI cS cT : ClassId) (ad : Nat → Nat) (b0 : Nat) (b1 : Nat) (b2 : Nat) (gc : Int32) (me : Nat → Int32) (ce : Nat → Int32) (nli : Int32) (nsct : Int32) (nstk : Nat → Int32) (nsle : Nat → Int32) (nco : Nat → Int32) (eld : Int32) (efln : Int32) (eftk : Nat → Int32) (egln : Int32) (egtk : Nat → Int32) (etb : Nat → Nat → Int32) : va_W := [(ad b0, .inr (2, [.ref (ad (b0 + 1)), .ref (ad (b0 + 2)), .ref (ad (b0 + 3)), .int gc])), (ad (b0 + 2), .inl (cI, 12, .inl me)), (ad (b0 + 3), .inl (cI, 12, .inl ce)), (ad b1, .inr (7, [.ref (ad (b1 + 1)), .ref (ad (b1 + 4)), .ref (ad (b1 + 5)), .ref (ad (b1 + 6)), .ref (ad (b1 + 9)), .int nli])), (ad (b1 + 1), .inr (6, [.int 12, .ref (ad (b1 + 2)), .ref (ad (b1 + 3)), .int nsct])), (ad (b1 + 2), .inl (cI, 96, .inl nstk)), (ad (b1 + 3), .inl (cI, 12, .inl nsle)), (ad (b1 + 9), .inl (cI, 4, .inl nco)), (ad b2, .inr (1, [.ref (ad (b2 + 1)), .ref (ad (b2 + 3)), .ref (ad (b2 + 5)), .ref (ad (b2 + 15)), .int eld])), (ad (b2 + 1), .inr (5, [.ref (ad (b2 + 2)), .int efln])), (ad (b2 + 2), .inl (cI, 8, .inl eftk)), (ad (b2 + 3), .inr (5, [.ref (ad (b2 + 4)), .int egln])), (ad (b2 + 4), .inl (cI, 8, .inl egtk)), (ad (b2 + 5), .inl (cT, 9, .inr (.inr (.inr (.inr (fun i => if i < 9 then some (ad (b2 + 6 + i)) else none)))))), (ad (b2 + 6 + 0), .inl (cI, 9, .inl (etb 0))), (ad (b2 + 6 + 1), .inl (cI, 9, .inl (etb 1))), (ad (b2 + 6 + 2), .inl (cI, 9, .inl (etb 2))), (ad (b2 + 6 + 3), .inl (cI, 9, .inl (etb 3))), (ad (b2 + 6 + 4), .inl (cI, 9, .inl (etb 4))), (ad (b2 + 6 + 5), .inl (cI, 9, .inl (etb 5))), (ad (b2 + 6 + 6), .inl (cI, 9, .inl (etb 6))), (ad (b2 + 6 + 7), .inl (cI, 9, .inl (etb 7))), (ad (b2 + 6 + 8), .inl (cI, 9, .inl (etb 8)))]
def rm_X2_radius : Room := { frames := 5, cells := 0, slots := 0, locals := 119 }
theorem kX2_radius : KV yX2_radius cX2_radius 6 (some .int) 3 := ⟨wq_339, wq_32, wq_337, wq_338, by decide +kernel⟩
def B_X2_radius_6 (v3 : Int32) (gc : Int32) (me : Nat → Int32) (ce : Nat → Int32) (nli : Int32) (nsct : Int32) (nstk : Nat → Int32) (nsle : Nat → Int32) (nco : Nat → Int32) (eld : Int32) (K : Int32 → Int32 → Int32 → (Nat → Int32) → Int32 → (Nat → Int32) → (Nat → Nat → Int32) → Prop) (rc : Int32 → Int32 → Int32 → (Nat → Int32) → Int32 → (Nat → Int32) → (Nat → Nat → Int32) → Prop) (v5 : Int32) (v4 : Int32) (efln : Int32) (eftk : Nat → Int32) (egln : Int32) (egtk : Nat → Int32) (etb : Nat → Nat → Int32) : Prop :=
  (nsct ≤ v5 → K v5 v4 efln eftk egln egtk etb) ∧ (¬ nsct ≤ v5 → (vp_in v5 12 ∧ ((¬ (me (Int32.toNatClampNeg v5)) = v3 → rc (v5 + (1 : Int32)) v4 efln eftk egln egtk etb) ∧ ((me (Int32.toNatClampNeg v5)) = v3 → P_X2_centre v3 gc ce (fun r1 => P_X1_between r1 v5 eld efln eftk egln egtk etb nli nsct nstk nsle nco (fun r7 u2 u3 u4 u5 u6 => rc (v5 + (1 : Int32)) (if v4 < r7 then r7 else v4) u2 u3 u4 u5 u6))))))
def P_X2_radius_6 (v3 : Int32) (gc : Int32) (me : Nat → Int32) (ce : Nat → Int32) (nli : Int32) (nsct : Int32) (nstk : Nat → Int32) (nsle : Nat → Int32) (nco : Nat → Int32) (eld : Int32) (K : Int32 → Int32 → Int32 → (Nat → Int32) → Int32 → (Nat → Int32) → (Nat → Nat → Int32) → Prop) : Nat → Int32 → Int32 → Int32 → (Nat → Int32) → Int32 → (Nat → Int32) → (Nat → Nat → Int32) → Prop
  | 0 => fun _ _ _ _ _ _ _ => False
  | n + 1 => fun v5 v4 efln eftk egln egtk etb => B_X2_radius_6 v3 gc me ce nli nsct nstk nsle nco eld K (P_X2_radius_6 v3 gc me ce nli nsct nstk nsle nco eld K n) v5 v4 efln eftk egln egtk etb
def P_X2_radius (x3 : Int32) (gc : Int32) (me : Nat → Int32) (ce : Nat → Int32) (nli : Int32) (nsct : Int32) (nstk : Nat → Int32) (nsle : Nat → Int32) (nco : Nat → Int32) (eld : Int32) (efln : Int32) (eftk : Nat → Int32) (egln : Int32) (egtk : Nat → Int32) (etb : Nat → Nat → Int32) (post : Int32 → Int32 → (Nat → Int32) → Int32 → (Nat → Int32) → (Nat → Nat → Int32) → Prop) : Prop :=
  ∃ n : Nat, P_X2_radius_6 x3 gc me ce nli nsct nstk nsle nco eld (fun w5_8 w4_8 efln_8 eftk_8 egln_8 egtk_8 etb_8 => post w4_8 efln_8 eftk_8 egln_8 egtk_8 etb_8) n (0 : Int32) (0 : Int32) efln eftk egln egtk etb
set_option maxHeartbeats 4000000 in
set_option maxRecDepth 100000 in
theorem L_X2_radius_6 {l : Launch} {D : va_G} {cI cS cT : ClassId} {ad : Nat → Nat} {b0 : Nat} {b1 : Nat} {b2 : Nat} {E : CE} {v3 : Int32} {gc : Int32} {me : Nat → Int32} {ce : Nat → Int32} {nli : Int32} {nsct : Int32} {nstk : Nat → Int32} {nsle : Nat → Int32} {nco : Nat → Int32} {eld : Int32} {post : Int32 → Int32 → (Nat → Int32) → Int32 → (Nat → Int32) → (Nat → Nat → Int32) → Prop} (hC : Cx l D (TY cI cS cT) E rm_X2_radius cX2_radius RX2) (hR : RetI D E (fun (r : Int32) w => ∃ (u_efln : Int32) (u_eftk : Nat → Int32) (u_egln : Int32) (u_egtk : Nat → Int32) (u_etb : Nat → Nat → Int32), w = (Wd_X2_radius cI cS cT ad b0 b1 b2 gc me ce nli nsct nstk nsle nco eld u_efln u_eftk u_egln u_egtk u_etb) ∧ post r u_efln u_eftk u_egln u_egtk u_etb) 0 0 (some .int)) (hn : E.nL = 6) (K : Int32 → Int32 → Int32 → (Nat → Int32) → Int32 → (Nat → Int32) → (Nat → Nat → Int32) → Prop) (hK : ∀ (v5 : Int32) (v4 : Int32) (efln : Int32) (eftk : Nat → Int32) (egln : Int32) (egtk : Nat → Int32) (etb : Nat → Nat → Int32), K v5 v4 efln eftk egln egtk etb → G l D E 0 0 (Wd_X2_radius cI cS cT ad b0 b1 b2 gc me ce nli nsct nstk nsle nco eld efln eftk egln egtk etb) [(5, .int v5), (4, .int v4), (0, .ref (ad b0)), (1, .ref (ad b1)), (2, .ref (ad b2)), (3, .int v3)] 54 []) : ∀ (n : Nat) (v5 : Int32) (v4 : Int32) (efln : Int32) (eftk : Nat → Int32) (egln : Int32) (egtk : Nat → Int32) (etb : Nat → Nat → Int32), P_X2_radius_6 v3 gc me ce nli nsct nstk nsle nco eld K n v5 v4 efln eftk egln egtk etb → G l D E 0 0 (Wd_X2_radius cI cS cT ad b0 b1 b2 gc me ce nli nsct nstk nsle nco eld efln eftk egln egtk etb) [(5, .int v5), (4, .int v4), (0, .ref (ad b0)), (1, .ref (ad b1)), (2, .ref (ad b2)), (3, .int v3)] 6 [] := by
  intro n
  induction n with
  | zero => exact fun _ _ _ _ _ _ _ h => h.elim
  | succ n ih =>
    intro v5 v4 efln eftk egln egtk etb h
    replace h : B_X2_radius_6 v3 gc me ce nli nsct nstk nsle nco eld K (P_X2_radius_6 v3 gc me ce nli nsct nstk nsle nco eld K n) v5 v4 efln eftk egln egtk etb := h
    unfold B_X2_radius_6 at h
    refine g_iload 6 0 hC dX2_radius_6 rfl ?_
    refine g_aload_n 8 3 hC dX2_radius_8 rfl ?_
    refine g_getN 9 3 0 hC inlX7 nq_68 dX2_radius_9 rfl rfl (by decide) rfl ?_
    refine g_getN 12 4 3 hC inlX6 nq_54 dX2_radius_12 rfl rfl (by decide) rfl ?_
    refine g_icmp_ge 15 54 hC dX2_radius_15 (by decide) (fun hc => ?_) (fun hc => ?_)
    · replace h := h.1 hc
      refine G.sub [0, 1, 2, 3, 4, 5] rfl ?_
      exact hK v5 v4 efln eftk egln egtk etb h
    · replace h := h.2 hc
      refine g_aload_n 18 2 hC dX2_radius_18 rfl ?_
      refine g_get 19 0 1 hC inlX2 wq_87 dX2_radius_19 rfl rfl (by decide) rfl ?_
      refine g_iload 22 0 hC dX2_radius_22 rfl ?_
      obtain ⟨hj, h⟩ := h
      refine g_iald 24 1 hC dX2_radius_24 rfl rfl hj ?_
      refine g_iload_n 25 5 hC dX2_radius_25 rfl ?_
      refine g_icmp_ne 26 48 hC dX2_radius_26 (by decide) (fun hc => ?_) (fun hc => ?_)
      · replace h := h.1 hc
        refine g_iinc (v := (1 : Int32)) 48 0 [(5, .int (v5 + (1 : Int32))), (4, .int v4), (0, .ref (ad b0)), (1, .ref (ad b1)), (2, .ref (ad b2)), (3, .int v3)] hC dX2_radius_48 rfl (by decide) (by rw [hn]; decide) rfl ?_
        refine g_goto 51 6 hC dX2_radius_51 (by decide) ?_
        refine G.sub [0, 1, 2, 3, 4, 5] rfl ?_
        exact ih _ _ _ _ _ _ _ h
      · replace h := h.2 hc
        refine g_iload 29 1 hC dX2_radius_29 rfl ?_
        refine g_aload_n 31 4 hC dX2_radius_31 rfl ?_
        refine g_aload_n 32 3 hC dX2_radius_32 rfl ?_
        refine g_aload_n 33 2 hC dX2_radius_33 rfl ?_
        refine g_iload_n 34 5 hC dX2_radius_34 rfl ?_
        refine g_cVi (As := [.int v3]) (rest := [.ref (ad b1), .ref (ad b2), .int v4]) 35 0 [0, 2] hC (c_X2_centre l D cI cS cT ad b0 v3 gc ce _ h) kX2_centre wq_341 dX2_radius_35 rfl rfl ⟨Nat.le_of_ble_eq_true rfl, Nat.le_of_ble_eq_true rfl⟩ rfl rfl (Nat.zero_le _) (Nat.zero_le _) rfl rfl rfl (Nat.le_of_ble_eq_true rfl) ?_
        rintro r1 _ ⟨rfl, h⟩
        refine ⟨Nat.le_of_ble_eq_true rfl, G.upd [1, 3, 4, 5, 6, 7, 8, 9, 10, 11, 12, 13, 14, 15, 16, 17, 18, 19, 20, 21, 22] (Wd_X2_radius cI cS cT ad b0 b1 b2 gc me ce nli nsct nstk nsle nco eld efln eftk egln egtk etb) rfl rfl rfl rfl rfl ?_⟩
        refine g_iload 38 0 hC dX2_radius_38 rfl ?_
        refine g_cVNi (As := [.ref (ad b1), .int r1, .int v5]) (rest := [.int v4]) 40 8 [8, 9, 10, 11, 12, 13, 14, 15, 16, 17, 18, 19, 20, 21, 22, 3, 4, 5, 6, 7] hC (c_X1_between l D cI cS cT ad b2 b1 r1 v5 eld efln eftk egln egtk etb nli nsct nstk nsle nco _ h) kX1_between nq_374 dX2_radius_40 rfl rfl ⟨Nat.le_of_ble_eq_true rfl, Nat.le_of_ble_eq_true rfl⟩ rfl rfl (Nat.zero_le _) (Nat.zero_le _) rfl rfl rfl (Nat.le_of_ble_eq_true rfl) ?_
        rintro r7 _ ⟨u2, u3, u4, u5, u6, rfl, h⟩
        refine ⟨Nat.le_of_ble_eq_true rfl, G.upd [0, 1, 2] (Wd_X2_radius cI cS cT ad b0 b1 b2 gc me ce nli nsct nstk nsle nco eld u2 u3 u4 u5 u6) rfl rfl rfl rfl rfl ?_⟩
        refine g_max 43 hC wq_340 dX2_radius_43 (Nat.le_of_ble_eq_true rfl) (Nat.le_of_ble_eq_true rfl) (Nat.zero_le _) (Nat.zero_le _) ?_
        refine g_istore 46 [(4, .int (if v4 < r7 then r7 else v4)), (5, .int v5), (0, .ref (ad b0)), (1, .ref (ad b1)), (2, .ref (ad b2)), (3, .int v3)] hC dX2_radius_46 (by rw [hn]; decide) rfl ?_
        refine g_iinc (v := (1 : Int32)) 48 1 [(5, .int (v5 + (1 : Int32))), (4, .int (if v4 < r7 then r7 else v4)), (0, .ref (ad b0)), (1, .ref (ad b1)), (2, .ref (ad b2)), (3, .int v3)] hC dX2_radius_48 rfl (by decide) (by rw [hn]; decide) rfl ?_
        refine g_goto 51 6 hC dX2_radius_51 (by decide) ?_
        refine G.sub [0, 1, 2, 3, 4, 5] rfl ?_
        exact ih _ _ _ _ _ _ _ h
set_option maxHeartbeats 4000000 in
set_option maxRecDepth 100000 in
theorem c_X2_radius (l : Launch) (D : va_G) (cI cS cT : ClassId) (ad : Nat → Nat) (b0 : Nat) (b1 : Nat) (b2 : Nat) (x3 : Int32) (gc : Int32) (me : Nat → Int32) (ce : Nat → Int32) (nli : Int32) (nsct : Int32) (nstk : Nat → Int32) (nsle : Nat → Int32) (nco : Nat → Int32) (eld : Int32) (efln : Int32) (eftk : Nat → Int32) (egln : Int32) (egtk : Nat → Int32) (etb : Nat → Nat → Int32) (post : Int32 → Int32 → (Nat → Int32) → Int32 → (Nat → Int32) → (Nat → Nat → Int32) → Prop) (h : P_X2_radius x3 gc me ce nli nsct nstk nsle nco eld efln eftk egln egtk etb post) : MI l D (TY cI cS cT) yX2_radius cX2_radius 6 (some .int) rm_X2_radius [.ref (ad b0), .ref (ad b1), .ref (ad b2), .int x3] (Wd_X2_radius cI cS cT ad b0 b1 b2 gc me ce nli nsct nstk nsle nco eld efln eftk egln egtk etb) (fun (r : Int32) w => ∃ (u_efln : Int32) (u_eftk : Nat → Int32) (u_egln : Int32) (u_egtk : Nat → Int32) (u_etb : Nat → Nat → Int32), w = (Wd_X2_radius cI cS cT ad b0 b1 b2 gc me ce nli nsct nstk nsle nco eld u_efln u_eftk u_egln u_egtk u_etb) ∧ post r u_efln u_eftk u_egln u_egtk u_etb) := by
  refine MI.of (by decide) (Nat.le_of_ble_eq_true rfl) (fun E hC hR hn => ?_)
  replace hC : Cx l D (TY cI cS cT) E rm_X2_radius cX2_radius RX2 := hC
  replace hR : RetI D E (fun (r : Int32) w => ∃ (u_efln : Int32) (u_eftk : Nat → Int32) (u_egln : Int32) (u_egtk : Nat → Int32) (u_etb : Nat → Nat → Int32), w = (Wd_X2_radius cI cS cT ad b0 b1 b2 gc me ce nli nsct nstk nsle nco eld u_efln u_eftk u_egln u_egtk u_etb) ∧ post r u_efln u_eftk u_egln u_egtk u_etb) 0 0 (some .int) := hR
  unfold P_X2_radius at h
  change G l D E 0 0 _ [(0, .ref (ad b0)), (1, .ref (ad b1)), (2, .ref (ad b2)), (3, .int x3)] 0 []
  refine g_iconst (v := (0 : Int32)) 0 hC dX2_radius_0 (by decide) ?_
  refine g_istore 1 [(4, .int (0 : Int32)), (0, .ref (ad b0)), (1, .ref (ad b1)), (2, .ref (ad b2)), (3, .int x3)] hC dX2_radius_1 (by rw [hn]; decide) rfl ?_
  refine g_iconst (v := (0 : Int32)) 3 hC dX2_radius_3 (by decide) ?_
  refine g_istore 4 [(5, .int (0 : Int32)), (4, .int (0 : Int32)), (0, .ref (ad b0)), (1, .ref (ad b1)), (2, .ref (ad b2)), (3, .int x3)] hC dX2_radius_4 (by rw [hn]; decide) rfl ?_
  obtain ⟨n, h⟩ := h
  refine L_X2_radius_6 hC hR hn _ (fun w5_8 w4_8 efln_8 eftk_8 egln_8 egtk_8 etb_8 h => ?_) n _ _ _ _ _ _ _ h
  refine g_iload 54 1 hC dX2_radius_54 rfl ?_
  exact g_iret 56 hC hR dX2_radius_56 ⟨efln_8, eftk_8, egln_8, egtk_8, etb_8, rfl, h⟩
