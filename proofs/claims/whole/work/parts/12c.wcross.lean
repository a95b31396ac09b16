/-! written by wip/whole/gen/walk.py: worlds, predicates and contracts -/
/-! ===== ProverbCollection$Crossings.cost(LProverbCollection$State;LProverbCollection$Edits;III)I ===== -/
def Wd_X0_cost (cI cS cT : ClassId) (ad : Nat → Nat) (b0 : Nat) (b1 : Nat) (b2 : Nat) (fln : Int32) (ftk : Nat → Int32) (bln : Int32) (btk : Nat → Int32) (nli : Int32) (nsct : Int32) (nstk : Nat → Int32) (nsle : Nat → Int32) (nco : Nat → Int32) (eld : Int32) (efln : Int32) (eftk : Nat → Int32) (egln : Int32) (egtk : Nat → Int32) (etb : Nat → Nat → Int32) : va_W := [(ad b0, .inr (0, [.ref (ad (b0 + 1)), .ref (ad (b0 + 3)), .ref (ad (b0 + 5)), .ref (ad (b0 + 6))])), (ad (b0 + 1), .inr (5, [.ref (ad (b0 + 2)), .int fln])), (ad (b0 + 2), .inl (cI, 8, .inl ftk)), (ad (b0 + 3), .inr (5, [.ref (ad (b0 + 4)), .int bln])), (ad (b0 + 4), .inl (cI, 8, .inl btk)), (ad b1, .inr (7, [.ref (ad (b1 + 1)), .ref (ad (b1 + 4)), .ref (ad (b1 + 5)), .ref (ad (b1 + 6)), .ref (ad (b1 + 9)), .int nli])), (ad (b1 + 1), .inr (6, [.int 12, .ref (ad (b1 + 2)), .ref (ad (b1 + 3)), .int nsct])), (ad (b1 + 2), .inl (cI, 96, .inl nstk)), (ad (b1 + 3), .inl (cI, 12, .inl nsle)), (ad (b1 + 9), .inl (cI, 4, .inl nco)), (ad b2, .inr (1, [.ref (ad (b2 + 1)), .ref (ad (b2 + 3)), .ref (ad (b2 + 5)), .ref (ad (b2 + 15)), .int eld])), (ad (b2 + 1), .inr (5, [.ref (ad (b2 + 2)), .int efln])), (ad (b2 + 2), .inl (cI, 8, .inl eftk)), (ad (b2 + 3), .inr (5, [.ref (ad (b2 + 4)), .int egln])), (ad (b2 + 4), .inl (cI, 8, .inl egtk)), (ad (b2 + 5), .inl (cT, 9, .inr (.inr (.inr (.inr (fun i => if i < 9 then some (ad (b2 + 6 + i)) else none)))))), (ad (b2 + 6 + 0), .inl (cI, 9, .inl (etb 0))), (ad (b2 + 6 + 1), .inl (cI, 9, .inl (etb 1))), (ad (b2 + 6 + 2), .inl (cI, 9, .inl (etb 2))), (ad (b2 + 6 + 3), .inl (cI, 9, .inl (etb 3))), (ad (b2 + 6 + 4), .inl (cI, 9, .inl (etb 4))), (ad (b2 + 6 + 5), .inl (cI, 9, .inl (etb 5))), (ad (b2 + 6 + 6), .inl (cI, 9, .inl (etb 6))), (ad (b2 + 6 + 7), .inl (cI, 9, .inl (etb 7))), (ad (b2 + 6 + 8), .inl (cI, 9, .inl (etb 8)))]
def rm_X0_cost : Room := { frames := 4, cells := 0, slots := 0, locals := 96 }
theorem kX0_cost : KV yX0_cost cX0_cost 9 (some .int) 5 := ⟨wq_593, wq_38, wq_591, wq_592, by decide +kernel⟩
def B_X0_cost_60 (v7 : Int32) (fln : Int32) (ftk : Nat → Int32) (bln : Int32) (btk : Nat → Int32) (nco : Nat → Int32) (eld : Int32) (efln : Int32) (eftk : Nat → Int32) (K : Int32 → Int32 → Int32 → (Nat → Int32) → (Nat → Nat → Int32) → Prop) (rc : Int32 → Int32 → Int32 → (Nat → Int32) → (Nat → Nat → Int32) → Prop) (v8 : Int32) (v6 : Int32) (egln : Int32) (egtk : Nat → Int32) (etb : Nat → Nat → Int32) : Prop :=
  (bln ≤ v8 → K v8 v6 egln egtk etb) ∧ (¬ bln ≤ v8 → (((8 : Int32) < (v7 + v8) → K v8 v6 egln egtk etb) ∧ (¬ (8 : Int32) < (v7 + v8) → P_X5_addPart (0 : Int32) v7 (0 : Int32) egtk fln ftk (fun u10 u11 => P_X5_addPart (bln - v8) bln u10 u11 bln btk (fun u13 u14 => P_X1_measure 4 eld efln eftk u13 u14 etb nco (fun r17 u16 => rc (v8 + (1 : Int32)) (if r17 < v6 then r17 else v6) u13 u14 u16))))))
def P_X0_cost_60 (v7 : Int32) (fln : Int32) (ftk : Nat → Int32) (bln : Int32) (btk : Nat → Int32) (nco : Nat → Int32) (eld : Int32) (efln : Int32) (eftk : Nat → Int32) (K : Int32 → Int32 → Int32 → (Nat → Int32) → (Nat → Nat → Int32) → Prop) : Nat → Int32 → Int32 → Int32 → (Nat → Int32) → (Nat → Nat → Int32) → Prop
  | 0 => fun _ _ _ _ _ => False
  | n + 1 => fun v8 v6 egln egtk etb => B_X0_cost_60 v7 fln ftk bln btk nco eld efln eftk K (P_X0_cost_60 v7 fln ftk bln btk nco eld efln eftk K n) v8 v6 egln egtk etb
def B_X0_cost_45 (fln : Int32) (ftk : Nat → Int32) (bln : Int32) (btk : Nat → Int32) (nco : Nat → Int32) (eld : Int32) (efln : Int32) (eftk : Nat → Int32) (K : Int32 → Int32 → Int32 → (Nat → Int32) → (Nat → Nat → Int32) → Prop) (rc : Int32 → Int32 → Int32 → (Nat → Int32) → (Nat → Nat → Int32) → Prop) (v7 : Int32) (v6 : Int32) (egln : Int32) (egtk : Nat → Int32) (etb : Nat → Nat → Int32) : Prop :=
  (fln ≤ v7 → K v7 v6 egln egtk etb) ∧ (¬ fln ≤ v7 → (∃ n : Nat, P_X0_cost_60 v7 fln ftk bln btk nco eld efln eftk (fun w8_18 w6_18 egln_18 egtk_18 etb_18 => rc (v7 + (1 : Int32)) w6_18 egln_18 egtk_18 etb_18) n (1 : Int32) v6 egln egtk etb))
def P_X0_cost_45 (fln : Int32) (ftk : Nat → Int32) (bln : Int32) (btk : Nat → Int32) (nco : Nat → Int32) (eld : Int32) (efln : Int32) (eftk : Nat → Int32) (K : Int32 → Int32 → Int32 → (Nat → Int32) → (Nat → Nat → Int32) → Prop) : Nat → Int32 → Int32 → Int32 → (Nat → Int32) → (Nat → Nat → Int32) → Prop
  | 0 => fun _ _ _ _ _ => False
  | n + 1 => fun v7 v6 egln egtk etb => B_X0_cost_45 fln ftk bln btk nco eld efln eftk K (P_X0_cost_45 fln ftk bln btk nco eld efln eftk K n) v7 v6 egln egtk etb
def P_X0_cost (x3 : Int32) (x4 : Int32) (x5 : Int32) (fln : Int32) (ftk : Nat → Int32) (bln : Int32) (btk : Nat → Int32) (nli : Int32) (nsct : Int32) (nstk : Nat → Int32) (nsle : Nat → Int32) (nco : Nat → Int32) (eld : Int32) (efln : Int32) (eftk : Nat → Int32) (egln : Int32) (egtk : Nat → Int32) (etb : Nat → Nat → Int32) (post : Int32 → Int32 → (Nat → Int32) → Int32 → (Nat → Int32) → Int32 → (Nat → Int32) → Int32 → (Nat → Int32) → (Nat → Nat → Int32) → Prop) : Prop :=
  P_X6_load (12 : Int32) 96 12 x3 nsct nstk nsle efln eftk (fun u1 u2 => P_X6_load (12 : Int32) 96 12 x4 nsct nstk nsle fln ftk (fun u4 u5 => P_X6_load (12 : Int32) 96 12 x5 nsct nstk nsle bln btk (fun u7 u8 => ∃ n : Nat, P_X0_cost_45 u4 u5 u7 u8 nco eld u1 u2 (fun w7_19 w6_19 egln_19 egtk_19 etb_19 => post w6_19 u4 u5 u7 u8 u1 u2 egln_19 egtk_19 etb_19) n (1 : Int32) (1000000 : Int32) egln egtk etb)))
set_option maxHeartbeats 4000000 in
set_option maxRecDepth 100000 in
theorem L_X0_cost_60 {l : Launch} {D : va_G} {cI cS cT : ClassId} {ad : Nat → Nat} {b0 : Nat} {b1 : Nat} {b2 : Nat} {E : CE} {v7 : Int32} {v3 : Int32} {v4 : Int32} {v5 : Int32} {fln : Int32} {ftk : Nat → Int32} {bln : Int32} {btk : Nat → Int32} {nli : Int32} {nsct : Int32} {nstk : Nat → Int32} {nsle : Nat → Int32} {nco : Nat → Int32} {eld : Int32} {efln : Int32} {eftk : Nat → Int32} {post : Int32 → Int32 → (Nat → Int32) → Int32 → (Nat → Int32) → Int32 → (Nat → Int32) → Int32 → (Nat → Int32) → (Nat → Nat → Int32) → Prop} (hC : Cx l D (TY cI cS cT) E rm_X0_cost cX0_cost RX0) (hR : RetI D E (fun (r : Int32) w => ∃ (u_fln : Int32) (u_ftk : Nat → Int32) (u_bln : Int32) (u_btk : Nat → Int32) (u_efln : Int32) (u_eftk : Nat → Int32) (u_egln : Int32) (u_egtk : Nat → Int32) (u_etb : Nat → Nat → Int32), w = (Wd_X0_cost cI cS cT ad b0 b1 b2 u_fln u_ftk u_bln u_btk nli nsct nstk nsle nco eld u_efln u_eftk u_egln u_egtk u_etb) ∧ post r u_fln u_ftk u_bln u_btk u_efln u_eftk u_egln u_egtk u_etb) 0 0 (some .int)) (hn : E.nL = 9) (K : Int32 → Int32 → Int32 → (Nat → Int32) → (Nat → Nat → Int32) → Prop) (hK : ∀ (v8 : Int32) (v6 : Int32) (egln : Int32) (egtk : Nat → Int32) (etb : Nat → Nat → Int32), K v8 v6 egln egtk etb → G l D E 0 0 (Wd_X0_cost cI cS cT ad b0 b1 b2 fln ftk bln btk nli nsct nstk nsle nco eld efln eftk egln egtk etb) [(8, .int v8), (7, .int v7), (6, .int v6), (0, .ref (ad b0)), (1, .ref (ad b1)), (2, .ref (ad b2)), (3, .int v3), (4, .int v4), (5, .int v5)] 153 []) : ∀ (n : Nat) (v8 : Int32) (v6 : Int32) (egln : Int32) (egtk : Nat → Int32) (etb : Nat → Nat → Int32), P_X0_cost_60 v7 fln ftk bln btk nco eld efln eftk K n v8 v6 egln egtk etb → G l D E 0 0 (Wd_X0_cost cI cS cT ad b0 b1 b2 fln ftk bln btk nli nsct nstk nsle nco eld efln eftk egln egtk etb) [(8, .int v8), (7, .int v7), (6, .int v6), (0, .ref (ad b0)), (1, .ref (ad b1)), (2, .ref (ad b2)), (3, .int v3), (4, .int v4), (5, .int v5)] 60 [] := by
  intro n
  induction n with
  | zero => exact fun _ _ _ _ _ h => h.elim
  | succ n ih =>
    intro v8 v6 egln egtk etb h
    replace h : B_X0_cost_60 v7 fln ftk bln btk nco eld efln eftk K (P_X0_cost_60 v7 fln ftk bln btk nco eld efln eftk K n) v8 v6 egln egtk etb := h
    unfold B_X0_cost_60 at h
    refine g_iload 60 0 hC dX0_cost_60 rfl ?_
    refine g_aload_n 62 3 hC dX0_cost_62 rfl ?_
    refine g_get 63 0 1 hC inlX0 wq_97 dX0_cost_63 rfl rfl (by decide) rfl ?_
    refine g_getN 66 3 1 hC inlX5 nq_32 dX0_cost_66 rfl rfl (by decide) rfl ?_
    refine g_icmp_ge 69 153 hC dX0_cost_69 (by decide) (fun hc => ?_) (fun hc => ?_)
    · replace h := h.1 hc
      refine G.sub [0, 1, 2, 3, 4, 5, 6, 7, 8] rfl ?_
      exact hK v8 v6 egln egtk etb h
    · replace h := h.2 hc
      refine g_iload 72 1 hC dX0_cost_72 rfl ?_
      refine g_iload 74 0 hC dX0_cost_74 rfl ?_
      refine g_iadd 76 hC dX0_cost_76 ?_
      refine g_bipush (v := (8 : Int32)) 77 hC dX0_cost_77 (by decide) ?_
      refine g_icmp_gt 79 153 hC dX0_cost_79 (by decide) (fun hc => ?_) (fun hc => ?_)
      · replace h := h.1 hc
        refine G.sub [0, 1, 2, 3, 4, 5, 6, 7, 8] rfl ?_
        exact hK v8 v6 egln egtk etb h
      · replace h := h.2 hc
        refine g_aload_n 82 5 hC dX0_cost_82 rfl ?_
        refine g_getN 83 10 1 hC inlX1 nq_135 dX0_cost_83 rfl rfl (by decide) rfl ?_
        refine g_iconst (v := (0 : Int32)) 86 hC dX0_cost_86 (by decide) ?_
        refine g_putN 87 13 1 (Wd_X0_cost cI cS cT ad b0 b1 b2 fln ftk bln btk nli nsct nstk nsle nco eld efln eftk (0 : Int32) egtk etb) hC inlX5 tyX5_ok nmX5 nq_32 dX0_cost_87 rfl rfl (by decide) rfl rfl (Nat.le_of_ble_eq_true rfl) rfl ?_
        refine g_aload_n 90 5 hC dX0_cost_90 rfl ?_
        refine g_getN 91 10 1 hC inlX1 nq_135 dX0_cost_91 rfl rfl (by decide) rfl ?_
        refine g_aload_n 94 3 hC dX0_cost_94 rfl ?_
        refine g_get 95 0 0 hC inlX0 wq_96 dX0_cost_95 rfl rfl (by decide) rfl ?_
        refine g_iconst (v := (0 : Int32)) 98 hC dX0_cost_98 (by decide) ?_
        refine g_iload 99 1 hC dX0_cost_99 rfl ?_
        refine g_cVNv (As := [.ref (ad (b0 + 1)), .int (0 : Int32), .int v7]) (rest := []) 101 13 [13, 14, 1, 2] hC (c_X5_addPart l D cI cS cT ad (b2 + 3) (b0 + 1) (0 : Int32) v7 (0 : Int32) egtk fln ftk _ h) kX5_addPart nq_553 dX0_cost_101 rfl rfl ⟨Nat.le_of_ble_eq_true rfl, Nat.le_of_ble_eq_true rfl⟩ rfl rfl (Nat.zero_le _) (Nat.zero_le _) rfl rfl rfl (Nat.le_of_ble_eq_true rfl) ?_
        rintro _ ⟨u10, u11, rfl, h⟩
        refine ⟨Nat.le_of_ble_eq_true rfl, G.upd [0, 3, 4, 5, 6, 7, 8, 9, 10, 11, 12, 15, 16, 17, 18, 19, 20, 21, 22, 23, 24] (Wd_X0_cost cI cS cT ad b0 b1 b2 fln ftk bln btk nli nsct nstk nsle nco eld efln eftk u10 u11 etb) rfl rfl rfl rfl rfl ?_⟩
        refine g_aload_n 104 5 hC dX0_cost_104 rfl ?_
        refine g_getN 105 10 1 hC inlX1 nq_135 dX0_cost_105 rfl rfl (by decide) rfl ?_
        refine g_aload_n 108 3 hC dX0_cost_108 rfl ?_
        refine g_get 109 0 1 hC inlX0 wq_97 dX0_cost_109 rfl rfl (by decide) rfl ?_
        refine g_aload_n 112 3 hC dX0_cost_112 rfl ?_
        refine g_get 113 0 1 hC inlX0 wq_97 dX0_cost_113 rfl rfl (by decide) rfl ?_
        refine g_getN 116 3 1 hC inlX5 nq_32 dX0_cost_116 rfl rfl (by decide) rfl ?_
        refine g_iload 119 0 hC dX0_cost_119 rfl ?_
        refine g_isub 121 hC dX0_cost_121 ?_
        refine g_aload_n 122 3 hC dX0_cost_122 rfl ?_
        refine g_get 123 0 1 hC inlX0 wq_97 dX0_cost_123 rfl rfl (by decide) rfl ?_
        refine g_getN 126 3 1 hC inlX5 nq_32 dX0_cost_126 rfl rfl (by decide) rfl ?_
        refine g_cVNv (As := [.ref (ad (b0 + 3)), .int (bln - v8), .int bln]) (rest := []) 129 13 [13, 14, 3, 4] hC (c_X5_addPart l D cI cS cT ad (b2 + 3) (b0 + 3) (bln - v8) bln u10 u11 bln btk _ h) kX5_addPart nq_553 dX0_cost_129 rfl rfl ⟨Nat.le_of_ble_eq_true rfl, Nat.le_of_ble_eq_true rfl⟩ rfl rfl (Nat.zero_le _) (Nat.zero_le _) rfl rfl rfl (Nat.le_of_ble_eq_true rfl) ?_
        rintro _ ⟨u13, u14, rfl, h⟩
        refine ⟨Nat.le_of_ble_eq_true rfl, G.upd [0, 1, 2, 5, 6, 7, 8, 9, 10, 11, 12, 15, 16, 17, 18, 19, 20, 21, 22, 23, 24] (Wd_X0_cost cI cS cT ad b0 b1 b2 fln ftk bln btk nli nsct nstk nsle nco eld efln eftk u13 u14 etb) rfl rfl rfl rfl rfl ?_⟩
        refine g_iload 132 2 hC dX0_cost_132 rfl ?_
        refine g_aload_n 134 5 hC dX0_cost_134 rfl ?_
        refine g_aload_n 135 4 hC dX0_cost_135 rfl ?_
        refine g_getN 136 5 4 hC inlX7 nq_84 dX0_cost_136 rfl rfl (by decide) rfl ?_
        refine g_cVNi (As := [.ref (ad (b1 + 9))]) (rest := [.int v6]) 139 10 [10, 11, 12, 13, 14, 15, 16, 17, 18, 19, 20, 21, 22, 23, 24, 9] hC (c_X1_measure l D cI cS cT ad b2 (b1 + 9) 4 eld efln eftk u13 u14 etb nco _ h) kX1_measure nq_559 dX0_cost_139 rfl rfl ⟨Nat.le_of_ble_eq_true rfl, Nat.le_of_ble_eq_true rfl⟩ rfl rfl (Nat.zero_le _) (Nat.zero_le _) rfl rfl rfl (Nat.le_of_ble_eq_true rfl) ?_
        rintro r17 _ ⟨u16, rfl, h⟩
        refine ⟨Nat.le_of_ble_eq_true rfl, G.upd [0, 1, 2, 3, 4, 5, 6, 7, 8] (Wd_X0_cost cI cS cT ad b0 b1 b2 fln ftk bln btk nli nsct nstk nsle nco eld efln eftk u13 u14 u16) rfl rfl rfl rfl rfl ?_⟩
        refine g_min 142 hC wq_595 dX0_cost_142 (Nat.le_of_ble_eq_true rfl) (Nat.le_of_ble_eq_true rfl) (Nat.zero_le _) (Nat.zero_le _) ?_
        refine g_istore 145 [(6, .int (if r17 < v6 then r17 else v6)), (8, .int v8), (7, .int v7), (0, .ref (ad b0)), (1, .ref (ad b1)), (2, .ref (ad b2)), (3, .int v3), (4, .int v4), (5, .int v5)] hC dX0_cost_145 (by rw [hn]; decide) rfl ?_
        refine g_iinc (v := (1 : Int32)) 147 1 [(8, .int (v8 + (1 : Int32))), (6, .int (if r17 < v6 then r17 else v6)), (7, .int v7), (0, .ref (ad b0)), (1, .ref (ad b1)), (2, .ref (ad b2)), (3, .int v3), (4, .int v4), (5, .int v5)] hC dX0_cost_147 rfl (by decide) (by rw [hn]; decide) rfl ?_
        refine g_goto 150 60 hC dX0_cost_150 (by decide) ?_
        refine G.sub [0, 2, 1, 3, 4, 5, 6, 7, 8] rfl ?_
        exact ih _ _ _ _ _ h
set_option maxHeartbeats 4000000 in
set_option maxRecDepth 100000 in
theorem L_X0_cost_45 {l : Launch} {D : va_G} {cI cS cT : ClassId} {ad : Nat → Nat} {b0 : Nat} {b1 : Nat} {b2 : Nat} {E : CE} {v3 : Int32} {v4 : Int32} {v5 : Int32} {fln : Int32} {ftk : Nat → Int32} {bln : Int32} {btk : Nat → Int32} {nli : Int32} {nsct : Int32} {nstk : Nat → Int32} {nsle : Nat → Int32} {nco : Nat → Int32} {eld : Int32} {efln : Int32} {eftk : Nat → Int32} {post : Int32 → Int32 → (Nat → Int32) → Int32 → (Nat → Int32) → Int32 → (Nat → Int32) → Int32 → (Nat → Int32) → (Nat → Nat → Int32) → Prop} (hC : Cx l D (TY cI cS cT) E rm_X0_cost cX0_cost RX0) (hR : RetI D E (fun (r : Int32) w => ∃ (u_fln : Int32) (u_ftk : Nat → Int32) (u_bln : Int32) (u_btk : Nat → Int32) (u_efln : Int32) (u_eftk : Nat → Int32) (u_egln : Int32) (u_egtk : Nat → Int32) (u_etb : Nat → Nat → Int32), w = (Wd_X0_cost cI cS cT ad b0 b1 b2 u_fln u_ftk u_bln u_btk nli nsct nstk nsle nco eld u_efln u_eftk u_egln u_egtk u_etb) ∧ post r u_fln u_ftk u_bln u_btk u_efln u_eftk u_egln u_egtk u_etb) 0 0 (some .int)) (hn : E.nL = 9) (K : Int32 → Int32 → Int32 → (Nat → Int32) → (Nat → Nat → Int32) → Prop) (hK : ∀ (v7 : Int32) (v6 : Int32) (egln : Int32) (egtk : Nat → Int32) (etb : Nat → Nat → Int32), K v7 v6 egln egtk etb → G l D E 0 0 (Wd_X0_cost cI cS cT ad b0 b1 b2 fln ftk bln btk nli nsct nstk nsle nco eld efln eftk egln egtk etb) [(7, .int v7), (6, .int v6), (0, .ref (ad b0)), (1, .ref (ad b1)), (2, .ref (ad b2)), (3, .int v3), (4, .int v4), (5, .int v5)] 159 []) : ∀ (n : Nat) (v7 : Int32) (v6 : Int32) (egln : Int32) (egtk : Nat → Int32) (etb : Nat → Nat → Int32), P_X0_cost_45 fln ftk bln btk nco eld efln eftk K n v7 v6 egln egtk etb → G l D E 0 0 (Wd_X0_cost cI cS cT ad b0 b1 b2 fln ftk bln btk nli nsct nstk nsle nco eld efln eftk egln egtk etb) [(7, .int v7), (6, .int v6), (0, .ref (ad b0)), (1, .ref (ad b1)), (2, .ref (ad b2)), (3, .int v3), (4, .int v4), (5, .int v5)] 45 [] := by
  intro n
  induction n with
  | zero => exact fun _ _ _ _ _ h => h.elim
  | succ n ih =>
    intro v7 v6 egln egtk etb h
    replace h : B_X0_cost_45 fln ftk bln btk nco eld efln eftk K (P_X0_cost_45 fln ftk bln btk nco eld efln eftk K n) v7 v6 egln egtk etb := h
    unfold B_X0_cost_45 at h
    refine g_iload 45 0 hC dX0_cost_45 rfl ?_
    refine g_aload_n 47 2 hC dX0_cost_47 rfl ?_
    refine g_get 48 0 0 hC inlX0 wq_96 dX0_cost_48 rfl rfl (by decide) rfl ?_
    refine g_getN 51 1 1 hC inlX5 nq_32 dX0_cost_51 rfl rfl (by decide) rfl ?_
    refine g_icmp_ge 54 159 hC dX0_cost_54 (by decide) (fun hc => ?_) (fun hc => ?_)
    · replace h := h.1 hc
      refine G.sub [0, 1, 2, 3, 4, 5, 6, 7] rfl ?_
      exact hK v7 v6 egln egtk etb h
    · replace h := h.2 hc
      refine g_iconst (v := (1 : Int32)) 57 hC dX0_cost_57 (by decide) ?_
      refine g_istore 58 [(8, .int (1 : Int32)), (7, .int v7), (6, .int v6), (0, .ref (ad b0)), (1, .ref (ad b1)), (2, .ref (ad b2)), (3, .int v3), (4, .int v4), (5, .int v5)] hC dX0_cost_58 (by rw [hn]; decide) rfl ?_
      obtain ⟨n, h⟩ := h
      refine L_X0_cost_60 hC hR hn _ (fun w8_18 w6_18 egln_18 egtk_18 etb_18 h => ?_) n _ _ _ _ _ h
      refine g_iinc (v := (1 : Int32)) 153 1 [(7, .int (v7 + (1 : Int32))), (8, .int w8_18), (6, .int w6_18), (0, .ref (ad b0)), (1, .ref (ad b1)), (2, .ref (ad b2)), (3, .int v3), (4, .int v4), (5, .int v5)] hC dX0_cost_153 rfl (by decide) (by rw [hn]; decide) rfl ?_
      refine g_goto 156 45 hC dX0_cost_156 (by decide) ?_
      refine G.sub [0, 2, 3, 4, 5, 6, 7, 8] rfl ?_
      exact ih _ _ _ _ _ h
set_option maxHeartbeats 4000000 in
set_option maxRecDepth 100000 in
theorem c_X0_cost (l : Launch) (D : va_G) (cI cS cT : ClassId) (ad : Nat → Nat) (b0 : Nat) (b1 : Nat) (b2 : Nat) (x3 : Int32) (x4 : Int32) (x5 : Int32) (fln : Int32) (ftk : Nat → Int32) (bln : Int32) (btk : Nat → Int32) (nli : Int32) (nsct : Int32) (nstk : Nat → Int32) (nsle : Nat → Int32) (nco : Nat → Int32) (eld : Int32) (efln : Int32) (eftk : Nat → Int32) (egln : Int32) (egtk : Nat → Int32) (etb : Nat → Nat → Int32) (post : Int32 → Int32 → (Nat → Int32) → Int32 → (Nat → Int32) → Int32 → (Nat → Int32) → Int32 → (Nat → Int32) → (Nat → Nat → Int32) → Prop) (h : P_X0_cost x3 x4 x5 fln ftk bln btk nli nsct nstk nsle nco eld efln eftk egln egtk etb post) : MI l D (TY cI cS cT) yX0_cost cX0_cost 9 (some .int) rm_X0_cost [.ref (ad b0), .ref (ad b1), .ref (ad b2), .int x3, .int x4, .int x5] (Wd_X0_cost cI cS cT ad b0 b1 b2 fln ftk bln btk nli nsct nstk nsle nco eld efln eftk egln egtk etb) (fun (r : Int32) w => ∃ (u_fln : Int32) (u_ftk : Nat → Int32) (u_bln : Int32) (u_btk : Nat → Int32) (u_efln : Int32) (u_eftk : Nat → Int32) (u_egln : Int32) (u_egtk : Nat → Int32) (u_etb : Nat → Nat → Int32), w = (Wd_X0_cost cI cS cT ad b0 b1 b2 u_fln u_ftk u_bln u_btk nli nsct nstk nsle nco eld u_efln u_eftk u_egln u_egtk u_etb) ∧ post r u_fln u_ftk u_bln u_btk u_efln u_eftk u_egln u_egtk u_etb) := by
  refine MI.of (by decide) (Nat.le_of_ble_eq_true rfl) (fun E hC hR hn => ?_)
  replace hC : Cx l D (TY cI cS cT) E rm_X0_cost cX0_cost RX0 := hC
  replace hR : RetI D E (fun (r : Int32) w => ∃ (u_fln : Int32) (u_ftk : Nat → Int32) (u_bln : Int32) (u_btk : Nat → Int32) (u_efln : Int32) (u_eftk : Nat → Int32) (u_egln : Int32) (u_egtk : Nat → Int32) (u_etb : Nat → Nat → Int32), w = (Wd_X0_cost cI cS cT ad b0 b1 b2 u_fln u_ftk u_bln u_btk nli nsct nstk nsle nco eld u_efln u_eftk u_egln u_egtk u_etb) ∧ post r u_fln u_ftk u_bln u_btk u_efln u_eftk u_egln u_egtk u_etb) 0 0 (some .int) := hR
  unfold P_X0_cost at h
  change G l D E 0 0 _ [(0, .ref (ad b0)), (1, .ref (ad b1)), (2, .ref (ad b2)), (3, .int x3), (4, .int x4), (5, .int x5)] 0 []
  refine g_aload_n 0 1 hC dX0_cost_0 rfl ?_
  refine g_getN 1 5 0 hC inlX7 nq_72 dX0_cost_1 rfl rfl (by decide) rfl ?_
  refine g_iload_n 4 3 hC dX0_cost_4 rfl ?_
  refine g_aload_n 5 2 hC dX0_cost_5 rfl ?_
  refine g_getN 6 10 0 hC inlX1 nq_133 dX0_cost_6 rfl rfl (by decide) rfl ?_
  refine g_cVNv (As := [.int x3, .ref (ad (b2 + 1))]) (rest := []) 9 6 [6, 7, 8, 11, 12] hC (c_X6_load l D cI cS cT ad (b1 + 1) (b2 + 1) (12 : Int32) 96 12 x3 nsct nstk nsle efln eftk _ h) kX6_load nq_551 dX0_cost_9 rfl rfl ⟨Nat.le_of_ble_eq_true rfl, Nat.le_of_ble_eq_true rfl⟩ rfl rfl (Nat.zero_le _) (Nat.zero_le _) rfl rfl rfl (Nat.le_of_ble_eq_true rfl) ?_
  rintro _ ⟨u1, u2, rfl, h⟩
  refine ⟨Nat.le_of_ble_eq_true rfl, G.upd [0, 1, 2, 3, 4, 5, 9, 10, 13, 14, 15, 16, 17, 18, 19, 20, 21, 22, 23, 24] (Wd_X0_cost cI cS cT ad b0 b1 b2 fln ftk bln btk nli nsct nstk nsle nco eld u1 u2 egln egtk etb) rfl rfl rfl rfl rfl ?_⟩
  refine g_aload_n 12 1 hC dX0_cost_12 rfl ?_
  refine g_getN 13 5 0 hC inlX7 nq_72 dX0_cost_13 rfl rfl (by decide) rfl ?_
  refine g_iload 16 4 hC dX0_cost_16 rfl ?_
  refine g_aload_n 18 0 hC dX0_cost_18 rfl ?_
  refine g_get 19 0 0 hC inlX0 wq_96 dX0_cost_19 rfl rfl (by decide) rfl ?_
  refine g_cVNv (As := [.int x4, .ref (ad (b0 + 1))]) (rest := []) 22 6 [6, 7, 8, 1, 2] hC (c_X6_load l D cI cS cT ad (b1 + 1) (b0 + 1) (12 : Int32) 96 12 x4 nsct nstk nsle fln ftk _ h) kX6_load nq_551 dX0_cost_22 rfl rfl ⟨Nat.le_of_ble_eq_true rfl, Nat.le_of_ble_eq_true rfl⟩ rfl rfl (Nat.zero_le _) (Nat.zero_le _) rfl rfl rfl (Nat.le_of_ble_eq_true rfl) ?_
  rintro _ ⟨u4, u5, rfl, h⟩
  refine ⟨Nat.le_of_ble_eq_true rfl, G.upd [0, 3, 4, 5, 9, 10, 11, 12, 13, 14, 15, 16, 17, 18, 19, 20, 21, 22, 23, 24] (Wd_X0_cost cI cS cT ad b0 b1 b2 u4 u5 bln btk nli nsct nstk nsle nco eld u1 u2 egln egtk etb) rfl rfl rfl rfl rfl ?_⟩
  refine g_aload_n 25 1 hC dX0_cost_25 rfl ?_
  refine g_getN 26 5 0 hC inlX7 nq_72 dX0_cost_26 rfl rfl (by decide) rfl ?_
  refine g_iload 29 5 hC dX0_cost_29 rfl ?_
  refine g_aload_n 31 0 hC dX0_cost_31 rfl ?_
  refine g_get 32 0 1 hC inlX0 wq_97 dX0_cost_32 rfl rfl (by decide) rfl ?_
  refine g_cVNv (As := [.int x5, .ref (ad (b0 + 3))]) (rest := []) 35 6 [6, 7, 8, 3, 4] hC (c_X6_load l D cI cS cT ad (b1 + 1) (b0 + 3) (12 : Int32) 96 12 x5 nsct nstk nsle bln btk _ h) kX6_load nq_551 dX0_cost_35 rfl rfl ⟨Nat.le_of_ble_eq_true rfl, Nat.le_of_ble_eq_true rfl⟩ rfl rfl (Nat.zero_le _) (Nat.zero_le _) rfl rfl rfl (Nat.le_of_ble_eq_true rfl) ?_
  rintro _ ⟨u7, u8, rfl, h⟩
  refine ⟨Nat.le_of_ble_eq_true rfl, G.upd [0, 1, 2, 5, 9, 10, 11, 12, 13, 14, 15, 16, 17, 18, 19, 20, 21, 22, 23, 24] (Wd_X0_cost cI cS cT ad b0 b1 b2 u4 u5 u7 u8 nli nsct nstk nsle nco eld u1 u2 egln egtk etb) rfl rfl rfl rfl rfl ?_⟩
  refine g_ldc 38 hC dX0_cost_38 wq_594 ?_
  refine g_istore 40 [(6, .int (1000000 : Int32)), (0, .ref (ad b0)), (1, .ref (ad b1)), (2, .ref (ad b2)), (3, .int x3), (4, .int x4), (5, .int x5)] hC dX0_cost_40 (by rw [hn]; decide) rfl ?_
  refine g_iconst (v := (1 : Int32)) 42 hC dX0_cost_42 (by decide) ?_
  refine g_istore 43 [(7, .int (1 : Int32)), (6, .int (1000000 : Int32)), (0, .ref (ad b0)), (1, .ref (ad b1)), (2, .ref (ad b2)), (3, .int x3), (4, .int x4), (5, .int x5)] hC dX0_cost_43 (by rw [hn]; decide) rfl ?_
  obtain ⟨n, h⟩ := h
  refine L_X0_cost_45 hC hR hn _ (fun w7_19 w6_19 egln_19 egtk_19 etb_19 h => ?_) n _ _ _ _ _ h
  refine g_iload 159 1 hC dX0_cost_159 rfl ?_
  exact g_iret 161 hC hR dX0_cost_161 ⟨u4, u5, u7, u8, u1, u2, egln_19, egtk_19, etb_19, rfl, h⟩

/-! ===== ProverbCollection$Crossings.bestPair(LProverbCollection$State;LProverbCollection$Edits;II)I ===== -/
def Wd_X0_bestPair (cI cS cT : ClassId) (ad : Nat → Nat) (b0 : Nat) (b1 : Nat) (b2 : Nat) (fln : Int32) (ftk : Nat → Int32) (bln : Int32) (btk : Nat → Int32) (or : Nat → Int32) (ap : Nat → Int32) (nli : Int32) (nsct : Int32) (nstk : Nat → Int32) (nsle : Nat → Int32) (nye : Nat → Int32) (nco : Nat → Int32) (eld : Int32) (efln : Int32) (eftk : Nat → Int32) (egln : Int32) (egtk : Nat → Int32) (etb : Nat → Nat → Int32) : va_W := [(ad b0, .inr (0, [.ref (ad (b0 + 1)), .ref (ad (b0 + 3)), .ref (ad (b0 + 5)), .ref (ad (b0 + 6))])), (ad (b0 + 1), .inr (5, [.ref (ad (b0 + 2)), .int fln])), (ad (b0 + 2), .inl (cI, 8, .inl ftk)), (ad (b0 + 3), .inr (5, [.ref (ad (b0 + 4)), .int bln])), (ad (b0 + 4), .inl (cI, 8, .inl btk)), (ad (b0 + 5), .inl (cI, 12, .inl or)), (ad (b0 + 6), .inl (cI, 12, .inl ap)), (ad b1, .inr (7, [.ref (ad (b1 + 1)), .ref (ad (b1 + 4)), .ref (ad (b1 + 5)), .ref (ad (b1 + 6)), .ref (ad (b1 + 9)), .int nli])), (ad (b1 + 1), .inr (6, [.int 12, .ref (ad (b1 + 2)), .ref (ad (b1 + 3)), .int nsct])), (ad (b1 + 2), .inl (cI, 96, .inl nstk)), (ad (b1 + 3), .inl (cI, 12, .inl nsle)), (ad (b1 + 4), .inl (cI, 12, .inl nye)), (ad (b1 + 9), .inl (cI, 4, .inl nco)), (ad b2, .inr (1, [.ref (ad (b2 + 1)), .ref (ad (b2 + 3)), .ref (ad (b2 + 5)), .ref (ad (b2 + 15)), .int eld])), (ad (b2 + 1), .inr (5, [.ref (ad (b2 + 2)), .int efln])), (ad (b2 + 2), .inl (cI, 8, .inl eftk)), (ad (b2 + 3), .inr (5, [.ref (ad (b2 + 4)), .int egln])), (ad (b2 + 4), .inl (cI, 8, .inl egtk)), (ad (b2 + 5), .inl (cT, 9, .inr (.inr (.inr (.inr (fun i => if i < 9 then some (ad (b2 + 6 + i)) else none)))))), (ad (b2 + 6 + 0), .inl (cI, 9, .inl (etb 0))), (ad (b2 + 6 + 1), .inl (cI, 9, .inl (etb 1))), (ad (b2 + 6 + 2), .inl (cI, 9, .inl (etb 2))), (ad (b2 + 6 + 3), .inl (cI, 9, .inl (etb 3))), (ad (b2 + 6 + 4), .inl (cI, 9, .inl (etb 4))), (ad (b2 + 6 + 5), .inl (cI, 9, .inl (etb 5))), (ad (b2 + 6 + 6), .inl (cI, 9, .inl (etb 6))), (ad (b2 + 6 + 7), .inl (cI, 9, .inl (etb 7))), (ad (b2 + 6 + 8), .inl (cI, 9, .inl (etb 8)))]
def rm_X0_bestPair : Room := { frames := 5, cells := 0, slots := 0, locals := 124 }
theorem kX0_bestPair : KV yX0_bestPair cX0_bestPair 13 (some .int) 4 := ⟨wq_615, wq_38, wq_613, wq_614, by decide +kernel⟩
def B_X0_bestPair_18 (v5 : Int32) (v3 : Int32) (or : Nat → Int32) (nli : Int32) (nsct : Int32) (nstk : Nat → Int32) (nsle : Nat → Int32) (nco : Nat → Int32) (eld : Int32) (K : Int32 → (Nat → Int32) → Int32 → (Nat → Int32) → Int32 → (Nat → Int32) → (Nat → Nat → Int32) → Prop) (rc : Int32 → (Nat → Int32) → Int32 → (Nat → Int32) → Int32 → (Nat → Int32) → (Nat → Nat → Int32) → Prop) (v6 : Int32) (ap : Nat → Int32) (efln : Int32) (eftk : Nat → Int32) (egln : Int32) (egtk : Nat → Int32) (etb : Nat → Nat → Int32) : Prop :=
  (v5 ≤ v6 → K v6 ap efln eftk egln egtk etb) ∧ (¬ v5 ≤ v6 → (vp_in v6 12 ∧ (P_X1_between v3 (or (Int32.toNatClampNeg v6)) eld efln eftk egln egtk etb nli nsct nstk nsle nco (fun r9 u4 u5 u6 u7 u8 => vp_in v6 12 ∧ (rc (v6 + (1 : Int32)) (upd ap (Int32.toNatClampNeg v6) r9) u4 u5 u6 u7 u8)))))
def P_X0_bestPair_18 (v5 : Int32) (v3 : Int32) (or : Nat → Int32) (nli : Int32) (nsct : Int32) (nstk : Nat → Int32) (nsle : Nat → Int32) (nco : Nat → Int32) (eld : Int32) (K : Int32 → (Nat → Int32) → Int32 → (Nat → Int32) → Int32 → (Nat → Int32) → (Nat → Nat → Int32) → Prop) : Nat → Int32 → (Nat → Int32) → Int32 → (Nat → Int32) → Int32 → (Nat → Int32) → (Nat → Nat → Int32) → Prop
  | 0 => fun _ _ _ _ _ _ _ => False
  | n + 1 => fun v6 ap efln eftk egln egtk etb => B_X0_bestPair_18 v5 v3 or nli nsct nstk nsle nco eld K (P_X0_bestPair_18 v5 v3 or nli nsct nstk nsle nco eld K n) v6 ap efln eftk egln egtk etb
def B_X0_bestPair_74 (v8 : Int32) (v5 : Int32) (v3 : Int32) (or : Nat → Int32) (ap : Nat → Int32) (nli : Int32) (nsct : Int32) (nstk : Nat → Int32) (nsle : Nat → Int32) (nco : Nat → Int32) (eld : Int32) (K : Int32 → Int32 → Int32 → Int32 → (Nat → Int32) → Int32 → (Nat → Int32) → Int32 → (Nat → Int32) → Int32 → (Nat → Int32) → (Nat → Nat → Int32) → Prop) (rc : Int32 → Int32 → Int32 → Int32 → (Nat → Int32) → Int32 → (Nat → Int32) → Int32 → (Nat → Int32) → Int32 → (Nat → Int32) → (Nat → Nat → Int32) → Prop) (v9 : Int32) (v7 : Int32) (v6 : Int32) (fln : Int32) (ftk : Nat → Int32) (bln : Int32) (btk : Nat → Int32) (efln : Int32) (eftk : Nat → Int32) (egln : Int32) (egtk : Nat → Int32) (etb : Nat → Nat → Int32) : Prop :=
  (v5 ≤ v9 → K v9 v7 v6 fln ftk bln btk efln eftk egln egtk etb) ∧ (¬ v5 ≤ v9 → (vp_in v8 12 ∧ (vp_in v9 12 ∧ ((v8 = v9 → (((if (if (ap (Int32.toNatClampNeg v9)) < (ap (Int32.toNatClampNeg v8)) then (ap (Int32.toNatClampNeg v9)) else (ap (Int32.toNatClampNeg v8))) < v7 then (if (ap (Int32.toNatClampNeg v9)) < (ap (Int32.toNatClampNeg v8)) then (ap (Int32.toNatClampNeg v9)) else (ap (Int32.toNatClampNeg v8))) else v7) ≤ (1000000 : Int32) → rc (v9 + (1 : Int32)) v7 v6 fln ftk bln btk efln eftk egln egtk etb) ∧ (¬ (if (if (ap (Int32.toNatClampNeg v9)) < (ap (Int32.toNatClampNeg v8)) then (ap (Int32.toNatClampNeg v9)) else (ap (Int32.toNatClampNeg v8))) < v7 then (if (ap (Int32.toNatClampNeg v9)) < (ap (Int32.toNatClampNeg v8)) then (ap (Int32.toNatClampNeg v9)) else (ap (Int32.toNatClampNeg v8))) else v7) ≤ (1000000 : Int32) → (vp_in v8 12 ∧ (vp_in v9 12 ∧ (rc (v9 + (1 : Int32)) (1000000 : Int32) (((100 : Int32) * (or (Int32.toNatClampNeg v8))) + (or (Int32.toNatClampNeg v9))) fln ftk bln btk efln eftk egln egtk etb)))))) ∧ (¬ v8 = v9 → (((if (if (ap (Int32.toNatClampNeg v9)) < (ap (Int32.toNatClampNeg v8)) then (ap (Int32.toNatClampNeg v9)) else (ap (Int32.toNatClampNeg v8))) < v7 then (if (ap (Int32.toNatClampNeg v9)) < (ap (Int32.toNatClampNeg v8)) then (ap (Int32.toNatClampNeg v9)) else (ap (Int32.toNatClampNeg v8))) else v7) ≤ 0 → (((if (if (ap (Int32.toNatClampNeg v9)) < (ap (Int32.toNatClampNeg v8)) then (ap (Int32.toNatClampNeg v9)) else (ap (Int32.toNatClampNeg v8))) < v7 then (if (ap (Int32.toNatClampNeg v9)) < (ap (Int32.toNatClampNeg v8)) then (ap (Int32.toNatClampNeg v9)) else (ap (Int32.toNatClampNeg v8))) else v7) ≤ (1000000 : Int32) → rc (v9 + (1 : Int32)) v7 v6 fln ftk bln btk efln eftk egln egtk etb) ∧ (¬ (if (if (ap (Int32.toNatClampNeg v9)) < (ap (Int32.toNatClampNeg v8)) then (ap (Int32.toNatClampNeg v9)) else (ap (Int32.toNatClampNeg v8))) < v7 then (if (ap (Int32.toNatClampNeg v9)) < (ap (Int32.toNatClampNeg v8)) then (ap (Int32.toNatClampNeg v9)) else (ap (Int32.toNatClampNeg v8))) else v7) ≤ (1000000 : Int32) → (vp_in v8 12 ∧ (vp_in v9 12 ∧ (rc (v9 + (1 : Int32)) (1000000 : Int32) (((100 : Int32) * (or (Int32.toNatClampNeg v8))) + (or (Int32.toNatClampNeg v9))) fln ftk bln btk efln eftk egln egtk etb)))))) ∧ (¬ (if (if (ap (Int32.toNatClampNeg v9)) < (ap (Int32.toNatClampNeg v8)) then (ap (Int32.toNatClampNeg v9)) else (ap (Int32.toNatClampNeg v8))) < v7 then (if (ap (Int32.toNatClampNeg v9)) < (ap (Int32.toNatClampNeg v8)) then (ap (Int32.toNatClampNeg v9)) else (ap (Int32.toNatClampNeg v8))) else v7) ≤ 0 → (vp_in v8 12 ∧ (vp_in v9 12 ∧ (P_X0_cost v3 (or (Int32.toNatClampNeg v8)) (or (Int32.toNatClampNeg v9)) fln ftk bln btk nli nsct nstk nsle nco eld efln eftk egln egtk etb (fun r20 u11 u12 u13 u14 u15 u16 u17 u18 u19 => ((if (if (ap (Int32.toNatClampNeg v9)) < (ap (Int32.toNatClampNeg v8)) then (ap (Int32.toNatClampNeg v9)) else (ap (Int32.toNatClampNeg v8))) < v7 then (if (ap (Int32.toNatClampNeg v9)) < (ap (Int32.toNatClampNeg v8)) then (ap (Int32.toNatClampNeg v9)) else (ap (Int32.toNatClampNeg v8))) else v7) ≤ r20 → rc (v9 + (1 : Int32)) v7 v6 u11 u12 u13 u14 u15 u16 u17 u18 u19) ∧ (¬ (if (if (ap (Int32.toNatClampNeg v9)) < (ap (Int32.toNatClampNeg v8)) then (ap (Int32.toNatClampNeg v9)) else (ap (Int32.toNatClampNeg v8))) < v7 then (if (ap (Int32.toNatClampNeg v9)) < (ap (Int32.toNatClampNeg v8)) then (ap (Int32.toNatClampNeg v9)) else (ap (Int32.toNatClampNeg v8))) else v7) ≤ r20 → (vp_in v8 12 ∧ (vp_in v9 12 ∧ (rc (v9 + (1 : Int32)) r20 (((100 : Int32) * (or (Int32.toNatClampNeg v8))) + (or (Int32.toNatClampNeg v9))) u11 u12 u13 u14 u15 u16 u17 u18 u19)))))))))))))))
def P_X0_bestPair_74 (v8 : Int32) (v5 : Int32) (v3 : Int32) (or : Nat → Int32) (ap : Nat → Int32) (nli : Int32) (nsct : Int32) (nstk : Nat → Int32) (nsle : Nat → Int32) (nco : Nat → Int32) (eld : Int32) (K : Int32 → Int32 → Int32 → Int32 → (Nat → Int32) → Int32 → (Nat → Int32) → Int32 → (Nat → Int32) → Int32 → (Nat → Int32) → (Nat → Nat → Int32) → Prop) : Nat → Int32 → Int32 → Int32 → Int32 → (Nat → Int32) → Int32 → (Nat → Int32) → Int32 → (Nat → Int32) → Int32 → (Nat → Int32) → (Nat → Nat → Int32) → Prop
  | 0 => fun _ _ _ _ _ _ _ _ _ _ _ _ => False
  | n + 1 => fun v9 v7 v6 fln ftk bln btk efln eftk egln egtk etb => B_X0_bestPair_74 v8 v5 v3 or ap nli nsct nstk nsle nco eld K (P_X0_bestPair_74 v8 v5 v3 or ap nli nsct nstk nsle nco eld K n) v9 v7 v6 fln ftk bln btk efln eftk egln egtk etb
def B_X0_bestPair_64 (v5 : Int32) (v3 : Int32) (or : Nat → Int32) (ap : Nat → Int32) (nli : Int32) (nsct : Int32) (nstk : Nat → Int32) (nsle : Nat → Int32) (nco : Nat → Int32) (eld : Int32) (K : Int32 → Int32 → Int32 → Int32 → (Nat → Int32) → Int32 → (Nat → Int32) → Int32 → (Nat → Int32) → Int32 → (Nat → Int32) → (Nat → Nat → Int32) → Prop) (rc : Int32 → Int32 → Int32 → Int32 → (Nat → Int32) → Int32 → (Nat → Int32) → Int32 → (Nat → Int32) → Int32 → (Nat → Int32) → (Nat → Nat → Int32) → Prop) (v8 : Int32) (v7 : Int32) (v6 : Int32) (fln : Int32) (ftk : Nat → Int32) (bln : Int32) (btk : Nat → Int32) (efln : Int32) (eftk : Nat → Int32) (egln : Int32) (egtk : Nat → Int32) (etb : Nat → Nat → Int32) : Prop :=
  (v5 ≤ v8 → K v8 v7 v6 fln ftk bln btk efln eftk egln egtk etb) ∧ (¬ v5 ≤ v8 → (∃ n : Nat, P_X0_bestPair_74 v8 v5 v3 or ap nli nsct nstk nsle nco eld (fun w9_21 w7_21 w6_21 fln_21 ftk_21 bln_21 btk_21 efln_21 eftk_21 egln_21 egtk_21 etb_21 => rc (v8 + (1 : Int32)) w7_21 w6_21 fln_21 ftk_21 bln_21 btk_21 efln_21 eftk_21 egln_21 egtk_21 etb_21) n (0 : Int32) v7 v6 fln ftk bln btk efln eftk egln egtk etb))
def P_X0_bestPair_64 (v5 : Int32) (v3 : Int32) (or : Nat → Int32) (ap : Nat → Int32) (nli : Int32) (nsct : Int32) (nstk : Nat → Int32) (nsle : Nat → Int32) (nco : Nat → Int32) (eld : Int32) (K : Int32 → Int32 → Int32 → Int32 → (Nat → Int32) → Int32 → (Nat → Int32) → Int32 → (Nat → Int32) → Int32 → (Nat → Int32) → (Nat → Nat → Int32) → Prop) : Nat → Int32 → Int32 → Int32 → Int32 → (Nat → Int32) → Int32 → (Nat → Int32) → Int32 → (Nat → Int32) → Int32 → (Nat → Int32) → (Nat → Nat → Int32) → Prop
  | 0 => fun _ _ _ _ _ _ _ _ _ _ _ _ => False
  | n + 1 => fun v8 v7 v6 fln ftk bln btk efln eftk egln egtk etb => B_X0_bestPair_64 v5 v3 or ap nli nsct nstk nsle nco eld K (P_X0_bestPair_64 v5 v3 or ap nli nsct nstk nsle nco eld K n) v8 v7 v6 fln ftk bln btk efln eftk egln egtk etb
def P_X0_bestPair (x3 : Int32) (x4 : Int32) (fln : Int32) (ftk : Nat → Int32) (bln : Int32) (btk : Nat → Int32) (or : Nat → Int32) (ap : Nat → Int32) (nli : Int32) (nsct : Int32) (nstk : Nat → Int32) (nsle : Nat → Int32) (nye : Nat → Int32) (nco : Nat → Int32) (eld : Int32) (efln : Int32) (eftk : Nat → Int32) (egln : Int32) (egtk : Nat → Int32) (etb : Nat → Nat → Int32) (post : Int32 → Int32 → (Nat → Int32) → Int32 → (Nat → Int32) → (Nat → Int32) → (Nat → Int32) → Int32 → (Nat → Int32) → Int32 → (Nat → Int32) → (Nat → Nat → Int32) → Prop) : Prop :=
  P_X7_sortByAge 12 nli nsct nye or (fun u1 => P_X7_place x3 nli nsct nye (fun r3 => ∃ n : Nat, P_X0_bestPair_18 r3 x3 u1 nli nsct nstk nsle nco eld (fun w6_10 ap_10 efln_10 eftk_10 egln_10 egtk_10 etb_10 => ∃ n : Nat, P_X0_bestPair_64 r3 x3 u1 ap_10 nli nsct nstk nsle nco eld (fun w8_22 w7_22 w6_22 fln_22 ftk_22 bln_22 btk_22 efln_22 eftk_22 egln_22 egtk_22 etb_22 => post w6_22 fln_22 ftk_22 bln_22 btk_22 u1 ap_10 efln_22 eftk_22 egln_22 egtk_22 etb_22) n (0 : Int32) (x4 + (1 : Int32)) (-4 : Int32) fln ftk bln btk efln_10 eftk_10 egln_10 egtk_10 etb_10) n (0 : Int32) ap efln eftk egln egtk etb))
set_option maxHeartbeats 4000000 in
set_option maxRecDepth 100000 in
theorem L_X0_bestPair_18 {l : Launch} {D : va_G} {cI cS cT : ClassId} {ad : Nat → Nat} {b0 : Nat} {b1 : Nat} {b2 : Nat} {E : CE} {v5 : Int32} {v3 : Int32} {v4 : Int32} {fln : Int32} {ftk : Nat → Int32} {bln : Int32} {btk : Nat → Int32} {or : Nat → Int32} {nli : Int32} {nsct : Int32} {nstk : Nat → Int32} {nsle : Nat → Int32} {nye : Nat → Int32} {nco : Nat → Int32} {eld : Int32} {post : Int32 → Int32 → (Nat → Int32) → Int32 → (Nat → Int32) → (Nat → Int32) → (Nat → Int32) → Int32 → (Nat → Int32) → Int32 → (Nat → Int32) → (Nat → Nat → Int32) → Prop} (hC : Cx l D (TY cI cS cT) E rm_X0_bestPair cX0_bestPair RX0) (hR : RetI D E (fun (r : Int32) w => ∃ (u_fln : Int32) (u_ftk : Nat → Int32) (u_bln : Int32) (u_btk : Nat → Int32) (u_or : Nat → Int32) (u_ap : Nat → Int32) (u_efln : Int32) (u_eftk : Nat → Int32) (u_egln : Int32) (u_egtk : Nat → Int32) (u_etb : Nat → Nat → Int32), w = (Wd_X0_bestPair cI cS cT ad b0 b1 b2 u_fln u_ftk u_bln u_btk u_or u_ap nli nsct nstk nsle nye nco eld u_efln u_eftk u_egln u_egtk u_etb) ∧ post r u_fln u_ftk u_bln u_btk u_or u_ap u_efln u_eftk u_egln u_egtk u_etb) 0 0 (some .int)) (hn : E.nL = 13) (K : Int32 → (Nat → Int32) → Int32 → (Nat → Int32) → Int32 → (Nat → Int32) → (Nat → Nat → Int32) → Prop) (hK : ∀ (v6 : Int32) (ap : Nat → Int32) (efln : Int32) (eftk : Nat → Int32) (egln : Int32) (egtk : Nat → Int32) (etb : Nat → Nat → Int32), K v6 ap efln eftk egln egtk etb → G l D E 0 0 (Wd_X0_bestPair cI cS cT ad b0 b1 b2 fln ftk bln btk or ap nli nsct nstk nsle nye nco eld efln eftk egln egtk etb) [(6, .int v6), (5, .int v5), (0, .ref (ad b0)), (1, .ref (ad b1)), (2, .ref (ad b2)), (3, .int v3), (4, .int v4)] 51 []) : ∀ (n : Nat) (v6 : Int32) (ap : Nat → Int32) (efln : Int32) (eftk : Nat → Int32) (egln : Int32) (egtk : Nat → Int32) (etb : Nat → Nat → Int32), P_X0_bestPair_18 v5 v3 or nli nsct nstk nsle nco eld K n v6 ap efln eftk egln egtk etb → G l D E 0 0 (Wd_X0_bestPair cI cS cT ad b0 b1 b2 fln ftk bln btk or ap nli nsct nstk nsle nye nco eld efln eftk egln egtk etb) [(6, .int v6), (5, .int v5), (0, .ref (ad b0)), (1, .ref (ad b1)), (2, .ref (ad b2)), (3, .int v3), (4, .int v4)] 18 [] := by
  intro n
  induction n with
  | zero => exact fun _ _ _ _ _ _ _ h => h.elim
  | succ n ih =>
    intro v6 ap efln eftk egln egtk etb h
    replace h : B_X0_bestPair_18 v5 v3 or nli nsct nstk nsle nco eld K (P_X0_bestPair_18 v5 v3 or nli nsct nstk nsle nco eld K n) v6 ap efln eftk egln egtk etb := h
    unfold B_X0_bestPair_18 at h
    refine g_iload 18 0 hC dX0_bestPair_18 rfl ?_
    refine g_iload 20 1 hC dX0_bestPair_20 rfl ?_
    refine g_icmp_ge 22 51 hC dX0_bestPair_22 (by decide) (fun hc => ?_) (fun hc => ?_)
    · replace h := h.1 hc
      refine G.sub [0, 1, 2, 3, 4, 5, 6] rfl ?_
      exact hK v6 ap efln eftk egln egtk etb h
    · replace h := h.2 hc
      refine g_aload_n 25 2 hC dX0_bestPair_25 rfl ?_
      refine g_get 26 0 3 hC inlX0 wq_99 dX0_bestPair_26 rfl rfl (by decide) rfl ?_
      refine g_iload 29 0 hC dX0_bestPair_29 rfl ?_
      refine g_aload_n 31 4 hC dX0_bestPair_31 rfl ?_
      refine g_aload_n 32 3 hC dX0_bestPair_32 rfl ?_
      refine g_iload_n 33 5 hC dX0_bestPair_33 rfl ?_
      refine g_aload_n 34 2 hC dX0_bestPair_34 rfl ?_
      refine g_get 35 0 2 hC inlX0 wq_98 dX0_bestPair_35 rfl rfl (by decide) rfl ?_
      refine g_iload 38 0 hC dX0_bestPair_38 rfl ?_
      obtain ⟨hj, h⟩ := h
      refine g_iald 40 5 hC dX0_bestPair_40 rfl rfl hj ?_
      refine g_cVNi (As := [.ref (ad b1), .int v3, .int (or (Int32.toNatClampNeg v6))]) (rest := [.int v6, .ref (ad (b0 + 6))]) 41 13 [13, 14, 15, 16, 17, 18, 19, 20, 21, 22, 23, 24, 25, 26, 27, 7, 8, 9, 10, 12] hC (c_X1_between l D cI cS cT ad b2 b1 v3 (or (Int32.toNatClampNeg v6)) eld efln eftk egln egtk etb nli nsct nstk nsle nco _ h) kX1_between nq_571 dX0_bestPair_41 rfl rfl ⟨Nat.le_of_ble_eq_true rfl, Nat.le_of_ble_eq_true rfl⟩ rfl rfl (Nat.zero_le _) (Nat.zero_le _) rfl rfl rfl (Nat.le_of_ble_eq_true rfl) ?_
      rintro r9 _ ⟨u4, u5, u6, u7, u8, rfl, h⟩
      refine ⟨Nat.le_of_ble_eq_true rfl, G.upd [0, 1, 2, 3, 4, 5, 6, 11] (Wd_X0_bestPair cI cS cT ad b0 b1 b2 fln ftk bln btk or ap nli nsct nstk nsle nye nco eld u4 u5 u6 u7 u8) rfl rfl rfl rfl rfl ?_⟩
      obtain ⟨hj, h⟩ := h
      refine g_iast 44 6 (Wd_X0_bestPair cI cS cT ad b0 b1 b2 fln ftk bln btk or (upd ap (Int32.toNatClampNeg v6) r9) nli nsct nstk nsle nye nco eld u4 u5 u6 u7 u8) hC dX0_bestPair_44 rfl rfl hj rfl ?_
      refine g_iinc (v := (1 : Int32)) 45 0 [(6, .int (v6 + (1 : Int32))), (5, .int v5), (0, .ref (ad b0)), (1, .ref (ad b1)), (2, .ref (ad b2)), (3, .int v3), (4, .int v4)] hC dX0_bestPair_45 rfl (by decide) (by rw [hn]; decide) rfl ?_
      refine g_goto 48 18 hC dX0_bestPair_48 (by decide) ?_
      refine G.sub [0, 1, 2, 3, 4, 5, 6] rfl ?_
      exact ih _ _ _ _ _ _ _ h
set_option maxHeartbeats 4000000 in
set_option maxRecDepth 100000 in
theorem L_X0_bestPair_74 {l : Launch} {D : va_G} {cI cS cT : ClassId} {ad : Nat → Nat} {b0 : Nat} {b1 : Nat} {b2 : Nat} {E : CE} {v8 : Int32} {v5 : Int32} {v3 : Int32} {v4 : Int32} {or : Nat → Int32} {ap : Nat → Int32} {nli : Int32} {nsct : Int32} {nstk : Nat → Int32} {nsle : Nat → Int32} {nye : Nat → Int32} {nco : Nat → Int32} {eld : Int32} {post : Int32 → Int32 → (Nat → Int32) → Int32 → (Nat → Int32) → (Nat → Int32) → (Nat → Int32) → Int32 → (Nat → Int32) → Int32 → (Nat → Int32) → (Nat → Nat → Int32) → Prop} (hC : Cx l D (TY cI cS cT) E rm_X0_bestPair cX0_bestPair RX0) (hR : RetI D E (fun (r : Int32) w => ∃ (u_fln : Int32) (u_ftk : Nat → Int32) (u_bln : Int32) (u_btk : Nat → Int32) (u_or : Nat → Int32) (u_ap : Nat → Int32) (u_efln : Int32) (u_eftk : Nat → Int32) (u_egln : Int32) (u_egtk : Nat → Int32) (u_etb : Nat → Nat → Int32), w = (Wd_X0_bestPair cI cS cT ad b0 b1 b2 u_fln u_ftk u_bln u_btk u_or u_ap nli nsct nstk nsle nye nco eld u_efln u_eftk u_egln u_egtk u_etb) ∧ post r u_fln u_ftk u_bln u_btk u_or u_ap u_efln u_eftk u_egln u_egtk u_etb) 0 0 (some .int)) (hn : E.nL = 13) (K : Int32 → Int32 → Int32 → Int32 → (Nat → Int32) → Int32 → (Nat → Int32) → Int32 → (Nat → Int32) → Int32 → (Nat → Int32) → (Nat → Nat → Int32) → Prop) (hK : ∀ (v9 : Int32) (v7 : Int32) (v6 : Int32) (fln : Int32) (ftk : Nat → Int32) (bln : Int32) (btk : Nat → Int32) (efln : Int32) (eftk : Nat → Int32) (egln : Int32) (egtk : Nat → Int32) (etb : Nat → Nat → Int32), K v9 v7 v6 fln ftk bln btk efln eftk egln egtk etb → G l D E 0 0 (Wd_X0_bestPair cI cS cT ad b0 b1 b2 fln ftk bln btk or ap nli nsct nstk nsle nye nco eld efln eftk egln egtk etb) [(9, .int v9), (8, .int v8), (7, .int v7), (6, .int v6), (5, .int v5), (0, .ref (ad b0)), (1, .ref (ad b1)), (2, .ref (ad b2)), (3, .int v3), (4, .int v4)] 194 []) : ∀ (n : Nat) (v9 : Int32) (v7 : Int32) (v6 : Int32) (fln : Int32) (ftk : Nat → Int32) (bln : Int32) (btk : Nat → Int32) (efln : Int32) (eftk : Nat → Int32) (egln : Int32) (egtk : Nat → Int32) (etb : Nat → Nat → Int32), P_X0_bestPair_74 v8 v5 v3 or ap nli nsct nstk nsle nco eld K n v9 v7 v6 fln ftk bln btk efln eftk egln egtk etb → G l D E 0 0 (Wd_X0_bestPair cI cS cT ad b0 b1 b2 fln ftk bln btk or ap nli nsct nstk nsle nye nco eld efln eftk egln egtk etb) [(9, .int v9), (8, .int v8), (7, .int v7), (6, .int v6), (5, .int v5), (0, .ref (ad b0)), (1, .ref (ad b1)), (2, .ref (ad b2)), (3, .int v3), (4, .int v4)] 74 [] := by
  intro n
  induction n with
  | zero => exact fun _ _ _ _ _ _ _ _ _ _ _ _ h => h.elim
  | succ n ih =>
    intro v9 v7 v6 fln ftk bln btk efln eftk egln egtk etb h
    replace h : B_X0_bestPair_74 v8 v5 v3 or ap nli nsct nstk nsle nco eld K (P_X0_bestPair_74 v8 v5 v3 or ap nli nsct nstk nsle nco eld K n) v9 v7 v6 fln ftk bln btk efln eftk egln egtk etb := h
    unfold B_X0_bestPair_74 at h
    refine g_iload 74 0 hC dX0_bestPair_74 rfl ?_
    refine g_iload 76 4 hC dX0_bestPair_76 rfl ?_
    refine g_icmp_ge 78 194 hC dX0_bestPair_78 (by decide) (fun hc => ?_) (fun hc => ?_)
    · replace h := h.1 hc
      refine G.sub [0, 1, 2, 3, 4, 5, 6, 7, 8, 9] rfl ?_
      exact hK v9 v7 v6 fln ftk bln btk efln eftk egln egtk etb h
    · replace h := h.2 hc
      refine g_iload 81 2 hC dX0_bestPair_81 rfl ?_
      refine g_aload_n 83 5 hC dX0_bestPair_83 rfl ?_
      refine g_get 84 0 3 hC inlX0 wq_99 dX0_bestPair_84 rfl rfl (by decide) rfl ?_
      refine g_iload 87 1 hC dX0_bestPair_87 rfl ?_
      obtain ⟨hj, h⟩ := h
      refine g_iald 89 6 hC dX0_bestPair_89 rfl rfl hj ?_
      refine g_aload_n 90 5 hC dX0_bestPair_90 rfl ?_
      refine g_get 91 0 3 hC inlX0 wq_99 dX0_bestPair_91 rfl rfl (by decide) rfl ?_
      refine g_iload 94 0 hC dX0_bestPair_94 rfl ?_
      obtain ⟨hj, h⟩ := h
      refine g_iald 96 6 hC dX0_bestPair_96 rfl rfl hj ?_
      refine g_min 97 hC wq_595 dX0_bestPair_97 (Nat.le_of_ble_eq_true rfl) (Nat.le_of_ble_eq_true rfl) (Nat.zero_le _) (Nat.zero_le _) ?_
      refine g_min 100 hC wq_595 dX0_bestPair_100 (Nat.le_of_ble_eq_true rfl) (Nat.le_of_ble_eq_true rfl) (Nat.zero_le _) (Nat.zero_le _) ?_
      refine g_istore 103 [(10, .int (if (if (ap (Int32.toNatClampNeg v9)) < (ap (Int32.toNatClampNeg v8)) then (ap (Int32.toNatClampNeg v9)) else (ap (Int32.toNatClampNeg v8))) < v7 then (if (ap (Int32.toNatClampNeg v9)) < (ap (Int32.toNatClampNeg v8)) then (ap (Int32.toNatClampNeg v9)) else (ap (Int32.toNatClampNeg v8))) else v7)), (9, .int v9), (8, .int v8), (7, .int v7), (6, .int v6), (5, .int v5), (0, .ref (ad b0)), (1, .ref (ad b1)), (2, .ref (ad b2)), (3, .int v3), (4, .int v4)] hC dX0_bestPair_103 (by rw [hn]; decide) rfl ?_
      refine g_iload 105 2 hC dX0_bestPair_105 rfl ?_
      refine g_iload 107 1 hC dX0_bestPair_107 rfl ?_
      refine g_icmp_eq 109 121 hC dX0_bestPair_109 (by decide) (fun hc => ?_) (fun hc => ?_)
      · replace h := h.1 hc
        refine g_iconst (v := (0 : Int32)) 121 hC dX0_bestPair_121 (by decide) ?_
        refine g_istore 122 [(11, .int (0 : Int32)), (10, .int (if (if (ap (Int32.toNatClampNeg v9)) < (ap (Int32.toNatClampNeg v8)) then (ap (Int32.toNatClampNeg v9)) else (ap (Int32.toNatClampNeg v8))) < v7 then (if (ap (Int32.toNatClampNeg v9)) < (ap (Int32.toNatClampNeg v8)) then (ap (Int32.toNatClampNeg v9)) else (ap (Int32.toNatClampNeg v8))) else v7)), (9, .int v9), (8, .int v8), (7, .int v7), (6, .int v6), (5, .int v5), (0, .ref (ad b0)), (1, .ref (ad b1)), (2, .ref (ad b2)), (3, .int v3), (4, .int v4)] hC dX0_bestPair_122 (by rw [hn]; decide) rfl ?_
        refine g_iload 124 0 hC dX0_bestPair_124 rfl ?_
        refine g_if_eq 126 153 hC dX0_bestPair_126 (by decide) (fun _ => ?_) (fun hc => absurd hc (by decide))
        refine g_ldc 153 hC dX0_bestPair_153 wq_594 ?_
        refine g_istore 155 [(12, .int (1000000 : Int32)), (11, .int (0 : Int32)), (10, .int (if (if (ap (Int32.toNatClampNeg v9)) < (ap (Int32.toNatClampNeg v8)) then (ap (Int32.toNatClampNeg v9)) else (ap (Int32.toNatClampNeg v8))) < v7 then (if (ap (Int32.toNatClampNeg v9)) < (ap (Int32.toNatClampNeg v8)) then (ap (Int32.toNatClampNeg v9)) else (ap (Int32.toNatClampNeg v8))) else v7)), (9, .int v9), (8, .int v8), (7, .int v7), (6, .int v6), (5, .int v5), (0, .ref (ad b0)), (1, .ref (ad b1)), (2, .ref (ad b2)), (3, .int v3), (4, .int v4)] hC dX0_bestPair_155 (by rw [hn]; decide) rfl ?_
        refine g_iload 157 0 hC dX0_bestPair_157 rfl ?_
        refine g_iload 159 2 hC dX0_bestPair_159 rfl ?_
        refine g_icmp_ge 161 188 hC dX0_bestPair_161 (by decide) (fun hc => ?_) (fun hc => ?_)
        · replace h := h.1 hc
          refine g_iinc (v := (1 : Int32)) 188 3 [(9, .int (v9 + (1 : Int32))), (12, .int (1000000 : Int32)), (11, .int (0 : Int32)), (10, .int (if (if (ap (Int32.toNatClampNeg v9)) < (ap (Int32.toNatClampNeg v8)) then (ap (Int32.toNatClampNeg v9)) else (ap (Int32.toNatClampNeg v8))) < v7 then (if (ap (Int32.toNatClampNeg v9)) < (ap (Int32.toNatClampNeg v8)) then (ap (Int32.toNatClampNeg v9)) else (ap (Int32.toNatClampNeg v8))) else v7)), (8, .int v8), (7, .int v7), (6, .int v6), (5, .int v5), (0, .ref (ad b0)), (1, .ref (ad b1)), (2, .ref (ad b2)), (3, .int v3), (4, .int v4)] hC dX0_bestPair_188 rfl (by decide) (by rw [hn]; decide) rfl ?_
          refine g_goto 191 74 hC dX0_bestPair_191 (by decide) ?_
          refine G.sub [0, 4, 5, 6, 7, 8, 9, 10, 11, 12] rfl ?_
          exact ih _ _ _ _ _ _ _ _ _ _ _ _ h
        · replace h := h.2 hc
          refine g_iload 164 0 hC dX0_bestPair_164 rfl ?_
          refine g_istore 166 [(7, .int (1000000 : Int32)), (12, .int (1000000 : Int32)), (11, .int (0 : Int32)), (10, .int (if (if (ap (Int32.toNatClampNeg v9)) < (ap (Int32.toNatClampNeg v8)) then (ap (Int32.toNatClampNeg v9)) else (ap (Int32.toNatClampNeg v8))) < v7 then (if (ap (Int32.toNatClampNeg v9)) < (ap (Int32.toNatClampNeg v8)) then (ap (Int32.toNatClampNeg v9)) else (ap (Int32.toNatClampNeg v8))) else v7)), (9, .int v9), (8, .int v8), (6, .int v6), (5, .int v5), (0, .ref (ad b0)), (1, .ref (ad b1)), (2, .ref (ad b2)), (3, .int v3), (4, .int v4)] hC dX0_bestPair_166 (by rw [hn]; decide) rfl ?_
          refine g_bipush (v := (100 : Int32)) 168 hC dX0_bestPair_168 (by decide) ?_
          refine g_aload_n 170 8 hC dX0_bestPair_170 rfl ?_
          refine g_get 171 0 2 hC inlX0 wq_98 dX0_bestPair_171 rfl rfl (by decide) rfl ?_
          refine g_iload 174 5 hC dX0_bestPair_174 rfl ?_
          obtain ⟨hj, h⟩ := h
          refine g_iald 176 5 hC dX0_bestPair_176 rfl rfl hj ?_
          refine g_imul 177 hC dX0_bestPair_177 ?_
          refine g_aload_n 178 8 hC dX0_bestPair_178 rfl ?_
          refine g_get 179 0 2 hC inlX0 wq_98 dX0_bestPair_179 rfl rfl (by decide) rfl ?_
          refine g_iload 182 4 hC dX0_bestPair_182 rfl ?_
          obtain ⟨hj, h⟩ := h
          refine g_iald 184 5 hC dX0_bestPair_184 rfl rfl hj ?_
          refine g_iadd 185 hC dX0_bestPair_185 ?_
          refine g_istore 186 [(6, .int (((100 : Int32) * (or (Int32.toNatClampNeg v8))) + (or (Int32.toNatClampNeg v9)))), (7, .int (1000000 : Int32)), (12, .int (1000000 : Int32)), (11, .int (0 : Int32)), (10, .int (if (if (ap (Int32.toNatClampNeg v9)) < (ap (Int32.toNatClampNeg v8)) then (ap (Int32.toNatClampNeg v9)) else (ap (Int32.toNatClampNeg v8))) < v7 then (if (ap (Int32.toNatClampNeg v9)) < (ap (Int32.toNatClampNeg v8)) then (ap (Int32.toNatClampNeg v9)) else (ap (Int32.toNatClampNeg v8))) else v7)), (9, .int v9), (8, .int v8), (5, .int v5), (0, .ref (ad b0)), (1, .ref (ad b1)), (2, .ref (ad b2)), (3, .int v3), (4, .int v4)] hC dX0_bestPair_186 (by rw [hn]; decide) rfl ?_
          refine g_iinc (v := (1 : Int32)) 188 5 [(9, .int (v9 + (1 : Int32))), (6, .int (((100 : Int32) * (or (Int32.toNatClampNeg v8))) + (or (Int32.toNatClampNeg v9)))), (7, .int (1000000 : Int32)), (12, .int (1000000 : Int32)), (11, .int (0 : Int32)), (10, .int (if (if (ap (Int32.toNatClampNeg v9)) < (ap (Int32.toNatClampNeg v8)) then (ap (Int32.toNatClampNeg v9)) else (ap (Int32.toNatClampNeg v8))) < v7 then (if (ap (Int32.toNatClampNeg v9)) < (ap (Int32.toNatClampNeg v8)) then (ap (Int32.toNatClampNeg v9)) else (ap (Int32.toNatClampNeg v8))) else v7)), (8, .int v8), (5, .int v5), (0, .ref (ad b0)), (1, .ref (ad b1)), (2, .ref (ad b2)), (3, .int v3), (4, .int v4)] hC dX0_bestPair_188 rfl (by decide) (by rw [hn]; decide) rfl ?_
          refine g_goto 191 74 hC dX0_bestPair_191 (by decide) ?_
          refine G.sub [0, 6, 2, 1, 7, 8, 9, 10, 11, 12] rfl ?_
          exact ih _ _ _ _ _ _ _ _ _ _ _ _ h
      · replace h := h.2 hc
        refine g_iload 112 0 hC dX0_bestPair_112 rfl ?_
        refine g_if_le 114 121 hC dX0_bestPair_114 (by decide) (fun hc => ?_) (fun hc => ?_)
        · replace h := h.1 hc
          refine g_iconst (v := (0 : Int32)) 121 hC dX0_bestPair_121 (by decide) ?_
          refine g_istore 122 [(11, .int (0 : Int32)), (10, .int (if (if (ap (Int32.toNatClampNeg v9)) < (ap (Int32.toNatClampNeg v8)) then (ap (Int32.toNatClampNeg v9)) else (ap (Int32.toNatClampNeg v8))) < v7 then (if (ap (Int32.toNatClampNeg v9)) < (ap (Int32.toNatClampNeg v8)) then (ap (Int32.toNatClampNeg v9)) else (ap (Int32.toNatClampNeg v8))) else v7)), (9, .int v9), (8, .int v8), (7, .int v7), (6, .int v6), (5, .int v5), (0, .ref (ad b0)), (1, .ref (ad b1)), (2, .ref (ad b2)), (3, .int v3), (4, .int v4)] hC dX0_bestPair_122 (by rw [hn]; decide) rfl ?_
          refine g_iload 124 0 hC dX0_bestPair_124 rfl ?_
          refine g_if_eq 126 153 hC dX0_bestPair_126 (by decide) (fun _ => ?_) (fun hc => absurd hc (by decide))
          refine g_ldc 153 hC dX0_bestPair_153 wq_594 ?_
          refine g_istore 155 [(12, .int (1000000 : Int32)), (11, .int (0 : Int32)), (10, .int (if (if (ap (Int32.toNatClampNeg v9)) < (ap (Int32.toNatClampNeg v8)) then (ap (Int32.toNatClampNeg v9)) else (ap (Int32.toNatClampNeg v8))) < v7 then (if (ap (Int32.toNatClampNeg v9)) < (ap (Int32.toNatClampNeg v8)) then (ap (Int32.toNatClampNeg v9)) else (ap (Int32.toNatClampNeg v8))) else v7)), (9, .int v9), (8, .int v8), (7, .int v7), (6, .int v6), (5, .int v5), (0, .ref (ad b0)), (1, .ref (ad b1)), (2, .ref (ad b2)), (3, .int v3), (4, .int v4)] hC dX0_bestPair_155 (by rw [hn]; decide) rfl ?_
          refine g_iload 157 0 hC dX0_bestPair_157 rfl ?_
          refine g_iload 159 2 hC dX0_bestPair_159 rfl ?_
          refine g_icmp_ge 161 188 hC dX0_bestPair_161 (by decide) (fun hc => ?_) (fun hc => ?_)
          · replace h := h.1 hc
            refine g_iinc (v := (1 : Int32)) 188 3 [(9, .int (v9 + (1 : Int32))), (12, .int (1000000 : Int32)), (11, .int (0 : Int32)), (10, .int (if (if (ap (Int32.toNatClampNeg v9)) < (ap (Int32.toNatClampNeg v8)) then (ap (Int32.toNatClampNeg v9)) else (ap (Int32.toNatClampNeg v8))) < v7 then (if (ap (Int32.toNatClampNeg v9)) < (ap (Int32.toNatClampNeg v8)) then (ap (Int32.toNatClampNeg v9)) else (ap (Int32.toNatClampNeg v8))) else v7)), (8, .int v8), (7, .int v7), (6, .int v6), (5, .int v5), (0, .ref (ad b0)), (1, .ref (ad b1)), (2, .ref (ad b2)), (3, .int v3), (4, .int v4)] hC dX0_bestPair_188 rfl (by decide) (by rw [hn]; decide) rfl ?_
            refine g_goto 191 74 hC dX0_bestPair_191 (by decide) ?_
            refine G.sub [0, 4, 5, 6, 7, 8, 9, 10, 11, 12] rfl ?_
            exact ih _ _ _ _ _ _ _ _ _ _ _ _ h
          · replace h := h.2 hc
            refine g_iload 164 0 hC dX0_bestPair_164 rfl ?_
            refine g_istore 166 [(7, .int (1000000 : Int32)), (12, .int (1000000 : Int32)), (11, .int (0 : Int32)), (10, .int (if (if (ap (Int32.toNatClampNeg v9)) < (ap (Int32.toNatClampNeg v8)) then (ap (Int32.toNatClampNeg v9)) else (ap (Int32.toNatClampNeg v8))) < v7 then (if (ap (Int32.toNatClampNeg v9)) < (ap (Int32.toNatClampNeg v8)) then (ap (Int32.toNatClampNeg v9)) else (ap (Int32.toNatClampNeg v8))) else v7)), (9, .int v9), (8, .int v8), (6, .int v6), (5, .int v5), (0, .ref (ad b0)), (1, .ref (ad b1)), (2, .ref (ad b2)), (3, .int v3), (4, .int v4)] hC dX0_bestPair_166 (by rw [hn]; decide) rfl ?_
            refine g_bipush (v := (100 : Int32)) 168 hC dX0_bestPair_168 (by decide) ?_
            refine g_aload_n 170 8 hC dX0_bestPair_170 rfl ?_
            refine g_get 171 0 2 hC inlX0 wq_98 dX0_bestPair_171 rfl rfl (by decide) rfl ?_
            refine g_iload 174 5 hC dX0_bestPair_174 rfl ?_
            obtain ⟨hj, h⟩ := h
            refine g_iald 176 5 hC dX0_bestPair_176 rfl rfl hj ?_
            refine g_imul 177 hC dX0_bestPair_177 ?_
            refine g_aload_n 178 8 hC dX0_bestPair_178 rfl ?_
            refine g_get 179 0 2 hC inlX0 wq_98 dX0_bestPair_179 rfl rfl (by decide) rfl ?_
            refine g_iload 182 4 hC dX0_bestPair_182 rfl ?_
            obtain ⟨hj, h⟩ := h
            refine g_iald 184 5 hC dX0_bestPair_184 rfl rfl hj ?_
            refine g_iadd 185 hC dX0_bestPair_185 ?_
            refine g_istore 186 [(6, .int (((100 : Int32) * (or (Int32.toNatClampNeg v8))) + (or (Int32.toNatClampNeg v9)))), (7, .int (1000000 : Int32)), (12, .int (1000000 : Int32)), (11, .int (0 : Int32)), (10, .int (if (if (ap (Int32.toNatClampNeg v9)) < (ap (Int32.toNatClampNeg v8)) then (ap (Int32.toNatClampNeg v9)) else (ap (Int32.toNatClampNeg v8))) < v7 then (if (ap (Int32.toNatClampNeg v9)) < (ap (Int32.toNatClampNeg v8)) then (ap (Int32.toNatClampNeg v9)) else (ap (Int32.toNatClampNeg v8))) else v7)), (9, .int v9), (8, .int v8), (5, .int v5), (0, .ref (ad b0)), (1, .ref (ad b1)), (2, .ref (ad b2)), (3, .int v3), (4, .int v4)] hC dX0_bestPair_186 (by rw [hn]; decide) rfl ?_
            refine g_iinc (v := (1 : Int32)) 188 5 [(9, .int (v9 + (1 : Int32))), (6, .int (((100 : Int32) * (or (Int32.toNatClampNeg v8))) + (or (Int32.toNatClampNeg v9)))), (7, .int (1000000 : Int32)), (12, .int (1000000 : Int32)), (11, .int (0 : Int32)), (10, .int (if (if (ap (Int32.toNatClampNeg v9)) < (ap (Int32.toNatClampNeg v8)) then (ap (Int32.toNatClampNeg v9)) else (ap (Int32.toNatClampNeg v8))) < v7 then (if (ap (Int32.toNatClampNeg v9)) < (ap (Int32.toNatClampNeg v8)) then (ap (Int32.toNatClampNeg v9)) else (ap (Int32.toNatClampNeg v8))) else v7)), (8, .int v8), (5, .int v5), (0, .ref (ad b0)), (1, .ref (ad b1)), (2, .ref (ad b2)), (3, .int v3), (4, .int v4)] hC dX0_bestPair_188 rfl (by decide) (by rw [hn]; decide) rfl ?_
            refine g_goto 191 74 hC dX0_bestPair_191 (by decide) ?_
            refine G.sub [0, 6, 2, 1, 7, 8, 9, 10, 11, 12] rfl ?_
            exact ih _ _ _ _ _ _ _ _ _ _ _ _ h
        · replace h := h.2 hc
          refine g_iconst (v := (1 : Int32)) 117 hC dX0_bestPair_117 (by decide) ?_
          refine g_goto 118 122 hC dX0_bestPair_118 (by decide) ?_
          refine g_istore 122 [(11, .int (1 : Int32)), (10, .int (if (if (ap (Int32.toNatClampNeg v9)) < (ap (Int32.toNatClampNeg v8)) then (ap (Int32.toNatClampNeg v9)) else (ap (Int32.toNatClampNeg v8))) < v7 then (if (ap (Int32.toNatClampNeg v9)) < (ap (Int32.toNatClampNeg v8)) then (ap (Int32.toNatClampNeg v9)) else (ap (Int32.toNatClampNeg v8))) else v7)), (9, .int v9), (8, .int v8), (7, .int v7), (6, .int v6), (5, .int v5), (0, .ref (ad b0)), (1, .ref (ad b1)), (2, .ref (ad b2)), (3, .int v3), (4, .int v4)] hC dX0_bestPair_122 (by rw [hn]; decide) rfl ?_
          refine g_iload 124 0 hC dX0_bestPair_124 rfl ?_
          refine g_if_eq 126 153 hC dX0_bestPair_126 (by decide) (fun hc => absurd hc (by decide)) (fun _ => ?_)
          refine g_aload_n 129 7 hC dX0_bestPair_129 rfl ?_
          refine g_aload_n 130 8 hC dX0_bestPair_130 rfl ?_
          refine g_aload_n 131 9 hC dX0_bestPair_131 rfl ?_
          refine g_iload_n 132 10 hC dX0_bestPair_132 rfl ?_
          refine g_aload_n 133 7 hC dX0_bestPair_133 rfl ?_
          refine g_get 134 0 2 hC inlX0 wq_98 dX0_bestPair_134 rfl rfl (by decide) rfl ?_
          refine g_iload 137 3 hC dX0_bestPair_137 rfl ?_
          obtain ⟨hj, h⟩ := h
          refine g_iald 139 5 hC dX0_bestPair_139 rfl rfl hj ?_
          refine g_aload_n 140 7 hC dX0_bestPair_140 rfl ?_
          refine g_get 141 0 2 hC inlX0 wq_98 dX0_bestPair_141 rfl rfl (by decide) rfl ?_
          refine g_iload 144 2 hC dX0_bestPair_144 rfl ?_
          obtain ⟨hj, h⟩ := h
          refine g_iald 146 5 hC dX0_bestPair_146 rfl rfl hj ?_
          refine g_cVi (As := [.ref (ad b1), .ref (ad b2), .int v3, .int (or (Int32.toNatClampNeg v8)), .int (or (Int32.toNatClampNeg v9))]) (rest := []) 147 0 [0, 1, 2, 3, 4, 7, 8, 9, 10, 12, 13, 14, 15, 16, 17, 18, 19, 20, 21, 22, 23, 24, 25, 26, 27] hC (c_X0_cost l D cI cS cT ad b0 b1 b2 v3 (or (Int32.toNatClampNeg v8)) (or (Int32.toNatClampNeg v9)) fln ftk bln btk nli nsct nstk nsle nco eld efln eftk egln egtk etb _ h) kX0_cost wq_616 dX0_bestPair_147 rfl rfl ⟨Nat.le_of_ble_eq_true rfl, Nat.le_of_ble_eq_true rfl⟩ rfl rfl (Nat.zero_le _) (Nat.zero_le _) rfl rfl rfl (Nat.le_of_ble_eq_true rfl) ?_
          rintro r20 _ ⟨u11, u12, u13, u14, u15, u16, u17, u18, u19, rfl, h⟩
          refine ⟨Nat.le_of_ble_eq_true rfl, G.upd [5, 6, 11] (Wd_X0_bestPair cI cS cT ad b0 b1 b2 u11 u12 u13 u14 or ap nli nsct nstk nsle nye nco eld u15 u16 u17 u18 u19) rfl rfl rfl rfl rfl ?_⟩
          refine g_goto 150 155 hC dX0_bestPair_150 (by decide) ?_
          refine g_istore 155 [(12, .int r20), (11, .int (1 : Int32)), (10, .int (if (if (ap (Int32.toNatClampNeg v9)) < (ap (Int32.toNatClampNeg v8)) then (ap (Int32.toNatClampNeg v9)) else (ap (Int32.toNatClampNeg v8))) < v7 then (if (ap (Int32.toNatClampNeg v9)) < (ap (Int32.toNatClampNeg v8)) then (ap (Int32.toNatClampNeg v9)) else (ap (Int32.toNatClampNeg v8))) else v7)), (9, .int v9), (8, .int v8), (7, .int v7), (6, .int v6), (5, .int v5), (0, .ref (ad b0)), (1, .ref (ad b1)), (2, .ref (ad b2)), (3, .int v3), (4, .int v4)] hC dX0_bestPair_155 (by rw [hn]; decide) rfl ?_
          refine g_iload 157 0 hC dX0_bestPair_157 rfl ?_
          refine g_iload 159 2 hC dX0_bestPair_159 rfl ?_
          refine g_icmp_ge 161 188 hC dX0_bestPair_161 (by decide) (fun hc => ?_) (fun hc => ?_)
          · replace h := h.1 hc
            refine g_iinc (v := (1 : Int32)) 188 3 [(9, .int (v9 + (1 : Int32))), (12, .int r20), (11, .int (1 : Int32)), (10, .int (if (if (ap (Int32.toNatClampNeg v9)) < (ap (Int32.toNatClampNeg v8)) then (ap (Int32.toNatClampNeg v9)) else (ap (Int32.toNatClampNeg v8))) < v7 then (if (ap (Int32.toNatClampNeg v9)) < (ap (Int32.toNatClampNeg v8)) then (ap (Int32.toNatClampNeg v9)) else (ap (Int32.toNatClampNeg v8))) else v7)), (8, .int v8), (7, .int v7), (6, .int v6), (5, .int v5), (0, .ref (ad b0)), (1, .ref (ad b1)), (2, .ref (ad b2)), (3, .int v3), (4, .int v4)] hC dX0_bestPair_188 rfl (by decide) (by rw [hn]; decide) rfl ?_
            refine g_goto 191 74 hC dX0_bestPair_191 (by decide) ?_
            refine G.sub [0, 4, 5, 6, 7, 8, 9, 10, 11, 12] rfl ?_
            exact ih _ _ _ _ _ _ _ _ _ _ _ _ h
          · replace h := h.2 hc
            refine g_iload 164 0 hC dX0_bestPair_164 rfl ?_
            refine g_istore 166 [(7, .int r20), (12, .int r20), (11, .int (1 : Int32)), (10, .int (if (if (ap (Int32.toNatClampNeg v9)) < (ap (Int32.toNatClampNeg v8)) then (ap (Int32.toNatClampNeg v9)) else (ap (Int32.toNatClampNeg v8))) < v7 then (if (ap (Int32.toNatClampNeg v9)) < (ap (Int32.toNatClampNeg v8)) then (ap (Int32.toNatClampNeg v9)) else (ap (Int32.toNatClampNeg v8))) else v7)), (9, .int v9), (8, .int v8), (6, .int v6), (5, .int v5), (0, .ref (ad b0)), (1, .ref (ad b1)), (2, .ref (ad b2)), (3, .int v3), (4, .int v4)] hC dX0_bestPair_166 (by rw [hn]; decide) rfl ?_
            refine g_bipush (v := (100 : Int32)) 168 hC dX0_bestPair_168 (by decide) ?_
            refine g_aload_n 170 8 hC dX0_bestPair_170 rfl ?_
            refine g_get 171 0 2 hC inlX0 wq_98 dX0_bestPair_171 rfl rfl (by decide) rfl ?_
            refine g_iload 174 5 hC dX0_bestPair_174 rfl ?_
            obtain ⟨hj, h⟩ := h
            refine g_iald 176 5 hC dX0_bestPair_176 rfl rfl hj ?_
            refine g_imul 177 hC dX0_bestPair_177 ?_
            refine g_aload_n 178 8 hC dX0_bestPair_178 rfl ?_
            refine g_get 179 0 2 hC inlX0 wq_98 dX0_bestPair_179 rfl rfl (by decide) rfl ?_
            refine g_iload 182 4 hC dX0_bestPair_182 rfl ?_
            obtain ⟨hj, h⟩ := h
            refine g_iald 184 5 hC dX0_bestPair_184 rfl rfl hj ?_
            refine g_iadd 185 hC dX0_bestPair_185 ?_
            refine g_istore 186 [(6, .int (((100 : Int32) * (or (Int32.toNatClampNeg v8))) + (or (Int32.toNatClampNeg v9)))), (7, .int r20), (12, .int r20), (11, .int (1 : Int32)), (10, .int (if (if (ap (Int32.toNatClampNeg v9)) < (ap (Int32.toNatClampNeg v8)) then (ap (Int32.toNatClampNeg v9)) else (ap (Int32.toNatClampNeg v8))) < v7 then (if (ap (Int32.toNatClampNeg v9)) < (ap (Int32.toNatClampNeg v8)) then (ap (Int32.toNatClampNeg v9)) else (ap (Int32.toNatClampNeg v8))) else v7)), (9, .int v9), (8, .int v8), (5, .int v5), (0, .ref (ad b0)), (1, .ref (ad b1)), (2, .ref (ad b2)), (3, .int v3), (4, .int v4)] hC dX0_bestPair_186 (by rw [hn]; decide) rfl ?_
            refine g_iinc (v := (1 : Int32)) 188 5 [(9, .int (v9 + (1 : Int32))), (6, .int (((100 : Int32) * (or (Int32.toNatClampNeg v8))) + (or (Int32.toNatClampNeg v9)))), (7, .int r20), (12, .int r20), (11, .int (1 : Int32)), (10, .int (if (if (ap (Int32.toNatClampNeg v9)) < (ap (Int32.toNatClampNeg v8)) then (ap (Int32.toNatClampNeg v9)) else (ap (Int32.toNatClampNeg v8))) < v7 then (if (ap (Int32.toNatClampNeg v9)) < (ap (Int32.toNatClampNeg v8)) then (ap (Int32.toNatClampNeg v9)) else (ap (Int32.toNatClampNeg v8))) else v7)), (8, .int v8), (5, .int v5), (0, .ref (ad b0)), (1, .ref (ad b1)), (2, .ref (ad b2)), (3, .int v3), (4, .int v4)] hC dX0_bestPair_188 rfl (by decide) (by rw [hn]; decide) rfl ?_
            refine g_goto 191 74 hC dX0_bestPair_191 (by decide) ?_
            refine G.sub [0, 6, 2, 1, 7, 8, 9, 10, 11, 12] rfl ?_
            exact ih _ _ _ _ _ _ _ _ _ _ _ _ h
set_option maxHeartbeats 4000000 in
set_option maxRecDepth 100000 in
theorem L_X0_bestPair_64 {l : Launch} {D : va_G} {cI cS cT : ClassId} {ad : Nat → Nat} {b0 : Nat} {b1 : Nat} {b2 : Nat} {E : CE} {v5 : Int32} {v3 : Int32} {v4 : Int32} {or : Nat → Int32} {ap : Nat → Int32} {nli : Int32} {nsct : Int32} {nstk : Nat → Int32} {nsle : Nat → Int32} {nye : Nat → Int32} {nco : Nat → Int32} {eld : Int32} {post : Int32 → Int32 → (Nat → Int32) → Int32 → (Nat → Int32) → (Nat → Int32) → (Nat → Int32) → Int32 → (Nat → Int32) → Int32 → (Nat → Int32) → (Nat → Nat → Int32) → Prop} (hC : Cx l D (TY cI cS cT) E rm_X0_bestPair cX0_bestPair RX0) (hR : RetI D E (fun (r : Int32) w => ∃ (u_fln : Int32) (u_ftk : Nat → Int32) (u_bln : Int32) (u_btk : Nat → Int32) (u_or : Nat → Int32) (u_ap : Nat → Int32) (u_efln : Int32) (u_eftk : Nat → Int32) (u_egln : Int32) (u_egtk : Nat → Int32) (u_etb : Nat → Nat → Int32), w = (Wd_X0_bestPair cI cS cT ad b0 b1 b2 u_fln u_ftk u_bln u_btk u_or u_ap nli nsct nstk nsle nye nco eld u_efln u_eftk u_egln u_egtk u_etb) ∧ post r u_fln u_ftk u_bln u_btk u_or u_ap u_efln u_eftk u_egln u_egtk u_etb) 0 0 (some .int)) (hn : E.nL = 13) (K : Int32 → Int32 → Int32 → Int32 → (Nat → Int32) → Int32 → (Nat → Int32) → Int32 → (Nat → Int32) → Int32 → (Nat → Int32) → (Nat → Nat → Int32) → Prop) (hK : ∀ (v8 : Int32) (v7 : Int32) (v6 : Int32) (fln : Int32) (ftk : Nat → Int32) (bln : Int32) (btk : Nat → Int32) (efln : Int32) (eftk : Nat → Int32) (egln : Int32) (egtk : Nat → Int32) (etb : Nat → Nat → Int32), K v8 v7 v6 fln ftk bln btk efln eftk egln egtk etb → G l D E 0 0 (Wd_X0_bestPair cI cS cT ad b0 b1 b2 fln ftk bln btk or ap nli nsct nstk nsle nye nco eld efln eftk egln egtk etb) [(8, .int v8), (7, .int v7), (6, .int v6), (5, .int v5), (0, .ref (ad b0)), (1, .ref (ad b1)), (2, .ref (ad b2)), (3, .int v3), (4, .int v4)] 200 []) : ∀ (n : Nat) (v8 : Int32) (v7 : Int32) (v6 : Int32) (fln : Int32) (ftk : Nat → Int32) (bln : Int32) (btk : Nat → Int32) (efln : Int32) (eftk : Nat → Int32) (egln : Int32) (egtk : Nat → Int32) (etb : Nat → Nat → Int32), P_X0_bestPair_64 v5 v3 or ap nli nsct nstk nsle nco eld K n v8 v7 v6 fln ftk bln btk efln eftk egln egtk etb → G l D E 0 0 (Wd_X0_bestPair cI cS cT ad b0 b1 b2 fln ftk bln btk or ap nli nsct nstk nsle nye nco eld efln eftk egln egtk etb) [(8, .int v8), (7, .int v7), (6, .int v6), (5, .int v5), (0, .ref (ad b0)), (1, .ref (ad b1)), (2, .ref (ad b2)), (3, .int v3), (4, .int v4)] 64 [] := by
  intro n
  induction n with
  | zero => exact fun _ _ _ _ _ _ _ _ _ _ _ _ h => h.elim
  | succ n ih =>
    intro v8 v7 v6 fln ftk bln btk efln eftk egln egtk etb h
    replace h : B_X0_bestPair_64 v5 v3 or ap nli nsct nstk nsle nco eld K (P_X0_bestPair_64 v5 v3 or ap nli nsct nstk nsle nco eld K n) v8 v7 v6 fln ftk bln btk efln eftk egln egtk etb := h
    unfold B_X0_bestPair_64 at h
    refine g_iload 64 0 hC dX0_bestPair_64 rfl ?_
    refine g_iload 66 3 hC dX0_bestPair_66 rfl ?_
    refine g_icmp_ge 68 200 hC dX0_bestPair_68 (by decide) (fun hc => ?_) (fun hc => ?_)
    · replace h := h.1 hc
      refine G.sub [0, 1, 2, 3, 4, 5, 6, 7, 8] rfl ?_
      exact hK v8 v7 v6 fln ftk bln btk efln eftk egln egtk etb h
    · replace h := h.2 hc
      refine g_iconst (v := (0 : Int32)) 71 hC dX0_bestPair_71 (by decide) ?_
      refine g_istore 72 [(9, .int (0 : Int32)), (8, .int v8), (7, .int v7), (6, .int v6), (5, .int v5), (0, .ref (ad b0)), (1, .ref (ad b1)), (2, .ref (ad b2)), (3, .int v3), (4, .int v4)] hC dX0_bestPair_72 (by rw [hn]; decide) rfl ?_
      obtain ⟨n, h⟩ := h
      refine L_X0_bestPair_74 hC hR hn _ (fun w9_21 w7_21 w6_21 fln_21 ftk_21 bln_21 btk_21 efln_21 eftk_21 egln_21 egtk_21 etb_21 h => ?_) n _ _ _ _ _ _ _ _ _ _ _ _ h
      refine g_iinc (v := (1 : Int32)) 194 1 [(8, .int (v8 + (1 : Int32))), (9, .int w9_21), (7, .int w7_21), (6, .int w6_21), (5, .int v5), (0, .ref (ad b0)), (1, .ref (ad b1)), (2, .ref (ad b2)), (3, .int v3), (4, .int v4)] hC dX0_bestPair_194 rfl (by decide) (by rw [hn]; decide) rfl ?_
      refine g_goto 197 64 hC dX0_bestPair_197 (by decide) ?_
      refine G.sub [0, 2, 3, 4, 5, 6, 7, 8, 9] rfl ?_
      exact ih _ _ _ _ _ _ _ _ _ _ _ _ h
set_option maxHeartbeats 4000000 in
set_option maxRecDepth 100000 in
theorem c_X0_bestPair (l : Launch) (D : va_G) (cI cS cT : ClassId) (ad : Nat → Nat) (b0 : Nat) (b1 : Nat) (b2 : Nat) (x3 : Int32) (x4 : Int32) (fln : Int32) (ftk : Nat → Int32) (bln : Int32) (btk : Nat → Int32) (or : Nat → Int32) (ap : Nat → Int32) (nli : Int32) (nsct : Int32) (nstk : Nat → Int32) (nsle : Nat → Int32) (nye : Nat → Int32) (nco : Nat → Int32) (eld : Int32) (efln : Int32) (eftk : Nat → Int32) (egln : Int32) (egtk : Nat → Int32) (etb : Nat → Nat → Int32) (post : Int32 → Int32 → (Nat → Int32) → Int32 → (Nat → Int32) → (Nat → Int32) → (Nat → Int32) → Int32 → (Nat → Int32) → Int32 → (Nat → Int32) → (Nat → Nat → Int32) → Prop) (h : P_X0_bestPair x3 x4 fln ftk bln btk or ap nli nsct nstk nsle nye nco eld efln eftk egln egtk etb post) : MI l D (TY cI cS cT) yX0_bestPair cX0_bestPair 13 (some .int) rm_X0_bestPair [.ref (ad b0), .ref (ad b1), .ref (ad b2), .int x3, .int x4] (Wd_X0_bestPair cI cS cT ad b0 b1 b2 fln ftk bln btk or ap nli nsct nstk nsle nye nco eld efln eftk egln egtk etb) (fun (r : Int32) w => ∃ (u_fln : Int32) (u_ftk : Nat → Int32) (u_bln : Int32) (u_btk : Nat → Int32) (u_or : Nat → Int32) (u_ap : Nat → Int32) (u_efln : Int32) (u_eftk : Nat → Int32) (u_egln : Int32) (u_egtk : Nat → Int32) (u_etb : Nat → Nat → Int32), w = (Wd_X0_bestPair cI cS cT ad b0 b1 b2 u_fln u_ftk u_bln u_btk u_or u_ap nli nsct nstk nsle nye nco eld u_efln u_eftk u_egln u_egtk u_etb) ∧ post r u_fln u_ftk u_bln u_btk u_or u_ap u_efln u_eftk u_egln u_egtk u_etb) := by
  refine MI.of (by decide) (Nat.le_of_ble_eq_true rfl) (fun E hC hR hn => ?_)
  replace hC : Cx l D (TY cI cS cT) E rm_X0_bestPair cX0_bestPair RX0 := hC
  replace hR : RetI D E (fun (r : Int32) w => ∃ (u_fln : Int32) (u_ftk : Nat → Int32) (u_bln : Int32) (u_btk : Nat → Int32) (u_or : Nat → Int32) (u_ap : Nat → Int32) (u_efln : Int32) (u_eftk : Nat → Int32) (u_egln : Int32) (u_egtk : Nat → Int32) (u_etb : Nat → Nat → Int32), w = (Wd_X0_bestPair cI cS cT ad b0 b1 b2 u_fln u_ftk u_bln u_btk u_or u_ap nli nsct nstk nsle nye nco eld u_efln u_eftk u_egln u_egtk u_etb) ∧ post r u_fln u_ftk u_bln u_btk u_or u_ap u_efln u_eftk u_egln u_egtk u_etb) 0 0 (some .int) := hR
  unfold P_X0_bestPair at h
  change G l D E 0 0 _ [(0, .ref (ad b0)), (1, .ref (ad b1)), (2, .ref (ad b2)), (3, .int x3), (4, .int x4)] 0 []
  refine g_aload_n 0 1 hC dX0_bestPair_0 rfl ?_
  refine g_aload_n 1 0 hC dX0_bestPair_1 rfl ?_
  refine g_get 2 0 2 hC inlX0 wq_98 dX0_bestPair_2 rfl rfl (by decide) rfl ?_
  refine g_cVNv (As := [.ref (ad (b0 + 5))]) (rest := []) 5 7 [7, 8, 11, 5] hC (c_X7_sortByAge l D cI cS cT ad b1 (b0 + 5) 12 nli nsct nye or _ h) kX7_sortByAge nq_569 dX0_bestPair_5 rfl rfl ⟨Nat.le_of_ble_eq_true rfl, Nat.le_of_ble_eq_true rfl⟩ rfl rfl (Nat.zero_le _) (Nat.zero_le _) rfl rfl rfl (Nat.le_of_ble_eq_true rfl) ?_
  rintro _ ⟨u1, rfl, h⟩
  refine ⟨Nat.le_of_ble_eq_true rfl, G.upd [0, 1, 2, 3, 4, 6, 9, 10, 12, 13, 14, 15, 16, 17, 18, 19, 20, 21, 22, 23, 24, 25, 26, 27] (Wd_X0_bestPair cI cS cT ad b0 b1 b2 fln ftk bln btk u1 ap nli nsct nstk nsle nye nco eld efln eftk egln egtk etb) rfl rfl rfl rfl rfl ?_⟩
  refine g_aload_n 8 1 hC dX0_bestPair_8 rfl ?_
  refine g_iload_n 9 3 hC dX0_bestPair_9 rfl ?_
  refine g_cVNi (As := [.int x3]) (rest := []) 10 7 [7, 8, 11] hC (c_X7_place l D cI cS cT ad b1 x3 nli nsct nye _ h) kX7_place nq_570 dX0_bestPair_10 rfl rfl ⟨Nat.le_of_ble_eq_true rfl, Nat.le_of_ble_eq_true rfl⟩ rfl rfl (Nat.zero_le _) (Nat.zero_le _) rfl rfl rfl (Nat.le_of_ble_eq_true rfl) ?_
  rintro r3 _ ⟨rfl, h⟩
  refine ⟨Nat.le_of_ble_eq_true rfl, G.upd [0, 1, 2, 3, 4, 5, 6, 9, 10, 12, 13, 14, 15, 16, 17, 18, 19, 20, 21, 22, 23, 24, 25, 26, 27] (Wd_X0_bestPair cI cS cT ad b0 b1 b2 fln ftk bln btk u1 ap nli nsct nstk nsle nye nco eld efln eftk egln egtk etb) rfl rfl rfl rfl rfl ?_⟩
  refine g_istore 13 [(5, .int r3), (0, .ref (ad b0)), (1, .ref (ad b1)), (2, .ref (ad b2)), (3, .int x3), (4, .int x4)] hC dX0_bestPair_13 (by rw [hn]; decide) rfl ?_
  refine g_iconst (v := (0 : Int32)) 15 hC dX0_bestPair_15 (by decide) ?_
  refine g_istore 16 [(6, .int (0 : Int32)), (5, .int r3), (0, .ref (ad b0)), (1, .ref (ad b1)), (2, .ref (ad b2)), (3, .int x3), (4, .int x4)] hC dX0_bestPair_16 (by rw [hn]; decide) rfl ?_
  obtain ⟨n, h⟩ := h
  refine L_X0_bestPair_18 hC hR hn _ (fun w6_10 ap_10 efln_10 eftk_10 egln_10 egtk_10 etb_10 h => ?_) n _ _ _ _ _ _ _ h
  refine g_bipush (v := (-4 : Int32)) 51 hC dX0_bestPair_51 (by decide) ?_
  refine g_istore 53 [(6, .int (-4 : Int32)), (5, .int r3), (0, .ref (ad b0)), (1, .ref (ad b1)), (2, .ref (ad b2)), (3, .int x3), (4, .int x4)] hC dX0_bestPair_53 (by rw [hn]; decide) rfl ?_
  refine g_iload 55 6 hC dX0_bestPair_55 rfl ?_
  refine g_iconst (v := (1 : Int32)) 57 hC dX0_bestPair_57 (by decide) ?_
  refine g_iadd 58 hC dX0_bestPair_58 ?_
  refine g_istore 59 [(7, .int (x4 + (1 : Int32))), (6, .int (-4 : Int32)), (5, .int r3), (0, .ref (ad b0)), (1, .ref (ad b1)), (2, .ref (ad b2)), (3, .int x3), (4, .int x4)] hC dX0_bestPair_59 (by rw [hn]; decide) rfl ?_
  refine g_iconst (v := (0 : Int32)) 61 hC dX0_bestPair_61 (by decide) ?_
  refine g_istore 62 [(8, .int (0 : Int32)), (7, .int (x4 + (1 : Int32))), (6, .int (-4 : Int32)), (5, .int r3), (0, .ref (ad b0)), (1, .ref (ad b1)), (2, .ref (ad b2)), (3, .int x3), (4, .int x4)] hC dX0_bestPair_62 (by rw [hn]; decide) rfl ?_
  obtain ⟨n, h⟩ := h
  refine L_X0_bestPair_64 hC hR hn _ (fun w8_22 w7_22 w6_22 fln_22 ftk_22 bln_22 btk_22 efln_22 eftk_22 egln_22 egtk_22 etb_22 h => ?_) n _ _ _ _ _ _ _ _ _ _ _ _ h
  refine g_iload 200 2 hC dX0_bestPair_200 rfl ?_
  exact g_iret 202 hC hR dX0_bestPair_202 ⟨fln_22, ftk_22, bln_22, btk_22, u1, ap_10, efln_22, eftk_22, egln_22, egtk_22, etb_22, rfl, h⟩
