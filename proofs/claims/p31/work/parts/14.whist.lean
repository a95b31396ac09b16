/-! written by wip/p31/gen/walk.py: worlds, predicates and contracts -/
/-! ===== ProverbCollection$History.keep(LProverbCollection$State;)V ===== -/
def Wd_X3_keep (cI cS cT : ClassId) (ad : Nat → Nat) (b0 : Nat) (b1 : Nat) (nx : Int32) (cn : Int32) (rli : Nat → Int32) (rsct : Nat → Int32) (rstk : Nat → Nat → Int32) (rsle : Nat → Nat → Int32) (rye : Nat → Nat → Int32) (rre : Nat → Nat → Int32) (rpct : Nat → Int32) (rptk : Nat → Nat → Int32) (rple : Nat → Nat → Int32) (rco : Nat → Nat → Int32) (nli : Int32) (nsct : Int32) (nstk : Nat → Int32) (nsle : Nat → Int32) (nye : Nat → Int32) (nre : Nat → Int32) (npct : Int32) (nptk : Nat → Int32) (nple : Nat → Int32) (nco : Nat → Int32) : va_W := [(ad b0, .inr (3, [.ref (ad (b0 + 1)), .int nx, .int cn])), (ad (b0 + 1), .inl (cS, 5, .inr (.inr (.inr (.inr (fun i => if i < 5 then some (ad (b0 + 2 + 10 * i)) else none)))))), (ad (b0 + 2), .inr (7, [.ref (ad (b0 + 3)), .ref (ad (b0 + 6)), .ref (ad (b0 + 7)), .ref (ad (b0 + 8)), .ref (ad (b0 + 11)), .int (rli 0)])), (ad (b0 + 3), .inr (6, [.int 12, .ref (ad (b0 + 4)), .ref (ad (b0 + 5)), .int (rsct 0)])), (ad (b0 + 4), .inl (cI, 96, .inl (rstk 0))), (ad (b0 + 5), .inl (cI, 12, .inl (rsle 0))), (ad (b0 + 6), .inl (cI, 12, .inl (rye 0))), (ad (b0 + 7), .inl (cI, 12, .inl (rre 0))), (ad (b0 + 8), .inr (6, [.int 6, .ref (ad (b0 + 9)), .ref (ad (b0 + 10)), .int (rpct 0)])), (ad (b0 + 9), .inl (cI, 48, .inl (rptk 0))), (ad (b0 + 10), .inl (cI, 6, .inl (rple 0))), (ad (b0 + 11), .inl (cI, 4, .inl (rco 0))), (ad (b0 + 12), .inr (7, [.ref (ad (b0 + 13)), .ref (ad (b0 + 16)), .ref (ad (b0 + 17)), .ref (ad (b0 + 18)), .ref (ad (b0 + 21)), .int (rli 1)])), (ad (b0 + 13), .inr (6, [.int 12, .ref (ad (b0 + 14)), .ref (ad (b0 + 15)), .int (rsct 1)])), (ad (b0 + 14), .inl (cI, 96, .inl (rstk 1))), (ad (b0 + 15), .inl (cI, 12, .inl (rsle 1))), (ad (b0 + 16), .inl (cI, 12, .inl (rye 1))), (ad (b0 + 17), .inl (cI, 12, .inl (rre 1))), (ad (b0 + 18), .inr (6, [.int 6, .ref (ad (b0 + 19)), .ref (ad (b0 + 20)), .int (rpct 1)])), (ad (b0 + 19), .inl (cI, 48, .inl (rptk 1))), (ad (b0 + 20), .inl (cI, 6, .inl (rple 1))), (ad (b0 + 21), .inl (cI, 4, .inl (rco 1))), (ad (b0 + 22), .inr (7, [.ref (ad (b0 + 23)), .ref (ad (b0 + 26)), .ref (ad (b0 + 27)), .ref (ad (b0 + 28)), .ref (ad (b0 + 31)), .int (rli 2)])), (ad (b0 + 23), .inr (6, [.int 12, .ref (ad (b0 + 24)), .ref (ad (b0 + 25)), .int (rsct 2)])), (ad (b0 + 24), .inl (cI, 96, .inl (rstk 2))), (ad (b0 + 25), .inl (cI, 12, .inl (rsle 2))), (ad (b0 + 26), .inl (cI, 12, .inl (rye 2))), (ad (b0 + 27), .inl (cI, 12, .inl (rre 2))), (ad (b0 + 28), .inr (6, [.int 6, .ref (ad (b0 + 29)), .ref (ad (b0 + 30)), .int (rpct 2)])), (ad (b0 + 29), .inl (cI, 48, .inl (rptk 2))), (ad (b0 + 30), .inl (cI, 6, .inl (rple 2))), (ad (b0 + 31), .inl (cI, 4, .inl (rco 2))), (ad (b0 + 32), .inr (7, [.ref (ad (b0 + 33)), .ref (ad (b0 + 36)), .ref (ad (b0 + 37)), .ref (ad (b0 + 38)), .ref (ad (b0 + 41)), .int (rli 3)])), (ad (b0 + 33), .inr (6, [.int 12, .ref (ad (b0 + 34)), .ref (ad (b0 + 35)), .int (rsct 3)])), (ad (b0 + 34), .inl (cI, 96, .inl (rstk 3))), (ad (b0 + 35), .inl (cI, 12, .inl (rsle 3))), (ad (b0 + 36), .inl (cI, 12, .inl (rye 3))), (ad (b0 + 37), .inl (cI, 12, .inl (rre 3))), (ad (b0 + 38), .inr (6, [.int 6, .ref (ad (b0 + 39)), .ref (ad (b0 + 40)), .int (rpct 3)])), (ad (b0 + 39), .inl (cI, 48, .inl (rptk 3))), (ad (b0 + 40), .inl (cI, 6, .inl (rple 3))), (ad (b0 + 41), .inl (cI, 4, .inl (rco 3))), (ad (b0 + 42), .inr (7, [.ref (ad (b0 + 43)), .ref (ad (b0 + 46)), .ref (ad (b0 + 47)), .ref (ad (b0 + 48)), .ref (ad (b0 + 51)), .int (rli 4)])), (ad (b0 + 43), .inr (6, [.int 12, .ref (ad (b0 + 44)), .ref (ad (b0 + 45)), .int (rsct 4)])), (ad (b0 + 44), .inl (cI, 96, .inl (rstk 4))), (ad (b0 + 45), .inl (cI, 12, .inl (rsle 4))), (ad (b0 + 46), .inl (cI, 12, .inl (rye 4))), (ad (b0 + 47), .inl (cI, 12, .inl (rre 4))), (ad (b0 + 48), .inr (6, [.int 6, .ref (ad (b0 + 49)), .ref (ad (b0 + 50)), .int (rpct 4)])), (ad (b0 + 49), .inl (cI, 48, .inl (rptk 4))), (ad (b0 + 50), .inl (cI, 6, .inl (rple 4))), (ad (b0 + 51), .inl (cI, 4, .inl (rco 4))), (ad b1, .inr (7, [.ref (ad (b1 + 1)), .ref (ad (b1 + 4)), .ref (ad (b1 + 5)), .ref (ad (b1 + 6)), .ref (ad (b1 + 9)), .int nli])), (ad (b1 + 1), .inr (6, [.int 12, .ref (ad (b1 + 2)), .ref (ad (b1 + 3)), .int nsct])), (ad (b1 + 2), .inl (cI, 96, .inl nstk)), (ad (b1 + 3), .inl (cI, 12, .inl nsle)), (ad (b1 + 4), .inl (cI, 12, .inl nye)), (ad (b1 + 5), .inl (cI, 12, .inl nre)), (ad (b1 + 6), .inr (6, [.int 6, .ref (ad (b1 + 7)), .ref (ad (b1 + 8)), .int npct])), (ad (b1 + 7), .inl (cI, 48, .inl nptk)), (ad (b1 + 8), .inl (cI, 6, .inl nple)), (ad (b1 + 9), .inl (cI, 4, .inl nco))]
def rm_X3_keep : Room := { frames := 4, cells := 0, slots := 0, locals := 103 }
theorem kX3_keep : KV yX3_keep cX3_keep 2 none 1 := ⟨wq_222, wq_20, wq_220, wq_221, by decide +kernel⟩
def P_X3_keep (nx : Int32) (cn : Int32) (rli : Nat → Int32) (rsct : Nat → Int32) (rstk : Nat → Nat → Int32) (rsle : Nat → Nat → Int32) (rye : Nat → Nat → Int32) (rre : Nat → Nat → Int32) (rpct : Nat → Int32) (rptk : Nat → Nat → Int32) (rple : Nat → Nat → Int32) (rco : Nat → Nat → Int32) (nli : Int32) (nsct : Int32) (nstk : Nat → Int32) (nsle : Nat → Int32) (nye : Nat → Int32) (nre : Nat → Int32) (npct : Int32) (nptk : Nat → Int32) (nple : Nat → Int32) (nco : Nat → Int32) (post : Int32 → Int32 → (Nat → Int32) → (Nat → Int32) → (Nat → Nat → Int32) → (Nat → Nat → Int32) → (Nat → Nat → Int32) → (Nat → Nat → Int32) → (Nat → Int32) → (Nat → Nat → Int32) → (Nat → Nat → Int32) → (Nat → Nat → Int32) → Prop) : Prop :=
  ((5 : Int32) ≤ nx → (vp_in (0 : Int32) 5 ∧ ∀ kk1 : Nat, kk1 = (Int32.toNatClampNeg (0 : Int32)) → (P_X7_copyFrom (rli kk1) (rsct kk1) (rstk kk1) (rsle kk1) (rye kk1) (rre kk1) (rpct kk1) (rptk kk1) (rple kk1) (rco kk1) nli nsct nstk nsle nye nre npct nptk nple nco (fun u2 u3 u4 u5 u6 u7 u8 u9 u10 u11 => post ((0 : Int32) + (1 : Int32)) (if (5 : Int32) < (cn + (1 : Int32)) then (5 : Int32) else (cn + (1 : Int32))) (va_up rli kk1 u2) (va_up rsct kk1 u3) (va_up rstk kk1 u4) (va_up rsle kk1 u5) (va_up rye kk1 u6) (va_up rre kk1 u7) (va_up rpct kk1 u8) (va_up rptk kk1 u9) (va_up rple kk1 u10) (va_up rco kk1 u11))))) ∧ (¬ (5 : Int32) ≤ nx → (vp_in nx 5 ∧ ∀ kk69 : Nat, kk69 = (Int32.toNatClampNeg nx) → (P_X7_copyFrom (rli kk69) (rsct kk69) (rstk kk69) (rsle kk69) (rye kk69) (rre kk69) (rpct kk69) (rptk kk69) (rple kk69) (rco kk69) nli nsct nstk nsle nye nre npct nptk nple nco (fun u70 u71 u72 u73 u74 u75 u76 u77 u78 u79 => post (nx + (1 : Int32)) (if (5 : Int32) < (cn + (1 : Int32)) then (5 : Int32) else (cn + (1 : Int32))) (va_up rli kk69 u70) (va_up rsct kk69 u71) (va_up rstk kk69 u72) (va_up rsle kk69 u73) (va_up rye kk69 u74) (va_up rre kk69 u75) (va_up rpct kk69 u76) (va_up rptk kk69 u77) (va_up rple kk69 u78) (va_up rco kk69 u79)))))
set_option maxHeartbeats 4000000 in
set_option maxRecDepth 100000 in
theorem c_X3_keep (l : Launch) (D : va_G) (cI cS cT : ClassId) (ad : Nat → Nat) (b0 : Nat) (b1 : Nat) (nx : Int32) (cn : Int32) (rli : Nat → Int32) (rsct : Nat → Int32) (rstk : Nat → Nat → Int32) (rsle : Nat → Nat → Int32) (rye : Nat → Nat → Int32) (rre : Nat → Nat → Int32) (rpct : Nat → Int32) (rptk : Nat → Nat → Int32) (rple : Nat → Nat → Int32) (rco : Nat → Nat → Int32) (nli : Int32) (nsct : Int32) (nstk : Nat → Int32) (nsle : Nat → Int32) (nye : Nat → Int32) (nre : Nat → Int32) (npct : Int32) (nptk : Nat → Int32) (nple : Nat → Int32) (nco : Nat → Int32) (post : Int32 → Int32 → (Nat → Int32) → (Nat → Int32) → (Nat → Nat → Int32) → (Nat → Nat → Int32) → (Nat → Nat → Int32) → (Nat → Nat → Int32) → (Nat → Int32) → (Nat → Nat → Int32) → (Nat → Nat → Int32) → (Nat → Nat → Int32) → Prop) (h : P_X3_keep nx cn rli rsct rstk rsle rye rre rpct rptk rple rco nli nsct nstk nsle nye nre npct nptk nple nco post) : MV l D (TY cI cS cT) yX3_keep cX3_keep 2 rm_X3_keep [.ref (ad b0), .ref (ad b1)] (Wd_X3_keep cI cS cT ad b0 b1 nx cn rli rsct rstk rsle rye rre rpct rptk rple rco nli nsct nstk nsle nye nre npct nptk nple nco) (fun w => ∃ (u_nx : Int32) (u_cn : Int32) (u_rli : Nat → Int32) (u_rsct : Nat → Int32) (u_rstk : Nat → Nat → Int32) (u_rsle : Nat → Nat → Int32) (u_rye : Nat → Nat → Int32) (u_rre : Nat → Nat → Int32) (u_rpct : Nat → Int32) (u_rptk : Nat → Nat → Int32) (u_rple : Nat → Nat → Int32) (u_rco : Nat → Nat → Int32), w = (Wd_X3_keep cI cS cT ad b0 b1 u_nx u_cn u_rli u_rsct u_rstk u_rsle u_rye u_rre u_rpct u_rptk u_rple u_rco nli nsct nstk nsle nye nre npct nptk nple nco) ∧ post u_nx u_cn u_rli u_rsct u_rstk u_rsle u_rye u_rre u_rpct u_rptk u_rple u_rco) := by
  refine MV.of (by decide) (Nat.le_of_ble_eq_true rfl) (fun E hC hR hn => ?_)
  replace hC : Cx l D (TY cI cS cT) E rm_X3_keep cX3_keep RX3 := hC
  replace hR : RetV D E (fun w => ∃ (u_nx : Int32) (u_cn : Int32) (u_rli : Nat → Int32) (u_rsct : Nat → Int32) (u_rstk : Nat → Nat → Int32) (u_rsle : Nat → Nat → Int32) (u_rye : Nat → Nat → Int32) (u_rre : Nat → Nat → Int32) (u_rpct : Nat → Int32) (u_rptk : Nat → Nat → Int32) (u_rple : Nat → Nat → Int32) (u_rco : Nat → Nat → Int32), w = (Wd_X3_keep cI cS cT ad b0 b1 u_nx u_cn u_rli u_rsct u_rstk u_rsle u_rye u_rre u_rpct u_rptk u_rple u_rco nli nsct nstk nsle nye nre npct nptk nple nco) ∧ post u_nx u_cn u_rli u_rsct u_rstk u_rsle u_rye u_rre u_rpct u_rptk u_rple u_rco) 0 0 := hR
  unfold P_X3_keep at h
  change G l D E 0 0 _ [(0, .ref (ad b0)), (1, .ref (ad b1))] 0 []
  refine g_aload_n 0 0 hC dX3_keep_0 rfl ?_
  refine g_aload_n 1 0 hC dX3_keep_1 rfl ?_
  refine g_get 2 0 1 hC inlX3 wq_104 dX3_keep_2 rfl rfl (by decide) rfl ?_
  refine g_iconst (v := (5 : Int32)) 5 hC dX3_keep_5 (by decide) ?_
  refine g_icmp_ge 6 16 hC dX3_keep_6 (by decide) (fun hc => ?_) (fun hc => ?_)
  · replace h := h.1 hc
    refine g_iconst (v := (0 : Int32)) 16 hC dX3_keep_16 (by decide) ?_
    refine g_put 17 0 1 (Wd_X3_keep cI cS cT ad b0 b1 (0 : Int32) cn rli rsct rstk rsle rye rre rpct rptk rple rco nli nsct nstk nsle nye nre npct nptk nple nco) hC inlX3 tyX3_ok nmX3 wq_104 dX3_keep_17 rfl rfl (by decide) rfl rfl (Nat.le_of_ble_eq_true rfl) rfl ?_
    refine g_aload_n 20 0 hC dX3_keep_20 rfl ?_
    refine g_get 21 0 0 hC inlX3 wq_65 dX3_keep_21 rfl rfl (by decide) rfl ?_
    refine g_aload_n 24 0 hC dX3_keep_24 rfl ?_
    refine g_get 25 0 1 hC inlX3 wq_104 dX3_keep_25 rfl rfl (by decide) rfl ?_
    obtain ⟨hj, h⟩ := h
    have hk13 := vpLt hj
    replace h := h _ rfl
    refine g_aald 28 1 1 hC dX3_keep_28 rfl rfl rfl hj (if_pos hk13) ?_
    revert h
    revert hk13
    generalize (Int32.toNatClampNeg (0 : Int32)) = kk1
    intro hk13 h
    rcases (show kk1 = 0 ∨ kk1 = 1 ∨ kk1 = 2 ∨ kk1 = 3 ∨ kk1 = 4 by omega) with rfl | rfl | rfl | rfl | rfl
    · refine g_aload_n 29 1 hC dX3_keep_29 rfl ?_
      refine g_cVNv (As := [.ref (ad b1)]) (rest := []) 30 2 [2, 3, 4, 5, 6, 7, 8, 9, 10, 11, 52, 53, 54, 55, 56, 57, 58, 59, 60, 61] hC (c_X7_copyFrom l D cI cS cT ad (b0 + 2) b1 (rli 0) (rsct 0) (rstk 0) (rsle 0) (rye 0) (rre 0) (rpct 0) (rptk 0) (rple 0) (rco 0) nli nsct nstk nsle nye nre npct nptk nple nco _ h) kX7_copyFrom nq_250 dX3_keep_30 rfl rfl ⟨Nat.le_of_ble_eq_true rfl, Nat.le_of_ble_eq_true rfl⟩ rfl rfl (Nat.zero_le _) (Nat.zero_le _) rfl rfl rfl (Nat.le_of_ble_eq_true rfl) ?_
      rintro _ ⟨u14, u15, u16, u17, u18, u19, u20, u21, u22, u23, rfl, h⟩
      refine ⟨Nat.le_of_ble_eq_true rfl, G.upd [0, 1, 12, 13, 14, 15, 16, 17, 18, 19, 20, 21, 22, 23, 24, 25, 26, 27, 28, 29, 30, 31, 32, 33, 34, 35, 36, 37, 38, 39, 40, 41, 42, 43, 44, 45, 46, 47, 48, 49, 50, 51] (Wd_X3_keep cI cS cT ad b0 b1 (0 : Int32) cn (va_up rli 0 u14) (va_up rsct 0 u15) (va_up rstk 0 u16) (va_up rsle 0 u17) (va_up rye 0 u18) (va_up rre 0 u19) (va_up rpct 0 u20) (va_up rptk 0 u21) (va_up rple 0 u22) (va_up rco 0 u23) nli nsct nstk nsle nye nre npct nptk nple nco) rfl rfl rfl rfl rfl ?_⟩
      refine g_aload_n 33 0 hC dX3_keep_33 rfl ?_
      refine g_dup 34 hC dX3_keep_34 rfl ?_
      refine g_get 35 0 1 hC inlX3 wq_104 dX3_keep_35 rfl rfl (by decide) rfl ?_
      refine g_iconst (v := (1 : Int32)) 38 hC dX3_keep_38 (by decide) ?_
      refine g_iadd 39 hC dX3_keep_39 ?_
      refine g_put 40 0 1 (Wd_X3_keep cI cS cT ad b0 b1 ((0 : Int32) + (1 : Int32)) cn (va_up rli 0 u14) (va_up rsct 0 u15) (va_up rstk 0 u16) (va_up rsle 0 u17) (va_up rye 0 u18) (va_up rre 0 u19) (va_up rpct 0 u20) (va_up rptk 0 u21) (va_up rple 0 u22) (va_up rco 0 u23) nli nsct nstk nsle nye nre npct nptk nple nco) hC inlX3 tyX3_ok nmX3 wq_104 dX3_keep_40 rfl rfl (by decide) rfl rfl (Nat.le_of_ble_eq_true rfl) rfl ?_
      refine g_aload_n 43 0 hC dX3_keep_43 rfl ?_
      refine g_aload_n 44 0 hC dX3_keep_44 rfl ?_
      refine g_get 45 0 2 hC inlX3 wq_105 dX3_keep_45 rfl rfl (by decide) rfl ?_
      refine g_iconst (v := (1 : Int32)) 48 hC dX3_keep_48 (by decide) ?_
      refine g_iadd 49 hC dX3_keep_49 ?_
      refine g_iconst (v := (5 : Int32)) 50 hC dX3_keep_50 (by decide) ?_
      refine g_min 51 hC wq_223 dX3_keep_51 (Nat.le_of_ble_eq_true rfl) (Nat.le_of_ble_eq_true rfl) (Nat.zero_le _) (Nat.zero_le _) ?_
      refine g_put 54 0 2 (Wd_X3_keep cI cS cT ad b0 b1 ((0 : Int32) + (1 : Int32)) (if (5 : Int32) < (cn + (1 : Int32)) then (5 : Int32) else (cn + (1 : Int32))) (va_up rli 0 u14) (va_up rsct 0 u15) (va_up rstk 0 u16) (va_up rsle 0 u17) (va_up rye 0 u18) (va_up rre 0 u19) (va_up rpct 0 u20) (va_up rptk 0 u21) (va_up rple 0 u22) (va_up rco 0 u23) nli nsct nstk nsle nye nre npct nptk nple nco) hC inlX3 tyX3_ok nmX3 wq_105 dX3_keep_54 rfl rfl (by decide) rfl rfl (Nat.le_of_ble_eq_true rfl) rfl ?_
      exact g_vret 57 hC hR dX3_keep_57 ⟨((0 : Int32) + (1 : Int32)), (if (5 : Int32) < (cn + (1 : Int32)) then (5 : Int32) else (cn + (1 : Int32))), (va_up rli 0 u14), (va_up rsct 0 u15), (va_up rstk 0 u16), (va_up rsle 0 u17), (va_up rye 0 u18), (va_up rre 0 u19), (va_up rpct 0 u20), (va_up rptk 0 u21), (va_up rple 0 u22), (va_up rco 0 u23), rfl, h⟩
    · refine g_aload_n 29 1 hC dX3_keep_29 rfl ?_
      refine g_cVNv (As := [.ref (ad b1)]) (rest := []) 30 12 [12, 13, 14, 15, 16, 17, 18, 19, 20, 21, 52, 53, 54, 55, 56, 57, 58, 59, 60, 61] hC (c_X7_copyFrom l D cI cS cT ad (b0 + 12) b1 (rli 1) (rsct 1) (rstk 1) (rsle 1) (rye 1) (rre 1) (rpct 1) (rptk 1) (rple 1) (rco 1) nli nsct nstk nsle nye nre npct nptk nple nco _ h) kX7_copyFrom nq_250 dX3_keep_30 rfl rfl ⟨Nat.le_of_ble_eq_true rfl, Nat.le_of_ble_eq_true rfl⟩ rfl rfl (Nat.zero_le _) (Nat.zero_le _) rfl rfl rfl (Nat.le_of_ble_eq_true rfl) ?_
      rintro _ ⟨u25, u26, u27, u28, u29, u30, u31, u32, u33, u34, rfl, h⟩
      refine ⟨Nat.le_of_ble_eq_true rfl, G.upd [0, 1, 2, 3, 4, 5, 6, 7, 8, 9, 10, 11, 22, 23, 24, 25, 26, 27, 28, 29, 30, 31, 32, 33, 34, 35, 36, 37, 38, 39, 40, 41, 42, 43, 44, 45, 46, 47, 48, 49, 50, 51] (Wd_X3_keep cI cS cT ad b0 b1 (0 : Int32) cn (va_up rli 1 u25) (va_up rsct 1 u26) (va_up rstk 1 u27) (va_up rsle 1 u28) (va_up rye 1 u29) (va_up rre 1 u30) (va_up rpct 1 u31) (va_up rptk 1 u32) (va_up rple 1 u33) (va_up rco 1 u34) nli nsct nstk nsle nye nre npct nptk nple nco) rfl rfl rfl rfl rfl ?_⟩
      refine g_aload_n 33 0 hC dX3_keep_33 rfl ?_
      refine g_dup 34 hC dX3_keep_34 rfl ?_
      refine g_get 35 0 1 hC inlX3 wq_104 dX3_keep_35 rfl rfl (by decide) rfl ?_
      refine g_iconst (v := (1 : Int32)) 38 hC dX3_keep_38 (by decide) ?_
      refine g_iadd 39 hC dX3_keep_39 ?_
      refine g_put 40 0 1 (Wd_X3_keep cI cS cT ad b0 b1 ((0 : Int32) + (1 : Int32)) cn (va_up rli 1 u25) (va_up rsct 1 u26) (va_up rstk 1 u27) (va_up rsle 1 u28) (va_up rye 1 u29) (va_up rre 1 u30) (va_up rpct 1 u31) (va_up rptk 1 u32) (va_up rple 1 u33) (va_up rco 1 u34) nli nsct nstk nsle nye nre npct nptk nple nco) hC inlX3 tyX3_ok nmX3 wq_104 dX3_keep_40 rfl rfl (by decide) rfl rfl (Nat.le_of_ble_eq_true rfl) rfl ?_
      refine g_aload_n 43 0 hC dX3_keep_43 rfl ?_
      refine g_aload_n 44 0 hC dX3_keep_44 rfl ?_
      refine g_get 45 0 2 hC inlX3 wq_105 dX3_keep_45 rfl rfl (by decide) rfl ?_
      refine g_iconst (v := (1 : Int32)) 48 hC dX3_keep_48 (by decide) ?_
      refine g_iadd 49 hC dX3_keep_49 ?_
      refine g_iconst (v := (5 : Int32)) 50 hC dX3_keep_50 (by decide) ?_
      refine g_min 51 hC wq_223 dX3_keep_51 (Nat.le_of_ble_eq_true rfl) (Nat.le_of_ble_eq_true rfl) (Nat.zero_le _) (Nat.zero_le _) ?_
      refine g_put 54 0 2 (Wd_X3_keep cI cS cT ad b0 b1 ((0 : Int32) + (1 : Int32)) (if (5 : Int32) < (cn + (1 : Int32)) then (5 : Int32) else (cn + (1 : Int32))) (va_up rli 1 u25) (va_up rsct 1 u26) (va_up rstk 1 u27) (va_up rsle 1 u28) (va_up rye 1 u29) (va_up rre 1 u30) (va_up rpct 1 u31) (va_up rptk 1 u32) (va_up rple 1 u33) (va_up rco 1 u34) nli nsct nstk nsle nye nre npct nptk nple nco) hC inlX3 tyX3_ok nmX3 wq_105 dX3_keep_54 rfl rfl (by decide) rfl rfl (Nat.le_of_ble_eq_true rfl) rfl ?_
      exact g_vret 57 hC hR dX3_keep_57 ⟨((0 : Int32) + (1 : Int32)), (if (5 : Int32) < (cn + (1 : Int32)) then (5 : Int32) else (cn + (1 : Int32))), (va_up rli 1 u25), (va_up rsct 1 u26), (va_up rstk 1 u27), (va_up rsle 1 u28), (va_up rye 1 u29), (va_up rre 1 u30), (va_up rpct 1 u31), (va_up rptk 1 u32), (va_up rple 1 u33), (va_up rco 1 u34), rfl, h⟩
    · refine g_aload_n 29 1 hC dX3_keep_29 rfl ?_
      refine g_cVNv (As := [.ref (ad b1)]) (rest := []) 30 22 [22, 23, 24, 25, 26, 27, 28, 29, 30, 31, 52, 53, 54, 55, 56, 57, 58, 59, 60, 61] hC (c_X7_copyFrom l D cI cS cT ad (b0 + 22) b1 (rli 2) (rsct 2) (rstk 2) (rsle 2) (rye 2) (rre 2) (rpct 2) (rptk 2) (rple 2) (rco 2) nli nsct nstk nsle nye nre npct nptk nple nco _ h) kX7_copyFrom nq_250 dX3_keep_30 rfl rfl ⟨Nat.le_of_ble_eq_true rfl, Nat.le_of_ble_eq_true rfl⟩ rfl rfl (Nat.zero_le _) (Nat.zero_le _) rfl rfl rfl (Nat.le_of_ble_eq_true rfl) ?_
      rintro _ ⟨u36, u37, u38, u39, u40, u41, u42, u43, u44, u45, rfl, h⟩
      refine ⟨Nat.le_of_ble_eq_true rfl, G.upd [0, 1, 2, 3, 4, 5, 6, 7, 8, 9, 10, 11, 12, 13, 14, 15, 16, 17, 18, 19, 20, 21, 32, 33, 34, 35, 36, 37, 38, 39, 40, 41, 42, 43, 44, 45, 46, 47, 48, 49, 50, 51] (Wd_X3_keep cI cS cT ad b0 b1 (0 : Int32) cn (va_up rli 2 u36) (va_up rsct 2 u37) (va_up rstk 2 u38) (va_up rsle 2 u39) (va_up rye 2 u40) (va_up rre 2 u41) (va_up rpct 2 u42) (va_up rptk 2 u43) (va_up rple 2 u44) (va_up rco 2 u45) nli nsct nstk nsle nye nre npct nptk nple nco) rfl rfl rfl rfl rfl ?_⟩
      refine g_aload_n 33 0 hC dX3_keep_33 rfl ?_
      refine g_dup 34 hC dX3_keep_34 rfl ?_
      refine g_get 35 0 1 hC inlX3 wq_104 dX3_keep_35 rfl rfl (by decide) rfl ?_
      refine g_iconst (v := (1 : Int32)) 38 hC dX3_keep_38 (by decide) ?_
      refine g_iadd 39 hC dX3_keep_39 ?_
      refine g_put 40 0 1 (Wd_X3_keep cI cS cT ad b0 b1 ((0 : Int32) + (1 : Int32)) cn (va_up rli 2 u36) (va_up rsct 2 u37) (va_up rstk 2 u38) (va_up rsle 2 u39) (va_up rye 2 u40) (va_up rre 2 u41) (va_up rpct 2 u42) (va_up rptk 2 u43) (va_up rple 2 u44) (va_up rco 2 u45) nli nsct nstk nsle nye nre npct nptk nple nco) hC inlX3 tyX3_ok nmX3 wq_104 dX3_keep_40 rfl rfl (by decide) rfl rfl (Nat.le_of_ble_eq_true rfl) rfl ?_
      refine g_aload_n 43 0 hC dX3_keep_43 rfl ?_
      refine g_aload_n 44 0 hC dX3_keep_44 rfl ?_
      refine g_get 45 0 2 hC inlX3 wq_105 dX3_keep_45 rfl rfl (by decide) rfl ?_
      refine g_iconst (v := (1 : Int32)) 48 hC dX3_keep_48 (by decide) ?_
      refine g_iadd 49 hC dX3_keep_49 ?_
      refine g_iconst (v := (5 : Int32)) 50 hC dX3_keep_50 (by decide) ?_
      refine g_min 51 hC wq_223 dX3_keep_51 (Nat.le_of_ble_eq_true rfl) (Nat.le_of_ble_eq_true rfl) (Nat.zero_le _) (Nat.zero_le _) ?_
      refine g_put 54 0 2 (Wd_X3_keep cI cS cT ad b0 b1 ((0 : Int32) + (1 : Int32)) (if (5 : Int32) < (cn + (1 : Int32)) then (5 : Int32) else (cn + (1 : Int32))) (va_up rli 2 u36) (va_up rsct 2 u37) (va_up rstk 2 u38) (va_up rsle 2 u39) (va_up rye 2 u40) (va_up rre 2 u41) (va_up rpct 2 u42) (va_up rptk 2 u43) (va_up rple 2 u44) (va_up rco 2 u45) nli nsct nstk nsle nye nre npct nptk nple nco) hC inlX3 tyX3_ok nmX3 wq_105 dX3_keep_54 rfl rfl (by decide) rfl rfl (Nat.le_of_ble_eq_true rfl) rfl ?_
      exact g_vret 57 hC hR dX3_keep_57 ⟨((0 : Int32) + (1 : Int32)), (if (5 : Int32) < (cn + (1 : Int32)) then (5 : Int32) else (cn + (1 : Int32))), (va_up rli 2 u36), (va_up rsct 2 u37), (va_up rstk 2 u38), (va_up rsle 2 u39), (va_up rye 2 u40), (va_up rre 2 u41), (va_up rpct 2 u42), (va_up rptk 2 u43), (va_up rple 2 u44), (va_up rco 2 u45), rfl, h⟩
    · refine g_aload_n 29 1 hC dX3_keep_29 rfl ?_
      refine g_cVNv (As := [.ref (ad b1)]) (rest := []) 30 32 [32, 33, 34, 35, 36, 37, 38, 39, 40, 41, 52, 53, 54, 55, 56, 57, 58, 59, 60, 61] hC (c_X7_copyFrom l D cI cS cT ad (b0 + 32) b1 (rli 3) (rsct 3) (rstk 3) (rsle 3) (rye 3) (rre 3) (rpct 3) (rptk 3) (rple 3) (rco 3) nli nsct nstk nsle nye nre npct nptk nple nco _ h) kX7_copyFrom nq_250 dX3_keep_30 rfl rfl ⟨Nat.le_of_ble_eq_true rfl, Nat.le_of_ble_eq_true rfl⟩ rfl rfl (Nat.zero_le _) (Nat.zero_le _) rfl rfl rfl (Nat.le_of_ble_eq_true rfl) ?_
      rintro _ ⟨u47, u48, u49, u50, u51, u52, u53, u54, u55, u56, rfl, h⟩
      refine ⟨Nat.le_of_ble_eq_true rfl, G.upd [0, 1, 2, 3, 4, 5, 6, 7, 8, 9, 10, 11, 12, 13, 14, 15, 16, 17, 18, 19, 20, 21, 22, 23, 24, 25, 26, 27, 28, 29, 30, 31, 42, 43, 44, 45, 46, 47, 48, 49, 50, 51] (Wd_X3_keep cI cS cT ad b0 b1 (0 : Int32) cn (va_up rli 3 u47) (va_up rsct 3 u48) (va_up rstk 3 u49) (va_up rsle 3 u50) (va_up rye 3 u51) (va_up rre 3 u52) (va_up rpct 3 u53) (va_up rptk 3 u54) (va_up rple 3 u55) (va_up rco 3 u56) nli nsct nstk nsle nye nre npct nptk nple nco) rfl rfl rfl rfl rfl ?_⟩
      refine g_aload_n 33 0 hC dX3_keep_33 rfl ?_
      refine g_dup 34 hC dX3_keep_34 rfl ?_
      refine g_get 35 0 1 hC inlX3 wq_104 dX3_keep_35 rfl rfl (by decide) rfl ?_
      refine g_iconst (v := (1 : Int32)) 38 hC dX3_keep_38 (by decide) ?_
      refine g_iadd 39 hC dX3_keep_39 ?_
      refine g_put 40 0 1 (Wd_X3_keep cI cS cT ad b0 b1 ((0 : Int32) + (1 : Int32)) cn (va_up rli 3 u47) (va_up rsct 3 u48) (va_up rstk 3 u49) (va_up rsle 3 u50) (va_up rye 3 u51) (va_up rre 3 u52) (va_up rpct 3 u53) (va_up rptk 3 u54) (va_up rple 3 u55) (va_up rco 3 u56) nli nsct nstk nsle nye nre npct nptk nple nco) hC inlX3 tyX3_ok nmX3 wq_104 dX3_keep_40 rfl rfl (by decide) rfl rfl (Nat.le_of_ble_eq_true rfl) rfl ?_
      refine g_aload_n 43 0 hC dX3_keep_43 rfl ?_
      refine g_aload_n 44 0 hC dX3_keep_44 rfl ?_
      refine g_get 45 0 2 hC inlX3 wq_105 dX3_keep_45 rfl rfl (by decide) rfl ?_
      refine g_iconst (v := (1 : Int32)) 48 hC dX3_keep_48 (by decide) ?_
      refine g_iadd 49 hC dX3_keep_49 ?_
      refine g_iconst (v := (5 : Int32)) 50 hC dX3_keep_50 (by decide) ?_
      refine g_min 51 hC wq_223 dX3_keep_51 (Nat.le_of_ble_eq_true rfl) (Nat.le_of_ble_eq_true rfl) (Nat.zero_le _) (Nat.zero_le _) ?_
      refine g_put 54 0 2 (Wd_X3_keep cI cS cT ad b0 b1 ((0 : Int32) + (1 : Int32)) (if (5 : Int32) < (cn + (1 : Int32)) then (5 : Int32) else (cn + (1 : Int32))) (va_up rli 3 u47) (va_up rsct 3 u48) (va_up rstk 3 u49) (va_up rsle 3 u50) (va_up rye 3 u51) (va_up rre 3 u52) (va_up rpct 3 u53) (va_up rptk 3 u54) (va_up rple 3 u55) (va_up rco 3 u56) nli nsct nstk nsle nye nre npct nptk nple nco) hC inlX3 tyX3_ok nmX3 wq_105 dX3_keep_54 rfl rfl (by decide) rfl rfl (Nat.le_of_ble_eq_true rfl) rfl ?_
      exact g_vret 57 hC hR dX3_keep_57 ⟨((0 : Int32) + (1 : Int32)), (if (5 : Int32) < (cn + (1 : Int32)) then (5 : Int32) else (cn + (1 : Int32))), (va_up rli 3 u47), (va_up rsct 3 u48), (va_up rstk 3 u49), (va_up rsle 3 u50), (va_up rye 3 u51), (va_up rre 3 u52), (va_up rpct 3 u53), (va_up rptk 3 u54), (va_up rple 3 u55), (va_up rco 3 u56), rfl, h⟩
    · refine g_aload_n 29 1 hC dX3_keep_29 rfl ?_
      refine g_cVNv (As := [.ref (ad b1)]) (rest := []) 30 42 [42, 43, 44, 45, 46, 47, 48, 49, 50, 51, 52, 53, 54, 55, 56, 57, 58, 59, 60, 61] hC (c_X7_copyFrom l D cI cS cT ad (b0 + 42) b1 (rli 4) (rsct 4) (rstk 4) (rsle 4) (rye 4) (rre 4) (rpct 4) (rptk 4) (rple 4) (rco 4) nli nsct nstk nsle nye nre npct nptk nple nco _ h) kX7_copyFrom nq_250 dX3_keep_30 rfl rfl ⟨Nat.le_of_ble_eq_true rfl, Nat.le_of_ble_eq_true rfl⟩ rfl rfl (Nat.zero_le _) (Nat.zero_le _) rfl rfl rfl (Nat.le_of_ble_eq_true rfl) ?_
      rintro _ ⟨u58, u59, u60, u61, u62, u63, u64, u65, u66, u67, rfl, h⟩
      refine ⟨Nat.le_of_ble_eq_true rfl, G.upd [0, 1, 2, 3, 4, 5, 6, 7, 8, 9, 10, 11, 12, 13, 14, 15, 16, 17, 18, 19, 20, 21, 22, 23, 24, 25, 26, 27, 28, 29, 30, 31, 32, 33, 34, 35, 36, 37, 38, 39, 40, 41] (Wd_X3_keep cI cS cT ad b0 b1 (0 : Int32) cn (va_up rli 4 u58) (va_up rsct 4 u59) (va_up rstk 4 u60) (va_up rsle 4 u61) (va_up rye 4 u62) (va_up rre 4 u63) (va_up rpct 4 u64) (va_up rptk 4 u65) (va_up rple 4 u66) (va_up rco 4 u67) nli nsct nstk nsle nye nre npct nptk nple nco) rfl rfl rfl rfl rfl ?_⟩
      refine g_aload_n 33 0 hC dX3_keep_33 rfl ?_
      refine g_dup 34 hC dX3_keep_34 rfl ?_
      refine g_get 35 0 1 hC inlX3 wq_104 dX3_keep_35 rfl rfl (by decide) rfl ?_
      refine g_iconst (v := (1 : Int32)) 38 hC dX3_keep_38 (by decide) ?_
      refine g_iadd 39 hC dX3_keep_39 ?_
      refine g_put 40 0 1 (Wd_X3_keep cI cS cT ad b0 b1 ((0 : Int32) + (1 : Int32)) cn (va_up rli 4 u58) (va_up rsct 4 u59) (va_up rstk 4 u60) (va_up rsle 4 u61) (va_up rye 4 u62) (va_up rre 4 u63) (va_up rpct 4 u64) (va_up rptk 4 u65) (va_up rple 4 u66) (va_up rco 4 u67) nli nsct nstk nsle nye nre npct nptk nple nco) hC inlX3 tyX3_ok nmX3 wq_104 dX3_keep_40 rfl rfl (by decide) rfl rfl (Nat.le_of_ble_eq_true rfl) rfl ?_
      refine g_aload_n 43 0 hC dX3_keep_43 rfl ?_
      refine g_aload_n 44 0 hC dX3_keep_44 rfl ?_
      refine g_get 45 0 2 hC inlX3 wq_105 dX3_keep_45 rfl rfl (by decide) rfl ?_
      refine g_iconst (v := (1 : Int32)) 48 hC dX3_keep_48 (by decide) ?_
      refine g_iadd 49 hC dX3_keep_49 ?_
      refine g_iconst (v := (5 : Int32)) 50 hC dX3_keep_50 (by decide) ?_
      refine g_min 51 hC wq_223 dX3_keep_51 (Nat.le_of_ble_eq_true rfl) (Nat.le_of_ble_eq_true rfl) (Nat.zero_le _) (Nat.zero_le _) ?_
      refine g_put 54 0 2 (Wd_X3_keep cI cS cT ad b0 b1 ((0 : Int32) + (1 : Int32)) (if (5 : Int32) < (cn + (1 : Int32)) then (5 : Int32) else (cn + (1 : Int32))) (va_up rli 4 u58) (va_up rsct 4 u59) (va_up rstk 4 u60) (va_up rsle 4 u61) (va_up rye 4 u62) (va_up rre 4 u63) (va_up rpct 4 u64) (va_up rptk 4 u65) (va_up rple 4 u66) (va_up rco 4 u67) nli nsct nstk nsle nye nre npct nptk nple nco) hC inlX3 tyX3_ok nmX3 wq_105 dX3_keep_54 rfl rfl (by decide) rfl rfl (Nat.le_of_ble_eq_true rfl) rfl ?_
      exact g_vret 57 hC hR dX3_keep_57 ⟨((0 : Int32) + (1 : Int32)), (if (5 : Int32) < (cn + (1 : Int32)) then (5 : Int32) else (cn + (1 : Int32))), (va_up rli 4 u58), (va_up rsct 4 u59), (va_up rstk 4 u60), (va_up rsle 4 u61), (va_up rye 4 u62), (va_up rre 4 u63), (va_up rpct 4 u64), (va_up rptk 4 u65), (va_up rple 4 u66), (va_up rco 4 u67), rfl, h⟩
  · replace h := h.2 hc
    refine g_aload_n 9 0 hC dX3_keep_9 rfl ?_
    refine g_get 10 0 1 hC inlX3 wq_104 dX3_keep_10 rfl rfl (by decide) rfl ?_
    refine g_goto 13 17 hC dX3_keep_13 (by decide) ?_
    refine g_put 17 0 1 (Wd_X3_keep cI cS cT ad b0 b1 nx cn rli rsct rstk rsle rye rre rpct rptk rple rco nli nsct nstk nsle nye nre npct nptk nple nco) hC inlX3 tyX3_ok nmX3 wq_104 dX3_keep_17 rfl rfl (by decide) rfl rfl (Nat.le_of_ble_eq_true rfl) rfl ?_
    refine g_aload_n 20 0 hC dX3_keep_20 rfl ?_
    refine g_get 21 0 0 hC inlX3 wq_65 dX3_keep_21 rfl rfl (by decide) rfl ?_
    refine g_aload_n 24 0 hC dX3_keep_24 rfl ?_
    refine g_get 25 0 1 hC inlX3 wq_104 dX3_keep_25 rfl rfl (by decide) rfl ?_
    obtain ⟨hj, h⟩ := h
    have hk81 := vpLt hj
    replace h := h _ rfl
    refine g_aald 28 1 1 hC dX3_keep_28 rfl rfl rfl hj (if_pos hk81) ?_
    revert h
    revert hk81
    generalize (Int32.toNatClampNeg nx) = kk69
    intro hk81 h
    rcases (show kk69 = 0 ∨ kk69 = 1 ∨ kk69 = 2 ∨ kk69 = 3 ∨ kk69 = 4 by omega) with rfl | rfl | rfl | rfl | rfl
    · refine g_aload_n 29 1 hC dX3_keep_29 rfl ?_
      refine g_cVNv (As := [.ref (ad b1)]) (rest := []) 30 2 [2, 3, 4, 5, 6, 7, 8, 9, 10, 11, 52, 53, 54, 55, 56, 57, 58, 59, 60, 61] hC (c_X7_copyFrom l D cI cS cT ad (b0 + 2) b1 (rli 0) (rsct 0) (rstk 0) (rsle 0) (rye 0) (rre 0) (rpct 0) (rptk 0) (rple 0) (rco 0) nli nsct nstk nsle nye nre npct nptk nple nco _ h) kX7_copyFrom nq_250 dX3_keep_30 rfl rfl ⟨Nat.le_of_ble_eq_true rfl, Nat.le_of_ble_eq_true rfl⟩ rfl rfl (Nat.zero_le _) (Nat.zero_le _) rfl rfl rfl (Nat.le_of_ble_eq_true rfl) ?_
      rintro _ ⟨u82, u83, u84, u85, u86, u87, u88, u89, u90, u91, rfl, h⟩
      refine ⟨Nat.le_of_ble_eq_true rfl, G.upd [0, 1, 12, 13, 14, 15, 16, 17, 18, 19, 20, 21, 22, 23, 24, 25, 26, 27, 28, 29, 30, 31, 32, 33, 34, 35, 36, 37, 38, 39, 40, 41, 42, 43, 44, 45, 46, 47, 48, 49, 50, 51] (Wd_X3_keep cI cS cT ad b0 b1 nx cn (va_up rli 0 u82) (va_up rsct 0 u83) (va_up rstk 0 u84) (va_up rsle 0 u85) (va_up rye 0 u86) (va_up rre 0 u87) (va_up rpct 0 u88) (va_up rptk 0 u89) (va_up rple 0 u90) (va_up rco 0 u91) nli nsct nstk nsle nye nre npct nptk nple nco) rfl rfl rfl rfl rfl ?_⟩
      refine g_aload_n 33 0 hC dX3_keep_33 rfl ?_
      refine g_dup 34 hC dX3_keep_34 rfl ?_
      refine g_get 35 0 1 hC inlX3 wq_104 dX3_keep_35 rfl rfl (by decide) rfl ?_
      refine g_iconst (v := (1 : Int32)) 38 hC dX3_keep_38 (by decide) ?_
      refine g_iadd 39 hC dX3_keep_39 ?_
      refine g_put 40 0 1 (Wd_X3_keep cI cS cT ad b0 b1 (nx + (1 : Int32)) cn (va_up rli 0 u82) (va_up rsct 0 u83) (va_up rstk 0 u84) (va_up rsle 0 u85) (va_up rye 0 u86) (va_up rre 0 u87) (va_up rpct 0 u88) (va_up rptk 0 u89) (va_up rple 0 u90) (va_up rco 0 u91) nli nsct nstk nsle nye nre npct nptk nple nco) hC inlX3 tyX3_ok nmX3 wq_104 dX3_keep_40 rfl rfl (by decide) rfl rfl (Nat.le_of_ble_eq_true rfl) rfl ?_
      refine g_aload_n 43 0 hC dX3_keep_43 rfl ?_
      refine g_aload_n 44 0 hC dX3_keep_44 rfl ?_
      refine g_get 45 0 2 hC inlX3 wq_105 dX3_keep_45 rfl rfl (by decide) rfl ?_
      refine g_iconst (v := (1 : Int32)) 48 hC dX3_keep_48 (by decide) ?_
      refine g_iadd 49 hC dX3_keep_49 ?_
      refine g_iconst (v := (5 : Int32)) 50 hC dX3_keep_50 (by decide) ?_
      refine g_min 51 hC wq_223 dX3_keep_51 (Nat.le_of_ble_eq_true rfl) (Nat.le_of_ble_eq_true rfl) (Nat.zero_le _) (Nat.zero_le _) ?_
      refine g_put 54 0 2 (Wd_X3_keep cI cS cT ad b0 b1 (nx + (1 : Int32)) (if (5 : Int32) < (cn + (1 : Int32)) then (5 : Int32) else (cn + (1 : Int32))) (va_up rli 0 u82) (va_up rsct 0 u83) (va_up rstk 0 u84) (va_up rsle 0 u85) (va_up rye 0 u86) (va_up rre 0 u87) (va_up rpct 0 u88) (va_up rptk 0 u89) (va_up rple 0 u90) (va_up rco 0 u91) nli nsct nstk nsle nye nre npct nptk nple nco) hC inlX3 tyX3_ok nmX3 wq_105 dX3_keep_54 rfl rfl (by decide) rfl rfl (Nat.le_of_ble_eq_true rfl) rfl ?_
      exact g_vret 57 hC hR dX3_keep_57 ⟨(nx + (1 : Int32)), (if (5 : Int32) < (cn + (1 : Int32)) then (5 : Int32) else (cn + (1 : Int32))), (va_up rli 0 u82), (va_up rsct 0 u83), (va_up rstk 0 u84), (va_up rsle 0 u85), (va_up rye 0 u86), (va_up rre 0 u87), (va_up rpct 0 u88), (va_up rptk 0 u89), (va_up rple 0 u90), (va_up rco 0 u91), rfl, h⟩
    · refine g_aload_n 29 1 hC dX3_keep_29 rfl ?_
      refine g_cVNv (As := [.ref (ad b1)]) (rest := []) 30 12 [12, 13, 14, 15, 16, 17, 18, 19, 20, 21, 52, 53, 54, 55, 56, 57, 58, 59, 60, 61] hC (c_X7_copyFrom l D cI cS cT ad (b0 + 12) b1 (rli 1) (rsct 1) (rstk 1) (rsle 1) (rye 1) (rre 1) (rpct 1) (rptk 1) (rple 1) (rco 1) nli nsct nstk nsle nye nre npct nptk nple nco _ h) kX7_copyFrom nq_250 dX3_keep_30 rfl rfl ⟨Nat.le_of_ble_eq_true rfl, Nat.le_of_ble_eq_true rfl⟩ rfl rfl (Nat.zero_le _) (Nat.zero_le _) rfl rfl rfl (Nat.le_of_ble_eq_true rfl) ?_
      rintro _ ⟨u93, u94, u95, u96, u97, u98, u99, u100, u101, u102, rfl, h⟩
      refine ⟨Nat.le_of_ble_eq_true rfl, G.upd [0, 1, 2, 3, 4, 5, 6, 7, 8, 9, 10, 11, 22, 23, 24, 25, 26, 27, 28, 29, 30, 31, 32, 33, 34, 35, 36, 37, 38, 39, 40, 41, 42, 43, 44, 45, 46, 47, 48, 49, 50, 51] (Wd_X3_keep cI cS cT ad b0 b1 nx cn (va_up rli 1 u93) (va_up rsct 1 u94) (va_up rstk 1 u95) (va_up rsle 1 u96) (va_up rye 1 u97) (va_up rre 1 u98) (va_up rpct 1 u99) (va_up rptk 1 u100) (va_up rple 1 u101) (va_up rco 1 u102) nli nsct nstk nsle nye nre npct nptk nple nco) rfl rfl rfl rfl rfl ?_⟩
      refine g_aload_n 33 0 hC dX3_keep_33 rfl ?_
      refine g_dup 34 hC dX3_keep_34 rfl ?_
      refine g_get 35 0 1 hC inlX3 wq_104 dX3_keep_35 rfl rfl (by decide) rfl ?_
      refine g_iconst (v := (1 : Int32)) 38 hC dX3_keep_38 (by decide) ?_
      refine g_iadd 39 hC dX3_keep_39 ?_
      refine g_put 40 0 1 (Wd_X3_keep cI cS cT ad b0 b1 (nx + (1 : Int32)) cn (va_up rli 1 u93) (va_up rsct 1 u94) (va_up rstk 1 u95) (va_up rsle 1 u96) (va_up rye 1 u97) (va_up rre 1 u98) (va_up rpct 1 u99) (va_up rptk 1 u100) (va_up rple 1 u101) (va_up rco 1 u102) nli nsct nstk nsle nye nre npct nptk nple nco) hC inlX3 tyX3_ok nmX3 wq_104 dX3_keep_40 rfl rfl (by decide) rfl rfl (Nat.le_of_ble_eq_true rfl) rfl ?_
      refine g_aload_n 43 0 hC dX3_keep_43 rfl ?_
      refine g_aload_n 44 0 hC dX3_keep_44 rfl ?_
      refine g_get 45 0 2 hC inlX3 wq_105 dX3_keep_45 rfl rfl (by decide) rfl ?_
      refine g_iconst (v := (1 : Int32)) 48 hC dX3_keep_48 (by decide) ?_
      refine g_iadd 49 hC dX3_keep_49 ?_
      refine g_iconst (v := (5 : Int32)) 50 hC dX3_keep_50 (by decide) ?_
      refine g_min 51 hC wq_223 dX3_keep_51 (Nat.le_of_ble_eq_true rfl) (Nat.le_of_ble_eq_true rfl) (Nat.zero_le _) (Nat.zero_le _) ?_
      refine g_put 54 0 2 (Wd_X3_keep cI cS cT ad b0 b1 (nx + (1 : Int32)) (if (5 : Int32) < (cn + (1 : Int32)) then (5 : Int32) else (cn + (1 : Int32))) (va_up rli 1 u93) (va_up rsct 1 u94) (va_up rstk 1 u95) (va_up rsle 1 u96) (va_up rye 1 u97) (va_up rre 1 u98) (va_up rpct 1 u99) (va_up rptk 1 u100) (va_up rple 1 u101) (va_up rco 1 u102) nli nsct nstk nsle nye nre npct nptk nple nco) hC inlX3 tyX3_ok nmX3 wq_105 dX3_keep_54 rfl rfl (by decide) rfl rfl (Nat.le_of_ble_eq_true rfl) rfl ?_
      exact g_vret 57 hC hR dX3_keep_57 ⟨(nx + (1 : Int32)), (if (5 : Int32) < (cn + (1 : Int32)) then (5 : Int32) else (cn + (1 : Int32))), (va_up rli 1 u93), (va_up rsct 1 u94), (va_up rstk 1 u95), (va_up rsle 1 u96), (va_up rye 1 u97), (va_up rre 1 u98), (va_up rpct 1 u99), (va_up rptk 1 u100), (va_up rple 1 u101), (va_up rco 1 u102), rfl, h⟩
    · refine g_aload_n 29 1 hC dX3_keep_29 rfl ?_
      refine g_cVNv (As := [.ref (ad b1)]) (rest := []) 30 22 [22, 23, 24, 25, 26, 27, 28, 29, 30, 31, 52, 53, 54, 55, 56, 57, 58, 59, 60, 61] hC (c_X7_copyFrom l D cI cS cT ad (b0 + 22) b1 (rli 2) (rsct 2) (rstk 2) (rsle 2) (rye 2) (rre 2) (rpct 2) (rptk 2) (rple 2) (rco 2) nli nsct nstk nsle nye nre npct nptk nple nco _ h) kX7_copyFrom nq_250 dX3_keep_30 rfl rfl ⟨Nat.le_of_ble_eq_true rfl, Nat.le_of_ble_eq_true rfl⟩ rfl rfl (Nat.zero_le _) (Nat.zero_le _) rfl rfl rfl (Nat.le_of_ble_eq_true rfl) ?_
      rintro _ ⟨u104, u105, u106, u107, u108, u109, u110, u111, u112, u113, rfl, h⟩
      refine ⟨Nat.le_of_ble_eq_true rfl, G.upd [0, 1, 2, 3, 4, 5, 6, 7, 8, 9, 10, 11, 12, 13, 14, 15, 16, 17, 18, 19, 20, 21, 32, 33, 34, 35, 36, 37, 38, 39, 40, 41, 42, 43, 44, 45, 46, 47, 48, 49, 50, 51] (Wd_X3_keep cI cS cT ad b0 b1 nx cn (va_up rli 2 u104) (va_up rsct 2 u105) (va_up rstk 2 u106) (va_up rsle 2 u107) (va_up rye 2 u108) (va_up rre 2 u109) (va_up rpct 2 u110) (va_up rptk 2 u111) (va_up rple 2 u112) (va_up rco 2 u113) nli nsct nstk nsle nye nre npct nptk nple nco) rfl rfl rfl rfl rfl ?_⟩
      refine g_aload_n 33 0 hC dX3_keep_33 rfl ?_
      refine g_dup 34 hC dX3_keep_34 rfl ?_
      refine g_get 35 0 1 hC inlX3 wq_104 dX3_keep_35 rfl rfl (by decide) rfl ?_
      refine g_iconst (v := (1 : Int32)) 38 hC dX3_keep_38 (by decide) ?_
      refine g_iadd 39 hC dX3_keep_39 ?_
      refine g_put 40 0 1 (Wd_X3_keep cI cS cT ad b0 b1 (nx + (1 : Int32)) cn (va_up rli 2 u104) (va_up rsct 2 u105) (va_up rstk 2 u106) (va_up rsle 2 u107) (va_up rye 2 u108) (va_up rre 2 u109) (va_up rpct 2 u110) (va_up rptk 2 u111) (va_up rple 2 u112) (va_up rco 2 u113) nli nsct nstk nsle nye nre npct nptk nple nco) hC inlX3 tyX3_ok nmX3 wq_104 dX3_keep_40 rfl rfl (by decide) rfl rfl (Nat.le_of_ble_eq_true rfl) rfl ?_
      refine g_aload_n 43 0 hC dX3_keep_43 rfl ?_
      refine g_aload_n 44 0 hC dX3_keep_44 rfl ?_
      refine g_get 45 0 2 hC inlX3 wq_105 dX3_keep_45 rfl rfl (by decide) rfl ?_
      refine g_iconst (v := (1 : Int32)) 48 hC dX3_keep_48 (by decide) ?_
      refine g_iadd 49 hC dX3_keep_49 ?_
      refine g_iconst (v := (5 : Int32)) 50 hC dX3_keep_50 (by decide) ?_
      refine g_min 51 hC wq_223 dX3_keep_51 (Nat.le_of_ble_eq_true rfl) (Nat.le_of_ble_eq_true rfl) (Nat.zero_le _) (Nat.zero_le _) ?_
      refine g_put 54 0 2 (Wd_X3_keep cI cS cT ad b0 b1 (nx + (1 : Int32)) (if (5 : Int32) < (cn + (1 : Int32)) then (5 : Int32) else (cn + (1 : Int32))) (va_up rli 2 u104) (va_up rsct 2 u105) (va_up rstk 2 u106) (va_up rsle 2 u107) (va_up rye 2 u108) (va_up rre 2 u109) (va_up rpct 2 u110) (va_up rptk 2 u111) (va_up rple 2 u112) (va_up rco 2 u113) nli nsct nstk nsle nye nre npct nptk nple nco) hC inlX3 tyX3_ok nmX3 wq_105 dX3_keep_54 rfl rfl (by decide) rfl rfl (Nat.le_of_ble_eq_true rfl) rfl ?_
      exact g_vret 57 hC hR dX3_keep_57 ⟨(nx + (1 : Int32)), (if (5 : Int32) < (cn + (1 : Int32)) then (5 : Int32) else (cn + (1 : Int32))), (va_up rli 2 u104), (va_up rsct 2 u105), (va_up rstk 2 u106), (va_up rsle 2 u107), (va_up rye 2 u108), (va_up rre 2 u109), (va_up rpct 2 u110), (va_up rptk 2 u111), (va_up rple 2 u112), (va_up rco 2 u113), rfl, h⟩
    · refine g_aload_n 29 1 hC dX3_keep_29 rfl ?_
      refine g_cVNv (As := [.ref (ad b1)]) (rest := []) 30 32 [32, 33, 34, 35, 36, 37, 38, 39, 40, 41, 52, 53, 54, 55, 56, 57, 58, 59, 60, 61] hC (c_X7_copyFrom l D cI cS cT ad (b0 + 32) b1 (rli 3) (rsct 3) (rstk 3) (rsle 3) (rye 3) (rre 3) (rpct 3) (rptk 3) (rple 3) (rco 3) nli nsct nstk nsle nye nre npct nptk nple nco _ h) kX7_copyFrom nq_250 dX3_keep_30 rfl rfl ⟨Nat.le_of_ble_eq_true rfl, Nat.le_of_ble_eq_true rfl⟩ rfl rfl (Nat.zero_le _) (Nat.zero_le _) rfl rfl rfl (Nat.le_of_ble_eq_true rfl) ?_
      rintro _ ⟨u115, u116, u117, u118, u119, u120, u121, u122, u123, u124, rfl, h⟩
      refine ⟨Nat.le_of_ble_eq_true rfl, G.upd [0, 1, 2, 3, 4, 5, 6, 7, 8, 9, 10, 11, 12, 13, 14, 15, 16, 17, 18, 19, 20, 21, 22, 23, 24, 25, 26, 27, 28, 29, 30, 31, 42, 43, 44, 45, 46, 47, 48, 49, 50, 51] (Wd_X3_keep cI cS cT ad b0 b1 nx cn (va_up rli 3 u115) (va_up rsct 3 u116) (va_up rstk 3 u117) (va_up rsle 3 u118) (va_up rye 3 u119) (va_up rre 3 u120) (va_up rpct 3 u121) (va_up rptk 3 u122) (va_up rple 3 u123) (va_up rco 3 u124) nli nsct nstk nsle nye nre npct nptk nple nco) rfl rfl rfl rfl rfl ?_⟩
      refine g_aload_n 33 0 hC dX3_keep_33 rfl ?_
      refine g_dup 34 hC dX3_keep_34 rfl ?_
      refine g_get 35 0 1 hC inlX3 wq_104 dX3_keep_35 rfl rfl (by decide) rfl ?_
      refine g_iconst (v := (1 : Int32)) 38 hC dX3_keep_38 (by decide) ?_
      refine g_iadd 39 hC dX3_keep_39 ?_
      refine g_put 40 0 1 (Wd_X3_keep cI cS cT ad b0 b1 (nx + (1 : Int32)) cn (va_up rli 3 u115) (va_up rsct 3 u116) (va_up rstk 3 u117) (va_up rsle 3 u118) (va_up rye 3 u119) (va_up rre 3 u120) (va_up rpct 3 u121) (va_up rptk 3 u122) (va_up rple 3 u123) (va_up rco 3 u124) nli nsct nstk nsle nye nre npct nptk nple nco) hC inlX3 tyX3_ok nmX3 wq_104 dX3_keep_40 rfl rfl (by decide) rfl rfl (Nat.le_of_ble_eq_true rfl) rfl ?_
      refine g_aload_n 43 0 hC dX3_keep_43 rfl ?_
      refine g_aload_n 44 0 hC dX3_keep_44 rfl ?_
      refine g_get 45 0 2 hC inlX3 wq_105 dX3_keep_45 rfl rfl (by decide) rfl ?_
      refine g_iconst (v := (1 : Int32)) 48 hC dX3_keep_48 (by decide) ?_
      refine g_iadd 49 hC dX3_keep_49 ?_
      refine g_iconst (v := (5 : Int32)) 50 hC dX3_keep_50 (by decide) ?_
      refine g_min 51 hC wq_223 dX3_keep_51 (Nat.le_of_ble_eq_true rfl) (Nat.le_of_ble_eq_true rfl) (Nat.zero_le _) (Nat.zero_le _) ?_
      refine g_put 54 0 2 (Wd_X3_keep cI cS cT ad b0 b1 (nx + (1 : Int32)) (if (5 : Int32) < (cn + (1 : Int32)) then (5 : Int32) else (cn + (1 : Int32))) (va_up rli 3 u115) (va_up rsct 3 u116) (va_up rstk 3 u117) (va_up rsle 3 u118) (va_up rye 3 u119) (va_up rre 3 u120) (va_up rpct 3 u121) (va_up rptk 3 u122) (va_up rple 3 u123) (va_up rco 3 u124) nli nsct nstk nsle nye nre npct nptk nple nco) hC inlX3 tyX3_ok nmX3 wq_105 dX3_keep_54 rfl rfl (by decide) rfl rfl (Nat.le_of_ble_eq_true rfl) rfl ?_
      exact g_vret 57 hC hR dX3_keep_57 ⟨(nx + (1 : Int32)), (if (5 : Int32) < (cn + (1 : Int32)) then (5 : Int32) else (cn + (1 : Int32))), (va_up rli 3 u115), (va_up rsct 3 u116), (va_up rstk 3 u117), (va_up rsle 3 u118), (va_up rye 3 u119), (va_up rre 3 u120), (va_up rpct 3 u121), (va_up rptk 3 u122), (va_up rple 3 u123), (va_up rco 3 u124), rfl, h⟩
    · refine g_aload_n 29 1 hC dX3_keep_29 rfl ?_
      refine g_cVNv (As := [.ref (ad b1)]) (rest := []) 30 42 [42, 43, 44, 45, 46, 47, 48, 49, 50, 51, 52, 53, 54, 55, 56, 57, 58, 59, 60, 61] hC (c_X7_copyFrom l D cI cS cT ad (b0 + 42) b1 (rli 4) (rsct 4) (rstk 4) (rsle 4) (rye 4) (rre 4) (rpct 4) (rptk 4) (rple 4) (rco 4) nli nsct nstk nsle nye nre npct nptk nple nco _ h) kX7_copyFrom nq_250 dX3_keep_30 rfl rfl ⟨Nat.le_of_ble_eq_true rfl, Nat.le_of_ble_eq_true rfl⟩ rfl rfl (Nat.zero_le _) (Nat.zero_le _) rfl rfl rfl (Nat.le_of_ble_eq_true rfl) ?_
      rintro _ ⟨u126, u127, u128, u129, u130, u131, u132, u133, u134, u135, rfl, h⟩
      refine ⟨Nat.le_of_ble_eq_true rfl, G.upd [0, 1, 2, 3, 4, 5, 6, 7, 8, 9, 10, 11, 12, 13, 14, 15, 16, 17, 18, 19, 20, 21, 22, 23, 24, 25, 26, 27, 28, 29, 30, 31, 32, 33, 34, 35, 36, 37, 38, 39, 40, 41] (Wd_X3_keep cI cS cT ad b0 b1 nx cn (va_up rli 4 u126) (va_up rsct 4 u127) (va_up rstk 4 u128) (va_up rsle 4 u129) (va_up rye 4 u130) (va_up rre 4 u131) (va_up rpct 4 u132) (va_up rptk 4 u133) (va_up rple 4 u134) (va_up rco 4 u135) nli nsct nstk nsle nye nre npct nptk nple nco) rfl rfl rfl rfl rfl ?_⟩
      refine g_aload_n 33 0 hC dX3_keep_33 rfl ?_
      refine g_dup 34 hC dX3_keep_34 rfl ?_
      refine g_get 35 0 1 hC inlX3 wq_104 dX3_keep_35 rfl rfl (by decide) rfl ?_
      refine g_iconst (v := (1 : Int32)) 38 hC dX3_keep_38 (by decide) ?_
      refine g_iadd 39 hC dX3_keep_39 ?_
      refine g_put 40 0 1 (Wd_X3_keep cI cS cT ad b0 b1 (nx + (1 : Int32)) cn (va_up rli 4 u126) (va_up rsct 4 u127) (va_up rstk 4 u128) (va_up rsle 4 u129) (va_up rye 4 u130) (va_up rre 4 u131) (va_up rpct 4 u132) (va_up rptk 4 u133) (va_up rple 4 u134) (va_up rco 4 u135) nli nsct nstk nsle nye nre npct nptk nple nco) hC inlX3 tyX3_ok nmX3 wq_104 dX3_keep_40 rfl rfl (by decide) rfl rfl (Nat.le_of_ble_eq_true rfl) rfl ?_
      refine g_aload_n 43 0 hC dX3_keep_43 rfl ?_
      refine g_aload_n 44 0 hC dX3_keep_44 rfl ?_
      refine g_get 45 0 2 hC inlX3 wq_105 dX3_keep_45 rfl rfl (by decide) rfl ?_
      refine g_iconst (v := (1 : Int32)) 48 hC dX3_keep_48 (by decide) ?_
      refine g_iadd 49 hC dX3_keep_49 ?_
      refine g_iconst (v := (5 : Int32)) 50 hC dX3_keep_50 (by decide) ?_
      refine g_min 51 hC wq_223 dX3_keep_51 (Nat.le_of_ble_eq_true rfl) (Nat.le_of_ble_eq_true rfl) (Nat.zero_le _) (Nat.zero_le _) ?_
      refine g_put 54 0 2 (Wd_X3_keep cI cS cT ad b0 b1 (nx + (1 : Int32)) (if (5 : Int32) < (cn + (1 : Int32)) then (5 : Int32) else (cn + (1 : Int32))) (va_up rli 4 u126) (va_up rsct 4 u127) (va_up rstk 4 u128) (va_up rsle 4 u129) (va_up rye 4 u130) (va_up rre 4 u131) (va_up rpct 4 u132) (va_up rptk 4 u133) (va_up rple 4 u134) (va_up rco 4 u135) nli nsct nstk nsle nye nre npct nptk nple nco) hC inlX3 tyX3_ok nmX3 wq_105 dX3_keep_54 rfl rfl (by decide) rfl rfl (Nat.le_of_ble_eq_true rfl) rfl ?_
      exact g_vret 57 hC hR dX3_keep_57 ⟨(nx + (1 : Int32)), (if (5 : Int32) < (cn + (1 : Int32)) then (5 : Int32) else (cn + (1 : Int32))), (va_up rli 4 u126), (va_up rsct 4 u127), (va_up rstk 4 u128), (va_up rsle 4 u129), (va_up rye 4 u130), (va_up rre 4 u131), (va_up rpct 4 u132), (va_up rptk 4 u133), (va_up rple 4 u134), (va_up rco 4 u135), rfl, h⟩

/-! ===== ProverbCollection$History.restore(LProverbCollection$State;)V ===== -/
def Wd_X3_restore (cI cS cT : ClassId) (ad : Nat → Nat) (b0 : Nat) (b1 : Nat) (nx : Int32) (cn : Int32) (rli : Nat → Int32) (rsct : Nat → Int32) (rstk : Nat → Nat → Int32) (rsle : Nat → Nat → Int32) (rye : Nat → Nat → Int32) (rre : Nat → Nat → Int32) (rpct : Nat → Int32) (rptk : Nat → Nat → Int32) (rple : Nat → Nat → Int32) (rco : Nat → Nat → Int32) (nli : Int32) (nsct : Int32) (nstk : Nat → Int32) (nsle : Nat → Int32) (nye : Nat → Int32) (nre : Nat → Int32) (npct : Int32) (nptk : Nat → Int32) (nple : Nat → Int32) (nco : Nat → Int32) : va_W := [(ad b0, .inr (3, [.ref (ad (b0 + 1)), .int nx, .int cn])), (ad (b0 + 1), .inl (cS, 5, .inr (.inr (.inr (.inr (fun i => if i < 5 then some (ad (b0 + 2 + 10 * i)) else none)))))), (ad (b0 + 2), .inr (7, [.ref (ad (b0 + 3)), .ref (ad (b0 + 6)), .ref (ad (b0 + 7)), .ref (ad (b0 + 8)), .ref (ad (b0 + 11)), .int (rli 0)])), (ad (b0 + 3), .inr (6, [.int 12, .ref (ad (b0 + 4)), .ref (ad (b0 + 5)), .int (rsct 0)])), (ad (b0 + 4), .inl (cI, 96, .inl (rstk 0))), (ad (b0 + 5), .inl (cI, 12, .inl (rsle 0))), (ad (b0 + 6), .inl (cI, 12, .inl (rye 0))), (ad (b0 + 7), .inl (cI, 12, .inl (rre 0))), (ad (b0 + 8), .inr (6, [.int 6, .ref (ad (b0 + 9)), .ref (ad (b0 + 10)), .int (rpct 0)])), (ad (b0 + 9), .inl (cI, 48, .inl (rptk 0))), (ad (b0 + 10), .inl (cI, 6, .inl (rple 0))), (ad (b0 + 11), .inl (cI, 4, .inl (rco 0))), (ad (b0 + 12), .inr (7, [.ref (ad (b0 + 13)), .ref (ad (b0 + 16)), .ref (ad (b0 + 17)), .ref (ad (b0 + 18)), .ref (ad (b0 + 21)), .int (rli 1)])), (ad (b0 + 13), .inr (6, [.int 12, .ref (ad (b0 + 14)), .ref (ad (b0 + 15)), .int (rsct 1)])), (ad (b0 + 14), .inl (cI, 96, .inl (rstk 1))), (ad (b0 + 15), .inl (cI, 12, .inl (rsle 1))), (ad (b0 + 16), .inl (cI, 12, .inl (rye 1))), (ad (b0 + 17), .inl (cI, 12, .inl (rre 1))), (ad (b0 + 18), .inr (6, [.int 6, .ref (ad (b0 + 19)), .ref (ad (b0 + 20)), .int (rpct 1)])), (ad (b0 + 19), .inl (cI, 48, .inl (rptk 1))), (ad (b0 + 20), .inl (cI, 6, .inl (rple 1))), (ad (b0 + 21), .inl (cI, 4, .inl (rco 1))), (ad (b0 + 22), .inr (7, [.ref (ad (b0 + 23)), .ref (ad (b0 + 26)), .ref (ad (b0 + 27)), .ref (ad (b0 + 28)), .ref (ad (b0 + 31)), .int (rli 2)])), (ad (b0 + 23), .inr (6, [.int 12, .ref (ad (b0 + 24)), .ref (ad (b0 + 25)), .int (rsct 2)])), (ad (b0 + 24), .inl (cI, 96, .inl (rstk 2))), (ad (b0 + 25), .inl (cI, 12, .inl (rsle 2))), (ad (b0 + 26), .inl (cI, 12, .inl (rye 2))), (ad (b0 + 27), .inl (cI, 12, .inl (rre 2))), (ad (b0 + 28), .inr (6, [.int 6, .ref (ad (b0 + 29)), .ref (ad (b0 + 30)), .int (rpct 2)])), (ad (b0 + 29), .inl (cI, 48, .inl (rptk 2))), (ad (b0 + 30), .inl (cI, 6, .inl (rple 2))), (ad (b0 + 31), .inl (cI, 4, .inl (rco 2))), (ad (b0 + 32), .inr (7, [.ref (ad (b0 + 33)), .ref (ad (b0 + 36)), .ref (ad (b0 + 37)), .ref (ad (b0 + 38)), .ref (ad (b0 + 41)), .int (rli 3)])), (ad (b0 + 33), .inr (6, [.int 12, .ref (ad (b0 + 34)), .ref (ad (b0 + 35)), .int (rsct 3)])), (ad (b0 + 34), .inl (cI, 96, .inl (rstk 3))), (ad (b0 + 35), .inl (cI, 12, .inl (rsle 3))), (ad (b0 + 36), .inl (cI, 12, .inl (rye 3))), (ad (b0 + 37), .inl (cI, 12, .inl (rre 3))), (ad (b0 + 38), .inr (6, [.int 6, .ref (ad (b0 + 39)), .ref (ad (b0 + 40)), .int (rpct 3)])), (ad (b0 + 39), .inl (cI, 48, .inl (rptk 3))), (ad (b0 + 40), .inl (cI, 6, .inl (rple 3))), (ad (b0 + 41), .inl (cI, 4, .inl (rco 3))), (ad (b0 + 42), .inr (7, [.ref (ad (b0 + 43)), .ref (ad (b0 + 46)), .ref (ad (b0 + 47)), .ref (ad (b0 + 48)), .ref (ad (b0 + 51)), .int (rli 4)])), (ad (b0 + 43), .inr (6, [.int 12, .ref (ad (b0 + 44)), .ref (ad (b0 + 45)), .int (rsct 4)])), (ad (b0 + 44), .inl (cI, 96, .inl (rstk 4))), (ad (b0 + 45), .inl (cI, 12, .inl (rsle 4))), (ad (b0 + 46), .inl (cI, 12, .inl (rye 4))), (ad (b0 + 47), .inl (cI, 12, .inl (rre 4))), (ad (b0 + 48), .inr (6, [.int 6, .ref (ad (b0 + 49)), .ref (ad (b0 + 50)), .int (rpct 4)])), (ad (b0 + 49), .inl (cI, 48, .inl (rptk 4))), (ad (b0 + 50), .inl (cI, 6, .inl (rple 4))), (ad (b0 + 51), .inl (cI, 4, .inl (rco 4))), (ad b1, .inr (7, [.ref (ad (b1 + 1)), .ref (ad (b1 + 4)), .ref (ad (b1 + 5)), .ref (ad (b1 + 6)), .ref (ad (b1 + 9)), .int nli])), (ad (b1 + 1), .inr (6, [.int 12, .ref (ad (b1 + 2)), .ref (ad (b1 + 3)), .int nsct])), (ad (b1 + 2), .inl (cI, 96, .inl nstk)), (ad (b1 + 3), .inl (cI, 12, .inl nsle)), (ad (b1 + 4), .inl (cI, 12, .inl nye)), (ad (b1 + 5), .inl (cI, 12, .inl nre)), (ad (b1 + 6), .inr (6, [.int 6, .ref (ad (b1 + 7)), .ref (ad (b1 + 8)), .int npct])), (ad (b1 + 7), .inl (cI, 48, .inl nptk)), (ad (b1 + 8), .inl (cI, 6, .inl nple)), (ad (b1 + 9), .inl (cI, 4, .inl nco))]
def rm_X3_restore : Room := { frames := 4, cells := 0, slots := 0, locals := 103 }
theorem kX3_restore : KV yX3_restore cX3_restore 2 none 1 := ⟨wq_103, wq_20, wq_101, wq_102, by decide +kernel⟩
def P_X3_restore (nx : Int32) (cn : Int32) (rli : Nat → Int32) (rsct : Nat → Int32) (rstk : Nat → Nat → Int32) (rsle : Nat → Nat → Int32) (rye : Nat → Nat → Int32) (rre : Nat → Nat → Int32) (rpct : Nat → Int32) (rptk : Nat → Nat → Int32) (rple : Nat → Nat → Int32) (rco : Nat → Nat → Int32) (nli : Int32) (nsct : Int32) (nstk : Nat → Int32) (nsle : Nat → Int32) (nye : Nat → Int32) (nre : Nat → Int32) (npct : Int32) (nptk : Nat → Int32) (nple : Nat → Int32) (nco : Nat → Int32) (post : Int32 → Int32 → Int32 → Int32 → (Nat → Int32) → (Nat → Int32) → (Nat → Int32) → (Nat → Int32) → Int32 → (Nat → Int32) → (Nat → Int32) → (Nat → Int32) → Prop) : Prop :=
  (nx ≤ 0 → (vp_in (4 : Int32) 5 ∧ ∀ kk1 : Nat, kk1 = (Int32.toNatClampNeg (4 : Int32)) → (P_X7_copyFrom nli nsct nstk nsle nye nre npct nptk nple nco (rli kk1) (rsct kk1) (rstk kk1) (rsle kk1) (rye kk1) (rre kk1) (rpct kk1) (rptk kk1) (rple kk1) (rco kk1) (fun u2 u3 u4 u5 u6 u7 u8 u9 u10 u11 => post (4 : Int32) (cn - (1 : Int32)) u2 u3 u4 u5 u6 u7 u8 u9 u10 u11)))) ∧ (¬ nx ≤ 0 → (vp_in (nx - (1 : Int32)) 5 ∧ ∀ kk69 : Nat, kk69 = (Int32.toNatClampNeg (nx - (1 : Int32))) → (P_X7_copyFrom nli nsct nstk nsle nye nre npct nptk nple nco (rli kk69) (rsct kk69) (rstk kk69) (rsle kk69) (rye kk69) (rre kk69) (rpct kk69) (rptk kk69) (rple kk69) (rco kk69) (fun u70 u71 u72 u73 u74 u75 u76 u77 u78 u79 => post (nx - (1 : Int32)) (cn - (1 : Int32)) u70 u71 u72 u73 u74 u75 u76 u77 u78 u79))))
set_option maxHeartbeats 4000000 in
set_option maxRecDepth 100000 in
theorem c_X3_restore (l : Launch) (D : va_G) (cI cS cT : ClassId) (ad : Nat → Nat) (b0 : Nat) (b1 : Nat) (nx : Int32) (cn : Int32) (rli : Nat → Int32) (rsct : Nat → Int32) (rstk : Nat → Nat → Int32) (rsle : Nat → Nat → Int32) (rye : Nat → Nat → Int32) (rre : Nat → Nat → Int32) (rpct : Nat → Int32) (rptk : Nat → Nat → Int32) (rple : Nat → Nat → Int32) (rco : Nat → Nat → Int32) (nli : Int32) (nsct : Int32) (nstk : Nat → Int32) (nsle : Nat → Int32) (nye : Nat → Int32) (nre : Nat → Int32) (npct : Int32) (nptk : Nat → Int32) (nple : Nat → Int32) (nco : Nat → Int32) (post : Int32 → Int32 → Int32 → Int32 → (Nat → Int32) → (Nat → Int32) → (Nat → Int32) → (Nat → Int32) → Int32 → (Nat → Int32) → (Nat → Int32) → (Nat → Int32) → Prop) (h : P_X3_restore nx cn rli rsct rstk rsle rye rre rpct rptk rple rco nli nsct nstk nsle nye nre npct nptk nple nco post) : MV l D (TY cI cS cT) yX3_restore cX3_restore 2 rm_X3_restore [.ref (ad b0), .ref (ad b1)] (Wd_X3_restore cI cS cT ad b0 b1 nx cn rli rsct rstk rsle rye rre rpct rptk rple rco nli nsct nstk nsle nye nre npct nptk nple nco) (fun w => ∃ (u_nx : Int32) (u_cn : Int32) (u_nli : Int32) (u_nsct : Int32) (u_nstk : Nat → Int32) (u_nsle : Nat → Int32) (u_nye : Nat → Int32) (u_nre : Nat → Int32) (u_npct : Int32) (u_nptk : Nat → Int32) (u_nple : Nat → Int32) (u_nco : Nat → Int32), w = (Wd_X3_restore cI cS cT ad b0 b1 u_nx u_cn rli rsct rstk rsle rye rre rpct rptk rple rco u_nli u_nsct u_nstk u_nsle u_nye u_nre u_npct u_nptk u_nple u_nco) ∧ post u_nx u_cn u_nli u_nsct u_nstk u_nsle u_nye u_nre u_npct u_nptk u_nple u_nco) := by
  refine MV.of (by decide) (Nat.le_of_ble_eq_true rfl) (fun E hC hR hn => ?_)
  replace hC : Cx l D (TY cI cS cT) E rm_X3_restore cX3_restore RX3 := hC
  replace hR : RetV D E (fun w => ∃ (u_nx : Int32) (u_cn : Int32) (u_nli : Int32) (u_nsct : Int32) (u_nstk : Nat → Int32) (u_nsle : Nat → Int32) (u_nye : Nat → Int32) (u_nre : Nat → Int32) (u_npct : Int32) (u_nptk : Nat → Int32) (u_nple : Nat → Int32) (u_nco : Nat → Int32), w = (Wd_X3_restore cI cS cT ad b0 b1 u_nx u_cn rli rsct rstk rsle rye rre rpct rptk rple rco u_nli u_nsct u_nstk u_nsle u_nye u_nre u_npct u_nptk u_nple u_nco) ∧ post u_nx u_cn u_nli u_nsct u_nstk u_nsle u_nye u_nre u_npct u_nptk u_nple u_nco) 0 0 := hR
  unfold P_X3_restore at h
  change G l D E 0 0 _ [(0, .ref (ad b0)), (1, .ref (ad b1))] 0 []
  refine g_aload_n 0 0 hC dX3_restore_0 rfl ?_
  refine g_aload_n 1 0 hC dX3_restore_1 rfl ?_
  refine g_get 2 0 1 hC inlX3 wq_104 dX3_restore_2 rfl rfl (by decide) rfl ?_
  refine g_if_le 5 17 hC dX3_restore_5 (by decide) (fun hc => ?_) (fun hc => ?_)
  · replace h := h.1 hc
    refine g_iconst (v := (4 : Int32)) 17 hC dX3_restore_17 (by decide) ?_
    refine g_put 18 0 1 (Wd_X3_restore cI cS cT ad b0 b1 (4 : Int32) cn rli rsct rstk rsle rye rre rpct rptk rple rco nli nsct nstk nsle nye nre npct nptk nple nco) hC inlX3 tyX3_ok nmX3 wq_104 dX3_restore_18 rfl rfl (by decide) rfl rfl (Nat.le_of_ble_eq_true rfl) rfl ?_
    refine g_aload_n 21 0 hC dX3_restore_21 rfl ?_
    refine g_dup 22 hC dX3_restore_22 rfl ?_
    refine g_get 23 0 2 hC inlX3 wq_105 dX3_restore_23 rfl rfl (by decide) rfl ?_
    refine g_iconst (v := (1 : Int32)) 26 hC dX3_restore_26 (by decide) ?_
    refine g_isub 27 hC dX3_restore_27 ?_
    refine g_put 28 0 2 (Wd_X3_restore cI cS cT ad b0 b1 (4 : Int32) (cn - (1 : Int32)) rli rsct rstk rsle rye rre rpct rptk rple rco nli nsct nstk nsle nye nre npct nptk nple nco) hC inlX3 tyX3_ok nmX3 wq_105 dX3_restore_28 rfl rfl (by decide) rfl rfl (Nat.le_of_ble_eq_true rfl) rfl ?_
    refine g_aload_n 31 1 hC dX3_restore_31 rfl ?_
    refine g_aload_n 32 0 hC dX3_restore_32 rfl ?_
    refine g_get 33 0 0 hC inlX3 wq_65 dX3_restore_33 rfl rfl (by decide) rfl ?_
    refine g_aload_n 36 0 hC dX3_restore_36 rfl ?_
    refine g_get 37 0 1 hC inlX3 wq_104 dX3_restore_37 rfl rfl (by decide) rfl ?_
    obtain ⟨hj, h⟩ := h
    have hk13 := vpLt hj
    replace h := h _ rfl
    refine g_aald 40 1 1 hC dX3_restore_40 rfl rfl rfl hj (if_pos hk13) ?_
    revert h
    revert hk13
    generalize (Int32.toNatClampNeg (4 : Int32)) = kk1
    intro hk13 h
    rcases (show kk1 = 0 ∨ kk1 = 1 ∨ kk1 = 2 ∨ kk1 = 3 ∨ kk1 = 4 by omega) with rfl | rfl | rfl | rfl | rfl
    · refine g_cVNv (As := [.ref (ad (b0 + 2))]) (rest := []) 41 52 [52, 53, 54, 55, 56, 57, 58, 59, 60, 61, 2, 3, 4, 5, 6, 7, 8, 9, 10, 11] hC (c_X7_copyFrom l D cI cS cT ad b1 (b0 + 2) nli nsct nstk nsle nye nre npct nptk nple nco (rli 0) (rsct 0) (rstk 0) (rsle 0) (rye 0) (rre 0) (rpct 0) (rptk 0) (rple 0) (rco 0) _ h) kX7_copyFrom nq_250 dX3_restore_41 rfl rfl ⟨Nat.le_of_ble_eq_true rfl, Nat.le_of_ble_eq_true rfl⟩ rfl rfl (Nat.zero_le _) (Nat.zero_le _) rfl rfl rfl (Nat.le_of_ble_eq_true rfl) ?_
      rintro _ ⟨u14, u15, u16, u17, u18, u19, u20, u21, u22, u23, rfl, h⟩
      refine ⟨Nat.le_of_ble_eq_true rfl, G.upd [0, 1, 12, 13, 14, 15, 16, 17, 18, 19, 20, 21, 22, 23, 24, 25, 26, 27, 28, 29, 30, 31, 32, 33, 34, 35, 36, 37, 38, 39, 40, 41, 42, 43, 44, 45, 46, 47, 48, 49, 50, 51] (Wd_X3_restore cI cS cT ad b0 b1 (4 : Int32) (cn - (1 : Int32)) rli rsct rstk rsle rye rre rpct rptk rple rco u14 u15 u16 u17 u18 u19 u20 u21 u22 u23) rfl rfl rfl rfl rfl ?_⟩
      exact g_vret 44 hC hR dX3_restore_44 ⟨(4 : Int32), (cn - (1 : Int32)), u14, u15, u16, u17, u18, u19, u20, u21, u22, u23, rfl, h⟩
    · refine g_cVNv (As := [.ref (ad (b0 + 12))]) (rest := []) 41 52 [52, 53, 54, 55, 56, 57, 58, 59, 60, 61, 12, 13, 14, 15, 16, 17, 18, 19, 20, 21] hC (c_X7_copyFrom l D cI cS cT ad b1 (b0 + 12) nli nsct nstk nsle nye nre npct nptk nple nco (rli 1) (rsct 1) (rstk 1) (rsle 1) (rye 1) (rre 1) (rpct 1) (rptk 1) (rple 1) (rco 1) _ h) kX7_copyFrom nq_250 dX3_restore_41 rfl rfl ⟨Nat.le_of_ble_eq_true rfl, Nat.le_of_ble_eq_true rfl⟩ rfl rfl (Nat.zero_le _) (Nat.zero_le _) rfl rfl rfl (Nat.le_of_ble_eq_true rfl) ?_
      rintro _ ⟨u25, u26, u27, u28, u29, u30, u31, u32, u33, u34, rfl, h⟩
      refine ⟨Nat.le_of_ble_eq_true rfl, G.upd [0, 1, 2, 3, 4, 5, 6, 7, 8, 9, 10, 11, 22, 23, 24, 25, 26, 27, 28, 29, 30, 31, 32, 33, 34, 35, 36, 37, 38, 39, 40, 41, 42, 43, 44, 45, 46, 47, 48, 49, 50, 51] (Wd_X3_restore cI cS cT ad b0 b1 (4 : Int32) (cn - (1 : Int32)) rli rsct rstk rsle rye rre rpct rptk rple rco u25 u26 u27 u28 u29 u30 u31 u32 u33 u34) rfl rfl rfl rfl rfl ?_⟩
      exact g_vret 44 hC hR dX3_restore_44 ⟨(4 : Int32), (cn - (1 : Int32)), u25, u26, u27, u28, u29, u30, u31, u32, u33, u34, rfl, h⟩
    · refine g_cVNv (As := [.ref (ad (b0 + 22))]) (rest := []) 41 52 [52, 53, 54, 55, 56, 57, 58, 59, 60, 61, 22, 23, 24, 25, 26, 27, 28, 29, 30, 31] hC (c_X7_copyFrom l D cI cS cT ad b1 (b0 + 22) nli nsct nstk nsle nye nre npct nptk nple nco (rli 2) (rsct 2) (rstk 2) (rsle 2) (rye 2) (rre 2) (rpct 2) (rptk 2) (rple 2) (rco 2) _ h) kX7_copyFrom nq_250 dX3_restore_41 rfl rfl ⟨Nat.le_of_ble_eq_true rfl, Nat.le_of_ble_eq_true rfl⟩ rfl rfl (Nat.zero_le _) (Nat.zero_le _) rfl rfl rfl (Nat.le_of_ble_eq_true rfl) ?_
      rintro _ ⟨u36, u37, u38, u39, u40, u41, u42, u43, u44, u45, rfl, h⟩
      refine ⟨Nat.le_of_ble_eq_true rfl, G.upd [0, 1, 2, 3, 4, 5, 6, 7, 8, 9, 10, 11, 12, 13, 14, 15, 16, 17, 18, 19, 20, 21, 32, 33, 34, 35, 36, 37, 38, 39, 40, 41, 42, 43, 44, 45, 46, 47, 48, 49, 50, 51] (Wd_X3_restore cI cS cT ad b0 b1 (4 : Int32) (cn - (1 : Int32)) rli rsct rstk rsle rye rre rpct rptk rple rco u36 u37 u38 u39 u40 u41 u42 u43 u44 u45) rfl rfl rfl rfl rfl ?_⟩
      exact g_vret 44 hC hR dX3_restore_44 ⟨(4 : Int32), (cn - (1 : Int32)), u36, u37, u38, u39, u40, u41, u42, u43, u44, u45, rfl, h⟩
    · refine g_cVNv (As := [.ref (ad (b0 + 32))]) (rest := []) 41 52 [52, 53, 54, 55, 56, 57, 58, 59, 60, 61, 32, 33, 34, 35, 36, 37, 38, 39, 40, 41] hC (c_X7_copyFrom l D cI cS cT ad b1 (b0 + 32) nli nsct nstk nsle nye nre npct nptk nple nco (rli 3) (rsct 3) (rstk 3) (rsle 3) (rye 3) (rre 3) (rpct 3) (rptk 3) (rple 3) (rco 3) _ h) kX7_copyFrom nq_250 dX3_restore_41 rfl rfl ⟨Nat.le_of_ble_eq_true rfl, Nat.le_of_ble_eq_true rfl⟩ rfl rfl (Nat.zero_le _) (Nat.zero_le _) rfl rfl rfl (Nat.le_of_ble_eq_true rfl) ?_
      rintro _ ⟨u47, u48, u49, u50, u51, u52, u53, u54, u55, u56, rfl, h⟩
      refine ⟨Nat.le_of_ble_eq_true rfl, G.upd [0, 1, 2, 3, 4, 5, 6, 7, 8, 9, 10, 11, 12, 13, 14, 15, 16, 17, 18, 19, 20, 21, 22, 23, 24, 25, 26, 27, 28, 29, 30, 31, 42, 43, 44, 45, 46, 47, 48, 49, 50, 51] (Wd_X3_restore cI cS cT ad b0 b1 (4 : Int32) (cn - (1 : Int32)) rli rsct rstk rsle rye rre rpct rptk rple rco u47 u48 u49 u50 u51 u52 u53 u54 u55 u56) rfl rfl rfl rfl rfl ?_⟩
      exact g_vret 44 hC hR dX3_restore_44 ⟨(4 : Int32), (cn - (1 : Int32)), u47, u48, u49, u50, u51, u52, u53, u54, u55, u56, rfl, h⟩
    · refine g_cVNv (As := [.ref (ad (b0 + 42))]) (rest := []) 41 52 [52, 53, 54, 55, 56, 57, 58, 59, 60, 61, 42, 43, 44, 45, 46, 47, 48, 49, 50, 51] hC (c_X7_copyFrom l D cI cS cT ad b1 (b0 + 42) nli nsct nstk nsle nye nre npct nptk nple nco (rli 4) (rsct 4) (rstk 4) (rsle 4) (rye 4) (rre 4) (rpct 4) (rptk 4) (rple 4) (rco 4) _ h) kX7_copyFrom nq_250 dX3_restore_41 rfl rfl ⟨Nat.le_of_ble_eq_true rfl, Nat.le_of_ble_eq_true rfl⟩ rfl rfl (Nat.zero_le _) (Nat.zero_le _) rfl rfl rfl (Nat.le_of_ble_eq_true rfl) ?_
      rintro _ ⟨u58, u59, u60, u61, u62, u63, u64, u65, u66, u67, rfl, h⟩
      refine ⟨Nat.le_of_ble_eq_true rfl, G.upd [0, 1, 2, 3, 4, 5, 6, 7, 8, 9, 10, 11, 12, 13, 14, 15, 16, 17, 18, 19, 20, 21, 22, 23, 24, 25, 26, 27, 28, 29, 30, 31, 32, 33, 34, 35, 36, 37, 38, 39, 40, 41] (Wd_X3_restore cI cS cT ad b0 b1 (4 : Int32) (cn - (1 : Int32)) rli rsct rstk rsle rye rre rpct rptk rple rco u58 u59 u60 u61 u62 u63 u64 u65 u66 u67) rfl rfl rfl rfl rfl ?_⟩
      exact g_vret 44 hC hR dX3_restore_44 ⟨(4 : Int32), (cn - (1 : Int32)), u58, u59, u60, u61, u62, u63, u64, u65, u66, u67, rfl, h⟩
  · replace h := h.2 hc
    refine g_aload_n 8 0 hC dX3_restore_8 rfl ?_
    refine g_get 9 0 1 hC inlX3 wq_104 dX3_restore_9 rfl rfl (by decide) rfl ?_
    refine g_iconst (v := (1 : Int32)) 12 hC dX3_restore_12 (by decide) ?_
    refine g_isub 13 hC dX3_restore_13 ?_
    refine g_goto 14 18 hC dX3_restore_14 (by decide) ?_
    refine g_put 18 0 1 (Wd_X3_restore cI cS cT ad b0 b1 (nx - (1 : Int32)) cn rli rsct rstk rsle rye rre rpct rptk rple rco nli nsct nstk nsle nye nre npct nptk nple nco) hC inlX3 tyX3_ok nmX3 wq_104 dX3_restore_18 rfl rfl (by decide) rfl rfl (Nat.le_of_ble_eq_true rfl) rfl ?_
    refine g_aload_n 21 0 hC dX3_restore_21 rfl ?_
    refine g_dup 22 hC dX3_restore_22 rfl ?_
    refine g_get 23 0 2 hC inlX3 wq_105 dX3_restore_23 rfl rfl (by decide) rfl ?_
    refine g_iconst (v := (1 : Int32)) 26 hC dX3_restore_26 (by decide) ?_
    refine g_isub 27 hC dX3_restore_27 ?_
    refine g_put 28 0 2 (Wd_X3_restore cI cS cT ad b0 b1 (nx - (1 : Int32)) (cn - (1 : Int32)) rli rsct rstk rsle rye rre rpct rptk rple rco nli nsct nstk nsle nye nre npct nptk nple nco) hC inlX3 tyX3_ok nmX3 wq_105 dX3_restore_28 rfl rfl (by decide) rfl rfl (Nat.le_of_ble_eq_true rfl) rfl ?_
    refine g_aload_n 31 1 hC dX3_restore_31 rfl ?_
    refine g_aload_n 32 0 hC dX3_restore_32 rfl ?_
    refine g_get 33 0 0 hC inlX3 wq_65 dX3_restore_33 rfl rfl (by decide) rfl ?_
    refine g_aload_n 36 0 hC dX3_restore_36 rfl ?_
    refine g_get 37 0 1 hC inlX3 wq_104 dX3_restore_37 rfl rfl (by decide) rfl ?_
    obtain ⟨hj, h⟩ := h
    have hk81 := vpLt hj
    replace h := h _ rfl
    refine g_aald 40 1 1 hC dX3_restore_40 rfl rfl rfl hj (if_pos hk81) ?_
    revert h
    revert hk81
    generalize (Int32.toNatClampNeg (nx - (1 : Int32))) = kk69
    intro hk81 h
    rcases (show kk69 = 0 ∨ kk69 = 1 ∨ kk69 = 2 ∨ kk69 = 3 ∨ kk69 = 4 by omega) with rfl | rfl | rfl | rfl | rfl
    · refine g_cVNv (As := [.ref (ad (b0 + 2))]) (rest := []) 41 52 [52, 53, 54, 55, 56, 57, 58, 59, 60, 61, 2, 3, 4, 5, 6, 7, 8, 9, 10, 11] hC (c_X7_copyFrom l D cI cS cT ad b1 (b0 + 2) nli nsct nstk nsle nye nre npct nptk nple nco (rli 0) (rsct 0) (rstk 0) (rsle 0) (rye 0) (rre 0) (rpct 0) (rptk 0) (rple 0) (rco 0) _ h) kX7_copyFrom nq_250 dX3_restore_41 rfl rfl ⟨Nat.le_of_ble_eq_true rfl, Nat.le_of_ble_eq_true rfl⟩ rfl rfl (Nat.zero_le _) (Nat.zero_le _) rfl rfl rfl (Nat.le_of_ble_eq_true rfl) ?_
      rintro _ ⟨u82, u83, u84, u85, u86, u87, u88, u89, u90, u91, rfl, h⟩
      refine ⟨Nat.le_of_ble_eq_true rfl, G.upd [0, 1, 12, 13, 14, 15, 16, 17, 18, 19, 20, 21, 22, 23, 24, 25, 26, 27, 28, 29, 30, 31, 32, 33, 34, 35, 36, 37, 38, 39, 40, 41, 42, 43, 44, 45, 46, 47, 48, 49, 50, 51] (Wd_X3_restore cI cS cT ad b0 b1 (nx - (1 : Int32)) (cn - (1 : Int32)) rli rsct rstk rsle rye rre rpct rptk rple rco u82 u83 u84 u85 u86 u87 u88 u89 u90 u91) rfl rfl rfl rfl rfl ?_⟩
      exact g_vret 44 hC hR dX3_restore_44 ⟨(nx - (1 : Int32)), (cn - (1 : Int32)), u82, u83, u84, u85, u86, u87, u88, u89, u90, u91, rfl, h⟩
    · refine g_cVNv (As := [.ref (ad (b0 + 12))]) (rest := []) 41 52 [52, 53, 54, 55, 56, 57, 58, 59, 60, 61, 12, 13, 14, 15, 16, 17, 18, 19, 20, 21] hC (c_X7_copyFrom l D cI cS cT ad b1 (b0 + 12) nli nsct nstk nsle nye nre npct nptk nple nco (rli 1) (rsct 1) (rstk 1) (rsle 1) (rye 1) (rre 1) (rpct 1) (rptk 1) (rple 1) (rco 1) _ h) kX7_copyFrom nq_250 dX3_restore_41 rfl rfl ⟨Nat.le_of_ble_eq_true rfl, Nat.le_of_ble_eq_true rfl⟩ rfl rfl (Nat.zero_le _) (Nat.zero_le _) rfl rfl rfl (Nat.le_of_ble_eq_true rfl) ?_
      rintro _ ⟨u93, u94, u95, u96, u97, u98, u99, u100, u101, u102, rfl, h⟩
      refine ⟨Nat.le_of_ble_eq_true rfl, G.upd [0, 1, 2, 3, 4, 5, 6, 7, 8, 9, 10, 11, 22, 23, 24, 25, 26, 27, 28, 29, 30, 31, 32, 33, 34, 35, 36, 37, 38, 39, 40, 41, 42, 43, 44, 45, 46, 47, 48, 49, 50, 51] (Wd_X3_restore cI cS cT ad b0 b1 (nx - (1 : Int32)) (cn - (1 : Int32)) rli rsct rstk rsle rye rre rpct rptk rple rco u93 u94 u95 u96 u97 u98 u99 u100 u101 u102) rfl rfl rfl rfl rfl ?_⟩
      exact g_vret 44 hC hR dX3_restore_44 ⟨(nx - (1 : Int32)), (cn - (1 : Int32)), u93, u94, u95, u96, u97, u98, u99, u100, u101, u102, rfl, h⟩
    · refine g_cVNv (As := [.ref (ad (b0 + 22))]) (rest := []) 41 52 [52, 53, 54, 55, 56, 57, 58, 59, 60, 61, 22, 23, 24, 25, 26, 27, 28, 29, 30, 31] hC (c_X7_copyFrom l D cI cS cT ad b1 (b0 + 22) nli nsct nstk nsle nye nre npct nptk nple nco (rli 2) (rsct 2) (rstk 2) (rsle 2) (rye 2) (rre 2) (rpct 2) (rptk 2) (rple 2) (rco 2) _ h) kX7_copyFrom nq_250 dX3_restore_41 rfl rfl ⟨Nat.le_of_ble_eq_true rfl, Nat.le_of_ble_eq_true rfl⟩ rfl rfl (Nat.zero_le _) (Nat.zero_le _) rfl rfl rfl (Nat.le_of_ble_eq_true rfl) ?_
      rintro _ ⟨u104, u105, u106, u107, u108, u109, u110, u111, u112, u113, rfl, h⟩
      refine ⟨Nat.le_of_ble_eq_true rfl, G.upd [0, 1, 2, 3, 4, 5, 6, 7, 8, 9, 10, 11, 12, 13, 14, 15, 16, 17, 18, 19, 20, 21, 32, 33, 34, 35, 36, 37, 38, 39, 40, 41, 42, 43, 44, 45, 46, 47, 48, 49, 50, 51] (Wd_X3_restore cI cS cT ad b0 b1 (nx - (1 : Int32)) (cn - (1 : Int32)) rli rsct rstk rsle rye rre rpct rptk rple rco u104 u105 u106 u107 u108 u109 u110 u111 u112 u113) rfl rfl rfl rfl rfl ?_⟩
      exact g_vret 44 hC hR dX3_restore_44 ⟨(nx - (1 : Int32)), (cn - (1 : Int32)), u104, u105, u106, u107, u108, u109, u110, u111, u112, u113, rfl, h⟩
    · refine g_cVNv (As := [.ref (ad (b0 + 32))]) (rest := []) 41 52 [52, 53, 54, 55, 56, 57, 58, 59, 60, 61, 32, 33, 34, 35, 36, 37, 38, 39, 40, 41] hC (c_X7_copyFrom l D cI cS cT ad b1 (b0 + 32) nli nsct nstk nsle nye nre npct nptk nple nco (rli 3) (rsct 3) (rstk 3) (rsle 3) (rye 3) (rre 3) (rpct 3) (rptk 3) (rple 3) (rco 3) _ h) kX7_copyFrom nq_250 dX3_restore_41 rfl rfl ⟨Nat.le_of_ble_eq_true rfl, Nat.le_of_ble_eq_true rfl⟩ rfl rfl (Nat.zero_le _) (Nat.zero_le _) rfl rfl rfl (Nat.le_of_ble_eq_true rfl) ?_
      rintro _ ⟨u115, u116, u117, u118, u119, u120, u121, u122, u123, u124, rfl, h⟩
      refine ⟨Nat.le_of_ble_eq_true rfl, G.upd [0, 1, 2, 3, 4, 5, 6, 7, 8, 9, 10, 11, 12, 13, 14, 15, 16, 17, 18, 19, 20, 21, 22, 23, 24, 25, 26, 27, 28, 29, 30, 31, 42, 43, 44, 45, 46, 47, 48, 49, 50, 51] (Wd_X3_restore cI cS cT ad b0 b1 (nx - (1 : Int32)) (cn - (1 : Int32)) rli rsct rstk rsle rye rre rpct rptk rple rco u115 u116 u117 u118 u119 u120 u121 u122 u123 u124) rfl rfl rfl rfl rfl ?_⟩
      exact g_vret 44 hC hR dX3_restore_44 ⟨(nx - (1 : Int32)), (cn - (1 : Int32)), u115, u116, u117, u118, u119, u120, u121, u122, u123, u124, rfl, h⟩
    · refine g_cVNv (As := [.ref (ad (b0 + 42))]) (rest := []) 41 52 [52, 53, 54, 55, 56, 57, 58, 59, 60, 61, 42, 43, 44, 45, 46, 47, 48, 49, 50, 51] hC (c_X7_copyFrom l D cI cS cT ad b1 (b0 + 42) nli nsct nstk nsle nye nre npct nptk nple nco (rli 4) (rsct 4) (rstk 4) (rsle 4) (rye 4) (rre 4) (rpct 4) (rptk 4) (rple 4) (rco 4) _ h) kX7_copyFrom nq_250 dX3_restore_41 rfl rfl ⟨Nat.le_of_ble_eq_true rfl, Nat.le_of_ble_eq_true rfl⟩ rfl rfl (Nat.zero_le _) (Nat.zero_le _) rfl rfl rfl (Nat.le_of_ble_eq_true rfl) ?_
      rintro _ ⟨u126, u127, u128, u129, u130, u131, u132, u133, u134, u135, rfl, h⟩
      refine ⟨Nat.le_of_ble_eq_true rfl, G.upd [0, 1, 2, 3, 4, 5, 6, 7, 8, 9, 10, 11, 12, 13, 14, 15, 16, 17, 18, 19, 20, 21, 22, 23, 24, 25, 26, 27, 28, 29, 30, 31, 32, 33, 34, 35, 36, 37, 38, 39, 40, 41] (Wd_X3_restore cI cS cT ad b0 b1 (nx - (1 : Int32)) (cn - (1 : Int32)) rli rsct rstk rsle rye rre rpct rptk rple rco u126 u127 u128 u129 u130 u131 u132 u133 u134 u135) rfl rfl rfl rfl rfl ?_⟩
      exact g_vret 44 hC hR dX3_restore_44 ⟨(nx - (1 : Int32)), (cn - (1 : Int32)), u126, u127, u128, u129, u130, u131, u132, u133, u134, u135, rfl, h⟩
