def Wf_X3 (cI cS cT : ClassId) (ad : Nat → Nat) (b0 : Nat) (nx : Int32) (cn : Int32) (rli : Nat → Int32) (rsct : Nat → Int32) (rstk : Nat → Nat → Int32) (rsle : Nat → Nat → Int32) (rye : Nat → Nat → Int32) (rre : Nat → Nat → Int32) (rpct : Nat → Int32) (rptk : Nat → Nat → Int32) (rple : Nat → Nat → Int32) (rco : Nat → Nat → Int32) : va_W := [(ad b0, .inr (3, [.ref (ad (b0 + 1)), .int nx, .int cn])), (ad (b0 + 1), .inl (cS, 5, .inr (.inr (.inr (.inr (fun i => if i < 5 then some (ad (b0 + 2 + 10 * i)) else none)))))), (ad (b0 + 2), .inr (7, [.ref (ad (b0 + 3)), .ref (ad (b0 + 6)), .ref (ad (b0 + 7)), .ref (ad (b0 + 8)), .ref (ad (b0 + 11)), .int (rli 0)])), (ad (b0 + 3), .inr (6, [.int 12, .ref (ad (b0 + 4)), .ref (ad (b0 + 5)), .int (rsct 0)])), (ad (b0 + 4), .inl (cI, 96, .inl (rstk 0))), (ad (b0 + 5), .inl (cI, 12, .inl (rsle 0))), (ad (b0 + 6), .inl (cI, 12, .inl (rye 0))), (ad (b0 + 7), .inl (cI, 12, .inl (rre 0))), (ad (b0 + 8), .inr (6, [.int 6, .ref (ad (b0 + 9)), .ref (ad (b0 + 10)), .int (rpct 0)])), (ad (b0 + 9), .inl (cI, 48, .inl (rptk 0))), (ad (b0 + 10), .inl (cI, 6, .inl (rple 0))), (ad (b0 + 11), .inl (cI, 4, .inl (rco 0))), (ad (b0 + 12), .inr (7, [.ref (ad (b0 + 13)), .ref (ad (b0 + 16)), .ref (ad (b0 + 17)), .ref (ad (b0 + 18)), .ref (ad (b0 + 21)), .int (rli 1)])), (ad (b0 + 13), .inr (6, [.int 12, .ref (ad (b0 + 14)), .ref (ad (b0 + 15)), .int (rsct 1)])), (ad (b0 + 14), .inl (cI, 96, .inl (rstk 1))), (ad (b0 + 15), .inl (cI, 12, .inl (rsle 1))), (ad (b0 + 16), .inl (cI, 12, .inl (rye 1))), (ad (b0 + 17), .inl (cI, 12, .inl (rre 1))), (ad (b0 + 18), .inr (6, [.int 6, .ref (ad (b0 + 19)), .ref (ad (b0 + 20)), .int (rpct 1)])), (ad (b0 + 19), .inl (cI, 48, .inl (rptk 1))), (ad (b0 + 20), .inl (cI, 6, .inl (rple 1))), (ad (b0 + 21), .inl (cI, 4, .inl (rco 1))), (ad (b0 + 22), .inr (7, [.ref (ad (b0 + 23)), .ref (ad (b0 + 26)), .ref (ad (b0 + 27)), .ref (ad (b0 + 28)), .ref (ad (b0 + 31)), .int (rli 2)])), (ad (b0 + 23), .inr (6, [.int 12, .ref (ad (b0 + 24)), .ref (ad (b0 + 25)), .int (rsct 2)])), (ad (b0 + 24), .inl (cI, 96, .inl (rstk 2))), (ad (b0 + 25), .inl (cI, 12, .inl (rsle 2))), (ad (b0 + 26), .inl (cI, 12, .inl (rye 2))), (ad (b0 + 27), .inl (cI, 12, .inl (rre 2))), (ad (b0 + 28), .inr (6, [.int 6, .ref (ad (b0 + 29)), .ref (ad (b0 + 30)), .int (rpct 2)])), (ad (b0 + 29), .inl (cI, 48, .inl (rptk 2))), (ad (b0 + 30), .inl (cI, 6, .inl (rple 2))), (ad (b0 + 31), .inl (cI, 4, .inl (rco 2))), (ad (b0 + 32), .inr (7, [.ref (ad (b0 + 33)), .ref (ad (b0 + 36)), .ref (ad (b0 + 37)), .ref (ad (b0 + 38)), .ref (ad (b0 + 41)), .int (rli 3)])), (ad (b0 + 33), .inr (6, [.int 12, .ref (ad (b0 + 34)), .ref (ad (b0 + 35)), .int (rsct 3)])), (ad (b0 + 34), .inl (cI, 96, .inl (rstk 3))), (ad (b0 + 35), .inl (cI, 12, .inl (rsle 3))), (ad (b0 + 36), .inl (cI, 12, .inl (rye 3))), (ad (b0 + 37), .inl (cI, 12, .inl (rre 3))), (ad (b0 + 38), .inr (6, [.int 6, .ref (ad (b0 + 39)), .ref (ad (b0 + 40)), .int (rpct 3)])), (ad (b0 + 39), .inl (cI, 48, .inl (rptk 3))), (ad (b0 + 40), .inl (cI, 6, .inl (rple 3))), (ad (b0 + 41), .inl (cI, 4, .inl (rco 3))), (ad (b0 + 42), .inr (7, [.ref (ad (b0 + 43)), .ref (ad (b0 + 46)), .ref (ad (b0 + 47)), .ref (ad (b0 + 48)), .ref (ad (b0 + 51)), .int (rli 4)])), (ad (b0 + 43), .inr (6, [.int 12, .ref (ad (b0 + 44)), .ref (ad (b0 + 45)), .int (rsct 4)])), (ad (b0 + 44), .inl (cI, 96, .inl (rstk 4))), (ad (b0 + 45), .inl (cI, 12, .inl (rsle 4))), (ad (b0 + 46), .inl (cI, 12, .inl (rye 4))), (ad (b0 + 47), .inl (cI, 12, .inl (rre 4))), (ad (b0 + 48), .inr (6, [.int 6, .ref (ad (b0 + 49)), .ref (ad (b0 + 50)), .int (rpct 4)])), (ad (b0 + 49), .inl (cI, 48, .inl (rptk 4))), (ad (b0 + 50), .inl (cI, 6, .inl (rple 4))), (ad (b0 + 51), .inl (cI, 4, .inl (rco 4)))]
def rm_X3_init : Room := { frames := 3, cells := 51, slots := 1025, locals := 54 }
set_option maxHeartbeats 4000000 in
set_option maxRecDepth 100000 in
theorem c_X3_init (l : Launch) (D : va_G) (cI cS cT : ClassId) (a : Nat) : MC l D (TY cI cS cT) yX3_init cX3_init 2 rm_X3_init [.ref a] [(a, .inr (3, [.null, .int 0, .int 0]))] (fun w => ∃ ad : Nat → Nat, ad 0 = a ∧ w = Wf_X3 cI cS cT ad 0 0 0 (fun _ => (3 : Int32)) (fun _ => 0) (fun _ _ => 0) (fun _ _ => 0) (fun _ _ => 0) (fun _ _ => 0) (fun _ => 0) (fun _ _ => 0) (fun _ _ => 0) (fun _ => iCo)) := by
  refine MC.of (by decide) (Nat.le_of_ble_eq_true rfl) (fun E hC hO hR hn hm => ?_)
  replace hC : Cx l D (TY cI cS cT) E rm_X3_init cX3_init RX3 := hC
  replace hR : RetV D E (fun w => ∃ ad : Nat → Nat, ad 0 = a ∧ w = Wf_X3 cI cS cT ad 0 0 0 (fun _ => (3 : Int32)) (fun _ => 0) (fun _ _ => 0) (fun _ _ => 0) (fun _ _ => 0) (fun _ _ => 0) (fun _ => 0) (fun _ _ => 0) (fun _ _ => 0) (fun _ => iCo)) 51 1025 := hR
  replace hm : E.meth.name = "<init>" := hm
  change G l D E 0 0 _ [(0, .ref a)] 0 []
  refine g_aload_n 0 0 hC dX3_init_0 rfl ?_
  refine g_objInit 1 hC wq_63 dX3_init_1 (Nat.le_of_ble_eq_true rfl) (Nat.le_of_ble_eq_true rfl) ?_
  refine g_aload_n 4 0 hC dX3_init_4 rfl ?_
  refine g_iconst (v := (5 : Int32)) 5 hC dX3_init_5 (by decide) ?_
  refine g_newq (cS := cS) (N := 5) 6 hC hO.1 wq_64 dX3_init_6 rfl (by decide) (by decide) (by decide) (Nat.le_of_ble_eq_true rfl) (Nat.le_of_ble_eq_true rfl) (fun q1 => ?_)
  refine g_putF 9 0 0 ([(a, .inr (3, [.ref q1, .int 0, .int 0]))] ++ [(q1, .inl (cS, 5, .inr (.inr (.inr (.inr (fun _ => none))))))]) hC hm inlX3 tyX3_ok nmX3 wq_65 dX3_init_9 rfl rfl (by decide) rfl rfl (fty := (.array (.object "ProverbCollection$State"))) rfl rfl rfl (Nat.le_of_ble_eq_true rfl) rfl ?_
  refine g_iconst (v := (0 : Int32)) 12 hC dX3_init_12 (by decide) ?_
  refine g_istore_n 13 [(1, .int (0 : Int32)), (0, .ref a)] hC dX3_init_13 (by rw [hn]; decide) rfl ?_
  refine g_iload_n 14 0 hC dX3_init_14 rfl ?_
  refine g_iconst (v := (5 : Int32)) 15 hC dX3_init_15 (by decide) ?_
  refine g_icmp_ge 16 38 hC dX3_init_16 (by decide) (fun hc => absurd hc (by decide)) (fun _ => ?_)
  refine g_aload_n 19 1 hC dX3_init_19 rfl ?_
  refine g_get 20 0 0 hC inlX3 wq_65 dX3_init_20 rfl rfl (by decide) rfl ?_
  refine g_iload_n 23 0 hC dX3_init_23 rfl ?_
  refine g_new (ci := 7) 24 [.null, .null, .null, .null, .null, .int 0] hC inlX7 tyX7_ok wq_64 wq_15 wq_16 dX3_init_24 rfl (fun j hj => by rcases (show j = 0 ∨ j = 1 ∨ j = 2 ∨ j = 3 ∨ j = 4 ∨ j = 5 by omega) with rfl | rfl | rfl | rfl | rfl | rfl <;> rfl) (Nat.le_of_ble_eq_true rfl) (Nat.le_of_ble_eq_true rfl) (fun q2 => ?_)
  refine g_dup 27 hC dX3_init_27 rfl ?_
  refine g_cIN (mc := 9) (ms := 198) (As := []) (rest := [.ref q2, .int (0 : Int32), .ref q1]) 28 hC hO (c_X7_init l D cI cS cT q2) wq_44 wq_16 wq_43 rfl (by decide +kernel) nq_101 dX3_init_28 ⟨Nat.le_of_ble_eq_true rfl, Nat.le_of_ble_eq_true rfl⟩ rfl rfl (Nat.le_of_ble_eq_true rfl) (Nat.le_of_ble_eq_true rfl) rfl (Nat.le_of_ble_eq_true rfl) ?_
  rintro _ ⟨ad3, rfl, rfl⟩
  refine g_astq 31 1 2 0 ([(a, .inr (3, [.ref q1, .int 0, .int 0]))] ++ [(q1, .inl (cS, 5, .inr (.inr (.inr (.inr (va_up (fun _ => none) 0 (some (ad3 0))))))))] ++ Wf_X7 cI cS cT ad3 0 (3 : Int32) 0 (fun _ => 0) (fun _ => 0) (fun _ => 0) (fun _ => 0) 0 (fun _ => 0) (fun _ => 0) iCo) hC dX3_init_31 rfl rfl rfl rfl (by unfold vp_in; decide) (by decide) rfl ?_
  refine g_iinc (v := (1 : Int32)) 32 0 [(1, .int ((0 : Int32) + (1 : Int32))), (0, .ref a)] hC dX3_init_32 rfl (by decide) (by rw [hn]; decide) rfl ?_
  refine g_goto 35 14 hC dX3_init_35 (by decide) ?_
  refine g_iload_n 14 0 hC dX3_init_14 rfl ?_
  refine g_iconst (v := (5 : Int32)) 15 hC dX3_init_15 (by decide) ?_
  refine g_icmp_ge 16 38 hC dX3_init_16 (by decide) (fun hc => absurd hc (by decide)) (fun _ => ?_)
  refine g_aload_n 19 1 hC dX3_init_19 rfl ?_
  refine g_get 20 0 0 hC inlX3 wq_65 dX3_init_20 rfl rfl (by decide) rfl ?_
  refine g_iload_n 23 0 hC dX3_init_23 rfl ?_
  refine g_new (ci := 7) 24 [.null, .null, .null, .null, .null, .int 0] hC inlX7 tyX7_ok wq_64 wq_15 wq_16 dX3_init_24 rfl (fun j hj => by rcases (show j = 0 ∨ j = 1 ∨ j = 2 ∨ j = 3 ∨ j = 4 ∨ j = 5 by omega) with rfl | rfl | rfl | rfl | rfl | rfl <;> rfl) (Nat.le_of_ble_eq_true rfl) (Nat.le_of_ble_eq_true rfl) (fun q4 => ?_)
  refine g_dup 27 hC dX3_init_27 rfl ?_
  refine g_cIN (mc := 9) (ms := 198) (As := []) (rest := [.ref q4, .int ((0 : Int32) + (1 : Int32)), .ref q1]) 28 hC hO (c_X7_init l D cI cS cT q4) wq_44 wq_16 wq_43 rfl (by decide +kernel) nq_101 dX3_init_28 ⟨Nat.le_of_ble_eq_true rfl, Nat.le_of_ble_eq_true rfl⟩ rfl rfl (Nat.le_of_ble_eq_true rfl) (Nat.le_of_ble_eq_true rfl) rfl (Nat.le_of_ble_eq_true rfl) ?_
  rintro _ ⟨ad5, rfl, rfl⟩
  refine g_astq 31 1 12 1 ([(a, .inr (3, [.ref q1, .int 0, .int 0]))] ++ [(q1, .inl (cS, 5, .inr (.inr (.inr (.inr (va_up (va_up (fun _ => none) 0 (some (ad3 0))) 1 (some (ad5 0))))))))] ++ Wf_X7 cI cS cT ad3 0 (3 : Int32) 0 (fun _ => 0) (fun _ => 0) (fun _ => 0) (fun _ => 0) 0 (fun _ => 0) (fun _ => 0) iCo ++ Wf_X7 cI cS cT ad5 0 (3 : Int32) 0 (fun _ => 0) (fun _ => 0) (fun _ => 0) (fun _ => 0) 0 (fun _ => 0) (fun _ => 0) iCo) hC dX3_init_31 rfl rfl rfl rfl (by unfold vp_in; decide) (by decide) rfl ?_
  refine g_iinc (v := (1 : Int32)) 32 0 [(1, .int (((0 : Int32) + (1 : Int32)) + (1 : Int32))), (0, .ref a)] hC dX3_init_32 rfl (by decide) (by rw [hn]; decide) rfl ?_
  refine g_goto 35 14 hC dX3_init_35 (by decide) ?_
  refine g_iload_n 14 0 hC dX3_init_14 rfl ?_
  refine g_iconst (v := (5 : Int32)) 15 hC dX3_init_15 (by decide) ?_
  refine g_icmp_ge 16 38 hC dX3_init_16 (by decide) (fun hc => absurd hc (by decide)) (fun _ => ?_)
  refine g_aload_n 19 1 hC dX3_init_19 rfl ?_
  refine g_get 20 0 0 hC inlX3 wq_65 dX3_init_20 rfl rfl (by decide) rfl ?_
  refine g_iload_n 23 0 hC dX3_init_23 rfl ?_
  refine g_new (ci := 7) 24 [.null, .null, .null, .null, .null, .int 0] hC inlX7 tyX7_ok wq_64 wq_15 wq_16 dX3_init_24 rfl (fun j hj => by rcases (show j = 0 ∨ j = 1 ∨ j = 2 ∨ j = 3 ∨ j = 4 ∨ j = 5 by omega) with rfl | rfl | rfl | rfl | rfl | rfl <;> rfl) (Nat.le_of_ble_eq_true rfl) (Nat.le_of_ble_eq_true rfl) (fun q6 => ?_)
  refine g_dup 27 hC dX3_init_27 rfl ?_
  refine g_cIN (mc := 9) (ms := 198) (As := []) (rest := [.ref q6, .int (((0 : Int32) + (1 : Int32)) + (1 : Int32)), .ref q1]) 28 hC hO (c_X7_init l D cI cS cT q6) wq_44 wq_16 wq_43 rfl (by decide +kernel) nq_101 dX3_init_28 ⟨Nat.le_of_ble_eq_true rfl, Nat.le_of_ble_eq_true rfl⟩ rfl rfl (Nat.le_of_ble_eq_true rfl) (Nat.le_of_ble_eq_true rfl) rfl (Nat.le_of_ble_eq_true rfl) ?_
  rintro _ ⟨ad7, rfl, rfl⟩
  refine g_astq 31 1 22 2 ([(a, .inr (3, [.ref q1, .int 0, .int 0]))] ++ [(q1, .inl (cS, 5, .inr (.inr (.inr (.inr (va_up (va_up (va_up (fun _ => none) 0 (some (ad3 0))) 1 (some (ad5 0))) 2 (some (ad7 0))))))))] ++ Wf_X7 cI cS cT ad3 0 (3 : Int32) 0 (fun _ => 0) (fun _ => 0) (fun _ => 0) (fun _ => 0) 0 (fun _ => 0) (fun _ => 0) iCo ++ Wf_X7 cI cS cT ad5 0 (3 : Int32) 0 (fun _ => 0) (fun _ => 0) (fun _ => 0) (fun _ => 0) 0 (fun _ => 0) (fun _ => 0) iCo ++ Wf_X7 cI cS cT ad7 0 (3 : Int32) 0 (fun _ => 0) (fun _ => 0) (fun _ => 0) (fun _ => 0) 0 (fun _ => 0) (fun _ => 0) iCo) hC dX3_init_31 rfl rfl rfl rfl (by unfold vp_in; decide) (by decide) rfl ?_
  refine g_iinc (v := (1 : Int32)) 32 0 [(1, .int ((((0 : Int32) + (1 : Int32)) + (1 : Int32)) + (1 : Int32))), (0, .ref a)] hC dX3_init_32 rfl (by decide) (by rw [hn]; decide) rfl ?_
  refine g_goto 35 14 hC dX3_init_35 (by decide) ?_
  refine g_iload_n 14 0 hC dX3_init_14 rfl ?_
  refine g_iconst (v := (5 : Int32)) 15 hC dX3_init_15 (by decide) ?_
  refine g_icmp_ge 16 38 hC dX3_init_16 (by decide) (fun hc => absurd hc (by decide)) (fun _ => ?_)
  refine g_aload_n 19 1 hC dX3_init_19 rfl ?_
  refine g_get 20 0 0 hC inlX3 wq_65 dX3_init_20 rfl rfl (by decide) rfl ?_
  refine g_iload_n 23 0 hC dX3_init_23 rfl ?_
  refine g_new (ci := 7) 24 [.null, .null, .null, .null, .null, .int 0] hC inlX7 tyX7_ok wq_64 wq_15 wq_16 dX3_init_24 rfl (fun j hj => by rcases (show j = 0 ∨ j = 1 ∨ j = 2 ∨ j = 3 ∨ j = 4 ∨ j = 5 by omega) with rfl | rfl | rfl | rfl | rfl | rfl <;> rfl) (Nat.le_of_ble_eq_true rfl) (Nat.le_of_ble_eq_true rfl) (fun q8 => ?_)
  refine g_dup 27 hC dX3_init_27 rfl ?_
  refine g_cIN (mc := 9) (ms := 198) (As := []) (rest := [.ref q8, .int ((((0 : Int32) + (1 : Int32)) + (1 : Int32)) + (1 : Int32)), .ref q1]) 28 hC hO (c_X7_init l D cI cS cT q8) wq_44 wq_16 wq_43 rfl (by decide +kernel) nq_101 dX3_init_28 ⟨Nat.le_of_ble_eq_true rfl, Nat.le_of_ble_eq_true rfl⟩ rfl rfl (Nat.le_of_ble_eq_true rfl) (Nat.le_of_ble_eq_true rfl) rfl (Nat.le_of_ble_eq_true rfl) ?_
  rintro _ ⟨ad9, rfl, rfl⟩
  refine g_astq 31 1 32 3 ([(a, .inr (3, [.ref q1, .int 0, .int 0]))] ++ [(q1, .inl (cS, 5, .inr (.inr (.inr (.inr (va_up (va_up (va_up (va_up (fun _ => none) 0 (some (ad3 0))) 1 (some (ad5 0))) 2 (some (ad7 0))) 3 (some (ad9 0))))))))] ++ Wf_X7 cI cS cT ad3 0 (3 : Int32) 0 (fun _ => 0) (fun _ => 0) (fun _ => 0) (fun _ => 0) 0 (fun _ => 0) (fun _ => 0) iCo ++ Wf_X7 cI cS cT ad5 0 (3 : Int32) 0 (fun _ => 0) (fun _ => 0) (fun _ => 0) (fun _ => 0) 0 (fun _ => 0) (fun _ => 0) iCo ++ Wf_X7 cI cS cT ad7 0 (3 : Int32) 0 (fun _ => 0) (fun _ => 0) (fun _ => 0) (fun _ => 0) 0 (fun _ => 0) (fun _ => 0) iCo ++ Wf_X7 cI cS cT ad9 0 (3 : Int32) 0 (fun _ => 0) (fun _ => 0) (fun _ => 0) (fun _ => 0) 0 (fun _ => 0) (fun _ => 0) iCo) hC dX3_init_31 rfl rfl rfl rfl (by unfold vp_in; decide) (by decide) rfl ?_
  refine g_iinc (v := (1 : Int32)) 32 0 [(1, .int (((((0 : Int32) + (1 : Int32)) + (1 : Int32)) + (1 : Int32)) + (1 : Int32))), (0, .ref a)] hC dX3_init_32 rfl (by decide) (by rw [hn]; decide) rfl ?_
  refine g_goto 35 14 hC dX3_init_35 (by decide) ?_
  refine g_iload_n 14 0 hC dX3_init_14 rfl ?_
  refine g_iconst (v := (5 : Int32)) 15 hC dX3_init_15 (by decide) ?_
  refine g_icmp_ge 16 38 hC dX3_init_16 (by decide) (fun hc => absurd hc (by decide)) (fun _ => ?_)
  refine g_aload_n 19 1 hC dX3_init_19 rfl ?_
  refine g_get 20 0 0 hC inlX3 wq_65 dX3_init_20 rfl rfl (by decide) rfl ?_
  refine g_iload_n 23 0 hC dX3_init_23 rfl ?_
  refine g_new (ci := 7) 24 [.null, .null, .null, .null, .null, .int 0] hC inlX7 tyX7_ok wq_64 wq_15 wq_16 dX3_init_24 rfl (fun j hj => by rcases (show j = 0 ∨ j = 1 ∨ j = 2 ∨ j = 3 ∨ j = 4 ∨ j = 5 by omega) with rfl | rfl | rfl | rfl | rfl | rfl <;> rfl) (Nat.le_of_ble_eq_true rfl) (Nat.le_of_ble_eq_true rfl) (fun q10 => ?_)
  refine g_dup 27 hC dX3_init_27 rfl ?_
  refine g_cIN (mc := 9) (ms := 198) (As := []) (rest := [.ref q10, .int (((((0 : Int32) + (1 : Int32)) + (1 : Int32)) + (1 : Int32)) + (1 : Int32)), .ref q1]) 28 hC hO (c_X7_init l D cI cS cT q10) wq_44 wq_16 wq_43 rfl (by decide +kernel) nq_101 dX3_init_28 ⟨Nat.le_of_ble_eq_true rfl, Nat.le_of_ble_eq_true rfl⟩ rfl rfl (Nat.le_of_ble_eq_true rfl) (Nat.le_of_ble_eq_true rfl) rfl (Nat.le_of_ble_eq_true rfl) ?_
  rintro _ ⟨ad11, rfl, rfl⟩
  refine g_astq 31 1 42 4 ([(a, .inr (3, [.ref q1, .int 0, .int 0]))] ++ [(q1, .inl (cS, 5, .inr (.inr (.inr (.inr (va_up (va_up (va_up (va_up (va_up (fun _ => none) 0 (some (ad3 0))) 1 (some (ad5 0))) 2 (some (ad7 0))) 3 (some (ad9 0))) 4 (some (ad11 0))))))))] ++ Wf_X7 cI cS cT ad3 0 (3 : Int32) 0 (fun _ => 0) (fun _ => 0) (fun _ => 0) (fun _ => 0) 0 (fun _ => 0) (fun _ => 0) iCo ++ Wf_X7 cI cS cT ad5 0 (3 : Int32) 0 (fun _ => 0) (fun _ => 0) (fun _ => 0) (fun _ => 0) 0 (fun _ => 0) (fun _ => 0) iCo ++ Wf_X7 cI cS cT ad7 0 (3 : Int32) 0 (fun _ => 0) (fun _ => 0) (fun _ => 0) (fun _ => 0) 0 (fun _ => 0) (fun _ => 0) iCo ++ Wf_X7 cI cS cT ad9 0 (3 : Int32) 0 (fun _ => 0) (fun _ => 0) (fun _ => 0) (fun _ => 0) 0 (fun _ => 0) (fun _ => 0) iCo ++ Wf_X7 cI cS cT ad11 0 (3 : Int32) 0 (fun _ => 0) (fun _ => 0) (fun _ => 0) (fun _ => 0) 0 (fun _ => 0) (fun _ => 0) iCo) hC dX3_init_31 rfl rfl rfl rfl (by unfold vp_in; decide) (by decide) rfl ?_
  refine g_iinc (v := (1 : Int32)) 32 0 [(1, .int ((((((0 : Int32) + (1 : Int32)) + (1 : Int32)) + (1 : Int32)) + (1 : Int32)) + (1 : Int32))), (0, .ref a)] hC dX3_init_32 rfl (by decide) (by rw [hn]; decide) rfl ?_
  refine g_goto 35 14 hC dX3_init_35 (by decide) ?_
  refine g_iload_n 14 0 hC dX3_init_14 rfl ?_
  refine g_iconst (v := (5 : Int32)) 15 hC dX3_init_15 (by decide) ?_
  refine g_icmp_ge 16 38 hC dX3_init_16 (by decide) (fun _ => ?_) (fun hc => absurd (by decide) hc)
  refine g_vret 38 hC hR dX3_init_38 ⟨(fun i => if i < 1 then a else if i < 2 then q1 else if i < 12 then ad3 (i - 2) else if i < 22 then ad5 (i - 12) else if i < 32 then ad7 (i - 22) else if i < 42 then ad9 (i - 32) else ad11 (i - 42)), rfl, ?_⟩
  rw [ring_eq (s0 := ad3 0) (s1 := ad5 0) (s2 := ad7 0) (s3 := ad9 0) (s4 := ad11 0) (g := fun i => (fun i => if i < 1 then a else if i < 2 then q1 else if i < 12 then ad3 (i - 2) else if i < 22 then ad5 (i - 12) else if i < 32 then ad7 (i - 22) else if i < 42 then ad9 (i - 32) else ad11 (i - 42)) (0 + 2 + 10 * i)) rfl rfl rfl rfl rfl]
  rfl
