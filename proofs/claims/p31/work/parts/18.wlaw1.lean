/-! written by wip/p31/gen/walk.py: worlds, predicates and contracts -/
/-! ===== ProverbCollectionLaw.exchange([III)I ===== -/
def Wd_L_exchange (cI cS cT : ClassId) (ad : Nat → Nat) (b0 : Nat) (fN : Nat) (fa : Nat → Int32) : va_W := [(ad b0, .inl (cI, fN, .inl fa))]
def rm_L_exchange : Room := { frames := 0, cells := 0, slots := 0, locals := 0 }
theorem kL_exchange : KS yL_exchange cL_exchange 3 (some .int) 3 := ⟨wq_293, wq_195, wq_292, by decide +kernel⟩
def P_L_exchange (fN : Nat) (x1 : Int32) (x2 : Int32) (fa : Nat → Int32) (post : Int32 → Prop) : Prop :=
  (¬ x1 = x2 → ((¬ (x1 / (4 : Int32)) = (x2 / (4 : Int32)) → (vp_in (1 : Int32) fN ∧ (post (fa (Int32.toNatClampNeg (1 : Int32)))))) ∧ ((x1 / (4 : Int32)) = (x2 / (4 : Int32)) → (vp_in (2 : Int32) fN ∧ (post (fa (Int32.toNatClampNeg (2 : Int32)))))))) ∧ (x1 = x2 → post (0 : Int32))
set_option maxHeartbeats 4000000 in
set_option maxRecDepth 100000 in
theorem c_L_exchange (l : Launch) (D : va_G) (cI cS cT : ClassId) (ad : Nat → Nat) (b0 : Nat) (fN : Nat) (x1 : Int32) (x2 : Int32) (fa : Nat → Int32) (post : Int32 → Prop) (h : P_L_exchange fN x1 x2 fa post) : MI l D (TY cI cS cT) yL_exchange cL_exchange 3 (some .int) rm_L_exchange [.ref (ad b0), .int x1, .int x2] (Wd_L_exchange cI cS cT ad b0 fN fa) (fun (r : Int32) w => w = (Wd_L_exchange cI cS cT ad b0 fN fa) ∧ post r) := by
  refine MI.of (by decide) (Nat.le_of_ble_eq_true rfl) (fun E hC hR hn => ?_)
  replace hC : Cx l D (TY cI cS cT) E rm_L_exchange cL_exchange RL := hC
  replace hR : RetI D E (fun (r : Int32) w => w = (Wd_L_exchange cI cS cT ad b0 fN fa) ∧ post r) 0 0 (some .int) := hR
  unfold P_L_exchange at h
  change G l D E 0 0 _ [(0, .ref (ad b0)), (1, .int x1), (2, .int x2)] 0 []
  refine g_iload_n 0 1 hC dL_exchange_0 rfl ?_
  refine g_iload_n 1 2 hC dL_exchange_1 rfl ?_
  refine g_icmp_ne 2 9 hC dL_exchange_2 (by decide) (fun hc => ?_) (fun hc => ?_)
  · replace h := h.1 hc
    refine g_iload_n 9 1 hC dL_exchange_9 rfl ?_
    refine g_iconst (v := (4 : Int32)) 10 hC dL_exchange_10 (by decide) ?_
    refine g_idiv 11 hC dL_exchange_11 (by decide) ?_
    refine g_iload_n 12 2 hC dL_exchange_12 rfl ?_
    refine g_iconst (v := (4 : Int32)) 13 hC dL_exchange_13 (by decide) ?_
    refine g_idiv 14 hC dL_exchange_14 (by decide) ?_
    refine g_icmp_ne 15 24 hC dL_exchange_15 (by decide) (fun hc => ?_) (fun hc => ?_)
    · replace h := h.1 hc
      refine g_aload_n 24 0 hC dL_exchange_24 rfl ?_
      refine g_iconst (v := (1 : Int32)) 25 hC dL_exchange_25 (by decide) ?_
      obtain ⟨hj, h⟩ := h
      refine g_iald 26 0 hC dL_exchange_26 rfl rfl hj ?_
      exact g_iret 27 hC hR dL_exchange_27 ⟨rfl, h⟩
    · replace h := h.2 hc
      refine g_aload_n 18 0 hC dL_exchange_18 rfl ?_
      refine g_iconst (v := (2 : Int32)) 19 hC dL_exchange_19 (by decide) ?_
      obtain ⟨hj, h⟩ := h
      refine g_iald 20 0 hC dL_exchange_20 rfl rfl hj ?_
      refine g_goto 21 27 hC dL_exchange_21 (by decide) ?_
      exact g_iret 27 hC hR dL_exchange_27 ⟨rfl, h⟩
  · replace h := h.2 hc
    refine g_iconst (v := (0 : Int32)) 5 hC dL_exchange_5 (by decide) ?_
    refine g_goto 6 27 hC dL_exchange_6 (by decide) ?_
    exact g_iret 27 hC hR dL_exchange_27 ⟨rfl, h⟩

/-! ===== ProverbCollectionLaw.adds(LProverbCollection;II)Z ===== -/
def Wd_L_adds (cI cS cT : ClassId) (ad : Nat → Nat) (b0 : Nat) (bln : Int32) (btk : Nat → Int32) (nli : Int32) (nsct : Int32) (nstk : Nat → Int32) (nsle : Nat → Int32) (nye : Nat → Int32) (nre : Nat → Int32) (npct : Int32) (nptk : Nat → Int32) (nple : Nat → Int32) (nco : Nat → Int32) (hnx : Int32) (hcn : Int32) (hrli : Nat → Int32) (hrsct : Nat → Int32) (hrstk : Nat → Nat → Int32) (hrsle : Nat → Nat → Int32) (hrye : Nat → Nat → Int32) (hrre : Nat → Nat → Int32) (hrpct : Nat → Int32) (hrptk : Nat → Nat → Int32) (hrple : Nat → Nat → Int32) (hrco : Nat → Nat → Int32) : va_W := [(ad b0, .inr (8, [.ref (ad (b0 + 1)), .ref (ad (b0 + 3)), .ref (ad (b0 + 13)), .ref (ad (b0 + 65)), .ref (ad (b0 + 81)), .ref (ad (b0 + 88)), .ref (ad (b0 + 92)), .ref (ad (b0 + 99))])), (ad (b0 + 1), .inr (5, [.ref (ad (b0 + 2)), .int bln])), (ad (b0 + 2), .inl (cI, 8, .inl btk)), (ad (b0 + 3), .inr (7, [.ref (ad (b0 + 4)), .ref (ad (b0 + 7)), .ref (ad (b0 + 8)), .ref (ad (b0 + 9)), .ref (ad (b0 + 12)), .int nli])), (ad (b0 + 4), .inr (6, [.int 12, .ref (ad (b0 + 5)), .ref (ad (b0 + 6)), .int nsct])), (ad (b0 + 5), .inl (cI, 96, .inl nstk)), (ad (b0 + 6), .inl (cI, 12, .inl nsle)), (ad (b0 + 7), .inl (cI, 12, .inl nye)), (ad (b0 + 8), .inl (cI, 12, .inl nre)), (ad (b0 + 9), .inr (6, [.int 6, .ref (ad (b0 + 10)), .ref (ad (b0 + 11)), .int npct])), (ad (b0 + 10), .inl (cI, 48, .inl nptk)), (ad (b0 + 11), .inl (cI, 6, .inl nple)), (ad (b0 + 12), .inl (cI, 4, .inl nco)), (ad (b0 + 13), .inr (3, [.ref (ad (b0 + 14)), .int hnx, .int hcn])), (ad (b0 + 14), .inl (cS, 5, .inr (.inr (.inr (.inr (fun i => if i < 5 then some (ad (b0 + 15 + 10 * i)) else none)))))), (ad (b0 + 15), .inr (7, [.ref (ad (b0 + 16)), .ref (ad (b0 + 19)), .ref (ad (b0 + 20)), .ref (ad (b0 + 21)), .ref (ad (b0 + 24)), .int (hrli 0)])), (ad (b0 + 16), .inr (6, [.int 12, .ref (ad (b0 + 17)), .ref (ad (b0 + 18)), .int (hrsct 0)])), (ad (b0 + 17), .inl (cI, 96, .inl (hrstk 0))), (ad (b0 + 18), .inl (cI, 12, .inl (hrsle 0))), (ad (b0 + 19), .inl (cI, 12, .inl (hrye 0))), (ad (b0 + 20), .inl (cI, 12, .inl (hrre 0))), (ad (b0 + 21), .inr (6, [.int 6, .ref (ad (b0 + 22)), .ref (ad (b0 + 23)), .int (hrpct 0)])), (ad (b0 + 22), .inl (cI, 48, .inl (hrptk 0))), (ad (b0 + 23), .inl (cI, 6, .inl (hrple 0))), (ad (b0 + 24), .inl (cI, 4, .inl (hrco 0))), (ad (b0 + 25), .inr (7, [.ref (ad (b0 + 26)), .ref (ad (b0 + 29)), .ref (ad (b0 + 30)), .ref (ad (b0 + 31)), .ref (ad (b0 + 34)), .int (hrli 1)])), (ad (b0 + 26), .inr (6, [.int 12, .ref (ad (b0 + 27)), .ref (ad (b0 + 28)), .int (hrsct 1)])), (ad (b0 + 27), .inl (cI, 96, .inl (hrstk 1))), (ad (b0 + 28), .inl (cI, 12, .inl (hrsle 1))), (ad (b0 + 29), .inl (cI, 12, .inl (hrye 1))), (ad (b0 + 30), .inl (cI, 12, .inl (hrre 1))), (ad (b0 + 31), .inr (6, [.int 6, .ref (ad (b0 + 32)), .ref (ad (b0 + 33)), .int (hrpct 1)])), (ad (b0 + 32), .inl (cI, 48, .inl (hrptk 1))), (ad (b0 + 33), .inl (cI, 6, .inl (hrple 1))), (ad (b0 + 34), .inl (cI, 4, .inl (hrco 1))), (ad (b0 + 35), .inr (7, [.ref (ad (b0 + 36)), .ref (ad (b0 + 39)), .ref (ad (b0 + 40)), .ref (ad (b0 + 41)), .ref (ad (b0 + 44)), .int (hrli 2)])), (ad (b0 + 36), .inr (6, [.int 12, .ref (ad (b0 + 37)), .ref (ad (b0 + 38)), .int (hrsct 2)])), (ad (b0 + 37), .inl (cI, 96, .inl (hrstk 2))), (ad (b0 + 38), .inl (cI, 12, .inl (hrsle 2))), (ad (b0 + 39), .inl (cI, 12, .inl (hrye 2))), (ad (b0 + 40), .inl (cI, 12, .inl (hrre 2))), (ad (b0 + 41), .inr (6, [.int 6, .ref (ad (b0 + 42)), .ref (ad (b0 + 43)), .int (hrpct 2)])), (ad (b0 + 42), .inl (cI, 48, .inl (hrptk 2))), (ad (b0 + 43), .inl (cI, 6, .inl (hrple 2))), (ad (b0 + 44), .inl (cI, 4, .inl (hrco 2))), (ad (b0 + 45), .inr (7, [.ref (ad (b0 + 46)), .ref (ad (b0 + 49)), .ref (ad (b0 + 50)), .ref (ad (b0 + 51)), .ref (ad (b0 + 54)), .int (hrli 3)])), (ad (b0 + 46), .inr (6, [.int 12, .ref (ad (b0 + 47)), .ref (ad (b0 + 48)), .int (hrsct 3)])), (ad (b0 + 47), .inl (cI, 96, .inl (hrstk 3))), (ad (b0 + 48), .inl (cI, 12, .inl (hrsle 3))), (ad (b0 + 49), .inl (cI, 12, .inl (hrye 3))), (ad (b0 + 50), .inl (cI, 12, .inl (hrre 3))), (ad (b0 + 51), .inr (6, [.int 6, .ref (ad (b0 + 52)), .ref (ad (b0 + 53)), .int (hrpct 3)])), (ad (b0 + 52), .inl (cI, 48, .inl (hrptk 3))), (ad (b0 + 53), .inl (cI, 6, .inl (hrple 3))), (ad (b0 + 54), .inl (cI, 4, .inl (hrco 3))), (ad (b0 + 55), .inr (7, [.ref (ad (b0 + 56)), .ref (ad (b0 + 59)), .ref (ad (b0 + 60)), .ref (ad (b0 + 61)), .ref (ad (b0 + 64)), .int (hrli 4)])), (ad (b0 + 56), .inr (6, [.int 12, .ref (ad (b0 + 57)), .ref (ad (b0 + 58)), .int (hrsct 4)])), (ad (b0 + 57), .inl (cI, 96, .inl (hrstk 4))), (ad (b0 + 58), .inl (cI, 12, .inl (hrsle 4))), (ad (b0 + 59), .inl (cI, 12, .inl (hrye 4))), (ad (b0 + 60), .inl (cI, 12, .inl (hrre 4))), (ad (b0 + 61), .inr (6, [.int 6, .ref (ad (b0 + 62)), .ref (ad (b0 + 63)), .int (hrpct 4)])), (ad (b0 + 62), .inl (cI, 48, .inl (hrptk 4))), (ad (b0 + 63), .inl (cI, 6, .inl (hrple 4))), (ad (b0 + 64), .inl (cI, 4, .inl (hrco 4)))]
def rm_L_adds : Room := { frames := 6, cells := 0, slots := 0, locals := 147 }
theorem kL_adds : KS yL_adds cL_adds 6 (some .boolean) 3 := ⟨wq_201, wq_195, wq_200, by decide +kernel⟩
def B_L_adds_23 (v3 : Int32) (v1 : Int32) (K : Int32 → Int32 → Int32 → (Nat → Int32) → Prop) (rc : Int32 → Int32 → Int32 → (Nat → Int32) → Prop) (v5 : Int32) (v4 : Int32) (bln : Int32) (btk : Nat → Int32) : Prop :=
  (v3 ≤ v5 → K v5 v4 bln btk) ∧ (¬ v3 ≤ v5 → ((v4 = 0 → K v5 v4 bln btk) ∧ (¬ v4 = 0 → (∃ J7 : Int32 → Int32 → (Nat → Int32) → Prop, (∀ (j0_7 : Int32) (bln_7 : Int32) (btk_7 : Nat → Int32), J7 j0_7 bln_7 btk_7 → (rc (v5 + (1 : Int32)) j0_7 bln_7 btk_7)) ∧ (P_X8_append ((v1 >>> (((2 : Int32) + ((2 : Int32) * v5)) &&& 31)) - (v1 >>> (((2 : Int32) + ((2 : Int32) * v5)) &&& 31)) / (6 : Int32) * (6 : Int32)) bln btk (fun r10 u8 u9 => (¬ r10 = (v5 + (1 : Int32)) → J7 (0 : Int32) u8 u9) ∧ (r10 = (v5 + (1 : Int32)) → J7 (1 : Int32) u8 u9)))))))
def P_L_adds_23 (v3 : Int32) (v1 : Int32) (K : Int32 → Int32 → Int32 → (Nat → Int32) → Prop) : Nat → Int32 → Int32 → Int32 → (Nat → Int32) → Prop
  | 0 => fun _ _ _ _ => False
  | n + 1 => fun v5 v4 bln btk => B_L_adds_23 v3 v1 K (P_L_adds_23 v3 v1 K n) v5 v4 bln btk
def P_L_adds (x1 : Int32) (x2 : Int32) (bln : Int32) (btk : Nat → Int32) (nli : Int32) (nsct : Int32) (nstk : Nat → Int32) (nsle : Nat → Int32) (nye : Nat → Int32) (nre : Nat → Int32) (npct : Int32) (nptk : Nat → Int32) (nple : Nat → Int32) (nco : Nat → Int32) (hnx : Int32) (hcn : Int32) (hrli : Nat → Int32) (hrsct : Nat → Int32) (hrstk : Nat → Nat → Int32) (hrsle : Nat → Nat → Int32) (hrye : Nat → Nat → Int32) (hrre : Nat → Nat → Int32) (hrpct : Nat → Int32) (hrptk : Nat → Nat → Int32) (hrple : Nat → Nat → Int32) (hrco : Nat → Nat → Int32) (post : Int32 → Int32 → (Nat → Int32) → Int32 → (Nat → Int32) → (Nat → Int32) → (Nat → Int32) → (Nat → Int32) → Int32 → Int32 → (Nat → Int32) → (Nat → Int32) → (Nat → Nat → Int32) → (Nat → Nat → Int32) → (Nat → Nat → Int32) → (Nat → Nat → Int32) → (Nat → Int32) → (Nat → Nat → Int32) → (Nat → Nat → Int32) → (Nat → Nat → Int32) → Prop) : Prop :=
  ¬ x2 = 0 ∧ (∃ J3 : Int32 → Int32 → Prop, (∀ (j0_3 : Int32) (bln_3 : Int32), J3 j0_3 bln_3 → (∃ n : Nat, P_L_adds_23 ((1 : Int32) + (x1 - x1 / x2 * x2)) x1 (fun w5_11 w4_11 bln_11 btk_11 => P_X8_sayingCount nli nsct (fun r12 => (w4_11 = 0 → post (0 : Int32) bln_11 btk_11 nsct nstk nsle nye nre hnx hcn hrli hrsct hrstk hrsle hrye hrre hrpct hrptk hrple hrco) ∧ (¬ w4_11 = 0 → (P_X8_addSaying ((x1 >>> ((5 : Int32) &&& 31)) - (x1 >>> ((5 : Int32) &&& 31)) / (40 : Int32) * (40 : Int32)) ((x1 >>> ((9 : Int32) &&& 31)) - (x1 >>> ((9 : Int32) &&& 31)) / (10 : Int32) * (10 : Int32)) bln_11 btk_11 nli nsct nstk nsle nye nre npct nptk nple nco hnx hcn hrli hrsct hrstk hrsle hrye hrre hrpct hrptk hrple hrco (fun r31 u13 u14 u15 u16 u17 u18 u19 u20 u21 u22 u23 u24 u25 u26 u27 u28 u29 u30 => (¬ r31 = r12 → post (0 : Int32) u13 btk_11 u14 u15 u16 u17 u18 u19 u20 u21 u22 u23 u24 u25 u26 u27 u28 u29 u30) ∧ (r31 = r12 → (P_X8_lengthOf r12 nli u14 u16 (fun r32 => (¬ r32 = ((1 : Int32) + (x1 - x1 / x2 * x2)) → post (0 : Int32) u13 btk_11 u14 u15 u16 u17 u18 u19 u20 u21 u22 u23 u24 u25 u26 u27 u28 u29 u30) ∧ (r32 = ((1 : Int32) + (x1 - x1 / x2 * x2)) → post (1 : Int32) u13 btk_11 u14 u15 u16 u17 u18 u19 u20 u21 u22 u23 u24 u25 u26 u27 u28 u29 u30))))))))) n (0 : Int32) j0_3 bln_3 btk)) ∧ (P_X8_clear bln (fun r34 u33 => (r34 < 0 → J3 (0 : Int32) u33) ∧ (¬ r34 < 0 → J3 (1 : Int32) u33))))
set_option maxHeartbeats 4000000 in
set_option maxRecDepth 100000 in
theorem L_L_adds_23 {l : Launch} {D : va_G} {cI cS cT : ClassId} {ad : Nat → Nat} {b0 : Nat} {E : CE} {v3 : Int32} {v1 : Int32} {v2 : Int32} {nli : Int32} {nsct : Int32} {nstk : Nat → Int32} {nsle : Nat → Int32} {nye : Nat → Int32} {nre : Nat → Int32} {npct : Int32} {nptk : Nat → Int32} {nple : Nat → Int32} {nco : Nat → Int32} {hnx : Int32} {hcn : Int32} {hrli : Nat → Int32} {hrsct : Nat → Int32} {hrstk : Nat → Nat → Int32} {hrsle : Nat → Nat → Int32} {hrye : Nat → Nat → Int32} {hrre : Nat → Nat → Int32} {hrpct : Nat → Int32} {hrptk : Nat → Nat → Int32} {hrple : Nat → Nat → Int32} {hrco : Nat → Nat → Int32} {post : Int32 → Int32 → (Nat → Int32) → Int32 → (Nat → Int32) → (Nat → Int32) → (Nat → Int32) → (Nat → Int32) → Int32 → Int32 → (Nat → Int32) → (Nat → Int32) → (Nat → Nat → Int32) → (Nat → Nat → Int32) → (Nat → Nat → Int32) → (Nat → Nat → Int32) → (Nat → Int32) → (Nat → Nat → Int32) → (Nat → Nat → Int32) → (Nat → Nat → Int32) → Prop} (hC : Cx l D (TY cI cS cT) E rm_L_adds cL_adds RL) (hR : RetI D E (fun (r : Int32) w => ∃ (u_bln : Int32) (u_btk : Nat → Int32) (u_nsct : Int32) (u_nstk : Nat → Int32) (u_nsle : Nat → Int32) (u_nye : Nat → Int32) (u_nre : Nat → Int32) (u_hnx : Int32) (u_hcn : Int32) (u_hrli : Nat → Int32) (u_hrsct : Nat → Int32) (u_hrstk : Nat → Nat → Int32) (u_hrsle : Nat → Nat → Int32) (u_hrye : Nat → Nat → Int32) (u_hrre : Nat → Nat → Int32) (u_hrpct : Nat → Int32) (u_hrptk : Nat → Nat → Int32) (u_hrple : Nat → Nat → Int32) (u_hrco : Nat → Nat → Int32), w = (Wd_L_adds cI cS cT ad b0 u_bln u_btk nli u_nsct u_nstk u_nsle u_nye u_nre npct nptk nple nco u_hnx u_hcn u_hrli u_hrsct u_hrstk u_hrsle u_hrye u_hrre u_hrpct u_hrptk u_hrple u_hrco) ∧ post r u_bln u_btk u_nsct u_nstk u_nsle u_nye u_nre u_hnx u_hcn u_hrli u_hrsct u_hrstk u_hrsle u_hrye u_hrre u_hrpct u_hrptk u_hrple u_hrco) 0 0 (some .boolean)) (hn : E.nL = 6) (K : Int32 → Int32 → Int32 → (Nat → Int32) → Prop) (hK : ∀ (v5 : Int32) (v4 : Int32) (bln : Int32) (btk : Nat → Int32), K v5 v4 bln btk → G l D E 0 0 (Wd_L_adds cI cS cT ad b0 bln btk nli nsct nstk nsle nye nre npct nptk nple nco hnx hcn hrli hrsct hrstk hrsle hrye hrre hrpct hrptk hrple hrco) [(5, .int v5), (4, .int v4), (3, .int v3), (0, .ref (ad b0)), (1, .int v1), (2, .int v2)] 69 []) : ∀ (n : Nat) (v5 : Int32) (v4 : Int32) (bln : Int32) (btk : Nat → Int32), P_L_adds_23 v3 v1 K n v5 v4 bln btk → G l D E 0 0 (Wd_L_adds cI cS cT ad b0 bln btk nli nsct nstk nsle nye nre npct nptk nple nco hnx hcn hrli hrsct hrstk hrsle hrye hrre hrpct hrptk hrple hrco) [(5, .int v5), (4, .int v4), (3, .int v3), (0, .ref (ad b0)), (1, .int v1), (2, .int v2)] 23 [] := by
  intro n
  induction n with
  | zero => exact fun _ _ _ _ h => h.elim
  | succ n ih =>
    intro v5 v4 bln btk h
    replace h : B_L_adds_23 v3 v1 K (P_L_adds_23 v3 v1 K n) v5 v4 bln btk := h
    unfold B_L_adds_23 at h
    refine g_iload 23 0 hC dL_adds_23 rfl ?_
    refine g_iload_n 25 2 hC dL_adds_25 rfl ?_
    refine g_icmp_ge 26 69 hC dL_adds_26 (by decide) (fun hc => ?_) (fun hc => ?_)
    · replace h := h.1 hc
      refine G.sub [0, 1, 2, 3, 4, 5] rfl ?_
      exact hK v5 v4 bln btk h
    · replace h := h.2 hc
      refine g_iload 29 1 hC dL_adds_29 rfl ?_
      refine g_if_eq 31 69 hC dL_adds_31 (by decide) (fun hc => ?_) (fun hc => ?_)
      · replace h := h.1 hc
        refine G.sub [0, 1, 2, 3, 4, 5] rfl ?_
        exact hK v5 v4 bln btk h
      · replace h := h.2 hc
        obtain ⟨J7, hJ7, h⟩ := h
        have LJ7 : ∀ (j0_7 : Int32) (bln_7 : Int32) (btk_7 : Nat → Int32), J7 j0_7 bln_7 btk_7 → G l D E 0 0 (Wd_L_adds cI cS cT ad b0 bln_7 btk_7 nli nsct nstk nsle nye nre npct nptk nple nco hnx hcn hrli hrsct hrstk hrsle hrye hrre hrpct hrptk hrple hrco) [(5, .int v5), (4, .int v4), (3, .int v3), (0, .ref (ad b0)), (1, .int v1), (2, .int v2)] 61 [.int j0_7] := by
          intro j0_7 bln_7 btk_7 h
          replace h := hJ7 j0_7 bln_7 btk_7 h
          refine g_istore 61 [(4, .int j0_7), (5, .int v5), (3, .int v3), (0, .ref (ad b0)), (1, .int v1), (2, .int v2)] hC dL_adds_61 (by rw [hn]; decide) rfl ?_
          refine g_iinc (v := (1 : Int32)) 63 1 [(5, .int (v5 + (1 : Int32))), (4, .int j0_7), (3, .int v3), (0, .ref (ad b0)), (1, .int v1), (2, .int v2)] hC dL_adds_63 rfl (by decide) (by rw [hn]; decide) rfl ?_
          refine g_goto 66 23 hC dL_adds_66 (by decide) ?_
          refine G.sub [0, 1, 2, 3, 4, 5] rfl ?_
          exact ih _ _ _ _ h
        refine g_aload_n 34 3 hC dL_adds_34 rfl ?_
        refine g_iload_n 35 4 hC dL_adds_35 rfl ?_
        refine g_iconst (v := (2 : Int32)) 36 hC dL_adds_36 (by decide) ?_
        refine g_iconst (v := (2 : Int32)) 37 hC dL_adds_37 (by decide) ?_
        refine g_iload 38 0 hC dL_adds_38 rfl ?_
        refine g_imul 40 hC dL_adds_40 ?_
        refine g_iadd 41 hC dL_adds_41 ?_
        refine g_ishr 42 hC dL_adds_42 ?_
        refine g_bipush (v := (6 : Int32)) 43 hC dL_adds_43 (by decide) ?_
        refine g_irem 45 hC dL_adds_45 (by decide) ?_
        refine g_cVi (As := [.int ((v1 >>> (((2 : Int32) + ((2 : Int32) * v5)) &&& 31)) - (v1 >>> (((2 : Int32) + ((2 : Int32) * v5)) &&& 31)) / (6 : Int32) * (6 : Int32))]) (rest := []) 46 0 [0, 1, 2] hC (c_X8_append l D cI cS cT ad b0 ((v1 >>> (((2 : Int32) + ((2 : Int32) * v5)) &&& 31)) - (v1 >>> (((2 : Int32) + ((2 : Int32) * v5)) &&& 31)) / (6 : Int32) * (6 : Int32)) bln btk _ h) kX8_append wq_206 dL_adds_46 rfl rfl ⟨Nat.le_of_ble_eq_true rfl, Nat.le_of_ble_eq_true rfl⟩ rfl rfl (Nat.zero_le _) (Nat.zero_le _) rfl rfl rfl (Nat.le_of_ble_eq_true rfl) ?_
        rintro r10 _ ⟨u8, u9, rfl, h⟩
        refine ⟨Nat.le_of_ble_eq_true rfl, G.upd [3, 4, 5, 6, 7, 8, 9, 10, 11, 12, 13, 14, 15, 16, 17, 18, 19, 20, 21, 22, 23, 24, 25, 26, 27, 28, 29, 30, 31, 32, 33, 34, 35, 36, 37, 38, 39, 40, 41, 42, 43, 44, 45, 46, 47, 48, 49, 50, 51, 52, 53, 54, 55, 56, 57, 58, 59, 60, 61, 62, 63, 64] (Wd_L_adds cI cS cT ad b0 u8 u9 nli nsct nstk nsle nye nre npct nptk nple nco hnx hcn hrli hrsct hrstk hrsle hrye hrre hrpct hrptk hrple hrco) rfl rfl rfl rfl rfl ?_⟩
        refine g_iload 49 0 hC dL_adds_49 rfl ?_
        refine g_iconst (v := (1 : Int32)) 51 hC dL_adds_51 (by decide) ?_
        refine g_iadd 52 hC dL_adds_52 ?_
        refine g_icmp_ne 53 60 hC dL_adds_53 (by decide) (fun hc => ?_) (fun hc => ?_)
        · replace h := h.1 hc
          refine g_iconst (v := (0 : Int32)) 60 hC dL_adds_60 (by decide) ?_
          refine G.sub [0, 1, 2, 3, 4, 5] rfl ?_
          exact LJ7 _ _ _ h
        · replace h := h.2 hc
          refine g_iconst (v := (1 : Int32)) 56 hC dL_adds_56 (by decide) ?_
          refine g_goto 57 61 hC dL_adds_57 (by decide) ?_
          refine G.sub [0, 1, 2, 3, 4, 5] rfl ?_
          exact LJ7 _ _ _ h
set_option maxHeartbeats 4000000 in
set_option maxRecDepth 100000 in
theorem c_L_adds (l : Launch) (D : va_G) (cI cS cT : ClassId) (ad : Nat → Nat) (b0 : Nat) (x1 : Int32) (x2 : Int32) (bln : Int32) (btk : Nat → Int32) (nli : Int32) (nsct : Int32) (nstk : Nat → Int32) (nsle : Nat → Int32) (nye : Nat → Int32) (nre : Nat → Int32) (npct : Int32) (nptk : Nat → Int32) (nple : Nat → Int32) (nco : Nat → Int32) (hnx : Int32) (hcn : Int32) (hrli : Nat → Int32) (hrsct : Nat → Int32) (hrstk : Nat → Nat → Int32) (hrsle : Nat → Nat → Int32) (hrye : Nat → Nat → Int32) (hrre : Nat → Nat → Int32) (hrpct : Nat → Int32) (hrptk : Nat → Nat → Int32) (hrple : Nat → Nat → Int32) (hrco : Nat → Nat → Int32) (post : Int32 → Int32 → (Nat → Int32) → Int32 → (Nat → Int32) → (Nat → Int32) → (Nat → Int32) → (Nat → Int32) → Int32 → Int32 → (Nat → Int32) → (Nat → Int32) → (Nat → Nat → Int32) → (Nat → Nat → Int32) → (Nat → Nat → Int32) → (Nat → Nat → Int32) → (Nat → Int32) → (Nat → Nat → Int32) → (Nat → Nat → Int32) → (Nat → Nat → Int32) → Prop) (h : P_L_adds x1 x2 bln btk nli nsct nstk nsle nye nre npct nptk nple nco hnx hcn hrli hrsct hrstk hrsle hrye hrre hrpct hrptk hrple hrco post) : MI l D (TY cI cS cT) yL_adds cL_adds 6 (some .boolean) rm_L_adds [.ref (ad b0), .int x1, .int x2] (Wd_L_adds cI cS cT ad b0 bln btk nli nsct nstk nsle nye nre npct nptk nple nco hnx hcn hrli hrsct hrstk hrsle hrye hrre hrpct hrptk hrple hrco) (fun (r : Int32) w => ∃ (u_bln : Int32) (u_btk : Nat → Int32) (u_nsct : Int32) (u_nstk : Nat → Int32) (u_nsle : Nat → Int32) (u_nye : Nat → Int32) (u_nre : Nat → Int32) (u_hnx : Int32) (u_hcn : Int32) (u_hrli : Nat → Int32) (u_hrsct : Nat → Int32) (u_hrstk : Nat → Nat → Int32) (u_hrsle : Nat → Nat → Int32) (u_hrye : Nat → Nat → Int32) (u_hrre : Nat → Nat → Int32) (u_hrpct : Nat → Int32) (u_hrptk : Nat → Nat → Int32) (u_hrple : Nat → Nat → Int32) (u_hrco : Nat → Nat → Int32), w = (Wd_L_adds cI cS cT ad b0 u_bln u_btk nli u_nsct u_nstk u_nsle u_nye u_nre npct nptk nple nco u_hnx u_hcn u_hrli u_hrsct u_hrstk u_hrsle u_hrye u_hrre u_hrpct u_hrptk u_hrple u_hrco) ∧ post r u_bln u_btk u_nsct u_nstk u_nsle u_nye u_nre u_hnx u_hcn u_hrli u_hrsct u_hrstk u_hrsle u_hrye u_hrre u_hrpct u_hrptk u_hrple u_hrco) := by
  refine MI.of (by decide) (Nat.le_of_ble_eq_true rfl) (fun E hC hR hn => ?_)
  replace hC : Cx l D (TY cI cS cT) E rm_L_adds cL_adds RL := hC
  replace hR : RetI D E (fun (r : Int32) w => ∃ (u_bln : Int32) (u_btk : Nat → Int32) (u_nsct : Int32) (u_nstk : Nat → Int32) (u_nsle : Nat → Int32) (u_nye : Nat → Int32) (u_nre : Nat → Int32) (u_hnx : Int32) (u_hcn : Int32) (u_hrli : Nat → Int32) (u_hrsct : Nat → Int32) (u_hrstk : Nat → Nat → Int32) (u_hrsle : Nat → Nat → Int32) (u_hrye : Nat → Nat → Int32) (u_hrre : Nat → Nat → Int32) (u_hrpct : Nat → Int32) (u_hrptk : Nat → Nat → Int32) (u_hrple : Nat → Nat → Int32) (u_hrco : Nat → Nat → Int32), w = (Wd_L_adds cI cS cT ad b0 u_bln u_btk nli u_nsct u_nstk u_nsle u_nye u_nre npct nptk nple nco u_hnx u_hcn u_hrli u_hrsct u_hrstk u_hrsle u_hrye u_hrre u_hrpct u_hrptk u_hrple u_hrco) ∧ post r u_bln u_btk u_nsct u_nstk u_nsle u_nye u_nre u_hnx u_hcn u_hrli u_hrsct u_hrstk u_hrsle u_hrye u_hrre u_hrpct u_hrptk u_hrple u_hrco) 0 0 (some .boolean) := hR
  unfold P_L_adds at h
  change G l D E 0 0 _ [(0, .ref (ad b0)), (1, .int x1), (2, .int x2)] 0 []
  refine g_iconst (v := (1 : Int32)) 0 hC dL_adds_0 (by decide) ?_
  refine g_iload_n 1 1 hC dL_adds_1 rfl ?_
  refine g_iload_n 2 2 hC dL_adds_2 rfl ?_
  obtain ⟨hz, h⟩ := h
  refine g_irem 3 hC dL_adds_3 hz ?_
  refine g_iadd 4 hC dL_adds_4 ?_
  refine g_istore_n 5 [(3, .int ((1 : Int32) + (x1 - x1 / x2 * x2))), (0, .ref (ad b0)), (1, .int x1), (2, .int x2)] hC dL_adds_5 (by rw [hn]; decide) rfl ?_
  obtain ⟨J3, hJ3, h⟩ := h
  have LJ3 : ∀ (j0_3 : Int32) (bln_3 : Int32), J3 j0_3 bln_3 → G l D E 0 0 (Wd_L_adds cI cS cT ad b0 bln_3 btk nli nsct nstk nsle nye nre npct nptk nple nco hnx hcn hrli hrsct hrstk hrsle hrye hrre hrpct hrptk hrple hrco) [(3, .int ((1 : Int32) + (x1 - x1 / x2 * x2))), (0, .ref (ad b0)), (1, .int x1), (2, .int x2)] 18 [.int j0_3] := by
    intro j0_3 bln_3 h
    replace h := hJ3 j0_3 bln_3 h
    refine g_istore 18 [(4, .int j0_3), (3, .int ((1 : Int32) + (x1 - x1 / x2 * x2))), (0, .ref (ad b0)), (1, .int x1), (2, .int x2)] hC dL_adds_18 (by rw [hn]; decide) rfl ?_
    refine g_iconst (v := (0 : Int32)) 20 hC dL_adds_20 (by decide) ?_
    refine g_istore 21 [(5, .int (0 : Int32)), (4, .int j0_3), (3, .int ((1 : Int32) + (x1 - x1 / x2 * x2))), (0, .ref (ad b0)), (1, .int x1), (2, .int x2)] hC dL_adds_21 (by rw [hn]; decide) rfl ?_
    obtain ⟨n, h⟩ := h
    refine L_L_adds_23 hC hR hn _ (fun w5_11 w4_11 bln_11 btk_11 h => ?_) n _ _ _ _ h
    refine g_aload_n 69 3 hC dL_adds_69 rfl ?_
    refine g_cVi (As := []) (rest := []) 70 0 [0, 3, 4] hC (c_X8_sayingCount l D cI cS cT ad b0 nli nsct _ h) kX8_sayingCount wq_123 dL_adds_70 rfl rfl ⟨Nat.le_of_ble_eq_true rfl, Nat.le_of_ble_eq_true rfl⟩ rfl rfl (Nat.zero_le _) (Nat.zero_le _) rfl rfl rfl (Nat.le_of_ble_eq_true rfl) ?_
    rintro r12 _ ⟨rfl, h⟩
    refine ⟨Nat.le_of_ble_eq_true rfl, G.upd [1, 2, 5, 6, 7, 8, 9, 10, 11, 12, 13, 14, 15, 16, 17, 18, 19, 20, 21, 22, 23, 24, 25, 26, 27, 28, 29, 30, 31, 32, 33, 34, 35, 36, 37, 38, 39, 40, 41, 42, 43, 44, 45, 46, 47, 48, 49, 50, 51, 52, 53, 54, 55, 56, 57, 58, 59, 60, 61, 62, 63, 64] (Wd_L_adds cI cS cT ad b0 bln_11 btk_11 nli nsct nstk nsle nye nre npct nptk nple nco hnx hcn hrli hrsct hrstk hrsle hrye hrre hrpct hrptk hrple hrco) rfl rfl rfl rfl rfl ?_⟩
    refine g_istore 73 [(5, .int r12), (4, .int w4_11), (3, .int ((1 : Int32) + (x1 - x1 / x2 * x2))), (0, .ref (ad b0)), (1, .int x1), (2, .int x2)] hC dL_adds_73 (by rw [hn]; decide) rfl ?_
    refine g_iload 75 1 hC dL_adds_75 rfl ?_
    refine g_if_eq 77 116 hC dL_adds_77 (by decide) (fun hc => ?_) (fun hc => ?_)
    · replace h := h.1 hc
      refine g_iconst (v := (0 : Int32)) 116 hC dL_adds_116 (by decide) ?_
      exact g_zret 117 hC hR dL_adds_117 (by decide) ⟨bln_11, btk_11, nsct, nstk, nsle, nye, nre, hnx, hcn, hrli, hrsct, hrstk, hrsle, hrye, hrre, hrpct, hrptk, hrple, hrco, rfl, h⟩
    · replace h := h.2 hc
      refine g_aload_n 80 3 hC dL_adds_80 rfl ?_
      refine g_iload_n 81 4 hC dL_adds_81 rfl ?_
      refine g_iconst (v := (5 : Int32)) 82 hC dL_adds_82 (by decide) ?_
      refine g_ishr 83 hC dL_adds_83 ?_
      refine g_bipush (v := (40 : Int32)) 84 hC dL_adds_84 (by decide) ?_
      refine g_irem 86 hC dL_adds_86 (by decide) ?_
      refine g_iload_n 87 4 hC dL_adds_87 rfl ?_
      refine g_bipush (v := (9 : Int32)) 88 hC dL_adds_88 (by decide) ?_
      refine g_ishr 90 hC dL_adds_90 ?_
      refine g_bipush (v := (10 : Int32)) 91 hC dL_adds_91 (by decide) ?_
      refine g_irem 93 hC dL_adds_93 (by decide) ?_
      refine g_cVi (As := [.int ((x1 >>> ((5 : Int32) &&& 31)) - (x1 >>> ((5 : Int32) &&& 31)) / (40 : Int32) * (40 : Int32)), .int ((x1 >>> ((9 : Int32) &&& 31)) - (x1 >>> ((9 : Int32) &&& 31)) / (10 : Int32) * (10 : Int32))]) (rest := []) 94 0 [0, 1, 2, 3, 4, 5, 6, 7, 8, 9, 10, 11, 12, 13, 14, 15, 16, 17, 18, 19, 20, 21, 22, 23, 24, 25, 26, 27, 28, 29, 30, 31, 32, 33, 34, 35, 36, 37, 38, 39, 40, 41, 42, 43, 44, 45, 46, 47, 48, 49, 50, 51, 52, 53, 54, 55, 56, 57, 58, 59, 60, 61, 62, 63, 64] hC (c_X8_addSaying l D cI cS cT ad b0 ((x1 >>> ((5 : Int32) &&& 31)) - (x1 >>> ((5 : Int32) &&& 31)) / (40 : Int32) * (40 : Int32)) ((x1 >>> ((9 : Int32) &&& 31)) - (x1 >>> ((9 : Int32) &&& 31)) / (10 : Int32) * (10 : Int32)) bln_11 btk_11 nli nsct nstk nsle nye nre npct nptk nple nco hnx hcn hrli hrsct hrstk hrsle hrye hrre hrpct hrptk hrple hrco _ h) kX8_addSaying wq_210 dL_adds_94 rfl rfl ⟨Nat.le_of_ble_eq_true rfl, Nat.le_of_ble_eq_true rfl⟩ rfl rfl (Nat.zero_le _) (Nat.zero_le _) rfl rfl rfl (Nat.le_of_ble_eq_true rfl) ?_
      rintro r31 _ ⟨u13, u14, u15, u16, u17, u18, u19, u20, u21, u22, u23, u24, u25, u26, u27, u28, u29, u30, rfl, h⟩
      refine ⟨Nat.le_of_ble_eq_true rfl, G.upd [] (Wd_L_adds cI cS cT ad b0 u13 btk_11 nli u14 u15 u16 u17 u18 npct nptk nple nco u19 u20 u21 u22 u23 u24 u25 u26 u27 u28 u29 u30) rfl rfl rfl rfl rfl ?_⟩
      refine g_iload 97 0 hC dL_adds_97 rfl ?_
      refine g_icmp_ne 99 116 hC dL_adds_99 (by decide) (fun hc => ?_) (fun hc => ?_)
      · replace h := h.1 hc
        refine g_iconst (v := (0 : Int32)) 116 hC dL_adds_116 (by decide) ?_
        exact g_zret 117 hC hR dL_adds_117 (by decide) ⟨u13, btk_11, u14, u15, u16, u17, u18, u19, u20, u21, u22, u23, u24, u25, u26, u27, u28, u29, u30, rfl, h⟩
      · replace h := h.2 hc
        refine g_aload_n 102 3 hC dL_adds_102 rfl ?_
        refine g_iload 103 0 hC dL_adds_103 rfl ?_
        refine g_cVi (As := [.int r12]) (rest := []) 105 0 [0, 3, 4, 6] hC (c_X8_lengthOf l D cI cS cT ad b0 r12 nli u14 u16 _ h) kX8_lengthOf wq_230 dL_adds_105 rfl rfl ⟨Nat.le_of_ble_eq_true rfl, Nat.le_of_ble_eq_true rfl⟩ rfl rfl (Nat.zero_le _) (Nat.zero_le _) rfl rfl rfl (Nat.le_of_ble_eq_true rfl) ?_
        rintro r32 _ ⟨rfl, h⟩
        refine ⟨Nat.le_of_ble_eq_true rfl, G.upd [1, 2, 5, 7, 8, 9, 10, 11, 12, 13, 14, 15, 16, 17, 18, 19, 20, 21, 22, 23, 24, 25, 26, 27, 28, 29, 30, 31, 32, 33, 34, 35, 36, 37, 38, 39, 40, 41, 42, 43, 44, 45, 46, 47, 48, 49, 50, 51, 52, 53, 54, 55, 56, 57, 58, 59, 60, 61, 62, 63, 64] (Wd_L_adds cI cS cT ad b0 u13 btk_11 nli u14 u15 u16 u17 u18 npct nptk nple nco u19 u20 u21 u22 u23 u24 u25 u26 u27 u28 u29 u30) rfl rfl rfl rfl rfl ?_⟩
        refine g_iload_n 108 2 hC dL_adds_108 rfl ?_
        refine g_icmp_ne 109 116 hC dL_adds_109 (by decide) (fun hc => ?_) (fun hc => ?_)
        · replace h := h.1 hc
          refine g_iconst (v := (0 : Int32)) 116 hC dL_adds_116 (by decide) ?_
          exact g_zret 117 hC hR dL_adds_117 (by decide) ⟨u13, btk_11, u14, u15, u16, u17, u18, u19, u20, u21, u22, u23, u24, u25, u26, u27, u28, u29, u30, rfl, h⟩
        · replace h := h.2 hc
          refine g_iconst (v := (1 : Int32)) 112 hC dL_adds_112 (by decide) ?_
          refine g_goto 113 117 hC dL_adds_113 (by decide) ?_
          exact g_zret 117 hC hR dL_adds_117 (by decide) ⟨u13, btk_11, u14, u15, u16, u17, u18, u19, u20, u21, u22, u23, u24, u25, u26, u27, u28, u29, u30, rfl, h⟩
  refine g_aload_n 6 1 hC dL_adds_6 rfl ?_
  refine g_cVi (As := []) (rest := []) 7 0 [0, 1] hC (c_X8_clear l D cI cS cT ad b0 bln _ h) kX8_clear wq_202 dL_adds_7 rfl rfl ⟨Nat.le_of_ble_eq_true rfl, Nat.le_of_ble_eq_true rfl⟩ rfl rfl (Nat.zero_le _) (Nat.zero_le _) rfl rfl rfl (Nat.le_of_ble_eq_true rfl) ?_
  rintro r34 _ ⟨u33, rfl, h⟩
  refine ⟨Nat.le_of_ble_eq_true rfl, G.upd [2, 3, 4, 5, 6, 7, 8, 9, 10, 11, 12, 13, 14, 15, 16, 17, 18, 19, 20, 21, 22, 23, 24, 25, 26, 27, 28, 29, 30, 31, 32, 33, 34, 35, 36, 37, 38, 39, 40, 41, 42, 43, 44, 45, 46, 47, 48, 49, 50, 51, 52, 53, 54, 55, 56, 57, 58, 59, 60, 61, 62, 63, 64] (Wd_L_adds cI cS cT ad b0 u33 btk nli nsct nstk nsle nye nre npct nptk nple nco hnx hcn hrli hrsct hrstk hrsle hrye hrre hrpct hrptk hrple hrco) rfl rfl rfl rfl rfl ?_⟩
  refine g_if_lt 10 17 hC dL_adds_10 (by decide) (fun hc => ?_) (fun hc => ?_)
  · replace h := h.1 hc
    refine g_iconst (v := (0 : Int32)) 17 hC dL_adds_17 (by decide) ?_
    refine G.sub [0, 1, 2, 3] rfl ?_
    exact LJ3 _ _ h
  · replace h := h.2 hc
    refine g_iconst (v := (1 : Int32)) 13 hC dL_adds_13 (by decide) ?_
    refine g_goto 14 18 hC dL_adds_14 (by decide) ?_
    refine G.sub [0, 1, 2, 3] rfl ?_
    exact LJ3 _ _ h

/-! ===== ProverbCollectionLaw.isEdited(LProverbCollection;[III)Z ===== -/
def Wd_L_isEdited (cI cS cT : ClassId) (ad : Nat → Nat) (b0 : Nat) (b1 : Nat) (fN : Nat) (nli : Int32) (nsct : Int32) (nstk : Nat → Int32) (nsle : Nat → Int32) (nco : Nat → Int32) (eld : Int32) (efln : Int32) (eftk : Nat → Int32) (egln : Int32) (egtk : Nat → Int32) (etb : Nat → Nat → Int32) (els : Nat → Int32) (fa : Nat → Int32) : va_W := [(ad b0, .inr (8, [.ref (ad (b0 + 1)), .ref (ad (b0 + 3)), .ref (ad (b0 + 13)), .ref (ad (b0 + 65)), .ref (ad (b0 + 81)), .ref (ad (b0 + 88)), .ref (ad (b0 + 92)), .ref (ad (b0 + 99))])), (ad (b0 + 3), .inr (7, [.ref (ad (b0 + 4)), .ref (ad (b0 + 7)), .ref (ad (b0 + 8)), .ref (ad (b0 + 9)), .ref (ad (b0 + 12)), .int nli])), (ad (b0 + 4), .inr (6, [.int 12, .ref (ad (b0 + 5)), .ref (ad (b0 + 6)), .int nsct])), (ad (b0 + 5), .inl (cI, 96, .inl nstk)), (ad (b0 + 6), .inl (cI, 12, .inl nsle)), (ad (b0 + 12), .inl (cI, 4, .inl nco)), (ad (b0 + 65), .inr (1, [.ref (ad (b0 + 66)), .ref (ad (b0 + 68)), .ref (ad (b0 + 70)), .ref (ad (b0 + 80)), .int eld])), (ad (b0 + 66), .inr (5, [.ref (ad (b0 + 67)), .int efln])), (ad (b0 + 67), .inl (cI, 8, .inl eftk)), (ad (b0 + 68), .inr (5, [.ref (ad (b0 + 69)), .int egln])), (ad (b0 + 69), .inl (cI, 8, .inl egtk)), (ad (b0 + 70), .inl (cT, 9, .inr (.inr (.inr (.inr (fun i => if i < 9 then some (ad (b0 + 71 + i)) else none)))))), (ad (b0 + 71 + 0), .inl (cI, 9, .inl (etb 0))), (ad (b0 + 71 + 1), .inl (cI, 9, .inl (etb 1))), (ad (b0 + 71 + 2), .inl (cI, 9, .inl (etb 2))), (ad (b0 + 71 + 3), .inl (cI, 9, .inl (etb 3))), (ad (b0 + 71 + 4), .inl (cI, 9, .inl (etb 4))), (ad (b0 + 71 + 5), .inl (cI, 9, .inl (etb 5))), (ad (b0 + 71 + 6), .inl (cI, 9, .inl (etb 6))), (ad (b0 + 71 + 7), .inl (cI, 9, .inl (etb 7))), (ad (b0 + 71 + 8), .inl (cI, 9, .inl (etb 8))), (ad (b0 + 80), .inl (cI, 16, .inl els)), (ad b1, .inl (cI, fN, .inl fa))]
def rm_L_isEdited : Room := { frames := 6, cells := 0, slots := 0, locals := 145 }
theorem kL_isEdited : KS yL_isEdited cL_isEdited 14 (some .boolean) 4 := ⟨wq_279, wq_195, wq_278, by decide +kernel⟩
def B_L_isEdited_113 (v11 : Int32) (v2 : Int32) (v3 : Int32) (nli : Int32) (nsct : Int32) (nstk : Nat → Int32) (nsle : Nat → Int32) (K : Int32 → Int32 → Int32 → Prop) (rc : Int32 → Int32 → Int32 → Prop) (v8 : Int32) (v6 : Int32) (v5 : Int32) : Prop :=
  (v8 = 0 → K v8 v6 v5) ∧ (¬ v8 = 0 → ((v11 ≤ v5 → K v8 v6 v5) ∧ (¬ v11 ≤ v5 → (∃ J23 : Int32 → Prop, (∀ (j0_23 : Int32), J23 j0_23 → (rc j0_23 (v6 + (1 : Int32)) (v5 + (1 : Int32)))) ∧ (P_X8_wordAt v2 v5 nli nsct nstk nsle (fun r24 => P_X8_wordAt v3 v6 nli nsct nstk nsle (fun r25 => (¬ r24 = r25 → J23 (0 : Int32)) ∧ (r24 = r25 → J23 (1 : Int32)))))))))
def P_L_isEdited_113 (v11 : Int32) (v2 : Int32) (v3 : Int32) (nli : Int32) (nsct : Int32) (nstk : Nat → Int32) (nsle : Nat → Int32) (K : Int32 → Int32 → Int32 → Prop) : Nat → Int32 → Int32 → Int32 → Prop
  | 0 => fun _ _ _ => False
  | n + 1 => fun v8 v6 v5 => B_L_isEdited_113 v11 v2 v3 nli nsct nstk nsle K (P_L_isEdited_113 v11 v2 v3 nli nsct nstk nsle K n) v8 v6 v5
def B_L_isEdited_23 (fN : Nat) (v4 : Int32) (v2 : Int32) (v3 : Int32) (nli : Int32) (nsct : Int32) (nstk : Nat → Int32) (nsle : Nat → Int32) (nco : Nat → Int32) (fa : Nat → Int32) (K : Int32 → Int32 → Int32 → Int32 → Int32 → Int32 → Int32 → (Nat → Int32) → Int32 → (Nat → Int32) → (Nat → Nat → Int32) → (Nat → Int32) → Prop) (rc : Int32 → Int32 → Int32 → Int32 → Int32 → Int32 → Int32 → (Nat → Int32) → Int32 → (Nat → Int32) → (Nat → Nat → Int32) → (Nat → Int32) → Prop) (v9 : Int32) (v8 : Int32) (v7 : Int32) (v6 : Int32) (v5 : Int32) (eld : Int32) (efln : Int32) (eftk : Nat → Int32) (egln : Int32) (egtk : Nat → Int32) (etb : Nat → Nat → Int32) (els : Nat → Int32) : Prop :=
  (v4 < v9 → K v9 v8 v7 v6 v5 eld efln eftk egln egtk etb els) ∧ (¬ v4 < v9 → ((v8 = 0 → K v9 v8 v7 v6 v5 eld efln eftk egln egtk etb els) ∧ (¬ v8 = 0 → (∃ J19 : Int32 → Int32 → Int32 → (Nat → Int32) → Int32 → (Nat → Int32) → (Nat → Nat → Int32) → (Nat → Int32) → Prop, (∀ (j0_19 : Int32) (eld_19 : Int32) (efln_19 : Int32) (eftk_19 : Nat → Int32) (egln_19 : Int32) (egtk_19 : Nat → Int32) (etb_19 : Nat → Nat → Int32) (els_19 : Nat → Int32), J19 j0_19 eld_19 efln_19 eftk_19 egln_19 egtk_19 etb_19 els_19 → (∃ J20 : Int32 → Prop, (∀ (j0_20 : Int32), J20 j0_20 → (∃ n : Nat, P_L_isEdited_113 ((j0_19 / (10 : Int32)) - (j0_19 / (10 : Int32)) / (10 : Int32) * (10 : Int32)) v2 v3 nli nsct nstk nsle (fun w8_26 w6_26 w5_26 => ∃ J36 : Int32 → Int32 → Prop, (∀ (v8_36 : Int32) (v7_36 : Int32), J36 v8_36 v7_36 → (∃ J37 : Int32 → Prop, (∀ (j0_37 : Int32), J37 j0_37 → (∃ J38 : Int32 → Prop, (∀ (j0_38 : Int32), J38 j0_38 → (rc (v9 + (1 : Int32)) v8_36 v7_36 (w6_26 + j0_38) (w5_26 + j0_37) eld_19 efln_19 eftk_19 egln_19 egtk_19 etb_19 els_19)) ∧ (((j0_19 / (100 : Int32)) = 0 → J38 (0 : Int32)) ∧ (¬ (j0_19 / (100 : Int32)) = 0 → ((¬ (j0_19 / (100 : Int32)) = (2 : Int32) → ((¬ (j0_19 / (100 : Int32)) = (4 : Int32) → J38 (1 : Int32)) ∧ ((j0_19 / (100 : Int32)) = (4 : Int32) → J38 (2 : Int32)))) ∧ ((j0_19 / (100 : Int32)) = (2 : Int32) → J38 (0 : Int32))))))) ∧ (((j0_19 / (100 : Int32)) = 0 → J37 (0 : Int32)) ∧ (¬ (j0_19 / (100 : Int32)) = 0 → ((¬ (j0_19 / (100 : Int32)) = (3 : Int32) → ((¬ (j0_19 / (100 : Int32)) = (4 : Int32) → J37 (1 : Int32)) ∧ ((j0_19 / (100 : Int32)) = (4 : Int32) → J37 (2 : Int32)))) ∧ ((j0_19 / (100 : Int32)) = (3 : Int32) → J37 (0 : Int32))))))) ∧ ((¬ (j0_19 / (100 : Int32)) = (1 : Int32) → ((¬ (j0_19 / (100 : Int32)) = (4 : Int32) → (((j0_19 / (100 : Int32)) ≤ (1 : Int32) → J36 w8_26 v7) ∧ (¬ (j0_19 / (100 : Int32)) ≤ (1 : Int32) → (vp_in (0 : Int32) fN ∧ (J36 w8_26 (v7 + (fa (Int32.toNatClampNeg (0 : Int32))))))))) ∧ ((j0_19 / (100 : Int32)) = (4 : Int32) → (vp_in (3 : Int32) fN ∧ ((w8_26 = 0 → J36 (0 : Int32) (v7 + (fa (Int32.toNatClampNeg (3 : Int32))))) ∧ (¬ w8_26 = 0 → (P_X8_wordAt v2 w5_26 nli nsct nstk nsle (fun r39 => P_X8_wordAt v3 (w6_26 + (1 : Int32)) nli nsct nstk nsle (fun r40 => (¬ r39 = r40 → J36 (0 : Int32) (v7 + (fa (Int32.toNatClampNeg (3 : Int32))))) ∧ (r39 = r40 → (P_X8_wordAt v2 (w5_26 + (1 : Int32)) nli nsct nstk nsle (fun r41 => P_X8_wordAt v3 w6_26 nli nsct nstk nsle (fun r42 => (¬ r41 = r42 → J36 (0 : Int32) (v7 + (fa (Int32.toNatClampNeg (3 : Int32))))) ∧ (r41 = r42 → J36 (1 : Int32) (v7 + (fa (Int32.toNatClampNeg (3 : Int32)))))))))))))))))) ∧ ((j0_19 / (100 : Int32)) = (1 : Int32) → (P_X8_wordAt v2 w5_26 nli nsct nstk nsle (fun r43 => P_X8_wordAt v3 w6_26 nli nsct nstk nsle (fun r44 => P_L_exchange fN r43 r44 fa (fun r45 => (w8_26 = 0 → J36 (0 : Int32) (v7 + r45)) ∧ (¬ w8_26 = 0 → (P_X8_wordAt v2 w5_26 nli nsct nstk nsle (fun r46 => P_X8_wordAt v3 w6_26 nli nsct nstk nsle (fun r47 => (r46 = r47 → J36 (0 : Int32) (v7 + r45)) ∧ (¬ r46 = r47 → J36 (1 : Int32) (v7 + r45))))))))))))) n j0_20 v6 v5)) ∧ ((¬ (((j0_19 / (10 : Int32)) - (j0_19 / (10 : Int32)) / (10 : Int32) * (10 : Int32)) - v5) = ((j0_19 - j0_19 / (10 : Int32) * (10 : Int32)) - v6) → J20 (0 : Int32)) ∧ ((((j0_19 / (10 : Int32)) - (j0_19 / (10 : Int32)) / (10 : Int32) * (10 : Int32)) - v5) = ((j0_19 - j0_19 / (10 : Int32) * (10 : Int32)) - v6) → ((((j0_19 / (10 : Int32)) - (j0_19 / (10 : Int32)) / (10 : Int32) * (10 : Int32)) < v5 → J20 (0 : Int32)) ∧ (¬ ((j0_19 / (10 : Int32)) - (j0_19 / (10 : Int32)) / (10 : Int32) * (10 : Int32)) < v5 → J20 (1 : Int32))))))) ∧ ((v4 ≤ v9 → P_X8_lengthOf v2 nli nsct nsle (fun r48 => P_X8_lengthOf v3 nli nsct nsle (fun r49 => J19 (((10 : Int32) * r48) + r49) eld efln eftk egln egtk etb els))) ∧ (¬ v4 ≤ v9 → P_X8_editAt v2 v3 v9 nli nsct nstk nsle nco eld efln eftk egln egtk etb els (fun r57 u50 u51 u52 u53 u54 u55 u56 => J19 r57 u50 u51 u52 u53 u54 u55 u56)))))))
def P_L_isEdited_23 (fN : Nat) (v4 : Int32) (v2 : Int32) (v3 : Int32) (nli : Int32) (nsct : Int32) (nstk : Nat → Int32) (nsle : Nat → Int32) (nco : Nat → Int32) (fa : Nat → Int32) (K : Int32 → Int32 → Int32 → Int32 → Int32 → Int32 → Int32 → (Nat → Int32) → Int32 → (Nat → Int32) → (Nat → Nat → Int32) → (Nat → Int32) → Prop) : Nat → Int32 → Int32 → Int32 → Int32 → Int32 → Int32 → Int32 → (Nat → Int32) → Int32 → (Nat → Int32) → (Nat → Nat → Int32) → (Nat → Int32) → Prop
  | 0 => fun _ _ _ _ _ _ _ _ _ _ _ _ => False
  | n + 1 => fun v9 v8 v7 v6 v5 eld efln eftk egln egtk etb els => B_L_isEdited_23 fN v4 v2 v3 nli nsct nstk nsle nco fa K (P_L_isEdited_23 fN v4 v2 v3 nli nsct nstk nsle nco fa K n) v9 v8 v7 v6 v5 eld efln eftk egln egtk etb els
def P_L_isEdited (fN : Nat) (x2 : Int32) (x3 : Int32) (nli : Int32) (nsct : Int32) (nstk : Nat → Int32) (nsle : Nat → Int32) (nco : Nat → Int32) (eld : Int32) (efln : Int32) (eftk : Nat → Int32) (egln : Int32) (egtk : Nat → Int32) (etb : Nat → Nat → Int32) (els : Nat → Int32) (fa : Nat → Int32) (post : Int32 → Int32 → Int32 → (Nat → Int32) → Int32 → (Nat → Int32) → (Nat → Nat → Int32) → (Nat → Int32) → Prop) : Prop :=
  P_X8_editCount x2 x3 nli nsct nstk nsle nco eld efln eftk egln egtk etb els (fun r8 u1 u2 u3 u4 u5 u6 u7 => ∃ n : Nat, P_L_isEdited_23 fN r8 x2 x3 nli nsct nstk nsle nco fa (fun w9_58 w8_58 w7_58 w6_58 w5_58 eld_58 efln_58 eftk_58 egln_58 egtk_58 etb_58 els_58 => (w8_58 = 0 → post (0 : Int32) eld_58 efln_58 eftk_58 egln_58 egtk_58 etb_58 els_58) ∧ (¬ w8_58 = 0 → (P_X8_lengthOf x2 nli nsct nsle (fun r59 => (¬ w5_58 = r59 → post (0 : Int32) eld_58 efln_58 eftk_58 egln_58 egtk_58 etb_58 els_58) ∧ (w5_58 = r59 → (P_X8_lengthOf x3 nli nsct nsle (fun r60 => (¬ w6_58 = r60 → post (0 : Int32) eld_58 efln_58 eftk_58 egln_58 egtk_58 etb_58 els_58) ∧ (w6_58 = r60 → (P_X8_distance x2 x3 nli nsct nstk nsle nco eld_58 efln_58 eftk_58 egln_58 egtk_58 etb_58 (fun r66 u61 u62 u63 u64 u65 => (¬ w7_58 = r66 → post (0 : Int32) eld_58 u61 u62 u63 u64 u65 els_58) ∧ (w7_58 = r66 → (P_X8_editAt x2 x3 r8 nli nsct nstk nsle nco eld_58 u61 u62 u63 u64 u65 els_58 (fun r74 u67 u68 u69 u70 u71 u72 u73 => (¬ r74 = (-4 : Int32) → post (0 : Int32) u67 u68 u69 u70 u71 u72 u73) ∧ (r74 = (-4 : Int32) → post (1 : Int32) u67 u68 u69 u70 u71 u72 u73)))))))))))))) n (0 : Int32) (1 : Int32) (0 : Int32) (0 : Int32) (0 : Int32) u1 u2 u3 u4 u5 u6 u7)
set_option maxHeartbeats 4000000 in
set_option maxRecDepth 100000 in
theorem L_L_isEdited_113 {l : Launch} {D : va_G} {cI cS cT : ClassId} {ad : Nat → Nat} {b0 : Nat} {b1 : Nat} {E : CE} {fN : Nat} {v12 : Int32} {v11 : Int32} {v10 : Int32} {v9 : Int32} {v7 : Int32} {v4 : Int32} {v2 : Int32} {v3 : Int32} {nli : Int32} {nsct : Int32} {nstk : Nat → Int32} {nsle : Nat → Int32} {nco : Nat → Int32} {eld : Int32} {efln : Int32} {eftk : Nat → Int32} {egln : Int32} {egtk : Nat → Int32} {etb : Nat → Nat → Int32} {els : Nat → Int32} {fa : Nat → Int32} {post : Int32 → Int32 → Int32 → (Nat → Int32) → Int32 → (Nat → Int32) → (Nat → Nat → Int32) → (Nat → Int32) → Prop} (hC : Cx l D (TY cI cS cT) E rm_L_isEdited cL_isEdited RL) (hR : RetI D E (fun (r : Int32) w => ∃ (u_eld : Int32) (u_efln : Int32) (u_eftk : Nat → Int32) (u_egln : Int32) (u_egtk : Nat → Int32) (u_etb : Nat → Nat → Int32) (u_els : Nat → Int32), w = (Wd_L_isEdited cI cS cT ad b0 b1 fN nli nsct nstk nsle nco u_eld u_efln u_eftk u_egln u_egtk u_etb u_els fa) ∧ post r u_eld u_efln u_eftk u_egln u_egtk u_etb u_els) 0 0 (some .boolean)) (hn : E.nL = 14) (K : Int32 → Int32 → Int32 → Prop) (hK : ∀ (v8 : Int32) (v6 : Int32) (v5 : Int32), K v8 v6 v5 → G l D E 0 0 (Wd_L_isEdited cI cS cT ad b0 b1 fN nli nsct nstk nsle nco eld efln eftk egln egtk etb els fa) [(8, .int v8), (12, .int v12), (11, .int v11), (10, .int v10), (9, .int v9), (7, .int v7), (6, .int v6), (5, .int v5), (4, .int v4), (0, .ref (ad b0)), (1, .ref (ad b1)), (2, .int v2), (3, .int v3)] 158 []) : ∀ (n : Nat) (v8 : Int32) (v6 : Int32) (v5 : Int32), P_L_isEdited_113 v11 v2 v3 nli nsct nstk nsle K n v8 v6 v5 → G l D E 0 0 (Wd_L_isEdited cI cS cT ad b0 b1 fN nli nsct nstk nsle nco eld efln eftk egln egtk etb els fa) [(8, .int v8), (12, .int v12), (11, .int v11), (10, .int v10), (9, .int v9), (7, .int v7), (6, .int v6), (5, .int v5), (4, .int v4), (0, .ref (ad b0)), (1, .ref (ad b1)), (2, .int v2), (3, .int v3)] 113 [] := by
  intro n
  induction n with
  | zero => exact fun _ _ _ h => h.elim
  | succ n ih =>
    intro v8 v6 v5 h
    replace h : B_L_isEdited_113 v11 v2 v3 nli nsct nstk nsle K (P_L_isEdited_113 v11 v2 v3 nli nsct nstk nsle K n) v8 v6 v5 := h
    unfold B_L_isEdited_113 at h
    refine g_iload 113 0 hC dL_isEdited_113 rfl ?_
    refine g_if_eq 115 158 hC dL_isEdited_115 (by decide) (fun hc => ?_) (fun hc => ?_)
    · replace h := h.1 hc
      refine G.sub [0, 1, 2, 3, 4, 5, 6, 7, 8, 9, 10, 11, 12] rfl ?_
      exact hK v8 v6 v5 h
    · replace h := h.2 hc
      refine g_iload 118 7 hC dL_isEdited_118 rfl ?_
      refine g_iload 120 2 hC dL_isEdited_120 rfl ?_
      refine g_icmp_ge 122 158 hC dL_isEdited_122 (by decide) (fun hc => ?_) (fun hc => ?_)
      · replace h := h.1 hc
        refine G.sub [0, 1, 2, 3, 4, 5, 6, 7, 8, 9, 10, 11, 12] rfl ?_
        exact hK v8 v6 v5 h
      · replace h := h.2 hc
        obtain ⟨J23, hJ23, h⟩ := h
        have LJ23 : ∀ (j0_23 : Int32), J23 j0_23 → G l D E 0 0 (Wd_L_isEdited cI cS cT ad b0 b1 fN nli nsct nstk nsle nco eld efln eftk egln egtk etb els fa) [(8, .int v8), (12, .int v12), (11, .int v11), (10, .int v10), (9, .int v9), (7, .int v7), (6, .int v6), (5, .int v5), (4, .int v4), (0, .ref (ad b0)), (1, .ref (ad b1)), (2, .int v2), (3, .int v3)] 147 [.int j0_23] := by
          intro j0_23 h
          replace h := hJ23 j0_23 h
          refine g_istore 147 [(8, .int j0_23), (12, .int v12), (11, .int v11), (10, .int v10), (9, .int v9), (7, .int v7), (6, .int v6), (5, .int v5), (4, .int v4), (0, .ref (ad b0)), (1, .ref (ad b1)), (2, .int v2), (3, .int v3)] hC dL_isEdited_147 (by rw [hn]; decide) rfl ?_
          refine g_iinc (v := (1 : Int32)) 149 7 [(5, .int (v5 + (1 : Int32))), (8, .int j0_23), (12, .int v12), (11, .int v11), (10, .int v10), (9, .int v9), (7, .int v7), (6, .int v6), (4, .int v4), (0, .ref (ad b0)), (1, .ref (ad b1)), (2, .int v2), (3, .int v3)] hC dL_isEdited_149 rfl (by decide) (by rw [hn]; decide) rfl ?_
          refine g_iinc (v := (1 : Int32)) 152 7 [(6, .int (v6 + (1 : Int32))), (5, .int (v5 + (1 : Int32))), (8, .int j0_23), (12, .int v12), (11, .int v11), (10, .int v10), (9, .int v9), (7, .int v7), (4, .int v4), (0, .ref (ad b0)), (1, .ref (ad b1)), (2, .int v2), (3, .int v3)] hC dL_isEdited_152 rfl (by decide) (by rw [hn]; decide) rfl ?_
          refine g_goto 155 113 hC dL_isEdited_155 (by decide) ?_
          refine G.sub [2, 3, 4, 5, 6, 7, 0, 1, 8, 9, 10, 11, 12] rfl ?_
          exact ih _ _ _ h
        refine g_aload_n 125 9 hC dL_isEdited_125 rfl ?_
        refine g_iload_n 126 11 hC dL_isEdited_126 rfl ?_
        refine g_iload 127 7 hC dL_isEdited_127 rfl ?_
        refine g_cVi (As := [.int v2, .int v5]) (rest := []) 129 0 [0, 1, 2, 3, 4] hC (c_X8_wordAt l D cI cS cT ad b0 v2 v5 nli nsct nstk nsle _ h) kX8_wordAt wq_287 dL_isEdited_129 rfl rfl ⟨Nat.le_of_ble_eq_true rfl, Nat.le_of_ble_eq_true rfl⟩ rfl rfl (Nat.zero_le _) (Nat.zero_le _) rfl rfl rfl (Nat.le_of_ble_eq_true rfl) ?_
        rintro r24 _ ⟨rfl, h⟩
        refine ⟨Nat.le_of_ble_eq_true rfl, G.upd [5, 6, 7, 8, 9, 10, 11, 12, 13, 14, 15, 16, 17, 18, 19, 20, 21, 22] (Wd_L_isEdited cI cS cT ad b0 b1 fN nli nsct nstk nsle nco eld efln eftk egln egtk etb els fa) rfl rfl rfl rfl rfl ?_⟩
        refine g_aload_n 132 9 hC dL_isEdited_132 rfl ?_
        refine g_iload_n 133 12 hC dL_isEdited_133 rfl ?_
        refine g_iload 134 6 hC dL_isEdited_134 rfl ?_
        refine g_cVi (As := [.int v3, .int v6]) (rest := [.int r24]) 136 0 [0, 1, 2, 3, 4] hC (c_X8_wordAt l D cI cS cT ad b0 v3 v6 nli nsct nstk nsle _ h) kX8_wordAt wq_287 dL_isEdited_136 rfl rfl ⟨Nat.le_of_ble_eq_true rfl, Nat.le_of_ble_eq_true rfl⟩ rfl rfl (Nat.zero_le _) (Nat.zero_le _) rfl rfl rfl (Nat.le_of_ble_eq_true rfl) ?_
        rintro r25 _ ⟨rfl, h⟩
        refine ⟨Nat.le_of_ble_eq_true rfl, G.upd [5, 6, 7, 8, 9, 10, 11, 12, 13, 14, 15, 16, 17, 18, 19, 20, 21, 22] (Wd_L_isEdited cI cS cT ad b0 b1 fN nli nsct nstk nsle nco eld efln eftk egln egtk etb els fa) rfl rfl rfl rfl rfl ?_⟩
        refine g_icmp_ne 139 146 hC dL_isEdited_139 (by decide) (fun hc => ?_) (fun hc => ?_)
        · replace h := h.1 hc
          refine g_iconst (v := (0 : Int32)) 146 hC dL_isEdited_146 (by decide) ?_
          refine G.sub [0, 1, 2, 3, 4, 5, 6, 7, 8, 9, 10, 11, 12] rfl ?_
          exact LJ23 _ h
        · replace h := h.2 hc
          refine g_iconst (v := (1 : Int32)) 142 hC dL_isEdited_142 (by decide) ?_
          refine g_goto 143 147 hC dL_isEdited_143 (by decide) ?_
          refine G.sub [0, 1, 2, 3, 4, 5, 6, 7, 8, 9, 10, 11, 12] rfl ?_
          exact LJ23 _ h
set_option maxHeartbeats 4000000 in
set_option maxRecDepth 100000 in
theorem L_L_isEdited_23 {l : Launch} {D : va_G} {cI cS cT : ClassId} {ad : Nat → Nat} {b0 : Nat} {b1 : Nat} {E : CE} {fN : Nat} {v4 : Int32} {v2 : Int32} {v3 : Int32} {nli : Int32} {nsct : Int32} {nstk : Nat → Int32} {nsle : Nat → Int32} {nco : Nat → Int32} {fa : Nat → Int32} {post : Int32 → Int32 → Int32 → (Nat → Int32) → Int32 → (Nat → Int32) → (Nat → Nat → Int32) → (Nat → Int32) → Prop} (hC : Cx l D (TY cI cS cT) E rm_L_isEdited cL_isEdited RL) (hR : RetI D E (fun (r : Int32) w => ∃ (u_eld : Int32) (u_efln : Int32) (u_eftk : Nat → Int32) (u_egln : Int32) (u_egtk : Nat → Int32) (u_etb : Nat → Nat → Int32) (u_els : Nat → Int32), w = (Wd_L_isEdited cI cS cT ad b0 b1 fN nli nsct nstk nsle nco u_eld u_efln u_eftk u_egln u_egtk u_etb u_els fa) ∧ post r u_eld u_efln u_eftk u_egln u_egtk u_etb u_els) 0 0 (some .boolean)) (hn : E.nL = 14) (K : Int32 → Int32 → Int32 → Int32 → Int32 → Int32 → Int32 → (Nat → Int32) → Int32 → (Nat → Int32) → (Nat → Nat → Int32) → (Nat → Int32) → Prop) (hK : ∀ (v9 : Int32) (v8 : Int32) (v7 : Int32) (v6 : Int32) (v5 : Int32) (eld : Int32) (efln : Int32) (eftk : Nat → Int32) (egln : Int32) (egtk : Nat → Int32) (etb : Nat → Nat → Int32) (els : Nat → Int32), K v9 v8 v7 v6 v5 eld efln eftk egln egtk etb els → G l D E 0 0 (Wd_L_isEdited cI cS cT ad b0 b1 fN nli nsct nstk nsle nco eld efln eftk egln egtk etb els fa) [(9, .int v9), (8, .int v8), (7, .int v7), (6, .int v6), (5, .int v5), (4, .int v4), (0, .ref (ad b0)), (1, .ref (ad b1)), (2, .int v2), (3, .int v3)] 375 []) : ∀ (n : Nat) (v9 : Int32) (v8 : Int32) (v7 : Int32) (v6 : Int32) (v5 : Int32) (eld : Int32) (efln : Int32) (eftk : Nat → Int32) (egln : Int32) (egtk : Nat → Int32) (etb : Nat → Nat → Int32) (els : Nat → Int32), P_L_isEdited_23 fN v4 v2 v3 nli nsct nstk nsle nco fa K n v9 v8 v7 v6 v5 eld efln eftk egln egtk etb els → G l D E 0 0 (Wd_L_isEdited cI cS cT ad b0 b1 fN nli nsct nstk nsle nco eld efln eftk egln egtk etb els fa) [(9, .int v9), (8, .int v8), (7, .int v7), (6, .int v6), (5, .int v5), (4, .int v4), (0, .ref (ad b0)), (1, .ref (ad b1)), (2, .int v2), (3, .int v3)] 23 [] := by
  intro n
  induction n with
  | zero => exact fun _ _ _ _ _ _ _ _ _ _ _ _ h => h.elim
  | succ n ih =>
    intro v9 v8 v7 v6 v5 eld efln eftk egln egtk etb els h
    replace h : B_L_isEdited_23 fN v4 v2 v3 nli nsct nstk nsle nco fa K (P_L_isEdited_23 fN v4 v2 v3 nli nsct nstk nsle nco fa K n) v9 v8 v7 v6 v5 eld efln eftk egln egtk etb els := h
    unfold B_L_isEdited_23 at h
    refine g_iload 23 0 hC dL_isEdited_23 rfl ?_
    refine g_iload 25 5 hC dL_isEdited_25 rfl ?_
    refine g_icmp_gt 27 375 hC dL_isEdited_27 (by decide) (fun hc => ?_) (fun hc => ?_)
    · replace h := h.1 hc
      refine G.sub [0, 1, 2, 3, 4, 5, 6, 7, 8, 9] rfl ?_
      exact hK v9 v8 v7 v6 v5 eld efln eftk egln egtk etb els h
    · replace h := h.2 hc
      refine g_iload 30 1 hC dL_isEdited_30 rfl ?_
      refine g_if_eq 32 375 hC dL_isEdited_32 (by decide) (fun hc => ?_) (fun hc => ?_)
      · replace h := h.1 hc
        refine G.sub [0, 1, 2, 3, 4, 5, 6, 7, 8, 9] rfl ?_
        exact hK v9 v8 v7 v6 v5 eld efln eftk egln egtk etb els h
      · replace h := h.2 hc
        obtain ⟨J19, hJ19, h⟩ := h
        have LJ19 : ∀ (j0_19 : Int32) (eld_19 : Int32) (efln_19 : Int32) (eftk_19 : Nat → Int32) (egln_19 : Int32) (egtk_19 : Nat → Int32) (etb_19 : Nat → Nat → Int32) (els_19 : Nat → Int32), J19 j0_19 eld_19 efln_19 eftk_19 egln_19 egtk_19 etb_19 els_19 → G l D E 0 0 (Wd_L_isEdited cI cS cT ad b0 b1 fN nli nsct nstk nsle nco eld_19 efln_19 eftk_19 egln_19 egtk_19 etb_19 els_19 fa) [(9, .int v9), (8, .int v8), (7, .int v7), (6, .int v6), (5, .int v5), (4, .int v4), (0, .ref (ad b0)), (1, .ref (ad b1)), (2, .int v2), (3, .int v3)] 67 [.int j0_19] := by
          intro j0_19 eld_19 efln_19 eftk_19 egln_19 egtk_19 etb_19 els_19 h
          replace h := hJ19 j0_19 eld_19 efln_19 eftk_19 egln_19 egtk_19 etb_19 els_19 h
          refine g_istore 67 [(10, .int j0_19), (9, .int v9), (8, .int v8), (7, .int v7), (6, .int v6), (5, .int v5), (4, .int v4), (0, .ref (ad b0)), (1, .ref (ad b1)), (2, .int v2), (3, .int v3)] hC dL_isEdited_67 (by rw [hn]; decide) rfl ?_
          refine g_iload 69 0 hC dL_isEdited_69 rfl ?_
          refine g_bipush (v := (10 : Int32)) 71 hC dL_isEdited_71 (by decide) ?_
          refine g_idiv 73 hC dL_isEdited_73 (by decide) ?_
          refine g_bipush (v := (10 : Int32)) 74 hC dL_isEdited_74 (by decide) ?_
          refine g_irem 76 hC dL_isEdited_76 (by decide) ?_
          refine g_istore 77 [(11, .int ((j0_19 / (10 : Int32)) - (j0_19 / (10 : Int32)) / (10 : Int32) * (10 : Int32))), (10, .int j0_19), (9, .int v9), (8, .int v8), (7, .int v7), (6, .int v6), (5, .int v5), (4, .int v4), (0, .ref (ad b0)), (1, .ref (ad b1)), (2, .int v2), (3, .int v3)] hC dL_isEdited_77 (by rw [hn]; decide) rfl ?_
          refine g_iload 79 1 hC dL_isEdited_79 rfl ?_
          refine g_bipush (v := (10 : Int32)) 81 hC dL_isEdited_81 (by decide) ?_
          refine g_irem 83 hC dL_isEdited_83 (by decide) ?_
          refine g_istore 84 [(12, .int (j0_19 - j0_19 / (10 : Int32) * (10 : Int32))), (11, .int ((j0_19 / (10 : Int32)) - (j0_19 / (10 : Int32)) / (10 : Int32) * (10 : Int32))), (10, .int j0_19), (9, .int v9), (8, .int v8), (7, .int v7), (6, .int v6), (5, .int v5), (4, .int v4), (0, .ref (ad b0)), (1, .ref (ad b1)), (2, .int v2), (3, .int v3)] hC dL_isEdited_84 (by rw [hn]; decide) rfl ?_
          obtain ⟨J20, hJ20, h⟩ := h
          have LJ20 : ∀ (j0_20 : Int32), J20 j0_20 → G l D E 0 0 (Wd_L_isEdited cI cS cT ad b0 b1 fN nli nsct nstk nsle nco eld_19 efln_19 eftk_19 egln_19 egtk_19 etb_19 els_19 fa) [(12, .int (j0_19 - j0_19 / (10 : Int32) * (10 : Int32))), (11, .int ((j0_19 / (10 : Int32)) - (j0_19 / (10 : Int32)) / (10 : Int32) * (10 : Int32))), (10, .int j0_19), (9, .int v9), (8, .int v8), (7, .int v7), (6, .int v6), (5, .int v5), (4, .int v4), (0, .ref (ad b0)), (1, .ref (ad b1)), (2, .int v2), (3, .int v3)] 111 [.int j0_20] := by
            intro j0_20 h
            replace h := hJ20 j0_20 h
            refine g_istore 111 [(8, .int j0_20), (12, .int (j0_19 - j0_19 / (10 : Int32) * (10 : Int32))), (11, .int ((j0_19 / (10 : Int32)) - (j0_19 / (10 : Int32)) / (10 : Int32) * (10 : Int32))), (10, .int j0_19), (9, .int v9), (7, .int v7), (6, .int v6), (5, .int v5), (4, .int v4), (0, .ref (ad b0)), (1, .ref (ad b1)), (2, .int v2), (3, .int v3)] hC dL_isEdited_111 (by rw [hn]; decide) rfl ?_
            obtain ⟨n, h⟩ := h
            refine L_L_isEdited_113 hC hR hn _ (fun w8_26 w6_26 w5_26 h => ?_) n _ _ _ h
            refine g_iload 158 3 hC dL_isEdited_158 rfl ?_
            refine g_bipush (v := (100 : Int32)) 160 hC dL_isEdited_160 (by decide) ?_
            refine g_idiv 162 hC dL_isEdited_162 (by decide) ?_
            refine g_istore 163 [(13, .int (j0_19 / (100 : Int32))), (8, .int w8_26), (12, .int (j0_19 - j0_19 / (10 : Int32) * (10 : Int32))), (11, .int ((j0_19 / (10 : Int32)) - (j0_19 / (10 : Int32)) / (10 : Int32) * (10 : Int32))), (10, .int j0_19), (9, .int v9), (7, .int v7), (6, .int w6_26), (5, .int w5_26), (4, .int v4), (0, .ref (ad b0)), (1, .ref (ad b1)), (2, .int v2), (3, .int v3)] hC dL_isEdited_163 (by rw [hn]; decide) rfl ?_
            obtain ⟨J36, hJ36, h⟩ := h
            have LJ36 : ∀ (v8_36 : Int32) (v7_36 : Int32), J36 v8_36 v7_36 → G l D E 0 0 (Wd_L_isEdited cI cS cT ad b0 b1 fN nli nsct nstk nsle nco eld_19 efln_19 eftk_19 egln_19 egtk_19 etb_19 els_19 fa) [(13, .int (j0_19 / (100 : Int32))), (8, .int v8_36), (12, .int (j0_19 - j0_19 / (10 : Int32) * (10 : Int32))), (11, .int ((j0_19 / (10 : Int32)) - (j0_19 / (10 : Int32)) / (10 : Int32) * (10 : Int32))), (10, .int j0_19), (9, .int v9), (7, .int v7_36), (6, .int w6_26), (5, .int w5_26), (4, .int v4), (0, .ref (ad b0)), (1, .ref (ad b1)), (2, .int v2), (3, .int v3)] 307 [] := by
              intro v8_36 v7_36 h
              replace h := hJ36 v8_36 v7_36 h
              refine g_iload 307 8 hC dL_isEdited_307 rfl ?_
              obtain ⟨J37, hJ37, h⟩ := h
              have LJ37 : ∀ (j0_37 : Int32), J37 j0_37 → G l D E 0 0 (Wd_L_isEdited cI cS cT ad b0 b1 fN nli nsct nstk nsle nco eld_19 efln_19 eftk_19 egln_19 egtk_19 etb_19 els_19 fa) [(13, .int (j0_19 / (100 : Int32))), (8, .int v8_36), (12, .int (j0_19 - j0_19 / (10 : Int32) * (10 : Int32))), (11, .int ((j0_19 / (10 : Int32)) - (j0_19 / (10 : Int32)) / (10 : Int32) * (10 : Int32))), (10, .int j0_19), (9, .int v9), (7, .int v7_36), (6, .int w6_26), (5, .int w5_26), (4, .int v4), (0, .ref (ad b0)), (1, .ref (ad b1)), (2, .int v2), (3, .int v3)] 335 [.int j0_37, .int w5_26] := by
                intro j0_37 h
                replace h := hJ37 j0_37 h
                refine g_iadd 335 hC dL_isEdited_335 ?_
                refine g_istore 336 [(5, .int (w5_26 + j0_37)), (13, .int (j0_19 / (100 : Int32))), (8, .int v8_36), (12, .int (j0_19 - j0_19 / (10 : Int32) * (10 : Int32))), (11, .int ((j0_19 / (10 : Int32)) - (j0_19 / (10 : Int32)) / (10 : Int32) * (10 : Int32))), (10, .int j0_19), (9, .int v9), (7, .int v7_36), (6, .int w6_26), (4, .int v4), (0, .ref (ad b0)), (1, .ref (ad b1)), (2, .int v2), (3, .int v3)] hC dL_isEdited_336 (by rw [hn]; decide) rfl ?_
                refine g_iload 338 8 hC dL_isEdited_338 rfl ?_
                obtain ⟨J38, hJ38, h⟩ := h
                have LJ38 : ∀ (j0_38 : Int32), J38 j0_38 → G l D E 0 0 (Wd_L_isEdited cI cS cT ad b0 b1 fN nli nsct nstk nsle nco eld_19 efln_19 eftk_19 egln_19 egtk_19 etb_19 els_19 fa) [(5, .int (w5_26 + j0_37)), (13, .int (j0_19 / (100 : Int32))), (8, .int v8_36), (12, .int (j0_19 - j0_19 / (10 : Int32) * (10 : Int32))), (11, .int ((j0_19 / (10 : Int32)) - (j0_19 / (10 : Int32)) / (10 : Int32) * (10 : Int32))), (10, .int j0_19), (9, .int v9), (7, .int v7_36), (6, .int w6_26), (4, .int v4), (0, .ref (ad b0)), (1, .ref (ad b1)), (2, .int v2), (3, .int v3)] 366 [.int j0_38, .int w6_26] := by
                  intro j0_38 h
                  replace h := hJ38 j0_38 h
                  refine g_iadd 366 hC dL_isEdited_366 ?_
                  refine g_istore 367 [(6, .int (w6_26 + j0_38)), (5, .int (w5_26 + j0_37)), (13, .int (j0_19 / (100 : Int32))), (8, .int v8_36), (12, .int (j0_19 - j0_19 / (10 : Int32) * (10 : Int32))), (11, .int ((j0_19 / (10 : Int32)) - (j0_19 / (10 : Int32)) / (10 : Int32) * (10 : Int32))), (10, .int j0_19), (9, .int v9), (7, .int v7_36), (4, .int v4), (0, .ref (ad b0)), (1, .ref (ad b1)), (2, .int v2), (3, .int v3)] hC dL_isEdited_367 (by rw [hn]; decide) rfl ?_
                  refine g_iinc (v := (1 : Int32)) 369 7 [(9, .int (v9 + (1 : Int32))), (6, .int (w6_26 + j0_38)), (5, .int (w5_26 + j0_37)), (13, .int (j0_19 / (100 : Int32))), (8, .int v8_36), (12, .int (j0_19 - j0_19 / (10 : Int32) * (10 : Int32))), (11, .int ((j0_19 / (10 : Int32)) - (j0_19 / (10 : Int32)) / (10 : Int32) * (10 : Int32))), (10, .int j0_19), (7, .int v7_36), (4, .int v4), (0, .ref (ad b0)), (1, .ref (ad b1)), (2, .int v2), (3, .int v3)] hC dL_isEdited_369 rfl (by decide) (by rw [hn]; decide) rfl ?_
                  refine g_goto 372 23 hC dL_isEdited_372 (by decide) ?_
                  refine G.sub [0, 4, 8, 1, 2, 9, 10, 11, 12, 13] rfl ?_
                  exact ih _ _ _ _ _ _ _ _ _ _ _ _ h
                refine g_iload 340 1 hC dL_isEdited_340 rfl ?_
                refine g_if_eq 342 351 hC dL_isEdited_342 (by decide) (fun hc => ?_) (fun hc => ?_)
                · replace h := h.1 hc
                  refine g_iconst (v := (0 : Int32)) 351 hC dL_isEdited_351 (by decide) ?_
                  refine g_goto 352 366 hC dL_isEdited_352 (by decide) ?_
                  refine G.sub [0, 1, 2, 3, 4, 5, 6, 7, 8, 9, 10, 11, 12, 13] rfl ?_
                  exact LJ38 _ h
                · replace h := h.2 hc
                  refine g_iload 345 1 hC dL_isEdited_345 rfl ?_
                  refine g_iconst (v := (2 : Int32)) 347 hC dL_isEdited_347 (by decide) ?_
                  refine g_icmp_ne 348 355 hC dL_isEdited_348 (by decide) (fun hc => ?_) (fun hc => ?_)
                  · replace h := h.1 hc
                    refine g_iload 355 1 hC dL_isEdited_355 rfl ?_
                    refine g_iconst (v := (4 : Int32)) 357 hC dL_isEdited_357 (by decide) ?_
                    refine g_icmp_ne 358 365 hC dL_isEdited_358 (by decide) (fun hc => ?_) (fun hc => ?_)
                    · replace h := h.1 hc
                      refine g_iconst (v := (1 : Int32)) 365 hC dL_isEdited_365 (by decide) ?_
                      refine G.sub [0, 1, 2, 3, 4, 5, 6, 7, 8, 9, 10, 11, 12, 13] rfl ?_
                      exact LJ38 _ h
                    · replace h := h.2 hc
                      refine g_iconst (v := (2 : Int32)) 361 hC dL_isEdited_361 (by decide) ?_
                      refine g_goto 362 366 hC dL_isEdited_362 (by decide) ?_
                      refine G.sub [0, 1, 2, 3, 4, 5, 6, 7, 8, 9, 10, 11, 12, 13] rfl ?_
                      exact LJ38 _ h
                  · replace h := h.2 hc
                    refine g_iconst (v := (0 : Int32)) 351 hC dL_isEdited_351 (by decide) ?_
                    refine g_goto 352 366 hC dL_isEdited_352 (by decide) ?_
                    refine G.sub [0, 1, 2, 3, 4, 5, 6, 7, 8, 9, 10, 11, 12, 13] rfl ?_
                    exact LJ38 _ h
              refine g_iload 309 0 hC dL_isEdited_309 rfl ?_
              refine g_if_eq 311 320 hC dL_isEdited_311 (by decide) (fun hc => ?_) (fun hc => ?_)
              · replace h := h.1 hc
                refine g_iconst (v := (0 : Int32)) 320 hC dL_isEdited_320 (by decide) ?_
                refine g_goto 321 335 hC dL_isEdited_321 (by decide) ?_
                refine G.sub [0, 1, 2, 3, 4, 5, 6, 7, 8, 9, 10, 11, 12, 13] rfl ?_
                exact LJ37 _ h
              · replace h := h.2 hc
                refine g_iload 314 0 hC dL_isEdited_314 rfl ?_
                refine g_iconst (v := (3 : Int32)) 316 hC dL_isEdited_316 (by decide) ?_
                refine g_icmp_ne 317 324 hC dL_isEdited_317 (by decide) (fun hc => ?_) (fun hc => ?_)
                · replace h := h.1 hc
                  refine g_iload 324 0 hC dL_isEdited_324 rfl ?_
                  refine g_iconst (v := (4 : Int32)) 326 hC dL_isEdited_326 (by decide) ?_
                  refine g_icmp_ne 327 334 hC dL_isEdited_327 (by decide) (fun hc => ?_) (fun hc => ?_)
                  · replace h := h.1 hc
                    refine g_iconst (v := (1 : Int32)) 334 hC dL_isEdited_334 (by decide) ?_
                    refine G.sub [0, 1, 2, 3, 4, 5, 6, 7, 8, 9, 10, 11, 12, 13] rfl ?_
                    exact LJ37 _ h
                  · replace h := h.2 hc
                    refine g_iconst (v := (2 : Int32)) 330 hC dL_isEdited_330 (by decide) ?_
                    refine g_goto 331 335 hC dL_isEdited_331 (by decide) ?_
                    refine G.sub [0, 1, 2, 3, 4, 5, 6, 7, 8, 9, 10, 11, 12, 13] rfl ?_
                    exact LJ37 _ h
                · replace h := h.2 hc
                  refine g_iconst (v := (0 : Int32)) 320 hC dL_isEdited_320 (by decide) ?_
                  refine g_goto 321 335 hC dL_isEdited_321 (by decide) ?_
                  refine G.sub [0, 1, 2, 3, 4, 5, 6, 7, 8, 9, 10, 11, 12, 13] rfl ?_
                  exact LJ37 _ h
            refine g_iload 165 0 hC dL_isEdited_165 rfl ?_
            refine g_iconst (v := (1 : Int32)) 167 hC dL_isEdited_167 (by decide) ?_
            refine g_icmp_ne 168 226 hC dL_isEdited_168 (by decide) (fun hc => ?_) (fun hc => ?_)
            · replace h := h.1 hc
              refine g_iload 226 0 hC dL_isEdited_226 rfl ?_
              refine g_iconst (v := (4 : Int32)) 228 hC dL_isEdited_228 (by decide) ?_
              refine g_icmp_ne 229 293 hC dL_isEdited_229 (by decide) (fun hc => ?_) (fun hc => ?_)
              · replace h := h.1 hc
                refine g_iload 293 0 hC dL_isEdited_293 rfl ?_
                refine g_iconst (v := (1 : Int32)) 295 hC dL_isEdited_295 (by decide) ?_
                refine g_icmp_le 296 307 hC dL_isEdited_296 (by decide) (fun hc => ?_) (fun hc => ?_)
                · replace h := h.1 hc
                  refine G.sub [0, 1, 2, 3, 4, 5, 6, 7, 8, 9, 10, 11, 12, 13] rfl ?_
                  exact LJ36 _ _ h
                · replace h := h.2 hc
                  refine g_iload 299 6 hC dL_isEdited_299 rfl ?_
                  refine g_aload_n 301 11 hC dL_isEdited_301 rfl ?_
                  refine g_iconst (v := (0 : Int32)) 302 hC dL_isEdited_302 (by decide) ?_
                  obtain ⟨hj, h⟩ := h
                  refine g_iald 303 22 hC dL_isEdited_303 rfl rfl hj ?_
                  refine g_iadd 304 hC dL_isEdited_304 ?_
                  refine g_istore 305 [(7, .int (v7 + (fa (Int32.toNatClampNeg (0 : Int32))))), (13, .int (j0_19 / (100 : Int32))), (8, .int w8_26), (12, .int (j0_19 - j0_19 / (10 : Int32) * (10 : Int32))), (11, .int ((j0_19 / (10 : Int32)) - (j0_19 / (10 : Int32)) / (10 : Int32) * (10 : Int32))), (10, .int j0_19), (9, .int v9), (6, .int w6_26), (5, .int w5_26), (4, .int v4), (0, .ref (ad b0)), (1, .ref (ad b1)), (2, .int v2), (3, .int v3)] hC dL_isEdited_305 (by rw [hn]; decide) rfl ?_
                  refine G.sub [1, 2, 3, 4, 5, 6, 0, 7, 8, 9, 10, 11, 12, 13] rfl ?_
                  exact LJ36 _ _ h
              · replace h := h.2 hc
                refine g_iload 232 6 hC dL_isEdited_232 rfl ?_
                refine g_aload_n 234 11 hC dL_isEdited_234 rfl ?_
                refine g_iconst (v := (3 : Int32)) 235 hC dL_isEdited_235 (by decide) ?_
                obtain ⟨hj, h⟩ := h
                refine g_iald 236 22 hC dL_isEdited_236 rfl rfl hj ?_
                refine g_iadd 237 hC dL_isEdited_237 ?_
                refine g_istore 238 [(7, .int (v7 + (fa (Int32.toNatClampNeg (3 : Int32))))), (13, .int (j0_19 / (100 : Int32))), (8, .int w8_26), (12, .int (j0_19 - j0_19 / (10 : Int32) * (10 : Int32))), (11, .int ((j0_19 / (10 : Int32)) - (j0_19 / (10 : Int32)) / (10 : Int32) * (10 : Int32))), (10, .int j0_19), (9, .int v9), (6, .int w6_26), (5, .int w5_26), (4, .int v4), (0, .ref (ad b0)), (1, .ref (ad b1)), (2, .int v2), (3, .int v3)] hC dL_isEdited_238 (by rw [hn]; decide) rfl ?_
                refine g_iload 240 2 hC dL_isEdited_240 rfl ?_
                refine g_if_eq 242 287 hC dL_isEdited_242 (by decide) (fun hc => ?_) (fun hc => ?_)
                · replace h := h.1 hc
                  refine g_iconst (v := (0 : Int32)) 287 hC dL_isEdited_287 (by decide) ?_
                  refine g_istore 288 [(8, .int (0 : Int32)), (7, .int (v7 + (fa (Int32.toNatClampNeg (3 : Int32))))), (13, .int (j0_19 / (100 : Int32))), (12, .int (j0_19 - j0_19 / (10 : Int32) * (10 : Int32))), (11, .int ((j0_19 / (10 : Int32)) - (j0_19 / (10 : Int32)) / (10 : Int32) * (10 : Int32))), (10, .int j0_19), (9, .int v9), (6, .int w6_26), (5, .int w5_26), (4, .int v4), (0, .ref (ad b0)), (1, .ref (ad b1)), (2, .int v2), (3, .int v3)] hC dL_isEdited_288 (by rw [hn]; decide) rfl ?_
                  refine g_goto 290 307 hC dL_isEdited_290 (by decide) ?_
                  refine G.sub [2, 0, 3, 4, 5, 6, 1, 7, 8, 9, 10, 11, 12, 13] rfl ?_
                  exact LJ36 _ _ h
                · replace h := h.2 hc
                  refine g_aload_n 245 10 hC dL_isEdited_245 rfl ?_
                  refine g_iload_n 246 12 hC dL_isEdited_246 rfl ?_
                  refine g_iload 247 8 hC dL_isEdited_247 rfl ?_
                  refine g_cVi (As := [.int v2, .int w5_26]) (rest := []) 249 0 [0, 1, 2, 3, 4] hC (c_X8_wordAt l D cI cS cT ad b0 v2 w5_26 nli nsct nstk nsle _ h) kX8_wordAt wq_287 dL_isEdited_249 rfl rfl ⟨Nat.le_of_ble_eq_true rfl, Nat.le_of_ble_eq_true rfl⟩ rfl rfl (Nat.zero_le _) (Nat.zero_le _) rfl rfl rfl (Nat.le_of_ble_eq_true rfl) ?_
                  rintro r39 _ ⟨rfl, h⟩
                  refine ⟨Nat.le_of_ble_eq_true rfl, G.upd [5, 6, 7, 8, 9, 10, 11, 12, 13, 14, 15, 16, 17, 18, 19, 20, 21, 22] (Wd_L_isEdited cI cS cT ad b0 b1 fN nli nsct nstk nsle nco eld_19 efln_19 eftk_19 egln_19 egtk_19 etb_19 els_19 fa) rfl rfl rfl rfl rfl ?_⟩
                  refine g_aload_n 252 10 hC dL_isEdited_252 rfl ?_
                  refine g_iload_n 253 13 hC dL_isEdited_253 rfl ?_
                  refine g_iload 254 7 hC dL_isEdited_254 rfl ?_
                  refine g_iconst (v := (1 : Int32)) 256 hC dL_isEdited_256 (by decide) ?_
                  refine g_iadd 257 hC dL_isEdited_257 ?_
                  refine g_cVi (As := [.int v3, .int (w6_26 + (1 : Int32))]) (rest := [.int r39]) 258 0 [0, 1, 2, 3, 4] hC (c_X8_wordAt l D cI cS cT ad b0 v3 (w6_26 + (1 : Int32)) nli nsct nstk nsle _ h) kX8_wordAt wq_287 dL_isEdited_258 rfl rfl ⟨Nat.le_of_ble_eq_true rfl, Nat.le_of_ble_eq_true rfl⟩ rfl rfl (Nat.zero_le _) (Nat.zero_le _) rfl rfl rfl (Nat.le_of_ble_eq_true rfl) ?_
                  rintro r40 _ ⟨rfl, h⟩
                  refine ⟨Nat.le_of_ble_eq_true rfl, G.upd [5, 6, 7, 8, 9, 10, 11, 12, 13, 14, 15, 16, 17, 18, 19, 20, 21, 22] (Wd_L_isEdited cI cS cT ad b0 b1 fN nli nsct nstk nsle nco eld_19 efln_19 eftk_19 egln_19 egtk_19 etb_19 els_19 fa) rfl rfl rfl rfl rfl ?_⟩
                  refine g_icmp_ne 261 287 hC dL_isEdited_261 (by decide) (fun hc => ?_) (fun hc => ?_)
                  · replace h := h.1 hc
                    refine g_iconst (v := (0 : Int32)) 287 hC dL_isEdited_287 (by decide) ?_
                    refine g_istore 288 [(8, .int (0 : Int32)), (7, .int (v7 + (fa (Int32.toNatClampNeg (3 : Int32))))), (13, .int (j0_19 / (100 : Int32))), (12, .int (j0_19 - j0_19 / (10 : Int32) * (10 : Int32))), (11, .int ((j0_19 / (10 : Int32)) - (j0_19 / (10 : Int32)) / (10 : Int32) * (10 : Int32))), (10, .int j0_19), (9, .int v9), (6, .int w6_26), (5, .int w5_26), (4, .int v4), (0, .ref (ad b0)), (1, .ref (ad b1)), (2, .int v2), (3, .int v3)] hC dL_isEdited_288 (by rw [hn]; decide) rfl ?_
                    refine g_goto 290 307 hC dL_isEdited_290 (by decide) ?_
                    refine G.sub [2, 0, 3, 4, 5, 6, 1, 7, 8, 9, 10, 11, 12, 13] rfl ?_
                    exact LJ36 _ _ h
                  · replace h := h.2 hc
                    refine g_aload_n 264 10 hC dL_isEdited_264 rfl ?_
                    refine g_iload_n 265 12 hC dL_isEdited_265 rfl ?_
                    refine g_iload 266 8 hC dL_isEdited_266 rfl ?_
                    refine g_iconst (v := (1 : Int32)) 268 hC dL_isEdited_268 (by decide) ?_
                    refine g_iadd 269 hC dL_isEdited_269 ?_
                    refine g_cVi (As := [.int v2, .int (w5_26 + (1 : Int32))]) (rest := []) 270 0 [0, 1, 2, 3, 4] hC (c_X8_wordAt l D cI cS cT ad b0 v2 (w5_26 + (1 : Int32)) nli nsct nstk nsle _ h) kX8_wordAt wq_287 dL_isEdited_270 rfl rfl ⟨Nat.le_of_ble_eq_true rfl, Nat.le_of_ble_eq_true rfl⟩ rfl rfl (Nat.zero_le _) (Nat.zero_le _) rfl rfl rfl (Nat.le_of_ble_eq_true rfl) ?_
                    rintro r41 _ ⟨rfl, h⟩
                    refine ⟨Nat.le_of_ble_eq_true rfl, G.upd [5, 6, 7, 8, 9, 10, 11, 12, 13, 14, 15, 16, 17, 18, 19, 20, 21, 22] (Wd_L_isEdited cI cS cT ad b0 b1 fN nli nsct nstk nsle nco eld_19 efln_19 eftk_19 egln_19 egtk_19 etb_19 els_19 fa) rfl rfl rfl rfl rfl ?_⟩
                    refine g_aload_n 273 10 hC dL_isEdited_273 rfl ?_
                    refine g_iload_n 274 13 hC dL_isEdited_274 rfl ?_
                    refine g_iload 275 7 hC dL_isEdited_275 rfl ?_
                    refine g_cVi (As := [.int v3, .int w6_26]) (rest := [.int r41]) 277 0 [0, 1, 2, 3, 4] hC (c_X8_wordAt l D cI cS cT ad b0 v3 w6_26 nli nsct nstk nsle _ h) kX8_wordAt wq_287 dL_isEdited_277 rfl rfl ⟨Nat.le_of_ble_eq_true rfl, Nat.le_of_ble_eq_true rfl⟩ rfl rfl (Nat.zero_le _) (Nat.zero_le _) rfl rfl rfl (Nat.le_of_ble_eq_true rfl) ?_
                    rintro r42 _ ⟨rfl, h⟩
                    refine ⟨Nat.le_of_ble_eq_true rfl, G.upd [5, 6, 7, 8, 9, 10, 11, 12, 13, 14, 15, 16, 17, 18, 19, 20, 21, 22] (Wd_L_isEdited cI cS cT ad b0 b1 fN nli nsct nstk nsle nco eld_19 efln_19 eftk_19 egln_19 egtk_19 etb_19 els_19 fa) rfl rfl rfl rfl rfl ?_⟩
                    refine g_icmp_ne 280 287 hC dL_isEdited_280 (by decide) (fun hc => ?_) (fun hc => ?_)
                    · replace h := h.1 hc
                      refine g_iconst (v := (0 : Int32)) 287 hC dL_isEdited_287 (by decide) ?_
                      refine g_istore 288 [(8, .int (0 : Int32)), (7, .int (v7 + (fa (Int32.toNatClampNeg (3 : Int32))))), (13, .int (j0_19 / (100 : Int32))), (12, .int (j0_19 - j0_19 / (10 : Int32) * (10 : Int32))), (11, .int ((j0_19 / (10 : Int32)) - (j0_19 / (10 : Int32)) / (10 : Int32) * (10 : Int32))), (10, .int j0_19), (9, .int v9), (6, .int w6_26), (5, .int w5_26), (4, .int v4), (0, .ref (ad b0)), (1, .ref (ad b1)), (2, .int v2), (3, .int v3)] hC dL_isEdited_288 (by rw [hn]; decide) rfl ?_
                      refine g_goto 290 307 hC dL_isEdited_290 (by decide) ?_
                      refine G.sub [2, 0, 3, 4, 5, 6, 1, 7, 8, 9, 10, 11, 12, 13] rfl ?_
                      exact LJ36 _ _ h
                    · replace h := h.2 hc
                      refine g_iconst (v := (1 : Int32)) 283 hC dL_isEdited_283 (by decide) ?_
                      refine g_goto 284 288 hC dL_isEdited_284 (by decide) ?_
                      refine g_istore 288 [(8, .int (1 : Int32)), (7, .int (v7 + (fa (Int32.toNatClampNeg (3 : Int32))))), (13, .int (j0_19 / (100 : Int32))), (12, .int (j0_19 - j0_19 / (10 : Int32) * (10 : Int32))), (11, .int ((j0_19 / (10 : Int32)) - (j0_19 / (10 : Int32)) / (10 : Int32) * (10 : Int32))), (10, .int j0_19), (9, .int v9), (6, .int w6_26), (5, .int w5_26), (4, .int v4), (0, .ref (ad b0)), (1, .ref (ad b1)), (2, .int v2), (3, .int v3)] hC dL_isEdited_288 (by rw [hn]; decide) rfl ?_
                      refine g_goto 290 307 hC dL_isEdited_290 (by decide) ?_
                      refine G.sub [2, 0, 3, 4, 5, 6, 1, 7, 8, 9, 10, 11, 12, 13] rfl ?_
                      exact LJ36 _ _ h
            · replace h := h.2 hc
              refine g_iload 171 6 hC dL_isEdited_171 rfl ?_
              refine g_aload_n 173 11 hC dL_isEdited_173 rfl ?_
              refine g_aload_n 174 10 hC dL_isEdited_174 rfl ?_
              refine g_iload_n 175 12 hC dL_isEdited_175 rfl ?_
              refine g_iload 176 8 hC dL_isEdited_176 rfl ?_
              refine g_cVi (As := [.int v2, .int w5_26]) (rest := [.ref (ad b1), .int v7]) 178 0 [0, 1, 2, 3, 4] hC (c_X8_wordAt l D cI cS cT ad b0 v2 w5_26 nli nsct nstk nsle _ h) kX8_wordAt wq_287 dL_isEdited_178 rfl rfl ⟨Nat.le_of_ble_eq_true rfl, Nat.le_of_ble_eq_true rfl⟩ rfl rfl (Nat.zero_le _) (Nat.zero_le _) rfl rfl rfl (Nat.le_of_ble_eq_true rfl) ?_
              rintro r43 _ ⟨rfl, h⟩
              refine ⟨Nat.le_of_ble_eq_true rfl, G.upd [5, 6, 7, 8, 9, 10, 11, 12, 13, 14, 15, 16, 17, 18, 19, 20, 21, 22] (Wd_L_isEdited cI cS cT ad b0 b1 fN nli nsct nstk nsle nco eld_19 efln_19 eftk_19 egln_19 egtk_19 etb_19 els_19 fa) rfl rfl rfl rfl rfl ?_⟩
              refine g_aload_n 181 10 hC dL_isEdited_181 rfl ?_
              refine g_iload_n 182 13 hC dL_isEdited_182 rfl ?_
              refine g_iload 183 7 hC dL_isEdited_183 rfl ?_
              refine g_cVi (As := [.int v3, .int w6_26]) (rest := [.int r43, .ref (ad b1), .int v7]) 185 0 [0, 1, 2, 3, 4] hC (c_X8_wordAt l D cI cS cT ad b0 v3 w6_26 nli nsct nstk nsle _ h) kX8_wordAt wq_287 dL_isEdited_185 rfl rfl ⟨Nat.le_of_ble_eq_true rfl, Nat.le_of_ble_eq_true rfl⟩ rfl rfl (Nat.zero_le _) (Nat.zero_le _) rfl rfl rfl (Nat.le_of_ble_eq_true rfl) ?_
              rintro r44 _ ⟨rfl, h⟩
              refine ⟨Nat.le_of_ble_eq_true rfl, G.upd [5, 6, 7, 8, 9, 10, 11, 12, 13, 14, 15, 16, 17, 18, 19, 20, 21, 22] (Wd_L_isEdited cI cS cT ad b0 b1 fN nli nsct nstk nsle nco eld_19 efln_19 eftk_19 egln_19 egtk_19 etb_19 els_19 fa) rfl rfl rfl rfl rfl ?_⟩
              refine g_cSi (As := [.ref (ad b1), .int r43, .int r44]) (rest := [.int v7]) 188 [22] hC (c_L_exchange l D cI cS cT ad b1 fN r43 r44 fa _ h) kL_exchange wq_291 dL_isEdited_188 ⟨Nat.le_of_ble_eq_true rfl, Nat.le_of_ble_eq_true rfl⟩ rfl rfl (Nat.zero_le _) (Nat.zero_le _) rfl rfl rfl (Nat.le_of_ble_eq_true rfl) ?_
              rintro r45 _ ⟨rfl, h⟩
              refine ⟨Nat.le_of_ble_eq_true rfl, G.upd [0, 1, 2, 3, 4, 5, 6, 7, 8, 9, 10, 11, 12, 13, 14, 15, 16, 17, 18, 19, 20, 21] (Wd_L_isEdited cI cS cT ad b0 b1 fN nli nsct nstk nsle nco eld_19 efln_19 eftk_19 egln_19 egtk_19 etb_19 els_19 fa) rfl rfl rfl rfl rfl ?_⟩
              refine g_iadd 191 hC dL_isEdited_191 ?_
              refine g_istore 192 [(7, .int (v7 + r45)), (13, .int (j0_19 / (100 : Int32))), (8, .int w8_26), (12, .int (j0_19 - j0_19 / (10 : Int32) * (10 : Int32))), (11, .int ((j0_19 / (10 : Int32)) - (j0_19 / (10 : Int32)) / (10 : Int32) * (10 : Int32))), (10, .int j0_19), (9, .int v9), (6, .int w6_26), (5, .int w5_26), (4, .int v4), (0, .ref (ad b0)), (1, .ref (ad b1)), (2, .int v2), (3, .int v3)] hC dL_isEdited_192 (by rw [hn]; decide) rfl ?_
              refine g_iload 194 2 hC dL_isEdited_194 rfl ?_
              refine g_if_eq 196 220 hC dL_isEdited_196 (by decide) (fun hc => ?_) (fun hc => ?_)
              · replace h := h.1 hc
                refine g_iconst (v := (0 : Int32)) 220 hC dL_isEdited_220 (by decide) ?_
                refine g_istore 221 [(8, .int (0 : Int32)), (7, .int (v7 + r45)), (13, .int (j0_19 / (100 : Int32))), (12, .int (j0_19 - j0_19 / (10 : Int32) * (10 : Int32))), (11, .int ((j0_19 / (10 : Int32)) - (j0_19 / (10 : Int32)) / (10 : Int32) * (10 : Int32))), (10, .int j0_19), (9, .int v9), (6, .int w6_26), (5, .int w5_26), (4, .int v4), (0, .ref (ad b0)), (1, .ref (ad b1)), (2, .int v2), (3, .int v3)] hC dL_isEdited_221 (by rw [hn]; decide) rfl ?_
                refine g_goto 223 307 hC dL_isEdited_223 (by decide) ?_
                refine G.sub [2, 0, 3, 4, 5, 6, 1, 7, 8, 9, 10, 11, 12, 13] rfl ?_
                exact LJ36 _ _ h
              · replace h := h.2 hc
                refine g_aload_n 199 10 hC dL_isEdited_199 rfl ?_
                refine g_iload_n 200 12 hC dL_isEdited_200 rfl ?_
                refine g_iload 201 8 hC dL_isEdited_201 rfl ?_
                refine g_cVi (As := [.int v2, .int w5_26]) (rest := []) 203 0 [0, 1, 2, 3, 4] hC (c_X8_wordAt l D cI cS cT ad b0 v2 w5_26 nli nsct nstk nsle _ h) kX8_wordAt wq_287 dL_isEdited_203 rfl rfl ⟨Nat.le_of_ble_eq_true rfl, Nat.le_of_ble_eq_true rfl⟩ rfl rfl (Nat.zero_le _) (Nat.zero_le _) rfl rfl rfl (Nat.le_of_ble_eq_true rfl) ?_
                rintro r46 _ ⟨rfl, h⟩
                refine ⟨Nat.le_of_ble_eq_true rfl, G.upd [5, 6, 7, 8, 9, 10, 11, 12, 13, 14, 15, 16, 17, 18, 19, 20, 21, 22] (Wd_L_isEdited cI cS cT ad b0 b1 fN nli nsct nstk nsle nco eld_19 efln_19 eftk_19 egln_19 egtk_19 etb_19 els_19 fa) rfl rfl rfl rfl rfl ?_⟩
                refine g_aload_n 206 10 hC dL_isEdited_206 rfl ?_
                refine g_iload_n 207 13 hC dL_isEdited_207 rfl ?_
                refine g_iload 208 7 hC dL_isEdited_208 rfl ?_
                refine g_cVi (As := [.int v3, .int w6_26]) (rest := [.int r46]) 210 0 [0, 1, 2, 3, 4] hC (c_X8_wordAt l D cI cS cT ad b0 v3 w6_26 nli nsct nstk nsle _ h) kX8_wordAt wq_287 dL_isEdited_210 rfl rfl ⟨Nat.le_of_ble_eq_true rfl, Nat.le_of_ble_eq_true rfl⟩ rfl rfl (Nat.zero_le _) (Nat.zero_le _) rfl rfl rfl (Nat.le_of_ble_eq_true rfl) ?_
                rintro r47 _ ⟨rfl, h⟩
                refine ⟨Nat.le_of_ble_eq_true rfl, G.upd [5, 6, 7, 8, 9, 10, 11, 12, 13, 14, 15, 16, 17, 18, 19, 20, 21, 22] (Wd_L_isEdited cI cS cT ad b0 b1 fN nli nsct nstk nsle nco eld_19 efln_19 eftk_19 egln_19 egtk_19 etb_19 els_19 fa) rfl rfl rfl rfl rfl ?_⟩
                refine g_icmp_eq 213 220 hC dL_isEdited_213 (by decide) (fun hc => ?_) (fun hc => ?_)
                · replace h := h.1 hc
                  refine g_iconst (v := (0 : Int32)) 220 hC dL_isEdited_220 (by decide) ?_
                  refine g_istore 221 [(8, .int (0 : Int32)), (7, .int (v7 + r45)), (13, .int (j0_19 / (100 : Int32))), (12, .int (j0_19 - j0_19 / (10 : Int32) * (10 : Int32))), (11, .int ((j0_19 / (10 : Int32)) - (j0_19 / (10 : Int32)) / (10 : Int32) * (10 : Int32))), (10, .int j0_19), (9, .int v9), (6, .int w6_26), (5, .int w5_26), (4, .int v4), (0, .ref (ad b0)), (1, .ref (ad b1)), (2, .int v2), (3, .int v3)] hC dL_isEdited_221 (by rw [hn]; decide) rfl ?_
                  refine g_goto 223 307 hC dL_isEdited_223 (by decide) ?_
                  refine G.sub [2, 0, 3, 4, 5, 6, 1, 7, 8, 9, 10, 11, 12, 13] rfl ?_
                  exact LJ36 _ _ h
                · replace h := h.2 hc
                  refine g_iconst (v := (1 : Int32)) 216 hC dL_isEdited_216 (by decide) ?_
                  refine g_goto 217 221 hC dL_isEdited_217 (by decide) ?_
                  refine g_istore 221 [(8, .int (1 : Int32)), (7, .int (v7 + r45)), (13, .int (j0_19 / (100 : Int32))), (12, .int (j0_19 - j0_19 / (10 : Int32) * (10 : Int32))), (11, .int ((j0_19 / (10 : Int32)) - (j0_19 / (10 : Int32)) / (10 : Int32) * (10 : Int32))), (10, .int j0_19), (9, .int v9), (6, .int w6_26), (5, .int w5_26), (4, .int v4), (0, .ref (ad b0)), (1, .ref (ad b1)), (2, .int v2), (3, .int v3)] hC dL_isEdited_221 (by rw [hn]; decide) rfl ?_
                  refine g_goto 223 307 hC dL_isEdited_223 (by decide) ?_
                  refine G.sub [2, 0, 3, 4, 5, 6, 1, 7, 8, 9, 10, 11, 12, 13] rfl ?_
                  exact LJ36 _ _ h
          refine g_iload 86 1 hC dL_isEdited_86 rfl ?_
          refine g_iload 88 7 hC dL_isEdited_88 rfl ?_
          refine g_isub 90 hC dL_isEdited_90 ?_
          refine g_iload 91 0 hC dL_isEdited_91 rfl ?_
          refine g_iload 93 6 hC dL_isEdited_93 rfl ?_
          refine g_isub 95 hC dL_isEdited_95 ?_
          refine g_icmp_ne 96 110 hC dL_isEdited_96 (by decide) (fun hc => ?_) (fun hc => ?_)
          · replace h := h.1 hc
            refine g_iconst (v := (0 : Int32)) 110 hC dL_isEdited_110 (by decide) ?_
            refine G.sub [0, 1, 2, 3, 4, 5, 6, 7, 8, 9, 10, 11, 12] rfl ?_
            exact LJ20 _ h
          · replace h := h.2 hc
            refine g_iload 99 1 hC dL_isEdited_99 rfl ?_
            refine g_iload 101 7 hC dL_isEdited_101 rfl ?_
            refine g_icmp_lt 103 110 hC dL_isEdited_103 (by decide) (fun hc => ?_) (fun hc => ?_)
            · replace h := h.1 hc
              refine g_iconst (v := (0 : Int32)) 110 hC dL_isEdited_110 (by decide) ?_
              refine G.sub [0, 1, 2, 3, 4, 5, 6, 7, 8, 9, 10, 11, 12] rfl ?_
              exact LJ20 _ h
            · replace h := h.2 hc
              refine g_iconst (v := (1 : Int32)) 106 hC dL_isEdited_106 (by decide) ?_
              refine g_goto 107 111 hC dL_isEdited_107 (by decide) ?_
              refine G.sub [0, 1, 2, 3, 4, 5, 6, 7, 8, 9, 10, 11, 12] rfl ?_
              exact LJ20 _ h
        refine g_iload 35 0 hC dL_isEdited_35 rfl ?_
        refine g_iload 37 5 hC dL_isEdited_37 rfl ?_
        refine g_icmp_ge 39 53 hC dL_isEdited_39 (by decide) (fun hc => ?_) (fun hc => ?_)
        · replace h := h.1 hc
          refine g_bipush (v := (10 : Int32)) 53 hC dL_isEdited_53 (by decide) ?_
          refine g_aload_n 55 6 hC dL_isEdited_55 rfl ?_
          refine g_iload_n 56 8 hC dL_isEdited_56 rfl ?_
          refine g_cVi (As := [.int v2]) (rest := [.int (10 : Int32)]) 57 0 [0, 1, 2, 4] hC (c_X8_lengthOf l D cI cS cT ad b0 v2 nli nsct nsle _ h) kX8_lengthOf wq_230 dL_isEdited_57 rfl rfl ⟨Nat.le_of_ble_eq_true rfl, Nat.le_of_ble_eq_true rfl⟩ rfl rfl (Nat.zero_le _) (Nat.zero_le _) rfl rfl rfl (Nat.le_of_ble_eq_true rfl) ?_
          rintro r48 _ ⟨rfl, h⟩
          refine ⟨Nat.le_of_ble_eq_true rfl, G.upd [3, 5, 6, 7, 8, 9, 10, 11, 12, 13, 14, 15, 16, 17, 18, 19, 20, 21, 22] (Wd_L_isEdited cI cS cT ad b0 b1 fN nli nsct nstk nsle nco eld efln eftk egln egtk etb els fa) rfl rfl rfl rfl rfl ?_⟩
          refine g_imul 60 hC dL_isEdited_60 ?_
          refine g_aload_n 61 6 hC dL_isEdited_61 rfl ?_
          refine g_iload_n 62 9 hC dL_isEdited_62 rfl ?_
          refine g_cVi (As := [.int v3]) (rest := [.int ((10 : Int32) * r48)]) 63 0 [0, 1, 2, 4] hC (c_X8_lengthOf l D cI cS cT ad b0 v3 nli nsct nsle _ h) kX8_lengthOf wq_230 dL_isEdited_63 rfl rfl ⟨Nat.le_of_ble_eq_true rfl, Nat.le_of_ble_eq_true rfl⟩ rfl rfl (Nat.zero_le _) (Nat.zero_le _) rfl rfl rfl (Nat.le_of_ble_eq_true rfl) ?_
          rintro r49 _ ⟨rfl, h⟩
          refine ⟨Nat.le_of_ble_eq_true rfl, G.upd [3, 5, 6, 7, 8, 9, 10, 11, 12, 13, 14, 15, 16, 17, 18, 19, 20, 21, 22] (Wd_L_isEdited cI cS cT ad b0 b1 fN nli nsct nstk nsle nco eld efln eftk egln egtk etb els fa) rfl rfl rfl rfl rfl ?_⟩
          refine g_iadd 66 hC dL_isEdited_66 ?_
          refine G.sub [0, 1, 2, 3, 4, 5, 6, 7, 8, 9] rfl ?_
          exact LJ19 _ _ _ _ _ _ _ _ h
        · replace h := h.2 hc
          refine g_aload_n 42 6 hC dL_isEdited_42 rfl ?_
          refine g_iload_n 43 8 hC dL_isEdited_43 rfl ?_
          refine g_iload_n 44 9 hC dL_isEdited_44 rfl ?_
          refine g_iload 45 0 hC dL_isEdited_45 rfl ?_
          refine g_cVi (As := [.int v2, .int v3, .int v9]) (rest := []) 47 0 [0, 1, 2, 3, 4, 5, 6, 7, 8, 9, 10, 11, 12, 13, 14, 15, 16, 17, 18, 19, 20, 21] hC (c_X8_editAt l D cI cS cT ad b0 v2 v3 v9 nli nsct nstk nsle nco eld efln eftk egln egtk etb els _ h) kX8_editAt wq_280 dL_isEdited_47 rfl rfl ⟨Nat.le_of_ble_eq_true rfl, Nat.le_of_ble_eq_true rfl⟩ rfl rfl (Nat.zero_le _) (Nat.zero_le _) rfl rfl rfl (Nat.le_of_ble_eq_true rfl) ?_
          rintro r57 _ ⟨u50, u51, u52, u53, u54, u55, u56, rfl, h⟩
          refine ⟨Nat.le_of_ble_eq_true rfl, G.upd [22] (Wd_L_isEdited cI cS cT ad b0 b1 fN nli nsct nstk nsle nco u50 u51 u52 u53 u54 u55 u56 fa) rfl rfl rfl rfl rfl ?_⟩
          refine g_goto 50 67 hC dL_isEdited_50 (by decide) ?_
          refine G.sub [0, 1, 2, 3, 4, 5, 6, 7, 8, 9] rfl ?_
          exact LJ19 _ _ _ _ _ _ _ _ h
set_option maxHeartbeats 4000000 in
set_option maxRecDepth 100000 in
theorem c_L_isEdited (l : Launch) (D : va_G) (cI cS cT : ClassId) (ad : Nat → Nat) (b0 : Nat) (b1 : Nat) (fN : Nat) (x2 : Int32) (x3 : Int32) (nli : Int32) (nsct : Int32) (nstk : Nat → Int32) (nsle : Nat → Int32) (nco : Nat → Int32) (eld : Int32) (efln : Int32) (eftk : Nat → Int32) (egln : Int32) (egtk : Nat → Int32) (etb : Nat → Nat → Int32) (els : Nat → Int32) (fa : Nat → Int32) (post : Int32 → Int32 → Int32 → (Nat → Int32) → Int32 → (Nat → Int32) → (Nat → Nat → Int32) → (Nat → Int32) → Prop) (h : P_L_isEdited fN x2 x3 nli nsct nstk nsle nco eld efln eftk egln egtk etb els fa post) : MI l D (TY cI cS cT) yL_isEdited cL_isEdited 14 (some .boolean) rm_L_isEdited [.ref (ad b0), .ref (ad b1), .int x2, .int x3] (Wd_L_isEdited cI cS cT ad b0 b1 fN nli nsct nstk nsle nco eld efln eftk egln egtk etb els fa) (fun (r : Int32) w => ∃ (u_eld : Int32) (u_efln : Int32) (u_eftk : Nat → Int32) (u_egln : Int32) (u_egtk : Nat → Int32) (u_etb : Nat → Nat → Int32) (u_els : Nat → Int32), w = (Wd_L_isEdited cI cS cT ad b0 b1 fN nli nsct nstk nsle nco u_eld u_efln u_eftk u_egln u_egtk u_etb u_els fa) ∧ post r u_eld u_efln u_eftk u_egln u_egtk u_etb u_els) := by
  refine MI.of (by decide) (Nat.le_of_ble_eq_true rfl) (fun E hC hR hn => ?_)
  replace hC : Cx l D (TY cI cS cT) E rm_L_isEdited cL_isEdited RL := hC
  replace hR : RetI D E (fun (r : Int32) w => ∃ (u_eld : Int32) (u_efln : Int32) (u_eftk : Nat → Int32) (u_egln : Int32) (u_egtk : Nat → Int32) (u_etb : Nat → Nat → Int32) (u_els : Nat → Int32), w = (Wd_L_isEdited cI cS cT ad b0 b1 fN nli nsct nstk nsle nco u_eld u_efln u_eftk u_egln u_egtk u_etb u_els fa) ∧ post r u_eld u_efln u_eftk u_egln u_egtk u_etb u_els) 0 0 (some .boolean) := hR
  unfold P_L_isEdited at h
  change G l D E 0 0 _ [(0, .ref (ad b0)), (1, .ref (ad b1)), (2, .int x2), (3, .int x3)] 0 []
  refine g_aload_n 0 0 hC dL_isEdited_0 rfl ?_
  refine g_iload_n 1 2 hC dL_isEdited_1 rfl ?_
  refine g_iload_n 2 3 hC dL_isEdited_2 rfl ?_
  refine g_cVi (As := [.int x2, .int x3]) (rest := []) 3 0 [0, 1, 2, 3, 4, 5, 6, 7, 8, 9, 10, 11, 12, 13, 14, 15, 16, 17, 18, 19, 20, 21] hC (c_X8_editCount l D cI cS cT ad b0 x2 x3 nli nsct nstk nsle nco eld efln eftk egln egtk etb els _ h) kX8_editCount wq_265 dL_isEdited_3 rfl rfl ⟨Nat.le_of_ble_eq_true rfl, Nat.le_of_ble_eq_true rfl⟩ rfl rfl (Nat.zero_le _) (Nat.zero_le _) rfl rfl rfl (Nat.le_of_ble_eq_true rfl) ?_
  rintro r8 _ ⟨u1, u2, u3, u4, u5, u6, u7, rfl, h⟩
  refine ⟨Nat.le_of_ble_eq_true rfl, G.upd [22] (Wd_L_isEdited cI cS cT ad b0 b1 fN nli nsct nstk nsle nco u1 u2 u3 u4 u5 u6 u7 fa) rfl rfl rfl rfl rfl ?_⟩
  refine g_istore 6 [(4, .int r8), (0, .ref (ad b0)), (1, .ref (ad b1)), (2, .int x2), (3, .int x3)] hC dL_isEdited_6 (by rw [hn]; decide) rfl ?_
  refine g_iconst (v := (0 : Int32)) 8 hC dL_isEdited_8 (by decide) ?_
  refine g_istore 9 [(5, .int (0 : Int32)), (4, .int r8), (0, .ref (ad b0)), (1, .ref (ad b1)), (2, .int x2), (3, .int x3)] hC dL_isEdited_9 (by rw [hn]; decide) rfl ?_
  refine g_iconst (v := (0 : Int32)) 11 hC dL_isEdited_11 (by decide) ?_
  refine g_istore 12 [(6, .int (0 : Int32)), (5, .int (0 : Int32)), (4, .int r8), (0, .ref (ad b0)), (1, .ref (ad b1)), (2, .int x2), (3, .int x3)] hC dL_isEdited_12 (by rw [hn]; decide) rfl ?_
  refine g_iconst (v := (0 : Int32)) 14 hC dL_isEdited_14 (by decide) ?_
  refine g_istore 15 [(7, .int (0 : Int32)), (6, .int (0 : Int32)), (5, .int (0 : Int32)), (4, .int r8), (0, .ref (ad b0)), (1, .ref (ad b1)), (2, .int x2), (3, .int x3)] hC dL_isEdited_15 (by rw [hn]; decide) rfl ?_
  refine g_iconst (v := (1 : Int32)) 17 hC dL_isEdited_17 (by decide) ?_
  refine g_istore 18 [(8, .int (1 : Int32)), (7, .int (0 : Int32)), (6, .int (0 : Int32)), (5, .int (0 : Int32)), (4, .int r8), (0, .ref (ad b0)), (1, .ref (ad b1)), (2, .int x2), (3, .int x3)] hC dL_isEdited_18 (by rw [hn]; decide) rfl ?_
  refine g_iconst (v := (0 : Int32)) 20 hC dL_isEdited_20 (by decide) ?_
  refine g_istore 21 [(9, .int (0 : Int32)), (8, .int (1 : Int32)), (7, .int (0 : Int32)), (6, .int (0 : Int32)), (5, .int (0 : Int32)), (4, .int r8), (0, .ref (ad b0)), (1, .ref (ad b1)), (2, .int x2), (3, .int x3)] hC dL_isEdited_21 (by rw [hn]; decide) rfl ?_
  obtain ⟨n, h⟩ := h
  refine L_L_isEdited_23 hC hR hn _ (fun w9_58 w8_58 w7_58 w6_58 w5_58 eld_58 efln_58 eftk_58 egln_58 egtk_58 etb_58 els_58 h => ?_) n _ _ _ _ _ _ _ _ _ _ _ _ h
  refine g_iload 375 1 hC dL_isEdited_375 rfl ?_
  refine g_if_eq 377 428 hC dL_isEdited_377 (by decide) (fun hc => ?_) (fun hc => ?_)
  · replace h := h.1 hc
    refine g_iconst (v := (0 : Int32)) 428 hC dL_isEdited_428 (by decide) ?_
    exact g_zret 429 hC hR dL_isEdited_429 (by decide) ⟨eld_58, efln_58, eftk_58, egln_58, egtk_58, etb_58, els_58, rfl, h⟩
  · replace h := h.2 hc
    refine g_iload 380 4 hC dL_isEdited_380 rfl ?_
    refine g_aload_n 382 6 hC dL_isEdited_382 rfl ?_
    refine g_iload_n 383 8 hC dL_isEdited_383 rfl ?_
    refine g_cVi (As := [.int x2]) (rest := [.int w5_58]) 384 0 [0, 1, 2, 4] hC (c_X8_lengthOf l D cI cS cT ad b0 x2 nli nsct nsle _ h) kX8_lengthOf wq_230 dL_isEdited_384 rfl rfl ⟨Nat.le_of_ble_eq_true rfl, Nat.le_of_ble_eq_true rfl⟩ rfl rfl (Nat.zero_le _) (Nat.zero_le _) rfl rfl rfl (Nat.le_of_ble_eq_true rfl) ?_
    rintro r59 _ ⟨rfl, h⟩
    refine ⟨Nat.le_of_ble_eq_true rfl, G.upd [3, 5, 6, 7, 8, 9, 10, 11, 12, 13, 14, 15, 16, 17, 18, 19, 20, 21, 22] (Wd_L_isEdited cI cS cT ad b0 b1 fN nli nsct nstk nsle nco eld_58 efln_58 eftk_58 egln_58 egtk_58 etb_58 els_58 fa) rfl rfl rfl rfl rfl ?_⟩
    refine g_icmp_ne 387 428 hC dL_isEdited_387 (by decide) (fun hc => ?_) (fun hc => ?_)
    · replace h := h.1 hc
      refine g_iconst (v := (0 : Int32)) 428 hC dL_isEdited_428 (by decide) ?_
      exact g_zret 429 hC hR dL_isEdited_429 (by decide) ⟨eld_58, efln_58, eftk_58, egln_58, egtk_58, etb_58, els_58, rfl, h⟩
    · replace h := h.2 hc
      refine g_iload 390 3 hC dL_isEdited_390 rfl ?_
      refine g_aload_n 392 6 hC dL_isEdited_392 rfl ?_
      refine g_iload_n 393 9 hC dL_isEdited_393 rfl ?_
      refine g_cVi (As := [.int x3]) (rest := [.int w6_58]) 394 0 [0, 1, 2, 4] hC (c_X8_lengthOf l D cI cS cT ad b0 x3 nli nsct nsle _ h) kX8_lengthOf wq_230 dL_isEdited_394 rfl rfl ⟨Nat.le_of_ble_eq_true rfl, Nat.le_of_ble_eq_true rfl⟩ rfl rfl (Nat.zero_le _) (Nat.zero_le _) rfl rfl rfl (Nat.le_of_ble_eq_true rfl) ?_
      rintro r60 _ ⟨rfl, h⟩
      refine ⟨Nat.le_of_ble_eq_true rfl, G.upd [3, 5, 6, 7, 8, 9, 10, 11, 12, 13, 14, 15, 16, 17, 18, 19, 20, 21, 22] (Wd_L_isEdited cI cS cT ad b0 b1 fN nli nsct nstk nsle nco eld_58 efln_58 eftk_58 egln_58 egtk_58 etb_58 els_58 fa) rfl rfl rfl rfl rfl ?_⟩
      refine g_icmp_ne 397 428 hC dL_isEdited_397 (by decide) (fun hc => ?_) (fun hc => ?_)
      · replace h := h.1 hc
        refine g_iconst (v := (0 : Int32)) 428 hC dL_isEdited_428 (by decide) ?_
        exact g_zret 429 hC hR dL_isEdited_429 (by decide) ⟨eld_58, efln_58, eftk_58, egln_58, egtk_58, etb_58, els_58, rfl, h⟩
      · replace h := h.2 hc
        refine g_iload 400 2 hC dL_isEdited_400 rfl ?_
        refine g_aload_n 402 6 hC dL_isEdited_402 rfl ?_
        refine g_iload_n 403 8 hC dL_isEdited_403 rfl ?_
        refine g_iload_n 404 9 hC dL_isEdited_404 rfl ?_
        refine g_cVi (As := [.int x2, .int x3]) (rest := [.int w7_58]) 405 0 [0, 1, 2, 3, 4, 5, 6, 7, 8, 9, 10, 11, 12, 13, 14, 15, 16, 17, 18, 19, 20] hC (c_X8_distance l D cI cS cT ad b0 x2 x3 nli nsct nstk nsle nco eld_58 efln_58 eftk_58 egln_58 egtk_58 etb_58 _ h) kX8_distance wq_257 dL_isEdited_405 rfl rfl ⟨Nat.le_of_ble_eq_true rfl, Nat.le_of_ble_eq_true rfl⟩ rfl rfl (Nat.zero_le _) (Nat.zero_le _) rfl rfl rfl (Nat.le_of_ble_eq_true rfl) ?_
        rintro r66 _ ⟨u61, u62, u63, u64, u65, rfl, h⟩
        refine ⟨Nat.le_of_ble_eq_true rfl, G.upd [21, 22] (Wd_L_isEdited cI cS cT ad b0 b1 fN nli nsct nstk nsle nco eld_58 u61 u62 u63 u64 u65 els_58 fa) rfl rfl rfl rfl rfl ?_⟩
        refine g_icmp_ne 408 428 hC dL_isEdited_408 (by decide) (fun hc => ?_) (fun hc => ?_)
        · replace h := h.1 hc
          refine g_iconst (v := (0 : Int32)) 428 hC dL_isEdited_428 (by decide) ?_
          exact g_zret 429 hC hR dL_isEdited_429 (by decide) ⟨eld_58, u61, u62, u63, u64, u65, els_58, rfl, h⟩
        · replace h := h.2 hc
          refine g_aload_n 411 6 hC dL_isEdited_411 rfl ?_
          refine g_iload_n 412 8 hC dL_isEdited_412 rfl ?_
          refine g_iload_n 413 9 hC dL_isEdited_413 rfl ?_
          refine g_iload 414 5 hC dL_isEdited_414 rfl ?_
          refine g_cVi (As := [.int x2, .int x3, .int r8]) (rest := []) 416 0 [0, 1, 2, 3, 4, 5, 6, 7, 8, 9, 10, 11, 12, 13, 14, 15, 16, 17, 18, 19, 20, 21] hC (c_X8_editAt l D cI cS cT ad b0 x2 x3 r8 nli nsct nstk nsle nco eld_58 u61 u62 u63 u64 u65 els_58 _ h) kX8_editAt wq_280 dL_isEdited_416 rfl rfl ⟨Nat.le_of_ble_eq_true rfl, Nat.le_of_ble_eq_true rfl⟩ rfl rfl (Nat.zero_le _) (Nat.zero_le _) rfl rfl rfl (Nat.le_of_ble_eq_true rfl) ?_
          rintro r74 _ ⟨u67, u68, u69, u70, u71, u72, u73, rfl, h⟩
          refine ⟨Nat.le_of_ble_eq_true rfl, G.upd [22] (Wd_L_isEdited cI cS cT ad b0 b1 fN nli nsct nstk nsle nco u67 u68 u69 u70 u71 u72 u73 fa) rfl rfl rfl rfl rfl ?_⟩
          refine g_bipush (v := (-4 : Int32)) 419 hC dL_isEdited_419 (by decide) ?_
          refine g_icmp_ne 421 428 hC dL_isEdited_421 (by decide) (fun hc => ?_) (fun hc => ?_)
          · replace h := h.1 hc
            refine g_iconst (v := (0 : Int32)) 428 hC dL_isEdited_428 (by decide) ?_
            exact g_zret 429 hC hR dL_isEdited_429 (by decide) ⟨u67, u68, u69, u70, u71, u72, u73, rfl, h⟩
          · replace h := h.2 hc
            refine g_iconst (v := (1 : Int32)) 424 hC dL_isEdited_424 (by decide) ?_
            refine g_goto 425 429 hC dL_isEdited_425 (by decide) ?_
            exact g_zret 429 hC hR dL_isEdited_429 (by decide) ⟨u67, u68, u69, u70, u71, u72, u73, rfl, h⟩
