/-! written by wip/p31/gen/walk.py: worlds, predicates and contracts -/
/-! ===== ProverbCollectionLaw.isWhole(LProverbCollection;[I)Z ===== -/
def Wd_L_isWhole (cI cS cT : ClassId) (ad : Nat → Nat) (b0 : Nat) (b1 : Nat) (fN : Nat) (nli : Int32) (nsct : Int32) (nstk : Nat → Int32) (nsle : Nat → Int32) (nye : Nat → Int32) (nre : Nat → Int32) (npct : Int32) (nptk : Nat → Int32) (nple : Nat → Int32) (nco : Nat → Int32) (hnx : Int32) (hcn : Int32) (hrli : Nat → Int32) (hrsct : Nat → Int32) (hrstk : Nat → Nat → Int32) (hrsle : Nat → Nat → Int32) (hrye : Nat → Nat → Int32) (hrre : Nat → Nat → Int32) (hrpct : Nat → Int32) (hrptk : Nat → Nat → Int32) (hrple : Nat → Nat → Int32) (hrco : Nat → Nat → Int32) (eld : Int32) (efln : Int32) (eftk : Nat → Int32) (egln : Int32) (egtk : Nat → Int32) (etb : Nat → Nat → Int32) (els : Nat → Int32) (ggc : Int32) (gor : Nat → Int32) (gme : Nat → Int32) (gce : Nat → Int32) (ao : Nat → Int32) (fa : Nat → Int32) : va_W := [(ad b0, .inr (8, [.ref (ad (b0 + 1)), .ref (ad (b0 + 3)), .ref (ad (b0 + 13)), .ref (ad (b0 + 65)), .ref (ad (b0 + 81)), .ref (ad (b0 + 88)), .ref (ad (b0 + 92)), .ref (ad (b0 + 99))])), (ad (b0 + 3), .inr (7, [.ref (ad (b0 + 4)), .ref (ad (b0 + 7)), .ref (ad (b0 + 8)), .ref (ad (b0 + 9)), .ref (ad (b0 + 12)), .int nli])), (ad (b0 + 4), .inr (6, [.int 12, .ref (ad (b0 + 5)), .ref (ad (b0 + 6)), .int nsct])), (ad (b0 + 5), .inl (cI, 96, .inl nstk)), (ad (b0 + 6), .inl (cI, 12, .inl nsle)), (ad (b0 + 7), .inl (cI, 12, .inl nye)), (ad (b0 + 8), .inl (cI, 12, .inl nre)), (ad (b0 + 9), .inr (6, [.int 6, .ref (ad (b0 + 10)), .ref (ad (b0 + 11)), .int npct])), (ad (b0 + 10), .inl (cI, 48, .inl nptk)), (ad (b0 + 11), .inl (cI, 6, .inl nple)), (ad (b0 + 12), .inl (cI, 4, .inl nco)), (ad (b0 + 13), .inr (3, [.ref (ad (b0 + 14)), .int hnx, .int hcn])), (ad (b0 + 14), .inl (cS, 5, .inr (.inr (.inr (.inr (fun i => if i < 5 then some (ad (b0 + 15 + 10 * i)) else none)))))), (ad (b0 + 15), .inr (7, [.ref (ad (b0 + 16)), .ref (ad (b0 + 19)), .ref (ad (b0 + 20)), .ref (ad (b0 + 21)), .ref (ad (b0 + 24)), .int (hrli 0)])), (ad (b0 + 16), .inr (6, [.int 12, .ref (ad (b0 + 17)), .ref (ad (b0 + 18)), .int (hrsct 0)])), (ad (b0 + 17), .inl (cI, 96, .inl (hrstk 0))), (ad (b0 + 18), .inl (cI, 12, .inl (hrsle 0))), (ad (b0 + 19), .inl (cI, 12, .inl (hrye 0))), (ad (b0 + 20), .inl (cI, 12, .inl (hrre 0))), (ad (b0 + 21), .inr (6, [.int 6, .ref (ad (b0 + 22)), .ref (ad (b0 + 23)), .int (hrpct 0)])), (ad (b0 + 22), .inl (cI, 48, .inl (hrptk 0))), (ad (b0 + 23), .inl (cI, 6, .inl (hrple 0))), (ad (b0 + 24), .inl (cI, 4, .inl (hrco 0))), (ad (b0 + 25), .inr (7, [.ref (ad (b0 + 26)), .ref (ad (b0 + 29)), .ref (ad (b0 + 30)), .ref (ad (b0 + 31)), .ref (ad (b0 + 34)), .int (hrli 1)])), (ad (b0 + 26), .inr (6, [.int 12, .ref (ad (b0 + 27)), .ref (ad (b0 + 28)), .int (hrsct 1)])), (ad (b0 + 27), .inl (cI, 96, .inl (hrstk 1))), (ad (b0 + 28), .inl (cI, 12, .inl (hrsle 1))), (ad (b0 + 29), .inl (cI, 12, .inl (hrye 1))), (ad (b0 + 30), .inl (cI, 12, .inl (hrre 1))), (ad (b0 + 31), .inr (6, [.int 6, .ref (ad (b0 + 32)), .ref (ad (b0 + 33)), .int (hrpct 1)])), (ad (b0 + 32), .inl (cI, 48, .inl (hrptk 1))), (ad (b0 + 33), .inl (cI, 6, .inl (hrple 1))), (ad (b0 + 34), .inl (cI, 4, .inl (hrco 1))), (ad (b0 + 35), .inr (7, [.ref (ad (b0 + 36)), .ref (ad (b0 + 39)), .ref (ad (b0 + 40)), .ref (ad (b0 + 41)), .ref (ad (b0 + 44)), .int (hrli 2)])), (ad (b0 + 36), .inr (6, [.int 12, .ref (ad (b0 + 37)), .ref (ad (b0 + 38)), .int (hrsct 2)])), (ad (b0 + 37), .inl (cI, 96, .inl (hrstk 2))), (ad (b0 + 38), .inl (cI, 12, .inl (hrsle 2))), (ad (b0 + 39), .inl (cI, 12, .inl (hrye 2))), (ad (b0 + 40), .inl (cI, 12, .inl (hrre 2))), (ad (b0 + 41), .inr (6, [.int 6, .ref (ad (b0 + 42)), .ref (ad (b0 + 43)), .int (hrpct 2)])), (ad (b0 + 42), .inl (cI, 48, .inl (hrptk 2))), (ad (b0 + 43), .inl (cI, 6, .inl (hrple 2))), (ad (b0 + 44), .inl (cI, 4, .inl (hrco 2))), (ad (b0 + 45), .inr (7, [.ref (ad (b0 + 46)), .ref (ad (b0 + 49)), .ref (ad (b0 + 50)), .ref (ad (b0 + 51)), .ref (ad (b0 + 54)), .int (hrli 3)])), (ad (b0 + 46), .inr (6, [.int 12, .ref (ad (b0 + 47)), .ref (ad (b0 + 48)), .int (hrsct 3)])), (ad (b0 + 47), .inl (cI, 96, .inl (hrstk 3))), (ad (b0 + 48), .inl (cI, 12, .inl (hrsle 3))), (ad (b0 + 49), .inl (cI, 12, .inl (hrye 3))), (ad (b0 + 50), .inl (cI, 12, .inl (hrre 3))), (ad (b0 + 51), .inr (6, [.int 6, .ref (ad (b0 + 52)), .ref (ad (b0 + 53)), .int (hrpct 3)])), (ad (b0 + 52), .inl (cI, 48, .inl (hrptk 3))), (ad (b0 + 53), .inl (cI, 6, .inl (hrple 3))), (ad (b0 + 54), .inl (cI, 4, .inl (hrco 3))), (ad (b0 + 55), .inr (7, [.ref (ad (b0 + 56)), .ref (ad (b0 + 59)), .ref (ad (b0 + 60)), .ref (ad (b0 + 61)), .ref (ad (b0 + 64)), .int (hrli 4)])), (ad (b0 + 56), .inr (6, [.int 12, .ref (ad (b0 + 57)), .ref (ad (b0 + 58)), .int (hrsct 4)])), (ad (b0 + 57), .inl (cI, 96, .inl (hrstk 4))), (ad (b0 + 58), .inl (cI, 12, .inl (hrsle 4))), (ad (b0 + 59), .inl (cI, 12, .inl (hrye 4))), (ad (b0 + 60), .inl (cI, 12, .inl (hrre 4))), (ad (b0 + 61), .inr (6, [.int 6, .ref (ad (b0 + 62)), .ref (ad (b0 + 63)), .int (hrpct 4)])), (ad (b0 + 62), .inl (cI, 48, .inl (hrptk 4))), (ad (b0 + 63), .inl (cI, 6, .inl (hrple 4))), (ad (b0 + 64), .inl (cI, 4, .inl (hrco 4))), (ad (b0 + 65), .inr (1, [.ref (ad (b0 + 66)), .ref (ad (b0 + 68)), .ref (ad (b0 + 70)), .ref (ad (b0 + 80)), .int eld])), (ad (b0 + 66), .inr (5, [.ref (ad (b0 + 67)), .int efln])), (ad (b0 + 67), .inl (cI, 8, .inl eftk)), (ad (b0 + 68), .inr (5, [.ref (ad (b0 + 69)), .int egln])), (ad (b0 + 69), .inl (cI, 8, .inl egtk)), (ad (b0 + 70), .inl (cT, 9, .inr (.inr (.inr (.inr (fun i => if i < 9 then some (ad (b0 + 71 + i)) else none)))))), (ad (b0 + 71 + 0), .inl (cI, 9, .inl (etb 0))), (ad (b0 + 71 + 1), .inl (cI, 9, .inl (etb 1))), (ad (b0 + 71 + 2), .inl (cI, 9, .inl (etb 2))), (ad (b0 + 71 + 3), .inl (cI, 9, .inl (etb 3))), (ad (b0 + 71 + 4), .inl (cI, 9, .inl (etb 4))), (ad (b0 + 71 + 5), .inl (cI, 9, .inl (etb 5))), (ad (b0 + 71 + 6), .inl (cI, 9, .inl (etb 6))), (ad (b0 + 71 + 7), .inl (cI, 9, .inl (etb 7))), (ad (b0 + 71 + 8), .inl (cI, 9, .inl (etb 8))), (ad (b0 + 80), .inl (cI, 16, .inl els)), (ad (b0 + 88), .inr (2, [.ref (ad (b0 + 89)), .ref (ad (b0 + 90)), .ref (ad (b0 + 91)), .int ggc])), (ad (b0 + 89), .inl (cI, 12, .inl gor)), (ad (b0 + 90), .inl (cI, 12, .inl gme)), (ad (b0 + 91), .inl (cI, 12, .inl gce)), (ad (b0 + 99), .inl (cI, 12, .inl ao)), (ad b1, .inl (cI, fN, .inl fa))]
def rm_L_isWhole : Room := { frames := 8, cells := 0, slots := 0, locals := 195 }
theorem kL_isWhole : KS yL_isWhole cL_isWhole 10 (some .boolean) 2 := ⟨wq_256, wq_195, wq_255, by decide +kernel⟩
def B_L_isWhole_27 (v4 : Int32) (v2 : Int32) (nli : Int32) (nsct : Int32) (nye : Nat → Int32) (K : Int32 → Int32 → (Nat → Int32) → Prop) (rc : Int32 → Int32 → (Nat → Int32) → Prop) (v5 : Int32) (v3 : Int32) (ao : Nat → Int32) : Prop :=
  (v2 ≤ v5 → K v5 v3 ao) ∧ (¬ v2 ≤ v5 → ((v4 = 0 → K v5 v3 ao) ∧ (¬ v4 = 0 → P_X8_byAge v5 nli nsct nye ao (fun r6 u5 => rc (v5 + (1 : Int32)) (v3 ||| ((1 : Int32) <<< (r6 &&& 31))) u5))))
def P_L_isWhole_27 (v4 : Int32) (v2 : Int32) (nli : Int32) (nsct : Int32) (nye : Nat → Int32) (K : Int32 → Int32 → (Nat → Int32) → Prop) : Nat → Int32 → Int32 → (Nat → Int32) → Prop
  | 0 => fun _ _ _ => False
  | n + 1 => fun v5 v3 ao => B_L_isWhole_27 v4 v2 nli nsct nye K (P_L_isWhole_27 v4 v2 nli nsct nye K n) v5 v3 ao
def B_L_isWhole_98 (fN : Nat) (v5 : Int32) (v2 : Int32) (nli : Int32) (nsct : Int32) (nstk : Nat → Int32) (nsle : Nat → Int32) (nco : Nat → Int32) (fa : Nat → Int32) (K : Int32 → Int32 → Int32 → Int32 → Int32 → (Nat → Int32) → Int32 → (Nat → Int32) → (Nat → Nat → Int32) → (Nat → Int32) → Prop) (rc : Int32 → Int32 → Int32 → Int32 → Int32 → (Nat → Int32) → Int32 → (Nat → Int32) → (Nat → Nat → Int32) → (Nat → Int32) → Prop) (v7 : Int32) (v6 : Int32) (v4 : Int32) (eld : Int32) (efln : Int32) (eftk : Nat → Int32) (egln : Int32) (egtk : Nat → Int32) (etb : Nat → Nat → Int32) (els : Nat → Int32) : Prop :=
  (v2 ≤ v7 → K v7 v6 v4 eld efln eftk egln egtk etb els) ∧ (¬ v2 ≤ v7 → ((v4 = 0 → K v7 v6 v4 eld efln eftk egln egtk etb els) ∧ (¬ v4 = 0 → (P_X8_distance v5 v7 nli nsct nstk nsle nco eld efln eftk egln egtk etb (fun r14 u9 u10 u11 u12 u13 => vp_in (0 : Int32) fN ∧ (P_X8_lengthOf v5 nli nsct nsle (fun r15 => P_X8_lengthOf v7 nli nsct nsle (fun r16 => ∃ J79 : Int32 → Int32 → Int32 → (Nat → Int32) → Int32 → (Nat → Int32) → (Nat → Nat → Int32) → (Nat → Int32) → Prop, (∀ (j0_79 : Int32) (eld_79 : Int32) (efln_79 : Int32) (eftk_79 : Nat → Int32) (egln_79 : Int32) (egtk_79 : Nat → Int32) (etb_79 : Nat → Nat → Int32) (els_79 : Nat → Int32), J79 j0_79 eld_79 efln_79 eftk_79 egln_79 egtk_79 etb_79 els_79 → (∃ J80 : Int32 → Prop, (∀ (j0_80 : Int32), J80 j0_80 → (rc (v7 + (1 : Int32)) j0_80 j0_79 eld_79 efln_79 eftk_79 egln_79 egtk_79 etb_79 els_79)) ∧ ((v5 = v7 → J80 v6) ∧ (¬ v5 = v7 → ((v6 ≤ r14 → J80 v6) ∧ (¬ v6 ≤ r14 → J80 r14)))))) ∧ (P_X8_distance v7 v5 nli nsct nstk nsle nco eld u9 u10 u11 u12 u13 (fun r86 u81 u82 u83 u84 u85 => (¬ r14 = r86 → J79 (0 : Int32) eld u81 u82 u83 u84 u85 els) ∧ (r14 = r86 → ((r14 < 0 → J79 (0 : Int32) eld u81 u82 u83 u84 u85 els) ∧ (¬ r14 < 0 → ((((fa (Int32.toNatClampNeg (0 : Int32))) * (r15 + r16)) < r14 → J79 (0 : Int32) eld u81 u82 u83 u84 u85 els) ∧ (¬ ((fa (Int32.toNatClampNeg (0 : Int32))) * (r15 + r16)) < r14 → ((¬ r14 = 0 → (P_X8_editCount v5 v7 nli nsct nstk nsle nco eld u81 u82 u83 u84 u85 els (fun r94 u87 u88 u89 u90 u91 u92 u93 => (¬ r94 = 0 → (P_L_isEdited fN v5 v7 nli nsct nstk nsle nco u87 u88 u89 u90 u91 u92 u93 fa (fun r102 u95 u96 u97 u98 u99 u100 u101 => (r102 = 0 → J79 (0 : Int32) u95 u96 u97 u98 u99 u100 u101) ∧ (¬ r102 = 0 → (P_X8_similarityBits v5 v7 nli nsct nstk nsle nco u95 u96 u97 u98 u99 u100 (fun r108 u103 u104 u105 u106 u107 => P_X8_similarityBits v7 v5 nli nsct nstk nsle nco u95 u103 u104 u105 u106 u107 (fun r114 u109 u110 u111 u112 u113 => (¬ r108 = r114 → J79 (0 : Int32) u95 u109 u110 u111 u112 u113 u101) ∧ (r108 = r114 → J79 (1 : Int32) u95 u109 u110 u111 u112 u113 u101)))))))) ∧ (r94 = 0 → J79 (0 : Int32) u87 u88 u89 u90 u91 u92 u93)))) ∧ (r14 = 0 → (P_X8_editCount v5 v7 nli nsct nstk nsle nco eld u81 u82 u83 u84 u85 els (fun r122 u115 u116 u117 u118 u119 u120 u121 => (¬ r122 = 0 → J79 (0 : Int32) u115 u116 u117 u118 u119 u120 u121) ∧ (r122 = 0 → (P_L_isEdited fN v5 v7 nli nsct nstk nsle nco u115 u116 u117 u118 u119 u120 u121 fa (fun r130 u123 u124 u125 u126 u127 u128 u129 => (r130 = 0 → J79 (0 : Int32) u123 u124 u125 u126 u127 u128 u129) ∧ (¬ r130 = 0 → (P_X8_similarityBits v5 v7 nli nsct nstk nsle nco u123 u124 u125 u126 u127 u128 (fun r136 u131 u132 u133 u134 u135 => P_X8_similarityBits v7 v5 nli nsct nstk nsle nco u123 u131 u132 u133 u134 u135 (fun r142 u137 u138 u139 u140 u141 => (¬ r136 = r142 → J79 (0 : Int32) u123 u137 u138 u139 u140 u141 u129) ∧ (r136 = r142 → J79 (1 : Int32) u123 u137 u138 u139 u140 u141 u129)))))))))))))))))))))))))))
def P_L_isWhole_98 (fN : Nat) (v5 : Int32) (v2 : Int32) (nli : Int32) (nsct : Int32) (nstk : Nat → Int32) (nsle : Nat → Int32) (nco : Nat → Int32) (fa : Nat → Int32) (K : Int32 → Int32 → Int32 → Int32 → Int32 → (Nat → Int32) → Int32 → (Nat → Int32) → (Nat → Nat → Int32) → (Nat → Int32) → Prop) : Nat → Int32 → Int32 → Int32 → Int32 → Int32 → (Nat → Int32) → Int32 → (Nat → Int32) → (Nat → Nat → Int32) → (Nat → Int32) → Prop
  | 0 => fun _ _ _ _ _ _ _ _ _ _ => False
  | n + 1 => fun v7 v6 v4 eld efln eftk egln egtk etb els => B_L_isWhole_98 fN v5 v2 nli nsct nstk nsle nco fa K (P_L_isWhole_98 fN v5 v2 nli nsct nstk nsle nco fa K n) v7 v6 v4 eld efln eftk egln egtk etb els
def B_L_isWhole_79 (fN : Nat) (v2 : Int32) (nli : Int32) (nsct : Int32) (nstk : Nat → Int32) (nsle : Nat → Int32) (nye : Nat → Int32) (nco : Nat → Int32) (fa : Nat → Int32) (K : Int32 → Int32 → Int32 → Int32 → (Nat → Int32) → Int32 → (Nat → Int32) → (Nat → Nat → Int32) → (Nat → Int32) → (Nat → Int32) → Prop) (rc : Int32 → Int32 → Int32 → Int32 → (Nat → Int32) → Int32 → (Nat → Int32) → (Nat → Nat → Int32) → (Nat → Int32) → (Nat → Int32) → Prop) (v5 : Int32) (v4 : Int32) (eld : Int32) (efln : Int32) (eftk : Nat → Int32) (egln : Int32) (egtk : Nat → Int32) (etb : Nat → Nat → Int32) (els : Nat → Int32) (ao : Nat → Int32) : Prop :=
  (v2 ≤ v5 → K v5 v4 eld efln eftk egln egtk etb els ao) ∧ (¬ v2 ≤ v5 → ((v4 = 0 → K v5 v4 eld efln eftk egln egtk etb els ao) ∧ (¬ v4 = 0 → (∃ n : Nat, P_L_isWhole_98 fN v5 v2 nli nsct nstk nsle nco fa (fun w7_143 w6_143 w4_143 eld_143 efln_143 eftk_143 egln_143 egtk_143 etb_143 els_143 => P_X8_nearest v5 nli nsct nstk nsle nye nco eld_143 efln_143 eftk_143 egln_143 egtk_143 etb_143 ao (fun r150 u144 u145 u146 u147 u148 u149 => ∃ J163 : Int32 → Int32 → (Nat → Int32) → Int32 → (Nat → Int32) → (Nat → Nat → Int32) → Prop, (∀ (j0_163 : Int32) (efln_163 : Int32) (eftk_163 : Nat → Int32) (egln_163 : Int32) (egtk_163 : Nat → Int32) (etb_163 : Nat → Nat → Int32), J163 j0_163 efln_163 eftk_163 egln_163 egtk_163 etb_163 → (rc (v5 + (1 : Int32)) j0_163 eld_143 efln_163 eftk_163 egln_163 egtk_163 etb_163 els_143 u149)) ∧ ((w4_143 = 0 → J163 (0 : Int32) u144 u145 u146 u147 u148) ∧ (¬ w4_143 = 0 → (P_X8_distance v5 v5 nli nsct nstk nsle nco eld_143 u144 u145 u146 u147 u148 (fun r169 u164 u165 u166 u167 u168 => (¬ r169 = 0 → J163 (0 : Int32) u164 u165 u166 u167 u168) ∧ (r169 = 0 → ((¬ v2 = (1 : Int32) → ((r150 = v5 → J163 (0 : Int32) u164 u165 u166 u167 u168) ∧ (¬ r150 = v5 → (P_X8_distance v5 r150 nli nsct nstk nsle nco eld_143 u164 u165 u166 u167 u168 (fun r175 u170 u171 u172 u173 u174 => (¬ r175 = w6_143 → J163 (0 : Int32) u170 u171 u172 u173 u174) ∧ (r175 = w6_143 → J163 (1 : Int32) u170 u171 u172 u173 u174)))))) ∧ (v2 = (1 : Int32) → ((¬ r150 = (-4 : Int32) → J163 (0 : Int32) u164 u165 u166 u167 u168) ∧ (r150 = (-4 : Int32) → J163 (1 : Int32) u164 u165 u166 u167 u168))))))))))) n (0 : Int32) (10000 : Int32) v4 eld efln eftk egln egtk etb els))))
def P_L_isWhole_79 (fN : Nat) (v2 : Int32) (nli : Int32) (nsct : Int32) (nstk : Nat → Int32) (nsle : Nat → Int32) (nye : Nat → Int32) (nco : Nat → Int32) (fa : Nat → Int32) (K : Int32 → Int32 → Int32 → Int32 → (Nat → Int32) → Int32 → (Nat → Int32) → (Nat → Nat → Int32) → (Nat → Int32) → (Nat → Int32) → Prop) : Nat → Int32 → Int32 → Int32 → Int32 → (Nat → Int32) → Int32 → (Nat → Int32) → (Nat → Nat → Int32) → (Nat → Int32) → (Nat → Int32) → Prop
  | 0 => fun _ _ _ _ _ _ _ _ _ _ => False
  | n + 1 => fun v5 v4 eld efln eftk egln egtk etb els ao => B_L_isWhole_79 fN v2 nli nsct nstk nsle nye nco fa K (P_L_isWhole_79 fN v2 nli nsct nstk nsle nye nco fa K n) v5 v4 eld efln eftk egln egtk etb els ao
def P_L_isWhole (fN : Nat) (nli : Int32) (nsct : Int32) (nstk : Nat → Int32) (nsle : Nat → Int32) (nye : Nat → Int32) (nre : Nat → Int32) (npct : Int32) (nptk : Nat → Int32) (nple : Nat → Int32) (nco : Nat → Int32) (hnx : Int32) (hcn : Int32) (hrli : Nat → Int32) (hrsct : Nat → Int32) (hrstk : Nat → Nat → Int32) (hrsle : Nat → Nat → Int32) (hrye : Nat → Nat → Int32) (hrre : Nat → Nat → Int32) (hrpct : Nat → Int32) (hrptk : Nat → Nat → Int32) (hrple : Nat → Nat → Int32) (hrco : Nat → Nat → Int32) (eld : Int32) (efln : Int32) (eftk : Nat → Int32) (egln : Int32) (egtk : Nat → Int32) (etb : Nat → Nat → Int32) (els : Nat → Int32) (ggc : Int32) (gor : Nat → Int32) (gme : Nat → Int32) (gce : Nat → Int32) (ao : Nat → Int32) (fa : Nat → Int32) (post : Int32 → Int32 → Int32 → (Nat → Int32) → (Nat → Int32) → (Nat → Int32) → (Nat → Int32) → Int32 → (Nat → Int32) → (Nat → Int32) → (Nat → Int32) → Int32 → Int32 → (Nat → Int32) → (Nat → Int32) → (Nat → Nat → Int32) → (Nat → Nat → Int32) → (Nat → Nat → Int32) → (Nat → Nat → Int32) → (Nat → Int32) → (Nat → Nat → Int32) → (Nat → Nat → Int32) → (Nat → Nat → Int32) → Int32 → Int32 → (Nat → Int32) → Int32 → (Nat → Int32) → (Nat → Nat → Int32) → (Nat → Int32) → Int32 → (Nat → Int32) → (Nat → Int32) → (Nat → Int32) → (Nat → Int32) → Prop) : Prop :=
  P_X8_sayingCount nli nsct (fun r1 => ∃ J4 : Int32 → (Nat → Int32) → Prop, (∀ (j0_4 : Int32) (ao_4 : Nat → Int32), J4 j0_4 ao_4 → (∃ n : Nat, P_L_isWhole_27 j0_4 r1 nli nsct nye (fun w5_7 w3_7 ao_7 => ∃ J8 : Int32 → Prop, (∀ (j0_8 : Int32), J8 j0_8 → (∃ n : Nat, P_L_isWhole_79 fN r1 nli nsct nstk nsle nye nco fa (fun w5_176 w4_176 eld_176 efln_176 eftk_176 egln_176 egtk_176 etb_176 els_176 ao_176 => (w4_176 = 0 → post (0 : Int32) nli nsct nstk nsle nye nre npct nptk nple nco hnx hcn hrli hrsct hrstk hrsle hrye hrre hrpct hrptk hrple hrco eld_176 efln_176 eftk_176 egln_176 egtk_176 etb_176 els_176 ggc gor gme gce ao_176) ∧ (¬ w4_176 = 0 → (P_L_areGroups r1 nli nsct nstk nsle nye nre npct nptk nple nco hnx hcn hrli hrsct hrstk hrsle hrye hrre hrpct hrptk hrple hrco eld_176 efln_176 eftk_176 egln_176 egtk_176 etb_176 ggc gor gme gce (fun r208 u177 u178 u179 u180 u181 u182 u183 u184 u185 u186 u187 u188 u189 u190 u191 u192 u193 u194 u195 u196 u197 u198 u199 u200 u201 u202 u203 u204 u205 u206 u207 => (r208 = 0 → post (0 : Int32) u177 u178 u179 u180 u181 u182 u183 u184 u185 u186 u187 u188 u189 u190 u191 u192 u193 u194 u195 u196 u197 u198 eld_176 u199 u200 u201 u202 u203 els_176 u204 u205 u206 u207 ao_176) ∧ (¬ r208 = 0 → post (1 : Int32) u177 u178 u179 u180 u181 u182 u183 u184 u185 u186 u187 u188 u189 u190 u191 u192 u193 u194 u195 u196 u197 u198 eld_176 u199 u200 u201 u202 u203 els_176 u204 u205 u206 u207 ao_176))))) n (0 : Int32) j0_8 eld efln eftk egln egtk etb els ao_7)) ∧ ((j0_4 = 0 → J8 (0 : Int32)) ∧ (¬ j0_4 = 0 → ((¬ w3_7 = (((1 : Int32) <<< (r1 &&& 31)) - (1 : Int32)) → J8 (0 : Int32)) ∧ (w3_7 = (((1 : Int32) <<< (r1 &&& 31)) - (1 : Int32)) → J8 (1 : Int32)))))) n (0 : Int32) (0 : Int32) ao_4)) ∧ (P_X8_byAge r1 nli nsct nye ao (fun r210 u209 => (¬ r210 = (-4 : Int32) → J4 (0 : Int32) u209) ∧ (r210 = (-4 : Int32) → J4 (1 : Int32) u209))))
set_option maxHeartbeats 4000000 in
set_option maxRecDepth 100000 in
theorem L_L_isWhole_27 {l : Launch} {D : va_G} {cI cS cT : ClassId} {ad : Nat → Nat} {b0 : Nat} {b1 : Nat} {E : CE} {fN : Nat} {v4 : Int32} {v2 : Int32} {nli : Int32} {nsct : Int32} {nstk : Nat → Int32} {nsle : Nat → Int32} {nye : Nat → Int32} {nre : Nat → Int32} {npct : Int32} {nptk : Nat → Int32} {nple : Nat → Int32} {nco : Nat → Int32} {hnx : Int32} {hcn : Int32} {hrli : Nat → Int32} {hrsct : Nat → Int32} {hrstk : Nat → Nat → Int32} {hrsle : Nat → Nat → Int32} {hrye : Nat → Nat → Int32} {hrre : Nat → Nat → Int32} {hrpct : Nat → Int32} {hrptk : Nat → Nat → Int32} {hrple : Nat → Nat → Int32} {hrco : Nat → Nat → Int32} {eld : Int32} {efln : Int32} {eftk : Nat → Int32} {egln : Int32} {egtk : Nat → Int32} {etb : Nat → Nat → Int32} {els : Nat → Int32} {ggc : Int32} {gor : Nat → Int32} {gme : Nat → Int32} {gce : Nat → Int32} {fa : Nat → Int32} {post : Int32 → Int32 → Int32 → (Nat → Int32) → (Nat → Int32) → (Nat → Int32) → (Nat → Int32) → Int32 → (Nat → Int32) → (Nat → Int32) → (Nat → Int32) → Int32 → Int32 → (Nat → Int32) → (Nat → Int32) → (Nat → Nat → Int32) → (Nat → Nat → Int32) → (Nat → Nat → Int32) → (Nat → Nat → Int32) → (Nat → Int32) → (Nat → Nat → Int32) → (Nat → Nat → Int32) → (Nat → Nat → Int32) → Int32 → Int32 → (Nat → Int32) → Int32 → (Nat → Int32) → (Nat → Nat → Int32) → (Nat → Int32) → Int32 → (Nat → Int32) → (Nat → Int32) → (Nat → Int32) → (Nat → Int32) → Prop} (hC : Cx l D (TY cI cS cT) E rm_L_isWhole cL_isWhole RL) (hR : RetI D E (fun (r : Int32) w => ∃ (u_nli : Int32) (u_nsct : Int32) (u_nstk : Nat → Int32) (u_nsle : Nat → Int32) (u_nye : Nat → Int32) (u_nre : Nat → Int32) (u_npct : Int32) (u_nptk : Nat → Int32) (u_nple : Nat → Int32) (u_nco : Nat → Int32) (u_hnx : Int32) (u_hcn : Int32) (u_hrli : Nat → Int32) (u_hrsct : Nat → Int32) (u_hrstk : Nat → Nat → Int32) (u_hrsle : Nat → Nat → Int32) (u_hrye : Nat → Nat → Int32) (u_hrre : Nat → Nat → Int32) (u_hrpct : Nat → Int32) (u_hrptk : Nat → Nat → Int32) (u_hrple : Nat → Nat → Int32) (u_hrco : Nat → Nat → Int32) (u_eld : Int32) (u_efln : Int32) (u_eftk : Nat → Int32) (u_egln : Int32) (u_egtk : Nat → Int32) (u_etb : Nat → Nat → Int32) (u_els : Nat → Int32) (u_ggc : Int32) (u_gor : Nat → Int32) (u_gme : Nat → Int32) (u_gce : Nat → Int32) (u_ao : Nat → Int32), w = (Wd_L_isWhole cI cS cT ad b0 b1 fN u_nli u_nsct u_nstk u_nsle u_nye u_nre u_npct u_nptk u_nple u_nco u_hnx u_hcn u_hrli u_hrsct u_hrstk u_hrsle u_hrye u_hrre u_hrpct u_hrptk u_hrple u_hrco u_eld u_efln u_eftk u_egln u_egtk u_etb u_els u_ggc u_gor u_gme u_gce u_ao fa) ∧ post r u_nli u_nsct u_nstk u_nsle u_nye u_nre u_npct u_nptk u_nple u_nco u_hnx u_hcn u_hrli u_hrsct u_hrstk u_hrsle u_hrye u_hrre u_hrpct u_hrptk u_hrple u_hrco u_eld u_efln u_eftk u_egln u_egtk u_etb u_els u_ggc u_gor u_gme u_gce u_ao) 0 0 (some .boolean)) (hn : E.nL = 10) (K : Int32 → Int32 → (Nat → Int32) → Prop) (hK : ∀ (v5 : Int32) (v3 : Int32) (ao : Nat → Int32), K v5 v3 ao → G l D E 0 0 (Wd_L_isWhole cI cS cT ad b0 b1 fN nli nsct nstk nsle nye nre npct nptk nple nco hnx hcn hrli hrsct hrstk hrsle hrye hrre hrpct hrptk hrple hrco eld efln eftk egln egtk etb els ggc gor gme gce ao fa) [(5, .int v5), (4, .int v4), (3, .int v3), (2, .int v2), (0, .ref (ad b0)), (1, .ref (ad b1))] 55 []) : ∀ (n : Nat) (v5 : Int32) (v3 : Int32) (ao : Nat → Int32), P_L_isWhole_27 v4 v2 nli nsct nye K n v5 v3 ao → G l D E 0 0 (Wd_L_isWhole cI cS cT ad b0 b1 fN nli nsct nstk nsle nye nre npct nptk nple nco hnx hcn hrli hrsct hrstk hrsle hrye hrre hrpct hrptk hrple hrco eld efln eftk egln egtk etb els ggc gor gme gce ao fa) [(5, .int v5), (4, .int v4), (3, .int v3), (2, .int v2), (0, .ref (ad b0)), (1, .ref (ad b1))] 27 [] := by
  intro n
  induction n with
  | zero => exact fun _ _ _ h => h.elim
  | succ n ih =>
    intro v5 v3 ao h
    replace h : B_L_isWhole_27 v4 v2 nli nsct nye K (P_L_isWhole_27 v4 v2 nli nsct nye K n) v5 v3 ao := h
    unfold B_L_isWhole_27 at h
    refine g_iload 27 0 hC dL_isWhole_27 rfl ?_
    refine g_iload_n 29 3 hC dL_isWhole_29 rfl ?_
    refine g_icmp_ge 30 55 hC dL_isWhole_30 (by decide) (fun hc => ?_) (fun hc => ?_)
    · replace h := h.1 hc
      refine G.sub [0, 1, 2, 3, 4, 5] rfl ?_
      exact hK v5 v3 ao h
    · replace h := h.2 hc
      refine g_iload 33 1 hC dL_isWhole_33 rfl ?_
      refine g_if_eq 35 55 hC dL_isWhole_35 (by decide) (fun hc => ?_) (fun hc => ?_)
      · replace h := h.1 hc
        refine G.sub [0, 1, 2, 3, 4, 5] rfl ?_
        exact hK v5 v3 ao h
      · replace h := h.2 hc
        refine g_iload_n 38 2 hC dL_isWhole_38 rfl ?_
        refine g_iconst (v := (1 : Int32)) 39 hC dL_isWhole_39 (by decide) ?_
        refine g_aload_n 40 4 hC dL_isWhole_40 rfl ?_
        refine g_iload 41 0 hC dL_isWhole_41 rfl ?_
        refine g_cVi (As := [.int v5]) (rest := [.int (1 : Int32), .int v3]) 43 0 [0, 1, 2, 5, 83] hC (c_X8_byAge l D cI cS cT ad b0 v5 nli nsct nye ao _ h) kX8_byAge wq_189 dL_isWhole_43 rfl rfl ⟨Nat.le_of_ble_eq_true rfl, Nat.le_of_ble_eq_true rfl⟩ rfl rfl (Nat.zero_le _) (Nat.zero_le _) rfl rfl rfl (Nat.le_of_ble_eq_true rfl) ?_
        rintro r6 _ ⟨u5, rfl, h⟩
        refine ⟨Nat.le_of_ble_eq_true rfl, G.upd2 [3, 4, 6, 7, 8, 9, 10, 11, 12, 13, 14, 15, 16, 17, 18, 19, 20, 21, 22, 23, 24, 25, 26, 27, 28, 29, 30, 31, 32, 33, 34, 35, 36, 37, 38, 39, 40, 41, 42, 43, 44, 45, 46, 47, 48, 49, 50, 51, 52, 53, 54, 55, 56, 57, 58, 59, 60, 61, 62, 63, 64, 65, 66, 67, 68, 69, 70, 71, 72, 73, 74, 75, 76, 77, 78, 79, 80, 81, 82, 84] (Wd_L_isWhole cI cS cT ad b0 b1 fN nli nsct nstk nsle nye nre npct nptk nple nco hnx hcn hrli hrsct hrstk hrsle hrye hrre hrpct hrptk hrple hrco eld efln eftk egln egtk etb els ggc gor gme gce u5 fa) 85 rfl rfl rfl rfl rfl (by decide +kernel) ?_⟩
        refine g_ishl 46 hC dL_isWhole_46 ?_
        refine g_ior 47 hC dL_isWhole_47 ?_
        refine g_istore_n 48 [(3, .int (v3 ||| ((1 : Int32) <<< (r6 &&& 31)))), (5, .int v5), (4, .int v4), (2, .int v2), (0, .ref (ad b0)), (1, .ref (ad b1))] hC dL_isWhole_48 (by rw [hn]; decide) rfl ?_
        refine g_iinc (v := (1 : Int32)) 49 1 [(5, .int (v5 + (1 : Int32))), (3, .int (v3 ||| ((1 : Int32) <<< (r6 &&& 31)))), (4, .int v4), (2, .int v2), (0, .ref (ad b0)), (1, .ref (ad b1))] hC dL_isWhole_49 rfl (by decide) (by rw [hn]; decide) rfl ?_
        refine g_goto 52 27 hC dL_isWhole_52 (by decide) ?_
        refine G.sub [0, 2, 1, 3, 4, 5] rfl ?_
        exact ih _ _ _ h
set_option maxHeartbeats 4000000 in
set_option maxRecDepth 100000 in
theorem L_L_isWhole_98 {l : Launch} {D : va_G} {cI cS cT : ClassId} {ad : Nat → Nat} {b0 : Nat} {b1 : Nat} {E : CE} {fN : Nat} {v5 : Int32} {v3 : Int32} {v2 : Int32} {nli : Int32} {nsct : Int32} {nstk : Nat → Int32} {nsle : Nat → Int32} {nye : Nat → Int32} {nre : Nat → Int32} {npct : Int32} {nptk : Nat → Int32} {nple : Nat → Int32} {nco : Nat → Int32} {hnx : Int32} {hcn : Int32} {hrli : Nat → Int32} {hrsct : Nat → Int32} {hrstk : Nat → Nat → Int32} {hrsle : Nat → Nat → Int32} {hrye : Nat → Nat → Int32} {hrre : Nat → Nat → Int32} {hrpct : Nat → Int32} {hrptk : Nat → Nat → Int32} {hrple : Nat → Nat → Int32} {hrco : Nat → Nat → Int32} {ggc : Int32} {gor : Nat → Int32} {gme : Nat → Int32} {gce : Nat → Int32} {ao : Nat → Int32} {fa : Nat → Int32} {post : Int32 → Int32 → Int32 → (Nat → Int32) → (Nat → Int32) → (Nat → Int32) → (Nat → Int32) → Int32 → (Nat → Int32) → (Nat → Int32) → (Nat → Int32) → Int32 → Int32 → (Nat → Int32) → (Nat → Int32) → (Nat → Nat → Int32) → (Nat → Nat → Int32) → (Nat → Nat → Int32) → (Nat → Nat → Int32) → (Nat → Int32) → (Nat → Nat → Int32) → (Nat → Nat → Int32) → (Nat → Nat → Int32) → Int32 → Int32 → (Nat → Int32) → Int32 → (Nat → Int32) → (Nat → Nat → Int32) → (Nat → Int32) → Int32 → (Nat → Int32) → (Nat → Int32) → (Nat → Int32) → (Nat → Int32) → Prop} (hC : Cx l D (TY cI cS cT) E rm_L_isWhole cL_isWhole RL) (hR : RetI D E (fun (r : Int32) w => ∃ (u_nli : Int32) (u_nsct : Int32) (u_nstk : Nat → Int32) (u_nsle : Nat → Int32) (u_nye : Nat → Int32) (u_nre : Nat → Int32) (u_npct : Int32) (u_nptk : Nat → Int32) (u_nple : Nat → Int32) (u_nco : Nat → Int32) (u_hnx : Int32) (u_hcn : Int32) (u_hrli : Nat → Int32) (u_hrsct : Nat → Int32) (u_hrstk : Nat → Nat → Int32) (u_hrsle : Nat → Nat → Int32) (u_hrye : Nat → Nat → Int32) (u_hrre : Nat → Nat → Int32) (u_hrpct : Nat → Int32) (u_hrptk : Nat → Nat → Int32) (u_hrple : Nat → Nat → Int32) (u_hrco : Nat → Nat → Int32) (u_eld : Int32) (u_efln : Int32) (u_eftk : Nat → Int32) (u_egln : Int32) (u_egtk : Nat → Int32) (u_etb : Nat → Nat → Int32) (u_els : Nat → Int32) (u_ggc : Int32) (u_gor : Nat → Int32) (u_gme : Nat → Int32) (u_gce : Nat → Int32) (u_ao : Nat → Int32), w = (Wd_L_isWhole cI cS cT ad b0 b1 fN u_nli u_nsct u_nstk u_nsle u_nye u_nre u_npct u_nptk u_nple u_nco u_hnx u_hcn u_hrli u_hrsct u_hrstk u_hrsle u_hrye u_hrre u_hrpct u_hrptk u_hrple u_hrco u_eld u_efln u_eftk u_egln u_egtk u_etb u_els u_ggc u_gor u_gme u_gce u_ao fa) ∧ post r u_nli u_nsct u_nstk u_nsle u_nye u_nre u_npct u_nptk u_nple u_nco u_hnx u_hcn u_hrli u_hrsct u_hrstk u_hrsle u_hrye u_hrre u_hrpct u_hrptk u_hrple u_hrco u_eld u_efln u_eftk u_egln u_egtk u_etb u_els u_ggc u_gor u_gme u_gce u_ao) 0 0 (some .boolean)) (hn : E.nL = 10) (K : Int32 → Int32 → Int32 → Int32 → Int32 → (Nat → Int32) → Int32 → (Nat → Int32) → (Nat → Nat → Int32) → (Nat → Int32) → Prop) (hK : ∀ (v7 : Int32) (v6 : Int32) (v4 : Int32) (eld : Int32) (efln : Int32) (eftk : Nat → Int32) (egln : Int32) (egtk : Nat → Int32) (etb : Nat → Nat → Int32) (els : Nat → Int32), K v7 v6 v4 eld efln eftk egln egtk etb els → G l D E 0 0 (Wd_L_isWhole cI cS cT ad b0 b1 fN nli nsct nstk nsle nye nre npct nptk nple nco hnx hcn hrli hrsct hrstk hrsle hrye hrre hrpct hrptk hrple hrco eld efln eftk egln egtk etb els ggc gor gme gce ao fa) [(7, .int v7), (6, .int v6), (5, .int v5), (4, .int v4), (3, .int v3), (2, .int v2), (0, .ref (ad b0)), (1, .ref (ad b1))] 259 []) : ∀ (n : Nat) (v7 : Int32) (v6 : Int32) (v4 : Int32) (eld : Int32) (efln : Int32) (eftk : Nat → Int32) (egln : Int32) (egtk : Nat → Int32) (etb : Nat → Nat → Int32) (els : Nat → Int32), P_L_isWhole_98 fN v5 v2 nli nsct nstk nsle nco fa K n v7 v6 v4 eld efln eftk egln egtk etb els → G l D E 0 0 (Wd_L_isWhole cI cS cT ad b0 b1 fN nli nsct nstk nsle nye nre npct nptk nple nco hnx hcn hrli hrsct hrstk hrsle hrye hrre hrpct hrptk hrple hrco eld efln eftk egln egtk etb els ggc gor gme gce ao fa) [(7, .int v7), (6, .int v6), (5, .int v5), (4, .int v4), (3, .int v3), (2, .int v2), (0, .ref (ad b0)), (1, .ref (ad b1))] 98 [] := by
  intro n
  induction n with
  | zero => exact fun _ _ _ _ _ _ _ _ _ _ h => h.elim
  | succ n ih =>
    intro v7 v6 v4 eld efln eftk egln egtk etb els h
    replace h : B_L_isWhole_98 fN v5 v2 nli nsct nstk nsle nco fa K (P_L_isWhole_98 fN v5 v2 nli nsct nstk nsle nco fa K n) v7 v6 v4 eld efln eftk egln egtk etb els := h
    unfold B_L_isWhole_98 at h
    refine g_iload 98 0 hC dL_isWhole_98 rfl ?_
    refine g_iload_n 100 5 hC dL_isWhole_100 rfl ?_
    refine g_icmp_ge 101 259 hC dL_isWhole_101 (by decide) (fun hc => ?_) (fun hc => ?_)
    · replace h := h.1 hc
      refine G.sub [0, 1, 2, 3, 4, 5, 6, 7] rfl ?_
      exact hK v7 v6 v4 eld efln eftk egln egtk etb els h
    · replace h := h.2 hc
      refine g_iload 104 3 hC dL_isWhole_104 rfl ?_
      refine g_if_eq 106 259 hC dL_isWhole_106 (by decide) (fun hc => ?_) (fun hc => ?_)
      · replace h := h.1 hc
        refine G.sub [0, 1, 2, 3, 4, 5, 6, 7] rfl ?_
        exact hK v7 v6 v4 eld efln eftk egln egtk etb els h
      · replace h := h.2 hc
        refine g_aload_n 109 6 hC dL_isWhole_109 rfl ?_
        refine g_iload 110 2 hC dL_isWhole_110 rfl ?_
        refine g_iload 112 0 hC dL_isWhole_112 rfl ?_
        refine g_cVi (As := [.int v5, .int v7]) (rest := []) 114 0 [0, 1, 2, 3, 4, 10, 63, 64, 65, 66, 67, 68, 69, 70, 71, 72, 73, 74, 75, 76, 77] hC (c_X8_distance l D cI cS cT ad b0 v5 v7 nli nsct nstk nsle nco eld efln eftk egln egtk etb _ h) kX8_distance wq_257 dL_isWhole_114 rfl rfl ⟨Nat.le_of_ble_eq_true rfl, Nat.le_of_ble_eq_true rfl⟩ rfl rfl (Nat.zero_le _) (Nat.zero_le _) rfl rfl rfl (Nat.le_of_ble_eq_true rfl) ?_
        rintro r14 _ ⟨u9, u10, u11, u12, u13, rfl, h⟩
        refine ⟨Nat.le_of_ble_eq_true rfl, G.upd2 [5, 6, 7, 8, 9, 11, 12, 13, 14, 15, 16, 17, 18, 19, 20, 21, 22, 23, 24, 25, 26, 27, 28, 29, 30, 31, 32, 33, 34, 35, 36, 37, 38, 39, 40, 41, 42, 43, 44, 45, 46, 47, 48, 49, 50, 51, 52, 53, 54, 55, 56, 57, 58, 59, 60, 61, 62, 78, 79, 80, 81, 82, 83, 84] (Wd_L_isWhole cI cS cT ad b0 b1 fN nli nsct nstk nsle nye nre npct nptk nple nco hnx hcn hrli hrsct hrstk hrsle hrye hrre hrpct hrptk hrple hrco eld u9 u10 u11 u12 u13 els ggc gor gme gce ao fa) 85 rfl rfl rfl rfl rfl (by decide +kernel) ?_⟩
        refine g_istore 117 [(8, .int r14), (7, .int v7), (6, .int v6), (5, .int v5), (4, .int v4), (3, .int v3), (2, .int v2), (0, .ref (ad b0)), (1, .ref (ad b1))] hC dL_isWhole_117 (by rw [hn]; decide) rfl ?_
        refine g_aload_n 119 8 hC dL_isWhole_119 rfl ?_
        refine g_iconst (v := (0 : Int32)) 120 hC dL_isWhole_120 (by decide) ?_
        obtain ⟨hj, h⟩ := h
        refine g_iald 121 84 hC dL_isWhole_121 rfl rfl hj ?_
        refine g_aload_n 122 7 hC dL_isWhole_122 rfl ?_
        refine g_iload 123 3 hC dL_isWhole_123 rfl ?_
        refine g_cVi (As := [.int v5]) (rest := [.int (fa (Int32.toNatClampNeg (0 : Int32)))]) 125 0 [0, 1, 2, 4] hC (c_X8_lengthOf l D cI cS cT ad b0 v5 nli nsct nsle _ h) kX8_lengthOf wq_230 dL_isWhole_125 rfl rfl ⟨Nat.le_of_ble_eq_true rfl, Nat.le_of_ble_eq_true rfl⟩ rfl rfl (Nat.zero_le _) (Nat.zero_le _) rfl rfl rfl (Nat.le_of_ble_eq_true rfl) ?_
        rintro r15 _ ⟨rfl, h⟩
        refine ⟨Nat.le_of_ble_eq_true rfl, G.upd2 [3, 5, 6, 7, 8, 9, 10, 11, 12, 13, 14, 15, 16, 17, 18, 19, 20, 21, 22, 23, 24, 25, 26, 27, 28, 29, 30, 31, 32, 33, 34, 35, 36, 37, 38, 39, 40, 41, 42, 43, 44, 45, 46, 47, 48, 49, 50, 51, 52, 53, 54, 55, 56, 57, 58, 59, 60, 61, 62, 63, 64, 65, 66, 67, 68, 69, 70, 71, 72, 73, 74, 75, 76, 77, 78, 79, 80, 81, 82, 83, 84] (Wd_L_isWhole cI cS cT ad b0 b1 fN nli nsct nstk nsle nye nre npct nptk nple nco hnx hcn hrli hrsct hrstk hrsle hrye hrre hrpct hrptk hrple hrco eld u9 u10 u11 u12 u13 els ggc gor gme gce ao fa) 85 rfl rfl rfl rfl rfl (by decide +kernel) ?_⟩
        refine g_aload_n 128 7 hC dL_isWhole_128 rfl ?_
        refine g_iload 129 1 hC dL_isWhole_129 rfl ?_
        refine g_cVi (As := [.int v7]) (rest := [.int r15, .int (fa (Int32.toNatClampNeg (0 : Int32)))]) 131 0 [0, 1, 2, 4] hC (c_X8_lengthOf l D cI cS cT ad b0 v7 nli nsct nsle _ h) kX8_lengthOf wq_230 dL_isWhole_131 rfl rfl ⟨Nat.le_of_ble_eq_true rfl, Nat.le_of_ble_eq_true rfl⟩ rfl rfl (Nat.zero_le _) (Nat.zero_le _) rfl rfl rfl (Nat.le_of_ble_eq_true rfl) ?_
        rintro r16 _ ⟨rfl, h⟩
        refine ⟨Nat.le_of_ble_eq_true rfl, G.upd2 [3, 5, 6, 7, 8, 9, 10, 11, 12, 13, 14, 15, 16, 17, 18, 19, 20, 21, 22, 23, 24, 25, 26, 27, 28, 29, 30, 31, 32, 33, 34, 35, 36, 37, 38, 39, 40, 41, 42, 43, 44, 45, 46, 47, 48, 49, 50, 51, 52, 53, 54, 55, 56, 57, 58, 59, 60, 61, 62, 63, 64, 65, 66, 67, 68, 69, 70, 71, 72, 73, 74, 75, 76, 77, 78, 79, 80, 81, 82, 83, 84] (Wd_L_isWhole cI cS cT ad b0 b1 fN nli nsct nstk nsle nye nre npct nptk nple nco hnx hcn hrli hrsct hrstk hrsle hrye hrre hrpct hrptk hrple hrco eld u9 u10 u11 u12 u13 els ggc gor gme gce ao fa) 85 rfl rfl rfl rfl rfl (by decide +kernel) ?_⟩
        refine g_iadd 134 hC dL_isWhole_134 ?_
        refine g_imul 135 hC dL_isWhole_135 ?_
        refine g_istore 136 [(9, .int ((fa (Int32.toNatClampNeg (0 : Int32))) * (r15 + r16))), (8, .int r14), (7, .int v7), (6, .int v6), (5, .int v5), (4, .int v4), (3, .int v3), (2, .int v2), (0, .ref (ad b0)), (1, .ref (ad b1))] hC dL_isWhole_136 (by rw [hn]; decide) rfl ?_
        obtain ⟨J79, hJ79, h⟩ := h
        have LJ79 : ∀ (j0_79 : Int32) (eld_79 : Int32) (efln_79 : Int32) (eftk_79 : Nat → Int32) (egln_79 : Int32) (egtk_79 : Nat → Int32) (etb_79 : Nat → Nat → Int32) (els_79 : Nat → Int32), J79 j0_79 eld_79 efln_79 eftk_79 egln_79 egtk_79 etb_79 els_79 → G l D E 0 0 (Wd_L_isWhole cI cS cT ad b0 b1 fN nli nsct nstk nsle nye nre npct nptk nple nco hnx hcn hrli hrsct hrstk hrsle hrye hrre hrpct hrptk hrple hrco eld_79 efln_79 eftk_79 egln_79 egtk_79 etb_79 els_79 ggc gor gme gce ao fa) [(9, .int ((fa (Int32.toNatClampNeg (0 : Int32))) * (r15 + r16))), (8, .int r14), (7, .int v7), (6, .int v6), (5, .int v5), (4, .int v4), (3, .int v3), (2, .int v2), (0, .ref (ad b0)), (1, .ref (ad b1))] 228 [.int j0_79] := by
          intro j0_79 eld_79 efln_79 eftk_79 egln_79 egtk_79 etb_79 els_79 h
          replace h := hJ79 j0_79 eld_79 efln_79 eftk_79 egln_79 egtk_79 etb_79 els_79 h
          refine g_istore 228 [(4, .int j0_79), (9, .int ((fa (Int32.toNatClampNeg (0 : Int32))) * (r15 + r16))), (8, .int r14), (7, .int v7), (6, .int v6), (5, .int v5), (3, .int v3), (2, .int v2), (0, .ref (ad b0)), (1, .ref (ad b1))] hC dL_isWhole_228 (by rw [hn]; decide) rfl ?_
          obtain ⟨J80, hJ80, h⟩ := h
          have LJ80 : ∀ (j0_80 : Int32), J80 j0_80 → G l D E 0 0 (Wd_L_isWhole cI cS cT ad b0 b1 fN nli nsct nstk nsle nye nre npct nptk nple nco hnx hcn hrli hrsct hrstk hrsle hrye hrre hrpct hrptk hrple hrco eld_79 efln_79 eftk_79 egln_79 egtk_79 etb_79 els_79 ggc gor gme gce ao fa) [(4, .int j0_79), (9, .int ((fa (Int32.toNatClampNeg (0 : Int32))) * (r15 + r16))), (8, .int r14), (7, .int v7), (6, .int v6), (5, .int v5), (3, .int v3), (2, .int v2), (0, .ref (ad b0)), (1, .ref (ad b1))] 251 [.int j0_80] := by
            intro j0_80 h
            replace h := hJ80 j0_80 h
            refine g_istore 251 [(6, .int j0_80), (4, .int j0_79), (9, .int ((fa (Int32.toNatClampNeg (0 : Int32))) * (r15 + r16))), (8, .int r14), (7, .int v7), (5, .int v5), (3, .int v3), (2, .int v2), (0, .ref (ad b0)), (1, .ref (ad b1))] hC dL_isWhole_251 (by rw [hn]; decide) rfl ?_
            refine g_iinc (v := (1 : Int32)) 253 4 [(7, .int (v7 + (1 : Int32))), (6, .int j0_80), (4, .int j0_79), (9, .int ((fa (Int32.toNatClampNeg (0 : Int32))) * (r15 + r16))), (8, .int r14), (5, .int v5), (3, .int v3), (2, .int v2), (0, .ref (ad b0)), (1, .ref (ad b1))] hC dL_isWhole_253 rfl (by decide) (by rw [hn]; decide) rfl ?_
            refine g_goto 256 98 hC dL_isWhole_256 (by decide) ?_
            refine G.sub [0, 1, 5, 2, 6, 7, 8, 9] rfl ?_
            exact ih _ _ _ _ _ _ _ _ _ _ h
          refine g_iload 230 5 hC dL_isWhole_230 rfl ?_
          refine g_iload 232 3 hC dL_isWhole_232 rfl ?_
          refine g_icmp_eq 234 249 hC dL_isWhole_234 (by decide) (fun hc => ?_) (fun hc => ?_)
          · replace h := h.1 hc
            refine g_iload 249 4 hC dL_isWhole_249 rfl ?_
            refine G.sub [0, 1, 2, 3, 4, 5, 6, 7, 8, 9] rfl ?_
            exact LJ80 _ h
          · replace h := h.2 hc
            refine g_iload 237 2 hC dL_isWhole_237 rfl ?_
            refine g_iload 239 4 hC dL_isWhole_239 rfl ?_
            refine g_icmp_ge 241 249 hC dL_isWhole_241 (by decide) (fun hc => ?_) (fun hc => ?_)
            · replace h := h.1 hc
              refine g_iload 249 4 hC dL_isWhole_249 rfl ?_
              refine G.sub [0, 1, 2, 3, 4, 5, 6, 7, 8, 9] rfl ?_
              exact LJ80 _ h
            · replace h := h.2 hc
              refine g_iload 244 2 hC dL_isWhole_244 rfl ?_
              refine g_goto 246 251 hC dL_isWhole_246 (by decide) ?_
              refine G.sub [0, 1, 2, 3, 4, 5, 6, 7, 8, 9] rfl ?_
              exact LJ80 _ h
        refine g_iload 138 1 hC dL_isWhole_138 rfl ?_
        refine g_aload_n 140 8 hC dL_isWhole_140 rfl ?_
        refine g_iload 141 2 hC dL_isWhole_141 rfl ?_
        refine g_iload 143 4 hC dL_isWhole_143 rfl ?_
        refine g_cVi (As := [.int v7, .int v5]) (rest := [.int r14]) 145 0 [0, 1, 2, 3, 4, 10, 63, 64, 65, 66, 67, 68, 69, 70, 71, 72, 73, 74, 75, 76, 77] hC (c_X8_distance l D cI cS cT ad b0 v7 v5 nli nsct nstk nsle nco eld u9 u10 u11 u12 u13 _ h) kX8_distance wq_257 dL_isWhole_145 rfl rfl ⟨Nat.le_of_ble_eq_true rfl, Nat.le_of_ble_eq_true rfl⟩ rfl rfl (Nat.zero_le _) (Nat.zero_le _) rfl rfl rfl (Nat.le_of_ble_eq_true rfl) ?_
        rintro r86 _ ⟨u81, u82, u83, u84, u85, rfl, h⟩
        refine ⟨Nat.le_of_ble_eq_true rfl, G.upd2 [5, 6, 7, 8, 9, 11, 12, 13, 14, 15, 16, 17, 18, 19, 20, 21, 22, 23, 24, 25, 26, 27, 28, 29, 30, 31, 32, 33, 34, 35, 36, 37, 38, 39, 40, 41, 42, 43, 44, 45, 46, 47, 48, 49, 50, 51, 52, 53, 54, 55, 56, 57, 58, 59, 60, 61, 62, 78, 79, 80, 81, 82, 83, 84] (Wd_L_isWhole cI cS cT ad b0 b1 fN nli nsct nstk nsle nye nre npct nptk nple nco hnx hcn hrli hrsct hrstk hrsle hrye hrre hrpct hrptk hrple hrco eld u81 u82 u83 u84 u85 els ggc gor gme gce ao fa) 85 rfl rfl rfl rfl rfl (by decide +kernel) ?_⟩
        refine g_icmp_ne 148 227 hC dL_isWhole_148 (by decide) (fun hc => ?_) (fun hc => ?_)
        · replace h := h.1 hc
          refine g_iconst (v := (0 : Int32)) 227 hC dL_isWhole_227 (by decide) ?_
          refine G.sub [0, 1, 2, 3, 4, 5, 6, 7, 8, 9] rfl ?_
          exact LJ79 _ _ _ _ _ _ _ _ h
        · replace h := h.2 hc
          refine g_iload 151 1 hC dL_isWhole_151 rfl ?_
          refine g_if_lt 153 227 hC dL_isWhole_153 (by decide) (fun hc => ?_) (fun hc => ?_)
          · replace h := h.1 hc
            refine g_iconst (v := (0 : Int32)) 227 hC dL_isWhole_227 (by decide) ?_
            refine G.sub [0, 1, 2, 3, 4, 5, 6, 7, 8, 9] rfl ?_
            exact LJ79 _ _ _ _ _ _ _ _ h
          · replace h := h.2 hc
            refine g_iload 156 1 hC dL_isWhole_156 rfl ?_
            refine g_iload 158 0 hC dL_isWhole_158 rfl ?_
            refine g_icmp_gt 160 227 hC dL_isWhole_160 (by decide) (fun hc => ?_) (fun hc => ?_)
            · replace h := h.1 hc
              refine g_iconst (v := (0 : Int32)) 227 hC dL_isWhole_227 (by decide) ?_
              refine G.sub [0, 1, 2, 3, 4, 5, 6, 7, 8, 9] rfl ?_
              exact LJ79 _ _ _ _ _ _ _ _ h
            · replace h := h.2 hc
              refine g_iload 163 1 hC dL_isWhole_163 rfl ?_
              refine g_if_ne 165 172 hC dL_isWhole_165 (by decide) (fun hc => ?_) (fun hc => ?_)
              · replace h := h.1 hc
                refine g_iconst (v := (0 : Int32)) 172 hC dL_isWhole_172 (by decide) ?_
                refine g_aload_n 173 8 hC dL_isWhole_173 rfl ?_
                refine g_iload 174 4 hC dL_isWhole_174 rfl ?_
                refine g_iload 176 2 hC dL_isWhole_176 rfl ?_
                refine g_cVi (As := [.int v5, .int v7]) (rest := [.int (0 : Int32)]) 178 0 [0, 1, 2, 3, 4, 10, 63, 64, 65, 66, 67, 68, 69, 70, 71, 72, 73, 74, 75, 76, 77, 78] hC (c_X8_editCount l D cI cS cT ad b0 v5 v7 nli nsct nstk nsle nco eld u81 u82 u83 u84 u85 els _ h) kX8_editCount wq_265 dL_isWhole_178 rfl rfl ⟨Nat.le_of_ble_eq_true rfl, Nat.le_of_ble_eq_true rfl⟩ rfl rfl (Nat.zero_le _) (Nat.zero_le _) rfl rfl rfl (Nat.le_of_ble_eq_true rfl) ?_
                rintro r94 _ ⟨u87, u88, u89, u90, u91, u92, u93, rfl, h⟩
                refine ⟨Nat.le_of_ble_eq_true rfl, G.upd2 [5, 6, 7, 8, 9, 11, 12, 13, 14, 15, 16, 17, 18, 19, 20, 21, 22, 23, 24, 25, 26, 27, 28, 29, 30, 31, 32, 33, 34, 35, 36, 37, 38, 39, 40, 41, 42, 43, 44, 45, 46, 47, 48, 49, 50, 51, 52, 53, 54, 55, 56, 57, 58, 59, 60, 61, 62, 79, 80, 81, 82, 83, 84] (Wd_L_isWhole cI cS cT ad b0 b1 fN nli nsct nstk nsle nye nre npct nptk nple nco hnx hcn hrli hrsct hrstk hrsle hrye hrre hrpct hrptk hrple hrco u87 u88 u89 u90 u91 u92 u93 ggc gor gme gce ao fa) 85 rfl rfl rfl rfl rfl (by decide +kernel) ?_⟩
                refine g_if_ne 181 188 hC dL_isWhole_181 (by decide) (fun hc => ?_) (fun hc => ?_)
                · replace h := h.1 hc
                  refine g_iconst (v := (0 : Int32)) 188 hC dL_isWhole_188 (by decide) ?_
                  refine g_icmp_ne 189 227 hC dL_isWhole_189 (by decide) (fun hc => absurd hc (by decide)) (fun _ => ?_)
                  refine g_aload_n 192 8 hC dL_isWhole_192 rfl ?_
                  refine g_aload_n 193 9 hC dL_isWhole_193 rfl ?_
                  refine g_iload 194 4 hC dL_isWhole_194 rfl ?_
                  refine g_iload 196 2 hC dL_isWhole_196 rfl ?_
                  refine g_cSi (As := [.ref (ad b0), .ref (ad b1), .int v5, .int v7]) (rest := []) 198 [0, 1, 2, 3, 4, 10, 63, 64, 65, 66, 67, 68, 69, 70, 71, 72, 73, 74, 75, 76, 77, 78, 84] hC (c_L_isEdited l D cI cS cT ad b0 b1 fN v5 v7 nli nsct nstk nsle nco u87 u88 u89 u90 u91 u92 u93 fa _ h) kL_isEdited wq_277 dL_isWhole_198 ⟨Nat.le_of_ble_eq_true rfl, Nat.le_of_ble_eq_true rfl⟩ rfl rfl (Nat.zero_le _) (Nat.zero_le _) rfl rfl rfl (Nat.le_of_ble_eq_true rfl) ?_
                  rintro r102 _ ⟨u95, u96, u97, u98, u99, u100, u101, rfl, h⟩
                  refine ⟨Nat.le_of_ble_eq_true rfl, G.upd2 [5, 6, 7, 8, 9, 11, 12, 13, 14, 15, 16, 17, 18, 19, 20, 21, 22, 23, 24, 25, 26, 27, 28, 29, 30, 31, 32, 33, 34, 35, 36, 37, 38, 39, 40, 41, 42, 43, 44, 45, 46, 47, 48, 49, 50, 51, 52, 53, 54, 55, 56, 57, 58, 59, 60, 61, 62, 79, 80, 81, 82, 83] (Wd_L_isWhole cI cS cT ad b0 b1 fN nli nsct nstk nsle nye nre npct nptk nple nco hnx hcn hrli hrsct hrstk hrsle hrye hrre hrpct hrptk hrple hrco u95 u96 u97 u98 u99 u100 u101 ggc gor gme gce ao fa) 85 rfl rfl rfl rfl rfl (by decide +kernel) ?_⟩
                  refine g_if_eq 201 227 hC dL_isWhole_201 (by decide) (fun hc => ?_) (fun hc => ?_)
                  · replace h := h.1 hc
                    refine g_iconst (v := (0 : Int32)) 227 hC dL_isWhole_227 (by decide) ?_
                    refine G.sub [0, 1, 2, 3, 4, 5, 6, 7, 8, 9] rfl ?_
                    exact LJ79 _ _ _ _ _ _ _ _ h
                  · replace h := h.2 hc
                    refine g_aload_n 204 8 hC dL_isWhole_204 rfl ?_
                    refine g_iload 205 4 hC dL_isWhole_205 rfl ?_
                    refine g_iload 207 2 hC dL_isWhole_207 rfl ?_
                    refine g_cVi (As := [.int v5, .int v7]) (rest := []) 209 0 [0, 1, 2, 3, 4, 10, 63, 64, 65, 66, 67, 68, 69, 70, 71, 72, 73, 74, 75, 76, 77] hC (c_X8_similarityBits l D cI cS cT ad b0 v5 v7 nli nsct nstk nsle nco u95 u96 u97 u98 u99 u100 _ h) kX8_similarityBits wq_294 dL_isWhole_209 rfl rfl ⟨Nat.le_of_ble_eq_true rfl, Nat.le_of_ble_eq_true rfl⟩ rfl rfl (Nat.zero_le _) (Nat.zero_le _) rfl rfl rfl (Nat.le_of_ble_eq_true rfl) ?_
                    rintro r108 _ ⟨u103, u104, u105, u106, u107, rfl, h⟩
                    refine ⟨Nat.le_of_ble_eq_true rfl, G.upd2 [5, 6, 7, 8, 9, 11, 12, 13, 14, 15, 16, 17, 18, 19, 20, 21, 22, 23, 24, 25, 26, 27, 28, 29, 30, 31, 32, 33, 34, 35, 36, 37, 38, 39, 40, 41, 42, 43, 44, 45, 46, 47, 48, 49, 50, 51, 52, 53, 54, 55, 56, 57, 58, 59, 60, 61, 62, 78, 79, 80, 81, 82, 83, 84] (Wd_L_isWhole cI cS cT ad b0 b1 fN nli nsct nstk nsle nye nre npct nptk nple nco hnx hcn hrli hrsct hrstk hrsle hrye hrre hrpct hrptk hrple hrco u95 u103 u104 u105 u106 u107 u101 ggc gor gme gce ao fa) 85 rfl rfl rfl rfl rfl (by decide +kernel) ?_⟩
                    refine g_aload_n 212 8 hC dL_isWhole_212 rfl ?_
                    refine g_iload 213 2 hC dL_isWhole_213 rfl ?_
                    refine g_iload 215 4 hC dL_isWhole_215 rfl ?_
                    refine g_cVi (As := [.int v7, .int v5]) (rest := [.int r108]) 217 0 [0, 1, 2, 3, 4, 10, 63, 64, 65, 66, 67, 68, 69, 70, 71, 72, 73, 74, 75, 76, 77] hC (c_X8_similarityBits l D cI cS cT ad b0 v7 v5 nli nsct nstk nsle nco u95 u103 u104 u105 u106 u107 _ h) kX8_similarityBits wq_294 dL_isWhole_217 rfl rfl ⟨Nat.le_of_ble_eq_true rfl, Nat.le_of_ble_eq_true rfl⟩ rfl rfl (Nat.zero_le _) (Nat.zero_le _) rfl rfl rfl (Nat.le_of_ble_eq_true rfl) ?_
                    rintro r114 _ ⟨u109, u110, u111, u112, u113, rfl, h⟩
                    refine ⟨Nat.le_of_ble_eq_true rfl, G.upd2 [5, 6, 7, 8, 9, 11, 12, 13, 14, 15, 16, 17, 18, 19, 20, 21, 22, 23, 24, 25, 26, 27, 28, 29, 30, 31, 32, 33, 34, 35, 36, 37, 38, 39, 40, 41, 42, 43, 44, 45, 46, 47, 48, 49, 50, 51, 52, 53, 54, 55, 56, 57, 58, 59, 60, 61, 62, 78, 79, 80, 81, 82, 83, 84] (Wd_L_isWhole cI cS cT ad b0 b1 fN nli nsct nstk nsle nye nre npct nptk nple nco hnx hcn hrli hrsct hrstk hrsle hrye hrre hrpct hrptk hrple hrco u95 u109 u110 u111 u112 u113 u101 ggc gor gme gce ao fa) 85 rfl rfl rfl rfl rfl (by decide +kernel) ?_⟩
                    refine g_icmp_ne 220 227 hC dL_isWhole_220 (by decide) (fun hc => ?_) (fun hc => ?_)
                    · replace h := h.1 hc
                      refine g_iconst (v := (0 : Int32)) 227 hC dL_isWhole_227 (by decide) ?_
                      refine G.sub [0, 1, 2, 3, 4, 5, 6, 7, 8, 9] rfl ?_
                      exact LJ79 _ _ _ _ _ _ _ _ h
                    · replace h := h.2 hc
                      refine g_iconst (v := (1 : Int32)) 223 hC dL_isWhole_223 (by decide) ?_
                      refine g_goto 224 228 hC dL_isWhole_224 (by decide) ?_
                      refine G.sub [0, 1, 2, 3, 4, 5, 6, 7, 8, 9] rfl ?_
                      exact LJ79 _ _ _ _ _ _ _ _ h
                · replace h := h.2 hc
                  refine g_iconst (v := (1 : Int32)) 184 hC dL_isWhole_184 (by decide) ?_
                  refine g_goto 185 189 hC dL_isWhole_185 (by decide) ?_
                  refine g_icmp_ne 189 227 hC dL_isWhole_189 (by decide) (fun _ => ?_) (fun hc => absurd hc (by decide))
                  refine g_iconst (v := (0 : Int32)) 227 hC dL_isWhole_227 (by decide) ?_
                  refine G.sub [0, 1, 2, 3, 4, 5, 6, 7, 8, 9] rfl ?_
                  exact LJ79 _ _ _ _ _ _ _ _ h
              · replace h := h.2 hc
                refine g_iconst (v := (1 : Int32)) 168 hC dL_isWhole_168 (by decide) ?_
                refine g_goto 169 173 hC dL_isWhole_169 (by decide) ?_
                refine g_aload_n 173 8 hC dL_isWhole_173 rfl ?_
                refine g_iload 174 4 hC dL_isWhole_174 rfl ?_
                refine g_iload 176 2 hC dL_isWhole_176 rfl ?_
                refine g_cVi (As := [.int v5, .int v7]) (rest := [.int (1 : Int32)]) 178 0 [0, 1, 2, 3, 4, 10, 63, 64, 65, 66, 67, 68, 69, 70, 71, 72, 73, 74, 75, 76, 77, 78] hC (c_X8_editCount l D cI cS cT ad b0 v5 v7 nli nsct nstk nsle nco eld u81 u82 u83 u84 u85 els _ h) kX8_editCount wq_265 dL_isWhole_178 rfl rfl ⟨Nat.le_of_ble_eq_true rfl, Nat.le_of_ble_eq_true rfl⟩ rfl rfl (Nat.zero_le _) (Nat.zero_le _) rfl rfl rfl (Nat.le_of_ble_eq_true rfl) ?_
                rintro r122 _ ⟨u115, u116, u117, u118, u119, u120, u121, rfl, h⟩
                refine ⟨Nat.le_of_ble_eq_true rfl, G.upd2 [5, 6, 7, 8, 9, 11, 12, 13, 14, 15, 16, 17, 18, 19, 20, 21, 22, 23, 24, 25, 26, 27, 28, 29, 30, 31, 32, 33, 34, 35, 36, 37, 38, 39, 40, 41, 42, 43, 44, 45, 46, 47, 48, 49, 50, 51, 52, 53, 54, 55, 56, 57, 58, 59, 60, 61, 62, 79, 80, 81, 82, 83, 84] (Wd_L_isWhole cI cS cT ad b0 b1 fN nli nsct nstk nsle nye nre npct nptk nple nco hnx hcn hrli hrsct hrstk hrsle hrye hrre hrpct hrptk hrple hrco u115 u116 u117 u118 u119 u120 u121 ggc gor gme gce ao fa) 85 rfl rfl rfl rfl rfl (by decide +kernel) ?_⟩
                refine g_if_ne 181 188 hC dL_isWhole_181 (by decide) (fun hc => ?_) (fun hc => ?_)
                · replace h := h.1 hc
                  refine g_iconst (v := (0 : Int32)) 188 hC dL_isWhole_188 (by decide) ?_
                  refine g_icmp_ne 189 227 hC dL_isWhole_189 (by decide) (fun _ => ?_) (fun hc => absurd hc (by decide))
                  refine g_iconst (v := (0 : Int32)) 227 hC dL_isWhole_227 (by decide) ?_
                  refine G.sub [0, 1, 2, 3, 4, 5, 6, 7, 8, 9] rfl ?_
                  exact LJ79 _ _ _ _ _ _ _ _ h
                · replace h := h.2 hc
                  refine g_iconst (v := (1 : Int32)) 184 hC dL_isWhole_184 (by decide) ?_
                  refine g_goto 185 189 hC dL_isWhole_185 (by decide) ?_
                  refine g_icmp_ne 189 227 hC dL_isWhole_189 (by decide) (fun hc => absurd hc (by decide)) (fun _ => ?_)
                  refine g_aload_n 192 8 hC dL_isWhole_192 rfl ?_
                  refine g_aload_n 193 9 hC dL_isWhole_193 rfl ?_
                  refine g_iload 194 4 hC dL_isWhole_194 rfl ?_
                  refine g_iload 196 2 hC dL_isWhole_196 rfl ?_
                  refine g_cSi (As := [.ref (ad b0), .ref (ad b1), .int v5, .int v7]) (rest := []) 198 [0, 1, 2, 3, 4, 10, 63, 64, 65, 66, 67, 68, 69, 70, 71, 72, 73, 74, 75, 76, 77, 78, 84] hC (c_L_isEdited l D cI cS cT ad b0 b1 fN v5 v7 nli nsct nstk nsle nco u115 u116 u117 u118 u119 u120 u121 fa _ h) kL_isEdited wq_277 dL_isWhole_198 ⟨Nat.le_of_ble_eq_true rfl, Nat.le_of_ble_eq_true rfl⟩ rfl rfl (Nat.zero_le _) (Nat.zero_le _) rfl rfl rfl (Nat.le_of_ble_eq_true rfl) ?_
                  rintro r130 _ ⟨u123, u124, u125, u126, u127, u128, u129, rfl, h⟩
                  refine ⟨Nat.le_of_ble_eq_true rfl, G.upd2 [5, 6, 7, 8, 9, 11, 12, 13, 14, 15, 16, 17, 18, 19, 20, 21, 22, 23, 24, 25, 26, 27, 28, 29, 30, 31, 32, 33, 34, 35, 36, 37, 38, 39, 40, 41, 42, 43, 44, 45, 46, 47, 48, 49, 50, 51, 52, 53, 54, 55, 56, 57, 58, 59, 60, 61, 62, 79, 80, 81, 82, 83] (Wd_L_isWhole cI cS cT ad b0 b1 fN nli nsct nstk nsle nye nre npct nptk nple nco hnx hcn hrli hrsct hrstk hrsle hrye hrre hrpct hrptk hrple hrco u123 u124 u125 u126 u127 u128 u129 ggc gor gme gce ao fa) 85 rfl rfl rfl rfl rfl (by decide +kernel) ?_⟩
                  refine g_if_eq 201 227 hC dL_isWhole_201 (by decide) (fun hc => ?_) (fun hc => ?_)
                  · replace h := h.1 hc
                    refine g_iconst (v := (0 : Int32)) 227 hC dL_isWhole_227 (by decide) ?_
                    refine G.sub [0, 1, 2, 3, 4, 5, 6, 7, 8, 9] rfl ?_
                    exact LJ79 _ _ _ _ _ _ _ _ h
                  · replace h := h.2 hc
                    refine g_aload_n 204 8 hC dL_isWhole_204 rfl ?_
                    refine g_iload 205 4 hC dL_isWhole_205 rfl ?_
                    refine g_iload 207 2 hC dL_isWhole_207 rfl ?_
                    refine g_cVi (As := [.int v5, .int v7]) (rest := []) 209 0 [0, 1, 2, 3, 4, 10, 63, 64, 65, 66, 67, 68, 69, 70, 71, 72, 73, 74, 75, 76, 77] hC (c_X8_similarityBits l D cI cS cT ad b0 v5 v7 nli nsct nstk nsle nco u123 u124 u125 u126 u127 u128 _ h) kX8_similarityBits wq_294 dL_isWhole_209 rfl rfl ⟨Nat.le_of_ble_eq_true rfl, Nat.le_of_ble_eq_true rfl⟩ rfl rfl (Nat.zero_le _) (Nat.zero_le _) rfl rfl rfl (Nat.le_of_ble_eq_true rfl) ?_
                    rintro r136 _ ⟨u131, u132, u133, u134, u135, rfl, h⟩
                    refine ⟨Nat.le_of_ble_eq_true rfl, G.upd2 [5, 6, 7, 8, 9, 11, 12, 13, 14, 15, 16, 17, 18, 19, 20, 21, 22, 23, 24, 25, 26, 27, 28, 29, 30, 31, 32, 33, 34, 35, 36, 37, 38, 39, 40, 41, 42, 43, 44, 45, 46, 47, 48, 49, 50, 51, 52, 53, 54, 55, 56, 57, 58, 59, 60, 61, 62, 78, 79, 80, 81, 82, 83, 84] (Wd_L_isWhole cI cS cT ad b0 b1 fN nli nsct nstk nsle nye nre npct nptk nple nco hnx hcn hrli hrsct hrstk hrsle hrye hrre hrpct hrptk hrple hrco u123 u131 u132 u133 u134 u135 u129 ggc gor gme gce ao fa) 85 rfl rfl rfl rfl rfl (by decide +kernel) ?_⟩
                    refine g_aload_n 212 8 hC dL_isWhole_212 rfl ?_
                    refine g_iload 213 2 hC dL_isWhole_213 rfl ?_
                    refine g_iload 215 4 hC dL_isWhole_215 rfl ?_
                    refine g_cVi (As := [.int v7, .int v5]) (rest := [.int r136]) 217 0 [0, 1, 2, 3, 4, 10, 63, 64, 65, 66, 67, 68, 69, 70, 71, 72, 73, 74, 75, 76, 77] hC (c_X8_similarityBits l D cI cS cT ad b0 v7 v5 nli nsct nstk nsle nco u123 u131 u132 u133 u134 u135 _ h) kX8_similarityBits wq_294 dL_isWhole_217 rfl rfl ⟨Nat.le_of_ble_eq_true rfl, Nat.le_of_ble_eq_true rfl⟩ rfl rfl (Nat.zero_le _) (Nat.zero_le _) rfl rfl rfl (Nat.le_of_ble_eq_true rfl) ?_
                    rintro r142 _ ⟨u137, u138, u139, u140, u141, rfl, h⟩
                    refine ⟨Nat.le_of_ble_eq_true rfl, G.upd2 [5, 6, 7, 8, 9, 11, 12, 13, 14, 15, 16, 17, 18, 19, 20, 21, 22, 23, 24, 25, 26, 27, 28, 29, 30, 31, 32, 33, 34, 35, 36, 37, 38, 39, 40, 41, 42, 43, 44, 45, 46, 47, 48, 49, 50, 51, 52, 53, 54, 55, 56, 57, 58, 59, 60, 61, 62, 78, 79, 80, 81, 82, 83, 84] (Wd_L_isWhole cI cS cT ad b0 b1 fN nli nsct nstk nsle nye nre npct nptk nple nco hnx hcn hrli hrsct hrstk hrsle hrye hrre hrpct hrptk hrple hrco u123 u137 u138 u139 u140 u141 u129 ggc gor gme gce ao fa) 85 rfl rfl rfl rfl rfl (by decide +kernel) ?_⟩
                    refine g_icmp_ne 220 227 hC dL_isWhole_220 (by decide) (fun hc => ?_) (fun hc => ?_)
                    · replace h := h.1 hc
                      refine g_iconst (v := (0 : Int32)) 227 hC dL_isWhole_227 (by decide) ?_
                      refine G.sub [0, 1, 2, 3, 4, 5, 6, 7, 8, 9] rfl ?_
                      exact LJ79 _ _ _ _ _ _ _ _ h
                    · replace h := h.2 hc
                      refine g_iconst (v := (1 : Int32)) 223 hC dL_isWhole_223 (by decide) ?_
                      refine g_goto 224 228 hC dL_isWhole_224 (by decide) ?_
                      refine G.sub [0, 1, 2, 3, 4, 5, 6, 7, 8, 9] rfl ?_
                      exact LJ79 _ _ _ _ _ _ _ _ h
set_option maxHeartbeats 4000000 in
set_option maxRecDepth 100000 in
theorem L_L_isWhole_79 {l : Launch} {D : va_G} {cI cS cT : ClassId} {ad : Nat → Nat} {b0 : Nat} {b1 : Nat} {E : CE} {fN : Nat} {v3 : Int32} {v2 : Int32} {nli : Int32} {nsct : Int32} {nstk : Nat → Int32} {nsle : Nat → Int32} {nye : Nat → Int32} {nre : Nat → Int32} {npct : Int32} {nptk : Nat → Int32} {nple : Nat → Int32} {nco : Nat → Int32} {hnx : Int32} {hcn : Int32} {hrli : Nat → Int32} {hrsct : Nat → Int32} {hrstk : Nat → Nat → Int32} {hrsle : Nat → Nat → Int32} {hrye : Nat → Nat → Int32} {hrre : Nat → Nat → Int32} {hrpct : Nat → Int32} {hrptk : Nat → Nat → Int32} {hrple : Nat → Nat → Int32} {hrco : Nat → Nat → Int32} {ggc : Int32} {gor : Nat → Int32} {gme : Nat → Int32} {gce : Nat → Int32} {fa : Nat → Int32} {post : Int32 → Int32 → Int32 → (Nat → Int32) → (Nat → Int32) → (Nat → Int32) → (Nat → Int32) → Int32 → (Nat → Int32) → (Nat → Int32) → (Nat → Int32) → Int32 → Int32 → (Nat → Int32) → (Nat → Int32) → (Nat → Nat → Int32) → (Nat → Nat → Int32) → (Nat → Nat → Int32) → (Nat → Nat → Int32) → (Nat → Int32) → (Nat → Nat → Int32) → (Nat → Nat → Int32) → (Nat → Nat → Int32) → Int32 → Int32 → (Nat → Int32) → Int32 → (Nat → Int32) → (Nat → Nat → Int32) → (Nat → Int32) → Int32 → (Nat → Int32) → (Nat → Int32) → (Nat → Int32) → (Nat → Int32) → Prop} (hC : Cx l D (TY cI cS cT) E rm_L_isWhole cL_isWhole RL) (hR : RetI D E (fun (r : Int32) w => ∃ (u_nli : Int32) (u_nsct : Int32) (u_nstk : Nat → Int32) (u_nsle : Nat → Int32) (u_nye : Nat → Int32) (u_nre : Nat → Int32) (u_npct : Int32) (u_nptk : Nat → Int32) (u_nple : Nat → Int32) (u_nco : Nat → Int32) (u_hnx : Int32) (u_hcn : Int32) (u_hrli : Nat → Int32) (u_hrsct : Nat → Int32) (u_hrstk : Nat → Nat → Int32) (u_hrsle : Nat → Nat → Int32) (u_hrye : Nat → Nat → Int32) (u_hrre : Nat → Nat → Int32) (u_hrpct : Nat → Int32) (u_hrptk : Nat → Nat → Int32) (u_hrple : Nat → Nat → Int32) (u_hrco : Nat → Nat → Int32) (u_eld : Int32) (u_efln : Int32) (u_eftk : Nat → Int32) (u_egln : Int32) (u_egtk : Nat → Int32) (u_etb : Nat → Nat → Int32) (u_els : Nat → Int32) (u_ggc : Int32) (u_gor : Nat → Int32) (u_gme : Nat → Int32) (u_gce : Nat → Int32) (u_ao : Nat → Int32), w = (Wd_L_isWhole cI cS cT ad b0 b1 fN u_nli u_nsct u_nstk u_nsle u_nye u_nre u_npct u_nptk u_nple u_nco u_hnx u_hcn u_hrli u_hrsct u_hrstk u_hrsle u_hrye u_hrre u_hrpct u_hrptk u_hrple u_hrco u_eld u_efln u_eftk u_egln u_egtk u_etb u_els u_ggc u_gor u_gme u_gce u_ao fa) ∧ post r u_nli u_nsct u_nstk u_nsle u_nye u_nre u_npct u_nptk u_nple u_nco u_hnx u_hcn u_hrli u_hrsct u_hrstk u_hrsle u_hrye u_hrre u_hrpct u_hrptk u_hrple u_hrco u_eld u_efln u_eftk u_egln u_egtk u_etb u_els u_ggc u_gor u_gme u_gce u_ao) 0 0 (some .boolean)) (hn : E.nL = 10) (K : Int32 → Int32 → Int32 → Int32 → (Nat → Int32) → Int32 → (Nat → Int32) → (Nat → Nat → Int32) → (Nat → Int32) → (Nat → Int32) → Prop) (hK : ∀ (v5 : Int32) (v4 : Int32) (eld : Int32) (efln : Int32) (eftk : Nat → Int32) (egln : Int32) (egtk : Nat → Int32) (etb : Nat → Nat → Int32) (els : Nat → Int32) (ao : Nat → Int32), K v5 v4 eld efln eftk egln egtk etb els ao → G l D E 0 0 (Wd_L_isWhole cI cS cT ad b0 b1 fN nli nsct nstk nsle nye nre npct nptk nple nco hnx hcn hrli hrsct hrstk hrsle hrye hrre hrpct hrptk hrple hrco eld efln eftk egln egtk etb els ggc gor gme gce ao fa) [(5, .int v5), (4, .int v4), (3, .int v3), (2, .int v2), (0, .ref (ad b0)), (1, .ref (ad b1))] 331 []) : ∀ (n : Nat) (v5 : Int32) (v4 : Int32) (eld : Int32) (efln : Int32) (eftk : Nat → Int32) (egln : Int32) (egtk : Nat → Int32) (etb : Nat → Nat → Int32) (els : Nat → Int32) (ao : Nat → Int32), P_L_isWhole_79 fN v2 nli nsct nstk nsle nye nco fa K n v5 v4 eld efln eftk egln egtk etb els ao → G l D E 0 0 (Wd_L_isWhole cI cS cT ad b0 b1 fN nli nsct nstk nsle nye nre npct nptk nple nco hnx hcn hrli hrsct hrstk hrsle hrye hrre hrpct hrptk hrple hrco eld efln eftk egln egtk etb els ggc gor gme gce ao fa) [(5, .int v5), (4, .int v4), (3, .int v3), (2, .int v2), (0, .ref (ad b0)), (1, .ref (ad b1))] 79 [] := by
  intro n
  induction n with
  | zero => exact fun _ _ _ _ _ _ _ _ _ _ h => h.elim
  | succ n ih =>
    intro v5 v4 eld efln eftk egln egtk etb els ao h
    replace h : B_L_isWhole_79 fN v2 nli nsct nstk nsle nye nco fa K (P_L_isWhole_79 fN v2 nli nsct nstk nsle nye nco fa K n) v5 v4 eld efln eftk egln egtk etb els ao := h
    unfold B_L_isWhole_79 at h
    refine g_iload 79 0 hC dL_isWhole_79 rfl ?_
    refine g_iload_n 81 3 hC dL_isWhole_81 rfl ?_
    refine g_icmp_ge 82 331 hC dL_isWhole_82 (by decide) (fun hc => ?_) (fun hc => ?_)
    · replace h := h.1 hc
      refine G.sub [0, 1, 2, 3, 4, 5] rfl ?_
      exact hK v5 v4 eld efln eftk egln egtk etb els ao h
    · replace h := h.2 hc
      refine g_iload 85 1 hC dL_isWhole_85 rfl ?_
      refine g_if_eq 87 331 hC dL_isWhole_87 (by decide) (fun hc => ?_) (fun hc => ?_)
      · replace h := h.1 hc
        refine G.sub [0, 1, 2, 3, 4, 5] rfl ?_
        exact hK v5 v4 eld efln eftk egln egtk etb els ao h
      · replace h := h.2 hc
        refine g_sipush (v := (10000 : Int32)) 90 hC dL_isWhole_90 (by decide) ?_
        refine g_istore 93 [(6, .int (10000 : Int32)), (5, .int v5), (4, .int v4), (3, .int v3), (2, .int v2), (0, .ref (ad b0)), (1, .ref (ad b1))] hC dL_isWhole_93 (by rw [hn]; decide) rfl ?_
        refine g_iconst (v := (0 : Int32)) 95 hC dL_isWhole_95 (by decide) ?_
        refine g_istore 96 [(7, .int (0 : Int32)), (6, .int (10000 : Int32)), (5, .int v5), (4, .int v4), (3, .int v3), (2, .int v2), (0, .ref (ad b0)), (1, .ref (ad b1))] hC dL_isWhole_96 (by rw [hn]; decide) rfl ?_
        obtain ⟨n, h⟩ := h
        refine L_L_isWhole_98 hC hR hn _ (fun w7_143 w6_143 w4_143 eld_143 efln_143 eftk_143 egln_143 egtk_143 etb_143 els_143 h => ?_) n _ _ _ _ _ _ _ _ _ _ h
        refine g_aload_n 259 6 hC dL_isWhole_259 rfl ?_
        refine g_iload 260 2 hC dL_isWhole_260 rfl ?_
        refine g_cVi (As := [.int v5]) (rest := []) 262 0 [0, 1, 2, 3, 4, 5, 10, 63, 64, 65, 66, 67, 68, 69, 70, 71, 72, 73, 74, 75, 76, 77, 83] hC (c_X8_nearest l D cI cS cT ad b0 v5 nli nsct nstk nsle nye nco eld_143 efln_143 eftk_143 egln_143 egtk_143 etb_143 ao _ h) kX8_nearest wq_305 dL_isWhole_262 rfl rfl ⟨Nat.le_of_ble_eq_true rfl, Nat.le_of_ble_eq_true rfl⟩ rfl rfl (Nat.zero_le _) (Nat.zero_le _) rfl rfl rfl (Nat.le_of_ble_eq_true rfl) ?_
        rintro r150 _ ⟨u144, u145, u146, u147, u148, u149, rfl, h⟩
        refine ⟨Nat.le_of_ble_eq_true rfl, G.upd2 [6, 7, 8, 9, 11, 12, 13, 14, 15, 16, 17, 18, 19, 20, 21, 22, 23, 24, 25, 26, 27, 28, 29, 30, 31, 32, 33, 34, 35, 36, 37, 38, 39, 40, 41, 42, 43, 44, 45, 46, 47, 48, 49, 50, 51, 52, 53, 54, 55, 56, 57, 58, 59, 60, 61, 62, 78, 79, 80, 81, 82, 84] (Wd_L_isWhole cI cS cT ad b0 b1 fN nli nsct nstk nsle nye nre npct nptk nple nco hnx hcn hrli hrsct hrstk hrsle hrye hrre hrpct hrptk hrple hrco eld_143 u144 u145 u146 u147 u148 els_143 ggc gor gme gce u149 fa) 85 rfl rfl rfl rfl rfl (by decide +kernel) ?_⟩
        refine g_istore 265 [(7, .int r150), (6, .int w6_143), (5, .int v5), (4, .int w4_143), (3, .int v3), (2, .int v2), (0, .ref (ad b0)), (1, .ref (ad b1))] hC dL_isWhole_265 (by rw [hn]; decide) rfl ?_
        obtain ⟨J163, hJ163, h⟩ := h
        have LJ163 : ∀ (j0_163 : Int32) (efln_163 : Int32) (eftk_163 : Nat → Int32) (egln_163 : Int32) (egtk_163 : Nat → Int32) (etb_163 : Nat → Nat → Int32), J163 j0_163 efln_163 eftk_163 egln_163 egtk_163 etb_163 → G l D E 0 0 (Wd_L_isWhole cI cS cT ad b0 b1 fN nli nsct nstk nsle nye nre npct nptk nple nco hnx hcn hrli hrsct hrstk hrsle hrye hrre hrpct hrptk hrple hrco eld_143 efln_163 eftk_163 egln_163 egtk_163 etb_163 els_143 ggc gor gme gce u149 fa) [(7, .int r150), (6, .int w6_143), (5, .int v5), (4, .int w4_143), (3, .int v3), (2, .int v2), (0, .ref (ad b0)), (1, .ref (ad b1))] 323 [.int j0_163] := by
          intro j0_163 efln_163 eftk_163 egln_163 egtk_163 etb_163 h
          replace h := hJ163 j0_163 efln_163 eftk_163 egln_163 egtk_163 etb_163 h
          refine g_istore 323 [(4, .int j0_163), (7, .int r150), (6, .int w6_143), (5, .int v5), (3, .int v3), (2, .int v2), (0, .ref (ad b0)), (1, .ref (ad b1))] hC dL_isWhole_323 (by rw [hn]; decide) rfl ?_
          refine g_iinc (v := (1 : Int32)) 325 3 [(5, .int (v5 + (1 : Int32))), (4, .int j0_163), (7, .int r150), (6, .int w6_143), (3, .int v3), (2, .int v2), (0, .ref (ad b0)), (1, .ref (ad b1))] hC dL_isWhole_325 rfl (by decide) (by rw [hn]; decide) rfl ?_
          refine g_goto 328 79 hC dL_isWhole_328 (by decide) ?_
          refine G.sub [0, 1, 4, 5, 6, 7] rfl ?_
          exact ih _ _ _ _ _ _ _ _ _ _ h
        refine g_iload 267 3 hC dL_isWhole_267 rfl ?_
        refine g_if_eq 269 322 hC dL_isWhole_269 (by decide) (fun hc => ?_) (fun hc => ?_)
        · replace h := h.1 hc
          refine g_iconst (v := (0 : Int32)) 322 hC dL_isWhole_322 (by decide) ?_
          refine G.sub [0, 1, 2, 3, 4, 5, 6, 7] rfl ?_
          exact LJ163 _ _ _ _ _ _ h
        · replace h := h.2 hc
          refine g_aload_n 272 6 hC dL_isWhole_272 rfl ?_
          refine g_iload 273 2 hC dL_isWhole_273 rfl ?_
          refine g_iload 275 2 hC dL_isWhole_275 rfl ?_
          refine g_cVi (As := [.int v5, .int v5]) (rest := []) 277 0 [0, 1, 2, 3, 4, 10, 63, 64, 65, 66, 67, 68, 69, 70, 71, 72, 73, 74, 75, 76, 77] hC (c_X8_distance l D cI cS cT ad b0 v5 v5 nli nsct nstk nsle nco eld_143 u144 u145 u146 u147 u148 _ h) kX8_distance wq_257 dL_isWhole_277 rfl rfl ⟨Nat.le_of_ble_eq_true rfl, Nat.le_of_ble_eq_true rfl⟩ rfl rfl (Nat.zero_le _) (Nat.zero_le _) rfl rfl rfl (Nat.le_of_ble_eq_true rfl) ?_
          rintro r169 _ ⟨u164, u165, u166, u167, u168, rfl, h⟩
          refine ⟨Nat.le_of_ble_eq_true rfl, G.upd2 [5, 6, 7, 8, 9, 11, 12, 13, 14, 15, 16, 17, 18, 19, 20, 21, 22, 23, 24, 25, 26, 27, 28, 29, 30, 31, 32, 33, 34, 35, 36, 37, 38, 39, 40, 41, 42, 43, 44, 45, 46, 47, 48, 49, 50, 51, 52, 53, 54, 55, 56, 57, 58, 59, 60, 61, 62, 78, 79, 80, 81, 82, 83, 84] (Wd_L_isWhole cI cS cT ad b0 b1 fN nli nsct nstk nsle nye nre npct nptk nple nco hnx hcn hrli hrsct hrstk hrsle hrye hrre hrpct hrptk hrple hrco eld_143 u164 u165 u166 u167 u168 els_143 ggc gor gme gce u149 fa) 85 rfl rfl rfl rfl rfl (by decide +kernel) ?_⟩
          refine g_if_ne 280 322 hC dL_isWhole_280 (by decide) (fun hc => ?_) (fun hc => ?_)
          · replace h := h.1 hc
            refine g_iconst (v := (0 : Int32)) 322 hC dL_isWhole_322 (by decide) ?_
            refine G.sub [0, 1, 2, 3, 4, 5, 6, 7] rfl ?_
            exact LJ163 _ _ _ _ _ _ h
          · replace h := h.2 hc
            refine g_iload_n 283 5 hC dL_isWhole_283 rfl ?_
            refine g_iconst (v := (1 : Int32)) 284 hC dL_isWhole_284 (by decide) ?_
            refine g_icmp_ne 285 298 hC dL_isWhole_285 (by decide) (fun hc => ?_) (fun hc => ?_)
            · replace h := h.1 hc
              refine g_iload 298 0 hC dL_isWhole_298 rfl ?_
              refine g_iload 300 2 hC dL_isWhole_300 rfl ?_
              refine g_icmp_eq 302 322 hC dL_isWhole_302 (by decide) (fun hc => ?_) (fun hc => ?_)
              · replace h := h.1 hc
                refine g_iconst (v := (0 : Int32)) 322 hC dL_isWhole_322 (by decide) ?_
                refine G.sub [0, 1, 2, 3, 4, 5, 6, 7] rfl ?_
                exact LJ163 _ _ _ _ _ _ h
              · replace h := h.2 hc
                refine g_aload_n 305 6 hC dL_isWhole_305 rfl ?_
                refine g_iload 306 2 hC dL_isWhole_306 rfl ?_
                refine g_iload 308 0 hC dL_isWhole_308 rfl ?_
                refine g_cVi (As := [.int v5, .int r150]) (rest := []) 310 0 [0, 1, 2, 3, 4, 10, 63, 64, 65, 66, 67, 68, 69, 70, 71, 72, 73, 74, 75, 76, 77] hC (c_X8_distance l D cI cS cT ad b0 v5 r150 nli nsct nstk nsle nco eld_143 u164 u165 u166 u167 u168 _ h) kX8_distance wq_257 dL_isWhole_310 rfl rfl ⟨Nat.le_of_ble_eq_true rfl, Nat.le_of_ble_eq_true rfl⟩ rfl rfl (Nat.zero_le _) (Nat.zero_le _) rfl rfl rfl (Nat.le_of_ble_eq_true rfl) ?_
                rintro r175 _ ⟨u170, u171, u172, u173, u174, rfl, h⟩
                refine ⟨Nat.le_of_ble_eq_true rfl, G.upd2 [5, 6, 7, 8, 9, 11, 12, 13, 14, 15, 16, 17, 18, 19, 20, 21, 22, 23, 24, 25, 26, 27, 28, 29, 30, 31, 32, 33, 34, 35, 36, 37, 38, 39, 40, 41, 42, 43, 44, 45, 46, 47, 48, 49, 50, 51, 52, 53, 54, 55, 56, 57, 58, 59, 60, 61, 62, 78, 79, 80, 81, 82, 83, 84] (Wd_L_isWhole cI cS cT ad b0 b1 fN nli nsct nstk nsle nye nre npct nptk nple nco hnx hcn hrli hrsct hrstk hrsle hrye hrre hrpct hrptk hrple hrco eld_143 u170 u171 u172 u173 u174 els_143 ggc gor gme gce u149 fa) 85 rfl rfl rfl rfl rfl (by decide +kernel) ?_⟩
                refine g_iload 313 1 hC dL_isWhole_313 rfl ?_
                refine g_icmp_ne 315 322 hC dL_isWhole_315 (by decide) (fun hc => ?_) (fun hc => ?_)
                · replace h := h.1 hc
                  refine g_iconst (v := (0 : Int32)) 322 hC dL_isWhole_322 (by decide) ?_
                  refine G.sub [0, 1, 2, 3, 4, 5, 6, 7] rfl ?_
                  exact LJ163 _ _ _ _ _ _ h
                · replace h := h.2 hc
                  refine g_iconst (v := (1 : Int32)) 318 hC dL_isWhole_318 (by decide) ?_
                  refine g_goto 319 323 hC dL_isWhole_319 (by decide) ?_
                  refine G.sub [0, 1, 2, 3, 4, 5, 6, 7] rfl ?_
                  exact LJ163 _ _ _ _ _ _ h
            · replace h := h.2 hc
              refine g_iload 288 0 hC dL_isWhole_288 rfl ?_
              refine g_bipush (v := (-4 : Int32)) 290 hC dL_isWhole_290 (by decide) ?_
              refine g_icmp_ne 292 322 hC dL_isWhole_292 (by decide) (fun hc => ?_) (fun hc => ?_)
              · replace h := h.1 hc
                refine g_iconst (v := (0 : Int32)) 322 hC dL_isWhole_322 (by decide) ?_
                refine G.sub [0, 1, 2, 3, 4, 5, 6, 7] rfl ?_
                exact LJ163 _ _ _ _ _ _ h
              · replace h := h.2 hc
                refine g_goto 295 318 hC dL_isWhole_295 (by decide) ?_
                refine g_iconst (v := (1 : Int32)) 318 hC dL_isWhole_318 (by decide) ?_
                refine g_goto 319 323 hC dL_isWhole_319 (by decide) ?_
                refine G.sub [0, 1, 2, 3, 4, 5, 6, 7] rfl ?_
                exact LJ163 _ _ _ _ _ _ h
set_option maxHeartbeats 4000000 in
set_option maxRecDepth 100000 in
theorem c_L_isWhole (l : Launch) (D : va_G) (cI cS cT : ClassId) (ad : Nat → Nat) (b0 : Nat) (b1 : Nat) (fN : Nat) (nli : Int32) (nsct : Int32) (nstk : Nat → Int32) (nsle : Nat → Int32) (nye : Nat → Int32) (nre : Nat → Int32) (npct : Int32) (nptk : Nat → Int32) (nple : Nat → Int32) (nco : Nat → Int32) (hnx : Int32) (hcn : Int32) (hrli : Nat → Int32) (hrsct : Nat → Int32) (hrstk : Nat → Nat → Int32) (hrsle : Nat → Nat → Int32) (hrye : Nat → Nat → Int32) (hrre : Nat → Nat → Int32) (hrpct : Nat → Int32) (hrptk : Nat → Nat → Int32) (hrple : Nat → Nat → Int32) (hrco : Nat → Nat → Int32) (eld : Int32) (efln : Int32) (eftk : Nat → Int32) (egln : Int32) (egtk : Nat → Int32) (etb : Nat → Nat → Int32) (els : Nat → Int32) (ggc : Int32) (gor : Nat → Int32) (gme : Nat → Int32) (gce : Nat → Int32) (ao : Nat → Int32) (fa : Nat → Int32) (post : Int32 → Int32 → Int32 → (Nat → Int32) → (Nat → Int32) → (Nat → Int32) → (Nat → Int32) → Int32 → (Nat → Int32) → (Nat → Int32) → (Nat → Int32) → Int32 → Int32 → (Nat → Int32) → (Nat → Int32) → (Nat → Nat → Int32) → (Nat → Nat → Int32) → (Nat → Nat → Int32) → (Nat → Nat → Int32) → (Nat → Int32) → (Nat → Nat → Int32) → (Nat → Nat → Int32) → (Nat → Nat → Int32) → Int32 → Int32 → (Nat → Int32) → Int32 → (Nat → Int32) → (Nat → Nat → Int32) → (Nat → Int32) → Int32 → (Nat → Int32) → (Nat → Int32) → (Nat → Int32) → (Nat → Int32) → Prop) (h : P_L_isWhole fN nli nsct nstk nsle nye nre npct nptk nple nco hnx hcn hrli hrsct hrstk hrsle hrye hrre hrpct hrptk hrple hrco eld efln eftk egln egtk etb els ggc gor gme gce ao fa post) : MI l D (TY cI cS cT) yL_isWhole cL_isWhole 10 (some .boolean) rm_L_isWhole [.ref (ad b0), .ref (ad b1)] (Wd_L_isWhole cI cS cT ad b0 b1 fN nli nsct nstk nsle nye nre npct nptk nple nco hnx hcn hrli hrsct hrstk hrsle hrye hrre hrpct hrptk hrple hrco eld efln eftk egln egtk etb els ggc gor gme gce ao fa) (fun (r : Int32) w => ∃ (u_nli : Int32) (u_nsct : Int32) (u_nstk : Nat → Int32) (u_nsle : Nat → Int32) (u_nye : Nat → Int32) (u_nre : Nat → Int32) (u_npct : Int32) (u_nptk : Nat → Int32) (u_nple : Nat → Int32) (u_nco : Nat → Int32) (u_hnx : Int32) (u_hcn : Int32) (u_hrli : Nat → Int32) (u_hrsct : Nat → Int32) (u_hrstk : Nat → Nat → Int32) (u_hrsle : Nat → Nat → Int32) (u_hrye : Nat → Nat → Int32) (u_hrre : Nat → Nat → Int32) (u_hrpct : Nat → Int32) (u_hrptk : Nat → Nat → Int32) (u_hrple : Nat → Nat → Int32) (u_hrco : Nat → Nat → Int32) (u_eld : Int32) (u_efln : Int32) (u_eftk : Nat → Int32) (u_egln : Int32) (u_egtk : Nat → Int32) (u_etb : Nat → Nat → Int32) (u_els : Nat → Int32) (u_ggc : Int32) (u_gor : Nat → Int32) (u_gme : Nat → Int32) (u_gce : Nat → Int32) (u_ao : Nat → Int32), w = (Wd_L_isWhole cI cS cT ad b0 b1 fN u_nli u_nsct u_nstk u_nsle u_nye u_nre u_npct u_nptk u_nple u_nco u_hnx u_hcn u_hrli u_hrsct u_hrstk u_hrsle u_hrye u_hrre u_hrpct u_hrptk u_hrple u_hrco u_eld u_efln u_eftk u_egln u_egtk u_etb u_els u_ggc u_gor u_gme u_gce u_ao fa) ∧ post r u_nli u_nsct u_nstk u_nsle u_nye u_nre u_npct u_nptk u_nple u_nco u_hnx u_hcn u_hrli u_hrsct u_hrstk u_hrsle u_hrye u_hrre u_hrpct u_hrptk u_hrple u_hrco u_eld u_efln u_eftk u_egln u_egtk u_etb u_els u_ggc u_gor u_gme u_gce u_ao) := by
  refine MI.of (by decide) (Nat.le_of_ble_eq_true rfl) (fun E hC hR hn => ?_)
  replace hC : Cx l D (TY cI cS cT) E rm_L_isWhole cL_isWhole RL := hC
  replace hR : RetI D E (fun (r : Int32) w => ∃ (u_nli : Int32) (u_nsct : Int32) (u_nstk : Nat → Int32) (u_nsle : Nat → Int32) (u_nye : Nat → Int32) (u_nre : Nat → Int32) (u_npct : Int32) (u_nptk : Nat → Int32) (u_nple : Nat → Int32) (u_nco : Nat → Int32) (u_hnx : Int32) (u_hcn : Int32) (u_hrli : Nat → Int32) (u_hrsct : Nat → Int32) (u_hrstk : Nat → Nat → Int32) (u_hrsle : Nat → Nat → Int32) (u_hrye : Nat → Nat → Int32) (u_hrre : Nat → Nat → Int32) (u_hrpct : Nat → Int32) (u_hrptk : Nat → Nat → Int32) (u_hrple : Nat → Nat → Int32) (u_hrco : Nat → Nat → Int32) (u_eld : Int32) (u_efln : Int32) (u_eftk : Nat → Int32) (u_egln : Int32) (u_egtk : Nat → Int32) (u_etb : Nat → Nat → Int32) (u_els : Nat → Int32) (u_ggc : Int32) (u_gor : Nat → Int32) (u_gme : Nat → Int32) (u_gce : Nat → Int32) (u_ao : Nat → Int32), w = (Wd_L_isWhole cI cS cT ad b0 b1 fN u_nli u_nsct u_nstk u_nsle u_nye u_nre u_npct u_nptk u_nple u_nco u_hnx u_hcn u_hrli u_hrsct u_hrstk u_hrsle u_hrye u_hrre u_hrpct u_hrptk u_hrple u_hrco u_eld u_efln u_eftk u_egln u_egtk u_etb u_els u_ggc u_gor u_gme u_gce u_ao fa) ∧ post r u_nli u_nsct u_nstk u_nsle u_nye u_nre u_npct u_nptk u_nple u_nco u_hnx u_hcn u_hrli u_hrsct u_hrstk u_hrsle u_hrye u_hrre u_hrpct u_hrptk u_hrple u_hrco u_eld u_efln u_eftk u_egln u_egtk u_etb u_els u_ggc u_gor u_gme u_gce u_ao) 0 0 (some .boolean) := hR
  unfold P_L_isWhole at h
  change G l D E 0 0 _ [(0, .ref (ad b0)), (1, .ref (ad b1))] 0 []
  refine g_aload_n 0 0 hC dL_isWhole_0 rfl ?_
  refine g_cVi (As := []) (rest := []) 1 0 [0, 1, 2] hC (c_X8_sayingCount l D cI cS cT ad b0 nli nsct _ h) kX8_sayingCount wq_123 dL_isWhole_1 rfl rfl ⟨Nat.le_of_ble_eq_true rfl, Nat.le_of_ble_eq_true rfl⟩ rfl rfl (Nat.zero_le _) (Nat.zero_le _) rfl rfl rfl (Nat.le_of_ble_eq_true rfl) ?_
  rintro r1 _ ⟨rfl, h⟩
  refine ⟨Nat.le_of_ble_eq_true rfl, G.upd2 [3, 4, 5, 6, 7, 8, 9, 10, 11, 12, 13, 14, 15, 16, 17, 18, 19, 20, 21, 22, 23, 24, 25, 26, 27, 28, 29, 30, 31, 32, 33, 34, 35, 36, 37, 38, 39, 40, 41, 42, 43, 44, 45, 46, 47, 48, 49, 50, 51, 52, 53, 54, 55, 56, 57, 58, 59, 60, 61, 62, 63, 64, 65, 66, 67, 68, 69, 70, 71, 72, 73, 74, 75, 76, 77, 78, 79, 80, 81, 82, 83, 84] (Wd_L_isWhole cI cS cT ad b0 b1 fN nli nsct nstk nsle nye nre npct nptk nple nco hnx hcn hrli hrsct hrstk hrsle hrye hrre hrpct hrptk hrple hrco eld efln eftk egln egtk etb els ggc gor gme gce ao fa) 85 rfl rfl rfl rfl rfl (by decide +kernel) ?_⟩
  refine g_istore_n 4 [(2, .int r1), (0, .ref (ad b0)), (1, .ref (ad b1))] hC dL_isWhole_4 (by rw [hn]; decide) rfl ?_
  refine g_iconst (v := (0 : Int32)) 5 hC dL_isWhole_5 (by decide) ?_
  refine g_istore_n 6 [(3, .int (0 : Int32)), (2, .int r1), (0, .ref (ad b0)), (1, .ref (ad b1))] hC dL_isWhole_6 (by rw [hn]; decide) rfl ?_
  obtain ⟨J4, hJ4, h⟩ := h
  have LJ4 : ∀ (j0_4 : Int32) (ao_4 : Nat → Int32), J4 j0_4 ao_4 → G l D E 0 0 (Wd_L_isWhole cI cS cT ad b0 b1 fN nli nsct nstk nsle nye nre npct nptk nple nco hnx hcn hrli hrsct hrstk hrsle hrye hrre hrpct hrptk hrple hrco eld efln eftk egln egtk etb els ggc gor gme gce ao_4 fa) [(3, .int (0 : Int32)), (2, .int r1), (0, .ref (ad b0)), (1, .ref (ad b1))] 22 [.int j0_4] := by
    intro j0_4 ao_4 h
    replace h := hJ4 j0_4 ao_4 h
    refine g_istore 22 [(4, .int j0_4), (3, .int (0 : Int32)), (2, .int r1), (0, .ref (ad b0)), (1, .ref (ad b1))] hC dL_isWhole_22 (by rw [hn]; decide) rfl ?_
    refine g_iconst (v := (0 : Int32)) 24 hC dL_isWhole_24 (by decide) ?_
    refine g_istore 25 [(5, .int (0 : Int32)), (4, .int j0_4), (3, .int (0 : Int32)), (2, .int r1), (0, .ref (ad b0)), (1, .ref (ad b1))] hC dL_isWhole_25 (by rw [hn]; decide) rfl ?_
    obtain ⟨n, h⟩ := h
    refine L_L_isWhole_27 hC hR hn _ (fun w5_7 w3_7 ao_7 h => ?_) n _ _ _ h
    obtain ⟨J8, hJ8, h⟩ := h
    have LJ8 : ∀ (j0_8 : Int32), J8 j0_8 → G l D E 0 0 (Wd_L_isWhole cI cS cT ad b0 b1 fN nli nsct nstk nsle nye nre npct nptk nple nco hnx hcn hrli hrsct hrstk hrsle hrye hrre hrpct hrptk hrple hrco eld efln eftk egln egtk etb els ggc gor gme gce ao_7 fa) [(5, .int w5_7), (4, .int j0_4), (3, .int w3_7), (2, .int r1), (0, .ref (ad b0)), (1, .ref (ad b1))] 74 [.int j0_8] := by
      intro j0_8 h
      replace h := hJ8 j0_8 h
      refine g_istore 74 [(4, .int j0_8), (5, .int w5_7), (3, .int w3_7), (2, .int r1), (0, .ref (ad b0)), (1, .ref (ad b1))] hC dL_isWhole_74 (by rw [hn]; decide) rfl ?_
      refine g_iconst (v := (0 : Int32)) 76 hC dL_isWhole_76 (by decide) ?_
      refine g_istore 77 [(5, .int (0 : Int32)), (4, .int j0_8), (3, .int w3_7), (2, .int r1), (0, .ref (ad b0)), (1, .ref (ad b1))] hC dL_isWhole_77 (by rw [hn]; decide) rfl ?_
      obtain ⟨n, h⟩ := h
      refine L_L_isWhole_79 hC hR hn _ (fun w5_176 w4_176 eld_176 efln_176 eftk_176 egln_176 egtk_176 etb_176 els_176 ao_176 h => ?_) n _ _ _ _ _ _ _ _ _ _ h
      refine g_iload 331 1 hC dL_isWhole_331 rfl ?_
      refine g_if_eq 333 348 hC dL_isWhole_333 (by decide) (fun hc => ?_) (fun hc => ?_)
      · replace h := h.1 hc
        refine g_iconst (v := (0 : Int32)) 348 hC dL_isWhole_348 (by decide) ?_
        exact g_zret 349 hC hR dL_isWhole_349 (by decide) ⟨nli, nsct, nstk, nsle, nye, nre, npct, nptk, nple, nco, hnx, hcn, hrli, hrsct, hrstk, hrsle, hrye, hrre, hrpct, hrptk, hrple, hrco, eld_176, efln_176, eftk_176, egln_176, egtk_176, etb_176, els_176, ggc, gor, gme, gce, ao_176, rfl, h⟩
      · replace h := h.2 hc
        refine g_aload_n 336 4 hC dL_isWhole_336 rfl ?_
        refine g_iload_n 337 3 hC dL_isWhole_337 rfl ?_
        refine g_cSi (As := [.ref (ad b0), .int r1]) (rest := []) 338 [0, 1, 2, 3, 4, 5, 6, 7, 8, 9, 10, 11, 12, 13, 14, 15, 16, 17, 18, 19, 20, 21, 22, 23, 24, 25, 26, 27, 28, 29, 30, 31, 32, 33, 34, 35, 36, 37, 38, 39, 40, 41, 42, 43, 44, 45, 46, 47, 48, 49, 50, 51, 52, 53, 54, 55, 56, 57, 58, 59, 60, 61, 62, 63, 64, 65, 66, 67, 68, 69, 70, 71, 72, 73, 74, 75, 76, 77, 79, 80, 81, 82] hC (c_L_areGroups l D cI cS cT ad b0 r1 nli nsct nstk nsle nye nre npct nptk nple nco hnx hcn hrli hrsct hrstk hrsle hrye hrre hrpct hrptk hrple hrco eld_176 efln_176 eftk_176 egln_176 egtk_176 etb_176 ggc gor gme gce _ h) kL_areGroups wq_310 dL_isWhole_338 ⟨Nat.le_of_ble_eq_true rfl, Nat.le_of_ble_eq_true rfl⟩ rfl rfl (Nat.zero_le _) (Nat.zero_le _) rfl rfl rfl (Nat.le_of_ble_eq_true rfl) ?_
        rintro r208 _ ⟨u177, u178, u179, u180, u181, u182, u183, u184, u185, u186, u187, u188, u189, u190, u191, u192, u193, u194, u195, u196, u197, u198, u199, u200, u201, u202, u203, u204, u205, u206, u207, rfl, h⟩
        refine ⟨Nat.le_of_ble_eq_true rfl, G.upd2 [78, 83, 84] (Wd_L_isWhole cI cS cT ad b0 b1 fN u177 u178 u179 u180 u181 u182 u183 u184 u185 u186 u187 u188 u189 u190 u191 u192 u193 u194 u195 u196 u197 u198 eld_176 u199 u200 u201 u202 u203 els_176 u204 u205 u206 u207 ao_176 fa) 85 rfl rfl rfl rfl rfl (by decide +kernel) ?_⟩
        refine g_if_eq 341 348 hC dL_isWhole_341 (by decide) (fun hc => ?_) (fun hc => ?_)
        · replace h := h.1 hc
          refine g_iconst (v := (0 : Int32)) 348 hC dL_isWhole_348 (by decide) ?_
          exact g_zret 349 hC hR dL_isWhole_349 (by decide) ⟨u177, u178, u179, u180, u181, u182, u183, u184, u185, u186, u187, u188, u189, u190, u191, u192, u193, u194, u195, u196, u197, u198, eld_176, u199, u200, u201, u202, u203, els_176, u204, u205, u206, u207, ao_176, rfl, h⟩
        · replace h := h.2 hc
          refine g_iconst (v := (1 : Int32)) 344 hC dL_isWhole_344 (by decide) ?_
          refine g_goto 345 349 hC dL_isWhole_345 (by decide) ?_
          exact g_zret 349 hC hR dL_isWhole_349 (by decide) ⟨u177, u178, u179, u180, u181, u182, u183, u184, u185, u186, u187, u188, u189, u190, u191, u192, u193, u194, u195, u196, u197, u198, eld_176, u199, u200, u201, u202, u203, els_176, u204, u205, u206, u207, ao_176, rfl, h⟩
    refine g_iload 55 1 hC dL_isWhole_55 rfl ?_
    refine g_if_eq 57 73 hC dL_isWhole_57 (by decide) (fun hc => ?_) (fun hc => ?_)
    · replace h := h.1 hc
      refine g_iconst (v := (0 : Int32)) 73 hC dL_isWhole_73 (by decide) ?_
      refine G.sub [0, 1, 2, 3, 4, 5] rfl ?_
      exact LJ8 _ h
    · replace h := h.2 hc
      refine g_iload_n 60 2 hC dL_isWhole_60 rfl ?_
      refine g_iconst (v := (1 : Int32)) 61 hC dL_isWhole_61 (by decide) ?_
      refine g_iload_n 62 3 hC dL_isWhole_62 rfl ?_
      refine g_ishl 63 hC dL_isWhole_63 ?_
      refine g_iconst (v := (1 : Int32)) 64 hC dL_isWhole_64 (by decide) ?_
      refine g_isub 65 hC dL_isWhole_65 ?_
      refine g_icmp_ne 66 73 hC dL_isWhole_66 (by decide) (fun hc => ?_) (fun hc => ?_)
      · replace h := h.1 hc
        refine g_iconst (v := (0 : Int32)) 73 hC dL_isWhole_73 (by decide) ?_
        refine G.sub [0, 1, 2, 3, 4, 5] rfl ?_
        exact LJ8 _ h
      · replace h := h.2 hc
        refine g_iconst (v := (1 : Int32)) 69 hC dL_isWhole_69 (by decide) ?_
        refine g_goto 70 74 hC dL_isWhole_70 (by decide) ?_
        refine G.sub [0, 1, 2, 3, 4, 5] rfl ?_
        exact LJ8 _ h
  refine g_aload_n 7 2 hC dL_isWhole_7 rfl ?_
  refine g_iload_n 8 1 hC dL_isWhole_8 rfl ?_
  refine g_cVi (As := [.int r1]) (rest := []) 9 0 [0, 1, 2, 5, 83] hC (c_X8_byAge l D cI cS cT ad b0 r1 nli nsct nye ao _ h) kX8_byAge wq_189 dL_isWhole_9 rfl rfl ⟨Nat.le_of_ble_eq_true rfl, Nat.le_of_ble_eq_true rfl⟩ rfl rfl (Nat.zero_le _) (Nat.zero_le _) rfl rfl rfl (Nat.le_of_ble_eq_true rfl) ?_
  rintro r210 _ ⟨u209, rfl, h⟩
  refine ⟨Nat.le_of_ble_eq_true rfl, G.upd2 [3, 4, 6, 7, 8, 9, 10, 11, 12, 13, 14, 15, 16, 17, 18, 19, 20, 21, 22, 23, 24, 25, 26, 27, 28, 29, 30, 31, 32, 33, 34, 35, 36, 37, 38, 39, 40, 41, 42, 43, 44, 45, 46, 47, 48, 49, 50, 51, 52, 53, 54, 55, 56, 57, 58, 59, 60, 61, 62, 63, 64, 65, 66, 67, 68, 69, 70, 71, 72, 73, 74, 75, 76, 77, 78, 79, 80, 81, 82, 84] (Wd_L_isWhole cI cS cT ad b0 b1 fN nli nsct nstk nsle nye nre npct nptk nple nco hnx hcn hrli hrsct hrstk hrsle hrye hrre hrpct hrptk hrple hrco eld efln eftk egln egtk etb els ggc gor gme gce u209 fa) 85 rfl rfl rfl rfl rfl (by decide +kernel) ?_⟩
  refine g_bipush (v := (-4 : Int32)) 12 hC dL_isWhole_12 (by decide) ?_
  refine g_icmp_ne 14 21 hC dL_isWhole_14 (by decide) (fun hc => ?_) (fun hc => ?_)
  · replace h := h.1 hc
    refine g_iconst (v := (0 : Int32)) 21 hC dL_isWhole_21 (by decide) ?_
    refine G.sub [0, 1, 2, 3] rfl ?_
    exact LJ4 _ _ h
  · replace h := h.2 hc
    refine g_iconst (v := (1 : Int32)) 17 hC dL_isWhole_17 (by decide) ?_
    refine g_goto 18 22 hC dL_isWhole_18 (by decide) ?_
    refine G.sub [0, 1, 2, 3] rfl ?_
    exact LJ4 _ _ h
