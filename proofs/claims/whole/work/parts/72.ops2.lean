/-! ===== the operations that change the state, written by wip/whole/gen/asm.py ===== -/
theorem isRow_lt {n : Nat} {z : Int32} (hn : n < 1000) (h : isRow n z) : z.toNatClampNeg < n := by
  obtain ⟨s, hs, rfl⟩ := h
  rw [nI_clamp (by omega)]
  exact hs
theorem isCv_ok {v : Int32} (h : isCv v) : 1 ≤ v.toNatClampNeg ∧ v.toNatClampNeg ≤ 9 := by
  obtain ⟨n, h1, h9, rfl⟩ := isCv_n h
  rw [nI_clamp (by omega)]
  exact ⟨h1, h9⟩
theorem eAdd_ok {A : AS} {B : Sy} {y r : Int32} (hV : VA A) (h : eAdd A B y r = 0) : A.nS < 12 ∧ okB B ∧ r.toNatClampNeg ≤ 9 := by
  have h12 := hV.1
  unfold eAdd at h
  by_cases c : isYr y ∧ isRow 10 r
  · rw [if_pos c] at h
    by_cases d : okB B
    · rw [if_pos d] at h
      by_cases e : A.nS = 12
      · rw [if_pos e] at h
        exact absurd h (by decide)
      · exact ⟨by omega, d, Nat.le_of_lt_succ (isRow_lt (by omega) c.2)⟩
    · rw [if_neg d] at h
      exact absurd h (by decide)
  · rw [if_neg c] at h
    exact absurd h (by decide)
theorem eAP_ok {A : AS} {B : Sy} (hV : VA A) (h : eAP A B = 0) : A.nP < 6 ∧ 0 < B.1 := by
  have h6 := hV.2.2.1
  unfold eAP at h
  by_cases c : B.1 = 0
  · rw [if_pos c] at h
    exact absurd h (by decide)
  · rw [if_neg c] at h
    by_cases e : A.nP = 6
    · rw [if_pos e] at h
      exact absurd h (by decide)
    · omega
theorem op_0 : Op_0 RR := by
  intro a1 a2 a3 bln btk nli nsct nstk nsle nye nre npct nptk nple nco hnx hcn hrli hrsct hrstk hrsle hrye hrre hrpct hrptk hrple hrco eld efln eftk egln egtk etb els mfo mpln mptk msln mstk msw mfw ggc gor gme gce cfln cftk cbln cbtk cor cap ao mnow mbefore mundoMany mtokens mbuffer mone mother moneLong motherLong mfar medits medit mgap mslot mfirstSlot mgroups mgroup mcentre hR
  obtain ⟨A, B, h, k, x, hV, hC, hM, hB1, hB2, hB, hv, hH, hN⟩ := hR
  exact s_append hB1 hB.1 (fun l1 f1 q1 => m_append hB2 hB.1 (fun l2 f2 q2 => ⟨rfl, A, (vApp B a1).2, h, k, x, hV, hC, hM, q1, q2, vApp_ok a1 hB, hv, hH, hN⟩))
theorem op_1 : Op_1 RR := by
  intro a1 a2 a3 bln btk nli nsct nstk nsle nye nre npct nptk nple nco hnx hcn hrli hrsct hrstk hrsle hrye hrre hrpct hrptk hrple hrco eld efln eftk egln egtk etb els mfo mpln mptk msln mstk msw mfw ggc gor gme gce cfln cftk cbln cbtk cor cap ao mnow mbefore mundoMany mtokens mbuffer mone mother moneLong motherLong mfar medits medit mgap mslot mfirstSlot mgroups mgroup mcentre hR
  obtain ⟨A, B, h, k, x, hV, hC, hM, hB1, hB2, hB, hv, hH, hN⟩ := hR
  exact ⟨hB1.1.trans hB2.1.symm, A, (0, fun _ => 0), h, k, x, hV, hC, hM, RQ_nil _, RQ_nil _, ⟨Nat.zero_le _, fun j hj => absurd hj (Nat.not_lt_zero j)⟩, hv, hH, hN⟩
theorem op_4 : Op_4 RR := by
  intro a1 a2 a3 bln btk nli nsct nstk nsle nye nre npct nptk nple nco hnx hcn hrli hrsct hrstk hrsle hrye hrre hrpct hrptk hrple hrco eld efln eftk egln egtk etb els mfo mpln mptk msln mstk msw mfw ggc gor gme gce cfln cftk cbln cbtk cor cap ao mnow mbefore mundoMany mtokens mbuffer mone mother moneLong motherLong mfar medits medit mgap mslot mfirstSlot mgroups mgroup mcentre hR
  obtain ⟨A, B, h, k, x, hV, hC, hM, hB1, hB2, hB, hv, hH, hN⟩ := hR
  exact ⟨hC.1.1.trans hM.1.1.symm, A, B, h, k, x, hV, hC, hM, hB1, hB2, hB, hv, hH, hN⟩
theorem op_2 : Op_2 RR := by
  intro a1 a2 a3 bln btk nli nsct nstk nsle nye nre npct nptk nple nco hnx hcn hrli hrsct hrstk hrsle hrye hrre hrpct hrptk hrple hrco eld efln eftk egln egtk etb els mfo mpln mptk msln mstk msw mfw ggc gor gme gce cfln cftk cbln cbtk cor cap ao mnow mbefore mundoMany mtokens mbuffer mone mother moneLong motherLong mfar medits medit mgap mslot mfirstSlot mgroups mgroup mcentre hR
  obtain ⟨A, B, h, k, x, hV, hC, hM, hB1, hB2, hB, hv, hH, hN⟩ := hR
  have hk := hH.2.2.2.1
  by_cases c : eAdd A B a1 a2 = 0
  · refine s_addSaying hV hC hH hB1 hB.1 hB.2 (fun z => absurd c z) (fun _ _ _ _ _ _ _ _ _ _ _ _ _ _ _ _ _ _ q1 q2 => m_addSaying hV hv hk hM hN hB2 hB.1 hB.2 (fun z => absurd c z) (fun _ n1 b1 u1 q3 q4 => ⟨rfl, addS A B a1 a2.toNatClampNeg, (0, fun _ => 0), hsh A h, min (k + 1) 5, (x + 1) % 5, VA_addS hV (eAdd_ok hV c).1 (eAdd_ok hV c).2.1 hB.1 (eAdd_ok hV c).2.2, q1, q3, RQ_nil _, RQ_nil _, ⟨Nat.zero_le _, fun j hj => absurd hj (Nat.not_lt_zero j)⟩, VA_push hV hv, q2, q4⟩))
  · exact s_addSaying hV hC hH hB1 hB.1 hB.2 (fun _ => m_addSaying hV hv hk hM hN hB2 hB.1 hB.2 (fun _ => ⟨rfl, A, B, h, k, x, hV, hC, hM, hB1, hB2, hB, hv, hH, hN⟩) (fun z => absurd z c)) (fun z => absurd z c)
theorem op_3 : Op_3 RR := by
  intro a1 a2 a3 bln btk nli nsct nstk nsle nye nre npct nptk nple nco hnx hcn hrli hrsct hrstk hrsle hrye hrre hrpct hrptk hrple hrco eld efln eftk egln egtk etb els mfo mpln mptk msln mstk msw mfw ggc gor gme gce cfln cftk cbln cbtk cor cap ao mnow mbefore mundoMany mtokens mbuffer mone mother moneLong motherLong mfar medits medit mgap mslot mfirstSlot mgroups mgroup mcentre hR
  obtain ⟨A, B, h, k, x, hV, hC, hM, hB1, hB2, hB, hv, hH, hN⟩ := hR
  have hk := hH.2.2.2.1
  by_cases c : isRow A.nS a1
  · refine s_removeSaying hV hC hH (fun z => absurd c z) (fun _ _ _ _ _ _ _ _ _ _ _ _ _ _ _ _ _ _ q1 q2 => m_removeSaying hV hv hk hM hN (fun z => absurd c z) (fun _ n1 b1 u1 q3 q4 => ⟨rfl, delS A a1.toNatClampNeg, B, hsh A h, min (k + 1) 5, (x + 1) % 5, VA_delS hV (isRow_lt (by have := hV.1; omega) c), q1, q3, hB1, hB2, hB, VA_push hV hv, q2, q4⟩))
  · exact s_removeSaying hV hC hH (fun _ => m_removeSaying hV hv hk hM hN (fun _ => ⟨rfl, A, B, h, k, x, hV, hC, hM, hB1, hB2, hB, hv, hH, hN⟩) (fun z => absurd z c)) (fun z => absurd z c)
theorem op_8 : Op_8 RR := by
  intro a1 a2 a3 bln btk nli nsct nstk nsle nye nre npct nptk nple nco hnx hcn hrli hrsct hrstk hrsle hrye hrre hrpct hrptk hrple hrco eld efln eftk egln egtk etb els mfo mpln mptk msln mstk msw mfw ggc gor gme gce cfln cftk cbln cbtk cor cap ao mnow mbefore mundoMany mtokens mbuffer mone mother moneLong motherLong mfar medits medit mgap mslot mfirstSlot mgroups mgroup mcentre hR
  obtain ⟨A, B, h, k, x, hV, hC, hM, hB1, hB2, hB, hv, hH, hN⟩ := hR
  have hk := hH.2.2.2.1
  by_cases c : isRow 4 a1 ∧ isCv a2
  · refine s_setCost hV hC hH (fun z => absurd c z) (fun _ _ _ _ _ _ _ _ _ _ _ _ _ _ q1 q2 => m_setCost hV hv hk hM hN (fun z => absurd c z) (fun _ n1 b1 u1 q3 q4 => ⟨rfl, stC A a1.toNatClampNeg a2.toNatClampNeg, B, hsh A h, min (k + 1) 5, (x + 1) % 5, VA_stC hV (isCv_ok c.2).1 (isCv_ok c.2).2, q1, q3, hB1, hB2, hB, VA_push hV hv, q2, q4⟩))
  · exact s_setCost hV hC hH (fun _ => m_setCost hV hv hk hM hN (fun _ => ⟨rfl, A, B, h, k, x, hV, hC, hM, hB1, hB2, hB, hv, hH, hN⟩) (fun z => absurd z c)) (fun z => absurd z c)
theorem op_14 : Op_14 RR := by
  intro a1 a2 a3 bln btk nli nsct nstk nsle nye nre npct nptk nple nco hnx hcn hrli hrsct hrstk hrsle hrye hrre hrpct hrptk hrple hrco eld efln eftk egln egtk etb els mfo mpln mptk msln mstk msw mfw ggc gor gme gce cfln cftk cbln cbtk cor cap ao mnow mbefore mundoMany mtokens mbuffer mone mother moneLong motherLong mfar medits medit mgap mslot mfirstSlot mgroups mgroup mcentre hR
  obtain ⟨A, B, h, k, x, hV, hC, hM, hB1, hB2, hB, hv, hH, hN⟩ := hR
  have hk := hH.2.2.2.1
  by_cases c : eAP A B = 0
  · refine s_addPattern hV hC hH hB1 hB.1 (fun z => absurd c z) (fun _ _ _ _ _ _ _ _ _ _ _ _ _ _ _ _ q1 q2 => m_addPattern hV hv hk hM hN hB2 hB.1 (fun z => absurd c z) (fun _ n1 b1 u1 q3 q4 => ⟨rfl, addP A B, (0, fun _ => 0), hsh A h, min (k + 1) 5, (x + 1) % 5, VA_addP hV (eAP_ok hV c).1 (eAP_ok hV c).2 hB.1 hB.2, q1, q3, RQ_nil _, RQ_nil _, ⟨Nat.zero_le _, fun j hj => absurd hj (Nat.not_lt_zero j)⟩, VA_push hV hv, q2, q4⟩))
  · exact s_addPattern hV hC hH hB1 hB.1 (fun _ => m_addPattern hV hv hk hM hN hB2 hB.1 (fun _ => ⟨rfl, A, B, h, k, x, hV, hC, hM, hB1, hB2, hB, hv, hH, hN⟩) (fun z => absurd z c)) (fun z => absurd z c)
theorem op_15 : Op_15 RR := by
  intro a1 a2 a3 bln btk nli nsct nstk nsle nye nre npct nptk nple nco hnx hcn hrli hrsct hrstk hrsle hrye hrre hrpct hrptk hrple hrco eld efln eftk egln egtk etb els mfo mpln mptk msln mstk msw mfw ggc gor gme gce cfln cftk cbln cbtk cor cap ao mnow mbefore mundoMany mtokens mbuffer mone mother moneLong motherLong mfar medits medit mgap mslot mfirstSlot mgroups mgroup mcentre hR
  obtain ⟨A, B, h, k, x, hV, hC, hM, hB1, hB2, hB, hv, hH, hN⟩ := hR
  have hk := hH.2.2.2.1
  by_cases c : isRow A.nP a1
  · refine s_removePattern hV hC hH (fun z => absurd c z) (fun _ _ _ _ _ _ _ _ _ _ _ _ _ _ _ _ q1 q2 => m_removePattern hV hv hk hM hN (fun z => absurd c z) (fun _ n1 b1 u1 q3 q4 => ⟨rfl, delP A a1.toNatClampNeg, B, hsh A h, min (k + 1) 5, (x + 1) % 5, VA_delP hV (isRow_lt (by have := hV.2.2.1; omega) c), q1, q3, hB1, hB2, hB, VA_push hV hv, q2, q4⟩))
  · exact s_removePattern hV hC hH (fun _ => m_removePattern hV hv hk hM hN (fun _ => ⟨rfl, A, B, h, k, x, hV, hC, hM, hB1, hB2, hB, hv, hH, hN⟩) (fun z => absurd z c)) (fun z => absurd z c)
theorem op_20 : Op_20 RR := by
  intro a1 a2 a3 bln btk nli nsct nstk nsle nye nre npct nptk nple nco hnx hcn hrli hrsct hrstk hrsle hrye hrre hrpct hrptk hrple hrco eld efln eftk egln egtk etb els mfo mpln mptk msln mstk msw mfw ggc gor gme gce cfln cftk cbln cbtk cor cap ao mnow mbefore mundoMany mtokens mbuffer mone mother moneLong motherLong mfar medits medit mgap mslot mfirstSlot mgroups mgroup mcentre hR
  obtain ⟨A, B, h, k, x, hV, hC, hM, hB1, hB2, hB, hv, hH, hN⟩ := hR
  have hk := hH.2.2.2.1
  by_cases c : isRow 21 a1
  · refine s_setLimit hV hC hH (fun z => absurd c z) (fun _ _ _ _ _ _ _ _ _ _ _ _ _ _ q1 q2 => m_setLimit hV hv hk hM hN (fun z => absurd c z) (fun _ n1 b1 u1 q3 q4 => ⟨rfl, stL A a1.toNatClampNeg, B, hsh A h, min (k + 1) 5, (x + 1) % 5, VA_stL hV (Nat.le_of_lt_succ (isRow_lt (by omega) c)), q1, q3, hB1, hB2, hB, VA_push hV hv, q2, q4⟩))
  · exact s_setLimit hV hC hH (fun _ => m_setLimit hV hv hk hM hN (fun _ => ⟨rfl, A, B, h, k, x, hV, hC, hM, hB1, hB2, hB, hv, hH, hN⟩) (fun z => absurd z c)) (fun z => absurd z c)
theorem op_27 : Op_27 RR := by
  intro a1 a2 a3 bln btk nli nsct nstk nsle nye nre npct nptk nple nco hnx hcn hrli hrsct hrstk hrsle hrye hrre hrpct hrptk hrple hrco eld efln eftk egln egtk etb els mfo mpln mptk msln mstk msw mfw ggc gor gme gce cfln cftk cbln cbtk cor cap ao mnow mbefore mundoMany mtokens mbuffer mone mother moneLong motherLong mfar medits medit mgap mslot mfirstSlot mgroups mgroup mcentre hR
  obtain ⟨A, B, h, k, x, hV, hC, hM, hB1, hB2, hB, hv, hH, hN⟩ := hR
  have hk := hH.2.2.2.1
  by_cases c : k = 0
  · exact s_undo hv hH (fun z => absurd c (by omega)) (fun _ => m_undo hv hk hM hN (fun z => absurd c (by omega)) (fun _ => ⟨rfl, A, B, h, k, x, hV, hC, hM, hB1, hB2, hB, hv, hH, hN⟩))
  · exact s_undo hv hH (fun _ nx' li' sct' stk' sle' ye' re' pct' ptk' ple' co' q1 q2 => m_undo hv hk hM hN (fun _ now' q3 q4 => ⟨rfl, h 0, B, (fun j => h (j + 1)), k - 1, (x + 4) % 5, hv 0 (by omega), q1, q3, hB1, hB2, hB, (fun j hj => hv (j + 1) (by omega)), q2, q4⟩) (fun z => absurd z c)) (fun z => absurd z c)
