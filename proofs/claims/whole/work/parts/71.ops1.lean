/-! ===== the operations that change nothing but scratch, written by wip/whole/gen/asm.py ===== -/
theorem op_5 : Op_5 RR := by
  intro a1 a2 a3 bln btk nli nsct nstk nsle nye nre npct nptk nple nco hnx hcn hrli hrsct hrstk hrsle hrye hrre hrpct hrptk hrple hrco eld efln eftk egln egtk etb els mfo mpln mptk msln mstk msw mfw ggc gor gme gce cfln cftk cbln cbtk cor cap ao mnow mbefore mundoMany mtokens mbuffer mone mother moneLong motherLong mfar medits medit mgap mslot mfirstSlot mgroups mgroup mcentre hR
  obtain ⟨A, B, h, k, x, hV, hC, hM, hB1, hB2, hB, hv, hH, hN⟩ := hR
  exact s_lengthOf hV hC (m_lengthOf hV hM ⟨rfl, A, B, h, k, x, hV, hC, hM, hB1, hB2, hB, hv, hH, hN⟩)
theorem op_6 : Op_6 RR := by
  intro a1 a2 a3 bln btk nli nsct nstk nsle nye nre npct nptk nple nco hnx hcn hrli hrsct hrstk hrsle hrye hrre hrpct hrptk hrple hrco eld efln eftk egln egtk etb els mfo mpln mptk msln mstk msw mfw ggc gor gme gce cfln cftk cbln cbtk cor cap ao mnow mbefore mundoMany mtokens mbuffer mone mother moneLong motherLong mfar medits medit mgap mslot mfirstSlot mgroups mgroup mcentre hR
  obtain ⟨A, B, h, k, x, hV, hC, hM, hB1, hB2, hB, hv, hH, hN⟩ := hR
  exact s_wordAt hV hC (m_wordAt hV hM ⟨rfl, A, B, h, k, x, hV, hC, hM, hB1, hB2, hB, hv, hH, hN⟩)
theorem op_7 : Op_7 RR := by
  intro a1 a2 a3 bln btk nli nsct nstk nsle nye nre npct nptk nple nco hnx hcn hrli hrsct hrstk hrsle hrye hrre hrpct hrptk hrple hrco eld efln eftk egln egtk etb els mfo mpln mptk msln mstk msw mfw ggc gor gme gce cfln cftk cbln cbtk cor cap ao mnow mbefore mundoMany mtokens mbuffer mone mother moneLong motherLong mfar medits medit mgap mslot mfirstSlot mgroups mgroup mcentre hR
  obtain ⟨A, B, h, k, x, hV, hC, hM, hB1, hB2, hB, hv, hH, hN⟩ := hR
  exact s_byAge hV hC (fun _ => m_byAge hV hM ⟨rfl, A, B, h, k, x, hV, hC, hM, hB1, hB2, hB, hv, hH, hN⟩)
theorem op_9 : Op_9 RR := by
  intro a1 a2 a3 bln btk nli nsct nstk nsle nye nre npct nptk nple nco hnx hcn hrli hrsct hrstk hrsle hrye hrre hrpct hrptk hrple hrco eld efln eftk egln egtk etb els mfo mpln mptk msln mstk msw mfw ggc gor gme gce cfln cftk cbln cbtk cor cap ao mnow mbefore mundoMany mtokens mbuffer mone mother moneLong motherLong mfar medits medit mgap mslot mfirstSlot mgroups mgroup mcentre hR
  obtain ⟨A, B, h, k, x, hV, hC, hM, hB1, hB2, hB, hv, hH, hN⟩ := hR
  exact s_distance hV hC (fun _ _ _ _ _ => m_distance hV hM (fun _ _ _ _ _ => ⟨rfl, A, B, h, k, x, hV, hC, hM, hB1, hB2, hB, hv, hH, hN⟩))
theorem op_10 : Op_10 RR := by
  intro a1 a2 a3 bln btk nli nsct nstk nsle nye nre npct nptk nple nco hnx hcn hrli hrsct hrstk hrsle hrye hrre hrpct hrptk hrple hrco eld efln eftk egln egtk etb els mfo mpln mptk msln mstk msw mfw ggc gor gme gce cfln cftk cbln cbtk cor cap ao mnow mbefore mundoMany mtokens mbuffer mone mother moneLong motherLong mfar medits medit mgap mslot mfirstSlot mgroups mgroup mcentre hR
  obtain ⟨A, B, h, k, x, hV, hC, hM, hB1, hB2, hB, hv, hH, hN⟩ := hR
  exact s_similarityBits hV hC (fun _ _ _ _ _ => m_similarityBits hV hM (fun _ _ _ _ _ => ⟨rfl, A, B, h, k, x, hV, hC, hM, hB1, hB2, hB, hv, hH, hN⟩))
theorem op_11 : Op_11 RR := by
  intro a1 a2 a3 bln btk nli nsct nstk nsle nye nre npct nptk nple nco hnx hcn hrli hrsct hrstk hrsle hrye hrre hrpct hrptk hrple hrco eld efln eftk egln egtk etb els mfo mpln mptk msln mstk msw mfw ggc gor gme gce cfln cftk cbln cbtk cor cap ao mnow mbefore mundoMany mtokens mbuffer mone mother moneLong motherLong mfar medits medit mgap mslot mfirstSlot mgroups mgroup mcentre hR
  obtain ⟨A, B, h, k, x, hV, hC, hM, hB1, hB2, hB, hv, hH, hN⟩ := hR
  exact s_editCount hV hC (fun _ _ _ _ _ _ _ => m_editCount hV hM (fun _ _ _ _ _ _ _ => ⟨rfl, A, B, h, k, x, hV, hC, hM, hB1, hB2, hB, hv, hH, hN⟩))
theorem op_12 : Op_12 RR := by
  intro a1 a2 a3 bln btk nli nsct nstk nsle nye nre npct nptk nple nco hnx hcn hrli hrsct hrstk hrsle hrye hrre hrpct hrptk hrple hrco eld efln eftk egln egtk etb els mfo mpln mptk msln mstk msw mfw ggc gor gme gce cfln cftk cbln cbtk cor cap ao mnow mbefore mundoMany mtokens mbuffer mone mother moneLong motherLong mfar medits medit mgap mslot mfirstSlot mgroups mgroup mcentre hR
  obtain ⟨A, B, h, k, x, hV, hC, hM, hB1, hB2, hB, hv, hH, hN⟩ := hR
  exact s_editAt hV hC (fun _ _ _ _ _ _ _ => m_editAt hV hM (fun _ _ _ _ _ _ _ => ⟨rfl, A, B, h, k, x, hV, hC, hM, hB1, hB2, hB, hv, hH, hN⟩))
theorem op_13 : Op_13 RR := by
  intro a1 a2 a3 bln btk nli nsct nstk nsle nye nre npct nptk nple nco hnx hcn hrli hrsct hrstk hrsle hrye hrre hrpct hrptk hrple hrco eld efln eftk egln egtk etb els mfo mpln mptk msln mstk msw mfw ggc gor gme gce cfln cftk cbln cbtk cor cap ao mnow mbefore mundoMany mtokens mbuffer mone mother moneLong motherLong mfar medits medit mgap mslot mfirstSlot mgroups mgroup mcentre hR
  obtain ⟨A, B, h, k, x, hV, hC, hM, hB1, hB2, hB, hv, hH, hN⟩ := hR
  exact s_nearest hV hC (fun _ _ _ _ _ _ => m_nearest hV hM (fun _ _ _ _ _ => ⟨rfl, A, B, h, k, x, hV, hC, hM, hB1, hB2, hB, hv, hH, hN⟩))
theorem op_16 : Op_16 RR := by
  intro a1 a2 a3 bln btk nli nsct nstk nsle nye nre npct nptk nple nco hnx hcn hrli hrsct hrstk hrsle hrye hrre hrpct hrptk hrple hrco eld efln eftk egln egtk etb els mfo mpln mptk msln mstk msw mfw ggc gor gme gce cfln cftk cbln cbtk cor cap ao mnow mbefore mundoMany mtokens mbuffer mone mother moneLong motherLong mfar medits medit mgap mslot mfirstSlot mgroups mgroup mcentre hR
  obtain ⟨A, B, h, k, x, hV, hC, hM, hB1, hB2, hB, hv, hH, hN⟩ := hR
  exact s_fillings hV hC (fun _ _ _ _ _ _ _ => m_fillings hV hM (fun _ _ _ => ⟨rfl, A, B, h, k, x, hV, hC, hM, hB1, hB2, hB, hv, hH, hN⟩))
theorem op_17 : Op_17 RR := by
  intro a1 a2 a3 bln btk nli nsct nstk nsle nye nre npct nptk nple nco hnx hcn hrli hrsct hrstk hrsle hrye hrre hrpct hrptk hrple hrco eld efln eftk egln egtk etb els mfo mpln mptk msln mstk msw mfw ggc gor gme gce cfln cftk cbln cbtk cor cap ao mnow mbefore mundoMany mtokens mbuffer mone mother moneLong motherLong mfar medits medit mgap mslot mfirstSlot mgroups mgroup mcentre hR
  obtain ⟨A, B, h, k, x, hV, hC, hM, hB1, hB2, hB, hv, hH, hN⟩ := hR
  exact s_slotWord hV hC (fun _ _ _ _ _ _ _ => m_slotWord hV hM (fun _ _ _ => ⟨rfl, A, B, h, k, x, hV, hC, hM, hB1, hB2, hB, hv, hH, hN⟩))
theorem op_18 : Op_18 RR := by
  intro a1 a2 a3 bln btk nli nsct nstk nsle nye nre npct nptk nple nco hnx hcn hrli hrsct hrstk hrsle hrye hrre hrpct hrptk hrple hrco eld efln eftk egln egtk etb els mfo mpln mptk msln mstk msw mfw ggc gor gme gce cfln cftk cbln cbtk cor cap ao mnow mbefore mundoMany mtokens mbuffer mone mother moneLong motherLong mfar medits medit mgap mslot mfirstSlot mgroups mgroup mcentre hR
  obtain ⟨A, B, h, k, x, hV, hC, hM, hB1, hB2, hB, hv, hH, hN⟩ := hR
  exact s_matchedSayings hV hC (fun _ _ _ _ _ _ _ => m_matchedSayings hV hM (fun _ _ _ => ⟨rfl, A, B, h, k, x, hV, hC, hM, hB1, hB2, hB, hv, hH, hN⟩))
theorem op_19 : Op_19 RR := by
  intro a1 a2 a3 bln btk nli nsct nstk nsle nye nre npct nptk nple nco hnx hcn hrli hrsct hrstk hrsle hrye hrre hrpct hrptk hrple hrco eld efln eftk egln egtk etb els mfo mpln mptk msln mstk msw mfw ggc gor gme gce cfln cftk cbln cbtk cor cap ao mnow mbefore mundoMany mtokens mbuffer mone mother moneLong motherLong mfar medits medit mgap mslot mfirstSlot mgroups mgroup mcentre hR
  obtain ⟨A, B, h, k, x, hV, hC, hM, hB1, hB2, hB, hv, hH, hN⟩ := hR
  exact s_bestPattern hV hC (fun _ _ _ _ _ _ _ => m_bestPattern hV hM (fun _ _ _ => ⟨rfl, A, B, h, k, x, hV, hC, hM, hB1, hB2, hB, hv, hH, hN⟩))
theorem op_21 : Op_21 RR := by
  intro a1 a2 a3 bln btk nli nsct nstk nsle nye nre npct nptk nple nco hnx hcn hrli hrsct hrstk hrsle hrye hrre hrpct hrptk hrple hrco eld efln eftk egln egtk etb els mfo mpln mptk msln mstk msw mfw ggc gor gme gce cfln cftk cbln cbtk cor cap ao mnow mbefore mundoMany mtokens mbuffer mone mother moneLong motherLong mfar medits medit mgap mslot mfirstSlot mgroups mgroup mcentre hR
  obtain ⟨A, B, h, k, x, hV, hC, hM, hB1, hB2, hB, hv, hH, hN⟩ := hR
  exact s_groupCount hV hC (fun _ _ _ _ _ _ _ _ _ => m_groupCount hV hM (fun _ _ _ _ _ _ _ _ => ⟨rfl, A, B, h, k, x, hV, hC, hM, hB1, hB2, hB, hv, hH, hN⟩))
theorem op_22 : Op_22 RR := by
  intro a1 a2 a3 bln btk nli nsct nstk nsle nye nre npct nptk nple nco hnx hcn hrli hrsct hrstk hrsle hrye hrre hrpct hrptk hrple hrco eld efln eftk egln egtk etb els mfo mpln mptk msln mstk msw mfw ggc gor gme gce cfln cftk cbln cbtk cor cap ao mnow mbefore mundoMany mtokens mbuffer mone mother moneLong motherLong mfar medits medit mgap mslot mfirstSlot mgroups mgroup mcentre hR
  obtain ⟨A, B, h, k, x, hV, hC, hM, hB1, hB2, hB, hv, hH, hN⟩ := hR
  exact s_groupOf hV hC (fun _ _ _ _ _ _ _ _ _ => m_groupOf hV hM (fun _ _ _ _ _ _ _ _ => ⟨rfl, A, B, h, k, x, hV, hC, hM, hB1, hB2, hB, hv, hH, hN⟩))
theorem op_23 : Op_23 RR := by
  intro a1 a2 a3 bln btk nli nsct nstk nsle nye nre npct nptk nple nco hnx hcn hrli hrsct hrstk hrsle hrye hrre hrpct hrptk hrple hrco eld efln eftk egln egtk etb els mfo mpln mptk msln mstk msw mfw ggc gor gme gce cfln cftk cbln cbtk cor cap ao mnow mbefore mundoMany mtokens mbuffer mone mother moneLong motherLong mfar medits medit mgap mslot mfirstSlot mgroups mgroup mcentre hR
  obtain ⟨A, B, h, k, x, hV, hC, hM, hB1, hB2, hB, hv, hH, hN⟩ := hR
  exact s_centreOf hV hC (fun _ _ _ _ _ _ _ _ _ => m_centreOf hV hM (fun _ _ _ _ _ _ _ _ => ⟨rfl, A, B, h, k, x, hV, hC, hM, hB1, hB2, hB, hv, hH, hN⟩))
theorem op_24 : Op_24 RR := by
  intro a1 a2 a3 bln btk nli nsct nstk nsle nye nre npct nptk nple nco hnx hcn hrli hrsct hrstk hrsle hrye hrre hrpct hrptk hrple hrco eld efln eftk egln egtk etb els mfo mpln mptk msln mstk msw mfw ggc gor gme gce cfln cftk cbln cbtk cor cap ao mnow mbefore mundoMany mtokens mbuffer mone mother moneLong motherLong mfar medits medit mgap mslot mfirstSlot mgroups mgroup mcentre hR
  obtain ⟨A, B, h, k, x, hV, hC, hM, hB1, hB2, hB, hv, hH, hN⟩ := hR
  exact s_groupInfo hV hC (fun _ _ _ _ _ _ _ _ _ => m_groupInfo hV hM (fun _ _ _ _ _ _ _ _ => ⟨rfl, A, B, h, k, x, hV, hC, hM, hB1, hB2, hB, hv, hH, hN⟩))
theorem op_25 : Op_25 RR := by
  intro a1 a2 a3 bln btk nli nsct nstk nsle nye nre npct nptk nple nco hnx hcn hrli hrsct hrstk hrsle hrye hrre hrpct hrptk hrple hrco eld efln eftk egln egtk etb els mfo mpln mptk msln mstk msw mfw ggc gor gme gce cfln cftk cbln cbtk cor cap ao mnow mbefore mundoMany mtokens mbuffer mone mother moneLong motherLong mfar medits medit mgap mslot mfirstSlot mgroups mgroup mcentre hR
  obtain ⟨A, B, h, k, x, hV, hC, hM, hB1, hB2, hB, hv, hH, hN⟩ := hR
  exact s_crossingCost hV hC (fun _ _ _ _ _ _ _ _ _ => m_crossingCost hV hM (fun _ _ _ _ _ => ⟨rfl, A, B, h, k, x, hV, hC, hM, hB1, hB2, hB, hv, hH, hN⟩))
theorem op_26 : Op_26 RR := by
  intro a1 a2 a3 bln btk nli nsct nstk nsle nye nre npct nptk nple nco hnx hcn hrli hrsct hrstk hrsle hrye hrre hrpct hrptk hrple hrco eld efln eftk egln egtk etb els mfo mpln mptk msln mstk msw mfw ggc gor gme gce cfln cftk cbln cbtk cor cap ao mnow mbefore mundoMany mtokens mbuffer mone mother moneLong motherLong mfar medits medit mgap mslot mfirstSlot mgroups mgroup mcentre hR
  obtain ⟨A, B, h, k, x, hV, hC, hM, hB1, hB2, hB, hv, hH, hN⟩ := hR
  exact s_crossing hV hC (fun _ _ _ _ _ _ _ _ _ _ _ => m_crossing hV hM (fun _ _ _ _ _ => ⟨rfl, A, B, h, k, x, hV, hC, hM, hB1, hB2, hB, hv, hH, hN⟩))
