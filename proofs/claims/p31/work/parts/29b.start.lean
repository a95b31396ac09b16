section GIP
variable {l : Launch} {D : va_G} {ty : List (ClassId × FieldType)} {E : CE} {rm : Room} {cc : ByteArray} {own : String} {k n : Nat} {ws : va_W} {lv : List (Nat × Value)} {rest st : List Value}
/-- a public constructor, on the cell that was made last -/
theorem g_cIp (pc : Nat) {idx a mL mc ms : Nat} {e0 : va_E} {y : MethodName} {cb : ByteArray} {rm' : Room} {As : List Value} {post : va_W → Prop} (hC : Cx l D ty E rm cc own) (hO : AO E.s) (hM : MC l D ty y cb mL rm' (.ref a :: As) [(a, e0)] post) (hcode : Cond.code y cb mL none ∈ wsL_law) (hini : Cond.initialized y.cls ∈ wsL_law) (hinst : Cond.instanceMethod y ∈ wsL_law) (hnm : y.name = "<init>") (hd : y.cls ≠ "java/lang/invoke/MethodHandle" ∧ y.cls ≠ "java/lang/invoke/VarHandle" ∧ (parseMethodDescriptor y.desc).map (fun d => d.parameters.length) = some As.length) (hw : Cond.methodLink own idx y ∈ wsL_law) (hdg : decode cc pc = .ok (.invokespecial idx, 3))
    (hR : rm'.frames + 1 ≤ rm.frames ∧ 8 + (mL + 11) + rm'.locals ≤ rm.locals) (hc0 : rm'.cells = mc) (hs0 : rm'.slots = ms) (hk0 : k + mc ≤ rm.cells) (hn0 : n + ms ≤ rm.slots) (hst : st = As.reverse ++ .ref a :: rest) (hrs : (rest.map fun v => v.category).sum ≤ 8)
    (k9 : ∀ w, post w → G l D E (k + mc) (n + ms) (ws ++ w) lv (pc + 3) rest) : G l D E k n (ws ++ [(a, e0)]) lv pc st := by
  intro H locs ls hP hD hS hl
  subst hst
  subst hc0
  subst hs0
  have hC' := hC
  obtain ⟨b1, b2, b3, b4, b5, b6, b7, b8, b9⟩ := hC
  have hlast : ([ws.length] : List Nat).map (fun i => (ws ++ [(a, e0)])[i]?) = ([(a, e0)] : va_W).map some := by simp
  have hrest : (List.range ws.length).map (fun i => (ws ++ [(a, e0)])[i]?) = ws.map some := by
    apply List.ext_getElem?
    intro i
    by_cases hi : i < ws.length
    · simp [List.getElem?_append_left, hi]
    · simp [hi]
  have hFc := va_free (wc := [(a, e0)]) hD hS b8 [ws.length] hlast
  have hblind : FrameBlind (va_Pc (.ref a :: As) (fun U => gP D ty H.size [(a, e0)] U ∧ AO U)) := by
    rintro a1 U g mk ⟨h0, h1, h2⟩
    exact ⟨h0, (gP_blind _ U g mk ⟨h0, h1⟩).2, AO.moved (u := U) (U := U.calling g mk a1) (Vm.Alike.refl U.vm) h2⟩
  refine va_callv (A1 := va_A [(a, e0)] H.size) (mc := rm'.cells) (ms := rm'.slots) (va_runI (As := As) (rest := rest) ⟨b1, b2, b3, b4, b5⟩ (hM H.size) ⟨callB_of As.length b5 (gdU hcode) rfl rfl rfl (b5 _ hini) (b5 _ hw) hd (b9 ▸ hR), hnm, b5 _ hinst⟩ ⟨hblind, fun U hU hW => ⟨rfl, (gPre (as := []) hC' hP hD hlast rfl U hU hW).2, AO.moved hW.alike hO⟩⟩ rfl rfl hl.1 rfl (lv_room hrs) hdg ⟨b9 ▸ hk0, b9 ▸ hn0⟩) hS (fun q _ h => hFc q h) hFc (fun w t H1 locs1 ht hvm hw9 hB hz1 hk1 hS1 => ?_)
  obtain ⟨hP1, hD1⟩ := hB
  rw [ht] at hP1
  have hnd : va_nd (List.range ws.length) = true := va_nd_range _
  obtain ⟨g1, g2⟩ := va_join (wr := ws) (w1 := w) hP hD [ws.length] (List.range ws.length) hlast hrest hnd (fun i hi q => by have h1 := List.mem_range.mp hi; have h2 := List.mem_singleton.mp q; omega) hk1 hFc hP1 hD1
  exact k9 w hw9 H1 locs1 ls g1 g2 hS1 hl
end GIP
theorem G.widen {l : Launch} {D : va_G} {E : CE} {k n k2 n2 : Nat} {ws : va_W} {lv : List (Nat × Value)} {pc : Nat} {st : List Value} (hk : k ≤ k2) (hn : n ≤ n2) (k9 : G l D E k2 n2 ws lv pc st) : G l D E k n ws lv pc st := fun H locs ls hP hD hS hl => W.widen hk hn (k9 H locs ls hP hD hS hl)
set_option maxHeartbeats 16000000 in
set_option maxRecDepth 100000 in
theorem start_G {l : Launch} {D : va_G} {cI cS cT : ClassId} {E : CE} {b L9 : Nat} {xs : Nat → Int32} (h0 : P_L_law (upd (upd (upd (upd (fun _ => 0) (Int32.toNatClampNeg (0 : Int32)) (2 : Int32)) (Int32.toNatClampNeg (1 : Int32)) (3 : Int32)) (Int32.toNatClampNeg (2 : Int32)) (1 : Int32)) (Int32.toNatClampNeg (3 : Int32)) (2 : Int32)) 0 (fun _ => 0) (3 : Int32) 0 (fun _ => 0) (fun _ => 0) (fun _ => 0) (fun _ => 0) 0 (fun _ => 0) (fun _ => 0) iCo 0 0 (fun _ => (3 : Int32)) (fun _ => 0) (fun _ _ => 0) (fun _ _ => 0) (fun _ _ => 0) (fun _ _ => 0) (fun _ => 0) (fun _ _ => 0) (fun _ _ => 0) (fun _ => iCo) 0 0 (fun _ => 0) 0 (fun _ => 0) (fun _ _ => 0) (fun _ => 0) 0 0 (fun _ => 0) 0 (fun _ => 0) (fun _ => 0) (fun _ => 0) 0 (fun _ => 0) (fun _ => 0) (fun _ => 0) 0 (fun _ => 0) 0 (fun _ => 0) (fun _ => 0) (fun _ => 0) (fun _ => 0)) (hC : Cx l D (TY cI cS cT) E room_1 cL_law RL) (hO : AO E.s) (hX : va_X b L9 xs E.s E.s.heap) (hbl : b < E.s.heap.size) (hbA : ¬ E.A b) (hL : L9 ≤ 260) (hn : E.nL = 9) (hEnd : ∀ ws lv, G l D E 600000 7302250 ws lv 308 [.int 1]) : G l D E 0 0 [] [(0, .ref b)] 0 [] := by
  refine g_iconst (v := (4 : Int32)) 0 hC dL_law_0 (by decide) ?_
  refine g_newa (cI := cI) (N := 4) 1 hC dL_law_1 rfl (by decide) (by decide) (by decide) (Nat.le_of_ble_eq_true rfl) (Nat.le_of_ble_eq_true rfl) (fun q1 => ?_)
  refine g_astore_n 3 [(1, .ref q1), (0, .ref b)] hC dL_law_3 (by rw [hn]; decide) rfl ?_
  refine g_aload_n 4 0 hC dL_law_4 rfl ?_
  refine g_iconst (v := (0 : Int32)) 5 hC dL_law_5 (by decide) ?_
  refine g_iconst (v := (2 : Int32)) 6 hC dL_law_6 (by decide) ?_
  refine g_iast 7 0 [(q1, .inl (cI, 4, .inl (upd (fun _ => 0) (Int32.toNatClampNeg (0 : Int32)) (2 : Int32))))] hC dL_law_7 rfl rfl (by unfold vp_in; decide) rfl ?_
  refine g_aload_n 8 0 hC dL_law_8 rfl ?_
  refine g_iconst (v := (1 : Int32)) 9 hC dL_law_9 (by decide) ?_
  refine g_iconst (v := (3 : Int32)) 10 hC dL_law_10 (by decide) ?_
  refine g_iast 11 0 [(q1, .inl (cI, 4, .inl (upd (upd (fun _ => 0) (Int32.toNatClampNeg (0 : Int32)) (2 : Int32)) (Int32.toNatClampNeg (1 : Int32)) (3 : Int32))))] hC dL_law_11 rfl rfl (by unfold vp_in; decide) rfl ?_
  refine g_aload_n 12 0 hC dL_law_12 rfl ?_
  refine g_iconst (v := (2 : Int32)) 13 hC dL_law_13 (by decide) ?_
  refine g_iconst (v := (1 : Int32)) 14 hC dL_law_14 (by decide) ?_
  refine g_iast 15 0 [(q1, .inl (cI, 4, .inl (upd (upd (upd (fun _ => 0) (Int32.toNatClampNeg (0 : Int32)) (2 : Int32)) (Int32.toNatClampNeg (1 : Int32)) (3 : Int32)) (Int32.toNatClampNeg (2 : Int32)) (1 : Int32))))] hC dL_law_15 rfl rfl (by unfold vp_in; decide) rfl ?_
  refine g_aload_n 16 0 hC dL_law_16 rfl ?_
  refine g_iconst (v := (3 : Int32)) 17 hC dL_law_17 (by decide) ?_
  refine g_iconst (v := (2 : Int32)) 18 hC dL_law_18 (by decide) ?_
  refine g_iast 19 0 [(q1, .inl (cI, 4, .inl (upd (upd (upd (upd (fun _ => 0) (Int32.toNatClampNeg (0 : Int32)) (2 : Int32)) (Int32.toNatClampNeg (1 : Int32)) (3 : Int32)) (Int32.toNatClampNeg (2 : Int32)) (1 : Int32)) (Int32.toNatClampNeg (3 : Int32)) (2 : Int32))))] hC dL_law_19 rfl rfl (by unfold vp_in; decide) rfl ?_
  refine g_new (ci := 8) 20 [.null, .null, .null, .null, .null, .null, .null, .null] hC inlX8 tyX8_ok wq_1 wq_2 wq_3 dL_law_20 rfl (fun j hj => by rcases (show j = 0 ∨ j = 1 ∨ j = 2 ∨ j = 3 ∨ j = 4 ∨ j = 5 ∨ j = 6 ∨ j = 7 by omega) with rfl | rfl | rfl | rfl | rfl | rfl | rfl | rfl <;> rfl) (Nat.le_of_ble_eq_true rfl) (Nat.le_of_ble_eq_true rfl) (fun q2 => ?_)
  refine g_dup 23 hC dL_law_23 rfl ?_
  refine g_cIp (mc := 99) (ms := 1506) (As := []) (rest := [.ref q2]) 24 hC hO (c_X8_init l D cI cS cT q2) wq_6 wq_3 wq_5 rfl (by decide +kernel) wq_4 dL_law_24 ⟨Nat.le_of_ble_eq_true rfl, Nat.le_of_ble_eq_true rfl⟩ rfl rfl (Nat.le_of_ble_eq_true rfl) (Nat.le_of_ble_eq_true rfl) rfl (Nat.le_of_ble_eq_true rfl) ?_
  rintro _ ⟨ad1, rfl, rfl⟩
  refine g_astore_n 27 [(2, .ref (ad1 0)), (1, .ref q1), (0, .ref b)] hC dL_law_27 (by rw [hn]; decide) rfl ?_
  refine G.widen (k2 := 600000) (n2 := 7302250) (Nat.le_of_ble_eq_true rfl) (Nat.le_of_ble_eq_true rfl) ?_
  refine G.to (ws' := (Wd_L_law cI cS cT (fun i => if i < 1 then q1 else ad1 (i - 1)) 0 1 (upd (upd (upd (upd (fun _ => 0) (Int32.toNatClampNeg (0 : Int32)) (2 : Int32)) (Int32.toNatClampNeg (1 : Int32)) (3 : Int32)) (Int32.toNatClampNeg (2 : Int32)) (1 : Int32)) (Int32.toNatClampNeg (3 : Int32)) (2 : Int32)) 0 (fun _ => 0) (3 : Int32) 0 (fun _ => 0) (fun _ => 0) (fun _ => 0) (fun _ => 0) 0 (fun _ => 0) (fun _ => 0) iCo 0 0 (fun _ => (3 : Int32)) (fun _ => 0) (fun _ _ => 0) (fun _ _ => 0) (fun _ _ => 0) (fun _ _ => 0) (fun _ => 0) (fun _ _ => 0) (fun _ _ => 0) (fun _ => iCo) 0 0 (fun _ => 0) 0 (fun _ => 0) (fun _ _ => 0) (fun _ => 0) 0 0 (fun _ => 0) 0 (fun _ => 0) (fun _ => 0) (fun _ => 0) 0 (fun _ => 0) (fun _ => 0) (fun _ => 0) 0 (fun _ => 0) 0 (fun _ => 0) (fun _ => 0) (fun _ => 0) (fun _ => 0))) ?_ ?_
  · have e1 : (fun i => if i < 5 then some (ad1 (0 + 15 + 10 * i)) else none) = (fun i => if i < 5 then some ((fun i => if i < 1 then q1 else ad1 (i - 1)) (1 + 15 + 10 * i)) else none) := ring5_eq (r := fun i => ad1 (0 + 15 + 10 * i)) (g := fun i => (fun i => if i < 1 then q1 else ad1 (i - 1)) (1 + 15 + 10 * i)) rfl rfl rfl rfl rfl
    have e2 : (fun i => if i < 9 then some (ad1 (0 + 71 + i)) else none) = (fun i => if i < 9 then some ((fun i => if i < 1 then q1 else ad1 (i - 1)) (1 + 71 + i)) else none) := tab_eq (r := fun i => ad1 (0 + 71 + i)) (g := fun i => (fun i => if i < 1 then q1 else ad1 (i - 1)) (1 + 71 + i)) rfl rfl rfl rfl rfl rfl rfl rfl rfl
    unfold Wf_X8 Wd_L_law
    rw [e1, e2]
    rfl
  exact c_L_law (ad := (fun i => if i < 1 then q1 else ad1 (i - 1))) (b0 := 0) (b1 := 1) hC ⟨hX, hL⟩ hbl hbA hEnd hn (upd (upd (upd (upd (fun _ => 0) (Int32.toNatClampNeg (0 : Int32)) (2 : Int32)) (Int32.toNatClampNeg (1 : Int32)) (3 : Int32)) (Int32.toNatClampNeg (2 : Int32)) (1 : Int32)) (Int32.toNatClampNeg (3 : Int32)) (2 : Int32)) 0 (fun _ => 0) (3 : Int32) 0 (fun _ => 0) (fun _ => 0) (fun _ => 0) (fun _ => 0) 0 (fun _ => 0) (fun _ => 0) iCo 0 0 (fun _ => (3 : Int32)) (fun _ => 0) (fun _ _ => 0) (fun _ _ => 0) (fun _ _ => 0) (fun _ _ => 0) (fun _ => 0) (fun _ _ => 0) (fun _ _ => 0) (fun _ => iCo) 0 0 (fun _ => 0) 0 (fun _ => 0) (fun _ _ => 0) (fun _ => 0) 0 0 (fun _ => 0) 0 (fun _ => 0) (fun _ => 0) (fun _ => 0) 0 (fun _ => 0) (fun _ => 0) (fun _ => 0) 0 (fun _ => 0) 0 (fun _ => 0) (fun _ => 0) (fun _ => 0) (fun _ => 0) h0
set_option maxHeartbeats 16000000 in
set_option maxRecDepth 100000 in
theorem whole_of (h0 : P_L_law (upd (upd (upd (upd (fun _ => 0) (Int32.toNatClampNeg (0 : Int32)) (2 : Int32)) (Int32.toNatClampNeg (1 : Int32)) (3 : Int32)) (Int32.toNatClampNeg (2 : Int32)) (1 : Int32)) (Int32.toNatClampNeg (3 : Int32)) (2 : Int32)) 0 (fun _ => 0) (3 : Int32) 0 (fun _ => 0) (fun _ => 0) (fun _ => 0) (fun _ => 0) 0 (fun _ => 0) (fun _ => 0) iCo 0 0 (fun _ => (3 : Int32)) (fun _ => 0) (fun _ _ => 0) (fun _ _ => 0) (fun _ _ => 0) (fun _ _ => 0) (fun _ => 0) (fun _ _ => 0) (fun _ _ => 0) (fun _ => iCo) 0 0 (fun _ => 0) 0 (fun _ => 0) (fun _ _ => 0) (fun _ => 0) 0 0 (fun _ => 0) 0 (fun _ => 0) (fun _ => 0) (fun _ => 0) 0 (fun _ => 0) (fun _ => 0) (fun _ => 0) 0 (fun _ => 0) 0 (fun _ => 0) (fun _ => 0) (fun _ => 0) (fun _ => 0)) {p : Program} {e : Env} {s : State} {m : MethodId} {below : List Frame} {meth : Method} {c : Code} (l : Launch) {b L : Nat} {xs : Nat → Int32} (hL : L ≤ 260) (C0 : lw_At p s m meth c b L xs) : W p l e room_1 s m #[Value.ref b] below meth c s.heap [] 0 0 (lw_Z below #[Value.ref b] s) (entryFrame m ([Value.ref b] : List Value).toArray 9) := by
  obtain ⟨hx, hb, hr, hml, hown, hts, hX, hbl, hlocks, hgv⟩ := id C0
  have hwl : ∀ w ∈ wsL_law, w.before #[Value.ref b] s = true := fun w h => hts w (wsL_in w h)
  have htb : ∀ w ∈ tables_1, w.before #[Value.ref b] s = true := fun w h => hts w (List.mem_append_right _ h)
  have hNW : NW s := by
    intro w hw
    have h1 := htb w (List.mem_filter.mp hw).1
    have h2 := (List.mem_filter.mp hw).2
    cases w <;> first | exact va_Nw.of rfl h1 | exact absurd h2 (by simp [nwWarm])
  have hA1 : va_AO RX7 s := va_AO.of (htb (.arrayOver (.object RX7)) (List.mem_of_getElem? (i := 100) rfl))
  have hA2 : gAO2 s := htb (.arrayOver (.array .int)) (List.mem_of_getElem? (i := 122) rfl)
  obtain ⟨c0, i0, hk0⟩ := u_known (C := RX0) (T := TX0) (N := 4) (n := 4) hwl inlX0 (hwl _ wq_35)
  obtain ⟨c1, i1, hk1⟩ := u_known (C := RX1) (T := TX1) (N := 5) (n := 5) hwl inlX1 (hwl _ wq_23)
  obtain ⟨c2, i2, hk2⟩ := u_known (C := RX2) (T := TX2) (N := 4) (n := 4) hwl inlX2 (hwl _ wq_31)
  obtain ⟨c3, i3, hk3⟩ := u_known (C := RX3) (T := TX3) (N := 3) (n := 3) hwl inlX3 (hwl _ wq_19)
  obtain ⟨c4, i4, hk4⟩ := u_known (C := RX4) (T := TX4) (N := 5) (n := 5) hwl inlX4 (hwl _ wq_27)
  obtain ⟨c5, i5, hk5⟩ := u_known (C := RX5) (T := TX5) (N := 2) (n := 2) hwl inlX5 (hwl _ wq_11)
  obtain ⟨c6, i6, hk6⟩ := u_known (C := RX6) (T := TX6) (N := 4) (n := 4) hwl inlX6 (hwl _ wq_47)
  obtain ⟨c7, i7, hk7⟩ := u_known (C := RX7) (T := TX7) (N := 6) (n := 6) hwl inlX7 (hwl _ wq_15)
  obtain ⟨c8, i8, hk8⟩ := u_known (C := RX8) (T := TX8) (N := 8) (n := 8) hwl inlX8 (hwl _ wq_2)
  obtain ⟨cI, kI, compI, f1, f2, f3⟩ := Cond.arrayClass_spec (hwl _ wArrI)
  obtain ⟨compS, cS, kS, g1, -, g2, g3, g4⟩ := Cond.arrayOver_spec hA1
  obtain ⟨compT, cT, kT, t1, t2, t3, t4⟩ := Cond.arrayOver_specA hA2
  have hKc : ∀ (k : Nat) (q : vw_C), vwCl[k]? = some q → u_Kn s q.1 q.2.1 q.2.2 ((fun k => if k = 0 then c0 else if k = 1 then c1 else if k = 2 then c2 else if k = 3 then c3 else if k = 4 then c4 else if k = 5 then c5 else if k = 6 then c6 else if k = 7 then c7 else c8) k) ((fun k => if k = 0 then i0 else if k = 1 then i1 else if k = 2 then i2 else if k = 3 then i3 else if k = 4 then i4 else if k = 5 then i5 else if k = 6 then i6 else if k = 7 then i7 else i8) k) := by
    intro k q hq
    have hlt : k < 9 := (List.getElem?_eq_some_iff.mp hq).1
    rcases (show k = 0 ∨ k = 1 ∨ k = 2 ∨ k = 3 ∨ k = 4 ∨ k = 5 ∨ k = 6 ∨ k = 7 ∨ k = 8 by omega) with rfl | rfl | rfl | rfl | rfl | rfl | rfl | rfl | rfl <;> (obtain rfl := Option.some.inj hq; assumption)
  have hK : va_K ((fun k => if k = 0 then c0 else if k = 1 then c1 else if k = 2 then c2 else if k = 3 then c3 else if k = 4 then c4 else if k = 5 then c5 else if k = 6 then c6 else if k = 7 then c7 else c8), (fun k => if k = 0 then i0 else if k = 1 then i1 else if k = 2 then i2 else if k = 3 then i3 else if k = 4 then i4 else if k = 5 then i5 else if k = 6 then i6 else if k = 7 then i7 else i8)) vwCl (TY cI cS cT) s := by
    refine ⟨hKc, fun k q hq => ?_⟩
    have hlt : k < 3 := (List.getElem?_eq_some_iff.mp hq).1
    rcases (show k = 0 ∨ k = 1 ∨ k = 2 by omega) with rfl | rfl | rfl
    · obtain rfl := Option.some.inj hq
      exact ⟨fun n z => ⟨fun k h => (by cases h), kI, f2, compI, f3⟩, f1⟩
    · obtain rfl := Option.some.inj hq
      exact ⟨fun n z => ⟨fun k h => (by cases h), kS, g2, compS, g3⟩, kS, compS, g2, g3, g1, g4⟩
    · obtain rfl := Option.some.inj hq
      exact ⟨fun n z => ⟨fun k h => (by cases h), kT, t2, compT, t3⟩, t4⟩
  have hC : Cx l ((fun k => if k = 0 then c0 else if k = 1 then c1 else if k = 2 then c2 else if k = 3 then c3 else if k = 4 then c4 else if k = 5 then c5 else if k = 6 then c6 else if k = 7 then c7 else c8), (fun k => if k = 0 then i0 else if k = 1 then i1 else if k = 2 then i2 else if k = 3 then i3 else if k = 4 then i4 else if k = 5 then i5 else if k = 6 then i6 else if k = 7 then i7 else i8)) (TY cI cS cT) (p, e, room_1, s, m, #[Value.ref b], below, meth, c, (fun q : Nat => s.heap.size ≤ q), 9, lw_Z below #[Value.ref b] s) room_1 cL_law RL := ⟨hx, hb, hml, hown, hwl, hNW, hK, fun q h => h, rfl⟩
  have hEnd : ∀ ws lv, G l ((fun k => if k = 0 then c0 else if k = 1 then c1 else if k = 2 then c2 else if k = 3 then c3 else if k = 4 then c4 else if k = 5 then c5 else if k = 6 then c6 else if k = 7 then c7 else c8), (fun k => if k = 0 then i0 else if k = 1 then i1 else if k = 2 then i2 else if k = 3 then i3 else if k = 4 then i4 else if k = 5 then i5 else if k = 6 then i6 else if k = 7 then i7 else i8)) (p, e, room_1, s, m, #[Value.ref b], below, meth, c, (fun q : Nat => s.heap.size ≤ q), 9, lw_Z below #[Value.ref b] s) 600000 7302250 ws lv 308 [.int 1] := by
    intro ws lv H locs ls hP hD hS hl
    refine va_forget (fun q hq => hS.2.2 q hq) ?_
    exact lw_ret (d0 := s.drawn) (Drawn.sameBut.refl s.drawn lw_cs) hx hb hr hlocks dL_law_308
  have hl := lv_entry ([.ref b]) (n := 9) (Nat.le_of_ble_eq_true rfl)
  rw [lg_entry_eq]
  exact start_G h0 hC ⟨hA1, hA2⟩ hX hbl (Nat.not_le.mpr hbl) hL rfl hEnd s.heap [] _ (fun k q h => by simp at h) ⟨fun i j p q h => by simp at h, fun k q h => by simp at h⟩ va_S.rf hl
