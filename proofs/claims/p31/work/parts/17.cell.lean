/-! ===== the law's cell: it reads the script, which is no cell of the world ===== -/
theorem g_sld {l : Launch} {D : va_G} {ty : List (ClassId × FieldType)} {E : CE} {rm : Room} {cc : ByteArray} {own : String} {k n : Nat} {ws : va_W} {lv : List (Nat × Value)} {rest : List Value} (pc : Nat) {b L9 : Nat} {xs : Nat → Int32} {i : Int32} (hC : Cx l D ty E rm cc own) (hX : va_X b L9 xs E.s E.s.heap) (hbl : b < E.s.heap.size) (hbA : ¬ E.A b) (hdg : decode cc pc = .ok (.iaload, 1)) (hi : vp_in i L9) (k9 : G l D E k n ws lv (pc + 1) (.int (xs i.toNatClampNeg) :: rest)) : G l D E k n ws lv pc (.int i :: .ref b :: rest) :=
  fun H locs ls hP hD hS hl => va_sld hC.1 hC.2.1 hX hbl hbA hS hi hdg (k9 H locs ls hP hD hS hl)
theorem g_slen {l : Launch} {D : va_G} {ty : List (ClassId × FieldType)} {E : CE} {rm : Room} {cc : ByteArray} {own : String} {k n : Nat} {ws : va_W} {lv : List (Nat × Value)} {rest : List Value} (pc : Nat) {b L9 : Nat} {xs : Nat → Int32} (hC : Cx l D ty E rm cc own) (hX : va_X b L9 xs E.s E.s.heap) (hbl : b < E.s.heap.size) (hbA : ¬ E.A b) (hdg : decode cc pc = .ok (.arraylength, 1)) (k9 : G l D E k n ws lv (pc + 1) (.int (Int32.ofNat L9) :: rest)) : G l D E k n ws lv pc (.ref b :: rest) :=
  fun H locs ls hP hD hS hl => va_slen hC.1 hC.2.1 hX hbl hbA hS hdg (k9 H locs ls hP hD hS hl)
def rm_L_cell : Room := { frames := 0, cells := 0, slots := 0, locals := 0 }
theorem kL_cell : KS yL_cell cL_cell 2 (some .int) 2 := ⟨wq_196, wq_195, wq_194, by decide +kernel⟩
def gPX (D : va_G) (ty : List (ClassId × FieldType)) (sz b L9 : Nat) (xs : Nat → Int32) (U : State) : Prop := gP D ty sz [] U ∧ va_X b L9 xs U U.heap ∧ b < sz
theorem gPX_blind {D : va_G} {ty : List (ClassId × FieldType)} {sz b L9 : Nat} {xs : Nat → Int32} {as : List Value} : FrameBlind (va_Pc as (gPX D ty sz b L9 xs)) := by
  rintro a U g mk ⟨h0, h1, h2, h3⟩
  exact ⟨h0, (gP_blind (as := as) a U g mk ⟨h0, h1⟩).2, va_X.moved (u := U) (U := U.calling g mk a) (Vm.Alike.refl U.vm) h2, h3⟩
def MX (l : Launch) (D : va_G) (ty : List (ClassId × FieldType)) (y : MethodName) (cb : ByteArray) (mL : Nat) (rt : Option FieldType) (rm : Room) (as : List Value) (b L9 : Nat) (xs : Nat → Int32) (post : Int32 → va_W → Prop) : Prop :=
  ∀ sz : Nat, Met l y (.code y cb mL rt :: wsL_law) rm (va_Pc as (gPX D ty sz b L9 xs)) (va_Qi post (gB D (va_A [] sz)) (va_A [] sz)) rm.cells rm.slots (va_A [] sz)
theorem MX.of {l : Launch} {D : va_G} {ty : List (ClassId × FieldType)} {y : MethodName} {cb : ByteArray} {mL : Nat} {rt : Option FieldType} {rm : Room} {as : List Value} {b L9 : Nat} {xs : Nat → Int32} {post : Int32 → va_W → Prop} (hy : plainName y.cls = true) (hlen : (lg_sl as).length ≤ mL)
    (body : ∀ E : CE, Cx l D ty E rm cb y.cls → RetI D E post rm.cells rm.slots rt → E.nL = mL → va_X b L9 xs E.s E.s.heap → b < E.s.heap.size → ¬ E.A b → G l D E 0 0 [] (lv_args 0 as) 0 []) : MX l D ty y cb mL rt rm as b L9 xs post := by
  intro sz
  refine Met.ofW (cc := cb) (maxL := mL) (ret := rt) hy rfl ?_
  intro p e s m args below meth c s₁ B hml hv
  obtain ⟨rfl, ⟨hsz, hN, hP, hK, hD0⟩, hX, hbs⟩ := hv
  have hts := atoms_spec (ws := .code y cb mL rt :: wsL_law) B.pre
  subst hsz
  have hD := hD0.self (sz := s.heap.size)
  have hl := lv_entry as (n := mL) hlen
  rw [lg_entry_eq]
  refine body (p, e, rm, s, m, as.toArray, below, meth, c, va_A [] s.heap.size, mL, MQ below (va_Qi post (gB D (va_A [] s.heap.size)) (va_A [] s.heap.size)) as.toArray s rm.cells rm.slots (va_A [] s.heap.size))
    ⟨B.exec, B.bytes, hml, findClass_of_methodNamed B.named, fun w h => hts w (List.mem_cons_of_mem _ h), hN, hK, fun q h => Or.inr h, rfl⟩ ⟨rfl, B.returns, B.notSynchronized⟩ rfl hX hbs ?_ s.heap [] _ hP hD va_S.rf hl
  intro h
  rcases h with ⟨k, e, h⟩ | h
  · simp at h
  · exact absurd hbs (Nat.not_lt.mpr h)
theorem and_nneg (x : Int32) : ¬ (x &&& (2147483647 : Int32)) < 0 := by
  obtain ⟨j, hj, e⟩ := pk_andE x (m := 2147483647) 31 (by decide)
  rw [e]
  exact nI_pos (by omega)
set_option maxRecDepth 100000 in
theorem c_L_cell (l : Launch) (D : va_G) (cI cS cT : ClassId) (b L9 : Nat) (xs : Nat → Int32) (i : Int32) (hi : ¬ i < 0) (hL : L9 ≤ 260) : MX l D (TY cI cS cT) yL_cell cL_cell 2 (some .int) rm_L_cell [.ref b, .int i] b L9 xs (fun r w => w = [] ∧ ¬ r < 0) := by
  refine MX.of (by decide) (Nat.le_of_ble_eq_true rfl) (fun E hC hR hn hX hbl hbA => ?_)
  replace hC : Cx l D (TY cI cS cT) E rm_L_cell cL_cell RL := hC
  change G l D E 0 0 _ [(0, .ref b), (1, .int i)] 0 []
  refine g_iload_n 0 1 hC dL_cell_0 rfl ?_
  refine g_aload_n 1 0 hC dL_cell_1 rfl ?_
  refine g_slen 2 hC hX hbl hbA dL_cell_2 ?_
  have fin : ∀ v : Int32, G l D E 0 0 [] [(0, .ref b), (1, .int i)] 20 [.int v] := by
    intro v
    refine g_ldc 20 hC dL_cell_20 wq_198 ?_
    refine g_iand 22 hC dL_cell_22 ?_
    exact g_iret 23 hC hR dL_cell_23 ⟨rfl, and_nneg _⟩
  refine g_icmp_ge 3 12 hC dL_cell_3 (by decide) (fun hc => ?_) (fun hc => ?_)
  · refine g_ldc 12 hC dL_cell_12 wq_197 ?_
    refine g_iload_n 14 1 hC dL_cell_14 rfl ?_
    refine g_imul 15 hC dL_cell_15 ?_
    refine g_sipush (v := (197 : Int32)) 16 hC dL_cell_16 (by decide) ?_
    refine g_iadd 19 hC dL_cell_19 ?_
    exact fin _
  · refine g_aload_n 6 0 hC dL_cell_6 rfl ?_
    refine g_iload_n 7 1 hC dL_cell_7 rfl ?_
    obtain ⟨j, hj, rfl⟩ := nI_of (x := i) hi
    have hlt : j < L9 := by
      have hc' : ¬ nI L9 ≤ nI j := hc
      rw [nI_leI (by omega) hj] at hc'
      omega
    refine g_sld 8 hC hX hbl hbA dL_cell_8 (vp_in_nI hlt (by omega)) ?_
    refine g_goto 9 20 hC dL_cell_9 (by decide) ?_
    exact fin _
theorem g_cell {l : Launch} {D : va_G} {cI cS cT : ClassId} {E : CE} {cc : ByteArray} {own : String} {ws : va_W} {lv : List (Nat × Value)} {rest : List Value} (pc : Nat) {idx b L9 : Nat} {xs : Nat → Int32} {i : Int32} (hC : Cx l D (TY cI cS cT) E room_1 cc own) (hX : va_X b L9 xs E.s E.s.heap ∧ L9 ≤ 260) (hbl : b < E.s.heap.size) (hbA : ¬ E.A b) (hz : ¬ i < 0) (hw : Cond.methodLink own idx yL_cell ∈ wsL_law) (hdg : decode cc pc = .ok (.invokestatic idx, 3)) (hrs : (rest.map fun v => v.category).sum ≤ 8)
    (k9 : ∀ r : Int32, ¬ r < 0 → G l D E 600000 7302250 ws lv (pc + 3) (.int r :: rest)) : G l D E 600000 7302250 ws lv pc (.int i :: .ref b :: rest) := by
  intro H locs ls hP hD hS hl
  have hC' := hC
  obtain ⟨b1, b2, b3, b4, b5, b6, b7, b8, b9⟩ := hC
  obtain ⟨q1, q2, q3, q5⟩ := kL_cell
  have hFc := va_free (wc := []) hD hS b8 [] rfl
  have hb2 : H[b]? = E.s.heap[b]? := hS.2.1 b hbl hbA
  have hbH : b < H.size := by
    obtain ⟨scr, h1, -⟩ := hX.1
    rw [← hb2] at h1
    exact (Array.getElem?_eq_some_iff.mp h1).1
  refine va_calli (A1 := va_A [] H.size) (mc := 0) (ms := 0) (va_runS (As := [.ref b, .int i]) (rest := rest) ⟨b1, b2, b3, b4, b5⟩ ((c_L_cell l D cI cS cT b L9 xs i hz hX.2) H.size) ⟨callB_of 2 b5 (gdU q1) rfl rfl rfl (b5 _ q2) (b5 _ hw) q5 (b9 ▸ ⟨Nat.le_of_ble_eq_true rfl, Nat.le_of_ble_eq_true rfl⟩), b5 _ q3⟩ ⟨gPX_blind, fun U hU hW => ⟨rfl, (gPre (as := [.ref b, .int i]) hC' hP hD (isC := []) (wc := []) rfl rfl U hU hW).2, (hX.1.moved hW.alike).kept (by rw [hU]; exact hb2), hbH⟩⟩ rfl rfl hl.1 rfl (lv_room hrs) hdg ⟨b9 ▸ Nat.le_of_ble_eq_true rfl, b9 ▸ Nat.le_of_ble_eq_true rfl⟩) hS (fun q _ h => hFc q h) hFc (fun r w t H1 locs1 ht hvm hw9 hB hz1 hk1 hS1 => ?_)
  obtain ⟨rfl, h2⟩ := hw9
  exact g_back (isC := []) hP hD rfl rfl (Nat.le_refl _) hFc t ht hB hk1 hS1 hl (k9 r h2)
