/-! ===== what is made: objects, arrays; final fields; a constructor's call on the newest cell ===== -/
/-- the arrays of arrays of int are known at the start -/
def gAO2 (U : State) : Prop := (Cond.arrayOver (.array .int)).before #[] U = true
theorem kindMap {β : Type} (F : Class → β) (hF : ∀ k k' : Class, k'.kind = k.kind → F k' = F k) {u U : State} (hvm : u.vm.Alike U.vm) (c : Nat) : (U.vm.classes[c]?).map F = (u.vm.classes[c]?).map F := by
  cases h : u.vm.classes[c]? with
  | none =>
    have h1 : u.vm.classes.size ≤ c := by simpa using h
    have h2 : U.vm.classes.size = u.vm.classes.size := hvm.2.1
    have h3 : U.vm.classes[c]? = none := by simp; omega
    rw [h3]
  | some k =>
    obtain ⟨k', hk', he⟩ := hvm.2.2 _ _ h
    rw [hk']
    exact congrArg some (hF k k' (by rw [he]))
theorem bind_eq2 {α β : Type} {a b : Option α} {f g : α → Option β} (h : a = b) (hf : ∀ x, f x = g x) : a.bind f = b.bind g := by
  subst h
  exact congrArg a.bind (funext hf)
theorem gAO2.moved {u U : State} (hvm : u.vm.Alike U.vm) (h : gAO2 u) : gAO2 U := by
  have hi : ∀ comp : ClassId, (U.vm.classes.findIdx? fun (x : Class) => match x.kind with | .array component _ => component == comp | _ => false) = (u.vm.classes.findIdx? fun (x : Class) => match x.kind with | .array component _ => component == comp | _ => false) := by
    intro comp
    have e1 := va_idx_bare U.vm comp
    have e2 := va_idx_bare u.vm comp
    have e3 : U.vm.bare = u.vm.bare := hvm.bare_eq
    rw [e3] at e1
    exact e1.symm.trans e2
  unfold gAO2 at *
  unfold Cond.before Cond.holds at *
  simp only [Cond.value] at *
  refine Eq.trans ?_ h
  refine congrArg (fun o : Option Bool => o == some true) ?_
  refine bind_eq2 (hvm.findClass _ _) (fun comp => bind_eq2 (hi comp) (fun c => ?_))
  simp only [hvm.findClass]
  exact kindMap _ (fun k k' hk => by rw [hk]) hvm c
def AO (U : State) : Prop := va_AO RX7 U ∧ gAO2 U
theorem AO.moved {u U : State} (hvm : u.vm.Alike U.vm) (h : AO u) : AO U := ⟨h.1.moved hvm, h.2.moved hvm⟩
/-- a constructor's contract -/
def MC (l : Launch) (D : va_G) (ty : List (ClassId × FieldType)) (y : MethodName) (cb : ByteArray) (mL : Nat) (rm : Room) (as : List Value) (w : va_W) (post : va_W → Prop) : Prop :=
  ∀ sz : Nat, Met l y (.code y cb mL none :: wsL_law) rm (va_Pc as (fun U => gP D ty sz w U ∧ AO U)) (va_Qv post (gB D (va_A w sz)) (va_A w sz)) rm.cells rm.slots (va_A w sz)
theorem MC.of {l : Launch} {D : va_G} {ty : List (ClassId × FieldType)} {y : MethodName} {cb : ByteArray} {mL : Nat} {rm : Room} {as : List Value} {w : va_W} {post : va_W → Prop} (hy : plainName y.cls = true) (hlen : (lg_sl as).length ≤ mL)
    (body : ∀ E : CE, Cx l D ty E rm cb y.cls → AO E.s → RetV D E post rm.cells rm.slots → E.nL = mL → E.meth.name = y.name → G l D E 0 0 w (lv_args 0 as) 0 []) : MC l D ty y cb mL rm as w post := by
  intro sz
  refine Met.ofW (cc := cb) (maxL := mL) (ret := none) hy rfl ?_
  intro p e s m args below meth c s₁ B hml hv
  obtain ⟨rfl, ⟨hsz, hN, hP, hK, hD0⟩, hO⟩ := hv
  have hts := atoms_spec (ws := .code y cb mL none :: wsL_law) B.pre
  subst hsz
  have hD := hD0.self (sz := s.heap.size)
  have hl := lv_entry as (n := mL) hlen
  rw [lg_entry_eq]
  exact body (p, e, rm, s, m, as.toArray, below, meth, c, va_A w s.heap.size, mL, MQ below (va_Qv post (gB D (va_A w s.heap.size)) (va_A w s.heap.size)) as.toArray s rm.cells rm.slots (va_A w s.heap.size))
    ⟨B.exec, B.bytes, hml, findClass_of_methodNamed B.named, fun w h => hts w (List.mem_cons_of_mem _ h), hN, hK, fun q h => Or.inr h, rfl⟩ hO ⟨rfl, B.returns, B.notSynchronized⟩ rfl (name_of_methodNamed B.named B.method).1 s.heap [] _ hP hD va_S.rf hl
theorem va_nd_succ : ∀ l : List Nat, va_nd l = true → va_nd (l.map Nat.succ) = true
  | [], _ => rfl
  | a :: l, h => by
    simp only [va_nd, Bool.and_eq_true, decide_eq_true_eq] at h
    simp only [List.map_cons, va_nd, Bool.and_eq_true, decide_eq_true_eq]
    refine ⟨fun q => ?_, va_nd_succ l h.2⟩
    obtain ⟨b, hb, e⟩ := List.mem_map.mp q
    exact h.1 (Nat.succ.inj e ▸ hb)
theorem va_nd_range : ∀ m : Nat, va_nd (List.range m) = true
  | 0 => rfl
  | m + 1 => by
    rw [List.range_succ_eq_map]
    simp only [va_nd, Bool.and_eq_true, decide_eq_true_eq]
    refine ⟨fun q => ?_, va_nd_succ _ (va_nd_range m)⟩
    obtain ⟨b, hb, e⟩ := List.mem_map.mp q
    omega
section GALLOC
variable {l : Launch} {D : va_G} {ty : List (ClassId × FieldType)} {E : CE} {rm : Room} {cc : ByteArray} {own : String} {k n : Nat} {ws : va_W} {lv : List (Nat × Value)} {rest st : List Value}
theorem wObj1 : Cond.instanceMethod objectInit ∈ wsL_law := by decide +kernel
theorem wObj2 : Cond.code objectInit ⟨#[0xb1]⟩ 1 none ∈ wsL_law := by decide +kernel
theorem wArrI : Cond.arrayClass .int ∈ wsL_law := by decide +kernel
theorem g_objInit (pc : Nat) {idx a : Nat} (hC : Cx l D ty E rm cc own) (hw : Cond.methodLink own idx objectInit ∈ wsL_law) (hdg : decode cc pc = .ok (.invokespecial idx, 3)) (hfr : 1 ≤ rm.frames) (hlo : (rest.map fun v => v.category).sum + 12 ≤ rm.locals) (k9 : G l D E k n ws lv (pc + 3) rest) : G l D E k n ws lv pc (.ref a :: rest) := by
  intro H locs ls hP hD hS hl
  obtain ⟨a1, a2, a3, a4, a5, a6, a7, a8, a9⟩ := hC
  refine W.objInit a1 a2 a4 (a5 _ hw) (a5 _ wObj1) (a5 _ wObj2) rfl (by rw [a3]; exact hl.1) rfl hdg (a9 ▸ hfr) ?_ (k9 H locs ls hP hD hS hl)
  show 2 * 0 + _ + 12 ≤ _
  rw [a9]
  omega
theorem g_new (pc : Nat) {ci idx N : Nat} {C : String} {T : u_T} {tyf : Nat → FieldType} (fs : List Value) (hC : Cx l D ty E rm cc own) (hin : ∀ w ∈ u_ws C T N, w ∈ wsL_law) (hty : ∀ k, k < N → parseFieldDescriptor (T k).2.2.1 = some (tyf k)) (hcl : Cond.classLink own idx C ∈ wsL_law) (hinst : Cond.instantiable C N ∈ wsL_law) (hini : Cond.initialized C ∈ wsL_law) (hdg : decode cc pc = .ok (.new idx, 3))
    (hc : vwCl[ci]? = some (C, T, N)) (hfs : ∀ j, j < N → defaultValue (tyf j) = vp_V fs j) (hk : k + 1 ≤ rm.cells) (hn : n + N ≤ rm.slots) (k9 : ∀ q : Nat, G l D E (k + 1) (n + N) (ws ++ [(q, .inr (ci, fs))]) lv (pc + 3) (.ref q :: rest)) : G l D E k n ws lv pc rest := by
  intro H locs ls hP hD hS hl
  obtain ⟨a1, a2, a3, a4, a5, a6, a7, a8, a9⟩ := hC
  exact va_new a1 a2 a5 hin tyf hty a4 (a5 _ hcl) (a5 _ hinst) (a5 _ hini) a7 hP hD hS a8 hc hfs (a9 ▸ hk) (a9 ▸ hn) hdg (fun q H1 hP1 hD1 hS1 => k9 q H1 locs ls hP1 hD1 hS1 hl)
theorem g_newa (pc : Nat) {N : Nat} {cI : ClassId} {m : Int32} (hC : Cx l D ty E rm cc own) (hdg : decode cc pc = .ok (.newarray .int, 2)) (ht : ty[0]? = some (cI, .int)) (hm : ¬ m < 0) (hN : m.toNatClampNeg = N) (hb : N * 4 ≤ 536870912) (hk : k + 1 ≤ rm.cells) (hn : n + N ≤ rm.slots) (k9 : ∀ q : Nat, G l D E (k + 1) (n + N) (ws ++ [(q, .inl (cI, N, .inl (fun _ => 0)))]) lv (pc + 2) (.ref q :: rest)) : G l D E k n ws lv pc (.int m :: rest) := by
  intro H locs ls hP hD hS hl
  obtain ⟨a1, a2, a3, a4, a5, a6, a7, a8, a9⟩ := hC
  refine va_newa (atype := .int) (ty := .int) (a0 := (N, .inl (fun _ => 0))) a1 a2 (a5 _ wArrI) rfl a7 hP hD hS a8 (fun cA => rfl) hm hN hb (a9 ▸ hk) (a9 ▸ hn) hdg (fun q cA H1 hK1 hP1 hD1 hS1 => ?_)
  have e1 := (hK1.2 ty.length (cA, .int) (by simp)).2
  have e2 := (a7.2 0 (cI, .int) ht).2
  have e3 : cA = cI := Option.some.inj (e1.symm.trans e2)
  subst e3
  exact k9 q H1 locs ls hP1 hD1 hS1 hl
theorem g_putF (pc q0 k0 : Nat) (ws' : va_W) {a ci idx N : Nat} {C : String} {T : u_T} {tyf : Nat → FieldType} {fty : FieldType} {fs : List Value} {v : Value} (hC : Cx l D ty E rm cc own) (hin2 : E.meth.name = "<init>") (hin : ∀ w ∈ u_ws C T N, w ∈ wsL_law) (hty : ∀ k, k < N → parseFieldDescriptor (T k).2.2.1 = some (tyf k)) (hnm : ∀ a, a < N → ∀ b, b < N → a ≠ b → (T a).2.1 ≠ (T b).2.1)
    (hw : Cond.fieldLink own idx (T k0).1 (T k0).2.1 (T k0).2.2.1 ∈ wsL_law) (hdg : decode cc pc = .ok (.putfield idx, 3))
    (he : ws[q0]? = some (a, .inr (ci, fs))) (hc : vwCl[ci]? = some (C, T, N)) (hk : k0 < N) (hfin : (T k0).2.2.2 = true) (hdecl : (T k0).1 = own) (htk : tyf k0 = fty) (hnr : narrow fty v = v) (hft : fits fty v = true) (hl0 : k0 < fs.length) (hws : ws.set q0 (a, .inr (ci, fs.set k0 v)) = ws') (k9 : G l D E k n ws' lv (pc + 3) rest) : G l D E k n ws lv pc (v :: .ref a :: rest) :=
  fun H locs ls hP hD hS hl => va_putF hC.1 hC.2.1 hC.2.2.2.2.1 hin tyf hty hnm hC.2.2.2.1 hC.2.2.2.2.2.2.1 hP hD hS q0 he hc k0 hk (hC.2.2.2.2.1 _ hw) (fun _ h9 => h9) hfin hin2 hdecl ((hty k0 hk).trans (congrArg some htk)) hnr hft hl0 hdg (fun H1 locs1 hP1 hD1 hS1 => k9 H1 locs1 ls (hws ▸ hP1) (hws ▸ hD1) hS1 hl)
/-- a private constructor of a nest mate, on the cell that was made last -/
theorem g_cIN (pc : Nat) {idx a mL mc ms : Nat} {host : String} {e0 : va_E} {y : MethodName} {cb : ByteArray} {rm' : Room} {As : List Value} {post : va_W → Prop} (hC : Cx l D ty E rm cc own) (hO : AO E.s) (hM : MC l D ty y cb mL rm' (.ref a :: As) [(a, e0)] post) (hcode : Cond.code y cb mL none ∈ wsL_law) (hini : Cond.initialized y.cls ∈ wsL_law) (hinst : Cond.instanceMethod y ∈ wsL_law) (hnm : y.name = "<init>") (hd : y.cls ≠ "java/lang/invoke/MethodHandle" ∧ y.cls ≠ "java/lang/invoke/VarHandle" ∧ (parseMethodDescriptor y.desc).map (fun d => d.parameters.length) = some As.length) (hw : Cond.methodLinkNest own idx y host ∈ nwL) (hdg : decode cc pc = .ok (.invokespecial idx, 3))
    (hR : rm'.frames + 1 ≤ rm.frames ∧ 8 + (mL + 11) + rm'.locals ≤ rm.locals) (hc0 : rm'.cells = mc) (hs0 : rm'.slots = ms) (hk0 : k + mc ≤ rm.cells) (hn0 : n + ms ≤ rm.slots) (hst : st = As.reverse ++ .ref a :: rest) (hrs : (rest.map fun v => v.category).sum ≤ 8)
    (k9 : ∀ w, post w → G l D E (k + mc) (n + ms) (ws ++ w) lv (pc + 3) rest) : G l D E k n (ws ++ [(a, e0)]) lv pc st := by
  intro H locs ls hP hD hS hl
  subst hst
  subst hc0
  subst hs0
  have hC' := hC
  obtain ⟨b1, b2, b3, b4, b5, b6, b7, b8, b9⟩ := hC
  have hlast : ([ws.length] : List Nat).map (fun i => (ws ++ [(a, e0)])[i]?) = ([(a, e0)] : va_W).map some := by simp
  have hrest : (List.range ws.length).map (fun i => (ws ++ [(a, e0)])[i]?) = ws.map some := by
    apply List.ext_getElem?
    intro i
    by_cases hi : i < ws.length
    · simp [List.getElem?_append_left, hi]
    · simp [hi]
  have hFc := va_free (wc := [(a, e0)]) hD hS b8 [ws.length] hlast
  have hblind : FrameBlind (va_Pc (.ref a :: As) (fun U => gP D ty H.size [(a, e0)] U ∧ AO U)) := by
    rintro a1 U g mk ⟨h0, h1, h2⟩
    exact ⟨h0, (gP_blind _ U g mk ⟨h0, h1⟩).2, AO.moved (u := U) (U := U.calling g mk a1) (Vm.Alike.refl U.vm) h2⟩
  refine va_callv (A1 := va_A [(a, e0)] H.size) (mc := rm'.cells) (ms := rm'.slots) (va_runIN (As := As) (rest := rest) ⟨b1, b2, b3, b4, b5⟩ (hM H.size) ⟨va_cnB As.length b5 (gdU hcode) rfl rfl rfl (b6 _ hw) (b5 _ hini) hd (b9 ▸ hR), hnm, b5 _ hinst⟩ ⟨hblind, fun U hU hW => ⟨rfl, (gPre (as := []) hC' hP hD hlast rfl U hU hW).2, AO.moved hW.alike hO⟩⟩ rfl rfl hl.1 rfl (lv_room hrs) hdg ⟨b9 ▸ hk0, b9 ▸ hn0⟩) hS (fun q _ h => hFc q h) hFc (fun w t H1 locs1 ht hvm hw9 hB hz1 hk1 hS1 => ?_)
  obtain ⟨hP1, hD1⟩ := hB
  rw [ht] at hP1
  have hnd : va_nd (List.range ws.length) = true := va_nd_range _
  obtain ⟨g1, g2⟩ := va_join (wr := ws) (w1 := w) hP hD [ws.length] (List.range ws.length) hlast hrest hnd (fun i hi q => by have h1 := List.mem_range.mp hi; have h2 := List.mem_singleton.mp q; omega) hk1 hFc hP1 hD1
  exact k9 w hw9 H1 locs1 ls g1 g2 hS1 hl
theorem g_newq (pc : Nat) {idx N : Nat} {cS : ClassId} {m : Int32} (hC : Cx l D ty E rm cc own) (hO : va_AO RX7 E.s) (hcl : Cond.classLink own idx RX7 ∈ wsL_law) (hdg : decode cc pc = .ok (.anewarray idx, 3)) (ht : ty[1]? = some (cS, .object RX7)) (hm : ¬ m < 0) (hN : m.toNatClampNeg = N) (hb : N * 4 ≤ 536870912) (hk : k + 1 ≤ rm.cells) (hn : n + N ≤ rm.slots) (k9 : ∀ q : Nat, G l D E (k + 1) (n + N) (ws ++ [(q, .inl (cS, N, .inr (.inr (.inr (.inr (fun _ => none))))))]) lv (pc + 3) (.ref q :: rest)) : G l D E k n ws lv pc (.int m :: rest) := by
  intro H locs ls hP hD hS hl
  obtain ⟨a1, a2, a3, a4, a5, a6, a7, a8, a9⟩ := hC
  refine va_newq (C := RX7) a1 a2 a4 (a5 _ hcl) hO a7 hP hD hS a8 hm hN hb (a9 ▸ hk) (a9 ▸ hn) hdg (fun q cA H1 hK1 hP1 hD1 hS1 => ?_)
  obtain ⟨-, -, -, -, -, e1⟩ := (hK1.2 ty.length (cA, .object RX7) (by simp)).2
  obtain ⟨-, -, -, -, -, e2⟩ := (a7.2 1 (cS, .object RX7) ht).2
  have e3 : cA = cS := Option.some.inj (e1.symm.trans e2)
  subst e3
  exact k9 q H1 locs ls hP1 hD1 hS1 hl
theorem g_astq (pc q0 qk j : Nat) (ws' : va_W) {a v N : Nat} {cA : ClassId} {vs : List Value} {f : Nat → Option Nat} {i : Int32} (hC : Cx l D ty E rm cc own) (hdg : decode cc pc = .ok (.aastore, 1)) (he : ws[q0]? = some (a, .inl (cA, N, .inr (.inr (.inr (.inr f)))))) (ht : ty[1]? = some (cA, .object RX7)) (hv : ws[qk]? = some (v, .inr (7, vs))) (hc : vwCl[7]? = some (RX7, TX7, 6)) (hi : vp_in i N) (hj : i.toNatClampNeg = j) (hws : ws.set q0 (a, .inl (cA, N, .inr (.inr (.inr (.inr (va_up f j (some v))))))) = ws') (k9 : G l D E k n ws' lv (pc + 1) rest) : G l D E k n ws lv pc (.ref v :: .int i :: .ref a :: rest) := by
  intro H locs ls hP hD hS hl
  subst hj
  exact va_astq hC.1 hC.2.1 hC.2.2.2.2.2.2.1 hP hD hS q0 1 qk 7 he ht hv hc hi hdg (fun H1 locs1 hP1 hD1 hS1 => k9 H1 locs1 ls (hws ▸ hP1) (hws ▸ hD1) hS1 hl)
end GALLOC
theorem G.kn {l : Launch} {D : va_G} {E : CE} {k n k2 n2 : Nat} {ws : va_W} {lv : List (Nat × Value)} {pc : Nat} {st : List Value} (hk : k = k2) (hn : n = n2) (k9 : G l D E k2 n2 ws lv pc st) : G l D E k n ws lv pc st := by
  subst hk
  subst hn
  exact k9
theorem ring_eq {s0 s1 s2 s3 s4 : Nat} {g : Nat → Nat} (h0 : g 0 = s0) (h1 : g 1 = s1) (h2 : g 2 = s2) (h3 : g 3 = s3) (h4 : g 4 = s4) : va_up (va_up (va_up (va_up (va_up (fun _ => none) 0 (some s0)) 1 (some s1)) 2 (some s2)) 3 (some s3)) 4 (some s4) = fun i => if i < 5 then some (g i) else none := by
  funext i
  by_cases hi : i < 5
  · rcases (show i = 0 ∨ i = 1 ∨ i = 2 ∨ i = 3 ∨ i = 4 by omega) with rfl | rfl | rfl | rfl | rfl <;> simp [va_up, h0, h1, h2, h3, h4]
  · simp only [va_up, if_neg hi]
    rw [if_neg (by omega), if_neg (by omega), if_neg (by omega), if_neg (by omega), if_neg (by omega)]
theorem tab_eq {r g : Nat → Nat} (h0 : g 0 = r 0) (h1 : g 1 = r 1) (h2 : g 2 = r 2) (h3 : g 3 = r 3) (h4 : g 4 = r 4) (h5 : g 5 = r 5) (h6 : g 6 = r 6) (h7 : g 7 = r 7) (h8 : g 8 = r 8) : (fun i => if i < 9 then some (r i) else none) = fun i => if i < 9 then some (g i) else none := by
  funext i
  by_cases hi : i < 9
  · rw [if_pos hi, if_pos hi]
    exact congrArg some (row9 (P := fun i => r i = g i) hi h0.symm h1.symm h2.symm h3.symm h4.symm h5.symm h6.symm h7.symm h8.symm)
  · rw [if_neg hi, if_neg hi]
