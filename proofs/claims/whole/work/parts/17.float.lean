/-! ===== contracts of methods of java/lang/Float that have bytecode and no entry among the natives ===== -/
theorem MetF.ofW {l : Launch} {y : MethodName} {ws ws' : List Cond} {rm : Room} {Pc : Array Value → State → Prop} {Qc : Array Value → State → Outcome → State → Prop} {mc ms : Nat} {free : Addr → Prop} {cc : ByteArray} {maxL : Nat} {ret : Option FieldType}
    (hy : plainFor y = true) (hw : ws = Cond.code y cc maxL ret :: ws')
    (body : ∀ p e s m args below meth c s₁, BodyLoose p l y (headSpec ws rm) cc maxL ret e s m args below meth c s₁ → c.maxLocals = maxL → Pc args s →
      W p l e (headSpec ws rm).room s m args below meth c s.heap [] 0 0 (MQ below Qc args s mc ms free) (entryFrame m args maxL)) : Met l y ws rm Pc Qc mc ms free := by
  refine MetFree.of_bodySF (code := cc) (maxLocals := maxL) (ret := ret) hy ?_ ?_
  · intro args s m h hn
    obtain ⟨meth, c, h1, h2, h3, h4, h5, h6, -, -⟩ := Cond.code_spec hn (atoms_spec (ws := ws) h _ (by rw [hw]; exact List.mem_cons_self))
    exact ⟨meth, c, h1, h2, h3, h4, h5, h6⟩
  · intro p e s m args below meth c s₁ B hml hP _
    have hh0 : s₁.heap = s.heap := by rw [B.state]; rfl
    obtain ⟨t, a1, o, b1, b2, b3⟩ := body p e s m args below meth c s₁ B hml hP s₁ hh0 (Stand.of_body B)
    exact ⟨t, o, a1, b1, b2, ⟨b3.1, b3.2⟩⟩
theorem MI.ofF {l : Launch} {D : va_G} {ty : List (ClassId × FieldType)} {y : MethodName} {cb : ByteArray} {mL : Nat} {rt : Option FieldType} {rm : Room} {as : List Value} {w : va_W} {post : Int32 → va_W → Prop} (hy : plainFor y = true) (hlen : (lg_sl as).length ≤ mL)
    (body : ∀ E : CE, Cx l D ty E rm cb y.cls → RetI D E post rm.cells rm.slots rt → E.nL = mL → G l D E 0 0 w (lv_args 0 as) 0 []) : MI l D ty y cb mL rt rm as w post := by
  intro sz
  refine MetF.ofW (cc := cb) (maxL := mL) (ret := rt) hy rfl ?_
  intro p e s m args below meth c s₁ B hml hv
  obtain ⟨rfl, hsz, hN, hP, hK, hD0⟩ := hv
  have hts := atoms_spec (ws := .code y cb mL rt :: wsL_law) B.pre
  subst hsz
  have hD := hD0.self (sz := s.heap.size)
  have hl := lv_entry as (n := mL) hlen
  rw [lg_entry_eq]
  exact body (p, e, rm, s, m, as.toArray, below, meth, c, va_A w s.heap.size, mL, MQ below (va_Qi post (gB D (va_A w s.heap.size)) (va_A w s.heap.size)) as.toArray s rm.cells rm.slots (va_A w s.heap.size))
    ⟨B.exec, B.bytes, hml, findClass_of_methodNamed B.named, fun w h => hts w (List.mem_cons_of_mem _ h), hN, hK, fun q h => Or.inr h, rfl⟩ ⟨rfl, B.returns, B.notSynchronized⟩ rfl s.heap [] _ hP hD va_S.rf hl
set_option maxRecDepth 100000 in
theorem pf_Jxf58ca_isNaN_12338 : plainFor yJxf58ca_isNaN_12338 = true := by decide +kernel
set_option maxRecDepth 100000 in
theorem pf_Jxf58ca_floatToIntBits_5c35a : plainFor yJxf58ca_floatToIntBits_5c35a = true := by decide +kernel
