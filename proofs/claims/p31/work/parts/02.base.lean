/-! ===== the walk as a judgement on (world, locals, pc, stack): G; a row an instruction; contracts MI, MV ===== -/
/-- everything of a running method but its heap, its locals and its stack: p e R s m args below meth c A nL Q -/
abbrev CE : Type := Program × Env × Room × State × MethodId × Array Value × List Frame × Method × Code × (Nat → Prop) × Nat × (State → Prop)
abbrev CE.p (E : CE) : Program := E.1
abbrev CE.e (E : CE) : Env := E.2.1
abbrev CE.R (E : CE) : Room := E.2.2.1
abbrev CE.s (E : CE) : State := E.2.2.2.1
abbrev CE.m (E : CE) : MethodId := E.2.2.2.2.1
abbrev CE.as (E : CE) : Array Value := E.2.2.2.2.2.1
abbrev CE.bl (E : CE) : List Frame := E.2.2.2.2.2.2.1
abbrev CE.meth (E : CE) : Method := E.2.2.2.2.2.2.2.1
abbrev CE.c (E : CE) : Code := E.2.2.2.2.2.2.2.2.1
abbrev CE.A (E : CE) : Nat → Prop := E.2.2.2.2.2.2.2.2.2.1
abbrev CE.nL (E : CE) : Nat := E.2.2.2.2.2.2.2.2.2.2.1
abbrev CE.Q (E : CE) : State → Prop := E.2.2.2.2.2.2.2.2.2.2.2
def nwL : List Cond := tables_1.filter nwWarm
def NW (U : State) : Prop := ∀ w ∈ nwL, va_Nw w U
theorem NW.warm {s U : State} (hW : s.WarmedH U.vm) (h : NW s) : NW U := by
  intro w hw
  have h1 := h w hw
  have h2 := (List.mem_filter.mp hw).2
  cases w <;> first | exact va_Nw.warmF hW h1 | exact va_Nw.warmM hW h1 | exact absurd h2 (by simp [nwWarm])
theorem NW.same {u U : State} (hv : u.vm = U.vm) (h : NW u) : NW U := by
  intro w hw
  have h1 := h w hw
  have h2 := (List.mem_filter.mp hw).2
  cases w <;> first | exact va_Nw.same rfl hv h1 | exact absurd h2 (by simp [nwWarm])
abbrev TY (cI cS cT : ClassId) : List (ClassId × FieldType) := [(cI, .int), (cS, .object RX7), (cT, .array .int)]
/-- what stays while a method runs -/
def Cx (l : Launch) (D : va_G) (ty : List (ClassId × FieldType)) (E : CE) (rm : Room) (cc : ByteArray) (own : String) : Prop :=
  E.p.tables.exec = Jvm.exec ∧ E.c.code = cc ∧ E.c.maxLocals = E.nL ∧ E.s.vm.findClass own = some E.m.cls ∧ (∀ w ∈ wsL_law, w.before E.as E.s = true) ∧ NW E.s ∧ va_K D vwCl ty E.s ∧ (∀ q, E.s.heap.size ≤ q → E.A q) ∧ E.R = rm
/-- from the frame at pc with these locals and this stack, over any heap that holds the world ws, the machine comes to Q -/
def G (l : Launch) (D : va_G) (E : CE) (k n : Nat) (ws : va_W) (lv : List (Nat × Value)) (pc : Nat) (st : List Value) : Prop :=
  ∀ (H : Heap) (locs : List Loc) (ls : Array Slot), va_P D vwCl ws H → va_D E.A ws → va_S E.A E.s.heap H locs → lv_has ls E.nL lv → W E.p l E.e E.R E.s E.m E.as E.bl E.meth E.c H locs k n E.Q (F0 E.m pc ls st)
section GROWS
variable {l : Launch} {D : va_G} {ty : List (ClassId × FieldType)} {E : CE} {rm : Room} {cc : ByteArray} {own : String} {k n : Nat} {ws : va_W} {lv : List (Nat × Value)} {rest st : List Value}
theorem G.sub {pc : Nat} (is : List Nat) {lv' : List (Nat × Value)} (h : lv_pick lv is = lv') (k9 : G l D E k n ws lv' pc st) : G l D E k n ws lv pc st :=
  fun H locs ls hP hD hS hl => k9 H locs ls hP hD hS (lv_sub hl is h)
theorem G.perm {pc : Nat} (is : List Nat) {ws' : va_W} (h : is.map (fun i => ws[i]?) = ws'.map some) (hn : va_nd is = true) (k9 : G l D E k n ws' lv pc st) : G l D E k n ws lv pc st := by
  intro H locs ls hP hD hS hl
  refine k9 H locs ls (hP.sub is ?_) (hD.sub is hn h) hS hl
  have : ∀ (js : List Nat) (w : va_W), js.map (fun i => ws[i]?) = w.map some → js.filterMap (fun i => ws[i]?) = w := by
    intro js
    induction js with
    | nil => intro w hw; cases w with
      | nil => rfl
      | cons a b => simp at hw
    | cons j js ih => intro w hw; cases w with
      | nil => simp at hw
      | cons a b =>
        simp only [List.map_cons, List.cons.injEq] at hw
        rw [List.filterMap_cons, hw.1]
        simp only
        rw [ih b hw.2]
  exact this is ws' h
theorem g_iconst (pc : Nat) {i : Int} {v : Int32} (hC : Cx l D ty E rm cc own) (hdg : decode cc pc = .ok (.iconst i, 1)) (hv : Int32.ofInt i = v) (k9 : G l D E k n ws lv (pc + 1) (.int v :: rest)) : G l D E k n ws lv pc rest :=
  fun H locs ls hP hD hS hl => lv_iconst hC.1 hC.2.1 hdg hv (k9 H locs ls hP hD hS hl)
theorem g_bipush (pc : Nat) {i : Int} {v : Int32} (hC : Cx l D ty E rm cc own) (hdg : decode cc pc = .ok (.bipush i, 2)) (hv : (Int8.ofInt i).toInt32 = v) (k9 : G l D E k n ws lv (pc + 2) (.int v :: rest)) : G l D E k n ws lv pc rest :=
  fun H locs ls hP hD hS hl => lv_bipush hC.1 hC.2.1 hdg hv (k9 H locs ls hP hD hS hl)
theorem g_sipush (pc : Nat) {i : Int} {v : Int32} (hC : Cx l D ty E rm cc own) (hdg : decode cc pc = .ok (.sipush i, 3)) (hv : (Int16.ofInt i).toInt32 = v) (k9 : G l D E k n ws lv (pc + 3) (.int v :: rest)) : G l D E k n ws lv pc rest :=
  fun H locs ls hP hD hS hl => lv_sipush hC.1 hC.2.1 hdg hv (k9 H locs ls hP hD hS hl)
theorem g_lconst (pc : Nat) {i : Fin 2} {v : Int64} (hC : Cx l D ty E rm cc own) (hdg : decode cc pc = .ok (.lconst i, 1)) (hv : Int64.ofNat (i : Nat) = v) (k9 : G l D E k n ws lv (pc + 1) (.long v :: rest)) : G l D E k n ws lv pc rest :=
  fun H locs ls hP hD hS hl => lv_lconst hC.1 hC.2.1 hdg hv (k9 H locs ls hP hD hS hl)
theorem g_ldc (pc : Nat) {idx : Nat} {v : Int32} (hC : Cx l D ty E rm cc own) (hdg : decode cc pc = .ok (.ldc idx, 2)) (hw : Cond.constant own idx v ∈ wsL_law) (k9 : G l D E k n ws lv (pc + 2) (.int v :: rest)) : G l D E k n ws lv pc rest :=
  fun H locs ls hP hD hS hl => lv_ldc hC.1 hC.2.1 hC.2.2.2.1 (hC.2.2.2.2.1 _ hw) hdg (k9 H locs ls hP hD hS hl)
theorem g_ldc_w (pc : Nat) {idx : Nat} {v : Int32} (hC : Cx l D ty E rm cc own) (hdg : decode cc pc = .ok (.ldc_w idx, 3)) (hw : Cond.constant own idx v ∈ wsL_law) (k9 : G l D E k n ws lv (pc + 3) (.int v :: rest)) : G l D E k n ws lv pc rest :=
  fun H locs ls hP hD hS hl => lv_ldcw hC.1 hC.2.1 hC.2.2.2.1 (hC.2.2.2.2.1 _ hw) hdg (k9 H locs ls hP hD hS hl)
theorem g_ldcf (pc : Nat) {idx : Nat} {v : UInt32} (hC : Cx l D ty E rm cc own) (hdg : decode cc pc = .ok (.ldc idx, 2)) (hw : Cond.constantFloat own idx v ∈ wsL_law) (k9 : G l D E k n ws lv (pc + 2) (.float v :: rest)) : G l D E k n ws lv pc rest :=
  fun H locs ls hP hD hS hl => lv_ldcf hC.1 hC.2.1 hC.2.2.2.1 (hC.2.2.2.2.1 _ hw) hdg (k9 H locs ls hP hD hS hl)
theorem g_ldc2 (pc : Nat) {idx : Nat} {v : Int64} (hC : Cx l D ty E rm cc own) (hdg : decode cc pc = .ok (.ldc2_w idx, 3)) (hw : Cond.constantLong own idx v ∈ wsL_law) (k9 : G l D E k n ws lv (pc + 3) (.long v :: rest)) : G l D E k n ws lv pc rest :=
  fun H locs ls hP hD hS hl => lv_ldc2 hC.1 hC.2.1 hC.2.2.2.1 (hC.2.2.2.2.1 _ hw) hdg (k9 H locs ls hP hD hS hl)
theorem g_iload_n (pc q : Nat) {i : Fin 4} {x : Int32} (hC : Cx l D ty E rm cc own) (hdg : decode cc pc = .ok (.iload_n i, 1)) (hq : lv[q]? = some ((i : Nat), .int x)) (k9 : G l D E k n ws lv (pc + 1) (.int x :: rest)) : G l D E k n ws lv pc rest :=
  fun H locs ls hP hD hS hl => lv_iload_n hC.1 hC.2.1 hdg rfl (lv_at hl q hq) (k9 H locs ls hP hD hS hl)
theorem g_iload (pc q : Nat) {i : Nat} {x : Int32} (hC : Cx l D ty E rm cc own) (hdg : decode cc pc = .ok (.iload i, 2)) (hq : lv[q]? = some (i, .int x)) (k9 : G l D E k n ws lv (pc + 2) (.int x :: rest)) : G l D E k n ws lv pc rest :=
  fun H locs ls hP hD hS hl => lv_iload hC.1 hC.2.1 hdg (lv_at hl q hq) (k9 H locs ls hP hD hS hl)
theorem g_aload_n (pc q : Nat) {i : Fin 4} {x : Nat} (hC : Cx l D ty E rm cc own) (hdg : decode cc pc = .ok (.aload_n i, 1)) (hq : lv[q]? = some ((i : Nat), .ref x)) (k9 : G l D E k n ws lv (pc + 1) (.ref x :: rest)) : G l D E k n ws lv pc rest :=
  fun H locs ls hP hD hS hl => lv_aload_n hC.1 hC.2.1 hdg rfl (lv_at hl q hq) (k9 H locs ls hP hD hS hl)
theorem g_aload (pc q : Nat) {i x : Nat} (hC : Cx l D ty E rm cc own) (hdg : decode cc pc = .ok (.aload i, 2)) (hq : lv[q]? = some (i, .ref x)) (k9 : G l D E k n ws lv (pc + 2) (.ref x :: rest)) : G l D E k n ws lv pc rest :=
  fun H locs ls hP hD hS hl => lv_aload hC.1 hC.2.1 hdg (lv_at hl q hq) (k9 H locs ls hP hD hS hl)
theorem g_lload_n (pc q : Nat) {i : Fin 4} {x : Int64} (hC : Cx l D ty E rm cc own) (hdg : decode cc pc = .ok (.lload_n i, 1)) (hq : lv[q]? = some ((i : Nat), .long x)) (k9 : G l D E k n ws lv (pc + 1) (.long x :: rest)) : G l D E k n ws lv pc rest :=
  fun H locs ls hP hD hS hl => lv_lload_n hC.1 hC.2.1 hdg rfl (lv_at hl q hq) (k9 H locs ls hP hD hS hl)
theorem g_lload (pc q : Nat) {i : Nat} {x : Int64} (hC : Cx l D ty E rm cc own) (hdg : decode cc pc = .ok (.lload i, 2)) (hq : lv[q]? = some (i, .long x)) (k9 : G l D E k n ws lv (pc + 2) (.long x :: rest)) : G l D E k n ws lv pc rest :=
  fun H locs ls hP hD hS hl => lv_lload hC.1 hC.2.1 hdg (lv_at hl q hq) (k9 H locs ls hP hD hS hl)
theorem g_fload_n (pc q : Nat) {i : Fin 4} {x : UInt32} (hC : Cx l D ty E rm cc own) (hdg : decode cc pc = .ok (.fload_n i, 1)) (hq : lv[q]? = some ((i : Nat), .float x)) (k9 : G l D E k n ws lv (pc + 1) (.float x :: rest)) : G l D E k n ws lv pc rest :=
  fun H locs ls hP hD hS hl => lv_fload_n hC.1 hC.2.1 hdg rfl (lv_at hl q hq) (k9 H locs ls hP hD hS hl)
theorem g_fload (pc q : Nat) {i : Nat} {x : UInt32} (hC : Cx l D ty E rm cc own) (hdg : decode cc pc = .ok (.fload i, 2)) (hq : lv[q]? = some (i, .float x)) (k9 : G l D E k n ws lv (pc + 2) (.float x :: rest)) : G l D E k n ws lv pc rest :=
  fun H locs ls hP hD hS hl => lv_fload hC.1 hC.2.1 hdg (lv_at hl q hq) (k9 H locs ls hP hD hS hl)
/-- the locals behind a store -/
abbrev lvS (i : Nat) (v : Value) (lv : List (Nat × Value)) : List (Nat × Value) := (i, v) :: lv.filter (fun q => !(q.1 == i) && !(q.1 + 1 == i && q.2.category == 2))
theorem g_istore_n (pc : Nat) {i : Fin 4} {x : Int32} (lv' : List (Nat × Value)) (hC : Cx l D ty E rm cc own) (hdg : decode cc pc = .ok (.istore_n i, 1)) (hn : (i : Nat) < E.nL) (hl' : lvS (i : Nat) (.int x) lv = lv') (k9 : G l D E k n ws lv' (pc + 1) rest) : G l D E k n ws lv pc (.int x :: rest) :=
  fun H locs ls hP hD hS hl => lv_istore_n hC.1 hC.2.1 hdg rfl hl hn hl' (fun ls' hl2 => k9 H locs ls' hP hD hS hl2)
theorem g_istore (pc : Nat) {i : Nat} {x : Int32} (lv' : List (Nat × Value)) (hC : Cx l D ty E rm cc own) (hdg : decode cc pc = .ok (.istore i, 2)) (hn : i < E.nL) (hl' : lvS i (.int x) lv = lv') (k9 : G l D E k n ws lv' (pc + 2) rest) : G l D E k n ws lv pc (.int x :: rest) :=
  fun H locs ls hP hD hS hl => lv_istore hC.1 hC.2.1 hdg hl hn hl' (fun ls' hl2 => k9 H locs ls' hP hD hS hl2)
theorem g_astore_n (pc : Nat) {i : Fin 4} {x : Nat} (lv' : List (Nat × Value)) (hC : Cx l D ty E rm cc own) (hdg : decode cc pc = .ok (.astore_n i, 1)) (hn : (i : Nat) < E.nL) (hl' : lvS (i : Nat) (.ref x) lv = lv') (k9 : G l D E k n ws lv' (pc + 1) rest) : G l D E k n ws lv pc (.ref x :: rest) :=
  fun H locs ls hP hD hS hl => lv_astore_n hC.1 hC.2.1 hdg rfl hl hn hl' (fun ls' hl2 => k9 H locs ls' hP hD hS hl2)
theorem g_fstore_n (pc : Nat) {i : Fin 4} {x : UInt32} (lv' : List (Nat × Value)) (hC : Cx l D ty E rm cc own) (hdg : decode cc pc = .ok (.fstore_n i, 1)) (hn : (i : Nat) < E.nL) (hl' : lvS (i : Nat) (.float x) lv = lv') (k9 : G l D E k n ws lv' (pc + 1) rest) : G l D E k n ws lv pc (.float x :: rest) :=
  fun H locs ls hP hD hS hl => lv_fstore_n hC.1 hC.2.1 hdg rfl hl hn hl' (fun ls' hl2 => k9 H locs ls' hP hD hS hl2)
theorem g_fstore (pc : Nat) {i : Nat} {x : UInt32} (lv' : List (Nat × Value)) (hC : Cx l D ty E rm cc own) (hdg : decode cc pc = .ok (.fstore i, 2)) (hn : i < E.nL) (hl' : lvS i (.float x) lv = lv') (k9 : G l D E k n ws lv' (pc + 2) rest) : G l D E k n ws lv pc (.float x :: rest) :=
  fun H locs ls hP hD hS hl => lv_fstore hC.1 hC.2.1 hdg hl hn hl' (fun ls' hl2 => k9 H locs ls' hP hD hS hl2)
theorem g_iinc (pc q : Nat) {i : Nat} {j : Int} {x v : Int32} (lv' : List (Nat × Value)) (hC : Cx l D ty E rm cc own) (hdg : decode cc pc = .ok (.iinc i j, 3)) (hq : lv[q]? = some (i, .int x)) (hv : Int32.ofInt j = v) (hn : i < E.nL) (hl' : lvS i (.int (x + v)) lv = lv') (k9 : G l D E k n ws lv' (pc + 3) rest) : G l D E k n ws lv pc rest :=
  fun H locs ls hP hD hS hl => lv_iinc hC.1 hC.2.1 hdg hl hq (by rw [hv]) hn hl' (fun ls' hl2 => k9 H locs ls' hP hD hS hl2)
theorem g_iadd (pc : Nat) {x y : Int32} (hC : Cx l D ty E rm cc own) (hdg : decode cc pc = .ok (.iadd, 1)) (k9 : G l D E k n ws lv (pc + 1) (.int (x + y) :: rest)) : G l D E k n ws lv pc (.int y :: .int x :: rest) :=
  fun H locs ls hP hD hS hl => lv_iadd hC.1 hC.2.1 hdg (k9 H locs ls hP hD hS hl)
theorem g_isub (pc : Nat) {x y : Int32} (hC : Cx l D ty E rm cc own) (hdg : decode cc pc = .ok (.isub, 1)) (k9 : G l D E k n ws lv (pc + 1) (.int (x - y) :: rest)) : G l D E k n ws lv pc (.int y :: .int x :: rest) :=
  fun H locs ls hP hD hS hl => lv_isub hC.1 hC.2.1 hdg (k9 H locs ls hP hD hS hl)
theorem g_imul (pc : Nat) {x y : Int32} (hC : Cx l D ty E rm cc own) (hdg : decode cc pc = .ok (.imul, 1)) (k9 : G l D E k n ws lv (pc + 1) (.int (x * y) :: rest)) : G l D E k n ws lv pc (.int y :: .int x :: rest) :=
  fun H locs ls hP hD hS hl => lv_imul hC.1 hC.2.1 hdg (k9 H locs ls hP hD hS hl)
theorem g_idiv (pc : Nat) {x y : Int32} (hC : Cx l D ty E rm cc own) (hdg : decode cc pc = .ok (.idiv, 1)) (hne : ¬ y = 0) (k9 : G l D E k n ws lv (pc + 1) (.int (x / y) :: rest)) : G l D E k n ws lv pc (.int y :: .int x :: rest) :=
  fun H locs ls hP hD hS hl => lv_idiv hC.1 hC.2.1 hdg hne (k9 H locs ls hP hD hS hl)
theorem g_iand (pc : Nat) {x y : Int32} (hC : Cx l D ty E rm cc own) (hdg : decode cc pc = .ok (.iand, 1)) (k9 : G l D E k n ws lv (pc + 1) (.int (x &&& y) :: rest)) : G l D E k n ws lv pc (.int y :: .int x :: rest) :=
  fun H locs ls hP hD hS hl => lv_iand hC.1 hC.2.1 hdg (k9 H locs ls hP hD hS hl)
theorem g_ior (pc : Nat) {x y : Int32} (hC : Cx l D ty E rm cc own) (hdg : decode cc pc = .ok (.ior, 1)) (k9 : G l D E k n ws lv (pc + 1) (.int (x ||| y) :: rest)) : G l D E k n ws lv pc (.int y :: .int x :: rest) :=
  fun H locs ls hP hD hS hl => lv_ior hC.1 hC.2.1 hdg (k9 H locs ls hP hD hS hl)
theorem g_ishl (pc : Nat) {x y : Int32} (hC : Cx l D ty E rm cc own) (hdg : decode cc pc = .ok (.ishl, 1)) (k9 : G l D E k n ws lv (pc + 1) (.int (x <<< (y &&& 31)) :: rest)) : G l D E k n ws lv pc (.int y :: .int x :: rest) :=
  fun H locs ls hP hD hS hl => lv_ishl hC.1 hC.2.1 hdg (k9 H locs ls hP hD hS hl)
theorem g_iushr (pc : Nat) {x y : Int32} (hC : Cx l D ty E rm cc own) (hdg : decode cc pc = .ok (.iushr, 1)) (k9 : G l D E k n ws lv (pc + 1) (.int ((x.toUInt32 >>> (y.toUInt32 &&& Int32.toUInt32 31)).toInt32) :: rest)) : G l D E k n ws lv pc (.int y :: .int x :: rest) :=
  fun H locs ls hP hD hS hl => lv_iushr hC.1 hC.2.1 hdg rfl (k9 H locs ls hP hD hS hl)
theorem g_i2l (pc : Nat) {x : Int32} (hC : Cx l D ty E rm cc own) (hdg : decode cc pc = .ok (.i2l, 1)) (k9 : G l D E k n ws lv (pc + 1) (.long x.toInt64 :: rest)) : G l D E k n ws lv pc (.int x :: rest) :=
  fun H locs ls hP hD hS hl => lv_i2l hC.1 hC.2.1 hdg rfl (k9 H locs ls hP hD hS hl)
theorem g_lcmp (pc : Nat) {x y : Int64} (hC : Cx l D ty E rm cc own) (hdg : decode cc pc = .ok (.lcmp, 1)) (k9 : G l D E k n ws lv (pc + 1) (.int (lg_cmp x y) :: rest)) : G l D E k n ws lv pc (.long y :: .long x :: rest) :=
  fun H locs ls hP hD hS hl => W.lcmp hC.1 hC.2.1 hdg (k9 H locs ls hP hD hS hl)
theorem g_dup (pc : Nat) {va : Value} (hC : Cx l D ty E rm cc own) (hdg : decode cc pc = .ok (.dup, 1)) (hva : va.category = 1) (k9 : G l D E k n ws lv (pc + 1) (va :: va :: rest)) : G l D E k n ws lv pc (va :: rest) :=
  fun H locs ls hP hD hS hl => lv_dup hC.1 hC.2.1 hdg hva (k9 H locs ls hP hD hS hl)
theorem g_dup2 (pc : Nat) {va vb : Value} (hC : Cx l D ty E rm cc own) (hdg : decode cc pc = .ok (.dup2, 1)) (hva : va.category = 1) (hvb : vb.category = 1) (k9 : G l D E k n ws lv (pc + 1) (va :: vb :: va :: vb :: rest)) : G l D E k n ws lv pc (va :: vb :: rest) :=
  fun H locs ls hP hD hS hl => lv_dup2_11 hC.1 hC.2.1 hdg hva hvb (k9 H locs ls hP hD hS hl)
theorem g_pop (pc : Nat) {va : Value} (hC : Cx l D ty E rm cc own) (hdg : decode cc pc = .ok (.pop, 1)) (hva : va.category = 1) (k9 : G l D E k n ws lv (pc + 1) rest) : G l D E k n ws lv pc (va :: rest) :=
  fun H locs ls hP hD hS hl => lv_pop hC.1 hC.2.1 hdg hva (k9 H locs ls hP hD hS hl)
theorem g_goto (pc tgt : Nat) {off : Int} (hC : Cx l D ty E rm cc own) (hdg : decode cc pc = .ok (.goto off, 3)) (ht : (pc : Int) + off = (tgt : Int)) (k9 : G l D E k n ws lv tgt rest) : G l D E k n ws lv pc rest :=
  fun H locs ls hP hD hS hl => lv_goto hC.1 hC.2.1 hdg ht (k9 H locs ls hP hD hS hl)
theorem g_if_eq (pc tgt : Nat) {x : Int32} {off : Int} (hC : Cx l D ty E rm cc own) (hdg : decode cc pc = .ok (.ifCond .eq off, 3)) (ht : (pc : Int) + off = (tgt : Int)) (kt : x = 0 → G l D E k n ws lv tgt rest) (kf : ¬ x = 0 → G l D E k n ws lv (pc + 3) rest) : G l D E k n ws lv pc (.int x :: rest) :=
  fun H locs ls hP hD hS hl => lv_if_eq hC.1 hC.2.1 hdg ht (fun h => kt h H locs ls hP hD hS hl) (fun h => kf h H locs ls hP hD hS hl)
theorem g_if_ne (pc tgt : Nat) {x : Int32} {off : Int} (hC : Cx l D ty E rm cc own) (hdg : decode cc pc = .ok (.ifCond .ne off, 3)) (ht : (pc : Int) + off = (tgt : Int)) (kt : ¬ x = 0 → G l D E k n ws lv tgt rest) (kf : x = 0 → G l D E k n ws lv (pc + 3) rest) : G l D E k n ws lv pc (.int x :: rest) :=
  fun H locs ls hP hD hS hl => lv_if_ne hC.1 hC.2.1 hdg ht (fun h => kt h H locs ls hP hD hS hl) (fun h => kf h H locs ls hP hD hS hl)
theorem g_if_lt (pc tgt : Nat) {x : Int32} {off : Int} (hC : Cx l D ty E rm cc own) (hdg : decode cc pc = .ok (.ifCond .lt off, 3)) (ht : (pc : Int) + off = (tgt : Int)) (kt : x < 0 → G l D E k n ws lv tgt rest) (kf : ¬ x < 0 → G l D E k n ws lv (pc + 3) rest) : G l D E k n ws lv pc (.int x :: rest) :=
  fun H locs ls hP hD hS hl => lv_if_lt hC.1 hC.2.1 hdg ht (fun h => kt h H locs ls hP hD hS hl) (fun h => kf h H locs ls hP hD hS hl)
theorem g_if_ge (pc tgt : Nat) {x : Int32} {off : Int} (hC : Cx l D ty E rm cc own) (hdg : decode cc pc = .ok (.ifCond .ge off, 3)) (ht : (pc : Int) + off = (tgt : Int)) (kt : 0 ≤ x → G l D E k n ws lv tgt rest) (kf : ¬ 0 ≤ x → G l D E k n ws lv (pc + 3) rest) : G l D E k n ws lv pc (.int x :: rest) :=
  fun H locs ls hP hD hS hl => lv_if_ge hC.1 hC.2.1 hdg ht (fun h => kt h H locs ls hP hD hS hl) (fun h => kf h H locs ls hP hD hS hl)
theorem g_if_gt (pc tgt : Nat) {x : Int32} {off : Int} (hC : Cx l D ty E rm cc own) (hdg : decode cc pc = .ok (.ifCond .gt off, 3)) (ht : (pc : Int) + off = (tgt : Int)) (kt : 0 < x → G l D E k n ws lv tgt rest) (kf : ¬ 0 < x → G l D E k n ws lv (pc + 3) rest) : G l D E k n ws lv pc (.int x :: rest) :=
  fun H locs ls hP hD hS hl => lv_if_gt hC.1 hC.2.1 hdg ht (fun h => kt h H locs ls hP hD hS hl) (fun h => kf h H locs ls hP hD hS hl)
theorem g_if_le (pc tgt : Nat) {x : Int32} {off : Int} (hC : Cx l D ty E rm cc own) (hdg : decode cc pc = .ok (.ifCond .le off, 3)) (ht : (pc : Int) + off = (tgt : Int)) (kt : x ≤ 0 → G l D E k n ws lv tgt rest) (kf : ¬ x ≤ 0 → G l D E k n ws lv (pc + 3) rest) : G l D E k n ws lv pc (.int x :: rest) :=
  fun H locs ls hP hD hS hl => lv_if_le hC.1 hC.2.1 hdg ht (fun h => kt h H locs ls hP hD hS hl) (fun h => kf h H locs ls hP hD hS hl)
theorem g_icmp_eq (pc tgt : Nat) {x y : Int32} {off : Int} (hC : Cx l D ty E rm cc own) (hdg : decode cc pc = .ok (.if_icmp .eq off, 3)) (ht : (pc : Int) + off = (tgt : Int)) (kt : x = y → G l D E k n ws lv tgt rest) (kf : ¬ x = y → G l D E k n ws lv (pc + 3) rest) : G l D E k n ws lv pc (.int y :: .int x :: rest) :=
  fun H locs ls hP hD hS hl => lv_icmp_eq hC.1 hC.2.1 hdg ht (fun h => kt h H locs ls hP hD hS hl) (fun h => kf h H locs ls hP hD hS hl)
theorem g_icmp_ne (pc tgt : Nat) {x y : Int32} {off : Int} (hC : Cx l D ty E rm cc own) (hdg : decode cc pc = .ok (.if_icmp .ne off, 3)) (ht : (pc : Int) + off = (tgt : Int)) (kt : ¬ x = y → G l D E k n ws lv tgt rest) (kf : x = y → G l D E k n ws lv (pc + 3) rest) : G l D E k n ws lv pc (.int y :: .int x :: rest) :=
  fun H locs ls hP hD hS hl => lv_icmp_ne hC.1 hC.2.1 hdg ht (fun h => kt h H locs ls hP hD hS hl) (fun h => kf h H locs ls hP hD hS hl)
theorem g_icmp_lt (pc tgt : Nat) {x y : Int32} {off : Int} (hC : Cx l D ty E rm cc own) (hdg : decode cc pc = .ok (.if_icmp .lt off, 3)) (ht : (pc : Int) + off = (tgt : Int)) (kt : x < y → G l D E k n ws lv tgt rest) (kf : ¬ x < y → G l D E k n ws lv (pc + 3) rest) : G l D E k n ws lv pc (.int y :: .int x :: rest) :=
  fun H locs ls hP hD hS hl => lv_icmp_lt hC.1 hC.2.1 hdg ht (fun h => kt h H locs ls hP hD hS hl) (fun h => kf h H locs ls hP hD hS hl)
theorem g_icmp_ge (pc tgt : Nat) {x y : Int32} {off : Int} (hC : Cx l D ty E rm cc own) (hdg : decode cc pc = .ok (.if_icmp .ge off, 3)) (ht : (pc : Int) + off = (tgt : Int)) (kt : y ≤ x → G l D E k n ws lv tgt rest) (kf : ¬ y ≤ x → G l D E k n ws lv (pc + 3) rest) : G l D E k n ws lv pc (.int y :: .int x :: rest) :=
  fun H locs ls hP hD hS hl => lv_icmp_ge hC.1 hC.2.1 hdg ht (fun h => kt h H locs ls hP hD hS hl) (fun h => kf h H locs ls hP hD hS hl)
theorem g_icmp_gt (pc tgt : Nat) {x y : Int32} {off : Int} (hC : Cx l D ty E rm cc own) (hdg : decode cc pc = .ok (.if_icmp .gt off, 3)) (ht : (pc : Int) + off = (tgt : Int)) (kt : y < x → G l D E k n ws lv tgt rest) (kf : ¬ y < x → G l D E k n ws lv (pc + 3) rest) : G l D E k n ws lv pc (.int y :: .int x :: rest) :=
  fun H locs ls hP hD hS hl => lv_icmp_gt hC.1 hC.2.1 hdg ht (fun h => kt h H locs ls hP hD hS hl) (fun h => kf h H locs ls hP hD hS hl)
theorem g_icmp_le (pc tgt : Nat) {x y : Int32} {off : Int} (hC : Cx l D ty E rm cc own) (hdg : decode cc pc = .ok (.if_icmp .le off, 3)) (ht : (pc : Int) + off = (tgt : Int)) (kt : x ≤ y → G l D E k n ws lv tgt rest) (kf : ¬ x ≤ y → G l D E k n ws lv (pc + 3) rest) : G l D E k n ws lv pc (.int y :: .int x :: rest) :=
  fun H locs ls hP hD hS hl => lv_icmp_le hC.1 hC.2.1 hdg ht (fun h => kt h H locs ls hP hD hS hl) (fun h => kf h H locs ls hP hD hS hl)
end GROWS
