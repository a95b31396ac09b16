/-! ===== fields, arrays, calls and ends, over G ===== -/
section GWORLD
variable {l : Launch} {D : va_G} {ty : List (ClassId × FieldType)} {E : CE} {rm : Room} {cc : ByteArray} {own : String} {k n : Nat} {ws : va_W} {lv : List (Nat × Value)} {rest st : List Value}
theorem G.to {pc : Nat} {ws' : va_W} (h : ws = ws') (k9 : G l D E k n ws' lv pc st) : G l D E k n ws lv pc st := h ▸ k9
theorem g_get (pc q0 k0 : Nat) {a ci idx N : Nat} {C : String} {T : u_T} {fs : List Value} {v : Value} (hC : Cx l D ty E rm cc own) (hin : ∀ w ∈ u_ws C T N, w ∈ wsL_law) (hw : Cond.fieldLink own idx (T k0).1 (T k0).2.1 (T k0).2.2.1 ∈ wsL_law) (hdg : decode cc pc = .ok (.getfield idx, 3))
    (he : ws[q0]? = some (a, .inr (ci, fs))) (hc : vwCl[ci]? = some (C, T, N)) (hk : k0 < N) (hv : fs[k0]? = some v) (k9 : G l D E k n ws lv (pc + 3) (v :: rest)) : G l D E k n ws lv pc (.ref a :: rest) :=
  fun H locs ls hP hD hS hl => va_get hC.1 hC.2.1 hC.2.2.2.2.1 hin hC.2.2.2.1 hC.2.2.2.2.2.2.1 hP q0 he hc k0 hk (hC.2.2.2.2.1 _ hw) (fun _ h9 => h9) hv hdg (k9 H locs ls hP hD hS hl)
theorem g_getN (pc q0 k0 : Nat) {a ci idx N : Nat} {C host : String} {T : u_T} {fs : List Value} {v : Value} (hC : Cx l D ty E rm cc own) (hin : ∀ w ∈ u_ws C T N, w ∈ wsL_law) (hw : Cond.fieldLinkNest own idx (T k0).1 (T k0).2.1 (T k0).2.2.1 host ∈ nwL) (hdg : decode cc pc = .ok (.getfield idx, 3))
    (he : ws[q0]? = some (a, .inr (ci, fs))) (hc : vwCl[ci]? = some (C, T, N)) (hk : k0 < N) (hv : fs[k0]? = some v) (k9 : G l D E k n ws lv (pc + 3) (v :: rest)) : G l D E k n ws lv pc (.ref a :: rest) :=
  fun H locs ls hP hD hS hl => va_getN hC.1 hC.2.1 hC.2.2.2.2.1 hin hC.2.2.2.1 hC.2.2.2.2.2.2.1 hP q0 he hc k0 hk (va_Nw.use rfl (hC.2.2.2.2.2.1 _ hw)) (fun _ h9 => h9) hv hdg (k9 H locs ls hP hD hS hl)
theorem g_put (pc q0 k0 : Nat) (ws' : va_W) {a ci idx N : Nat} {C : String} {T : u_T} {tyf : Nat → FieldType} {fs : List Value} {x : Int32} (hC : Cx l D ty E rm cc own) (hin : ∀ w ∈ u_ws C T N, w ∈ wsL_law) (hty : ∀ k, k < N → parseFieldDescriptor (T k).2.2.1 = some (tyf k)) (hnm : ∀ a, a < N → ∀ b, b < N → a ≠ b → (T a).2.1 ≠ (T b).2.1)
    (hw : Cond.fieldLink own idx (T k0).1 (T k0).2.1 (T k0).2.2.1 ∈ wsL_law) (hdg : decode cc pc = .ok (.putfield idx, 3))
    (he : ws[q0]? = some (a, .inr (ci, fs))) (hc : vwCl[ci]? = some (C, T, N)) (hk : k0 < N) (hfin : (T k0).2.2.2 = false) (htk : tyf k0 = .int) (hl0 : k0 < fs.length) (hws : ws.set q0 (a, .inr (ci, fs.set k0 (.int x))) = ws') (k9 : G l D E k n ws' lv (pc + 3) rest) : G l D E k n ws lv pc (.int x :: .ref a :: rest) :=
  fun H locs ls hP hD hS hl => va_put hC.1 hC.2.1 hC.2.2.2.2.1 hin tyf hty hnm hC.2.2.2.1 hC.2.2.2.2.2.2.1 hP hD hS q0 he hc k0 hk (hC.2.2.2.2.1 _ hw) (fun _ h9 => h9) hfin ((hty k0 hk).trans (congrArg some htk)) rfl rfl hl0 hdg (fun H1 locs1 hP1 hD1 hS1 => k9 H1 locs1 ls (hws ▸ hP1) (hws ▸ hD1) hS1 hl)
theorem g_putN (pc q0 k0 : Nat) (ws' : va_W) {a ci idx N : Nat} {C host : String} {T : u_T} {tyf : Nat → FieldType} {fs : List Value} {x : Int32} (hC : Cx l D ty E rm cc own) (hin : ∀ w ∈ u_ws C T N, w ∈ wsL_law) (hty : ∀ k, k < N → parseFieldDescriptor (T k).2.2.1 = some (tyf k)) (hnm : ∀ a, a < N → ∀ b, b < N → a ≠ b → (T a).2.1 ≠ (T b).2.1)
    (hw : Cond.fieldLinkNest own idx (T k0).1 (T k0).2.1 (T k0).2.2.1 host ∈ nwL) (hdg : decode cc pc = .ok (.putfield idx, 3))
    (he : ws[q0]? = some (a, .inr (ci, fs))) (hc : vwCl[ci]? = some (C, T, N)) (hk : k0 < N) (hfin : (T k0).2.2.2 = false) (htk : tyf k0 = .int) (hl0 : k0 < fs.length) (hws : ws.set q0 (a, .inr (ci, fs.set k0 (.int x))) = ws') (k9 : G l D E k n ws' lv (pc + 3) rest) : G l D E k n ws lv pc (.int x :: .ref a :: rest) :=
  fun H locs ls hP hD hS hl => va_putN hC.1 hC.2.1 hC.2.2.2.2.1 hin tyf hty hnm hC.2.2.2.1 hC.2.2.2.2.2.2.1 hP hD hS q0 he hc k0 hk (va_Nw.use rfl (hC.2.2.2.2.2.1 _ hw)) (fun _ h9 => h9) hfin ((hty k0 hk).trans (congrArg some htk)) rfl rfl hl0 hdg (fun H1 locs1 hP1 hD1 hS1 => k9 H1 locs1 ls (hws ▸ hP1) (hws ▸ hD1) hS1 hl)
theorem g_iald (pc q0 : Nat) {a N : Nat} {cA : ClassId} {f : Nat → Int32} {i : Int32} (hC : Cx l D ty E rm cc own) (hdg : decode cc pc = .ok (.iaload, 1)) (he : ws[q0]? = some (a, .inl (cA, N, .inl f))) (ht : ty[0]? = some (cA, .int)) (hi : vp_in i N) (k9 : G l D E k n ws lv (pc + 1) (.int (f i.toNatClampNeg) :: rest)) : G l D E k n ws lv pc (.int i :: .ref a :: rest) :=
  fun H locs ls hP hD hS hl => va_iald hC.1 hC.2.1 hC.2.2.2.2.2.2.1 hP q0 0 he ht hi hdg (k9 H locs ls hP hD hS hl)
theorem g_iast (pc q0 : Nat) (ws' : va_W) {a N : Nat} {cA : ClassId} {f : Nat → Int32} {i x : Int32} (hC : Cx l D ty E rm cc own) (hdg : decode cc pc = .ok (.iastore, 1)) (he : ws[q0]? = some (a, .inl (cA, N, .inl f))) (ht : ty[0]? = some (cA, .int)) (hi : vp_in i N) (hws : ws.set q0 (a, .inl (cA, N, .inl (upd f i.toNatClampNeg x))) = ws') (k9 : G l D E k n ws' lv (pc + 1) rest) : G l D E k n ws lv pc (.int x :: .int i :: .ref a :: rest) :=
  fun H locs ls hP hD hS hl => va_iast hC.1 hC.2.1 hC.2.2.2.2.2.2.1 hP hD hS q0 0 he ht hi hdg (fun H1 locs1 hP1 hD1 hS1 => k9 H1 locs1 ls (hws ▸ hP1) (hws ▸ hD1) hS1 hl)
theorem g_aald (pc q0 t0 : Nat) {a N r : Nat} {cA : ClassId} {fty : FieldType} {f : Nat → Option Nat} {i : Int32} (hC : Cx l D ty E rm cc own) (hdg : decode cc pc = .ok (.aaload, 1)) (he : ws[q0]? = some (a, .inl (cA, N, .inr (.inr (.inr (.inr f)))))) (ht : ty[t0]? = some (cA, fty)) (hrf : fty.isReference = true) (hi : vp_in i N) (hr : f i.toNatClampNeg = some r) (k9 : G l D E k n ws lv (pc + 1) (.ref r :: rest)) : G l D E k n ws lv pc (.int i :: .ref a :: rest) := by
  intro H locs ls hP hD hS hl
  have hlt : i.toNatClampNeg < N := Nat.not_le.mp fun q => hi (Or.inr q)
  have k8 := k9 H locs ls hP hD hS hl
  exact W.aald (v := .ref r) (ty := fty) hC.1 hC.2.1 (hP q0 _ he) ((hC.2.2.2.2.2.2.1.2 t0 _ ht).1 N (fun j => va_rf (f j))) hrf (fun q => by cases q) (by show ¬ (i < 0 ∨ (arrV _ _ _).slots.size ≤ _); rw [arrV_size]; exact hi) (by show (arrV _ _ _).slots[_]? = _; rw [arrV_read _ _ hlt, hr]; rfl) rfl rfl hdg k8
theorem g_alen (pc q0 t0 : Nat) {a : Nat} {cA : ClassId} {x : vp_A} {fty : FieldType} (hC : Cx l D ty E rm cc own) (hdg : decode cc pc = .ok (.arraylength, 1)) (he : ws[q0]? = some (a, .inl (cA, x))) (ht : ty[t0]? = some (cA, fty)) (k9 : G l D E k n ws lv (pc + 1) (.int (Int32.ofNat x.1) :: rest)) : G l D E k n ws lv pc (.ref a :: rest) :=
  fun H locs ls hP hD hS hl => va_alen hC.1 hC.2.1 hC.2.2.2.2.2.2.1 hP q0 t0 he ht rfl hdg (k9 H locs ls hP hD hS hl)
theorem wMin1 : Cond.static Lib.Math.min.name ∈ wsL_law := by decide +kernel
theorem wMin2 : Cond.initialized "java/lang/Math" ∈ wsL_law := by decide +kernel
theorem wMin3 : Cond.code Lib.Math.min.name Lib.Math.min.code 2 (some .int) ∈ wsL_law := by decide +kernel
theorem wMax1 : Cond.static Lib.Math.max.name ∈ wsL_law := by decide +kernel
theorem wMax3 : Cond.code Lib.Math.max.name Lib.Math.max.code 2 (some .int) ∈ wsL_law := by decide +kernel
theorem wCpy1 : Cond.native arraycopyName ∈ wsL_law := by decide +kernel
theorem wCpy2 : Cond.static arraycopyName ∈ wsL_law := by decide +kernel
theorem wCpy3 : Cond.initialized "java/lang/System" ∈ wsL_law := by decide +kernel
theorem g_min (pc : Nat) {idx : Nat} {x y : Int32} (hC : Cx l D ty E rm cc own) (hw : Cond.methodLink own idx Lib.Math.min.name ∈ wsL_law) (hdg : decode cc pc = .ok (.invokestatic idx, 3)) (hfr : 1 ≤ rm.frames) (hlo : (rest.map fun v => v.category).sum + 13 ≤ rm.locals) (hk : k ≤ rm.cells) (hn : n ≤ rm.slots) (k9 : G l D E k n ws lv (pc + 3) (.int (if y < x then y else x) :: rest)) : G l D E k n ws lv pc (.int y :: .int x :: rest) := by
  intro H locs ls hP hD hS hl
  obtain ⟨a1, a2, a3, a4, a5, a6, a7, a8, a9⟩ := hC
  exact va_mmin a1 a2 (a3.trans hl.1.symm) a4 (a5 _ hw) (a5 _ wMin1) (a5 _ wMin2) (a5 _ wMin3) (a9 ▸ hfr) (a9 ▸ hlo) (a9 ▸ hk) (a9 ▸ hn) hdg (k9 H locs ls hP hD hS hl)
theorem g_max (pc : Nat) {idx : Nat} {x y : Int32} (hC : Cx l D ty E rm cc own) (hw : Cond.methodLink own idx Lib.Math.max.name ∈ wsL_law) (hdg : decode cc pc = .ok (.invokestatic idx, 3)) (hfr : 1 ≤ rm.frames) (hlo : (rest.map fun v => v.category).sum + 13 ≤ rm.locals) (hk : k ≤ rm.cells) (hn : n ≤ rm.slots) (k9 : G l D E k n ws lv (pc + 3) (.int (if x < y then y else x) :: rest)) : G l D E k n ws lv pc (.int y :: .int x :: rest) := by
  intro H locs ls hP hD hS hl
  obtain ⟨a1, a2, a3, a4, a5, a6, a7, a8, a9⟩ := hC
  exact va_mmax a1 a2 (a3.trans hl.1.symm) a4 (a5 _ hw) (a5 _ wMax1) (a5 _ wMin2) (a5 _ wMax3) (a9 ▸ hfr) (a9 ▸ hlo) (a9 ▸ hk) (a9 ▸ hn) hdg (k9 H locs ls hP hD hS hl)
theorem g_copy (pc q0 q1 : Nat) (ws' : va_W) {idx a a0 n0 n1 : Nat} {c0 c1 : ClassId} {f g : Nat → Int32} {sp dp m : Int32} (hC : Cx l D ty E rm cc own) (hw : Cond.methodLink own idx arraycopyName ∈ wsL_law) (hdg : decode cc pc = .ok (.invokestatic idx, 3))
    (he0 : ws[q0]? = some (a0, .inl (c0, n0, .inl f))) (he1 : ws[q1]? = some (a, .inl (c1, n1, .inl g))) (ht0 : ty[0]? = some (c0, .int)) (ht1 : ty[0]? = some (c1, .int)) (h1 : ¬ sp < 0) (h2 : ¬ dp < 0) (h3 : ¬ m < 0) (h4 : sp.toNatClampNeg + m.toNatClampNeg ≤ n0) (h5 : dp.toNatClampNeg + m.toNatClampNeg ≤ n1)
    (hfr : 1 ≤ rm.frames) (hlo : (rest.map fun v => v.category).sum + (nativeFrameWords "java/lang/System" "arraycopy" 5 + 11) ≤ rm.locals) (hws : ws.set q1 (a, .inl (c1, n1, .inl (va_cpy f g sp.toNatClampNeg dp.toNatClampNeg m.toNatClampNeg))) = ws') (k9 : G l D E k n ws' lv (pc + 3) rest) : G l D E k n ws lv pc (.int m :: .int dp :: .ref a :: .int sp :: .ref a0 :: rest) := by
  intro H locs ls hP hD hS hl
  obtain ⟨b1, b2, b3, b4, b5, b6, b7, b8, b9⟩ := hC
  exact va_copyi b1 b2 (b3.trans hl.1.symm) b4 (b5 _ hw) (b5 _ wCpy1) (b5 _ wCpy2) (b5 _ wCpy3) b7 hP hD hS q0 q1 0 0 he0 he1 ht0 ht1 rfl h1 h2 h3 h4 h5 (fun _ _ => rfl) (b9 ▸ hfr) (b9 ▸ hlo) hdg (fun H1 locs1 hP1 hD1 hS1 => k9 H1 locs1 ls (hws ▸ hP1) (hws ▸ hD1) hS1 hl)
end GWORLD
/-- the cells is of ws replaced by those of w -/
def updW : va_W → List Nat → va_W → va_W
  | ws, i :: is, x :: xs => updW (ws.set i x) is xs
  | ws, _, _ => ws
theorem updW_out : ∀ (is : List Nat) (w ws : va_W) (k : Nat), k ∉ is → (updW ws is w)[k]? = ws[k]?
  | [], w, ws, k, _ => by cases w <;> rfl
  | i :: is, [], ws, k, _ => rfl
  | i :: is, x :: w, ws, k, h => by
    have h1 : k ≠ i := fun e => h (e ▸ List.mem_cons_self)
    show (updW (ws.set i x) is w)[k]? = _
    rw [updW_out is w (ws.set i x) k (fun q => h (List.mem_cons_of_mem _ q)), List.getElem?_set_ne (Ne.symm h1)]
theorem updW_len : ∀ (is : List Nat) (w ws : va_W), (updW ws is w).length = ws.length
  | [], w, ws => by cases w <;> rfl
  | i :: is, [], ws => rfl
  | i :: is, x :: w, ws => by
    show (updW (ws.set i x) is w).length = _
    rw [updW_len is w (ws.set i x), List.length_set]
/-- what stands at a place of the new world: an old cell of the rest, or one of w -/
theorem updW_at : ∀ (is : List Nat) (w ws : va_W) (k : Nat) (q : Nat × va_E), (updW ws is w)[k]? = some q → (∃ j : Nat, is[j]? = some k ∧ w[j]? = some q) ∨ (ws[k]? = some q ∧ ∀ j : Nat, is[j]? = some k → w.length ≤ j)
  | [], w, ws, k, q, h => by
    right
    cases w <;> exact ⟨h, fun j hj => by simp at hj⟩
  | i :: is, [], ws, k, q, h => Or.inr ⟨h, fun j _ => Nat.zero_le _⟩
  | i :: is, x :: w, ws, k, q, h => by
    rcases updW_at is w (ws.set i x) k q h with ⟨j, h1, h2⟩ | ⟨h1, h2⟩
    · exact Or.inl ⟨j + 1, by simpa using h1, by simpa using h2⟩
    · by_cases e : i = k
      · subst e
        have hlt : i < ws.length := by
          have := (List.getElem?_eq_some_iff.mp h1).1
          simpa using this
        rw [List.getElem?_set_self hlt] at h1
        exact Or.inl ⟨0, rfl, by simpa using h1⟩
      · rw [List.getElem?_set_ne e] at h1
        refine Or.inr ⟨h1, fun j hj => ?_⟩
        cases j with
        | zero => exact absurd (by simpa using hj) e
        | succ j => simpa using h2 j (by simpa using hj)
theorem updW_in : ∀ (is : List Nat) (w ws : va_W) (j k : Nat) (x : Nat × va_E), va_nd is = true → is[j]? = some k → w[j]? = some x → k < ws.length → (updW ws is w)[k]? = some x
  | [], w, ws, j, k, x, _, h1, _, _ => by simp at h1
  | i :: is, [], ws, j, k, x, _, _, h2, _ => by simp at h2
  | i :: is, y :: w, ws, j, k, x, hn, h1, h2, hk => by
    simp only [va_nd, Bool.and_eq_true, decide_eq_true_eq] at hn
    show (updW (ws.set i y) is w)[k]? = _
    cases j with
    | zero =>
      have e1 : i = k := by simpa using h1
      have e2 : y = x := by simpa using h2
      subst e1; subst e2
      rw [updW_out is w _ _ hn.1, List.getElem?_set_self hk]
    | succ j => exact updW_in is w (ws.set i y) j k x hn.2 (by simpa using h1) (by simpa using h2) (by simpa using hk)
/-- the cells at the places is -/
def cutW : va_W → List Nat → va_W
  | _, [] => []
  | ws, i :: is => ws.getD i (0, .inr (0, [])) :: cutW ws is
theorem cutW_at (ws : va_W) : ∀ (is : List Nat) (j k : Nat), is[j]? = some k → (cutW ws is)[j]? = some (ws.getD k (0, .inr (0, [])))
  | [], j, k, h => by simp at h
  | i :: is, 0, k, h => by
    have e : i = k := by simpa using h
    subst e
    rfl
  | i :: is, j + 1, k, h => by
    show (cutW ws is)[j]? = _
    exact cutW_at ws is j k (by simpa using h)
theorem updW_eq {ws ws' w : va_W} {isC : List Nat} (isR : List Nat) (hC : isC.map (fun i => ws'[i]?) = w.map some) (hR : cutW ws' isR = cutW ws isR) (hn : va_nd isC = true) (hl : ws'.length = ws.length) (hcov : (List.range ws.length).all (fun i => isC.contains i || isR.contains i) = true) : updW ws isC w = ws' := by
  apply List.ext_getElem?
  intro k
  by_cases hk : k < ws.length
  · have hin := List.all_eq_true.mp hcov k (List.mem_range.mpr hk)
    by_cases hc : k ∈ isC
    · obtain ⟨j, hj⟩ := List.getElem?_of_mem hc
      have h1 : (isC.map (fun i => ws'[i]?))[j]? = some (ws'[k]?) := by rw [List.getElem?_map, hj]; rfl
      rw [hC, List.getElem?_map] at h1
      cases hx : w[j]? with
      | none => rw [hx] at h1; cases h1
      | some x =>
        rw [hx] at h1
        rw [updW_in isC w ws j k x hn hj hx hk]
        exact Option.some.inj h1
    · have hr : k ∈ isR := by
        simp only [Bool.or_eq_true, List.contains_iff_mem] at hin
        exact hin.resolve_left hc
      rw [updW_out isC w ws k hc]
      obtain ⟨j, hj⟩ := List.getElem?_of_mem hr
      have h1 := cutW_at ws' isR j k hj
      rw [hR, cutW_at ws isR j k hj] at h1
      have h2 := Option.some.inj h1
      rw [List.getD_eq_getElem?_getD, List.getD_eq_getElem?_getD, List.getElem?_eq_getElem hk, List.getElem?_eq_getElem (by omega : k < ws'.length)] at h2
      rw [List.getElem?_eq_getElem hk, List.getElem?_eq_getElem (by omega : k < ws'.length)]
      exact congrArg some h2
  · rw [List.getElem?_eq_none (by rw [updW_len]; omega), List.getElem?_eq_none (by omega)]
theorem G.upd {l : Launch} {D : va_G} {E : CE} {k n : Nat} {ws w : va_W} {lv : List (Nat × Value)} {st : List Value} {pc : Nat} {isC : List Nat} (isR : List Nat) (ws' : va_W) (hC : isC.map (fun i => ws'[i]?) = w.map some) (hR : cutW ws' isR = cutW ws isR) (hn : va_nd isC = true) (hl : ws'.length = ws.length) (hcov : (List.range ws.length).all (fun i => isC.contains i || isR.contains i) = true) (k9 : G l D E k n ws' lv pc st) : G l D E k n (updW ws isC w) lv pc st := by
  rw [updW_eq isR hC hR hn hl hcov]
  exact k9
theorem updW_join {A0 : Nat → Prop} {D : va_G} {cl : List vw_C} {ws wc w1 : va_W} {H H1 : Heap} (hP : va_P D cl ws H) (hD : va_D A0 ws) (isC : List Nat) (hC : isC.map (fun i => ws[i]?) = wc.map some) (hnd : va_nd isC = true) (hlen : isC.length ≤ w1.length)
    (hk : ∀ q : Nat, q < H.size → ¬ va_A wc H.size q → H1[q]? = H[q]?) (hF : ∀ q, va_A wc H.size q → A0 q) (hP1 : va_P D cl w1 H1) (hD1 : va_D (va_A wc H.size) w1) : va_P D cl (updW ws isC w1) H1 ∧ va_D A0 (updW ws isC w1) := by
  have at' : ∀ (k : Nat) (q : Nat × va_E), wc[k]? = some q → ∃ i, isC[k]? = some i ∧ ws[i]? = some q := by
    intro k q hq
    have h1 : (isC.map (fun i => ws[i]?))[k]? = some (some q) := by rw [hC, List.getElem?_map, hq]; rfl
    rw [List.getElem?_map] at h1
    cases hi : isC[k]? with
    | none => rw [hi] at h1; cases h1
    | some i => rw [hi] at h1; exact ⟨i, rfl, Option.some.inj h1⟩
  have rst : ∀ (k : Nat) (q : Nat × va_E), ws[k]? = some q → (∀ j, isC[j]? = some k → w1.length ≤ j) → q.1 < H.size ∧ ¬ va_A wc H.size q.1 := by
    intro k q hq hj
    have hl := (hP k q hq).lt
    refine ⟨hl, fun h => ?_⟩
    rcases h with ⟨k2, e, h⟩ | h
    · obtain ⟨i, h3, h4⟩ := at' k2 (q.1, e) h
      have hij := hD.1 k i q (q.1, e) hq h4 rfl
      subst hij
      have := hj k2 h3
      have := (List.getElem?_eq_some_iff.mp h3).1
      omega
    · omega
  refine ⟨fun k q hq => ?_, fun i j x y hx hy hxy => ?_, fun k q hq => ?_⟩
  · rcases updW_at isC w1 ws k q hq with ⟨j, -, h2⟩ | ⟨h1, h2⟩
    · exact hP1 j q h2
    · obtain ⟨g1, g2⟩ := rst k q h1 h2
      exact (hP k q h1).kept (hk q.1 g1 g2)
  · rcases updW_at isC w1 ws i x hx with ⟨a, a1, a2⟩ | ⟨a1, a2⟩ <;> rcases updW_at isC w1 ws j y hy with ⟨b, b1, b2⟩ | ⟨b1, b2⟩
    · have := hD1.1 a b x y a2 b2 hxy
      subst this
      exact Option.some.inj (a1.symm.trans b1)
    · exact absurd (hxy ▸ hD1.2 a x a2) (rst j y b1 b2).2
    · exact absurd (hxy.symm ▸ hD1.2 b y b2) (rst i x a1 a2).2
    · exact hD.1 i j x y a1 b1 hxy
  · rcases updW_at isC w1 ws k q hq with ⟨j, -, h2⟩ | ⟨h1, -⟩
    · exact hF _ (hD1.2 j q h2)
    · exact hD.2 k q h1
/-- a method's start: the heap's size, the nest words, the world and the tables -/
def gP (D : va_G) (ty : List (ClassId × FieldType)) (sz : Nat) (w : va_W) (U : State) : Prop := U.heap.size = sz ∧ NW U ∧ va_P D vwCl w U.heap ∧ va_K D vwCl ty U ∧ va_D (fun _ => True) w
def gB (D : va_G) (A : Nat → Prop) (w : va_W) (t : State) : Prop := va_P D vwCl w t.heap ∧ va_D A w
theorem gP_blind {D : va_G} {ty : List (ClassId × FieldType)} {sz : Nat} {w : va_W} {as : List Value} : FrameBlind (va_Pc as (gP D ty sz w)) := by
  rintro a U g mk ⟨h0, h1, h2, h3, h4, h5⟩
  exact ⟨h0, h1, NW.same (u := U) (U := U.calling g mk a) rfl h2, h3, va_K.moved (u := U) (U := U.calling g mk a) (Vm.Alike.refl U.vm) h4, h5⟩
/-- contracts: the answer and the world behind it; int (or boolean), and none -/
def MI (l : Launch) (D : va_G) (ty : List (ClassId × FieldType)) (y : MethodName) (cb : ByteArray) (mL : Nat) (rt : Option FieldType) (rm : Room) (as : List Value) (w : va_W) (post : Int32 → va_W → Prop) : Prop :=
  ∀ sz : Nat, Met l y (.code y cb mL rt :: wsL_law) rm (va_Pc as (gP D ty sz w)) (va_Qi post (gB D (va_A w sz)) (va_A w sz)) rm.cells rm.slots (va_A w sz)
def MV (l : Launch) (D : va_G) (ty : List (ClassId × FieldType)) (y : MethodName) (cb : ByteArray) (mL : Nat) (rm : Room) (as : List Value) (w : va_W) (post : va_W → Prop) : Prop :=
  ∀ sz : Nat, Met l y (.code y cb mL none :: wsL_law) rm (va_Pc as (gP D ty sz w)) (va_Qv post (gB D (va_A w sz)) (va_A w sz)) rm.cells rm.slots (va_A w sz)
def RetI (D : va_G) (E : CE) (post : Int32 → va_W → Prop) (k n : Nat) (rt : Option FieldType) : Prop := E.Q = MQ E.bl (va_Qi post (gB D E.A) E.A) E.as E.s k n E.A ∧ E.meth.sig.returnType = rt ∧ E.meth.locks = false
def RetV (D : va_G) (E : CE) (post : va_W → Prop) (k n : Nat) : Prop := E.Q = MQ E.bl (va_Qv post (gB D E.A) E.A) E.as E.s k n E.A ∧ E.meth.sig.returnType = none ∧ E.meth.locks = false
theorem MI.of {l : Launch} {D : va_G} {ty : List (ClassId × FieldType)} {y : MethodName} {cb : ByteArray} {mL : Nat} {rt : Option FieldType} {rm : Room} {as : List Value} {w : va_W} {post : Int32 → va_W → Prop} (hy : plainName y.cls = true) (hlen : (lg_sl as).length ≤ mL)
    (body : ∀ E : CE, Cx l D ty E rm cb y.cls → RetI D E post rm.cells rm.slots rt → E.nL = mL → G l D E 0 0 w (lv_args 0 as) 0 []) : MI l D ty y cb mL rt rm as w post := by
  intro sz
  refine Met.ofW (cc := cb) (maxL := mL) (ret := rt) hy rfl ?_
  intro p e s m args below meth c s₁ B hml hv
  obtain ⟨rfl, hsz, hN, hP, hK, hD0⟩ := hv
  have hts := atoms_spec (ws := .code y cb mL rt :: wsL_law) B.pre
  subst hsz
  have hD := hD0.self (sz := s.heap.size)
  have hl := lv_entry as (n := mL) hlen
  rw [lg_entry_eq]
  exact body (p, e, rm, s, m, as.toArray, below, meth, c, va_A w s.heap.size, mL, MQ below (va_Qi post (gB D (va_A w s.heap.size)) (va_A w s.heap.size)) as.toArray s rm.cells rm.slots (va_A w s.heap.size))
    ⟨B.exec, B.bytes, hml, findClass_of_methodNamed B.named, fun w h => hts w (List.mem_cons_of_mem _ h), hN, hK, fun q h => Or.inr h, rfl⟩ ⟨rfl, B.returns, B.notSynchronized⟩ rfl s.heap [] _ hP hD va_S.rf hl
theorem MV.of {l : Launch} {D : va_G} {ty : List (ClassId × FieldType)} {y : MethodName} {cb : ByteArray} {mL : Nat} {rm : Room} {as : List Value} {w : va_W} {post : va_W → Prop} (hy : plainName y.cls = true) (hlen : (lg_sl as).length ≤ mL)
    (body : ∀ E : CE, Cx l D ty E rm cb y.cls → RetV D E post rm.cells rm.slots → E.nL = mL → G l D E 0 0 w (lv_args 0 as) 0 []) : MV l D ty y cb mL rm as w post := by
  intro sz
  refine Met.ofW (cc := cb) (maxL := mL) (ret := none) hy rfl ?_
  intro p e s m args below meth c s₁ B hml hv
  obtain ⟨rfl, hsz, hN, hP, hK, hD0⟩ := hv
  have hts := atoms_spec (ws := .code y cb mL none :: wsL_law) B.pre
  subst hsz
  have hD := hD0.self (sz := s.heap.size)
  have hl := lv_entry as (n := mL) hlen
  rw [lg_entry_eq]
  exact body (p, e, rm, s, m, as.toArray, below, meth, c, va_A w s.heap.size, mL, MQ below (va_Qv post (gB D (va_A w s.heap.size)) (va_A w s.heap.size)) as.toArray s rm.cells rm.slots (va_A w s.heap.size))
    ⟨B.exec, B.bytes, hml, findClass_of_methodNamed B.named, fun w h => hts w (List.mem_cons_of_mem _ h), hN, hK, fun q h => Or.inr h, rfl⟩ ⟨rfl, B.returns, B.notSynchronized⟩ rfl s.heap [] _ hP hD va_S.rf hl
section GCALL
variable {l : Launch} {D : va_G} {ty : List (ClassId × FieldType)} {E : CE} {rm : Room} {cc : ByteArray} {own : String} {k n : Nat} {ws : va_W} {lv : List (Nat × Value)} {rest st : List Value}
theorem g_iret (pc : Nat) {post : Int32 → va_W → Prop} {v : Int32} (hC : Cx l D ty E rm cc own) (hR : RetI D E post k n (some .int)) (hdg : decode cc pc = .ok (.ireturn, 1)) (h : post v ws) : G l D E k n ws lv pc [.int v] := by
  intro H locs ls hP hD hS hl
  obtain ⟨r1, r2, r3⟩ := hR
  rw [r1]
  exact W.iret (v := v) hC.1 hC.2.1 r2 (fun t ht _ => ⟨⟨v, ws, rfl, h, by rw [ht]; exact hP, hD⟩, hS.F ht⟩) hS.2.2 hdg r3
theorem g_zret (pc : Nat) {post : Int32 → va_W → Prop} {v : Int32} (hC : Cx l D ty E rm cc own) (hR : RetI D E post k n (some .boolean)) (hdg : decode cc pc = .ok (.ireturn, 1)) (hv : v = 0 ∨ v = 1) (h : post v ws) : G l D E k n ws lv pc [.int v] := by
  intro H locs ls hP hD hS hl
  obtain ⟨r1, r2, r3⟩ := hR
  rw [r1]
  exact W.zret (v := v) (ty := .boolean) hC.1 hC.2.1 r2 (by rcases hv with rfl | rfl <;> rfl) (fun t ht _ => ⟨⟨v, ws, rfl, h, by rw [ht]; exact hP, hD⟩, hS.F ht⟩) hS.2.2 hdg r3
theorem g_vret (pc : Nat) {post : va_W → Prop} (hC : Cx l D ty E rm cc own) (hR : RetV D E post k n) (hdg : decode cc pc = .ok (.return_, 1)) (h : post ws) : G l D E k n ws lv pc [] := by
  intro H locs ls hP hD hS hl
  obtain ⟨r1, r2, r3⟩ := hR
  rw [r1]
  exact W.vret hC.1 hC.2.1 r2 (fun t ht _ => ⟨⟨ws, rfl, h, by rw [ht]; exact hP, hD⟩, hS.F ht⟩) hS.2.2 hdg r3
/-- what a call wants of its callee's words -/
def KV (y : MethodName) (cb : ByteArray) (mL : Nat) (rt : Option FieldType) (nn : Nat) : Prop := Cond.code y cb mL rt ∈ wsL_law ∧ Cond.initialized y.cls ∈ wsL_law ∧ Cond.instanceMethod y ∈ wsL_law ∧ Cond.selects y.cls y y ∈ wsL_law ∧ (y.cls ≠ "java/lang/invoke/MethodHandle" ∧ y.cls ≠ "java/lang/invoke/VarHandle" ∧ (parseMethodDescriptor y.desc).map (fun d => d.parameters.length) = some nn)
def KS (y : MethodName) (cb : ByteArray) (mL : Nat) (rt : Option FieldType) (nn : Nat) : Prop := Cond.code y cb mL rt ∈ wsL_law ∧ Cond.initialized y.cls ∈ wsL_law ∧ Cond.static y ∈ wsL_law ∧ (y.cls ≠ "java/lang/invoke/MethodHandle" ∧ y.cls ≠ "java/lang/invoke/VarHandle" ∧ (parseMethodDescriptor y.desc).map (fun d => d.parameters.length) = some nn)
theorem wsL_good : wsL_law.all goodWord = true := by decide +kernel
theorem gdU {y : MethodName} {cb : ByteArray} {mL : Nat} {rt : Option FieldType} (h : Cond.code y cb mL rt ∈ wsL_law) : GoodIn wsL_law (.code y cb mL rt :: wsL_law) := goodIn_sub (fun w hw => by
    rcases List.mem_cons.mp hw with rfl | hw
    · exact h
    · exact hw) (by
    rw [List.all_cons, wsL_good, Bool.and_true]
    exact List.all_eq_true.mp wsL_good _ h)
theorem gPre {H : Heap} {wc : va_W} {as : List Value} {isC : List Nat} (hC : Cx l D ty E rm cc own) (hP : va_P D vwCl ws H) (hD : va_D E.A ws) (hcut : isC.map (fun i => ws[i]?) = wc.map some) (hnd : va_nd isC = true) : ∀ U : State, U.heap = H → E.s.WarmedH U.vm → va_Pc as (gP D ty H.size wc) as.toArray U := by
  intro U hU hW
  obtain ⟨b1, b2, b3, b4, b5, b6, b7, b8, b9⟩ := hC
  have hD9 := hD.sub isC hnd hcut
  refine ⟨rfl, by rw [hU], NW.warm hW b6, ?_, va_K.moved hW.alike b7, hD9.weaken (fun _ _ _ _ => trivial)⟩
  rw [hU]
  intro j q hq
  have h1 : (isC.map (fun i => ws[i]?))[j]? = some (some q) := by rw [hcut, List.getElem?_map, hq]; rfl
  rw [List.getElem?_map] at h1
  cases hi : isC[j]? with
  | none => rw [hi] at h1; cases h1
  | some i => rw [hi] at h1; exact hP i q (Option.some.inj h1)
theorem g_back {H H1 : Heap} {locs1 : List Loc} {ls : Array Slot} {wc w : va_W} {isC : List Nat} {pc : Nat} {st : List Value} (hP : va_P D vwCl ws H) (hD : va_D E.A ws) (hcut : isC.map (fun i => ws[i]?) = wc.map some) (hnd : va_nd isC = true) (hlen : isC.length ≤ w.length) (hFc : ∀ q, va_A wc H.size q → E.A q) (t : State) (ht : t.heap = H1) (hB : gB D (va_A wc H.size) w t) (hk1 : ∀ q : Nat, q < H.size → ¬ va_A wc H.size q → H1[q]? = H[q]?)
    (hS : va_S E.A E.s.heap H1 locs1) (hl : lv_has ls E.nL lv) (k9 : G l D E k n (updW ws isC w) lv pc st) : W E.p l E.e E.R E.s E.m E.as E.bl E.meth E.c H1 locs1 k n E.Q (F0 E.m pc ls st) := by
  obtain ⟨hP1, hD1⟩ := hB
  rw [ht] at hP1
  obtain ⟨g1, g2⟩ := updW_join hP hD isC hcut hnd hlen hk1 hFc hP1 hD1
  exact k9 H1 locs1 ls g1 g2 hS hl
/-- a private method of a nest mate, with an answer -/
theorem g_cVNi (pc qr : Nat) (isC : List Nat) {idx a ci N mL : Nat} {host : String} {T : u_T} {fs : List Value} {y : MethodName} {cb : ByteArray} {rt : Option FieldType} {rm' : Room} {As : List Value} {wc : va_W} {post : Int32 → va_W → Prop} (hC : Cx l D ty E rm cc own) (hM : MI l D ty y cb mL rt rm' (.ref a :: As) wc post) (hk : KV y cb mL rt As.length) (hw : Cond.methodLinkNest own idx y host ∈ nwL) (hdg : decode cc pc = .ok (.invokevirtual idx, 3))
    (he : ws[qr]? = some (a, .inr (ci, fs))) (hc : vwCl[ci]? = some (y.cls, T, N)) (hR : rm'.frames + 1 ≤ rm.frames ∧ 8 + (mL + 11) + rm'.locals ≤ rm.locals) (hc0 : rm'.cells = 0) (hs0 : rm'.slots = 0) (hk0 : k ≤ rm.cells) (hn0 : n ≤ rm.slots) (hcut : isC.map (fun i => ws[i]?) = wc.map some) (hnd : va_nd isC = true) (hst : st = As.reverse ++ .ref a :: rest) (hrs : (rest.map fun v => v.category).sum ≤ 8)
    (k9 : ∀ r w, post r w → isC.length ≤ w.length ∧ G l D E k n (updW ws isC w) lv (pc + 3) (.int r :: rest)) : G l D E k n ws lv pc st := by
  intro H locs ls hP hD hS hl
  subst hst
  have hC' := hC
  obtain ⟨b1, b2, b3, b4, b5, b6, b7, b8, b9⟩ := hC
  obtain ⟨q1, q2, q3, q4, q5⟩ := hk
  have hFc := va_free (wc := wc) hD hS b8 isC hcut
  refine va_calli (A1 := va_A wc H.size) (mc := 0) (ms := 0) (va_runVN (As := As) (rest := rest) ⟨b1, b2, b3, b4, b5⟩ (hc0 ▸ hs0 ▸ hM H.size) ⟨va_cnB As.length b5 (gdU q1) rfl hc0 hs0 (b6 _ hw) (b5 _ q2) q5 (b9 ▸ hR), b5 _ q3, b5 _ q4⟩ ⟨gP_blind, va_recv b7 hP hc he, gPre hC' hP hD hcut hnd⟩ rfl rfl hl.1 rfl (lv_room hrs) hdg ⟨b9 ▸ hk0, b9 ▸ hn0⟩) hS (fun q _ h => hFc q h) hFc (fun r w t H1 locs1 ht hvm hw9 hB hz1 hk1 hS1 => ?_)
  obtain ⟨g1, g2⟩ := k9 r w hw9
  exact g_back hP hD hcut hnd g1 hFc t ht hB hk1 hS1 hl g2
theorem g_cVNv (pc qr : Nat) (isC : List Nat) {idx a ci N mL : Nat} {host : String} {T : u_T} {fs : List Value} {y : MethodName} {cb : ByteArray} {rm' : Room} {As : List Value} {wc : va_W} {post : va_W → Prop} (hC : Cx l D ty E rm cc own) (hM : MV l D ty y cb mL rm' (.ref a :: As) wc post) (hk : KV y cb mL none As.length) (hw : Cond.methodLinkNest own idx y host ∈ nwL) (hdg : decode cc pc = .ok (.invokevirtual idx, 3))
    (he : ws[qr]? = some (a, .inr (ci, fs))) (hc : vwCl[ci]? = some (y.cls, T, N)) (hR : rm'.frames + 1 ≤ rm.frames ∧ 8 + (mL + 11) + rm'.locals ≤ rm.locals) (hc0 : rm'.cells = 0) (hs0 : rm'.slots = 0) (hk0 : k ≤ rm.cells) (hn0 : n ≤ rm.slots) (hcut : isC.map (fun i => ws[i]?) = wc.map some) (hnd : va_nd isC = true) (hst : st = As.reverse ++ .ref a :: rest) (hrs : (rest.map fun v => v.category).sum ≤ 8)
    (k9 : ∀ w, post w → isC.length ≤ w.length ∧ G l D E k n (updW ws isC w) lv (pc + 3) rest) : G l D E k n ws lv pc st := by
  intro H locs ls hP hD hS hl
  subst hst
  have hC' := hC
  obtain ⟨b1, b2, b3, b4, b5, b6, b7, b8, b9⟩ := hC
  obtain ⟨q1, q2, q3, q4, q5⟩ := hk
  have hFc := va_free (wc := wc) hD hS b8 isC hcut
  refine va_callv (A1 := va_A wc H.size) (mc := 0) (ms := 0) (va_runVN (As := As) (rest := rest) ⟨b1, b2, b3, b4, b5⟩ (hc0 ▸ hs0 ▸ hM H.size) ⟨va_cnB As.length b5 (gdU q1) rfl hc0 hs0 (b6 _ hw) (b5 _ q2) q5 (b9 ▸ hR), b5 _ q3, b5 _ q4⟩ ⟨gP_blind, va_recv b7 hP hc he, gPre hC' hP hD hcut hnd⟩ rfl rfl hl.1 rfl (lv_room hrs) hdg ⟨b9 ▸ hk0, b9 ▸ hn0⟩) hS (fun q _ h => hFc q h) hFc (fun w t H1 locs1 ht hvm hw9 hB hz1 hk1 hS1 => ?_)
  obtain ⟨g1, g2⟩ := k9 w hw9
  exact g_back hP hD hcut hnd g1 hFc t ht hB hk1 hS1 hl g2
/-- a method of the own class (or a public one): plain link -/
theorem g_cVi (pc qr : Nat) (isC : List Nat) {idx a ci N mL : Nat} {T : u_T} {fs : List Value} {y : MethodName} {cb : ByteArray} {rt : Option FieldType} {rm' : Room} {As : List Value} {wc : va_W} {post : Int32 → va_W → Prop} (hC : Cx l D ty E rm cc own) (hM : MI l D ty y cb mL rt rm' (.ref a :: As) wc post) (hk : KV y cb mL rt As.length) (hw : Cond.methodLink own idx y ∈ wsL_law) (hdg : decode cc pc = .ok (.invokevirtual idx, 3))
    (he : ws[qr]? = some (a, .inr (ci, fs))) (hc : vwCl[ci]? = some (y.cls, T, N)) (hR : rm'.frames + 1 ≤ rm.frames ∧ 8 + (mL + 11) + rm'.locals ≤ rm.locals) (hc0 : rm'.cells = 0) (hs0 : rm'.slots = 0) (hk0 : k ≤ rm.cells) (hn0 : n ≤ rm.slots) (hcut : isC.map (fun i => ws[i]?) = wc.map some) (hnd : va_nd isC = true) (hst : st = As.reverse ++ .ref a :: rest) (hrs : (rest.map fun v => v.category).sum ≤ 8)
    (k9 : ∀ r w, post r w → isC.length ≤ w.length ∧ G l D E k n (updW ws isC w) lv (pc + 3) (.int r :: rest)) : G l D E k n ws lv pc st := by
  intro H locs ls hP hD hS hl
  subst hst
  have hC' := hC
  obtain ⟨b1, b2, b3, b4, b5, b6, b7, b8, b9⟩ := hC
  obtain ⟨q1, q2, q3, q4, q5⟩ := hk
  have hFc := va_free (wc := wc) hD hS b8 isC hcut
  refine va_calli (A1 := va_A wc H.size) (mc := 0) (ms := 0) (va_runV (C := y.cls) (As := As) (rest := rest) ⟨b1, b2, b3, b4, b5⟩ (hc0 ▸ hs0 ▸ hM H.size) ⟨callB_of As.length b5 (gdU q1) rfl hc0 hs0 (b5 _ q2) (b5 _ hw) q5 (b9 ▸ hR), b5 _ q3, b5 _ q4⟩ ⟨gP_blind, va_recv b7 hP hc he, gPre hC' hP hD hcut hnd⟩ rfl rfl hl.1 rfl (lv_room hrs) hdg ⟨b9 ▸ hk0, b9 ▸ hn0⟩) hS (fun q _ h => hFc q h) hFc (fun r w t H1 locs1 ht hvm hw9 hB hz1 hk1 hS1 => ?_)
  obtain ⟨g1, g2⟩ := k9 r w hw9
  exact g_back hP hD hcut hnd g1 hFc t ht hB hk1 hS1 hl g2
theorem g_cVv (pc qr : Nat) (isC : List Nat) {idx a ci N mL : Nat} {T : u_T} {fs : List Value} {y : MethodName} {cb : ByteArray} {rm' : Room} {As : List Value} {wc : va_W} {post : va_W → Prop} (hC : Cx l D ty E rm cc own) (hM : MV l D ty y cb mL rm' (.ref a :: As) wc post) (hk : KV y cb mL none As.length) (hw : Cond.methodLink own idx y ∈ wsL_law) (hdg : decode cc pc = .ok (.invokevirtual idx, 3))
    (he : ws[qr]? = some (a, .inr (ci, fs))) (hc : vwCl[ci]? = some (y.cls, T, N)) (hR : rm'.frames + 1 ≤ rm.frames ∧ 8 + (mL + 11) + rm'.locals ≤ rm.locals) (hc0 : rm'.cells = 0) (hs0 : rm'.slots = 0) (hk0 : k ≤ rm.cells) (hn0 : n ≤ rm.slots) (hcut : isC.map (fun i => ws[i]?) = wc.map some) (hnd : va_nd isC = true) (hst : st = As.reverse ++ .ref a :: rest) (hrs : (rest.map fun v => v.category).sum ≤ 8)
    (k9 : ∀ w, post w → isC.length ≤ w.length ∧ G l D E k n (updW ws isC w) lv (pc + 3) rest) : G l D E k n ws lv pc st := by
  intro H locs ls hP hD hS hl
  subst hst
  have hC' := hC
  obtain ⟨b1, b2, b3, b4, b5, b6, b7, b8, b9⟩ := hC
  obtain ⟨q1, q2, q3, q4, q5⟩ := hk
  have hFc := va_free (wc := wc) hD hS b8 isC hcut
  refine va_callv (A1 := va_A wc H.size) (mc := 0) (ms := 0) (va_runV (C := y.cls) (As := As) (rest := rest) ⟨b1, b2, b3, b4, b5⟩ (hc0 ▸ hs0 ▸ hM H.size) ⟨callB_of As.length b5 (gdU q1) rfl hc0 hs0 (b5 _ q2) (b5 _ hw) q5 (b9 ▸ hR), b5 _ q3, b5 _ q4⟩ ⟨gP_blind, va_recv b7 hP hc he, gPre hC' hP hD hcut hnd⟩ rfl rfl hl.1 rfl (lv_room hrs) hdg ⟨b9 ▸ hk0, b9 ▸ hn0⟩) hS (fun q _ h => hFc q h) hFc (fun w t H1 locs1 ht hvm hw9 hB hz1 hk1 hS1 => ?_)
  obtain ⟨g1, g2⟩ := k9 w hw9
  exact g_back hP hD hcut hnd g1 hFc t ht hB hk1 hS1 hl g2
/-- a static method -/
theorem g_cSi (pc : Nat) (isC : List Nat) {idx mL : Nat} {y : MethodName} {cb : ByteArray} {rt : Option FieldType} {rm' : Room} {As : List Value} {wc : va_W} {post : Int32 → va_W → Prop} (hC : Cx l D ty E rm cc own) (hM : MI l D ty y cb mL rt rm' As wc post) (hk : KS y cb mL rt As.length) (hw : Cond.methodLink own idx y ∈ wsL_law) (hdg : decode cc pc = .ok (.invokestatic idx, 3))
    (hR : rm'.frames + 1 ≤ rm.frames ∧ 8 + (mL + 11) + rm'.locals ≤ rm.locals) (hc0 : rm'.cells = 0) (hs0 : rm'.slots = 0) (hk0 : k ≤ rm.cells) (hn0 : n ≤ rm.slots) (hcut : isC.map (fun i => ws[i]?) = wc.map some) (hnd : va_nd isC = true) (hst : st = As.reverse ++ rest) (hrs : (rest.map fun v => v.category).sum ≤ 8)
    (k9 : ∀ r w, post r w → isC.length ≤ w.length ∧ G l D E k n (updW ws isC w) lv (pc + 3) (.int r :: rest)) : G l D E k n ws lv pc st := by
  intro H locs ls hP hD hS hl
  subst hst
  have hC' := hC
  obtain ⟨b1, b2, b3, b4, b5, b6, b7, b8, b9⟩ := hC
  obtain ⟨q1, q2, q3, q5⟩ := hk
  have hFc := va_free (wc := wc) hD hS b8 isC hcut
  refine va_calli (A1 := va_A wc H.size) (mc := 0) (ms := 0) (va_runS (As := As) (rest := rest) ⟨b1, b2, b3, b4, b5⟩ (hc0 ▸ hs0 ▸ hM H.size) ⟨callB_of As.length b5 (gdU q1) rfl hc0 hs0 (b5 _ q2) (b5 _ hw) q5 (b9 ▸ hR), b5 _ q3⟩ ⟨gP_blind, gPre hC' hP hD hcut hnd⟩ rfl rfl hl.1 rfl (lv_room hrs) hdg ⟨b9 ▸ hk0, b9 ▸ hn0⟩) hS (fun q _ h => hFc q h) hFc (fun r w t H1 locs1 ht hvm hw9 hB hz1 hk1 hS1 => ?_)
  obtain ⟨g1, g2⟩ := k9 r w hw9
  exact g_back hP hD hcut hnd g1 hFc t ht hB hk1 hS1 hl g2
/-- a private static method of a nest mate, no answer -/
theorem g_cSNv (pc : Nat) (isC : List Nat) {idx mL : Nat} {host : String} {y : MethodName} {cb : ByteArray} {rm' : Room} {As : List Value} {wc : va_W} {post : va_W → Prop} (hC : Cx l D ty E rm cc own) (hM : MV l D ty y cb mL rm' As wc post) (hk : KS y cb mL none As.length) (hw : Cond.methodLinkNest own idx y host ∈ nwL) (hdg : decode cc pc = .ok (.invokestatic idx, 3))
    (hR : rm'.frames + 1 ≤ rm.frames ∧ 8 + (mL + 11) + rm'.locals ≤ rm.locals) (hc0 : rm'.cells = 0) (hs0 : rm'.slots = 0) (hk0 : k ≤ rm.cells) (hn0 : n ≤ rm.slots) (hcut : isC.map (fun i => ws[i]?) = wc.map some) (hnd : va_nd isC = true) (hst : st = As.reverse ++ rest) (hrs : (rest.map fun v => v.category).sum ≤ 8)
    (k9 : ∀ w, post w → isC.length ≤ w.length ∧ G l D E k n (updW ws isC w) lv (pc + 3) rest) : G l D E k n ws lv pc st := by
  intro H locs ls hP hD hS hl
  subst hst
  have hC' := hC
  obtain ⟨b1, b2, b3, b4, b5, b6, b7, b8, b9⟩ := hC
  obtain ⟨q1, q2, q3, q5⟩ := hk
  have hFc := va_free (wc := wc) hD hS b8 isC hcut
  refine va_callv (A1 := va_A wc H.size) (mc := 0) (ms := 0) (va_runSN (As := As) (rest := rest) ⟨b1, b2, b3, b4, b5⟩ (hc0 ▸ hs0 ▸ hM H.size) ⟨va_cnB As.length b5 (gdU q1) rfl hc0 hs0 (b6 _ hw) (b5 _ q2) q5 (b9 ▸ hR), b5 _ q3, trivial⟩ ⟨gP_blind, gPre hC' hP hD hcut hnd⟩ rfl rfl hl.1 rfl (lv_room hrs) hdg ⟨b9 ▸ hk0, b9 ▸ hn0⟩) hS (fun q _ h => hFc q h) hFc (fun w t H1 locs1 ht hvm hw9 hB hz1 hk1 hS1 => ?_)
  obtain ⟨g1, g2⟩ := k9 w hw9
  exact g_back hP hD hcut hnd g1 hFc t ht hB hk1 hS1 hl g2
end GCALL
theorem vpLt {i : Int32} {N : Nat} (h : vp_in i N) : i.toNatClampNeg < N := Nat.not_le.mp fun q => h (Or.inr q)
theorem row9 {P : Nat → Prop} {k : Nat} (hk : k < 9) (h0 : P 0) (h1 : P 1) (h2 : P 2) (h3 : P 3) (h4 : P 4) (h5 : P 5) (h6 : P 6) (h7 : P 7) (h8 : P 8) : P k := by
  rcases (show k = 0 ∨ k = 1 ∨ k = 2 ∨ k = 3 ∨ k = 4 ∨ k = 5 ∨ k = 6 ∨ k = 7 ∨ k = 8 by omega) with rfl | rfl | rfl | rfl | rfl | rfl | rfl | rfl | rfl <;> assumption
section GMORE
variable {l : Launch} {D : va_G} {ty : List (ClassId × FieldType)} {E : CE} {rm : Room} {cc : ByteArray} {own : String} {k n : Nat} {ws : va_W} {lv : List (Nat × Value)} {rest st : List Value}
theorem g_tswIn (pc tgt : Nat) {dflt lo hi : Int} {offs : Array Int} {len : Nat} {x v : Int32} {off : Int} (hC : Cx l D ty E rm cc own) (hdg : decode cc pc = .ok (.tableswitch dflt lo hi offs, len)) (hx : x = v) (h1 : ¬ v.toInt < lo) (h2 : ¬ hi < v.toInt) (ho : offs[(v.toInt - lo).toNat]? = some off) (ht : (pc : Int) + off = (tgt : Int)) (k9 : G l D E k n ws lv tgt rest) : G l D E k n ws lv pc (.int x :: rest) := by
  subst hx
  exact fun H locs ls hP hD hS hl => lv_tableIn hC.1 hC.2.1 hdg h1 h2 ho ht (k9 H locs ls hP hD hS hl)
theorem g_tswOut (pc tgt : Nat) {dflt lo hi : Int} {offs : Array Int} {len : Nat} {x : Int32} (hC : Cx l D ty E rm cc own) (hdg : decode cc pc = .ok (.tableswitch dflt lo hi offs, len)) (h : x.toInt < lo ∨ hi < x.toInt) (ht : (pc : Int) + dflt = (tgt : Int)) (k9 : G l D E k n ws lv tgt rest) : G l D E k n ws lv pc (.int x :: rest) :=
  fun H locs ls hP hD hS hl => lv_tableOut hC.1 hC.2.1 hdg h ht (k9 H locs ls hP hD hS hl)
theorem g_i2f (pc : Nat) {x : Int32} (hC : Cx l D ty E rm cc own) (hdg : decode cc pc = .ok (.i2f, 1)) (k9 : G l D E k n ws lv (pc + 1) (.float (FP.i2f x) :: rest)) : G l D E k n ws lv pc (.int x :: rest) :=
  fun H locs ls hP hD hS hl => lv_i2f hC.1 hC.2.1 hdg (k9 H locs ls hP hD hS hl)
theorem g_f2i (pc : Nat) {x : UInt32} (hC : Cx l D ty E rm cc own) (hdg : decode cc pc = .ok (.f2i, 1)) (k9 : G l D E k n ws lv (pc + 1) (.int (FP.f2i x) :: rest)) : G l D E k n ws lv pc (.float x :: rest) :=
  fun H locs ls hP hD hS hl => lv_f2i hC.1 hC.2.1 hdg (k9 H locs ls hP hD hS hl)
theorem g_fdiv (pc : Nat) {x y : UInt32} (hC : Cx l D ty E rm cc own) (hdg : decode cc pc = .ok (.fdiv, 1)) (hne : vf_n32 (FP.fdiv x y)) (k9 : G l D E k n ws lv (pc + 1) (.float (FP.fdiv x y) :: rest)) : G l D E k n ws lv pc (.float y :: .float x :: rest) :=
  fun H locs ls hP hD hS hl => lv_fdiv hC.1 hC.2.1 hdg hne (k9 H locs ls hP hD hS hl)
theorem g_fsub (pc : Nat) {x y : UInt32} (hC : Cx l D ty E rm cc own) (hdg : decode cc pc = .ok (.fsub, 1)) (hne : vf_n32 (FP.fsub x y)) (k9 : G l D E k n ws lv (pc + 1) (.float (FP.fsub x y) :: rest)) : G l D E k n ws lv pc (.float y :: .float x :: rest) :=
  fun H locs ls hP hD hS hl => lv_fsub hC.1 hC.2.1 hdg hne (k9 H locs ls hP hD hS hl)
theorem g_fmul (pc : Nat) {x y : UInt32} (hC : Cx l D ty E rm cc own) (hdg : decode cc pc = .ok (.fmul, 1)) (hne : vf_n32 (FP.fmul x y)) (k9 : G l D E k n ws lv (pc + 1) (.float (FP.fmul x y) :: rest)) : G l D E k n ws lv pc (.float y :: .float x :: rest) :=
  fun H locs ls hP hD hS hl => lv_fmul hC.1 hC.2.1 hdg hne (k9 H locs ls hP hD hS hl)
theorem g_fcmp (pc : Nat) {x y : UInt32} {op : CmpOp} (hC : Cx l D ty E rm cc own) (hdg : decode cc pc = .ok (.fcmp op, 1)) (k9 : G l D E k n ws lv (pc + 1) (.int (Op.cmpValue (FP.fcmp x y) op) :: rest)) : G l D E k n ws lv pc (.float y :: .float x :: rest) :=
  fun H locs ls hP hD hS hl => lv_fcmp hC.1 hC.2.1 hdg (k9 H locs ls hP hD hS hl)
theorem g_fconst0 (pc : Nat) (hC : Cx l D ty E rm cc own) (hdg : decode cc pc = .ok (.fconst 0, 1)) (k9 : G l D E k n ws lv (pc + 1) (.float FP.fconst0 :: rest)) : G l D E k n ws lv pc rest :=
  fun H locs ls hP hD hS hl => lv_fconst0 hC.1 hC.2.1 hdg (k9 H locs ls hP hD hS hl)
theorem g_fconst1 (pc : Nat) (hC : Cx l D ty E rm cc own) (hdg : decode cc pc = .ok (.fconst 1, 1)) (k9 : G l D E k n ws lv (pc + 1) (.float FP.fconst1 :: rest)) : G l D E k n ws lv pc rest :=
  fun H locs ls hP hD hS hl => lv_fconst1 hC.1 hC.2.1 hdg (k9 H locs ls hP hD hS hl)
theorem g_fconst2 (pc : Nat) (hC : Cx l D ty E rm cc own) (hdg : decode cc pc = .ok (.fconst 2, 1)) (k9 : G l D E k n ws lv (pc + 1) (.float FP.fconst2 :: rest)) : G l D E k n ws lv pc rest :=
  fun H locs ls hP hD hS hl => lv_fconst2 hC.1 hC.2.1 hdg (k9 H locs ls hP hD hS hl)
theorem g_irem (pc : Nat) {x y : Int32} (hC : Cx l D ty E rm cc own) (hdg : decode cc pc = .ok (.irem, 1)) (hne : ¬ y = 0) (k9 : G l D E k n ws lv (pc + 1) (.int (x - x / y * y) :: rest)) : G l D E k n ws lv pc (.int y :: .int x :: rest) :=
  fun H locs ls hP hD hS hl => lv_irem hC.1 hC.2.1 hdg hne (k9 H locs ls hP hD hS hl)
theorem g_ishr (pc : Nat) {x y : Int32} (hC : Cx l D ty E rm cc own) (hdg : decode cc pc = .ok (.ishr, 1)) (k9 : G l D E k n ws lv (pc + 1) (.int (x >>> (y &&& 31)) :: rest)) : G l D E k n ws lv pc (.int y :: .int x :: rest) :=
  fun H locs ls hP hD hS hl => lv_ishr hC.1 hC.2.1 hdg (k9 H locs ls hP hD hS hl)
end GMORE
