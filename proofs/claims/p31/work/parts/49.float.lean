/-! ===== similarityBits: the floats, one by one ===== -/
def fo (n : Nat) (f : Nat → Bool) : Bool :=
  match n with
  | 0 => f 0
  | k + 1 => f (k + 1)
theorem fo_eq (n : Nat) (f : Nat → Bool) : fo n f = f n := by cases n <;> rfl
def n32b (r : UInt32) : Bool := decide (r &&& 0x7fffffff ≤ 0x7f800000)
theorem n32_of {r : UInt32} (h : n32b r = true) : vf_n32 r := by
  unfold n32b at h
  unfold vf_n32
  exact of_decide_eq_true h
def fin1 (e : Nat) (f t : UInt32) : Bool := fo (FP.fsub f FP.fconst1).toNat (fun g => n32b (UInt32.ofNat g) && fo (FP.fmul (UInt32.ofNat g) (1258291200 : UInt32)).toNat (fun m => n32b (UInt32.ofNat m) && decide ((nI e <<< ((23 : Int32) &&& 31)) + FP.f2i (UInt32.ofNat m) = UInt32.toInt32 t)))
def chkL : Nat → Nat → Nat → UInt32 → Bool
  | 0, _, _, _ => false
  | n + 1, e, f, t => if e ≤ 1 then fin1 e (UInt32.ofNat f) t else if 0 ≤ (Op.cmpValue (FP.fcmp (UInt32.ofNat f) FP.fconst1) .g) then fin1 e (UInt32.ofNat f) t else fo (FP.fmul (UInt32.ofNat f) FP.fconst2).toNat (fun g => n32b (UInt32.ofNat g) && chkL n (e - 1) g t)
def chkS (s : Nat) : Bool := decide (Op.cmpValue (FP.fcmp (UInt32.ofNat s) (UInt32.ofNat s)) .l = 0) && (if 0 < (Op.cmpValue (FP.fcmp (UInt32.ofNat s) FP.fconst0) .l) then chkL 130 127 s (UInt32.ofNat s) else decide (UInt32.toInt32 (UInt32.ofNat s) = 0))
def chk (d w : Nat) : Bool := fo (FP.fdiv (FP.i2f (nI d)) (FP.i2f (nI w))).toNat (fun q => n32b (UInt32.ofNat q) && fo (FP.fsub FP.fconst1 (UInt32.ofNat q)).toNat (fun s => n32b (UInt32.ofNat s) && chkS s))
set_option maxRecDepth 100000 in
theorem chk_a : ((List.range 40).all (fun w => (List.range (w + 2)).all (fun d => chk d (w + 1)))) = true := by decide +kernel
