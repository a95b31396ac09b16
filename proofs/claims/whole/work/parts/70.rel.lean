/-! ===== the relation between the class and the reference, written by wip/whole/gen/asm.py ===== -/
def RB (A : AS) (B : Sy) (h : Nat → AS) (k x : Nat) (bln : Int32) (btk : Nat → Int32) (nli : Int32) (nsct : Int32) (nstk : Nat → Int32) (nsle : Nat → Int32) (nye : Nat → Int32) (nre : Nat → Int32) (npct : Int32) (nptk : Nat → Int32) (nple : Nat → Int32) (nco : Nat → Int32) (hnx : Int32) (hcn : Int32) (hrli : Nat → Int32) (hrsct : Nat → Int32) (hrstk : Nat → Nat → Int32) (hrsle : Nat → Nat → Int32) (hrye : Nat → Nat → Int32) (hrre : Nat → Nat → Int32) (hrpct : Nat → Int32) (hrptk : Nat → Nat → Int32) (hrple : Nat → Nat → Int32) (hrco : Nat → Nat → Int32) (mnow : Nat → Int32) (mbefore : Nat → Int32) (mundoMany : Int32) (mtokens : Int32) (mbuffer : Nat → Int32) : Prop :=
  VA A ∧ RC A nli nsct nstk nsle nye nre npct nptk nple nco ∧ RM A 0 mnow ∧ RQ B bln btk ∧ RQ B mtokens mbuffer ∧ (B.1 ≤ 8 ∧ ∀ j, j < B.1 → B.2 j ≤ 64) ∧ (∀ j, j < k → VA (h j)) ∧ HC k x h hnx hcn hrli hrsct hrstk hrsle hrye hrre hrpct hrptk hrple hrco ∧ HM k h mbefore mundoMany
def RR (bln : Int32) (btk : Nat → Int32) (nli : Int32) (nsct : Int32) (nstk : Nat → Int32) (nsle : Nat → Int32) (nye : Nat → Int32) (nre : Nat → Int32) (npct : Int32) (nptk : Nat → Int32) (nple : Nat → Int32) (nco : Nat → Int32) (hnx : Int32) (hcn : Int32) (hrli : Nat → Int32) (hrsct : Nat → Int32) (hrstk : Nat → Nat → Int32) (hrsle : Nat → Nat → Int32) (hrye : Nat → Nat → Int32) (hrre : Nat → Nat → Int32) (hrpct : Nat → Int32) (hrptk : Nat → Nat → Int32) (hrple : Nat → Nat → Int32) (hrco : Nat → Nat → Int32) (eld : Int32) (efln : Int32) (eftk : Nat → Int32) (egln : Int32) (egtk : Nat → Int32) (etb : Nat → Nat → Int32) (els : Nat → Int32) (mfo : Int32) (mpln : Int32) (mptk : Nat → Int32) (msln : Int32) (mstk : Nat → Int32) (msw : Nat → Int32) (mfw : Nat → Int32) (ggc : Int32) (gor : Nat → Int32) (gme : Nat → Int32) (gce : Nat → Int32) (cfln : Int32) (cftk : Nat → Int32) (cbln : Int32) (cbtk : Nat → Int32) (cor : Nat → Int32) (cap : Nat → Int32) (ao : Nat → Int32) (mnow : Nat → Int32) (mbefore : Nat → Int32) (mundoMany : Int32) (mtokens : Int32) (mbuffer : Nat → Int32) (mone : Nat → Int32) (mother : Nat → Int32) (moneLong : Int32) (motherLong : Int32) (mfar : Nat → Int32) (medits : Int32) (medit : Nat → Int32) (mgap : Nat → Int32) (mslot : Nat → Int32) (mfirstSlot : Nat → Int32) (mgroups : Int32) (mgroup : Nat → Int32) (mcentre : Nat → Int32) : Prop := ∃ (A : AS) (B : Sy) (h : Nat → AS) (k x : Nat), RB A B h k x bln btk nli nsct nstk nsle nye nre npct nptk nple nco hnx hcn hrli hrsct hrstk hrsle hrye hrre hrpct hrptk hrple hrco mnow mbefore mundoMany mtokens mbuffer
theorem VA_push {A : AS} {h : Nat → AS} {k : Nat} (hV : VA A) (hv : ∀ j, j < k → VA (h j)) : ∀ j, j < min (k + 1) 5 → VA (hsh A h j) := by
  intro j hj
  cases j with
  | zero => exact hV
  | succ j =>
    rw [hsh_s]
    exact hv j (by omega)
theorem RQ_nil (f : Nat → Int32) : RQ (0, fun _ => 0) 0 f := ⟨rfl, fun j hj => absurd hj (Nat.not_lt_zero j)⟩
theorem vApp_ok {B : Sy} (y : Int32) (b : B.1 ≤ 8 ∧ ∀ j, j < B.1 → B.2 j ≤ 64) : (vApp B y).2.1 ≤ 8 ∧ ∀ j, j < (vApp B y).2.1 → (vApp B y).2.2 j ≤ 64 := by
  unfold vApp
  by_cases c : isRow 65 y
  · rw [if_pos c]
    by_cases d : B.1 < 8
    · rw [if_pos d]
      obtain ⟨n, hn, rfl⟩ := c
      rw [nI_clamp (by omega)]
      refine ⟨?_, fun j hj => ?_⟩
      · show B.1 + 1 ≤ 8
        omega
      · have hj' : j < B.1 + 1 := hj
        show (if j = B.1 then n else B.2 j) ≤ 64
        by_cases e : j = B.1
        · rw [if_pos e]
          omega
        · rw [if_neg e]
          exact b.2 j (by omega)
    · rw [if_neg d]
      exact b
  · rw [if_neg c]
    exact b
