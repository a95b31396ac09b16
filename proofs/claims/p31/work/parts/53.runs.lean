/-! ===== fillings: one list for both ways of finding them ===== -/
def sset (σ : Nat → Nat) (i w : Nat) : Nat → Nat := fun j => if j = i then w + 1 else σ j
