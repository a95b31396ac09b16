/-! ===== the reference: tokensOf, isFilled, goesOn, fills ===== -/
/-- how many of the tokens are from lo to hi -/
noncomputable def tcn (q : Sy) (lo hi n : Nat) : Nat := cnt (fun k => lo ≤ q.2 k ∧ q.2 k ≤ hi) n
theorem tcn_s (q : Sy) (lo hi n : Nat) : tcn q lo hi (n + 1) = tcn q lo hi n + (if lo ≤ q.2 n ∧ q.2 n ≤ hi then 1 else 0) := cnt_succ (fun k => lo ≤ q.2 k ∧ q.2 k ≤ hi) n
theorem tcn_le (q : Sy) (lo hi n : Nat) : tcn q lo hi n ≤ n := cnt_le _ n
