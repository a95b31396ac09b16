/-! ===== numbers of ten bits ===== -/
def pcn : Nat → Nat → Nat
  | 0, _ => 0
  | n + 1, k => k % 2 + pcn n (k / 2)
set_option maxRecDepth 100000 in
theorem bc_all : ∀ k, k < 1024 → P_J6_bitCount_0f7a4 (nI k) (fun r => r = nI (pcn 10 k)) := by
  unfold P_J6_bitCount_0f7a4
  dsimp only
  decide +kernel
theorem bc_mono {x v : Int32} {post : Int32 → Prop} (h : P_J6_bitCount_0f7a4 x (fun r => r = v)) (hp : post v) : P_J6_bitCount_0f7a4 x post := by
  unfold P_J6_bitCount_0f7a4 at h ⊢
  exact Eq.mpr (congrArg post h) hp
theorem s_bitCount {k : Nat} {post : Int32 → Prop} (hk : k < 1024) (hp : post (nI (pcn 10 k))) : P_J6_bitCount_0f7a4 (nI k) post := bc_mono (bc_all k hk) hp
set_option maxRecDepth 100000 in
theorem kn_all : ∀ k, k < 1024 → 0 < k → (nI k &&& (nI k - (1 : Int32))) = nI (k &&& (k - 1)) ∧ (k &&& (k - 1)) < k ∧ pcn 10 (k &&& (k - 1)) + 1 = pcn 10 k := by decide +kernel
set_option maxRecDepth 100000 in
theorem or_all : ∀ k, k < 1024 → ∀ r, r < 10 → (nI k ||| ((1 : Int32) <<< (nI r &&& 31))) = nI (k ||| 2 ^ r) ∧ (k ||| 2 ^ r) < 1024 := by decide +kernel
