/-! All orders: how many, the first -/
theorem lvs_len : ∀ n, n < 8 → (lvs n n []).length ≤ 5040 ∧ (lvs n n []).head? = some (tlN n (fun i => i)) := by decide +kernel
