def lw_b5 : List (Nat × Lean.RArray Nat) := [(38, lw_t38_0), (40, lw_t40_0)]
theorem lw_e5 : ev_fin (lw_test lw_b5) = true := by decide +kernel
