def lw_b4 : List (Nat × Lean.RArray Nat) := [(36, lw_t36_0), (37, lw_t37_0)]
theorem lw_e4 : ev_fin (lw_test lw_b4) = true := by decide +kernel
