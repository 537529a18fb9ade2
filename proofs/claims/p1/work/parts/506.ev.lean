def lw_b6 : List (Nat × Lean.RArray Nat) := [(24, lw_t24_0)]
theorem lw_e6 : ev_fin (lw_test lw_b6) = true := by decide +kernel
