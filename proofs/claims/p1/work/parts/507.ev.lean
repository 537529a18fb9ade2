def lw_b7 : List (Nat × Lean.RArray Nat) := [(24, lw_t24_1)]
theorem lw_e7 : ev_fin (lw_test lw_b7) = true := by decide +kernel
