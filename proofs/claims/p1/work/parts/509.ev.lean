def lw_b9 : List (Nat × Lean.RArray Nat) := [(25, lw_t25_1)]
theorem lw_e9 : ev_fin (lw_test lw_b9) = true := by decide +kernel
