def lw_b8 : List (Nat × Lean.RArray Nat) := [(25, lw_t25_0)]
theorem lw_e8 : ev_fin (lw_test lw_b8) = true := by decide +kernel
