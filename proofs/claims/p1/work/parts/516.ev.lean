def lw_b16 : List (Nat × Lean.RArray Nat) := [(26, lw_t26_9)]
theorem lw_e16 : ev_fin (lw_test lw_b16) = true := by decide +kernel
