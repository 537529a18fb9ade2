def lw_b12 : List (Nat × Lean.RArray Nat) := [(26, lw_t26_5)]
theorem lw_e12 : ev_fin (lw_test lw_b12) = true := by decide +kernel
