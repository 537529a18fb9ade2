def lw_b18 : List (Nat × Lean.RArray Nat) := [(26, lw_t26_11)]
theorem lw_e18 : ev_fin (lw_test lw_b18) = true := by decide +kernel
