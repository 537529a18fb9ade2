def lw_b19 : List (Nat × Lean.RArray Nat) := [(26, lw_t26_2)]
theorem lw_e19 : ev_fin (lw_test lw_b19) = true := by decide +kernel
