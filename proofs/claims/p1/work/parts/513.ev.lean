def lw_b13 : List (Nat × Lean.RArray Nat) := [(26, lw_t26_6)]
theorem lw_e13 : ev_fin (lw_test lw_b13) = true := by decide +kernel
