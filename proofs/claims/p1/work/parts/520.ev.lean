def lw_b20 : List (Nat × Lean.RArray Nat) := [(26, lw_t26_4)]
theorem lw_e20 : ev_fin (lw_test lw_b20) = true := by decide +kernel
