def lw_b14 : List (Nat × Lean.RArray Nat) := [(26, lw_t26_7)]
theorem lw_e14 : ev_fin (lw_test lw_b14) = true := by decide +kernel
