def lw_b15 : List (Nat × Lean.RArray Nat) := [(26, lw_t26_8)]
theorem lw_e15 : ev_fin (lw_test lw_b15) = true := by decide +kernel
