def lw_b11 : List (Nat × Lean.RArray Nat) := [(26, lw_t26_0)]
theorem lw_e11 : ev_fin (lw_test lw_b11) = true := by decide +kernel
