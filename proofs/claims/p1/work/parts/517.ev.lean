def lw_b17 : List (Nat × Lean.RArray Nat) := [(26, lw_t26_10)]
theorem lw_e17 : ev_fin (lw_test lw_b17) = true := by decide +kernel
