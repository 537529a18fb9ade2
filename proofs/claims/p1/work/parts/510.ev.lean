def lw_b10 : List (Nat × Lean.RArray Nat) := [(23, lw_t23_0), (26, lw_t26_3)]
theorem lw_e10 : ev_fin (lw_test lw_b10) = true := by decide +kernel
