def lw_b1 : List (Nat × Lean.RArray Nat) := [(34, lw_t34_0)]
theorem lw_e1 : ev_fin (lw_test lw_b1) = true := by decide +kernel
