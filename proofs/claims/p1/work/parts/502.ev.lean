def lw_b2 : List (Nat × Lean.RArray Nat) := [(35, lw_t35_0)]
theorem lw_e2 : ev_fin (lw_test lw_b2) = true := by decide +kernel
