def lw_b3 : List (Nat × Lean.RArray Nat) := [(35, lw_t35_1)]
theorem lw_e3 : ev_fin (lw_test lw_b3) = true := by decide +kernel
