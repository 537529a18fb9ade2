def lw_b23 : List (Nat × Lean.RArray Nat) := [(31, lw_t31_1)]
theorem lw_e23 : ev_fin (lw_test lw_b23) = true := by decide +kernel
