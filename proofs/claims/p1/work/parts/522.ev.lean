def lw_b22 : List (Nat × Lean.RArray Nat) := [(31, lw_t31_4)]
theorem lw_e22 : ev_fin (lw_test lw_b22) = true := by decide +kernel
