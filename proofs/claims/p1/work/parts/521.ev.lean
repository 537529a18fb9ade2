def lw_b21 : List (Nat × Lean.RArray Nat) := [(31, lw_t31_3)]
theorem lw_e21 : ev_fin (lw_test lw_b21) = true := by decide +kernel
