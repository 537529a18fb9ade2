def lw_b24 : List (Nat × Lean.RArray Nat) := [(31, lw_t31_2)]
theorem lw_e24 : ev_fin (lw_test lw_b24) = true := by decide +kernel
