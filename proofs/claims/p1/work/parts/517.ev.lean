def lw_b17 : List (Nat × Lean.RArray Nat) := [(31, lw_t31_2)]
theorem lw_e17 : ev_fin (lw_test lw_b17) = true := by decide +kernel
