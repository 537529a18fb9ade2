noncomputable def ev_h0 : ev_H := (.branch 1 (.leaf (some (.inl (5, [ev_o 0, ev_o 0, ev_o 0, ev_o 0, ev_o 0, ev_o 0, ev_o 0, ev_i 0, ev_i 0])))) (.leaf none), (true, (1, 9)))
noncomputable def ev_cnt (o : ev_O) : Nat := match o with
  | some (.inl (_, (_, (_, (c, _))))) => c
  | some (.inr (.inl _)) => 1000000
  | _ => 2000000
theorem ev_test : ev_cnt (ev_run ev_prog 1000000 112 [ev_r 0] ev_h0) = 394 := by decide +kernel
