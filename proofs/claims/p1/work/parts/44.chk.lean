/-! THE EVALUATION -/
noncomputable def ev_okk (o y : ev_O) : ev_O := Option.rec (motive := fun _ => ev_O) none (fun X => Sum.rec (motive := fun _ => ev_O) (fun q => Prod.rec (motive := fun _ => ev_O) (fun v h => ev_if (Nat.beq v 1) (ev_if (Nat.ble h.2.2.2.1 600002) (ev_if (Nat.ble h.2.2.2.2 7302232) y none) none) none) q) (fun _ => none) X) o
noncomputable def lw_chk (f : Nat → Nat → ev_O) (z : ev_O) (bs : List (Nat × Nat)) : ev_O := List.rec (motive := fun _ => ev_O) z (fun q _ ih => ev_okk (f q.1 q.2) ih) bs
noncomputable def ev_some (o : ev_O) : Bool := Option.rec (motive := fun _ => Bool) false (fun _ => true) o
noncomputable def lw_test (bs : List (Nat × Nat)) : ev_O := lw_pre (fun l1 l2 l3 h => lw_chk (fun op G => lw_all op l1 l2 l3 (h.1, (G, h.2.2))) (some (.inl (l1, h))) bs) (.leaf none, (0, (0, (0, 0))))
