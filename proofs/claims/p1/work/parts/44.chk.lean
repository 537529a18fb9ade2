/-! THE EVALUATION: a tree of boxes for each operation; a leaf holds the codes of the script's six ints -/
noncomputable def ev_okk (o y : ev_O) : ev_O := Option.rec (motive := fun _ => ev_O) none (fun X => Sum.rec (motive := fun _ => ev_O) (fun q => Prod.rec (motive := fun _ => ev_O) (fun v h => ev_if (Nat.beq v 1) (ev_if (Nat.ble h.2.2.2.1 600002) (ev_if (Nat.ble h.2.2.2.2 7302232) y none) none) none) q) (fun _ => none) X) o
noncomputable def lw_tchk (f : Nat → ev_O) (t : Lean.RArray Nat) : ev_O → ev_O := Lean.RArray.rec (motive := fun _ => ev_O → ev_O) (fun cs y => ev_okk (f cs) y) (fun _ _ _ ihl ihr y => ihl (ihr y)) t
noncomputable def lw_chk (f : Nat → Nat → ev_O) (z : ev_O) (bs : List (Nat × Lean.RArray Nat)) : ev_O := List.rec (motive := fun _ => ev_O) z (fun q _ ih => lw_tchk (f q.1) q.2 ih) bs
/-- the end of a test: an answer, within the room -/
noncomputable def ev_fin (o : ev_O) : Bool := Option.rec (motive := fun _ => Bool) false (fun X => Sum.rec (motive := fun _ => Bool) (fun q => Prod.rec (motive := fun _ => Bool) (fun _ h => ev_if (Nat.ble h.2.2.2.1 600002) (Nat.ble h.2.2.2.2 7302232) false) q) (fun _ => false) X) o
/-- the whole of an int, eight times -/
def lw_G : Nat := 13407807926820848549984871490950625460264621687587329935306297008442977448960781863686381587396241115434734742314166555940848600484775015044616064818216960
/-- some slots more than are used (the number behind the six codes): so no two leaves' heaps look alike to the kernel -/
noncomputable def ev_tag (cs : Nat) (h : ev_H) (k : ev_H → ev_O) : ev_O := ev_f (Nat.add h.2.2.2.2 (Nat.shiftRight cs 480)) fun s => k (h.1, (h.2.1, (h.2.2.1, (h.2.2.2.1, s))))
noncomputable def lw_test (bs : List (Nat × Lean.RArray Nat)) : ev_O := lw_pre (fun l1 l2 l3 h => lw_chk (fun op cs => ev_tag cs h fun h => lw_all cs op l1 l2 l3 h) (some (.inl (l1, h))) bs) (.leaf none, (lw_G, (0, (0, 0))))
theorem lw_G_ok : ∀ j, j < 8 → ev_lo lw_G j = 0 ∧ ev_hi lw_G j = 4294967295 := by decide +kernel
theorem lw_GS (ρ : Nat → Int32) : ev_GS ρ lw_G := fun j hj => by
  have h := lw_G_ok j hj
  have h2 := ev_bi_lt (ρ j)
  omega
theorem ev_okk_some {o y : ev_O} {X : ev_X} (h : ev_okk o y = some X) : y = some X ∧ ∃ g, o = some (.inl (1, g)) ∧ ev_c g ≤ 600002 ∧ ev_z g ≤ 7302232 := by
  rcases o with _ | ⟨v, g⟩ | q
  · exact nomatch h
  · have h' : ev_if (Nat.beq v 1) (ev_if (Nat.ble g.2.2.2.1 600002) (ev_if (Nat.ble g.2.2.2.2 7302232) y none) none) none = some X := h
    obtain ⟨h1, q1⟩ := ev_ifn h'
    obtain ⟨h2, q2⟩ := ev_ifn q1
    obtain ⟨h3, q3⟩ := ev_ifn q2
    have e := Nat.eq_of_beq_eq_true h1
    subst e
    exact ⟨q3, g, rfl, Nat.le_of_ble_eq_true h2, Nat.le_of_ble_eq_true h3⟩
  · exact nomatch h
theorem lw_tchk_rest {f : Nat → ev_O} {X : ev_X} : ∀ (t : Lean.RArray Nat) (y : ev_O), lw_tchk f t y = some X → y = some X := by
  intro t
  induction t with
  | leaf cs => intro y h; exact (ev_okk_some h).1
  | branch p l r ihl ihr => intro y h; exact ihr _ (ihl _ h)
theorem lw_chk_mem {f : Nat → Nat → ev_O} {z : ev_O} {X : ev_X} {op : Nat} {t : Lean.RArray Nat} : ∀ (bs : List (Nat × Lean.RArray Nat)), (op, t) ∈ bs → lw_chk f z bs = some X → ∃ y, lw_tchk (f op) t y = some X := by
  intro bs
  induction bs with
  | nil => intro hm; exact nomatch hm
  | cons q bs ih =>
    intro hm h
    rcases List.mem_cons.mp hm with hm | hm
    · subst hm
      exact ⟨_, h⟩
    · exact ih hm (lw_tchk_rest _ _ h)
theorem lw_chk_end {f : Nat → Nat → ev_O} {z : ev_O} {X : ev_X} : ∀ (bs : List (Nat × Lean.RArray Nat)), lw_chk f z bs = some X → z = some X := by
  intro bs
  induction bs with
  | nil => intro h; exact h
  | cons q bs ih => intro h; exact ih (lw_tchk_rest _ _ h)
theorem ev_fin_some {o : ev_O} (h : ev_fin o = true) : ∃ v g, o = some (.inl (v, g)) ∧ ev_c g ≤ 600002 ∧ ev_z g ≤ 7302232 := by
  rcases o with _ | ⟨v, g⟩ | q
  · exact nomatch h
  · have h' : ev_if (Nat.ble g.2.2.2.1 600002) (Nat.ble g.2.2.2.2 7302232) false = true := h
    rw [ev_if_eq] at h'
    by_cases hb : Nat.ble g.2.2.2.1 600002 = true
    · rw [if_pos hb] at h'
      exact ⟨v, g, rfl, Nat.le_of_ble_eq_true hb, Nat.le_of_ble_eq_true h'⟩
    · rw [if_neg hb] at h'
      exact nomatch h'
  · exact nomatch h
/-! THE COVERAGE: each script lies in a leaf's box -/
noncomputable def cv_upd (f : Nat → Nat) (j v i : Nat) : Nat := ev_if (Nat.beq i j) v (f i)
noncomputable def cv_ok (c lo hi : Nat) : Bool := ev_if (Nat.ble c 4294967295) (ev_if (Nat.beq lo hi) (Nat.beq (ev_s c) lo) false) (ev_if (Nat.ble 1099511627776 c) (ev_if (Nat.ble c 18446745173221179391) (ev_if (Nat.ble (Nat.div (Nat.sub c 1099511627776) 4294967296) lo) (Nat.ble hi (Nat.mod (Nat.sub c 1099511627776) 4294967296)) false) false) false)
noncomputable def cv_all (cs : Nat) (lo hi : Nat → Nat) : Bool := Nat.rec (motive := fun _ => Bool) true (fun j ih => ev_if (cv_ok (ev_sl cs (Nat.mul 80 j)) (lo j) (hi j)) ih false) 6
noncomputable def cv_chk (t : Lean.RArray Nat) : (Nat → Nat) → (Nat → Nat) → Bool := Lean.RArray.rec (motive := fun _ => (Nat → Nat) → (Nat → Nat) → Bool) (fun cs lo hi => cv_all cs lo hi)
  (fun p _ _ ihl ihr lo hi => ev_if (ihl lo (cv_upd hi (Nat.div p 4294967296) (Nat.sub (Nat.mod p 4294967296) 1))) (ihr (cv_upd lo (Nat.div p 4294967296) (Nat.mod p 4294967296)) hi) false) t
theorem cv_ift {b : Bool} {x : Bool} (h : ev_if b x false = true) : b = true ∧ x = true := by
  cases b
  · exact nomatch h
  · exact ⟨rfl, h⟩
theorem cv_ok_spec {ρ : Nat → Int32} {c lo hi : Nat} {x : Int32} (h : cv_ok c lo hi = true) (h1 : lo ≤ ev_bi x) (h2 : ev_bi x ≤ hi) : ev_VI ρ c x := by
  unfold cv_ok at h
  rw [ev_if_eq] at h
  by_cases hc : Nat.ble c 4294967295 = true
  · rw [if_pos hc] at h
    obtain ⟨a1, a2⟩ := cv_ift h
    have a1 := Nat.eq_of_beq_eq_true a1
    have a2 := Nat.eq_of_beq_eq_true a2
    have a3 := Nat.le_of_ble_eq_true hc
    have e1 := ev_bi_eq x
    have e2 := ev_n_lt x
    have e3 := ev_s_eq c
    exact Or.inl (by omega)
  · rw [if_neg hc] at h
    obtain ⟨a1, h⟩ := cv_ift h
    obtain ⟨a2, h⟩ := cv_ift h
    obtain ⟨a3, a4⟩ := cv_ift h
    have a1 := Nat.le_of_ble_eq_true a1
    have a2 := Nat.le_of_ble_eq_true a2
    have a3 : (c - 1099511627776) / 4294967296 ≤ lo := Nat.le_of_ble_eq_true a3
    have a4 : hi ≤ (c - 1099511627776) % 4294967296 := Nat.le_of_ble_eq_true a4
    exact Or.inr (Or.inr ⟨(c - 1099511627776) / 4294967296, (c - 1099511627776) % 4294967296, by omega, by omega, by omega, by omega, by omega⟩)
theorem cv_all_spec {ρ : Nat → Int32} {cs : Nat} {lo hi : Nat → Nat} (h : cv_all cs lo hi = true) (hb : ∀ j, j < 6 → lo j ≤ ev_bi (ρ j) ∧ ev_bi (ρ j) ≤ hi j) : ∀ j, j < 6 → ev_VI ρ (ev_sl cs (Nat.mul 80 j)) (ρ j) := by
  have key : ∀ n, Nat.rec (motive := fun _ => Bool) true (fun j ih => ev_if (cv_ok (ev_sl cs (Nat.mul 80 j)) (lo j) (hi j)) ih false) n = true → ∀ j, j < n → cv_ok (ev_sl cs (Nat.mul 80 j)) (lo j) (hi j) = true := by
    intro n
    induction n with
    | zero => intro _ j hj; exact absurd hj (Nat.not_lt_zero j)
    | succ n ih =>
      intro hn j hj
      obtain ⟨a, b⟩ := cv_ift hn
      by_cases hjn : j = n
      · subst hjn; exact a
      · exact ih b j (by omega)
  intro j hj
  exact cv_ok_spec (key 6 h j hj) (hb j hj).1 (hb j hj).2
theorem cv_spec {f : Nat → ev_O} {ρ : Nat → Int32} {X : ev_X} : ∀ (t : Lean.RArray Nat) (lo hi : Nat → Nat) (y : ev_O), cv_chk t lo hi = true → (∀ j, j < 6 → lo j ≤ ev_bi (ρ j) ∧ ev_bi (ρ j) ≤ hi j) → lw_tchk f t y = some X →
    ∃ cs g, (∀ j, j < 6 → ev_VI ρ (ev_sl cs (Nat.mul 80 j)) (ρ j)) ∧ f cs = some (.inl (1, g)) ∧ ev_c g ≤ 600002 ∧ ev_z g ≤ 7302232 := by
  intro t
  induction t with
  | leaf cs =>
    intro lo hi y hc hb h
    obtain ⟨-, g, h1, h2, h3⟩ := ev_okk_some h
    exact ⟨cs, g, cv_all_spec hc hb, h1, h2, h3⟩
  | branch p l r ihl ihr =>
    intro lo hi y hc hb h
    obtain ⟨c1, c2⟩ := cv_ift hc
    by_cases hp : ev_bi (ρ (Nat.div p 4294967296)) < Nat.mod p 4294967296
    · refine ihl lo _ _ c1 (fun j hj => ⟨(hb j hj).1, ?_⟩) h
      unfold cv_upd
      rw [ev_if_eq]
      by_cases hj2 : Nat.beq j (Nat.div p 4294967296) = true
      · rw [if_pos hj2, Nat.eq_of_beq_eq_true hj2]
        show _ ≤ Nat.mod p 4294967296 - 1
        omega
      · rw [if_neg hj2]; exact (hb j hj).2
    · refine ihr _ hi _ c2 (fun j hj => ⟨?_, (hb j hj).2⟩) (lw_tchk_rest _ _ h)
      unfold cv_upd
      rw [ev_if_eq]
      by_cases hj2 : Nat.beq j (Nat.div p 4294967296) = true
      · rw [if_pos hj2, Nat.eq_of_beq_eq_true hj2]
        omega
      · rw [if_neg hj2]; exact (hb j hj).1
