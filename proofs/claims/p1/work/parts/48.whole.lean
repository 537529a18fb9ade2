/-! THE LAW OUT OF THE TESTS -/
theorem lw_and63 (x : Int32) : ev_n (x &&& 63) < 64 := by
  unfold ev_n
  rw [Int32.toBitVec_and, BitVec.toNat_and]
  exact Nat.lt_of_le_of_lt Nat.and_le_right (by decide)
theorem lw_high {cs l1 l2 l3 : Nat} {h : ev_H} : ∀ n, 42 ≤ n → n < 64 → lw_all cs n l1 l2 l3 h = lw_all cs 42 l1 l2 l3 h := by
  intro n h1 h2
  obtain ⟨k, rfl⟩ : ∃ k, n = 42 + k := ⟨n - 42, by omega⟩
  have hk : k < 22 := by omega
  match k, hk with
  | 0, _ => rfl
  | 1, _ => rfl
  | 2, _ => rfl
  | 3, _ => rfl
  | 4, _ => rfl
  | 5, _ => rfl
  | 6, _ => rfl
  | 7, _ => rfl
  | 8, _ => rfl
  | 9, _ => rfl
  | 10, _ => rfl
  | 11, _ => rfl
  | 12, _ => rfl
  | 13, _ => rfl
  | 14, _ => rfl
  | 15, _ => rfl
  | 16, _ => rfl
  | 17, _ => rfl
  | 18, _ => rfl
  | 19, _ => rfl
  | 20, _ => rfl
  | 21, _ => rfl
  | k + 22, hk => exact absurd hk (by omega)
section EVG
variable {p : Program} {l : Launch} {e : Env} {R : Room} {s : State} {m : MethodId} {args : Array Value} {below : List Frame} {meth : Method} {c : Code} {ρ : Nat → Int32} {τ : Nat → Nat} {D : va_G} {tys : List (ClassId × FieldType)} {A : Nat → Prop} {nL : Nat} {cc : ByteArray} {own : String} {fr lo : Nat} {w0 : va_W} {ret : Option FieldType} {hh : List ExceptionTableEntry} {nm : String}
variable {Q : State → Prop} {X : ev_X} {pc : Nat} {lv lv' : List (Nat × (Nat × Nat))} {st st' : List (Nat × Nat)} {h : ev_H} {K L : ev_O} {n i a b v tgt rk : Nat} {off : Int} {k : Nat → ev_O} {kh : ev_H → ev_O} {kn : Nat → ev_H → ev_O}

theorem gl_law {bs : List (Nat × Lean.RArray Nat)} {t : Lean.RArray Nat} {op : Nat} (hm : (op, t) ∈ bs) {blo bhi : Nat → Nat} (hcv : cv_chk t blo bhi = true) (hbx : cv_in ρ blo bhi) (hop : ∀ cs l1 l2 l3 h, lw_all cs (ev_n (ρ 0 &&& 63)) l1 l2 l3 h = lw_all cs op l1 l2 l3 h) (htr : l.stackTraces = false) (hfr : 12 ≤ fr) (hlo : 480 ≤ lo)
    (hscr : va_T .int (τ 40) 6 (fun j => .int (ρ j)) A s s.heap) (hend : ∀ X h, ev_Gd p l e R s m args below meth c ρ τ D tys A 0 0 9 cL_law RL fr lo w0 ret hh nm Q X 2734 [] [] h (ev_ret 1 h)) (hR1 : R.cells = 600002) (hR2 : R.slots = 7302232) : ev_Gd p l e R s m args below meth c ρ τ D tys A 0 0 9 cL_law RL fr lo w0 ret hh nm Q X 0 [(0, (3, 40))] [] (.leaf none, (lw_G, (0, (0, 0)))) (lw_test bs) := by
  refine gl_pre htr hfr hlo (fun l1 l2 l3 h => ?_)
  intro q
  have hz := lw_chk_end bs q
  obtain ⟨y, hy⟩ := lw_chk_mem bs hm q
  obtain ⟨cs, g, hcs, hf, r1, r2⟩ := cv_spec (ρ := ρ) t _ _ y hcv hbx hy
  cases hz
  have hf : ev_f (Nat.add h.2.2.2.2 (Nat.shiftRight cs 480)) (fun s => lw_all cs op l1 l2 l3 (h.1, (h.2.1, (h.2.2.1, (h.2.2.2.1, s))))) = some (.inl (1, g)) := hf
  rw [ev_f_eq] at hf
  have G := gl_round (p := p) (l := l) (e := e) (R := R) (s := s) (m := m) (args := args) (below := below) (meth := meth) (c := c) (ρ := ρ) (τ := τ) (D := D) (tys := tys) (A := A) (c0 := 0) (s0 := 0) (fr := fr) (lo := lo) (w0 := w0) (ret := ret) (hh := hh) (nm := nm) (Q := Q) (X := .inl (1, g)) hcs htr hfr hlo hscr (hend _) l1 l2 l3 (h.1, (h.2.1, (h.2.2.1, (h.2.2.2.1, Nat.add h.2.2.2.2 (Nat.shiftRight cs 480)))))
  rw [hop] at G
  obtain ⟨G1, G2⟩ := G hf
  have l1' : ev_c h ≤ ev_c g := G1.1
  have l2' : h.2.2.2.2 + Nat.shiftRight cs 480 ≤ ev_z g := G1.2
  refine ⟨ev_le.rf _, fun F x1 x2 x3 x4 ws H locs ls stv hE hP hD hS hH hL hR => ?_⟩
  refine W.widen (Nat.le_refl _) ?_ (G2 F ?_ ?_ (Nat.zero_le _) (Nat.zero_le _) ws H locs ls stv hE hP hD hS hH hL hR)
  · show h.2.2.2.2 - 0 ≤ h.2.2.2.2 + Nat.shiftRight cs 480 - 0
    omega
  · show ev_c g ≤ 0 + R.cells
    omega
  · show ev_z g ≤ 0 + R.slots
    omega
theorem gl_law_short {bs : List (Nat × Lean.RArray Nat)} {N : Nat} (hN : N < 6) (htr : l.stackTraces = false) (hfr : 12 ≤ fr) (hlo : 480 ≤ lo) (hscr : va_T .int (τ 40) N (fun j => .int (ρ j)) A s s.heap) (hend : ∀ X h, ev_Gd p l e R s m args below meth c ρ τ D tys A 0 0 9 cL_law RL fr lo w0 ret hh nm Q X 2734 [] [] h (ev_ret 1 h)) : ev_Gd p l e R s m args below meth c ρ τ D tys A 0 0 9 cL_law RL fr lo w0 ret hh nm Q X 0 [(0, (3, 40))] [] (.leaf none, (lw_G, (0, (0, 0)))) (lw_test bs) := by
  refine gl_pre htr hfr hlo (fun l1 l2 l3 h => ?_)
  intro q
  have hz := lw_chk_end bs q
  cases hz
  have G := gl_short (p := p) (l := l) (e := e) (R := R) (s := s) (m := m) (args := args) (below := below) (meth := meth) (c := c) (ρ := ρ) (τ := τ) (D := D) (tys := tys) (A := A) (c0 := 0) (s0 := 0) (fr := fr) (lo := lo) (w0 := w0) (ret := ret) (hh := hh) (nm := nm) (Q := Q) (X := .inl (1, h)) (l1 := l1) (l2 := l2) (l3 := l3) (h := h) hN hscr (hend _ _)
  obtain ⟨G1, G2⟩ := G rfl
  exact ⟨ev_le.rf _, fun F x1 x2 x3 x4 => G2 F x1 x2 x3 x4⟩
end EVG
theorem gl_fin {p : Program} {l : Launch} {e : Env} {s : State} {m : MethodId} {below : List Frame} {meth : Method} {c : Code} {ρ : Nat → Int32} {τ : Nat → Nat} {D : va_G} {tys : List (ClassId × FieldType)} {b : Nat} {w0 : va_W} {hh : List ExceptionTableEntry} {nm : String} (X : ev_X) (h : ev_H) :
    ev_Gd p l e room_1 s m #[Value.ref b] below meth c ρ τ D tys (fun q => s.heap.size ≤ q) 0 0 9 cL_law RL 13 482 w0 ret hh nm (lw_Z below #[Value.ref b] s) X 2734 [] [] h (ev_ret 1 h) := by
  intro q
  cases q
  refine ⟨ev_le.rf _, fun F x1 x2 x3 x4 ws H locs ls stv hE hP hD hS hH hL hR => ?_⟩
  cases stv with
  | cons _ _ => exact hR.elim
  | nil =>
    refine lv_iconst (v := 1) F.1 F.2.1 dL_law_2734 (by decide) ?_
    refine va_forget (fun q hq => hS.2.2 q hq) ?_
    refine W.widen (k := 600002) (n := 7302232) ?_ ?_ ?_
    · have x1 : ev_c h ≤ 0 + 600002 := x1
      omega
    · have x2 : ev_z h ≤ 0 + 7302232 := x2
      omega
    · exact W.base (lw_ret (Drawn.sameBut.refl s.drawn lw_cs) F.1 F.2.1 F.2.2.2.2.2.2.2.2.2.2.2.1 F.2.2.2.2.2.1 dL_law_2735)
/-- a group of tests for each operation -/
theorem whole_of {p : Program} {e : Env} {s : State} {m : MethodId} {below : List Frame} {meth : Method} {c : Code} {xs : Nat → Int32} (pick : ∀ n, n < 64 → ∃ (bs : List (Nat × Lean.RArray Nat)) (t : Lean.RArray Nat) (op : Nat) (blo bhi : Nat → Nat), (op, t) ∈ bs ∧ cv_chk t blo bhi = true ∧ cv_in xs blo bhi ∧ (∀ cs l1 l2 l3 h, lw_all cs n l1 l2 l3 h = lw_all cs op l1 l2 l3 h) ∧ ev_fin (lw_test bs) = true)
    (l : Launch) (hflags : l.flags = flags0) {b L : Nat} (hL : L ≤ 6) (C0 : lw_At p s m meth c b L xs) : W p l e room_1 s m #[Value.ref b] below meth c s.heap [] 0 0 (lw_Z below #[Value.ref b] s) (entryFrame m ([Value.ref b] : List Value).toArray 9) := by
  obtain ⟨hx, hb, hr, hml, hown, hts, hX, hbl, hlocks, hgv⟩ := id C0
  have htr : l.stackTraces = false := by
    unfold Launch.stackTraces
    rw [hflags]
    decide +kernel
  obtain ⟨D, tys, τ, hK, ht⟩ := st_K (A := fun q => s.heap.size ≤ q) b hts hgv (fun a h => Nat.not_le.mpr h)
  have hbA : ¬ (fun q : Nat => s.heap.size ≤ q) b := Nat.not_le.mpr hbl
  have F : ev_F p l e room_1 s m #[Value.ref b] below meth c xs τ D tys (fun q => s.heap.size ≤ q) 0 0 9 cL_law RL 13 482 [] ret c.exceptionTable.toList meth.name :=
    ⟨hx, hb, hml, hown, fun w hw => hts w (ev_good_lw hw).1, hlocks, hK, fun _ h => h, rfl, rfl, htr, hr, rfl, rfl, rfl, rfl, rfl, rfl, rfl, rfl⟩
  have hP : va_P D ev_cl [] s.heap := fun k q h => by simp at h
  have hD : va_D (fun q : Nat => s.heap.size ≤ q) [] := ⟨fun i j p q h => by simp at h, fun k q h => by simp at h⟩
  have hH : ev_HR ev_kf xs τ tys (.leaf none, (lw_G, (0, (0, 0)))) [] := ⟨rfl, by decide, lw_GS xs, fun r cell hr hg => nomatch (show (none : Option ev_C) = some cell from hg)⟩
  have hl := lv_entry ([.ref b]) (n := 9) (Nat.le_of_ble_eq_true rfl)
  rw [lg_entry_eq]
  generalize (lg_sl ([.ref b]) ++ List.replicate (9 - (lg_sl ([.ref b])).length) Slot.unset).toArray = ls at hl ⊢
  have hl : lv_has ls 9 [(0, .ref b)] := hl
  have hLR : ev_LR xs τ [] 9 [(0, (3, 40))] ls := ⟨hl.1, hl.2.1, fun i k n hm => by
    cases List.mem_singleton.mp hm
    exact ⟨.ref b, hl.2.2 (0, .ref b) List.mem_cons_self, ev_RV.ofr (by decide) (Or.inr (Or.inr (Or.inl ⟨by decide, by decide, by decide, by rw [ht]⟩)))⟩⟩
  have hscr : va_T .int (τ 40) L (fun j => .int (xs j)) (fun q => s.heap.size ≤ q) s s.heap := by
    obtain ⟨scr, h1, h2, h3, h4, h5⟩ := hX
    rw [ht]
    exact ⟨scr, h1, h2, h3, by omega, by rw [h4], h5, hbA⟩
  have go : ∀ (bs : List (Nat × Lean.RArray Nat)), ev_fin (lw_test bs) = true → (∀ X, ev_Gd p l e room_1 s m #[Value.ref b] below meth c xs τ D tys (fun q => s.heap.size ≤ q) 0 0 9 cL_law RL 13 482 [] ret c.exceptionTable.toList meth.name (lw_Z below #[Value.ref b] s) X 0 [(0, (3, 40))] [] (.leaf none, (lw_G, (0, (0, 0)))) (lw_test bs)) →
      W p l e room_1 s m #[Value.ref b] below meth c s.heap [] 0 0 (lw_Z below #[Value.ref b] s) (F0 m 0 ls []) := by
    intro bs hf hG
    obtain ⟨v, g, hg, r1, r2⟩ := ev_fin_some hf
    obtain ⟨-, G2⟩ := hG _ hg
    exact G2 F (by show ev_c g ≤ 0 + 600002; omega) (by show ev_z g ≤ 0 + 7302232; omega) (Nat.zero_le _) (Nat.zero_le _) [] s.heap [] ls [] ev_E.rf hP hD va_S.rf hH hLR trivial
  obtain ⟨bs, t, op, blo, bhi, h1, h2, h5, h3, h4⟩ := pick (ev_n (xs 0 &&& 63)) (lw_and63 _)
  by_cases hL6 : L = 6
  · subst hL6
    exact go bs h4 fun X => gl_law h1 h2 h5 h3 htr (by decide) (by decide) hscr (fun X h => gl_fin X h) rfl rfl
  · exact go bs h4 fun X => gl_law_short (N := L) (by omega) htr (by decide) (by decide) hscr (fun X h => gl_fin X h)
