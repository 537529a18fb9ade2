/-! WHAT THE CODES STAND FOR -/
def ev_n (x : Int32) : Nat := x.toBitVec.toNat
def ev_m (x : Int64) : Nat := x.toBitVec.toNat
def ev_bi (x : Int32) : Nat := ev_s (ev_n x)
def ev_lbi (x : Int64) : Nat := ev_ls (ev_m x)
theorem ev_n_lt (x : Int32) : ev_n x < 4294967296 := x.toBitVec.isLt
theorem ev_m_lt (x : Int64) : ev_m x < 18446744073709551616 := x.toBitVec.isLt
theorem ev_s_eq (n : Nat) : ev_s n = (n + 2147483648) % 4294967296 := rfl
theorem ev_ls_eq (n : Nat) : ev_ls n = (n + 9223372036854775808) % 18446744073709551616 := rfl
theorem ev_ti (x : Int32) : x.toInt = if ev_n x < 2147483648 then (ev_n x : Int) else (ev_n x : Int) - 4294967296 := by
  have h : x.toInt = x.toBitVec.toInt := rfl
  have hl := ev_n_lt x
  rw [h, BitVec.toInt_eq_toNat_cond]
  unfold ev_n at hl ⊢
  split <;> split <;> omega
theorem ev_tl (x : Int64) : x.toInt = if ev_m x < 9223372036854775808 then (ev_m x : Int) else (ev_m x : Int) - 18446744073709551616 := by
  have h : x.toInt = x.toBitVec.toInt := rfl
  have hl := ev_m_lt x
  rw [h, BitVec.toInt_eq_toNat_cond]
  unfold ev_m at hl ⊢
  split <;> split <;> omega
theorem ev_n_inj {x y : Int32} (h : ev_n x = ev_n y) : x = y := Int32.toBitVec_inj.mp (BitVec.eq_of_toNat_eq h)
theorem ev_m_inj {x y : Int64} (h : ev_m x = ev_m y) : x = y := Int64.toBitVec_inj.mp (BitVec.eq_of_toNat_eq h)
theorem ev_bi_eq (x : Int32) : ev_bi x = (ev_n x + 2147483648) % 4294967296 := rfl
theorem ev_lbi_eq (x : Int64) : ev_lbi x = (ev_m x + 9223372036854775808) % 18446744073709551616 := rfl
/-- the int plus 2^31 -/
theorem ev_bi_int (x : Int32) : (ev_bi x : Int) = x.toInt + 2147483648 := by
  have h1 := ev_n_lt x
  have h2 := ev_ti x
  rw [ev_bi_eq]
  generalize ev_n x = a at *
  generalize x.toInt = b at *
  by_cases h : a < 2147483648
  · rw [if_pos h] at h2; omega
  · rw [if_neg h] at h2; omega
theorem ev_lbi_int (x : Int64) : (ev_lbi x : Int) = x.toInt + 9223372036854775808 := by
  have h1 := ev_m_lt x
  have h2 := ev_tl x
  rw [ev_lbi_eq]
  generalize ev_m x = a at *
  generalize x.toInt = b at *
  by_cases h : a < 9223372036854775808
  · rw [if_pos h] at h2; omega
  · rw [if_neg h] at h2; omega
theorem ev_lt_iff (x y : Int32) : x < y ↔ ev_bi x < ev_bi y := by
  have h1 := ev_bi_int x
  have h2 := ev_bi_int y
  rw [Int32.lt_iff_toInt_lt]
  omega
theorem ev_le_iff (x y : Int32) : x ≤ y ↔ ev_bi x ≤ ev_bi y := by
  have h1 := ev_bi_int x
  have h2 := ev_bi_int y
  rw [Int32.le_iff_toInt_le]
  omega
theorem ev_eq_iff (x y : Int32) : x = y ↔ ev_bi x = ev_bi y := by
  have h1 := ev_bi_int x
  have h2 := ev_bi_int y
  constructor
  · intro h; rw [h]
  · intro h; exact Int32.toInt_inj.mp (by omega)
theorem ev_llt_iff (x y : Int64) : x < y ↔ ev_lbi x < ev_lbi y := by
  have h1 := ev_lbi_int x
  have h2 := ev_lbi_int y
  rw [Int64.lt_iff_toInt_lt]
  omega
theorem ev_leq_iff (x y : Int64) : x = y ↔ ev_lbi x = ev_lbi y := by
  have h1 := ev_lbi_int x
  have h2 := ev_lbi_int y
  constructor
  · intro h; rw [h]
  · intro h; exact Int64.toInt_inj.mp (by omega)
theorem ev_bi_lt (x : Int32) : ev_bi x < 4294967296 := by
  rw [ev_bi_eq]
  omega
def ev_VI (ρ : Nat → Int32) (n : Nat) (x : Int32) : Prop :=
  ev_n x = n ∨ (∃ j, j < 8 ∧ n = 4294967296 + j ∧ x = ρ j) ∨ ∃ a b, a < 4294967296 ∧ b < 4294967296 ∧ n = 1099511627776 + (a * 4294967296 + b) ∧ a ≤ ev_bi x ∧ ev_bi x ≤ b
def ev_VL (ρ : Nat → Int32) (n : Nat) (x : Int64) : Prop := ev_m x = n ∨ ∃ m y, n = 18446744073709551616 + m ∧ 4294967296 ≤ m ∧ ev_VI ρ m y ∧ x = y.toInt64
theorem ev_VI.lt {ρ : Nat → Int32} {n : Nat} {x : Int32} (h : ev_VI ρ n x) : n < 18446744073709551616 + 1099511627776 := by
  have := ev_n_lt x
  rcases h with h | ⟨j, h1, h2, -⟩ | ⟨a, b, h1, h2, h3, -⟩ <;> omega
theorem ev_VI.small {ρ : Nat → Int32} {n : Nat} {x : Int32} (h : ev_VI ρ n x) (hn : n ≤ 4294967295) : ev_n x = n := by
  rcases h with h | ⟨j, h1, h2, -⟩ | ⟨a, b, h1, h2, h3, -⟩
  · exact h
  · omega
  · omega
theorem ev_VL.small {ρ : Nat → Int32} {n : Nat} {x : Int64} (h : ev_VL ρ n x) (hn : n ≤ 18446744073709551615) : ev_m x = n := by
  rcases h with h | ⟨m, y, h1, -⟩
  · exact h
  · omega
theorem ev_VI.any (ρ : Nat → Int32) (x : Int32) : ev_VI ρ 1103806595071 x := Or.inr (Or.inr ⟨0, 4294967295, by omega, by omega, by omega, Nat.zero_le _, by have := ev_bi_lt x; omega⟩)
def ev_lo (G j : Nat) : Nat := Nat.land (Nat.shiftRight G (Nat.mul 64 j)) 4294967295
def ev_hi (G j : Nat) : Nat := Nat.land (Nat.shiftRight G (Nat.add (Nat.mul 64 j) 32)) 4294967295
def ev_GS (ρ : Nat → Int32) (G : Nat) : Prop := ∀ j, j < 8 → ev_lo G j ≤ ev_bi (ρ j) ∧ ev_bi (ρ j) ≤ ev_hi G j
theorem ev_bd_spec {ρ : Nat → Int32} {G n : Nat} {k : Nat → Nat → ev_O} {X : ev_X} (h : ev_bd G n k = some X) : ∃ a b, k a b = some X ∧ (ev_GS ρ G → ∀ x, ev_VI ρ n x → a ≤ ev_bi x ∧ ev_bi x ≤ b) := by
  rcases ev_if_or h with ⟨hb, hk⟩ | ⟨hb, hk⟩
  · rw [ev_f_eq] at hk
    refine ⟨_, _, hk, fun hG x hx => ?_⟩
    have := hx.small (Nat.le_of_ble_eq_true hb)
    unfold ev_bi
    rw [this]
    exact ⟨Nat.le_refl _, Nat.le_refl _⟩
  · have hn : ¬ n ≤ 4294967295 := fun q => by rw [Nat.ble_eq_true_of_le q] at hb; cases hb
    rcases ev_if_or hk with ⟨hb, hk⟩ | ⟨hb, hk⟩
    · have hn2 := Nat.le_of_ble_eq_true hb
      rw [ev_f_eq, ev_f_eq] at hk
      refine ⟨_, _, hk, fun hG x hx => ?_⟩
      rcases hx with hx | ⟨j, h1, h2, h3⟩ | ⟨a, b, h1, h2, h3, -⟩
      · have := ev_n_lt x; omega
      · have hj : Nat.sub n 4294967296 = j := by show n - 4294967296 = j; omega
        rw [hj, h3]
        exact hG j h1
      · omega
    · have hn2 : ¬ n ≤ 1099511627775 := fun q => by rw [Nat.ble_eq_true_of_le q] at hb; cases hb
      rw [ev_f_eq, ev_f_eq] at hk
      refine ⟨_, _, hk, fun hG x hx => ?_⟩
      rcases hx with hx | ⟨j, h1, h2, h3⟩ | ⟨a, b, h1, h2, h3, h4, h5⟩
      · have := ev_n_lt x; omega
      · omega
      · have e1 : Nat.div (Nat.sub n 1099511627776) 4294967296 = a := by show (n - 1099511627776) / 4294967296 = a; omega
        have e2 : Nat.mod (Nat.sub n 1099511627776) 4294967296 = b := by show (n - 1099511627776) % 4294967296 = b; omega
        rw [e1, e2]
        exact ⟨h4, h5⟩
theorem ev_i2l_bi (y : Int32) : ev_lbi y.toInt64 = ev_bi y + 9223372034707292160 := by
  have h : y.toInt64.toInt = y.toInt := Int32.toInt_toInt64 y
  have h1 := ev_bi_int y
  have h2 := ev_lbi_int y.toInt64
  omega
theorem ev_lbd_spec {ρ : Nat → Int32} {G n : Nat} {k : Nat → Nat → ev_O} {X : ev_X} (h : ev_lbd G n k = some X) : ∃ a b, k a b = some X ∧ (ev_GS ρ G → ∀ x, ev_VL ρ n x → a ≤ ev_lbi x ∧ ev_lbi x ≤ b) := by
  rcases ev_if_or h with ⟨hb, hk⟩ | ⟨hb, hk⟩
  · rw [ev_f_eq] at hk
    refine ⟨_, _, hk, fun hG x hx => ?_⟩
    have := hx.small (Nat.le_of_ble_eq_true hb)
    unfold ev_lbi
    rw [this]
    exact ⟨Nat.le_refl _, Nat.le_refl _⟩
  · have hn : ¬ n ≤ 18446744073709551615 := fun q => by rw [Nat.ble_eq_true_of_le q] at hb; cases hb
    obtain ⟨a, b, hk, hv⟩ := ev_bd_spec (ρ := ρ) hk
    rw [ev_f_eq, ev_f_eq] at hk
    refine ⟨_, _, hk, fun hG x hx => ?_⟩
    rcases hx with hx | ⟨m, y, h1, h2, h3, h4⟩
    · have := ev_m_lt x; omega
    · have hm : Nat.sub n 18446744073709551616 = m := by show n - 18446744073709551616 = m; omega
      rw [hm] at hv
      have := hv hG y h3
      rw [h4, ev_i2l_bi]
      show a + 9223372034707292160 ≤ _ ∧ _ ≤ b + 9223372034707292160
      omega
def ev_VR (τ : Nat → Nat) (ws : va_W) (n : Nat) (v : Value) : Prop :=
  (n = 0 ∧ v = .null) ∨ (n = 2 ∧ ∃ a, v = .ref a) ∨ (n ≠ 0 ∧ n ≠ 2 ∧ n < 64 ∧ v = .ref (τ n)) ∨ (64 ≤ n ∧ ∃ a e, ws[n - 64]? = some (a, e) ∧ v = .ref a)
def ev_RV (ρ : Nat → Int32) (τ : Nat → Nat) (ws : va_W) (k n : Nat) (v : Value) : Prop :=
  n < 1208925819614629174706176 ∧ ((k = 1 ∧ ∃ x, v = .int x ∧ ev_VI ρ n x) ∨ (k = 2 ∧ ∃ x, v = .long x ∧ ev_VL ρ n x) ∨ (k = 3 ∧ ev_VR τ ws n v) ∨ (k = 4 ∧ n = 0 ∧ v = .double FP.dconst0))
section EVR
variable {ρ : Nat → Int32} {τ : Nat → Nat} {ws ws' : va_W} {n : Nat} {v : Value}
theorem ev_RV.i (h : ev_RV ρ τ ws 1 n v) : ∃ x, v = .int x ∧ ev_VI ρ n x := by
  rcases h.2 with ⟨-, h⟩ | ⟨h, -⟩ | ⟨h, -⟩ | ⟨h, -⟩
  · exact h
  · cases h
  · cases h
  · cases h
theorem ev_RV.l (h : ev_RV ρ τ ws 2 n v) : ∃ x, v = .long x ∧ ev_VL ρ n x := by
  rcases h.2 with ⟨h, -⟩ | ⟨-, h⟩ | ⟨h, -⟩ | ⟨h, -⟩
  · cases h
  · exact h
  · cases h
  · cases h
theorem ev_RV.r (h : ev_RV ρ τ ws 3 n v) : ev_VR τ ws n v := by
  rcases h.2 with ⟨h, -⟩ | ⟨h, -⟩ | ⟨-, h⟩ | ⟨h, -⟩
  · cases h
  · cases h
  · exact h
  · cases h
theorem ev_RV.d (h : ev_RV ρ τ ws 4 n v) : n = 0 ∧ v = .double FP.dconst0 := by
  rcases h.2 with ⟨h, -⟩ | ⟨h, -⟩ | ⟨h, -⟩ | ⟨-, h⟩
  · cases h
  · cases h
  · cases h
  · exact h
theorem ev_RV.ofi {x : Int32} (h : ev_VI ρ n x) : ev_RV ρ τ ws 1 n (.int x) := ⟨Nat.lt_of_lt_of_le h.lt (by decide), Or.inl ⟨rfl, x, rfl, h⟩⟩
theorem ev_VL.lt {x : Int64} (h : ev_VL ρ n x) : n < 1208925819614629174706176 := by
  have := ev_m_lt x
  rcases h with h | ⟨m, y, h1, -, h3, -⟩
  · omega
  · have := h3.lt; omega
theorem ev_RV.ofl {x : Int64} (h : ev_VL ρ n x) : ev_RV ρ τ ws 2 n (.long x) := ⟨h.lt, Or.inr (Or.inl ⟨rfl, x, rfl, h⟩)⟩
theorem ev_RV.ofr (hn : n < 1208925819614629174706176) (h : ev_VR τ ws n v) : ev_RV ρ τ ws 3 n v := ⟨hn, Or.inr (Or.inr (Or.inl ⟨rfl, h⟩))⟩
theorem ev_RV.ofd : ev_RV ρ τ ws 4 0 (.double FP.dconst0) := ⟨by decide, Or.inr (Or.inr (Or.inr ⟨rfl, rfl, rfl⟩))⟩
/-- the world grows, and keeps its addresses -/
def ev_E (ws ws' : va_W) : Prop := ∀ (k a : Nat) (e : va_E), ws[k]? = some (a, e) → ∃ e', ws'[k]? = some (a, e')
theorem ev_E.rf : ev_E ws ws := fun _ _ e h => ⟨e, h⟩
theorem ev_E.trans {w2 : va_W} (h1 : ev_E ws ws') (h2 : ev_E ws' w2) : ev_E ws w2 := fun k a e h => by
  obtain ⟨e', h'⟩ := h1 k a e h
  exact h2 k a e' h'
theorem ev_E.set {k a : Nat} {e e0 : va_E} (h : ws[k]? = some (a, e0)) : ev_E ws (ws.set k (a, e)) := fun j b e1 hj => by
  have hl := (List.getElem?_eq_some_iff.mp h).1
  by_cases hjk : j = k
  · subst hjk
    rw [h] at hj
    cases hj
    exact ⟨e, List.getElem?_set_self hl⟩
  · exact ⟨e1, by rw [List.getElem?_set_ne (Ne.symm hjk)]; exact hj⟩
theorem ev_E.push {q : Nat × va_E} : ev_E ws (ws ++ [q]) := fun k a e h => ⟨e, by rw [List.getElem?_append_left (List.getElem?_eq_some_iff.mp h).1]; exact h⟩
theorem ev_VR.mono (hE : ev_E ws ws') (h : ev_VR τ ws n v) : ev_VR τ ws' n v := by
  rcases h with h | h | h | ⟨h1, a, e, h2, h3⟩
  · exact Or.inl h
  · exact Or.inr (Or.inl h)
  · exact Or.inr (Or.inr (Or.inl h))
  · obtain ⟨e', h'⟩ := hE _ _ _ h2
    exact Or.inr (Or.inr (Or.inr ⟨h1, a, e', h', h3⟩))
theorem ev_RV.mono {k : Nat} (hE : ev_E ws ws') (h : ev_RV ρ τ ws k n v) : ev_RV ρ τ ws' k n v := by
  refine ⟨h.1, ?_⟩
  rcases h.2 with h | h | ⟨h1, h2⟩ | h
  · exact Or.inl h
  · exact Or.inr (Or.inl h)
  · exact Or.inr (Or.inr (Or.inl ⟨h1, h2.mono hE⟩))
  · exact Or.inr (Or.inr (Or.inr h))
theorem ev_RV.cat {k : Nat} (h : ev_RV ρ τ ws k n v) : v.category = if k = 2 ∨ k = 4 then 2 else 1 := by
  obtain ⟨-, h⟩ := h
  rcases h with ⟨h1, x, h2, -⟩ | ⟨h1, x, h2, -⟩ | ⟨h1, h2⟩ | ⟨h1, -, h2⟩
  · rw [h1, h2]; rfl
  · rw [h1, h2]; rfl
  · rw [h1]
    unfold ev_VR at h2
    rcases h2 with ⟨-, h2⟩ | ⟨-, a, h2⟩ | ⟨-, -, -, h2⟩ | ⟨-, a, e, -, h2⟩ <;> (rw [h2]; rfl)
  · rw [h1, h2]; rfl
/-- a stack, a method's arguments -/
def ev_R1 (ρ : Nat → Int32) (τ : Nat → Nat) (ws : va_W) : List (Nat × Nat) → List Value → Prop
  | [], [] => True
  | q :: l, v :: m => ev_RV ρ τ ws q.1 q.2 v ∧ ev_R1 ρ τ ws l m
  | _, _ => False
theorem ev_R1.mono (hE : ev_E ws ws') : ∀ (l : List (Nat × Nat)) (m : List Value), ev_R1 ρ τ ws l m → ev_R1 ρ τ ws' l m
  | [], [], _ => trivial
  | [], _ :: _, h => h.elim
  | _ :: _, [], h => h.elim
  | _ :: l, _ :: m, h => ⟨h.1.mono hE, ev_R1.mono hE l m h.2⟩
theorem ev_R1.cons {k : Nat} {l : List (Nat × Nat)} {m : List Value} (h : ev_R1 ρ τ ws ((k, n) :: l) m) : ∃ v m', m = v :: m' ∧ ev_RV ρ τ ws k n v ∧ ev_R1 ρ τ ws l m' := by
  cases m with
  | nil => exact h.elim
  | cons v m => exact ⟨v, m, rfl, h.1, h.2⟩
/-- the locals -/
def ev_LR (ρ : Nat → Int32) (τ : Nat → Nat) (ws : va_W) (nL : Nat) (lv : List (Nat × (Nat × Nat))) (ls : Array Slot) : Prop :=
  ls.size = nL ∧ lv_wf ls ∧ ∀ i k n, (i, (k, n)) ∈ lv → ∃ v, ls[i]? = some (.val v) ∧ ev_RV ρ τ ws k n v
theorem ev_LR.mono {nL : Nat} {lv : List (Nat × (Nat × Nat))} {ls : Array Slot} (hE : ev_E ws ws') (h : ev_LR ρ τ ws nL lv ls) : ev_LR ρ τ ws' nL lv ls :=
  ⟨h.1, h.2.1, fun i k n hm => by obtain ⟨v, h1, h2⟩ := h.2.2 i k n hm; exact ⟨v, h1, h2.mono hE⟩⟩
theorem ev_LR.sub {nL : Nat} {lv lv' : List (Nat × (Nat × Nat))} {ls : Array Slot} (h : ev_LR ρ τ ws nL lv ls) (hs : ∀ q ∈ lv', q ∈ lv) : ev_LR ρ τ ws nL lv' ls :=
  ⟨h.1, h.2.1, fun i k n hm => h.2.2 i k n (hs _ hm)⟩
/-- the values that the locals hold -/
def ev_l1 (i : Nat) (o : Option Slot) : Option (Nat × Value) := match o with
  | some (Slot.val v) => some (i, v)
  | _ => none
def ev_lh (ls : Array Slot) (lv : List (Nat × (Nat × Nat))) : List (Nat × Value) := lv.filterMap fun q => ev_l1 q.1 ls[q.1]?
theorem ev_lh_has {nL : Nat} {lv : List (Nat × (Nat × Nat))} {ls : Array Slot} (h : ev_LR ρ τ ws nL lv ls) : lv_has ls nL (ev_lh ls lv) := by
  refine ⟨h.1, h.2.1, fun q hq => ?_⟩
  obtain ⟨a, ha, he⟩ := List.mem_filterMap.mp hq
  unfold ev_l1 at he
  split at he
  · cases he
    assumption
  · cases he
theorem ev_lh_mem {lv : List (Nat × (Nat × Nat))} {ls : Array Slot} {i : Nat} {q : Nat × Nat} (hm : (i, q) ∈ lv) (hv : ls[i]? = some (.val v)) : (i, v) ∈ ev_lh ls lv :=
  List.mem_filterMap.mpr ⟨(i, q), hm, by show ev_l1 i ls[i]? = _; rw [hv]; rfl⟩
/-- what stays known behind a store of one word, of two -/
def ev_d1 (i : Nat) (lv : List (Nat × (Nat × Nat))) : List (Nat × (Nat × Nat)) := lv.filter fun q => !(q.1 == i) && !(q.1 + 1 == i && (q.2.1 == 2 || q.2.1 == 4))
def ev_d2 (i : Nat) (lv : List (Nat × (Nat × Nat))) : List (Nat × (Nat × Nat)) := lv.filter fun q => !(q.1 == i) && (!(q.1 == i + 1) && !(q.1 + 1 == i && (q.2.1 == 2 || q.2.1 == 4)))
theorem ev_cat2 {k : Nat} (h : ev_RV ρ τ ws k n v) : (v.category == 2) = (k == 2 || k == 4) := by
  rw [h.cat]
  by_cases h2 : k = 2
  · subst h2; rfl
  · by_cases h4 : k = 4
    · subst h4; rfl
    · rw [if_neg (by omega)]
      simp [h2, h4]
theorem ev_LR.st1 {nL i k : Nat} {lv : List (Nat × (Nat × Nat))} {ls ls' : Array Slot} {w : Value} (h : ev_LR ρ τ ws nL lv ls)
    (h' : lv_has ls' nL ((i, w) :: (ev_lh ls lv).filter (fun q => !(q.1 == i) && !(q.1 + 1 == i && q.2.category == 2)))) (hw : ev_RV ρ τ ws k n w) : ev_LR ρ τ ws nL ((i, (k, n)) :: ev_d1 i lv) ls' := by
  refine ⟨h'.1, h'.2.1, fun j k' n' hm => ?_⟩
  rcases List.mem_cons.mp hm with hm | hm
  · cases hm
    exact ⟨w, h'.2.2 (i, w) List.mem_cons_self, hw⟩
  · obtain ⟨hm, hp⟩ := List.mem_filter.mp hm
    obtain ⟨v, h1, h2⟩ := h.2.2 j k' n' hm
    refine ⟨v, h'.2.2 (j, v) (List.mem_cons_of_mem _ (List.mem_filter.mpr ⟨ev_lh_mem hm h1, ?_⟩)), h2⟩
    show (!(j == i) && !(j + 1 == i && v.category == 2)) = true
    rw [ev_cat2 h2]
    exact hp
theorem ev_LR.st2 {nL i k : Nat} {lv : List (Nat × (Nat × Nat))} {ls ls' : Array Slot} {w : Value} (h : ev_LR ρ τ ws nL lv ls)
    (h' : lv_has ls' nL ((i, w) :: (ev_lh ls lv).filter (fun q => !(q.1 == i) && (!(q.1 == i + 1) && !(q.1 + 1 == i && q.2.category == 2))))) (hw : ev_RV ρ τ ws k n w) : ev_LR ρ τ ws nL ((i, (k, n)) :: ev_d2 i lv) ls' := by
  refine ⟨h'.1, h'.2.1, fun j k' n' hm => ?_⟩
  rcases List.mem_cons.mp hm with hm | hm
  · cases hm
    exact ⟨w, h'.2.2 (i, w) List.mem_cons_self, hw⟩
  · obtain ⟨hm, hp⟩ := List.mem_filter.mp hm
    obtain ⟨v, h1, h2⟩ := h.2.2 j k' n' hm
    refine ⟨v, h'.2.2 (j, v) (List.mem_cons_of_mem _ (List.mem_filter.mpr ⟨ev_lh_mem hm h1, ?_⟩)), h2⟩
    show (!(j == i) && (!(j == i + 1) && !(j + 1 == i && v.category == 2))) = true
    rw [ev_cat2 h2]
    exact hp
/-- an array's contents -/
abbrev ev_B : Type := (Nat → Int32) ⊕ (Nat → Int64) ⊕ (Nat → UInt32) ⊕ (Nat → UInt64) ⊕ (Nat → Option Nat)
def ev_AR (ρ : Nat → Int32) (τ : Nat → Nat) (ws : va_W) (kd len : Nat) (T : ev_T) (f : ev_B) : Prop :=
  (kd ≤ 2 ∧ ∃ g, f = .inl g ∧ ∀ i, i < len → ev_RV ρ τ ws 1 (ev_at T i) (.int (g i))) ∨ (kd = 3 ∧ ∃ g, f = .inr (.inl g) ∧ ∀ i, i < len → ev_RV ρ τ ws 2 (ev_at T i) (.long (g i))) ∨
    (4 ≤ kd ∧ ∃ g, f = .inr (.inr (.inr (.inr g))) ∧ ∀ i, i < len → ev_RV ρ τ ws 3 (ev_at T i) (va_rf (g i)))
/-- the kinds of the fields of each class -/
def ev_CR (kf : Nat → List Nat) (ρ : Nat → Int32) (τ : Nat → Nat) (ws : va_W) (tys : List (ClassId × FieldType)) (c : ev_C) (e : va_E) : Prop := match c with
  | .inl (ci, N) => ∃ fs, e = .inr (ci, fs) ∧ fs.length = (kf ci).length ∧ ∀ j kd, (kf ci)[j]? = some kd → ∃ v, fs[j]? = some v ∧ ev_RV ρ τ ws kd (ev_sl N (80 * j)) v
  | .inr (kd, (len, T)) => ∃ cA f, e = .inl (cA, (len, f)) ∧ (∃ ty, tys[kd]? = some (cA, ty)) ∧ len ≤ 1048576 ∧ ev_AR ρ τ ws kd len T f
variable {kf : Nat → List Nat} {tys : List (ClassId × FieldType)}
theorem ev_AR.mono {kd len : Nat} {T : ev_T} {f : ev_B} (hE : ev_E ws ws') (h : ev_AR ρ τ ws kd len T f) : ev_AR ρ τ ws' kd len T f := by
  rcases h with ⟨h1, g, h2, h3⟩ | ⟨h1, g, h2, h3⟩ | ⟨h1, g, h2, h3⟩
  · exact Or.inl ⟨h1, g, h2, fun i hi => (h3 i hi).mono hE⟩
  · exact Or.inr (Or.inl ⟨h1, g, h2, fun i hi => (h3 i hi).mono hE⟩)
  · exact Or.inr (Or.inr ⟨h1, g, h2, fun i hi => (h3 i hi).mono hE⟩)
theorem ev_CR.mono {c : ev_C} {e : va_E} (hE : ev_E ws ws') (h : ev_CR kf ρ τ ws tys c e) : ev_CR kf ρ τ ws' tys c e := by
  rcases c with ⟨ci, N⟩ | ⟨kd, len, T⟩
  · obtain ⟨fs, h1, h2, h3⟩ := h
    exact ⟨fs, h1, h2, fun j kd hj => by obtain ⟨v, a, b⟩ := h3 j kd hj; exact ⟨v, a, b.mono hE⟩⟩
  · obtain ⟨cA, f, h1, h2, h3, h4⟩ := h
    exact ⟨cA, f, h1, h2, h3, h4.mono hE⟩
def ev_HR (kf : Nat → List Nat) (ρ : Nat → Int32) (τ : Nat → Nat) (tys : List (ClassId × FieldType)) (h : ev_H) (ws : va_W) : Prop :=
  ws.length = h.2.2.1 ∧ h.2.2.1 + 64 ≤ 1088 ∧ ev_GS ρ h.2.1 ∧ ∀ r cell, r < 1088 → h.1.get r = some cell → 64 ≤ r ∧ ∃ a e, ws[r - 64]? = some (a, e) ∧ ev_CR kf ρ τ ws tys cell e
/-- a reference whose cell is written: a cell of the world -/
theorem ev_HR.at {h : ev_H} {r : Nat} {cell : ev_C} (hH : ev_HR kf ρ τ tys h ws) (hv : ev_RV ρ τ ws 3 r v) (hg : h.1.get r = some cell) : r < 1088 ∧ 64 ≤ r ∧ ∃ a e, v = .ref a ∧ ws[r - 64]? = some (a, e) ∧ ev_CR kf ρ τ ws tys cell e := by
  obtain ⟨h1, h2, -, h4⟩ := hH
  have hlt : r < 1088 := by
    rcases hv.r with ⟨h, -⟩ | ⟨h, -⟩ | ⟨-, -, h, -⟩ | ⟨h, a, e, h5, -⟩
    · omega
    · omega
    · omega
    · have := (List.getElem?_eq_some_iff.mp h5).1
      omega
  obtain ⟨h5, a, e, h6, h7⟩ := h4 r cell hlt hg
  refine ⟨hlt, h5, a, e, ?_, h6, h7⟩
  rcases hv.r with ⟨h, -⟩ | ⟨h, -⟩ | ⟨-, -, h, -⟩ | ⟨h, a', e', h8, h9⟩
  · omega
  · omega
  · omega
  · rw [h6] at h8
    cases h8
    exact h9
theorem ev_HR.set {h : ev_H} {r a : Nat} {e e' : va_E} {cell : ev_C} {t : Lean.RArray (Option ev_C)} (hH : ev_HR kf ρ τ tys h ws) (hr : r < 1088) (h64 : 64 ≤ r) (ha : ws[r - 64]? = some (a, e))
    (hc : ev_CR kf ρ τ ws tys cell e') (ht : ∀ j, 0 ≤ j → j < 1088 → t.get j = if j = r then some cell else h.1.get j) : ev_HR kf ρ τ tys (t, h.2) (ws.set (r - 64) (a, e')) := by
  obtain ⟨h1, h2, h3, h4⟩ := hH
  have hE : ev_E ws (ws.set (r - 64) (a, e')) := ev_E.set ha
  have hl := (List.getElem?_eq_some_iff.mp ha).1
  refine ⟨by rw [List.length_set]; exact h1, h2, h3, fun j cj hj hg => ?_⟩
  have hg' : t.get j = some cj := hg
  rw [ht j (Nat.zero_le _) hj] at hg'
  by_cases hjr : j = r
  · subst hjr
    rw [if_pos rfl] at hg'
    cases hg'
    exact ⟨h64, a, e', List.getElem?_set_self hl, hc.mono hE⟩
  · rw [if_neg hjr] at hg'
    obtain ⟨h5, b, eb, h6, h7⟩ := h4 j cj hj hg'
    refine ⟨h5, b, eb, ?_, h7.mono hE⟩
    rw [List.getElem?_set_ne (by omega)]
    exact h6
theorem ev_HR.push {h : ev_H} {a c s : Nat} {e : va_E} {cell : ev_C} {t : Lean.RArray (Option ev_C)} (hH : ev_HR kf ρ τ tys h ws) (hr : h.2.2.1 + 64 < 1088)
    (hc : ev_CR kf ρ τ (ws ++ [(a, e)]) tys cell e) (ht : ∀ j, 0 ≤ j → j < 1088 → t.get j = if j = h.2.2.1 + 64 then some cell else h.1.get j) : ev_HR kf ρ τ tys (t, (h.2.1, (h.2.2.1 + 1, (c, s)))) (ws ++ [(a, e)]) := by
  obtain ⟨h1, h2, h3, h4⟩ := hH
  have hE : ev_E ws (ws ++ [(a, e)]) := ev_E.push
  refine ⟨by rw [List.length_append]; show ws.length + 1 = h.2.2.1 + 1; omega, by show h.2.2.1 + 1 + 64 ≤ 1088; omega, h3, fun j cj hj hg => ?_⟩
  have hg' : t.get j = some cj := hg
  rw [ht j (Nat.zero_le _) hj] at hg'
  by_cases hjr : j = h.2.2.1 + 64
  · subst hjr
    rw [if_pos rfl] at hg'
    cases hg'
    refine ⟨by omega, a, e, ?_, hc⟩
    rw [show h.2.2.1 + 64 - 64 = ws.length by omega, List.getElem?_append_right (Nat.le_refl _), Nat.sub_self]
    rfl
  · rw [if_neg hjr] at hg'
    obtain ⟨h5, b, eb, h6, h7⟩ := h4 j cj hj hg'
    refine ⟨h5, b, eb, ?_, h7.mono hE⟩
    rw [List.getElem?_append_left (List.getElem?_eq_some_iff.mp h6).1]
    exact h6
end EVR
