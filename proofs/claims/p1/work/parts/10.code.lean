/-! CODES. An int, a long, a reference, the double 0.0 is a number below 2^80; what kind it is, the place says (1 int, 2 long, 3 reference, 4 double).
    int: below 2^32 the word itself; 2^32 + j the token j; 2^40 + 2^32 lo + hi: only its bounds are known (both plus 2^31).
    long: below 2^64 the word itself; 2^64 + m: the int with the code m.  reference: 0 null, 1 the script, 2 not known, 16 + i the text i, 64 + k the cell k.
    A heap: the cells by their references; the tokens' bounds (and the script's length); the world's cells; cells made, slots made. -/
abbrev ev_T : Type := Lean.RArray Nat
abbrev ev_C : Type := (Nat × Nat) ⊕ (Nat × (Nat × ev_T))
abbrev ev_H : Type := Lean.RArray (Option ev_C) × (Nat × (Nat × (Nat × Nat)))
abbrev ev_X : Type := (Nat × ev_H) ⊕ (Nat × ev_H)
abbrev ev_O : Type := Option ev_X
noncomputable def ev_f {R : Type} (n : Nat) (k : Nat → R) : R := Nat.rec (motive := fun _ => R) (k 0) (fun m _ => k (Nat.succ m)) n
theorem ev_f_eq {R : Type} (n : Nat) (k : Nat → R) : ev_f n k = k n := by cases n <;> rfl
noncomputable def ev_if {R : Type} (b : Bool) (x y : R) : R := Bool.rec (motive := fun _ => R) y x b
theorem ev_if_eq {R : Type} (b : Bool) (x y : R) : ev_if b x y = if b = true then x else y := by cases b <;> rfl
theorem ev_if_or {R : Type} {b : Bool} {x y z : R} (h : ev_if b x y = z) : (b = true ∧ x = z) ∨ (b = false ∧ y = z) := by
  cases b
  · exact Or.inr ⟨rfl, h⟩
  · exact Or.inl ⟨rfl, h⟩
/-- a slot of 80 bits, from the bit q on -/
def ev_sl (N q : Nat) : Nat := Nat.land (Nat.shiftRight N q) 1208925819614629174706175
def ev_up (N q v : Nat) : Nat := Nat.xor N (Nat.shiftLeft (Nat.xor (ev_sl N q) v) q)
theorem ev_sl_lt (N q : Nat) : ev_sl N q < 1208925819614629174706176 := by
  have h : ev_sl N q = (N >>> q) % 2 ^ 80 := Nat.and_two_pow_sub_one_eq_mod (N >>> q) 80
  rw [h]
  exact Nat.mod_lt _ (by decide)
theorem ev_sl_bit (N q i : Nat) : (ev_sl N q).testBit i = (decide (i < 80) && N.testBit (q + i)) := by
  have h : ev_sl N q = (N >>> q) % 2 ^ 80 := Nat.and_two_pow_sub_one_eq_mod (N >>> q) 80
  rw [h, Nat.testBit_mod_two_pow, Nat.testBit_shiftRight]
theorem ev_lt_bit {v i : Nat} (h : v < 1208925819614629174706176) (hi : 80 ≤ i) : v.testBit i = false :=
  Nat.testBit_lt_two_pow (Nat.lt_of_lt_of_le h (Nat.pow_le_pow_right (n := 2) (by decide) hi))
theorem ev_up_same {N q v : Nat} (h : v < 1208925819614629174706176) : ev_sl (ev_up N q v) q = v := by
  apply Nat.eq_of_testBit_eq
  intro i
  rw [ev_sl_bit]
  by_cases hi : i < 80
  · have h1 : (ev_up N q v).testBit (q + i) = (N.testBit (q + i)).xor (((ev_sl N q).testBit i).xor (v.testBit i)) := by
      show (N ^^^ ((ev_sl N q ^^^ v) <<< q)).testBit (q + i) = _
      rw [Nat.testBit_xor, Nat.testBit_shiftLeft, Nat.testBit_xor]
      simp
    rw [h1, ev_sl_bit]
    simp [hi]
  · rw [ev_lt_bit h (by omega)]
    simp [hi]
theorem ev_up_other {N j k v : Nat} (h : v < 1208925819614629174706176) (hne : j ≠ k) : ev_sl (ev_up N (80 * k) v) (80 * j) = ev_sl N (80 * j) := by
  apply Nat.eq_of_testBit_eq
  intro i
  rw [ev_sl_bit, ev_sl_bit]
  by_cases hi : i < 80
  · congr 1
    show (N ^^^ ((ev_sl N (80 * k) ^^^ v) <<< (80 * k))).testBit (80 * j + i) = _
    rw [Nat.testBit_xor, Nat.testBit_shiftLeft]
    by_cases hjk : 80 * k ≤ 80 * j + i
    · have h8 : 80 ≤ 80 * j + i - 80 * k := by omega
      have h9 : ((ev_sl N (80 * k)) ^^^ v).testBit (80 * j + i - 80 * k) = false := by
        rw [Nat.testBit_xor, ev_lt_bit h h8, ev_lt_bit (ev_sl_lt N _) h8]; rfl
      rw [h9]; simp
    · simp [hjk]
  · simp [hi]
/-- the place i of a tree whose leaf stands for the places from lo on below hi -/
noncomputable def ev_lset {α R : Type} (z : R) (f : Nat) (a : α) (i : Nat) (x : α) : Nat → Nat → (Lean.RArray α → R) → R :=
  Nat.rec (motive := fun _ => Nat → Nat → (Lean.RArray α → R) → R) (fun _ _ _ => z)
    (fun _ ih lo hi k => ev_if (Nat.ble hi (Nat.succ lo)) (k (.leaf x))
      (ev_f (Nat.shiftRight (Nat.add lo hi) 1) fun mid => ev_if (Nat.ble mid i) (ih mid hi fun r => k (.branch mid (.leaf a) r)) (ih lo mid fun l => k (.branch mid l (.leaf a))))) f
noncomputable def ev_set {α R : Type} (z : R) (t : Lean.RArray α) (i : Nat) (x : α) (lo hi : Nat) (k : Lean.RArray α → R) : R :=
  Lean.RArray.rec (motive := fun _ => Nat → Nat → (Lean.RArray α → R) → R) (fun a lo hi k => ev_lset z 20 a i x lo hi k)
    (fun p l r ihl ihr lo hi k => ev_if (Nat.ble p i) (ihr p hi fun r' => k (.branch p l r')) (ihl lo p fun l' => k (.branch p l' r))) t lo hi k
theorem ev_get_branch {α : Type} (p : Nat) (l r : Lean.RArray α) (j : Nat) : (Lean.RArray.branch p l r).get j = if p ≤ j then r.get j else l.get j := by
  have e : (Lean.RArray.branch p l r).get j = ev_if (Nat.ble p j) (r.get j) (l.get j) := rfl
  rw [e, ev_if_eq]
  by_cases h : p ≤ j
  · rw [if_pos h, if_pos (Nat.ble_eq_true_of_le h)]
  · rw [if_neg h, if_neg (fun q => h (Nat.le_of_ble_eq_true q))]
theorem ev_lset_spec {α R : Type} {z : Option R} {X : R} (hz : z = none) (a x : α) (i : Nat) : ∀ (f lo hi : Nat) (k : Lean.RArray α → Option R), lo ≤ i → i < hi → ev_lset z f a i x lo hi k = some X →
    ∃ t : Lean.RArray α, k t = some X ∧ ∀ j, lo ≤ j → j < hi → t.get j = if j = i then x else a := by
  intro f
  induction f with
  | zero => intro lo hi k _ _ h; subst hz; exact nomatch h
  | succ f ih =>
    intro lo hi k h1 h2 h
    have h' : ev_if (Nat.ble hi (Nat.succ lo)) (k (.leaf x)) (ev_f (Nat.shiftRight (Nat.add lo hi) 1) fun mid => ev_if (Nat.ble mid i) (ev_lset z f a i x mid hi fun r => k (.branch mid (.leaf a) r)) (ev_lset z f a i x lo mid fun l => k (.branch mid l (.leaf a)))) = some X := h
    rw [ev_f_eq] at h'
    rcases ev_if_or h' with ⟨hb, hk⟩ | ⟨hb, hk⟩
    · refine ⟨_, hk, fun j j1 j2 => ?_⟩
      have := Nat.le_of_ble_eq_true hb
      have hji : j = i := by omega
      rw [if_pos hji]
    · rcases ev_if_or hk with ⟨hm, hk⟩ | ⟨hm, hk⟩
      · have hm' := Nat.le_of_ble_eq_true hm
        obtain ⟨t, ht, hg⟩ := ih _ _ _ hm' h2 hk
        refine ⟨_, ht, fun j j1 j2 => ?_⟩
        rw [ev_get_branch]
        split
        · exact hg j (by assumption) j2
        · rw [if_neg (by omega)]
      · have hm' : ¬ Nat.shiftRight (Nat.add lo hi) 1 ≤ i := fun q => by rw [Nat.ble_eq_true_of_le q] at hm; cases hm
        obtain ⟨t, ht, hg⟩ := ih _ _ _ h1 (Nat.lt_of_not_le hm') hk
        refine ⟨_, ht, fun j j1 j2 => ?_⟩
        rw [ev_get_branch]
        split
        · rw [if_neg (by omega)]
        · exact hg j j1 (by omega)
theorem ev_set_spec {α R : Type} {z : Option R} {X : R} (hz : z = none) (x : α) (i : Nat) : ∀ (t : Lean.RArray α) (lo hi : Nat) (k : Lean.RArray α → Option R), lo ≤ i → i < hi → ev_set z t i x lo hi k = some X →
    ∃ t' : Lean.RArray α, k t' = some X ∧ ∀ j, lo ≤ j → j < hi → t'.get j = if j = i then x else t.get j := by
  intro t
  induction t with
  | leaf a => intro lo hi k h1 h2 h; exact ev_lset_spec hz a x i 20 lo hi k h1 h2 h
  | branch p l r ihl ihr =>
    intro lo hi k h1 h2 h
    have h' : ev_if (Nat.ble p i) (ev_set z r i x p hi fun r' => k (.branch p l r')) (ev_set z l i x lo p fun l' => k (.branch p l' r)) = some X := h
    rcases ev_if_or h' with ⟨hb, hk⟩ | ⟨hb, hk⟩
    · have hp := Nat.le_of_ble_eq_true hb
      obtain ⟨t', ht, hg⟩ := ihr _ _ _ hp h2 hk
      refine ⟨_, ht, fun j j1 j2 => ?_⟩
      rw [ev_get_branch, ev_get_branch]
      split
      · exact hg j (by assumption) j2
      · rw [if_neg (by omega)]
    · have hp : ¬ p ≤ i := fun q => by rw [Nat.ble_eq_true_of_le q] at hb; cases hb
      obtain ⟨t', ht, hg⟩ := ihl _ _ _ h1 (Nat.lt_of_not_le hp) hk
      refine ⟨_, ht, fun j j1 j2 => ?_⟩
      rw [ev_get_branch, ev_get_branch]
      split
      · rw [if_neg (by omega)]
      · exact hg j j1 (by omega)
theorem ev_lset_some {α R : Type} {X : R} (a x : α) (i : Nat) : ∀ (f lo hi : Nat) (k : Lean.RArray α → Option R), ev_lset none f a i x lo hi k = some X → ∃ t : Lean.RArray α, k t = some X := by
  intro f
  induction f with
  | zero => intro lo hi k h; exact nomatch h
  | succ f ih =>
    intro lo hi k h
    have h' : ev_if (Nat.ble hi (Nat.succ lo)) (k (.leaf x)) (ev_f (Nat.shiftRight (Nat.add lo hi) 1) fun mid => ev_if (Nat.ble mid i) (ev_lset none f a i x mid hi fun r => k (.branch mid (.leaf a) r)) (ev_lset none f a i x lo mid fun l => k (.branch mid l (.leaf a)))) = some X := h
    rw [ev_f_eq] at h'
    rcases ev_if_or h' with ⟨-, hk⟩ | ⟨-, hk⟩
    · exact ⟨_, hk⟩
    · rcases ev_if_or hk with ⟨-, hk⟩ | ⟨-, hk⟩
      · obtain ⟨t, ht⟩ := ih _ _ _ hk
        exact ⟨_, ht⟩
      · obtain ⟨t, ht⟩ := ih _ _ _ hk
        exact ⟨_, ht⟩
theorem ev_set_some {α R : Type} {X : R} {x : α} {i : Nat} {t : Lean.RArray α} : ∀ {lo hi : Nat} {k : Lean.RArray α → Option R}, ev_set none t i x lo hi k = some X → ∃ t' : Lean.RArray α, k t' = some X := by
  induction t with
  | leaf a => intro lo hi k h; exact ev_lset_some a x i 20 lo hi k h
  | branch p l r ihl ihr =>
    intro lo hi k h
    have h' : ev_if (Nat.ble p i) (ev_set none r i x p hi fun r' => k (.branch p l r')) (ev_set none l i x lo p fun l' => k (.branch p l' r)) = some X := h
    rcases ev_if_or h' with ⟨-, hk⟩ | ⟨-, hk⟩
    · obtain ⟨t', ht⟩ := ihr hk
      exact ⟨_, ht⟩
    · obtain ⟨t', ht⟩ := ihl hk
      exact ⟨_, ht⟩
noncomputable def ev_cell {R : Type} (o : Option ev_C) (z : R) (f : Nat → Nat → R) (g : Nat → Nat → ev_T → R) : R :=
  Option.rec (motive := fun _ => R) z (fun c => Sum.rec (motive := fun _ => R) (fun q => Prod.rec (motive := fun _ => R) f q) (fun q => Prod.rec (motive := fun _ => R) (fun kd q => Prod.rec (motive := fun _ => R) (g kd) q) q) c) o
theorem ev_cell_or {R : Type} {o : Option ev_C} {f : Nat → Nat → Option R} {g : Nat → Nat → ev_T → Option R} {X : R} (h : ev_cell o none f g = some X) : (∃ ci N, o = some (.inl (ci, N)) ∧ f ci N = some X) ∨ ∃ kd len T, o = some (.inr (kd, (len, T))) ∧ g kd len T = some X := by
  rcases o with _ | ⟨ci, N⟩ | ⟨kd, len, T⟩
  · exact nomatch h
  · exact Or.inl ⟨ci, N, rfl, h⟩
  · exact Or.inr ⟨kd, len, T, rfl, h⟩
/-- the word with its sign's bit turned -/
def ev_s (n : Nat) : Nat := Nat.mod (Nat.add n 2147483648) 4294967296
noncomputable def ev_bd (G n : Nat) (k : Nat → Nat → ev_O) : ev_O :=
  ev_if (Nat.ble n 4294967295) (ev_f (ev_s n) fun b => k b b)
    (ev_if (Nat.ble n 1099511627775) (ev_f (Nat.land (Nat.shiftRight G (Nat.mul 64 (Nat.sub n 4294967296))) 4294967295) fun a => ev_f (Nat.land (Nat.shiftRight G (Nat.add (Nat.mul 64 (Nat.sub n 4294967296)) 32)) 4294967295) fun b => k a b)
      (ev_f (Nat.div (Nat.sub n 1099511627776) 4294967296) fun a => ev_f (Nat.mod (Nat.sub n 1099511627776) 4294967296) fun b => k a b))
noncomputable def ev_ieq (h : ev_H) (a b : Nat) (x y : ev_O) : ev_O :=
  ev_if (Nat.ble (Nat.lor a b) 4294967295) (ev_if (Nat.beq a b) x y)
    (ev_bd h.2.1 a fun a1 a2 => ev_bd h.2.1 b fun b1 b2 => ev_if (Nat.ble (Nat.succ a2) b1) y (ev_if (Nat.ble (Nat.succ b2) a1) y (ev_if (Nat.beq a1 a2) (ev_if (Nat.beq b1 b2) (ev_if (Nat.beq a1 b1) x none) none) none)))
noncomputable def ev_ilt (h : ev_H) (a b : Nat) (x y : ev_O) : ev_O :=
  ev_if (Nat.ble (Nat.lor a b) 4294967295) (ev_if (Nat.ble (Nat.succ (ev_s a)) (ev_s b)) x y)
    (ev_bd h.2.1 a fun a1 a2 => ev_bd h.2.1 b fun b1 b2 => ev_if (Nat.ble (Nat.succ a2) b1) x (ev_if (Nat.ble b2 a1) y none))
noncomputable def ev_iadd (h : ev_H) (a b : Nat) (k : Nat → ev_O) : ev_O :=
  ev_if (Nat.ble (Nat.lor a b) 4294967295) (ev_f (Nat.mod (Nat.add a b) 4294967296) k)
    (ev_bd h.2.1 a fun a1 a2 => ev_bd h.2.1 b fun b1 b2 => ev_if (Nat.ble 2147483648 (Nat.add a1 b1)) (ev_if (Nat.ble (Nat.add a2 b2) 6442450943) (ev_f (Nat.add 1099511627776 (Nat.add (Nat.mul (Nat.sub (Nat.add a1 b1) 2147483648) 4294967296) (Nat.sub (Nat.add a2 b2) 2147483648))) k) none) none)
noncomputable def ev_isub (a b : Nat) (k : Nat → ev_O) : ev_O := ev_if (Nat.ble (Nat.lor a b) 4294967295) (ev_f (Nat.mod (Nat.add a (Nat.sub 4294967296 b)) 4294967296) k) none
noncomputable def ev_imul (a b : Nat) (k : Nat → ev_O) : ev_O := ev_if (Nat.ble (Nat.lor a b) 4294967295) (ev_f (Nat.mod (Nat.mul a b) 4294967296) k) none
noncomputable def ev_idiv (a b : Nat) (k : Nat → ev_O) : ev_O := ev_if (Nat.ble 1 b) (ev_if (Nat.ble (Nat.lor a b) 2147483647) (ev_f (Nat.div a b) k) none) none
noncomputable def ev_irem (a b : Nat) (k : Nat → ev_O) : ev_O := ev_if (Nat.ble 1 b) (ev_if (Nat.ble (Nat.lor a b) 2147483647) (ev_f (Nat.mod a b) k) none) none
/-- of an int of which nothing is known -/
abbrev ev_any : Nat := 1099511627776 + 4294967295
noncomputable def ev_iand (a b : Nat) (k : Nat → ev_O) : ev_O := ev_if (Nat.ble (Nat.lor a b) 4294967295) (ev_f (Nat.land a b) k) (k 1103806595071)
noncomputable def ev_ior (a b : Nat) (k : Nat → ev_O) : ev_O := ev_if (Nat.ble (Nat.lor a b) 4294967295) (ev_f (Nat.lor a b) k) none
noncomputable def ev_ishl (a b : Nat) (k : Nat → ev_O) : ev_O := ev_if (Nat.ble b 31) (ev_if (Nat.ble a 4294967295) (ev_f (Nat.mod (Nat.shiftLeft a b) 4294967296) k) none) none
noncomputable def ev_ishr (a b : Nat) (k : Nat → ev_O) : ev_O := ev_if (Nat.ble b 31) (ev_if (Nat.ble a 2147483647) (ev_f (Nat.shiftRight a b) k) (k 1103806595071)) none
noncomputable def ev_iushr (a b : Nat) (k : Nat → ev_O) : ev_O := ev_if (Nat.ble b 31) (ev_if (Nat.ble a 4294967295) (ev_f (Nat.shiftRight a b) k) (k 1103806595071)) none
noncomputable def ev_i2b (a : Nat) (k : Nat → ev_O) : ev_O := ev_if (Nat.ble a 127) (k a) (k 1103806595071)
noncomputable def ev_i2l (a : Nat) (k : Nat → ev_O) : ev_O := ev_if (Nat.ble a 2147483647) (k a) (ev_if (Nat.ble a 4294967295) (ev_f (Nat.add a 18446744069414584320) k) (ev_f (Nat.add a 18446744073709551616) k))
noncomputable def ev_l2i (a : Nat) (k : Nat → ev_O) : ev_O := ev_if (Nat.ble a 18446744073709551615) (ev_f (Nat.mod a 4294967296) k) none
noncomputable def ev_ladd (a b : Nat) (k : Nat → ev_O) : ev_O := ev_if (Nat.ble (Nat.lor a b) 18446744073709551615) (ev_f (Nat.mod (Nat.add a b) 18446744073709551616) k) none
noncomputable def ev_lsub (a b : Nat) (k : Nat → ev_O) : ev_O := ev_if (Nat.ble (Nat.lor a b) 18446744073709551615) (ev_f (Nat.mod (Nat.add a (Nat.sub 18446744073709551616 b)) 18446744073709551616) k) none
noncomputable def ev_lmul (a b : Nat) (k : Nat → ev_O) : ev_O := ev_if (Nat.ble (Nat.lor a b) 18446744073709551615) (ev_f (Nat.mod (Nat.mul a b) 18446744073709551616) k) none
def ev_ls (n : Nat) : Nat := Nat.mod (Nat.add n 9223372036854775808) 18446744073709551616
noncomputable def ev_lbd (G n : Nat) (k : Nat → Nat → ev_O) : ev_O :=
  ev_if (Nat.ble n 18446744073709551615) (ev_f (ev_ls n) fun b => k b b) (ev_bd G (Nat.sub n 18446744073709551616) fun a b => ev_f (Nat.add a 9223372034707292160) fun a => ev_f (Nat.add b 9223372034707292160) fun b => k a b)
noncomputable def ev_lcmp (h : ev_H) (a b : Nat) (k : Nat → ev_O) : ev_O :=
  ev_if (Nat.ble (Nat.lor a b) 18446744073709551615) (ev_if (Nat.beq a b) (k 0) (ev_if (Nat.ble (ev_ls a) (ev_ls b)) (k 4294967295) (k 1)))
    (ev_lbd h.2.1 a fun a1 a2 => ev_lbd h.2.1 b fun b1 b2 => ev_if (Nat.ble (Nat.succ a2) b1) (k 4294967295) (ev_if (Nat.ble (Nat.succ b2) a1) (k 1) (ev_if (Nat.beq a1 a2) (ev_if (Nat.beq b1 b2) (ev_if (Nat.beq a1 b1) (k 0) none) none) none)))
noncomputable def ev_min (a b : Nat) (k : Nat → ev_O) : ev_O := ev_if (Nat.ble (Nat.lor a b) 4294967295) (ev_if (Nat.ble (Nat.succ (ev_s b)) (ev_s a)) (k b) (k a)) none
noncomputable def ev_max (a b : Nat) (k : Nat → ev_O) : ev_O := ev_if (Nat.ble (Nat.lor a b) 4294967295) (ev_if (Nat.ble (Nat.succ (ev_s a)) (ev_s b)) (k b) (k a)) none
noncomputable def ev_isn (a : Nat) (x y : ev_O) : ev_O := ev_if (Nat.beq a 0) x y
noncomputable def ev_nth {R : Type} (z : R) (ks : List R) (n : Nat) : R := List.rec (motive := fun _ => Nat → R) (fun _ => z) (fun v _ ih n => Nat.rec (motive := fun _ => R) v (fun m _ => ih m) n) ks n
/-- a switch from 0 on, len places -/
noncomputable def ev_sw (h : ev_H) (len a : Nat) (ks : List ev_O) (d : ev_O) : ev_O :=
  ev_if (Nat.ble a 4294967295) (ev_if (Nat.ble (Nat.succ a) len) (ev_nth none ks a) d)
    (ev_bd h.2.1 a fun a1 a2 => ev_if (Nat.ble a2 2147483647) d (ev_if (Nat.ble (Nat.add 2147483648 len) a1) d none))
-- fields, arrays
noncomputable def ev_getf (h : ev_H) (ci q a : Nat) (k : Nat → ev_O) : ev_O := ev_cell (h.1.get a) none (fun c N => ev_if (Nat.beq c ci) (ev_f (ev_sl N q) k) none) (fun _ _ _ => none)
noncomputable def ev_putf (h : ev_H) (ci q a v : Nat) (k : ev_H → ev_O) : ev_O :=
  ev_cell (h.1.get a) none (fun c N => ev_if (Nat.beq c ci) (ev_f (ev_up N q v) fun N => ev_set none h.1 a (some (.inl (ci, N))) 0 1088 fun t => k (t, h.2)) none) (fun _ _ _ => none)
/-- .. of a boolean -/
noncomputable def ev_putz (h : ev_H) (ci q a v : Nat) (k : ev_H → ev_O) : ev_O := ev_if (Nat.ble v 1) (ev_putf h ci q a v k) none
noncomputable def ev_alen (h : ev_H) (a : Nat) (k : Nat → ev_O) : ev_O := ev_cell (h.1.get a) none (fun _ _ => none) (fun _ len _ => k len)
abbrev ev_at (T : ev_T) (i : Nat) : Nat := ev_sl (T.get (Nat.shiftRight i 5)) (Nat.mul 80 (Nat.land i 31))
noncomputable def ev_ald (h : ev_H) (lo hi a i : Nat) (k : Nat → ev_O) : ev_O :=
  ev_cell (h.1.get a) none (fun _ _ => none) (fun d len T => ev_if (Nat.ble lo d) (ev_if (Nat.ble d hi) (ev_if (Nat.ble (Nat.succ i) len) (ev_f (ev_at T i) k) none) none) none)
noncomputable def ev_tset (T : ev_T) (len i v : Nat) (k : ev_T → ev_O) : ev_O :=
  ev_f (Nat.shiftRight i 5) fun j => ev_f (ev_up (T.get j) (Nat.mul 80 (Nat.land i 31)) v) fun N => ev_set none T j N 0 (Nat.succ (Nat.shiftRight len 5)) k
noncomputable def ev_ast (h : ev_H) (kd a i v : Nat) (k : ev_H → ev_O) : ev_O :=
  ev_cell (h.1.get a) none (fun _ _ => none) (fun d len T => ev_if (Nat.beq d kd) (ev_if (Nat.ble (Nat.succ i) len) (ev_tset T len i v fun T => ev_set none h.1 a (some (.inr (d, (len, T)))) 0 1088 fun t => k (t, h.2)) none) none)
/-- a byte; of one that isn't below 128 nothing is kept -/
noncomputable def ev_bast (h : ev_H) (a i v : Nat) (k : ev_H → ev_O) : ev_O := ev_if (Nat.ble v 127) (ev_ast h 1 a i v k) (ev_ast h 1 a i 1103806595071 k)
noncomputable def ev_zast (h : ev_H) (a i v : Nat) (k : ev_H → ev_O) : ev_O := ev_if (Nat.ble v 1) (ev_ast h 2 a i v k) none
/-- a reference: null, or an object of the class ci -/
noncomputable def ev_aast (h : ev_H) (kd ci a i v : Nat) (k : ev_H → ev_O) : ev_O := ev_if (Nat.beq v 0) (ev_ast h kd a i 0 k) (ev_cell (h.1.get v) none (fun c _ => ev_if (Nat.beq c ci) (ev_ast h kd a i v k) none) (fun _ _ _ => none))
-- making
noncomputable def ev_new (h : ev_H) (ci nf : Nat) (k : Nat → ev_H → ev_O) : ev_O :=
  ev_f (Nat.add h.2.2.1 64) fun n => ev_if (Nat.ble (Nat.succ n) 1088) (ev_set none h.1 n (some (.inl (ci, 0))) 0 1088 fun t => ev_f (Nat.succ h.2.2.1) fun w => ev_f (Nat.succ h.2.2.2.1) fun c => ev_f (Nat.add h.2.2.2.2 nf) fun s => k n (t, (h.2.1, (w, (c, s))))) none
noncomputable def ev_newa (h : ev_H) (kd len : Nat) (k : Nat → ev_H → ev_O) : ev_O :=
  ev_if (Nat.ble len 1048576) (ev_f (Nat.add h.2.2.1 64) fun n => ev_if (Nat.ble (Nat.succ n) 1088) (ev_set none h.1 n (some (.inr (kd, (len, .leaf 0)))) 0 1088 fun t => ev_f (Nat.succ h.2.2.1) fun w => ev_f (Nat.succ h.2.2.2.1) fun c => ev_f (Nat.add h.2.2.2.2 len) fun s => k n (t, (h.2.1, (w, (c, s))))) none) none
-- texts
def ev_txl : List Nat := [71, 5, 5, 7, 6, 4]
def ev_txn : List Nat := [224375724391506780786206823646686434882462391710806834012799524572200523837949303952531699496827962070261752963757603889443898195708970077398753248030541589359598865969000, 495874961256, 495623108980, 28538277257700723, 111546599436898, 1702063980]
noncomputable def ev_slen (a : Nat) (k : Nat → ev_O) : ev_O := ev_if (Nat.ble 16 a) (ev_if (Nat.ble a 21) (ev_f (ev_nth 0 ev_txl (Nat.sub a 16)) k) none) none
noncomputable def ev_schar (a i : Nat) (k : Nat → ev_O) : ev_O := ev_if (Nat.ble 16 a) (ev_if (Nat.ble a 21) (ev_if (Nat.ble (Nat.succ i) (ev_nth 0 ev_txl (Nat.sub a 16))) (ev_f (Nat.land (Nat.shiftRight (ev_nth 0 ev_txn (Nat.sub a 16)) (Nat.mul 8 i)) 255) k) none) none) none
/-- Integer.compare -/
noncomputable def ev_icompare (_ : ev_H) (a b : Nat) (k : Nat → ev_O) : ev_O := ev_if (Nat.ble (Nat.lor a b) 4294967295) (ev_if (Nat.beq a b) (k 0) (ev_if (Nat.ble (ev_s a) (ev_s b)) (k 4294967295) (k 1))) none
-- ends, calls
noncomputable def ev_ret (v : Nat) (h : ev_H) : ev_O := some (.inl (v, h))
noncomputable def ev_zret (v : Nat) (h : ev_H) : ev_O := ev_if (Nat.ble v 1) (some (.inl (v, h))) none
noncomputable def ev_throw (E : Nat) (h : ev_H) : ev_O := ev_f (Nat.succ h.2.2.2.1) fun c => ev_f (Nat.add h.2.2.2.2 6) fun s => some (.inr (E, (h.1, (h.2.1, (h.2.2.1, (c, s))))))
noncomputable def ev_call (o : ev_O) (k : Nat → ev_H → ev_O) (x : Nat → ev_H → ev_O) : ev_O :=
  Option.rec (motive := fun _ => ev_O) none (fun X => Sum.rec (motive := fun _ => ev_O) (fun q => Prod.rec (motive := fun _ => ev_O) k q) (fun q => Prod.rec (motive := fun _ => ev_O) x q) X) o
noncomputable def ev_thr (E : Nat) (h : ev_H) : ev_O := some (.inr (E, h))
/-- the places below n of an array, from another one: whole leaves, then a part of one -/
noncomputable def ev_cpl (S : ev_T) (len : Nat) : Nat → ev_T → (ev_T → ev_O) → ev_O :=
  Nat.rec (motive := fun _ => ev_T → (ev_T → ev_O) → ev_O) (fun T k => k T) (fun m ih T k => ev_f (S.get m) fun N => ev_set none T m N 0 (Nat.succ (Nat.shiftRight len 5)) fun T => ih T k)
noncomputable def ev_copy (h : ev_H) (a sp b dp n : Nat) (k : ev_H → ev_O) : ev_O :=
  ev_if (Nat.beq (Nat.add sp dp) 0) (ev_cell (h.1.get a) none (fun _ _ => none) fun d1 l1 S => ev_cell (h.1.get b) none (fun _ _ => none) fun d2 l2 T =>
    ev_if (Nat.beq (Nat.add d1 d2) 0) (ev_if (Nat.ble n l1) (ev_if (Nat.ble n l2)
      (ev_cpl S l2 (Nat.shiftRight n 5) T fun T => ev_f (Nat.shiftRight n 5) fun j => ev_f (Nat.mul 80 (Nat.land n 31)) fun q =>
        ev_f (Nat.lor (Nat.land (S.get j) (Nat.sub (Nat.shiftLeft 1 q) 1)) (Nat.shiftLeft (Nat.shiftRight (T.get j) q) q)) fun N =>
          ev_set none T j N 0 (Nat.succ (Nat.shiftRight l2 5)) fun T => ev_set none h.1 b (some (.inr (0, (l2, T)))) 0 1088 fun t => k (t, h.2)) none) none) none) none
