/-! THE EVALUATOR: a method's code as a closure over locals, operand stack and a heap of written cells; strict, for the kernel.
    ev_V: a value: int (as a word below 2^32), cell of the world, long (as a word below 2^64), an int of which only bounds are known (both plus 2^31), a long of which only bounds are known (both plus 2^63), others by a code:
    0 null, 1 no value (an unset local, a long's second half), 2 the script, 3 a reference of which nothing is known, 4 the double 0.0, 5 void, 16 + 2 j the text j, 17 + 2 j its row of bytes -/
abbrev ev_V : Type := Nat ⊕ (Nat ⊕ (Nat ⊕ ((Nat × Nat) ⊕ ((Nat × Nat) ⊕ Nat))))
abbrev ev_i (n : Nat) : ev_V := .inl n
abbrev ev_r (n : Nat) : ev_V := .inr (.inl n)
abbrev ev_l (n : Nat) : ev_V := .inr (.inr (.inl n))
abbrev ev_ir (a b : Nat) : ev_V := .inr (.inr (.inr (.inl (a, b))))
abbrev ev_lr (a b : Nat) : ev_V := .inr (.inr (.inr (.inr (.inl (a, b)))))
abbrev ev_o (n : Nat) : ev_V := .inr (.inr (.inr (.inr (.inr n))))
abbrev ev_T : Type := Lean.RArray ev_V
/-- a cell: an object (its class, its fields) or an array (its kind, its length, its contents) -/
abbrev ev_C : Type := (Nat × List ev_V) ⊕ (Nat × (Nat × ev_T))
/-- the cells by their numbers; whether the next number is the number of cells made; cells made, slots made -/
abbrev ev_H : Type := Lean.RArray (Option ev_C) × (Bool × (Nat × Nat))
/-- an end: returned, thrown (the class of the exception), stopped -/
abbrev ev_X : Type := (ev_V × ev_H) ⊕ ((Nat × ev_H) ⊕ (List ev_V × (List ev_V × ev_H)))
abbrev ev_O : Type := Option ev_X
/-- jumps (to a block), calls (of a method) -/
abbrev ev_E : Type := (Nat → List ev_V → List ev_V → ev_H → ev_O) × (Nat → List ev_V → ev_H → ev_O)
abbrev ev_K : Type := ev_E → List ev_V → List ev_V → ev_H → ev_O
/-- a number, counted out -/
noncomputable def ev_f {R : Type} (n : Nat) (k : Nat → R) : R := Nat.rec (motive := fun _ => R) (k 0) (fun m _ => k (Nat.succ m)) n
noncomputable def ev_if {R : Type} (b : Bool) (x y : R) : R := Bool.rec (motive := fun _ => R) y x b
/-- the place n of a list -/
noncomputable def ev_nth {α R : Type} (z : R) (ls : List α) (n : Nat) (k : α → R) : R :=
  List.rec (motive := fun _ => Nat → R) (fun _ => z) (fun v _ ih n => Nat.rec (motive := fun _ => R) (k v) (fun m _ => ih m) n) ls n
noncomputable def ev_upd {α R : Type} (z : R) (ls : List α) (n : Nat) (x : α) (k : List α → R) : R :=
  List.rec (motive := fun _ => Nat → (List α → R) → R) (fun _ _ => z) (fun v t ih n k => Nat.rec (motive := fun _ => R) (k (x :: t)) (fun m _ => ih m (fun t' => k (v :: t'))) n) ls n k
/-- the place i of a leaf that stands for the places from lo on below hi -/
noncomputable def ev_lset {α R : Type} (f : Nat) (a : α) (i : Nat) (x : α) : Nat → Nat → (Lean.RArray α → R) → R :=
  Nat.rec (motive := fun _ => Nat → Nat → (Lean.RArray α → R) → R) (fun _ _ k => k (.leaf x))
    (fun _ ih lo hi k => ev_if (Nat.ble hi (Nat.succ lo)) (k (.leaf x))
      (ev_f ((lo + hi) / 2) fun mid => ev_if (Nat.ble mid i) (ih mid hi fun r => k (.branch mid (.leaf a) r)) (ih lo mid fun l => k (.branch mid l (.leaf a))))) f
noncomputable def ev_set {α R : Type} (t : Lean.RArray α) (i : Nat) (x : α) (lo hi : Nat) (k : Lean.RArray α → R) : R :=
  Lean.RArray.rec (motive := fun _ => Nat → Nat → (Lean.RArray α → R) → R) (fun a lo hi k => ev_lset 20 a i x lo hi k)
    (fun p l r ihl ihr lo hi k => ev_if (Nat.ble p i) (ihr p hi fun r' => k (.branch p l r')) (ihl lo p fun l' => k (.branch p l' r))) t lo hi k
/-- cells live below this number -/
abbrev ev_M : Nat := 1024
/-- the bounds of an int -/
noncomputable def ev_bd (v : ev_V) (k : Nat → Nat → ev_O) : ev_O := match v with
  | .inl n => ev_f ((n + 2147483648) % 4294967296) fun b => k b b
  | .inr (.inr (.inr (.inl (a, b)))) => k a b
  | _ => none
noncomputable def ev_lbd (v : ev_V) (k : Nat → Nat → ev_O) : ev_O := match v with
  | .inr (.inr (.inl n)) => ev_f ((n + 9223372036854775808) % 18446744073709551616) fun b => k b b
  | .inr (.inr (.inr (.inr (.inl (a, b))))) => k a b
  | _ => none
abbrev ev_s (n : Nat) : Nat := (n + 2147483648) % 4294967296
-- loads, stores
noncomputable def xo_iload (n : Nat) (K : ev_K) : ev_K := fun e ls st h => ev_nth none ls n fun v => match v with
  | .inl a => K e ls (ev_i a :: st) h
  | .inr (.inr (.inr (.inl (a, b)))) => K e ls (ev_ir a b :: st) h
  | _ => none
noncomputable def xo_lload (n : Nat) (K : ev_K) : ev_K := fun e ls st h => ev_nth none ls n fun v => match v with
  | .inr (.inr (.inl a)) => K e ls (ev_l a :: st) h
  | .inr (.inr (.inr (.inr (.inl (a, b))))) => K e ls (ev_lr a b :: st) h
  | _ => none
noncomputable def xo_dload (n : Nat) (K : ev_K) : ev_K := fun e ls st h => ev_nth none ls n fun v => match v with
  | .inr (.inr (.inr (.inr (.inr 4)))) => K e ls (ev_o 4 :: st) h
  | _ => none
/-- a code of a reference -/
def ev_ro (n : Nat) : Bool := Nat.beq n 0 || Nat.beq n 2 || Nat.beq n 3 || Nat.ble 16 n
noncomputable def xo_aload (n : Nat) (K : ev_K) : ev_K := fun e ls st h => ev_nth none ls n fun v => match v with
  | .inr (.inl a) => K e ls (ev_r a :: st) h
  | .inr (.inr (.inr (.inr (.inr c)))) => ev_if (ev_ro c) (K e ls (ev_o c :: st) h) none
  | _ => none
noncomputable def xo_istore (n : Nat) (K : ev_K) : ev_K := fun e ls st h => match st with
  | .inl a :: st => ev_upd none ls n (ev_i a) fun ls => K e ls st h
  | .inr (.inr (.inr (.inl (a, b)))) :: st => ev_upd none ls n (ev_ir a b) fun ls => K e ls st h
  | _ => none
noncomputable def xo_lstore (n : Nat) (K : ev_K) : ev_K := fun e ls st h => match st with
  | .inr (.inr (.inl a)) :: st => ev_upd none ls n (ev_l a) fun ls => ev_upd none ls (n + 1) (ev_o 1) fun ls => K e ls st h
  | .inr (.inr (.inr (.inr (.inl (a, b))))) :: st => ev_upd none ls n (ev_lr a b) fun ls => ev_upd none ls (n + 1) (ev_o 1) fun ls => K e ls st h
  | _ => none
noncomputable def xo_dstore (n : Nat) (K : ev_K) : ev_K := fun e ls st h => match st with
  | .inr (.inr (.inr (.inr (.inr 4)))) :: st => ev_upd none ls n (ev_o 4) fun ls => ev_upd none ls (n + 1) (ev_o 1) fun ls => K e ls st h
  | _ => none
noncomputable def xo_astore (n : Nat) (K : ev_K) : ev_K := fun e ls st h => match st with
  | .inr (.inl a) :: st => ev_upd none ls n (ev_r a) fun ls => K e ls st h
  | .inr (.inr (.inr (.inr (.inr c)))) :: st => ev_if (ev_ro c) (ev_upd none ls n (ev_o c) fun ls => K e ls st h) none
  | _ => none
noncomputable def xo_iinc (n d : Nat) (K : ev_K) : ev_K := fun e ls st h => ev_nth none ls n fun v => match v with
  | .inl a => ev_f ((a + d) % 4294967296) fun r => ev_upd none ls n (ev_i r) fun ls => K e ls st h
  | _ => none
-- constants, stack
noncomputable def xo_push (v : ev_V) (K : ev_K) : ev_K := fun e ls st h => K e ls (v :: st) h
noncomputable def xo_pop (K : ev_K) : ev_K := fun e ls st h => match st with
  | .inl _ :: st => K e ls st h
  | .inr (.inl _) :: st => K e ls st h
  | _ => none
noncomputable def xo_dup (K : ev_K) : ev_K := fun e ls st h => match st with
  | .inl a :: st => K e ls (ev_i a :: ev_i a :: st) h
  | .inr (.inl a) :: st => K e ls (ev_r a :: ev_r a :: st) h
  | _ => none
noncomputable def xo_dup2 (K : ev_K) : ev_K := fun e ls st h => match st with
  | .inl a :: .inr (.inl b) :: st => K e ls (ev_i a :: ev_r b :: ev_i a :: ev_r b :: st) h
  | _ => none
-- arithmetic
noncomputable def xo_iadd (K : ev_K) : ev_K := fun e ls st h => match st with
  | .inl b :: .inl a :: st => ev_f ((a + b) % 4294967296) fun r => K e ls (ev_i r :: st) h
  | _ => none
noncomputable def xo_isub (K : ev_K) : ev_K := fun e ls st h => match st with
  | .inl b :: .inl a :: st => ev_f ((a + (4294967296 - b)) % 4294967296) fun r => K e ls (ev_i r :: st) h
  | _ => none
noncomputable def xo_imul (K : ev_K) : ev_K := fun e ls st h => match st with
  | .inl b :: .inl a :: st => ev_f ((a * b) % 4294967296) fun r => K e ls (ev_i r :: st) h
  | _ => none
noncomputable def xo_idiv (K : ev_K) : ev_K := fun e ls st h => match st with
  | .inl b :: .inl a :: st => ev_if (Nat.ble 1 b && Nat.ble b 2147483647 && Nat.ble a 2147483647) (ev_f (a / b) fun r => K e ls (ev_i r :: st) h) none
  | _ => none
noncomputable def xo_irem (K : ev_K) : ev_K := fun e ls st h => match st with
  | .inl b :: .inl a :: st => ev_if (Nat.ble 1 b && Nat.ble b 2147483647 && Nat.ble a 2147483647) (ev_f (a % b) fun r => K e ls (ev_i r :: st) h) none
  | _ => none
noncomputable def xo_iand (K : ev_K) : ev_K := fun e ls st h => match st with
  | .inl b :: .inl a :: st => ev_f (Nat.land a b) fun r => K e ls (ev_i r :: st) h
  | .inl _ :: .inr (.inr (.inr (.inl _))) :: st => K e ls (ev_ir 0 4294967295 :: st) h
  | _ => none
noncomputable def xo_ior (K : ev_K) : ev_K := fun e ls st h => match st with
  | .inl b :: .inl a :: st => ev_f (Nat.lor a b) fun r => K e ls (ev_i r :: st) h
  | _ => none
/-- shifts by a number below 32 -/
noncomputable def xo_ishl (K : ev_K) : ev_K := fun e ls st h => match st with
  | .inl b :: .inl a :: st => ev_if (Nat.ble b 31) (ev_f (Nat.shiftLeft a b % 4294967296) fun r => K e ls (ev_i r :: st) h) none
  | _ => none
noncomputable def xo_ishr (K : ev_K) : ev_K := fun e ls st h => match st with
  | .inl b :: .inl a :: st => ev_if (Nat.ble b 31 && Nat.ble a 2147483647) (ev_f (Nat.shiftRight a b) fun r => K e ls (ev_i r :: st) h) none
  | .inl _ :: .inr (.inr (.inr (.inl _))) :: st => K e ls (ev_ir 0 4294967295 :: st) h
  | _ => none
noncomputable def xo_iushr (K : ev_K) : ev_K := fun e ls st h => match st with
  | .inl b :: .inl a :: st => ev_if (Nat.ble b 31) (ev_f (Nat.shiftRight a b) fun r => K e ls (ev_i r :: st) h) none
  | .inl _ :: .inr (.inr (.inr (.inl _))) :: st => K e ls (ev_ir 0 4294967295 :: st) h
  | _ => none
noncomputable def xo_i2b (K : ev_K) : ev_K := fun e ls st h => match st with
  | .inl a :: st => ev_if (Nat.ble a 127) (K e ls (ev_i a :: st) h) none
  | .inr (.inr (.inr (.inl _))) :: st => K e ls (ev_ir 0 4294967295 :: st) h
  | _ => none
noncomputable def xo_i2l (K : ev_K) : ev_K := fun e ls st h => match st with
  | .inl a :: st => ev_f (ev_if (Nat.ble a 2147483647) a (a + 18446744069414584320)) fun r => K e ls (ev_l r :: st) h
  | .inr (.inr (.inr (.inl (a, b)))) :: st => ev_f (a + 9223372034707292160) fun a => ev_f (b + 9223372034707292160) fun b => K e ls (ev_lr a b :: st) h
  | _ => none
noncomputable def xo_l2i (K : ev_K) : ev_K := fun e ls st h => match st with
  | .inr (.inr (.inl a)) :: st => ev_f (a % 4294967296) fun r => K e ls (ev_i r :: st) h
  | _ => none
noncomputable def xo_ladd (K : ev_K) : ev_K := fun e ls st h => match st with
  | .inr (.inr (.inl b)) :: .inr (.inr (.inl a)) :: st => ev_f ((a + b) % 18446744073709551616) fun r => K e ls (ev_l r :: st) h
  | _ => none
noncomputable def xo_lsub (K : ev_K) : ev_K := fun e ls st h => match st with
  | .inr (.inr (.inl b)) :: .inr (.inr (.inl a)) :: st => ev_f ((a + (18446744073709551616 - b)) % 18446744073709551616) fun r => K e ls (ev_l r :: st) h
  | _ => none
noncomputable def xo_lmul (K : ev_K) : ev_K := fun e ls st h => match st with
  | .inr (.inr (.inl b)) :: .inr (.inr (.inl a)) :: st => ev_f ((a * b) % 18446744073709551616) fun r => K e ls (ev_l r :: st) h
  | _ => none
noncomputable def xo_lcmp (K : ev_K) : ev_K := fun e ls st h => match st with
  | vb :: va :: st => ev_lbd va fun a1 a2 => ev_lbd vb fun b1 b2 =>
    ev_if (Nat.ble b1 a1 && Nat.ble a2 b2 && Nat.beq b1 b2) (K e ls (ev_i 0 :: st) h)
      (ev_if (Nat.blt b2 a1) (K e ls (ev_i 1 :: st) h)
        (ev_if (Nat.blt a2 b1) (K e ls (ev_i 4294967295 :: st) h)
          (ev_if (Nat.ble b2 a1) (K e ls (ev_ir 2147483648 2147483649 :: st) h)
            (ev_if (Nat.ble a2 b1) (K e ls (ev_ir 2147483647 2147483648 :: st) h) none))))
  | _ => none
noncomputable def xo_dcmp (K : ev_K) : ev_K := fun e ls st h => match st with
  | .inr (.inr (.inr (.inr (.inr 4)))) :: .inr (.inr (.inr (.inr (.inr 4)))) :: st => K e ls (ev_i 0 :: st) h
  | _ => none
-- branches
noncomputable def xo_goto (t : Nat) : ev_K := fun e ls st h => e.1 t ls st h
/-- c: 0 eq, 1 ne, 2 lt, 3 ge, 4 gt, 5 le; z: what is tested against; yes, no, or not known -/
noncomputable def ev_dec (c : Nat) (a1 a2 b1 b2 : Nat) (x y : ev_O) : ev_O :=
  Nat.rec (motive := fun _ => ev_O) (ev_if (Nat.ble a2 b1 && Nat.ble b2 a1) x (ev_if (Nat.blt a2 b1 || Nat.blt b2 a1) y none))
  (fun c _ => Nat.rec (motive := fun _ => ev_O) (ev_if (Nat.ble a2 b1 && Nat.ble b2 a1) y (ev_if (Nat.blt a2 b1 || Nat.blt b2 a1) x none))
  (fun c _ => Nat.rec (motive := fun _ => ev_O) (ev_if (Nat.blt a2 b1) x (ev_if (Nat.ble b2 a1) y none))
  (fun c _ => Nat.rec (motive := fun _ => ev_O) (ev_if (Nat.ble b2 a1) x (ev_if (Nat.blt a2 b1) y none))
  (fun c _ => Nat.rec (motive := fun _ => ev_O) (ev_if (Nat.blt b2 a1) x (ev_if (Nat.ble a2 b1) y none))
  (fun _ _ => ev_if (Nat.ble a2 b1) x (ev_if (Nat.blt b2 a1) y none)) c) c) c) c) c
noncomputable def xo_icmp (c t : Nat) (K : ev_K) : ev_K := fun e ls st h => match st with
  | vb :: va :: st => ev_bd va fun a1 a2 => ev_bd vb fun b1 b2 => ev_dec c a1 a2 b1 b2 (e.1 t ls st h) (K e ls st h)
  | _ => none
noncomputable def xo_ifc (c t : Nat) (K : ev_K) : ev_K := fun e ls st h => match st with
  | va :: st => ev_bd va fun a1 a2 => ev_dec c a1 a2 2147483648 2147483648 (e.1 t ls st h) (K e ls st h)
  | _ => none
noncomputable def xo_ifnull (t : Nat) (K : ev_K) : ev_K := fun e ls st h => match st with
  | .inr (.inl _) :: st => K e ls st h
  | .inr (.inr (.inr (.inr (.inr 0)))) :: st => e.1 t ls st h
  | _ => none
noncomputable def xo_ifnonnull (t : Nat) (K : ev_K) : ev_K := fun e ls st h => match st with
  | .inr (.inl _) :: st => e.1 t ls st h
  | .inr (.inr (.inr (.inr (.inr 0)))) :: st => K e ls st h
  | _ => none
/-- a switch from 0 on -/
noncomputable def xo_switch (ts : List Nat) (d : Nat) : ev_K := fun e ls st h => match st with
  | .inl a :: st => ev_nth (e.1 d ls st h) ts a fun t => e.1 t ls st h
  | .inr (.inr (.inr (.inl (a, b)))) :: st => ev_if (Nat.blt b 2147483648 || Nat.ble (2147483648 + ts.length) a) (e.1 d ls st h) none
  | _ => none
-- fields, arrays
noncomputable def xo_getf (ci k : Nat) (K : ev_K) : ev_K := fun e ls st h => match st with
  | .inr (.inl a) :: st => match h.1.get a with
    | some (.inl (c, fs)) => ev_if (Nat.beq c ci) (ev_nth none fs k fun v => K e ls (v :: st) h) none
    | _ => none
  | _ => none
/-- kd: 0 int, 1 boolean or byte, 2 a reference (null or a cell) -/
noncomputable def ev_ok (kd : Nat) (v : ev_V) : Bool := match v with
  | .inl n => Nat.beq kd 0 || (Nat.beq kd 1 && Nat.ble n 1)
  | .inr (.inl _) => Nat.beq kd 2
  | .inr (.inr (.inr (.inl _))) => Nat.beq kd 0
  | .inr (.inr (.inr (.inr (.inr 0)))) => Nat.beq kd 2
  | _ => false
noncomputable def xo_putf (ci k kd : Nat) (K : ev_K) : ev_K := fun e ls st h => match st with
  | v :: .inr (.inl a) :: st => ev_if (ev_ok kd v) (match h with
    | (t, m) => match t.get a with
      | some (.inl (c, fs)) => ev_if (Nat.beq c ci) (ev_upd none fs k v fun fs => ev_set t a (some (.inl (c, fs))) 0 ev_M fun t => K e ls st (t, m)) none
      | _ => none) none
  | _ => none
noncomputable def xo_alen (K : ev_K) : ev_K := fun e ls st h => match st with
  | .inr (.inl a) :: st => match h.1.get a with
    | some (.inr (_, (n, _))) => K e ls (ev_i n :: st) h
    | _ => none
  | _ => none
noncomputable def ev_fv {R : Type} (v : ev_V) (k : ev_V → R) : R := match v with
  | .inl n => k (.inl n)
  | .inr w => k (.inr w)
/-- of the kinds lo to hi -/
noncomputable def xo_ald (lo hi : Nat) (K : ev_K) : ev_K := fun e ls st h => match st with
  | .inl i :: .inr (.inl a) :: st => match h.1.get a with
    | some (.inr (d, (n, t))) => ev_if (Nat.ble lo d && Nat.ble d hi && Nat.blt i n) (ev_fv (t.get i) fun v => K e ls (v :: st) h) none
    | _ => none
  | _ => none
noncomputable def xo_ast (lo hi fk : Nat) (K : ev_K) : ev_K := fun e ls st h => match st with
  | v :: .inl i :: .inr (.inl a) :: st => ev_if (ev_ok fk v) (match h with
    | (t, m) => match t.get a with
      | some (.inr (d, (n, c))) => ev_if (Nat.ble lo d && Nat.ble d hi && Nat.blt i n) (ev_set c i v 0 n fun c => ev_set t a (some (.inr (d, (n, c)))) 0 ev_M fun t => K e ls st (t, m)) none
      | _ => none) none
  | _ => none
/-- a byte (kind 1) or a boolean (kind 2); of a byte that isn't known nothing is kept -/
noncomputable def xo_bast (K : ev_K) : ev_K := fun e ls st h => match st with
  | v :: .inl i :: .inr (.inl a) :: st => match h with
    | (t, m) => match t.get a with
      | some (.inr (d, (n, c))) => ev_if (Nat.blt i n && (match v with
          | .inl x => (Nat.beq d 1 && Nat.ble x 127) || (Nat.beq d 2 && Nat.ble x 1)
          | .inr (.inr (.inr (.inl (lo, hi)))) => Nat.beq d 1 && Nat.beq lo 0 && Nat.beq hi 4294967295
          | _ => false)) (ev_set c i v 0 n fun c => ev_set t a (some (.inr (d, (n, c)))) 0 ev_M fun t => K e ls st (t, m)) none
      | _ => none
  | _ => none
/-- long arrays: longs alone -/
noncomputable def xo_last (kd : Nat) (K : ev_K) : ev_K := fun e ls st h => match st with
  | .inr (.inr (.inl x)) :: .inl i :: .inr (.inl a) :: st => match h with
    | (t, m) => match t.get a with
      | some (.inr (d, (n, c))) => ev_if (Nat.beq d kd && Nat.blt i n) (ev_set c i (ev_l x) 0 n fun c => ev_set t a (some (.inr (d, (n, c)))) 0 ev_M fun t => K e ls st (t, m)) none
      | _ => none
  | _ => none
-- making
noncomputable def xo_new (ci n : Nat) (fs : List ev_V) (K : ev_K) : ev_K := fun e ls st h => match h with
  | (t, (ex, (c, s))) => ev_if ex (ev_if (Nat.blt c ev_M) (ev_set t c (some (.inl (ci, fs))) 0 ev_M fun t => ev_f (c + 1) fun c1 => ev_f (s + n) fun s => K e ls (ev_r c :: st) (t, (true, (c1, s)))) none) none
noncomputable def xo_newa (kd : Nat) (z : ev_V) (K : ev_K) : ev_K := fun e ls st h => match st with
  | .inl n :: st => match h with
    | (t, (ex, (c, s))) => ev_if ex (ev_if (Nat.blt c ev_M && Nat.ble n 1048576) (ev_set t c (some (.inr (kd, (n, .leaf z)))) 0 ev_M fun t => ev_f (c + 1) fun c1 => ev_f (s + n) fun s => K e ls (ev_r c :: st) (t, (true, (c1, s)))) none) none
  | _ => none
/-- 'throw new E(text)' -/
noncomputable def xo_throw (E : Nat) : ev_K := fun _ _ _ h => match h with
  | (t, (_, (c, s))) => ev_f (c + 1) fun c => ev_f (s + 6) fun s => some (.inr (.inl (E, (t, (false, (c, s))))))
-- calls
/-- the n + 1 uppermost values, and what is below -/
noncomputable def ev_take {α R : Type} (z : R) (n : Nat) (st acc : List α) (k : List α → List α → R) : R :=
  Nat.rec (motive := fun _ => List α → List α → R) (fun st acc => k acc st) (fun _ ih st acc => List.rec (motive := fun _ => R) z (fun v t _ => ih t (v :: acc)) st) n st acc
noncomputable def xo_call (y n : Nat) (hs : List (Nat × Nat)) (K : ev_K) : ev_K := fun e ls st h => ev_take none n st [] fun as st => match e.2 y as h with
  | some (.inl (v, h)) => match v with
    | .inr (.inr (.inr (.inr (.inr 5)))) => K e ls st h
    | v => K e ls (v :: st) h
  | some (.inr (.inl (E, h))) => List.rec (motive := fun _ => ev_O) (some (.inr (.inl (E, h)))) (fun x _ ih => ev_if (Nat.beq x.1 E) (e.1 x.2 ls [ev_o 3] h) ih) hs
  | _ => none
/-- of an object of the class ci -/
noncomputable def xo_callv (y n ci : Nat) (hs : List (Nat × Nat)) (K : ev_K) : ev_K := fun e ls st h => ev_take none n st [] fun as st => match as with
  | .inr (.inl a) :: _ => match h.1.get a with
    | some (.inl (c, _)) => ev_if (Nat.beq c ci) (match e.2 y as h with
      | some (.inl (v, h)) => match v with
        | .inr (.inr (.inr (.inr (.inr 5)))) => K e ls st h
        | v => K e ls (v :: st) h
      | some (.inr (.inl (E, h))) => List.rec (motive := fun _ => ev_O) (some (.inr (.inl (E, h)))) (fun x _ ih => ev_if (Nat.beq x.1 E) (e.1 x.2 ls [ev_o 3] h) ih) hs
      | _ => none) none
    | _ => none
  | _ => none
/-- Math.min, Math.max of two ints -/
noncomputable def xo_mmin (K : ev_K) : ev_K := fun e ls st h => match st with
  | .inl b :: .inl a :: st => ev_if (Nat.ble (ev_s a) (ev_s b)) (K e ls (ev_i a :: st) h) (K e ls (ev_i b :: st) h)
  | _ => none
noncomputable def xo_mmax (K : ev_K) : ev_K := fun e ls st h => match st with
  | .inl b :: .inl a :: st => ev_if (Nat.ble (ev_s a) (ev_s b)) (K e ls (ev_i b :: st) h) (K e ls (ev_i a :: st) h)
  | _ => none
/-- place by place: n values of f from sp on go to g from dp on (f before any of them is written) -/
noncomputable def ev_cpy (f : ev_T) (sp dp hi : Nat) (n : Nat) (g : ev_T) (k : ev_T → ev_O) : ev_O :=
  Nat.rec (motive := fun _ => ev_T → (ev_T → ev_O) → ev_O) (fun g k => k g) (fun m ih g k => ev_fv (f.get (sp + m)) fun v => ev_set g (dp + m) v 0 hi fun g => ih g k) n g k
/-- System.arraycopy of int arrays -/
noncomputable def xo_copyi (kd : Nat) (K : ev_K) : ev_K := fun e ls st h => match st with
  | .inl n :: .inl dp :: .inr (.inl b) :: .inl sp :: .inr (.inl a) :: st => match h with
    | (t, m) => match t.get a with
      | some (.inr (d1, (n1, c1))) => match t.get b with
        | some (.inr (d2, (n2, c2))) => ev_if (Nat.beq d1 kd && Nat.beq d2 kd && Nat.ble (sp + n) n1 && Nat.ble (dp + n) n2)
            (ev_cpy c1 sp dp n2 n c2 fun c => ev_set t b (some (.inr (d2, (n2, c)))) 0 ev_M fun t => K e ls st (t, m)) none
        | _ => none
      | _ => none
  | _ => none
/-- String.length, String.charAt of a text -/
noncomputable def xo_slen (tx : List (List Nat)) (K : ev_K) : ev_K := fun e ls st h => match st with
  | .inr (.inr (.inr (.inr (.inr c)))) :: st => ev_if (Nat.ble 16 c) (ev_nth none tx ((c - 16) / 2) fun bs => ev_f bs.length fun n => K e ls (ev_i n :: st) h) none
  | _ => none
noncomputable def xo_schar (tx : List (List Nat)) (K : ev_K) : ev_K := fun e ls st h => match st with
  | .inl i :: .inr (.inr (.inr (.inr (.inr c)))) :: st => ev_if (Nat.ble 16 c) (ev_nth none tx ((c - 16) / 2) fun bs => ev_nth none bs i fun b => K e ls (ev_i b :: st) h) none
  | _ => none
-- ends
noncomputable def xo_iret : ev_K := fun _ _ st h => match st with
  | [.inl a] => some (.inl (ev_i a, h))
  | [.inr (.inr (.inr (.inl (a, b))))] => some (.inl (ev_ir a b, h))
  | _ => none
noncomputable def xo_zret : ev_K := fun _ _ st h => match st with
  | [.inl a] => ev_if (Nat.ble a 1) (some (.inl (ev_i a, h))) none
  | _ => none
noncomputable def xo_lret : ev_K := fun _ _ st h => match st with
  | [.inr (.inr (.inl a))] => some (.inl (ev_l a, h))
  | _ => none
noncomputable def xo_dret : ev_K := fun _ _ st h => match st with
  | [.inr (.inr (.inr (.inr (.inr 4))))] => some (.inl (ev_o 4, h))
  | _ => none
noncomputable def xo_aret : ev_K := fun _ _ st h => match st with
  | [.inr (.inl a)] => some (.inl (ev_r a, h))
  | _ => none
noncomputable def xo_vret : ev_K := fun _ _ st h => match st with
  | [] => some (.inl (ev_o 5, h))
  | _ => none
/-- a place where the walk stops -/
noncomputable def xo_stop : ev_K := fun _ ls st h => some (.inr (.inr (ls, (st, h))))
/-- a place that no run reaches -/
def xo_no : ev_K := fun _ _ _ _ => none
/-- the locals at a method's entry: a long takes two -/
noncomputable def ev_args (as : List ev_V) (k : List ev_V → ev_O) : ev_O :=
  List.rec (motive := fun _ => (List ev_V → ev_O) → ev_O) (fun k => k []) (fun v _ ih k => match v with
    | .inr (.inr (.inl n)) => ih fun t => k (ev_l n :: ev_o 1 :: t)
    | .inr (.inr (.inr (.inr (.inl (a, b))))) => ih fun t => k (ev_lr a b :: ev_o 1 :: t)
    | v => ih fun t => k (v :: t)) as k
/-- filled up to n places -/
noncomputable def ev_pad (n : Nat) (ls : List ev_V) (k : List ev_V → ev_O) : ev_O :=
  Nat.rec (motive := fun _ => List ev_V → (List ev_V → ev_O) → ev_O) (fun ls k => List.rec (motive := fun _ => ev_O) (k []) (fun _ _ _ => none) ls)
    (fun _ ih ls k => List.rec (motive := fun _ => ev_O) (ih [] fun t => k (ev_o 1 :: t)) (fun v t _ => ih t fun t => k (v :: t)) ls) n ls k
/-- a method: its locals, its blocks -/
abbrev ev_P : Type := Lean.RArray (Nat × Lean.RArray ev_K)
noncomputable def ev_go (P : ev_P) (f : Nat) : Lean.RArray ev_K → Nat → List ev_V → List ev_V → ev_H → ev_O :=
  Nat.rec (motive := fun _ => Lean.RArray ev_K → Nat → List ev_V → List ev_V → ev_H → ev_O) (fun _ _ _ _ _ => none)
    (fun _ ih bt n ls st h => bt.get n (ih bt, fun y as h => match P.get y with
      | (nl, bt) => ev_args as fun as => ev_pad nl as fun ls => ih bt 0 ls [] h) ls st h) f
noncomputable def ev_run (P : ev_P) (f : Nat) (y : Nat) (as : List ev_V) (h : ev_H) : ev_O := match P.get y with
  | (nl, bt) => ev_args as fun as => ev_pad nl as fun ls => ev_go P f bt 0 ls [] h
