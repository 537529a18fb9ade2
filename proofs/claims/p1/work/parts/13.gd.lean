/-! THE WALK: what a code says of the machine -/
def ev_nestw : Cond → Bool
  | .fieldLinkNest _ _ _ _ _ _ => true
  | .methodLinkNest _ _ _ _ => true
  | .castable _ _ => true
  | .declares _ => true
  | _ => false
abbrev ev_cl : List vw_C := [(RX0, TX0, 3), (RX1, TX1, 19), (RX2, TX2, 4), (RX3, TX3, 8), (RX4, TX4, 4), (RX5, TX5, 2), (RX6, TX6, 9), (RX7, TX7, 28)]
def ev_kind : FieldType → Nat
  | .int => 1
  | .boolean => 1
  | .byte => 1
  | .long => 2
  | _ => 3
def ev_kf (ci : Nat) : List Nat := match ci with
  | 0 => (List.range 3).map fun k => ev_kind (tyX0 k)
  | 1 => (List.range 19).map fun k => ev_kind (tyX1 k)
  | 2 => (List.range 4).map fun k => ev_kind (tyX2 k)
  | 3 => (List.range 8).map fun k => ev_kind (tyX3 k)
  | 4 => (List.range 4).map fun k => ev_kind (tyX4 k)
  | 5 => (List.range 2).map fun k => ev_kind (tyX5 k)
  | 6 => (List.range 9).map fun k => ev_kind (tyX6 k)
  | 7 => (List.range 28).map fun k => ev_kind (tyX7 k)
  | _ => []
/-- the messages of exceptions; the texts that are read -/
def ev_strs : List (String × (Nat × String)) := [(RX6, (77, "the buffer would be longer than 800 bytes")), (RX6, (86, "the buffer is not that long")), (RX6, (97, "the text has an error")), (RX6, (117, "sort is 0 to 2")), (RX6, (131, "nothing has this name")), (RX6, (164, "what is 0 to 11")), (RX6, (385, "there is no such host")), (RX6, (187, "what is 0 to 5")), (RX6, (389, "there is no such service")), (RX6, (192, "what is 0 to 10")), (RX6, (391, "there is no such record")), (RX6, (208, "what is 0 to 7")), (RX6, (387, "there is no such type")), (RX6, (213, "what is 0 to 3")), (RX6, (225, "there is no such message")), (RX6, (397, "message is 0 to 999")), (RX6, (254, "there is no such event")), (RX6, (278, "depth is 0 or 1")), (RX6, (289, "it will not be established within 100 ticks")), (RX6, (399, "ticks is out of range")), (RX6, (294, "the host will not know it within 100 ticks")), (RX6, (296, "there will be stale records for 100 ticks")), (RX6, (395, "port is 1 to 999")), (RX6, (305, "the host has this name, or is off")), (RX6, (311, "it would not be established within 100 ticks")), (RX6, (325, "there is no such byte")), (RX6, (330, "the time would be greater than 5000")), (RX6, (335, "ttl is 20 to 1000, and the buffer a word of 1 to 6 letters")), (RX6, (337, "there are 12 services, or the host has this name")), (RX6, (339, "it is withdrawn")), (RX6, (357, "side is 0 or 1")), (RX6, (362, "the host is off")), (RX6, (370, "it was sent or marked already, or there are 30 marked messages")), (RX6, (375, "there is no change to undo")), (RX6, (393, "there is no such slot")), (RX6, (383, "nothing is saved in the slot"))]
def ev_txts : List (String × (Nat × String)) := [(RX6, (53, "hosts a b;types t;service a t x 80 100;service b t x 90 100;browse a t;")), (RX3, (46, "hosts")), (RX3, (55, "types")), (RX3, (97, "service")), (RX3, (117, "browse")), (RX3, (133, "lose"))]
def ev_En : Nat → String
  | 0 => "java/lang/IllegalStateException"
  | 1 => "java/lang/IllegalArgumentException"
  | 2 => "java/lang/IndexOutOfBoundsException"
  | _ => "java/util/NoSuchElementException"
/-- a text's bytes -/
noncomputable def ev_txb (i j : Nat) : Nat := Nat.land (Nat.shiftRight (ev_nth 0 ev_txn i) (Nat.mul 8 j)) 255
/-- a text's object, and what its methods read -/
def ev_Str (τ : Nat → Nat) (i : Nat) (A : Nat → Prop) (U : State) : Prop :=
  va_O "java/lang/String" (τ (16 + i)) A U U.heap ∧ va_OF "java/lang/String" "coder" "B" (.int 0) (τ (16 + i)) A U U.heap ∧ va_OF "java/lang/String" "value" "[B" (.ref (τ (32 + i))) (τ (16 + i)) A U U.heap ∧
  va_T .byte (τ (32 + i)) (ev_nth 0 ev_txl i) (fun j => .int (Int32.ofNat (ev_txb i j))) A U U.heap ∧
  va_Z "java/lang/String" "COMPACT_STRINGS" "Z" (.int 1) A U U.heap ∧ va_Zq "jdk/internal/util/Preconditions" "SIOOBE_FORMATTER" "Ljava/util/function/BiFunction;" A U U.heap ∧ ∀ E E2 : Nat, E < 4 → E2 < 4 → E ≠ E2 → va_Nc (ev_En E) (ev_En E2) U
/-- what lies outside the world and stays: statics, texts -/
def ev_O2 (τ : Nat → Nat) (A : Nat → Prop) (U : State) : Prop :=
  vx_Zq Bundle.tN "UNASSIGNED_STACK" Bundle.steD A U U.heap ∧ vx_Zq Bundle.tN "SUPPRESSED_SENTINEL" Bundle.listD A U U.heap ∧ va_AO RX1 U ∧ va_AO RX4 U ∧ (∀ q ∈ ev_strs, ∃ sa, vk_R q.1 q.2.1 q.2.2 sa U) ∧
    ∀ (i : Nat) (q : String × (Nat × String)), ev_txts[i]? = some q → vk_R q.1 q.2.1 q.2.2 (τ (16 + i)) U ∧ ev_Str τ i A U
def ev_K (D : va_G) (tys : List (ClassId × FieldType)) (A : Nat → Prop) (τ : Nat → Nat) (U : State) : Prop :=
  va_K D ev_cl tys U ∧ tys.map Prod.snd = [.int, .byte, .boolean, .long, .object RX1, .object RX4] ∧ (∀ w ∈ lw_tbl, ev_nestw w = true → va_Nw w U) ∧ ev_O2 τ A U
/-- an invocation -/
def ev_F (p : Program) (l : Launch) (e : Env) (R : Room) (s : State) (m : MethodId) (args : Array Value) (below : List Frame) (meth : Method) (c : Code) (ρ : Nat → Int32) (τ : Nat → Nat) (D : va_G) (tys : List (ClassId × FieldType)) (A : Nat → Prop) (c0 s0 nL : Nat) (cc : ByteArray) (own : String) (fr lo : Nat) (w0 : va_W) (ret : Option FieldType) (hh : List ExceptionTableEntry) (nm : String) : Prop :=
  p.tables.exec = Jvm.exec ∧ c.code = cc ∧ c.maxLocals = nL ∧ s.vm.findClass own = some m.cls ∧ (∀ w ∈ ev_good, w.before args s = true) ∧ meth.locks = false ∧ ev_K D tys A τ s ∧ (∀ q, s.heap.size ≤ q → A q) ∧ R.frames = fr ∧ R.locals = lo ∧ l.stackTraces = false ∧ meth.sig.returnType = ret ∧ c.exceptionTable.toList = hh ∧ meth.name = nm ∧ (e = e ∧ below = below ∧ ρ = ρ ∧ c0 = c0 ∧ s0 = s0 ∧ w0 = w0)
abbrev ev_c (h : ev_H) : Nat := h.2.2.2.1
abbrev ev_z (h : ev_H) : Nat := h.2.2.2.2
def ev_xh (X : ev_X) : ev_H := match X with
  | .inl q => q.2
  | .inr q => q.2
def ev_le (h g : ev_H) : Prop := ev_c h ≤ ev_c g ∧ ev_z h ≤ ev_z g
theorem ev_le.rf (h : ev_H) : ev_le h h := ⟨Nat.le_refl _, Nat.le_refl _⟩
theorem ev_le.trans {h g k : ev_H} (a : ev_le h g) (b : ev_le g k) : ev_le h k := ⟨Nat.le_trans a.1 b.1, Nat.le_trans a.2 b.2⟩
section EVG
variable {p : Program} {l : Launch} {e : Env} {R : Room} {s : State} {m : MethodId} {args : Array Value} {below : List Frame} {meth : Method} {c : Code} {ρ : Nat → Int32} {τ : Nat → Nat} {D : va_G} {tys : List (ClassId × FieldType)} {A : Nat → Prop} {c0 s0 nL : Nat} {cc : ByteArray} {own : String} {fr lo : Nat} {w0 : va_W} {ret : Option FieldType} {hh : List ExceptionTableEntry} {nm : String}
def ev_Gd (p : Program) (l : Launch) (e : Env) (R : Room) (s : State) (m : MethodId) (args : Array Value) (below : List Frame) (meth : Method) (c : Code) (ρ : Nat → Int32) (τ : Nat → Nat) (D : va_G) (tys : List (ClassId × FieldType)) (A : Nat → Prop) (c0 s0 nL : Nat) (cc : ByteArray) (own : String) (fr lo : Nat) (w0 : va_W) (ret : Option FieldType) (hh : List ExceptionTableEntry) (nm : String)
    (Q : State → Prop) (X : ev_X) (pc : Nat) (lv : List (Nat × (Nat × Nat))) (st : List (Nat × Nat)) (h : ev_H) (K : ev_O) : Prop :=
  K = some X → ev_le h (ev_xh X) ∧ (ev_F p l e R s m args below meth c ρ τ D tys A c0 s0 nL cc own fr lo w0 ret hh nm → ev_c (ev_xh X) ≤ c0 + R.cells → ev_z (ev_xh X) ≤ s0 + R.slots → c0 ≤ ev_c h → s0 ≤ ev_z h → ∀ (ws : va_W) (H : Heap) (locs : List Loc) (ls : Array Slot) (stv : List Value), ev_E w0 ws →
    va_P D ev_cl ws H → va_D A ws → va_S A s.heap H locs → ev_HR ev_kf ρ τ tys h ws → ev_LR ρ τ ws nL lv ls → ev_R1 ρ τ ws st stv → W p l e R s m args below meth c H locs (ev_c h - c0) (ev_z h - s0) Q (F0 m pc ls stv))
variable {Q : State → Prop} {X : ev_X} {pc : Nat} {lv lv' : List (Nat × (Nat × Nat))} {st st' : List (Nat × Nat)} {h : ev_H} {K L : ev_O} {n i a b tgt : Nat} {off : Int} {k : Nat → ev_O}
theorem gd_no : ev_Gd p l e R s m args below meth c ρ τ D tys A c0 s0 nL cc own fr lo w0 ret hh nm Q X pc lv st h none := fun q => nomatch q
/-- a step that leaves the heap -/
theorem gd_go {pc' : Nat} {K' : ev_O} (hK : K = some X → K' = some X) (g : ev_Gd p l e R s m args below meth c ρ τ D tys A c0 s0 nL cc own fr lo w0 ret hh nm Q X pc' lv' st' h K')
    (w : ev_F p l e R s m args below meth c ρ τ D tys A c0 s0 nL cc own fr lo w0 ret hh nm → ∀ (ws : va_W) (H : Heap) (locs : List Loc) (cells slots : Nat) (ls : Array Slot) (stv : List Value), ev_GS ρ h.2.1 → ev_LR ρ τ ws nL lv ls → ev_R1 ρ τ ws st stv →
      (∀ ls' stv', ev_LR ρ τ ws nL lv' ls' → ev_R1 ρ τ ws st' stv' → W p l e R s m args below meth c H locs cells slots Q (F0 m pc' ls' stv')) → W p l e R s m args below meth c H locs cells slots Q (F0 m pc ls stv)) : ev_Gd p l e R s m args below meth c ρ τ D tys A c0 s0 nL cc own fr lo w0 ret hh nm Q X pc lv st h K :=
  fun q => ⟨(g (hK q)).1, fun F x1 x2 x3 x4 ws H locs ls stv hE hP hD hS hH hL hR => w F ws H locs _ _ ls stv hH.2.2.1 hL hR fun ls' stv' h1 h2 => (g (hK q)).2 F x1 x2 x3 x4 ws H locs ls' stv' hE hP hD hS hH h1 h2⟩
/-- fewer known locals -/
theorem gd_sub (ks : List Nat) (hl : ks.filterMap (fun j => lv[j]?) = lv') (g : ev_Gd p l e R s m args below meth c ρ τ D tys A c0 s0 nL cc own fr lo w0 ret hh nm Q X pc lv' st h K) : ev_Gd p l e R s m args below meth c ρ τ D tys A c0 s0 nL cc own fr lo w0 ret hh nm Q X pc lv st h K :=
  gd_go id g fun F ws H locs cells slots ls stv _ hL hR kk => kk ls stv (hL.sub fun q hq => by
    rw [← hl] at hq
    obtain ⟨j, -, hj⟩ := List.mem_filterMap.mp hq
    exact List.mem_of_getElem? hj) hR
-- loads
theorem gd_iload (d : decode cc pc = .ok (.iload i, 2)) (j : Nat) (hm : lv[j]? = some (i, (1, n))) (g : ev_Gd p l e R s m args below meth c ρ τ D tys A c0 s0 nL cc own fr lo w0 ret hh nm Q X (pc + 2) lv ((1, n) :: st) h K) : ev_Gd p l e R s m args below meth c ρ τ D tys A c0 s0 nL cc own fr lo w0 ret hh nm Q X pc lv st h K :=
  gd_go id g fun F ws H locs cells slots ls stv _ hL hR kk => by
    obtain ⟨v, h1, h2⟩ := hL.2.2 i 1 n (List.mem_of_getElem? hm)
    obtain ⟨x, rfl, -⟩ := id h2.i
    exact lv_iload F.1 F.2.1 d h1 (kk ls _ hL ⟨h2, hR⟩)
theorem gd_iload_n {f : Fin 4} (d : decode cc pc = .ok (.iload_n f, 1)) (hi : (f : Nat) = i) (j : Nat) (hm : lv[j]? = some (i, (1, n))) (g : ev_Gd p l e R s m args below meth c ρ τ D tys A c0 s0 nL cc own fr lo w0 ret hh nm Q X (pc + 1) lv ((1, n) :: st) h K) : ev_Gd p l e R s m args below meth c ρ τ D tys A c0 s0 nL cc own fr lo w0 ret hh nm Q X pc lv st h K :=
  gd_go id g fun F ws H locs cells slots ls stv _ hL hR kk => by
    obtain ⟨v, h1, h2⟩ := hL.2.2 i 1 n (List.mem_of_getElem? hm)
    obtain ⟨x, rfl, -⟩ := id h2.i
    exact lv_iload_n F.1 F.2.1 d hi h1 (kk ls _ hL ⟨h2, hR⟩)
theorem gd_lload (d : decode cc pc = .ok (.lload i, 2)) (j : Nat) (hm : lv[j]? = some (i, (2, n))) (g : ev_Gd p l e R s m args below meth c ρ τ D tys A c0 s0 nL cc own fr lo w0 ret hh nm Q X (pc + 2) lv ((2, n) :: st) h K) : ev_Gd p l e R s m args below meth c ρ τ D tys A c0 s0 nL cc own fr lo w0 ret hh nm Q X pc lv st h K :=
  gd_go id g fun F ws H locs cells slots ls stv _ hL hR kk => by
    obtain ⟨v, h1, h2⟩ := hL.2.2 i 2 n (List.mem_of_getElem? hm)
    obtain ⟨x, rfl, -⟩ := id h2.l
    exact lv_lload F.1 F.2.1 d h1 (kk ls _ hL ⟨h2, hR⟩)
theorem gd_lload_n {f : Fin 4} (d : decode cc pc = .ok (.lload_n f, 1)) (hi : (f : Nat) = i) (j : Nat) (hm : lv[j]? = some (i, (2, n))) (g : ev_Gd p l e R s m args below meth c ρ τ D tys A c0 s0 nL cc own fr lo w0 ret hh nm Q X (pc + 1) lv ((2, n) :: st) h K) : ev_Gd p l e R s m args below meth c ρ τ D tys A c0 s0 nL cc own fr lo w0 ret hh nm Q X pc lv st h K :=
  gd_go id g fun F ws H locs cells slots ls stv _ hL hR kk => by
    obtain ⟨v, h1, h2⟩ := hL.2.2 i 2 n (List.mem_of_getElem? hm)
    obtain ⟨x, rfl, -⟩ := id h2.l
    exact lv_lload_n F.1 F.2.1 d hi h1 (kk ls _ hL ⟨h2, hR⟩)
theorem gd_dload (d : decode cc pc = .ok (.dload i, 2)) (j : Nat) (hm : lv[j]? = some (i, (4, n))) (g : ev_Gd p l e R s m args below meth c ρ τ D tys A c0 s0 nL cc own fr lo w0 ret hh nm Q X (pc + 2) lv ((4, n) :: st) h K) : ev_Gd p l e R s m args below meth c ρ τ D tys A c0 s0 nL cc own fr lo w0 ret hh nm Q X pc lv st h K :=
  gd_go id g fun F ws H locs cells slots ls stv _ hL hR kk => by
    obtain ⟨v, h1, h2⟩ := hL.2.2 i 4 n (List.mem_of_getElem? hm)
    obtain ⟨rfl, rfl⟩ := id h2.d
    exact lv_dload F.1 F.2.1 d h1 (kk ls _ hL ⟨h2, hR⟩)
/-- a reference that isn't null -/
theorem ev_VR.nz {ws : va_W} {v : Value} (hv : ev_VR τ ws n v) (h0 : ¬ n = 0) : ∃ q, v = .ref q := by
  rcases hv with ⟨h, -⟩ | ⟨-, q, hq⟩ | ⟨-, -, -, hq⟩ | ⟨-, q, e', -, hq⟩
  · exact absurd h h0
  · exact ⟨q, hq⟩
  · exact ⟨_, hq⟩
  · exact ⟨q, hq⟩
theorem ev_VR.z {ws : va_W} {v : Value} (hv : ev_VR τ ws n v) (h0 : n = 0) : v = .null := by
  rcases hv with ⟨-, h⟩ | ⟨h, -⟩ | ⟨h, -⟩ | ⟨h, -⟩
  · exact h
  · omega
  · exact absurd h0 h
  · omega
theorem gd_aload_n {f : Fin 4} (d : decode cc pc = .ok (.aload_n f, 1)) (hi : (f : Nat) = i) (j : Nat) (hm : lv[j]? = some (i, (3, n))) (g : ev_Gd p l e R s m args below meth c ρ τ D tys A c0 s0 nL cc own fr lo w0 ret hh nm Q X (pc + 1) lv ((3, n) :: st) h K) : ev_Gd p l e R s m args below meth c ρ τ D tys A c0 s0 nL cc own fr lo w0 ret hh nm Q X pc lv st h K :=
  gd_go id g fun F ws H locs cells slots ls stv _ hL hR kk => by
    obtain ⟨v, h1, h2⟩ := hL.2.2 i 3 n (List.mem_of_getElem? hm)
    by_cases h0 : n = 0
    · have := h2.r.z h0
      subst this
      exact lv_aload_nN F.1 F.2.1 d hi h1 (kk ls _ hL ⟨h2, hR⟩)
    · obtain ⟨q, rfl⟩ := h2.r.nz h0
      exact lv_aload_n F.1 F.2.1 d hi h1 (kk ls _ hL ⟨h2, hR⟩)
theorem gd_aload (d : decode cc pc = .ok (.aload i, 2)) (j : Nat) (hm : lv[j]? = some (i, (3, n))) (g : ev_Gd p l e R s m args below meth c ρ τ D tys A c0 s0 nL cc own fr lo w0 ret hh nm Q X (pc + 2) lv ((3, n) :: st) h K) : ev_Gd p l e R s m args below meth c ρ τ D tys A c0 s0 nL cc own fr lo w0 ret hh nm Q X pc lv st h K :=
  gd_go id g fun F ws H locs cells slots ls stv _ hL hR kk => by
    obtain ⟨v, h1, h2⟩ := hL.2.2 i 3 n (List.mem_of_getElem? hm)
    by_cases h0 : n = 0
    · have := h2.r.z h0
      subst this
      exact lv_aloadN F.1 F.2.1 d h1 (kk ls _ hL ⟨h2, hR⟩)
    · obtain ⟨q, rfl⟩ := h2.r.nz h0
      exact lv_aload F.1 F.2.1 d h1 (kk ls _ hL ⟨h2, hR⟩)
-- stores
theorem gd_istore (d : decode cc pc = .ok (.istore i, 2)) (hn : i < nL) (hl : (i, (1, n)) :: ev_d1 i lv = lv') (g : ev_Gd p l e R s m args below meth c ρ τ D tys A c0 s0 nL cc own fr lo w0 ret hh nm Q X (pc + 2) lv' st h K) : ev_Gd p l e R s m args below meth c ρ τ D tys A c0 s0 nL cc own fr lo w0 ret hh nm Q X pc lv ((1, n) :: st) h K :=
  gd_go id g fun F ws H locs cells slots ls stv _ hL hR kk => by
    obtain ⟨v, m1, rfl, h2, hr1⟩ := hR.cons
    obtain ⟨x, rfl, -⟩ := id h2.i
    subst hl
    exact lv_istore F.1 F.2.1 d (ev_lh_has hL) hn rfl fun ls' h' => kk ls' _ (hL.st1 h' h2) hr1
theorem gd_istore_n {f : Fin 4} (d : decode cc pc = .ok (.istore_n f, 1)) (hi : (f : Nat) = i) (hn : i < nL) (hl : (i, (1, n)) :: ev_d1 i lv = lv') (g : ev_Gd p l e R s m args below meth c ρ τ D tys A c0 s0 nL cc own fr lo w0 ret hh nm Q X (pc + 1) lv' st h K) : ev_Gd p l e R s m args below meth c ρ τ D tys A c0 s0 nL cc own fr lo w0 ret hh nm Q X pc lv ((1, n) :: st) h K :=
  gd_go id g fun F ws H locs cells slots ls stv _ hL hR kk => by
    obtain ⟨v, m1, rfl, h2, hr1⟩ := hR.cons
    obtain ⟨x, rfl, -⟩ := id h2.i
    subst hl
    exact lv_istore_n F.1 F.2.1 d hi (ev_lh_has hL) hn rfl fun ls' h' => kk ls' _ (hL.st1 h' h2) hr1
theorem gd_lstore (d : decode cc pc = .ok (.lstore i, 2)) (hn : i + 1 < nL) (hl : (i, (2, n)) :: ev_d2 i lv = lv') (g : ev_Gd p l e R s m args below meth c ρ τ D tys A c0 s0 nL cc own fr lo w0 ret hh nm Q X (pc + 2) lv' st h K) : ev_Gd p l e R s m args below meth c ρ τ D tys A c0 s0 nL cc own fr lo w0 ret hh nm Q X pc lv ((2, n) :: st) h K :=
  gd_go id g fun F ws H locs cells slots ls stv _ hL hR kk => by
    obtain ⟨v, m1, rfl, h2, hr1⟩ := hR.cons
    obtain ⟨x, rfl, -⟩ := id h2.l
    subst hl
    exact lv_lstore F.1 F.2.1 d (ev_lh_has hL) hn rfl fun ls' h' => kk ls' _ (hL.st2 h' h2) hr1
theorem gd_lstore_n {f : Fin 4} (d : decode cc pc = .ok (.lstore_n f, 1)) (hi : (f : Nat) = i) (hn : i + 1 < nL) (hl : (i, (2, n)) :: ev_d2 i lv = lv') (g : ev_Gd p l e R s m args below meth c ρ τ D tys A c0 s0 nL cc own fr lo w0 ret hh nm Q X (pc + 1) lv' st h K) : ev_Gd p l e R s m args below meth c ρ τ D tys A c0 s0 nL cc own fr lo w0 ret hh nm Q X pc lv ((2, n) :: st) h K :=
  gd_go id g fun F ws H locs cells slots ls stv _ hL hR kk => by
    obtain ⟨v, m1, rfl, h2, hr1⟩ := hR.cons
    obtain ⟨x, rfl, -⟩ := id h2.l
    subst hl
    exact lv_lstore_n F.1 F.2.1 d hi (ev_lh_has hL) hn rfl fun ls' h' => kk ls' _ (hL.st2 h' h2) hr1
theorem gd_dstore (d : decode cc pc = .ok (.dstore i, 2)) (hn : i + 1 < nL) (hl : (i, (4, n)) :: ev_d2 i lv = lv') (g : ev_Gd p l e R s m args below meth c ρ τ D tys A c0 s0 nL cc own fr lo w0 ret hh nm Q X (pc + 2) lv' st h K) : ev_Gd p l e R s m args below meth c ρ τ D tys A c0 s0 nL cc own fr lo w0 ret hh nm Q X pc lv ((4, n) :: st) h K :=
  gd_go id g fun F ws H locs cells slots ls stv _ hL hR kk => by
    obtain ⟨v, m1, rfl, h2, hr1⟩ := hR.cons
    obtain ⟨rfl, rfl⟩ := id h2.d
    subst hl
    exact lv_dstore F.1 F.2.1 d (ev_lh_has hL) hn rfl fun ls' h' => kk ls' _ (hL.st2 h' h2) hr1
theorem gd_astore (d : decode cc pc = .ok (.astore i, 2)) (hn : i < nL) (hl : (i, (3, n)) :: ev_d1 i lv = lv') (g : ev_Gd p l e R s m args below meth c ρ τ D tys A c0 s0 nL cc own fr lo w0 ret hh nm Q X (pc + 2) lv' st h K) : ev_Gd p l e R s m args below meth c ρ τ D tys A c0 s0 nL cc own fr lo w0 ret hh nm Q X pc lv ((3, n) :: st) h K :=
  gd_go id g fun F ws H locs cells slots ls stv _ hL hR kk => by
    obtain ⟨v, m1, rfl, h2, hr1⟩ := hR.cons
    subst hl
    by_cases h0 : n = 0
    · have := h2.r.z h0
      subst this
      exact lv_astoreN F.1 F.2.1 d (ev_lh_has hL) hn rfl fun ls' h' => kk ls' _ (hL.st1 h' h2) hr1
    · obtain ⟨q, rfl⟩ := h2.r.nz h0
      exact lv_astore F.1 F.2.1 d (ev_lh_has hL) hn rfl fun ls' h' => kk ls' _ (hL.st1 h' h2) hr1
theorem gd_astore_n {f : Fin 4} (d : decode cc pc = .ok (.astore_n f, 1)) (hi : (f : Nat) = i) (hn : i < nL) (hl : (i, (3, n)) :: ev_d1 i lv = lv') (g : ev_Gd p l e R s m args below meth c ρ τ D tys A c0 s0 nL cc own fr lo w0 ret hh nm Q X (pc + 1) lv' st h K) : ev_Gd p l e R s m args below meth c ρ τ D tys A c0 s0 nL cc own fr lo w0 ret hh nm Q X pc lv ((3, n) :: st) h K :=
  gd_go id g fun F ws H locs cells slots ls stv _ hL hR kk => by
    obtain ⟨v, m1, rfl, h2, hr1⟩ := hR.cons
    subst hl
    by_cases h0 : n = 0
    · have := h2.r.z h0
      subst this
      exact lv_astore_nN F.1 F.2.1 d hi (ev_lh_has hL) hn rfl fun ls' h' => kk ls' _ (hL.st1 h' h2) hr1
    · obtain ⟨q, rfl⟩ := h2.r.nz h0
      exact lv_astore_n F.1 F.2.1 d hi (ev_lh_has hL) hn rfl fun ls' h' => kk ls' _ (hL.st1 h' h2) hr1
theorem gd_iinc {z : Int} {w : Nat} (d : decode cc pc = .ok (.iinc i z, 3)) (j : Nat) (hm : lv[j]? = some (i, (1, n))) (hw : ev_n (Int32.ofInt z) = w) (hn : i < nL)
    (g : ∀ r, ev_Gd p l e R s m args below meth c ρ τ D tys A c0 s0 nL cc own fr lo w0 ret hh nm Q X (pc + 3) ((i, (1, r)) :: ev_d1 i lv) st h (k r)) : ev_Gd p l e R s m args below meth c ρ τ D tys A c0 s0 nL cc own fr lo w0 ret hh nm Q X pc lv st h (ev_iadd h n w k) := by
  intro q
  obtain ⟨r, hr, hv⟩ := ev_iadd_spec (ρ := ρ) q
  refine gd_go (fun _ => hr) (g r) (fun F ws H locs cells slots ls stv hG hL hR kk => ?_) q
  obtain ⟨v, h1, h2⟩ := hL.2.2 i 1 n (List.mem_of_getElem? hm)
  obtain ⟨x, rfl, hx⟩ := id h2.i
  obtain ⟨jj, hjj⟩ := List.getElem?_of_mem (ev_lh_mem (List.mem_of_getElem? hm) h1)
  exact lv_iinc F.1 F.2.1 d (ev_lh_has hL) hjj rfl hn rfl fun ls' h' => kk ls' _ (hL.st1 h' (ev_RV.ofi (hv hG x _ hx (Or.inl hw)))) hR
/-- the known locals by another list -/
theorem gd_eq (hl : lv = lv') (g : ev_Gd p l e R s m args below meth c ρ τ D tys A c0 s0 nL cc own fr lo w0 ret hh nm Q X pc lv' st h K) : ev_Gd p l e R s m args below meth c ρ τ D tys A c0 s0 nL cc own fr lo w0 ret hh nm Q X pc lv st h K := hl ▸ g
-- constants
theorem gd_push {pc' : Nat} {kd : Nat} (v : Value) (hv : ∀ ws, ev_RV ρ τ ws kd n v) (w : ev_F p l e R s m args below meth c ρ τ D tys A c0 s0 nL cc own fr lo w0 ret hh nm → ∀ (H : Heap) (locs : List Loc) (cells slots : Nat) (ls : Array Slot) (rest : List Value), W p l e R s m args below meth c H locs cells slots Q (F0 m pc' ls (v :: rest)) → W p l e R s m args below meth c H locs cells slots Q (F0 m pc ls rest))
    (g : ev_Gd p l e R s m args below meth c ρ τ D tys A c0 s0 nL cc own fr lo w0 ret hh nm Q X pc' lv ((kd, n) :: st) h K) : ev_Gd p l e R s m args below meth c ρ τ D tys A c0 s0 nL cc own fr lo w0 ret hh nm Q X pc lv st h K :=
  gd_go id g fun F ws H locs cells slots ls stv _ hL hR kk => w F H locs cells slots ls stv (kk ls (v :: stv) hL ⟨hv ws, hR⟩)
theorem gd_iconst {z : Int} (d : decode cc pc = .ok (.iconst z, 1)) (hw : ev_n (Int32.ofInt z) = n) (g : ev_Gd p l e R s m args below meth c ρ τ D tys A c0 s0 nL cc own fr lo w0 ret hh nm Q X (pc + 1) lv ((1, n) :: st) h K) : ev_Gd p l e R s m args below meth c ρ τ D tys A c0 s0 nL cc own fr lo w0 ret hh nm Q X pc lv st h K :=
  gd_push (.int (Int32.ofInt z)) (fun _ => ev_RV.ofi (Or.inl hw)) (fun F _ _ _ _ _ _ kk => lv_iconst F.1 F.2.1 d rfl kk) g
theorem gd_bipush {z : Int} (d : decode cc pc = .ok (.bipush z, 2)) (hw : ev_n (Int8.ofInt z).toInt32 = n) (g : ev_Gd p l e R s m args below meth c ρ τ D tys A c0 s0 nL cc own fr lo w0 ret hh nm Q X (pc + 2) lv ((1, n) :: st) h K) : ev_Gd p l e R s m args below meth c ρ τ D tys A c0 s0 nL cc own fr lo w0 ret hh nm Q X pc lv st h K :=
  gd_push (.int (Int8.ofInt z).toInt32) (fun _ => ev_RV.ofi (Or.inl hw)) (fun F _ _ _ _ _ _ kk => lv_bipush F.1 F.2.1 d rfl kk) g
theorem gd_sipush {z : Int} (d : decode cc pc = .ok (.sipush z, 3)) (hw : ev_n (Int16.ofInt z).toInt32 = n) (g : ev_Gd p l e R s m args below meth c ρ τ D tys A c0 s0 nL cc own fr lo w0 ret hh nm Q X (pc + 3) lv ((1, n) :: st) h K) : ev_Gd p l e R s m args below meth c ρ τ D tys A c0 s0 nL cc own fr lo w0 ret hh nm Q X pc lv st h K :=
  gd_push (.int (Int16.ofInt z).toInt32) (fun _ => ev_RV.ofi (Or.inl hw)) (fun F _ _ _ _ _ _ kk => lv_sipush F.1 F.2.1 d rfl kk) g
theorem gd_lconst {z : Fin 2} (d : decode cc pc = .ok (.lconst z, 1)) (hw : (z : Nat) = n) (g : ev_Gd p l e R s m args below meth c ρ τ D tys A c0 s0 nL cc own fr lo w0 ret hh nm Q X (pc + 1) lv ((2, n) :: st) h K) : ev_Gd p l e R s m args below meth c ρ τ D tys A c0 s0 nL cc own fr lo w0 ret hh nm Q X pc lv st h K :=
  gd_push (.long (Int64.ofNat (z : Nat))) (fun _ => ev_RV.ofl (Or.inl (by subst hw; match z with
    | 0 => rfl
    | 1 => rfl))) (fun F _ _ _ _ _ _ kk => lv_lconst F.1 F.2.1 d rfl kk) g
theorem gd_dconst (d : decode cc pc = .ok (.dconst 0, 1)) (g : ev_Gd p l e R s m args below meth c ρ τ D tys A c0 s0 nL cc own fr lo w0 ret hh nm Q X (pc + 1) lv ((4, 0) :: st) h K) : ev_Gd p l e R s m args below meth c ρ τ D tys A c0 s0 nL cc own fr lo w0 ret hh nm Q X pc lv st h K :=
  gd_push (.double FP.dconst0) (fun _ => ev_RV.ofd) (fun F _ _ _ _ _ _ kk => lv_dconst0 F.1 F.2.1 d kk) g
theorem gd_ldc {idx : Nat} {v : Int32} (d : decode cc pc = .ok (.ldc idx, 2)) (hc : Cond.constant own idx v ∈ ev_good) (hw : ev_n v = n) (g : ev_Gd p l e R s m args below meth c ρ τ D tys A c0 s0 nL cc own fr lo w0 ret hh nm Q X (pc + 2) lv ((1, n) :: st) h K) : ev_Gd p l e R s m args below meth c ρ τ D tys A c0 s0 nL cc own fr lo w0 ret hh nm Q X pc lv st h K :=
  gd_push (.int v) (fun _ => ev_RV.ofi (Or.inl hw)) (fun F _ _ _ _ _ _ kk => lv_ldc F.1 F.2.1 F.2.2.2.1 (F.2.2.2.2.1 _ hc) d kk) g
theorem gd_ldcw {idx : Nat} {v : Int32} (d : decode cc pc = .ok (.ldc_w idx, 3)) (hc : Cond.constant own idx v ∈ ev_good) (hw : ev_n v = n) (g : ev_Gd p l e R s m args below meth c ρ τ D tys A c0 s0 nL cc own fr lo w0 ret hh nm Q X (pc + 3) lv ((1, n) :: st) h K) : ev_Gd p l e R s m args below meth c ρ τ D tys A c0 s0 nL cc own fr lo w0 ret hh nm Q X pc lv st h K :=
  gd_push (.int v) (fun _ => ev_RV.ofi (Or.inl hw)) (fun F _ _ _ _ _ _ kk => lv_ldcw F.1 F.2.1 F.2.2.2.1 (F.2.2.2.2.1 _ hc) d kk) g
theorem gd_ldc2 {idx : Nat} {v : Int64} (d : decode cc pc = .ok (.ldc2_w idx, 3)) (hc : Cond.constantLong own idx v ∈ ev_good) (hw : ev_m v = n) (g : ev_Gd p l e R s m args below meth c ρ τ D tys A c0 s0 nL cc own fr lo w0 ret hh nm Q X (pc + 3) lv ((2, n) :: st) h K) : ev_Gd p l e R s m args below meth c ρ τ D tys A c0 s0 nL cc own fr lo w0 ret hh nm Q X pc lv st h K :=
  gd_push (.long v) (fun _ => ev_RV.ofl (Or.inl hw)) (fun F _ _ _ _ _ _ kk => lv_ldc2 F.1 F.2.1 F.2.2.2.1 (F.2.2.2.2.1 _ hc) d kk) g
-- the stack
theorem gd_pop {kd : Nat} (hk : kd = 1 ∨ kd = 3) (d : decode cc pc = .ok (.pop, 1)) (g : ev_Gd p l e R s m args below meth c ρ τ D tys A c0 s0 nL cc own fr lo w0 ret hh nm Q X (pc + 1) lv st h K) : ev_Gd p l e R s m args below meth c ρ τ D tys A c0 s0 nL cc own fr lo w0 ret hh nm Q X pc lv ((kd, n) :: st) h K :=
  gd_go id g fun F ws H locs cells slots ls stv _ hL hR kk => by
    obtain ⟨v, m1, rfl, h2, hr1⟩ := hR.cons
    exact lv_pop F.1 F.2.1 d (by rw [h2.cat, if_neg (by omega)]) (kk ls _ hL hr1)
theorem gd_dup {kd : Nat} (hk : kd = 1 ∨ kd = 3) (d : decode cc pc = .ok (.dup, 1)) (g : ev_Gd p l e R s m args below meth c ρ τ D tys A c0 s0 nL cc own fr lo w0 ret hh nm Q X (pc + 1) lv ((kd, n) :: (kd, n) :: st) h K) : ev_Gd p l e R s m args below meth c ρ τ D tys A c0 s0 nL cc own fr lo w0 ret hh nm Q X pc lv ((kd, n) :: st) h K :=
  gd_go id g fun F ws H locs cells slots ls stv _ hL hR kk => by
    obtain ⟨v, m1, rfl, h2, hr1⟩ := hR.cons
    exact lv_dup F.1 F.2.1 d (by rw [h2.cat, if_neg (by omega)]) (kk ls _ hL ⟨h2, h2, hr1⟩)
theorem gd_dup2 {k1 k2 : Nat} (hk : k1 = 1 ∨ k1 = 3) (hk2 : k2 = 1 ∨ k2 = 3) (d : decode cc pc = .ok (.dup2, 1)) (g : ev_Gd p l e R s m args below meth c ρ τ D tys A c0 s0 nL cc own fr lo w0 ret hh nm Q X (pc + 1) lv ((k1, b) :: (k2, a) :: (k1, b) :: (k2, a) :: st) h K) : ev_Gd p l e R s m args below meth c ρ τ D tys A c0 s0 nL cc own fr lo w0 ret hh nm Q X pc lv ((k1, b) :: (k2, a) :: st) h K :=
  gd_go id g fun F ws H locs cells slots ls stv _ hL hR kk => by
    obtain ⟨v, m1, rfl, h2, hr1⟩ := hR.cons
    obtain ⟨w, m2, rfl, h3, hr2⟩ := hr1.cons
    exact lv_dup2_11 F.1 F.2.1 d (by rw [h2.cat, if_neg (by omega)]) (by rw [h3.cat, if_neg (by omega)]) (kk ls _ hL ⟨h2, h3, h2, h3, hr2⟩)
-- operations
theorem gd_un {pc' k1 k2 : Nat} (sp : K = some X → ∃ r, k r = some X ∧ (ev_F p l e R s m args below meth c ρ τ D tys A c0 s0 nL cc own fr lo w0 ret hh nm → ev_GS ρ h.2.1 → ∀ (ws : va_W) (v : Value), ev_RV ρ τ ws k1 a v → ∃ v', ev_RV ρ τ ws k2 r v' ∧ ∀ (H : Heap) (locs : List Loc) (cells slots : Nat) (ls : Array Slot) (rest : List Value), W p l e R s m args below meth c H locs cells slots Q (F0 m pc' ls (v' :: rest)) → W p l e R s m args below meth c H locs cells slots Q (F0 m pc ls (v :: rest))))
    (g : ∀ r, ev_Gd p l e R s m args below meth c ρ τ D tys A c0 s0 nL cc own fr lo w0 ret hh nm Q X pc' lv ((k2, r) :: st) h (k r)) : ev_Gd p l e R s m args below meth c ρ τ D tys A c0 s0 nL cc own fr lo w0 ret hh nm Q X pc lv ((k1, a) :: st) h K := by
  intro q
  obtain ⟨r, hr, hv⟩ := sp q
  refine gd_go (fun _ => hr) (g r) (fun F ws H locs cells slots ls stv hG hL hR kk => ?_) q
  obtain ⟨v, m1, rfl, h2, hr1⟩ := hR.cons
  obtain ⟨v', h3, h4⟩ := hv F hG ws v h2
  exact h4 H locs cells slots ls m1 (kk ls _ hL ⟨h3, hr1⟩)
theorem gd_bin {pc' k1 k2 k3 : Nat} (sp : K = some X → ∃ r, k r = some X ∧ (ev_F p l e R s m args below meth c ρ τ D tys A c0 s0 nL cc own fr lo w0 ret hh nm → ev_GS ρ h.2.1 → ∀ (ws : va_W) (v w : Value), ev_RV ρ τ ws k1 a v → ev_RV ρ τ ws k2 b w → ∃ v', ev_RV ρ τ ws k3 r v' ∧ ∀ (H : Heap) (locs : List Loc) (cells slots : Nat) (ls : Array Slot) (rest : List Value), W p l e R s m args below meth c H locs cells slots Q (F0 m pc' ls (v' :: rest)) → W p l e R s m args below meth c H locs cells slots Q (F0 m pc ls (w :: v :: rest))))
    (g : ∀ r, ev_Gd p l e R s m args below meth c ρ τ D tys A c0 s0 nL cc own fr lo w0 ret hh nm Q X pc' lv ((k3, r) :: st) h (k r)) : ev_Gd p l e R s m args below meth c ρ τ D tys A c0 s0 nL cc own fr lo w0 ret hh nm Q X pc lv ((k2, b) :: (k1, a) :: st) h K := by
  intro q
  obtain ⟨r, hr, hv⟩ := sp q
  refine gd_go (fun _ => hr) (g r) (fun F ws H locs cells slots ls stv hG hL hR kk => ?_) q
  obtain ⟨w, m1, rfl, h2, hr1⟩ := hR.cons
  obtain ⟨v, m2, rfl, h3, hr2⟩ := hr1.cons
  obtain ⟨v', h4, h5⟩ := hv F hG ws v w h3 h2
  exact h5 H locs cells slots ls m2 (kk ls _ hL ⟨h4, hr2⟩)
theorem gd_iadd (d : decode cc pc = .ok (.iadd, 1)) (g : ∀ r, ev_Gd p l e R s m args below meth c ρ τ D tys A c0 s0 nL cc own fr lo w0 ret hh nm Q X (pc + 1) lv ((1, r) :: st) h (k r)) : ev_Gd p l e R s m args below meth c ρ τ D tys A c0 s0 nL cc own fr lo w0 ret hh nm Q X pc lv ((1, b) :: (1, a) :: st) h (ev_iadd h a b k) :=
  gd_bin (fun q => by
    obtain ⟨r, hr, hv⟩ := ev_iadd_spec (ρ := ρ) q
    refine ⟨r, hr, fun F hG ws v w h1 h2 => ?_⟩
    obtain ⟨x, rfl, hx⟩ := h1.i
    obtain ⟨y, rfl, hy⟩ := h2.i
    exact ⟨_, ev_RV.ofi (hv hG x y hx hy), fun _ _ _ _ _ _ kk => lv_iadd F.1 F.2.1 d kk⟩) g
theorem gd_isub (d : decode cc pc = .ok (.isub, 1)) (g : ∀ r, ev_Gd p l e R s m args below meth c ρ τ D tys A c0 s0 nL cc own fr lo w0 ret hh nm Q X (pc + 1) lv ((1, r) :: st) h (k r)) : ev_Gd p l e R s m args below meth c ρ τ D tys A c0 s0 nL cc own fr lo w0 ret hh nm Q X pc lv ((1, b) :: (1, a) :: st) h (ev_isub a b k) :=
  gd_bin (fun q => by
    obtain ⟨r, hr, hv⟩ := ev_isub_spec (ρ := ρ) q
    refine ⟨r, hr, fun F hG ws v w h1 h2 => ?_⟩
    obtain ⟨x, rfl, hx⟩ := h1.i
    obtain ⟨y, rfl, hy⟩ := h2.i
    exact ⟨_, ev_RV.ofi (hv x y hx hy), fun _ _ _ _ _ _ kk => lv_isub F.1 F.2.1 d kk⟩) g
theorem gd_imul (d : decode cc pc = .ok (.imul, 1)) (g : ∀ r, ev_Gd p l e R s m args below meth c ρ τ D tys A c0 s0 nL cc own fr lo w0 ret hh nm Q X (pc + 1) lv ((1, r) :: st) h (k r)) : ev_Gd p l e R s m args below meth c ρ τ D tys A c0 s0 nL cc own fr lo w0 ret hh nm Q X pc lv ((1, b) :: (1, a) :: st) h (ev_imul a b k) :=
  gd_bin (fun q => by
    obtain ⟨r, hr, hv⟩ := ev_imul_spec (ρ := ρ) q
    refine ⟨r, hr, fun F hG ws v w h1 h2 => ?_⟩
    obtain ⟨x, rfl, hx⟩ := h1.i
    obtain ⟨y, rfl, hy⟩ := h2.i
    exact ⟨_, ev_RV.ofi (hv x y hx hy), fun _ _ _ _ _ _ kk => lv_imul F.1 F.2.1 d kk⟩) g
theorem gd_iand (d : decode cc pc = .ok (.iand, 1)) (g : ∀ r, ev_Gd p l e R s m args below meth c ρ τ D tys A c0 s0 nL cc own fr lo w0 ret hh nm Q X (pc + 1) lv ((1, r) :: st) h (k r)) : ev_Gd p l e R s m args below meth c ρ τ D tys A c0 s0 nL cc own fr lo w0 ret hh nm Q X pc lv ((1, b) :: (1, a) :: st) h (ev_iand a b k) :=
  gd_bin (fun q => by
    obtain ⟨r, hr, hv⟩ := ev_iand_spec (ρ := ρ) q
    refine ⟨r, hr, fun F hG ws v w h1 h2 => ?_⟩
    obtain ⟨x, rfl, hx⟩ := h1.i
    obtain ⟨y, rfl, hy⟩ := h2.i
    exact ⟨_, ev_RV.ofi (hv x y hx hy), fun _ _ _ _ _ _ kk => lv_iand F.1 F.2.1 d kk⟩) g
theorem gd_ior (d : decode cc pc = .ok (.ior, 1)) (g : ∀ r, ev_Gd p l e R s m args below meth c ρ τ D tys A c0 s0 nL cc own fr lo w0 ret hh nm Q X (pc + 1) lv ((1, r) :: st) h (k r)) : ev_Gd p l e R s m args below meth c ρ τ D tys A c0 s0 nL cc own fr lo w0 ret hh nm Q X pc lv ((1, b) :: (1, a) :: st) h (ev_ior a b k) :=
  gd_bin (fun q => by
    obtain ⟨r, hr, hv⟩ := ev_ior_spec (ρ := ρ) q
    refine ⟨r, hr, fun F hG ws v w h1 h2 => ?_⟩
    obtain ⟨x, rfl, hx⟩ := h1.i
    obtain ⟨y, rfl, hy⟩ := h2.i
    exact ⟨_, ev_RV.ofi (hv x y hx hy), fun _ _ _ _ _ _ kk => lv_ior F.1 F.2.1 d kk⟩) g
theorem gd_ishl (d : decode cc pc = .ok (.ishl, 1)) (g : ∀ r, ev_Gd p l e R s m args below meth c ρ τ D tys A c0 s0 nL cc own fr lo w0 ret hh nm Q X (pc + 1) lv ((1, r) :: st) h (k r)) : ev_Gd p l e R s m args below meth c ρ τ D tys A c0 s0 nL cc own fr lo w0 ret hh nm Q X pc lv ((1, b) :: (1, a) :: st) h (ev_ishl a b k) :=
  gd_bin (fun q => by
    obtain ⟨r, hr, hv⟩ := ev_ishl_spec (ρ := ρ) q
    refine ⟨r, hr, fun F hG ws v w h1 h2 => ?_⟩
    obtain ⟨x, rfl, hx⟩ := h1.i
    obtain ⟨y, rfl, hy⟩ := h2.i
    exact ⟨_, ev_RV.ofi (hv x y hx hy), fun _ _ _ _ _ _ kk => lv_ishl F.1 F.2.1 d kk⟩) g
theorem gd_ishr (d : decode cc pc = .ok (.ishr, 1)) (g : ∀ r, ev_Gd p l e R s m args below meth c ρ τ D tys A c0 s0 nL cc own fr lo w0 ret hh nm Q X (pc + 1) lv ((1, r) :: st) h (k r)) : ev_Gd p l e R s m args below meth c ρ τ D tys A c0 s0 nL cc own fr lo w0 ret hh nm Q X pc lv ((1, b) :: (1, a) :: st) h (ev_ishr a b k) :=
  gd_bin (fun q => by
    obtain ⟨r, hr, hv⟩ := ev_ishr_spec (ρ := ρ) q
    refine ⟨r, hr, fun F hG ws v w h1 h2 => ?_⟩
    obtain ⟨x, rfl, hx⟩ := h1.i
    obtain ⟨y, rfl, hy⟩ := h2.i
    exact ⟨_, ev_RV.ofi (hv x y hx hy), fun _ _ _ _ _ _ kk => lv_ishr F.1 F.2.1 d kk⟩) g
theorem gd_iushr (d : decode cc pc = .ok (.iushr, 1)) (g : ∀ r, ev_Gd p l e R s m args below meth c ρ τ D tys A c0 s0 nL cc own fr lo w0 ret hh nm Q X (pc + 1) lv ((1, r) :: st) h (k r)) : ev_Gd p l e R s m args below meth c ρ τ D tys A c0 s0 nL cc own fr lo w0 ret hh nm Q X pc lv ((1, b) :: (1, a) :: st) h (ev_iushr a b k) :=
  gd_bin (fun q => by
    obtain ⟨r, hr, hv⟩ := ev_iushr_spec (ρ := ρ) q
    refine ⟨r, hr, fun F hG ws v w h1 h2 => ?_⟩
    obtain ⟨x, rfl, hx⟩ := h1.i
    obtain ⟨y, rfl, hy⟩ := h2.i
    exact ⟨_, ev_RV.ofi (hv x y hx hy), fun _ _ _ _ _ _ kk => lv_iushr F.1 F.2.1 d rfl kk⟩) g
theorem gd_idiv (d : decode cc pc = .ok (.idiv, 1)) (g : ∀ r, ev_Gd p l e R s m args below meth c ρ τ D tys A c0 s0 nL cc own fr lo w0 ret hh nm Q X (pc + 1) lv ((1, r) :: st) h (k r)) : ev_Gd p l e R s m args below meth c ρ τ D tys A c0 s0 nL cc own fr lo w0 ret hh nm Q X pc lv ((1, b) :: (1, a) :: st) h (ev_idiv a b k) :=
  gd_bin (fun q => by
    obtain ⟨r, hr, hv⟩ := ev_idiv_spec (ρ := ρ) q
    refine ⟨r, hr, fun F hG ws v w h1 h2 => ?_⟩
    obtain ⟨x, rfl, hx⟩ := h1.i
    obtain ⟨y, rfl, hy⟩ := h2.i
    exact ⟨_, ev_RV.ofi (hv x y hx hy).2, fun _ _ _ _ _ _ kk => lv_idiv F.1 F.2.1 d (hv x y hx hy).1 kk⟩) g
theorem gd_irem (d : decode cc pc = .ok (.irem, 1)) (g : ∀ r, ev_Gd p l e R s m args below meth c ρ τ D tys A c0 s0 nL cc own fr lo w0 ret hh nm Q X (pc + 1) lv ((1, r) :: st) h (k r)) : ev_Gd p l e R s m args below meth c ρ τ D tys A c0 s0 nL cc own fr lo w0 ret hh nm Q X pc lv ((1, b) :: (1, a) :: st) h (ev_irem a b k) :=
  gd_bin (fun q => by
    obtain ⟨r, hr, hv⟩ := ev_irem_spec (ρ := ρ) q
    refine ⟨r, hr, fun F hG ws v w h1 h2 => ?_⟩
    obtain ⟨x, rfl, hx⟩ := h1.i
    obtain ⟨y, rfl, hy⟩ := h2.i
    exact ⟨_, ev_RV.ofi (hv x y hx hy).2, fun _ _ _ _ _ _ kk => lv_irem F.1 F.2.1 d (hv x y hx hy).1 kk⟩) g
theorem gd_ladd (d : decode cc pc = .ok (.ladd, 1)) (g : ∀ r, ev_Gd p l e R s m args below meth c ρ τ D tys A c0 s0 nL cc own fr lo w0 ret hh nm Q X (pc + 1) lv ((2, r) :: st) h (k r)) : ev_Gd p l e R s m args below meth c ρ τ D tys A c0 s0 nL cc own fr lo w0 ret hh nm Q X pc lv ((2, b) :: (2, a) :: st) h (ev_ladd a b k) :=
  gd_bin (fun q => by
    obtain ⟨r, hr, hv⟩ := ev_ladd_spec (ρ := ρ) q
    refine ⟨r, hr, fun F hG ws v w h1 h2 => ?_⟩
    obtain ⟨x, rfl, hx⟩ := h1.l
    obtain ⟨y, rfl, hy⟩ := h2.l
    exact ⟨_, ev_RV.ofl (hv x y hx hy), fun _ _ _ _ _ _ kk => lv_ladd F.1 F.2.1 d kk⟩) g
theorem gd_lsub (d : decode cc pc = .ok (.lsub, 1)) (g : ∀ r, ev_Gd p l e R s m args below meth c ρ τ D tys A c0 s0 nL cc own fr lo w0 ret hh nm Q X (pc + 1) lv ((2, r) :: st) h (k r)) : ev_Gd p l e R s m args below meth c ρ τ D tys A c0 s0 nL cc own fr lo w0 ret hh nm Q X pc lv ((2, b) :: (2, a) :: st) h (ev_lsub a b k) :=
  gd_bin (fun q => by
    obtain ⟨r, hr, hv⟩ := ev_lsub_spec (ρ := ρ) q
    refine ⟨r, hr, fun F hG ws v w h1 h2 => ?_⟩
    obtain ⟨x, rfl, hx⟩ := h1.l
    obtain ⟨y, rfl, hy⟩ := h2.l
    exact ⟨_, ev_RV.ofl (hv x y hx hy), fun _ _ _ _ _ _ kk => lv_lsub F.1 F.2.1 d kk⟩) g
theorem gd_lmul (d : decode cc pc = .ok (.lmul, 1)) (g : ∀ r, ev_Gd p l e R s m args below meth c ρ τ D tys A c0 s0 nL cc own fr lo w0 ret hh nm Q X (pc + 1) lv ((2, r) :: st) h (k r)) : ev_Gd p l e R s m args below meth c ρ τ D tys A c0 s0 nL cc own fr lo w0 ret hh nm Q X pc lv ((2, b) :: (2, a) :: st) h (ev_lmul a b k) :=
  gd_bin (fun q => by
    obtain ⟨r, hr, hv⟩ := ev_lmul_spec (ρ := ρ) q
    refine ⟨r, hr, fun F hG ws v w h1 h2 => ?_⟩
    obtain ⟨x, rfl, hx⟩ := h1.l
    obtain ⟨y, rfl, hy⟩ := h2.l
    exact ⟨_, ev_RV.ofl (hv x y hx hy), fun _ _ _ _ _ _ kk => lv_lmul F.1 F.2.1 d kk⟩) g
theorem gd_lcmp (d : decode cc pc = .ok (.lcmp, 1)) (g : ∀ r, ev_Gd p l e R s m args below meth c ρ τ D tys A c0 s0 nL cc own fr lo w0 ret hh nm Q X (pc + 1) lv ((1, r) :: st) h (k r)) : ev_Gd p l e R s m args below meth c ρ τ D tys A c0 s0 nL cc own fr lo w0 ret hh nm Q X pc lv ((2, b) :: (2, a) :: st) h (ev_lcmp h a b k) :=
  gd_bin (fun q => by
    obtain ⟨r, hr, hv⟩ := ev_lcmp_spec (ρ := ρ) q
    refine ⟨r, hr, fun F hG ws v w h1 h2 => ?_⟩
    obtain ⟨x, rfl, hx⟩ := h1.l
    obtain ⟨y, rfl, hy⟩ := h2.l
    exact ⟨_, ev_RV.ofi (hv hG x y hx hy), fun _ _ _ _ _ _ kk => W.lcmp F.1 F.2.1 d kk⟩) g
theorem gd_i2b (d : decode cc pc = .ok (.i2b, 1)) (g : ∀ r, ev_Gd p l e R s m args below meth c ρ τ D tys A c0 s0 nL cc own fr lo w0 ret hh nm Q X (pc + 1) lv ((1, r) :: st) h (k r)) : ev_Gd p l e R s m args below meth c ρ τ D tys A c0 s0 nL cc own fr lo w0 ret hh nm Q X pc lv ((1, a) :: st) h (ev_i2b a k) :=
  gd_un (fun q => by
    obtain ⟨r, hr, hv⟩ := ev_i2b_spec (ρ := ρ) q
    refine ⟨r, hr, fun F hG ws v h1 => ?_⟩
    obtain ⟨x, rfl, hx⟩ := h1.i
    exact ⟨_, ev_RV.ofi (hv x hx), fun _ _ _ _ _ _ kk => lv_i2b F.1 F.2.1 d rfl kk⟩) g
theorem gd_i2l (d : decode cc pc = .ok (.i2l, 1)) (g : ∀ r, ev_Gd p l e R s m args below meth c ρ τ D tys A c0 s0 nL cc own fr lo w0 ret hh nm Q X (pc + 1) lv ((2, r) :: st) h (k r)) : ev_Gd p l e R s m args below meth c ρ τ D tys A c0 s0 nL cc own fr lo w0 ret hh nm Q X pc lv ((1, a) :: st) h (ev_i2l a k) :=
  gd_un (fun q => by
    obtain ⟨r, hr, hv⟩ := ev_i2l_spec (ρ := ρ) q
    refine ⟨r, hr, fun F hG ws v h1 => ?_⟩
    obtain ⟨x, rfl, hx⟩ := h1.i
    exact ⟨_, ev_RV.ofl (hv x hx), fun _ _ _ _ _ _ kk => lv_i2l F.1 F.2.1 d rfl kk⟩) g
theorem gd_l2i (d : decode cc pc = .ok (.l2i, 1)) (g : ∀ r, ev_Gd p l e R s m args below meth c ρ τ D tys A c0 s0 nL cc own fr lo w0 ret hh nm Q X (pc + 1) lv ((1, r) :: st) h (k r)) : ev_Gd p l e R s m args below meth c ρ τ D tys A c0 s0 nL cc own fr lo w0 ret hh nm Q X pc lv ((2, a) :: st) h (ev_l2i a k) :=
  gd_un (fun q => by
    obtain ⟨r, hr, hv⟩ := ev_l2i_spec (ρ := ρ) q
    refine ⟨r, hr, fun F hG ws v h1 => ?_⟩
    obtain ⟨x, rfl, hx⟩ := h1.l
    exact ⟨_, ev_RV.ofi (hv x hx), fun _ _ _ _ _ _ kk => lv_l2i F.1 F.2.1 d rfl kk⟩) g
theorem gd_dcmp {op : CmpOp} (d : decode cc pc = .ok (.dcmp op, 1)) (g : ev_Gd p l e R s m args below meth c ρ τ D tys A c0 s0 nL cc own fr lo w0 ret hh nm Q X (pc + 1) lv ((1, 0) :: st) h K) : ev_Gd p l e R s m args below meth c ρ τ D tys A c0 s0 nL cc own fr lo w0 ret hh nm Q X pc lv ((4, b) :: (4, a) :: st) h K :=
  gd_go id g fun F ws H locs cells slots ls stv _ hL hR kk => by
    obtain ⟨v, m1, rfl, h2, hr1⟩ := hR.cons
    obtain ⟨w, m2, rfl, h3, hr2⟩ := hr1.cons
    obtain ⟨-, rfl⟩ := h2.d
    obtain ⟨-, rfl⟩ := h3.d
    have hz : Op.cmpValue (FP.dcmp FP.dconst0 FP.dconst0) op = 0 := by cases op <;> decide +kernel
    exact lv_dcmp F.1 F.2.1 d (by rw [hz]; exact kk ls _ hL ⟨ev_RV.ofi (Or.inl rfl), hr2⟩)
theorem ev_nlt {x y : Int32} : ¬ x < y ↔ y ≤ x := by
  rw [ev_lt_iff, ev_le_iff]
  omega
-- branches
theorem gd_goto (d : decode cc pc = .ok (.goto off, 3)) (ht : (pc : Int) + off = (tgt : Int)) (g : ev_Gd p l e R s m args below meth c ρ τ D tys A c0 s0 nL cc own fr lo w0 ret hh nm Q X tgt lv st h K) : ev_Gd p l e R s m args below meth c ρ τ D tys A c0 s0 nL cc own fr lo w0 ret hh nm Q X pc lv st h K :=
  gd_go id g fun F ws H locs cells slots ls stv _ hL hR kk => lv_goto F.1 F.2.1 d ht (kk ls stv hL hR)
theorem gd_icmp_eq (d : decode cc pc = .ok (.if_icmp .eq off, 3)) (ht : (pc : Int) + off = (tgt : Int)) (g1 : ev_Gd p l e R s m args below meth c ρ τ D tys A c0 s0 nL cc own fr lo w0 ret hh nm Q X tgt lv st h K) (g2 : ev_Gd p l e R s m args below meth c ρ τ D tys A c0 s0 nL cc own fr lo w0 ret hh nm Q X (pc + 3) lv st h L) : ev_Gd p l e R s m args below meth c ρ τ D tys A c0 s0 nL cc own fr lo w0 ret hh nm Q X pc lv ((1, b) :: (1, a) :: st) h (ev_ieq h a b K L) := by
  intro q
  rcases ev_ieq_spec (ρ := ρ) q with ⟨hk, hv⟩ | ⟨hk, hv⟩
  · refine gd_go (fun _ => hk) g1 (fun F ws H locs cells slots ls stv hG hL hR kk => ?_) q
    obtain ⟨v, m1, rfl, h2, hr1⟩ := hR.cons
    obtain ⟨w, m2, rfl, h3, hr2⟩ := hr1.cons
    obtain ⟨y, rfl, hy⟩ := h2.i
    obtain ⟨x, rfl, hx⟩ := h3.i
    have hw := hv hG x y hx hy
    exact lv_icmp_eq F.1 F.2.1 d ht (fun z => kk ls _ hL hr2) (fun z => absurd hw z)
  · refine gd_go (fun _ => hk) g2 (fun F ws H locs cells slots ls stv hG hL hR kk => ?_) q
    obtain ⟨v, m1, rfl, h2, hr1⟩ := hR.cons
    obtain ⟨w, m2, rfl, h3, hr2⟩ := hr1.cons
    obtain ⟨y, rfl, hy⟩ := h2.i
    obtain ⟨x, rfl, hx⟩ := h3.i
    have hw := hv hG x y hx hy
    exact lv_icmp_eq F.1 F.2.1 d ht (fun z => absurd z hw) (fun z => kk ls _ hL hr2)
theorem gd_if_eq (d : decode cc pc = .ok (.ifCond .eq off, 3)) (ht : (pc : Int) + off = (tgt : Int)) (g1 : ev_Gd p l e R s m args below meth c ρ τ D tys A c0 s0 nL cc own fr lo w0 ret hh nm Q X tgt lv st h K) (g2 : ev_Gd p l e R s m args below meth c ρ τ D tys A c0 s0 nL cc own fr lo w0 ret hh nm Q X (pc + 3) lv st h L) : ev_Gd p l e R s m args below meth c ρ τ D tys A c0 s0 nL cc own fr lo w0 ret hh nm Q X pc lv ((1, a) :: st) h (ev_ieq h a 0 K L) := by
  intro q
  rcases ev_ieq_spec (ρ := ρ) q with ⟨hk, hv⟩ | ⟨hk, hv⟩
  · refine gd_go (fun _ => hk) g1 (fun F ws H locs cells slots ls stv hG hL hR kk => ?_) q
    obtain ⟨w, m1, rfl, h3, hr1⟩ := hR.cons
    obtain ⟨x, rfl, hx⟩ := h3.i
    have hw := hv hG x 0 hx (Or.inl rfl)
    exact lv_if_eq F.1 F.2.1 d ht (fun z => kk ls _ hL hr1) (fun z => absurd hw z)
  · refine gd_go (fun _ => hk) g2 (fun F ws H locs cells slots ls stv hG hL hR kk => ?_) q
    obtain ⟨w, m1, rfl, h3, hr1⟩ := hR.cons
    obtain ⟨x, rfl, hx⟩ := h3.i
    have hw := hv hG x 0 hx (Or.inl rfl)
    exact lv_if_eq F.1 F.2.1 d ht (fun z => absurd z hw) (fun z => kk ls _ hL hr1)
theorem gd_icmp_ne (d : decode cc pc = .ok (.if_icmp .ne off, 3)) (ht : (pc : Int) + off = (tgt : Int)) (g1 : ev_Gd p l e R s m args below meth c ρ τ D tys A c0 s0 nL cc own fr lo w0 ret hh nm Q X tgt lv st h K) (g2 : ev_Gd p l e R s m args below meth c ρ τ D tys A c0 s0 nL cc own fr lo w0 ret hh nm Q X (pc + 3) lv st h L) : ev_Gd p l e R s m args below meth c ρ τ D tys A c0 s0 nL cc own fr lo w0 ret hh nm Q X pc lv ((1, b) :: (1, a) :: st) h (ev_ieq h a b L K) := by
  intro q
  rcases ev_ieq_spec (ρ := ρ) q with ⟨hk, hv⟩ | ⟨hk, hv⟩
  · refine gd_go (fun _ => hk) g2 (fun F ws H locs cells slots ls stv hG hL hR kk => ?_) q
    obtain ⟨v, m1, rfl, h2, hr1⟩ := hR.cons
    obtain ⟨w, m2, rfl, h3, hr2⟩ := hr1.cons
    obtain ⟨y, rfl, hy⟩ := h2.i
    obtain ⟨x, rfl, hx⟩ := h3.i
    have hw := hv hG x y hx hy
    exact lv_icmp_ne F.1 F.2.1 d ht (fun z => absurd hw z) (fun z => kk ls _ hL hr2)
  · refine gd_go (fun _ => hk) g1 (fun F ws H locs cells slots ls stv hG hL hR kk => ?_) q
    obtain ⟨v, m1, rfl, h2, hr1⟩ := hR.cons
    obtain ⟨w, m2, rfl, h3, hr2⟩ := hr1.cons
    obtain ⟨y, rfl, hy⟩ := h2.i
    obtain ⟨x, rfl, hx⟩ := h3.i
    have hw := hv hG x y hx hy
    exact lv_icmp_ne F.1 F.2.1 d ht (fun z => kk ls _ hL hr2) (fun z => absurd z hw)
theorem gd_if_ne (d : decode cc pc = .ok (.ifCond .ne off, 3)) (ht : (pc : Int) + off = (tgt : Int)) (g1 : ev_Gd p l e R s m args below meth c ρ τ D tys A c0 s0 nL cc own fr lo w0 ret hh nm Q X tgt lv st h K) (g2 : ev_Gd p l e R s m args below meth c ρ τ D tys A c0 s0 nL cc own fr lo w0 ret hh nm Q X (pc + 3) lv st h L) : ev_Gd p l e R s m args below meth c ρ τ D tys A c0 s0 nL cc own fr lo w0 ret hh nm Q X pc lv ((1, a) :: st) h (ev_ieq h a 0 L K) := by
  intro q
  rcases ev_ieq_spec (ρ := ρ) q with ⟨hk, hv⟩ | ⟨hk, hv⟩
  · refine gd_go (fun _ => hk) g2 (fun F ws H locs cells slots ls stv hG hL hR kk => ?_) q
    obtain ⟨w, m1, rfl, h3, hr1⟩ := hR.cons
    obtain ⟨x, rfl, hx⟩ := h3.i
    have hw := hv hG x 0 hx (Or.inl rfl)
    exact lv_if_ne F.1 F.2.1 d ht (fun z => absurd hw z) (fun z => kk ls _ hL hr1)
  · refine gd_go (fun _ => hk) g1 (fun F ws H locs cells slots ls stv hG hL hR kk => ?_) q
    obtain ⟨w, m1, rfl, h3, hr1⟩ := hR.cons
    obtain ⟨x, rfl, hx⟩ := h3.i
    have hw := hv hG x 0 hx (Or.inl rfl)
    exact lv_if_ne F.1 F.2.1 d ht (fun z => kk ls _ hL hr1) (fun z => absurd z hw)
theorem gd_icmp_lt (d : decode cc pc = .ok (.if_icmp .lt off, 3)) (ht : (pc : Int) + off = (tgt : Int)) (g1 : ev_Gd p l e R s m args below meth c ρ τ D tys A c0 s0 nL cc own fr lo w0 ret hh nm Q X tgt lv st h K) (g2 : ev_Gd p l e R s m args below meth c ρ τ D tys A c0 s0 nL cc own fr lo w0 ret hh nm Q X (pc + 3) lv st h L) : ev_Gd p l e R s m args below meth c ρ τ D tys A c0 s0 nL cc own fr lo w0 ret hh nm Q X pc lv ((1, b) :: (1, a) :: st) h (ev_ilt h a b K L) := by
  intro q
  rcases ev_ilt_spec (ρ := ρ) q with ⟨hk, hv⟩ | ⟨hk, hv⟩
  · refine gd_go (fun _ => hk) g1 (fun F ws H locs cells slots ls stv hG hL hR kk => ?_) q
    obtain ⟨v, m1, rfl, h2, hr1⟩ := hR.cons
    obtain ⟨w, m2, rfl, h3, hr2⟩ := hr1.cons
    obtain ⟨y, rfl, hy⟩ := h2.i
    obtain ⟨x, rfl, hx⟩ := h3.i
    have hw := hv hG x y hx hy
    exact lv_icmp_lt F.1 F.2.1 d ht (fun z => kk ls _ hL hr2) (fun z => absurd hw z)
  · refine gd_go (fun _ => hk) g2 (fun F ws H locs cells slots ls stv hG hL hR kk => ?_) q
    obtain ⟨v, m1, rfl, h2, hr1⟩ := hR.cons
    obtain ⟨w, m2, rfl, h3, hr2⟩ := hr1.cons
    obtain ⟨y, rfl, hy⟩ := h2.i
    obtain ⟨x, rfl, hx⟩ := h3.i
    have hw := hv hG x y hx hy
    exact lv_icmp_lt F.1 F.2.1 d ht (fun z => absurd z hw) (fun z => kk ls _ hL hr2)
theorem gd_if_lt (d : decode cc pc = .ok (.ifCond .lt off, 3)) (ht : (pc : Int) + off = (tgt : Int)) (g1 : ev_Gd p l e R s m args below meth c ρ τ D tys A c0 s0 nL cc own fr lo w0 ret hh nm Q X tgt lv st h K) (g2 : ev_Gd p l e R s m args below meth c ρ τ D tys A c0 s0 nL cc own fr lo w0 ret hh nm Q X (pc + 3) lv st h L) : ev_Gd p l e R s m args below meth c ρ τ D tys A c0 s0 nL cc own fr lo w0 ret hh nm Q X pc lv ((1, a) :: st) h (ev_ilt h a 0 K L) := by
  intro q
  rcases ev_ilt_spec (ρ := ρ) q with ⟨hk, hv⟩ | ⟨hk, hv⟩
  · refine gd_go (fun _ => hk) g1 (fun F ws H locs cells slots ls stv hG hL hR kk => ?_) q
    obtain ⟨w, m1, rfl, h3, hr1⟩ := hR.cons
    obtain ⟨x, rfl, hx⟩ := h3.i
    have hw := hv hG x 0 hx (Or.inl rfl)
    exact lv_if_lt F.1 F.2.1 d ht (fun z => kk ls _ hL hr1) (fun z => absurd hw z)
  · refine gd_go (fun _ => hk) g2 (fun F ws H locs cells slots ls stv hG hL hR kk => ?_) q
    obtain ⟨w, m1, rfl, h3, hr1⟩ := hR.cons
    obtain ⟨x, rfl, hx⟩ := h3.i
    have hw := hv hG x 0 hx (Or.inl rfl)
    exact lv_if_lt F.1 F.2.1 d ht (fun z => absurd z hw) (fun z => kk ls _ hL hr1)
theorem gd_icmp_ge (d : decode cc pc = .ok (.if_icmp .ge off, 3)) (ht : (pc : Int) + off = (tgt : Int)) (g1 : ev_Gd p l e R s m args below meth c ρ τ D tys A c0 s0 nL cc own fr lo w0 ret hh nm Q X tgt lv st h K) (g2 : ev_Gd p l e R s m args below meth c ρ τ D tys A c0 s0 nL cc own fr lo w0 ret hh nm Q X (pc + 3) lv st h L) : ev_Gd p l e R s m args below meth c ρ τ D tys A c0 s0 nL cc own fr lo w0 ret hh nm Q X pc lv ((1, b) :: (1, a) :: st) h (ev_ilt h a b L K) := by
  intro q
  rcases ev_ilt_spec (ρ := ρ) q with ⟨hk, hv⟩ | ⟨hk, hv⟩
  · refine gd_go (fun _ => hk) g2 (fun F ws H locs cells slots ls stv hG hL hR kk => ?_) q
    obtain ⟨v, m1, rfl, h2, hr1⟩ := hR.cons
    obtain ⟨w, m2, rfl, h3, hr2⟩ := hr1.cons
    obtain ⟨y, rfl, hy⟩ := h2.i
    obtain ⟨x, rfl, hx⟩ := h3.i
    have hw := hv hG x y hx hy
    exact lv_icmp_ge F.1 F.2.1 d ht (fun z => absurd hw (ev_nlt.mpr z)) (fun z => kk ls _ hL hr2)
  · refine gd_go (fun _ => hk) g1 (fun F ws H locs cells slots ls stv hG hL hR kk => ?_) q
    obtain ⟨v, m1, rfl, h2, hr1⟩ := hR.cons
    obtain ⟨w, m2, rfl, h3, hr2⟩ := hr1.cons
    obtain ⟨y, rfl, hy⟩ := h2.i
    obtain ⟨x, rfl, hx⟩ := h3.i
    have hw := hv hG x y hx hy
    exact lv_icmp_ge F.1 F.2.1 d ht (fun z => kk ls _ hL hr2) (fun z => absurd (ev_nlt.mp hw) z)
theorem gd_if_ge (d : decode cc pc = .ok (.ifCond .ge off, 3)) (ht : (pc : Int) + off = (tgt : Int)) (g1 : ev_Gd p l e R s m args below meth c ρ τ D tys A c0 s0 nL cc own fr lo w0 ret hh nm Q X tgt lv st h K) (g2 : ev_Gd p l e R s m args below meth c ρ τ D tys A c0 s0 nL cc own fr lo w0 ret hh nm Q X (pc + 3) lv st h L) : ev_Gd p l e R s m args below meth c ρ τ D tys A c0 s0 nL cc own fr lo w0 ret hh nm Q X pc lv ((1, a) :: st) h (ev_ilt h a 0 L K) := by
  intro q
  rcases ev_ilt_spec (ρ := ρ) q with ⟨hk, hv⟩ | ⟨hk, hv⟩
  · refine gd_go (fun _ => hk) g2 (fun F ws H locs cells slots ls stv hG hL hR kk => ?_) q
    obtain ⟨w, m1, rfl, h3, hr1⟩ := hR.cons
    obtain ⟨x, rfl, hx⟩ := h3.i
    have hw := hv hG x 0 hx (Or.inl rfl)
    exact lv_if_ge F.1 F.2.1 d ht (fun z => absurd hw (ev_nlt.mpr z)) (fun z => kk ls _ hL hr1)
  · refine gd_go (fun _ => hk) g1 (fun F ws H locs cells slots ls stv hG hL hR kk => ?_) q
    obtain ⟨w, m1, rfl, h3, hr1⟩ := hR.cons
    obtain ⟨x, rfl, hx⟩ := h3.i
    have hw := hv hG x 0 hx (Or.inl rfl)
    exact lv_if_ge F.1 F.2.1 d ht (fun z => kk ls _ hL hr1) (fun z => absurd (ev_nlt.mp hw) z)
theorem gd_icmp_gt (d : decode cc pc = .ok (.if_icmp .gt off, 3)) (ht : (pc : Int) + off = (tgt : Int)) (g1 : ev_Gd p l e R s m args below meth c ρ τ D tys A c0 s0 nL cc own fr lo w0 ret hh nm Q X tgt lv st h K) (g2 : ev_Gd p l e R s m args below meth c ρ τ D tys A c0 s0 nL cc own fr lo w0 ret hh nm Q X (pc + 3) lv st h L) : ev_Gd p l e R s m args below meth c ρ τ D tys A c0 s0 nL cc own fr lo w0 ret hh nm Q X pc lv ((1, b) :: (1, a) :: st) h (ev_ilt h b a K L) := by
  intro q
  rcases ev_ilt_spec (ρ := ρ) q with ⟨hk, hv⟩ | ⟨hk, hv⟩
  · refine gd_go (fun _ => hk) g1 (fun F ws H locs cells slots ls stv hG hL hR kk => ?_) q
    obtain ⟨v, m1, rfl, h2, hr1⟩ := hR.cons
    obtain ⟨w, m2, rfl, h3, hr2⟩ := hr1.cons
    obtain ⟨y, rfl, hy⟩ := h2.i
    obtain ⟨x, rfl, hx⟩ := h3.i
    have hw := hv hG y x hy hx
    exact lv_icmp_gt F.1 F.2.1 d ht (fun z => kk ls _ hL hr2) (fun z => absurd hw z)
  · refine gd_go (fun _ => hk) g2 (fun F ws H locs cells slots ls stv hG hL hR kk => ?_) q
    obtain ⟨v, m1, rfl, h2, hr1⟩ := hR.cons
    obtain ⟨w, m2, rfl, h3, hr2⟩ := hr1.cons
    obtain ⟨y, rfl, hy⟩ := h2.i
    obtain ⟨x, rfl, hx⟩ := h3.i
    have hw := hv hG y x hy hx
    exact lv_icmp_gt F.1 F.2.1 d ht (fun z => absurd z hw) (fun z => kk ls _ hL hr2)
theorem gd_if_gt (d : decode cc pc = .ok (.ifCond .gt off, 3)) (ht : (pc : Int) + off = (tgt : Int)) (g1 : ev_Gd p l e R s m args below meth c ρ τ D tys A c0 s0 nL cc own fr lo w0 ret hh nm Q X tgt lv st h K) (g2 : ev_Gd p l e R s m args below meth c ρ τ D tys A c0 s0 nL cc own fr lo w0 ret hh nm Q X (pc + 3) lv st h L) : ev_Gd p l e R s m args below meth c ρ τ D tys A c0 s0 nL cc own fr lo w0 ret hh nm Q X pc lv ((1, a) :: st) h (ev_ilt h 0 a K L) := by
  intro q
  rcases ev_ilt_spec (ρ := ρ) q with ⟨hk, hv⟩ | ⟨hk, hv⟩
  · refine gd_go (fun _ => hk) g1 (fun F ws H locs cells slots ls stv hG hL hR kk => ?_) q
    obtain ⟨w, m1, rfl, h3, hr1⟩ := hR.cons
    obtain ⟨x, rfl, hx⟩ := h3.i
    have hw := hv hG 0 x (Or.inl rfl) hx
    exact lv_if_gt F.1 F.2.1 d ht (fun z => kk ls _ hL hr1) (fun z => absurd hw z)
  · refine gd_go (fun _ => hk) g2 (fun F ws H locs cells slots ls stv hG hL hR kk => ?_) q
    obtain ⟨w, m1, rfl, h3, hr1⟩ := hR.cons
    obtain ⟨x, rfl, hx⟩ := h3.i
    have hw := hv hG 0 x (Or.inl rfl) hx
    exact lv_if_gt F.1 F.2.1 d ht (fun z => absurd z hw) (fun z => kk ls _ hL hr1)
theorem gd_icmp_le (d : decode cc pc = .ok (.if_icmp .le off, 3)) (ht : (pc : Int) + off = (tgt : Int)) (g1 : ev_Gd p l e R s m args below meth c ρ τ D tys A c0 s0 nL cc own fr lo w0 ret hh nm Q X tgt lv st h K) (g2 : ev_Gd p l e R s m args below meth c ρ τ D tys A c0 s0 nL cc own fr lo w0 ret hh nm Q X (pc + 3) lv st h L) : ev_Gd p l e R s m args below meth c ρ τ D tys A c0 s0 nL cc own fr lo w0 ret hh nm Q X pc lv ((1, b) :: (1, a) :: st) h (ev_ilt h b a L K) := by
  intro q
  rcases ev_ilt_spec (ρ := ρ) q with ⟨hk, hv⟩ | ⟨hk, hv⟩
  · refine gd_go (fun _ => hk) g2 (fun F ws H locs cells slots ls stv hG hL hR kk => ?_) q
    obtain ⟨v, m1, rfl, h2, hr1⟩ := hR.cons
    obtain ⟨w, m2, rfl, h3, hr2⟩ := hr1.cons
    obtain ⟨y, rfl, hy⟩ := h2.i
    obtain ⟨x, rfl, hx⟩ := h3.i
    have hw := hv hG y x hy hx
    exact lv_icmp_le F.1 F.2.1 d ht (fun z => absurd hw (ev_nlt.mpr z)) (fun z => kk ls _ hL hr2)
  · refine gd_go (fun _ => hk) g1 (fun F ws H locs cells slots ls stv hG hL hR kk => ?_) q
    obtain ⟨v, m1, rfl, h2, hr1⟩ := hR.cons
    obtain ⟨w, m2, rfl, h3, hr2⟩ := hr1.cons
    obtain ⟨y, rfl, hy⟩ := h2.i
    obtain ⟨x, rfl, hx⟩ := h3.i
    have hw := hv hG y x hy hx
    exact lv_icmp_le F.1 F.2.1 d ht (fun z => kk ls _ hL hr2) (fun z => absurd (ev_nlt.mp hw) z)
theorem gd_if_le (d : decode cc pc = .ok (.ifCond .le off, 3)) (ht : (pc : Int) + off = (tgt : Int)) (g1 : ev_Gd p l e R s m args below meth c ρ τ D tys A c0 s0 nL cc own fr lo w0 ret hh nm Q X tgt lv st h K) (g2 : ev_Gd p l e R s m args below meth c ρ τ D tys A c0 s0 nL cc own fr lo w0 ret hh nm Q X (pc + 3) lv st h L) : ev_Gd p l e R s m args below meth c ρ τ D tys A c0 s0 nL cc own fr lo w0 ret hh nm Q X pc lv ((1, a) :: st) h (ev_ilt h 0 a L K) := by
  intro q
  rcases ev_ilt_spec (ρ := ρ) q with ⟨hk, hv⟩ | ⟨hk, hv⟩
  · refine gd_go (fun _ => hk) g2 (fun F ws H locs cells slots ls stv hG hL hR kk => ?_) q
    obtain ⟨w, m1, rfl, h3, hr1⟩ := hR.cons
    obtain ⟨x, rfl, hx⟩ := h3.i
    have hw := hv hG 0 x (Or.inl rfl) hx
    exact lv_if_le F.1 F.2.1 d ht (fun z => absurd hw (ev_nlt.mpr z)) (fun z => kk ls _ hL hr1)
  · refine gd_go (fun _ => hk) g1 (fun F ws H locs cells slots ls stv hG hL hR kk => ?_) q
    obtain ⟨w, m1, rfl, h3, hr1⟩ := hR.cons
    obtain ⟨x, rfl, hx⟩ := h3.i
    have hw := hv hG 0 x (Or.inl rfl) hx
    exact lv_if_le F.1 F.2.1 d ht (fun z => kk ls _ hL hr1) (fun z => absurd (ev_nlt.mp hw) z)
theorem gd_ifnull (d : decode cc pc = .ok (.ifnull off, 3)) (ht : (pc : Int) + off = (tgt : Int)) (g1 : ev_Gd p l e R s m args below meth c ρ τ D tys A c0 s0 nL cc own fr lo w0 ret hh nm Q X tgt lv st h K) (g2 : ev_Gd p l e R s m args below meth c ρ τ D tys A c0 s0 nL cc own fr lo w0 ret hh nm Q X (pc + 3) lv st h L) : ev_Gd p l e R s m args below meth c ρ τ D tys A c0 s0 nL cc own fr lo w0 ret hh nm Q X pc lv ((3, a) :: st) h (ev_isn a K L) := by
  intro q
  rcases ev_if_or q with ⟨hb, hk⟩ | ⟨hb, hk⟩
  · refine gd_go (fun _ => hk) g1 (fun F ws H locs cells slots ls stv hG hL hR kk => ?_) q
    obtain ⟨w, m1, rfl, h3, hr1⟩ := hR.cons
    have := h3.r.z (Nat.eq_of_beq_eq_true hb)
    subst this
    exact lv_ifnullN F.1 F.2.1 d ht (kk ls _ hL hr1)
  · refine gd_go (fun _ => hk) g2 (fun F ws H locs cells slots ls stv hG hL hR kk => ?_) q
    obtain ⟨w, m1, rfl, h3, hr1⟩ := hR.cons
    obtain ⟨u, rfl⟩ := h3.r.nz (ev_nbeq hb)
    exact lv_ifnull F.1 F.2.1 d (kk ls _ hL hr1)
theorem gd_ifnonnull (d : decode cc pc = .ok (.ifnonnull off, 3)) (ht : (pc : Int) + off = (tgt : Int)) (g1 : ev_Gd p l e R s m args below meth c ρ τ D tys A c0 s0 nL cc own fr lo w0 ret hh nm Q X tgt lv st h K) (g2 : ev_Gd p l e R s m args below meth c ρ τ D tys A c0 s0 nL cc own fr lo w0 ret hh nm Q X (pc + 3) lv st h L) : ev_Gd p l e R s m args below meth c ρ τ D tys A c0 s0 nL cc own fr lo w0 ret hh nm Q X pc lv ((3, a) :: st) h (ev_isn a L K) := by
  intro q
  rcases ev_if_or q with ⟨hb, hk⟩ | ⟨hb, hk⟩
  · refine gd_go (fun _ => hk) g2 (fun F ws H locs cells slots ls stv hG hL hR kk => ?_) q
    obtain ⟨w, m1, rfl, h3, hr1⟩ := hR.cons
    have := h3.r.z (Nat.eq_of_beq_eq_true hb)
    subst this
    exact lv_ifnonnullN F.1 F.2.1 d (kk ls _ hL hr1)
  · refine gd_go (fun _ => hk) g1 (fun F ws H locs cells slots ls stv hG hL hR kk => ?_) q
    obtain ⟨w, m1, rfl, h3, hr1⟩ := hR.cons
    obtain ⟨u, rfl⟩ := h3.r.nz (ev_nbeq hb)
    exact lv_ifnonnull F.1 F.2.1 d ht (kk ls _ hL hr1)
/-- a switch's places -/
def ev_Sw (G : Nat → ev_O → Prop) (pc : Nat) : List ev_O → List Int → Prop
  | [], [] => True
  | K :: ks, o :: os => (∃ tgt : Nat, (pc : Int) + o = (tgt : Int) ∧ G tgt K) ∧ ev_Sw G pc ks os
  | _, _ => False
theorem ev_Sw.at {G : Nat → ev_O → Prop} : ∀ {ks : List ev_O} {os : List Int}, ev_Sw G pc ks os → ∀ {j : Nat}, ev_nth none ks j = some X → ∃ (o : Int) (tgt : Nat), os[j]? = some o ∧ (pc : Int) + o = (tgt : Int) ∧ ∃ K, K = some X ∧ G tgt K
  | [], _, _, j, hj => nomatch hj
  | K :: ks, [], hs, _, _ => hs.elim
  | K :: ks, o :: os, hs, 0, hj => ⟨o, hs.1.choose, rfl, hs.1.choose_spec.1, K, hj, hs.1.choose_spec.2⟩
  | K :: ks, o :: os, hs, j + 1, hj => ev_Sw.at (ks := ks) (os := os) hs.2 (j := j) hj
theorem gd_switch {dflt hi : Int} {os : List Int} {ln N td : Nat} {ks : List ev_O} (d : decode cc pc = .ok (.tableswitch dflt 0 hi os.toArray, ln)) (hhi : hi + 1 = (N : Int)) (hN : N < 1000) (ht : (pc : Int) + dflt = (td : Int)) (hs : ev_Sw (fun tgt K => ev_Gd p l e R s m args below meth c ρ τ D tys A c0 s0 nL cc own fr lo w0 ret hh nm Q X tgt lv st h K) pc ks os) (g : ev_Gd p l e R s m args below meth c ρ τ D tys A c0 s0 nL cc own fr lo w0 ret hh nm Q X td lv st h L) :
    ev_Gd p l e R s m args below meth c ρ τ D tys A c0 s0 nL cc own fr lo w0 ret hh nm Q X pc lv ((1, a) :: st) h (ev_sw h N a ks L) := by
  intro q
  have out : L = some X → (∀ x, ev_GS ρ h.2.1 → ev_VI ρ a x → x.toInt < 0 ∨ hi < x.toInt) → ev_Gd p l e R s m args below meth c ρ τ D tys A c0 s0 nL cc own fr lo w0 ret hh nm Q X pc lv ((1, a) :: st) h (ev_sw h N a ks L) := fun hk hv => gd_go (fun _ => hk) g (fun F ws H locs cells slots ls stv hG hL hR kk => by
    obtain ⟨w, m1, rfl, h3, hr1⟩ := hR.cons
    obtain ⟨x, rfl, hx⟩ := h3.i
    exact lv_tableOut F.1 F.2.1 d (hv x hG hx) ht (kk ls _ hL hr1))
  rcases ev_if_or q with ⟨hb, hk⟩ | ⟨-, hk⟩
  · have hb := Nat.le_of_ble_eq_true hb
    rcases ev_if_or hk with ⟨h1, hk⟩ | ⟨h1, hk⟩
    · have h1 : a + 1 ≤ N := Nat.le_of_ble_eq_true h1
      obtain ⟨o, tgt, ho, e1, K', hK', g'⟩ := hs.at hk
      refine gd_go (fun _ => hK') g' (fun F ws H locs cells slots ls stv hG hL hR kk => ?_) q
      obtain ⟨w, m1, rfl, h3, hr1⟩ := hR.cons
      obtain ⟨x, rfl, hx⟩ := h3.i
      have hx := hx.small hb
      have hi2 := ev_bi_int x
      rw [ev_bi_eq, hx] at hi2
      have hxi : x.toInt = (a : Int) := by omega
      exact lv_tableIn F.1 F.2.1 d (by omega) (by omega) (by rw [hxi]; simpa using ho) e1 (kk ls _ hL hr1)
    · have h1 : ¬ a + 1 ≤ N := ev_nle h1
      refine out hk (fun x _ hx => ?_) q
      have hx := hx.small hb
      have hi2 := ev_bi_int x
      rw [ev_bi_eq, hx] at hi2
      omega
  · obtain ⟨a1, a2, hk, va⟩ := ev_bd_spec (ρ := ρ) hk
    rcases ev_if_or hk with ⟨h1, hk⟩ | ⟨-, hk⟩
    · have h1 := Nat.le_of_ble_eq_true h1
      refine out hk (fun x hG hx => ?_) q
      have := va hG x hx
      have hi2 := ev_bi_int x
      omega
    · rcases ev_if_or hk with ⟨h1, hk⟩ | ⟨-, hk⟩
      · have h1 : 2147483648 + N ≤ a1 := Nat.le_of_ble_eq_true h1
        refine out hk (fun x hG hx => ?_) q
        have := va hG x hx
        have hi2 := ev_bi_int x
        omega
      · cases hk
end EVG
