/-! THE WALK: ends, calls, contracts -/
theorem ev_Str.warm {τ : Nat → Nat} {i : Nat} {A : Nat → Prop} {s U : State} (hW : s.WarmedH U.vm) (hk : ∀ q : Nat, q < s.heap.size → ¬ A q → U.heap[q]? = s.heap[q]?) (h : ev_Str τ i A s) : ev_Str τ i A U :=
  ⟨va_O.moved hW.alike (h.1.kept hk), va_OF.moved hW.alike (h.2.1.kept hk), va_OF.moved hW.alike (h.2.2.1.kept hk), va_T.moved hW.alike (h.2.2.2.1.kept hk), va_Z.moved hW.alike (h.2.2.2.2.1.kept hk), va_Zq.moved hW.alike (h.2.2.2.2.2.1.kept hk), fun E E2 h1 h2 h3 => va_Nc.moved hW.alike (h.2.2.2.2.2.2 E E2 h1 h2 h3)⟩
theorem ev_nest_warm {w : Cond} (hw : ev_nestw w = true) {s U : State} (hW : s.WarmedH U.vm) (h : va_Nw w s) : va_Nw w U := by
  cases w <;> first
    | exact va_Nw.warmF hW h
    | exact va_Nw.warmM hW h
    | exact va_Nw.warmC hW h
    | exact va_Nw.warmD hW h
    | cases hw
theorem ev_O2.warm {τ : Nat → Nat} {A : Nat → Prop} {s U : State} (hW : s.WarmedH U.vm) (hk : ∀ q : Nat, q < s.heap.size → ¬ A q → U.heap[q]? = s.heap[q]?) (h : ev_O2 τ A s) : ev_O2 τ A U := by
  obtain ⟨h1, h2, h3, h4, h5, h6⟩ := h
  exact ⟨vx_Zq.moved hW.alike (h1.kept hk), vx_Zq.moved hW.alike (h2.kept hk), va_AO.moved hW.alike h3, va_AO.moved hW.alike h4, fun q hq => by
    obtain ⟨sa, h⟩ := h5 q hq
    exact ⟨sa, vk_R.warm hW h⟩, fun i q hq => ⟨vk_R.warm hW (h6 i q hq).1, (h6 i q hq).2.warm hW hk⟩⟩
theorem ev_K.warm {D : va_G} {tys : List (ClassId × FieldType)} {A : Nat → Prop} {τ : Nat → Nat} {s U : State} (hW : s.WarmedH U.vm) (hk : ∀ q : Nat, q < s.heap.size → ¬ A q → U.heap[q]? = s.heap[q]?) (h : ev_K D tys A τ s) : ev_K D tys A τ U :=
  ⟨h.1.moved hW.alike, h.2.1, fun w hw hn => ev_nest_warm hn hW (h.2.2.1 w hw hn), h.2.2.2.warm hW hk⟩
/-- a method's start -/
def ev_In (D : va_G) (tys : List (ClassId × FieldType)) (A : Nat → Prop) (τ : Nat → Nat) (ws : va_W) (U : State) : Prop := va_P D ev_cl ws U.heap ∧ va_D A ws ∧ ev_K D tys A τ U ∧ ∀ q, U.heap.size ≤ q → A q
theorem ev_In.blind (D : va_G) (tys : List (ClassId × FieldType)) (A : Nat → Prop) (τ : Nat → Nat) (ws : va_W) (av : List Value) : FrameBlind (va_Pc av (ev_In D tys A τ ws)) := by
  intro a U g mk h
  obtain ⟨h1, h2, h3, h4, h5⟩ := h
  have hW : U.WarmedH (U.calling g mk a).vm := State.WarmedH.refl U
  exact ⟨h1, h2, h3, h4.warm hW (fun _ _ _ => rfl), h5⟩
/-- what is returned -/
def ev_RO (ρ : Nat → Int32) (τ : Nat → Nat) (ws : va_W) (rk n : Nat) (ov : Option Value) : Prop := (rk = 0 ∧ ov = none) ∨ ∃ v, ov = some v ∧ ev_RV ρ τ ws rk n v
def ev_Qc (ρ : Nat → Int32) (τ : Nat → Nat) (D : va_G) (tys : List (ClassId × FieldType)) (A : Nat → Prop) (rk : Nat) (X : ev_X) (ws : va_W) : Array Value → State → Outcome → State → Prop := fun _ st oc t =>
  (∃ (n : Nat) (h' : ev_H) (ws' : va_W) (ov : Option Value), X = .inl (n, h') ∧ oc = .returned ov ∧ ev_RO ρ τ ws' rk n ov ∧ ev_E ws ws' ∧ ev_HR ev_kf ρ τ tys h' ws' ∧ va_P D ev_cl ws' t.heap ∧ va_D A ws') ∧ va_F A st t
def ev_XC (ρ : Nat → Int32) (τ : Nat → Nat) (D : va_G) (tys : List (ClassId × FieldType)) (A : Nat → Prop) (X : ev_X) (ws : va_W) : String → State → State → Prop := fun E st t =>
  (∃ (x : Nat) (h' : ev_H) (ws' : va_W), X = .inr (x, h') ∧ E = ev_En x ∧ ev_E ws ws' ∧ ev_HR ev_kf ρ τ tys h' ws' ∧ va_P D ev_cl ws' t.heap ∧ va_D A ws') ∧ va_F A st t
/-- a method's contract, where its code says X -/
def ev_Con (l : Launch) (ρ : Nat → Int32) (τ : Nat → Nat) (D : va_G) (tys : List (ClassId × FieldType)) (A : Nat → Prop) (y : MethodName) (cw : Cond) (fr lo rk : Nat) (as : List (Nat × Nat)) (h : ev_H) (X : ev_X) : Prop :=
  (Program × Env × Room × State × MethodId × Array Value × List Frame × Method × Code → ev_le h (ev_xh X)) ∧ ∀ (ws : va_W) (av : List Value), ev_HR ev_kf ρ τ tys h ws → ev_R1 ρ τ ws as av →
    vx_Met l y (cw :: ev_good) { frames := fr, cells := ev_c (ev_xh X) - ev_c h, slots := ev_z (ev_xh X) - ev_z h, locals := lo } (va_Pc av (ev_In D tys A τ ws)) (ev_Qc ρ τ D tys A rk X ws) (ev_XC ρ τ D tys A X ws) (ev_c (ev_xh X) - ev_c h) (ev_z (ev_xh X) - ev_z h) A
theorem ev_Con.met {l : Launch} {ρ : Nat → Int32} {τ : Nat → Nat} {D : va_G} {tys : List (ClassId × FieldType)} {A : Nat → Prop} {y : MethodName} {cw : Cond} {fr lo rk n : Nat} {as : List (Nat × Nat)} {h h' : ev_H} (hc : ev_Con l ρ τ D tys A y cw fr lo rk as h (.inl (n, h'))) {ws : va_W} {av : List Value} (hH : ev_HR ev_kf ρ τ tys h ws) (hR : ev_R1 ρ τ ws as av) :
    Met l y (cw :: ev_good) { frames := fr, cells := ev_c h' - ev_c h, slots := ev_z h' - ev_z h, locals := lo } (va_Pc av (ev_In D tys A τ ws)) (ev_Qc ρ τ D tys A rk (.inl (n, h')) ws) (ev_c h' - ev_c h) (ev_z h' - ev_z h) A := by
  refine MetFree.mono (hc.2 ws av hH hR) (fun _ _ q => q) (fun _ _ _ _ _ q => q) (fun a st o t _ q => ?_)
  rcases q with q | ⟨q0, -, E, ce, L, ⟨⟨x, h9, ws9, hX, -⟩, -⟩, -⟩
  · exact q
  · cases hX
section EVG
variable {p : Program} {l : Launch} {e : Env} {R : Room} {s : State} {m : MethodId} {args : Array Value} {below : List Frame} {meth : Method} {c : Code} {ρ : Nat → Int32} {τ : Nat → Nat} {D : va_G} {tys : List (ClassId × FieldType)} {A : Nat → Prop} {c0 s0 nL : Nat} {cc : ByteArray} {own : String} {fr lo : Nat} {w0 : va_W} {ret : Option FieldType} {hh : List ExceptionTableEntry} {nm : String}
variable {Q : State → Prop} {X : ev_X} {pc : Nat} {lv lv' : List (Nat × (Nat × Nat))} {st st' : List (Nat × Nat)} {h : ev_H} {K L : ev_O} {n i a b v tgt rk : Nat} {off : Int} {k : Nat → ev_O} {kh : ev_H → ev_O} {kn : Nat → ev_H → ev_O}
/-- what a body owes -/
abbrev ev_Q (below : List Frame) (ρ : Nat → Int32) (τ : Nat → Nat) (D : va_G) (tys : List (ClassId × FieldType)) (A : Nat → Prop) (rk : Nat) (X : ev_X) (w0 : va_W) (args : Array Value) (s : State) (c0 s0 : Nat) : State → Prop :=
  vx_MQ below (ev_Qc ρ τ D tys A rk X w0) (ev_XC ρ τ D tys A X w0) args s (ev_c (ev_xh X) - c0) (ev_z (ev_xh X) - s0) A
theorem gd_end {r0 : Value} (hv : ∀ ws v, ev_RV ρ τ ws rk n v → True)
    (w : ev_F p l e R s m args below meth c ρ τ D tys A c0 s0 nL cc own fr lo w0 ret hh nm → ∀ (H : Heap) (locs : List Loc) (ls : Array Slot) (ws : va_W) (v : Value), ev_RV ρ τ ws rk n v → (∀ t : State, t.heap = H → s.WarmedH t.vm → ev_Qc ρ τ D tys A rk (.inl (n, h)) w0 args s (.returned (some v)) t) → (∀ q ∈ locs, A q.base) →
      W p l e R s m args below meth c H locs (ev_c h - c0) (ev_z h - s0) (MQ below (ev_Qc ρ τ D tys A rk (.inl (n, h)) w0) args s (ev_c h - c0) (ev_z h - s0) A) (F0 m pc ls [v])) :
    ev_Gd p l e R s m args below meth c ρ τ D tys A c0 s0 nL cc own fr lo w0 ret hh nm (ev_Q below ρ τ D tys A rk X w0 args s c0 s0) X pc lv [(rk, n)] h (ev_ret n h) := by
  intro q
  cases q
  refine ⟨ev_le.rf h, fun F x1 x2 x3 x4 ws H locs ls stv hE hP hD hS hH hL hR => ?_⟩
  obtain ⟨v, m1, rfl, h1, hr1⟩ := hR.cons
  cases m1 with
  | cons _ _ => exact hr1.elim
  | nil => exact vx_ret (w F H locs ls ws v h1 (fun t ht _ => ⟨⟨n, h, ws, some v, rfl, rfl, Or.inr ⟨v, rfl, h1⟩, hE, hH, by rw [ht]; exact hP, hD⟩, hS.F ht⟩) hS.2.2)
theorem gd_iret (hr : ret = some .int) (d : decode cc pc = .ok (.ireturn, 1)) : ev_Gd p l e R s m args below meth c ρ τ D tys A c0 s0 nL cc own fr lo w0 ret hh nm (ev_Q below ρ τ D tys A 1 X w0 args s c0 s0) X pc lv [(1, n)] h (ev_ret n h) :=
  gd_end (r0 := .null) (fun _ _ _ => trivial) fun F H locs ls ws v h1 hq hf => by
    obtain ⟨x, rfl, -⟩ := h1.i
    exact W.iret F.1 F.2.1 (F.2.2.2.2.2.2.2.2.2.2.2.1.trans hr) hq hf d F.2.2.2.2.2.1
theorem gd_zret (hr : ret = some .boolean) (d : decode cc pc = .ok (.ireturn, 1)) : ev_Gd p l e R s m args below meth c ρ τ D tys A c0 s0 nL cc own fr lo w0 ret hh nm (ev_Q below ρ τ D tys A 1 X w0 args s c0 s0) X pc lv [(1, n)] h (ev_zret n h) := by
  intro q
  rcases ev_if_or q with ⟨hb, q⟩ | ⟨-, q⟩
  · have hb := Nat.le_of_ble_eq_true hb
    refine gd_end (p := p) (l := l) (e := e) (R := R) (s := s) (m := m) (args := args) (below := below) (meth := meth) (c := c) (c0 := c0) (s0 := s0) (nL := nL) (cc := cc) (own := own) (fr := fr) (lo := lo) (w0 := w0) (ret := ret) (hh := hh) (nm := nm) (lv := lv) (X := X) (r0 := .null) (fun _ _ _ => trivial) (fun F H locs ls ws v h1 hq hf => ?_) q
    have hfit := (ev_Fit.bool (ρ := ρ) (τ := τ) hb ws v h1).1
    obtain ⟨x, rfl, -⟩ := h1.i
    exact W.zret F.1 F.2.1 (F.2.2.2.2.2.2.2.2.2.2.2.1.trans hr) hfit hq hf d F.2.2.2.2.2.1
  · cases q
theorem gd_lret (hr : ret = some .long) (d : decode cc pc = .ok (.lreturn, 1)) : ev_Gd p l e R s m args below meth c ρ τ D tys A c0 s0 nL cc own fr lo w0 ret hh nm (ev_Q below ρ τ D tys A 2 X w0 args s c0 s0) X pc lv [(2, n)] h (ev_ret n h) :=
  gd_end (r0 := .null) (fun _ _ _ => trivial) fun F H locs ls ws v h1 hq hf => by
    obtain ⟨x, rfl, -⟩ := h1.l
    exact W.lret F.1 F.2.1 (F.2.2.2.2.2.2.2.2.2.2.2.1.trans hr) hq hf d F.2.2.2.2.2.1
theorem gd_dret (hr : ret = some .double) (d : decode cc pc = .ok (.dreturn, 1)) : ev_Gd p l e R s m args below meth c ρ τ D tys A c0 s0 nL cc own fr lo w0 ret hh nm (ev_Q below ρ τ D tys A 4 X w0 args s c0 s0) X pc lv [(4, n)] h (ev_ret n h) :=
  gd_end (r0 := .null) (fun _ _ _ => trivial) fun F H locs ls ws v h1 hq hf => by
    obtain ⟨-, rfl⟩ := h1.d
    have hlk := F.2.2.2.2.2.1
    exact W.dret F.1 F.2.1 (F.2.2.2.2.2.2.2.2.2.2.2.1.trans hr) hq hf d
theorem gd_aret {rt : FieldType} (hr : ret = some rt) (hrt : (∃ n, rt = .object n) ∨ ∃ t, rt = .array t) (d : decode cc pc = .ok (.areturn, 1)) : ev_Gd p l e R s m args below meth c ρ τ D tys A c0 s0 nL cc own fr lo w0 ret hh nm (ev_Q below ρ τ D tys A 3 X w0 args s c0 s0) X pc lv [(3, n)] h (ev_ret n h) :=
  gd_end (r0 := .null) (fun _ _ _ => trivial) fun F H locs ls ws v h1 hq hf => by
    refine W.aret F.1 F.2.1 (F.2.2.2.2.2.2.2.2.2.2.2.1.trans hr) hrt ?_ hq hf d F.2.2.2.2.2.1
    by_cases h0 : n = 0
    · exact Or.inl (h1.r.z h0)
    · exact Or.inr (h1.r.nz h0)
theorem gd_vret (hr : ret = none) (d : decode cc pc = .ok (.return_, 1)) : ev_Gd p l e R s m args below meth c ρ τ D tys A c0 s0 nL cc own fr lo w0 ret hh nm (ev_Q below ρ τ D tys A 0 X w0 args s c0 s0) X pc lv [] h (ev_ret 0 h) := by
  intro q
  cases q
  refine ⟨ev_le.rf h, fun F x1 x2 x3 x4 ws H locs ls stv hE hP hD hS hH hL hR => ?_⟩
  cases stv with
  | cons _ _ => exact hR.elim
  | nil => exact vx_ret (W.vret F.1 F.2.1 (F.2.2.2.2.2.2.2.2.2.2.2.1.trans hr) (fun t ht _ => ⟨⟨0, h, ws, none, rfl, rfl, Or.inl ⟨rfl, rfl⟩, hE, hH, by rw [ht]; exact hP, hD⟩, hS.F ht⟩) hS.2.2 d F.2.2.2.2.2.1)
-- calls
theorem ev_call_spec {o : ev_O} {x : Nat → ev_H → ev_O} (e : ev_call o kn x = some X) : (∃ v h', o = some (.inl (v, h')) ∧ kn v h' = some X) ∨ ∃ E h', o = some (.inr (E, h')) ∧ x E h' = some X := by
  rcases o with _ | ⟨v, h'⟩ | ⟨E, h'⟩
  · exact nomatch e
  · exact Or.inl ⟨v, h', rfl, e⟩
  · exact Or.inr ⟨E, h', rfl, e⟩
/-- the stack behind a call -/
def ev_psh (rk n : Nat) (st : List (Nat × Nat)) : List (Nat × Nat) := match rk with
  | 0 => st
  | r + 1 => (r + 1, n) :: st
theorem ev_R1_psh {ws : va_W} {ov : Option Value} {sv : List Value} (h1 : ev_RO ρ τ ws rk n ov) (h2 : ev_R1 ρ τ ws st sv) : ev_R1 ρ τ ws (ev_psh rk n st) (ov.toList ++ sv) := by
  rcases h1 with ⟨rfl, rfl⟩ | ⟨w, rfl, hw⟩
  · exact h2
  · cases rk with
    | zero =>
      rcases hw.2 with ⟨h, -⟩ | ⟨h, -⟩ | ⟨h, -⟩ | ⟨h, -⟩ <;> cases h
    | succ r => exact ⟨hw, h2⟩
theorem ev_sum : ∀ {st : List (Nat × Nat)} {ws : va_W} {sv : List Value}, ev_R1 ρ τ ws st sv → (sv.map fun v => v.category).sum = (st.map fun q => if q.1 = 2 ∨ q.1 = 4 then 2 else 1).sum
  | [], _, [], _ => rfl
  | [], _, _ :: _, hh => hh.elim
  | _ :: _, _, [], hh => hh.elim
  | q :: l, ws, v :: mm, hh => by
    show v.category + (mm.map fun v => v.category).sum = (if q.1 = 2 ∨ q.1 = 4 then 2 else 1) + (l.map fun q => if q.1 = 2 ∨ q.1 = 4 then 2 else 1).sum
    rw [hh.1.cat, ev_sum hh.2]
/-- a call that has come back -/
theorem ev_back {ws : va_W} {H : Heap} {locs : List Loc} {ls : Array Slot} {stv rest : List Value} {cells slots mc ms : Nat} {h' : ev_H} {aa : Array Value} (hS : va_S A s.heap H locs)
    (hr : va_Run p l e R s m args below meth c H locs cells slots mc ms (F0 m pc ls stv) rest (ev_Qc ρ τ D tys A rk (.inl (n, h')) ws aa) A)
    (kk : ∀ (ws' : va_W) (H' : Heap) (locs' : List Loc) (ov : Option Value), ev_E ws ws' → va_P D ev_cl ws' H' → va_D A ws' → va_S A s.heap H' locs' → ev_HR ev_kf ρ τ tys h' ws' → ev_RO ρ τ ws' rk n ov →
      W p l e R s m args below meth c H' locs' (cells + mc) (slots + ms) Q (F0 m (pc + 3) ls (ov.toList ++ rest))) :
    W p l e R s m args below meth c H locs cells slots Q (F0 m pc ls stv) := by
  intro T hT XX
  obtain ⟨v0, st₀, t, T', L, h0, X', hL, e1, e2, ⟨⟨n1, h1, ws', ov, hX, hov, hro, hE, hH, hP, hD⟩, hF⟩, st⟩ := hr T hT XX
  cases hX
  cases hov
  obtain ⟨-, -, k3⟩ := vx_keep h0 e1 hS (fun _ _ q => q) (fun _ q => q) hL hF
  obtain ⟨t2, a1, b1⟩ := kk ws' T'.heap (locs ++ L) _ hE (by rw [e1]; exact hP) hD k3 hH hro T' rfl X'
  exact ⟨t2, st t2 a1, b1⟩
/-- the callee's start, out of the caller's world -/
theorem ev_In.of {ws : va_W} {H : Heap} {locs : List Loc} (F : ev_F p l e R s m args below meth c ρ τ D tys A c0 s0 nL cc own fr lo w0 ret hh nm) (hP : va_P D ev_cl ws H) (hD : va_D A ws) (hS : va_S A s.heap H locs) {U : State} (hU : U.heap = H) (hW : s.WarmedH U.vm) : ev_In D tys A τ ws U := by
  subst hU
  exact ⟨hP, hD, F.2.2.2.2.2.2.1.warm hW hS.2.1, fun q hq => F.2.2.2.2.2.2.2.1 q (Nat.le_trans hS.1 hq)⟩
theorem ev_goods {ws : List Cond} {y : MethodName} {bytes : ByteArray} {nL' : Nat} {ret' : Option FieldType} (hcode : Cond.code y bytes nL' ret' ∈ ev_good) (hws : ∀ w ∈ ws, w ∈ ev_good) : GoodIn ev_good (ws ++ (Cond.code y bytes nL' ret' :: ev_good)) := by
  intro w hw
  have hm : w ∈ ev_good := by
    rcases List.mem_append.mp hw with h | h
    · exact hws w h
    · rcases List.mem_cons.mp h with h | h
      · rw [h]; exact hcode
      · exact h
  exact ⟨hm, good_of_word (ev_good_lw hm).2⟩
/-- the stack of a call: the arguments, the last on top -/
theorem ev_R1_split : ∀ {as : List (Nat × Nat)} {st : List (Nat × Nat)} {ws : va_W} {sv : List Value}, ev_R1 ρ τ ws (as ++ st) sv → ∃ av rest, sv = av ++ rest ∧ ev_R1 ρ τ ws as av ∧ ev_R1 ρ τ ws st rest ∧ av.length = as.length
  | [], st, ws, sv, hh => ⟨[], sv, rfl, trivial, hh, rfl⟩
  | _ :: _, _, _, [], hh => hh.elim
  | q :: as, st, ws, v :: sv, hh => by
    obtain ⟨av, rest, h1, h2, h3, h4⟩ := ev_R1_split hh.2
    exact ⟨v :: av, rest, by rw [h1]; rfl, ⟨hh.1, h2⟩, h3, by rw [List.length_cons, List.length_cons, h4]⟩
theorem ev_R1_app : ∀ {l1 l2 : List (Nat × Nat)} {ws : va_W} {m1 m2 : List Value}, ev_R1 ρ τ ws l1 m1 → ev_R1 ρ τ ws l2 m2 → ev_R1 ρ τ ws (l1 ++ l2) (m1 ++ m2)
  | [], _, _, [], _, _, h2 => h2
  | [], _, _, _ :: _, _, h1, _ => h1.elim
  | _ :: _, _, _, [], _, h1, _ => h1.elim
  | _ :: _, _, _, _ :: _, _, h1, h2 => ⟨h1.1, ev_R1_app h1.2 h2⟩
theorem ev_R1_rev : ∀ {l : List (Nat × Nat)} {ws : va_W} {mm : List Value}, ev_R1 ρ τ ws l mm → ev_R1 ρ τ ws l.reverse mm.reverse
  | [], _, [], _ => trivial
  | [], _, _ :: _, hh => hh.elim
  | _ :: _, _, [], hh => hh.elim
  | q :: l, ws, v :: mm, hh => by
    rw [List.reverse_cons, List.reverse_cons]
    exact ev_R1_app (ev_R1_rev hh.2) ⟨hh.1, trivial⟩
/-- the receiver is an object of the class ci -/
noncomputable def ev_recv (h : ev_H) (ci a : Nat) (K : ev_O) : ev_O := ev_cell (h.1.get a) none (fun c _ => ev_if (Nat.beq c ci) K none) (fun _ _ _ => none)
theorem ev_recv_spec {ci : Nat} (z : ev_recv h ci a K = some X) : (∃ N, h.1.get a = some (.inl (ci, N))) ∧ K = some X := by
  rcases ev_cell_or z with ⟨c', N, hg, hk⟩ | ⟨_, _, _, _, hk⟩
  · rcases ev_if_or hk with ⟨hb, hk2⟩ | ⟨-, hk2⟩
    · have hc := Nat.eq_of_beq_eq_true hb
      exact ⟨⟨N, by rw [hg, hc]⟩, hk2⟩
    · cases hk2
  · cases hk
theorem gd_callV {idx ci N9 nL' fr' lo' : Nat} {C : String} {T : u_T} {y : MethodName} {bytes : ByteArray} {ret' : Option FieldType} {o : ev_O} {as : List (Nat × Nat)} (hc : ev_cl[ci]? = some (C, T, N9)) (hy : ev_Yd y C as.length) (hcode : Cond.code y bytes nL' ret' ∈ ev_good) (hl : Cond.methodLink own idx y ∈ ev_good) (hi : Cond.instanceMethod y ∈ ev_good) (hse : Cond.selects C y y ∈ ev_good) (hin : Cond.initialized C ∈ ev_good)
    (hfr : fr' + 1 ≤ fr) (hlo : 8 + (nL' + 11) + lo' ≤ lo) (hst : (st.map fun q => if q.1 = 2 ∨ q.1 = 4 then 2 else 1).sum ≤ 8) (con : ∀ Y, o = some Y → ev_Con l ρ τ D tys A y (Cond.code y bytes nL' ret') fr' lo' rk ((3, a) :: as) h Y)
    (d : decode cc pc = .ok (.invokevirtual idx, 3)) (g : ∀ v h', ev_Gd p l e R s m args below meth c ρ τ D tys A c0 s0 nL cc own fr lo w0 ret hh nm Q X (pc + 3) lv (ev_psh rk v st) h' (kn v h')) : ev_Gd p l e R s m args below meth c ρ τ D tys A c0 s0 nL cc own fr lo w0 ret hh nm Q X pc lv (as.reverse ++ (3, a) :: st) h (ev_recv h ci a (ev_call o kn fun _ _ => none)) := by
  intro z
  obtain ⟨⟨W9, hg⟩, z1⟩ := ev_recv_spec z
  rcases ev_call_spec z1 with ⟨v, h', ho, hk⟩ | ⟨E, h', ho, hk⟩
  · have hcon := con _ ho
    obtain ⟨g1, -⟩ := g v h' hk
    have hle1 : ev_le h h' := hcon.1 (p, e, R, s, m, args, below, meth, c)
    refine gd_w (fun _ => hk) hle1 (g v h') (fun F x1 x2 x3 x4 x5 ws H locs ls stv hP hD hS hH hL hR kk => ?_) z
    obtain ⟨avr, r1, rfl, q1, q2, q3⟩ := ev_R1_split hR
    obtain ⟨u, rest, rfl, q4, q5⟩ := q2.cons
    obtain ⟨-, -, b9, e9, rfl, he, hC⟩ := hH.at q4 hg
    obtain ⟨fs, rfl, -⟩ := hC
    have hlen : avr.reverse.length = as.length := by rw [List.length_reverse, q3, List.length_reverse]
    have q1r : ev_R1 ρ τ ws as avr.reverse := by have := ev_R1_rev q1; rwa [List.reverse_reverse] at this
    have hM := hcon.met hH (av := .ref b9 :: avr.reverse) ⟨q4, q1r⟩
    have hcw : CallW R s args own C idx y bytes nL' ret' (Cond.code y bytes nL' ret' :: ev_good) { frames := fr', cells := ev_c h' - ev_c h, slots := ev_z h' - ev_z h, locals := lo' } (ev_c h' - ev_c h) (ev_z h' - ev_z h) as.length :=
      cwV as.length F.2.2.2.2.1 (ev_goods hcode (fun w hw => by
        simp only [List.mem_cons, List.not_mem_nil, or_false] at hw
        rcases hw with rfl | rfl | rfl | rfl
        · exact hl
        · exact hi
        · exact hse
        · exact hin)) rfl rfl rfl hy ⟨by rw [F.2.2.2.2.2.2.2.2.1]; exact hfr, by rw [F.2.2.2.2.2.2.2.2.2.1]; exact hlo⟩
    have hf1 : ev_c h ≤ ev_c h' := hle1.1
    have hf2 : ev_z h ≤ ev_z h' := hle1.2
    have hf3 : ev_c h' ≤ ev_c (ev_xh X) := x5.1
    have hf4 : ev_z h' ≤ ev_z (ev_xh X) := x5.2
    have hrun := va_runV (p := p) (l := l) (e := e) (R := R) (s := s) (m := m) (args := args) (below := below) (meth := meth) (c := c) (H := H) (locs := locs) (cells := ev_c h - c0) (slots := ev_z h - s0) (g := F0 m pc ls (avr ++ Value.ref b9 :: rest)) (rest := rest) (As := avr.reverse) (b := b9)
      ⟨F.1, F.2.1, F.2.2.1, F.2.2.2.1, F.2.2.2.2.1⟩ hM hcw ⟨ev_In.blind D tys A τ ws _, va_recv F.2.2.2.2.2.2.1.1 hP hc he, fun U hU hW => ⟨rfl, ev_In.of F hP hD hS hU hW⟩⟩ rfl hlen hL.1 (by show avr ++ _ = _; rw [List.reverse_reverse]) (lv_room (by rw [ev_sum q5]; exact hst)) d ⟨by omega, by omega⟩
    refine ev_back hS hrun fun ws' H' locs' ov hE' hP' hD' hS' hH' hro => ?_
    have hk2 := kk ws' hE' H' locs' ls _ hP' hD' hS' hH' (hL.mono hE') (ev_R1_psh hro (ev_R1.mono hE' _ _ q5))
    have e1 : ev_c h - c0 + (ev_c h' - ev_c h) = ev_c h' - c0 := by omega
    have e2 : ev_z h - s0 + (ev_z h' - ev_z h) = ev_z h' - s0 := by omega
    rw [e1, e2]
    exact hk2
  · cases hk
end EVG
