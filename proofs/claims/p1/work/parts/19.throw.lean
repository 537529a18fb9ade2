/-! THE WALK: throws that leave a method -/
section EVG
variable {p : Program} {l : Launch} {e : Env} {R : Room} {s : State} {m : MethodId} {args : Array Value} {below : List Frame} {meth : Method} {c : Code} {ρ : Nat → Int32} {τ : Nat → Nat} {D : va_G} {tys : List (ClassId × FieldType)} {A : Nat → Prop} {c0 s0 nL : Nat} {cc : ByteArray} {own : String} {fr lo : Nat} {w0 : va_W} {ret : Option FieldType} {hh : List ExceptionTableEntry} {nm : String}
variable {Q : State → Prop} {X : ev_X} {pc : Nat} {lv lv' : List (Nat × (Nat × Nat))} {st st' : List (Nat × Nat)} {h : ev_H} {K L : ev_O} {n i a b v tgt rk : Nat} {off : Int} {k : Nat → ev_O} {kh : ev_H → ev_O} {kn : Nat → ev_H → ev_O}
theorem gd_throw {ik is ic E : Nat} {text : String} {names : List String} (hcls : Bundle.fit (ev_En E) = true) (hnames : ∀ n ∈ names, Bundle.fit n = true) (hnl : names.length = 2) (hat : ∀ w ∈ vx_atS own ic (ev_En E) names, w ∈ ev_good ∨ (w ∈ lw_tbl ∧ ev_nestw w = true)) (hgood : ∀ w ∈ vx_atS own ic (ev_En E) names, vx_ot w = true) (hk : Cond.classLink own ik (ev_En E) ∈ ev_good) (hini : Cond.initialized (ev_En E) ∈ ev_good) (hq : (own, (is, text)) ∈ ev_strs) (hfr : 6 ≤ fr) (hlo : 82 ≤ lo)
    (d0 : decode cc pc = .ok (.new ik, 3)) (d3 : decode cc (pc + 3) = .ok (.dup, 1)) (d4 : decode cc (pc + 4) = .ok (.ldc is, 2)) (d6 : decode cc (pc + 6) = .ok (.invokespecial ic, 3)) (d9 : decode cc (pc + 9) = .ok (.athrow, 1)) : ev_Gd p l e R s m args below meth c ρ τ D tys A c0 s0 nL cc own fr lo w0 ret [] nm (ev_Q below ρ τ D tys A rk X w0 args s c0 s0) X pc lv [] h (ev_throw E h) := by
  intro z
  have z' : some (.inr (E, (h.1, (h.2.1, (h.2.2.1, (ev_c h + 1, ev_z h + 6)))))) = some X := by
    unfold ev_throw at z
    rw [ev_f_eq, ev_f_eq] at z
    exact z
  cases z'
  refine ⟨⟨Nat.le_succ _, Nat.le_add_right _ _⟩, fun F x1 x2 x3 x4 ws H locs ls stv hE hP hD hS hH hL hR => ?_⟩
  have x1 : ev_c h + 1 ≤ c0 + R.cells := x1
  have x2 : ev_z h + 6 ≤ s0 + R.slots := x2
  cases stv with
  | cons _ _ => exact hR.elim
  | nil =>
    obtain ⟨sa, hsa⟩ := F.2.2.2.2.2.2.1.2.2.2.2.2.2.2.1 _ hq
    refine vx_throwS (A := A) F.1 F.2.1 F.2.2.2.2.2.2.2.2.2.2.1 F.2.2.2.1 hcls hnames (F.2.2.2.2.1 _ hk) (F.2.2.2.2.1 _ hini) hsa (fun w hw => ?_) (fun w hw => ?_) F.2.2.2.2.2.2.1.2.2.2.1 F.2.2.2.2.2.2.1.2.2.2.2.1 hS (by rw [hL.1, F.2.2.1]) d0 d3 d4 d6 d9 (fun x hx => ?_) (by rw [hnl, F.2.2.2.2.2.2.2.2.1]; omega) (by rw [hnl, F.2.2.2.2.2.2.2.2.2.1]; show 0 + _ ≤ _; omega) (by omega) (by omega) F.2.2.2.2.2.1 (fun t _ hz hk => ?_) hS.2.2 (show ev_c h - c0 + 1 ≤ ev_c h + 1 - c0 by omega) (show ev_z h - s0 + 6 ≤ ev_z h + 6 - s0 by omega)
    · rcases hat w hw with q | ⟨q1, q2⟩
      · exact F.2.2.2.2.1 _ q
      · have q3 := F.2.2.2.2.2.2.1.2.2.1 w q1 q2
        exact va_Nw.use (by cases w <;> first | rfl | cases q2) q3
    · rcases List.mem_cons.mp hw with q | q
      · rw [q]; rfl
      · rcases List.mem_cons.mp q with q | q
        · rw [q]; rfl
        · exact hgood w q
    · rw [F.2.2.2.2.2.2.2.2.2.2.2.2.1] at hx
      cases hx
    · refine ⟨⟨E, _, ws, rfl, rfl, hE, ?_, hP.kept fun k q hq => hk q.1 (hP k q hq).lt, hD⟩, Nat.le_trans hS.1 hz, fun q q1 q2 => ?_⟩
      · exact ⟨hH.1, hH.2.1, hH.2.2.1, hH.2.2.2⟩
      · rw [hk q (Nat.lt_of_lt_of_le q1 hS.1)]
        exact hS.2.1 q q1 q2
theorem gd_throwW {ik is ic E : Nat} {text : String} {names : List String} (hcls : Bundle.fit (ev_En E) = true) (hnames : ∀ n ∈ names, Bundle.fit n = true) (hnl : names.length = 2) (hat : ∀ w ∈ vx_atS own ic (ev_En E) names, w ∈ ev_good ∨ (w ∈ lw_tbl ∧ ev_nestw w = true)) (hgood : ∀ w ∈ vx_atS own ic (ev_En E) names, vx_ot w = true) (hk : Cond.classLink own ik (ev_En E) ∈ ev_good) (hini : Cond.initialized (ev_En E) ∈ ev_good) (hq : (own, (is, text)) ∈ ev_strs) (hfr : 6 ≤ fr) (hlo : 82 ≤ lo)
    (d0 : decode cc pc = .ok (.new ik, 3)) (d3 : decode cc (pc + 3) = .ok (.dup, 1)) (d4 : decode cc (pc + 4) = .ok (.ldc_w is, 3)) (d6 : decode cc (pc + 7) = .ok (.invokespecial ic, 3)) (d9 : decode cc (pc + 10) = .ok (.athrow, 1)) : ev_Gd p l e R s m args below meth c ρ τ D tys A c0 s0 nL cc own fr lo w0 ret [] nm (ev_Q below ρ τ D tys A rk X w0 args s c0 s0) X pc lv [] h (ev_throw E h) := by
  intro z
  have z' : some (.inr (E, (h.1, (h.2.1, (h.2.2.1, (ev_c h + 1, ev_z h + 6)))))) = some X := by
    unfold ev_throw at z
    rw [ev_f_eq, ev_f_eq] at z
    exact z
  cases z'
  refine ⟨⟨Nat.le_succ _, Nat.le_add_right _ _⟩, fun F x1 x2 x3 x4 ws H locs ls stv hE hP hD hS hH hL hR => ?_⟩
  have x1 : ev_c h + 1 ≤ c0 + R.cells := x1
  have x2 : ev_z h + 6 ≤ s0 + R.slots := x2
  cases stv with
  | cons _ _ => exact hR.elim
  | nil =>
    obtain ⟨sa, hsa⟩ := F.2.2.2.2.2.2.1.2.2.2.2.2.2.2.1 _ hq
    refine vx_throwSW (A := A) F.1 F.2.1 F.2.2.2.2.2.2.2.2.2.2.1 F.2.2.2.1 hcls hnames (F.2.2.2.2.1 _ hk) (F.2.2.2.2.1 _ hini) hsa (fun w hw => ?_) (fun w hw => ?_) F.2.2.2.2.2.2.1.2.2.2.1 F.2.2.2.2.2.2.1.2.2.2.2.1 hS (by rw [hL.1, F.2.2.1]) d0 d3 d4 d6 d9 (fun x hx => ?_) (by rw [hnl, F.2.2.2.2.2.2.2.2.1]; omega) (by rw [hnl, F.2.2.2.2.2.2.2.2.2.1]; show 0 + _ ≤ _; omega) (by omega) (by omega) F.2.2.2.2.2.1 (fun t _ hz hk => ?_) hS.2.2 (show ev_c h - c0 + 1 ≤ ev_c h + 1 - c0 by omega) (show ev_z h - s0 + 6 ≤ ev_z h + 6 - s0 by omega)
    · rcases hat w hw with q | ⟨q1, q2⟩
      · exact F.2.2.2.2.1 _ q
      · have q3 := F.2.2.2.2.2.2.1.2.2.1 w q1 q2
        exact va_Nw.use (by cases w <;> first | rfl | cases q2) q3
    · rcases List.mem_cons.mp hw with q | q
      · rw [q]; rfl
      · rcases List.mem_cons.mp q with q | q
        · rw [q]; rfl
        · exact hgood w q
    · rw [F.2.2.2.2.2.2.2.2.2.2.2.2.1] at hx
      cases hx
    · refine ⟨⟨E, _, ws, rfl, rfl, hE, ?_, hP.kept fun k q hq => hk q.1 (hP k q hq).lt, hD⟩, Nat.le_trans hS.1 hz, fun q q1 q2 => ?_⟩
      · exact ⟨hH.1, hH.2.1, hH.2.2.1, hH.2.2.2⟩
      · rw [hk q (Nat.lt_of_lt_of_le q1 hS.1)]
        exact hS.2.1 q q1 q2
/-- a call that has thrown -/
theorem ev_backT {Q : State → Prop} {ws : va_W} {H : Heap} {locs : List Loc} {ls : Array Slot} {stv rest : List Value} {cells slots mc ms E : Nat} {h' : ev_H} {aa : Array Value} (hS : va_S A s.heap H locs)
    (hr : vx_Run p l e R s m args below meth c H locs cells slots mc ms (F0 m pc ls stv) rest (ev_Qc ρ τ D tys A rk (.inr (E, h')) ws aa) (ev_XC ρ τ D tys A (.inr (E, h')) ws) A)
    (kk : ∀ (ws' : va_W) (H' : Heap) (locs' : List Loc) (ce : Cell) (q9 : Addr), ev_E ws ws' → va_P D ev_cl ws' H' → va_D A ws' → va_S A s.heap H' locs' → ev_HR ev_kf ρ τ tys h' ws' → H'[q9]? = some ce → ce.vm = .none → s.vm.findClass (ev_En E) = some ce.cls →
      vx_W p l e R s m args below meth c H' locs' (cells + mc) (slots + ms) Q (F0 m pc ls rest) q9) :
    W p l e R s m args below meth c H locs cells slots Q (F0 m pc ls stv) := by
  intro T hT XX
  rcases hr T hT XX with ⟨v, st₀, t, T', L, h0, X', hL, e1, e2, ⟨⟨n1, h1, ws', ov, hX, -⟩, -⟩, st⟩ | ⟨q9, st₀, t, T', L, E', ce, h0, X', hL, e1, e2, ⟨⟨x9, h1, ws', hX, hE9, hE, hH, hP, hD⟩, hF⟩, hce, hcv, hcl, st⟩
  · cases hX
  · cases hX
    obtain ⟨-, -, k3⟩ := vx_keep h0 e1 hS (fun _ _ q => q) (fun _ q => q) hL hF
    obtain ⟨t2, a1, b1⟩ := kk ws' T'.heap (locs ++ L) ce q9 hE (by rw [e1]; exact hP) hD k3 hH (by rw [e1]; exact hce) hcv (by rw [← hE9]; exact hcl) T' rfl X'
    exact ⟨t2, st.trans a1, b1⟩
theorem gd_callVT {rk9 idx ci N9 nL' fr' lo' : Nat} {C : String} {T : u_T} {y : MethodName} {bytes : ByteArray} {ret' : Option FieldType} {o : ev_O} {as : List (Nat × Nat)} (hc : ev_cl[ci]? = some (C, T, N9)) (hy : ev_Yd y C as.length) (hcode : Cond.code y bytes nL' ret' ∈ ev_good) (hl : Cond.methodLink own idx y ∈ ev_good) (hi : Cond.instanceMethod y ∈ ev_good) (hse : Cond.selects C y y ∈ ev_good) (hin : Cond.initialized C ∈ ev_good)
    (hfr : fr' + 1 ≤ fr) (hlo : 8 + (nL' + 11) + lo' ≤ lo) (hst : (st.map fun q => if q.1 = 2 ∨ q.1 = 4 then 2 else 1).sum ≤ 8) (con : ∀ Y, o = some Y → ev_Con l ρ τ D tys A y (Cond.code y bytes nL' ret') fr' lo' rk ((3, a) :: as) h Y)
    (d : decode cc pc = .ok (.invokevirtual idx, 3)) (g : ∀ v h', ev_Gd p l e R s m args below meth c ρ τ D tys A c0 s0 nL cc own fr lo w0 ret [] nm (ev_Q below ρ τ D tys A rk9 X w0 args s c0 s0) X (pc + 3) lv (ev_psh rk v st) h' (kn v h')) : ev_Gd p l e R s m args below meth c ρ τ D tys A c0 s0 nL cc own fr lo w0 ret [] nm (ev_Q below ρ τ D tys A rk9 X w0 args s c0 s0) X pc lv (as.reverse ++ (3, a) :: st) h (ev_recv h ci a (ev_call o kn ev_thr)) := by
  intro z
  obtain ⟨⟨W9, hg⟩, z1⟩ := ev_recv_spec z
  rcases ev_call_spec z1 with ⟨v, h', ho, hk⟩ | ⟨E, h', ho, hk⟩
  · have hcon := con _ ho
    obtain ⟨g1, -⟩ := g v h' hk
    have hle1 : ev_le h h' := hcon.1 (p, e, R, s, m, args, below, meth, c)
    refine gd_w (fun _ => hk) hle1 (g v h') (fun F x1 x2 x3 x4 x5 ws H locs ls stv hP hD hS hH hL hR kk => ?_) z
    obtain ⟨avr, r1, rfl, q1, q2, q3⟩ := ev_R1_split hR
    obtain ⟨u, rest, rfl, q4, q5⟩ := q2.cons
    obtain ⟨-, -, b9, e9, rfl, he, hC⟩ := hH.at q4 hg
    obtain ⟨fs, rfl, -⟩ := hC
    have hlen : avr.reverse.length = as.length := by rw [List.length_reverse, q3, List.length_reverse]
    have q1r : ev_R1 ρ τ ws as avr.reverse := by have := ev_R1_rev q1; rwa [List.reverse_reverse] at this
    have hM := hcon.met hH (av := .ref b9 :: avr.reverse) ⟨q4, q1r⟩
    have hcw : CallW R s args own C idx y bytes nL' ret' (Cond.code y bytes nL' ret' :: ev_good) { frames := fr', cells := ev_c h' - ev_c h, slots := ev_z h' - ev_z h, locals := lo' } (ev_c h' - ev_c h) (ev_z h' - ev_z h) as.length :=
      cwV as.length F.2.2.2.2.1 (ev_goods hcode (fun w hw => by
        simp only [List.mem_cons, List.not_mem_nil, or_false] at hw
        rcases hw with rfl | rfl | rfl | rfl
        · exact hl
        · exact hi
        · exact hse
        · exact hin)) rfl rfl rfl hy ⟨by rw [F.2.2.2.2.2.2.2.2.1]; exact hfr, by rw [F.2.2.2.2.2.2.2.2.2.1]; exact hlo⟩
    have hf1 : ev_c h ≤ ev_c h' := hle1.1
    have hf2 : ev_z h ≤ ev_z h' := hle1.2
    have hf3 : ev_c h' ≤ ev_c (ev_xh X) := x5.1
    have hf4 : ev_z h' ≤ ev_z (ev_xh X) := x5.2
    have hrun := va_runV (p := p) (l := l) (e := e) (R := R) (s := s) (m := m) (args := args) (below := below) (meth := meth) (c := c) (H := H) (locs := locs) (cells := ev_c h - c0) (slots := ev_z h - s0) (g := F0 m pc ls (avr ++ Value.ref b9 :: rest)) (rest := rest) (As := avr.reverse) (b := b9)
      ⟨F.1, F.2.1, F.2.2.1, F.2.2.2.1, F.2.2.2.2.1⟩ hM hcw ⟨ev_In.blind D tys A τ ws _, va_recv F.2.2.2.2.2.2.1.1 hP hc he, fun U hU hW => ⟨rfl, ev_In.of F hP hD hS hU hW⟩⟩ rfl hlen hL.1 (by show avr ++ _ = _; rw [List.reverse_reverse]) (lv_room (by rw [ev_sum q5]; exact hst)) d ⟨by omega, by omega⟩
    refine ev_back hS hrun fun ws' H' locs' ov hE' hP' hD' hS' hH' hro => ?_
    have hk2 := kk ws' hE' H' locs' ls _ hP' hD' hS' hH' (hL.mono hE') (ev_R1_psh hro (ev_R1.mono hE' _ _ q5))
    have e1 : ev_c h - c0 + (ev_c h' - ev_c h) = ev_c h' - c0 := by omega
    have e2 : ev_z h - s0 + (ev_z h' - ev_z h) = ev_z h' - s0 := by omega
    rw [e1, e2]
    exact hk2
  · cases hk
    have hcon := con _ ho
    have hle1 : ev_le h h' := hcon.1 (p, e, R, s, m, args, below, meth, c)
    refine ⟨hle1, fun F x1 x2 x3 x4 ws H locs ls stv hE hP hD hS hH hL hR => ?_⟩
    obtain ⟨avr, r1, rfl, q1, q2, q3⟩ := ev_R1_split hR
    obtain ⟨u, rest, rfl, q4, q5⟩ := q2.cons
    obtain ⟨-, -, b9, e9, rfl, he, hC⟩ := hH.at q4 hg
    obtain ⟨fs, rfl, -⟩ := hC
    have hlen : avr.reverse.length = as.length := by rw [List.length_reverse, q3, List.length_reverse]
    have q1r : ev_R1 ρ τ ws as avr.reverse := by have := ev_R1_rev q1; rwa [List.reverse_reverse] at this
    have hM := hcon.2 ws (.ref b9 :: avr.reverse) hH ⟨q4, q1r⟩
    have hcw : CallW R s args own C idx y bytes nL' ret' (Cond.code y bytes nL' ret' :: ev_good) { frames := fr', cells := ev_c h' - ev_c h, slots := ev_z h' - ev_z h, locals := lo' } (ev_c h' - ev_c h) (ev_z h' - ev_z h) as.length :=
      cwV as.length F.2.2.2.2.1 (ev_goods hcode (fun w hw => by
        simp only [List.mem_cons, List.not_mem_nil, or_false] at hw
        rcases hw with rfl | rfl | rfl | rfl
        · exact hl
        · exact hi
        · exact hse
        · exact hin)) rfl rfl rfl hy ⟨by rw [F.2.2.2.2.2.2.2.2.1]; exact hfr, by rw [F.2.2.2.2.2.2.2.2.2.1]; exact hlo⟩
    have hf1 : ev_c h ≤ ev_c h' := hle1.1
    have hf2 : ev_z h ≤ ev_z h' := hle1.2
    have x1 : ev_c h' ≤ c0 + R.cells := x1
    have x2 : ev_z h' ≤ s0 + R.slots := x2
    have hrun := vx_runV (p := p) (l := l) (e := e) (R := R) (s := s) (m := m) (args := args) (below := below) (meth := meth) (c := c) (H := H) (locs := locs) (cells := ev_c h - c0) (slots := ev_z h - s0) (g := F0 m pc ls (avr ++ Value.ref b9 :: rest)) (rest := rest) (As := avr.reverse) (b := b9)
      ⟨F.1, F.2.1, F.2.2.1, F.2.2.2.1, F.2.2.2.2.1⟩ hM hcw ⟨ev_In.blind D tys A τ ws _, va_recv F.2.2.2.2.2.2.1.1 hP hc he, fun U hU hW => ⟨rfl, ev_In.of F hP hD hS hU hW⟩⟩ rfl hlen hL.1 (by show avr ++ _ = _; rw [List.reverse_reverse]) (lv_room (by rw [ev_sum q5]; exact hst)) d ⟨by omega, by omega⟩
    refine ev_backT hS hrun fun ws' H' locs' ce q9 hE' hP' hD' hS' hH' hce hcv hcl => ?_
    exact vx_out (E := ev_En E) (ce := ce) (fun x hx => by rw [F.2.2.2.2.2.2.2.2.2.2.2.2.1] at hx; cases hx) F.2.2.2.2.2.1 hce hcv hcl (fun t ht _ => ⟨⟨E, h', ws', rfl, rfl, hE.trans hE', hH', by rw [ht]; exact hP', hD'⟩, hS'.F ht⟩) hS'.2.2 (show ev_c h - c0 + (ev_c h' - ev_c h) ≤ ev_c h' - c0 by omega) (show ev_z h - s0 + (ev_z h' - ev_z h) ≤ ev_z h' - s0 by omega)
theorem gd_callST {rk9 idx nL' fr' lo' : Nat} {C : String} {y : MethodName} {bytes : ByteArray} {ret' : Option FieldType} {o : ev_O} {as : List (Nat × Nat)} (hy : ev_Yd y C as.length) (hcode : Cond.code y bytes nL' ret' ∈ ev_good) (hl : Cond.methodLink own idx y ∈ ev_good) (hi : Cond.static y ∈ ev_good) (hin : Cond.initialized C ∈ ev_good)
    (hfr : fr' + 1 ≤ fr) (hlo : 8 + (nL' + 11) + lo' ≤ lo) (hst : (st.map fun q => if q.1 = 2 ∨ q.1 = 4 then 2 else 1).sum ≤ 8) (con : ∀ Y, o = some Y → ev_Con l ρ τ D tys A y (Cond.code y bytes nL' ret') fr' lo' rk as h Y)
    (d : decode cc pc = .ok (.invokestatic idx, 3)) (g : ∀ v h', ev_Gd p l e R s m args below meth c ρ τ D tys A c0 s0 nL cc own fr lo w0 ret [] nm (ev_Q below ρ τ D tys A rk9 X w0 args s c0 s0) X (pc + 3) lv (ev_psh rk v st) h' (kn v h')) : ev_Gd p l e R s m args below meth c ρ τ D tys A c0 s0 nL cc own fr lo w0 ret [] nm (ev_Q below ρ τ D tys A rk9 X w0 args s c0 s0) X pc lv (as.reverse ++ st) h (ev_call o kn ev_thr) := by
  intro z
  rcases ev_call_spec z with ⟨v, h', ho, hk⟩ | ⟨E, h', ho, hk⟩
  · have hcon := con _ ho
    obtain ⟨g1, -⟩ := g v h' hk
    have hle1 : ev_le h h' := hcon.1 (p, e, R, s, m, args, below, meth, c)
    refine gd_w (fun _ => hk) hle1 (g v h') (fun F x1 x2 x3 x4 x5 ws H locs ls stv hP hD hS hH hL hR kk => ?_) z
    obtain ⟨avr, rest, rfl, q1, q5, q3⟩ := ev_R1_split hR
    have hlen : avr.reverse.length = as.length := by rw [List.length_reverse, q3, List.length_reverse]
    have q1r : ev_R1 ρ τ ws as avr.reverse := by have := ev_R1_rev q1; rwa [List.reverse_reverse] at this
    have hM := hcon.met hH (av := avr.reverse) q1r
    have hcw : CallB R s args own idx y bytes nL' ret' (Cond.code y bytes nL' ret' :: ev_good) { frames := fr', cells := ev_c h' - ev_c h, slots := ev_z h' - ev_z h, locals := lo' } (ev_c h' - ev_c h) (ev_z h' - ev_z h) as.length ∧ (Cond.static y).before args s = true :=
      va_cwS as.length F.2.2.2.2.1 (ev_goods hcode (fun w hw => by
        simp only [List.mem_cons, List.not_mem_nil, or_false] at hw
        rcases hw with rfl | rfl | rfl
        · exact hl
        · exact hi
        · rw [hy.1]; exact hin)) rfl rfl rfl hy.2 ⟨by rw [F.2.2.2.2.2.2.2.2.1]; exact hfr, by rw [F.2.2.2.2.2.2.2.2.2.1]; exact hlo⟩
    have hf1 : ev_c h ≤ ev_c h' := hle1.1
    have hf2 : ev_z h ≤ ev_z h' := hle1.2
    have hf3 : ev_c h' ≤ ev_c (ev_xh X) := x5.1
    have hf4 : ev_z h' ≤ ev_z (ev_xh X) := x5.2
    have hrun := va_runS (p := p) (l := l) (e := e) (R := R) (s := s) (m := m) (args := args) (below := below) (meth := meth) (c := c) (H := H) (locs := locs) (cells := ev_c h - c0) (slots := ev_z h - s0) (g := F0 m pc ls (avr ++ rest)) (rest := rest) (As := avr.reverse)
      ⟨F.1, F.2.1, F.2.2.1, F.2.2.2.1, F.2.2.2.2.1⟩ hM hcw ⟨ev_In.blind D tys A τ ws _, fun U hU hW => ⟨rfl, ev_In.of F hP hD hS hU hW⟩⟩ rfl hlen hL.1 (by show avr ++ _ = _; rw [List.reverse_reverse]) (lv_room (by rw [ev_sum q5]; exact hst)) d ⟨by omega, by omega⟩
    refine ev_back hS hrun fun ws' H' locs' ov hE' hP' hD' hS' hH' hro => ?_
    have hk2 := kk ws' hE' H' locs' ls _ hP' hD' hS' hH' (hL.mono hE') (ev_R1_psh hro (ev_R1.mono hE' _ _ q5))
    have e1 : ev_c h - c0 + (ev_c h' - ev_c h) = ev_c h' - c0 := by omega
    have e2 : ev_z h - s0 + (ev_z h' - ev_z h) = ev_z h' - s0 := by omega
    rw [e1, e2]
    exact hk2
  · cases hk
    have hcon := con _ ho
    have hle1 : ev_le h h' := hcon.1 (p, e, R, s, m, args, below, meth, c)
    refine ⟨hle1, fun F x1 x2 x3 x4 ws H locs ls stv hE hP hD hS hH hL hR => ?_⟩
    obtain ⟨avr, rest, rfl, q1, q5, q3⟩ := ev_R1_split hR
    have hlen : avr.reverse.length = as.length := by rw [List.length_reverse, q3, List.length_reverse]
    have q1r : ev_R1 ρ τ ws as avr.reverse := by have := ev_R1_rev q1; rwa [List.reverse_reverse] at this
    have hM := hcon.2 ws avr.reverse hH q1r
    have hcw : CallB R s args own idx y bytes nL' ret' (Cond.code y bytes nL' ret' :: ev_good) { frames := fr', cells := ev_c h' - ev_c h, slots := ev_z h' - ev_z h, locals := lo' } (ev_c h' - ev_c h) (ev_z h' - ev_z h) as.length ∧ (Cond.static y).before args s = true :=
      va_cwS as.length F.2.2.2.2.1 (ev_goods hcode (fun w hw => by
        simp only [List.mem_cons, List.not_mem_nil, or_false] at hw
        rcases hw with rfl | rfl | rfl
        · exact hl
        · exact hi
        · rw [hy.1]; exact hin)) rfl rfl rfl hy.2 ⟨by rw [F.2.2.2.2.2.2.2.2.1]; exact hfr, by rw [F.2.2.2.2.2.2.2.2.2.1]; exact hlo⟩
    have hf1 : ev_c h ≤ ev_c h' := hle1.1
    have hf2 : ev_z h ≤ ev_z h' := hle1.2
    have x1 : ev_c h' ≤ c0 + R.cells := x1
    have x2 : ev_z h' ≤ s0 + R.slots := x2
    have hrun := vx_runS (p := p) (l := l) (e := e) (R := R) (s := s) (m := m) (args := args) (below := below) (meth := meth) (c := c) (H := H) (locs := locs) (cells := ev_c h - c0) (slots := ev_z h - s0) (g := F0 m pc ls (avr ++ rest)) (rest := rest) (As := avr.reverse)
      ⟨F.1, F.2.1, F.2.2.1, F.2.2.2.1, F.2.2.2.2.1⟩ hM hcw ⟨ev_In.blind D tys A τ ws _, fun U hU hW => ⟨rfl, ev_In.of F hP hD hS hU hW⟩⟩ rfl hlen hL.1 (by show avr ++ _ = _; rw [List.reverse_reverse]) (lv_room (by rw [ev_sum q5]; exact hst)) d ⟨by omega, by omega⟩
    refine ev_backT hS hrun fun ws' H' locs' ce q9 hE' hP' hD' hS' hH' hce hcv hcl => ?_
    exact vx_out (E := ev_En E) (ce := ce) (fun x hx => by rw [F.2.2.2.2.2.2.2.2.2.2.2.2.1] at hx; cases hx) F.2.2.2.2.2.1 hce hcv hcl (fun t ht _ => ⟨⟨E, h', ws', rfl, rfl, hE.trans hE', hH', by rw [ht]; exact hP', hD'⟩, hS'.F ht⟩) hS'.2.2 (show ev_c h - c0 + (ev_c h' - ev_c h) ≤ ev_c h' - c0 by omega) (show ev_z h - s0 + (ev_z h' - ev_z h) ≤ ev_z h' - s0 by omega)
end EVG
