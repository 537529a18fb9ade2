/-! THE LAW: methods with handlers -/
theorem li_RL : Cond.initialized RL ∈ ev_good := ev_in (ev_t1 _ (List.mem_of_getElem? (i := 0) rfl)) rfl
theorem lcL_13 : Cond.classLink RL 13 (ev_En 0) ∈ ev_good := ev_in (ev_t3 _ (List.mem_of_getElem? (i := 119) rfl)) rfl
theorem ev_ca0 : Cond.castable (ev_En 0) (ev_En 0) ∈ lw_tbl := ev_t3 _ (List.mem_of_getElem? (i := 126) rfl)
theorem lcL_25 : Cond.classLink RL 25 (ev_En 1) ∈ ev_good := ev_in (ev_t3 _ (List.mem_of_getElem? (i := 223) rfl)) rfl
theorem ev_ca1 : Cond.castable (ev_En 1) (ev_En 1) ∈ lw_tbl := ev_t3 _ (List.mem_of_getElem? (i := 230) rfl)
theorem lcL_19 : Cond.classLink RL 19 (ev_En 2) ∈ ev_good := ev_in (ev_t3 _ (List.mem_of_getElem? (i := 199) rfl)) rfl
theorem ev_ca2 : Cond.castable (ev_En 2) (ev_En 2) ∈ lw_tbl := ev_t3 _ (List.mem_of_getElem? (i := 206) rfl)
theorem lcL_30 : Cond.classLink RL 30 (ev_En 3) ∈ ev_good := ev_in (ev_t4 _ (List.mem_of_getElem? (i := 30) rfl)) rfl
theorem ev_ca3 : Cond.castable (ev_En 3) (ev_En 3) ∈ lw_tbl := ev_t4 _ (List.mem_of_getElem? (i := 44) rfl)
theorem ev_ca : ∀ E, E < 4 → Cond.castable (ev_En E) (ev_En E) ∈ lw_tbl
  | 0, _ => ev_ca0
  | 1, _ => ev_ca1
  | 2, _ => ev_ca2
  | 3, _ => ev_ca3
  | E + 4, h => absurd h (by omega)
/-- what is thrown here is caught there -/
def ev_Hd (own : String) (hh : List ExceptionTableEntry) (pc E tgt : Nat) : Prop :=
  ∃ (pre : List ExceptionTableEntry) (x : ExceptionTableEntry) (suf : List ExceptionTableEntry), hh = pre ++ x :: suf ∧ covers x pc = true ∧ x.catchType ≠ 0 ∧ x.handlerPc = tgt ∧ Cond.classLink own x.catchType (ev_En E) ∈ ev_good ∧ E < 4 ∧
    ∀ z ∈ pre, z.catchType ≠ 0 ∧ ∃ E2, E2 < 4 ∧ E ≠ E2 ∧ Cond.classLink own z.catchType (ev_En E2) ∈ ev_good
theorem ev_goodsH {h4 : List (Nat × Nat × Nat × Nat)} {ws : List Cond} {y : MethodName} {bytes : ByteArray} {nL' : Nat} {ret' : Option FieldType} (hcode : Cond.codeWith y bytes nL' ret' h4 ∈ ev_good) (hws : ∀ w ∈ ws, w ∈ ev_good) : GoodIn ev_good (ws ++ (Cond.codeWith y bytes nL' ret' h4 :: ev_good)) := by
  intro w hw
  have hm : w ∈ ev_good := by
    rcases List.mem_append.mp hw with h | h
    · exact hws w h
    · rcases List.mem_cons.mp h with h | h
      · rw [h]; exact hcode
      · exact h
  exact ⟨hm, good_of_word (ev_good_lw hm).2⟩
section EVG
variable {p : Program} {l : Launch} {e : Env} {R : Room} {s : State} {m : MethodId} {args : Array Value} {below : List Frame} {meth : Method} {c : Code} {ρ : Nat → Int32} {τ : Nat → Nat} {D : va_G} {tys : List (ClassId × FieldType)} {A : Nat → Prop} {c0 s0 nL : Nat} {cc : ByteArray} {own : String} {fr lo : Nat} {w0 : va_W} {ret : Option FieldType} {hh : List ExceptionTableEntry} {nm : String}
variable {Q : State → Prop} {X : ev_X} {pc : Nat} {lv lv' : List (Nat × (Nat × Nat))} {st st' : List (Nat × Nat)} {h : ev_H} {K L : ev_O} {n i a b v tgt rk : Nat} {off : Int} {k : Nat → ev_O} {kh : ev_H → ev_O} {kn : Nat → ev_H → ev_O}

theorem gd_callVH {idx ci N9 nL' fr' lo' : Nat} {C : String} {T : u_T} {y : MethodName} {bytes : ByteArray} {ret' : Option FieldType} {o : ev_O} {as : List (Nat × Nat)} {kx : Nat → ev_H → ev_O} (hc : ev_cl[ci]? = some (C, T, N9)) (hy : ev_Yd y C as.length) (hcode : Cond.code y bytes nL' ret' ∈ ev_good) (hl : Cond.methodLink own idx y ∈ ev_good) (hi : Cond.instanceMethod y ∈ ev_good) (hse : Cond.selects C y y ∈ ev_good) (hin : Cond.initialized C ∈ ev_good)
    (hfr : fr' + 1 ≤ fr) (hlo : 8 + (nL' + 11) + lo' ≤ lo) (hst : (st.map fun q => if q.1 = 2 ∨ q.1 = 4 then 2 else 1).sum ≤ 8) (con : ∀ Y, o = some Y → ev_Con l ρ τ D tys A y (Cond.code y bytes nL' ret') fr' lo' rk ((3, a) :: as) h Y)
    (d : decode cc pc = .ok (.invokevirtual idx, 3)) (g : ∀ v h', ev_Gd p l e R s m args below meth c ρ τ D tys A c0 s0 nL cc own fr lo w0 ret hh nm Q X (pc + 3) lv (ev_psh rk v st) h' (kn v h'))
    (hX : ∀ E h', kx E h' = some X → ∃ tgt, ev_Hd own hh pc E tgt ∧ ev_Gd p l e R s m args below meth c ρ τ D tys A c0 s0 nL cc own fr lo w0 ret hh nm Q X tgt lv [(3, 2)] h' (some X)) : ev_Gd p l e R s m args below meth c ρ τ D tys A c0 s0 nL cc own fr lo w0 ret hh nm Q X pc lv (as.reverse ++ (3, a) :: st) h (ev_recv h ci a (ev_call o kn kx)) := by
  intro z
  obtain ⟨⟨W9, hg⟩, z1⟩ := ev_recv_spec z
  rcases ev_call_spec z1 with ⟨v, h', ho, hk⟩ | ⟨E, h', ho, hk⟩
  · have hcon := con _ ho
    obtain ⟨g1, -⟩ := g v h' hk
    have hle1 : ev_le h h' := hcon.1 (p, e, R, s, m, args, below, meth, c)
    refine gd_w (fun _ => hk) hle1 (g v h') (fun F x1 x2 x3 x4 x5 ws H locs ls stv hP hD hS hH hL hR kk => ?_) z
    obtain ⟨avr, r1, rfl, q1, q2, q3⟩ := ev_R1_split hR
    obtain ⟨u, rest, rfl, q4, q5⟩ := q2.cons
    obtain ⟨-, -, b9, e9, rfl, he, hC⟩ := hH.at q4 hg
    obtain ⟨fs, rfl, -⟩ := hC
    have hlen : avr.reverse.length = as.length := by rw [List.length_reverse, q3, List.length_reverse]
    have q1r : ev_R1 ρ τ ws as avr.reverse := by have := ev_R1_rev q1; rwa [List.reverse_reverse] at this
    have hM := hcon.met hH (av := .ref b9 :: avr.reverse) ⟨q4, q1r⟩
    have hcw : CallW R s args own C idx y bytes nL' ret' (Cond.code y bytes nL' ret' :: ev_good) { frames := fr', cells := ev_c h' - ev_c h, slots := ev_z h' - ev_z h, locals := lo' } (ev_c h' - ev_c h) (ev_z h' - ev_z h) as.length :=
      cwV as.length F.2.2.2.2.1 (ev_goods hcode (fun w hw => by
        simp only [List.mem_cons, List.not_mem_nil, or_false] at hw
        rcases hw with rfl | rfl | rfl | rfl
        · exact hl
        · exact hi
        · exact hse
        · exact hin)) rfl rfl rfl hy ⟨by rw [F.2.2.2.2.2.2.2.2.1]; exact hfr, by rw [F.2.2.2.2.2.2.2.2.2.1]; exact hlo⟩
    have hf1 : ev_c h ≤ ev_c h' := hle1.1
    have hf2 : ev_z h ≤ ev_z h' := hle1.2
    have hf3 : ev_c h' ≤ ev_c (ev_xh X) := x5.1
    have hf4 : ev_z h' ≤ ev_z (ev_xh X) := x5.2
    have hrun := va_runV (p := p) (l := l) (e := e) (R := R) (s := s) (m := m) (args := args) (below := below) (meth := meth) (c := c) (H := H) (locs := locs) (cells := ev_c h - c0) (slots := ev_z h - s0) (g := F0 m pc ls (avr ++ Value.ref b9 :: rest)) (rest := rest) (As := avr.reverse) (b := b9)
      ⟨F.1, F.2.1, F.2.2.1, F.2.2.2.1, F.2.2.2.2.1⟩ hM hcw ⟨ev_In.blind D tys A τ ws _, va_recv F.2.2.2.2.2.2.1.1 hP hc he, fun U hU hW => ⟨rfl, ev_In.of F hP hD hS hU hW⟩⟩ rfl hlen hL.1 (by show avr ++ _ = _; rw [List.reverse_reverse]) (lv_room (by rw [ev_sum q5]; exact hst)) d ⟨by omega, by omega⟩
    refine ev_back hS hrun fun ws' H' locs' ov hE' hP' hD' hS' hH' hro => ?_
    have hk2 := kk ws' hE' H' locs' ls _ hP' hD' hS' hH' (hL.mono hE') (ev_R1_psh hro (ev_R1.mono hE' _ _ q5))
    have e1 : ev_c h - c0 + (ev_c h' - ev_c h) = ev_c h' - c0 := by omega
    have e2 : ev_z h - s0 + (ev_z h' - ev_z h) = ev_z h' - s0 := by omega
    rw [e1, e2]
    exact hk2
  · obtain ⟨tgt, ⟨pre, x, suf, hsp, hcv, hct, rfl, hcl0, hE4, hpre⟩, gX⟩ := hX E h' hk
    have hcon := con _ ho
    have hle1 : ev_le h h' := hcon.1 (p, e, R, s, m, args, below, meth, c)
    obtain ⟨hle2, gX⟩ := gX rfl
    refine ⟨hle1.trans hle2, fun F x1 x2 x3 x4 ws H locs ls stv hE hP hD hS hH hL hR => ?_⟩
    obtain ⟨avr, r1, rfl, q1, q2, q3⟩ := ev_R1_split hR
    obtain ⟨u, rest, rfl, q4, q5⟩ := q2.cons
    obtain ⟨-, -, b9, e9, rfl, he, hC⟩ := hH.at q4 hg
    obtain ⟨fs, rfl, -⟩ := hC
    have hlen : avr.reverse.length = as.length := by rw [List.length_reverse, q3, List.length_reverse]
    have q1r : ev_R1 ρ τ ws as avr.reverse := by have := ev_R1_rev q1; rwa [List.reverse_reverse] at this
    have hM := hcon.2 ws (.ref b9 :: avr.reverse) hH ⟨q4, q1r⟩
    have hcw : CallW R s args own C idx y bytes nL' ret' (Cond.code y bytes nL' ret' :: ev_good) { frames := fr', cells := ev_c h' - ev_c h, slots := ev_z h' - ev_z h, locals := lo' } (ev_c h' - ev_c h) (ev_z h' - ev_z h) as.length :=
      cwV as.length F.2.2.2.2.1 (ev_goods hcode (fun w hw => by
        simp only [List.mem_cons, List.not_mem_nil, or_false] at hw
        rcases hw with rfl | rfl | rfl | rfl
        · exact hl
        · exact hi
        · exact hse
        · exact hin)) rfl rfl rfl hy ⟨by rw [F.2.2.2.2.2.2.2.2.1]; exact hfr, by rw [F.2.2.2.2.2.2.2.2.2.1]; exact hlo⟩
    have hf1 : ev_c h ≤ ev_c h' := hle1.1
    have hf2 : ev_z h ≤ ev_z h' := hle1.2
    have hf3 : ev_c h' ≤ ev_c (ev_xh X) := hle2.1
    have hf4 : ev_z h' ≤ ev_z (ev_xh X) := hle2.2
    have hrun := vx_runV (p := p) (l := l) (e := e) (R := R) (s := s) (m := m) (args := args) (below := below) (meth := meth) (c := c) (H := H) (locs := locs) (cells := ev_c h - c0) (slots := ev_z h - s0) (mc := ev_c h' - ev_c h) (ms := ev_z h' - ev_z h) (g := F0 m pc ls (avr ++ Value.ref b9 :: rest)) (rest := rest) (As := avr.reverse) (b := b9)
      ⟨F.1, F.2.1, F.2.2.1, F.2.2.2.1, F.2.2.2.2.1⟩ hM hcw ⟨ev_In.blind D tys A τ ws _, va_recv F.2.2.2.2.2.2.1.1 hP hc he, fun U hU hW => ⟨rfl, ev_In.of F hP hD hS hU hW⟩⟩ rfl hlen hL.1 (by show avr ++ _ = _; rw [List.reverse_reverse]) (lv_room (by rw [ev_sum q5]; exact hst)) d ⟨by omega, by omega⟩
    refine ev_backT hS hrun fun ws' H' locs' ce q9 hE' hP' hD' hS' hH' hce hcv9 hcl => ?_
    have hg2 := gX F x1 x2 (Nat.le_trans x3 hf1) (Nat.le_trans x4 hf2) ws' H' locs' ls [.ref q9] (hE.trans hE') hP' hD' hS' hH' (hL.mono hE') ⟨ev_RV.ofr (by decide) (Or.inr (Or.inl ⟨rfl, _, rfl⟩)), trivial⟩
    have e1 : ev_c h - c0 + (ev_c h' - ev_c h) = ev_c h' - c0 := by omega
    have e2 : ev_z h - s0 + (ev_z h' - ev_z h) = ev_z h' - s0 := by omega
    rw [e1, e2]
    refine vx_catch (E := ev_En E) (name := ev_En E) (ce := ce) F.2.2.2.1 pre x suf (by rw [F.2.2.2.2.2.2.2.2.2.2.2.2.1]; exact hsp) (fun z hz => ?_) hcv hct (F.2.2.2.2.1 _ hcl0) (va_Nw.use rfl (F.2.2.2.2.2.2.1.2.2.1 _ (ev_ca E hE4) rfl)) hce hcv9 hcl hg2
    obtain ⟨hz0, E2, hE2, hne, hl2⟩ := hpre z hz
    exact Or.inr ⟨hz0, ev_En E2, F.2.2.2.2.1 _ hl2, (F.str (t := 0) (by decide)).2.2.2.2.2.2 E E2 hE4 hE2 hne⟩
theorem gd_conH {h4 : List (Nat × Nat × Nat × Nat)} {y : MethodName} {bytes : ByteArray} {as : List (Nat × Nat)} (hy : plainName y.cls = true) (hown : y.cls = own) (htr : l.stackTraces = false) (hn : (as.map fun q => if q.1 = 2 ∨ q.1 = 4 then 2 else 1).sum ≤ nL)
    (body : ∀ (p : Program) (e : Env) (R : Room) (s : State) (m : MethodId) (args : Array Value) (below : List Frame) (meth : Method) (c : Code) (w0 : va_W), ev_Gd p l e R s m args below meth c ρ τ D tys A (ev_c h) (ev_z h) nL bytes own fr lo w0 ret (tableOf h4) y.name (ev_Q below ρ τ D tys A rk X w0 args s (ev_c h) (ev_z h)) X 0 (ev_al 0 as) [] h K)
    (hK : K = some X) : ev_Con l ρ τ D tys A y (Cond.codeWith y bytes nL ret h4) fr lo rk as h X := by
  refine ⟨fun q => (body q.1 q.2.1 q.2.2.1 q.2.2.2.1 q.2.2.2.2.1 q.2.2.2.2.2.1 q.2.2.2.2.2.2.1 q.2.2.2.2.2.2.2.1 q.2.2.2.2.2.2.2.2 [] hK).1, fun ws av hH hR => vx_ofWH hy rfl ?_⟩
  intro p e s m args below meth c s₁ B hml hv
  obtain ⟨rfl, hP, hD, hK0, hA⟩ := hv
  have htl : c.exceptionTable.toList = tableOf h4 := vx_table (x := y) B (atoms_spec (ws := Cond.codeWith y bytes nL ret h4 :: ev_good) B.pre _ List.mem_cons_self)
  have F : ev_F p l e (headSpec (Cond.codeWith y bytes nL ret h4 :: ev_good) { frames := fr, cells := ev_c (ev_xh X) - ev_c h, slots := ev_z (ev_xh X) - ev_z h, locals := lo }).room s m av.toArray below meth c ρ τ D tys A (ev_c h) (ev_z h) nL bytes own fr lo ws ret (tableOf h4) y.name :=
    ⟨B.exec, B.bytes, hml, by rw [← hown]; exact findClass_of_methodNamed B.named, fun w hw => atoms_spec (ws := Cond.codeWith y bytes nL ret h4 :: ev_good) B.pre w (List.mem_cons_of_mem _ hw), B.notSynchronized, hK0, hA, rfl, rfl, htr, B.returns, htl, (name_of_methodNamed B.named B.method).1, rfl, rfl, rfl, rfl, rfl, rfl⟩
  rw [lg_entry_eq]
  have hl := lv_entry av (n := nL) (by rw [ev_al_len hR]; exact hn)
  obtain ⟨-, g⟩ := body p e _ s m av.toArray below meth c ws hK
  have g2 := g F (by show _ ≤ ev_c h + (ev_c (ev_xh X) - ev_c h); omega) (by show _ ≤ ev_z h + (ev_z (ev_xh X) - ev_z h); omega) (Nat.le_refl _) (Nat.le_refl _) ws s.heap [] (lg_sl av ++ List.replicate (nL - (lg_sl av).length) Slot.unset).toArray [] ev_E.rf hP hD va_S.rf hH ⟨hl.1, hl.2.1, fun i k n hm => by
    obtain ⟨v, h1, h2⟩ := ev_al_at 0 hR i k n hm
    exact ⟨v, hl.2.2 _ h1, h2⟩⟩ trivial
  rw [Nat.sub_self, Nat.sub_self] at g2
  exact g2
theorem gd_callSH {h4 : List (Nat × Nat × Nat × Nat)} {idx nL' fr' lo' : Nat} {C : String} {y : MethodName} {bytes : ByteArray} {ret' : Option FieldType} {o : ev_O} {as : List (Nat × Nat)} (hy : ev_Yd y C as.length) (hcode : Cond.codeWith y bytes nL' ret' h4 ∈ ev_good) (hl : Cond.methodLink own idx y ∈ ev_good) (hi : Cond.static y ∈ ev_good) (hin : Cond.initialized C ∈ ev_good)
    (hfr : fr' + 1 ≤ fr) (hlo : 8 + (nL' + 11) + lo' ≤ lo) (hst : (st.map fun q => if q.1 = 2 ∨ q.1 = 4 then 2 else 1).sum ≤ 8) (con : ∀ Y, o = some Y → ev_Con l ρ τ D tys A y (Cond.codeWith y bytes nL' ret' h4) fr' lo' rk as h Y)
    (d : decode cc pc = .ok (.invokestatic idx, 3)) (g : ∀ v h', ev_Gd p l e R s m args below meth c ρ τ D tys A c0 s0 nL cc own fr lo w0 ret hh nm Q X (pc + 3) lv (ev_psh rk v st) h' (kn v h')) : ev_Gd p l e R s m args below meth c ρ τ D tys A c0 s0 nL cc own fr lo w0 ret hh nm Q X pc lv (as.reverse ++ st) h (ev_call o kn fun _ _ => none) := by
  intro z
  rcases ev_call_spec z with ⟨v, h', ho, hk⟩ | ⟨E, h', ho, hk⟩
  · have hcon := con _ ho
    obtain ⟨g1, -⟩ := g v h' hk
    have hle1 : ev_le h h' := hcon.1 (p, e, R, s, m, args, below, meth, c)
    refine gd_w (fun _ => hk) hle1 (g v h') (fun F x1 x2 x3 x4 x5 ws H locs ls stv hP hD hS hH hL hR kk => ?_) z
    obtain ⟨avr, rest, rfl, q1, q5, q3⟩ := ev_R1_split hR
    have hlen : avr.reverse.length = as.length := by rw [List.length_reverse, q3, List.length_reverse]
    have q1r : ev_R1 ρ τ ws as avr.reverse := by have := ev_R1_rev q1; rwa [List.reverse_reverse] at this
    have hM := hcon.met hH (av := avr.reverse) q1r
    have hcw : vx_CSW R s args own idx y bytes nL' ret' h4 (Cond.codeWith y bytes nL' ret' h4 :: ev_good) { frames := fr', cells := ev_c h' - ev_c h, slots := ev_z h' - ev_z h, locals := lo' } (ev_c h' - ev_c h) (ev_z h' - ev_z h) as.length :=
      vx_cwSW as.length F.2.2.2.2.1 (ev_goodsH hcode (fun w hw => by
        simp only [List.mem_cons, List.not_mem_nil, or_false] at hw
        rcases hw with rfl | rfl | rfl
        · exact hl
        · exact hi
        · rw [hy.1]; exact hin)) rfl rfl rfl hy.2 ⟨by rw [F.2.2.2.2.2.2.2.2.1]; exact hfr, by rw [F.2.2.2.2.2.2.2.2.2.1]; exact hlo⟩
    have hf1 : ev_c h ≤ ev_c h' := hle1.1
    have hf2 : ev_z h ≤ ev_z h' := hle1.2
    have hf3 : ev_c h' ≤ ev_c (ev_xh X) := x5.1
    have hf4 : ev_z h' ≤ ev_z (ev_xh X) := x5.2
    have hrun := vx_runSW (p := p) (l := l) (e := e) (R := R) (s := s) (m := m) (args := args) (below := below) (meth := meth) (c := c) (H := H) (locs := locs) (cells := ev_c h - c0) (slots := ev_z h - s0) (g := F0 m pc ls (avr ++ rest)) (rest := rest) (As := avr.reverse)
      ⟨F.1, F.2.1, F.2.2.1, F.2.2.2.1, F.2.2.2.2.1⟩ hM hcw ⟨ev_In.blind D tys A τ ws _, fun U hU hW => ⟨rfl, ev_In.of F hP hD hS hU hW⟩⟩ rfl hlen hL.1 (by show avr ++ _ = _; rw [List.reverse_reverse]) (lv_room (by rw [ev_sum q5]; exact hst)) d ⟨by omega, by omega⟩
    refine ev_back hS hrun fun ws' H' locs' ov hE' hP' hD' hS' hH' hro => ?_
    have hk2 := kk ws' hE' H' locs' ls _ hP' hD' hS' hH' (hL.mono hE') (ev_R1_psh hro (ev_R1.mono hE' _ _ q5))
    have e1 : ev_c h - c0 + (ev_c h' - ev_c h) = ev_c h' - c0 := by omega
    have e2 : ev_z h - s0 + (ev_z h' - ev_z h) = ev_z h' - s0 := by omega
    rw [e1, e2]
    exact hk2
  · cases hk
theorem lw_L_append : Cond.codeWith yL_append cL_append 8 (some .int) [(0, 16, 19, 13)] ∈ ev_good := ev_in (ev_t3 _ (List.mem_of_getElem? (i := 118) rfl)) rfl
theorem hX_L_append (htr : l.stackTraces = false) {l0 : Nat} {l1 : Nat} {l2 : Nat} {l3 : Nat} {l4 : Nat} {l5 : Nat} {l6 : Nat}  : ∀ E h', (fun E h2 =>  none : Nat → ev_H → ev_O) E h' = some X → ∃ tgt, ev_Hd RL (tableOf [(0, 16, 19, 13)]) 11 E tgt ∧ ev_Gd p l e R s m args below meth c ρ τ D tys A c0 s0 8 cL_append RL 7 115 w0 (some .int) (tableOf [(0, 16, 19, 13)]) yL_append.name (ev_Q below ρ τ D tys A 1 X w0 args s c0 s0) X tgt [(0, (3, l0)), (1, (1, l1)), (2, (1, l2)), (3, (1, l3)), (4, (1, l4)), (5, (1, l5)), (6, (3, l6))] [(3, 2)] h' (some X) := fun E h' hz => by
    cases hz
theorem gm_L_append (htr : l.stackTraces = false) (l0 : Nat) (l1 : Nat) (l2 : Nat) (l3 : Nat) (l4 : Nat) (l5 : Nat) (l6 : Nat) (h : ev_H) : ev_Gd p l e R s m args below meth c ρ τ D tys A c0 s0 8 cL_append RL 7 115 w0 (some .int) (tableOf [(0, 16, 19, 13)]) yL_append.name (ev_Q below ρ τ D tys A 1 X w0 args s c0 s0) X 0 (ev_al 0 [(3, l0), (1, l1), (1, l2), (1, l3), (1, l4), (1, l5), (3, l6)]) [] h (mt_L_append l0 l1 l2 l3 l4 l5 l6 h) := by
  unfold mt_L_append
  exact gd_eq (lv' := [(0, (3, l0)), (1, (1, l1)), (2, (1, l2)), (3, (1, l3)), (4, (1, l4)), (5, (1, l5)), (6, (3, l6))]) rfl (gd_aload dL_append_0 6 rfl (gd_iconst (n := 0) dL_append_2 (by decide +kernel) (gd_aload_n dL_append_3 rfl 0 rfl (gd_iload_n dL_append_4 rfl 1 rfl (gd_iload_n dL_append_5 rfl 2 rfl (gd_iload_n dL_append_6 rfl 3 rfl (gd_iload dL_append_7 4 rfl (gd_iload dL_append_9 5 rfl (gd_callVH (as := [(1, l1), (1, l2), (1, l3), (1, l4), (1, l5)]) (rk := 1) rfl yd_X6_append lm_X6_append lkL_7 li_X6_append le_X6_append li_X6 (by decide) (by decide) (Nat.le_of_ble_eq_true rfl) (fun Y hY => cn_X6_append htr hY) dL_append_11 (fun v1 h2 => gd_i2l dL_append_14 fun v3 => gd_lastore dL_append_15 fun h4 => gd_goto (tgt := 23) dL_append_16 (by decide) (gd_iconst (n := 0) dL_append_23 (by decide +kernel) (gd_iret rfl dL_append_24))) (hX_L_append htr))))))))))
theorem cn_L_append (htr : l.stackTraces = false) {l0 : Nat} {l1 : Nat} {l2 : Nat} {l3 : Nat} {l4 : Nat} {l5 : Nat} {l6 : Nat} {h : ev_H} {X : ev_X} (hK : mt_L_append l0 l1 l2 l3 l4 l5 l6 h = some X) : ev_Con l ρ τ D tys A yL_append (Cond.codeWith yL_append cL_append 8 (some .int) [(0, 16, 19, 13)]) 7 115 1 [(3, l0), (1, l1), (1, l2), (1, l3), (1, l4), (1, l5), (3, l6)] h X :=
  gd_conH (own := RL) (by decide +kernel) rfl htr (Nat.le_of_ble_eq_true rfl) (fun p e R s m args below meth c w0 => gm_L_append htr l0 l1 l2 l3 l4 l5 l6 h) hK
theorem lw_L_truncate : Cond.codeWith yL_truncate cL_truncate 4 (some .int) [(0, 9, 12, 19)] ∈ ev_good := ev_in (ev_t3 _ (List.mem_of_getElem? (i := 198) rfl)) rfl
theorem hX_L_truncate (htr : l.stackTraces = false) {l0 : Nat} {l1 : Nat} {l2 : Nat}  : ∀ E h', (fun E h2 => ev_if (Nat.beq E 2) (ev_ret 1 h2) <| none : Nat → ev_H → ev_O) E h' = some X → ∃ tgt, ev_Hd RL (tableOf [(0, 9, 12, 19)]) 4 E tgt ∧ ev_Gd p l e R s m args below meth c ρ τ D tys A c0 s0 4 cL_truncate RL 7 111 w0 (some .int) (tableOf [(0, 9, 12, 19)]) yL_truncate.name (ev_Q below ρ τ D tys A 1 X w0 args s c0 s0) X tgt [(0, (3, l0)), (1, (1, l1)), (2, (3, l2))] [(3, 2)] h' (some X) := fun E h' hz => by
    rcases ev_if_or hz with ⟨hb, hz⟩ | ⟨-, hz⟩
    · have hb := Nat.eq_of_beq_eq_true hb
      subst hb
      refine ⟨12, ⟨[], ⟨0, 9, 12, 19⟩, [], rfl, rfl, by decide, rfl, lcL_19, by decide, fun z hz => absurd hz List.not_mem_nil⟩, ?_⟩
      rw [← hz]
      exact gd_astore_n dL_truncate_12 rfl (by decide) rfl (gd_iconst (n := 1) dL_truncate_13 (by decide +kernel) (gd_iret rfl dL_truncate_14))
    · cases hz
theorem gm_L_truncate (htr : l.stackTraces = false) (l0 : Nat) (l1 : Nat) (l2 : Nat) (h : ev_H) : ev_Gd p l e R s m args below meth c ρ τ D tys A c0 s0 4 cL_truncate RL 7 111 w0 (some .int) (tableOf [(0, 9, 12, 19)]) yL_truncate.name (ev_Q below ρ τ D tys A 1 X w0 args s c0 s0) X 0 (ev_al 0 [(3, l0), (1, l1), (3, l2)]) [] h (mt_L_truncate l0 l1 l2 h) := by
  unfold mt_L_truncate
  exact gd_eq (lv' := [(0, (3, l0)), (1, (1, l1)), (2, (3, l2))]) rfl (gd_aload_n dL_truncate_0 rfl 2 rfl (gd_iconst (n := 0) dL_truncate_1 (by decide +kernel) (gd_aload_n dL_truncate_2 rfl 0 rfl (gd_iload_n dL_truncate_3 rfl 1 rfl (gd_callVH (as := [(1, l1)]) (rk := 1) rfl yd_X6_truncate lm_X6_truncate lkL_15 li_X6_truncate le_X6_truncate li_X6 (by decide) (by decide) (Nat.le_of_ble_eq_true rfl) (fun Y hY => cn_X6_truncate htr hY) dL_truncate_4 (fun v1 h2 => gd_i2l dL_truncate_7 fun v3 => gd_lastore dL_truncate_8 fun h4 => gd_goto (tgt := 15) dL_truncate_9 (by decide) (gd_iconst (n := 0) dL_truncate_15 (by decide +kernel) (gd_iret rfl dL_truncate_16))) (hX_L_truncate htr))))))
theorem cn_L_truncate (htr : l.stackTraces = false) {l0 : Nat} {l1 : Nat} {l2 : Nat} {h : ev_H} {X : ev_X} (hK : mt_L_truncate l0 l1 l2 h = some X) : ev_Con l ρ τ D tys A yL_truncate (Cond.codeWith yL_truncate cL_truncate 4 (some .int) [(0, 9, 12, 19)]) 7 111 1 [(3, l0), (1, l1), (3, l2)] h X :=
  gd_conH (own := RL) (by decide +kernel) rfl htr (Nat.le_of_ble_eq_true rfl) (fun p e R s m args below meth c w0 => gm_L_truncate htr l0 l1 l2 h) hK
theorem lw_L_load : Cond.codeWith yL_load cL_load 3 (some .int) [(0, 8, 11, 25)] ∈ ev_good := ev_in (ev_t3 _ (List.mem_of_getElem? (i := 222) rfl)) rfl
theorem hX_L_load (htr : l.stackTraces = false) {l0 : Nat} {l1 : Nat}  : ∀ E h', (fun E h2 => ev_if (Nat.beq E 1) (ev_ret 1 h2) <| none : Nat → ev_H → ev_O) E h' = some X → ∃ tgt, ev_Hd RL (tableOf [(0, 8, 11, 25)]) 3 E tgt ∧ ev_Gd p l e R s m args below meth c ρ τ D tys A c0 s0 3 cL_load RL 10 253 w0 (some .int) (tableOf [(0, 8, 11, 25)]) yL_load.name (ev_Q below ρ τ D tys A 1 X w0 args s c0 s0) X tgt [(0, (3, l0)), (1, (3, l1))] [(3, 2)] h' (some X) := fun E h' hz => by
    rcases ev_if_or hz with ⟨hb, hz⟩ | ⟨-, hz⟩
    · have hb := Nat.eq_of_beq_eq_true hb
      subst hb
      refine ⟨11, ⟨[], ⟨0, 8, 11, 25⟩, [], rfl, rfl, by decide, rfl, lcL_25, by decide, fun z hz => absurd hz List.not_mem_nil⟩, ?_⟩
      rw [← hz]
      exact gd_astore_n dL_load_11 rfl (by decide) rfl (gd_iconst (n := 1) dL_load_12 (by decide +kernel) (gd_iret rfl dL_load_13))
    · cases hz
theorem gm_L_load (htr : l.stackTraces = false) (l0 : Nat) (l1 : Nat) (h : ev_H) : ev_Gd p l e R s m args below meth c ρ τ D tys A c0 s0 3 cL_load RL 10 253 w0 (some .int) (tableOf [(0, 8, 11, 25)]) yL_load.name (ev_Q below ρ τ D tys A 1 X w0 args s c0 s0) X 0 (ev_al 0 [(3, l0), (3, l1)]) [] h (mt_L_load l0 l1 h) := by
  unfold mt_L_load
  exact gd_eq (lv' := [(0, (3, l0)), (1, (3, l1))]) rfl (gd_aload_n dL_load_0 rfl 1 rfl (gd_iconst (n := 0) dL_load_1 (by decide +kernel) (gd_aload_n dL_load_2 rfl 0 rfl (gd_callVH (as := []) (rk := 1) rfl yd_X6_load lm_X6_load lkL_21 li_X6_load le_X6_load li_X6 (by decide) (by decide) (Nat.le_of_ble_eq_true rfl) (fun Y hY => cn_X6_load htr hY) dL_load_3 (fun v1 h2 => gd_i2l dL_load_6 fun v3 => gd_lastore dL_load_7 fun h4 => gd_goto (tgt := 14) dL_load_8 (by decide) (gd_no)) (hX_L_load htr)))))
theorem cn_L_load (htr : l.stackTraces = false) {l0 : Nat} {l1 : Nat} {h : ev_H} {X : ev_X} (hK : mt_L_load l0 l1 h = some X) : ev_Con l ρ τ D tys A yL_load (Cond.codeWith yL_load cL_load 3 (some .int) [(0, 8, 11, 25)]) 10 253 1 [(3, l0), (3, l1)] h X :=
  gd_conH (own := RL) (by decide +kernel) rfl htr (Nat.le_of_ble_eq_true rfl) (fun p e R s m args below meth c w0 => gm_L_load htr l0 l1 h) hK
theorem lw_L_find : Cond.codeWith yL_find cL_find 4 (some .int) [(0, 9, 12, 25), (0, 9, 15, 30)] ∈ ev_good := ev_in (ev_t4 _ (List.mem_of_getElem? (i := 29) rfl)) rfl
theorem hX_L_find (htr : l.stackTraces = false) {l0 : Nat} {l1 : Nat} {l2 : Nat}  : ∀ E h', (fun E h2 => ev_if (Nat.beq E 1) (ev_ret 1 h2) <| ev_if (Nat.beq E 3) (ev_ret 2 h2) <| none : Nat → ev_H → ev_O) E h' = some X → ∃ tgt, ev_Hd RL (tableOf [(0, 9, 12, 25), (0, 9, 15, 30)]) 4 E tgt ∧ ev_Gd p l e R s m args below meth c ρ τ D tys A c0 s0 4 cL_find RL 7 113 w0 (some .int) (tableOf [(0, 9, 12, 25), (0, 9, 15, 30)]) yL_find.name (ev_Q below ρ τ D tys A 1 X w0 args s c0 s0) X tgt [(0, (3, l0)), (1, (1, l1)), (2, (3, l2))] [(3, 2)] h' (some X) := fun E h' hz => by
    rcases ev_if_or hz with ⟨hb, hz⟩ | ⟨-, hz⟩
    · have hb := Nat.eq_of_beq_eq_true hb
      subst hb
      refine ⟨12, ⟨[], ⟨0, 9, 12, 25⟩, [⟨0, 9, 15, 30⟩], rfl, rfl, by decide, rfl, lcL_25, by decide, fun z hz => absurd hz List.not_mem_nil⟩, ?_⟩
      rw [← hz]
      exact gd_astore_n dL_find_12 rfl (by decide) rfl (gd_iconst (n := 1) dL_find_13 (by decide +kernel) (gd_iret rfl dL_find_14))
    · rcases ev_if_or hz with ⟨hb, hz⟩ | ⟨-, hz⟩
      · have hb := Nat.eq_of_beq_eq_true hb
        subst hb
        refine ⟨15, ⟨[⟨0, 9, 12, 25⟩], ⟨0, 9, 15, 30⟩, [], rfl, rfl, by decide, rfl, lcL_30, by decide, List.forall_mem_cons.mpr ⟨⟨by decide, 1, by decide, by decide, lcL_25⟩, fun z hz => absurd hz List.not_mem_nil⟩⟩, ?_⟩
        rw [← hz]
        exact gd_astore_n dL_find_15 rfl (by decide) rfl (gd_iconst (n := 2) dL_find_16 (by decide +kernel) (gd_iret rfl dL_find_17))
      · cases hz
theorem gm_L_find (htr : l.stackTraces = false) (l0 : Nat) (l1 : Nat) (l2 : Nat) (h : ev_H) : ev_Gd p l e R s m args below meth c ρ τ D tys A c0 s0 4 cL_find RL 7 113 w0 (some .int) (tableOf [(0, 9, 12, 25), (0, 9, 15, 30)]) yL_find.name (ev_Q below ρ τ D tys A 1 X w0 args s c0 s0) X 0 (ev_al 0 [(3, l0), (1, l1), (3, l2)]) [] h (mt_L_find l0 l1 l2 h) := by
  unfold mt_L_find
  exact gd_eq (lv' := [(0, (3, l0)), (1, (1, l1)), (2, (3, l2))]) rfl (gd_aload_n dL_find_0 rfl 2 rfl (gd_iconst (n := 0) dL_find_1 (by decide +kernel) (gd_aload_n dL_find_2 rfl 0 rfl (gd_iload_n dL_find_3 rfl 1 rfl (gd_callVH (as := [(1, l1)]) (rk := 1) rfl yd_X6_find lm_X6_find lkL_27 li_X6_find le_X6_find li_X6 (by decide) (by decide) (Nat.le_of_ble_eq_true rfl) (fun Y hY => cn_X6_find htr hY) dL_find_4 (fun v1 h2 => gd_i2l dL_find_7 fun v3 => gd_lastore dL_find_8 fun h4 => gd_goto (tgt := 18) dL_find_9 (by decide) (gd_no)) (hX_L_find htr))))))
theorem cn_L_find (htr : l.stackTraces = false) {l0 : Nat} {l1 : Nat} {l2 : Nat} {h : ev_H} {X : ev_X} (hK : mt_L_find l0 l1 l2 h = some X) : ev_Con l ρ τ D tys A yL_find (Cond.codeWith yL_find cL_find 4 (some .int) [(0, 9, 12, 25), (0, 9, 15, 30)]) 7 113 1 [(3, l0), (1, l1), (3, l2)] h X :=
  gd_conH (own := RL) (by decide +kernel) rfl htr (Nat.le_of_ble_eq_true rfl) (fun p e R s m args below meth c w0 => gm_L_find htr l0 l1 l2 h) hK
theorem lw_L_count : Cond.codeWith yL_count cL_count 4 (some .int) [(0, 9, 12, 25)] ∈ ev_good := ev_in (ev_t4 _ (List.mem_of_getElem? (i := 60) rfl)) rfl
theorem hX_L_count (htr : l.stackTraces = false) {l0 : Nat} {l1 : Nat} {l2 : Nat}  : ∀ E h', (fun E h2 => ev_if (Nat.beq E 1) (ev_ret 1 h2) <| none : Nat → ev_H → ev_O) E h' = some X → ∃ tgt, ev_Hd RL (tableOf [(0, 9, 12, 25)]) 4 E tgt ∧ ev_Gd p l e R s m args below meth c ρ τ D tys A c0 s0 4 cL_count RL 7 112 w0 (some .int) (tableOf [(0, 9, 12, 25)]) yL_count.name (ev_Q below ρ τ D tys A 1 X w0 args s c0 s0) X tgt [(0, (3, l0)), (1, (1, l1)), (2, (3, l2))] [(3, 2)] h' (some X) := fun E h' hz => by
    rcases ev_if_or hz with ⟨hb, hz⟩ | ⟨-, hz⟩
    · have hb := Nat.eq_of_beq_eq_true hb
      subst hb
      refine ⟨12, ⟨[], ⟨0, 9, 12, 25⟩, [], rfl, rfl, by decide, rfl, lcL_25, by decide, fun z hz => absurd hz List.not_mem_nil⟩, ?_⟩
      rw [← hz]
      exact gd_astore_n dL_count_12 rfl (by decide) rfl (gd_iconst (n := 1) dL_count_13 (by decide +kernel) (gd_iret rfl dL_count_14))
    · cases hz
theorem gm_L_count (htr : l.stackTraces = false) (l0 : Nat) (l1 : Nat) (l2 : Nat) (h : ev_H) : ev_Gd p l e R s m args below meth c ρ τ D tys A c0 s0 4 cL_count RL 7 112 w0 (some .int) (tableOf [(0, 9, 12, 25)]) yL_count.name (ev_Q below ρ τ D tys A 1 X w0 args s c0 s0) X 0 (ev_al 0 [(3, l0), (1, l1), (3, l2)]) [] h (mt_L_count l0 l1 l2 h) := by
  unfold mt_L_count
  exact gd_eq (lv' := [(0, (3, l0)), (1, (1, l1)), (2, (3, l2))]) rfl (gd_aload_n dL_count_0 rfl 2 rfl (gd_iconst (n := 0) dL_count_1 (by decide +kernel) (gd_aload_n dL_count_2 rfl 0 rfl (gd_iload_n dL_count_3 rfl 1 rfl (gd_callVH (as := [(1, l1)]) (rk := 1) rfl yd_X6_count lm_X6_count lkL_32 li_X6_count le_X6_count li_X6 (by decide) (by decide) (Nat.le_of_ble_eq_true rfl) (fun Y hY => cn_X6_count htr hY) dL_count_4 (fun v1 h2 => gd_i2l dL_count_7 fun v3 => gd_lastore dL_count_8 fun h4 => gd_goto (tgt := 15) dL_count_9 (by decide) (gd_iconst (n := 0) dL_count_15 (by decide +kernel) (gd_iret rfl dL_count_16))) (hX_L_count htr))))))
theorem cn_L_count (htr : l.stackTraces = false) {l0 : Nat} {l1 : Nat} {l2 : Nat} {h : ev_H} {X : ev_X} (hK : mt_L_count l0 l1 l2 h = some X) : ev_Con l ρ τ D tys A yL_count (Cond.codeWith yL_count cL_count 4 (some .int) [(0, 9, 12, 25)]) 7 112 1 [(3, l0), (1, l1), (3, l2)] h X :=
  gd_conH (own := RL) (by decide +kernel) rfl htr (Nat.le_of_ble_eq_true rfl) (fun p e R s m args below meth c w0 => gm_L_count htr l0 l1 l2 h) hK
theorem lw_L_host : Cond.codeWith yL_host cL_host 5 (some .int) [(0, 10, 13, 19), (0, 10, 17, 25)] ∈ ev_good := ev_in (ev_t4 _ (List.mem_of_getElem? (i := 113) rfl)) rfl
theorem hX_L_host (htr : l.stackTraces = false) {l0 : Nat} {l1 : Nat} {l2 : Nat} {l3 : Nat}  : ∀ E h', (fun E h2 => ev_if (Nat.beq E 2) (ev_ret 1 h2) <| ev_if (Nat.beq E 1) (ev_ret 2 h2) <| none : Nat → ev_H → ev_O) E h' = some X → ∃ tgt, ev_Hd RL (tableOf [(0, 10, 13, 19), (0, 10, 17, 25)]) 5 E tgt ∧ ev_Gd p l e R s m args below meth c ρ τ D tys A c0 s0 5 cL_host RL 8 133 w0 (some .int) (tableOf [(0, 10, 13, 19), (0, 10, 17, 25)]) yL_host.name (ev_Q below ρ τ D tys A 1 X w0 args s c0 s0) X tgt [(0, (3, l0)), (1, (1, l1)), (2, (1, l2)), (3, (3, l3))] [(3, 2)] h' (some X) := fun E h' hz => by
    rcases ev_if_or hz with ⟨hb, hz⟩ | ⟨-, hz⟩
    · have hb := Nat.eq_of_beq_eq_true hb
      subst hb
      refine ⟨13, ⟨[], ⟨0, 10, 13, 19⟩, [⟨0, 10, 17, 25⟩], rfl, rfl, by decide, rfl, lcL_19, by decide, fun z hz => absurd hz List.not_mem_nil⟩, ?_⟩
      rw [← hz]
      exact gd_astore dL_host_13 (by decide) rfl (gd_iconst (n := 1) dL_host_15 (by decide +kernel) (gd_iret rfl dL_host_16))
    · rcases ev_if_or hz with ⟨hb, hz⟩ | ⟨-, hz⟩
      · have hb := Nat.eq_of_beq_eq_true hb
        subst hb
        refine ⟨17, ⟨[⟨0, 10, 13, 19⟩], ⟨0, 10, 17, 25⟩, [], rfl, rfl, by decide, rfl, lcL_25, by decide, List.forall_mem_cons.mpr ⟨⟨by decide, 2, by decide, by decide, lcL_19⟩, fun z hz => absurd hz List.not_mem_nil⟩⟩, ?_⟩
        rw [← hz]
        exact gd_astore dL_host_17 (by decide) rfl (gd_iconst (n := 2) dL_host_19 (by decide +kernel) (gd_iret rfl dL_host_20))
      · cases hz
theorem gm_L_host (htr : l.stackTraces = false) (l0 : Nat) (l1 : Nat) (l2 : Nat) (l3 : Nat) (h : ev_H) : ev_Gd p l e R s m args below meth c ρ τ D tys A c0 s0 5 cL_host RL 8 133 w0 (some .int) (tableOf [(0, 10, 13, 19), (0, 10, 17, 25)]) yL_host.name (ev_Q below ρ τ D tys A 1 X w0 args s c0 s0) X 0 (ev_al 0 [(3, l0), (1, l1), (1, l2), (3, l3)]) [] h (mt_L_host l0 l1 l2 l3 h) := by
  unfold mt_L_host
  exact gd_eq (lv' := [(0, (3, l0)), (1, (1, l1)), (2, (1, l2)), (3, (3, l3))]) rfl (gd_aload_n dL_host_0 rfl 3 rfl (gd_iconst (n := 0) dL_host_1 (by decide +kernel) (gd_aload_n dL_host_2 rfl 0 rfl (gd_iload_n dL_host_3 rfl 1 rfl (gd_iload_n dL_host_4 rfl 2 rfl (gd_callVH (as := [(1, l1), (1, l2)]) (rk := 1) rfl yd_X6_host lm_X6_host lkL_35 li_X6_host le_X6_host li_X6 (by decide) (by decide) (Nat.le_of_ble_eq_true rfl) (fun Y hY => cn_X6_host htr hY) dL_host_5 (fun v1 h2 => gd_i2l dL_host_8 fun v3 => gd_lastore dL_host_9 fun h4 => gd_goto (tgt := 21) dL_host_10 (by decide) (gd_iconst (n := 0) dL_host_21 (by decide +kernel) (gd_iret rfl dL_host_22))) (hX_L_host htr)))))))
theorem cn_L_host (htr : l.stackTraces = false) {l0 : Nat} {l1 : Nat} {l2 : Nat} {l3 : Nat} {h : ev_H} {X : ev_X} (hK : mt_L_host l0 l1 l2 l3 h = some X) : ev_Con l ρ τ D tys A yL_host (Cond.codeWith yL_host cL_host 5 (some .int) [(0, 10, 13, 19), (0, 10, 17, 25)]) 8 133 1 [(3, l0), (1, l1), (1, l2), (3, l3)] h X :=
  gd_conH (own := RL) (by decide +kernel) rfl htr (Nat.le_of_ble_eq_true rfl) (fun p e R s m args below meth c w0 => gm_L_host htr l0 l1 l2 l3 h) hK
theorem lw_L_service : Cond.codeWith yL_service cL_service 5 (some .int) [(0, 10, 13, 19), (0, 10, 17, 25)] ∈ ev_good := ev_in (ev_t4 _ (List.mem_of_getElem? (i := 133) rfl)) rfl
theorem hX_L_service (htr : l.stackTraces = false) {l0 : Nat} {l1 : Nat} {l2 : Nat} {l3 : Nat}  : ∀ E h', (fun E h2 => ev_if (Nat.beq E 2) (ev_ret 1 h2) <| ev_if (Nat.beq E 1) (ev_ret 2 h2) <| none : Nat → ev_H → ev_O) E h' = some X → ∃ tgt, ev_Hd RL (tableOf [(0, 10, 13, 19), (0, 10, 17, 25)]) 5 E tgt ∧ ev_Gd p l e R s m args below meth c ρ τ D tys A c0 s0 5 cL_service RL 8 133 w0 (some .int) (tableOf [(0, 10, 13, 19), (0, 10, 17, 25)]) yL_service.name (ev_Q below ρ τ D tys A 1 X w0 args s c0 s0) X tgt [(0, (3, l0)), (1, (1, l1)), (2, (1, l2)), (3, (3, l3))] [(3, 2)] h' (some X) := fun E h' hz => by
    rcases ev_if_or hz with ⟨hb, hz⟩ | ⟨-, hz⟩
    · have hb := Nat.eq_of_beq_eq_true hb
      subst hb
      refine ⟨13, ⟨[], ⟨0, 10, 13, 19⟩, [⟨0, 10, 17, 25⟩], rfl, rfl, by decide, rfl, lcL_19, by decide, fun z hz => absurd hz List.not_mem_nil⟩, ?_⟩
      rw [← hz]
      exact gd_astore dL_service_13 (by decide) rfl (gd_iconst (n := 1) dL_service_15 (by decide +kernel) (gd_iret rfl dL_service_16))
    · rcases ev_if_or hz with ⟨hb, hz⟩ | ⟨-, hz⟩
      · have hb := Nat.eq_of_beq_eq_true hb
        subst hb
        refine ⟨17, ⟨[⟨0, 10, 13, 19⟩], ⟨0, 10, 17, 25⟩, [], rfl, rfl, by decide, rfl, lcL_25, by decide, List.forall_mem_cons.mpr ⟨⟨by decide, 2, by decide, by decide, lcL_19⟩, fun z hz => absurd hz List.not_mem_nil⟩⟩, ?_⟩
        rw [← hz]
        exact gd_astore dL_service_17 (by decide) rfl (gd_iconst (n := 2) dL_service_19 (by decide +kernel) (gd_iret rfl dL_service_20))
      · cases hz
theorem gm_L_service (htr : l.stackTraces = false) (l0 : Nat) (l1 : Nat) (l2 : Nat) (l3 : Nat) (h : ev_H) : ev_Gd p l e R s m args below meth c ρ τ D tys A c0 s0 5 cL_service RL 8 133 w0 (some .int) (tableOf [(0, 10, 13, 19), (0, 10, 17, 25)]) yL_service.name (ev_Q below ρ τ D tys A 1 X w0 args s c0 s0) X 0 (ev_al 0 [(3, l0), (1, l1), (1, l2), (3, l3)]) [] h (mt_L_service l0 l1 l2 l3 h) := by
  unfold mt_L_service
  exact gd_eq (lv' := [(0, (3, l0)), (1, (1, l1)), (2, (1, l2)), (3, (3, l3))]) rfl (gd_aload_n dL_service_0 rfl 3 rfl (gd_iconst (n := 0) dL_service_1 (by decide +kernel) (gd_aload_n dL_service_2 rfl 0 rfl (gd_iload_n dL_service_3 rfl 1 rfl (gd_iload_n dL_service_4 rfl 2 rfl (gd_callVH (as := [(1, l1), (1, l2)]) (rk := 1) rfl yd_X6_service lm_X6_service lkL_39 li_X6_service le_X6_service li_X6 (by decide) (by decide) (Nat.le_of_ble_eq_true rfl) (fun Y hY => cn_X6_service htr hY) dL_service_5 (fun v1 h2 => gd_i2l dL_service_8 fun v3 => gd_lastore dL_service_9 fun h4 => gd_goto (tgt := 21) dL_service_10 (by decide) (gd_iconst (n := 0) dL_service_21 (by decide +kernel) (gd_iret rfl dL_service_22))) (hX_L_service htr)))))))
theorem cn_L_service (htr : l.stackTraces = false) {l0 : Nat} {l1 : Nat} {l2 : Nat} {l3 : Nat} {h : ev_H} {X : ev_X} (hK : mt_L_service l0 l1 l2 l3 h = some X) : ev_Con l ρ τ D tys A yL_service (Cond.codeWith yL_service cL_service 5 (some .int) [(0, 10, 13, 19), (0, 10, 17, 25)]) 8 133 1 [(3, l0), (1, l1), (1, l2), (3, l3)] h X :=
  gd_conH (own := RL) (by decide +kernel) rfl htr (Nat.le_of_ble_eq_true rfl) (fun p e R s m args below meth c w0 => gm_L_service htr l0 l1 l2 l3 h) hK
theorem lw_L_baseByte : Cond.codeWith yL_baseByte cL_baseByte 5 (some .int) [(0, 10, 13, 19)] ∈ ev_good := ev_in (ev_t4 _ (List.mem_of_getElem? (i := 146) rfl)) rfl
theorem hX_L_baseByte (htr : l.stackTraces = false) {l0 : Nat} {l1 : Nat} {l2 : Nat} {l3 : Nat}  : ∀ E h', (fun E h2 => ev_if (Nat.beq E 2) (ev_ret 1 h2) <| none : Nat → ev_H → ev_O) E h' = some X → ∃ tgt, ev_Hd RL (tableOf [(0, 10, 13, 19)]) 5 E tgt ∧ ev_Gd p l e R s m args below meth c ρ τ D tys A c0 s0 5 cL_baseByte RL 8 133 w0 (some .int) (tableOf [(0, 10, 13, 19)]) yL_baseByte.name (ev_Q below ρ τ D tys A 1 X w0 args s c0 s0) X tgt [(0, (3, l0)), (1, (1, l1)), (2, (1, l2)), (3, (3, l3))] [(3, 2)] h' (some X) := fun E h' hz => by
    rcases ev_if_or hz with ⟨hb, hz⟩ | ⟨-, hz⟩
    · have hb := Nat.eq_of_beq_eq_true hb
      subst hb
      refine ⟨13, ⟨[], ⟨0, 10, 13, 19⟩, [], rfl, rfl, by decide, rfl, lcL_19, by decide, fun z hz => absurd hz List.not_mem_nil⟩, ?_⟩
      rw [← hz]
      exact gd_astore dL_baseByte_13 (by decide) rfl (gd_iconst (n := 1) dL_baseByte_15 (by decide +kernel) (gd_iret rfl dL_baseByte_16))
    · cases hz
theorem gm_L_baseByte (htr : l.stackTraces = false) (l0 : Nat) (l1 : Nat) (l2 : Nat) (l3 : Nat) (h : ev_H) : ev_Gd p l e R s m args below meth c ρ τ D tys A c0 s0 5 cL_baseByte RL 8 133 w0 (some .int) (tableOf [(0, 10, 13, 19)]) yL_baseByte.name (ev_Q below ρ τ D tys A 1 X w0 args s c0 s0) X 0 (ev_al 0 [(3, l0), (1, l1), (1, l2), (3, l3)]) [] h (mt_L_baseByte l0 l1 l2 l3 h) := by
  unfold mt_L_baseByte
  exact gd_eq (lv' := [(0, (3, l0)), (1, (1, l1)), (2, (1, l2)), (3, (3, l3))]) rfl (gd_aload_n dL_baseByte_0 rfl 3 rfl (gd_iconst (n := 0) dL_baseByte_1 (by decide +kernel) (gd_aload_n dL_baseByte_2 rfl 0 rfl (gd_iload_n dL_baseByte_3 rfl 1 rfl (gd_iload_n dL_baseByte_4 rfl 2 rfl (gd_callVH (as := [(1, l1), (1, l2)]) (rk := 1) rfl yd_X6_baseByte lm_X6_baseByte lkL_42 li_X6_baseByte le_X6_baseByte li_X6 (by decide) (by decide) (Nat.le_of_ble_eq_true rfl) (fun Y hY => cn_X6_baseByte htr hY) dL_baseByte_5 (fun v1 h2 => gd_i2l dL_baseByte_8 fun v3 => gd_lastore dL_baseByte_9 fun h4 => gd_goto (tgt := 17) dL_baseByte_10 (by decide) (gd_iconst (n := 0) dL_baseByte_17 (by decide +kernel) (gd_iret rfl dL_baseByte_18))) (hX_L_baseByte htr)))))))
theorem cn_L_baseByte (htr : l.stackTraces = false) {l0 : Nat} {l1 : Nat} {l2 : Nat} {l3 : Nat} {h : ev_H} {X : ev_X} (hK : mt_L_baseByte l0 l1 l2 l3 h = some X) : ev_Con l ρ τ D tys A yL_baseByte (Cond.codeWith yL_baseByte cL_baseByte 5 (some .int) [(0, 10, 13, 19)]) 8 133 1 [(3, l0), (1, l1), (1, l2), (3, l3)] h X :=
  gd_conH (own := RL) (by decide +kernel) rfl htr (Nat.le_of_ble_eq_true rfl) (fun p e R s m args below meth c w0 => gm_L_baseByte htr l0 l1 l2 l3 h) hK
theorem lw_L_haveSameName : Cond.codeWith yL_haveSameName cL_haveSameName 5 (some .int) [(0, 17, 20, 19)] ∈ ev_good := ev_in (ev_t4 _ (List.mem_of_getElem? (i := 154) rfl)) rfl
theorem hX_L_haveSameName (htr : l.stackTraces = false) {l0 : Nat} {l1 : Nat} {l2 : Nat} {l3 : Nat}  : ∀ E h', (fun E h2 => ev_if (Nat.beq E 2) (ev_ret 1 h2) <| none : Nat → ev_H → ev_O) E h' = some X → ∃ tgt, ev_Hd RL (tableOf [(0, 17, 20, 19)]) 5 E tgt ∧ ev_Gd p l e R s m args below meth c ρ τ D tys A c0 s0 5 cL_haveSameName RL 8 133 w0 (some .int) (tableOf [(0, 17, 20, 19)]) yL_haveSameName.name (ev_Q below ρ τ D tys A 1 X w0 args s c0 s0) X tgt [(0, (3, l0)), (1, (1, l1)), (2, (1, l2)), (3, (3, l3))] [(3, 2)] h' (some X) := fun E h' hz => by
    rcases ev_if_or hz with ⟨hb, hz⟩ | ⟨-, hz⟩
    · have hb := Nat.eq_of_beq_eq_true hb
      subst hb
      refine ⟨20, ⟨[], ⟨0, 17, 20, 19⟩, [], rfl, rfl, by decide, rfl, lcL_19, by decide, fun z hz => absurd hz List.not_mem_nil⟩, ?_⟩
      rw [← hz]
      exact gd_astore dL_haveSameName_20 (by decide) rfl (gd_iconst (n := 1) dL_haveSameName_22 (by decide +kernel) (gd_iret rfl dL_haveSameName_23))
    · cases hz
theorem gm_L_haveSameName (htr : l.stackTraces = false) (l0 : Nat) (l1 : Nat) (l2 : Nat) (l3 : Nat) (h : ev_H) : ev_Gd p l e R s m args below meth c ρ τ D tys A c0 s0 5 cL_haveSameName RL 8 133 w0 (some .int) (tableOf [(0, 17, 20, 19)]) yL_haveSameName.name (ev_Q below ρ τ D tys A 1 X w0 args s c0 s0) X 0 (ev_al 0 [(3, l0), (1, l1), (1, l2), (3, l3)]) [] h (mt_L_haveSameName l0 l1 l2 l3 h) := by
  unfold mt_L_haveSameName
  exact gd_eq (lv' := [(0, (3, l0)), (1, (1, l1)), (2, (1, l2)), (3, (3, l3))]) rfl (gd_aload_n dL_haveSameName_0 rfl 3 rfl (gd_iconst (n := 0) dL_haveSameName_1 (by decide +kernel) (gd_aload_n dL_haveSameName_2 rfl 0 rfl (gd_iload_n dL_haveSameName_3 rfl 1 rfl (gd_iload_n dL_haveSameName_4 rfl 2 rfl (gd_callVH (as := [(1, l1), (1, l2)]) (rk := 1) rfl yd_X6_haveSameName lm_X6_haveSameName lkL_45 li_X6_haveSameName le_X6_haveSameName li_X6 (by decide) (by decide) (Nat.le_of_ble_eq_true rfl) (fun Y hY => cn_X6_haveSameName htr hY) dL_haveSameName_5 (fun v1 h2 => gd_if_eq (tgt := 15) dL_haveSameName_8 (by decide) (gd_no) (gd_lconst (n := 1) dL_haveSameName_11 rfl (gd_goto (tgt := 16) dL_haveSameName_12 (by decide) (gd_lastore dL_haveSameName_16 fun h3 => gd_goto (tgt := 24) dL_haveSameName_17 (by decide) (gd_iconst (n := 0) dL_haveSameName_24 (by decide +kernel) (gd_iret rfl dL_haveSameName_25)))))) (hX_L_haveSameName htr)))))))
theorem cn_L_haveSameName (htr : l.stackTraces = false) {l0 : Nat} {l1 : Nat} {l2 : Nat} {l3 : Nat} {h : ev_H} {X : ev_X} (hK : mt_L_haveSameName l0 l1 l2 l3 h = some X) : ev_Con l ρ τ D tys A yL_haveSameName (Cond.codeWith yL_haveSameName cL_haveSameName 5 (some .int) [(0, 17, 20, 19)]) 8 133 1 [(3, l0), (1, l1), (1, l2), (3, l3)] h X :=
  gd_conH (own := RL) (by decide +kernel) rfl htr (Nat.le_of_ble_eq_true rfl) (fun p e R s m args below meth c w0 => gm_L_haveSameName htr l0 l1 l2 l3 h) hK
theorem lw_L_record : Cond.codeWith yL_record cL_record 6 (some .int) [(0, 12, 15, 19), (0, 12, 19, 25)] ∈ ev_good := ev_in (ev_t4 _ (List.mem_of_getElem? (i := 162) rfl)) rfl
theorem hX_L_record (htr : l.stackTraces = false) {l0 : Nat} {l1 : Nat} {l2 : Nat} {l3 : Nat} {l4 : Nat}  : ∀ E h', (fun E h2 => ev_if (Nat.beq E 2) (ev_ret 1 h2) <| none : Nat → ev_H → ev_O) E h' = some X → ∃ tgt, ev_Hd RL (tableOf [(0, 12, 15, 19), (0, 12, 19, 25)]) 7 E tgt ∧ ev_Gd p l e R s m args below meth c ρ τ D tys A c0 s0 6 cL_record RL 9 157 w0 (some .int) (tableOf [(0, 12, 15, 19), (0, 12, 19, 25)]) yL_record.name (ev_Q below ρ τ D tys A 1 X w0 args s c0 s0) X tgt [(0, (3, l0)), (1, (1, l1)), (2, (1, l2)), (3, (1, l3)), (4, (3, l4))] [(3, 2)] h' (some X) := fun E h' hz => by
    rcases ev_if_or hz with ⟨hb, hz⟩ | ⟨-, hz⟩
    · have hb := Nat.eq_of_beq_eq_true hb
      subst hb
      refine ⟨15, ⟨[], ⟨0, 12, 15, 19⟩, [⟨0, 12, 19, 25⟩], rfl, rfl, by decide, rfl, lcL_19, by decide, fun z hz => absurd hz List.not_mem_nil⟩, ?_⟩
      rw [← hz]
      exact gd_astore dL_record_15 (by decide) rfl (gd_iconst (n := 1) dL_record_17 (by decide +kernel) (gd_iret rfl dL_record_18))
    · cases hz
theorem gm_L_record (htr : l.stackTraces = false) (l0 : Nat) (l1 : Nat) (l2 : Nat) (l3 : Nat) (l4 : Nat) (h : ev_H) : ev_Gd p l e R s m args below meth c ρ τ D tys A c0 s0 6 cL_record RL 9 157 w0 (some .int) (tableOf [(0, 12, 15, 19), (0, 12, 19, 25)]) yL_record.name (ev_Q below ρ τ D tys A 1 X w0 args s c0 s0) X 0 (ev_al 0 [(3, l0), (1, l1), (1, l2), (1, l3), (3, l4)]) [] h (mt_L_record l0 l1 l2 l3 l4 h) := by
  unfold mt_L_record
  exact gd_eq (lv' := [(0, (3, l0)), (1, (1, l1)), (2, (1, l2)), (3, (1, l3)), (4, (3, l4))]) rfl (gd_aload dL_record_0 4 rfl (gd_iconst (n := 0) dL_record_2 (by decide +kernel) (gd_aload_n dL_record_3 rfl 0 rfl (gd_iload_n dL_record_4 rfl 1 rfl (gd_iload_n dL_record_5 rfl 2 rfl (gd_iload_n dL_record_6 rfl 3 rfl (gd_callVH (as := [(1, l1), (1, l2), (1, l3)]) (rk := 1) rfl yd_X6_record lm_X6_record lkL_49 li_X6_record le_X6_record li_X6 (by decide) (by decide) (Nat.le_of_ble_eq_true rfl) (fun Y hY => cn_X6_record htr hY) dL_record_7 (fun v1 h2 => gd_i2l dL_record_10 fun v3 => gd_lastore dL_record_11 fun h4 => gd_goto (tgt := 23) dL_record_12 (by decide) (gd_no)) (hX_L_record htr))))))))
theorem cn_L_record (htr : l.stackTraces = false) {l0 : Nat} {l1 : Nat} {l2 : Nat} {l3 : Nat} {l4 : Nat} {h : ev_H} {X : ev_X} (hK : mt_L_record l0 l1 l2 l3 l4 h = some X) : ev_Con l ρ τ D tys A yL_record (Cond.codeWith yL_record cL_record 6 (some .int) [(0, 12, 15, 19), (0, 12, 19, 25)]) 9 157 1 [(3, l0), (1, l1), (1, l2), (1, l3), (3, l4)] h X :=
  gd_conH (own := RL) (by decide +kernel) rfl htr (Nat.le_of_ble_eq_true rfl) (fun p e R s m args below meth c w0 => gm_L_record htr l0 l1 l2 l3 l4 h) hK
theorem lw_L_recordByte : Cond.codeWith yL_recordByte cL_recordByte 6 (some .int) [(0, 12, 15, 19)] ∈ ev_good := ev_in (ev_t4 _ (List.mem_of_getElem? (i := 179) rfl)) rfl
theorem hX_L_recordByte (htr : l.stackTraces = false) {l0 : Nat} {l1 : Nat} {l2 : Nat} {l3 : Nat} {l4 : Nat}  : ∀ E h', (fun E h2 => ev_if (Nat.beq E 2) (ev_ret 1 h2) <| none : Nat → ev_H → ev_O) E h' = some X → ∃ tgt, ev_Hd RL (tableOf [(0, 12, 15, 19)]) 7 E tgt ∧ ev_Gd p l e R s m args below meth c ρ τ D tys A c0 s0 6 cL_recordByte RL 9 156 w0 (some .int) (tableOf [(0, 12, 15, 19)]) yL_recordByte.name (ev_Q below ρ τ D tys A 1 X w0 args s c0 s0) X tgt [(0, (3, l0)), (1, (1, l1)), (2, (1, l2)), (3, (1, l3)), (4, (3, l4))] [(3, 2)] h' (some X) := fun E h' hz => by
    rcases ev_if_or hz with ⟨hb, hz⟩ | ⟨-, hz⟩
    · have hb := Nat.eq_of_beq_eq_true hb
      subst hb
      refine ⟨15, ⟨[], ⟨0, 12, 15, 19⟩, [], rfl, rfl, by decide, rfl, lcL_19, by decide, fun z hz => absurd hz List.not_mem_nil⟩, ?_⟩
      rw [← hz]
      exact gd_astore dL_recordByte_15 (by decide) rfl (gd_iconst (n := 1) dL_recordByte_17 (by decide +kernel) (gd_iret rfl dL_recordByte_18))
    · cases hz
theorem gm_L_recordByte (htr : l.stackTraces = false) (l0 : Nat) (l1 : Nat) (l2 : Nat) (l3 : Nat) (l4 : Nat) (h : ev_H) : ev_Gd p l e R s m args below meth c ρ τ D tys A c0 s0 6 cL_recordByte RL 9 156 w0 (some .int) (tableOf [(0, 12, 15, 19)]) yL_recordByte.name (ev_Q below ρ τ D tys A 1 X w0 args s c0 s0) X 0 (ev_al 0 [(3, l0), (1, l1), (1, l2), (1, l3), (3, l4)]) [] h (mt_L_recordByte l0 l1 l2 l3 l4 h) := by
  unfold mt_L_recordByte
  exact gd_eq (lv' := [(0, (3, l0)), (1, (1, l1)), (2, (1, l2)), (3, (1, l3)), (4, (3, l4))]) rfl (gd_aload dL_recordByte_0 4 rfl (gd_iconst (n := 0) dL_recordByte_2 (by decide +kernel) (gd_aload_n dL_recordByte_3 rfl 0 rfl (gd_iload_n dL_recordByte_4 rfl 1 rfl (gd_iload_n dL_recordByte_5 rfl 2 rfl (gd_iload_n dL_recordByte_6 rfl 3 rfl (gd_callVH (as := [(1, l1), (1, l2), (1, l3)]) (rk := 1) rfl yd_X6_recordByte lm_X6_recordByte lkL_53 li_X6_recordByte le_X6_recordByte li_X6 (by decide) (by decide) (Nat.le_of_ble_eq_true rfl) (fun Y hY => cn_X6_recordByte htr hY) dL_recordByte_7 (fun v1 h2 => gd_i2l dL_recordByte_10 fun v3 => gd_lastore dL_recordByte_11 fun h4 => gd_goto (tgt := 19) dL_recordByte_12 (by decide) (gd_no)) (hX_L_recordByte htr))))))))
theorem cn_L_recordByte (htr : l.stackTraces = false) {l0 : Nat} {l1 : Nat} {l2 : Nat} {l3 : Nat} {l4 : Nat} {h : ev_H} {X : ev_X} (hK : mt_L_recordByte l0 l1 l2 l3 l4 h = some X) : ev_Con l ρ τ D tys A yL_recordByte (Cond.codeWith yL_recordByte cL_recordByte 6 (some .int) [(0, 12, 15, 19)]) 9 156 1 [(3, l0), (1, l1), (1, l2), (1, l3), (3, l4)] h X :=
  gd_conH (own := RL) (by decide +kernel) rfl htr (Nat.le_of_ble_eq_true rfl) (fun p e R s m args below meth c w0 => gm_L_recordByte htr l0 l1 l2 l3 l4 h) hK
theorem lw_L_browser : Cond.codeWith yL_browser cL_browser 6 (some .int) [(0, 12, 15, 19), (0, 12, 19, 25)] ∈ ev_good := ev_in (ev_t4 _ (List.mem_of_getElem? (i := 186) rfl)) rfl
theorem hX_L_browser (htr : l.stackTraces = false) {l0 : Nat} {l1 : Nat} {l2 : Nat} {l3 : Nat} {l4 : Nat}  : ∀ E h', (fun E h2 => ev_if (Nat.beq E 2) (ev_ret 1 h2) <| ev_if (Nat.beq E 1) (ev_ret 2 h2) <| none : Nat → ev_H → ev_O) E h' = some X → ∃ tgt, ev_Hd RL (tableOf [(0, 12, 15, 19), (0, 12, 19, 25)]) 7 E tgt ∧ ev_Gd p l e R s m args below meth c ρ τ D tys A c0 s0 6 cL_browser RL 8 134 w0 (some .int) (tableOf [(0, 12, 15, 19), (0, 12, 19, 25)]) yL_browser.name (ev_Q below ρ τ D tys A 1 X w0 args s c0 s0) X tgt [(0, (3, l0)), (1, (1, l1)), (2, (1, l2)), (3, (1, l3)), (4, (3, l4))] [(3, 2)] h' (some X) := fun E h' hz => by
    rcases ev_if_or hz with ⟨hb, hz⟩ | ⟨-, hz⟩
    · have hb := Nat.eq_of_beq_eq_true hb
      subst hb
      refine ⟨15, ⟨[], ⟨0, 12, 15, 19⟩, [⟨0, 12, 19, 25⟩], rfl, rfl, by decide, rfl, lcL_19, by decide, fun z hz => absurd hz List.not_mem_nil⟩, ?_⟩
      rw [← hz]
      exact gd_astore dL_browser_15 (by decide) rfl (gd_iconst (n := 1) dL_browser_17 (by decide +kernel) (gd_iret rfl dL_browser_18))
    · rcases ev_if_or hz with ⟨hb, hz⟩ | ⟨-, hz⟩
      · have hb := Nat.eq_of_beq_eq_true hb
        subst hb
        refine ⟨19, ⟨[⟨0, 12, 15, 19⟩], ⟨0, 12, 19, 25⟩, [], rfl, rfl, by decide, rfl, lcL_25, by decide, List.forall_mem_cons.mpr ⟨⟨by decide, 2, by decide, by decide, lcL_19⟩, fun z hz => absurd hz List.not_mem_nil⟩⟩, ?_⟩
        rw [← hz]
        exact gd_astore dL_browser_19 (by decide) rfl (gd_iconst (n := 2) dL_browser_21 (by decide +kernel) (gd_iret rfl dL_browser_22))
      · cases hz
theorem gm_L_browser (htr : l.stackTraces = false) (l0 : Nat) (l1 : Nat) (l2 : Nat) (l3 : Nat) (l4 : Nat) (h : ev_H) : ev_Gd p l e R s m args below meth c ρ τ D tys A c0 s0 6 cL_browser RL 8 134 w0 (some .int) (tableOf [(0, 12, 15, 19), (0, 12, 19, 25)]) yL_browser.name (ev_Q below ρ τ D tys A 1 X w0 args s c0 s0) X 0 (ev_al 0 [(3, l0), (1, l1), (1, l2), (1, l3), (3, l4)]) [] h (mt_L_browser l0 l1 l2 l3 l4 h) := by
  unfold mt_L_browser
  exact gd_eq (lv' := [(0, (3, l0)), (1, (1, l1)), (2, (1, l2)), (3, (1, l3)), (4, (3, l4))]) rfl (gd_aload dL_browser_0 4 rfl (gd_iconst (n := 0) dL_browser_2 (by decide +kernel) (gd_aload_n dL_browser_3 rfl 0 rfl (gd_iload_n dL_browser_4 rfl 1 rfl (gd_iload_n dL_browser_5 rfl 2 rfl (gd_iload_n dL_browser_6 rfl 3 rfl (gd_callVH (as := [(1, l1), (1, l2), (1, l3)]) (rk := 1) rfl yd_X6_browser lm_X6_browser lkL_56 li_X6_browser le_X6_browser li_X6 (by decide) (by decide) (Nat.le_of_ble_eq_true rfl) (fun Y hY => cn_X6_browser htr hY) dL_browser_7 (fun v1 h2 => gd_i2l dL_browser_10 fun v3 => gd_lastore dL_browser_11 fun h4 => gd_goto (tgt := 23) dL_browser_12 (by decide) (gd_iconst (n := 0) dL_browser_23 (by decide +kernel) (gd_iret rfl dL_browser_24))) (hX_L_browser htr))))))))
theorem cn_L_browser (htr : l.stackTraces = false) {l0 : Nat} {l1 : Nat} {l2 : Nat} {l3 : Nat} {l4 : Nat} {h : ev_H} {X : ev_X} (hK : mt_L_browser l0 l1 l2 l3 l4 h = some X) : ev_Con l ρ τ D tys A yL_browser (Cond.codeWith yL_browser cL_browser 6 (some .int) [(0, 12, 15, 19), (0, 12, 19, 25)]) 8 134 1 [(3, l0), (1, l1), (1, l2), (1, l3), (3, l4)] h X :=
  gd_conH (own := RL) (by decide +kernel) rfl htr (Nat.le_of_ble_eq_true rfl) (fun p e R s m args below meth c w0 => gm_L_browser htr l0 l1 l2 l3 l4 h) hK
theorem lw_L_message : Cond.codeWith yL_message cL_message 5 (some .int) [(0, 10, 13, 19), (0, 10, 17, 25)] ∈ ev_good := ev_in (ev_t4 _ (List.mem_of_getElem? (i := 201) rfl)) rfl
theorem hX_L_message (htr : l.stackTraces = false) {l0 : Nat} {l1 : Nat} {l2 : Nat} {l3 : Nat}  : ∀ E h', (fun E h2 => ev_if (Nat.beq E 2) (ev_ret 1 h2) <| none : Nat → ev_H → ev_O) E h' = some X → ∃ tgt, ev_Hd RL (tableOf [(0, 10, 13, 19), (0, 10, 17, 25)]) 5 E tgt ∧ ev_Gd p l e R s m args below meth c ρ τ D tys A c0 s0 5 cL_message RL 7 116 w0 (some .int) (tableOf [(0, 10, 13, 19), (0, 10, 17, 25)]) yL_message.name (ev_Q below ρ τ D tys A 1 X w0 args s c0 s0) X tgt [(0, (3, l0)), (1, (1, l1)), (2, (1, l2)), (3, (3, l3))] [(3, 2)] h' (some X) := fun E h' hz => by
    rcases ev_if_or hz with ⟨hb, hz⟩ | ⟨-, hz⟩
    · have hb := Nat.eq_of_beq_eq_true hb
      subst hb
      refine ⟨13, ⟨[], ⟨0, 10, 13, 19⟩, [⟨0, 10, 17, 25⟩], rfl, rfl, by decide, rfl, lcL_19, by decide, fun z hz => absurd hz List.not_mem_nil⟩, ?_⟩
      rw [← hz]
      exact gd_astore dL_message_13 (by decide) rfl (gd_iconst (n := 1) dL_message_15 (by decide +kernel) (gd_iret rfl dL_message_16))
    · cases hz
theorem gm_L_message (htr : l.stackTraces = false) (l0 : Nat) (l1 : Nat) (l2 : Nat) (l3 : Nat) (h : ev_H) : ev_Gd p l e R s m args below meth c ρ τ D tys A c0 s0 5 cL_message RL 7 116 w0 (some .int) (tableOf [(0, 10, 13, 19), (0, 10, 17, 25)]) yL_message.name (ev_Q below ρ τ D tys A 1 X w0 args s c0 s0) X 0 (ev_al 0 [(3, l0), (1, l1), (1, l2), (3, l3)]) [] h (mt_L_message l0 l1 l2 l3 h) := by
  unfold mt_L_message
  exact gd_eq (lv' := [(0, (3, l0)), (1, (1, l1)), (2, (1, l2)), (3, (3, l3))]) rfl (gd_aload_n dL_message_0 rfl 3 rfl (gd_iconst (n := 0) dL_message_1 (by decide +kernel) (gd_aload_n dL_message_2 rfl 0 rfl (gd_iload_n dL_message_3 rfl 1 rfl (gd_iload_n dL_message_4 rfl 2 rfl (gd_callVH (as := [(1, l1), (1, l2)]) (rk := 1) rfl yd_X6_message lm_X6_message lkL_59 li_X6_message le_X6_message li_X6 (by decide) (by decide) (Nat.le_of_ble_eq_true rfl) (fun Y hY => cn_X6_message htr hY) dL_message_5 (fun v1 h2 => gd_i2l dL_message_8 fun v3 => gd_lastore dL_message_9 fun h4 => gd_goto (tgt := 21) dL_message_10 (by decide) (gd_no)) (hX_L_message htr)))))))
theorem cn_L_message (htr : l.stackTraces = false) {l0 : Nat} {l1 : Nat} {l2 : Nat} {l3 : Nat} {h : ev_H} {X : ev_X} (hK : mt_L_message l0 l1 l2 l3 h = some X) : ev_Con l ρ τ D tys A yL_message (Cond.codeWith yL_message cL_message 5 (some .int) [(0, 10, 13, 19), (0, 10, 17, 25)]) 7 116 1 [(3, l0), (1, l1), (1, l2), (3, l3)] h X :=
  gd_conH (own := RL) (by decide +kernel) rfl htr (Nat.le_of_ble_eq_true rfl) (fun p e R s m args below meth c w0 => gm_L_message htr l0 l1 l2 l3 h) hK
theorem lw_L_isMarked : Cond.codeWith yL_isMarked cL_isMarked 4 (some .int) [(0, 16, 19, 25)] ∈ ev_good := ev_in (ev_t4 _ (List.mem_of_getElem? (i := 226) rfl)) rfl
theorem g_L_isMarked_2 (htr : l.stackTraces = false) (sv0 : Nat) (sv1 : Nat) (sv2 : Nat) (h : ev_H) : ev_Gd p l e R s m args below meth c ρ τ D tys A c0 s0 4 cL_isMarked RL 8 131 w0 (some .int) (tableOf [(0, 16, 19, 25)]) yL_isMarked.name (ev_Q below ρ τ D tys A 1 X w0 args s c0 s0) X 15 [] [(2, sv2), (1, sv1), (3, sv0)] h (bk_L_isMarked_2 sv0 sv1 sv2 h) := by
  unfold bk_L_isMarked_2
  exact gd_lastore dL_isMarked_15 fun h1 => gd_goto (tgt := 22) dL_isMarked_16 (by decide) (gd_iconst (n := 0) dL_isMarked_22 (by decide +kernel) (gd_iret rfl dL_isMarked_23))
theorem hX_L_isMarked (htr : l.stackTraces = false) {l0 : Nat} {l1 : Nat} {l2 : Nat}  : ∀ E h', (fun E h2 => ev_if (Nat.beq E 1) (ev_ret 1 h2) <| none : Nat → ev_H → ev_O) E h' = some X → ∃ tgt, ev_Hd RL (tableOf [(0, 16, 19, 25)]) 4 E tgt ∧ ev_Gd p l e R s m args below meth c ρ τ D tys A c0 s0 4 cL_isMarked RL 8 131 w0 (some .int) (tableOf [(0, 16, 19, 25)]) yL_isMarked.name (ev_Q below ρ τ D tys A 1 X w0 args s c0 s0) X tgt [(0, (3, l0)), (1, (1, l1)), (2, (3, l2))] [(3, 2)] h' (some X) := fun E h' hz => by
    rcases ev_if_or hz with ⟨hb, hz⟩ | ⟨-, hz⟩
    · have hb := Nat.eq_of_beq_eq_true hb
      subst hb
      refine ⟨19, ⟨[], ⟨0, 16, 19, 25⟩, [], rfl, rfl, by decide, rfl, lcL_25, by decide, fun z hz => absurd hz List.not_mem_nil⟩, ?_⟩
      rw [← hz]
      exact gd_astore_n dL_isMarked_19 rfl (by decide) rfl (gd_iconst (n := 1) dL_isMarked_20 (by decide +kernel) (gd_iret rfl dL_isMarked_21))
    · cases hz
theorem gm_L_isMarked (htr : l.stackTraces = false) (l0 : Nat) (l1 : Nat) (l2 : Nat) (h : ev_H) : ev_Gd p l e R s m args below meth c ρ τ D tys A c0 s0 4 cL_isMarked RL 8 131 w0 (some .int) (tableOf [(0, 16, 19, 25)]) yL_isMarked.name (ev_Q below ρ τ D tys A 1 X w0 args s c0 s0) X 0 (ev_al 0 [(3, l0), (1, l1), (3, l2)]) [] h (mt_L_isMarked l0 l1 l2 h) := by
  unfold mt_L_isMarked
  exact gd_eq (lv' := [(0, (3, l0)), (1, (1, l1)), (2, (3, l2))]) rfl (gd_aload_n dL_isMarked_0 rfl 2 rfl (gd_iconst (n := 0) dL_isMarked_1 (by decide +kernel) (gd_aload_n dL_isMarked_2 rfl 0 rfl (gd_iload_n dL_isMarked_3 rfl 1 rfl (gd_callVH (as := [(1, l1)]) (rk := 1) rfl yd_X6_isMarked lm_X6_isMarked lkL_62 li_X6_isMarked le_X6_isMarked li_X6 (by decide) (by decide) (Nat.le_of_ble_eq_true rfl) (fun Y hY => cn_X6_isMarked htr hY) dL_isMarked_4 (fun v1 h2 => gd_if_eq (tgt := 14) dL_isMarked_7 (by decide) (gd_lconst (n := 0) dL_isMarked_14 rfl (gd_sub [] rfl (g_L_isMarked_2 htr l2 0 0 h2))) (gd_lconst (n := 1) dL_isMarked_10 rfl (gd_goto (tgt := 15) dL_isMarked_11 (by decide) (gd_sub [] rfl (g_L_isMarked_2 htr l2 0 1 h2))))) (hX_L_isMarked htr))))))
theorem cn_L_isMarked (htr : l.stackTraces = false) {l0 : Nat} {l1 : Nat} {l2 : Nat} {h : ev_H} {X : ev_X} (hK : mt_L_isMarked l0 l1 l2 h = some X) : ev_Con l ρ τ D tys A yL_isMarked (Cond.codeWith yL_isMarked cL_isMarked 4 (some .int) [(0, 16, 19, 25)]) 8 131 1 [(3, l0), (1, l1), (3, l2)] h X :=
  gd_conH (own := RL) (by decide +kernel) rfl htr (Nat.le_of_ble_eq_true rfl) (fun p e R s m args below meth c w0 => gm_L_isMarked htr l0 l1 l2 h) hK
theorem lw_L_log : Cond.codeWith yL_log cL_log 5 (some .int) [(0, 10, 13, 19), (0, 10, 17, 25)] ∈ ev_good := ev_in (ev_t4 _ (List.mem_of_getElem? (i := 237) rfl)) rfl
theorem hX_L_log (htr : l.stackTraces = false) {l0 : Nat} {l1 : Nat} {l2 : Nat} {l3 : Nat}  : ∀ E h', (fun E h2 => ev_if (Nat.beq E 2) (ev_ret 1 h2) <| none : Nat → ev_H → ev_O) E h' = some X → ∃ tgt, ev_Hd RL (tableOf [(0, 10, 13, 19), (0, 10, 17, 25)]) 5 E tgt ∧ ev_Gd p l e R s m args below meth c ρ τ D tys A c0 s0 5 cL_log RL 7 112 w0 (some .int) (tableOf [(0, 10, 13, 19), (0, 10, 17, 25)]) yL_log.name (ev_Q below ρ τ D tys A 1 X w0 args s c0 s0) X tgt [(0, (3, l0)), (1, (1, l1)), (2, (1, l2)), (3, (3, l3))] [(3, 2)] h' (some X) := fun E h' hz => by
    rcases ev_if_or hz with ⟨hb, hz⟩ | ⟨-, hz⟩
    · have hb := Nat.eq_of_beq_eq_true hb
      subst hb
      refine ⟨13, ⟨[], ⟨0, 10, 13, 19⟩, [⟨0, 10, 17, 25⟩], rfl, rfl, by decide, rfl, lcL_19, by decide, fun z hz => absurd hz List.not_mem_nil⟩, ?_⟩
      rw [← hz]
      exact gd_astore dL_log_13 (by decide) rfl (gd_iconst (n := 1) dL_log_15 (by decide +kernel) (gd_iret rfl dL_log_16))
    · cases hz
theorem gm_L_log (htr : l.stackTraces = false) (l0 : Nat) (l1 : Nat) (l2 : Nat) (l3 : Nat) (h : ev_H) : ev_Gd p l e R s m args below meth c ρ τ D tys A c0 s0 5 cL_log RL 7 112 w0 (some .int) (tableOf [(0, 10, 13, 19), (0, 10, 17, 25)]) yL_log.name (ev_Q below ρ τ D tys A 1 X w0 args s c0 s0) X 0 (ev_al 0 [(3, l0), (1, l1), (1, l2), (3, l3)]) [] h (mt_L_log l0 l1 l2 l3 h) := by
  unfold mt_L_log
  exact gd_eq (lv' := [(0, (3, l0)), (1, (1, l1)), (2, (1, l2)), (3, (3, l3))]) rfl (gd_aload_n dL_log_0 rfl 3 rfl (gd_iconst (n := 0) dL_log_1 (by decide +kernel) (gd_aload_n dL_log_2 rfl 0 rfl (gd_iload_n dL_log_3 rfl 1 rfl (gd_iload_n dL_log_4 rfl 2 rfl (gd_callVH (as := [(1, l1), (1, l2)]) (rk := 1) rfl yd_X6_log lm_X6_log lkL_66 li_X6_log le_X6_log li_X6 (by decide) (by decide) (Nat.le_of_ble_eq_true rfl) (fun Y hY => cn_X6_log htr hY) dL_log_5 (fun v1 h2 => gd_i2l dL_log_8 fun v3 => gd_lastore dL_log_9 fun h4 => gd_goto (tgt := 21) dL_log_10 (by decide) (gd_no)) (hX_L_log htr)))))))
theorem cn_L_log (htr : l.stackTraces = false) {l0 : Nat} {l1 : Nat} {l2 : Nat} {l3 : Nat} {h : ev_H} {X : ev_X} (hK : mt_L_log l0 l1 l2 l3 h = some X) : ev_Con l ρ τ D tys A yL_log (Cond.codeWith yL_log cL_log 5 (some .int) [(0, 10, 13, 19), (0, 10, 17, 25)]) 7 112 1 [(3, l0), (1, l1), (1, l2), (3, l3)] h X :=
  gd_conH (own := RL) (by decide +kernel) rfl htr (Nat.le_of_ble_eq_true rfl) (fun p e R s m args below meth c w0 => gm_L_log htr l0 l1 l2 l3 h) hK
theorem lw_L_known : Cond.codeWith yL_known cL_known 5 (some .int) [(0, 10, 13, 19)] ∈ ev_good := ev_in (ev_t5 _ (List.mem_of_getElem? (i := 5) rfl)) rfl
theorem hX_L_known (htr : l.stackTraces = false) {l0 : Nat} {l1 : Nat} {l2 : Nat} {l3 : Nat}  : ∀ E h', (fun E h2 => ev_if (Nat.beq E 2) (ev_ret 1 h2) <| none : Nat → ev_H → ev_O) E h' = some X → ∃ tgt, ev_Hd RL (tableOf [(0, 10, 13, 19)]) 5 E tgt ∧ ev_Gd p l e R s m args below meth c ρ τ D tys A c0 s0 5 cL_known RL 8 133 w0 (some .int) (tableOf [(0, 10, 13, 19)]) yL_known.name (ev_Q below ρ τ D tys A 1 X w0 args s c0 s0) X tgt [(0, (3, l0)), (1, (1, l1)), (2, (1, l2)), (3, (3, l3))] [(3, 2)] h' (some X) := fun E h' hz => by
    rcases ev_if_or hz with ⟨hb, hz⟩ | ⟨-, hz⟩
    · have hb := Nat.eq_of_beq_eq_true hb
      subst hb
      refine ⟨13, ⟨[], ⟨0, 10, 13, 19⟩, [], rfl, rfl, by decide, rfl, lcL_19, by decide, fun z hz => absurd hz List.not_mem_nil⟩, ?_⟩
      rw [← hz]
      exact gd_astore dL_known_13 (by decide) rfl (gd_iconst (n := 1) dL_known_15 (by decide +kernel) (gd_iret rfl dL_known_16))
    · cases hz
theorem gm_L_known (htr : l.stackTraces = false) (l0 : Nat) (l1 : Nat) (l2 : Nat) (l3 : Nat) (h : ev_H) : ev_Gd p l e R s m args below meth c ρ τ D tys A c0 s0 5 cL_known RL 8 133 w0 (some .int) (tableOf [(0, 10, 13, 19)]) yL_known.name (ev_Q below ρ τ D tys A 1 X w0 args s c0 s0) X 0 (ev_al 0 [(3, l0), (1, l1), (1, l2), (3, l3)]) [] h (mt_L_known l0 l1 l2 l3 h) := by
  unfold mt_L_known
  exact gd_eq (lv' := [(0, (3, l0)), (1, (1, l1)), (2, (1, l2)), (3, (3, l3))]) rfl (gd_aload_n dL_known_0 rfl 3 rfl (gd_iconst (n := 0) dL_known_1 (by decide +kernel) (gd_aload_n dL_known_2 rfl 0 rfl (gd_iload_n dL_known_3 rfl 1 rfl (gd_iload_n dL_known_4 rfl 2 rfl (gd_callVH (as := [(1, l1), (1, l2)]) (rk := 1) rfl yd_X6_known lm_X6_known lkL_69 li_X6_known le_X6_known li_X6 (by decide) (by decide) (Nat.le_of_ble_eq_true rfl) (fun Y hY => cn_X6_known htr hY) dL_known_5 (fun v1 h2 => gd_i2l dL_known_8 fun v3 => gd_lastore dL_known_9 fun h4 => gd_goto (tgt := 17) dL_known_10 (by decide) (gd_iconst (n := 0) dL_known_17 (by decide +kernel) (gd_iret rfl dL_known_18))) (hX_L_known htr)))))))
theorem cn_L_known (htr : l.stackTraces = false) {l0 : Nat} {l1 : Nat} {l2 : Nat} {l3 : Nat} {h : ev_H} {X : ev_X} (hK : mt_L_known l0 l1 l2 l3 h = some X) : ev_Con l ρ τ D tys A yL_known (Cond.codeWith yL_known cL_known 5 (some .int) [(0, 10, 13, 19)]) 8 133 1 [(3, l0), (1, l1), (1, l2), (3, l3)] h X :=
  gd_conH (own := RL) (by decide +kernel) rfl htr (Nat.le_of_ble_eq_true rfl) (fun p e R s m args below meth c w0 => gm_L_known htr l0 l1 l2 l3 h) hK
theorem lw_L_records : Cond.codeWith yL_records cL_records 5 (some .int) [(0, 10, 13, 19)] ∈ ev_good := ev_in (ev_t5 _ (List.mem_of_getElem? (i := 13) rfl)) rfl
theorem hX_L_records (htr : l.stackTraces = false) {l0 : Nat} {l1 : Nat} {l2 : Nat} {l3 : Nat}  : ∀ E h', (fun E h2 => ev_if (Nat.beq E 2) (ev_ret 1 h2) <| none : Nat → ev_H → ev_O) E h' = some X → ∃ tgt, ev_Hd RL (tableOf [(0, 10, 13, 19)]) 5 E tgt ∧ ev_Gd p l e R s m args below meth c ρ τ D tys A c0 s0 5 cL_records RL 8 133 w0 (some .int) (tableOf [(0, 10, 13, 19)]) yL_records.name (ev_Q below ρ τ D tys A 1 X w0 args s c0 s0) X tgt [(0, (3, l0)), (1, (1, l1)), (2, (1, l2)), (3, (3, l3))] [(3, 2)] h' (some X) := fun E h' hz => by
    rcases ev_if_or hz with ⟨hb, hz⟩ | ⟨-, hz⟩
    · have hb := Nat.eq_of_beq_eq_true hb
      subst hb
      refine ⟨13, ⟨[], ⟨0, 10, 13, 19⟩, [], rfl, rfl, by decide, rfl, lcL_19, by decide, fun z hz => absurd hz List.not_mem_nil⟩, ?_⟩
      rw [← hz]
      exact gd_astore dL_records_13 (by decide) rfl (gd_iconst (n := 1) dL_records_15 (by decide +kernel) (gd_iret rfl dL_records_16))
    · cases hz
theorem gm_L_records (htr : l.stackTraces = false) (l0 : Nat) (l1 : Nat) (l2 : Nat) (l3 : Nat) (h : ev_H) : ev_Gd p l e R s m args below meth c ρ τ D tys A c0 s0 5 cL_records RL 8 133 w0 (some .int) (tableOf [(0, 10, 13, 19)]) yL_records.name (ev_Q below ρ τ D tys A 1 X w0 args s c0 s0) X 0 (ev_al 0 [(3, l0), (1, l1), (1, l2), (3, l3)]) [] h (mt_L_records l0 l1 l2 l3 h) := by
  unfold mt_L_records
  exact gd_eq (lv' := [(0, (3, l0)), (1, (1, l1)), (2, (1, l2)), (3, (3, l3))]) rfl (gd_aload_n dL_records_0 rfl 3 rfl (gd_iconst (n := 0) dL_records_1 (by decide +kernel) (gd_aload_n dL_records_2 rfl 0 rfl (gd_iload_n dL_records_3 rfl 1 rfl (gd_iload_n dL_records_4 rfl 2 rfl (gd_callVH (as := [(1, l1), (1, l2)]) (rk := 1) rfl yd_X6_records lm_X6_records lkL_72 li_X6_records le_X6_records li_X6 (by decide) (by decide) (Nat.le_of_ble_eq_true rfl) (fun Y hY => cn_X6_records htr hY) dL_records_5 (fun v1 h2 => gd_i2l dL_records_8 fun v3 => gd_lastore dL_records_9 fun h4 => gd_goto (tgt := 17) dL_records_10 (by decide) (gd_iconst (n := 0) dL_records_17 (by decide +kernel) (gd_iret rfl dL_records_18))) (hX_L_records htr)))))))
theorem cn_L_records (htr : l.stackTraces = false) {l0 : Nat} {l1 : Nat} {l2 : Nat} {l3 : Nat} {h : ev_H} {X : ev_X} (hK : mt_L_records l0 l1 l2 l3 h = some X) : ev_Con l ρ τ D tys A yL_records (Cond.codeWith yL_records cL_records 5 (some .int) [(0, 10, 13, 19)]) 8 133 1 [(3, l0), (1, l1), (1, l2), (3, l3)] h X :=
  gd_conH (own := RL) (by decide +kernel) rfl htr (Nat.le_of_ble_eq_true rfl) (fun p e R s m args below meth c w0 => gm_L_records htr l0 l1 l2 l3 h) hK
theorem lw_L_why : Cond.codeWith yL_why cL_why 5 (some .int) [(0, 10, 13, 19), (0, 10, 17, 25)] ∈ ev_good := ev_in (ev_t5 _ (List.mem_of_getElem? (i := 24) rfl)) rfl
theorem hX_L_why (htr : l.stackTraces = false) {l0 : Nat} {l1 : Nat} {l2 : Nat} {l3 : Nat}  : ∀ E h', (fun E h2 => ev_if (Nat.beq E 2) (ev_ret 1 h2) <| ev_if (Nat.beq E 1) (ev_ret 2 h2) <| none : Nat → ev_H → ev_O) E h' = some X → ∃ tgt, ev_Hd RL (tableOf [(0, 10, 13, 19), (0, 10, 17, 25)]) 5 E tgt ∧ ev_Gd p l e R s m args below meth c ρ τ D tys A c0 s0 5 cL_why RL 8 134 w0 (some .int) (tableOf [(0, 10, 13, 19), (0, 10, 17, 25)]) yL_why.name (ev_Q below ρ τ D tys A 1 X w0 args s c0 s0) X tgt [(0, (3, l0)), (1, (1, l1)), (2, (1, l2)), (3, (3, l3))] [(3, 2)] h' (some X) := fun E h' hz => by
    rcases ev_if_or hz with ⟨hb, hz⟩ | ⟨-, hz⟩
    · have hb := Nat.eq_of_beq_eq_true hb
      subst hb
      refine ⟨13, ⟨[], ⟨0, 10, 13, 19⟩, [⟨0, 10, 17, 25⟩], rfl, rfl, by decide, rfl, lcL_19, by decide, fun z hz => absurd hz List.not_mem_nil⟩, ?_⟩
      rw [← hz]
      exact gd_astore dL_why_13 (by decide) rfl (gd_iconst (n := 1) dL_why_15 (by decide +kernel) (gd_iret rfl dL_why_16))
    · rcases ev_if_or hz with ⟨hb, hz⟩ | ⟨-, hz⟩
      · have hb := Nat.eq_of_beq_eq_true hb
        subst hb
        refine ⟨17, ⟨[⟨0, 10, 13, 19⟩], ⟨0, 10, 17, 25⟩, [], rfl, rfl, by decide, rfl, lcL_25, by decide, List.forall_mem_cons.mpr ⟨⟨by decide, 2, by decide, by decide, lcL_19⟩, fun z hz => absurd hz List.not_mem_nil⟩⟩, ?_⟩
        rw [← hz]
        exact gd_astore dL_why_17 (by decide) rfl (gd_iconst (n := 2) dL_why_19 (by decide +kernel) (gd_iret rfl dL_why_20))
      · cases hz
theorem gm_L_why (htr : l.stackTraces = false) (l0 : Nat) (l1 : Nat) (l2 : Nat) (l3 : Nat) (h : ev_H) : ev_Gd p l e R s m args below meth c ρ τ D tys A c0 s0 5 cL_why RL 8 134 w0 (some .int) (tableOf [(0, 10, 13, 19), (0, 10, 17, 25)]) yL_why.name (ev_Q below ρ τ D tys A 1 X w0 args s c0 s0) X 0 (ev_al 0 [(3, l0), (1, l1), (1, l2), (3, l3)]) [] h (mt_L_why l0 l1 l2 l3 h) := by
  unfold mt_L_why
  exact gd_eq (lv' := [(0, (3, l0)), (1, (1, l1)), (2, (1, l2)), (3, (3, l3))]) rfl (gd_aload_n dL_why_0 rfl 3 rfl (gd_iconst (n := 0) dL_why_1 (by decide +kernel) (gd_aload_n dL_why_2 rfl 0 rfl (gd_iload_n dL_why_3 rfl 1 rfl (gd_iload_n dL_why_4 rfl 2 rfl (gd_callVH (as := [(1, l1), (1, l2)]) (rk := 1) rfl yd_X6_why lm_X6_why lkL_75 li_X6_why le_X6_why li_X6 (by decide) (by decide) (Nat.le_of_ble_eq_true rfl) (fun Y hY => cn_X6_why htr hY) dL_why_5 (fun v1 h2 => gd_i2l dL_why_8 fun v3 => gd_lastore dL_why_9 fun h4 => gd_goto (tgt := 21) dL_why_10 (by decide) (gd_iconst (n := 0) dL_why_21 (by decide +kernel) (gd_iret rfl dL_why_22))) (hX_L_why htr)))))))
theorem cn_L_why (htr : l.stackTraces = false) {l0 : Nat} {l1 : Nat} {l2 : Nat} {l3 : Nat} {h : ev_H} {X : ev_X} (hK : mt_L_why l0 l1 l2 l3 h = some X) : ev_Con l ρ τ D tys A yL_why (Cond.codeWith yL_why cL_why 5 (some .int) [(0, 10, 13, 19), (0, 10, 17, 25)]) 8 134 1 [(3, l0), (1, l1), (1, l2), (3, l3)] h X :=
  gd_conH (own := RL) (by decide +kernel) rfl htr (Nat.le_of_ble_eq_true rfl) (fun p e R s m args below meth c w0 => gm_L_why htr l0 l1 l2 l3 h) hK
theorem lw_L_establishedIn : Cond.codeWith yL_establishedIn cL_establishedIn 4 (some .int) [(0, 9, 12, 19), (0, 9, 15, 30)] ∈ ev_good := ev_in (ev_t5 _ (List.mem_of_getElem? (i := 40) rfl)) rfl
theorem hX_L_establishedIn (htr : l.stackTraces = false) {l0 : Nat} {l1 : Nat} {l2 : Nat}  : ∀ E h', (fun E h2 => ev_if (Nat.beq E 2) (ev_ret 1 h2) <| none : Nat → ev_H → ev_O) E h' = some X → ∃ tgt, ev_Hd RL (tableOf [(0, 9, 12, 19), (0, 9, 15, 30)]) 4 E tgt ∧ ev_Gd p l e R s m args below meth c ρ τ D tys A c0 s0 4 cL_establishedIn RL 8 194 w0 (some .int) (tableOf [(0, 9, 12, 19), (0, 9, 15, 30)]) yL_establishedIn.name (ev_Q below ρ τ D tys A 1 X w0 args s c0 s0) X tgt [(0, (3, l0)), (1, (1, l1)), (2, (3, l2))] [(3, 2)] h' (some X) := fun E h' hz => by
    rcases ev_if_or hz with ⟨hb, hz⟩ | ⟨-, hz⟩
    · have hb := Nat.eq_of_beq_eq_true hb
      subst hb
      refine ⟨12, ⟨[], ⟨0, 9, 12, 19⟩, [⟨0, 9, 15, 30⟩], rfl, rfl, by decide, rfl, lcL_19, by decide, fun z hz => absurd hz List.not_mem_nil⟩, ?_⟩
      rw [← hz]
      exact gd_astore_n dL_establishedIn_12 rfl (by decide) rfl (gd_iconst (n := 1) dL_establishedIn_13 (by decide +kernel) (gd_iret rfl dL_establishedIn_14))
    · cases hz
theorem gm_L_establishedIn (htr : l.stackTraces = false) (l0 : Nat) (l1 : Nat) (l2 : Nat) (h : ev_H) : ev_Gd p l e R s m args below meth c ρ τ D tys A c0 s0 4 cL_establishedIn RL 8 194 w0 (some .int) (tableOf [(0, 9, 12, 19), (0, 9, 15, 30)]) yL_establishedIn.name (ev_Q below ρ τ D tys A 1 X w0 args s c0 s0) X 0 (ev_al 0 [(3, l0), (1, l1), (3, l2)]) [] h (mt_L_establishedIn l0 l1 l2 h) := by
  unfold mt_L_establishedIn
  exact gd_eq (lv' := [(0, (3, l0)), (1, (1, l1)), (2, (3, l2))]) rfl (gd_aload_n dL_establishedIn_0 rfl 2 rfl (gd_iconst (n := 0) dL_establishedIn_1 (by decide +kernel) (gd_aload_n dL_establishedIn_2 rfl 0 rfl (gd_iload_n dL_establishedIn_3 rfl 1 rfl (gd_callVH (as := [(1, l1)]) (rk := 1) rfl yd_X6_establishedIn lm_X6_establishedIn lkL_78 li_X6_establishedIn le_X6_establishedIn li_X6 (by decide) (by decide) (Nat.le_of_ble_eq_true rfl) (fun Y hY => cn_X6_establishedIn htr hY) dL_establishedIn_4 (fun v1 h2 => gd_i2l dL_establishedIn_7 fun v3 => gd_lastore dL_establishedIn_8 fun h4 => gd_goto (tgt := 18) dL_establishedIn_9 (by decide) (gd_iconst (n := 0) dL_establishedIn_18 (by decide +kernel) (gd_iret rfl dL_establishedIn_19))) (hX_L_establishedIn htr))))))
theorem cn_L_establishedIn (htr : l.stackTraces = false) {l0 : Nat} {l1 : Nat} {l2 : Nat} {h : ev_H} {X : ev_X} (hK : mt_L_establishedIn l0 l1 l2 h = some X) : ev_Con l ρ τ D tys A yL_establishedIn (Cond.codeWith yL_establishedIn cL_establishedIn 4 (some .int) [(0, 9, 12, 19), (0, 9, 15, 30)]) 8 194 1 [(3, l0), (1, l1), (3, l2)] h X :=
  gd_conH (own := RL) (by decide +kernel) rfl htr (Nat.le_of_ble_eq_true rfl) (fun p e R s m args below meth c w0 => gm_L_establishedIn htr l0 l1 l2 h) hK
theorem lw_L_numberIn : Cond.codeWith yL_numberIn cL_numberIn 5 (some .int) [(0, 10, 13, 19), (0, 10, 17, 25)] ∈ ev_good := ev_in (ev_t6 _ (List.mem_of_getElem? (i := 14) rfl)) rfl
theorem hX_L_numberIn (htr : l.stackTraces = false) {l0 : Nat} {l1 : Nat} {l2 : Nat} {l3 : Nat}  : ∀ E h', (fun E h2 => ev_if (Nat.beq E 2) (ev_ret 1 h2) <| ev_if (Nat.beq E 1) (ev_ret 2 h2) <| none : Nat → ev_H → ev_O) E h' = some X → ∃ tgt, ev_Hd RL (tableOf [(0, 10, 13, 19), (0, 10, 17, 25)]) 5 E tgt ∧ ev_Gd p l e R s m args below meth c ρ τ D tys A c0 s0 5 cL_numberIn RL 8 195 w0 (some .int) (tableOf [(0, 10, 13, 19), (0, 10, 17, 25)]) yL_numberIn.name (ev_Q below ρ τ D tys A 1 X w0 args s c0 s0) X tgt [(0, (3, l0)), (1, (1, l1)), (2, (1, l2)), (3, (3, l3))] [(3, 2)] h' (some X) := fun E h' hz => by
    rcases ev_if_or hz with ⟨hb, hz⟩ | ⟨-, hz⟩
    · have hb := Nat.eq_of_beq_eq_true hb
      subst hb
      refine ⟨13, ⟨[], ⟨0, 10, 13, 19⟩, [⟨0, 10, 17, 25⟩], rfl, rfl, by decide, rfl, lcL_19, by decide, fun z hz => absurd hz List.not_mem_nil⟩, ?_⟩
      rw [← hz]
      exact gd_astore dL_numberIn_13 (by decide) rfl (gd_iconst (n := 1) dL_numberIn_15 (by decide +kernel) (gd_iret rfl dL_numberIn_16))
    · rcases ev_if_or hz with ⟨hb, hz⟩ | ⟨-, hz⟩
      · have hb := Nat.eq_of_beq_eq_true hb
        subst hb
        refine ⟨17, ⟨[⟨0, 10, 13, 19⟩], ⟨0, 10, 17, 25⟩, [], rfl, rfl, by decide, rfl, lcL_25, by decide, List.forall_mem_cons.mpr ⟨⟨by decide, 2, by decide, by decide, lcL_19⟩, fun z hz => absurd hz List.not_mem_nil⟩⟩, ?_⟩
        rw [← hz]
        exact gd_astore dL_numberIn_17 (by decide) rfl (gd_iconst (n := 2) dL_numberIn_19 (by decide +kernel) (gd_iret rfl dL_numberIn_20))
      · cases hz
theorem gm_L_numberIn (htr : l.stackTraces = false) (l0 : Nat) (l1 : Nat) (l2 : Nat) (l3 : Nat) (h : ev_H) : ev_Gd p l e R s m args below meth c ρ τ D tys A c0 s0 5 cL_numberIn RL 8 195 w0 (some .int) (tableOf [(0, 10, 13, 19), (0, 10, 17, 25)]) yL_numberIn.name (ev_Q below ρ τ D tys A 1 X w0 args s c0 s0) X 0 (ev_al 0 [(3, l0), (1, l1), (1, l2), (3, l3)]) [] h (mt_L_numberIn l0 l1 l2 l3 h) := by
  unfold mt_L_numberIn
  exact gd_eq (lv' := [(0, (3, l0)), (1, (1, l1)), (2, (1, l2)), (3, (3, l3))]) rfl (gd_aload_n dL_numberIn_0 rfl 3 rfl (gd_iconst (n := 0) dL_numberIn_1 (by decide +kernel) (gd_aload_n dL_numberIn_2 rfl 0 rfl (gd_iload_n dL_numberIn_3 rfl 1 rfl (gd_iload_n dL_numberIn_4 rfl 2 rfl (gd_callVH (as := [(1, l1), (1, l2)]) (rk := 1) rfl yd_X6_numberIn lm_X6_numberIn lkL_81 li_X6_numberIn le_X6_numberIn li_X6 (by decide) (by decide) (Nat.le_of_ble_eq_true rfl) (fun Y hY => cn_X6_numberIn htr hY) dL_numberIn_5 (fun v1 h2 => gd_i2l dL_numberIn_8 fun v3 => gd_lastore dL_numberIn_9 fun h4 => gd_goto (tgt := 21) dL_numberIn_10 (by decide) (gd_iconst (n := 0) dL_numberIn_21 (by decide +kernel) (gd_iret rfl dL_numberIn_22))) (hX_L_numberIn htr)))))))
theorem cn_L_numberIn (htr : l.stackTraces = false) {l0 : Nat} {l1 : Nat} {l2 : Nat} {l3 : Nat} {h : ev_H} {X : ev_X} (hK : mt_L_numberIn l0 l1 l2 l3 h = some X) : ev_Con l ρ τ D tys A yL_numberIn (Cond.codeWith yL_numberIn cL_numberIn 5 (some .int) [(0, 10, 13, 19), (0, 10, 17, 25)]) 8 195 1 [(3, l0), (1, l1), (1, l2), (3, l3)] h X :=
  gd_conH (own := RL) (by decide +kernel) rfl htr (Nat.le_of_ble_eq_true rfl) (fun p e R s m args below meth c w0 => gm_L_numberIn htr l0 l1 l2 l3 h) hK
theorem lw_L_knownIn : Cond.codeWith yL_knownIn cL_knownIn 5 (some .int) [(0, 10, 13, 19), (0, 10, 17, 30)] ∈ ev_good := ev_in (ev_t6 _ (List.mem_of_getElem? (i := 25) rfl)) rfl
theorem hX_L_knownIn (htr : l.stackTraces = false) {l0 : Nat} {l1 : Nat} {l2 : Nat} {l3 : Nat}  : ∀ E h', (fun E h2 => ev_if (Nat.beq E 2) (ev_ret 1 h2) <| ev_if (Nat.beq E 3) (ev_ret 2 h2) <| none : Nat → ev_H → ev_O) E h' = some X → ∃ tgt, ev_Hd RL (tableOf [(0, 10, 13, 19), (0, 10, 17, 30)]) 5 E tgt ∧ ev_Gd p l e R s m args below meth c ρ τ D tys A c0 s0 5 cL_knownIn RL 8 195 w0 (some .int) (tableOf [(0, 10, 13, 19), (0, 10, 17, 30)]) yL_knownIn.name (ev_Q below ρ τ D tys A 1 X w0 args s c0 s0) X tgt [(0, (3, l0)), (1, (1, l1)), (2, (1, l2)), (3, (3, l3))] [(3, 2)] h' (some X) := fun E h' hz => by
    rcases ev_if_or hz with ⟨hb, hz⟩ | ⟨-, hz⟩
    · have hb := Nat.eq_of_beq_eq_true hb
      subst hb
      refine ⟨13, ⟨[], ⟨0, 10, 13, 19⟩, [⟨0, 10, 17, 30⟩], rfl, rfl, by decide, rfl, lcL_19, by decide, fun z hz => absurd hz List.not_mem_nil⟩, ?_⟩
      rw [← hz]
      exact gd_astore dL_knownIn_13 (by decide) rfl (gd_iconst (n := 1) dL_knownIn_15 (by decide +kernel) (gd_iret rfl dL_knownIn_16))
    · rcases ev_if_or hz with ⟨hb, hz⟩ | ⟨-, hz⟩
      · have hb := Nat.eq_of_beq_eq_true hb
        subst hb
        refine ⟨17, ⟨[⟨0, 10, 13, 19⟩], ⟨0, 10, 17, 30⟩, [], rfl, rfl, by decide, rfl, lcL_30, by decide, List.forall_mem_cons.mpr ⟨⟨by decide, 2, by decide, by decide, lcL_19⟩, fun z hz => absurd hz List.not_mem_nil⟩⟩, ?_⟩
        rw [← hz]
        exact gd_astore dL_knownIn_17 (by decide) rfl (gd_iconst (n := 2) dL_knownIn_19 (by decide +kernel) (gd_iret rfl dL_knownIn_20))
      · cases hz
theorem gm_L_knownIn (htr : l.stackTraces = false) (l0 : Nat) (l1 : Nat) (l2 : Nat) (l3 : Nat) (h : ev_H) : ev_Gd p l e R s m args below meth c ρ τ D tys A c0 s0 5 cL_knownIn RL 8 195 w0 (some .int) (tableOf [(0, 10, 13, 19), (0, 10, 17, 30)]) yL_knownIn.name (ev_Q below ρ τ D tys A 1 X w0 args s c0 s0) X 0 (ev_al 0 [(3, l0), (1, l1), (1, l2), (3, l3)]) [] h (mt_L_knownIn l0 l1 l2 l3 h) := by
  unfold mt_L_knownIn
  exact gd_eq (lv' := [(0, (3, l0)), (1, (1, l1)), (2, (1, l2)), (3, (3, l3))]) rfl (gd_aload_n dL_knownIn_0 rfl 3 rfl (gd_iconst (n := 0) dL_knownIn_1 (by decide +kernel) (gd_aload_n dL_knownIn_2 rfl 0 rfl (gd_iload_n dL_knownIn_3 rfl 1 rfl (gd_iload_n dL_knownIn_4 rfl 2 rfl (gd_callVH (as := [(1, l1), (1, l2)]) (rk := 1) rfl yd_X6_knownIn lm_X6_knownIn lkL_84 li_X6_knownIn le_X6_knownIn li_X6 (by decide) (by decide) (Nat.le_of_ble_eq_true rfl) (fun Y hY => cn_X6_knownIn htr hY) dL_knownIn_5 (fun v1 h2 => gd_i2l dL_knownIn_8 fun v3 => gd_lastore dL_knownIn_9 fun h4 => gd_goto (tgt := 21) dL_knownIn_10 (by decide) (gd_iconst (n := 0) dL_knownIn_21 (by decide +kernel) (gd_iret rfl dL_knownIn_22))) (hX_L_knownIn htr)))))))
theorem cn_L_knownIn (htr : l.stackTraces = false) {l0 : Nat} {l1 : Nat} {l2 : Nat} {l3 : Nat} {h : ev_H} {X : ev_X} (hK : mt_L_knownIn l0 l1 l2 l3 h = some X) : ev_Con l ρ τ D tys A yL_knownIn (Cond.codeWith yL_knownIn cL_knownIn 5 (some .int) [(0, 10, 13, 19), (0, 10, 17, 30)]) 8 195 1 [(3, l0), (1, l1), (1, l2), (3, l3)] h X :=
  gd_conH (own := RL) (by decide +kernel) rfl htr (Nat.le_of_ble_eq_true rfl) (fun p e R s m args below meth c w0 => gm_L_knownIn htr l0 l1 l2 l3 h) hK
theorem lw_L_messagesIn : Cond.codeWith yL_messagesIn cL_messagesIn 4 (some .int) [(0, 9, 12, 25)] ∈ ev_good := ev_in (ev_t6 _ (List.mem_of_getElem? (i := 33) rfl)) rfl
theorem hX_L_messagesIn (htr : l.stackTraces = false) {l0 : Nat} {l1 : Nat} {l2 : Nat}  : ∀ E h', (fun E h2 => ev_if (Nat.beq E 1) (ev_ret 1 h2) <| none : Nat → ev_H → ev_O) E h' = some X → ∃ tgt, ev_Hd RL (tableOf [(0, 9, 12, 25)]) 4 E tgt ∧ ev_Gd p l e R s m args below meth c ρ τ D tys A c0 s0 4 cL_messagesIn RL 8 194 w0 (some .int) (tableOf [(0, 9, 12, 25)]) yL_messagesIn.name (ev_Q below ρ τ D tys A 1 X w0 args s c0 s0) X tgt [(0, (3, l0)), (1, (1, l1)), (2, (3, l2))] [(3, 2)] h' (some X) := fun E h' hz => by
    rcases ev_if_or hz with ⟨hb, hz⟩ | ⟨-, hz⟩
    · have hb := Nat.eq_of_beq_eq_true hb
      subst hb
      refine ⟨12, ⟨[], ⟨0, 9, 12, 25⟩, [], rfl, rfl, by decide, rfl, lcL_25, by decide, fun z hz => absurd hz List.not_mem_nil⟩, ?_⟩
      rw [← hz]
      exact gd_astore_n dL_messagesIn_12 rfl (by decide) rfl (gd_iconst (n := 1) dL_messagesIn_13 (by decide +kernel) (gd_iret rfl dL_messagesIn_14))
    · cases hz
theorem gm_L_messagesIn (htr : l.stackTraces = false) (l0 : Nat) (l1 : Nat) (l2 : Nat) (h : ev_H) : ev_Gd p l e R s m args below meth c ρ τ D tys A c0 s0 4 cL_messagesIn RL 8 194 w0 (some .int) (tableOf [(0, 9, 12, 25)]) yL_messagesIn.name (ev_Q below ρ τ D tys A 1 X w0 args s c0 s0) X 0 (ev_al 0 [(3, l0), (1, l1), (3, l2)]) [] h (mt_L_messagesIn l0 l1 l2 h) := by
  unfold mt_L_messagesIn
  exact gd_eq (lv' := [(0, (3, l0)), (1, (1, l1)), (2, (3, l2))]) rfl (gd_aload_n dL_messagesIn_0 rfl 2 rfl (gd_iconst (n := 0) dL_messagesIn_1 (by decide +kernel) (gd_aload_n dL_messagesIn_2 rfl 0 rfl (gd_iload_n dL_messagesIn_3 rfl 1 rfl (gd_callVH (as := [(1, l1)]) (rk := 1) rfl yd_X6_messagesIn lm_X6_messagesIn lkL_87 li_X6_messagesIn le_X6_messagesIn li_X6 (by decide) (by decide) (Nat.le_of_ble_eq_true rfl) (fun Y hY => cn_X6_messagesIn htr hY) dL_messagesIn_4 (fun v1 h2 => gd_i2l dL_messagesIn_7 fun v3 => gd_lastore dL_messagesIn_8 fun h4 => gd_goto (tgt := 15) dL_messagesIn_9 (by decide) (gd_iconst (n := 0) dL_messagesIn_15 (by decide +kernel) (gd_iret rfl dL_messagesIn_16))) (hX_L_messagesIn htr))))))
theorem cn_L_messagesIn (htr : l.stackTraces = false) {l0 : Nat} {l1 : Nat} {l2 : Nat} {h : ev_H} {X : ev_X} (hK : mt_L_messagesIn l0 l1 l2 h = some X) : ev_Con l ρ τ D tys A yL_messagesIn (Cond.codeWith yL_messagesIn cL_messagesIn 4 (some .int) [(0, 9, 12, 25)]) 8 194 1 [(3, l0), (1, l1), (3, l2)] h X :=
  gd_conH (own := RL) (by decide +kernel) rfl htr (Nat.le_of_ble_eq_true rfl) (fun p e R s m args below meth c w0 => gm_L_messagesIn htr l0 l1 l2 h) hK
theorem lw_L_freshIn : Cond.codeWith yL_freshIn cL_freshIn 3 (some .int) [(0, 8, 11, 30)] ∈ ev_good := ev_in (ev_t6 _ (List.mem_of_getElem? (i := 40) rfl)) rfl
theorem hX_L_freshIn (htr : l.stackTraces = false) {l0 : Nat} {l1 : Nat}  : ∀ E h', (fun _ _ => none : Nat → ev_H → ev_O) E h' = some X → ∃ tgt, ev_Hd RL (tableOf [(0, 8, 11, 30)]) 3 E tgt ∧ ev_Gd p l e R s m args below meth c ρ τ D tys A c0 s0 3 cL_freshIn RL 6 158 w0 (some .int) (tableOf [(0, 8, 11, 30)]) yL_freshIn.name (ev_Q below ρ τ D tys A 1 X w0 args s c0 s0) X tgt [(0, (3, l0)), (1, (3, l1))] [(3, 2)] h' (some X) := fun E h' hz => by
    cases hz
theorem gm_L_freshIn (htr : l.stackTraces = false) (l0 : Nat) (l1 : Nat) (h : ev_H) : ev_Gd p l e R s m args below meth c ρ τ D tys A c0 s0 3 cL_freshIn RL 6 158 w0 (some .int) (tableOf [(0, 8, 11, 30)]) yL_freshIn.name (ev_Q below ρ τ D tys A 1 X w0 args s c0 s0) X 0 (ev_al 0 [(3, l0), (3, l1)]) [] h (mt_L_freshIn l0 l1 h) := by
  unfold mt_L_freshIn
  exact gd_eq (lv' := [(0, (3, l0)), (1, (3, l1))]) rfl (gd_aload_n dL_freshIn_0 rfl 1 rfl (gd_iconst (n := 0) dL_freshIn_1 (by decide +kernel) (gd_aload_n dL_freshIn_2 rfl 0 rfl (gd_callVH (as := []) (rk := 1) rfl yd_X6_freshIn lm_X6_freshIn lkL_90 li_X6_freshIn le_X6_freshIn li_X6 (by decide) (by decide) (Nat.le_of_ble_eq_true rfl) (fun Y hY => cn_X6_freshIn htr hY) dL_freshIn_3 (fun v1 h2 => gd_i2l dL_freshIn_6 fun v3 => gd_lastore dL_freshIn_7 fun h4 => gd_goto (tgt := 14) dL_freshIn_8 (by decide) (gd_iconst (n := 0) dL_freshIn_14 (by decide +kernel) (gd_iret rfl dL_freshIn_15))) (hX_L_freshIn htr)))))
theorem cn_L_freshIn (htr : l.stackTraces = false) {l0 : Nat} {l1 : Nat} {h : ev_H} {X : ev_X} (hK : mt_L_freshIn l0 l1 h = some X) : ev_Con l ρ τ D tys A yL_freshIn (Cond.codeWith yL_freshIn cL_freshIn 3 (some .int) [(0, 8, 11, 30)]) 6 158 1 [(3, l0), (3, l1)] h X :=
  gd_conH (own := RL) (by decide +kernel) rfl htr (Nat.le_of_ble_eq_true rfl) (fun p e R s m args below meth c w0 => gm_L_freshIn htr l0 l1 h) hK
theorem lw_L_numberIf : Cond.codeWith yL_numberIf cL_numberIf 7 (some .int) [(0, 14, 17, 19), (0, 14, 21, 25), (0, 14, 25, 13), (0, 14, 29, 30)] ∈ ev_good := ev_in (ev_t6 _ (List.mem_of_getElem? (i := 48) rfl)) rfl
theorem hX_L_numberIf (htr : l.stackTraces = false) {l0 : Nat} {l1 : Nat} {l2 : Nat} {l3 : Nat} {l4 : Nat} {l5 : Nat}  : ∀ E h', (fun E h2 => ev_if (Nat.beq E 2) (ev_ret 1 h2) <| ev_if (Nat.beq E 1) (ev_ret 2 h2) <| ev_if (Nat.beq E 0) (ev_ret 3 h2) <| none : Nat → ev_H → ev_O) E h' = some X → ∃ tgt, ev_Hd RL (tableOf [(0, 14, 17, 19), (0, 14, 21, 25), (0, 14, 25, 13), (0, 14, 29, 30)]) 9 E tgt ∧ ev_Gd p l e R s m args below meth c ρ τ D tys A c0 s0 7 cL_numberIf RL 8 138 w0 (some .int) (tableOf [(0, 14, 17, 19), (0, 14, 21, 25), (0, 14, 25, 13), (0, 14, 29, 30)]) yL_numberIf.name (ev_Q below ρ τ D tys A 1 X w0 args s c0 s0) X tgt [(0, (3, l0)), (1, (1, l1)), (2, (1, l2)), (3, (1, l3)), (4, (1, l4)), (5, (3, l5))] [(3, 2)] h' (some X) := fun E h' hz => by
    rcases ev_if_or hz with ⟨hb, hz⟩ | ⟨-, hz⟩
    · have hb := Nat.eq_of_beq_eq_true hb
      subst hb
      refine ⟨17, ⟨[], ⟨0, 14, 17, 19⟩, [⟨0, 14, 21, 25⟩, ⟨0, 14, 25, 13⟩, ⟨0, 14, 29, 30⟩], rfl, rfl, by decide, rfl, lcL_19, by decide, fun z hz => absurd hz List.not_mem_nil⟩, ?_⟩
      rw [← hz]
      exact gd_astore dL_numberIf_17 (by decide) rfl (gd_iconst (n := 1) dL_numberIf_19 (by decide +kernel) (gd_iret rfl dL_numberIf_20))
    · rcases ev_if_or hz with ⟨hb, hz⟩ | ⟨-, hz⟩
      · have hb := Nat.eq_of_beq_eq_true hb
        subst hb
        refine ⟨21, ⟨[⟨0, 14, 17, 19⟩], ⟨0, 14, 21, 25⟩, [⟨0, 14, 25, 13⟩, ⟨0, 14, 29, 30⟩], rfl, rfl, by decide, rfl, lcL_25, by decide, List.forall_mem_cons.mpr ⟨⟨by decide, 2, by decide, by decide, lcL_19⟩, fun z hz => absurd hz List.not_mem_nil⟩⟩, ?_⟩
        rw [← hz]
        exact gd_astore dL_numberIf_21 (by decide) rfl (gd_iconst (n := 2) dL_numberIf_23 (by decide +kernel) (gd_iret rfl dL_numberIf_24))
      · rcases ev_if_or hz with ⟨hb, hz⟩ | ⟨-, hz⟩
        · have hb := Nat.eq_of_beq_eq_true hb
          subst hb
          refine ⟨25, ⟨[⟨0, 14, 17, 19⟩, ⟨0, 14, 21, 25⟩], ⟨0, 14, 25, 13⟩, [⟨0, 14, 29, 30⟩], rfl, rfl, by decide, rfl, lcL_13, by decide, List.forall_mem_cons.mpr ⟨⟨by decide, 2, by decide, by decide, lcL_19⟩, List.forall_mem_cons.mpr ⟨⟨by decide, 1, by decide, by decide, lcL_25⟩, fun z hz => absurd hz List.not_mem_nil⟩⟩⟩, ?_⟩
          rw [← hz]
          exact gd_astore dL_numberIf_25 (by decide) rfl (gd_iconst (n := 3) dL_numberIf_27 (by decide +kernel) (gd_iret rfl dL_numberIf_28))
        · cases hz
theorem gm_L_numberIf (htr : l.stackTraces = false) (l0 : Nat) (l1 : Nat) (l2 : Nat) (l3 : Nat) (l4 : Nat) (l5 : Nat) (h : ev_H) : ev_Gd p l e R s m args below meth c ρ τ D tys A c0 s0 7 cL_numberIf RL 8 138 w0 (some .int) (tableOf [(0, 14, 17, 19), (0, 14, 21, 25), (0, 14, 25, 13), (0, 14, 29, 30)]) yL_numberIf.name (ev_Q below ρ τ D tys A 1 X w0 args s c0 s0) X 0 (ev_al 0 [(3, l0), (1, l1), (1, l2), (1, l3), (1, l4), (3, l5)]) [] h (mt_L_numberIf l0 l1 l2 l3 l4 l5 h) := by
  unfold mt_L_numberIf
  exact gd_eq (lv' := [(0, (3, l0)), (1, (1, l1)), (2, (1, l2)), (3, (1, l3)), (4, (1, l4)), (5, (3, l5))]) rfl (gd_aload dL_numberIf_0 5 rfl (gd_iconst (n := 0) dL_numberIf_2 (by decide +kernel) (gd_aload_n dL_numberIf_3 rfl 0 rfl (gd_iload_n dL_numberIf_4 rfl 1 rfl (gd_iload_n dL_numberIf_5 rfl 2 rfl (gd_iload_n dL_numberIf_6 rfl 3 rfl (gd_iload dL_numberIf_7 4 rfl (gd_callVH (as := [(1, l1), (1, l2), (1, l3), (1, l4)]) (rk := 1) rfl yd_X6_numberIf lm_X6_numberIf lkL_93 li_X6_numberIf le_X6_numberIf li_X6 (by decide) (by decide) (Nat.le_of_ble_eq_true rfl) (fun Y hY => cn_X6_numberIf htr hY) dL_numberIf_9 (fun v1 h2 => gd_i2l dL_numberIf_12 fun v3 => gd_lastore dL_numberIf_13 fun h4 => gd_goto (tgt := 33) dL_numberIf_14 (by decide) (gd_no)) (hX_L_numberIf htr)))))))))
theorem cn_L_numberIf (htr : l.stackTraces = false) {l0 : Nat} {l1 : Nat} {l2 : Nat} {l3 : Nat} {l4 : Nat} {l5 : Nat} {h : ev_H} {X : ev_X} (hK : mt_L_numberIf l0 l1 l2 l3 l4 l5 h = some X) : ev_Con l ρ τ D tys A yL_numberIf (Cond.codeWith yL_numberIf cL_numberIf 7 (some .int) [(0, 14, 17, 19), (0, 14, 21, 25), (0, 14, 25, 13), (0, 14, 29, 30)]) 8 138 1 [(3, l0), (1, l1), (1, l2), (1, l3), (1, l4), (3, l5)] h X :=
  gd_conH (own := RL) (by decide +kernel) rfl htr (Nat.le_of_ble_eq_true rfl) (fun p e R s m args below meth c w0 => gm_L_numberIf htr l0 l1 l2 l3 l4 l5 h) hK
theorem lw_L_outputByte : Cond.codeWith yL_outputByte cL_outputByte 4 (some .int) [(0, 9, 12, 19)] ∈ ev_good := ev_in (ev_t6 _ (List.mem_of_getElem? (i := 63) rfl)) rfl
theorem hX_L_outputByte (htr : l.stackTraces = false) {l0 : Nat} {l1 : Nat} {l2 : Nat}  : ∀ E h', (fun E h2 => ev_if (Nat.beq E 2) (ev_ret 1 h2) <| none : Nat → ev_H → ev_O) E h' = some X → ∃ tgt, ev_Hd RL (tableOf [(0, 9, 12, 19)]) 4 E tgt ∧ ev_Gd p l e R s m args below meth c ρ τ D tys A c0 s0 4 cL_outputByte RL 7 111 w0 (some .int) (tableOf [(0, 9, 12, 19)]) yL_outputByte.name (ev_Q below ρ τ D tys A 1 X w0 args s c0 s0) X tgt [(0, (3, l0)), (1, (1, l1)), (2, (3, l2))] [(3, 2)] h' (some X) := fun E h' hz => by
    rcases ev_if_or hz with ⟨hb, hz⟩ | ⟨-, hz⟩
    · have hb := Nat.eq_of_beq_eq_true hb
      subst hb
      refine ⟨12, ⟨[], ⟨0, 9, 12, 19⟩, [], rfl, rfl, by decide, rfl, lcL_19, by decide, fun z hz => absurd hz List.not_mem_nil⟩, ?_⟩
      rw [← hz]
      exact gd_astore_n dL_outputByte_12 rfl (by decide) rfl (gd_iconst (n := 1) dL_outputByte_13 (by decide +kernel) (gd_iret rfl dL_outputByte_14))
    · cases hz
theorem gm_L_outputByte (htr : l.stackTraces = false) (l0 : Nat) (l1 : Nat) (l2 : Nat) (h : ev_H) : ev_Gd p l e R s m args below meth c ρ τ D tys A c0 s0 4 cL_outputByte RL 7 111 w0 (some .int) (tableOf [(0, 9, 12, 19)]) yL_outputByte.name (ev_Q below ρ τ D tys A 1 X w0 args s c0 s0) X 0 (ev_al 0 [(3, l0), (1, l1), (3, l2)]) [] h (mt_L_outputByte l0 l1 l2 h) := by
  unfold mt_L_outputByte
  exact gd_eq (lv' := [(0, (3, l0)), (1, (1, l1)), (2, (3, l2))]) rfl (gd_aload_n dL_outputByte_0 rfl 2 rfl (gd_iconst (n := 0) dL_outputByte_1 (by decide +kernel) (gd_aload_n dL_outputByte_2 rfl 0 rfl (gd_iload_n dL_outputByte_3 rfl 1 rfl (gd_callVH (as := [(1, l1)]) (rk := 1) rfl yd_X6_outputByte lm_X6_outputByte lkL_97 li_X6_outputByte le_X6_outputByte li_X6 (by decide) (by decide) (Nat.le_of_ble_eq_true rfl) (fun Y hY => cn_X6_outputByte htr hY) dL_outputByte_4 (fun v1 h2 => gd_i2l dL_outputByte_7 fun v3 => gd_lastore dL_outputByte_8 fun h4 => gd_goto (tgt := 15) dL_outputByte_9 (by decide) (gd_no)) (hX_L_outputByte htr))))))
theorem cn_L_outputByte (htr : l.stackTraces = false) {l0 : Nat} {l1 : Nat} {l2 : Nat} {h : ev_H} {X : ev_X} (hK : mt_L_outputByte l0 l1 l2 h = some X) : ev_Con l ρ τ D tys A yL_outputByte (Cond.codeWith yL_outputByte cL_outputByte 4 (some .int) [(0, 9, 12, 19)]) 7 111 1 [(3, l0), (1, l1), (3, l2)] h X :=
  gd_conH (own := RL) (by decide +kernel) rfl htr (Nat.le_of_ble_eq_true rfl) (fun p e R s m args below meth c w0 => gm_L_outputByte htr l0 l1 l2 h) hK
theorem lw_L_pass : Cond.codeWith yL_pass cL_pass 4 (some .int) [(0, 9, 12, 25), (0, 9, 15, 13)] ∈ ev_good := ev_in (ev_t6 _ (List.mem_of_getElem? (i := 72) rfl)) rfl
theorem hX_L_pass (htr : l.stackTraces = false) {l0 : Nat} {l1 : Nat} {l2 : Nat}  : ∀ E h', (fun E h2 => ev_if (Nat.beq E 1) (ev_ret 1 h2) <| none : Nat → ev_H → ev_O) E h' = some X → ∃ tgt, ev_Hd RL (tableOf [(0, 9, 12, 25), (0, 9, 15, 13)]) 4 E tgt ∧ ev_Gd p l e R s m args below meth c ρ τ D tys A c0 s0 4 cL_pass RL 8 196 w0 (some .int) (tableOf [(0, 9, 12, 25), (0, 9, 15, 13)]) yL_pass.name (ev_Q below ρ τ D tys A 1 X w0 args s c0 s0) X tgt [(0, (3, l0)), (1, (1, l1)), (2, (3, l2))] [(3, 2)] h' (some X) := fun E h' hz => by
    rcases ev_if_or hz with ⟨hb, hz⟩ | ⟨-, hz⟩
    · have hb := Nat.eq_of_beq_eq_true hb
      subst hb
      refine ⟨12, ⟨[], ⟨0, 9, 12, 25⟩, [⟨0, 9, 15, 13⟩], rfl, rfl, by decide, rfl, lcL_25, by decide, fun z hz => absurd hz List.not_mem_nil⟩, ?_⟩
      rw [← hz]
      exact gd_astore_n dL_pass_12 rfl (by decide) rfl (gd_iconst (n := 1) dL_pass_13 (by decide +kernel) (gd_iret rfl dL_pass_14))
    · cases hz
theorem gm_L_pass (htr : l.stackTraces = false) (l0 : Nat) (l1 : Nat) (l2 : Nat) (h : ev_H) : ev_Gd p l e R s m args below meth c ρ τ D tys A c0 s0 4 cL_pass RL 8 196 w0 (some .int) (tableOf [(0, 9, 12, 25), (0, 9, 15, 13)]) yL_pass.name (ev_Q below ρ τ D tys A 1 X w0 args s c0 s0) X 0 (ev_al 0 [(3, l0), (1, l1), (3, l2)]) [] h (mt_L_pass l0 l1 l2 h) := by
  unfold mt_L_pass
  exact gd_eq (lv' := [(0, (3, l0)), (1, (1, l1)), (2, (3, l2))]) rfl (gd_aload_n dL_pass_0 rfl 2 rfl (gd_iconst (n := 0) dL_pass_1 (by decide +kernel) (gd_aload_n dL_pass_2 rfl 0 rfl (gd_iload_n dL_pass_3 rfl 1 rfl (gd_callVH (as := [(1, l1)]) (rk := 1) rfl yd_X6_pass lm_X6_pass lkL_100 li_X6_pass le_X6_pass li_X6 (by decide) (by decide) (Nat.le_of_ble_eq_true rfl) (fun Y hY => cn_X6_pass htr hY) dL_pass_4 (fun v1 h2 => gd_i2l dL_pass_7 fun v3 => gd_lastore dL_pass_8 fun h4 => gd_goto (tgt := 18) dL_pass_9 (by decide) (gd_iconst (n := 0) dL_pass_18 (by decide +kernel) (gd_iret rfl dL_pass_19))) (hX_L_pass htr))))))
theorem cn_L_pass (htr : l.stackTraces = false) {l0 : Nat} {l1 : Nat} {l2 : Nat} {h : ev_H} {X : ev_X} (hK : mt_L_pass l0 l1 l2 h = some X) : ev_Con l ρ τ D tys A yL_pass (Cond.codeWith yL_pass cL_pass 4 (some .int) [(0, 9, 12, 25), (0, 9, 15, 13)]) 8 196 1 [(3, l0), (1, l1), (3, l2)] h X :=
  gd_conH (own := RL) (by decide +kernel) rfl htr (Nat.le_of_ble_eq_true rfl) (fun p e R s m args below meth c w0 => gm_L_pass htr l0 l1 l2 h) hK
theorem lw_L_add : Cond.codeWith yL_add cL_add 7 (some .int) [(0, 14, 17, 19), (0, 14, 21, 25), (0, 14, 25, 13)] ∈ ev_good := ev_in (ev_t6 _ (List.mem_of_getElem? (i := 86) rfl)) rfl
theorem hX_L_add (htr : l.stackTraces = false) {l0 : Nat} {l1 : Nat} {l2 : Nat} {l3 : Nat} {l4 : Nat} {l5 : Nat}  : ∀ E h', (fun E h2 => ev_if (Nat.beq E 2) (ev_ret 1 h2) <| ev_if (Nat.beq E 1) (ev_ret 2 h2) <| none : Nat → ev_H → ev_O) E h' = some X → ∃ tgt, ev_Hd RL (tableOf [(0, 14, 17, 19), (0, 14, 21, 25), (0, 14, 25, 13)]) 9 E tgt ∧ ev_Gd p l e R s m args below meth c ρ τ D tys A c0 s0 7 cL_add RL 8 136 w0 (some .int) (tableOf [(0, 14, 17, 19), (0, 14, 21, 25), (0, 14, 25, 13)]) yL_add.name (ev_Q below ρ τ D tys A 1 X w0 args s c0 s0) X tgt [(0, (3, l0)), (1, (1, l1)), (2, (1, l2)), (3, (1, l3)), (4, (1, l4)), (5, (3, l5))] [(3, 2)] h' (some X) := fun E h' hz => by
    rcases ev_if_or hz with ⟨hb, hz⟩ | ⟨-, hz⟩
    · have hb := Nat.eq_of_beq_eq_true hb
      subst hb
      refine ⟨17, ⟨[], ⟨0, 14, 17, 19⟩, [⟨0, 14, 21, 25⟩, ⟨0, 14, 25, 13⟩], rfl, rfl, by decide, rfl, lcL_19, by decide, fun z hz => absurd hz List.not_mem_nil⟩, ?_⟩
      rw [← hz]
      exact gd_astore dL_add_17 (by decide) rfl (gd_iconst (n := 1) dL_add_19 (by decide +kernel) (gd_iret rfl dL_add_20))
    · rcases ev_if_or hz with ⟨hb, hz⟩ | ⟨-, hz⟩
      · have hb := Nat.eq_of_beq_eq_true hb
        subst hb
        refine ⟨21, ⟨[⟨0, 14, 17, 19⟩], ⟨0, 14, 21, 25⟩, [⟨0, 14, 25, 13⟩], rfl, rfl, by decide, rfl, lcL_25, by decide, List.forall_mem_cons.mpr ⟨⟨by decide, 2, by decide, by decide, lcL_19⟩, fun z hz => absurd hz List.not_mem_nil⟩⟩, ?_⟩
        rw [← hz]
        exact gd_astore dL_add_21 (by decide) rfl (gd_iconst (n := 2) dL_add_23 (by decide +kernel) (gd_iret rfl dL_add_24))
      · cases hz
theorem gm_L_add (htr : l.stackTraces = false) (l0 : Nat) (l1 : Nat) (l2 : Nat) (l3 : Nat) (l4 : Nat) (l5 : Nat) (h : ev_H) : ev_Gd p l e R s m args below meth c ρ τ D tys A c0 s0 7 cL_add RL 8 136 w0 (some .int) (tableOf [(0, 14, 17, 19), (0, 14, 21, 25), (0, 14, 25, 13)]) yL_add.name (ev_Q below ρ τ D tys A 1 X w0 args s c0 s0) X 0 (ev_al 0 [(3, l0), (1, l1), (1, l2), (1, l3), (1, l4), (3, l5)]) [] h (mt_L_add l0 l1 l2 l3 l4 l5 h) := by
  unfold mt_L_add
  exact gd_eq (lv' := [(0, (3, l0)), (1, (1, l1)), (2, (1, l2)), (3, (1, l3)), (4, (1, l4)), (5, (3, l5))]) rfl (gd_aload dL_add_0 5 rfl (gd_iconst (n := 0) dL_add_2 (by decide +kernel) (gd_aload_n dL_add_3 rfl 0 rfl (gd_iload_n dL_add_4 rfl 1 rfl (gd_iload_n dL_add_5 rfl 2 rfl (gd_iload_n dL_add_6 rfl 3 rfl (gd_iload dL_add_7 4 rfl (gd_callVH (as := [(1, l1), (1, l2), (1, l3), (1, l4)]) (rk := 1) rfl yd_X6_add lm_X6_add lkL_103 li_X6_add le_X6_add li_X6 (by decide) (by decide) (Nat.le_of_ble_eq_true rfl) (fun Y hY => cn_X6_add htr hY) dL_add_9 (fun v1 h2 => gd_i2l dL_add_12 fun v3 => gd_lastore dL_add_13 fun h4 => gd_goto (tgt := 29) dL_add_14 (by decide) (gd_no)) (hX_L_add htr)))))))))
theorem cn_L_add (htr : l.stackTraces = false) {l0 : Nat} {l1 : Nat} {l2 : Nat} {l3 : Nat} {l4 : Nat} {l5 : Nat} {h : ev_H} {X : ev_X} (hK : mt_L_add l0 l1 l2 l3 l4 l5 h = some X) : ev_Con l ρ τ D tys A yL_add (Cond.codeWith yL_add cL_add 7 (some .int) [(0, 14, 17, 19), (0, 14, 21, 25), (0, 14, 25, 13)]) 8 136 1 [(3, l0), (1, l1), (1, l2), (1, l3), (1, l4), (3, l5)] h X :=
  gd_conH (own := RL) (by decide +kernel) rfl htr (Nat.le_of_ble_eq_true rfl) (fun p e R s m args below meth c w0 => gm_L_add htr l0 l1 l2 l3 l4 l5 h) hK
theorem lw_L_withdraw : Cond.codeWith yL_withdraw cL_withdraw 4 (some .int) [(0, 9, 12, 19), (0, 9, 15, 13)] ∈ ev_good := ev_in (ev_t6 _ (List.mem_of_getElem? (i := 95) rfl)) rfl
theorem hX_L_withdraw (htr : l.stackTraces = false) {l0 : Nat} {l1 : Nat} {l2 : Nat}  : ∀ E h', (fun E h2 => ev_if (Nat.beq E 2) (ev_ret 1 h2) <| none : Nat → ev_H → ev_O) E h' = some X → ∃ tgt, ev_Hd RL (tableOf [(0, 9, 12, 19), (0, 9, 15, 13)]) 4 E tgt ∧ ev_Gd p l e R s m args below meth c ρ τ D tys A c0 s0 4 cL_withdraw RL 8 180 w0 (some .int) (tableOf [(0, 9, 12, 19), (0, 9, 15, 13)]) yL_withdraw.name (ev_Q below ρ τ D tys A 1 X w0 args s c0 s0) X tgt [(0, (3, l0)), (1, (1, l1)), (2, (3, l2))] [(3, 2)] h' (some X) := fun E h' hz => by
    rcases ev_if_or hz with ⟨hb, hz⟩ | ⟨-, hz⟩
    · have hb := Nat.eq_of_beq_eq_true hb
      subst hb
      refine ⟨12, ⟨[], ⟨0, 9, 12, 19⟩, [⟨0, 9, 15, 13⟩], rfl, rfl, by decide, rfl, lcL_19, by decide, fun z hz => absurd hz List.not_mem_nil⟩, ?_⟩
      rw [← hz]
      exact gd_astore_n dL_withdraw_12 rfl (by decide) rfl (gd_iconst (n := 1) dL_withdraw_13 (by decide +kernel) (gd_iret rfl dL_withdraw_14))
    · cases hz
theorem gm_L_withdraw (htr : l.stackTraces = false) (l0 : Nat) (l1 : Nat) (l2 : Nat) (h : ev_H) : ev_Gd p l e R s m args below meth c ρ τ D tys A c0 s0 4 cL_withdraw RL 8 180 w0 (some .int) (tableOf [(0, 9, 12, 19), (0, 9, 15, 13)]) yL_withdraw.name (ev_Q below ρ τ D tys A 1 X w0 args s c0 s0) X 0 (ev_al 0 [(3, l0), (1, l1), (3, l2)]) [] h (mt_L_withdraw l0 l1 l2 h) := by
  unfold mt_L_withdraw
  exact gd_eq (lv' := [(0, (3, l0)), (1, (1, l1)), (2, (3, l2))]) rfl (gd_aload_n dL_withdraw_0 rfl 2 rfl (gd_iconst (n := 0) dL_withdraw_1 (by decide +kernel) (gd_aload_n dL_withdraw_2 rfl 0 rfl (gd_iload_n dL_withdraw_3 rfl 1 rfl (gd_callVH (as := [(1, l1)]) (rk := 1) rfl yd_X6_withdraw lm_X6_withdraw lkL_106 li_X6_withdraw le_X6_withdraw li_X6 (by decide) (by decide) (Nat.le_of_ble_eq_true rfl) (fun Y hY => cn_X6_withdraw htr hY) dL_withdraw_4 (fun v1 h2 => gd_i2l dL_withdraw_7 fun v3 => gd_lastore dL_withdraw_8 fun h4 => gd_goto (tgt := 18) dL_withdraw_9 (by decide) (gd_iconst (n := 0) dL_withdraw_18 (by decide +kernel) (gd_iret rfl dL_withdraw_19))) (hX_L_withdraw htr))))))
theorem cn_L_withdraw (htr : l.stackTraces = false) {l0 : Nat} {l1 : Nat} {l2 : Nat} {h : ev_H} {X : ev_X} (hK : mt_L_withdraw l0 l1 l2 h = some X) : ev_Con l ρ τ D tys A yL_withdraw (Cond.codeWith yL_withdraw cL_withdraw 4 (some .int) [(0, 9, 12, 19), (0, 9, 15, 13)]) 8 180 1 [(3, l0), (1, l1), (3, l2)] h X :=
  gd_conH (own := RL) (by decide +kernel) rfl htr (Nat.le_of_ble_eq_true rfl) (fun p e R s m args below meth c w0 => gm_L_withdraw htr l0 l1 l2 h) hK
theorem lw_L_setPort : Cond.codeWith yL_setPort cL_setPort 5 (some .int) [(0, 10, 13, 19), (0, 10, 17, 25)] ∈ ev_good := ev_in (ev_t6 _ (List.mem_of_getElem? (i := 107) rfl)) rfl
theorem hX_L_setPort (htr : l.stackTraces = false) {l0 : Nat} {l1 : Nat} {l2 : Nat} {l3 : Nat}  : ∀ E h', (fun E h2 => ev_if (Nat.beq E 2) (ev_ret 1 h2) <| ev_if (Nat.beq E 1) (ev_ret 2 h2) <| none : Nat → ev_H → ev_O) E h' = some X → ∃ tgt, ev_Hd RL (tableOf [(0, 10, 13, 19), (0, 10, 17, 25)]) 5 E tgt ∧ ev_Gd p l e R s m args below meth c ρ τ D tys A c0 s0 5 cL_setPort RL 8 181 w0 (some .int) (tableOf [(0, 10, 13, 19), (0, 10, 17, 25)]) yL_setPort.name (ev_Q below ρ τ D tys A 1 X w0 args s c0 s0) X tgt [(0, (3, l0)), (1, (1, l1)), (2, (1, l2)), (3, (3, l3))] [(3, 2)] h' (some X) := fun E h' hz => by
    rcases ev_if_or hz with ⟨hb, hz⟩ | ⟨-, hz⟩
    · have hb := Nat.eq_of_beq_eq_true hb
      subst hb
      refine ⟨13, ⟨[], ⟨0, 10, 13, 19⟩, [⟨0, 10, 17, 25⟩], rfl, rfl, by decide, rfl, lcL_19, by decide, fun z hz => absurd hz List.not_mem_nil⟩, ?_⟩
      rw [← hz]
      exact gd_astore dL_setPort_13 (by decide) rfl (gd_iconst (n := 1) dL_setPort_15 (by decide +kernel) (gd_iret rfl dL_setPort_16))
    · rcases ev_if_or hz with ⟨hb, hz⟩ | ⟨-, hz⟩
      · have hb := Nat.eq_of_beq_eq_true hb
        subst hb
        refine ⟨17, ⟨[⟨0, 10, 13, 19⟩], ⟨0, 10, 17, 25⟩, [], rfl, rfl, by decide, rfl, lcL_25, by decide, List.forall_mem_cons.mpr ⟨⟨by decide, 2, by decide, by decide, lcL_19⟩, fun z hz => absurd hz List.not_mem_nil⟩⟩, ?_⟩
        rw [← hz]
        exact gd_astore dL_setPort_17 (by decide) rfl (gd_iconst (n := 2) dL_setPort_19 (by decide +kernel) (gd_iret rfl dL_setPort_20))
      · cases hz
theorem gm_L_setPort (htr : l.stackTraces = false) (l0 : Nat) (l1 : Nat) (l2 : Nat) (l3 : Nat) (h : ev_H) : ev_Gd p l e R s m args below meth c ρ τ D tys A c0 s0 5 cL_setPort RL 8 181 w0 (some .int) (tableOf [(0, 10, 13, 19), (0, 10, 17, 25)]) yL_setPort.name (ev_Q below ρ τ D tys A 1 X w0 args s c0 s0) X 0 (ev_al 0 [(3, l0), (1, l1), (1, l2), (3, l3)]) [] h (mt_L_setPort l0 l1 l2 l3 h) := by
  unfold mt_L_setPort
  exact gd_eq (lv' := [(0, (3, l0)), (1, (1, l1)), (2, (1, l2)), (3, (3, l3))]) rfl (gd_aload_n dL_setPort_0 rfl 3 rfl (gd_iconst (n := 0) dL_setPort_1 (by decide +kernel) (gd_aload_n dL_setPort_2 rfl 0 rfl (gd_iload_n dL_setPort_3 rfl 1 rfl (gd_iload_n dL_setPort_4 rfl 2 rfl (gd_callVH (as := [(1, l1), (1, l2)]) (rk := 1) rfl yd_X6_setPort lm_X6_setPort lkL_109 li_X6_setPort le_X6_setPort li_X6 (by decide) (by decide) (Nat.le_of_ble_eq_true rfl) (fun Y hY => cn_X6_setPort htr hY) dL_setPort_5 (fun v1 h2 => gd_i2l dL_setPort_8 fun v3 => gd_lastore dL_setPort_9 fun h4 => gd_goto (tgt := 21) dL_setPort_10 (by decide) (gd_iconst (n := 0) dL_setPort_21 (by decide +kernel) (gd_iret rfl dL_setPort_22))) (hX_L_setPort htr)))))))
theorem cn_L_setPort (htr : l.stackTraces = false) {l0 : Nat} {l1 : Nat} {l2 : Nat} {l3 : Nat} {h : ev_H} {X : ev_X} (hK : mt_L_setPort l0 l1 l2 l3 h = some X) : ev_Con l ρ τ D tys A yL_setPort (Cond.codeWith yL_setPort cL_setPort 5 (some .int) [(0, 10, 13, 19), (0, 10, 17, 25)]) 8 181 1 [(3, l0), (1, l1), (1, l2), (3, l3)] h X :=
  gd_conH (own := RL) (by decide +kernel) rfl htr (Nat.le_of_ble_eq_true rfl) (fun p e R s m args below meth c w0 => gm_L_setPort htr l0 l1 l2 l3 h) hK
theorem lw_L_setOn : Cond.codeWith yL_setOn cL_setOn 6 (some .int) [(0, 12, 15, 19)] ∈ ev_good := ev_in (ev_t6 _ (List.mem_of_getElem? (i := 118) rfl)) rfl
theorem hX_L_setOn (htr : l.stackTraces = false) {l0 : Nat} {l1 : Nat} {l2 : Nat} {l3 : Nat} {l4 : Nat}  : ∀ E h', (fun E h2 => ev_if (Nat.beq E 2) (ev_ret 1 h2) <| none : Nat → ev_H → ev_O) E h' = some X → ∃ tgt, ev_Hd RL (tableOf [(0, 12, 15, 19)]) 7 E tgt ∧ ev_Gd p l e R s m args below meth c ρ τ D tys A c0 s0 6 cL_setOn RL 8 181 w0 (some .int) (tableOf [(0, 12, 15, 19)]) yL_setOn.name (ev_Q below ρ τ D tys A 1 X w0 args s c0 s0) X tgt [(0, (3, l0)), (1, (1, l1)), (2, (1, l2)), (3, (1, l3)), (4, (3, l4))] [(3, 2)] h' (some X) := fun E h' hz => by
    rcases ev_if_or hz with ⟨hb, hz⟩ | ⟨-, hz⟩
    · have hb := Nat.eq_of_beq_eq_true hb
      subst hb
      refine ⟨15, ⟨[], ⟨0, 12, 15, 19⟩, [], rfl, rfl, by decide, rfl, lcL_19, by decide, fun z hz => absurd hz List.not_mem_nil⟩, ?_⟩
      rw [← hz]
      exact gd_astore dL_setOn_15 (by decide) rfl (gd_iconst (n := 1) dL_setOn_17 (by decide +kernel) (gd_iret rfl dL_setOn_18))
    · cases hz
theorem gm_L_setOn (htr : l.stackTraces = false) (l0 : Nat) (l1 : Nat) (l2 : Nat) (l3 : Nat) (l4 : Nat) (h : ev_H) : ev_Gd p l e R s m args below meth c ρ τ D tys A c0 s0 6 cL_setOn RL 8 181 w0 (some .int) (tableOf [(0, 12, 15, 19)]) yL_setOn.name (ev_Q below ρ τ D tys A 1 X w0 args s c0 s0) X 0 (ev_al 0 [(3, l0), (1, l1), (1, l2), (1, l3), (3, l4)]) [] h (mt_L_setOn l0 l1 l2 l3 l4 h) := by
  unfold mt_L_setOn
  exact gd_eq (lv' := [(0, (3, l0)), (1, (1, l1)), (2, (1, l2)), (3, (1, l3)), (4, (3, l4))]) rfl (gd_aload dL_setOn_0 4 rfl (gd_iconst (n := 0) dL_setOn_2 (by decide +kernel) (gd_aload_n dL_setOn_3 rfl 0 rfl (gd_iload_n dL_setOn_4 rfl 1 rfl (gd_iload_n dL_setOn_5 rfl 2 rfl (gd_iload_n dL_setOn_6 rfl 3 rfl (gd_callVH (as := [(1, l1), (1, l2), (1, l3)]) (rk := 1) rfl yd_X6_setOn lm_X6_setOn lkL_112 li_X6_setOn le_X6_setOn li_X6 (by decide) (by decide) (Nat.le_of_ble_eq_true rfl) (fun Y hY => cn_X6_setOn htr hY) dL_setOn_7 (fun v1 h2 => gd_i2l dL_setOn_10 fun v3 => gd_lastore dL_setOn_11 fun h4 => gd_goto (tgt := 19) dL_setOn_12 (by decide) (gd_iconst (n := 0) dL_setOn_19 (by decide +kernel) (gd_iret rfl dL_setOn_20))) (hX_L_setOn htr))))))))
theorem cn_L_setOn (htr : l.stackTraces = false) {l0 : Nat} {l1 : Nat} {l2 : Nat} {l3 : Nat} {l4 : Nat} {h : ev_H} {X : ev_X} (hK : mt_L_setOn l0 l1 l2 l3 l4 h = some X) : ev_Con l ρ τ D tys A yL_setOn (Cond.codeWith yL_setOn cL_setOn 6 (some .int) [(0, 12, 15, 19)]) 8 181 1 [(3, l0), (1, l1), (1, l2), (1, l3), (3, l4)] h X :=
  gd_conH (own := RL) (by decide +kernel) rfl htr (Nat.le_of_ble_eq_true rfl) (fun p e R s m args below meth c w0 => gm_L_setOn htr l0 l1 l2 l3 l4 h) hK
theorem lw_L_setSide : Cond.codeWith yL_setSide cL_setSide 5 (some .int) [(0, 10, 13, 19), (0, 10, 17, 25)] ∈ ev_good := ev_in (ev_t6 _ (List.mem_of_getElem? (i := 141) rfl)) rfl
theorem hX_L_setSide (htr : l.stackTraces = false) {l0 : Nat} {l1 : Nat} {l2 : Nat} {l3 : Nat}  : ∀ E h', (fun E h2 => ev_if (Nat.beq E 2) (ev_ret 1 h2) <| ev_if (Nat.beq E 1) (ev_ret 2 h2) <| none : Nat → ev_H → ev_O) E h' = some X → ∃ tgt, ev_Hd RL (tableOf [(0, 10, 13, 19), (0, 10, 17, 25)]) 5 E tgt ∧ ev_Gd p l e R s m args below meth c ρ τ D tys A c0 s0 5 cL_setSide RL 8 181 w0 (some .int) (tableOf [(0, 10, 13, 19), (0, 10, 17, 25)]) yL_setSide.name (ev_Q below ρ τ D tys A 1 X w0 args s c0 s0) X tgt [(0, (3, l0)), (1, (1, l1)), (2, (1, l2)), (3, (3, l3))] [(3, 2)] h' (some X) := fun E h' hz => by
    rcases ev_if_or hz with ⟨hb, hz⟩ | ⟨-, hz⟩
    · have hb := Nat.eq_of_beq_eq_true hb
      subst hb
      refine ⟨13, ⟨[], ⟨0, 10, 13, 19⟩, [⟨0, 10, 17, 25⟩], rfl, rfl, by decide, rfl, lcL_19, by decide, fun z hz => absurd hz List.not_mem_nil⟩, ?_⟩
      rw [← hz]
      exact gd_astore dL_setSide_13 (by decide) rfl (gd_iconst (n := 1) dL_setSide_15 (by decide +kernel) (gd_iret rfl dL_setSide_16))
    · rcases ev_if_or hz with ⟨hb, hz⟩ | ⟨-, hz⟩
      · have hb := Nat.eq_of_beq_eq_true hb
        subst hb
        refine ⟨17, ⟨[⟨0, 10, 13, 19⟩], ⟨0, 10, 17, 25⟩, [], rfl, rfl, by decide, rfl, lcL_25, by decide, List.forall_mem_cons.mpr ⟨⟨by decide, 2, by decide, by decide, lcL_19⟩, fun z hz => absurd hz List.not_mem_nil⟩⟩, ?_⟩
        rw [← hz]
        exact gd_astore dL_setSide_17 (by decide) rfl (gd_iconst (n := 2) dL_setSide_19 (by decide +kernel) (gd_iret rfl dL_setSide_20))
      · cases hz
theorem gm_L_setSide (htr : l.stackTraces = false) (l0 : Nat) (l1 : Nat) (l2 : Nat) (l3 : Nat) (h : ev_H) : ev_Gd p l e R s m args below meth c ρ τ D tys A c0 s0 5 cL_setSide RL 8 181 w0 (some .int) (tableOf [(0, 10, 13, 19), (0, 10, 17, 25)]) yL_setSide.name (ev_Q below ρ τ D tys A 1 X w0 args s c0 s0) X 0 (ev_al 0 [(3, l0), (1, l1), (1, l2), (3, l3)]) [] h (mt_L_setSide l0 l1 l2 l3 h) := by
  unfold mt_L_setSide
  exact gd_eq (lv' := [(0, (3, l0)), (1, (1, l1)), (2, (1, l2)), (3, (3, l3))]) rfl (gd_aload_n dL_setSide_0 rfl 3 rfl (gd_iconst (n := 0) dL_setSide_1 (by decide +kernel) (gd_aload_n dL_setSide_2 rfl 0 rfl (gd_iload_n dL_setSide_3 rfl 1 rfl (gd_iload_n dL_setSide_4 rfl 2 rfl (gd_callVH (as := [(1, l1), (1, l2)]) (rk := 1) rfl yd_X6_setSide lm_X6_setSide lkL_116 li_X6_setSide le_X6_setSide li_X6 (by decide) (by decide) (Nat.le_of_ble_eq_true rfl) (fun Y hY => cn_X6_setSide htr hY) dL_setSide_5 (fun v1 h2 => gd_i2l dL_setSide_8 fun v3 => gd_lastore dL_setSide_9 fun h4 => gd_goto (tgt := 21) dL_setSide_10 (by decide) (gd_iconst (n := 0) dL_setSide_21 (by decide +kernel) (gd_iret rfl dL_setSide_22))) (hX_L_setSide htr)))))))
theorem cn_L_setSide (htr : l.stackTraces = false) {l0 : Nat} {l1 : Nat} {l2 : Nat} {l3 : Nat} {h : ev_H} {X : ev_X} (hK : mt_L_setSide l0 l1 l2 l3 h = some X) : ev_Con l ρ τ D tys A yL_setSide (Cond.codeWith yL_setSide cL_setSide 5 (some .int) [(0, 10, 13, 19), (0, 10, 17, 25)]) 8 181 1 [(3, l0), (1, l1), (1, l2), (3, l3)] h X :=
  gd_conH (own := RL) (by decide +kernel) rfl htr (Nat.le_of_ble_eq_true rfl) (fun p e R s m args below meth c w0 => gm_L_setSide htr l0 l1 l2 l3 h) hK
theorem lw_L_browse : Cond.codeWith yL_browse cL_browse 6 (some .int) [(0, 12, 15, 19), (0, 12, 19, 13)] ∈ ev_good := ev_in (ev_t6 _ (List.mem_of_getElem? (i := 150) rfl)) rfl
theorem hX_L_browse (htr : l.stackTraces = false) {l0 : Nat} {l1 : Nat} {l2 : Nat} {l3 : Nat} {l4 : Nat}  : ∀ E h', (fun E h2 => ev_if (Nat.beq E 2) (ev_ret 1 h2) <| none : Nat → ev_H → ev_O) E h' = some X → ∃ tgt, ev_Hd RL (tableOf [(0, 12, 15, 19), (0, 12, 19, 13)]) 7 E tgt ∧ ev_Gd p l e R s m args below meth c ρ τ D tys A c0 s0 6 cL_browse RL 8 181 w0 (some .int) (tableOf [(0, 12, 15, 19), (0, 12, 19, 13)]) yL_browse.name (ev_Q below ρ τ D tys A 1 X w0 args s c0 s0) X tgt [(0, (3, l0)), (1, (1, l1)), (2, (1, l2)), (3, (1, l3)), (4, (3, l4))] [(3, 2)] h' (some X) := fun E h' hz => by
    rcases ev_if_or hz with ⟨hb, hz⟩ | ⟨-, hz⟩
    · have hb := Nat.eq_of_beq_eq_true hb
      subst hb
      refine ⟨15, ⟨[], ⟨0, 12, 15, 19⟩, [⟨0, 12, 19, 13⟩], rfl, rfl, by decide, rfl, lcL_19, by decide, fun z hz => absurd hz List.not_mem_nil⟩, ?_⟩
      rw [← hz]
      exact gd_astore dL_browse_15 (by decide) rfl (gd_iconst (n := 1) dL_browse_17 (by decide +kernel) (gd_iret rfl dL_browse_18))
    · cases hz
theorem gm_L_browse (htr : l.stackTraces = false) (l0 : Nat) (l1 : Nat) (l2 : Nat) (l3 : Nat) (l4 : Nat) (h : ev_H) : ev_Gd p l e R s m args below meth c ρ τ D tys A c0 s0 6 cL_browse RL 8 181 w0 (some .int) (tableOf [(0, 12, 15, 19), (0, 12, 19, 13)]) yL_browse.name (ev_Q below ρ τ D tys A 1 X w0 args s c0 s0) X 0 (ev_al 0 [(3, l0), (1, l1), (1, l2), (1, l3), (3, l4)]) [] h (mt_L_browse l0 l1 l2 l3 l4 h) := by
  unfold mt_L_browse
  exact gd_eq (lv' := [(0, (3, l0)), (1, (1, l1)), (2, (1, l2)), (3, (1, l3)), (4, (3, l4))]) rfl (gd_aload dL_browse_0 4 rfl (gd_iconst (n := 0) dL_browse_2 (by decide +kernel) (gd_aload_n dL_browse_3 rfl 0 rfl (gd_iload_n dL_browse_4 rfl 1 rfl (gd_iload_n dL_browse_5 rfl 2 rfl (gd_iload_n dL_browse_6 rfl 3 rfl (gd_callVH (as := [(1, l1), (1, l2), (1, l3)]) (rk := 1) rfl yd_X6_browse lm_X6_browse lkL_119 li_X6_browse le_X6_browse li_X6 (by decide) (by decide) (Nat.le_of_ble_eq_true rfl) (fun Y hY => cn_X6_browse htr hY) dL_browse_7 (fun v1 h2 => gd_i2l dL_browse_10 fun v3 => gd_lastore dL_browse_11 fun h4 => gd_goto (tgt := 23) dL_browse_12 (by decide) (gd_iconst (n := 0) dL_browse_23 (by decide +kernel) (gd_iret rfl dL_browse_24))) (hX_L_browse htr))))))))
theorem cn_L_browse (htr : l.stackTraces = false) {l0 : Nat} {l1 : Nat} {l2 : Nat} {l3 : Nat} {l4 : Nat} {h : ev_H} {X : ev_X} (hK : mt_L_browse l0 l1 l2 l3 l4 h = some X) : ev_Con l ρ τ D tys A yL_browse (Cond.codeWith yL_browse cL_browse 6 (some .int) [(0, 12, 15, 19), (0, 12, 19, 13)]) 8 181 1 [(3, l0), (1, l1), (1, l2), (1, l3), (3, l4)] h X :=
  gd_conH (own := RL) (by decide +kernel) rfl htr (Nat.le_of_ble_eq_true rfl) (fun p e R s m args below meth c w0 => gm_L_browse htr l0 l1 l2 l3 l4 h) hK
theorem lw_L_mark : Cond.codeWith yL_mark cL_mark 4 (some .int) [(0, 9, 12, 25), (0, 9, 15, 13)] ∈ ev_good := ev_in (ev_t6 _ (List.mem_of_getElem? (i := 160) rfl)) rfl
theorem hX_L_mark (htr : l.stackTraces = false) {l0 : Nat} {l1 : Nat} {l2 : Nat}  : ∀ E h', (fun E h2 => ev_if (Nat.beq E 1) (ev_ret 1 h2) <| none : Nat → ev_H → ev_O) E h' = some X → ∃ tgt, ev_Hd RL (tableOf [(0, 9, 12, 25), (0, 9, 15, 13)]) 4 E tgt ∧ ev_Gd p l e R s m args below meth c ρ τ D tys A c0 s0 4 cL_mark RL 8 179 w0 (some .int) (tableOf [(0, 9, 12, 25), (0, 9, 15, 13)]) yL_mark.name (ev_Q below ρ τ D tys A 1 X w0 args s c0 s0) X tgt [(0, (3, l0)), (1, (1, l1)), (2, (3, l2))] [(3, 2)] h' (some X) := fun E h' hz => by
    rcases ev_if_or hz with ⟨hb, hz⟩ | ⟨-, hz⟩
    · have hb := Nat.eq_of_beq_eq_true hb
      subst hb
      refine ⟨12, ⟨[], ⟨0, 9, 12, 25⟩, [⟨0, 9, 15, 13⟩], rfl, rfl, by decide, rfl, lcL_25, by decide, fun z hz => absurd hz List.not_mem_nil⟩, ?_⟩
      rw [← hz]
      exact gd_astore_n dL_mark_12 rfl (by decide) rfl (gd_iconst (n := 1) dL_mark_13 (by decide +kernel) (gd_iret rfl dL_mark_14))
    · cases hz
theorem gm_L_mark (htr : l.stackTraces = false) (l0 : Nat) (l1 : Nat) (l2 : Nat) (h : ev_H) : ev_Gd p l e R s m args below meth c ρ τ D tys A c0 s0 4 cL_mark RL 8 179 w0 (some .int) (tableOf [(0, 9, 12, 25), (0, 9, 15, 13)]) yL_mark.name (ev_Q below ρ τ D tys A 1 X w0 args s c0 s0) X 0 (ev_al 0 [(3, l0), (1, l1), (3, l2)]) [] h (mt_L_mark l0 l1 l2 h) := by
  unfold mt_L_mark
  exact gd_eq (lv' := [(0, (3, l0)), (1, (1, l1)), (2, (3, l2))]) rfl (gd_aload_n dL_mark_0 rfl 2 rfl (gd_iconst (n := 0) dL_mark_1 (by decide +kernel) (gd_aload_n dL_mark_2 rfl 0 rfl (gd_iload_n dL_mark_3 rfl 1 rfl (gd_callVH (as := [(1, l1)]) (rk := 1) rfl yd_X6_mark lm_X6_mark lkL_123 li_X6_mark le_X6_mark li_X6 (by decide) (by decide) (Nat.le_of_ble_eq_true rfl) (fun Y hY => cn_X6_mark htr hY) dL_mark_4 (fun v1 h2 => gd_i2l dL_mark_7 fun v3 => gd_lastore dL_mark_8 fun h4 => gd_goto (tgt := 18) dL_mark_9 (by decide) (gd_iconst (n := 0) dL_mark_18 (by decide +kernel) (gd_iret rfl dL_mark_19))) (hX_L_mark htr))))))
theorem cn_L_mark (htr : l.stackTraces = false) {l0 : Nat} {l1 : Nat} {l2 : Nat} {h : ev_H} {X : ev_X} (hK : mt_L_mark l0 l1 l2 h = some X) : ev_Con l ρ τ D tys A yL_mark (Cond.codeWith yL_mark cL_mark 4 (some .int) [(0, 9, 12, 25), (0, 9, 15, 13)]) 8 179 1 [(3, l0), (1, l1), (3, l2)] h X :=
  gd_conH (own := RL) (by decide +kernel) rfl htr (Nat.le_of_ble_eq_true rfl) (fun p e R s m args below meth c w0 => gm_L_mark htr l0 l1 l2 h) hK
theorem lw_L_undo : Cond.codeWith yL_undo cL_undo 3 (some .int) [(0, 8, 11, 13)] ∈ ev_good := ev_in (ev_t6 _ (List.mem_of_getElem? (i := 169) rfl)) rfl
theorem hX_L_undo (htr : l.stackTraces = false) {l0 : Nat} {l1 : Nat}  : ∀ E h', (fun E h2 => ev_if (Nat.beq E 0) (ev_ret 1 h2) <| none : Nat → ev_H → ev_O) E h' = some X → ∃ tgt, ev_Hd RL (tableOf [(0, 8, 11, 13)]) 3 E tgt ∧ ev_Gd p l e R s m args below meth c ρ τ D tys A c0 s0 3 cL_undo RL 7 110 w0 (some .int) (tableOf [(0, 8, 11, 13)]) yL_undo.name (ev_Q below ρ τ D tys A 1 X w0 args s c0 s0) X tgt [(0, (3, l0)), (1, (3, l1))] [(3, 2)] h' (some X) := fun E h' hz => by
    rcases ev_if_or hz with ⟨hb, hz⟩ | ⟨-, hz⟩
    · have hb := Nat.eq_of_beq_eq_true hb
      subst hb
      refine ⟨11, ⟨[], ⟨0, 8, 11, 13⟩, [], rfl, rfl, by decide, rfl, lcL_13, by decide, fun z hz => absurd hz List.not_mem_nil⟩, ?_⟩
      rw [← hz]
      exact gd_astore_n dL_undo_11 rfl (by decide) rfl (gd_iconst (n := 1) dL_undo_12 (by decide +kernel) (gd_iret rfl dL_undo_13))
    · cases hz
theorem gm_L_undo (htr : l.stackTraces = false) (l0 : Nat) (l1 : Nat) (h : ev_H) : ev_Gd p l e R s m args below meth c ρ τ D tys A c0 s0 3 cL_undo RL 7 110 w0 (some .int) (tableOf [(0, 8, 11, 13)]) yL_undo.name (ev_Q below ρ τ D tys A 1 X w0 args s c0 s0) X 0 (ev_al 0 [(3, l0), (3, l1)]) [] h (mt_L_undo l0 l1 h) := by
  unfold mt_L_undo
  exact gd_eq (lv' := [(0, (3, l0)), (1, (3, l1))]) rfl (gd_aload_n dL_undo_0 rfl 1 rfl (gd_iconst (n := 0) dL_undo_1 (by decide +kernel) (gd_aload_n dL_undo_2 rfl 0 rfl (gd_callVH (as := []) (rk := 1) rfl yd_X6_undo lm_X6_undo lkL_126 li_X6_undo le_X6_undo li_X6 (by decide) (by decide) (Nat.le_of_ble_eq_true rfl) (fun Y hY => cn_X6_undo htr hY) dL_undo_3 (fun v1 h2 => gd_i2l dL_undo_6 fun v3 => gd_lastore dL_undo_7 fun h4 => gd_goto (tgt := 14) dL_undo_8 (by decide) (gd_no)) (hX_L_undo htr)))))
theorem cn_L_undo (htr : l.stackTraces = false) {l0 : Nat} {l1 : Nat} {h : ev_H} {X : ev_X} (hK : mt_L_undo l0 l1 h = some X) : ev_Con l ρ τ D tys A yL_undo (Cond.codeWith yL_undo cL_undo 3 (some .int) [(0, 8, 11, 13)]) 7 110 1 [(3, l0), (3, l1)] h X :=
  gd_conH (own := RL) (by decide +kernel) rfl htr (Nat.le_of_ble_eq_true rfl) (fun p e R s m args below meth c w0 => gm_L_undo htr l0 l1 h) hK
theorem lw_L_save : Cond.codeWith yL_save cL_save 3 (some .int) [(0, 5, 8, 19)] ∈ ev_good := ev_in (ev_t6 _ (List.mem_of_getElem? (i := 182) rfl)) rfl
theorem hX_L_save (htr : l.stackTraces = false) {l0 : Nat} {l1 : Nat}  : ∀ E h', (fun E h2 => ev_if (Nat.beq E 2) (ev_ret 1 h2) <| none : Nat → ev_H → ev_O) E h' = some X → ∃ tgt, ev_Hd RL (tableOf [(0, 5, 8, 19)]) 2 E tgt ∧ ev_Gd p l e R s m args below meth c ρ τ D tys A c0 s0 3 cL_save RL 8 159 w0 (some .int) (tableOf [(0, 5, 8, 19)]) yL_save.name (ev_Q below ρ τ D tys A 1 X w0 args s c0 s0) X tgt [(0, (3, l0)), (1, (1, l1))] [(3, 2)] h' (some X) := fun E h' hz => by
    rcases ev_if_or hz with ⟨hb, hz⟩ | ⟨-, hz⟩
    · have hb := Nat.eq_of_beq_eq_true hb
      subst hb
      refine ⟨8, ⟨[], ⟨0, 5, 8, 19⟩, [], rfl, rfl, by decide, rfl, lcL_19, by decide, fun z hz => absurd hz List.not_mem_nil⟩, ?_⟩
      rw [← hz]
      exact gd_astore_n dL_save_8 rfl (by decide) rfl (gd_iconst (n := 1) dL_save_9 (by decide +kernel) (gd_iret rfl dL_save_10))
    · cases hz
theorem gm_L_save (htr : l.stackTraces = false) (l0 : Nat) (l1 : Nat) (h : ev_H) : ev_Gd p l e R s m args below meth c ρ τ D tys A c0 s0 3 cL_save RL 8 159 w0 (some .int) (tableOf [(0, 5, 8, 19)]) yL_save.name (ev_Q below ρ τ D tys A 1 X w0 args s c0 s0) X 0 (ev_al 0 [(3, l0), (1, l1)]) [] h (mt_L_save l0 l1 h) := by
  unfold mt_L_save
  exact gd_eq (lv' := [(0, (3, l0)), (1, (1, l1))]) rfl (gd_aload_n dL_save_0 rfl 0 rfl (gd_iload_n dL_save_1 rfl 1 rfl (gd_callVH (as := [(1, l1)]) (rk := 0) rfl yd_X6_save lm_X6_save lkL_129 li_X6_save le_X6_save li_X6 (by decide) (by decide) (Nat.le_of_ble_eq_true rfl) (fun Y hY => cn_X6_save htr hY) dL_save_2 (fun _ h1 => gd_goto (tgt := 11) dL_save_5 (by decide) (gd_iconst (n := 0) dL_save_11 (by decide +kernel) (gd_iret rfl dL_save_12))) (hX_L_save htr))))
theorem cn_L_save (htr : l.stackTraces = false) {l0 : Nat} {l1 : Nat} {h : ev_H} {X : ev_X} (hK : mt_L_save l0 l1 h = some X) : ev_Con l ρ τ D tys A yL_save (Cond.codeWith yL_save cL_save 3 (some .int) [(0, 5, 8, 19)]) 8 159 1 [(3, l0), (1, l1)] h X :=
  gd_conH (own := RL) (by decide +kernel) rfl htr (Nat.le_of_ble_eq_true rfl) (fun p e R s m args below meth c w0 => gm_L_save htr l0 l1 h) hK
theorem lw_L_restore : Cond.codeWith yL_restore cL_restore 3 (some .int) [(0, 5, 8, 19), (0, 5, 11, 30)] ∈ ev_good := ev_in (ev_t6 _ (List.mem_of_getElem? (i := 194) rfl)) rfl
theorem hX_L_restore (htr : l.stackTraces = false) {l0 : Nat} {l1 : Nat}  : ∀ E h', (fun E h2 => ev_if (Nat.beq E 2) (ev_ret 1 h2) <| ev_if (Nat.beq E 3) (ev_ret 2 h2) <| none : Nat → ev_H → ev_O) E h' = some X → ∃ tgt, ev_Hd RL (tableOf [(0, 5, 8, 19), (0, 5, 11, 30)]) 2 E tgt ∧ ev_Gd p l e R s m args below meth c ρ τ D tys A c0 s0 3 cL_restore RL 8 133 w0 (some .int) (tableOf [(0, 5, 8, 19), (0, 5, 11, 30)]) yL_restore.name (ev_Q below ρ τ D tys A 1 X w0 args s c0 s0) X tgt [(0, (3, l0)), (1, (1, l1))] [(3, 2)] h' (some X) := fun E h' hz => by
    rcases ev_if_or hz with ⟨hb, hz⟩ | ⟨-, hz⟩
    · have hb := Nat.eq_of_beq_eq_true hb
      subst hb
      refine ⟨8, ⟨[], ⟨0, 5, 8, 19⟩, [⟨0, 5, 11, 30⟩], rfl, rfl, by decide, rfl, lcL_19, by decide, fun z hz => absurd hz List.not_mem_nil⟩, ?_⟩
      rw [← hz]
      exact gd_astore_n dL_restore_8 rfl (by decide) rfl (gd_iconst (n := 1) dL_restore_9 (by decide +kernel) (gd_iret rfl dL_restore_10))
    · rcases ev_if_or hz with ⟨hb, hz⟩ | ⟨-, hz⟩
      · have hb := Nat.eq_of_beq_eq_true hb
        subst hb
        refine ⟨11, ⟨[⟨0, 5, 8, 19⟩], ⟨0, 5, 11, 30⟩, [], rfl, rfl, by decide, rfl, lcL_30, by decide, List.forall_mem_cons.mpr ⟨⟨by decide, 2, by decide, by decide, lcL_19⟩, fun z hz => absurd hz List.not_mem_nil⟩⟩, ?_⟩
        rw [← hz]
        exact gd_astore_n dL_restore_11 rfl (by decide) rfl (gd_iconst (n := 2) dL_restore_12 (by decide +kernel) (gd_iret rfl dL_restore_13))
      · cases hz
theorem gm_L_restore (htr : l.stackTraces = false) (l0 : Nat) (l1 : Nat) (h : ev_H) : ev_Gd p l e R s m args below meth c ρ τ D tys A c0 s0 3 cL_restore RL 8 133 w0 (some .int) (tableOf [(0, 5, 8, 19), (0, 5, 11, 30)]) yL_restore.name (ev_Q below ρ τ D tys A 1 X w0 args s c0 s0) X 0 (ev_al 0 [(3, l0), (1, l1)]) [] h (mt_L_restore l0 l1 h) := by
  unfold mt_L_restore
  exact gd_eq (lv' := [(0, (3, l0)), (1, (1, l1))]) rfl (gd_aload_n dL_restore_0 rfl 0 rfl (gd_iload_n dL_restore_1 rfl 1 rfl (gd_callVH (as := [(1, l1)]) (rk := 0) rfl yd_X6_restore lm_X6_restore lkL_133 li_X6_restore le_X6_restore li_X6 (by decide) (by decide) (Nat.le_of_ble_eq_true rfl) (fun Y hY => cn_X6_restore htr hY) dL_restore_2 (fun _ h1 => gd_goto (tgt := 14) dL_restore_5 (by decide) (gd_no)) (hX_L_restore htr))))
theorem cn_L_restore (htr : l.stackTraces = false) {l0 : Nat} {l1 : Nat} {h : ev_H} {X : ev_X} (hK : mt_L_restore l0 l1 h = some X) : ev_Con l ρ τ D tys A yL_restore (Cond.codeWith yL_restore cL_restore 3 (some .int) [(0, 5, 8, 19), (0, 5, 11, 30)]) 8 133 1 [(3, l0), (1, l1)] h X :=
  gd_conH (own := RL) (by decide +kernel) rfl htr (Nat.le_of_ble_eq_true rfl) (fun p e R s m args below meth c w0 => gm_L_restore htr l0 l1 h) hK
end EVG
