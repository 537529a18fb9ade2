/-! THE WALK: more calls; a method's contract -/
section EVG
variable {p : Program} {l : Launch} {e : Env} {R : Room} {s : State} {m : MethodId} {args : Array Value} {below : List Frame} {meth : Method} {c : Code} {ρ : Nat → Int32} {τ : Nat → Nat} {D : va_G} {tys : List (ClassId × FieldType)} {A : Nat → Prop} {c0 s0 nL : Nat} {cc : ByteArray} {own : String} {fr lo : Nat} {w0 : va_W} {ret : Option FieldType} {hh : List ExceptionTableEntry} {nm : String}
variable {Q : State → Prop} {X : ev_X} {pc : Nat} {lv lv' : List (Nat × (Nat × Nat))} {st st' : List (Nat × Nat)} {h : ev_H} {K L : ev_O} {n i a b v tgt rk : Nat} {off : Int} {k : Nat → ev_O} {kh : ev_H → ev_O} {kn : Nat → ev_H → ev_O}
theorem gd_callS {idx nL' fr' lo' : Nat} {C : String} {y : MethodName} {bytes : ByteArray} {ret' : Option FieldType} {o : ev_O} {as : List (Nat × Nat)} (hy : ev_Yd y C as.length) (hcode : Cond.code y bytes nL' ret' ∈ ev_good) (hl : Cond.methodLink own idx y ∈ ev_good) (hi : Cond.static y ∈ ev_good) (hin : Cond.initialized C ∈ ev_good)
    (hfr : fr' + 1 ≤ fr) (hlo : 8 + (nL' + 11) + lo' ≤ lo) (hst : (st.map fun q => if q.1 = 2 ∨ q.1 = 4 then 2 else 1).sum ≤ 8) (con : ∀ Y, o = some Y → ev_Con l ρ τ D tys A y (Cond.code y bytes nL' ret') fr' lo' rk as h Y)
    (d : decode cc pc = .ok (.invokestatic idx, 3)) (g : ∀ v h', ev_Gd p l e R s m args below meth c ρ τ D tys A c0 s0 nL cc own fr lo w0 ret hh nm Q X (pc + 3) lv (ev_psh rk v st) h' (kn v h')) : ev_Gd p l e R s m args below meth c ρ τ D tys A c0 s0 nL cc own fr lo w0 ret hh nm Q X pc lv (as.reverse ++ st) h (ev_call o kn fun _ _ => none) := by
  intro z
  rcases ev_call_spec z with ⟨v, h', ho, hk⟩ | ⟨E, h', ho, hk⟩
  · have hcon := con _ ho
    obtain ⟨g1, -⟩ := g v h' hk
    have hle1 : ev_le h h' := hcon.1 (p, e, R, s, m, args, below, meth, c)
    refine gd_w (fun _ => hk) hle1 (g v h') (fun F x1 x2 x3 x4 x5 ws H locs ls stv hP hD hS hH hL hR kk => ?_) z
    obtain ⟨avr, rest, rfl, q1, q5, q3⟩ := ev_R1_split hR
    have hlen : avr.reverse.length = as.length := by rw [List.length_reverse, q3, List.length_reverse]
    have q1r : ev_R1 ρ τ ws as avr.reverse := by have := ev_R1_rev q1; rwa [List.reverse_reverse] at this
    have hM := hcon.met hH (av := avr.reverse) q1r
    have hcw : CallB R s args own idx y bytes nL' ret' (Cond.code y bytes nL' ret' :: ev_good) { frames := fr', cells := ev_c h' - ev_c h, slots := ev_z h' - ev_z h, locals := lo' } (ev_c h' - ev_c h) (ev_z h' - ev_z h) as.length ∧ (Cond.static y).before args s = true :=
      va_cwS as.length F.2.2.2.2.1 (ev_goods hcode (fun w hw => by
        simp only [List.mem_cons, List.not_mem_nil, or_false] at hw
        rcases hw with rfl | rfl | rfl
        · exact hl
        · exact hi
        · rw [hy.1]; exact hin)) rfl rfl rfl hy.2 ⟨by rw [F.2.2.2.2.2.2.2.2.1]; exact hfr, by rw [F.2.2.2.2.2.2.2.2.2.1]; exact hlo⟩
    have hf1 : ev_c h ≤ ev_c h' := hle1.1
    have hf2 : ev_z h ≤ ev_z h' := hle1.2
    have hf3 : ev_c h' ≤ ev_c (ev_xh X) := x5.1
    have hf4 : ev_z h' ≤ ev_z (ev_xh X) := x5.2
    have hrun := va_runS (p := p) (l := l) (e := e) (R := R) (s := s) (m := m) (args := args) (below := below) (meth := meth) (c := c) (H := H) (locs := locs) (cells := ev_c h - c0) (slots := ev_z h - s0) (g := F0 m pc ls (avr ++ rest)) (rest := rest) (As := avr.reverse)
      ⟨F.1, F.2.1, F.2.2.1, F.2.2.2.1, F.2.2.2.2.1⟩ hM hcw ⟨ev_In.blind D tys A τ ws _, fun U hU hW => ⟨rfl, ev_In.of F hP hD hS hU hW⟩⟩ rfl hlen hL.1 (by show avr ++ _ = _; rw [List.reverse_reverse]) (lv_room (by rw [ev_sum q5]; exact hst)) d ⟨by omega, by omega⟩
    refine ev_back hS hrun fun ws' H' locs' ov hE' hP' hD' hS' hH' hro => ?_
    have hk2 := kk ws' hE' H' locs' ls _ hP' hD' hS' hH' (hL.mono hE') (ev_R1_psh hro (ev_R1.mono hE' _ _ q5))
    have e1 : ev_c h - c0 + (ev_c h' - ev_c h) = ev_c h' - c0 := by omega
    have e2 : ev_z h - s0 + (ev_z h' - ev_z h) = ev_z h' - s0 := by omega
    rw [e1, e2]
    exact hk2
  · cases hk
theorem gd_callSN {idx nL' fr' lo' : Nat} {C host : String} {y : MethodName} {bytes : ByteArray} {ret' : Option FieldType} {o : ev_O} {as : List (Nat × Nat)} (hy : ev_Yd y C as.length) (hcode : Cond.code y bytes nL' ret' ∈ ev_good) (hl : Cond.methodLinkNest own idx y host ∈ lw_tbl) (hi : Cond.static y ∈ ev_good) (hin : Cond.initialized C ∈ ev_good)
    (hfr : fr' + 1 ≤ fr) (hlo : 8 + (nL' + 11) + lo' ≤ lo) (hst : (st.map fun q => if q.1 = 2 ∨ q.1 = 4 then 2 else 1).sum ≤ 8) (con : ∀ Y, o = some Y → ev_Con l ρ τ D tys A y (Cond.code y bytes nL' ret') fr' lo' rk as h Y)
    (d : decode cc pc = .ok (.invokestatic idx, 3)) (g : ∀ v h', ev_Gd p l e R s m args below meth c ρ τ D tys A c0 s0 nL cc own fr lo w0 ret hh nm Q X (pc + 3) lv (ev_psh rk v st) h' (kn v h')) : ev_Gd p l e R s m args below meth c ρ τ D tys A c0 s0 nL cc own fr lo w0 ret hh nm Q X pc lv (as.reverse ++ st) h (ev_call o kn fun _ _ => none) := by
  intro z
  rcases ev_call_spec z with ⟨v, h', ho, hk⟩ | ⟨E, h', ho, hk⟩
  · have hcon := con _ ho
    obtain ⟨g1, -⟩ := g v h' hk
    have hle1 : ev_le h h' := hcon.1 (p, e, R, s, m, args, below, meth, c)
    refine gd_w (fun _ => hk) hle1 (g v h') (fun F x1 x2 x3 x4 x5 ws H locs ls stv hP hD hS hH hL hR kk => ?_) z
    obtain ⟨avr, rest, rfl, q1, q5, q3⟩ := ev_R1_split hR
    have hlen : avr.reverse.length = as.length := by rw [List.length_reverse, q3, List.length_reverse]
    have q1r : ev_R1 ρ τ ws as avr.reverse := by have := ev_R1_rev q1; rwa [List.reverse_reverse] at this
    have hM := hcon.met hH (av := avr.reverse) q1r
    have hcw : va_CN R s args own idx y host bytes nL' ret' (Cond.code y bytes nL' ret' :: ev_good) { frames := fr', cells := ev_c h' - ev_c h, slots := ev_z h' - ev_z h, locals := lo' } (ev_c h' - ev_c h) (ev_z h' - ev_z h) as.length ∧ (Cond.static y).before args s = true ∧ True :=
      ⟨va_cnB as.length F.2.2.2.2.1 (ev_goods (ws := []) hcode (fun w hw => nomatch hw)) rfl rfl rfl (F.2.2.2.2.2.2.1.2.2.1 _ hl rfl) (F.2.2.2.2.1 _ (by rw [hy.1]; exact hin)) hy.2 ⟨by rw [F.2.2.2.2.2.2.2.2.1]; exact hfr, by rw [F.2.2.2.2.2.2.2.2.2.1]; exact hlo⟩, F.2.2.2.2.1 _ hi, trivial⟩
    have hf1 : ev_c h ≤ ev_c h' := hle1.1
    have hf2 : ev_z h ≤ ev_z h' := hle1.2
    have hf3 : ev_c h' ≤ ev_c (ev_xh X) := x5.1
    have hf4 : ev_z h' ≤ ev_z (ev_xh X) := x5.2
    have hrun := va_runSN (p := p) (l := l) (e := e) (R := R) (s := s) (m := m) (args := args) (below := below) (meth := meth) (c := c) (H := H) (locs := locs) (cells := ev_c h - c0) (slots := ev_z h - s0) (g := F0 m pc ls (avr ++ rest)) (rest := rest) (As := avr.reverse)
      ⟨F.1, F.2.1, F.2.2.1, F.2.2.2.1, F.2.2.2.2.1⟩ hM hcw ⟨ev_In.blind D tys A τ ws _, fun U hU hW => ⟨rfl, ev_In.of F hP hD hS hU hW⟩⟩ rfl hlen hL.1 (by show avr ++ _ = _; rw [List.reverse_reverse]) (lv_room (by rw [ev_sum q5]; exact hst)) d ⟨by omega, by omega⟩
    refine ev_back hS hrun fun ws' H' locs' ov hE' hP' hD' hS' hH' hro => ?_
    have hk2 := kk ws' hE' H' locs' ls _ hP' hD' hS' hH' (hL.mono hE') (ev_R1_psh hro (ev_R1.mono hE' _ _ q5))
    have e1 : ev_c h - c0 + (ev_c h' - ev_c h) = ev_c h' - c0 := by omega
    have e2 : ev_z h - s0 + (ev_z h' - ev_z h) = ev_z h' - s0 := by omega
    rw [e1, e2]
    exact hk2
  · cases hk
theorem gd_callI {idx ci N9 nL' fr' lo' : Nat} {C : String} {T : u_T} {y : MethodName} {bytes : ByteArray} {o : ev_O} {as : List (Nat × Nat)} (hc : ev_cl[ci]? = some (C, T, N9)) (hy : ev_Yd y C as.length) (hcode : Cond.code y bytes nL' none ∈ ev_good) (hl : Cond.methodLink own idx y ∈ ev_good) (hi : Cond.instanceMethod y ∈ ev_good) (hnm : y.name = "<init>") (hin : Cond.initialized C ∈ ev_good)
    (hfr : fr' + 1 ≤ fr) (hlo : 8 + (nL' + 11) + lo' ≤ lo) (hst : (st.map fun q => if q.1 = 2 ∨ q.1 = 4 then 2 else 1).sum ≤ 8) (con : ∀ Y, o = some Y → ev_Con l ρ τ D tys A y (Cond.code y bytes nL' none) fr' lo' rk ((3, a) :: as) h Y)
    (d : decode cc pc = .ok (.invokespecial idx, 3)) (g : ∀ v h', ev_Gd p l e R s m args below meth c ρ τ D tys A c0 s0 nL cc own fr lo w0 ret hh nm Q X (pc + 3) lv (ev_psh rk v st) h' (kn v h')) : ev_Gd p l e R s m args below meth c ρ τ D tys A c0 s0 nL cc own fr lo w0 ret hh nm Q X pc lv (as.reverse ++ (3, a) :: st) h (ev_recv h ci a (ev_call o kn fun _ _ => none)) := by
  intro z
  obtain ⟨⟨W9, hg⟩, z1⟩ := ev_recv_spec z
  rcases ev_call_spec z1 with ⟨v, h', ho, hk⟩ | ⟨E, h', ho, hk⟩
  · have hcon := con _ ho
    obtain ⟨g1, -⟩ := g v h' hk
    have hle1 : ev_le h h' := hcon.1 (p, e, R, s, m, args, below, meth, c)
    refine gd_w (fun _ => hk) hle1 (g v h') (fun F x1 x2 x3 x4 x5 ws H locs ls stv hP hD hS hH hL hR kk => ?_) z
    obtain ⟨avr, r1, rfl, q1, q2, q3⟩ := ev_R1_split hR
    obtain ⟨u, rest, rfl, q4, q5⟩ := q2.cons
    obtain ⟨-, -, b9, e9, rfl, he, hC⟩ := hH.at q4 hg
    obtain ⟨fs, rfl, -⟩ := hC
    have hlen : avr.reverse.length = as.length := by rw [List.length_reverse, q3, List.length_reverse]
    have q1r : ev_R1 ρ τ ws as avr.reverse := by have := ev_R1_rev q1; rwa [List.reverse_reverse] at this
    have hM := hcon.met hH (av := .ref b9 :: avr.reverse) ⟨q4, q1r⟩
    have hcw : CallB R s args own idx y bytes nL' none (Cond.code y bytes nL' none :: ev_good) { frames := fr', cells := ev_c h' - ev_c h, slots := ev_z h' - ev_z h, locals := lo' } (ev_c h' - ev_c h) (ev_z h' - ev_z h) as.length ∧ y.name = "<init>" ∧ (Cond.instanceMethod y).before args s = true :=
      ⟨callB_of as.length F.2.2.2.2.1 (ev_goods (ws := []) hcode (fun w hw => nomatch hw)) rfl rfl rfl (F.2.2.2.2.1 _ (by rw [hy.1]; exact hin)) (F.2.2.2.2.1 _ hl) hy.2 ⟨by rw [F.2.2.2.2.2.2.2.2.1]; exact hfr, by rw [F.2.2.2.2.2.2.2.2.2.1]; exact hlo⟩, hnm, F.2.2.2.2.1 _ hi⟩
    have hf1 : ev_c h ≤ ev_c h' := hle1.1
    have hf2 : ev_z h ≤ ev_z h' := hle1.2
    have hf3 : ev_c h' ≤ ev_c (ev_xh X) := x5.1
    have hf4 : ev_z h' ≤ ev_z (ev_xh X) := x5.2
    have hrun := va_runI (p := p) (l := l) (e := e) (R := R) (s := s) (m := m) (args := args) (below := below) (meth := meth) (c := c) (H := H) (locs := locs) (cells := ev_c h - c0) (slots := ev_z h - s0) (g := F0 m pc ls (avr ++ Value.ref b9 :: rest)) (rest := rest) (As := avr.reverse) (b := b9)
      ⟨F.1, F.2.1, F.2.2.1, F.2.2.2.1, F.2.2.2.2.1⟩ hM hcw ⟨ev_In.blind D tys A τ ws _, fun U hU hW => ⟨rfl, ev_In.of F hP hD hS hU hW⟩⟩ rfl hlen hL.1 (by show avr ++ _ = _; rw [List.reverse_reverse]) (lv_room (by rw [ev_sum q5]; exact hst)) d ⟨by omega, by omega⟩
    refine ev_back hS hrun fun ws' H' locs' ov hE' hP' hD' hS' hH' hro => ?_
    have hk2 := kk ws' hE' H' locs' ls _ hP' hD' hS' hH' (hL.mono hE') (ev_R1_psh hro (ev_R1.mono hE' _ _ q5))
    have e1 : ev_c h - c0 + (ev_c h' - ev_c h) = ev_c h' - c0 := by omega
    have e2 : ev_z h - s0 + (ev_z h' - ev_z h) = ev_z h' - s0 := by omega
    rw [e1, e2]
    exact hk2
  · cases hk
/-- not null -/
noncomputable def ev_nn (a : Nat) (K : ev_O) : ev_O := ev_if (Nat.beq a 0) none K
theorem gd_oinit {idx : Nat} (hl : Cond.methodLink own idx Lib.objectInit ∈ ev_good) (hi : Cond.instanceMethod Lib.objectInit ∈ ev_good) (hcode : Cond.code Lib.objectInit ⟨#[0xb1]⟩ 1 none ∈ ev_good) (hfr : 1 ≤ fr) (hst : (st.map fun q => if q.1 = 2 ∨ q.1 = 4 then 2 else 1).sum + 12 ≤ lo)
    (d : decode cc pc = .ok (.invokespecial idx, 3)) (g : ev_Gd p l e R s m args below meth c ρ τ D tys A c0 s0 nL cc own fr lo w0 ret hh nm Q X (pc + 3) lv st h K) : ev_Gd p l e R s m args below meth c ρ τ D tys A c0 s0 nL cc own fr lo w0 ret hh nm Q X pc lv ((3, a) :: st) h (ev_nn a K) := by
  intro z
  rcases ev_if_or z with ⟨-, hk⟩ | ⟨hb, hk⟩
  · cases hk
  · refine gd_go (fun _ => hk) g (fun F ws H locs cells slots ls stv hG hL hR kk => ?_) z
    obtain ⟨u, m1, rfl, h1, hr1⟩ := hR.cons
    obtain ⟨b9, rfl⟩ := h1.r.nz (ev_nbeq hb)
    refine W.objInit F.1 F.2.1 F.2.2.2.1 (F.2.2.2.2.1 _ hl) (F.2.2.2.2.1 _ hi) (F.2.2.2.2.1 _ hcode) rfl (by show ls.size = _; rw [hL.1, F.2.2.1]) rfl d (by rw [F.2.2.2.2.2.2.2.2.1]; exact hfr) ?_ (kk ls _ hL hr1)
    rw [F.2.2.2.2.2.2.2.2.2.1]
    show 2 * 0 + (m1.map fun v => v.category).sum + 12 ≤ lo
    rw [ev_sum hr1]
    omega
theorem gd_max {idx : Nat} (hl : Cond.methodLink own idx Lib.Math.max.name ∈ ev_good) (hs : Cond.static Lib.Math.max.name ∈ ev_good) (hin : Cond.initialized "java/lang/Math" ∈ ev_good) (hcode : Cond.code Lib.Math.max.name Lib.Math.max.code 2 (some .int) ∈ ev_good) (hfr : 1 ≤ fr) (hst : (st.map fun q => if q.1 = 2 ∨ q.1 = 4 then 2 else 1).sum + 13 ≤ lo)
    (d : decode cc pc = .ok (.invokestatic idx, 3)) (g : ∀ r, ev_Gd p l e R s m args below meth c ρ τ D tys A c0 s0 nL cc own fr lo w0 ret hh nm Q X (pc + 3) lv ((1, r) :: st) h (k r)) : ev_Gd p l e R s m args below meth c ρ τ D tys A c0 s0 nL cc own fr lo w0 ret hh nm Q X pc lv ((1, b) :: (1, a) :: st) h (ev_max a b k) := by
  intro z
  obtain ⟨r, hr, hv⟩ := ev_max_spec (ρ := ρ) z
  obtain ⟨g1, -⟩ := g r hr
  refine gd_w (fun _ => hr) (ev_le.rf h) (g r) (fun F x1 x2 x3 x4 x5 ws H locs ls stv hP hD hS hH hL hR kk => ?_) z
  obtain ⟨u, m1, rfl, h1, hr1⟩ := hR.cons
  obtain ⟨w, m2, rfl, h2, hr2⟩ := hr1.cons
  obtain ⟨y, rfl, hy⟩ := h1.i
  obtain ⟨x, rfl, hx⟩ := h2.i
  have y1 := g1.1
  have y2 := g1.2
  refine va_mmax F.1 F.2.1 (by rw [hL.1, F.2.2.1]) F.2.2.2.1 (F.2.2.2.2.1 _ hl) (F.2.2.2.2.1 _ hs) (F.2.2.2.2.1 _ hin) (F.2.2.2.2.1 _ hcode) (by rw [F.2.2.2.2.2.2.2.2.1]; exact hfr) (by rw [F.2.2.2.2.2.2.2.2.2.1, ev_sum hr2]; exact hst) (by omega) (by omega) d (kk ws ev_E.rf H locs ls _ hP hD hS hH hL ⟨ev_RV.ofi (hv x y hx hy), hr2⟩)
theorem gd_min {idx : Nat} (hl : Cond.methodLink own idx Lib.Math.min.name ∈ ev_good) (hs : Cond.static Lib.Math.min.name ∈ ev_good) (hin : Cond.initialized "java/lang/Math" ∈ ev_good) (hcode : Cond.code Lib.Math.min.name Lib.Math.min.code 2 (some .int) ∈ ev_good) (hfr : 1 ≤ fr) (hst : (st.map fun q => if q.1 = 2 ∨ q.1 = 4 then 2 else 1).sum + 13 ≤ lo)
    (d : decode cc pc = .ok (.invokestatic idx, 3)) (g : ∀ r, ev_Gd p l e R s m args below meth c ρ τ D tys A c0 s0 nL cc own fr lo w0 ret hh nm Q X (pc + 3) lv ((1, r) :: st) h (k r)) : ev_Gd p l e R s m args below meth c ρ τ D tys A c0 s0 nL cc own fr lo w0 ret hh nm Q X pc lv ((1, b) :: (1, a) :: st) h (ev_min a b k) := by
  intro z
  obtain ⟨r, hr, hv⟩ := ev_min_spec (ρ := ρ) z
  obtain ⟨g1, -⟩ := g r hr
  refine gd_w (fun _ => hr) (ev_le.rf h) (g r) (fun F x1 x2 x3 x4 x5 ws H locs ls stv hP hD hS hH hL hR kk => ?_) z
  obtain ⟨u, m1, rfl, h1, hr1⟩ := hR.cons
  obtain ⟨w, m2, rfl, h2, hr2⟩ := hr1.cons
  obtain ⟨y, rfl, hy⟩ := h1.i
  obtain ⟨x, rfl, hx⟩ := h2.i
  have y1 := g1.1
  have y2 := g1.2
  refine va_mmin F.1 F.2.1 (by rw [hL.1, F.2.2.1]) F.2.2.2.1 (F.2.2.2.2.1 _ hl) (F.2.2.2.2.1 _ hs) (F.2.2.2.2.1 _ hin) (F.2.2.2.2.1 _ hcode) (by rw [F.2.2.2.2.2.2.2.2.1]; exact hfr) (by rw [F.2.2.2.2.2.2.2.2.2.1, ev_sum hr2]; exact hst) (by omega) (by omega) d (kk ws ev_E.rf H locs ls _ hP hD hS hH hL ⟨ev_RV.ofi (hv x y hx hy), hr2⟩)
-- a method's contract
def ev_al : Nat → List (Nat × Nat) → List (Nat × (Nat × Nat))
  | _, [] => []
  | i, q :: l => (i, q) :: ev_al (if q.1 = 2 ∨ q.1 = 4 then i + 2 else i + 1) l
theorem ev_al_at : ∀ {as : List (Nat × Nat)} {ws : va_W} {av : List Value} (i0 : Nat), ev_R1 ρ τ ws as av → ∀ i k n, (i, (k, n)) ∈ ev_al i0 as → ∃ v, (i, v) ∈ lv_args i0 av ∧ ev_RV ρ τ ws k n v
  | [], _, [], _, _, i, k, n, hm => nomatch hm
  | [], _, _ :: _, _, hr, _, _, _, _ => hr.elim
  | _ :: _, _, [], _, hr, _, _, _, _ => hr.elim
  | q :: as, ws, v :: av, i0, hr, i, k, n, hm => by
    have hc : (if q.1 = 2 ∨ q.1 = 4 then i0 + 2 else i0 + 1) = (if v.category = 2 then i0 + 2 else i0 + 1) := by
      rw [hr.1.cat]
      by_cases h2 : q.1 = 2 ∨ q.1 = 4
      · rw [if_pos h2, if_pos h2, if_pos rfl]
      · rw [if_neg h2, if_neg h2, if_neg (by decide)]
    rcases List.mem_cons.mp hm with hm | hm
    · cases hm
      exact ⟨v, List.mem_cons_self, hr.1⟩
    · rw [hc] at hm
      obtain ⟨u, h1, h2⟩ := ev_al_at _ hr.2 i k n hm
      exact ⟨u, List.mem_cons_of_mem _ h1, h2⟩
theorem ev_al_len : ∀ {as : List (Nat × Nat)} {ws : va_W} {av : List Value}, ev_R1 ρ τ ws as av → (lg_sl av).length = (as.map fun q => if q.1 = 2 ∨ q.1 = 4 then 2 else 1).sum
  | [], _, [], _ => rfl
  | [], _, _ :: _, hr => hr.elim
  | _ :: _, _, [], hr => hr.elim
  | q :: as, ws, v :: av, hr => by
    have h1 := ev_al_len hr.2
    have h2 : lg_sl (v :: av) = (if v.category = 2 then [.val v, .second] else [.val v]) ++ lg_sl av := rfl
    rw [h2, List.length_append, h1, List.map_cons, List.sum_cons, hr.1.cat]
    by_cases h3 : q.1 = 2 ∨ q.1 = 4
    · rw [if_pos h3, if_pos rfl]; rfl
    · rw [if_neg h3, if_neg (by decide)]; rfl
theorem gd_con {y : MethodName} {bytes : ByteArray} {as : List (Nat × Nat)} (hy : plainName y.cls = true) (hown : y.cls = own) (htr : l.stackTraces = false) (hn : (as.map fun q => if q.1 = 2 ∨ q.1 = 4 then 2 else 1).sum ≤ nL)
    (body : ∀ (p : Program) (e : Env) (R : Room) (s : State) (m : MethodId) (args : Array Value) (below : List Frame) (meth : Method) (c : Code) (w0 : va_W), ev_Gd p l e R s m args below meth c ρ τ D tys A (ev_c h) (ev_z h) nL bytes own fr lo w0 ret [] y.name (ev_Q below ρ τ D tys A rk X w0 args s (ev_c h) (ev_z h)) X 0 (ev_al 0 as) [] h K)
    (hK : K = some X) : ev_Con l ρ τ D tys A y (Cond.code y bytes nL ret) fr lo rk as h X := by
  refine ⟨fun q => (body q.1 q.2.1 q.2.2.1 q.2.2.2.1 q.2.2.2.2.1 q.2.2.2.2.2.1 q.2.2.2.2.2.2.1 q.2.2.2.2.2.2.2.1 q.2.2.2.2.2.2.2.2 [] hK).1, fun ws av hH hR => vx_ofW hy rfl ?_⟩
  intro p e s m args below meth c s₁ B hml ht hv
  obtain ⟨rfl, hP, hD, hK0, hA⟩ := hv
  have htl : c.exceptionTable.toList = [] := List.eq_nil_iff_forall_not_mem.mpr fun x hx => ht x hx
  have F : ev_F p l e (headSpec (Cond.code y bytes nL ret :: ev_good) { frames := fr, cells := ev_c (ev_xh X) - ev_c h, slots := ev_z (ev_xh X) - ev_z h, locals := lo }).room s m av.toArray below meth c ρ τ D tys A (ev_c h) (ev_z h) nL bytes own fr lo ws ret [] y.name :=
    ⟨B.exec, B.bytes, hml, by rw [← hown]; exact findClass_of_methodNamed B.named, fun w hw => atoms_spec (ws := Cond.code y bytes nL ret :: ev_good) B.pre w (List.mem_cons_of_mem _ hw), B.notSynchronized, hK0, hA, rfl, rfl, htr, B.returns, htl, (name_of_methodNamed B.named B.method).1, rfl, rfl, rfl, rfl, rfl, rfl⟩
  rw [lg_entry_eq]
  have hl := lv_entry av (n := nL) (by rw [ev_al_len hR]; exact hn)
  obtain ⟨-, g⟩ := body p e _ s m av.toArray below meth c ws hK
  have g2 := g F (by show _ ≤ ev_c h + (ev_c (ev_xh X) - ev_c h); omega) (by show _ ≤ ev_z h + (ev_z (ev_xh X) - ev_z h); omega) (Nat.le_refl _) (Nat.le_refl _) ws s.heap [] (lg_sl av ++ List.replicate (nL - (lg_sl av).length) Slot.unset).toArray [] ev_E.rf hP hD va_S.rf hH ⟨hl.1, hl.2.1, fun i k n hm => by
    obtain ⟨v, h1, h2⟩ := ev_al_at 0 hR i k n hm
    exact ⟨v, hl.2.2 _ h1, h2⟩⟩ trivial
  rw [Nat.sub_self, Nat.sub_self] at g2
  exact g2
end EVG
