/-! THE WALK: stores into arrays, making -/
theorem ev_RA_inj {U : State} {c1 c2 : ClassId} {ty : FieldType} (h1 : va_RA U c1 ty) (h2 : va_RA U c2 ty) : c1 = c2 := by
  cases ty with
  | object C =>
    obtain ⟨_, _, -, -, -, h1⟩ := h1
    obtain ⟨_, _, -, -, -, h2⟩ := h2
    exact Option.some.inj (h1.symm.trans h2)
  | _ => exact Option.some.inj (Eq.trans (Eq.symm h1) h2)
theorem ev_sl0 (q : Nat) : ev_sl 0 q = 0 := by
  unfold ev_sl
  show Nat.land (0 >>> q) _ = 0
  rw [Nat.zero_shiftRight]
  exact Nat.zero_and _
theorem ev_at0 (i : Nat) : ev_at (.leaf 0) i = 0 := ev_sl0 _
section EVG
variable {p : Program} {l : Launch} {e : Env} {R : Room} {s : State} {m : MethodId} {args : Array Value} {below : List Frame} {meth : Method} {c : Code} {ρ : Nat → Int32} {τ : Nat → Nat} {D : va_G} {tys : List (ClassId × FieldType)} {A : Nat → Prop} {c0 s0 nL : Nat} {cc : ByteArray} {own : String} {fr lo : Nat} {w0 : va_W} {ret : Option FieldType} {hh : List ExceptionTableEntry} {nm : String}
variable {Q : State → Prop} {X : ev_X} {pc : Nat} {lv lv' : List (Nat × (Nat × Nat))} {st st' : List (Nat × Nat)} {h : ev_H} {K L : ev_O} {n i a b v tgt : Nat} {off : Int} {k : Nat → ev_O} {kh : ev_H → ev_O} {kn : Nat → ev_H → ev_O}
theorem ev_HR.arrput {ws : va_W} {kd len a' : Nat} {T' : ev_T} {cA : ClassId} {ty : FieldType} {f f' : ev_B} {t : Lean.RArray (Option ev_C)} (hH : ev_HR ev_kf ρ τ tys h ws) (hlt : a < 1088) (h64 : 64 ≤ a) (he : ws[a - 64]? = some (a', .inl (cA, (len, f)))) (ht : tys[kd]? = some (cA, ty)) (hlen : len ≤ 1048576) (hAR : ev_AR ρ τ ws kd len T' f')
    (htg : ∀ x, 0 ≤ x → x < 1088 → t.get x = if x = a then some (.inr (kd, (len, T'))) else h.1.get x) : ev_HR ev_kf ρ τ tys (t, h.2) (ws.set (a - 64) (a', .inl (cA, (len, f')))) :=
  hH.set (cell := .inr (kd, (len, T'))) hlt h64 he ⟨cA, f', rfl, ⟨ty, ht⟩, hlen, hAR⟩ htg
theorem gd_iastore (d : decode cc pc = .ok (.iastore, 1)) (g : ∀ h', ev_Gd p l e R s m args below meth c ρ τ D tys A c0 s0 nL cc own fr lo w0 ret hh nm Q X (pc + 1) lv st h' (kh h')) : ev_Gd p l e R s m args below meth c ρ τ D tys A c0 s0 nL cc own fr lo w0 ret hh nm Q X pc lv ((1, v) :: (1, i) :: (3, a) :: st) h (ev_ast h 0 a i v kh) := by
  intro z
  obtain ⟨len, T, hg, hi, hk⟩ := ev_ast_spec z
  obtain ⟨T', hk, hT'⟩ := ev_tset_spec hi hk
  obtain ⟨t, hk, htg⟩ := ev_set_spec' hk
  refine gd_w (h' := (t, h.2)) (fun _ => hk) (ev_le.rf h) (g _) (fun F _ _ _ _ _ ws H locs ls stv hP hD hS hH hL hR kk => ?_) z
  obtain ⟨w, m1, rfl, h1, hr1⟩ := hR.cons
  obtain ⟨u, m2, rfl, h2, hr2⟩ := hr1.cons
  obtain ⟨o, m3, rfl, h3, hr3⟩ := hr2.cons
  obtain ⟨hlt, h64, hlen, a', cA, f, ty, rfl, he, ht, hty, hAR⟩ := hH.arr h3 hg F.2.2.2.2.2.2.1.2.1
  cases hty
  obtain ⟨x, rfl, hx⟩ := h2.i
  obtain ⟨y, rfl, hy⟩ := id h1.i
  obtain ⟨e1, e2⟩ := ev_ix (hx.small (by omega)) hi hlen
  rcases hAR with ⟨q0, f1, rfl, hf⟩ | ⟨q, -⟩ | ⟨q, -⟩
  · refine va_iast F.1 F.2.1 F.2.2.2.2.2.2.1.1 hP hD hS (a - 64) 0 he ht e2 d fun H1 locs1 hP1 hD1 hS1 => ?_
    rw [e1] at hP1 hD1
    refine kk _ (ev_E.set he) H1 locs1 ls _ hP1 hD1 hS1 (hH.arrput hlt h64 he ht hlen (Or.inl ⟨q0, _, rfl, fun j hj => ?_⟩) (htg hlt)) (hL.set he) (hr3.set he)
    rw [hT' h1.1 j hj]
    by_cases hji : j = i
    · subst hji
      rw [if_pos rfl]
      simpa [upd] using h1
    · rw [if_neg hji]
      simpa [upd, hji] using hf j hj
  · omega
  · omega
theorem gd_lastore (d : decode cc pc = .ok (.lastore, 1)) (g : ∀ h', ev_Gd p l e R s m args below meth c ρ τ D tys A c0 s0 nL cc own fr lo w0 ret hh nm Q X (pc + 1) lv st h' (kh h')) : ev_Gd p l e R s m args below meth c ρ τ D tys A c0 s0 nL cc own fr lo w0 ret hh nm Q X pc lv ((2, v) :: (1, i) :: (3, a) :: st) h (ev_ast h 3 a i v kh) := by
  intro z
  obtain ⟨len, T, hg, hi, hk⟩ := ev_ast_spec z
  obtain ⟨T', hk, hT'⟩ := ev_tset_spec hi hk
  obtain ⟨t, hk, htg⟩ := ev_set_spec' hk
  refine gd_w (h' := (t, h.2)) (fun _ => hk) (ev_le.rf h) (g _) (fun F _ _ _ _ _ ws H locs ls stv hP hD hS hH hL hR kk => ?_) z
  obtain ⟨w, m1, rfl, h1, hr1⟩ := hR.cons
  obtain ⟨u, m2, rfl, h2, hr2⟩ := hr1.cons
  obtain ⟨o, m3, rfl, h3, hr3⟩ := hr2.cons
  obtain ⟨hlt, h64, hlen, a', cA, f, ty, rfl, he, ht, hty, hAR⟩ := hH.arr h3 hg F.2.2.2.2.2.2.1.2.1
  cases hty
  obtain ⟨x, rfl, hx⟩ := h2.i
  obtain ⟨y, rfl, hy⟩ := id h1.l
  obtain ⟨e1, e2⟩ := ev_ix (hx.small (by omega)) hi hlen
  rcases hAR with ⟨q, -⟩ | ⟨q0, f1, rfl, hf⟩ | ⟨q, -⟩
  · omega
  · refine va_last F.1 F.2.1 F.2.2.2.2.2.2.1.1 hP hD hS (a - 64) 3 he ht e2 d fun H1 locs1 hP1 hD1 hS1 => ?_
    rw [e1] at hP1 hD1
    refine kk _ (ev_E.set he) H1 locs1 ls _ hP1 hD1 hS1 (hH.arrput hlt h64 he ht hlen (Or.inr (Or.inl ⟨q0, _, rfl, fun j hj => ?_⟩)) (htg hlt)) (hL.set he) (hr3.set he)
    rw [hT' h1.1 j hj]
    by_cases hji : j = i
    · subst hji
      rw [if_pos rfl]
      simpa [vp_updL] using h1
    · rw [if_neg hji]
      simpa [vp_updL, hji] using hf j hj
  · omega
theorem ev_nar_b : ∀ n, n ≤ 127 → vp_nar .byte (Int32.ofNat n) = Int32.ofNat n := by decide +kernel
theorem ev_nar_z : ∀ n, n ≤ 1 → vp_nar .boolean (Int32.ofNat n) = Int32.ofNat n := by decide +kernel
theorem ev_bast1 {v' : Nat} (d : decode cc pc = .ok (.bastore, 1)) (hv : v' < 1208925819614629174706176) (hnar : ∀ y, ev_VI ρ v y → ev_VI ρ v' (vp_nar .byte y)) (g : ∀ h', ev_Gd p l e R s m args below meth c ρ τ D tys A c0 s0 nL cc own fr lo w0 ret hh nm Q X (pc + 1) lv st h' (kh h')) : ev_Gd p l e R s m args below meth c ρ τ D tys A c0 s0 nL cc own fr lo w0 ret hh nm Q X pc lv ((1, v) :: (1, i) :: (3, a) :: st) h (ev_ast h 1 a i v' kh) := by
  intro z
  obtain ⟨len, T, hg, hi, hk⟩ := ev_ast_spec z
  obtain ⟨T', hk, hT'⟩ := ev_tset_spec hi hk
  obtain ⟨t, hk, htg⟩ := ev_set_spec' hk
  refine gd_w (h' := (t, h.2)) (fun _ => hk) (ev_le.rf h) (g _) (fun F _ _ _ _ _ ws H locs ls stv hP hD hS hH hL hR kk => ?_) z
  obtain ⟨w, m1, rfl, h1, hr1⟩ := hR.cons
  obtain ⟨u, m2, rfl, h2, hr2⟩ := hr1.cons
  obtain ⟨o, m3, rfl, h3, hr3⟩ := hr2.cons
  obtain ⟨hlt, h64, hlen, a', cA, f, ty, rfl, he, ht, hty, hAR⟩ := hH.arr h3 hg F.2.2.2.2.2.2.1.2.1
  cases hty
  obtain ⟨x, rfl, hx⟩ := h2.i
  obtain ⟨y, rfl, hy⟩ := id h1.i
  obtain ⟨e1, e2⟩ := ev_ix (hx.small (by omega)) hi hlen
  rcases hAR with ⟨q0, f1, rfl, hf⟩ | ⟨q, -⟩ | ⟨q, -⟩
  · refine va_bast F.1 F.2.1 F.2.2.2.2.2.2.1.1 hP hD hS (a - 64) 1 he ht e2 d fun H1 locs1 hP1 hD1 hS1 => ?_
    rw [e1] at hP1 hD1
    refine kk _ (ev_E.set he) H1 locs1 ls _ hP1 hD1 hS1 (hH.arrput hlt h64 he ht hlen (Or.inl ⟨q0, _, rfl, fun j hj => ?_⟩) (htg hlt)) (hL.set he) (hr3.set he)
    rw [hT' hv j hj]
    by_cases hji : j = i
    · subst hji
      rw [if_pos rfl]
      simpa [upd] using (ev_RV.ofi (hnar y hy) : ev_RV ρ τ ws 1 v' _)
    · rw [if_neg hji]
      simpa [upd, hji] using hf j hj
  · omega
  · omega
theorem gd_bastore (d : decode cc pc = .ok (.bastore, 1)) (g : ∀ h', ev_Gd p l e R s m args below meth c ρ τ D tys A c0 s0 nL cc own fr lo w0 ret hh nm Q X (pc + 1) lv st h' (kh h')) : ev_Gd p l e R s m args below meth c ρ τ D tys A c0 s0 nL cc own fr lo w0 ret hh nm Q X pc lv ((1, v) :: (1, i) :: (3, a) :: st) h (ev_bast h a i v kh) := by
  intro z
  rcases ev_if_or z with ⟨hb, hk⟩ | ⟨-, hk⟩
  · have hb := Nat.le_of_ble_eq_true hb
    exact ev_bast1 d (by omega) (fun y hy => by
      have h1 := hy.small (by omega)
      rw [ev_ofn h1, ev_nar_b v hb, ← ev_ofn h1]
      exact hy) g hk
  · exact ev_bast1 d (by decide) (fun y _ => ev_VI.any ρ _) g hk
theorem gd_zastore (d : decode cc pc = .ok (.bastore, 1)) (g : ∀ h', ev_Gd p l e R s m args below meth c ρ τ D tys A c0 s0 nL cc own fr lo w0 ret hh nm Q X (pc + 1) lv st h' (kh h')) : ev_Gd p l e R s m args below meth c ρ τ D tys A c0 s0 nL cc own fr lo w0 ret hh nm Q X pc lv ((1, v) :: (1, i) :: (3, a) :: st) h (ev_zast h a i v kh) := by
  intro z0
  rcases ev_if_or z0 with ⟨hb, z⟩ | ⟨-, z⟩
  · have hb := Nat.le_of_ble_eq_true hb
    obtain ⟨len, T, hg, hi, hk⟩ := ev_ast_spec z
    obtain ⟨T', hk, hT'⟩ := ev_tset_spec hi hk
    obtain ⟨t, hk, htg⟩ := ev_set_spec' hk
    refine gd_w (h' := (t, h.2)) (fun _ => hk) (ev_le.rf h) (g _) (fun F _ _ _ _ _ ws H locs ls stv hP hD hS hH hL hR kk => ?_) z0
    obtain ⟨w, m1, rfl, h1, hr1⟩ := hR.cons
    obtain ⟨u, m2, rfl, h2, hr2⟩ := hr1.cons
    obtain ⟨o, m3, rfl, h3, hr3⟩ := hr2.cons
    obtain ⟨hlt, h64, hlen, a', cA, f, ty, rfl, he, ht, hty, hAR⟩ := hH.arr h3 hg F.2.2.2.2.2.2.1.2.1
    cases hty
    obtain ⟨x, rfl, hx⟩ := h2.i
    obtain ⟨y, rfl, hy⟩ := id h1.i
    obtain ⟨e1, e2⟩ := ev_ix (hx.small (by omega)) hi hlen
    rcases hAR with ⟨q0, f1, rfl, hf⟩ | ⟨q, -⟩ | ⟨q, -⟩
    · refine va_zast F.1 F.2.1 F.2.2.2.2.2.2.1.1 hP hD hS (a - 64) 2 he ht e2 d fun H1 locs1 hP1 hD1 hS1 => ?_
      have hn := hy.small (by omega)
      rw [e1, ev_ofn hn, ev_nar_z v hb, ← ev_ofn hn] at hP1 hD1
      refine kk _ (ev_E.set he) H1 locs1 ls _ hP1 hD1 hS1 (hH.arrput hlt h64 he ht hlen (Or.inl ⟨q0, _, rfl, fun j hj => ?_⟩) (htg hlt)) (hL.set he) (hr3.set he)
      rw [hT' h1.1 j hj]
      by_cases hji : j = i
      · subst hji
        rw [if_pos rfl]
        simpa [upd] using h1
      · rw [if_neg hji]
        simpa [upd, hji] using hf j hj
    · omega
    · omega
  · cases z
theorem ev_aastN {kd : Nat} {C : String} (hkd : 4 ≤ kd) (hkc : ev_tl6[kd]? = some (.object C)) (hv : v = 0) (d : decode cc pc = .ok (.aastore, 1)) (g : ∀ h', ev_Gd p l e R s m args below meth c ρ τ D tys A c0 s0 nL cc own fr lo w0 ret hh nm Q X (pc + 1) lv st h' (kh h')) : ev_Gd p l e R s m args below meth c ρ τ D tys A c0 s0 nL cc own fr lo w0 ret hh nm Q X pc lv ((3, v) :: (1, i) :: (3, a) :: st) h (ev_ast h kd a i 0 kh) := by
  intro z
  obtain ⟨len, T, hg, hi, hk⟩ := ev_ast_spec z
  obtain ⟨T', hk, hT'⟩ := ev_tset_spec hi hk
  obtain ⟨t, hk, htg⟩ := ev_set_spec' hk
  refine gd_w (h' := (t, h.2)) (fun _ => hk) (ev_le.rf h) (g _) (fun F _ _ _ _ _ ws H locs ls stv hP hD hS hH hL hR kk => ?_) z
  obtain ⟨w, m1, rfl, h1, hr1⟩ := hR.cons
  obtain ⟨u, m2, rfl, h2, hr2⟩ := hr1.cons
  obtain ⟨o, m3, rfl, h3, hr3⟩ := hr2.cons
  obtain ⟨hlt, h64, hlen, a', cA, f, ty, rfl, he, ht, hty, hAR⟩ := hH.arr h3 hg F.2.2.2.2.2.2.1.2.1
  rw [hkc] at hty
  cases hty
  obtain ⟨x, rfl, hx⟩ := h2.i
  have hw := h1.r.z hv
  subst hw
  obtain ⟨e1, e2⟩ := ev_ix (hx.small (by omega)) hi hlen
  rcases hAR with ⟨q, -⟩ | ⟨q, -⟩ | ⟨q0, f1, rfl, hf⟩
  · omega
  · omega
  · refine va_astqN F.1 F.2.1 F.2.2.2.2.2.2.1.1 hP hD hS (a - 64) kd he ht e2 d fun H1 locs1 hP1 hD1 hS1 => ?_
    rw [e1] at hP1 hD1
    refine kk _ (ev_E.set he) H1 locs1 ls _ hP1 hD1 hS1 (hH.arrput hlt h64 he ht hlen (Or.inr (Or.inr ⟨q0, _, rfl, fun j hj => ?_⟩)) (htg hlt)) (hL.set he) (hr3.set he)
    rw [hT' (by decide) j hj]
    by_cases hji : j = i
    · subst hji
      rw [if_pos rfl]
      have h0 : va_rf (va_up f1 j none j) = .null := by simp [va_up, va_rf]
      rw [h0]
      exact ev_RV.ofr (by decide) (Or.inl ⟨rfl, rfl⟩)
    · rw [if_neg hji]
      simpa [va_up, hji] using hf j hj
theorem ev_aastO {kd ci N : Nat} {r : vw_C} (hkd : 4 ≤ kd) (hkc : ev_tl6[kd]? = some (.object r.1)) (hc : ev_cl[ci]? = some r) (hgv : h.1.get v = some (.inl (ci, N))) (d : decode cc pc = .ok (.aastore, 1)) (g : ∀ h', ev_Gd p l e R s m args below meth c ρ τ D tys A c0 s0 nL cc own fr lo w0 ret hh nm Q X (pc + 1) lv st h' (kh h')) : ev_Gd p l e R s m args below meth c ρ τ D tys A c0 s0 nL cc own fr lo w0 ret hh nm Q X pc lv ((3, v) :: (1, i) :: (3, a) :: st) h (ev_ast h kd a i v kh) := by
  intro z
  obtain ⟨len, T, hg, hi, hk⟩ := ev_ast_spec z
  obtain ⟨T', hk, hT'⟩ := ev_tset_spec hi hk
  obtain ⟨t, hk, htg⟩ := ev_set_spec' hk
  refine gd_w (h' := (t, h.2)) (fun _ => hk) (ev_le.rf h) (g _) (fun F _ _ _ _ _ ws H locs ls stv hP hD hS hH hL hR kk => ?_) z
  obtain ⟨w, m1, rfl, h1, hr1⟩ := hR.cons
  obtain ⟨u, m2, rfl, h2, hr2⟩ := hr1.cons
  obtain ⟨o, m3, rfl, h3, hr3⟩ := hr2.cons
  obtain ⟨hlt, h64, hlen, a', cA, f, ty, rfl, he, ht, hty, hAR⟩ := hH.arr h3 hg F.2.2.2.2.2.2.1.2.1
  rw [hkc] at hty
  cases hty
  obtain ⟨x, rfl, hx⟩ := h2.i
  obtain ⟨-, -, v', ev, rfl, hev, hCv⟩ := hH.at h1 hgv
  obtain ⟨fs, rfl, -⟩ := hCv
  obtain ⟨e1, e2⟩ := ev_ix (hx.small (by omega)) hi hlen
  rcases hAR with ⟨q, -⟩ | ⟨q, -⟩ | ⟨q0, f1, rfl, hf⟩
  · omega
  · omega
  · refine va_astq F.1 F.2.1 F.2.2.2.2.2.2.1.1 hP hD hS (a - 64) kd (v - 64) ci he ht hev hc e2 d fun H1 locs1 hP1 hD1 hS1 => ?_
    rw [e1] at hP1 hD1
    refine kk _ (ev_E.set he) H1 locs1 ls _ hP1 hD1 hS1 (hH.arrput hlt h64 he ht hlen (Or.inr (Or.inr ⟨q0, _, rfl, fun j hj => ?_⟩)) (htg hlt)) (hL.set he) (hr3.set he)
    rw [hT' h1.1 j hj]
    by_cases hji : j = i
    · subst hji
      rw [if_pos rfl]
      have h0 : va_rf (va_up f1 j (some v') j) = .ref v' := by simp [va_up, va_rf]
      rw [h0]
      exact h1
    · rw [if_neg hji]
      simpa [va_up, hji] using hf j hj
theorem gd_aastore {kd ci : Nat} {r : vw_C} (hkd : 4 ≤ kd) (hkc : ev_tl6[kd]? = some (.object r.1)) (hc : ev_cl[ci]? = some r) (d : decode cc pc = .ok (.aastore, 1)) (g : ∀ h', ev_Gd p l e R s m args below meth c ρ τ D tys A c0 s0 nL cc own fr lo w0 ret hh nm Q X (pc + 1) lv st h' (kh h')) : ev_Gd p l e R s m args below meth c ρ τ D tys A c0 s0 nL cc own fr lo w0 ret hh nm Q X pc lv ((3, v) :: (1, i) :: (3, a) :: st) h (ev_aast h kd ci a i v kh) := by
  intro z
  rcases ev_if_or z with ⟨hb, hk⟩ | ⟨-, hk⟩
  · exact ev_aastN hkd hkc (Nat.eq_of_beq_eq_true hb) d g hk
  · rcases ev_cell_or hk with ⟨c', N, hg, hk⟩ | ⟨_, _, _, _, hk⟩
    · rcases ev_if_or hk with ⟨hb, hk⟩ | ⟨-, hk⟩
      · have hc' := Nat.eq_of_beq_eq_true hb
        rw [hc'] at hg
        exact ev_aastO hkd hkc hc hg d g hk
      · cases hk
    · cases hk
-- making
def ev_okty : FieldType → Bool
  | .int => true
  | .boolean => true
  | .byte => true
  | .long => true
  | .object _ => true
  | .array _ => true
  | _ => false
theorem ev_dflt {ws : va_W} {ty : FieldType} (h : ev_okty ty = true) : ev_RV ρ τ ws (ev_kind ty) 0 (defaultValue ty) := by
  cases ty <;> first
    | exact ev_RV.ofi (Or.inl rfl)
    | exact ev_RV.ofl (Or.inl rfl)
    | exact ev_RV.ofr (by decide) (Or.inl ⟨rfl, rfl⟩)
    | cases h
theorem ev_new_spec {ci nf : Nat} (e : ev_new h ci nf kn = some X) : ∃ t, kn (h.2.2.1 + 64) (t, (h.2.1, (h.2.2.1 + 1, (ev_c h + 1, ev_z h + nf)))) = some X ∧ h.2.2.1 + 64 < 1088 ∧ ∀ j, 0 ≤ j → j < 1088 → t.get j = if j = h.2.2.1 + 64 then some (.inl (ci, 0)) else h.1.get j := by
  unfold ev_new at e
  rw [ev_f_eq] at e
  rcases ev_if_or e with ⟨hb, e⟩ | ⟨-, e⟩
  · have hb : h.2.2.1 + 64 + 1 ≤ 1088 := Nat.le_of_ble_eq_true hb
    obtain ⟨t, h1, h2⟩ := ev_set_spec rfl _ _ h.1 0 1088 _ (Nat.zero_le _) (show h.2.2.1 + 64 < 1088 by omega) e
    rw [ev_f_eq, ev_f_eq, ev_f_eq] at h1
    exact ⟨t, h1, by omega, h2⟩
  · cases e
theorem ev_newa_spec {kd len : Nat} (e : ev_newa h kd len kn = some X) : len ≤ 1048576 ∧ ∃ t, kn (h.2.2.1 + 64) (t, (h.2.1, (h.2.2.1 + 1, (ev_c h + 1, ev_z h + len)))) = some X ∧ h.2.2.1 + 64 < 1088 ∧ ∀ j, 0 ≤ j → j < 1088 → t.get j = if j = h.2.2.1 + 64 then some (.inr (kd, (len, .leaf 0))) else h.1.get j := by
  rcases ev_if_or e with ⟨hl, e⟩ | ⟨-, e⟩
  · rw [ev_f_eq] at e
    rcases ev_if_or e with ⟨hb, e⟩ | ⟨-, e⟩
    · have hb : h.2.2.1 + 64 + 1 ≤ 1088 := Nat.le_of_ble_eq_true hb
      obtain ⟨t, h1, h2⟩ := ev_set_spec rfl _ _ h.1 0 1088 _ (Nat.zero_le _) (show h.2.2.1 + 64 < 1088 by omega) e
      rw [ev_f_eq, ev_f_eq, ev_f_eq] at h1
      exact ⟨Nat.le_of_ble_eq_true hl, t, h1, by omega, h2⟩
    · cases e
  · cases e
theorem ev_pushed {ws : va_W} {q : Nat} {en : va_E} (hH : ev_HR ev_kf ρ τ tys h ws) (h1 : h.2.2.1 + 64 < 1088) : ev_RV ρ τ (ws ++ [(q, en)]) 3 (h.2.2.1 + 64) (.ref q) :=
  ev_RV.ofr (by omega) (Or.inr (Or.inr (Or.inr ⟨by omega, q, en, by rw [show h.2.2.1 + 64 - 64 = ws.length by have := hH.1; omega, List.getElem?_append_right (Nat.le_refl _), Nat.sub_self]; rfl, rfl⟩)))
theorem gd_new {idx ci N : Nat} {C : String} {T : u_T} (ty0 : Nat → FieldType) (hty : ∀ k, k < N → parseFieldDescriptor (T k).2.2.1 = some (ty0 k)) (hc : ev_cl[ci]? = some (C, T, N)) (hkf : ev_kf ci = (List.range N).map fun k => ev_kind (ty0 k)) (hok : ∀ k, k < N → ev_okty (ty0 k) = true) (hu : ∀ w ∈ u_ws C T N, w ∈ ev_good)
    (hl : Cond.classLink own idx C ∈ ev_good) (hi : Cond.instantiable C N ∈ ev_good) (hn : Cond.initialized C ∈ ev_good)
    (d : decode cc pc = .ok (.new idx, 3)) (g : ∀ r h', ev_Gd p l e R s m args below meth c ρ τ D tys A c0 s0 nL cc own fr lo w0 ret hh nm Q X (pc + 3) lv ((3, r) :: st) h' (kn r h')) : ev_Gd p l e R s m args below meth c ρ τ D tys A c0 s0 nL cc own fr lo w0 ret hh nm Q X pc lv st h (ev_new h ci N kn) := by
  intro z
  obtain ⟨t, hk, h64, htg⟩ := ev_new_spec z
  refine gd_w (h' := (t, (h.2.1, (h.2.2.1 + 1, (ev_c h + 1, ev_z h + N))))) (fun _ => hk) ⟨Nat.le_succ _, Nat.le_add_right _ _⟩ (g _ _) (fun F x1 x2 x3 x4 x5 ws H locs ls stv hP hD hS hH hL hR kk => ?_) z
  have x5a : ev_c h + 1 ≤ ev_c (ev_xh X) := x5.1
  have x5b : ev_z h + N ≤ ev_z (ev_xh X) := x5.2
  have e1 : ev_c h + 1 - c0 = ev_c h - c0 + 1 := by omega
  have e2 : ev_z h + N - s0 = ev_z h - s0 + N := by omega
  have hfl : ∀ j, j < N → ((List.range N).map fun k => defaultValue (ty0 k))[j]? = some (defaultValue (ty0 j)) := fun j hj => by
    rw [List.getElem?_map, List.getElem?_range hj]; rfl
  refine va_new (fs := (List.range N).map fun k => defaultValue (ty0 k)) F.1 F.2.1 F.2.2.2.2.1 hu ty0 hty F.2.2.2.1 (F.2.2.2.2.1 _ hl) (F.2.2.2.2.1 _ hi) (F.2.2.2.2.1 _ hn) F.2.2.2.2.2.2.1.1 hP hD hS F.2.2.2.2.2.2.2.1 hc (fun j hj => ?_) (by omega) (by omega) d fun q H1 hP1 hD1 hS1 => ?_
  · unfold vp_V
    rw [List.getD_eq_getElem?_getD, hfl j hj]
    rfl
  · have hk2 := kk _ ev_E.push H1 locs ls (.ref q :: stv) hP1 hD1 hS1 (hH.push (c := ev_c h + 1) (s := ev_z h + N) h64 (cell := .inl (ci, 0)) ⟨_, rfl, by rw [hkf]; simp, fun j kd hj => ?_⟩ htg) (hL.mono ev_E.push) ⟨ev_pushed hH h64, ev_R1.mono ev_E.push _ _ hR⟩
    · have hk3 : W p l e R s m args below meth c H1 locs (ev_c h + 1 - c0) (ev_z h + N - s0) Q (F0 m (pc + 3) ls (.ref q :: stv)) := hk2
      rw [e1, e2] at hk3
      exact hk3
    · rw [hkf, List.getElem?_map] at hj
      have hjN : j < N := by
        rcases Nat.lt_or_ge j N with q9 | q9
        · exact q9
        · rw [List.getElem?_eq_none (by simpa using q9)] at hj; cases hj
      rw [List.getElem?_range hjN] at hj
      cases hj
      exact ⟨_, hfl j hjN, by rw [ev_sl0]; exact ev_dflt (hok j hjN)⟩
theorem gd_newa {kd : Nat} {atype : ArrayType} {ty : FieldType} (f0 : ev_B) (hty : newarray.typeOf atype = ty) (hkd : ev_tl6[kd]? = some ty) (ha : ∀ (N : Nat) (cA : ClassId), vp_cell cA (N, f0) = arrV cA N (fun _ => defaultValue ty)) (hAR : ∀ ws N, ev_AR ρ τ ws kd N (.leaf 0) f0) (hb : componentBytes ty ≤ 8) (hg : Cond.arrayClass (newarray.typeOf atype) ∈ ev_good)
    (d : decode cc pc = .ok (.newarray atype, 2)) (g : ∀ r h', ev_Gd p l e R s m args below meth c ρ τ D tys A c0 s0 nL cc own fr lo w0 ret hh nm Q X (pc + 2) lv ((3, r) :: st) h' (kn r h')) : ev_Gd p l e R s m args below meth c ρ τ D tys A c0 s0 nL cc own fr lo w0 ret hh nm Q X pc lv ((1, n) :: st) h (ev_newa h kd n kn) := by
  intro z
  obtain ⟨hlen, t, hk, h64, htg⟩ := ev_newa_spec z
  refine gd_w (h' := (t, (h.2.1, (h.2.2.1 + 1, (ev_c h + 1, ev_z h + n))))) (fun _ => hk) ⟨Nat.le_succ _, Nat.le_add_right _ _⟩ (g _ _) (fun F x1 x2 x3 x4 x5 ws H locs ls stv hP hD hS hH hL hR kk => ?_) z
  have x5a : ev_c h + 1 ≤ ev_c (ev_xh X) := x5.1
  have x5b : ev_z h + n ≤ ev_z (ev_xh X) := x5.2
  have e1 : ev_c h + 1 - c0 = ev_c h - c0 + 1 := by omega
  have e2 : ev_z h + n - s0 = ev_z h - s0 + n := by omega
  obtain ⟨u, m1, rfl, h1, hr1⟩ := hR.cons
  obtain ⟨x, rfl, hx⟩ := h1.i
  have hx := hx.small (by omega)
  obtain ⟨q1, q2⟩ := ev_ix2 (n := n + 1) hx (by omega) (by omega)
  obtain ⟨cK, hcK⟩ : ∃ cK, tys[kd]? = some (cK, ty) := by
    have hm := F.2.2.2.2.2.2.1.2.1
    have h9 : (tys.map Prod.snd)[kd]? = some ty := by rw [hm]; exact hkd
    rw [List.getElem?_map] at h9
    cases h8 : tys[kd]? with
    | none => rw [h8] at h9; cases h9
    | some q9 => rw [h8] at h9; cases h9; exact ⟨q9.1, rfl⟩
  refine va_newa (a0 := (n, f0)) F.1 F.2.1 (F.2.2.2.2.1 _ hg) hty F.2.2.2.2.2.2.1.1 hP hD hS F.2.2.2.2.2.2.2.1 (fun cA => ha n cA) (fun q9 => q2 (Or.inl q9)) q1 (Nat.le_trans (Nat.mul_le_mul hlen hb) (by decide)) (by omega) (by omega) d fun q cA H1 hK1 hP1 hD1 hS1 => ?_
  have hc1 : cA = cK := ev_RA_inj (hK1.2 tys.length (cA, ty) (by rw [List.getElem?_append_right (Nat.le_refl _), Nat.sub_self]; rfl)).2 (F.2.2.2.2.2.2.1.1.2 kd _ hcK).2
  have hk2 := kk _ ev_E.push H1 locs ls (.ref q :: m1) hP1 hD1 hS1 (hH.push (c := ev_c h + 1) (s := ev_z h + n) h64 (cell := .inr (kd, (n, .leaf 0))) ⟨cA, f0, rfl, ⟨ty, by rw [hc1]; exact hcK⟩, hlen, hAR _ _⟩ htg) (hL.mono ev_E.push) ⟨ev_pushed hH h64, ev_R1.mono ev_E.push _ _ hr1⟩
  have hk3 : W p l e R s m args below meth c H1 locs (ev_c h + 1 - c0) (ev_z h + n - s0) Q (F0 m (pc + 2) ls (.ref q :: m1)) := hk2
  rw [e1, e2] at hk3
  exact hk3
theorem ev_AR0 {ws : va_W} {kd N : Nat} (hkd : kd ≤ 2) : ev_AR ρ τ ws kd N (.leaf 0) (.inl fun _ => 0) := Or.inl ⟨hkd, _, rfl, fun i _ => by rw [ev_at0]; exact ev_RV.ofi (Or.inl rfl)⟩
theorem ev_AR0l {ws : va_W} {N : Nat} : ev_AR ρ τ ws 3 N (.leaf 0) (.inr (.inl fun _ => 0)) := Or.inr (Or.inl ⟨rfl, _, rfl, fun i _ => by rw [ev_at0]; exact ev_RV.ofl (Or.inl rfl)⟩)
theorem gd_newi (hg : Cond.arrayClass (newarray.typeOf .int) ∈ ev_good) (d : decode cc pc = .ok (.newarray .int, 2)) (g : ∀ r h', ev_Gd p l e R s m args below meth c ρ τ D tys A c0 s0 nL cc own fr lo w0 ret hh nm Q X (pc + 2) lv ((3, r) :: st) h' (kn r h')) : ev_Gd p l e R s m args below meth c ρ τ D tys A c0 s0 nL cc own fr lo w0 ret hh nm Q X pc lv ((1, n) :: st) h (ev_newa h 0 n kn) :=
  gd_newa (ty := .int) (.inl fun _ => 0) rfl rfl (fun _ _ => rfl) (fun _ _ => ev_AR0 (by omega)) (by decide) hg d g
theorem gd_newb (hg : Cond.arrayClass (newarray.typeOf .byte) ∈ ev_good) (d : decode cc pc = .ok (.newarray .byte, 2)) (g : ∀ r h', ev_Gd p l e R s m args below meth c ρ τ D tys A c0 s0 nL cc own fr lo w0 ret hh nm Q X (pc + 2) lv ((3, r) :: st) h' (kn r h')) : ev_Gd p l e R s m args below meth c ρ τ D tys A c0 s0 nL cc own fr lo w0 ret hh nm Q X pc lv ((1, n) :: st) h (ev_newa h 1 n kn) :=
  gd_newa (ty := .byte) (.inl fun _ => 0) rfl rfl (fun _ _ => rfl) (fun _ _ => ev_AR0 (by omega)) (by decide) hg d g
theorem gd_newz (hg : Cond.arrayClass (newarray.typeOf .boolean) ∈ ev_good) (d : decode cc pc = .ok (.newarray .boolean, 2)) (g : ∀ r h', ev_Gd p l e R s m args below meth c ρ τ D tys A c0 s0 nL cc own fr lo w0 ret hh nm Q X (pc + 2) lv ((3, r) :: st) h' (kn r h')) : ev_Gd p l e R s m args below meth c ρ τ D tys A c0 s0 nL cc own fr lo w0 ret hh nm Q X pc lv ((1, n) :: st) h (ev_newa h 2 n kn) :=
  gd_newa (ty := .boolean) (.inl fun _ => 0) rfl rfl (fun _ _ => rfl) (fun _ _ => ev_AR0 (by omega)) (by decide) hg d g
theorem gd_newl (hg : Cond.arrayClass (newarray.typeOf .long) ∈ ev_good) (d : decode cc pc = .ok (.newarray .long, 2)) (g : ∀ r h', ev_Gd p l e R s m args below meth c ρ τ D tys A c0 s0 nL cc own fr lo w0 ret hh nm Q X (pc + 2) lv ((3, r) :: st) h' (kn r h')) : ev_Gd p l e R s m args below meth c ρ τ D tys A c0 s0 nL cc own fr lo w0 ret hh nm Q X pc lv ((1, n) :: st) h (ev_newa h 3 n kn) :=
  gd_newa (ty := .long) (.inr (.inl fun _ => 0)) rfl rfl (fun _ _ => rfl) (fun _ _ => ev_AR0l) (by decide) hg d g
theorem gd_anew {kd idx : Nat} {C : String} (hkd : 4 ≤ kd) (hkc : ev_tl6[kd]? = some (.object C)) (hao : ∀ U, ev_O2 τ A U → va_AO C U) (hl : Cond.classLink own idx C ∈ ev_good)
    (d : decode cc pc = .ok (.anewarray idx, 3)) (g : ∀ r h', ev_Gd p l e R s m args below meth c ρ τ D tys A c0 s0 nL cc own fr lo w0 ret hh nm Q X (pc + 3) lv ((3, r) :: st) h' (kn r h')) : ev_Gd p l e R s m args below meth c ρ τ D tys A c0 s0 nL cc own fr lo w0 ret hh nm Q X pc lv ((1, n) :: st) h (ev_newa h kd n kn) := by
  intro z
  obtain ⟨hlen, t, hk, h64, htg⟩ := ev_newa_spec z
  refine gd_w (h' := (t, (h.2.1, (h.2.2.1 + 1, (ev_c h + 1, ev_z h + n))))) (fun _ => hk) ⟨Nat.le_succ _, Nat.le_add_right _ _⟩ (g _ _) (fun F x1 x2 x3 x4 x5 ws H locs ls stv hP hD hS hH hL hR kk => ?_) z
  have x5a : ev_c h + 1 ≤ ev_c (ev_xh X) := x5.1
  have x5b : ev_z h + n ≤ ev_z (ev_xh X) := x5.2
  have e1 : ev_c h + 1 - c0 = ev_c h - c0 + 1 := by omega
  have e2 : ev_z h + n - s0 = ev_z h - s0 + n := by omega
  obtain ⟨u, m1, rfl, h1, hr1⟩ := hR.cons
  obtain ⟨x, rfl, hx⟩ := h1.i
  have hx := hx.small (by omega)
  obtain ⟨q1, q2⟩ := ev_ix2 (n := n + 1) hx (by omega) (by omega)
  obtain ⟨cK, hcK⟩ : ∃ cK, tys[kd]? = some (cK, .object C) := by
    have hm := F.2.2.2.2.2.2.1.2.1
    have h9 : (tys.map Prod.snd)[kd]? = some (.object C) := by rw [hm]; exact hkc
    rw [List.getElem?_map] at h9
    cases h8 : tys[kd]? with
    | none => rw [h8] at h9; cases h9
    | some q9 =>
      obtain ⟨u9, v9⟩ := q9
      rw [h8] at h9
      have h7 : v9 = .object C := Option.some.inj h9
      exact ⟨u9, by rw [h7]⟩
  refine va_newq F.1 F.2.1 F.2.2.2.1 (F.2.2.2.2.1 _ hl) (hao _ F.2.2.2.2.2.2.1.2.2.2) F.2.2.2.2.2.2.1.1 hP hD hS F.2.2.2.2.2.2.2.1 (fun q9 => q2 (Or.inl q9)) q1 (Nat.le_trans (Nat.mul_le_mul_right 4 hlen) (by decide)) (by omega) (by omega) d fun q cA H1 hK1 hP1 hD1 hS1 => ?_
  have hc1 : cA = cK := ev_RA_inj (hK1.2 tys.length (cA, .object C) (by rw [List.getElem?_append_right (Nat.le_refl _), Nat.sub_self]; rfl)).2 (F.2.2.2.2.2.2.1.1.2 kd _ hcK).2
  have hk2 := kk _ ev_E.push H1 locs ls (.ref q :: m1) hP1 hD1 hS1 (hH.push (c := ev_c h + 1) (s := ev_z h + n) h64 (cell := .inr (kd, (n, .leaf 0))) ⟨cA, _, rfl, ⟨.object C, by rw [hc1]; exact hcK⟩, hlen, Or.inr (Or.inr ⟨hkd, _, rfl, fun i _ => by rw [ev_at0]; exact ev_RV.ofr (by decide) (Or.inl ⟨rfl, rfl⟩)⟩)⟩ htg) (hL.mono ev_E.push) ⟨ev_pushed hH h64, ev_R1.mono ev_E.push _ _ hr1⟩
  have hk3 : W p l e R s m args below meth c H1 locs (ev_c h + 1 - c0) (ev_z h + n - s0) Q (F0 m (pc + 3) ls (.ref q :: m1)) := hk2
  rw [e1, e2] at hk3
  exact hk3
end EVG
