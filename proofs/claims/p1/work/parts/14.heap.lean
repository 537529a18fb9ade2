/-! THE WALK: fields, arrays, making -/
theorem ev_sh (i : Nat) : Nat.shiftRight i 5 = i / 32 := Nat.shiftRight_eq_div_pow i 5
theorem ev_an (i : Nat) : Nat.land i 31 = i % 32 := Nat.and_two_pow_sub_one_eq_mod i 5
theorem ev_at_eq (T : ev_T) (i : Nat) : ev_at T i = ev_sl (T.get (i / 32)) (80 * (i % 32)) := by
  unfold ev_at
  rw [ev_sh, ev_an]
  rfl
theorem ev_tset_spec {T : ev_T} {len i v : Nat} {k : ev_T → ev_O} {X : ev_X} (hi : i < len) (e : ev_tset T len i v k = some X) : ∃ T', k T' = some X ∧ (v < 1208925819614629174706176 → ∀ j, j < len → ev_at T' j = if j = i then v else ev_at T j) := by
  unfold ev_tset at e
  rw [ev_f_eq, ev_f_eq] at e
  have hlt : Nat.shiftRight i 5 < Nat.succ (Nat.shiftRight len 5) := by
    rw [ev_sh, ev_sh]
    show i / 32 < len / 32 + 1
    omega
  obtain ⟨T', hk, hg⟩ := ev_set_spec rfl _ _ T 0 _ k (Nat.zero_le _) hlt e
  refine ⟨T', hk, fun hv j hj => ?_⟩
  have hj2 : j / 32 < Nat.succ (Nat.shiftRight len 5) := by
    rw [ev_sh]
    show j / 32 < len / 32 + 1
    omega
  have h1 := hg (j / 32) (Nat.zero_le _) hj2
  rw [ev_sh, ev_an] at h1
  rw [ev_at_eq, ev_at_eq, h1]
  by_cases hji : j = i
  · subst hji
    rw [if_pos rfl, if_pos rfl]
    exact ev_up_same hv
  · rw [if_neg hji]
    by_cases hc : j / 32 = i / 32
    · rw [if_pos hc, hc]
      exact ev_up_other hv (by omega)
    · rw [if_neg hc]
theorem ev_ix2 {x : Int32} {i n : Nat} (h : ev_n x = i) (hi : i < n) (hn : n ≤ 1048577) : x.toNatClampNeg = i ∧ vp_in x n := by
  have h1 := ev_bi_int x
  rw [ev_bi_eq, h] at h1
  have h2 : x.toInt = (i : Int) := by omega
  have h3 : x.toNatClampNeg = i := by
    show x.toInt.toNat = i
    rw [h2]
    rfl
  refine ⟨h3, fun q => ?_⟩
  rcases q with q | q
  · rw [Int32.lt_iff_toInt_lt, h2] at q
    have h0 : (0 : Int32).toInt = 0 := rfl
    omega
  · omega
theorem ev_ix {x : Int32} {i n : Nat} (h : ev_n x = i) (hi : i < n) (hn : n ≤ 1048576) : x.toNatClampNeg = i ∧ vp_in x n := ev_ix2 h hi (by omega)
abbrev ev_tl6 : List FieldType := [.int, .byte, .boolean, .long, .object RX1, .object RX4]
theorem ev_ty {tys : List (ClassId × FieldType)} {kd : Nat} {cA : ClassId} {ty : FieldType} (hT : tys.map Prod.snd = ev_tl6) (h : tys[kd]? = some (cA, ty)) : ev_tl6[kd]? = some ty := by
  rw [← hT, List.getElem?_map, h]
  rfl
section EVG
variable {p : Program} {l : Launch} {e : Env} {R : Room} {s : State} {m : MethodId} {args : Array Value} {below : List Frame} {meth : Method} {c : Code} {ρ : Nat → Int32} {τ : Nat → Nat} {D : va_G} {tys : List (ClassId × FieldType)} {A : Nat → Prop} {c0 s0 nL : Nat} {cc : ByteArray} {own : String} {fr lo : Nat} {w0 : va_W} {ret : Option FieldType} {hh : List ExceptionTableEntry} {nm : String}
variable {Q : State → Prop} {X : ev_X} {pc : Nat} {lv lv' : List (Nat × (Nat × Nat))} {st st' : List (Nat × Nat)} {h : ev_H} {K L : ev_O} {n i a b v tgt : Nat} {off : Int} {k : Nat → ev_O} {kh : ev_H → ev_O}
theorem gd_w {pc' : Nat} {h' : ev_H} {K' : ev_O} (hK : K = some X → K' = some X) (hle : ev_le h h') (g : ev_Gd p l e R s m args below meth c ρ τ D tys A c0 s0 nL cc own fr lo w0 ret hh nm Q X pc' lv' st' h' K')
    (w : ev_F p l e R s m args below meth c ρ τ D tys A c0 s0 nL cc own fr lo w0 ret hh nm → ev_c (ev_xh X) ≤ c0 + R.cells → ev_z (ev_xh X) ≤ s0 + R.slots → c0 ≤ ev_c h → s0 ≤ ev_z h → ev_le h' (ev_xh X) → ∀ (ws : va_W) (H : Heap) (locs : List Loc) (ls : Array Slot) (stv : List Value), va_P D ev_cl ws H → va_D A ws → va_S A s.heap H locs → ev_HR ev_kf ρ τ tys h ws → ev_LR ρ τ ws nL lv ls → ev_R1 ρ τ ws st stv →
      (∀ (ws' : va_W), ev_E ws ws' → ∀ (H' : Heap) (locs' : List Loc) (ls' : Array Slot) (stv' : List Value), va_P D ev_cl ws' H' → va_D A ws' → va_S A s.heap H' locs' → ev_HR ev_kf ρ τ tys h' ws' → ev_LR ρ τ ws' nL lv' ls' → ev_R1 ρ τ ws' st' stv' → W p l e R s m args below meth c H' locs' (ev_c h' - c0) (ev_z h' - s0) Q (F0 m pc' ls' stv')) →
      W p l e R s m args below meth c H locs (ev_c h - c0) (ev_z h - s0) Q (F0 m pc ls stv)) : ev_Gd p l e R s m args below meth c ρ τ D tys A c0 s0 nL cc own fr lo w0 ret hh nm Q X pc lv st h K := by
  intro q
  obtain ⟨g1, g2⟩ := g (hK q)
  refine ⟨hle.trans g1, fun F x1 x2 x3 x4 ws H locs ls stv hE hP hD hS hH hL hR => w F x1 x2 x3 x4 g1 ws H locs ls stv hP hD hS hH hL hR fun ws' hE' H' locs' ls' stv' a1 a2 a3 a4 a5 a6 => ?_⟩
  exact g2 F x1 x2 (Nat.le_trans x3 hle.1) (Nat.le_trans x4 hle.2) ws' H' locs' ls' stv' (hE.trans hE') a1 a2 a3 a4 a5 a6
theorem ev_getf_spec {ci q : Nat} (e : ev_getf h ci q a k = some X) : ∃ N, h.1.get a = some (.inl (ci, N)) ∧ k (ev_sl N q) = some X := by
  rcases ev_cell_or e with ⟨c', N, hg, hk⟩ | ⟨_, _, _, _, hk⟩
  · rcases ev_if_or hk with ⟨hb, hk2⟩ | ⟨-, hk2⟩
    · have hc := Nat.eq_of_beq_eq_true hb
      rw [ev_f_eq] at hk2
      exact ⟨N, by rw [hg, hc], hk2⟩
    · cases hk2
  · cases hk
theorem ev_putf_spec {ci q v : Nat} (e : ev_putf h ci q a v kh = some X) : ∃ N, h.1.get a = some (.inl (ci, N)) ∧ ev_set none h.1 a (some (.inl (ci, ev_up N q v))) 0 1088 (fun t => kh (t, h.2)) = some X := by
  rcases ev_cell_or e with ⟨c', N, hg, hk⟩ | ⟨_, _, _, _, hk⟩
  · rcases ev_if_or hk with ⟨hb, hk2⟩ | ⟨-, hk2⟩
    · have hc := Nat.eq_of_beq_eq_true hb
      rw [ev_f_eq] at hk2
      exact ⟨N, by rw [hg, hc], hk2⟩
    · cases hk2
  · cases hk
theorem ev_ald_spec {lo hi : Nat} (e : ev_ald h lo hi a i k = some X) : ∃ d len T, h.1.get a = some (.inr (d, (len, T))) ∧ lo ≤ d ∧ d ≤ hi ∧ i < len ∧ k (ev_at T i) = some X := by
  rcases ev_cell_or e with ⟨_, _, _, hk⟩ | ⟨d, len, T, hg, hk⟩
  · cases hk
  · rcases ev_if_or hk with ⟨h1, hk⟩ | ⟨-, hk⟩
    · rcases ev_if_or hk with ⟨h2, hk⟩ | ⟨-, hk⟩
      · rcases ev_if_or hk with ⟨h3, hk⟩ | ⟨-, hk⟩
        · rw [ev_f_eq] at hk
          exact ⟨d, len, T, hg, Nat.le_of_ble_eq_true h1, Nat.le_of_ble_eq_true h2, Nat.le_of_ble_eq_true h3, hk⟩
        · cases hk
      · cases hk
    · cases hk
theorem ev_ast_spec {kd : Nat} (e : ev_ast h kd a i v kh = some X) : ∃ len T, h.1.get a = some (.inr (kd, (len, T))) ∧ i < len ∧ ev_tset T len i v (fun T => ev_set none h.1 a (some (.inr (kd, (len, T)))) 0 1088 fun t => kh (t, h.2)) = some X := by
  rcases ev_cell_or e with ⟨_, _, _, hk⟩ | ⟨d, len, T, hg, hk⟩
  · cases hk
  · rcases ev_if_or hk with ⟨h1, hk⟩ | ⟨-, hk⟩
    · rcases ev_if_or hk with ⟨h2, hk2⟩ | ⟨-, hk2⟩
      · have hc := Nat.eq_of_beq_eq_true h1
        rw [hc] at hk2
        exact ⟨len, T, by rw [hg, hc], Nat.le_of_ble_eq_true h2, hk2⟩
      · cases hk2
    · cases hk
/-- the object of a read -/
theorem ev_HR.obj {ws : va_W} {ci j kd N q : Nat} {u : Value} (hH : ev_HR ev_kf ρ τ tys h ws) (hu : ev_RV ρ τ ws 3 a u) (hg : h.1.get a = some (.inl (ci, N))) (hkd : (ev_kf ci)[j]? = some kd) (hq : 80 * j = q) :
    ∃ a' fs w, u = .ref a' ∧ ws[a - 64]? = some (a', .inr (ci, fs)) ∧ fs[j]? = some w ∧ ev_RV ρ τ ws kd (ev_sl N q) w := by
  obtain ⟨hlt, h64, a', e', rfl, he, hC⟩ := hH.at hu hg
  obtain ⟨fs, rfl, hlen, hf⟩ := hC
  obtain ⟨w, w1, w2⟩ := hf j kd hkd
  subst hq
  exact ⟨a', fs, w, rfl, he, w1, w2⟩
theorem gd_getf {idx ci j kd N q : Nat} {C : String} {T : u_T} (hc : ev_cl[ci]? = some (C, T, N)) (hj : j < N) (hkd : (ev_kf ci)[j]? = some kd) (hu : ∀ w ∈ u_ws C T N, w ∈ ev_good) (hl : Cond.fieldLink own idx (T j).1 (T j).2.1 (T j).2.2.1 ∈ ev_good) (hq : 80 * j = q)
    (d : decode cc pc = .ok (.getfield idx, 3)) (g : ∀ r, ev_Gd p l e R s m args below meth c ρ τ D tys A c0 s0 nL cc own fr lo w0 ret hh nm Q X (pc + 3) lv ((kd, r) :: st) h (k r)) : ev_Gd p l e R s m args below meth c ρ τ D tys A c0 s0 nL cc own fr lo w0 ret hh nm Q X pc lv ((3, a) :: st) h (ev_getf h ci q a k) := by
  intro z
  obtain ⟨W, hg, hk⟩ := ev_getf_spec z
  refine gd_w (fun _ => hk) (ev_le.rf h) (g _) (fun F _ _ _ _ _ ws H locs ls stv hP hD hS hH hL hR kk => ?_) z
  obtain ⟨u, m1, rfl, h1, hr1⟩ := hR.cons
  obtain ⟨a', fs, w, rfl, he, w1, w2⟩ := hH.obj h1 hg hkd hq
  exact va_get F.1 F.2.1 F.2.2.2.2.1 hu F.2.2.2.1 F.2.2.2.2.2.2.1.1 hP (a - 64) he hc j hj (F.2.2.2.2.1 _ hl) (fun x hx => hx) w1 d (kk ws ev_E.rf H locs ls _ hP hD hS hH hL ⟨w2, hr1⟩)
theorem gd_getfN {idx ci j kd N q : Nat} {C host : String} {T : u_T} (hc : ev_cl[ci]? = some (C, T, N)) (hj : j < N) (hkd : (ev_kf ci)[j]? = some kd) (hu : ∀ w ∈ u_ws C T N, w ∈ ev_good) (hl : Cond.fieldLinkNest own idx (T j).1 (T j).2.1 (T j).2.2.1 host ∈ lw_tbl) (hq : 80 * j = q)
    (d : decode cc pc = .ok (.getfield idx, 3)) (g : ∀ r, ev_Gd p l e R s m args below meth c ρ τ D tys A c0 s0 nL cc own fr lo w0 ret hh nm Q X (pc + 3) lv ((kd, r) :: st) h (k r)) : ev_Gd p l e R s m args below meth c ρ τ D tys A c0 s0 nL cc own fr lo w0 ret hh nm Q X pc lv ((3, a) :: st) h (ev_getf h ci q a k) := by
  intro z
  obtain ⟨W, hg, hk⟩ := ev_getf_spec z
  refine gd_w (fun _ => hk) (ev_le.rf h) (g _) (fun F _ _ _ _ _ ws H locs ls stv hP hD hS hH hL hR kk => ?_) z
  obtain ⟨u, m1, rfl, h1, hr1⟩ := hR.cons
  obtain ⟨a', fs, w, rfl, he, w1, w2⟩ := hH.obj h1 hg hkd hq
  exact va_getN F.1 F.2.1 F.2.2.2.2.1 hu F.2.2.2.1 F.2.2.2.2.2.2.1.1 hP (a - 64) he hc j hj (va_Nw.use rfl (F.2.2.2.2.2.2.1.2.2.1 _ hl rfl)) (fun x hx => hx) w1 d (kk ws ev_E.rf H locs ls _ hP hD hS hH hL ⟨w2, hr1⟩)
/-- the world behind a field's write -/
theorem ev_HR.put {ws : va_W} {ci j kd N q a' : Nat} {fs : List Value} {w : Value} {t : Lean.RArray (Option ev_C)} (hH : ev_HR ev_kf ρ τ tys h ws) (hlt : a < 1088) (h64 : 64 ≤ a) (he : ws[a - 64]? = some (a', .inr (ci, fs))) (hlen : fs.length = (ev_kf ci).length)
    (hf : ∀ j kd, (ev_kf ci)[j]? = some kd → ∃ v, fs[j]? = some v ∧ ev_RV ρ τ ws kd (ev_sl N (80 * j)) v) (hkd : (ev_kf ci)[j]? = some kd) (hq : 80 * j = q) (hw : ev_RV ρ τ ws kd v w)
    (ht : ∀ x, 0 ≤ x → x < 1088 → t.get x = if x = a then some (.inl (ci, ev_up N q v)) else h.1.get x) : ev_HR ev_kf ρ τ tys (t, h.2) (ws.set (a - 64) (a', .inr (ci, fs.set j w))) := by
  refine hH.set (cell := .inl (ci, ev_up N q v)) hlt h64 he ⟨_, rfl, by rw [List.length_set]; exact hlen, fun j2 kd2 hj2 => ?_⟩ ht
  obtain ⟨v2, u1, u2⟩ := hf j2 kd2 hj2
  have hl2 := (List.getElem?_eq_some_iff.mp u1).1
  subst hq
  by_cases hjj : j2 = j
  · subst hjj
    rw [hkd] at hj2
    cases hj2
    exact ⟨w, List.getElem?_set_self hl2, by rw [ev_up_same hw.1]; exact hw⟩
  · exact ⟨v2, by rw [List.getElem?_set_ne (Ne.symm hjj)]; exact u1, by rw [ev_up_other hw.1 hjj]; exact u2⟩
theorem ev_LR.set {ws : va_W} {x a' : Nat} {e0 e1 : va_E} {ls : Array Slot} (he : ws[x]? = some (a', e0)) (hL : ev_LR ρ τ ws nL lv ls) : ev_LR ρ τ (ws.set x (a', e1)) nL lv ls := hL.mono (ev_E.set he)
theorem ev_R1.set {ws : va_W} {x a' : Nat} {e0 e1 : va_E} {sv : List Value} (he : ws[x]? = some (a', e0)) (hR : ev_R1 ρ τ ws st sv) : ev_R1 ρ τ (ws.set x (a', e1)) st sv := ev_R1.mono (ev_E.set he) _ _ hR
/-- what a field of this type takes -/
def ev_Fit (ρ : Nat → Int32) (τ : Nat → Nat) (kd n : Nat) (ty : FieldType) : Prop := ∀ ws v, ev_RV ρ τ ws kd n v → narrow ty v = v ∧ fits ty v = true
theorem ev_Fit.int : ev_Fit ρ τ 1 n .int := fun ws v hv => by obtain ⟨x, rfl, -⟩ := hv.i; exact ⟨rfl, rfl⟩
theorem ev_Fit.long : ev_Fit ρ τ 2 n .long := fun ws v hv => by obtain ⟨x, rfl, -⟩ := hv.l; exact ⟨rfl, rfl⟩
theorem ev_Fit.obj {C : String} : ev_Fit ρ τ 3 n (.object C) := fun ws v hv => by
  by_cases h0 : n = 0
  · have := hv.r.z h0; subst this; exact ⟨rfl, rfl⟩
  · obtain ⟨u, rfl⟩ := hv.r.nz h0; exact ⟨rfl, rfl⟩
theorem ev_Fit.arr {t : FieldType} : ev_Fit ρ τ 3 n (.array t) := fun ws v hv => by
  by_cases h0 : n = 0
  · have := hv.r.z h0; subst this; exact ⟨rfl, rfl⟩
  · obtain ⟨u, rfl⟩ := hv.r.nz h0; exact ⟨rfl, rfl⟩
theorem ev_Fit.bool (hn : n ≤ 1) : ev_Fit ρ τ 1 n .boolean := fun ws v hv => by
  obtain ⟨x, rfl, hx⟩ := hv.i
  have hx := ev_ofn (hx.small (by omega))
  subst hx
  rcases (show n = 0 ∨ n = 1 by omega) with rfl | rfl <;> exact ⟨by decide +kernel, by decide +kernel⟩
theorem ev_set_spec' {x : Option ev_C} {kt : Lean.RArray (Option ev_C) → ev_O} (e : ev_set none h.1 a x 0 1088 kt = some X) : ∃ t, kt t = some X ∧ (a < 1088 → ∀ j, 0 ≤ j → j < 1088 → t.get j = if j = a then x else h.1.get j) := by
  by_cases hlt : a < 1088
  · obtain ⟨t, h1, h2⟩ := ev_set_spec rfl x a h.1 0 1088 kt (Nat.zero_le _) hlt e
    exact ⟨t, h1, fun _ => h2⟩
  · obtain ⟨t, h1⟩ := ev_set_some e
    exact ⟨t, h1, fun q => absurd q hlt⟩
theorem gd_putf {idx ci j kd N q : Nat} {C : String} {T : u_T} {ty : FieldType} (ty0 : Nat → FieldType) (hty : ∀ k, k < N → parseFieldDescriptor (T k).2.2.1 = some (ty0 k)) (hnm : ∀ a, a < N → ∀ b, b < N → a ≠ b → (T a).2.1 ≠ (T b).2.1) (hc : ev_cl[ci]? = some (C, T, N)) (hj : j < N) (hkd : (ev_kf ci)[j]? = some kd) (hkl : (ev_kf ci).length = N) (hu : ∀ w ∈ u_ws C T N, w ∈ ev_good)
    (hl : Cond.fieldLink own idx (T j).1 (T j).2.1 (T j).2.2.1 ∈ ev_good) (hq : 80 * j = q) (hfin : (T j).2.2.2 = false) (ht : ty0 j = ty) (hfit : ev_Fit ρ τ kd v ty)
    (d : decode cc pc = .ok (.putfield idx, 3)) (g : ∀ h', ev_Gd p l e R s m args below meth c ρ τ D tys A c0 s0 nL cc own fr lo w0 ret hh nm Q X (pc + 3) lv st h' (kh h')) : ev_Gd p l e R s m args below meth c ρ τ D tys A c0 s0 nL cc own fr lo w0 ret hh nm Q X pc lv ((kd, v) :: (3, a) :: st) h (ev_putf h ci q a v kh) := by
  intro z
  obtain ⟨W, hg, hk⟩ := ev_putf_spec z
  obtain ⟨t, hk, htg⟩ := ev_set_spec' hk
  refine gd_w (h' := (t, h.2)) (fun _ => hk) (ev_le.rf h) (g _) (fun F _ _ _ _ _ ws H locs ls stv hP hD hS hH hL hR kk => ?_) z
  obtain ⟨w, m1, rfl, h1, hr1⟩ := hR.cons
  obtain ⟨u, m2, rfl, h2, hr2⟩ := hr1.cons
  obtain ⟨hlt, h64, a', e', rfl, he, hC⟩ := hH.at h2 hg
  obtain ⟨fs, rfl, hlen, hf⟩ := hC
  have hfw := hfit ws w h1
  refine va_put F.1 F.2.1 F.2.2.2.2.1 hu ty0 hty hnm F.2.2.2.1 F.2.2.2.2.2.2.1.1 hP hD hS (a - 64) he hc j hj (F.2.2.2.2.1 _ hl) (fun x hx => hx) hfin (ty := ty) (by rw [hty j hj, ht]) hfw.1 hfw.2 (by omega) d fun H1 locs1 hP1 hD1 hS1 => ?_
  exact kk _ (ev_E.set he) H1 locs1 ls _ hP1 hD1 hS1 (hH.put hlt h64 he hlen hf hkd hq h1 (htg hlt)) (hL.set he) (hr2.set he)
theorem gd_putz {idx ci j N q : Nat} {C : String} {T : u_T} (ty0 : Nat → FieldType) (hty : ∀ k, k < N → parseFieldDescriptor (T k).2.2.1 = some (ty0 k)) (hnm : ∀ a, a < N → ∀ b, b < N → a ≠ b → (T a).2.1 ≠ (T b).2.1) (hc : ev_cl[ci]? = some (C, T, N)) (hj : j < N) (hkd : (ev_kf ci)[j]? = some 1) (hkl : (ev_kf ci).length = N) (hu : ∀ w ∈ u_ws C T N, w ∈ ev_good)
    (hl : Cond.fieldLink own idx (T j).1 (T j).2.1 (T j).2.2.1 ∈ ev_good) (hq : 80 * j = q) (hfin : (T j).2.2.2 = false) (ht : ty0 j = .boolean)
    (d : decode cc pc = .ok (.putfield idx, 3)) (g : ∀ h', ev_Gd p l e R s m args below meth c ρ τ D tys A c0 s0 nL cc own fr lo w0 ret hh nm Q X (pc + 3) lv st h' (kh h')) : ev_Gd p l e R s m args below meth c ρ τ D tys A c0 s0 nL cc own fr lo w0 ret hh nm Q X pc lv ((1, v) :: (3, a) :: st) h (ev_putz h ci q a v kh) := by
  intro z
  rcases ev_if_or z with ⟨hb, hk⟩ | ⟨-, hk⟩
  · have z' := gd_putf (p := p) (l := l) (e := e) (R := R) (s := s) (m := m) (args := args) (below := below) (meth := meth) (c := c) (D := D) (tys := tys) (A := A) (c0 := c0) (s0 := s0) (nL := nL) (fr := fr) (lo := lo) (w0 := w0) (ret := ret) (hh := hh) (nm := nm) (Q := Q) (X := X) (pc := pc) (lv := lv) (st := st) (h := h) (a := a) (v := v) (kh := kh) ty0 hty hnm hc hj hkd hkl hu hl hq hfin ht (ev_Fit.bool (Nat.le_of_ble_eq_true hb)) d g
    exact z' hk
  · cases hk
/-- a final field, in the class's own constructor -/
theorem gd_putF {idx ci j kd N q : Nat} {C : String} {T : u_T} {ty : FieldType} (ty0 : Nat → FieldType) (hty : ∀ k, k < N → parseFieldDescriptor (T k).2.2.1 = some (ty0 k)) (hnm : ∀ a, a < N → ∀ b, b < N → a ≠ b → (T a).2.1 ≠ (T b).2.1) (hc : ev_cl[ci]? = some (C, T, N)) (hj : j < N) (hkd : (ev_kf ci)[j]? = some kd) (hkl : (ev_kf ci).length = N) (hu : ∀ w ∈ u_ws C T N, w ∈ ev_good)
    (hl : Cond.fieldLink own idx (T j).1 (T j).2.1 (T j).2.2.1 ∈ ev_good) (hq : 80 * j = q) (hfin : (T j).2.2.2 = true) (hdecl : (T j).1 = own) (ht : ty0 j = ty) (hfit : ∀ n, ev_Fit ρ τ kd n ty) (hin : nm = "<init>")
    (d : decode cc pc = .ok (.putfield idx, 3)) (g : ∀ h', ev_Gd p l e R s m args below meth c ρ τ D tys A c0 s0 nL cc own fr lo w0 ret hh nm Q X (pc + 3) lv st h' (kh h')) : ev_Gd p l e R s m args below meth c ρ τ D tys A c0 s0 nL cc own fr lo w0 ret hh nm Q X pc lv ((kd, v) :: (3, a) :: st) h (ev_putf h ci q a v kh) := by
  intro z
  obtain ⟨W, hg, hk⟩ := ev_putf_spec z
  obtain ⟨t, hk, htg⟩ := ev_set_spec' hk
  refine gd_w (h' := (t, h.2)) (fun _ => hk) (ev_le.rf h) (g _) (fun F _ _ _ _ _ ws H locs ls stv hP hD hS hH hL hR kk => ?_) z
  obtain ⟨w, m1, rfl, h1, hr1⟩ := hR.cons
  obtain ⟨u, m2, rfl, h2, hr2⟩ := hr1.cons
  obtain ⟨hlt, h64, a', e', rfl, he, hC⟩ := hH.at h2 hg
  obtain ⟨fs, rfl, hlen, hf⟩ := hC
  have hfw := hfit v ws w h1
  refine va_putF F.1 F.2.1 F.2.2.2.2.1 hu ty0 hty hnm F.2.2.2.1 F.2.2.2.2.2.2.1.1 hP hD hS (a - 64) he hc j hj (F.2.2.2.2.1 _ hl) (fun x hx => hx) hfin (F.2.2.2.2.2.2.2.2.2.2.2.2.2.1.trans hin) hdecl (ty := ty) (by rw [hty j hj, ht]) hfw.1 hfw.2 (by omega) d fun H1 locs1 hP1 hD1 hS1 => ?_
  exact kk _ (ev_E.set he) H1 locs1 ls _ hP1 hD1 hS1 (hH.put hlt h64 he hlen hf hkd hq h1 (htg hlt)) (hL.set he) (hr2.set he)
-- arrays
theorem ev_HR.arr {ws : va_W} {kd len : Nat} {T : ev_T} {u : Value} (hH : ev_HR ev_kf ρ τ tys h ws) (hu : ev_RV ρ τ ws 3 a u) (hg : h.1.get a = some (.inr (kd, (len, T)))) (hT : tys.map Prod.snd = ev_tl6) :
    a < 1088 ∧ 64 ≤ a ∧ len ≤ 1048576 ∧ ∃ a' cA f ty, u = .ref a' ∧ ws[a - 64]? = some (a', .inl (cA, (len, f))) ∧ tys[kd]? = some (cA, ty) ∧ ev_tl6[kd]? = some ty ∧ ev_AR ρ τ ws kd len T f := by
  obtain ⟨hlt, h64, a', e', rfl, he, hC⟩ := hH.at hu hg
  obtain ⟨cA, f, rfl, ⟨ty, ht⟩, hlen, hAR⟩ := hC
  exact ⟨hlt, h64, hlen, a', cA, f, ty, rfl, he, ht, ev_ty hT ht, hAR⟩
theorem gd_alen (d : decode cc pc = .ok (.arraylength, 1)) (g : ∀ r, ev_Gd p l e R s m args below meth c ρ τ D tys A c0 s0 nL cc own fr lo w0 ret hh nm Q X (pc + 1) lv ((1, r) :: st) h (k r)) : ev_Gd p l e R s m args below meth c ρ τ D tys A c0 s0 nL cc own fr lo w0 ret hh nm Q X pc lv ((3, a) :: st) h (ev_alen h a k) := by
  intro z
  rcases ev_cell_or z with ⟨_, _, _, hk⟩ | ⟨kd, len, T, hg, hk⟩
  · cases hk
  refine gd_w (fun _ => hk) (ev_le.rf h) (g _) (fun F _ _ _ _ _ ws H locs ls stv hP hD hS hH hL hR kk => ?_) z
  obtain ⟨u, m1, rfl, h1, hr1⟩ := hR.cons
  obtain ⟨hlt, h64, hlen, a', cA, f, ty, rfl, he, ht, -, -⟩ := hH.arr h1 hg F.2.2.2.2.2.2.1.2.1
  refine va_alen F.1 F.2.1 F.2.2.2.2.2.2.1.1 hP (a - 64) kd he ht rfl d (kk ws ev_E.rf H locs ls _ hP hD hS hH hL ⟨ev_RV.ofi (Or.inl ?_), hr1⟩)
  show (BitVec.ofNat 32 len).toNat = len
  rw [BitVec.toNat_ofNat]
  omega
theorem gd_iaload (d : decode cc pc = .ok (.iaload, 1)) (g : ∀ r, ev_Gd p l e R s m args below meth c ρ τ D tys A c0 s0 nL cc own fr lo w0 ret hh nm Q X (pc + 1) lv ((1, r) :: st) h (k r)) : ev_Gd p l e R s m args below meth c ρ τ D tys A c0 s0 nL cc own fr lo w0 ret hh nm Q X pc lv ((1, i) :: (3, a) :: st) h (ev_ald h 0 0 a i k) := by
  intro z
  obtain ⟨kd, len, T, hg, q1, q2, hi, hk⟩ := ev_ald_spec z
  have : kd = 0 := by omega
  subst this
  refine gd_w (fun _ => hk) (ev_le.rf h) (g _) (fun F _ _ _ _ _ ws H locs ls stv hP hD hS hH hL hR kk => ?_) z
  obtain ⟨w, m1, rfl, h1, hr1⟩ := hR.cons
  obtain ⟨u, m2, rfl, h2, hr2⟩ := hr1.cons
  obtain ⟨hlt, h64, hlen, a', cA, f, ty, rfl, he, ht, hty, hAR⟩ := hH.arr h2 hg F.2.2.2.2.2.2.1.2.1
  cases hty
  obtain ⟨x, rfl, hx⟩ := h1.i
  obtain ⟨e1, e2⟩ := ev_ix (hx.small (by omega)) hi hlen
  rcases hAR with ⟨-, f1, rfl, hf⟩ | ⟨q, -⟩ | ⟨q, -⟩
  · refine va_iald F.1 F.2.1 F.2.2.2.2.2.2.1.1 hP (a - 64) 0 he ht e2 d ?_
    rw [e1]
    exact kk ws ev_E.rf H locs ls _ hP hD hS hH hL ⟨hf i hi, hr2⟩
  · omega
  · omega
theorem gd_laload (d : decode cc pc = .ok (.laload, 1)) (g : ∀ r, ev_Gd p l e R s m args below meth c ρ τ D tys A c0 s0 nL cc own fr lo w0 ret hh nm Q X (pc + 1) lv ((2, r) :: st) h (k r)) : ev_Gd p l e R s m args below meth c ρ τ D tys A c0 s0 nL cc own fr lo w0 ret hh nm Q X pc lv ((1, i) :: (3, a) :: st) h (ev_ald h 3 3 a i k) := by
  intro z
  obtain ⟨kd, len, T, hg, q1, q2, hi, hk⟩ := ev_ald_spec z
  have : kd = 3 := by omega
  subst this
  refine gd_w (fun _ => hk) (ev_le.rf h) (g _) (fun F _ _ _ _ _ ws H locs ls stv hP hD hS hH hL hR kk => ?_) z
  obtain ⟨w, m1, rfl, h1, hr1⟩ := hR.cons
  obtain ⟨u, m2, rfl, h2, hr2⟩ := hr1.cons
  obtain ⟨hlt, h64, hlen, a', cA, f, ty, rfl, he, ht, hty, hAR⟩ := hH.arr h2 hg F.2.2.2.2.2.2.1.2.1
  cases hty
  obtain ⟨x, rfl, hx⟩ := h1.i
  obtain ⟨e1, e2⟩ := ev_ix (hx.small (by omega)) hi hlen
  rcases hAR with ⟨q, -⟩ | ⟨-, f1, rfl, hf⟩ | ⟨q, -⟩
  · omega
  · refine va_lald F.1 F.2.1 F.2.2.2.2.2.2.1.1 hP (a - 64) 3 he ht e2 d ?_
    rw [e1]
    exact kk ws ev_E.rf H locs ls _ hP hD hS hH hL ⟨hf i hi, hr2⟩
  · omega
theorem gd_baload (d : decode cc pc = .ok (.baload, 1)) (g : ∀ r, ev_Gd p l e R s m args below meth c ρ τ D tys A c0 s0 nL cc own fr lo w0 ret hh nm Q X (pc + 1) lv ((1, r) :: st) h (k r)) : ev_Gd p l e R s m args below meth c ρ τ D tys A c0 s0 nL cc own fr lo w0 ret hh nm Q X pc lv ((1, i) :: (3, a) :: st) h (ev_ald h 1 2 a i k) := by
  intro z
  obtain ⟨kd, len, T, hg, q1, q2, hi, hk⟩ := ev_ald_spec z
  refine gd_w (fun _ => hk) (ev_le.rf h) (g _) (fun F _ _ _ _ _ ws H locs ls stv hP hD hS hH hL hR kk => ?_) z
  obtain ⟨w, m1, rfl, h1, hr1⟩ := hR.cons
  obtain ⟨u, m2, rfl, h2, hr2⟩ := hr1.cons
  obtain ⟨hlt, h64, hlen, a', cA, f, ty, rfl, he, ht, hty, hAR⟩ := hH.arr h2 hg F.2.2.2.2.2.2.1.2.1
  obtain ⟨x, rfl, hx⟩ := h1.i
  obtain ⟨e1, e2⟩ := ev_ix (hx.small (by omega)) hi hlen
  rcases hAR with ⟨-, f1, rfl, hf⟩ | ⟨q, -⟩ | ⟨q, -⟩
  · rcases (show kd = 1 ∨ kd = 2 by omega) with rfl | rfl
    · cases hty
      refine va_bald F.1 F.2.1 F.2.2.2.2.2.2.1.1 hP (a - 64) 1 he ht e2 d ?_
      rw [e1]
      exact kk ws ev_E.rf H locs ls _ hP hD hS hH hL ⟨hf i hi, hr2⟩
    · cases hty
      refine va_zald F.1 F.2.1 F.2.2.2.2.2.2.1.1 hP (a - 64) 2 he ht e2 d ?_
      rw [e1]
      exact kk ws ev_E.rf H locs ls _ hP hD hS hH hL ⟨hf i hi, hr2⟩
  · omega
  · omega
theorem gd_aaload (d : decode cc pc = .ok (.aaload, 1)) (g : ∀ r, ev_Gd p l e R s m args below meth c ρ τ D tys A c0 s0 nL cc own fr lo w0 ret hh nm Q X (pc + 1) lv ((3, r) :: st) h (k r)) : ev_Gd p l e R s m args below meth c ρ τ D tys A c0 s0 nL cc own fr lo w0 ret hh nm Q X pc lv ((1, i) :: (3, a) :: st) h (ev_ald h 4 5 a i k) := by
  intro z
  obtain ⟨kd, len, T, hg, q1, q2, hi, hk⟩ := ev_ald_spec z
  refine gd_w (fun _ => hk) (ev_le.rf h) (g _) (fun F _ _ _ _ _ ws H locs ls stv hP hD hS hH hL hR kk => ?_) z
  obtain ⟨w, m1, rfl, h1, hr1⟩ := hR.cons
  obtain ⟨u, m2, rfl, h2, hr2⟩ := hr1.cons
  obtain ⟨hlt, h64, hlen, a', cA, f, ty, rfl, he, ht, hty, hAR⟩ := hH.arr h2 hg F.2.2.2.2.2.2.1.2.1
  obtain ⟨x, rfl, hx⟩ := h1.i
  obtain ⟨e1, e2⟩ := ev_ix (hx.small (by omega)) hi hlen
  rcases hAR with ⟨q, -⟩ | ⟨q, -⟩ | ⟨-, f1, rfl, hf⟩
  · omega
  · omega
  · rcases (show kd = 4 ∨ kd = 5 by omega) with rfl | rfl
    · cases hty
      refine va_aldq F.1 F.2.1 F.2.2.2.2.2.2.1.1 hP (a - 64) 4 he ht e2 d ?_
      rw [e1]
      exact kk ws ev_E.rf H locs ls _ hP hD hS hH hL ⟨hf i hi, hr2⟩
    · cases hty
      refine va_aldq F.1 F.2.1 F.2.2.2.2.2.2.1.1 hP (a - 64) 5 he ht e2 d ?_
      rw [e1]
      exact kk ws ev_E.rf H locs ls _ hP hD hS hH hL ⟨hf i hi, hr2⟩
end EVG
