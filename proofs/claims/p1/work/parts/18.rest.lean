/-! THE WALK: what is left -/
theorem ev_ifn {b : Bool} {x : ev_O} {X : ev_X} (h : ev_if b x none = some X) : b = true ∧ x = some X := by
  rcases ev_if_or h with h | ⟨-, h⟩
  · exact h
  · cases h
theorem ev_nfw : nativeFrameWords "java/lang/System" "arraycopy" 5 + 11 ≤ 40 := by decide +kernel
theorem ev_cpl_spec {S : ev_T} {len : Nat} {X : ev_X} : ∀ (m : Nat) (T : ev_T) (k : ev_T → ev_O), m ≤ len / 32 + 1 → ev_cpl S len m T k = some X → ∃ T', k T' = some X ∧ ∀ j, j < len / 32 + 1 → T'.get j = if j < m then S.get j else T.get j := by
  intro m
  induction m with
  | zero => intro T k _ h; exact ⟨T, h, fun j _ => by rw [if_neg (Nat.not_lt_zero j)]⟩
  | succ m ih =>
    intro T k hm h
    have h1 : ev_f (S.get m) (fun N => ev_set none T m N 0 (Nat.succ (Nat.shiftRight len 5)) fun T => ev_cpl S len m T k) = some X := h
    rw [ev_f_eq] at h1
    have hlt : m < Nat.succ (Nat.shiftRight len 5) := by
      rw [ev_sh]
      show m < len / 32 + 1
      omega
    obtain ⟨T1, h2, h3⟩ := ev_set_spec rfl _ _ T 0 _ _ (Nat.zero_le _) hlt h1
    obtain ⟨T', h4, h5⟩ := ih T1 k (by omega) h2
    refine ⟨T', h4, fun j hj => ?_⟩
    have h6 := h3 j (Nat.zero_le _) (by rw [ev_sh]; exact hj)
    rw [h5 j hj, h6]
    by_cases q1 : j < m
    · rw [if_pos q1, if_pos (by omega)]
    · rw [if_neg q1]
      by_cases q2 : j = m
      · rw [if_pos q2, if_pos (by omega), q2]
      · rw [if_neg q2, if_neg (by omega)]
theorem ev_part (M B r s : Nat) : ev_sl (Nat.lor (Nat.land M (Nat.sub (Nat.shiftLeft 1 (80 * r)) 1)) (Nat.shiftLeft (Nat.shiftRight B (80 * r)) (80 * r))) (80 * s) = if s < r then ev_sl M (80 * s) else ev_sl B (80 * s) := by
  apply Nat.eq_of_testBit_eq
  intro i
  rw [ev_sl_bit]
  have h1 : (Nat.lor (Nat.land M (Nat.sub (Nat.shiftLeft 1 (80 * r)) 1)) (Nat.shiftLeft (Nat.shiftRight B (80 * r)) (80 * r))).testBit (80 * s + i) = ((M.testBit (80 * s + i) && decide (80 * s + i < 80 * r)) || (decide (80 * r ≤ 80 * s + i) && B.testBit (80 * r + (80 * s + i - 80 * r)))) := by
    show ((M &&& (1 <<< (80 * r) - 1)) ||| ((B >>> (80 * r)) <<< (80 * r))).testBit (80 * s + i) = _
    rw [Nat.testBit_or, Nat.testBit_and, Nat.one_shiftLeft, Nat.testBit_two_pow_sub_one, Nat.testBit_shiftLeft, Nat.testBit_shiftRight]
  rw [h1]
  by_cases hi : i < 80
  · by_cases hs : s < r
    · have a1 : 80 * s + i < 80 * r := by omega
      have a2 : ¬ 80 * r ≤ 80 * s + i := by omega
      rw [if_pos hs, ev_sl_bit]
      simp [a1, a2]
    · have a1 : ¬ 80 * s + i < 80 * r := by omega
      have a2 : 80 * r ≤ 80 * s + i := by omega
      have a3 : 80 * r + (80 * s + i - 80 * r) = 80 * s + i := by omega
      rw [if_neg hs, ev_sl_bit]
      simp [a1, a2, a3]
  · by_cases hs : s < r
    · rw [if_pos hs, ev_sl_bit]; simp [hi]
    · rw [if_neg hs, ev_sl_bit]; simp [hi]
section EVG
variable {p : Program} {l : Launch} {e : Env} {R : Room} {s : State} {m : MethodId} {args : Array Value} {below : List Frame} {meth : Method} {c : Code} {ρ : Nat → Int32} {τ : Nat → Nat} {D : va_G} {tys : List (ClassId × FieldType)} {A : Nat → Prop} {c0 s0 nL : Nat} {cc : ByteArray} {own : String} {fr lo : Nat} {w0 : va_W} {ret : Option FieldType} {hh : List ExceptionTableEntry} {nm : String}
variable {Q : State → Prop} {X : ev_X} {pc : Nat} {lv lv' : List (Nat × (Nat × Nat))} {st st' : List (Nat × Nat)} {h : ev_H} {K L : ev_O} {n i a b v tgt rk : Nat} {off : Int} {k : Nat → ev_O} {kh : ev_H → ev_O} {kn : Nat → ev_H → ev_O}
theorem gd_null (d : decode cc pc = .ok (.aconst_null, 1)) (g : ev_Gd p l e R s m args below meth c ρ τ D tys A c0 s0 nL cc own fr lo w0 ret hh nm Q X (pc + 1) lv ((3, 0) :: st) h K) : ev_Gd p l e R s m args below meth c ρ τ D tys A c0 s0 nL cc own fr lo w0 ret hh nm Q X pc lv st h K :=
  gd_push .null (fun _ => ev_RV.ofr (by decide) (Or.inl ⟨rfl, rfl⟩)) (fun F _ _ _ _ _ _ kk => lv_null F.1 F.2.1 d kk) g
theorem gd_ldcS {idx : Nat} {tx : String} (i : Nat) (hq : ev_txts[i]? = some (own, (idx, tx))) (d : decode cc pc = .ok (.ldc idx, 2)) (g : ev_Gd p l e R s m args below meth c ρ τ D tys A c0 s0 nL cc own fr lo w0 ret hh nm Q X (pc + 2) lv ((3, 16 + i) :: st) h K) : ev_Gd p l e R s m args below meth c ρ τ D tys A c0 s0 nL cc own fr lo w0 ret hh nm Q X pc lv st h K := by
  have hi : i < 6 := (List.getElem?_eq_some_iff.mp hq).1
  exact gd_push (.ref (τ (16 + i))) (fun _ => ev_RV.ofr (by omega) (Or.inr (Or.inr (Or.inl ⟨by omega, by omega, by omega, rfl⟩)))) (fun F _ _ _ _ _ _ kk => va_ldcS F.1 F.2.1 F.2.2.2.1 (F.2.2.2.2.2.2.1.2.2.2.2.2.2.2.2 i _ hq).1 d kk) g
theorem gd_copy {idx : Nat} {sp dp : Nat} (hl : Cond.methodLink own idx arraycopyName ∈ ev_good) (hna : Cond.native arraycopyName ∈ ev_good) (hsa : Cond.static arraycopyName ∈ ev_good) (hin : Cond.initialized "java/lang/System" ∈ ev_good) (hfr : 1 ≤ fr) (hlo : (st.map fun q => if q.1 = 2 ∨ q.1 = 4 then 2 else 1).sum + 40 ≤ lo) (d : decode cc pc = .ok (.invokestatic idx, 3)) (g : ∀ h', ev_Gd p l e R s m args below meth c ρ τ D tys A c0 s0 nL cc own fr lo w0 ret hh nm Q X (pc + 3) lv st h' (kh h')) :
    ev_Gd p l e R s m args below meth c ρ τ D tys A c0 s0 nL cc own fr lo w0 ret hh nm Q X pc lv ((1, n) :: (1, dp) :: (3, b) :: (1, sp) :: (3, a) :: st) h (ev_copy h a sp b dp n kh) := by
  intro z
  obtain ⟨q0, z1⟩ := ev_ifn z
  have q0 : sp + dp = 0 := Nat.eq_of_beq_eq_true q0
  rcases ev_cell_or z1 with ⟨_, _, _, z2⟩ | ⟨d1, l1, S, hg1, z2⟩
  · cases z2
  rcases ev_cell_or z2 with ⟨_, _, _, z3⟩ | ⟨d2, l2, T, hg2, z3⟩
  · cases z3
  obtain ⟨q1, z4⟩ := ev_ifn z3
  have q1 : d1 + d2 = 0 := Nat.eq_of_beq_eq_true q1
  obtain ⟨q2, z5⟩ := ev_ifn z4
  have q2 : n ≤ l1 := Nat.le_of_ble_eq_true q2
  obtain ⟨q3, z6⟩ := ev_ifn z5
  have q3 : n ≤ l2 := Nat.le_of_ble_eq_true q3
  have e5 : Nat.shiftRight n 5 = n / 32 := ev_sh n
  rw [e5] at z6
  obtain ⟨T1, z7, h1⟩ := ev_cpl_spec (n / 32) T _ (by omega) z6
  rw [ev_f_eq, ev_f_eq, ev_f_eq, ev_an] at z7
  have hlt2 : n / 32 < Nat.succ (Nat.shiftRight l2 5) := by
    rw [ev_sh]
    show n / 32 < l2 / 32 + 1
    omega
  obtain ⟨T2, z8, h2⟩ := ev_set_spec rfl _ _ T1 0 _ _ (Nat.zero_le _) hlt2 z7
  obtain ⟨t, z9, htg⟩ := ev_set_spec' z8
  have hC : ∀ i, i < l2 → ev_at T2 i = if i < n then ev_at S i else ev_at T i := fun i hi => by
    have h3 := h2 (i / 32) (Nat.zero_le _) (by rw [ev_sh]; show i / 32 < l2 / 32 + 1; omega)
    rw [ev_at_eq, ev_at_eq, ev_at_eq, h3]
    by_cases c1 : i / 32 = n / 32
    · rw [if_pos c1]
      have h4 := h1 (n / 32) (by omega)
      rw [if_neg (Nat.lt_irrefl _)] at h4
      rw [h4]
      have h5 := ev_part (S.get (n / 32)) (T.get (n / 32)) (n % 32) (i % 32)
      refine Eq.trans h5 ?_
      by_cases c2 : i < n
      · rw [if_pos c2, if_pos (by omega), c1]
      · rw [if_neg c2, if_neg (by omega), c1]
    · rw [if_neg c1, h1 (i / 32) (by omega)]
      by_cases c2 : i < n
      · rw [if_pos c2, if_pos (by omega)]
      · rw [if_neg c2, if_neg (by omega)]
  refine gd_w (h' := (t, h.2)) (fun _ => z9) (ev_le.rf h) (g _) (fun F _ _ _ _ _ ws H locs ls stv hP hD hS hH hL hR kk => ?_) z
  obtain ⟨w1, m1, rfl, r1, hr1⟩ := hR.cons
  obtain ⟨w2, m2, rfl, r2, hr2⟩ := hr1.cons
  obtain ⟨w3, m3, rfl, r3, hr3⟩ := hr2.cons
  obtain ⟨w4, m4, rfl, r4, hr4⟩ := hr3.cons
  obtain ⟨w5, m5, rfl, r5, hr5⟩ := hr4.cons
  have hd1 : d1 = 0 := by omega
  have hd2 : d2 = 0 := by omega
  rw [hd1] at hg1
  rw [hd2] at hg2
  obtain ⟨ulta, u64a, ulena, aA, cA, fA, tyA, rfl, heA, htA, htyA, hARA⟩ := hH.arr r5 hg1 F.2.2.2.2.2.2.1.2.1
  obtain ⟨ultb, u64b, ulenb, aB, cB, fB, tyB, rfl, heB, htB, htyB, hARB⟩ := hH.arr r3 hg2 F.2.2.2.2.2.2.1.2.1
  cases htyA
  cases htyB
  obtain ⟨xn, rfl, vn⟩ := r1.i
  obtain ⟨xd, rfl, vd⟩ := r2.i
  obtain ⟨xs, rfl, vs⟩ := r4.i
  have vn := vn.small (by omega)
  obtain ⟨n1, n2⟩ := ev_ix2 (n := n + 1) vn (by omega) (by omega)
  have hxs : xs = 0 := ev_n_inj (by rw [vs.small (by omega)]; show sp = 0; omega)
  have hxd : xd = 0 := ev_n_inj (by rw [vd.small (by omega)]; show dp = 0; omega)
  subst hxs
  subst hxd
  have z0 : (0 : Int32).toNatClampNeg = 0 := rfl
  rcases hARA with ⟨-, f1, rfl, hf⟩ | ⟨q, -⟩ | ⟨q, -⟩
  · rcases hARB with ⟨-, g1, rfl, hgg⟩ | ⟨q, -⟩ | ⟨q, -⟩
    · refine va_copyi F.1 F.2.1 (by rw [hL.1, F.2.2.1]) F.2.2.2.1 (F.2.2.2.2.1 _ hl) (F.2.2.2.2.1 _ hna) (F.2.2.2.2.1 _ hsa) (F.2.2.2.2.1 _ hin) F.2.2.2.2.2.2.1.1 hP hD hS (a - 64) (b - 64) 0 0 heA heB htA htB rfl (by decide) (by decide) (fun q9 => n2 (Or.inl q9)) (by rw [n1, z0]; omega) (by rw [n1, z0]; omega) (fun _ _ => rfl) (by rw [F.2.2.2.2.2.2.2.2.1]; exact hfr) (by rw [F.2.2.2.2.2.2.2.2.2.1, ev_sum hr5]; exact Nat.le_trans (Nat.add_le_add_left ev_nfw _) hlo) d fun H1 locs1 hP1 hD1 hS1 => ?_
      rw [n1, z0] at hP1 hD1
      refine kk _ (ev_E.set heB) H1 locs1 ls _ hP1 hD1 hS1 (hH.arrput ultb u64b heB htB ulenb (Or.inl ⟨by decide, _, rfl, fun i hi => ?_⟩) (htg ultb)) (hL.set heB) (hr5.set heB)
      rw [hC i hi]
      unfold va_cpy
      by_cases c2 : i < n
      · rw [if_pos c2, if_pos ⟨Nat.zero_le _, by omega⟩]
        have := hf i (by omega)
        simpa using this
      · rw [if_neg c2, if_neg (fun q9 => c2 (by omega))]
        exact hgg i hi
    · omega
    · omega
  · omega
  · omega
end EVG
