/-! THE WALK: texts -/
theorem li_J0 : Cond.initialized RJ0 ∈ ev_good := ev_in (ev_t1 _ (List.mem_of_getElem? (i := 8) rfl)) rfl
theorem li_J1 : Cond.initialized RJ1 ∈ ev_good := ev_in (ev_t1 _ (List.mem_of_getElem? (i := 9) rfl)) rfl
theorem li_J3 : Cond.initialized RJ3 ∈ ev_good := ev_in (ev_t1 _ (List.mem_of_getElem? (i := 10) rfl)) rfl
theorem yd_J0_length_8abf5 : ev_Yd yJ0_length_8abf5 RJ0 0 := ⟨rfl, by decide +kernel, by decide +kernel, by decide +kernel⟩
theorem lm_J0_length_8abf5 : Cond.code yJ0_length_8abf5 cJ0_length_8abf5 1 (some .int) ∈ ev_good := ev_in (ev_t1 _ (List.mem_of_getElem? (i := 227) rfl)) rfl
theorem li_J0_length_8abf5 : Cond.instanceMethod yJ0_length_8abf5 ∈ ev_good := ev_in (ev_t1 _ (List.mem_of_getElem? (i := 225) rfl)) rfl
theorem le_J0_length_8abf5 : Cond.selects RJ0 yJ0_length_8abf5 yJ0_length_8abf5 ∈ ev_good := ev_in (ev_t1 _ (List.mem_of_getElem? (i := 226) rfl)) rfl
theorem yd_J0_coder_7d493 : ev_Yd yJ0_coder_7d493 RJ0 0 := ⟨rfl, by decide +kernel, by decide +kernel, by decide +kernel⟩
theorem lm_J0_coder_7d493 : Cond.code yJ0_coder_7d493 cJ0_coder_7d493 1 (some .byte) ∈ ev_good := ev_in (ev_t1 _ (List.mem_of_getElem? (i := 231) rfl)) rfl
theorem li_J0_coder_7d493 : Cond.instanceMethod yJ0_coder_7d493 ∈ ev_good := ev_in (ev_t1 _ (List.mem_of_getElem? (i := 229) rfl)) rfl
theorem le_J0_coder_7d493 : Cond.selects RJ0 yJ0_coder_7d493 yJ0_coder_7d493 ∈ ev_good := ev_in (ev_t1 _ (List.mem_of_getElem? (i := 230) rfl)) rfl
theorem yd_J0_charAt_5068e : ev_Yd yJ0_charAt_5068e RJ0 1 := ⟨rfl, by decide +kernel, by decide +kernel, by decide +kernel⟩
theorem lm_J0_charAt_5068e : Cond.code yJ0_charAt_5068e cJ0_charAt_5068e 2 (some .char) ∈ ev_good := ev_in (ev_t1 _ (List.mem_of_getElem? (i := 237) rfl)) rfl
theorem li_J0_charAt_5068e : Cond.instanceMethod yJ0_charAt_5068e ∈ ev_good := ev_in (ev_t1 _ (List.mem_of_getElem? (i := 235) rfl)) rfl
theorem le_J0_charAt_5068e : Cond.selects RJ0 yJ0_charAt_5068e yJ0_charAt_5068e ∈ ev_good := ev_in (ev_t1 _ (List.mem_of_getElem? (i := 236) rfl)) rfl
theorem yd_J0_isLatin1_aae02 : ev_Yd yJ0_isLatin1_aae02 RJ0 0 := ⟨rfl, by decide +kernel, by decide +kernel, by decide +kernel⟩
theorem lm_J0_isLatin1_aae02 : Cond.code yJ0_isLatin1_aae02 cJ0_isLatin1_aae02 1 (some .boolean) ∈ ev_good := ev_in (ev_t2 _ (List.mem_of_getElem? (i := 1) rfl)) rfl
theorem li_J0_isLatin1_aae02 : Cond.instanceMethod yJ0_isLatin1_aae02 ∈ ev_good := ev_in (ev_t1 _ (List.mem_of_getElem? (i := 239) rfl)) rfl
theorem le_J0_isLatin1_aae02 : Cond.selects RJ0 yJ0_isLatin1_aae02 yJ0_isLatin1_aae02 ∈ ev_good := ev_in (ev_t2 _ (List.mem_of_getElem? (i := 0) rfl)) rfl
theorem yd_J1_charAt_3b067 : ev_Yd yJ1_charAt_3b067 RJ1 2 := ⟨rfl, by decide +kernel, by decide +kernel, by decide +kernel⟩
theorem lm_J1_charAt_3b067 : Cond.code yJ1_charAt_3b067 cJ1_charAt_3b067 2 (some .char) ∈ ev_good := ev_in (ev_t2 _ (List.mem_of_getElem? (i := 4) rfl)) rfl
theorem ls_J1_charAt_3b067 : Cond.static yJ1_charAt_3b067 ∈ ev_good := ev_in (ev_t2 _ (List.mem_of_getElem? (i := 3) rfl)) rfl
theorem yd_J0_checkIndex_df160 : ev_Yd yJ0_checkIndex_df160 RJ0 2 := ⟨rfl, by decide +kernel, by decide +kernel, by decide +kernel⟩
theorem lm_J0_checkIndex_df160 : Cond.code yJ0_checkIndex_df160 cJ0_checkIndex_df160 2 none ∈ ev_good := ev_in (ev_t2 _ (List.mem_of_getElem? (i := 7) rfl)) rfl
theorem ls_J0_checkIndex_df160 : Cond.static yJ0_checkIndex_df160 ∈ ev_good := ev_in (ev_t2 _ (List.mem_of_getElem? (i := 6) rfl)) rfl
theorem yd_J3_checkIndex_8e157 : ev_Yd yJ3_checkIndex_8e157 RJ3 3 := ⟨rfl, by decide +kernel, by decide +kernel, by decide +kernel⟩
theorem lm_J3_checkIndex_8e157 : Cond.code yJ3_checkIndex_8e157 cJ3_checkIndex_8e157 3 (some .int) ∈ ev_good := ev_in (ev_t2 _ (List.mem_of_getElem? (i := 12) rfl)) rfl
theorem ls_J3_checkIndex_8e157 : Cond.static yJ3_checkIndex_8e157 ∈ ev_good := ev_in (ev_t2 _ (List.mem_of_getElem? (i := 11) rfl)) rfl
theorem lkJ0_335 : Cond.methodLink RJ0 335 yJ0_coder_7d493 ∈ ev_good := ev_in (ev_t1 _ (List.mem_of_getElem? (i := 228) rfl)) rfl
theorem lkJ0_492 : Cond.methodLink RJ0 492 yJ0_isLatin1_aae02 ∈ ev_good := ev_in (ev_t1 _ (List.mem_of_getElem? (i := 238) rfl)) rfl
theorem lkJ0_495 : Cond.methodLink RJ0 495 yJ1_charAt_3b067 ∈ ev_good := ev_in (ev_t2 _ (List.mem_of_getElem? (i := 2) rfl)) rfl
theorem lkJ1_9 : Cond.methodLink RJ1 9 yJ0_checkIndex_df160 ∈ ev_good := ev_in (ev_t2 _ (List.mem_of_getElem? (i := 5) rfl)) rfl
theorem lkJ0_1059 : Cond.methodLink RJ0 1059 yJ3_checkIndex_8e157 ∈ ev_good := ev_in (ev_t2 _ (List.mem_of_getElem? (i := 10) rfl)) rfl
theorem lfJ0_9 : Cond.fieldLink RJ0 9 "java/lang/String" "value" "[B" ∈ ev_good := ev_in (ev_t9 _ (List.mem_of_getElem? (i := 49) rfl)) rfl
theorem lfJ0_15 : Cond.fieldLink RJ0 15 "java/lang/String" "coder" "B" ∈ ev_good := ev_in (ev_t9 _ (List.mem_of_getElem? (i := 50) rfl)) rfl
theorem lfJ0_38 : Cond.fieldLink RJ0 38 "java/lang/String" "COMPACT_STRINGS" "Z" ∈ ev_good := ev_in (ev_t1 _ (List.mem_of_getElem? (i := 232) rfl)) rfl
theorem lfJ0_1053 : Cond.fieldLink RJ0 1053 "jdk/internal/util/Preconditions" "SIOOBE_FORMATTER" "Ljava/util/function/BiFunction;" ∈ ev_good := ev_in (ev_t2 _ (List.mem_of_getElem? (i := 8) rfl)) rfl
theorem dJ0_length_8abf5_0 : decode cJ0_length_8abf5 0 = .ok (.aload_n 0, 1) := by decide +kernel
theorem dJ0_length_8abf5_1 : decode cJ0_length_8abf5 1 = .ok (.getfield 9, 3) := by decide +kernel
theorem dJ0_length_8abf5_4 : decode cJ0_length_8abf5 4 = .ok (.arraylength, 1) := by decide +kernel
theorem dJ0_length_8abf5_5 : decode cJ0_length_8abf5 5 = .ok (.aload_n 0, 1) := by decide +kernel
theorem dJ0_length_8abf5_6 : decode cJ0_length_8abf5 6 = .ok (.invokevirtual 335, 3) := by decide +kernel
theorem dJ0_length_8abf5_9 : decode cJ0_length_8abf5 9 = .ok (.ishr, 1) := by decide +kernel
theorem dJ0_length_8abf5_10 : decode cJ0_length_8abf5 10 = .ok (.ireturn, 1) := by decide +kernel
theorem dJ0_coder_7d493_0 : decode cJ0_coder_7d493 0 = .ok (.getstatic 38, 3) := by decide +kernel
theorem dJ0_coder_7d493_3 : decode cJ0_coder_7d493 3 = .ok (.ifCond .eq 10, 3) := by decide +kernel
theorem dJ0_coder_7d493_6 : decode cJ0_coder_7d493 6 = .ok (.aload_n 0, 1) := by decide +kernel
theorem dJ0_coder_7d493_7 : decode cJ0_coder_7d493 7 = .ok (.getfield 15, 3) := by decide +kernel
theorem dJ0_coder_7d493_10 : decode cJ0_coder_7d493 10 = .ok (.goto 4, 3) := by decide +kernel
theorem dJ0_coder_7d493_13 : decode cJ0_coder_7d493 13 = .ok (.iconst 1, 1) := by decide +kernel
theorem dJ0_coder_7d493_14 : decode cJ0_coder_7d493 14 = .ok (.ireturn, 1) := by decide +kernel
theorem dJ0_charAt_5068e_0 : decode cJ0_charAt_5068e 0 = .ok (.aload_n 0, 1) := by decide +kernel
theorem dJ0_charAt_5068e_1 : decode cJ0_charAt_5068e 1 = .ok (.invokevirtual 492, 3) := by decide +kernel
theorem dJ0_charAt_5068e_4 : decode cJ0_charAt_5068e 4 = .ok (.ifCond .eq 12, 3) := by decide +kernel
theorem dJ0_charAt_5068e_7 : decode cJ0_charAt_5068e 7 = .ok (.aload_n 0, 1) := by decide +kernel
theorem dJ0_charAt_5068e_8 : decode cJ0_charAt_5068e 8 = .ok (.getfield 9, 3) := by decide +kernel
theorem dJ0_charAt_5068e_11 : decode cJ0_charAt_5068e 11 = .ok (.iload_n 1, 1) := by decide +kernel
theorem dJ0_charAt_5068e_12 : decode cJ0_charAt_5068e 12 = .ok (.invokestatic 495, 3) := by decide +kernel
theorem dJ0_charAt_5068e_15 : decode cJ0_charAt_5068e 15 = .ok (.ireturn, 1) := by decide +kernel
theorem dJ0_charAt_5068e_16 : decode cJ0_charAt_5068e 16 = .ok (.aload_n 0, 1) := by decide +kernel
theorem dJ0_charAt_5068e_17 : decode cJ0_charAt_5068e 17 = .ok (.getfield 9, 3) := by decide +kernel
theorem dJ0_charAt_5068e_20 : decode cJ0_charAt_5068e 20 = .ok (.iload_n 1, 1) := by decide +kernel
theorem dJ0_charAt_5068e_21 : decode cJ0_charAt_5068e 21 = .ok (.invokestatic 498, 3) := by decide +kernel
theorem dJ0_charAt_5068e_24 : decode cJ0_charAt_5068e 24 = .ok (.ireturn, 1) := by decide +kernel
theorem dJ0_isLatin1_aae02_0 : decode cJ0_isLatin1_aae02 0 = .ok (.getstatic 38, 3) := by decide +kernel
theorem dJ0_isLatin1_aae02_3 : decode cJ0_isLatin1_aae02 3 = .ok (.ifCond .eq 14, 3) := by decide +kernel
theorem dJ0_isLatin1_aae02_6 : decode cJ0_isLatin1_aae02 6 = .ok (.aload_n 0, 1) := by decide +kernel
theorem dJ0_isLatin1_aae02_7 : decode cJ0_isLatin1_aae02 7 = .ok (.getfield 15, 3) := by decide +kernel
theorem dJ0_isLatin1_aae02_10 : decode cJ0_isLatin1_aae02 10 = .ok (.ifCond .ne 7, 3) := by decide +kernel
theorem dJ0_isLatin1_aae02_13 : decode cJ0_isLatin1_aae02 13 = .ok (.iconst 1, 1) := by decide +kernel
theorem dJ0_isLatin1_aae02_14 : decode cJ0_isLatin1_aae02 14 = .ok (.goto 4, 3) := by decide +kernel
theorem dJ0_isLatin1_aae02_17 : decode cJ0_isLatin1_aae02 17 = .ok (.iconst 0, 1) := by decide +kernel
theorem dJ0_isLatin1_aae02_18 : decode cJ0_isLatin1_aae02 18 = .ok (.ireturn, 1) := by decide +kernel
theorem dJ1_charAt_3b067_0 : decode cJ1_charAt_3b067 0 = .ok (.iload_n 1, 1) := by decide +kernel
theorem dJ1_charAt_3b067_1 : decode cJ1_charAt_3b067 1 = .ok (.aload_n 0, 1) := by decide +kernel
theorem dJ1_charAt_3b067_2 : decode cJ1_charAt_3b067 2 = .ok (.arraylength, 1) := by decide +kernel
theorem dJ1_charAt_3b067_3 : decode cJ1_charAt_3b067 3 = .ok (.invokestatic 9, 3) := by decide +kernel
theorem dJ1_charAt_3b067_6 : decode cJ1_charAt_3b067 6 = .ok (.aload_n 0, 1) := by decide +kernel
theorem dJ1_charAt_3b067_7 : decode cJ1_charAt_3b067 7 = .ok (.iload_n 1, 1) := by decide +kernel
theorem dJ1_charAt_3b067_8 : decode cJ1_charAt_3b067 8 = .ok (.baload, 1) := by decide +kernel
theorem dJ1_charAt_3b067_9 : decode cJ1_charAt_3b067 9 = .ok (.sipush 255, 3) := by decide +kernel
theorem dJ1_charAt_3b067_12 : decode cJ1_charAt_3b067 12 = .ok (.iand, 1) := by decide +kernel
theorem dJ1_charAt_3b067_13 : decode cJ1_charAt_3b067 13 = .ok (.i2c, 1) := by decide +kernel
theorem dJ1_charAt_3b067_14 : decode cJ1_charAt_3b067 14 = .ok (.ireturn, 1) := by decide +kernel
theorem dJ0_checkIndex_df160_0 : decode cJ0_checkIndex_df160 0 = .ok (.iload_n 0, 1) := by decide +kernel
theorem dJ0_checkIndex_df160_1 : decode cJ0_checkIndex_df160 1 = .ok (.iload_n 1, 1) := by decide +kernel
theorem dJ0_checkIndex_df160_2 : decode cJ0_checkIndex_df160 2 = .ok (.getstatic 1053, 3) := by decide +kernel
theorem dJ0_checkIndex_df160_5 : decode cJ0_checkIndex_df160 5 = .ok (.invokestatic 1059, 3) := by decide +kernel
theorem dJ0_checkIndex_df160_8 : decode cJ0_checkIndex_df160 8 = .ok (.pop, 1) := by decide +kernel
theorem dJ0_checkIndex_df160_9 : decode cJ0_checkIndex_df160 9 = .ok (.return_, 1) := by decide +kernel
theorem dJ3_checkIndex_8e157_0 : decode cJ3_checkIndex_8e157 0 = .ok (.iload_n 0, 1) := by decide +kernel
theorem dJ3_checkIndex_8e157_1 : decode cJ3_checkIndex_8e157 1 = .ok (.ifCond .lt 8, 3) := by decide +kernel
theorem dJ3_checkIndex_8e157_4 : decode cJ3_checkIndex_8e157 4 = .ok (.iload_n 0, 1) := by decide +kernel
theorem dJ3_checkIndex_8e157_5 : decode cJ3_checkIndex_8e157 5 = .ok (.iload_n 1, 1) := by decide +kernel
theorem dJ3_checkIndex_8e157_6 : decode cJ3_checkIndex_8e157 6 = .ok (.if_icmp .lt 10, 3) := by decide +kernel
theorem dJ3_checkIndex_8e157_9 : decode cJ3_checkIndex_8e157 9 = .ok (.aload_n 2, 1) := by decide +kernel
theorem dJ3_checkIndex_8e157_10 : decode cJ3_checkIndex_8e157 10 = .ok (.iload_n 0, 1) := by decide +kernel
theorem dJ3_checkIndex_8e157_11 : decode cJ3_checkIndex_8e157 11 = .ok (.iload_n 1, 1) := by decide +kernel
theorem dJ3_checkIndex_8e157_12 : decode cJ3_checkIndex_8e157 12 = .ok (.invokestatic 95, 3) := by decide +kernel
theorem dJ3_checkIndex_8e157_15 : decode cJ3_checkIndex_8e157 15 = .ok (.athrow, 1) := by decide +kernel
theorem dJ3_checkIndex_8e157_16 : decode cJ3_checkIndex_8e157 16 = .ok (.iload_n 0, 1) := by decide +kernel
theorem dJ3_checkIndex_8e157_17 : decode cJ3_checkIndex_8e157 17 = .ok (.ireturn, 1) := by decide +kernel
theorem ev_tx1 : ∀ i, i < 6 → ev_nth 0 ev_txl i ≤ 71 := by decide +kernel
theorem ev_tx2 : ∀ i, i < 6 → ∀ j, j < 71 → ev_txb i j ≤ 127 := by decide +kernel
theorem ev_tx3 : ∀ n, n ≤ 127 → (Int32.ofNat n &&& (Int16.ofInt 255).toInt32) = Int32.ofNat n ∧ ((Int32.ofNat n).toUInt32 % 65536).toInt32 = Int32.ofNat n := by decide +kernel
theorem ev_ilt_small {h : ev_H} {a b : Nat} {x y : ev_O} (ha : a ≤ 127) (hb : b ≤ 127) : ev_ilt h a b x y = if a < b then x else y := by
  have h0 : ∀ a, a ≤ 127 → ∀ b, b ≤ 127 → Nat.ble (Nat.lor a b) 4294967295 = true ∧ Nat.ble (Nat.succ (ev_s a)) (ev_s b) = decide (a < b) := by decide +kernel
  obtain ⟨h1, h2⟩ := h0 a ha b hb
  unfold ev_ilt
  rw [h1, h2, ev_if_eq, if_pos rfl, ev_if_eq]
  by_cases q : a < b
  · rw [decide_eq_true q, if_pos rfl, if_pos q]
  · rw [decide_eq_false q, if_neg (by decide), if_neg q]
section EVG
variable {p : Program} {l : Launch} {e : Env} {R : Room} {s : State} {m : MethodId} {args : Array Value} {below : List Frame} {meth : Method} {c : Code} {ρ : Nat → Int32} {τ : Nat → Nat} {D : va_G} {tys : List (ClassId × FieldType)} {A : Nat → Prop} {c0 s0 nL : Nat} {cc : ByteArray} {own : String} {fr lo : Nat} {w0 : va_W} {ret : Option FieldType} {hh : List ExceptionTableEntry} {nm : String}
variable {Q : State → Prop} {X : ev_X} {pc : Nat} {lv lv' : List (Nat × (Nat × Nat))} {st st' : List (Nat × Nat)} {h : ev_H} {K L : ev_O} {n i a b v tgt rk : Nat} {off : Int} {k : Nat → ev_O} {kh : ev_H → ev_O} {kn : Nat → ev_H → ev_O}

/-- the outside facts of a text -/
theorem ev_F.str (F : ev_F p l e R s m args below meth c ρ τ D tys A c0 s0 nL cc own fr lo w0 ret hh nm) {t : Nat} (ht : t < 6) : ev_Str τ t A s := by
  have h1 : ∃ q, ev_txts[t]? = some q := ⟨ev_txts[t], List.getElem?_eq_getElem (show t < ev_txts.length from ht)⟩
  obtain ⟨q, hq⟩ := h1
  exact (F.2.2.2.2.2.2.1.2.2.2.2.2.2.2.2 t q hq).2
theorem ev_RV.out {ws : va_W} {n : Nat} {v : Value} (h : ev_RV ρ τ ws 3 n v) (h1 : 16 ≤ n) (h2 : n < 64) : v = .ref (τ n) := by
  rcases h.r with ⟨h, -⟩ | ⟨h, -⟩ | ⟨-, -, -, h⟩ | ⟨h, -⟩
  · omega
  · omega
  · exact h
  · omega
theorem ev_RV.ofo {ws : va_W} {n : Nat} (h1 : 16 ≤ n) (h2 : n < 64) : ev_RV ρ τ ws 3 n (.ref (τ n)) :=
  ev_RV.ofr (by omega) (Or.inr (Or.inr (Or.inl ⟨by omega, by omega, h2, rfl⟩)))
theorem ev_VI.ofNat {n : Nat} (h : n < 4294967296) : ev_VI ρ n (Int32.ofNat n) := Or.inl (by
  show (BitVec.ofNat 32 n).toNat = n
  rw [BitVec.toNat_ofNat]
  omega)
theorem gd_tcoder {t : Nat} (ht : t < 6) (d : decode cc pc = .ok (.getfield 15, 3)) (g : ev_Gd p l e R s m args below meth c ρ τ D tys A c0 s0 nL cc RJ0 fr lo w0 ret hh nm Q X (pc + 3) lv ((1, 0) :: st) h K) : ev_Gd p l e R s m args below meth c ρ τ D tys A c0 s0 nL cc RJ0 fr lo w0 ret hh nm Q X pc lv ((3, 16 + t) :: st) h K := fun z =>
  gd_w id (ev_le.rf h) g (fun F _ _ _ _ _ ws H locs ls stv hP hD hS hH hL hR kk => by
    obtain ⟨u, m1, rfl, h1, hr1⟩ := hR.cons
    cases h1.out (by omega) (by omega)
    exact vk_getf F.1 F.2.1 (F.str ht).2.1 hS F.2.2.2.1 (F.2.2.2.2.1 _ lfJ0_15) (fun _ q => q) d (kk ws ev_E.rf H locs ls _ hP hD hS hH hL ⟨ev_RV.ofi (ev_VI.ofNat (by decide)), hr1⟩)) z
theorem gd_tval {t : Nat} (ht : t < 6) (d : decode cc pc = .ok (.getfield 9, 3)) (g : ev_Gd p l e R s m args below meth c ρ τ D tys A c0 s0 nL cc RJ0 fr lo w0 ret hh nm Q X (pc + 3) lv ((3, 32 + t) :: st) h K) : ev_Gd p l e R s m args below meth c ρ τ D tys A c0 s0 nL cc RJ0 fr lo w0 ret hh nm Q X pc lv ((3, 16 + t) :: st) h K := fun z =>
  gd_w id (ev_le.rf h) g (fun F _ _ _ _ _ ws H locs ls stv hP hD hS hH hL hR kk => by
    obtain ⟨u, m1, rfl, h1, hr1⟩ := hR.cons
    cases h1.out (by omega) (by omega)
    exact vk_getf F.1 F.2.1 (F.str ht).2.2.1 hS F.2.2.2.1 (F.2.2.2.2.1 _ lfJ0_9) (fun _ q => q) d (kk ws ev_E.rf H locs ls _ hP hD hS hH hL ⟨ev_RV.ofo (by omega) (by omega), hr1⟩)) z
theorem gd_tcomp (d : decode cc pc = .ok (.getstatic 38, 3)) (g : ev_Gd p l e R s m args below meth c ρ τ D tys A c0 s0 nL cc RJ0 fr lo w0 ret hh nm Q X (pc + 3) lv ((1, 1) :: st) h K) : ev_Gd p l e R s m args below meth c ρ τ D tys A c0 s0 nL cc RJ0 fr lo w0 ret hh nm Q X pc lv st h K := fun z =>
  gd_w id (ev_le.rf h) g (fun F _ _ _ _ _ ws H locs ls stv hP hD hS hH hL hR kk =>
    va_gets F.1 F.2.1 (F.str (t := 0) (by decide)).2.2.2.2.1 hS F.2.2.2.1 (F.2.2.2.2.1 _ lfJ0_38) (fun _ q => q) d (kk ws ev_E.rf H locs ls _ hP hD hS hH hL ⟨ev_RV.ofi (ev_VI.ofNat (by decide)), hR⟩)) z
theorem gd_tform (d : decode cc pc = .ok (.getstatic 1053, 3)) (g : ∀ r, ev_Gd p l e R s m args below meth c ρ τ D tys A c0 s0 nL cc RJ0 fr lo w0 ret hh nm Q X (pc + 3) lv ((3, r) :: st) h K) : ev_Gd p l e R s m args below meth c ρ τ D tys A c0 s0 nL cc RJ0 fr lo w0 ret hh nm Q X pc lv st h K := fun z =>
  ⟨((g 0) z).1, fun F x1 x2 x3 x4 ws H locs ls stv hE hP hD hS hH hL hR => by
    rcases (F.str (t := 0) (by decide)).2.2.2.2.2.1 with q | ⟨a9, q⟩
    · exact va_gets F.1 F.2.1 q hS F.2.2.2.1 (F.2.2.2.2.1 _ lfJ0_1053) (fun _ q => q) d ((g 0 z).2 F x1 x2 x3 x4 ws H locs ls _ hE hP hD hS hH hL ⟨ev_RV.ofr (by decide) (Or.inl ⟨rfl, rfl⟩), hR⟩)
    · exact va_gets F.1 F.2.1 q hS F.2.2.2.1 (F.2.2.2.2.1 _ lfJ0_1053) (fun _ q => q) d ((g 2 z).2 F x1 x2 x3 x4 ws H locs ls _ hE hP hD hS hH hL ⟨ev_RV.ofr (by decide) (Or.inr (Or.inl ⟨rfl, _, rfl⟩)), hR⟩)⟩
theorem gd_tlen {t : Nat} (ht : t < 6) (d : decode cc pc = .ok (.arraylength, 1)) (g : ev_Gd p l e R s m args below meth c ρ τ D tys A c0 s0 nL cc own fr lo w0 ret hh nm Q X (pc + 1) lv ((1, ev_nth 0 ev_txl t) :: st) h K) : ev_Gd p l e R s m args below meth c ρ τ D tys A c0 s0 nL cc own fr lo w0 ret hh nm Q X pc lv ((3, 32 + t) :: st) h K := fun z =>
  gd_w id (ev_le.rf h) g (fun F _ _ _ _ _ ws H locs ls stv hP hD hS hH hL hR kk => by
    obtain ⟨u, m1, rfl, h1, hr1⟩ := hR.cons
    cases h1.out (by omega) (by omega)
    have h9 := ev_tx1 t ht
    exact va_tlen F.1 F.2.1 (F.str ht).2.2.2.1 hS rfl d (kk ws ev_E.rf H locs ls _ hP hD hS hH hL ⟨ev_RV.ofi (ev_VI.ofNat (by omega)), hr1⟩)) z
theorem gd_tchar {t : Nat} (ht : t < 6) (hi : i < ev_nth 0 ev_txl t) (hr : ret = some .char) (d0 : decode cc pc = .ok (.baload, 1)) (d1 : decode cc (pc + 1) = .ok (.sipush 255, 3)) (d4 : decode cc (pc + 4) = .ok (.iand, 1)) (d5 : decode cc (pc + 5) = .ok (.i2c, 1)) (d6 : decode cc (pc + 6) = .ok (.ireturn, 1)) :
    ev_Gd p l e R s m args below meth c ρ τ D tys A c0 s0 nL cc own fr lo w0 ret hh nm (ev_Q below ρ τ D tys A 1 X w0 args s c0 s0) X pc lv [(1, i), (3, 32 + t)] h (ev_ret (ev_txb t i) h) := by
  intro z
  cases z
  refine ⟨ev_le.rf h, fun F x1 x2 x3 x4 ws H locs ls stv hE hP hD hS hH hL hR => ?_⟩
  obtain ⟨u, m1, rfl, h1, hr1⟩ := hR.cons
  obtain ⟨u2, m2, rfl, h2, hr2⟩ := hr1.cons
  cases h2.out (by omega) (by omega)
  obtain ⟨x, rfl, hx⟩ := h1.i
  have h9 := ev_tx1 t ht
  cases m2 with
  | cons _ _ => exact hr2.elim
  | nil =>
    obtain ⟨e1, e2⟩ := ev_ix (hx.small (by omega)) hi (by omega)
    have hb := ev_tx2 t ht i (by omega)
    obtain ⟨q1, q2⟩ := ev_tx3 _ hb
    refine va_tb F.1 F.2.1 (F.str ht).2.2.2.1 hS e2 rfl d0 ?_
    rw [e1]
    refine lv_sipush F.1 F.2.1 d1 rfl (lv_iand F.1 F.2.1 d4 ?_)
    rw [q1]
    refine lv_i2c F.1 F.2.1 d5 q2 (vx_ret (W.zret F.1 F.2.1 (F.2.2.2.2.2.2.2.2.2.2.2.1.trans hr) (pk_charN (by omega)).1 (fun t9 ht9 _ => ⟨⟨ev_txb t i, h, ws, _, rfl, rfl, Or.inr ⟨_, rfl, ev_RV.ofi (ev_VI.ofNat (by omega))⟩, hE, hH, by rw [ht9]; exact hP, hD⟩, hS.F ht9⟩) hS.2.2 d6 F.2.2.2.2.2.1))
/-- a small result of a narrow type -/
theorem gd_nret {ty : FieldType} (hr : ret = some ty) (hn : n ≤ 127) (hty : ∀ n, n ≤ 127 → narrow ty (.int (Int32.ofNat n)) = .int (Int32.ofNat n)) (d : decode cc pc = .ok (.ireturn, 1)) :
    ev_Gd p l e R s m args below meth c ρ τ D tys A c0 s0 nL cc own fr lo w0 ret hh nm (ev_Q below ρ τ D tys A 1 X w0 args s c0 s0) X pc lv [(1, n)] h (ev_ret n h) :=
  gd_end (r0 := .null) (fun _ _ _ => trivial) fun F H locs ls ws v h1 hq hf => by
    obtain ⟨x, rfl, hx⟩ := h1.i
    have e := ev_ofn (hx.small (by omega))
    exact W.zret F.1 F.2.1 (F.2.2.2.2.2.2.2.2.2.2.2.1.trans hr) (by rw [e]; exact hty n hn) hq hf d F.2.2.2.2.2.1
theorem gd_callSX {idx nL' fr' lo' : Nat} {C : String} {y : MethodName} {bytes : ByteArray} {ret' : Option FieldType} {as : List (Nat × Nat)} (hy : ev_Yd y C as.length) (hcode : Cond.code y bytes nL' ret' ∈ ev_good) (hl : Cond.methodLink own idx y ∈ ev_good) (hi : Cond.static y ∈ ev_good) (hin : Cond.initialized C ∈ ev_good)
    (hfr : fr' + 1 ≤ fr) (hlo : 8 + (nL' + 11) + lo' ≤ lo) (hst : (st.map fun q => if q.1 = 2 ∨ q.1 = 4 then 2 else 1).sum ≤ 8) (hcon : ev_Con l ρ τ D tys A y (Cond.code y bytes nL' ret') fr' lo' rk as h (.inl (v, h)))
    (d : decode cc pc = .ok (.invokestatic idx, 3)) (g : ev_Gd p l e R s m args below meth c ρ τ D tys A c0 s0 nL cc own fr lo w0 ret hh nm Q X (pc + 3) lv (ev_psh rk v st) h K) : ev_Gd p l e R s m args below meth c ρ τ D tys A c0 s0 nL cc own fr lo w0 ret hh nm Q X pc lv (as.reverse ++ st) h K := by
  obtain ⟨h', hh'⟩ : ∃ h', h' = h := ⟨h, rfl⟩
  intro hk
  obtain ⟨g1, -⟩ := g hk
  have hle1 : ev_le h h' := by rw [hh']; exact ev_le.rf h
  rw [← hh'] at g
  have hcon : ev_Con l ρ τ D tys A y (Cond.code y bytes nL' ret') fr' lo' rk as h (.inl (v, h')) := by rw [hh']; exact hcon
  refine gd_w (fun _ => hk) hle1 g (fun F x1 x2 x3 x4 x5 ws H locs ls stv hP hD hS hH hL hR kk => ?_) hk
  obtain ⟨avr, rest, rfl, q1, q5, q3⟩ := ev_R1_split hR
  have hlen : avr.reverse.length = as.length := by rw [List.length_reverse, q3, List.length_reverse]
  have q1r : ev_R1 ρ τ ws as avr.reverse := by have := ev_R1_rev q1; rwa [List.reverse_reverse] at this
  have hM := hcon.met hH (av := avr.reverse) q1r
  have hcw : CallB R s args own idx y bytes nL' ret' (Cond.code y bytes nL' ret' :: ev_good) { frames := fr', cells := ev_c h' - ev_c h, slots := ev_z h' - ev_z h, locals := lo' } (ev_c h' - ev_c h) (ev_z h' - ev_z h) as.length ∧ (Cond.static y).before args s = true :=
    va_cwS as.length F.2.2.2.2.1 (ev_goods hcode (fun w hw => by
      simp only [List.mem_cons, List.not_mem_nil, or_false] at hw
      rcases hw with rfl | rfl | rfl
      · exact hl
      · exact hi
      · rw [hy.1]; exact hin)) rfl rfl rfl hy.2 ⟨by rw [F.2.2.2.2.2.2.2.2.1]; exact hfr, by rw [F.2.2.2.2.2.2.2.2.2.1]; exact hlo⟩
  have hf1 : ev_c h ≤ ev_c h' := hle1.1
  have hf2 : ev_z h ≤ ev_z h' := hle1.2
  have hf3 : ev_c h' ≤ ev_c (ev_xh X) := x5.1
  have hf4 : ev_z h' ≤ ev_z (ev_xh X) := x5.2
  have hrun := va_runS (p := p) (l := l) (e := e) (R := R) (s := s) (m := m) (args := args) (below := below) (meth := meth) (c := c) (H := H) (locs := locs) (cells := ev_c h - c0) (slots := ev_z h - s0) (g := F0 m pc ls (avr ++ rest)) (rest := rest) (As := avr.reverse)
    ⟨F.1, F.2.1, F.2.2.1, F.2.2.2.1, F.2.2.2.2.1⟩ hM hcw ⟨ev_In.blind D tys A τ ws _, fun U hU hW => ⟨rfl, ev_In.of F hP hD hS hU hW⟩⟩ rfl hlen hL.1 (by show avr ++ _ = _; rw [List.reverse_reverse]) (lv_room (by rw [ev_sum q5]; exact hst)) d ⟨by omega, by omega⟩
  refine ev_back hS hrun fun ws' H' locs' ov hE' hP' hD' hS' hH' hro => ?_
  have hk2 := kk ws' hE' H' locs' ls _ hP' hD' hS' hH' (hL.mono hE') (ev_R1_psh hro (ev_R1.mono hE' _ _ q5))
  have e1 : ev_c h - c0 + (ev_c h' - ev_c h) = ev_c h' - c0 := by omega
  have e2 : ev_z h - s0 + (ev_z h' - ev_z h) = ev_z h' - s0 := by omega
  rw [e1, e2]
  exact hk2
theorem gd_callX {t idx nL' fr' lo' : Nat} {y : MethodName} {bytes : ByteArray} {ret' : Option FieldType} {as : List (Nat × Nat)} (ht : t < 6) (hy : ev_Yd y RJ0 as.length) (hcode : Cond.code y bytes nL' ret' ∈ ev_good) (hl : Cond.methodLink own idx y ∈ ev_good) (hi : Cond.instanceMethod y ∈ ev_good) (hse : Cond.selects RJ0 y y ∈ ev_good) (hin : Cond.initialized RJ0 ∈ ev_good)
    (hfr : fr' + 1 ≤ fr) (hlo : 8 + (nL' + 11) + lo' ≤ lo) (hst : (st.map fun q => if q.1 = 2 ∨ q.1 = 4 then 2 else 1).sum ≤ 8) (hcon : ev_Con l ρ τ D tys A y (Cond.code y bytes nL' ret') fr' lo' rk ((3, 16 + t) :: as) h (.inl (v, h)))
    (d : decode cc pc = .ok (.invokevirtual idx, 3)) (g : ev_Gd p l e R s m args below meth c ρ τ D tys A c0 s0 nL cc own fr lo w0 ret hh nm Q X (pc + 3) lv (ev_psh rk v st) h K) : ev_Gd p l e R s m args below meth c ρ τ D tys A c0 s0 nL cc own fr lo w0 ret hh nm Q X pc lv (as.reverse ++ (3, 16 + t) :: st) h K := by
  obtain ⟨h', hh'⟩ : ∃ h', h' = h := ⟨h, rfl⟩
  intro hk
  obtain ⟨g1, -⟩ := g hk
  have hle1 : ev_le h h' := by rw [hh']; exact ev_le.rf h
  rw [← hh'] at g
  have hcon : ev_Con l ρ τ D tys A y (Cond.code y bytes nL' ret') fr' lo' rk ((3, 16 + t) :: as) h (.inl (v, h')) := by rw [hh']; exact hcon
  refine gd_w (fun _ => hk) hle1 g (fun F x1 x2 x3 x4 x5 ws H locs ls stv hP hD hS hH hL hR kk => ?_) hk
  obtain ⟨avr, r1, rfl, q1, q2, q3⟩ := ev_R1_split hR
  obtain ⟨u, rest, rfl, q4, q5⟩ := q2.cons
  obtain ⟨b9, hb9⟩ : ∃ b9, b9 = τ (16 + t) := ⟨_, rfl⟩
  cases (show u = .ref b9 by rw [hb9]; exact q4.out (by omega) (by omega))
  have hre : ∃ cell : Cell, H[b9]? = some cell ∧ cell.vm.isStatics = false ∧ s.vm.findClass RJ0 = some cell.cls := by
    obtain ⟨cell, r1, r2, r3, -⟩ := (F.str ht).1.kept hS.2.1
    exact ⟨cell, by rw [hb9]; exact r1, r2, r3⟩
  have hlen : avr.reverse.length = as.length := by rw [List.length_reverse, q3, List.length_reverse]
  have q1r : ev_R1 ρ τ ws as avr.reverse := by have := ev_R1_rev q1; rwa [List.reverse_reverse] at this
  have hM := hcon.met hH (av := .ref b9 :: avr.reverse) ⟨q4, q1r⟩
  have hcw : CallW R s args own RJ0 idx y bytes nL' ret' (Cond.code y bytes nL' ret' :: ev_good) { frames := fr', cells := ev_c h' - ev_c h, slots := ev_z h' - ev_z h, locals := lo' } (ev_c h' - ev_c h) (ev_z h' - ev_z h) as.length :=
    cwV as.length F.2.2.2.2.1 (ev_goods hcode (fun w hw => by
      simp only [List.mem_cons, List.not_mem_nil, or_false] at hw
      rcases hw with rfl | rfl | rfl | rfl
      · exact hl
      · exact hi
      · exact hse
      · exact hin)) rfl rfl rfl hy ⟨by rw [F.2.2.2.2.2.2.2.2.1]; exact hfr, by rw [F.2.2.2.2.2.2.2.2.2.1]; exact hlo⟩
  have hf1 : ev_c h ≤ ev_c h' := hle1.1
  have hf2 : ev_z h ≤ ev_z h' := hle1.2
  have hf3 : ev_c h' ≤ ev_c (ev_xh X) := x5.1
  have hf4 : ev_z h' ≤ ev_z (ev_xh X) := x5.2
  have hrun := va_runV (p := p) (l := l) (e := e) (R := R) (s := s) (m := m) (args := args) (below := below) (meth := meth) (c := c) (H := H) (locs := locs) (cells := ev_c h - c0) (slots := ev_z h - s0) (g := F0 m pc ls (avr ++ Value.ref b9 :: rest)) (rest := rest) (As := avr.reverse) (b := b9)
    ⟨F.1, F.2.1, F.2.2.1, F.2.2.2.1, F.2.2.2.2.1⟩ hM hcw ⟨ev_In.blind D tys A τ ws _, hre, fun U hU hW => ⟨rfl, ev_In.of F hP hD hS hU hW⟩⟩ rfl hlen hL.1 (by show avr ++ _ = _; rw [List.reverse_reverse]) (lv_room (by rw [ev_sum q5]; exact hst)) d ⟨by omega, by omega⟩
  refine ev_back hS hrun fun ws' H' locs' ov hE' hP' hD' hS' hH' hro => ?_
  have hk2 := kk ws' hE' H' locs' ls _ hP' hD' hS' hH' (hL.mono hE') (ev_R1_psh hro (ev_R1.mono hE' _ _ q5))
  have e1 : ev_c h - c0 + (ev_c h' - ev_c h) = ev_c h' - c0 := by omega
  have e2 : ev_z h - s0 + (ev_z h' - ev_z h) = ev_z h' - s0 := by omega
  rw [e1, e2]
  exact hk2
theorem cn_J3_checkIndex_8e157 (htr : l.stackTraces = false) {h : ev_H} (hi : i < n) (hn : n ≤ 71) : ev_Con l ρ τ D tys A yJ3_checkIndex_8e157 (Cond.code yJ3_checkIndex_8e157 cJ3_checkIndex_8e157 3 (some .int)) 0 0 1 [(1, i), (1, n), (3, a)] h (.inl (i, h)) :=
  gd_con (own := RJ3) (by decide +kernel) rfl htr (Nat.le_of_ble_eq_true rfl) (fun p e R s m args below meth c w0 => gd_eq (lv' := [(0, (1, i)), (1, (1, n)), (2, (3, a))]) rfl (gd_iload_n dJ3_checkIndex_8e157_0 rfl 0 rfl (gd_if_lt dJ3_checkIndex_8e157_1 rfl gd_no (gd_iload_n dJ3_checkIndex_8e157_4 rfl 0 rfl (gd_iload_n dJ3_checkIndex_8e157_5 rfl 1 rfl (gd_icmp_lt dJ3_checkIndex_8e157_6 rfl (gd_iload_n dJ3_checkIndex_8e157_16 rfl 0 rfl (gd_iret rfl dJ3_checkIndex_8e157_17)) gd_no)))))) (K := ev_ilt h i 0 none (ev_ilt h i n (ev_ret i h) none)) (by rw [ev_ilt_small (by omega) (by omega), if_neg (by omega), ev_ilt_small (by omega) (by omega), if_pos hi]; rfl)
theorem cn_J0_checkIndex_df160 (htr : l.stackTraces = false) {h : ev_H} (hi : i < n) (hn : n ≤ 71) : ev_Con l ρ τ D tys A yJ0_checkIndex_df160 (Cond.code yJ0_checkIndex_df160 cJ0_checkIndex_df160 2 none) 1 22 0 [(1, i), (1, n)] h (.inl (0, h)) :=
  gd_con (own := RJ0) (by decide +kernel) rfl htr (Nat.le_of_ble_eq_true rfl) (fun p e R s m args below meth c w0 => gd_eq (lv' := [(0, (1, i)), (1, (1, n))]) rfl (gd_iload_n dJ0_checkIndex_df160_0 rfl 0 rfl (gd_iload_n dJ0_checkIndex_df160_1 rfl 1 rfl (gd_tform dJ0_checkIndex_df160_2 fun r => gd_callSX (as := [(1, i), (1, n), (3, r)]) (rk := 1) yd_J3_checkIndex_8e157 lm_J3_checkIndex_8e157 lkJ0_1059 ls_J3_checkIndex_8e157 li_J3 (Nat.le_refl _) (Nat.le_refl _) (by decide) (cn_J3_checkIndex_8e157 htr hi hn) dJ0_checkIndex_df160_5 (gd_pop (Or.inl rfl) dJ0_checkIndex_df160_8 (gd_vret rfl dJ0_checkIndex_df160_9)))))) (K := ev_ret (0) h) (rfl)
theorem cn_J1_charAt_3b067 (htr : l.stackTraces = false) {h : ev_H} {t : Nat} (ht : t < 6) (hi : i < ev_nth 0 ev_txl t) : ev_Con l ρ τ D tys A yJ1_charAt_3b067 (Cond.code yJ1_charAt_3b067 cJ1_charAt_3b067 2 (some .char)) 2 43 1 [(3, 32 + t), (1, i)] h (.inl (ev_txb t i, h)) :=
  gd_con (own := RJ1) (by decide +kernel) rfl htr (Nat.le_of_ble_eq_true rfl) (fun p e R s m args below meth c w0 => gd_eq (lv' := [(0, (3, 32 + t)), (1, (1, i))]) rfl (gd_iload_n dJ1_charAt_3b067_0 rfl 1 rfl (gd_aload_n dJ1_charAt_3b067_1 rfl 0 rfl (gd_tlen ht dJ1_charAt_3b067_2 (gd_callSX (st := []) (as := [(1, i), (1, ev_nth 0 ev_txl t)]) (rk := 0) yd_J0_checkIndex_df160 lm_J0_checkIndex_df160 lkJ1_9 ls_J0_checkIndex_df160 li_J0 (Nat.le_refl _) (Nat.le_refl _) (by decide) (cn_J0_checkIndex_df160 htr hi (ev_tx1 t ht)) dJ1_charAt_3b067_3 (gd_aload_n dJ1_charAt_3b067_6 rfl 0 rfl (gd_iload_n dJ1_charAt_3b067_7 rfl 1 rfl (gd_tchar ht hi rfl dJ1_charAt_3b067_8 dJ1_charAt_3b067_9 dJ1_charAt_3b067_12 dJ1_charAt_3b067_13 dJ1_charAt_3b067_14)))))))) (K := ev_ret (ev_txb t i) h) (rfl)
theorem cn_J0_coder_7d493 (htr : l.stackTraces = false) {h : ev_H} {t : Nat} (ht : t < 6) : ev_Con l ρ τ D tys A yJ0_coder_7d493 (Cond.code yJ0_coder_7d493 cJ0_coder_7d493 1 (some .byte)) 0 0 1 [(3, 16 + t)] h (.inl (0, h)) :=
  gd_con (own := RJ0) (by decide +kernel) rfl htr (Nat.le_of_ble_eq_true rfl) (fun p e R s m args below meth c w0 => gd_eq (lv' := [(0, (3, 16 + t))]) rfl (gd_tcomp dJ0_coder_7d493_0 (gd_if_eq dJ0_coder_7d493_3 rfl gd_no (gd_aload_n dJ0_coder_7d493_6 rfl 0 rfl (gd_tcoder ht dJ0_coder_7d493_7 (gd_goto dJ0_coder_7d493_10 rfl (gd_nret rfl (by decide) (by decide +kernel) dJ0_coder_7d493_14))))))) (K := ev_ieq h 1 0 none (ev_ret 0 h)) (rfl)
theorem cn_J0_isLatin1_aae02 (htr : l.stackTraces = false) {h : ev_H} {t : Nat} (ht : t < 6) : ev_Con l ρ τ D tys A yJ0_isLatin1_aae02 (Cond.code yJ0_isLatin1_aae02 cJ0_isLatin1_aae02 1 (some .boolean)) 0 0 1 [(3, 16 + t)] h (.inl (1, h)) :=
  gd_con (own := RJ0) (by decide +kernel) rfl htr (Nat.le_of_ble_eq_true rfl) (fun p e R s m args below meth c w0 => gd_eq (lv' := [(0, (3, 16 + t))]) rfl (gd_tcomp dJ0_isLatin1_aae02_0 (gd_if_eq dJ0_isLatin1_aae02_3 rfl gd_no (gd_aload_n dJ0_isLatin1_aae02_6 rfl 0 rfl (gd_tcoder ht dJ0_isLatin1_aae02_7 (gd_if_ne dJ0_isLatin1_aae02_10 rfl gd_no (gd_iconst dJ0_isLatin1_aae02_13 rfl (gd_goto dJ0_isLatin1_aae02_14 rfl (gd_zret rfl dJ0_isLatin1_aae02_18))))))))) (K := ev_ieq h 1 0 none (ev_ieq h 0 0 (ev_zret 1 h) none)) (rfl)
theorem cn_J0_length_8abf5 (htr : l.stackTraces = false) {h : ev_H} {t : Nat} (ht : t < 6) : ev_Con l ρ τ D tys A yJ0_length_8abf5 (Cond.code yJ0_length_8abf5 cJ0_length_8abf5 1 (some .int)) 1 20 1 [(3, 16 + t)] h (.inl (ev_nth 0 ev_txl t, h)) :=
  gd_con (own := RJ0) (by decide +kernel) rfl htr (Nat.le_of_ble_eq_true rfl) (fun p e R s m args below meth c w0 => gd_eq (lv' := [(0, (3, 16 + t))]) rfl (gd_aload_n dJ0_length_8abf5_0 rfl 0 rfl (gd_tval ht dJ0_length_8abf5_1 (gd_tlen ht dJ0_length_8abf5_4 (gd_aload_n dJ0_length_8abf5_5 rfl 0 rfl (gd_callX (st := [(1, ev_nth 0 ev_txl t)]) (as := []) (rk := 1) ht yd_J0_coder_7d493 lm_J0_coder_7d493 lkJ0_335 li_J0_coder_7d493 le_J0_coder_7d493 li_J0 (Nat.le_refl _) (Nat.le_refl _) (Nat.le_of_ble_eq_true rfl) (cn_J0_coder_7d493 htr ht) dJ0_length_8abf5_6 (gd_ishr dJ0_length_8abf5_9 fun r => gd_iret rfl dJ0_length_8abf5_10))))))) (K := ev_ishr (ev_nth 0 ev_txl t) 0 fun r => ev_ret r h) (by match t, ht with | 0, _ => rfl | 1, _ => rfl | 2, _ => rfl | 3, _ => rfl | 4, _ => rfl | 5, _ => rfl | t + 6, q => exact absurd q (by omega))
theorem cn_J0_charAt_5068e (htr : l.stackTraces = false) {h : ev_H} {t : Nat} (ht : t < 6) (hi : i < ev_nth 0 ev_txl t) : ev_Con l ρ τ D tys A yJ0_charAt_5068e (Cond.code yJ0_charAt_5068e cJ0_charAt_5068e 2 (some .char)) 3 64 1 [(3, 16 + t), (1, i)] h (.inl (ev_txb t i, h)) :=
  gd_con (own := RJ0) (by decide +kernel) rfl htr (Nat.le_of_ble_eq_true rfl) (fun p e R s m args below meth c w0 => gd_eq (lv' := [(0, (3, 16 + t)), (1, (1, i))]) rfl (gd_aload_n dJ0_charAt_5068e_0 rfl 0 rfl (gd_callX (st := []) (as := []) (rk := 1) ht yd_J0_isLatin1_aae02 lm_J0_isLatin1_aae02 lkJ0_492 li_J0_isLatin1_aae02 le_J0_isLatin1_aae02 li_J0 (by decide) (by decide) (by decide) (cn_J0_isLatin1_aae02 htr ht) dJ0_charAt_5068e_1 (gd_if_eq dJ0_charAt_5068e_4 rfl gd_no (gd_aload_n dJ0_charAt_5068e_7 rfl 0 rfl (gd_tval ht dJ0_charAt_5068e_8 (gd_iload_n dJ0_charAt_5068e_11 rfl 1 rfl (gd_callSX (st := []) (as := [(3, 32 + t), (1, i)]) (rk := 1) yd_J1_charAt_3b067 lm_J1_charAt_3b067 lkJ0_495 ls_J1_charAt_3b067 li_J1 (Nat.le_refl _) (Nat.le_refl _) (by decide) (cn_J1_charAt_3b067 htr ht hi) dJ0_charAt_5068e_12 (gd_nret rfl (ev_tx2 t ht i (Nat.lt_of_lt_of_le hi (ev_tx1 t ht))) (by decide +kernel) dJ0_charAt_5068e_15))))))))) (K := ev_ieq h 1 0 none (ev_ret (ev_txb t i) h)) (rfl)
theorem gd_slen {idx : Nat} (htr : l.stackTraces = false) (hl : Cond.methodLink own idx yJ0_length_8abf5 ∈ ev_good) (hfr : 5 ≤ fr) (hlo : 140 ≤ lo) (hst : (st.map fun q => if q.1 = 2 ∨ q.1 = 4 then 2 else 1).sum ≤ 8) (d : decode cc pc = .ok (.invokevirtual idx, 3)) (g : ∀ r, ev_Gd p l e R s m args below meth c ρ τ D tys A c0 s0 nL cc own fr lo w0 ret hh nm Q X (pc + 3) lv ((1, r) :: st) h (k r)) : ev_Gd p l e R s m args below meth c ρ τ D tys A c0 s0 nL cc own fr lo w0 ret hh nm Q X pc lv ((3, a) :: st) h (ev_slen a k) := by
  intro z
  obtain ⟨q1, z1⟩ := ev_ifn z
  obtain ⟨q2, z2⟩ := ev_ifn z1
  rw [ev_f_eq] at z2
  have q1 := Nat.le_of_ble_eq_true q1
  have q2 := Nat.le_of_ble_eq_true q2
  obtain ⟨t, rfl⟩ : ∃ t, a = 16 + t := ⟨a - 16, by omega⟩
  have e : Nat.sub (16 + t) 16 = t := by
    show 16 + t - 16 = t
    omega
  rw [e] at z2
  have g9 := gd_callX (as := []) (rk := 1) (v := ev_nth 0 ev_txl t) (by omega) yd_J0_length_8abf5 lm_J0_length_8abf5 hl li_J0_length_8abf5 le_J0_length_8abf5 li_J0 (by omega) (by omega) hst (cn_J0_length_8abf5 htr (by omega)) d (g _)
  exact g9 z2
theorem gd_schar {idx : Nat} (htr : l.stackTraces = false) (hl : Cond.methodLink own idx yJ0_charAt_5068e ∈ ev_good) (hfr : 5 ≤ fr) (hlo : 140 ≤ lo) (hst : (st.map fun q => if q.1 = 2 ∨ q.1 = 4 then 2 else 1).sum ≤ 8) (d : decode cc pc = .ok (.invokevirtual idx, 3)) (g : ∀ r, ev_Gd p l e R s m args below meth c ρ τ D tys A c0 s0 nL cc own fr lo w0 ret hh nm Q X (pc + 3) lv ((1, r) :: st) h (k r)) : ev_Gd p l e R s m args below meth c ρ τ D tys A c0 s0 nL cc own fr lo w0 ret hh nm Q X pc lv ((1, i) :: (3, a) :: st) h (ev_schar a i k) := by
  intro z
  obtain ⟨q1, z1⟩ := ev_ifn z
  obtain ⟨q2, z2⟩ := ev_ifn z1
  obtain ⟨q3, z3⟩ := ev_ifn z2
  rw [ev_f_eq] at z3
  have q1 := Nat.le_of_ble_eq_true q1
  have q2 := Nat.le_of_ble_eq_true q2
  have q3 := Nat.le_of_ble_eq_true q3
  obtain ⟨t, rfl⟩ : ∃ t, a = 16 + t := ⟨a - 16, by omega⟩
  have e : Nat.sub (16 + t) 16 = t := by
    show 16 + t - 16 = t
    omega
  rw [e] at z3 q3
  have g9 := gd_callX (as := [(1, i)]) (rk := 1) (v := ev_txb t i) (by omega) yd_J0_charAt_5068e lm_J0_charAt_5068e hl li_J0_charAt_5068e le_J0_charAt_5068e li_J0 (by omega) (by omega) hst (cn_J0_charAt_5068e htr (by omega) q3) d (g _)
  exact g9 z3
end EVG
