/-! THE OPERATIONS ON CODES -/
theorem ev_n_add (x y : Int32) : ev_n (x + y) = (ev_n x + ev_n y) % 4294967296 := by
  unfold ev_n
  rw [Int32.toBitVec_add, BitVec.toNat_add]
theorem ev_n_sub (x y : Int32) : ev_n (x - y) = (ev_n x + (4294967296 - ev_n y)) % 4294967296 := by
  unfold ev_n
  rw [Int32.toBitVec_sub, BitVec.toNat_sub]
  congr 1
  exact Nat.add_comm _ _
theorem ev_n_mul (x y : Int32) : ev_n (x * y) = (ev_n x * ev_n y) % 4294967296 := by
  unfold ev_n
  rw [Int32.toBitVec_mul, BitVec.toNat_mul]
theorem ev_n_and (x y : Int32) : ev_n (x &&& y) = ev_n x &&& ev_n y := by
  unfold ev_n
  rw [Int32.toBitVec_and, BitVec.toNat_and]
theorem ev_n_or (x y : Int32) : ev_n (x ||| y) = ev_n x ||| ev_n y := by
  unfold ev_n
  rw [Int32.toBitVec_or, BitVec.toNat_or]
theorem ev_m_add (x y : Int64) : ev_m (x + y) = (ev_m x + ev_m y) % 18446744073709551616 := by
  unfold ev_m
  rw [Int64.toBitVec_add, BitVec.toNat_add]
theorem ev_m_sub (x y : Int64) : ev_m (x - y) = (ev_m x + (18446744073709551616 - ev_m y)) % 18446744073709551616 := by
  unfold ev_m
  rw [Int64.toBitVec_sub, BitVec.toNat_sub]
  congr 1
  exact Nat.add_comm _ _
theorem ev_m_mul (x y : Int64) : ev_m (x * y) = (ev_m x * ev_m y) % 18446744073709551616 := by
  unfold ev_m
  rw [Int64.toBitVec_mul, BitVec.toNat_mul]
theorem ev_msb {x : Int32} (h : ev_n x ≤ 2147483647) : x.toBitVec.msb = false := by
  rw [BitVec.msb_eq_decide, decide_eq_false_iff_not]
  unfold ev_n at h
  omega
theorem ev_n_div {x y : Int32} (hx : ev_n x ≤ 2147483647) (hy : ev_n y ≤ 2147483647) : ev_n (x / y) = ev_n x / ev_n y := by
  unfold ev_n
  rw [Int32.toBitVec_div, BitVec.sdiv_eq, ev_msb hx, ev_msb hy]
  exact BitVec.toNat_udiv
theorem ev_n_l2i (x : Int64) : ev_n x.toInt32 = ev_m x % 4294967296 := by
  unfold ev_n ev_m
  rw [Int64.toBitVec_toInt32, BitVec.signExtend_eq_setWidth_of_le _ (by decide), BitVec.toNat_setWidth]
theorem ev_n_i2l (x : Int32) : ev_m x.toInt64 = if ev_n x ≤ 2147483647 then ev_n x else ev_n x + 18446744069414584320 := by
  have h := ev_i2l_bi x
  have h1 := ev_n_lt x
  have h2 := ev_m_lt x.toInt64
  rw [ev_bi_eq, ev_lbi_eq] at h
  generalize ev_m x.toInt64 = a at *
  generalize ev_n x = b at *
  by_cases q : b ≤ 2147483647
  · rw [if_pos q]; omega
  · rw [if_neg q]; omega
theorem ev_ofn {x : Int32} {n : Nat} (h : ev_n x = n) : x = Int32.ofNat n := by
  subst h
  exact Int32.toBitVec_inj.mp (by show x.toBitVec = BitVec.ofNat 32 x.toBitVec.toNat; simp)
theorem ev_sh5 : ∀ b, b < 32 → ((Int32.ofNat b &&& 31).toBitVec.smod 32).toNat = b ∧ (((Int32.ofNat b).toUInt32 &&& Int32.toUInt32 31).toBitVec % 32).toNat = b := by decide +kernel
theorem ev_n_shl {x y : Int32} {b : Nat} (hy : ev_n y = b) (hb : b ≤ 31) : ev_n (x <<< (y &&& 31)) = (ev_n x <<< b) % 4294967296 := by
  rw [ev_ofn hy]
  show (x.toBitVec <<< ((Int32.ofNat b &&& 31).toBitVec.smod 32)).toNat = _
  rw [BitVec.shiftLeft_eq', BitVec.toNat_shiftLeft, (ev_sh5 b (by omega)).1]
  rfl
theorem ev_n_shr {x y : Int32} {b : Nat} (hx : ev_n x ≤ 2147483647) (hy : ev_n y = b) (hb : b ≤ 31) : ev_n (x >>> (y &&& 31)) = ev_n x >>> b := by
  rw [ev_ofn hy]
  show (x.toBitVec.sshiftRight' ((Int32.ofNat b &&& 31).toBitVec.smod 32)).toNat = _
  rw [BitVec.sshiftRight_eq', (ev_sh5 b (by omega)).1, BitVec.sshiftRight_eq_of_msb_false (ev_msb hx), BitVec.toNat_ushiftRight]
  rfl
theorem ev_n_ushr {x y : Int32} {b : Nat} (hy : ev_n y = b) (hb : b ≤ 31) : ev_n ((x.toUInt32 >>> (y.toUInt32 &&& Int32.toUInt32 31)).toInt32) = ev_n x >>> b := by
  rw [ev_ofn hy]
  show (x.toBitVec >>> (((Int32.ofNat b).toUInt32 &&& Int32.toUInt32 31).toBitVec % 32)).toNat = _
  rw [BitVec.ushiftRight_eq', BitVec.toNat_ushiftRight, (ev_sh5 b (by omega)).2]
  rfl
theorem ev_i2b_small : ∀ n, n ≤ 127 → (Int32.ofNat n).toInt8.toInt32 = Int32.ofNat n := by decide +kernel
section EVO
variable {ρ : Nat → Int32} {G : Nat} {X : ev_X} {k : Nat → ev_O} {a b : Nat} {h : ev_H} {K L : ev_O}
theorem ev_lor {a b m : Nat} (h : Nat.ble (Nat.lor a b) m = true) : a ≤ m ∧ b ≤ m :=
  have h := Nat.le_of_ble_eq_true h
  ⟨Nat.le_trans Nat.left_le_or h, Nat.le_trans Nat.right_le_or h⟩
theorem ev_nle {a m : Nat} (h : Nat.ble a m = false) : ¬ a ≤ m := fun q => by rw [Nat.ble_eq_true_of_le q] at h; cases h
theorem ev_nbeq {a m : Nat} (h : Nat.beq a m = false) : ¬ a = m := fun q => by
  have : Nat.beq a m = true := by subst q; exact Nat.beq_refl a
  rw [this] at h; cases h
theorem ev_ieq_spec (e : ev_ieq h a b K L = some X) : (K = some X ∧ (ev_GS ρ h.2.1 → ∀ x y, ev_VI ρ a x → ev_VI ρ b y → x = y)) ∨ (L = some X ∧ (ev_GS ρ h.2.1 → ∀ x y, ev_VI ρ a x → ev_VI ρ b y → ¬ x = y)) := by
  rcases ev_if_or e with ⟨hb, e⟩ | ⟨-, e⟩
  · obtain ⟨h1, h2⟩ := ev_lor hb
    rcases ev_if_or e with ⟨hq, e⟩ | ⟨hq, e⟩
    · refine Or.inl ⟨e, fun hG x y hx hy => ev_n_inj ?_⟩
      rw [hx.small h1, hy.small h2]
      exact Nat.eq_of_beq_eq_true hq
    · refine Or.inr ⟨e, fun hG x y hx hy q => ev_nbeq hq ?_⟩
      rw [← hx.small h1, ← hy.small h2, q]
  · obtain ⟨a1, a2, e, va⟩ := ev_bd_spec (ρ := ρ) e
    obtain ⟨b1, b2, e, vb⟩ := ev_bd_spec (ρ := ρ) e
    rcases ev_if_or e with ⟨hq, e⟩ | ⟨-, e⟩
    · have hq : a2 + 1 ≤ b1 := Nat.le_of_ble_eq_true hq
      refine Or.inr ⟨e, fun hG x y hx hy q => ?_⟩
      have := va hG x hx
      have := vb hG y hy
      rw [q] at *
      omega
    · rcases ev_if_or e with ⟨hq, e⟩ | ⟨-, e⟩
      · have hq : b2 + 1 ≤ a1 := Nat.le_of_ble_eq_true hq
        refine Or.inr ⟨e, fun hG x y hx hy q => ?_⟩
        have := va hG x hx
        have := vb hG y hy
        rw [q] at *
        omega
      · rcases ev_if_or e with ⟨q1, e⟩ | ⟨-, e⟩
        · rcases ev_if_or e with ⟨q2, e⟩ | ⟨-, e⟩
          · rcases ev_if_or e with ⟨q3, e⟩ | ⟨-, e⟩
            · have q1 := Nat.eq_of_beq_eq_true q1
              have q2 := Nat.eq_of_beq_eq_true q2
              have q3 := Nat.eq_of_beq_eq_true q3
              refine Or.inl ⟨e, fun hG x y hx hy => (ev_eq_iff x y).mpr ?_⟩
              have := va hG x hx
              have := vb hG y hy
              omega
            · cases e
          · cases e
        · cases e
theorem ev_ilt_spec (e : ev_ilt h a b K L = some X) : (K = some X ∧ (ev_GS ρ h.2.1 → ∀ x y, ev_VI ρ a x → ev_VI ρ b y → x < y)) ∨ (L = some X ∧ (ev_GS ρ h.2.1 → ∀ x y, ev_VI ρ a x → ev_VI ρ b y → ¬ x < y)) := by
  rcases ev_if_or e with ⟨hb, e⟩ | ⟨-, e⟩
  · obtain ⟨h1, h2⟩ := ev_lor hb
    rcases ev_if_or e with ⟨hq, e⟩ | ⟨hq, e⟩
    · have hq : ev_s a + 1 ≤ ev_s b := Nat.le_of_ble_eq_true hq
      refine Or.inl ⟨e, fun hG x y hx hy => (ev_lt_iff x y).mpr ?_⟩
      show ev_s (ev_n x) < ev_s (ev_n y)
      rw [hx.small h1, hy.small h2]
      omega
    · have hq : ¬ ev_s a + 1 ≤ ev_s b := ev_nle hq
      refine Or.inr ⟨e, fun hG x y hx hy q => ?_⟩
      have q : ev_s (ev_n x) < ev_s (ev_n y) := (ev_lt_iff x y).mp q
      rw [hx.small h1, hy.small h2] at q
      omega
  · obtain ⟨a1, a2, e, va⟩ := ev_bd_spec (ρ := ρ) e
    obtain ⟨b1, b2, e, vb⟩ := ev_bd_spec (ρ := ρ) e
    rcases ev_if_or e with ⟨hq, e⟩ | ⟨-, e⟩
    · have hq : a2 + 1 ≤ b1 := Nat.le_of_ble_eq_true hq
      refine Or.inl ⟨e, fun hG x y hx hy => (ev_lt_iff x y).mpr ?_⟩
      have := va hG x hx
      have := vb hG y hy
      omega
    · rcases ev_if_or e with ⟨hq, e⟩ | ⟨-, e⟩
      · have hq : b2 ≤ a1 := Nat.le_of_ble_eq_true hq
        refine Or.inr ⟨e, fun hG x y hx hy q => ?_⟩
        have q := (ev_lt_iff x y).mp q
        have := va hG x hx
        have := vb hG y hy
        omega
      · cases e
theorem ev_iadd_spec (e : ev_iadd h a b k = some X) : ∃ r, k r = some X ∧ (ev_GS ρ h.2.1 → ∀ x y, ev_VI ρ a x → ev_VI ρ b y → ev_VI ρ r (x + y)) := by
  rcases ev_if_or e with ⟨hb, e⟩ | ⟨-, e⟩
  · obtain ⟨h1, h2⟩ := ev_lor hb
    rw [ev_f_eq] at e
    refine ⟨_, e, fun hG x y hx hy => Or.inl ?_⟩
    rw [ev_n_add, hx.small h1, hy.small h2]
    rfl
  · obtain ⟨a1, a2, e, va⟩ := ev_bd_spec (ρ := ρ) e
    obtain ⟨b1, b2, e, vb⟩ := ev_bd_spec (ρ := ρ) e
    rcases ev_if_or e with ⟨q1, e⟩ | ⟨-, e⟩
    · rcases ev_if_or e with ⟨q2, e⟩ | ⟨-, e⟩
      · have q1 : 2147483648 ≤ a1 + b1 := Nat.le_of_ble_eq_true q1
        have q2 : a2 + b2 ≤ 6442450943 := Nat.le_of_ble_eq_true q2
        rw [ev_f_eq] at e
        refine ⟨_, e, fun hG x y hx hy => Or.inr (Or.inr ⟨a1 + b1 - 2147483648, a2 + b2 - 2147483648, ?_, ?_, rfl, ?_⟩)⟩
        · have := va hG x hx
          have := vb hG y hy
          omega
        · omega
        · have ha := va hG x hx
          have hb := vb hG y hy
          have h1 := ev_n_lt x
          have h2 := ev_n_lt y
          rw [ev_bi_eq] at ha hb ⊢
          rw [ev_n_add]
          generalize ev_n x = u at *
          generalize ev_n y = v at *
          omega
      · cases e
    · cases e
theorem ev_c2 {f : Nat → Nat → Nat} {m : Nat} (e : ev_if (Nat.ble (Nat.lor a b) m) (ev_f (f a b) k) none = some X) : a ≤ m ∧ b ≤ m ∧ k (f a b) = some X := by
  rcases ev_if_or e with ⟨hb, e⟩ | ⟨-, e⟩
  · obtain ⟨h1, h2⟩ := ev_lor hb
    rw [ev_f_eq] at e
    exact ⟨h1, h2, e⟩
  · cases e
theorem ev_isub_spec (e : ev_isub a b k = some X) : ∃ r, k r = some X ∧ ∀ x y, ev_VI ρ a x → ev_VI ρ b y → ev_VI ρ r (x - y) := by
  obtain ⟨h1, h2, e⟩ := ev_c2 (f := fun a b => Nat.mod (Nat.add a (Nat.sub 4294967296 b)) 4294967296) e
  refine ⟨_, e, fun x y hx hy => Or.inl ?_⟩
  rw [ev_n_sub, hx.small h1, hy.small h2]
  rfl
theorem ev_imul_spec (e : ev_imul a b k = some X) : ∃ r, k r = some X ∧ ∀ x y, ev_VI ρ a x → ev_VI ρ b y → ev_VI ρ r (x * y) := by
  obtain ⟨h1, h2, e⟩ := ev_c2 (f := fun a b => Nat.mod (Nat.mul a b) 4294967296) e
  refine ⟨_, e, fun x y hx hy => Or.inl ?_⟩
  rw [ev_n_mul, hx.small h1, hy.small h2]
  rfl
theorem ev_idiv_spec (e : ev_idiv a b k = some X) : ∃ r, k r = some X ∧ ∀ x y, ev_VI ρ a x → ev_VI ρ b y → ¬ y = 0 ∧ ev_VI ρ r (x / y) := by
  rcases ev_if_or e with ⟨q, e⟩ | ⟨-, e⟩
  · have q := Nat.le_of_ble_eq_true q
    obtain ⟨h1, h2, e⟩ := ev_c2 (f := Nat.div) e
    refine ⟨_, e, fun x y hx hy => ?_⟩
    have hx := hx.small (by omega)
    have hy := hy.small (by omega)
    refine ⟨fun z => ?_, Or.inl ?_⟩
    · have : ev_n y = 0 := by rw [z]; rfl
      omega
    · rw [ev_n_div (by omega) (by omega), hx, hy]
      rfl
  · cases e
theorem ev_irem_spec (e : ev_irem a b k = some X) : ∃ r, k r = some X ∧ ∀ x y, ev_VI ρ a x → ev_VI ρ b y → ¬ y = 0 ∧ ev_VI ρ r (x - x / y * y) := by
  rcases ev_if_or e with ⟨q, e⟩ | ⟨-, e⟩
  · have q := Nat.le_of_ble_eq_true q
    obtain ⟨h1, h2, e⟩ := ev_c2 (f := Nat.mod) e
    refine ⟨_, e, fun x y hx hy => ?_⟩
    have hx := hx.small (by omega)
    have hy := hy.small (by omega)
    refine ⟨fun z => ?_, Or.inl ?_⟩
    · have : ev_n y = 0 := by rw [z]; rfl
      omega
    · rw [ev_n_sub, ev_n_mul, ev_n_div (by omega) (by omega), hx, hy]
      show _ = a % b
      have e1 : b * (a / b) + a % b = a := Nat.div_add_mod a b
      have e2 : a / b * b ≤ a := Nat.div_mul_le_self a b
      have e3 : a / b * b = b * (a / b) := Nat.mul_comm _ _
      generalize a / b * b = u at *
      rw [Nat.mod_eq_of_lt (a := u) (by omega)]
      omega
  · cases e
theorem ev_iand_spec (e : ev_iand a b k = some X) : ∃ r, k r = some X ∧ ∀ x y, ev_VI ρ a x → ev_VI ρ b y → ev_VI ρ r (x &&& y) := by
  rcases ev_if_or e with ⟨hb, e⟩ | ⟨-, e⟩
  · obtain ⟨h1, h2⟩ := ev_lor hb
    rw [ev_f_eq] at e
    refine ⟨_, e, fun x y hx hy => Or.inl ?_⟩
    rw [ev_n_and, hx.small h1, hy.small h2]
    rfl
  · exact ⟨_, e, fun x y _ _ => ev_VI.any ρ _⟩
theorem ev_ior_spec (e : ev_ior a b k = some X) : ∃ r, k r = some X ∧ ∀ x y, ev_VI ρ a x → ev_VI ρ b y → ev_VI ρ r (x ||| y) := by
  obtain ⟨h1, h2, e⟩ := ev_c2 (f := Nat.lor) e
  refine ⟨_, e, fun x y hx hy => Or.inl ?_⟩
  rw [ev_n_or, hx.small h1, hy.small h2]
  rfl
theorem ev_ishl_spec (e : ev_ishl a b k = some X) : ∃ r, k r = some X ∧ ∀ x y, ev_VI ρ a x → ev_VI ρ b y → ev_VI ρ r (x <<< (y &&& 31)) := by
  rcases ev_if_or e with ⟨q1, e⟩ | ⟨-, e⟩
  · rcases ev_if_or e with ⟨q2, e⟩ | ⟨-, e⟩
    · have q1 := Nat.le_of_ble_eq_true q1
      have q2 := Nat.le_of_ble_eq_true q2
      rw [ev_f_eq] at e
      refine ⟨_, e, fun x y hx hy => Or.inl ?_⟩
      rw [ev_n_shl (hy.small (by omega)) q1, hx.small q2]
      rfl
    · cases e
  · cases e
theorem ev_ishr_spec (e : ev_ishr a b k = some X) : ∃ r, k r = some X ∧ ∀ x y, ev_VI ρ a x → ev_VI ρ b y → ev_VI ρ r (x >>> (y &&& 31)) := by
  rcases ev_if_or e with ⟨q1, e⟩ | ⟨-, e⟩
  · rcases ev_if_or e with ⟨q2, e⟩ | ⟨-, e⟩
    · have q1 := Nat.le_of_ble_eq_true q1
      have q2 := Nat.le_of_ble_eq_true q2
      rw [ev_f_eq] at e
      refine ⟨_, e, fun x y hx hy => Or.inl ?_⟩
      have hx := hx.small (by omega)
      rw [ev_n_shr (by omega) (hy.small (by omega)) q1, hx]
      rfl
    · exact ⟨_, e, fun x y _ _ => ev_VI.any ρ _⟩
  · cases e
theorem ev_iushr_spec (e : ev_iushr a b k = some X) : ∃ r, k r = some X ∧ ∀ x y, ev_VI ρ a x → ev_VI ρ b y → ev_VI ρ r ((x.toUInt32 >>> (y.toUInt32 &&& Int32.toUInt32 31)).toInt32) := by
  rcases ev_if_or e with ⟨q1, e⟩ | ⟨-, e⟩
  · rcases ev_if_or e with ⟨q2, e⟩ | ⟨-, e⟩
    · have q1 := Nat.le_of_ble_eq_true q1
      have q2 := Nat.le_of_ble_eq_true q2
      rw [ev_f_eq] at e
      refine ⟨_, e, fun x y hx hy => Or.inl ?_⟩
      rw [ev_n_ushr (hy.small (by omega)) q1, hx.small q2]
      rfl
    · exact ⟨_, e, fun x y _ _ => ev_VI.any ρ _⟩
  · cases e
theorem ev_i2b_spec (e : ev_i2b a k = some X) : ∃ r, k r = some X ∧ ∀ x, ev_VI ρ a x → ev_VI ρ r x.toInt8.toInt32 := by
  rcases ev_if_or e with ⟨q, e⟩ | ⟨-, e⟩
  · have q := Nat.le_of_ble_eq_true q
    refine ⟨_, e, fun x hx => ?_⟩
    have h1 := hx.small (by omega)
    rw [ev_ofn h1, ev_i2b_small a q, ← ev_ofn h1]
    exact hx
  · exact ⟨_, e, fun x _ => ev_VI.any ρ _⟩
theorem ev_i2l_spec (e : ev_i2l a k = some X) : ∃ r, k r = some X ∧ ∀ x, ev_VI ρ a x → ev_VL ρ r x.toInt64 := by
  rcases ev_if_or e with ⟨q, e⟩ | ⟨q, e⟩
  · have q := Nat.le_of_ble_eq_true q
    refine ⟨_, e, fun x hx => Or.inl ?_⟩
    have h1 := hx.small (by omega)
    rw [ev_n_i2l, if_pos (by omega), h1]
  · have q := ev_nle q
    rcases ev_if_or e with ⟨q2, e⟩ | ⟨q2, e⟩
    · have q2 := Nat.le_of_ble_eq_true q2
      rw [ev_f_eq] at e
      refine ⟨_, e, fun x hx => Or.inl ?_⟩
      have h1 := hx.small q2
      rw [ev_n_i2l, if_neg (by omega), h1]
    · have q2 := ev_nle q2
      rw [ev_f_eq] at e
      exact ⟨_, e, fun x hx => Or.inr ⟨a, x, Nat.add_comm _ _, by omega, hx, rfl⟩⟩
theorem ev_l2i_spec (e : ev_l2i a k = some X) : ∃ r, k r = some X ∧ ∀ x, ev_VL ρ a x → ev_VI ρ r x.toInt32 := by
  rcases ev_if_or e with ⟨q, e⟩ | ⟨-, e⟩
  · have q := Nat.le_of_ble_eq_true q
    rw [ev_f_eq] at e
    refine ⟨_, e, fun x hx => Or.inl ?_⟩
    rw [ev_n_l2i, hx.small q]
    rfl
  · cases e
theorem ev_ladd_spec (e : ev_ladd a b k = some X) : ∃ r, k r = some X ∧ ∀ x y, ev_VL ρ a x → ev_VL ρ b y → ev_VL ρ r (x + y) := by
  obtain ⟨h1, h2, e⟩ := ev_c2 (f := fun a b => Nat.mod (Nat.add a b) 18446744073709551616) e
  refine ⟨_, e, fun x y hx hy => Or.inl ?_⟩
  rw [ev_m_add, hx.small h1, hy.small h2]
  rfl
theorem ev_lsub_spec (e : ev_lsub a b k = some X) : ∃ r, k r = some X ∧ ∀ x y, ev_VL ρ a x → ev_VL ρ b y → ev_VL ρ r (x - y) := by
  obtain ⟨h1, h2, e⟩ := ev_c2 (f := fun a b => Nat.mod (Nat.add a (Nat.sub 18446744073709551616 b)) 18446744073709551616) e
  refine ⟨_, e, fun x y hx hy => Or.inl ?_⟩
  rw [ev_m_sub, hx.small h1, hy.small h2]
  rfl
theorem ev_lmul_spec (e : ev_lmul a b k = some X) : ∃ r, k r = some X ∧ ∀ x y, ev_VL ρ a x → ev_VL ρ b y → ev_VL ρ r (x * y) := by
  obtain ⟨h1, h2, e⟩ := ev_c2 (f := fun a b => Nat.mod (Nat.mul a b) 18446744073709551616) e
  refine ⟨_, e, fun x y hx hy => Or.inl ?_⟩
  rw [ev_m_mul, hx.small h1, hy.small h2]
  rfl
theorem ev_cmp_lt {x y : Int64} (h : ev_lbi x < ev_lbi y) : lg_cmp x y = -1 := by
  unfold lg_cmp
  have h1 : ¬ x > y := fun q => by have := (ev_llt_iff y x).mp q; omega
  have h2 : ¬ x = y := fun q => by rw [q] at h; omega
  rw [if_neg h1, if_neg h2]
theorem ev_cmp_gt {x y : Int64} (h : ev_lbi y < ev_lbi x) : lg_cmp x y = 1 := by
  unfold lg_cmp
  rw [if_pos ((ev_llt_iff y x).mpr h)]
theorem ev_cmp_eq {x y : Int64} (h : ev_lbi x = ev_lbi y) : lg_cmp x y = 0 := by
  have h := (ev_leq_iff x y).mpr h
  subst h
  unfold lg_cmp
  have h1 : ¬ x > x := fun q => by have := (ev_llt_iff x x).mp q; omega
  rw [if_neg h1, if_pos rfl]
theorem ev_lcmp_spec (e : ev_lcmp h a b k = some X) : ∃ r, k r = some X ∧ (ev_GS ρ h.2.1 → ∀ x y, ev_VL ρ a x → ev_VL ρ b y → ev_VI ρ r (lg_cmp x y)) := by
  have w0 : ev_n (0 : Int32) = 0 := rfl
  have w1 : ev_n (1 : Int32) = 1 := rfl
  have wm : ev_n (-1 : Int32) = 4294967295 := by decide +kernel
  rcases ev_if_or e with ⟨hb, e⟩ | ⟨-, e⟩
  · obtain ⟨h1, h2⟩ := ev_lor hb
    have v : ∀ {c : Nat} {z : Int64}, c ≤ 18446744073709551615 → ev_VL ρ c z → ev_lbi z = ev_ls c := fun hc hz => by unfold ev_lbi; rw [hz.small hc]
    rcases ev_if_or e with ⟨q, e⟩ | ⟨q, e⟩
    · have q := Nat.eq_of_beq_eq_true q
      exact ⟨_, e, fun hG x y hx hy => Or.inl (by rw [ev_cmp_eq (by rw [v h1 hx, v h2 hy, q])]; exact w0)⟩
    · have q := ev_nbeq q
      have hne : ev_ls a ≠ ev_ls b := by rw [ev_ls_eq, ev_ls_eq]; omega
      rcases ev_if_or e with ⟨q2, e⟩ | ⟨q2, e⟩
      · have q2 : ev_ls a ≤ ev_ls b := Nat.le_of_ble_eq_true q2
        exact ⟨_, e, fun hG x y hx hy => Or.inl (by rw [ev_cmp_lt (by rw [v h1 hx, v h2 hy]; omega)]; exact wm)⟩
      · have q2 : ¬ ev_ls a ≤ ev_ls b := ev_nle q2
        exact ⟨_, e, fun hG x y hx hy => Or.inl (by rw [ev_cmp_gt (by rw [v h1 hx, v h2 hy]; omega)]; exact w1)⟩
  · obtain ⟨a1, a2, e, va⟩ := ev_lbd_spec (ρ := ρ) e
    obtain ⟨b1, b2, e, vb⟩ := ev_lbd_spec (ρ := ρ) e
    rcases ev_if_or e with ⟨hq, e⟩ | ⟨-, e⟩
    · have hq : a2 + 1 ≤ b1 := Nat.le_of_ble_eq_true hq
      exact ⟨_, e, fun hG x y hx hy => Or.inl (by have := va hG x hx; have := vb hG y hy; rw [ev_cmp_lt (by omega)]; exact wm)⟩
    · rcases ev_if_or e with ⟨hq, e⟩ | ⟨-, e⟩
      · have hq : b2 + 1 ≤ a1 := Nat.le_of_ble_eq_true hq
        exact ⟨_, e, fun hG x y hx hy => Or.inl (by have := va hG x hx; have := vb hG y hy; rw [ev_cmp_gt (by omega)]; exact w1)⟩
      · rcases ev_if_or e with ⟨q1, e⟩ | ⟨-, e⟩
        · rcases ev_if_or e with ⟨q2, e⟩ | ⟨-, e⟩
          · rcases ev_if_or e with ⟨q3, e⟩ | ⟨-, e⟩
            · have q1 := Nat.eq_of_beq_eq_true q1
              have q2 := Nat.eq_of_beq_eq_true q2
              have q3 := Nat.eq_of_beq_eq_true q3
              exact ⟨_, e, fun hG x y hx hy => Or.inl (by have := va hG x hx; have := vb hG y hy; rw [ev_cmp_eq (by omega)]; exact w0)⟩
            · cases e
          · cases e
        · cases e
theorem ev_min_spec (e : ev_min a b k = some X) : ∃ r, k r = some X ∧ ∀ x y, ev_VI ρ a x → ev_VI ρ b y → ev_VI ρ r (if y < x then y else x) := by
  rcases ev_if_or e with ⟨hb, e⟩ | ⟨-, e⟩
  · obtain ⟨h1, h2⟩ := ev_lor hb
    rcases ev_if_or e with ⟨q, e⟩ | ⟨q, e⟩
    · have q : ev_s b + 1 ≤ ev_s a := Nat.le_of_ble_eq_true q
      refine ⟨_, e, fun x y hx hy => ?_⟩
      rw [if_pos ((ev_lt_iff y x).mpr (by unfold ev_bi; rw [hx.small h1, hy.small h2]; omega))]
      exact hy
    · have q : ¬ ev_s b + 1 ≤ ev_s a := ev_nle q
      refine ⟨_, e, fun x y hx hy => ?_⟩
      rw [if_neg (fun z => by have z := (ev_lt_iff y x).mp z; unfold ev_bi at z; rw [hx.small h1, hy.small h2] at z; omega)]
      exact hx
  · cases e
theorem ev_max_spec (e : ev_max a b k = some X) : ∃ r, k r = some X ∧ ∀ x y, ev_VI ρ a x → ev_VI ρ b y → ev_VI ρ r (if x < y then y else x) := by
  rcases ev_if_or e with ⟨hb, e⟩ | ⟨-, e⟩
  · obtain ⟨h1, h2⟩ := ev_lor hb
    rcases ev_if_or e with ⟨q, e⟩ | ⟨q, e⟩
    · have q : ev_s a + 1 ≤ ev_s b := Nat.le_of_ble_eq_true q
      refine ⟨_, e, fun x y hx hy => ?_⟩
      rw [if_pos ((ev_lt_iff x y).mpr (by unfold ev_bi; rw [hx.small h1, hy.small h2]; omega))]
      exact hy
    · have q : ¬ ev_s a + 1 ≤ ev_s b := ev_nle q
      refine ⟨_, e, fun x y hx hy => ?_⟩
      rw [if_neg (fun z => by have z := (ev_lt_iff x y).mp z; unfold ev_bi at z; rw [hx.small h1, hy.small h2] at z; omega)]
      exact hx
  · cases e
end EVO
