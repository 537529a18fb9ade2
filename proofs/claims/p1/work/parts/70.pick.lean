/-! THE CHOICE: a test for each script -/
theorem lw_pick (ρ : Nat → Int32) : ∀ n, n < 64 → ∃ (bs : List (Nat × Lean.RArray Nat)) (t : Lean.RArray Nat) (op : Nat) (blo bhi : Nat → Nat), (op, t) ∈ bs ∧ cv_chk t blo bhi = true ∧ cv_in ρ blo bhi ∧ (∀ cs l1 l2 l3 h, lw_all cs n l1 l2 l3 h = lw_all cs op l1 l2 l3 h) ∧ ev_fin (lw_test bs) = true := by
  intro n hn
  have h0 := cv_in.all ρ
  by_cases hb : 42 ≤ n
  · exact ⟨lw_b0, lw_t42_0, 42, (fun _ => 0), (fun _ => 4294967295), List.mem_of_getElem? (i := 29) rfl, lw_c42_0, h0, fun _ _ _ _ _ => lw_high n hb hn, lw_e0⟩
  · match n, hb with
    | 0, _ =>
      exact ⟨lw_b0, lw_t0_0, 0, (fun _ => 0), (fun _ => 4294967295), List.mem_of_getElem? (i := 0) rfl, lw_c0_0, h0, fun _ _ _ _ _ => rfl, lw_e0⟩
    | 1, _ =>
      exact ⟨lw_b0, lw_t1_0, 1, (fun _ => 0), (fun _ => 4294967295), List.mem_of_getElem? (i := 1) rfl, lw_c1_0, h0, fun _ _ _ _ _ => rfl, lw_e0⟩
    | 2, _ =>
      exact ⟨lw_b0, lw_t2_0, 2, (fun _ => 0), (fun _ => 4294967295), List.mem_of_getElem? (i := 2) rfl, lw_c2_0, h0, fun _ _ _ _ _ => rfl, lw_e0⟩
    | 3, _ =>
      exact ⟨lw_b0, lw_t3_0, 3, (fun _ => 0), (fun _ => 4294967295), List.mem_of_getElem? (i := 3) rfl, lw_c3_0, h0, fun _ _ _ _ _ => rfl, lw_e0⟩
    | 4, _ =>
      exact ⟨lw_b0, lw_t4_0, 4, (fun _ => 0), (fun _ => 4294967295), List.mem_of_getElem? (i := 4) rfl, lw_c4_0, h0, fun _ _ _ _ _ => rfl, lw_e0⟩
    | 5, _ =>
      exact ⟨lw_b0, lw_t5_0, 5, (fun _ => 0), (fun _ => 4294967295), List.mem_of_getElem? (i := 5) rfl, lw_c5_0, h0, fun _ _ _ _ _ => rfl, lw_e0⟩
    | 6, _ =>
      exact ⟨lw_b0, lw_t6_0, 6, (fun _ => 0), (fun _ => 4294967295), List.mem_of_getElem? (i := 6) rfl, lw_c6_0, h0, fun _ _ _ _ _ => rfl, lw_e0⟩
    | 7, _ =>
      exact ⟨lw_b0, lw_t7_0, 7, (fun _ => 0), (fun _ => 4294967295), List.mem_of_getElem? (i := 7) rfl, lw_c7_0, h0, fun _ _ _ _ _ => rfl, lw_e0⟩
    | 8, _ =>
      exact ⟨lw_b0, lw_t8_0, 8, (fun _ => 0), (fun _ => 4294967295), List.mem_of_getElem? (i := 8) rfl, lw_c8_0, h0, fun _ _ _ _ _ => rfl, lw_e0⟩
    | 9, _ =>
      exact ⟨lw_b0, lw_t9_0, 9, (fun _ => 0), (fun _ => 4294967295), List.mem_of_getElem? (i := 9) rfl, lw_c9_0, h0, fun _ _ _ _ _ => rfl, lw_e0⟩
    | 10, _ =>
      exact ⟨lw_b0, lw_t10_0, 10, (fun _ => 0), (fun _ => 4294967295), List.mem_of_getElem? (i := 10) rfl, lw_c10_0, h0, fun _ _ _ _ _ => rfl, lw_e0⟩
    | 11, _ =>
      exact ⟨lw_b0, lw_t11_0, 11, (fun _ => 0), (fun _ => 4294967295), List.mem_of_getElem? (i := 11) rfl, lw_c11_0, h0, fun _ _ _ _ _ => rfl, lw_e0⟩
    | 12, _ =>
      exact ⟨lw_b0, lw_t12_0, 12, (fun _ => 0), (fun _ => 4294967295), List.mem_of_getElem? (i := 12) rfl, lw_c12_0, h0, fun _ _ _ _ _ => rfl, lw_e0⟩
    | 13, _ =>
      exact ⟨lw_b0, lw_t13_0, 13, (fun _ => 0), (fun _ => 4294967295), List.mem_of_getElem? (i := 13) rfl, lw_c13_0, h0, fun _ _ _ _ _ => rfl, lw_e0⟩
    | 14, _ =>
      exact ⟨lw_b0, lw_t14_0, 14, (fun _ => 0), (fun _ => 4294967295), List.mem_of_getElem? (i := 14) rfl, lw_c14_0, h0, fun _ _ _ _ _ => rfl, lw_e0⟩
    | 15, _ =>
      exact ⟨lw_b0, lw_t15_0, 15, (fun _ => 0), (fun _ => 4294967295), List.mem_of_getElem? (i := 15) rfl, lw_c15_0, h0, fun _ _ _ _ _ => rfl, lw_e0⟩
    | 16, _ =>
      exact ⟨lw_b0, lw_t16_0, 16, (fun _ => 0), (fun _ => 4294967295), List.mem_of_getElem? (i := 16) rfl, lw_c16_0, h0, fun _ _ _ _ _ => rfl, lw_e0⟩
    | 17, _ =>
      exact ⟨lw_b0, lw_t17_0, 17, (fun _ => 0), (fun _ => 4294967295), List.mem_of_getElem? (i := 17) rfl, lw_c17_0, h0, fun _ _ _ _ _ => rfl, lw_e0⟩
    | 18, _ =>
      exact ⟨lw_b0, lw_t18_0, 18, (fun _ => 0), (fun _ => 4294967295), List.mem_of_getElem? (i := 18) rfl, lw_c18_0, h0, fun _ _ _ _ _ => rfl, lw_e0⟩
    | 19, _ =>
      exact ⟨lw_b0, lw_t19_0, 19, (fun _ => 0), (fun _ => 4294967295), List.mem_of_getElem? (i := 19) rfl, lw_c19_0, h0, fun _ _ _ _ _ => rfl, lw_e0⟩
    | 20, _ =>
      exact ⟨lw_b0, lw_t20_0, 20, (fun _ => 0), (fun _ => 4294967295), List.mem_of_getElem? (i := 20) rfl, lw_c20_0, h0, fun _ _ _ _ _ => rfl, lw_e0⟩
    | 21, _ =>
      exact ⟨lw_b0, lw_t21_0, 21, (fun _ => 0), (fun _ => 4294967295), List.mem_of_getElem? (i := 21) rfl, lw_c21_0, h0, fun _ _ _ _ _ => rfl, lw_e0⟩
    | 22, _ =>
      exact ⟨lw_b0, lw_t22_0, 22, (fun _ => 0), (fun _ => 4294967295), List.mem_of_getElem? (i := 22) rfl, lw_c22_0, h0, fun _ _ _ _ _ => rfl, lw_e0⟩
    | 23, _ =>
      exact ⟨lw_b10, lw_t23_0, 23, (fun _ => 0), (fun _ => 4294967295), List.mem_of_getElem? (i := 0) rfl, lw_c23_0, h0, fun _ _ _ _ _ => rfl, lw_e10⟩
    | 24, _ =>
      by_cases q0 : ev_bi (ρ (Nat.div 6442450945 4294967296)) < Nat.mod 6442450945 4294967296
      · exact ⟨lw_b6, lw_t24_0, 24, (fun _ => 0), (cv_upd (fun _ => 4294967295) (Nat.div 6442450945 4294967296) (Nat.sub (Nat.mod 6442450945 4294967296) 1)), List.mem_of_getElem? (i := 0) rfl, lw_c24_0, (cv_in.l (p := 6442450945) h0 q0), fun _ _ _ _ _ => rfl, lw_e6⟩
      · exact ⟨lw_b7, lw_t24_1, 24, (cv_upd (fun _ => 0) (Nat.div 6442450945 4294967296) (Nat.mod 6442450945 4294967296)), (fun _ => 4294967295), List.mem_of_getElem? (i := 0) rfl, lw_c24_1, (cv_in.r (p := 6442450945) h0 q0), fun _ _ _ _ _ => rfl, lw_e7⟩
    | 25, _ =>
      by_cases q0 : ev_bi (ρ (Nat.div 6442450945 4294967296)) < Nat.mod 6442450945 4294967296
      · exact ⟨lw_b8, lw_t25_0, 25, (fun _ => 0), (cv_upd (fun _ => 4294967295) (Nat.div 6442450945 4294967296) (Nat.sub (Nat.mod 6442450945 4294967296) 1)), List.mem_of_getElem? (i := 0) rfl, lw_c25_0, (cv_in.l (p := 6442450945) h0 q0), fun _ _ _ _ _ => rfl, lw_e8⟩
      · exact ⟨lw_b9, lw_t25_1, 25, (cv_upd (fun _ => 0) (Nat.div 6442450945 4294967296) (Nat.mod 6442450945 4294967296)), (fun _ => 4294967295), List.mem_of_getElem? (i := 0) rfl, lw_c25_1, (cv_in.r (p := 6442450945) h0 q0), fun _ _ _ _ _ => rfl, lw_e9⟩
    | 26, _ =>
      by_cases q0 : ev_bi (ρ (Nat.div 6442450953 4294967296)) < Nat.mod 6442450953 4294967296
      · by_cases q1 : ev_bi (ρ (Nat.div 6442450948 4294967296)) < Nat.mod 6442450948 4294967296
        · exact ⟨lw_b12, lw_t26_5, 26, (fun _ => 0), (cv_upd (cv_upd (fun _ => 4294967295) (Nat.div 6442450953 4294967296) (Nat.sub (Nat.mod 6442450953 4294967296) 1)) (Nat.div 6442450948 4294967296) (Nat.sub (Nat.mod 6442450948 4294967296) 1)), List.mem_of_getElem? (i := 0) rfl, lw_c26_5, (cv_in.l (p := 6442450948) (cv_in.l (p := 6442450953) h0 q0) q1), fun _ _ _ _ _ => rfl, lw_e12⟩
        · by_cases q2 : ev_bi (ρ (Nat.div 6442450950 4294967296)) < Nat.mod 6442450950 4294967296
          · exact ⟨lw_b13, lw_t26_6, 26, (cv_upd (fun _ => 0) (Nat.div 6442450948 4294967296) (Nat.mod 6442450948 4294967296)), (cv_upd (cv_upd (fun _ => 4294967295) (Nat.div 6442450953 4294967296) (Nat.sub (Nat.mod 6442450953 4294967296) 1)) (Nat.div 6442450950 4294967296) (Nat.sub (Nat.mod 6442450950 4294967296) 1)), List.mem_of_getElem? (i := 0) rfl, lw_c26_6, (cv_in.l (p := 6442450950) (cv_in.r (p := 6442450948) (cv_in.l (p := 6442450953) h0 q0) q1) q2), fun _ _ _ _ _ => rfl, lw_e13⟩
          · by_cases q3 : ev_bi (ρ (Nat.div 6442450952 4294967296)) < Nat.mod 6442450952 4294967296
            · exact ⟨lw_b14, lw_t26_7, 26, (cv_upd (cv_upd (fun _ => 0) (Nat.div 6442450948 4294967296) (Nat.mod 6442450948 4294967296)) (Nat.div 6442450950 4294967296) (Nat.mod 6442450950 4294967296)), (cv_upd (cv_upd (fun _ => 4294967295) (Nat.div 6442450953 4294967296) (Nat.sub (Nat.mod 6442450953 4294967296) 1)) (Nat.div 6442450952 4294967296) (Nat.sub (Nat.mod 6442450952 4294967296) 1)), List.mem_of_getElem? (i := 0) rfl, lw_c26_7, (cv_in.l (p := 6442450952) (cv_in.r (p := 6442450950) (cv_in.r (p := 6442450948) (cv_in.l (p := 6442450953) h0 q0) q1) q2) q3), fun _ _ _ _ _ => rfl, lw_e14⟩
            · exact ⟨lw_b15, lw_t26_8, 26, (cv_upd (cv_upd (cv_upd (fun _ => 0) (Nat.div 6442450948 4294967296) (Nat.mod 6442450948 4294967296)) (Nat.div 6442450950 4294967296) (Nat.mod 6442450950 4294967296)) (Nat.div 6442450952 4294967296) (Nat.mod 6442450952 4294967296)), (cv_upd (fun _ => 4294967295) (Nat.div 6442450953 4294967296) (Nat.sub (Nat.mod 6442450953 4294967296) 1)), List.mem_of_getElem? (i := 0) rfl, lw_c26_8, (cv_in.r (p := 6442450952) (cv_in.r (p := 6442450950) (cv_in.r (p := 6442450948) (cv_in.l (p := 6442450953) h0 q0) q1) q2) q3), fun _ _ _ _ _ => rfl, lw_e15⟩
      · by_cases q1 : ev_bi (ρ (Nat.div 6442450963 4294967296)) < Nat.mod 6442450963 4294967296
        · by_cases q2 : ev_bi (ρ (Nat.div 6442450956 4294967296)) < Nat.mod 6442450956 4294967296
          · exact ⟨lw_b16, lw_t26_9, 26, (cv_upd (fun _ => 0) (Nat.div 6442450953 4294967296) (Nat.mod 6442450953 4294967296)), (cv_upd (cv_upd (fun _ => 4294967295) (Nat.div 6442450963 4294967296) (Nat.sub (Nat.mod 6442450963 4294967296) 1)) (Nat.div 6442450956 4294967296) (Nat.sub (Nat.mod 6442450956 4294967296) 1)), List.mem_of_getElem? (i := 0) rfl, lw_c26_9, (cv_in.l (p := 6442450956) (cv_in.l (p := 6442450963) (cv_in.r (p := 6442450953) h0 q0) q1) q2), fun _ _ _ _ _ => rfl, lw_e16⟩
          · by_cases q3 : ev_bi (ρ (Nat.div 6442450959 4294967296)) < Nat.mod 6442450959 4294967296
            · exact ⟨lw_b17, lw_t26_10, 26, (cv_upd (cv_upd (fun _ => 0) (Nat.div 6442450953 4294967296) (Nat.mod 6442450953 4294967296)) (Nat.div 6442450956 4294967296) (Nat.mod 6442450956 4294967296)), (cv_upd (cv_upd (fun _ => 4294967295) (Nat.div 6442450963 4294967296) (Nat.sub (Nat.mod 6442450963 4294967296) 1)) (Nat.div 6442450959 4294967296) (Nat.sub (Nat.mod 6442450959 4294967296) 1)), List.mem_of_getElem? (i := 0) rfl, lw_c26_10, (cv_in.l (p := 6442450959) (cv_in.r (p := 6442450956) (cv_in.l (p := 6442450963) (cv_in.r (p := 6442450953) h0 q0) q1) q2) q3), fun _ _ _ _ _ => rfl, lw_e17⟩
            · exact ⟨lw_b18, lw_t26_11, 26, (cv_upd (cv_upd (cv_upd (fun _ => 0) (Nat.div 6442450953 4294967296) (Nat.mod 6442450953 4294967296)) (Nat.div 6442450956 4294967296) (Nat.mod 6442450956 4294967296)) (Nat.div 6442450959 4294967296) (Nat.mod 6442450959 4294967296)), (cv_upd (fun _ => 4294967295) (Nat.div 6442450963 4294967296) (Nat.sub (Nat.mod 6442450963 4294967296) 1)), List.mem_of_getElem? (i := 0) rfl, lw_c26_11, (cv_in.r (p := 6442450959) (cv_in.r (p := 6442450956) (cv_in.l (p := 6442450963) (cv_in.r (p := 6442450953) h0 q0) q1) q2) q3), fun _ _ _ _ _ => rfl, lw_e18⟩
        · by_cases q2 : ev_bi (ρ (Nat.div 6442451007 4294967296)) < Nat.mod 6442451007 4294967296
          · exact ⟨lw_b19, lw_t26_2, 26, (cv_upd (cv_upd (fun _ => 0) (Nat.div 6442450953 4294967296) (Nat.mod 6442450953 4294967296)) (Nat.div 6442450963 4294967296) (Nat.mod 6442450963 4294967296)), (cv_upd (fun _ => 4294967295) (Nat.div 6442451007 4294967296) (Nat.sub (Nat.mod 6442451007 4294967296) 1)), List.mem_of_getElem? (i := 0) rfl, lw_c26_2, (cv_in.l (p := 6442451007) (cv_in.r (p := 6442450963) (cv_in.r (p := 6442450953) h0 q0) q1) q2), fun _ _ _ _ _ => rfl, lw_e19⟩
          · by_cases q3 : ev_bi (ρ (Nat.div 6442451008 4294967296)) < Nat.mod 6442451008 4294967296
            · exact ⟨lw_b10, lw_t26_3, 26, (cv_upd (cv_upd (cv_upd (fun _ => 0) (Nat.div 6442450953 4294967296) (Nat.mod 6442450953 4294967296)) (Nat.div 6442450963 4294967296) (Nat.mod 6442450963 4294967296)) (Nat.div 6442451007 4294967296) (Nat.mod 6442451007 4294967296)), (cv_upd (fun _ => 4294967295) (Nat.div 6442451008 4294967296) (Nat.sub (Nat.mod 6442451008 4294967296) 1)), List.mem_of_getElem? (i := 1) rfl, lw_c26_3, (cv_in.l (p := 6442451008) (cv_in.r (p := 6442451007) (cv_in.r (p := 6442450963) (cv_in.r (p := 6442450953) h0 q0) q1) q2) q3), fun _ _ _ _ _ => rfl, lw_e10⟩
            · exact ⟨lw_b20, lw_t26_4, 26, (cv_upd (cv_upd (cv_upd (cv_upd (fun _ => 0) (Nat.div 6442450953 4294967296) (Nat.mod 6442450953 4294967296)) (Nat.div 6442450963 4294967296) (Nat.mod 6442450963 4294967296)) (Nat.div 6442451007 4294967296) (Nat.mod 6442451007 4294967296)) (Nat.div 6442451008 4294967296) (Nat.mod 6442451008 4294967296)), (fun _ => 4294967295), List.mem_of_getElem? (i := 0) rfl, lw_c26_4, (cv_in.r (p := 6442451008) (cv_in.r (p := 6442451007) (cv_in.r (p := 6442450963) (cv_in.r (p := 6442450953) h0 q0) q1) q2) q3), fun _ _ _ _ _ => rfl, lw_e20⟩
    | 27, _ =>
      exact ⟨lw_b0, lw_t27_0, 27, (fun _ => 0), (fun _ => 4294967295), List.mem_of_getElem? (i := 30) rfl, lw_c27_0, h0, fun _ _ _ _ _ => rfl, lw_e0⟩
    | 28, _ =>
      exact ⟨lw_b0, lw_t28_0, 28, (fun _ => 0), (fun _ => 4294967295), List.mem_of_getElem? (i := 23) rfl, lw_c28_0, h0, fun _ _ _ _ _ => rfl, lw_e0⟩
    | 29, _ =>
      exact ⟨lw_b0, lw_t29_0, 29, (fun _ => 0), (fun _ => 4294967295), List.mem_of_getElem? (i := 24) rfl, lw_c29_0, h0, fun _ _ _ _ _ => rfl, lw_e0⟩
    | 30, _ =>
      exact ⟨lw_b0, lw_t30_0, 30, (fun _ => 0), (fun _ => 4294967295), List.mem_of_getElem? (i := 25) rfl, lw_c30_0, h0, fun _ _ _ _ _ => rfl, lw_e0⟩
    | 31, _ =>
      by_cases q0 : ev_bi (ρ (Nat.div 6442450963 4294967296)) < Nat.mod 6442450963 4294967296
      · by_cases q1 : ev_bi (ρ (Nat.div 6442450953 4294967296)) < Nat.mod 6442450953 4294967296
        · exact ⟨lw_b21, lw_t31_3, 31, (fun _ => 0), (cv_upd (cv_upd (fun _ => 4294967295) (Nat.div 6442450963 4294967296) (Nat.sub (Nat.mod 6442450963 4294967296) 1)) (Nat.div 6442450953 4294967296) (Nat.sub (Nat.mod 6442450953 4294967296) 1)), List.mem_of_getElem? (i := 0) rfl, lw_c31_3, (cv_in.l (p := 6442450953) (cv_in.l (p := 6442450963) h0 q0) q1), fun _ _ _ _ _ => rfl, lw_e21⟩
        · exact ⟨lw_b22, lw_t31_4, 31, (cv_upd (fun _ => 0) (Nat.div 6442450953 4294967296) (Nat.mod 6442450953 4294967296)), (cv_upd (fun _ => 4294967295) (Nat.div 6442450963 4294967296) (Nat.sub (Nat.mod 6442450963 4294967296) 1)), List.mem_of_getElem? (i := 0) rfl, lw_c31_4, (cv_in.r (p := 6442450953) (cv_in.l (p := 6442450963) h0 q0) q1), fun _ _ _ _ _ => rfl, lw_e22⟩
      · by_cases q1 : ev_bi (ρ (Nat.div 6442451008 4294967296)) < Nat.mod 6442451008 4294967296
        · exact ⟨lw_b23, lw_t31_1, 31, (cv_upd (fun _ => 0) (Nat.div 6442450963 4294967296) (Nat.mod 6442450963 4294967296)), (cv_upd (fun _ => 4294967295) (Nat.div 6442451008 4294967296) (Nat.sub (Nat.mod 6442451008 4294967296) 1)), List.mem_of_getElem? (i := 0) rfl, lw_c31_1, (cv_in.l (p := 6442451008) (cv_in.r (p := 6442450963) h0 q0) q1), fun _ _ _ _ _ => rfl, lw_e23⟩
        · exact ⟨lw_b24, lw_t31_2, 31, (cv_upd (cv_upd (fun _ => 0) (Nat.div 6442450963 4294967296) (Nat.mod 6442450963 4294967296)) (Nat.div 6442451008 4294967296) (Nat.mod 6442451008 4294967296)), (fun _ => 4294967295), List.mem_of_getElem? (i := 0) rfl, lw_c31_2, (cv_in.r (p := 6442451008) (cv_in.r (p := 6442450963) h0 q0) q1), fun _ _ _ _ _ => rfl, lw_e24⟩
    | 32, _ =>
      exact ⟨lw_b0, lw_t32_0, 32, (fun _ => 0), (fun _ => 4294967295), List.mem_of_getElem? (i := 26) rfl, lw_c32_0, h0, fun _ _ _ _ _ => rfl, lw_e0⟩
    | 33, _ =>
      exact ⟨lw_b0, lw_t33_0, 33, (fun _ => 0), (fun _ => 4294967295), List.mem_of_getElem? (i := 31) rfl, lw_c33_0, h0, fun _ _ _ _ _ => rfl, lw_e0⟩
    | 34, _ =>
      exact ⟨lw_b1, lw_t34_0, 34, (fun _ => 0), (fun _ => 4294967295), List.mem_of_getElem? (i := 0) rfl, lw_c34_0, h0, fun _ _ _ _ _ => rfl, lw_e1⟩
    | 35, _ =>
      by_cases q0 : ev_bi (ρ (Nat.div 6442450945 4294967296)) < Nat.mod 6442450945 4294967296
      · exact ⟨lw_b2, lw_t35_0, 35, (fun _ => 0), (cv_upd (fun _ => 4294967295) (Nat.div 6442450945 4294967296) (Nat.sub (Nat.mod 6442450945 4294967296) 1)), List.mem_of_getElem? (i := 0) rfl, lw_c35_0, (cv_in.l (p := 6442450945) h0 q0), fun _ _ _ _ _ => rfl, lw_e2⟩
      · exact ⟨lw_b3, lw_t35_1, 35, (cv_upd (fun _ => 0) (Nat.div 6442450945 4294967296) (Nat.mod 6442450945 4294967296)), (fun _ => 4294967295), List.mem_of_getElem? (i := 0) rfl, lw_c35_1, (cv_in.r (p := 6442450945) h0 q0), fun _ _ _ _ _ => rfl, lw_e3⟩
    | 36, _ =>
      exact ⟨lw_b4, lw_t36_0, 36, (fun _ => 0), (fun _ => 4294967295), List.mem_of_getElem? (i := 0) rfl, lw_c36_0, h0, fun _ _ _ _ _ => rfl, lw_e4⟩
    | 37, _ =>
      exact ⟨lw_b4, lw_t37_0, 37, (fun _ => 0), (fun _ => 4294967295), List.mem_of_getElem? (i := 1) rfl, lw_c37_0, h0, fun _ _ _ _ _ => rfl, lw_e4⟩
    | 38, _ =>
      exact ⟨lw_b5, lw_t38_0, 38, (fun _ => 0), (fun _ => 4294967295), List.mem_of_getElem? (i := 0) rfl, lw_c38_0, h0, fun _ _ _ _ _ => rfl, lw_e5⟩
    | 39, _ =>
      exact ⟨lw_b0, lw_t39_0, 39, (fun _ => 0), (fun _ => 4294967295), List.mem_of_getElem? (i := 27) rfl, lw_c39_0, h0, fun _ _ _ _ _ => rfl, lw_e0⟩
    | 40, _ =>
      exact ⟨lw_b5, lw_t40_0, 40, (fun _ => 0), (fun _ => 4294967295), List.mem_of_getElem? (i := 1) rfl, lw_c40_0, h0, fun _ _ _ _ _ => rfl, lw_e5⟩
    | 41, _ =>
      exact ⟨lw_b0, lw_t41_0, 41, (fun _ => 0), (fun _ => 4294967295), List.mem_of_getElem? (i := 28) rfl, lw_c41_0, h0, fun _ _ _ _ _ => rfl, lw_e0⟩
    | n + 42, hb => exact absurd (Nat.le_add_left 42 n) hb
theorem whole_start {p : Program} {e : Env} {s : State} {m : MethodId} {below : List Frame} {meth : Method} {c : Code} (l : Launch) (hflags : l.flags = flags0) {b L : Nat} {xs : Nat → Int32} (hL : L ≤ 6) (C0 : lw_At p s m meth c b L xs) : W p l e room_1 s m #[Value.ref b] below meth c s.heap [] 0 0 (lw_Z below #[Value.ref b] s) (entryFrame m ([Value.ref b] : List Value).toArray 9) :=
  whole_of (fun n hn => lw_pick xs n hn) l hflags hL C0
