theorem ev_t0 : ∀ w ∈ k2_sels lw_privs, w ∈ lw_tbl := fun w h => List.mem_append.mpr (Or.inl h)
theorem ev_t1 : ∀ w ∈ tables_1_1, w ∈ lw_tbl := fun w h => List.mem_append.mpr (Or.inr (List.mem_append.mpr (Or.inl h)))
theorem ev_t2 : ∀ w ∈ tables_1_2, w ∈ lw_tbl := fun w h => List.mem_append.mpr (Or.inr (List.mem_append.mpr (Or.inr (List.mem_append.mpr (Or.inl h)))))
theorem ev_t3 : ∀ w ∈ tables_1_3, w ∈ lw_tbl := fun w h => List.mem_append.mpr (Or.inr (List.mem_append.mpr (Or.inr (List.mem_append.mpr (Or.inr (List.mem_append.mpr (Or.inl h)))))))
theorem ev_t4 : ∀ w ∈ tables_1_4, w ∈ lw_tbl := fun w h => List.mem_append.mpr (Or.inr (List.mem_append.mpr (Or.inr (List.mem_append.mpr (Or.inr (List.mem_append.mpr (Or.inr (List.mem_append.mpr (Or.inl h)))))))))
theorem ev_t5 : ∀ w ∈ tables_1_5, w ∈ lw_tbl := fun w h => List.mem_append.mpr (Or.inr (List.mem_append.mpr (Or.inr (List.mem_append.mpr (Or.inr (List.mem_append.mpr (Or.inr (List.mem_append.mpr (Or.inr (List.mem_append.mpr (Or.inl h)))))))))))
theorem ev_t6 : ∀ w ∈ tables_1_6, w ∈ lw_tbl := fun w h => List.mem_append.mpr (Or.inr (List.mem_append.mpr (Or.inr (List.mem_append.mpr (Or.inr (List.mem_append.mpr (Or.inr (List.mem_append.mpr (Or.inr (List.mem_append.mpr (Or.inr (List.mem_append.mpr (Or.inl h)))))))))))))
theorem ev_t7 : ∀ w ∈ tables_1_7, w ∈ lw_tbl := fun w h => List.mem_append.mpr (Or.inr (List.mem_append.mpr (Or.inr (List.mem_append.mpr (Or.inr (List.mem_append.mpr (Or.inr (List.mem_append.mpr (Or.inr (List.mem_append.mpr (Or.inr (List.mem_append.mpr (Or.inr (List.mem_append.mpr (Or.inl h)))))))))))))))
theorem ev_t8 : ∀ w ∈ tables_1_8, w ∈ lw_tbl := fun w h => List.mem_append.mpr (Or.inr (List.mem_append.mpr (Or.inr (List.mem_append.mpr (Or.inr (List.mem_append.mpr (Or.inr (List.mem_append.mpr (Or.inr (List.mem_append.mpr (Or.inr (List.mem_append.mpr (Or.inr (List.mem_append.mpr (Or.inr (List.mem_append.mpr (Or.inl h)))))))))))))))))
theorem ev_t9 : ∀ w ∈ tables_1_9, w ∈ lw_tbl := fun w h => List.mem_append.mpr (Or.inr (List.mem_append.mpr (Or.inr (List.mem_append.mpr (Or.inr (List.mem_append.mpr (Or.inr (List.mem_append.mpr (Or.inr (List.mem_append.mpr (Or.inr (List.mem_append.mpr (Or.inr (List.mem_append.mpr (Or.inr (List.mem_append.mpr (Or.inr (h))))))))))))))))))
theorem ux0 : ∀ w ∈ u_ws RX0 TX0 3, w ∈ ev_good := fun w hw => by
  have h : ∀ w ∈ u_ws RX0 TX0 3, w ∈ lw_tbl ∧ goodWord w = true := by decide +kernel
  exact ev_in (h w hw).1 (h w hw).2
theorem li_X0 : Cond.initialized RX0 ∈ ev_good := ev_in (ev_t1 _ (List.mem_of_getElem? (i := 7) rfl)) rfl
theorem lt_X0 : Cond.instantiable RX0 3 ∈ ev_good := ev_in (ev_t1 _ (List.mem_of_getElem? (i := 201) rfl)) rfl
theorem ux1 : ∀ w ∈ u_ws RX1 TX1 19, w ∈ ev_good := fun w hw => by
  have h : ∀ w ∈ u_ws RX1 TX1 19, w ∈ lw_tbl ∧ goodWord w = true := by decide +kernel
  exact ev_in (h w hw).1 (h w hw).2
theorem li_X1 : Cond.initialized RX1 ∈ ev_good := ev_in (ev_t1 _ (List.mem_of_getElem? (i := 4) rfl)) rfl
theorem lt_X1 : Cond.instantiable RX1 19 ∈ ev_good := ev_in (ev_t1 _ (List.mem_of_getElem? (i := 49) rfl)) rfl
theorem ux2 : ∀ w ∈ u_ws RX2 TX2 4, w ∈ ev_good := fun w hw => by
  have h : ∀ w ∈ u_ws RX2 TX2 4, w ∈ lw_tbl ∧ goodWord w = true := by decide +kernel
  exact ev_in (h w hw).1 (h w hw).2
theorem li_X2 : Cond.initialized RX2 ∈ ev_good := ev_in (ev_t1 _ (List.mem_of_getElem? (i := 6) rfl)) rfl
theorem lt_X2 : Cond.instantiable RX2 4 ∈ ev_good := ev_in (ev_t1 _ (List.mem_of_getElem? (i := 77) rfl)) rfl
theorem ux3 : ∀ w ∈ u_ws RX3 TX3 8, w ∈ ev_good := fun w hw => by
  have h : ∀ w ∈ u_ws RX3 TX3 8, w ∈ lw_tbl ∧ goodWord w = true := by decide +kernel
  exact ev_in (h w hw).1 (h w hw).2
theorem li_X3 : Cond.initialized RX3 ∈ ev_good := ev_in (ev_t1 _ (List.mem_of_getElem? (i := 12) rfl)) rfl
theorem lt_X3 : Cond.instantiable RX3 8 ∈ ev_good := ev_in (ev_t2 _ (List.mem_of_getElem? (i := 37) rfl)) rfl
theorem ux4 : ∀ w ∈ u_ws RX4 TX4 4, w ∈ ev_good := fun w hw => by
  have h : ∀ w ∈ u_ws RX4 TX4 4, w ∈ lw_tbl ∧ goodWord w = true := by decide +kernel
  exact ev_in (h w hw).1 (h w hw).2
theorem li_X4 : Cond.initialized RX4 ∈ ev_good := ev_in (ev_t1 _ (List.mem_of_getElem? (i := 5) rfl)) rfl
theorem lt_X4 : Cond.instantiable RX4 4 ∈ ev_good := ev_in (ev_t1 _ (List.mem_of_getElem? (i := 55) rfl)) rfl
theorem ux5 : ∀ w ∈ u_ws RX5 TX5 2, w ∈ ev_good := fun w hw => by
  have h : ∀ w ∈ u_ws RX5 TX5 2, w ∈ lw_tbl ∧ goodWord w = true := by decide +kernel
  exact ev_in (h w hw).1 (h w hw).2
theorem li_X5 : Cond.initialized RX5 ∈ ev_good := ev_in (ev_t1 _ (List.mem_of_getElem? (i := 2) rfl)) rfl
theorem lt_X5 : Cond.instantiable RX5 2 ∈ ev_good := ev_in (ev_t1 _ (List.mem_of_getElem? (i := 32) rfl)) rfl
theorem ux6 : ∀ w ∈ u_ws RX6 TX6 9, w ∈ ev_good := fun w hw => by
  have h : ∀ w ∈ u_ws RX6 TX6 9, w ∈ lw_tbl ∧ goodWord w = true := by decide +kernel
  exact ev_in (h w hw).1 (h w hw).2
theorem li_X6 : Cond.initialized RX6 ∈ ev_good := ev_in (ev_t1 _ (List.mem_of_getElem? (i := 1) rfl)) rfl
theorem lt_X6 : Cond.instantiable RX6 9 ∈ ev_good := ev_in (ev_t1 _ (List.mem_of_getElem? (i := 24) rfl)) rfl
theorem ux7 : ∀ w ∈ u_ws RX7 TX7 28, w ∈ ev_good := fun w hw => by
  have h : ∀ w ∈ u_ws RX7 TX7 28, w ∈ lw_tbl ∧ goodWord w = true := by decide +kernel
  exact ev_in (h w hw).1 (h w hw).2
theorem li_X7 : Cond.initialized RX7 ∈ ev_good := ev_in (ev_t1 _ (List.mem_of_getElem? (i := 13) rfl)) rfl
theorem lt_X7 : Cond.instantiable RX7 28 ∈ ev_good := ev_in (ev_t6 _ (List.mem_of_getElem? (i := 201) rfl)) rfl
theorem lw_arr0 : Cond.arrayClass (newarray.typeOf .int) ∈ ev_good := ev_in (ev_t1 _ (List.mem_of_getElem? (i := 74) rfl)) rfl
theorem lw_arr1 : Cond.arrayClass (newarray.typeOf .byte) ∈ ev_good := ev_in (ev_t1 _ (List.mem_of_getElem? (i := 47) rfl)) rfl
theorem lw_arr2 : Cond.arrayClass (newarray.typeOf .boolean) ∈ ev_good := ev_in (ev_t2 _ (List.mem_of_getElem? (i := 69) rfl)) rfl
theorem lw_arr3 : Cond.arrayClass (newarray.typeOf .long) ∈ ev_good := ev_in (ev_t9 _ (List.mem_of_getElem? (i := 33) rfl)) rfl
theorem li_J6 : Cond.initialized RJ6 ∈ ev_good := ev_in (ev_t1 _ (List.mem_of_getElem? (i := 22) rfl)) rfl
theorem li_System : Cond.initialized "java/lang/System" ∈ ev_good := ev_in (ev_t1 _ (List.mem_of_getElem? (i := 20) rfl)) rfl
theorem ln_acopy : Cond.native arraycopyName ∈ ev_good := ev_in (ev_t4 _ (List.mem_of_getElem? (i := 17) rfl)) rfl
theorem ls_acopy : Cond.static arraycopyName ∈ ev_good := ev_in (ev_t4 _ (List.mem_of_getElem? (i := 16) rfl)) rfl
theorem li_Math : Cond.initialized "java/lang/Math" ∈ ev_good := ev_in (ev_t1 _ (List.mem_of_getElem? (i := 3) rfl)) rfl
theorem ls_max : Cond.static Lib.Math.max.name ∈ ev_good := ev_in (ev_t1 _ (List.mem_of_getElem? (i := 38) rfl)) rfl
theorem lm_max : Cond.code Lib.Math.max.name Lib.Math.max.code 2 (some .int) ∈ ev_good := ev_in (ev_t1 _ (List.mem_of_getElem? (i := 39) rfl)) rfl
theorem ls_min : Cond.static Lib.Math.min.name ∈ ev_good := ev_in (ev_t4 _ (List.mem_of_getElem? (i := 104) rfl)) rfl
theorem lm_min : Cond.code Lib.Math.min.name Lib.Math.min.code 2 (some .int) ∈ ev_good := ev_in (ev_t4 _ (List.mem_of_getElem? (i := 105) rfl)) rfl
theorem li_Object : Cond.instanceMethod Lib.objectInit ∈ ev_good := ev_in (ev_t1 _ (List.mem_of_getElem? (i := 29) rfl)) rfl
theorem lm_Object : Cond.code Lib.objectInit ⟨#[0xb1]⟩ 1 none ∈ ev_good := ev_in (ev_t1 _ (List.mem_of_getElem? (i := 30) rfl)) rfl
theorem yd_J6_compare_7cf53 : ev_Yd yJ6_compare_7cf53 RJ6 2 := ⟨rfl, by decide +kernel, by decide +kernel, by decide +kernel⟩
theorem lm_J6_compare_7cf53 : Cond.code yJ6_compare_7cf53 cJ6_compare_7cf53 2 (some .int) ∈ ev_good := ev_in (ev_t3 _ (List.mem_of_getElem? (i := 51) rfl)) rfl
theorem ls_J6_compare_7cf53 : Cond.static yJ6_compare_7cf53 ∈ ev_good := ev_in (ev_t3 _ (List.mem_of_getElem? (i := 50) rfl)) rfl
theorem yd_L_add : ev_Yd yL_add RL 6 := ⟨rfl, by decide +kernel, by decide +kernel, by decide +kernel⟩
theorem ls_L_add : Cond.static yL_add ∈ ev_good := ev_in (ev_t6 _ (List.mem_of_getElem? (i := 85) rfl)) rfl
theorem yd_L_append : ev_Yd yL_append RL 7 := ⟨rfl, by decide +kernel, by decide +kernel, by decide +kernel⟩
theorem ls_L_append : Cond.static yL_append ∈ ev_good := ev_in (ev_t3 _ (List.mem_of_getElem? (i := 117) rfl)) rfl
theorem yd_L_baseByte : ev_Yd yL_baseByte RL 4 := ⟨rfl, by decide +kernel, by decide +kernel, by decide +kernel⟩
theorem ls_L_baseByte : Cond.static yL_baseByte ∈ ev_good := ev_in (ev_t4 _ (List.mem_of_getElem? (i := 145) rfl)) rfl
theorem yd_L_browse : ev_Yd yL_browse RL 5 := ⟨rfl, by decide +kernel, by decide +kernel, by decide +kernel⟩
theorem ls_L_browse : Cond.static yL_browse ∈ ev_good := ev_in (ev_t6 _ (List.mem_of_getElem? (i := 149) rfl)) rfl
theorem yd_L_browser : ev_Yd yL_browser RL 5 := ⟨rfl, by decide +kernel, by decide +kernel, by decide +kernel⟩
theorem ls_L_browser : Cond.static yL_browser ∈ ev_good := ev_in (ev_t4 _ (List.mem_of_getElem? (i := 185) rfl)) rfl
theorem yd_L_count : ev_Yd yL_count RL 3 := ⟨rfl, by decide +kernel, by decide +kernel, by decide +kernel⟩
theorem ls_L_count : Cond.static yL_count ∈ ev_good := ev_in (ev_t4 _ (List.mem_of_getElem? (i := 59) rfl)) rfl
theorem yd_L_establishedIn : ev_Yd yL_establishedIn RL 3 := ⟨rfl, by decide +kernel, by decide +kernel, by decide +kernel⟩
theorem ls_L_establishedIn : Cond.static yL_establishedIn ∈ ev_good := ev_in (ev_t5 _ (List.mem_of_getElem? (i := 39) rfl)) rfl
theorem yd_L_find : ev_Yd yL_find RL 3 := ⟨rfl, by decide +kernel, by decide +kernel, by decide +kernel⟩
theorem ls_L_find : Cond.static yL_find ∈ ev_good := ev_in (ev_t4 _ (List.mem_of_getElem? (i := 28) rfl)) rfl
theorem yd_L_freshIn : ev_Yd yL_freshIn RL 2 := ⟨rfl, by decide +kernel, by decide +kernel, by decide +kernel⟩
theorem ls_L_freshIn : Cond.static yL_freshIn ∈ ev_good := ev_in (ev_t6 _ (List.mem_of_getElem? (i := 39) rfl)) rfl
theorem yd_L_haveSameName : ev_Yd yL_haveSameName RL 4 := ⟨rfl, by decide +kernel, by decide +kernel, by decide +kernel⟩
theorem ls_L_haveSameName : Cond.static yL_haveSameName ∈ ev_good := ev_in (ev_t4 _ (List.mem_of_getElem? (i := 153) rfl)) rfl
theorem yd_L_host : ev_Yd yL_host RL 4 := ⟨rfl, by decide +kernel, by decide +kernel, by decide +kernel⟩
theorem ls_L_host : Cond.static yL_host ∈ ev_good := ev_in (ev_t4 _ (List.mem_of_getElem? (i := 112) rfl)) rfl
theorem yd_L_isMarked : ev_Yd yL_isMarked RL 3 := ⟨rfl, by decide +kernel, by decide +kernel, by decide +kernel⟩
theorem ls_L_isMarked : Cond.static yL_isMarked ∈ ev_good := ev_in (ev_t4 _ (List.mem_of_getElem? (i := 225) rfl)) rfl
theorem yd_L_known : ev_Yd yL_known RL 4 := ⟨rfl, by decide +kernel, by decide +kernel, by decide +kernel⟩
theorem ls_L_known : Cond.static yL_known ∈ ev_good := ev_in (ev_t5 _ (List.mem_of_getElem? (i := 4) rfl)) rfl
theorem yd_L_knownIn : ev_Yd yL_knownIn RL 4 := ⟨rfl, by decide +kernel, by decide +kernel, by decide +kernel⟩
theorem ls_L_knownIn : Cond.static yL_knownIn ∈ ev_good := ev_in (ev_t6 _ (List.mem_of_getElem? (i := 24) rfl)) rfl
theorem yd_L_load : ev_Yd yL_load RL 2 := ⟨rfl, by decide +kernel, by decide +kernel, by decide +kernel⟩
theorem ls_L_load : Cond.static yL_load ∈ ev_good := ev_in (ev_t3 _ (List.mem_of_getElem? (i := 221) rfl)) rfl
theorem yd_L_log : ev_Yd yL_log RL 4 := ⟨rfl, by decide +kernel, by decide +kernel, by decide +kernel⟩
theorem ls_L_log : Cond.static yL_log ∈ ev_good := ev_in (ev_t4 _ (List.mem_of_getElem? (i := 236) rfl)) rfl
theorem yd_L_mark : ev_Yd yL_mark RL 3 := ⟨rfl, by decide +kernel, by decide +kernel, by decide +kernel⟩
theorem ls_L_mark : Cond.static yL_mark ∈ ev_good := ev_in (ev_t6 _ (List.mem_of_getElem? (i := 159) rfl)) rfl
theorem yd_L_message : ev_Yd yL_message RL 4 := ⟨rfl, by decide +kernel, by decide +kernel, by decide +kernel⟩
theorem ls_L_message : Cond.static yL_message ∈ ev_good := ev_in (ev_t4 _ (List.mem_of_getElem? (i := 200) rfl)) rfl
theorem yd_L_messagesIn : ev_Yd yL_messagesIn RL 3 := ⟨rfl, by decide +kernel, by decide +kernel, by decide +kernel⟩
theorem ls_L_messagesIn : Cond.static yL_messagesIn ∈ ev_good := ev_in (ev_t6 _ (List.mem_of_getElem? (i := 32) rfl)) rfl
theorem yd_L_numberIf : ev_Yd yL_numberIf RL 6 := ⟨rfl, by decide +kernel, by decide +kernel, by decide +kernel⟩
theorem ls_L_numberIf : Cond.static yL_numberIf ∈ ev_good := ev_in (ev_t6 _ (List.mem_of_getElem? (i := 47) rfl)) rfl
theorem yd_L_numberIn : ev_Yd yL_numberIn RL 4 := ⟨rfl, by decide +kernel, by decide +kernel, by decide +kernel⟩
theorem ls_L_numberIn : Cond.static yL_numberIn ∈ ev_good := ev_in (ev_t6 _ (List.mem_of_getElem? (i := 13) rfl)) rfl
theorem yd_L_outputByte : ev_Yd yL_outputByte RL 3 := ⟨rfl, by decide +kernel, by decide +kernel, by decide +kernel⟩
theorem ls_L_outputByte : Cond.static yL_outputByte ∈ ev_good := ev_in (ev_t6 _ (List.mem_of_getElem? (i := 62) rfl)) rfl
theorem yd_L_pass : ev_Yd yL_pass RL 3 := ⟨rfl, by decide +kernel, by decide +kernel, by decide +kernel⟩
theorem ls_L_pass : Cond.static yL_pass ∈ ev_good := ev_in (ev_t6 _ (List.mem_of_getElem? (i := 71) rfl)) rfl
theorem yd_L_record : ev_Yd yL_record RL 5 := ⟨rfl, by decide +kernel, by decide +kernel, by decide +kernel⟩
theorem ls_L_record : Cond.static yL_record ∈ ev_good := ev_in (ev_t4 _ (List.mem_of_getElem? (i := 161) rfl)) rfl
theorem yd_L_recordByte : ev_Yd yL_recordByte RL 5 := ⟨rfl, by decide +kernel, by decide +kernel, by decide +kernel⟩
theorem ls_L_recordByte : Cond.static yL_recordByte ∈ ev_good := ev_in (ev_t4 _ (List.mem_of_getElem? (i := 178) rfl)) rfl
theorem yd_L_records : ev_Yd yL_records RL 4 := ⟨rfl, by decide +kernel, by decide +kernel, by decide +kernel⟩
theorem ls_L_records : Cond.static yL_records ∈ ev_good := ev_in (ev_t5 _ (List.mem_of_getElem? (i := 12) rfl)) rfl
theorem yd_L_restore : ev_Yd yL_restore RL 2 := ⟨rfl, by decide +kernel, by decide +kernel, by decide +kernel⟩
theorem ls_L_restore : Cond.static yL_restore ∈ ev_good := ev_in (ev_t6 _ (List.mem_of_getElem? (i := 193) rfl)) rfl
theorem yd_L_save : ev_Yd yL_save RL 2 := ⟨rfl, by decide +kernel, by decide +kernel, by decide +kernel⟩
theorem ls_L_save : Cond.static yL_save ∈ ev_good := ev_in (ev_t6 _ (List.mem_of_getElem? (i := 181) rfl)) rfl
theorem yd_L_service : ev_Yd yL_service RL 4 := ⟨rfl, by decide +kernel, by decide +kernel, by decide +kernel⟩
theorem ls_L_service : Cond.static yL_service ∈ ev_good := ev_in (ev_t4 _ (List.mem_of_getElem? (i := 132) rfl)) rfl
theorem yd_L_setOn : ev_Yd yL_setOn RL 5 := ⟨rfl, by decide +kernel, by decide +kernel, by decide +kernel⟩
theorem ls_L_setOn : Cond.static yL_setOn ∈ ev_good := ev_in (ev_t6 _ (List.mem_of_getElem? (i := 117) rfl)) rfl
theorem yd_L_setPort : ev_Yd yL_setPort RL 4 := ⟨rfl, by decide +kernel, by decide +kernel, by decide +kernel⟩
theorem ls_L_setPort : Cond.static yL_setPort ∈ ev_good := ev_in (ev_t6 _ (List.mem_of_getElem? (i := 106) rfl)) rfl
theorem yd_L_setSide : ev_Yd yL_setSide RL 4 := ⟨rfl, by decide +kernel, by decide +kernel, by decide +kernel⟩
theorem ls_L_setSide : Cond.static yL_setSide ∈ ev_good := ev_in (ev_t6 _ (List.mem_of_getElem? (i := 140) rfl)) rfl
theorem yd_L_truncate : ev_Yd yL_truncate RL 3 := ⟨rfl, by decide +kernel, by decide +kernel, by decide +kernel⟩
theorem ls_L_truncate : Cond.static yL_truncate ∈ ev_good := ev_in (ev_t3 _ (List.mem_of_getElem? (i := 197) rfl)) rfl
theorem yd_L_undo : ev_Yd yL_undo RL 2 := ⟨rfl, by decide +kernel, by decide +kernel, by decide +kernel⟩
theorem ls_L_undo : Cond.static yL_undo ∈ ev_good := ev_in (ev_t6 _ (List.mem_of_getElem? (i := 168) rfl)) rfl
theorem yd_L_why : ev_Yd yL_why RL 4 := ⟨rfl, by decide +kernel, by decide +kernel, by decide +kernel⟩
theorem ls_L_why : Cond.static yL_why ∈ ev_good := ev_in (ev_t5 _ (List.mem_of_getElem? (i := 23) rfl)) rfl
theorem yd_L_withdraw : ev_Yd yL_withdraw RL 3 := ⟨rfl, by decide +kernel, by decide +kernel, by decide +kernel⟩
theorem ls_L_withdraw : Cond.static yL_withdraw ∈ ev_good := ev_in (ev_t6 _ (List.mem_of_getElem? (i := 94) rfl)) rfl
theorem yd_X0_init : ev_Yd yX0_init RX0 0 := ⟨rfl, by decide +kernel, by decide +kernel, by decide +kernel⟩
theorem lm_X0_init : Cond.code yX0_init cX0_init 2 none ∈ ev_good := ev_in (ev_t1 _ (List.mem_of_getElem? (i := 204) rfl)) rfl
theorem li_X0_init : Cond.instanceMethod yX0_init ∈ ev_good := ev_in (ev_t1 _ (List.mem_of_getElem? (i := 203) rfl)) rfl
theorem yd_X0_keep : ev_Yd yX0_keep RX0 1 := ⟨rfl, by decide +kernel, by decide +kernel, by decide +kernel⟩
theorem lm_X0_keep : Cond.code yX0_keep cX0_keep 2 none ∈ ev_good := ev_in (ev_t6 _ (List.mem_of_getElem? (i := 81) rfl)) rfl
theorem li_X0_keep : Cond.instanceMethod yX0_keep ∈ ev_good := ev_in (ev_t6 _ (List.mem_of_getElem? (i := 79) rfl)) rfl
theorem le_X0_keep : Cond.selects RX0 yX0_keep yX0_keep ∈ ev_good := ev_in (ev_t6 _ (List.mem_of_getElem? (i := 80) rfl)) rfl
theorem yd_X0_size : ev_Yd yX0_size RX0 0 := ⟨rfl, by decide +kernel, by decide +kernel, by decide +kernel⟩
theorem lm_X0_size : Cond.code yX0_size cX0_size 1 (some .int) ∈ ev_good := ev_in (ev_t4 _ (List.mem_of_getElem? (i := 109) rfl)) rfl
theorem li_X0_size : Cond.instanceMethod yX0_size ∈ ev_good := ev_in (ev_t4 _ (List.mem_of_getElem? (i := 107) rfl)) rfl
theorem le_X0_size : Cond.selects RX0 yX0_size yX0_size ∈ ev_good := ev_in (ev_t4 _ (List.mem_of_getElem? (i := 108) rfl)) rfl
theorem yd_X1_addMark : ev_Yd yX1_addMark RX1 1 := ⟨rfl, by decide +kernel, by decide +kernel, by decide +kernel⟩
theorem lm_X1_addMark : Cond.code yX1_addMark cX1_addMark 2 none ∈ ev_good := ev_in (ev_t2 _ (List.mem_of_getElem? (i := 228) rfl)) rfl
theorem li_X1_addMark : Cond.instanceMethod yX1_addMark ∈ ev_good := ev_in (ev_t2 _ (List.mem_of_getElem? (i := 226) rfl)) rfl
theorem le_X1_addMark : Cond.selects RX1 yX1_addMark yX1_addMark ∈ ev_good := ev_in (ev_t2 _ (List.mem_of_getElem? (i := 227) rfl)) rfl
theorem yd_X1_addService : ev_Yd yX1_addService RX1 5 := ⟨rfl, by decide +kernel, by decide +kernel, by decide +kernel⟩
theorem lm_X1_addService : Cond.code yX1_addService cX1_addService 7 (some .int) ∈ ev_good := ev_in (ev_t2 _ (List.mem_of_getElem? (i := 185) rfl)) rfl
theorem li_X1_addService : Cond.instanceMethod yX1_addService ∈ ev_good := ev_in (ev_t2 _ (List.mem_of_getElem? (i := 183) rfl)) rfl
theorem le_X1_addService : Cond.selects RX1 yX1_addService yX1_addService ∈ ev_good := ev_in (ev_t2 _ (List.mem_of_getElem? (i := 184) rfl)) rfl
theorem yd_X1_ageRecords : ev_Yd yX1_ageRecords RX1 2 := ⟨rfl, by decide +kernel, by decide +kernel, by decide +kernel⟩
theorem lm_X1_ageRecords : Cond.code yX1_ageRecords cX1_ageRecords 8 (some .int) ∈ ev_good := ev_in (ev_t6 _ (List.mem_of_getElem? (i := 5) rfl)) rfl
theorem li_X1_ageRecords : Cond.instanceMethod yX1_ageRecords ∈ ev_good := ev_in (ev_t6 _ (List.mem_of_getElem? (i := 4) rfl)) rfl
theorem le_X1_ageRecords : Cond.selects RX1 yX1_ageRecords yX1_ageRecords ∈ ev_good := ev_in (ev_t0 _ (List.mem_of_getElem? (i := 61) rfl)) rfl
theorem yd_X1_announceService : ev_Yd yX1_announceService RX1 1 := ⟨rfl, by decide +kernel, by decide +kernel, by decide +kernel⟩
theorem lm_X1_announceService : Cond.code yX1_announceService cX1_announceService 2 none ∈ ev_good := ev_in (ev_t5 _ (List.mem_of_getElem? (i := 233) rfl)) rfl
theorem li_X1_announceService : Cond.instanceMethod yX1_announceService ∈ ev_good := ev_in (ev_t5 _ (List.mem_of_getElem? (i := 232) rfl)) rfl
theorem le_X1_announceService : Cond.selects RX1 yX1_announceService yX1_announceService ∈ ev_good := ev_in (ev_t0 _ (List.mem_of_getElem? (i := 58) rfl)) rfl
theorem yd_X1_beginToBrowse : ev_Yd yX1_beginToBrowse RX1 2 := ⟨rfl, by decide +kernel, by decide +kernel, by decide +kernel⟩
theorem lm_X1_beginToBrowse : Cond.code yX1_beginToBrowse cX1_beginToBrowse 4 none ∈ ev_good := ev_in (ev_t2 _ (List.mem_of_getElem? (i := 214) rfl)) rfl
theorem li_X1_beginToBrowse : Cond.instanceMethod yX1_beginToBrowse ∈ ev_good := ev_in (ev_t2 _ (List.mem_of_getElem? (i := 212) rfl)) rfl
theorem le_X1_beginToBrowse : Cond.selects RX1 yX1_beginToBrowse yX1_beginToBrowse ∈ ev_good := ev_in (ev_t2 _ (List.mem_of_getElem? (i := 213) rfl)) rfl
theorem yd_X1_beginToProbe : ev_Yd yX1_beginToProbe RX1 2 := ⟨rfl, by decide +kernel, by decide +kernel, by decide +kernel⟩
theorem lm_X1_beginToProbe : Cond.code yX1_beginToProbe cX1_beginToProbe 3 none ∈ ev_good := ev_in (ev_t2 _ (List.mem_of_getElem? (i := 194) rfl)) rfl
theorem li_X1_beginToProbe : Cond.instanceMethod yX1_beginToProbe ∈ ev_good := ev_in (ev_t2 _ (List.mem_of_getElem? (i := 193) rfl)) rfl
theorem le_X1_beginToProbe : Cond.selects RX1 yX1_beginToProbe yX1_beginToProbe ∈ ev_good := ev_in (ev_t0 _ (List.mem_of_getElem? (i := 14) rfl)) rfl
theorem yd_X1_browserActs : ev_Yd yX1_browserActs RX1 2 := ⟨rfl, by decide +kernel, by decide +kernel, by decide +kernel⟩
theorem lm_X1_browserActs : Cond.code yX1_browserActs cX1_browserActs 7 none ∈ ev_good := ev_in (ev_t6 _ (List.mem_of_getElem? (i := 1) rfl)) rfl
theorem li_X1_browserActs : Cond.instanceMethod yX1_browserActs ∈ ev_good := ev_in (ev_t6 _ (List.mem_of_getElem? (i := 0) rfl)) rfl
theorem le_X1_browserActs : Cond.selects RX1 yX1_browserActs yX1_browserActs ∈ ev_good := ev_in (ev_t0 _ (List.mem_of_getElem? (i := 60) rfl)) rfl
theorem yd_X1_browserOf : ev_Yd yX1_browserOf RX1 2 := ⟨rfl, by decide +kernel, by decide +kernel, by decide +kernel⟩
theorem lm_X1_browserOf : Cond.code yX1_browserOf cX1_browserOf 2 (some .int) ∈ ev_good := ev_in (ev_t2 _ (List.mem_of_getElem? (i := 210) rfl)) rfl
theorem ls_X1_browserOf : Cond.static yX1_browserOf ∈ ev_good := ev_in (ev_t2 _ (List.mem_of_getElem? (i := 209) rfl)) rfl
theorem yd_X1_browsersAct : ev_Yd yX1_browsersAct RX1 0 := ⟨rfl, by decide +kernel, by decide +kernel, by decide +kernel⟩
theorem lm_X1_browsersAct : Cond.code yX1_browsersAct cX1_browsersAct 3 none ∈ ev_good := ev_in (ev_t5 _ (List.mem_of_getElem? (i := 237) rfl)) rfl
theorem li_X1_browsersAct : Cond.instanceMethod yX1_browsersAct ∈ ev_good := ev_in (ev_t5 _ (List.mem_of_getElem? (i := 236) rfl)) rfl
theorem le_X1_browsersAct : Cond.selects RX1 yX1_browsersAct yX1_browsersAct ∈ ev_good := ev_in (ev_t0 _ (List.mem_of_getElem? (i := 59) rfl)) rfl
theorem yd_X1_browsersOf : ev_Yd yX1_browsersOf RX1 1 := ⟨rfl, by decide +kernel, by decide +kernel, by decide +kernel⟩
theorem lm_X1_browsersOf : Cond.code yX1_browsersOf cX1_browsersOf 4 (some .int) ∈ ev_good := ev_in (ev_t4 _ (List.mem_of_getElem? (i := 97) rfl)) rfl
theorem li_X1_browsersOf : Cond.instanceMethod yX1_browsersOf ∈ ev_good := ev_in (ev_t4 _ (List.mem_of_getElem? (i := 95) rfl)) rfl
theorem le_X1_browsersOf : Cond.selects RX1 yX1_browsersOf yX1_browsersOf ∈ ev_good := ev_in (ev_t4 _ (List.mem_of_getElem? (i := 96) rfl)) rfl
theorem yd_X1_browsersOfAll : ev_Yd yX1_browsersOfAll RX1 0 := ⟨rfl, by decide +kernel, by decide +kernel, by decide +kernel⟩
theorem lm_X1_browsersOfAll : Cond.code yX1_browsersOfAll cX1_browsersOfAll 3 (some .int) ∈ ev_good := ev_in (ev_t4 _ (List.mem_of_getElem? (i := 93) rfl)) rfl
theorem li_X1_browsersOfAll : Cond.instanceMethod yX1_browsersOfAll ∈ ev_good := ev_in (ev_t4 _ (List.mem_of_getElem? (i := 91) rfl)) rfl
theorem le_X1_browsersOfAll : Cond.selects RX1 yX1_browsersOfAll yX1_browsersOfAll ∈ ev_good := ev_in (ev_t4 _ (List.mem_of_getElem? (i := 92) rfl)) rfl
theorem yd_X1_cacheOf : ev_Yd yX1_cacheOf RX1 1 := ⟨rfl, by decide +kernel, by decide +kernel, by decide +kernel⟩
theorem lm_X1_cacheOf : Cond.code yX1_cacheOf cX1_cacheOf 3 (some (.object "LinkDirectory$Table")) ∈ ev_good := ev_in (ev_t1 _ (List.mem_of_getElem? (i := 124) rfl)) rfl
theorem li_X1_cacheOf : Cond.instanceMethod yX1_cacheOf ∈ ev_good := ev_in (ev_t1 _ (List.mem_of_getElem? (i := 122) rfl)) rfl
theorem le_X1_cacheOf : Cond.selects RX1 yX1_cacheOf yX1_cacheOf ∈ ev_good := ev_in (ev_t1 _ (List.mem_of_getElem? (i := 123) rfl)) rfl
theorem yd_X1_causeOf : ev_Yd yX1_causeOf RX1 2 := ⟨rfl, by decide +kernel, by decide +kernel, by decide +kernel⟩
theorem lm_X1_causeOf : Cond.code yX1_causeOf cX1_causeOf 3 (some .int) ∈ ev_good := ev_in (ev_t5 _ (List.mem_of_getElem? (i := 37) rfl)) rfl
theorem li_X1_causeOf : Cond.instanceMethod yX1_causeOf ∈ ev_good := ev_in (ev_t5 _ (List.mem_of_getElem? (i := 35) rfl)) rfl
theorem le_X1_causeOf : Cond.selects RX1 yX1_causeOf yX1_causeOf ∈ ev_good := ev_in (ev_t5 _ (List.mem_of_getElem? (i := 36) rfl)) rfl
theorem yd_X1_changePort : ev_Yd yX1_changePort RX1 2 := ⟨rfl, by decide +kernel, by decide +kernel, by decide +kernel⟩
theorem lm_X1_changePort : Cond.code yX1_changePort cX1_changePort 3 none ∈ ev_good := ev_in (ev_t6 _ (List.mem_of_getElem? (i := 115) rfl)) rfl
theorem li_X1_changePort : Cond.instanceMethod yX1_changePort ∈ ev_good := ev_in (ev_t6 _ (List.mem_of_getElem? (i := 113) rfl)) rfl
theorem le_X1_changePort : Cond.selects RX1 yX1_changePort yX1_changePort ∈ ev_good := ev_in (ev_t6 _ (List.mem_of_getElem? (i := 114) rfl)) rfl
theorem yd_X1_clashingPairs : ev_Yd yX1_clashingPairs RX1 0 := ⟨rfl, by decide +kernel, by decide +kernel, by decide +kernel⟩
theorem lm_X1_clashingPairs : Cond.code yX1_clashingPairs cX1_clashingPairs 4 (some .int) ∈ ev_good := ev_in (ev_t3 _ (List.mem_of_getElem? (i := 63) rfl)) rfl
theorem li_X1_clashingPairs : Cond.instanceMethod yX1_clashingPairs ∈ ev_good := ev_in (ev_t3 _ (List.mem_of_getElem? (i := 61) rfl)) rfl
theorem le_X1_clashingPairs : Cond.selects RX1 yX1_clashingPairs yX1_clashingPairs ∈ ev_good := ev_in (ev_t3 _ (List.mem_of_getElem? (i := 62) rfl)) rfl
theorem yd_X1_comesTo : ev_Yd yX1_comesTo RX1 2 := ⟨rfl, by decide +kernel, by decide +kernel, by decide +kernel⟩
theorem lm_X1_comesTo : Cond.code yX1_comesTo cX1_comesTo 4 (some .boolean) ∈ ev_good := ev_in (ev_t5 _ (List.mem_of_getElem? (i := 81) rfl)) rfl
theorem li_X1_comesTo : Cond.instanceMethod yX1_comesTo ∈ ev_good := ev_in (ev_t5 _ (List.mem_of_getElem? (i := 80) rfl)) rfl
theorem le_X1_comesTo : Cond.selects RX1 yX1_comesTo yX1_comesTo ∈ ev_good := ev_in (ev_t0 _ (List.mem_of_getElem? (i := 36) rfl)) rfl
theorem yd_X1_copyFrom : ev_Yd yX1_copyFrom RX1 1 := ⟨rfl, by decide +kernel, by decide +kernel, by decide +kernel⟩
theorem lm_X1_copyFrom : Cond.code yX1_copyFrom cX1_copyFrom 3 none ∈ ev_good := ev_in (ev_t4 _ (List.mem_of_getElem? (i := 7) rfl)) rfl
theorem li_X1_copyFrom : Cond.instanceMethod yX1_copyFrom ∈ ev_good := ev_in (ev_t4 _ (List.mem_of_getElem? (i := 5) rfl)) rfl
theorem le_X1_copyFrom : Cond.selects RX1 yX1_copyFrom yX1_copyFrom ∈ ev_good := ev_in (ev_t4 _ (List.mem_of_getElem? (i := 6) rfl)) rfl
theorem yd_X1_countMessage : ev_Yd yX1_countMessage RX1 2 := ⟨rfl, by decide +kernel, by decide +kernel, by decide +kernel⟩
theorem lm_X1_countMessage : Cond.code yX1_countMessage cX1_countMessage 4 (some .boolean) ∈ ev_good := ev_in (ev_t5 _ (List.mem_of_getElem? (i := 188) rfl)) rfl
theorem li_X1_countMessage : Cond.instanceMethod yX1_countMessage ∈ ev_good := ev_in (ev_t5 _ (List.mem_of_getElem? (i := 187) rfl)) rfl
theorem le_X1_countMessage : Cond.selects RX1 yX1_countMessage yX1_countMessage ∈ ev_good := ev_in (ev_t0 _ (List.mem_of_getElem? (i := 48) rfl)) rfl
theorem yd_X1_endBrowsing : ev_Yd yX1_endBrowsing RX1 2 := ⟨rfl, by decide +kernel, by decide +kernel, by decide +kernel⟩
theorem lm_X1_endBrowsing : Cond.code yX1_endBrowsing cX1_endBrowsing 3 none ∈ ev_good := ev_in (ev_t6 _ (List.mem_of_getElem? (i := 134) rfl)) rfl
theorem li_X1_endBrowsing : Cond.instanceMethod yX1_endBrowsing ∈ ev_good := ev_in (ev_t6 _ (List.mem_of_getElem? (i := 132) rfl)) rfl
theorem le_X1_endBrowsing : Cond.selects RX1 yX1_endBrowsing yX1_endBrowsing ∈ ev_good := ev_in (ev_t6 _ (List.mem_of_getElem? (i := 133) rfl)) rfl
theorem yd_X1_eventsKept : ev_Yd yX1_eventsKept RX1 0 := ⟨rfl, by decide +kernel, by decide +kernel, by decide +kernel⟩
theorem lm_X1_eventsKept : Cond.code yX1_eventsKept cX1_eventsKept 1 (some .int) ∈ ev_good := ev_in (ev_t4 _ (List.mem_of_getElem? (i := 102) rfl)) rfl
theorem li_X1_eventsKept : Cond.instanceMethod yX1_eventsKept ∈ ev_good := ev_in (ev_t4 _ (List.mem_of_getElem? (i := 100) rfl)) rfl
theorem le_X1_eventsKept : Cond.selects RX1 yX1_eventsKept yX1_eventsKept ∈ ev_good := ev_in (ev_t4 _ (List.mem_of_getElem? (i := 101) rfl)) rfl
theorem yd_X1_findReply : ev_Yd yX1_findReply RX1 1 := ⟨rfl, by decide +kernel, by decide +kernel, by decide +kernel⟩
theorem lm_X1_findReply : Cond.code yX1_findReply cX1_findReply 3 none ∈ ev_good := ev_in (ev_t5 _ (List.mem_of_getElem? (i := 85) rfl)) rfl
theorem li_X1_findReply : Cond.instanceMethod yX1_findReply ∈ ev_good := ev_in (ev_t5 _ (List.mem_of_getElem? (i := 84) rfl)) rfl
theorem le_X1_findReply : Cond.selects RX1 yX1_findReply yX1_findReply ∈ ev_good := ev_in (ev_t0 _ (List.mem_of_getElem? (i := 37) rfl)) rfl
theorem yd_X1_hasMarkAhead : ev_Yd yX1_hasMarkAhead RX1 0 := ⟨rfl, by decide +kernel, by decide +kernel, by decide +kernel⟩
theorem lm_X1_hasMarkAhead : Cond.code yX1_hasMarkAhead cX1_hasMarkAhead 2 (some .boolean) ∈ ev_good := ev_in (ev_t5 _ (List.mem_of_getElem? (i := 73) rfl)) rfl
theorem li_X1_hasMarkAhead : Cond.instanceMethod yX1_hasMarkAhead ∈ ev_good := ev_in (ev_t5 _ (List.mem_of_getElem? (i := 72) rfl)) rfl
theorem le_X1_hasMarkAhead : Cond.selects RX1 yX1_hasMarkAhead yX1_hasMarkAhead ∈ ev_good := ev_in (ev_t0 _ (List.mem_of_getElem? (i := 34) rfl)) rfl
theorem yd_X1_hasTwin : ev_Yd yX1_hasTwin RX1 1 := ⟨rfl, by decide +kernel, by decide +kernel, by decide +kernel⟩
theorem lm_X1_hasTwin : Cond.code yX1_hasTwin cX1_hasTwin 5 (some .boolean) ∈ ev_good := ev_in (ev_t5 _ (List.mem_of_getElem? (i := 213) rfl)) rfl
theorem li_X1_hasTwin : Cond.instanceMethod yX1_hasTwin ∈ ev_good := ev_in (ev_t5 _ (List.mem_of_getElem? (i := 212) rfl)) rfl
theorem le_X1_hasTwin : Cond.selects RX1 yX1_hasTwin yX1_hasTwin ∈ ev_good := ev_in (ev_t0 _ (List.mem_of_getElem? (i := 53) rfl)) rfl
theorem yd_X1_holdsName : ev_Yd yX1_holdsName RX1 1 := ⟨rfl, by decide +kernel, by decide +kernel, by decide +kernel⟩
theorem lm_X1_holdsName : Cond.code yX1_holdsName cX1_holdsName 3 (some .boolean) ∈ ev_good := ev_in (ev_t3 _ (List.mem_of_getElem? (i := 55) rfl)) rfl
theorem li_X1_holdsName : Cond.instanceMethod yX1_holdsName ∈ ev_good := ev_in (ev_t3 _ (List.mem_of_getElem? (i := 53) rfl)) rfl
theorem le_X1_holdsName : Cond.selects RX1 yX1_holdsName yX1_holdsName ∈ ev_good := ev_in (ev_t3 _ (List.mem_of_getElem? (i := 54) rfl)) rfl
theorem yd_X1_hostsOn : ev_Yd yX1_hostsOn RX1 0 := ⟨rfl, by decide +kernel, by decide +kernel, by decide +kernel⟩
theorem lm_X1_hostsOn : Cond.code yX1_hostsOn cX1_hostsOn 3 (some .int) ∈ ev_good := ev_in (ev_t6 _ (List.mem_of_getElem? (i := 138) rfl)) rfl
theorem li_X1_hostsOn : Cond.instanceMethod yX1_hostsOn ∈ ev_good := ev_in (ev_t6 _ (List.mem_of_getElem? (i := 136) rfl)) rfl
theorem le_X1_hostsOn : Cond.selects RX1 yX1_hostsOn yX1_hostsOn ∈ ev_good := ev_in (ev_t6 _ (List.mem_of_getElem? (i := 137) rfl)) rfl
theorem yd_X1_init : ev_Yd yX1_init RX1 0 := ⟨rfl, by decide +kernel, by decide +kernel, by decide +kernel⟩
theorem lm_X1_init : Cond.code yX1_init cX1_init 3 none ∈ ev_good := ev_in (ev_t1 _ (List.mem_of_getElem? (i := 52) rfl)) rfl
theorem li_X1_init : Cond.instanceMethod yX1_init ∈ ev_good := ev_in (ev_t1 _ (List.mem_of_getElem? (i := 51) rfl)) rfl
theorem yd_X1_isBrowsing : ev_Yd yX1_isBrowsing RX1 2 := ⟨rfl, by decide +kernel, by decide +kernel, by decide +kernel⟩
theorem lm_X1_isBrowsing : Cond.code yX1_isBrowsing cX1_isBrowsing 3 (some .boolean) ∈ ev_good := ev_in (ev_t2 _ (List.mem_of_getElem? (i := 207) rfl)) rfl
theorem li_X1_isBrowsing : Cond.instanceMethod yX1_isBrowsing ∈ ev_good := ev_in (ev_t2 _ (List.mem_of_getElem? (i := 205) rfl)) rfl
theorem le_X1_isBrowsing : Cond.selects RX1 yX1_isBrowsing yX1_isBrowsing ∈ ev_good := ev_in (ev_t2 _ (List.mem_of_getElem? (i := 206) rfl)) rfl
theorem yd_X1_isCalm : ev_Yd yX1_isCalm RX1 1 := ⟨rfl, by decide +kernel, by decide +kernel, by decide +kernel⟩
theorem lm_X1_isCalm : Cond.code yX1_isCalm cX1_isCalm 5 (some .boolean) ∈ ev_good := ev_in (ev_t5 _ (List.mem_of_getElem? (i := 69) rfl)) rfl
theorem li_X1_isCalm : Cond.instanceMethod yX1_isCalm ∈ ev_good := ev_in (ev_t5 _ (List.mem_of_getElem? (i := 68) rfl)) rfl
theorem le_X1_isCalm : Cond.selects RX1 yX1_isCalm yX1_isCalm ∈ ev_good := ev_in (ev_t0 _ (List.mem_of_getElem? (i := 33) rfl)) rfl
theorem yd_X1_isCalmMessage : ev_Yd yX1_isCalmMessage RX1 1 := ⟨rfl, by decide +kernel, by decide +kernel, by decide +kernel⟩
theorem lm_X1_isCalmMessage : Cond.code yX1_isCalmMessage cX1_isCalmMessage 6 (some .boolean) ∈ ev_good := ev_in (ev_t5 _ (List.mem_of_getElem? (i := 77) rfl)) rfl
theorem li_X1_isCalmMessage : Cond.instanceMethod yX1_isCalmMessage ∈ ev_good := ev_in (ev_t5 _ (List.mem_of_getElem? (i := 76) rfl)) rfl
theorem le_X1_isCalmMessage : Cond.selects RX1 yX1_isCalmMessage yX1_isCalmMessage ∈ ev_good := ev_in (ev_t0 _ (List.mem_of_getElem? (i := 35) rfl)) rfl
theorem yd_X1_isClash : ev_Yd yX1_isClash RX1 2 := ⟨rfl, by decide +kernel, by decide +kernel, by decide +kernel⟩
theorem lm_X1_isClash : Cond.code yX1_isClash cX1_isClash 5 (some .boolean) ∈ ev_good := ev_in (ev_t3 _ (List.mem_of_getElem? (i := 67) rfl)) rfl
theorem li_X1_isClash : Cond.instanceMethod yX1_isClash ∈ ev_good := ev_in (ev_t3 _ (List.mem_of_getElem? (i := 66) rfl)) rfl
theorem le_X1_isClash : Cond.selects RX1 yX1_isClash yX1_isClash ∈ ev_good := ev_in (ev_t0 _ (List.mem_of_getElem? (i := 20) rfl)) rfl
theorem yd_X1_isKnownAnswer : ev_Yd yX1_isKnownAnswer RX1 2 := ⟨rfl, by decide +kernel, by decide +kernel, by decide +kernel⟩
theorem lm_X1_isKnownAnswer : Cond.code yX1_isKnownAnswer cX1_isKnownAnswer 7 (some .boolean) ∈ ev_good := ev_in (ev_t5 _ (List.mem_of_getElem? (i := 221) rfl)) rfl
theorem li_X1_isKnownAnswer : Cond.instanceMethod yX1_isKnownAnswer ∈ ev_good := ev_in (ev_t5 _ (List.mem_of_getElem? (i := 220) rfl)) rfl
theorem le_X1_isKnownAnswer : Cond.selects RX1 yX1_isKnownAnswer yX1_isKnownAnswer ∈ ev_good := ev_in (ev_t0 _ (List.mem_of_getElem? (i := 55) rfl)) rfl
theorem yd_X1_isOn : ev_Yd yX1_isOn RX1 1 := ⟨rfl, by decide +kernel, by decide +kernel, by decide +kernel⟩
theorem lm_X1_isOn : Cond.code yX1_isOn cX1_isOn 2 (some .boolean) ∈ ev_good := ev_in (ev_t2 _ (List.mem_of_getElem? (i := 190) rfl)) rfl
theorem li_X1_isOn : Cond.instanceMethod yX1_isOn ∈ ev_good := ev_in (ev_t2 _ (List.mem_of_getElem? (i := 188) rfl)) rfl
theorem le_X1_isOn : Cond.selects RX1 yX1_isOn yX1_isOn ∈ ev_good := ev_in (ev_t2 _ (List.mem_of_getElem? (i := 189) rfl)) rfl
theorem yd_X1_isOnSameSide : ev_Yd yX1_isOnSameSide RX1 2 := ⟨rfl, by decide +kernel, by decide +kernel, by decide +kernel⟩
theorem lm_X1_isOnSameSide : Cond.code yX1_isOnSameSide cX1_isOnSameSide 3 (some .boolean) ∈ ev_good := ev_in (ev_t3 _ (List.mem_of_getElem? (i := 71) rfl)) rfl
theorem li_X1_isOnSameSide : Cond.instanceMethod yX1_isOnSameSide ∈ ev_good := ev_in (ev_t3 _ (List.mem_of_getElem? (i := 69) rfl)) rfl
theorem le_X1_isOnSameSide : Cond.selects RX1 yX1_isOnSameSide yX1_isOnSameSide ∈ ev_good := ev_in (ev_t3 _ (List.mem_of_getElem? (i := 70) rfl)) rfl
theorem yd_X1_isPairToKnow : ev_Yd yX1_isPairToKnow RX1 2 := ⟨rfl, by decide +kernel, by decide +kernel, by decide +kernel⟩
theorem lm_X1_isPairToKnow : Cond.code yX1_isPairToKnow cX1_isPairToKnow 4 (some .boolean) ∈ ev_good := ev_in (ev_t3 _ (List.mem_of_getElem? (i := 83) rfl)) rfl
theorem li_X1_isPairToKnow : Cond.instanceMethod yX1_isPairToKnow ∈ ev_good := ev_in (ev_t3 _ (List.mem_of_getElem? (i := 82) rfl)) rfl
theorem le_X1_isPairToKnow : Cond.selects RX1 yX1_isPairToKnow yX1_isPairToKnow ∈ ev_good := ev_in (ev_t0 _ (List.mem_of_getElem? (i := 21) rfl)) rfl
theorem yd_X1_isTaken : ev_Yd yX1_isTaken RX1 3 := ⟨rfl, by decide +kernel, by decide +kernel, by decide +kernel⟩
theorem lm_X1_isTaken : Cond.code yX1_isTaken cX1_isTaken 6 (some .boolean) ∈ ev_good := ev_in (ev_t2 _ (List.mem_of_getElem? (i := 172) rfl)) rfl
theorem li_X1_isTaken : Cond.instanceMethod yX1_isTaken ∈ ev_good := ev_in (ev_t2 _ (List.mem_of_getElem? (i := 170) rfl)) rfl
theorem le_X1_isTaken : Cond.selects RX1 yX1_isTaken yX1_isTaken ∈ ev_good := ev_in (ev_t2 _ (List.mem_of_getElem? (i := 171) rfl)) rfl
theorem yd_X1_keepLatest : ev_Yd yX1_keepLatest RX1 1 := ⟨rfl, by decide +kernel, by decide +kernel, by decide +kernel⟩
theorem lm_X1_keepLatest : Cond.code yX1_keepLatest cX1_keepLatest 6 none ∈ ev_good := ev_in (ev_t5 _ (List.mem_of_getElem? (i := 159) rfl)) rfl
theorem li_X1_keepLatest : Cond.instanceMethod yX1_keepLatest ∈ ev_good := ev_in (ev_t5 _ (List.mem_of_getElem? (i := 158) rfl)) rfl
theorem le_X1_keepLatest : Cond.selects RX1 yX1_keepLatest yX1_keepLatest ∈ ev_good := ev_in (ev_t0 _ (List.mem_of_getElem? (i := 43) rfl)) rfl
theorem yd_X1_keepRecord : ev_Yd yX1_keepRecord RX1 2 := ⟨rfl, by decide +kernel, by decide +kernel, by decide +kernel⟩
theorem lm_X1_keepRecord : Cond.code yX1_keepRecord cX1_keepRecord 5 none ∈ ev_good := ev_in (ev_t5 _ (List.mem_of_getElem? (i := 163) rfl)) rfl
theorem li_X1_keepRecord : Cond.instanceMethod yX1_keepRecord ∈ ev_good := ev_in (ev_t5 _ (List.mem_of_getElem? (i := 162) rfl)) rfl
theorem le_X1_keepRecord : Cond.selects RX1 yX1_keepRecord yX1_keepRecord ∈ ev_good := ev_in (ev_t0 _ (List.mem_of_getElem? (i := 44) rfl)) rfl
theorem yd_X1_messagesCome : ev_Yd yX1_messagesCome RX1 0 := ⟨rfl, by decide +kernel, by decide +kernel, by decide +kernel⟩
theorem lm_X1_messagesCome : Cond.code yX1_messagesCome cX1_messagesCome 7 none ∈ ev_good := ev_in (ev_t5 _ (List.mem_of_getElem? (i := 52) rfl)) rfl
theorem li_X1_messagesCome : Cond.instanceMethod yX1_messagesCome ∈ ev_good := ev_in (ev_t5 _ (List.mem_of_getElem? (i := 51) rfl)) rfl
theorem le_X1_messagesCome : Cond.selects RX1 yX1_messagesCome yX1_messagesCome ∈ ev_good := ev_in (ev_t0 _ (List.mem_of_getElem? (i := 30) rfl)) rfl
theorem yd_X1_messagesUnderWay : ev_Yd yX1_messagesUnderWay RX1 0 := ⟨rfl, by decide +kernel, by decide +kernel, by decide +kernel⟩
theorem lm_X1_messagesUnderWay : Cond.code yX1_messagesUnderWay cX1_messagesUnderWay 1 (some .int) ∈ ev_good := ev_in (ev_t4 _ (List.mem_of_getElem? (i := 73) rfl)) rfl
theorem li_X1_messagesUnderWay : Cond.instanceMethod yX1_messagesUnderWay ∈ ev_good := ev_in (ev_t4 _ (List.mem_of_getElem? (i := 71) rfl)) rfl
theorem le_X1_messagesUnderWay : Cond.selects RX1 yX1_messagesUnderWay yX1_messagesUnderWay ∈ ev_good := ev_in (ev_t4 _ (List.mem_of_getElem? (i := 72) rfl)) rfl
theorem yd_X1_noteEvent : ev_Yd yX1_noteEvent RX1 3 := ⟨rfl, by decide +kernel, by decide +kernel, by decide +kernel⟩
theorem lm_X1_noteEvent : Cond.code yX1_noteEvent cX1_noteEvent 5 none ∈ ev_good := ev_in (ev_t5 _ (List.mem_of_getElem? (i := 197) rfl)) rfl
theorem li_X1_noteEvent : Cond.instanceMethod yX1_noteEvent ∈ ev_good := ev_in (ev_t5 _ (List.mem_of_getElem? (i := 196) rfl)) rfl
theorem le_X1_noteEvent : Cond.selects RX1 yX1_noteEvent yX1_noteEvent ∈ ev_good := ev_in (ev_t0 _ (List.mem_of_getElem? (i := 49) rfl)) rfl
theorem yd_X1_openPart : ev_Yd yX1_openPart RX1 1 := ⟨rfl, by decide +kernel, by decide +kernel, by decide +kernel⟩
theorem lm_X1_openPart : Cond.code yX1_openPart cX1_openPart 2 none ∈ ev_good := ev_in (ev_t5 _ (List.mem_of_getElem? (i := 56) rfl)) rfl
theorem li_X1_openPart : Cond.instanceMethod yX1_openPart ∈ ev_good := ev_in (ev_t5 _ (List.mem_of_getElem? (i := 55) rfl)) rfl
theorem le_X1_openPart : Cond.selects RX1 yX1_openPart yX1_openPart ∈ ev_good := ev_in (ev_t0 _ (List.mem_of_getElem? (i := 31) rfl)) rfl
theorem yd_X1_openPieces : ev_Yd yX1_openPieces RX1 1 := ⟨rfl, by decide +kernel, by decide +kernel, by decide +kernel⟩
theorem lm_X1_openPieces : Cond.code yX1_openPieces cX1_openPieces 4 none ∈ ev_good := ev_in (ev_t5 _ (List.mem_of_getElem? (i := 176) rfl)) rfl
theorem li_X1_openPieces : Cond.instanceMethod yX1_openPieces ∈ ev_good := ev_in (ev_t5 _ (List.mem_of_getElem? (i := 175) rfl)) rfl
theorem le_X1_openPieces : Cond.selects RX1 yX1_openPieces yX1_openPieces ∈ ev_good := ev_in (ev_t0 _ (List.mem_of_getElem? (i := 45) rfl)) rfl
theorem yd_X1_pairsToKnow : ev_Yd yX1_pairsToKnow RX1 1 := ⟨rfl, by decide +kernel, by decide +kernel, by decide +kernel⟩
theorem lm_X1_pairsToKnow : Cond.code yX1_pairsToKnow cX1_pairsToKnow 6 (some .int) ∈ ev_good := ev_in (ev_t3 _ (List.mem_of_getElem? (i := 79) rfl)) rfl
theorem li_X1_pairsToKnow : Cond.instanceMethod yX1_pairsToKnow ∈ ev_good := ev_in (ev_t3 _ (List.mem_of_getElem? (i := 77) rfl)) rfl
theorem le_X1_pairsToKnow : Cond.selects RX1 yX1_pairsToKnow yX1_pairsToKnow ∈ ev_good := ev_in (ev_t3 _ (List.mem_of_getElem? (i := 78) rfl)) rfl
theorem yd_X1_portKnown : ev_Yd yX1_portKnown RX1 2 := ⟨rfl, by decide +kernel, by decide +kernel, by decide +kernel⟩
theorem lm_X1_portKnown : Cond.code yX1_portKnown cX1_portKnown 6 (some .int) ∈ ev_good := ev_in (ev_t3 _ (List.mem_of_getElem? (i := 87) rfl)) rfl
theorem li_X1_portKnown : Cond.instanceMethod yX1_portKnown ∈ ev_good := ev_in (ev_t3 _ (List.mem_of_getElem? (i := 85) rfl)) rfl
theorem le_X1_portKnown : Cond.selects RX1 yX1_portKnown yX1_portKnown ∈ ev_good := ev_in (ev_t3 _ (List.mem_of_getElem? (i := 86) rfl)) rfl
theorem yd_X1_probeComes : ev_Yd yX1_probeComes RX1 2 := ⟨rfl, by decide +kernel, by decide +kernel, by decide +kernel⟩
theorem lm_X1_probeComes : Cond.code yX1_probeComes cX1_probeComes 5 none ∈ ev_good := ev_in (ev_t5 _ (List.mem_of_getElem? (i := 180) rfl)) rfl
theorem li_X1_probeComes : Cond.instanceMethod yX1_probeComes ∈ ev_good := ev_in (ev_t5 _ (List.mem_of_getElem? (i := 179) rfl)) rfl
theorem le_X1_probeComes : Cond.selects RX1 yX1_probeComes yX1_probeComes ∈ ev_good := ev_in (ev_t0 _ (List.mem_of_getElem? (i := 46) rfl)) rfl
theorem yd_X1_queryComes : ev_Yd yX1_queryComes RX1 2 := ⟨rfl, by decide +kernel, by decide +kernel, by decide +kernel⟩
theorem lm_X1_queryComes : Cond.code yX1_queryComes cX1_queryComes 6 none ∈ ev_good := ev_in (ev_t5 _ (List.mem_of_getElem? (i := 217) rfl)) rfl
theorem li_X1_queryComes : Cond.instanceMethod yX1_queryComes ∈ ev_good := ev_in (ev_t5 _ (List.mem_of_getElem? (i := 216) rfl)) rfl
theorem le_X1_queryComes : Cond.selects RX1 yX1_queryComes yX1_queryComes ∈ ev_good := ev_in (ev_t0 _ (List.mem_of_getElem? (i := 54) rfl)) rfl
theorem yd_X1_reasonOf : ev_Yd yX1_reasonOf RX1 1 := ⟨rfl, by decide +kernel, by decide +kernel, by decide +kernel⟩
theorem lm_X1_reasonOf : Cond.code yX1_reasonOf cX1_reasonOf 3 (some .int) ∈ ev_good := ev_in (ev_t5 _ (List.mem_of_getElem? (i := 33) rfl)) rfl
theorem li_X1_reasonOf : Cond.instanceMethod yX1_reasonOf ∈ ev_good := ev_in (ev_t5 _ (List.mem_of_getElem? (i := 31) rfl)) rfl
theorem le_X1_reasonOf : Cond.selects RX1 yX1_reasonOf yX1_reasonOf ∈ ev_good := ev_in (ev_t5 _ (List.mem_of_getElem? (i := 32) rfl)) rfl
theorem yd_X1_recordsExpire : ev_Yd yX1_recordsExpire RX1 0 := ⟨rfl, by decide +kernel, by decide +kernel, by decide +kernel⟩
theorem lm_X1_recordsExpire : Cond.code yX1_recordsExpire cX1_recordsExpire 5 none ∈ ev_good := ev_in (ev_t5 _ (List.mem_of_getElem? (i := 225) rfl)) rfl
theorem li_X1_recordsExpire : Cond.instanceMethod yX1_recordsExpire ∈ ev_good := ev_in (ev_t5 _ (List.mem_of_getElem? (i := 224) rfl)) rfl
theorem le_X1_recordsExpire : Cond.selects RX1 yX1_recordsExpire yX1_recordsExpire ∈ ev_good := ev_in (ev_t0 _ (List.mem_of_getElem? (i := 56) rfl)) rfl
theorem yd_X1_recordsOf : ev_Yd yX1_recordsOf RX1 2 := ⟨rfl, by decide +kernel, by decide +kernel, by decide +kernel⟩
theorem lm_X1_recordsOf : Cond.code yX1_recordsOf cX1_recordsOf 6 (some .int) ∈ ev_good := ev_in (ev_t5 _ (List.mem_of_getElem? (i := 21) rfl)) rfl
theorem li_X1_recordsOf : Cond.instanceMethod yX1_recordsOf ∈ ev_good := ev_in (ev_t5 _ (List.mem_of_getElem? (i := 19) rfl)) rfl
theorem le_X1_recordsOf : Cond.selects RX1 yX1_recordsOf yX1_recordsOf ∈ ev_good := ev_in (ev_t5 _ (List.mem_of_getElem? (i := 20) rfl)) rfl
theorem yd_X1_renameService : ev_Yd yX1_renameService RX1 1 := ⟨rfl, by decide +kernel, by decide +kernel, by decide +kernel⟩
theorem lm_X1_renameService : Cond.code yX1_renameService cX1_renameService 5 none ∈ ev_good := ev_in (ev_t5 _ (List.mem_of_getElem? (i := 209) rfl)) rfl
theorem li_X1_renameService : Cond.instanceMethod yX1_renameService ∈ ev_good := ev_in (ev_t5 _ (List.mem_of_getElem? (i := 208) rfl)) rfl
theorem le_X1_renameService : Cond.selects RX1 yX1_renameService yX1_renameService ∈ ev_good := ev_in (ev_t0 _ (List.mem_of_getElem? (i := 52) rfl)) rfl
theorem yd_X1_replyToMessage : ev_Yd yX1_replyToMessage RX1 1 := ⟨rfl, by decide +kernel, by decide +kernel, by decide +kernel⟩
theorem lm_X1_replyToMessage : Cond.code yX1_replyToMessage cX1_replyToMessage 6 none ∈ ev_good := ev_in (ev_t5 _ (List.mem_of_getElem? (i := 109) rfl)) rfl
theorem li_X1_replyToMessage : Cond.instanceMethod yX1_replyToMessage ∈ ev_good := ev_in (ev_t5 _ (List.mem_of_getElem? (i := 108) rfl)) rfl
theorem le_X1_replyToMessage : Cond.selects RX1 yX1_replyToMessage yX1_replyToMessage ∈ ev_good := ev_in (ev_t0 _ (List.mem_of_getElem? (i := 39) rfl)) rfl
theorem yd_X1_reset : ev_Yd yX1_reset RX1 0 := ⟨rfl, by decide +kernel, by decide +kernel, by decide +kernel⟩
theorem lm_X1_reset : Cond.code yX1_reset cX1_reset 2 none ∈ ev_good := ev_in (ev_t1 _ (List.mem_of_getElem? (i := 107) rfl)) rfl
theorem li_X1_reset : Cond.instanceMethod yX1_reset ∈ ev_good := ev_in (ev_t1 _ (List.mem_of_getElem? (i := 105) rfl)) rfl
theorem le_X1_reset : Cond.selects RX1 yX1_reset yX1_reset ∈ ev_good := ev_in (ev_t1 _ (List.mem_of_getElem? (i := 106) rfl)) rfl
theorem yd_X1_responseComes : ev_Yd yX1_responseComes RX1 2 := ⟨rfl, by decide +kernel, by decide +kernel, by decide +kernel⟩
theorem lm_X1_responseComes : Cond.code yX1_responseComes cX1_responseComes 5 none ∈ ev_good := ev_in (ev_t5 _ (List.mem_of_getElem? (i := 201) rfl)) rfl
theorem li_X1_responseComes : Cond.instanceMethod yX1_responseComes ∈ ev_good := ev_in (ev_t5 _ (List.mem_of_getElem? (i := 200) rfl)) rfl
theorem le_X1_responseComes : Cond.selects RX1 yX1_responseComes yX1_responseComes ∈ ev_good := ev_in (ev_t0 _ (List.mem_of_getElem? (i := 50) rfl)) rfl
theorem yd_X1_sendFor : ev_Yd yX1_sendFor RX1 2 := ⟨rfl, by decide +kernel, by decide +kernel, by decide +kernel⟩
theorem lm_X1_sendFor : Cond.code yX1_sendFor cX1_sendFor 6 none ∈ ev_good := ev_in (ev_t5 _ (List.mem_of_getElem? (i := 184) rfl)) rfl
theorem li_X1_sendFor : Cond.instanceMethod yX1_sendFor ∈ ev_good := ev_in (ev_t5 _ (List.mem_of_getElem? (i := 183) rfl)) rfl
theorem le_X1_sendFor : Cond.selects RX1 yX1_sendFor yX1_sendFor ∈ ev_good := ev_in (ev_t0 _ (List.mem_of_getElem? (i := 47) rfl)) rfl
theorem yd_X1_sendQuery : ev_Yd yX1_sendQuery RX1 2 := ⟨rfl, by decide +kernel, by decide +kernel, by decide +kernel⟩
theorem lm_X1_sendQuery : Cond.code yX1_sendQuery cX1_sendQuery 8 none ∈ ev_good := ev_in (ev_t6 _ (List.mem_of_getElem? (i := 9) rfl)) rfl
theorem li_X1_sendQuery : Cond.instanceMethod yX1_sendQuery ∈ ev_good := ev_in (ev_t6 _ (List.mem_of_getElem? (i := 8) rfl)) rfl
theorem le_X1_sendQuery : Cond.selects RX1 yX1_sendQuery yX1_sendQuery ∈ ev_good := ev_in (ev_t0 _ (List.mem_of_getElem? (i := 62) rfl)) rfl
theorem yd_X1_sendReply : ev_Yd yX1_sendReply RX1 1 := ⟨rfl, by decide +kernel, by decide +kernel, by decide +kernel⟩
theorem lm_X1_sendReply : Cond.code yX1_sendReply cX1_sendReply 4 none ∈ ev_good := ev_in (ev_t5 _ (List.mem_of_getElem? (i := 150) rfl)) rfl
theorem li_X1_sendReply : Cond.instanceMethod yX1_sendReply ∈ ev_good := ev_in (ev_t5 _ (List.mem_of_getElem? (i := 149) rfl)) rfl
theorem le_X1_sendReply : Cond.selects RX1 yX1_sendReply yX1_sendReply ∈ ev_good := ev_in (ev_t0 _ (List.mem_of_getElem? (i := 42) rfl)) rfl
theorem yd_X1_servicesAct : ev_Yd yX1_servicesAct RX1 0 := ⟨rfl, by decide +kernel, by decide +kernel, by decide +kernel⟩
theorem lm_X1_servicesAct : Cond.code yX1_servicesAct cX1_servicesAct 5 none ∈ ev_good := ev_in (ev_t5 _ (List.mem_of_getElem? (i := 229) rfl)) rfl
theorem li_X1_servicesAct : Cond.instanceMethod yX1_servicesAct ∈ ev_good := ev_in (ev_t5 _ (List.mem_of_getElem? (i := 228) rfl)) rfl
theorem le_X1_servicesAct : Cond.selects RX1 yX1_servicesAct yX1_servicesAct ∈ ev_good := ev_in (ev_t0 _ (List.mem_of_getElem? (i := 57) rfl)) rfl
theorem yd_X1_servicesOf : ev_Yd yX1_servicesOf RX1 1 := ⟨rfl, by decide +kernel, by decide +kernel, by decide +kernel⟩
theorem lm_X1_servicesOf : Cond.code yX1_servicesOf cX1_servicesOf 5 (some .int) ∈ ev_good := ev_in (ev_t4 _ (List.mem_of_getElem? (i := 127) rfl)) rfl
theorem li_X1_servicesOf : Cond.instanceMethod yX1_servicesOf ∈ ev_good := ev_in (ev_t4 _ (List.mem_of_getElem? (i := 125) rfl)) rfl
theorem le_X1_servicesOf : Cond.selects RX1 yX1_servicesOf yX1_servicesOf ∈ ev_good := ev_in (ev_t4 _ (List.mem_of_getElem? (i := 126) rfl)) rfl
theorem yd_X1_staleRecords : ev_Yd yX1_staleRecords RX1 0 := ⟨rfl, by decide +kernel, by decide +kernel, by decide +kernel⟩
theorem lm_X1_staleRecords : Cond.code yX1_staleRecords cX1_staleRecords 5 (some .int) ∈ ev_good := ev_in (ev_t3 _ (List.mem_of_getElem? (i := 36) rfl)) rfl
theorem li_X1_staleRecords : Cond.instanceMethod yX1_staleRecords ∈ ev_good := ev_in (ev_t3 _ (List.mem_of_getElem? (i := 34) rfl)) rfl
theorem le_X1_staleRecords : Cond.selects RX1 yX1_staleRecords yX1_staleRecords ∈ ev_good := ev_in (ev_t3 _ (List.mem_of_getElem? (i := 35) rfl)) rfl
theorem yd_X1_switchOff : ev_Yd yX1_switchOff RX1 2 := ⟨rfl, by decide +kernel, by decide +kernel, by decide +kernel⟩
theorem lm_X1_switchOff : Cond.code yX1_switchOff cX1_switchOff 4 none ∈ ev_good := ev_in (ev_t6 _ (List.mem_of_getElem? (i := 130) rfl)) rfl
theorem li_X1_switchOff : Cond.instanceMethod yX1_switchOff ∈ ev_good := ev_in (ev_t6 _ (List.mem_of_getElem? (i := 128) rfl)) rfl
theorem le_X1_switchOff : Cond.selects RX1 yX1_switchOff yX1_switchOff ∈ ev_good := ev_in (ev_t6 _ (List.mem_of_getElem? (i := 129) rfl)) rfl
theorem yd_X1_takeOpenPart : ev_Yd yX1_takeOpenPart RX1 0 := ⟨rfl, by decide +kernel, by decide +kernel, by decide +kernel⟩
theorem lm_X1_takeOpenPart : Cond.code yX1_takeOpenPart cX1_takeOpenPart 2 (some .int) ∈ ev_good := ev_in (ev_t5 _ (List.mem_of_getElem? (i := 61) rfl)) rfl
theorem li_X1_takeOpenPart : Cond.instanceMethod yX1_takeOpenPart ∈ ev_good := ev_in (ev_t5 _ (List.mem_of_getElem? (i := 60) rfl)) rfl
theorem le_X1_takeOpenPart : Cond.selects RX1 yX1_takeOpenPart yX1_takeOpenPart ∈ ev_good := ev_in (ev_t0 _ (List.mem_of_getElem? (i := 32) rfl)) rfl
theorem yd_X1_tick : ev_Yd yX1_tick RX1 0 := ⟨rfl, by decide +kernel, by decide +kernel, by decide +kernel⟩
theorem lm_X1_tick : Cond.code yX1_tick cX1_tick 2 none ∈ ev_good := ev_in (ev_t5 _ (List.mem_of_getElem? (i := 48) rfl)) rfl
theorem li_X1_tick : Cond.instanceMethod yX1_tick ∈ ev_good := ev_in (ev_t5 _ (List.mem_of_getElem? (i := 46) rfl)) rfl
theorem le_X1_tick : Cond.selects RX1 yX1_tick yX1_tick ∈ ev_good := ev_in (ev_t5 _ (List.mem_of_getElem? (i := 47) rfl)) rfl
theorem yd_X1_withdrawService : ev_Yd yX1_withdrawService RX1 1 := ⟨rfl, by decide +kernel, by decide +kernel, by decide +kernel⟩
theorem lm_X1_withdrawService : Cond.code yX1_withdrawService cX1_withdrawService 2 none ∈ ev_good := ev_in (ev_t6 _ (List.mem_of_getElem? (i := 104) rfl)) rfl
theorem li_X1_withdrawService : Cond.instanceMethod yX1_withdrawService ∈ ev_good := ev_in (ev_t6 _ (List.mem_of_getElem? (i := 102) rfl)) rfl
theorem le_X1_withdrawService : Cond.selects RX1 yX1_withdrawService yX1_withdrawService ∈ ev_good := ev_in (ev_t6 _ (List.mem_of_getElem? (i := 103) rfl)) rfl
theorem yd_X2_addItem : ev_Yd yX2_addItem RX2 2 := ⟨rfl, by decide +kernel, by decide +kernel, by decide +kernel⟩
theorem lm_X2_addItem : Cond.code yX2_addItem cX2_addItem 4 none ∈ ev_good := ev_in (ev_t5 _ (List.mem_of_getElem? (i := 154) rfl)) rfl
theorem li_X2_addItem : Cond.instanceMethod yX2_addItem ∈ ev_good := ev_in (ev_t5 _ (List.mem_of_getElem? (i := 152) rfl)) rfl
theorem le_X2_addItem : Cond.selects RX2 yX2_addItem yX2_addItem ∈ ev_good := ev_in (ev_t5 _ (List.mem_of_getElem? (i := 153) rfl)) rfl
theorem yd_X2_addMessage : ev_Yd yX2_addMessage RX2 2 := ⟨rfl, by decide +kernel, by decide +kernel, by decide +kernel⟩
theorem lm_X2_addMessage : Cond.code yX2_addMessage cX2_addMessage 5 (some .int) ∈ ev_good := ev_in (ev_t5 _ (List.mem_of_getElem? (i := 119) rfl)) rfl
theorem li_X2_addMessage : Cond.instanceMethod yX2_addMessage ∈ ev_good := ev_in (ev_t5 _ (List.mem_of_getElem? (i := 117) rfl)) rfl
theorem le_X2_addMessage : Cond.selects RX2 yX2_addMessage yX2_addMessage ∈ ev_good := ev_in (ev_t5 _ (List.mem_of_getElem? (i := 118) rfl)) rfl
theorem yd_X2_clear : ev_Yd yX2_clear RX2 0 := ⟨rfl, by decide +kernel, by decide +kernel, by decide +kernel⟩
theorem lm_X2_clear : Cond.code yX2_clear cX2_clear 1 none ∈ ev_good := ev_in (ev_t1 _ (List.mem_of_getElem? (i := 119) rfl)) rfl
theorem li_X2_clear : Cond.instanceMethod yX2_clear ∈ ev_good := ev_in (ev_t1 _ (List.mem_of_getElem? (i := 117) rfl)) rfl
theorem le_X2_clear : Cond.selects RX2 yX2_clear yX2_clear ∈ ev_good := ev_in (ev_t1 _ (List.mem_of_getElem? (i := 118) rfl)) rfl
theorem yd_X2_copyFrom : ev_Yd yX2_copyFrom RX2 1 := ⟨rfl, by decide +kernel, by decide +kernel, by decide +kernel⟩
theorem lm_X2_copyFrom : Cond.code yX2_copyFrom cX2_copyFrom 2 none ∈ ev_good := ev_in (ev_t4 _ (List.mem_of_getElem? (i := 21) rfl)) rfl
theorem li_X2_copyFrom : Cond.instanceMethod yX2_copyFrom ∈ ev_good := ev_in (ev_t4 _ (List.mem_of_getElem? (i := 19) rfl)) rfl
theorem le_X2_copyFrom : Cond.selects RX2 yX2_copyFrom yX2_copyFrom ∈ ev_good := ev_in (ev_t4 _ (List.mem_of_getElem? (i := 20) rfl)) rfl
theorem yd_X2_endRun : ev_Yd yX2_endRun RX2 0 := ⟨rfl, by decide +kernel, by decide +kernel, by decide +kernel⟩
theorem lm_X2_endRun : Cond.code yX2_endRun cX2_endRun 5 (some .int) ∈ ev_good := ev_in (ev_t5 _ (List.mem_of_getElem? (i := 128) rfl)) rfl
theorem li_X2_endRun : Cond.instanceMethod yX2_endRun ∈ ev_good := ev_in (ev_t5 _ (List.mem_of_getElem? (i := 126) rfl)) rfl
theorem le_X2_endRun : Cond.selects RX2 yX2_endRun yX2_endRun ∈ ev_good := ev_in (ev_t5 _ (List.mem_of_getElem? (i := 127) rfl)) rfl
theorem yd_X2_init : ev_Yd yX2_init RX2 0 := ⟨rfl, by decide +kernel, by decide +kernel, by decide +kernel⟩
theorem lm_X2_init : Cond.code yX2_init cX2_init 1 none ∈ ev_good := ev_in (ev_t1 _ (List.mem_of_getElem? (i := 80) rfl)) rfl
theorem li_X2_init : Cond.instanceMethod yX2_init ∈ ev_good := ev_in (ev_t1 _ (List.mem_of_getElem? (i := 79) rfl)) rfl
theorem yd_X2_isRun : ev_Yd yX2_isRun RX2 1 := ⟨rfl, by decide +kernel, by decide +kernel, by decide +kernel⟩
theorem lm_X2_isRun : Cond.code yX2_isRun cX2_isRun 2 (some .boolean) ∈ ev_good := ev_in (ev_t4 _ (List.mem_of_getElem? (i := 219) rfl)) rfl
theorem li_X2_isRun : Cond.instanceMethod yX2_isRun ∈ ev_good := ev_in (ev_t4 _ (List.mem_of_getElem? (i := 217) rfl)) rfl
theorem le_X2_isRun : Cond.selects RX2 yX2_isRun yX2_isRun ∈ ev_good := ev_in (ev_t4 _ (List.mem_of_getElem? (i := 218) rfl)) rfl
theorem yd_X2_isToReply : ev_Yd yX2_isToReply RX2 2 := ⟨rfl, by decide +kernel, by decide +kernel, by decide +kernel⟩
theorem lm_X2_isToReply : Cond.code yX2_isToReply cX2_isToReply 3 (some .boolean) ∈ ev_good := ev_in (ev_t5 _ (List.mem_of_getElem? (i := 94) rfl)) rfl
theorem li_X2_isToReply : Cond.instanceMethod yX2_isToReply ∈ ev_good := ev_in (ev_t5 _ (List.mem_of_getElem? (i := 92) rfl)) rfl
theorem le_X2_isToReply : Cond.selects RX2 yX2_isToReply yX2_isToReply ∈ ev_good := ev_in (ev_t5 _ (List.mem_of_getElem? (i := 93) rfl)) rfl
theorem yd_X2_length : ev_Yd yX2_length RX2 0 := ⟨rfl, by decide +kernel, by decide +kernel, by decide +kernel⟩
theorem lm_X2_length : Cond.code yX2_length cX2_length 1 (some .int) ∈ ev_good := ev_in (ev_t4 _ (List.mem_of_getElem? (i := 77) rfl)) rfl
theorem li_X2_length : Cond.instanceMethod yX2_length ∈ ev_good := ev_in (ev_t4 _ (List.mem_of_getElem? (i := 75) rfl)) rfl
theorem le_X2_length : Cond.selects RX2 yX2_length yX2_length ∈ ev_good := ev_in (ev_t4 _ (List.mem_of_getElem? (i := 76) rfl)) rfl
theorem yd_X2_lengthBefore : ev_Yd yX2_lengthBefore RX2 3 := ⟨rfl, by decide +kernel, by decide +kernel, by decide +kernel⟩
theorem lm_X2_lengthBefore : Cond.code yX2_lengthBefore cX2_lengthBefore 7 (some .int) ∈ ev_good := ev_in (ev_t4 _ (List.mem_of_getElem? (i := 82) rfl)) rfl
theorem li_X2_lengthBefore : Cond.instanceMethod yX2_lengthBefore ∈ ev_good := ev_in (ev_t4 _ (List.mem_of_getElem? (i := 81) rfl)) rfl
theorem le_X2_lengthBefore : Cond.selects RX2 yX2_lengthBefore yX2_lengthBefore ∈ ev_good := ev_in (ev_t0 _ (List.mem_of_getElem? (i := 23) rfl)) rfl
theorem yd_X2_messageOf : ev_Yd yX2_messageOf RX2 4 := ⟨rfl, by decide +kernel, by decide +kernel, by decide +kernel⟩
theorem lm_X2_messageOf : Cond.code yX2_messageOf cX2_messageOf 7 (some .int) ∈ ev_good := ev_in (ev_t5 _ (List.mem_of_getElem? (i := 113) rfl)) rfl
theorem li_X2_messageOf : Cond.instanceMethod yX2_messageOf ∈ ev_good := ev_in (ev_t5 _ (List.mem_of_getElem? (i := 111) rfl)) rfl
theorem le_X2_messageOf : Cond.selects RX2 yX2_messageOf yX2_messageOf ∈ ev_good := ev_in (ev_t5 _ (List.mem_of_getElem? (i := 112) rfl)) rfl
theorem yd_X2_putReply : ev_Yd yX2_putReply RX2 3 := ⟨rfl, by decide +kernel, by decide +kernel, by decide +kernel⟩
theorem lm_X2_putReply : Cond.code yX2_putReply cX2_putReply 4 none ∈ ev_good := ev_in (ev_t5 _ (List.mem_of_getElem? (i := 146) rfl)) rfl
theorem li_X2_putReply : Cond.instanceMethod yX2_putReply ∈ ev_good := ev_in (ev_t5 _ (List.mem_of_getElem? (i := 144) rfl)) rfl
theorem le_X2_putReply : Cond.selects RX2 yX2_putReply yX2_putReply ∈ ev_good := ev_in (ev_t5 _ (List.mem_of_getElem? (i := 145) rfl)) rfl
theorem yd_X2_wantReply : ev_Yd yX2_wantReply RX2 2 := ⟨rfl, by decide +kernel, by decide +kernel, by decide +kernel⟩
theorem lm_X2_wantReply : Cond.code yX2_wantReply cX2_wantReply 7 none ∈ ev_good := ev_in (ev_t5 _ (List.mem_of_getElem? (i := 89) rfl)) rfl
theorem li_X2_wantReply : Cond.instanceMethod yX2_wantReply ∈ ev_good := ev_in (ev_t5 _ (List.mem_of_getElem? (i := 87) rfl)) rfl
theorem le_X2_wantReply : Cond.selects RX2 yX2_wantReply yX2_wantReply ∈ ev_good := ev_in (ev_t5 _ (List.mem_of_getElem? (i := 88) rfl)) rfl
theorem yd_X3_endOfDigits : ev_Yd yX3_endOfDigits RX3 0 := ⟨rfl, by decide +kernel, by decide +kernel, by decide +kernel⟩
theorem lm_X3_endOfDigits : Cond.code yX3_endOfDigits cX3_endOfDigits 2 (some .int) ∈ ev_good := ev_in (ev_t2 _ (List.mem_of_getElem? (i := 108) rfl)) rfl
theorem li_X3_endOfDigits : Cond.instanceMethod yX3_endOfDigits ∈ ev_good := ev_in (ev_t2 _ (List.mem_of_getElem? (i := 107) rfl)) rfl
theorem le_X3_endOfDigits : Cond.selects RX3 yX3_endOfDigits yX3_endOfDigits ∈ ev_good := ev_in (ev_t0 _ (List.mem_of_getElem? (i := 2) rfl)) rfl
theorem yd_X3_endOfWord : ev_Yd yX3_endOfWord RX3 0 := ⟨rfl, by decide +kernel, by decide +kernel, by decide +kernel⟩
theorem lm_X3_endOfWord : Cond.code yX3_endOfWord cX3_endOfWord 2 (some .int) ∈ ev_good := ev_in (ev_t2 _ (List.mem_of_getElem? (i := 96) rfl)) rfl
theorem li_X3_endOfWord : Cond.instanceMethod yX3_endOfWord ∈ ev_good := ev_in (ev_t2 _ (List.mem_of_getElem? (i := 95) rfl)) rfl
theorem le_X3_endOfWord : Cond.selects RX3 yX3_endOfWord yX3_endOfWord ∈ ev_good := ev_in (ev_t0 _ (List.mem_of_getElem? (i := 1) rfl)) rfl
theorem yd_X3_fail : ev_Yd yX3_fail RX3 1 := ⟨rfl, by decide +kernel, by decide +kernel, by decide +kernel⟩
theorem lm_X3_fail : Cond.code yX3_fail cX3_fail 2 (some .boolean) ∈ ev_good := ev_in (ev_t2 _ (List.mem_of_getElem? (i := 129) rfl)) rfl
theorem li_X3_fail : Cond.instanceMethod yX3_fail ∈ ev_good := ev_in (ev_t2 _ (List.mem_of_getElem? (i := 128) rfl)) rfl
theorem le_X3_fail : Cond.selects RX3 yX3_fail yX3_fail ∈ ev_good := ev_in (ev_t0 _ (List.mem_of_getElem? (i := 6) rfl)) rfl
theorem yd_X3_failAt : ev_Yd yX3_failAt RX3 2 := ⟨rfl, by decide +kernel, by decide +kernel, by decide +kernel⟩
theorem lm_X3_failAt : Cond.code yX3_failAt cX3_failAt 3 (some .boolean) ∈ ev_good := ev_in (ev_t2 _ (List.mem_of_getElem? (i := 133) rfl)) rfl
theorem li_X3_failAt : Cond.instanceMethod yX3_failAt ∈ ev_good := ev_in (ev_t2 _ (List.mem_of_getElem? (i := 132) rfl)) rfl
theorem le_X3_failAt : Cond.selects RX3 yX3_failAt yX3_failAt ∈ ev_good := ev_in (ev_t0 _ (List.mem_of_getElem? (i := 7) rfl)) rfl
theorem yd_X3_init : ev_Yd yX3_init RX3 2 := ⟨rfl, by decide +kernel, by decide +kernel, by decide +kernel⟩
theorem lm_X3_init : Cond.code yX3_init cX3_init 3 none ∈ ev_good := ev_in (ev_t2 _ (List.mem_of_getElem? (i := 40) rfl)) rfl
theorem li_X3_init : Cond.instanceMethod yX3_init ∈ ev_good := ev_in (ev_t2 _ (List.mem_of_getElem? (i := 39) rfl)) rfl
theorem yd_X3_isAtName : ev_Yd yX3_isAtName RX3 0 := ⟨rfl, by decide +kernel, by decide +kernel, by decide +kernel⟩
theorem lm_X3_isAtName : Cond.code yX3_isAtName cX3_isAtName 1 (some .boolean) ∈ ev_good := ev_in (ev_t2 _ (List.mem_of_getElem? (i := 137) rfl)) rfl
theorem li_X3_isAtName : Cond.instanceMethod yX3_isAtName ∈ ev_good := ev_in (ev_t2 _ (List.mem_of_getElem? (i := 136) rfl)) rfl
theorem le_X3_isAtName : Cond.selects RX3 yX3_isAtName yX3_isAtName ∈ ev_good := ev_in (ev_t0 _ (List.mem_of_getElem? (i := 8) rfl)) rfl
theorem yd_X3_isAtWord : ev_Yd yX3_isAtWord RX3 1 := ⟨rfl, by decide +kernel, by decide +kernel, by decide +kernel⟩
theorem lm_X3_isAtWord : Cond.code yX3_isAtWord cX3_isAtWord 2 (some .boolean) ∈ ev_good := ev_in (ev_t2 _ (List.mem_of_getElem? (i := 121) rfl)) rfl
theorem li_X3_isAtWord : Cond.instanceMethod yX3_isAtWord ∈ ev_good := ev_in (ev_t2 _ (List.mem_of_getElem? (i := 120) rfl)) rfl
theorem le_X3_isAtWord : Cond.selects RX3 yX3_isAtWord yX3_isAtWord ∈ ev_good := ev_in (ev_t0 _ (List.mem_of_getElem? (i := 5) rfl)) rfl
theorem yd_X3_isBlank : ev_Yd yX3_isBlank RX3 1 := ⟨rfl, by decide +kernel, by decide +kernel, by decide +kernel⟩
theorem lm_X3_isBlank : Cond.code yX3_isBlank cX3_isBlank 1 (some .boolean) ∈ ev_good := ev_in (ev_t2 _ (List.mem_of_getElem? (i := 89) rfl)) rfl
theorem ls_X3_isBlank : Cond.static yX3_isBlank ∈ ev_good := ev_in (ev_t2 _ (List.mem_of_getElem? (i := 88) rfl)) rfl
theorem yd_X3_isDigit : ev_Yd yX3_isDigit RX3 1 := ⟨rfl, by decide +kernel, by decide +kernel, by decide +kernel⟩
theorem lm_X3_isDigit : Cond.code yX3_isDigit cX3_isDigit 1 (some .boolean) ∈ ev_good := ev_in (ev_t2 _ (List.mem_of_getElem? (i := 104) rfl)) rfl
theorem ls_X3_isDigit : Cond.static yX3_isDigit ∈ ev_good := ev_in (ev_t2 _ (List.mem_of_getElem? (i := 103) rfl)) rfl
theorem yd_X3_isLetter : ev_Yd yX3_isLetter RX3 1 := ⟨rfl, by decide +kernel, by decide +kernel, by decide +kernel⟩
theorem lm_X3_isLetter : Cond.code yX3_isLetter cX3_isLetter 1 (some .boolean) ∈ ev_good := ev_in (ev_t2 _ (List.mem_of_getElem? (i := 92) rfl)) rfl
theorem ls_X3_isLetter : Cond.static yX3_isLetter ∈ ev_good := ev_in (ev_t2 _ (List.mem_of_getElem? (i := 91) rfl)) rfl
theorem yd_X3_readBrowser : ev_Yd yX3_readBrowser RX3 0 := ⟨rfl, by decide +kernel, by decide +kernel, by decide +kernel⟩
theorem lm_X3_readBrowser : Cond.code yX3_readBrowser cX3_readBrowser 4 (some .boolean) ∈ ev_good := ev_in (ev_t2 _ (List.mem_of_getElem? (i := 203) rfl)) rfl
theorem li_X3_readBrowser : Cond.instanceMethod yX3_readBrowser ∈ ev_good := ev_in (ev_t2 _ (List.mem_of_getElem? (i := 202) rfl)) rfl
theorem le_X3_readBrowser : Cond.selects RX3 yX3_readBrowser yX3_readBrowser ∈ ev_good := ev_in (ev_t0 _ (List.mem_of_getElem? (i := 16) rfl)) rfl
theorem yd_X3_readBrowsers : ev_Yd yX3_readBrowsers RX3 0 := ⟨rfl, by decide +kernel, by decide +kernel, by decide +kernel⟩
theorem lm_X3_readBrowsers : Cond.code yX3_readBrowsers cX3_readBrowsers 2 (some .boolean) ∈ ev_good := ev_in (ev_t2 _ (List.mem_of_getElem? (i := 198) rfl)) rfl
theorem li_X3_readBrowsers : Cond.instanceMethod yX3_readBrowsers ∈ ev_good := ev_in (ev_t2 _ (List.mem_of_getElem? (i := 197) rfl)) rfl
theorem le_X3_readBrowsers : Cond.selects RX3 yX3_readBrowsers yX3_readBrowsers ∈ ev_good := ev_in (ev_t0 _ (List.mem_of_getElem? (i := 15) rfl)) rfl
theorem yd_X3_readLosses : ev_Yd yX3_readLosses RX3 0 := ⟨rfl, by decide +kernel, by decide +kernel, by decide +kernel⟩
theorem lm_X3_readLosses : Cond.code yX3_readLosses cX3_readLosses 2 (some .boolean) ∈ ev_good := ev_in (ev_t2 _ (List.mem_of_getElem? (i := 218) rfl)) rfl
theorem li_X3_readLosses : Cond.instanceMethod yX3_readLosses ∈ ev_good := ev_in (ev_t2 _ (List.mem_of_getElem? (i := 217) rfl)) rfl
theorem le_X3_readLosses : Cond.selects RX3 yX3_readLosses yX3_readLosses ∈ ev_good := ev_in (ev_t0 _ (List.mem_of_getElem? (i := 17) rfl)) rfl
theorem yd_X3_readNames : ev_Yd yX3_readNames RX3 3 := ⟨rfl, by decide +kernel, by decide +kernel, by decide +kernel⟩
theorem lm_X3_readNames : Cond.code yX3_readNames cX3_readNames 5 (some .boolean) ∈ ev_good := ev_in (ev_t2 _ (List.mem_of_getElem? (i := 117) rfl)) rfl
theorem li_X3_readNames : Cond.instanceMethod yX3_readNames ∈ ev_good := ev_in (ev_t2 _ (List.mem_of_getElem? (i := 116) rfl)) rfl
theorem le_X3_readNames : Cond.selects RX3 yX3_readNames yX3_readNames ∈ ev_good := ev_in (ev_t0 _ (List.mem_of_getElem? (i := 4) rfl)) rfl
theorem yd_X3_readNumber : ev_Yd yX3_readNumber RX3 2 := ⟨rfl, by decide +kernel, by decide +kernel, by decide +kernel⟩
theorem lm_X3_readNumber : Cond.code yX3_readNumber cX3_readNumber 4 (some .int) ∈ ev_good := ev_in (ev_t2 _ (List.mem_of_getElem? (i := 181) rfl)) rfl
theorem li_X3_readNumber : Cond.instanceMethod yX3_readNumber ∈ ev_good := ev_in (ev_t2 _ (List.mem_of_getElem? (i := 180) rfl)) rfl
theorem le_X3_readNumber : Cond.selects RX3 yX3_readNumber yX3_readNumber ∈ ev_good := ev_in (ev_t0 _ (List.mem_of_getElem? (i := 13) rfl)) rfl
theorem yd_X3_readPlace : ev_Yd yX3_readPlace RX3 1 := ⟨rfl, by decide +kernel, by decide +kernel, by decide +kernel⟩
theorem lm_X3_readPlace : Cond.code yX3_readPlace cX3_readPlace 3 (some .int) ∈ ev_good := ev_in (ev_t2 _ (List.mem_of_getElem? (i := 168) rfl)) rfl
theorem li_X3_readPlace : Cond.instanceMethod yX3_readPlace ∈ ev_good := ev_in (ev_t2 _ (List.mem_of_getElem? (i := 167) rfl)) rfl
theorem le_X3_readPlace : Cond.selects RX3 yX3_readPlace yX3_readPlace ∈ ev_good := ev_in (ev_t0 _ (List.mem_of_getElem? (i := 12) rfl)) rfl
theorem yd_X3_readSemicolon : ev_Yd yX3_readSemicolon RX3 0 := ⟨rfl, by decide +kernel, by decide +kernel, by decide +kernel⟩
theorem lm_X3_readSemicolon : Cond.code yX3_readSemicolon cX3_readSemicolon 1 (some .boolean) ∈ ev_good := ev_in (ev_t2 _ (List.mem_of_getElem? (i := 154) rfl)) rfl
theorem li_X3_readSemicolon : Cond.instanceMethod yX3_readSemicolon ∈ ev_good := ev_in (ev_t2 _ (List.mem_of_getElem? (i := 153) rfl)) rfl
theorem le_X3_readSemicolon : Cond.selects RX3 yX3_readSemicolon yX3_readSemicolon ∈ ev_good := ev_in (ev_t0 _ (List.mem_of_getElem? (i := 9) rfl)) rfl
theorem yd_X3_readService : ev_Yd yX3_readService RX3 0 := ⟨rfl, by decide +kernel, by decide +kernel, by decide +kernel⟩
theorem lm_X3_readService : Cond.code yX3_readService cX3_readService 6 (some .boolean) ∈ ev_good := ev_in (ev_t2 _ (List.mem_of_getElem? (i := 164) rfl)) rfl
theorem li_X3_readService : Cond.instanceMethod yX3_readService ∈ ev_good := ev_in (ev_t2 _ (List.mem_of_getElem? (i := 163) rfl)) rfl
theorem le_X3_readService : Cond.selects RX3 yX3_readService yX3_readService ∈ ev_good := ev_in (ev_t0 _ (List.mem_of_getElem? (i := 11) rfl)) rfl
theorem yd_X3_readServices : ev_Yd yX3_readServices RX3 0 := ⟨rfl, by decide +kernel, by decide +kernel, by decide +kernel⟩
theorem lm_X3_readServices : Cond.code yX3_readServices cX3_readServices 2 (some .boolean) ∈ ev_good := ev_in (ev_t2 _ (List.mem_of_getElem? (i := 159) rfl)) rfl
theorem li_X3_readServices : Cond.instanceMethod yX3_readServices ∈ ev_good := ev_in (ev_t2 _ (List.mem_of_getElem? (i := 158) rfl)) rfl
theorem le_X3_readServices : Cond.selects RX3 yX3_readServices yX3_readServices ∈ ev_good := ev_in (ev_t0 _ (List.mem_of_getElem? (i := 10) rfl)) rfl
theorem yd_X3_readText : ev_Yd yX3_readText RX3 0 := ⟨rfl, by decide +kernel, by decide +kernel, by decide +kernel⟩
theorem lm_X3_readText : Cond.code yX3_readText cX3_readText 1 (some .boolean) ∈ ev_good := ev_in (ev_t2 _ (List.mem_of_getElem? (i := 73) rfl)) rfl
theorem li_X3_readText : Cond.instanceMethod yX3_readText ∈ ev_good := ev_in (ev_t2 _ (List.mem_of_getElem? (i := 71) rfl)) rfl
theorem le_X3_readText : Cond.selects RX3 yX3_readText yX3_readText ∈ ev_good := ev_in (ev_t2 _ (List.mem_of_getElem? (i := 72) rfl)) rfl
theorem yd_X3_toNextToken : ev_Yd yX3_toNextToken RX3 0 := ⟨rfl, by decide +kernel, by decide +kernel, by decide +kernel⟩
theorem lm_X3_toNextToken : Cond.code yX3_toNextToken cX3_toNextToken 2 none ∈ ev_good := ev_in (ev_t2 _ (List.mem_of_getElem? (i := 78) rfl)) rfl
theorem li_X3_toNextToken : Cond.instanceMethod yX3_toNextToken ∈ ev_good := ev_in (ev_t2 _ (List.mem_of_getElem? (i := 77) rfl)) rfl
theorem le_X3_toNextToken : Cond.selects RX3 yX3_toNextToken yX3_toNextToken ∈ ev_good := ev_in (ev_t0 _ (List.mem_of_getElem? (i := 0) rfl)) rfl
theorem yd_X3_valueOfDigits : ev_Yd yX3_valueOfDigits RX3 0 := ⟨rfl, by decide +kernel, by decide +kernel, by decide +kernel⟩
theorem lm_X3_valueOfDigits : Cond.code yX3_valueOfDigits cX3_valueOfDigits 3 (some .int) ∈ ev_good := ev_in (ev_t2 _ (List.mem_of_getElem? (i := 112) rfl)) rfl
theorem li_X3_valueOfDigits : Cond.instanceMethod yX3_valueOfDigits ∈ ev_good := ev_in (ev_t2 _ (List.mem_of_getElem? (i := 111) rfl)) rfl
theorem le_X3_valueOfDigits : Cond.selects RX3 yX3_valueOfDigits yX3_valueOfDigits ∈ ev_good := ev_in (ev_t0 _ (List.mem_of_getElem? (i := 3) rfl)) rfl
theorem yd_X4_addRow : ev_Yd yX4_addRow RX4 0 := ⟨rfl, by decide +kernel, by decide +kernel, by decide +kernel⟩
theorem lm_X4_addRow : Cond.code yX4_addRow cX4_addRow 6 (some .int) ∈ ev_good := ev_in (ev_t1 _ (List.mem_of_getElem? (i := 115) rfl)) rfl
theorem li_X4_addRow : Cond.instanceMethod yX4_addRow ∈ ev_good := ev_in (ev_t1 _ (List.mem_of_getElem? (i := 113) rfl)) rfl
theorem le_X4_addRow : Cond.selects RX4 yX4_addRow yX4_addRow ∈ ev_good := ev_in (ev_t1 _ (List.mem_of_getElem? (i := 114) rfl)) rfl
theorem yd_X4_at : ev_Yd yX4_at RX4 2 := ⟨rfl, by decide +kernel, by decide +kernel, by decide +kernel⟩
theorem lm_X4_at : Cond.code yX4_at cX4_at 5 (some .int) ∈ ev_good := ev_in (ev_t2 _ (List.mem_of_getElem? (i := 145) rfl)) rfl
theorem li_X4_at : Cond.instanceMethod yX4_at ∈ ev_good := ev_in (ev_t2 _ (List.mem_of_getElem? (i := 143) rfl)) rfl
theorem le_X4_at : Cond.selects RX4 yX4_at yX4_at ∈ ev_good := ev_in (ev_t2 _ (List.mem_of_getElem? (i := 144) rfl)) rfl
theorem yd_X4_clear : ev_Yd yX4_clear RX4 0 := ⟨rfl, by decide +kernel, by decide +kernel, by decide +kernel⟩
theorem lm_X4_clear : Cond.code yX4_clear cX4_clear 1 none ∈ ev_good := ev_in (ev_t1 _ (List.mem_of_getElem? (i := 111) rfl)) rfl
theorem li_X4_clear : Cond.instanceMethod yX4_clear ∈ ev_good := ev_in (ev_t1 _ (List.mem_of_getElem? (i := 109) rfl)) rfl
theorem le_X4_clear : Cond.selects RX4 yX4_clear yX4_clear ∈ ev_good := ev_in (ev_t1 _ (List.mem_of_getElem? (i := 110) rfl)) rfl
theorem yd_X4_compareData : ev_Yd yX4_compareData RX4 3 := ⟨rfl, by decide +kernel, by decide +kernel, by decide +kernel⟩
theorem lm_X4_compareData : Cond.code yX4_compareData cX4_compareData 5 (some .int) ∈ ev_good := ev_in (ev_t3 _ (List.mem_of_getElem? (i := 48) rfl)) rfl
theorem li_X4_compareData : Cond.instanceMethod yX4_compareData ∈ ev_good := ev_in (ev_t3 _ (List.mem_of_getElem? (i := 46) rfl)) rfl
theorem le_X4_compareData : Cond.selects RX4 yX4_compareData yX4_compareData ∈ ev_good := ev_in (ev_t3 _ (List.mem_of_getElem? (i := 47) rfl)) rfl
theorem yd_X4_copyFrom : ev_Yd yX4_copyFrom RX4 1 := ⟨rfl, by decide +kernel, by decide +kernel, by decide +kernel⟩
theorem lm_X4_copyFrom : Cond.code yX4_copyFrom cX4_copyFrom 2 none ∈ ev_good := ev_in (ev_t4 _ (List.mem_of_getElem? (i := 11) rfl)) rfl
theorem li_X4_copyFrom : Cond.instanceMethod yX4_copyFrom ∈ ev_good := ev_in (ev_t4 _ (List.mem_of_getElem? (i := 9) rfl)) rfl
theorem le_X4_copyFrom : Cond.selects RX4 yX4_copyFrom yX4_copyFrom ∈ ev_good := ev_in (ev_t4 _ (List.mem_of_getElem? (i := 10) rfl)) rfl
theorem yd_X4_copyShared : ev_Yd yX4_copyShared RX4 3 := ⟨rfl, by decide +kernel, by decide +kernel, by decide +kernel⟩
theorem lm_X4_copyShared : Cond.code yX4_copyShared cX4_copyShared 5 none ∈ ev_good := ev_in (ev_t5 _ (List.mem_of_getElem? (i := 123) rfl)) rfl
theorem li_X4_copyShared : Cond.instanceMethod yX4_copyShared ∈ ev_good := ev_in (ev_t5 _ (List.mem_of_getElem? (i := 121) rfl)) rfl
theorem le_X4_copyShared : Cond.selects RX4 yX4_copyShared yX4_copyShared ∈ ev_good := ev_in (ev_t5 _ (List.mem_of_getElem? (i := 122) rfl)) rfl
theorem yd_X4_cutTo : ev_Yd yX4_cutTo RX4 1 := ⟨rfl, by decide +kernel, by decide +kernel, by decide +kernel⟩
theorem lm_X4_cutTo : Cond.code yX4_cutTo cX4_cutTo 2 none ∈ ev_good := ev_in (ev_t5 _ (List.mem_of_getElem? (i := 65) rfl)) rfl
theorem li_X4_cutTo : Cond.instanceMethod yX4_cutTo ∈ ev_good := ev_in (ev_t5 _ (List.mem_of_getElem? (i := 63) rfl)) rfl
theorem le_X4_cutTo : Cond.selects RX4 yX4_cutTo yX4_cutTo ∈ ev_good := ev_in (ev_t5 _ (List.mem_of_getElem? (i := 64) rfl)) rfl
theorem yd_X4_endOfRecord : ev_Yd yX4_endOfRecord RX4 1 := ⟨rfl, by decide +kernel, by decide +kernel, by decide +kernel⟩
theorem lm_X4_endOfRecord : Cond.code yX4_endOfRecord cX4_endOfRecord 2 (some .int) ∈ ev_good := ev_in (ev_t4 _ (List.mem_of_getElem? (i := 175) rfl)) rfl
theorem li_X4_endOfRecord : Cond.instanceMethod yX4_endOfRecord ∈ ev_good := ev_in (ev_t4 _ (List.mem_of_getElem? (i := 173) rfl)) rfl
theorem le_X4_endOfRecord : Cond.selects RX4 yX4_endOfRecord yX4_endOfRecord ∈ ev_good := ev_in (ev_t4 _ (List.mem_of_getElem? (i := 174) rfl)) rfl
theorem yd_X4_increase : ev_Yd yX4_increase RX4 2 := ⟨rfl, by decide +kernel, by decide +kernel, by decide +kernel⟩
theorem lm_X4_increase : Cond.code yX4_increase cX4_increase 3 none ∈ ev_good := ev_in (ev_t5 _ (List.mem_of_getElem? (i := 192) rfl)) rfl
theorem li_X4_increase : Cond.instanceMethod yX4_increase ∈ ev_good := ev_in (ev_t5 _ (List.mem_of_getElem? (i := 190) rfl)) rfl
theorem le_X4_increase : Cond.selects RX4 yX4_increase yX4_increase ∈ ev_good := ev_in (ev_t5 _ (List.mem_of_getElem? (i := 191) rfl)) rfl
theorem yd_X4_init : ev_Yd yX4_init RX4 3 := ⟨rfl, by decide +kernel, by decide +kernel, by decide +kernel⟩
theorem lm_X4_init : Cond.code yX4_init cX4_init 4 none ∈ ev_good := ev_in (ev_t1 _ (List.mem_of_getElem? (i := 58) rfl)) rfl
theorem li_X4_init : Cond.instanceMethod yX4_init ∈ ev_good := ev_in (ev_t1 _ (List.mem_of_getElem? (i := 57) rfl)) rfl
theorem yd_X4_isNamedAs : ev_Yd yX4_isNamedAs RX4 3 := ⟨rfl, by decide +kernel, by decide +kernel, by decide +kernel⟩
theorem lm_X4_isNamedAs : Cond.code yX4_isNamedAs cX4_isNamedAs 4 (some .boolean) ∈ ev_good := ev_in (ev_t3 _ (List.mem_of_getElem? (i := 44) rfl)) rfl
theorem li_X4_isNamedAs : Cond.instanceMethod yX4_isNamedAs ∈ ev_good := ev_in (ev_t3 _ (List.mem_of_getElem? (i := 42) rfl)) rfl
theorem le_X4_isNamedAs : Cond.selects RX4 yX4_isNamedAs yX4_isNamedAs ∈ ev_good := ev_in (ev_t3 _ (List.mem_of_getElem? (i := 43) rfl)) rfl
theorem yd_X4_move : ev_Yd yX4_move RX4 5 := ⟨rfl, by decide +kernel, by decide +kernel, by decide +kernel⟩
theorem lm_X4_move : Cond.code yX4_move cX4_move 6 none ∈ ev_good := ev_in (ev_t4 _ (List.mem_of_getElem? (i := 14) rfl)) rfl
theorem ls_X4_move : Cond.static yX4_move ∈ ev_good := ev_in (ev_t4 _ (List.mem_of_getElem? (i := 13) rfl)) rfl
theorem yd_X4_placeNamedAs : ev_Yd yX4_placeNamedAs RX4 2 := ⟨rfl, by decide +kernel, by decide +kernel, by decide +kernel⟩
theorem lm_X4_placeNamedAs : Cond.code yX4_placeNamedAs cX4_placeNamedAs 4 (some .int) ∈ ev_good := ev_in (ev_t3 _ (List.mem_of_getElem? (i := 91) rfl)) rfl
theorem li_X4_placeNamedAs : Cond.instanceMethod yX4_placeNamedAs ∈ ev_good := ev_in (ev_t3 _ (List.mem_of_getElem? (i := 89) rfl)) rfl
theorem le_X4_placeNamedAs : Cond.selects RX4 yX4_placeNamedAs yX4_placeNamedAs ∈ ev_good := ev_in (ev_t3 _ (List.mem_of_getElem? (i := 90) rfl)) rfl
theorem yd_X4_placeOf : ev_Yd yX4_placeOf RX4 2 := ⟨rfl, by decide +kernel, by decide +kernel, by decide +kernel⟩
theorem lm_X4_placeOf : Cond.code yX4_placeOf cX4_placeOf 4 (some .int) ∈ ev_good := ev_in (ev_t2 _ (List.mem_of_getElem? (i := 141) rfl)) rfl
theorem li_X4_placeOf : Cond.instanceMethod yX4_placeOf ∈ ev_good := ev_in (ev_t2 _ (List.mem_of_getElem? (i := 139) rfl)) rfl
theorem le_X4_placeOf : Cond.selects RX4 yX4_placeOf yX4_placeOf ∈ ev_good := ev_in (ev_t2 _ (List.mem_of_getElem? (i := 140) rfl)) rfl
theorem yd_X4_put : ev_Yd yX4_put RX4 3 := ⟨rfl, by decide +kernel, by decide +kernel, by decide +kernel⟩
theorem lm_X4_put : Cond.code yX4_put cX4_put 6 none ∈ ev_good := ev_in (ev_t2 _ (List.mem_of_getElem? (i := 150) rfl)) rfl
theorem li_X4_put : Cond.instanceMethod yX4_put ∈ ev_good := ev_in (ev_t2 _ (List.mem_of_getElem? (i := 148) rfl)) rfl
theorem le_X4_put : Cond.selects RX4 yX4_put yX4_put ∈ ev_good := ev_in (ev_t2 _ (List.mem_of_getElem? (i := 149) rfl)) rfl
theorem yd_X4_size : ev_Yd yX4_size RX4 0 := ⟨rfl, by decide +kernel, by decide +kernel, by decide +kernel⟩
theorem lm_X4_size : Cond.code yX4_size cX4_size 1 (some .int) ∈ ev_good := ev_in (ev_t2 _ (List.mem_of_getElem? (i := 176) rfl)) rfl
theorem li_X4_size : Cond.instanceMethod yX4_size ∈ ev_good := ev_in (ev_t2 _ (List.mem_of_getElem? (i := 174) rfl)) rfl
theorem le_X4_size : Cond.selects RX4 yX4_size yX4_size ∈ ev_good := ev_in (ev_t2 _ (List.mem_of_getElem? (i := 175) rfl)) rfl
theorem yd_X5_asWord : ev_Yd yX5_asWord RX5 0 := ⟨rfl, by decide +kernel, by decide +kernel, by decide +kernel⟩
theorem lm_X5_asWord : Cond.code yX5_asWord cX5_asWord 1 (some .int) ∈ ev_good := ev_in (ev_t4 _ (List.mem_of_getElem? (i := 38) rfl)) rfl
theorem li_X5_asWord : Cond.instanceMethod yX5_asWord ∈ ev_good := ev_in (ev_t4 _ (List.mem_of_getElem? (i := 36) rfl)) rfl
theorem le_X5_asWord : Cond.selects RX5 yX5_asWord yX5_asWord ∈ ev_good := ev_in (ev_t4 _ (List.mem_of_getElem? (i := 37) rfl)) rfl
theorem yd_X5_byteAt : ev_Yd yX5_byteAt RX5 1 := ⟨rfl, by decide +kernel, by decide +kernel, by decide +kernel⟩
theorem lm_X5_byteAt : Cond.code yX5_byteAt cX5_byteAt 2 (some .int) ∈ ev_good := ev_in (ev_t2 _ (List.mem_of_getElem? (i := 86) rfl)) rfl
theorem li_X5_byteAt : Cond.instanceMethod yX5_byteAt ∈ ev_good := ev_in (ev_t2 _ (List.mem_of_getElem? (i := 84) rfl)) rfl
theorem le_X5_byteAt : Cond.selects RX5 yX5_byteAt yX5_byteAt ∈ ev_good := ev_in (ev_t2 _ (List.mem_of_getElem? (i := 85) rfl)) rfl
theorem yd_X5_cutTo : ev_Yd yX5_cutTo RX5 1 := ⟨rfl, by decide +kernel, by decide +kernel, by decide +kernel⟩
theorem lm_X5_cutTo : Cond.code yX5_cutTo cX5_cutTo 2 none ∈ ev_good := ev_in (ev_t2 _ (List.mem_of_getElem? (i := 232) rfl)) rfl
theorem li_X5_cutTo : Cond.instanceMethod yX5_cutTo ∈ ev_good := ev_in (ev_t2 _ (List.mem_of_getElem? (i := 230) rfl)) rfl
theorem le_X5_cutTo : Cond.selects RX5 yX5_cutTo yX5_cutTo ∈ ev_good := ev_in (ev_t2 _ (List.mem_of_getElem? (i := 231) rfl)) rfl
theorem yd_X5_init : ev_Yd yX5_init RX5 1 := ⟨rfl, by decide +kernel, by decide +kernel, by decide +kernel⟩
theorem lm_X5_init : Cond.code yX5_init cX5_init 2 none ∈ ev_good := ev_in (ev_t1 _ (List.mem_of_getElem? (i := 35) rfl)) rfl
theorem li_X5_init : Cond.instanceMethod yX5_init ∈ ev_good := ev_in (ev_t1 _ (List.mem_of_getElem? (i := 34) rfl)) rfl
theorem yd_X5_isSame : ev_Yd yX5_isSame RX5 3 := ⟨rfl, by decide +kernel, by decide +kernel, by decide +kernel⟩
theorem lm_X5_isSame : Cond.code yX5_isSame cX5_isSame 6 (some .boolean) ∈ ev_good := ev_in (ev_t2 _ (List.mem_of_getElem? (i := 125) rfl)) rfl
theorem li_X5_isSame : Cond.instanceMethod yX5_isSame ∈ ev_good := ev_in (ev_t2 _ (List.mem_of_getElem? (i := 123) rfl)) rfl
theorem le_X5_isSame : Cond.selects RX5 yX5_isSame yX5_isSame ∈ ev_good := ev_in (ev_t2 _ (List.mem_of_getElem? (i := 124) rfl)) rfl
theorem yd_X5_put : ev_Yd yX5_put RX5 1 := ⟨rfl, by decide +kernel, by decide +kernel, by decide +kernel⟩
theorem lm_X5_put : Cond.code yX5_put cX5_put 2 none ∈ ev_good := ev_in (ev_t2 _ (List.mem_of_getElem? (i := 35) rfl)) rfl
theorem li_X5_put : Cond.instanceMethod yX5_put ∈ ev_good := ev_in (ev_t2 _ (List.mem_of_getElem? (i := 33) rfl)) rfl
theorem le_X5_put : Cond.selects RX5 yX5_put yX5_put ∈ ev_good := ev_in (ev_t2 _ (List.mem_of_getElem? (i := 34) rfl)) rfl
theorem yd_X5_putAll : ev_Yd yX5_putAll RX5 1 := ⟨rfl, by decide +kernel, by decide +kernel, by decide +kernel⟩
theorem lm_X5_putAll : Cond.code yX5_putAll cX5_putAll 3 none ∈ ev_good := ev_in (ev_t1 _ (List.mem_of_getElem? (i := 223) rfl)) rfl
theorem li_X5_putAll : Cond.instanceMethod yX5_putAll ∈ ev_good := ev_in (ev_t1 _ (List.mem_of_getElem? (i := 221) rfl)) rfl
theorem le_X5_putAll : Cond.selects RX5 yX5_putAll yX5_putAll ∈ ev_good := ev_in (ev_t1 _ (List.mem_of_getElem? (i := 222) rfl)) rfl
theorem yd_X5_putFour : ev_Yd yX5_putFour RX5 1 := ⟨rfl, by decide +kernel, by decide +kernel, by decide +kernel⟩
theorem lm_X5_putFour : Cond.code yX5_putFour cX5_putFour 2 none ∈ ev_good := ev_in (ev_t3 _ (List.mem_of_getElem? (i := 195) rfl)) rfl
theorem li_X5_putFour : Cond.instanceMethod yX5_putFour ∈ ev_good := ev_in (ev_t3 _ (List.mem_of_getElem? (i := 193) rfl)) rfl
theorem le_X5_putFour : Cond.selects RX5 yX5_putFour yX5_putFour ∈ ev_good := ev_in (ev_t3 _ (List.mem_of_getElem? (i := 194) rfl)) rfl
theorem yd_X5_putWord : ev_Yd yX5_putWord RX5 1 := ⟨rfl, by decide +kernel, by decide +kernel, by decide +kernel⟩
theorem lm_X5_putWord : Cond.code yX5_putWord cX5_putWord 4 none ∈ ev_good := ev_in (ev_t3 _ (List.mem_of_getElem? (i := 102) rfl)) rfl
theorem li_X5_putWord : Cond.instanceMethod yX5_putWord ∈ ev_good := ev_in (ev_t3 _ (List.mem_of_getElem? (i := 100) rfl)) rfl
theorem le_X5_putWord : Cond.selects RX5 yX5_putWord yX5_putWord ∈ ev_good := ev_in (ev_t3 _ (List.mem_of_getElem? (i := 101) rfl)) rfl
theorem yd_X5_size : ev_Yd yX5_size RX5 0 := ⟨rfl, by decide +kernel, by decide +kernel, by decide +kernel⟩
theorem lm_X5_size : Cond.code yX5_size cX5_size 1 (some .int) ∈ ev_good := ev_in (ev_t2 _ (List.mem_of_getElem? (i := 82) rfl)) rfl
theorem li_X5_size : Cond.instanceMethod yX5_size ∈ ev_good := ev_in (ev_t2 _ (List.mem_of_getElem? (i := 80) rfl)) rfl
theorem le_X5_size : Cond.selects RX5 yX5_size yX5_size ∈ ev_good := ev_in (ev_t2 _ (List.mem_of_getElem? (i := 81) rfl)) rfl
theorem yd_X5_wordIn : ev_Yd yX5_wordIn RX5 2 := ⟨rfl, by decide +kernel, by decide +kernel, by decide +kernel⟩
theorem lm_X5_wordIn : Cond.code yX5_wordIn cX5_wordIn 6 (some .int) ∈ ev_good := ev_in (ev_t2 _ (List.mem_of_getElem? (i := 100) rfl)) rfl
theorem li_X5_wordIn : Cond.instanceMethod yX5_wordIn ∈ ev_good := ev_in (ev_t2 _ (List.mem_of_getElem? (i := 98) rfl)) rfl
theorem le_X5_wordIn : Cond.selects RX5 yX5_wordIn yX5_wordIn ∈ ev_good := ev_in (ev_t2 _ (List.mem_of_getElem? (i := 99) rfl)) rfl
theorem yd_X6_add : ev_Yd yX6_add RX6 4 := ⟨rfl, by decide +kernel, by decide +kernel, by decide +kernel⟩
theorem lm_X6_add : Cond.code yX6_add cX6_add 6 (some .int) ∈ ev_good := ev_in (ev_t6 _ (List.mem_of_getElem? (i := 90) rfl)) rfl
theorem li_X6_add : Cond.instanceMethod yX6_add ∈ ev_good := ev_in (ev_t6 _ (List.mem_of_getElem? (i := 88) rfl)) rfl
theorem le_X6_add : Cond.selects RX6 yX6_add yX6_add ∈ ev_good := ev_in (ev_t6 _ (List.mem_of_getElem? (i := 89) rfl)) rfl
theorem yd_X6_append : ev_Yd yX6_append RX6 5 := ⟨rfl, by decide +kernel, by decide +kernel, by decide +kernel⟩
theorem lm_X6_append : Cond.code yX6_append cX6_append 6 (some .int) ∈ ev_good := ev_in (ev_t3 _ (List.mem_of_getElem? (i := 123) rfl)) rfl
theorem li_X6_append : Cond.instanceMethod yX6_append ∈ ev_good := ev_in (ev_t3 _ (List.mem_of_getElem? (i := 121) rfl)) rfl
theorem le_X6_append : Cond.selects RX6 yX6_append yX6_append ∈ ev_good := ev_in (ev_t3 _ (List.mem_of_getElem? (i := 122) rfl)) rfl
theorem yd_X6_baseByte : ev_Yd yX6_baseByte RX6 2 := ⟨rfl, by decide +kernel, by decide +kernel, by decide +kernel⟩
theorem lm_X6_baseByte : Cond.code yX6_baseByte cX6_baseByte 3 (some .int) ∈ ev_good := ev_in (ev_t4 _ (List.mem_of_getElem? (i := 150) rfl)) rfl
theorem li_X6_baseByte : Cond.instanceMethod yX6_baseByte ∈ ev_good := ev_in (ev_t4 _ (List.mem_of_getElem? (i := 148) rfl)) rfl
theorem le_X6_baseByte : Cond.selects RX6 yX6_baseByte yX6_baseByte ∈ ev_good := ev_in (ev_t4 _ (List.mem_of_getElem? (i := 149) rfl)) rfl
theorem yd_X6_browse : ev_Yd yX6_browse RX6 3 := ⟨rfl, by decide +kernel, by decide +kernel, by decide +kernel⟩
theorem lm_X6_browse : Cond.code yX6_browse cX6_browse 4 (some .int) ∈ ev_good := ev_in (ev_t6 _ (List.mem_of_getElem? (i := 154) rfl)) rfl
theorem li_X6_browse : Cond.instanceMethod yX6_browse ∈ ev_good := ev_in (ev_t6 _ (List.mem_of_getElem? (i := 152) rfl)) rfl
theorem le_X6_browse : Cond.selects RX6 yX6_browse yX6_browse ∈ ev_good := ev_in (ev_t6 _ (List.mem_of_getElem? (i := 153) rfl)) rfl
theorem yd_X6_browser : ev_Yd yX6_browser RX6 3 := ⟨rfl, by decide +kernel, by decide +kernel, by decide +kernel⟩
theorem lm_X6_browser : Cond.code yX6_browser cX6_browser 4 (some .int) ∈ ev_good := ev_in (ev_t4 _ (List.mem_of_getElem? (i := 190) rfl)) rfl
theorem li_X6_browser : Cond.instanceMethod yX6_browser ∈ ev_good := ev_in (ev_t4 _ (List.mem_of_getElem? (i := 188) rfl)) rfl
theorem le_X6_browser : Cond.selects RX6 yX6_browser yX6_browser ∈ ev_good := ev_in (ev_t4 _ (List.mem_of_getElem? (i := 189) rfl)) rfl
theorem yd_X6_clashes : ev_Yd yX6_clashes RX6 0 := ⟨rfl, by decide +kernel, by decide +kernel, by decide +kernel⟩
theorem lm_X6_clashes : Cond.code yX6_clashes cX6_clashes 1 (some .int) ∈ ev_good := ev_in (ev_t3 _ (List.mem_of_getElem? (i := 59) rfl)) rfl
theorem li_X6_clashes : Cond.instanceMethod yX6_clashes ∈ ev_good := ev_in (ev_t3 _ (List.mem_of_getElem? (i := 57) rfl)) rfl
theorem le_X6_clashes : Cond.selects RX6 yX6_clashes yX6_clashes ∈ ev_good := ev_in (ev_t3 _ (List.mem_of_getElem? (i := 58) rfl)) rfl
theorem yd_X6_count : ev_Yd yX6_count RX6 1 := ⟨rfl, by decide +kernel, by decide +kernel, by decide +kernel⟩
theorem lm_X6_count : Cond.code yX6_count cX6_count 2 (some .int) ∈ ev_good := ev_in (ev_t4 _ (List.mem_of_getElem? (i := 64) rfl)) rfl
theorem li_X6_count : Cond.instanceMethod yX6_count ∈ ev_good := ev_in (ev_t4 _ (List.mem_of_getElem? (i := 62) rfl)) rfl
theorem le_X6_count : Cond.selects RX6 yX6_count yX6_count ∈ ev_good := ev_in (ev_t4 _ (List.mem_of_getElem? (i := 63) rfl)) rfl
theorem yd_X6_coverage : ev_Yd yX6_coverage RX6 0 := ⟨rfl, by decide +kernel, by decide +kernel, by decide +kernel⟩
theorem lm_X6_coverage : Cond.code yX6_coverage cX6_coverage 2 (some .double) ∈ ev_good := ev_in (ev_t3 _ (List.mem_of_getElem? (i := 75) rfl)) rfl
theorem li_X6_coverage : Cond.instanceMethod yX6_coverage ∈ ev_good := ev_in (ev_t3 _ (List.mem_of_getElem? (i := 73) rfl)) rfl
theorem le_X6_coverage : Cond.selects RX6 yX6_coverage yX6_coverage ∈ ev_good := ev_in (ev_t3 _ (List.mem_of_getElem? (i := 74) rfl)) rfl
theorem yd_X6_errorCode : ev_Yd yX6_errorCode RX6 0 := ⟨rfl, by decide +kernel, by decide +kernel, by decide +kernel⟩
theorem lm_X6_errorCode : Cond.code yX6_errorCode cX6_errorCode 1 (some .int) ∈ ev_good := ev_in (ev_t3 _ (List.mem_of_getElem? (i := 24) rfl)) rfl
theorem li_X6_errorCode : Cond.instanceMethod yX6_errorCode ∈ ev_good := ev_in (ev_t3 _ (List.mem_of_getElem? (i := 22) rfl)) rfl
theorem le_X6_errorCode : Cond.selects RX6 yX6_errorCode yX6_errorCode ∈ ev_good := ev_in (ev_t3 _ (List.mem_of_getElem? (i := 23) rfl)) rfl
theorem yd_X6_errorPosition : ev_Yd yX6_errorPosition RX6 0 := ⟨rfl, by decide +kernel, by decide +kernel, by decide +kernel⟩
theorem lm_X6_errorPosition : Cond.code yX6_errorPosition cX6_errorPosition 1 (some .int) ∈ ev_good := ev_in (ev_t3 _ (List.mem_of_getElem? (i := 28) rfl)) rfl
theorem li_X6_errorPosition : Cond.instanceMethod yX6_errorPosition ∈ ev_good := ev_in (ev_t3 _ (List.mem_of_getElem? (i := 26) rfl)) rfl
theorem le_X6_errorPosition : Cond.selects RX6 yX6_errorPosition yX6_errorPosition ∈ ev_good := ev_in (ev_t3 _ (List.mem_of_getElem? (i := 27) rfl)) rfl
theorem yd_X6_establishedIn : ev_Yd yX6_establishedIn RX6 1 := ⟨rfl, by decide +kernel, by decide +kernel, by decide +kernel⟩
theorem lm_X6_establishedIn : Cond.code yX6_establishedIn cX6_establishedIn 3 (some .int) ∈ ev_good := ev_in (ev_t5 _ (List.mem_of_getElem? (i := 44) rfl)) rfl
theorem li_X6_establishedIn : Cond.instanceMethod yX6_establishedIn ∈ ev_good := ev_in (ev_t5 _ (List.mem_of_getElem? (i := 42) rfl)) rfl
theorem le_X6_establishedIn : Cond.selects RX6 yX6_establishedIn yX6_establishedIn ∈ ev_good := ev_in (ev_t5 _ (List.mem_of_getElem? (i := 43) rfl)) rfl
theorem yd_X6_find : ev_Yd yX6_find RX6 1 := ⟨rfl, by decide +kernel, by decide +kernel, by decide +kernel⟩
theorem lm_X6_find : Cond.code yX6_find cX6_find 4 (some .int) ∈ ev_good := ev_in (ev_t4 _ (List.mem_of_getElem? (i := 34) rfl)) rfl
theorem li_X6_find : Cond.instanceMethod yX6_find ∈ ev_good := ev_in (ev_t4 _ (List.mem_of_getElem? (i := 32) rfl)) rfl
theorem le_X6_find : Cond.selects RX6 yX6_find yX6_find ∈ ev_good := ev_in (ev_t4 _ (List.mem_of_getElem? (i := 33) rfl)) rfl
theorem yd_X6_freshIn : ev_Yd yX6_freshIn RX6 0 := ⟨rfl, by decide +kernel, by decide +kernel, by decide +kernel⟩
theorem lm_X6_freshIn : Cond.code yX6_freshIn cX6_freshIn 2 (some .int) ∈ ev_good := ev_in (ev_t6 _ (List.mem_of_getElem? (i := 44) rfl)) rfl
theorem li_X6_freshIn : Cond.instanceMethod yX6_freshIn ∈ ev_good := ev_in (ev_t6 _ (List.mem_of_getElem? (i := 42) rfl)) rfl
theorem le_X6_freshIn : Cond.selects RX6 yX6_freshIn yX6_freshIn ∈ ev_good := ev_in (ev_t6 _ (List.mem_of_getElem? (i := 43) rfl)) rfl
theorem yd_X6_haveSameName : ev_Yd yX6_haveSameName RX6 2 := ⟨rfl, by decide +kernel, by decide +kernel, by decide +kernel⟩
theorem lm_X6_haveSameName : Cond.code yX6_haveSameName cX6_haveSameName 3 (some .boolean) ∈ ev_good := ev_in (ev_t4 _ (List.mem_of_getElem? (i := 158) rfl)) rfl
theorem li_X6_haveSameName : Cond.instanceMethod yX6_haveSameName ∈ ev_good := ev_in (ev_t4 _ (List.mem_of_getElem? (i := 156) rfl)) rfl
theorem le_X6_haveSameName : Cond.selects RX6 yX6_haveSameName yX6_haveSameName ∈ ev_good := ev_in (ev_t4 _ (List.mem_of_getElem? (i := 157) rfl)) rfl
theorem yd_X6_host : ev_Yd yX6_host RX6 2 := ⟨rfl, by decide +kernel, by decide +kernel, by decide +kernel⟩
theorem lm_X6_host : Cond.code yX6_host cX6_host 3 (some .int) ∈ ev_good := ev_in (ev_t4 _ (List.mem_of_getElem? (i := 117) rfl)) rfl
theorem li_X6_host : Cond.instanceMethod yX6_host ∈ ev_good := ev_in (ev_t4 _ (List.mem_of_getElem? (i := 115) rfl)) rfl
theorem le_X6_host : Cond.selects RX6 yX6_host yX6_host ∈ ev_good := ev_in (ev_t4 _ (List.mem_of_getElem? (i := 116) rfl)) rfl
theorem yd_X6_init : ev_Yd yX6_init RX6 0 := ⟨rfl, by decide +kernel, by decide +kernel, by decide +kernel⟩
theorem lm_X6_init : Cond.code yX6_init cX6_init 2 none ∈ ev_good := ev_in (ev_t1 _ (List.mem_of_getElem? (i := 27) rfl)) rfl
theorem li_X6_init : Cond.instanceMethod yX6_init ∈ ev_good := ev_in (ev_t1 _ (List.mem_of_getElem? (i := 26) rfl)) rfl
theorem yd_X6_intOf : ev_Yd yX6_intOf RX6 1 := ⟨rfl, by decide +kernel, by decide +kernel, by decide +kernel⟩
theorem lm_X6_intOf : Cond.code yX6_intOf cX6_intOf 2 (some .int) ∈ ev_good := ev_in (ev_t4 _ (List.mem_of_getElem? (i := 67) rfl)) rfl
theorem ls_X6_intOf : Cond.static yX6_intOf ∈ ev_good := ev_in (ev_t4 _ (List.mem_of_getElem? (i := 66) rfl)) rfl
theorem yd_X6_isMarked : ev_Yd yX6_isMarked RX6 1 := ⟨rfl, by decide +kernel, by decide +kernel, by decide +kernel⟩
theorem lm_X6_isMarked : Cond.code yX6_isMarked cX6_isMarked 2 (some .boolean) ∈ ev_good := ev_in (ev_t4 _ (List.mem_of_getElem? (i := 230) rfl)) rfl
theorem li_X6_isMarked : Cond.instanceMethod yX6_isMarked ∈ ev_good := ev_in (ev_t4 _ (List.mem_of_getElem? (i := 228) rfl)) rfl
theorem le_X6_isMarked : Cond.selects RX6 yX6_isMarked yX6_isMarked ∈ ev_good := ev_in (ev_t4 _ (List.mem_of_getElem? (i := 229) rfl)) rfl
theorem yd_X6_known : ev_Yd yX6_known RX6 2 := ⟨rfl, by decide +kernel, by decide +kernel, by decide +kernel⟩
theorem lm_X6_known : Cond.code yX6_known cX6_known 3 (some .int) ∈ ev_good := ev_in (ev_t5 _ (List.mem_of_getElem? (i := 9) rfl)) rfl
theorem li_X6_known : Cond.instanceMethod yX6_known ∈ ev_good := ev_in (ev_t5 _ (List.mem_of_getElem? (i := 7) rfl)) rfl
theorem le_X6_known : Cond.selects RX6 yX6_known yX6_known ∈ ev_good := ev_in (ev_t5 _ (List.mem_of_getElem? (i := 8) rfl)) rfl
theorem yd_X6_knownIn : ev_Yd yX6_knownIn RX6 2 := ⟨rfl, by decide +kernel, by decide +kernel, by decide +kernel⟩
theorem lm_X6_knownIn : Cond.code yX6_knownIn cX6_knownIn 4 (some .int) ∈ ev_good := ev_in (ev_t6 _ (List.mem_of_getElem? (i := 29) rfl)) rfl
theorem li_X6_knownIn : Cond.instanceMethod yX6_knownIn ∈ ev_good := ev_in (ev_t6 _ (List.mem_of_getElem? (i := 27) rfl)) rfl
theorem le_X6_knownIn : Cond.selects RX6 yX6_knownIn yX6_knownIn ∈ ev_good := ev_in (ev_t6 _ (List.mem_of_getElem? (i := 28) rfl)) rfl
theorem yd_X6_letterOf : ev_Yd yX6_letterOf RX6 2 := ⟨rfl, by decide +kernel, by decide +kernel, by decide +kernel⟩
theorem lm_X6_letterOf : Cond.code yX6_letterOf cX6_letterOf 3 (some .int) ∈ ev_good := ev_in (ev_t3 _ (List.mem_of_getElem? (i := 105) rfl)) rfl
theorem ls_X6_letterOf : Cond.static yX6_letterOf ∈ ev_good := ev_in (ev_t3 _ (List.mem_of_getElem? (i := 104) rfl)) rfl
theorem yd_X6_load : ev_Yd yX6_load RX6 0 := ⟨rfl, by decide +kernel, by decide +kernel, by decide +kernel⟩
theorem lm_X6_load : Cond.code yX6_load cX6_load 4 (some .int) ∈ ev_good := ev_in (ev_t3 _ (List.mem_of_getElem? (i := 227) rfl)) rfl
theorem li_X6_load : Cond.instanceMethod yX6_load ∈ ev_good := ev_in (ev_t3 _ (List.mem_of_getElem? (i := 225) rfl)) rfl
theorem le_X6_load : Cond.selects RX6 yX6_load yX6_load ∈ ev_good := ev_in (ev_t3 _ (List.mem_of_getElem? (i := 226) rfl)) rfl
theorem yd_X6_log : ev_Yd yX6_log RX6 2 := ⟨rfl, by decide +kernel, by decide +kernel, by decide +kernel⟩
theorem lm_X6_log : Cond.code yX6_log cX6_log 3 (some .int) ∈ ev_good := ev_in (ev_t5 _ (List.mem_of_getElem? (i := 1) rfl)) rfl
theorem li_X6_log : Cond.instanceMethod yX6_log ∈ ev_good := ev_in (ev_t4 _ (List.mem_of_getElem? (i := 239) rfl)) rfl
theorem le_X6_log : Cond.selects RX6 yX6_log yX6_log ∈ ev_good := ev_in (ev_t5 _ (List.mem_of_getElem? (i := 0) rfl)) rfl
theorem yd_X6_mark : ev_Yd yX6_mark RX6 1 := ⟨rfl, by decide +kernel, by decide +kernel, by decide +kernel⟩
theorem lm_X6_mark : Cond.code yX6_mark cX6_mark 2 (some .int) ∈ ev_good := ev_in (ev_t6 _ (List.mem_of_getElem? (i := 164) rfl)) rfl
theorem li_X6_mark : Cond.instanceMethod yX6_mark ∈ ev_good := ev_in (ev_t6 _ (List.mem_of_getElem? (i := 162) rfl)) rfl
theorem le_X6_mark : Cond.selects RX6 yX6_mark yX6_mark ∈ ev_good := ev_in (ev_t6 _ (List.mem_of_getElem? (i := 163) rfl)) rfl
theorem yd_X6_message : ev_Yd yX6_message RX6 2 := ⟨rfl, by decide +kernel, by decide +kernel, by decide +kernel⟩
theorem lm_X6_message : Cond.code yX6_message cX6_message 7 (some .int) ∈ ev_good := ev_in (ev_t4 _ (List.mem_of_getElem? (i := 205) rfl)) rfl
theorem li_X6_message : Cond.instanceMethod yX6_message ∈ ev_good := ev_in (ev_t4 _ (List.mem_of_getElem? (i := 203) rfl)) rfl
theorem le_X6_message : Cond.selects RX6 yX6_message yX6_message ∈ ev_good := ev_in (ev_t4 _ (List.mem_of_getElem? (i := 204) rfl)) rfl
theorem yd_X6_messagesIn : ev_Yd yX6_messagesIn RX6 1 := ⟨rfl, by decide +kernel, by decide +kernel, by decide +kernel⟩
theorem lm_X6_messagesIn : Cond.code yX6_messagesIn cX6_messagesIn 3 (some .int) ∈ ev_good := ev_in (ev_t6 _ (List.mem_of_getElem? (i := 37) rfl)) rfl
theorem li_X6_messagesIn : Cond.instanceMethod yX6_messagesIn ∈ ev_good := ev_in (ev_t6 _ (List.mem_of_getElem? (i := 35) rfl)) rfl
theorem le_X6_messagesIn : Cond.selects RX6 yX6_messagesIn yX6_messagesIn ∈ ev_good := ev_in (ev_t6 _ (List.mem_of_getElem? (i := 36) rfl)) rfl
theorem yd_X6_mustBeMessage : ev_Yd yX6_mustBeMessage RX6 1 := ⟨rfl, by decide +kernel, by decide +kernel, by decide +kernel⟩
theorem lm_X6_mustBeMessage : Cond.code yX6_mustBeMessage cX6_mustBeMessage 1 none ∈ ev_good := ev_in (ev_t4 _ (List.mem_of_getElem? (i := 233) rfl)) rfl
theorem ls_X6_mustBeMessage : Cond.static yX6_mustBeMessage ∈ ev_good := ev_in (ev_t4 _ (List.mem_of_getElem? (i := 232) rfl)) rfl
theorem yd_X6_mustBePort : ev_Yd yX6_mustBePort RX6 1 := ⟨rfl, by decide +kernel, by decide +kernel, by decide +kernel⟩
theorem lm_X6_mustBePort : Cond.code yX6_mustBePort cX6_mustBePort 1 none ∈ ev_good := ev_in (ev_t6 _ (List.mem_of_getElem? (i := 55) rfl)) rfl
theorem ls_X6_mustBePort : Cond.static yX6_mustBePort ∈ ev_good := ev_in (ev_t6 _ (List.mem_of_getElem? (i := 54) rfl)) rfl
theorem yd_X6_mustBeSlot : ev_Yd yX6_mustBeSlot RX6 1 := ⟨rfl, by decide +kernel, by decide +kernel, by decide +kernel⟩
theorem lm_X6_mustBeSlot : Cond.code yX6_mustBeSlot cX6_mustBeSlot 2 none ∈ ev_good := ev_in (ev_t6 _ (List.mem_of_getElem? (i := 190) rfl)) rfl
theorem li_X6_mustBeSlot : Cond.instanceMethod yX6_mustBeSlot ∈ ev_good := ev_in (ev_t6 _ (List.mem_of_getElem? (i := 189) rfl)) rfl
theorem le_X6_mustBeSlot : Cond.selects RX6 yX6_mustBeSlot yX6_mustBeSlot ∈ ev_good := ev_in (ev_t0 _ (List.mem_of_getElem? (i := 63) rfl)) rfl
theorem yd_X6_mustBeTicks : ev_Yd yX6_mustBeTicks RX6 2 := ⟨rfl, by decide +kernel, by decide +kernel, by decide +kernel⟩
theorem lm_X6_mustBeTicks : Cond.code yX6_mustBeTicks cX6_mustBeTicks 2 none ∈ ev_good := ev_in (ev_t6 _ (List.mem_of_getElem? (i := 21) rfl)) rfl
theorem ls_X6_mustBeTicks : Cond.static yX6_mustBeTicks ∈ ev_good := ev_in (ev_t6 _ (List.mem_of_getElem? (i := 20) rfl)) rfl
theorem yd_X6_mustHaveHost : ev_Yd yX6_mustHaveHost RX6 1 := ⟨rfl, by decide +kernel, by decide +kernel, by decide +kernel⟩
theorem lm_X6_mustHaveHost : Cond.code yX6_mustHaveHost cX6_mustHaveHost 2 none ∈ ev_good := ev_in (ev_t4 _ (List.mem_of_getElem? (i := 121) rfl)) rfl
theorem li_X6_mustHaveHost : Cond.instanceMethod yX6_mustHaveHost ∈ ev_good := ev_in (ev_t4 _ (List.mem_of_getElem? (i := 120) rfl)) rfl
theorem le_X6_mustHaveHost : Cond.selects RX6 yX6_mustHaveHost yX6_mustHaveHost ∈ ev_good := ev_in (ev_t0 _ (List.mem_of_getElem? (i := 25) rfl)) rfl
theorem yd_X6_mustHaveRecord : ev_Yd yX6_mustHaveRecord RX6 2 := ⟨rfl, by decide +kernel, by decide +kernel, by decide +kernel⟩
theorem lm_X6_mustHaveRecord : Cond.code yX6_mustHaveRecord cX6_mustHaveRecord 3 none ∈ ev_good := ev_in (ev_t4 _ (List.mem_of_getElem? (i := 170) rfl)) rfl
theorem li_X6_mustHaveRecord : Cond.instanceMethod yX6_mustHaveRecord ∈ ev_good := ev_in (ev_t4 _ (List.mem_of_getElem? (i := 169) rfl)) rfl
theorem le_X6_mustHaveRecord : Cond.selects RX6 yX6_mustHaveRecord yX6_mustHaveRecord ∈ ev_good := ev_in (ev_t0 _ (List.mem_of_getElem? (i := 27) rfl)) rfl
theorem yd_X6_mustHaveService : ev_Yd yX6_mustHaveService RX6 1 := ⟨rfl, by decide +kernel, by decide +kernel, by decide +kernel⟩
theorem lm_X6_mustHaveService : Cond.code yX6_mustHaveService cX6_mustHaveService 2 none ∈ ev_good := ev_in (ev_t4 _ (List.mem_of_getElem? (i := 141) rfl)) rfl
theorem li_X6_mustHaveService : Cond.instanceMethod yX6_mustHaveService ∈ ev_good := ev_in (ev_t4 _ (List.mem_of_getElem? (i := 140) rfl)) rfl
theorem le_X6_mustHaveService : Cond.selects RX6 yX6_mustHaveService yX6_mustHaveService ∈ ev_good := ev_in (ev_t0 _ (List.mem_of_getElem? (i := 26) rfl)) rfl
theorem yd_X6_mustHaveType : ev_Yd yX6_mustHaveType RX6 1 := ⟨rfl, by decide +kernel, by decide +kernel, by decide +kernel⟩
theorem lm_X6_mustHaveType : Cond.code yX6_mustHaveType cX6_mustHaveType 2 none ∈ ev_good := ev_in (ev_t4 _ (List.mem_of_getElem? (i := 194) rfl)) rfl
theorem li_X6_mustHaveType : Cond.instanceMethod yX6_mustHaveType ∈ ev_good := ev_in (ev_t4 _ (List.mem_of_getElem? (i := 193) rfl)) rfl
theorem le_X6_mustHaveType : Cond.selects RX6 yX6_mustHaveType yX6_mustHaveType ∈ ev_good := ev_in (ev_t0 _ (List.mem_of_getElem? (i := 28) rfl)) rfl
theorem yd_X6_numberIf : ev_Yd yX6_numberIf RX6 4 := ⟨rfl, by decide +kernel, by decide +kernel, by decide +kernel⟩
theorem lm_X6_numberIf : Cond.code yX6_numberIf cX6_numberIf 8 (some .int) ∈ ev_good := ev_in (ev_t6 _ (List.mem_of_getElem? (i := 52) rfl)) rfl
theorem li_X6_numberIf : Cond.instanceMethod yX6_numberIf ∈ ev_good := ev_in (ev_t6 _ (List.mem_of_getElem? (i := 50) rfl)) rfl
theorem le_X6_numberIf : Cond.selects RX6 yX6_numberIf yX6_numberIf ∈ ev_good := ev_in (ev_t6 _ (List.mem_of_getElem? (i := 51) rfl)) rfl
theorem yd_X6_numberIn : ev_Yd yX6_numberIn RX6 2 := ⟨rfl, by decide +kernel, by decide +kernel, by decide +kernel⟩
theorem lm_X6_numberIn : Cond.code yX6_numberIn cX6_numberIn 4 (some .int) ∈ ev_good := ev_in (ev_t6 _ (List.mem_of_getElem? (i := 18) rfl)) rfl
theorem li_X6_numberIn : Cond.instanceMethod yX6_numberIn ∈ ev_good := ev_in (ev_t6 _ (List.mem_of_getElem? (i := 16) rfl)) rfl
theorem le_X6_numberIn : Cond.selects RX6 yX6_numberIn yX6_numberIn ∈ ev_good := ev_in (ev_t6 _ (List.mem_of_getElem? (i := 17) rfl)) rfl
theorem yd_X6_outputByte : ev_Yd yX6_outputByte RX6 1 := ⟨rfl, by decide +kernel, by decide +kernel, by decide +kernel⟩
theorem lm_X6_outputByte : Cond.code yX6_outputByte cX6_outputByte 2 (some .int) ∈ ev_good := ev_in (ev_t6 _ (List.mem_of_getElem? (i := 67) rfl)) rfl
theorem li_X6_outputByte : Cond.instanceMethod yX6_outputByte ∈ ev_good := ev_in (ev_t6 _ (List.mem_of_getElem? (i := 65) rfl)) rfl
theorem le_X6_outputByte : Cond.selects RX6 yX6_outputByte yX6_outputByte ∈ ev_good := ev_in (ev_t6 _ (List.mem_of_getElem? (i := 66) rfl)) rfl
theorem yd_X6_pass : ev_Yd yX6_pass RX6 1 := ⟨rfl, by decide +kernel, by decide +kernel, by decide +kernel⟩
theorem lm_X6_pass : Cond.code yX6_pass cX6_pass 5 (some .int) ∈ ev_good := ev_in (ev_t6 _ (List.mem_of_getElem? (i := 76) rfl)) rfl
theorem li_X6_pass : Cond.instanceMethod yX6_pass ∈ ev_good := ev_in (ev_t6 _ (List.mem_of_getElem? (i := 74) rfl)) rfl
theorem le_X6_pass : Cond.selects RX6 yX6_pass yX6_pass ∈ ev_good := ev_in (ev_t6 _ (List.mem_of_getElem? (i := 75) rfl)) rfl
theorem yd_X6_record : ev_Yd yX6_record RX6 3 := ⟨rfl, by decide +kernel, by decide +kernel, by decide +kernel⟩
theorem lm_X6_record : Cond.code yX6_record cX6_record 5 (some .int) ∈ ev_good := ev_in (ev_t4 _ (List.mem_of_getElem? (i := 166) rfl)) rfl
theorem li_X6_record : Cond.instanceMethod yX6_record ∈ ev_good := ev_in (ev_t4 _ (List.mem_of_getElem? (i := 164) rfl)) rfl
theorem le_X6_record : Cond.selects RX6 yX6_record yX6_record ∈ ev_good := ev_in (ev_t4 _ (List.mem_of_getElem? (i := 165) rfl)) rfl
theorem yd_X6_recordByte : ev_Yd yX6_recordByte RX6 3 := ⟨rfl, by decide +kernel, by decide +kernel, by decide +kernel⟩
theorem lm_X6_recordByte : Cond.code yX6_recordByte cX6_recordByte 4 (some .int) ∈ ev_good := ev_in (ev_t4 _ (List.mem_of_getElem? (i := 183) rfl)) rfl
theorem li_X6_recordByte : Cond.instanceMethod yX6_recordByte ∈ ev_good := ev_in (ev_t4 _ (List.mem_of_getElem? (i := 181) rfl)) rfl
theorem le_X6_recordByte : Cond.selects RX6 yX6_recordByte yX6_recordByte ∈ ev_good := ev_in (ev_t4 _ (List.mem_of_getElem? (i := 182) rfl)) rfl
theorem yd_X6_records : ev_Yd yX6_records RX6 2 := ⟨rfl, by decide +kernel, by decide +kernel, by decide +kernel⟩
theorem lm_X6_records : Cond.code yX6_records cX6_records 3 (some .int) ∈ ev_good := ev_in (ev_t5 _ (List.mem_of_getElem? (i := 17) rfl)) rfl
theorem li_X6_records : Cond.instanceMethod yX6_records ∈ ev_good := ev_in (ev_t5 _ (List.mem_of_getElem? (i := 15) rfl)) rfl
theorem le_X6_records : Cond.selects RX6 yX6_records yX6_records ∈ ev_good := ev_in (ev_t5 _ (List.mem_of_getElem? (i := 16) rfl)) rfl
theorem yd_X6_restore : ev_Yd yX6_restore RX6 1 := ⟨rfl, by decide +kernel, by decide +kernel, by decide +kernel⟩
theorem lm_X6_restore : Cond.code yX6_restore cX6_restore 3 none ∈ ev_good := ev_in (ev_t6 _ (List.mem_of_getElem? (i := 198) rfl)) rfl
theorem li_X6_restore : Cond.instanceMethod yX6_restore ∈ ev_good := ev_in (ev_t6 _ (List.mem_of_getElem? (i := 196) rfl)) rfl
theorem le_X6_restore : Cond.selects RX6 yX6_restore yX6_restore ∈ ev_good := ev_in (ev_t6 _ (List.mem_of_getElem? (i := 197) rfl)) rfl
theorem yd_X6_save : ev_Yd yX6_save RX6 1 := ⟨rfl, by decide +kernel, by decide +kernel, by decide +kernel⟩
theorem lm_X6_save : Cond.code yX6_save cX6_save 3 none ∈ ev_good := ev_in (ev_t6 _ (List.mem_of_getElem? (i := 186) rfl)) rfl
theorem li_X6_save : Cond.instanceMethod yX6_save ∈ ev_good := ev_in (ev_t6 _ (List.mem_of_getElem? (i := 184) rfl)) rfl
theorem le_X6_save : Cond.selects RX6 yX6_save yX6_save ∈ ev_good := ev_in (ev_t6 _ (List.mem_of_getElem? (i := 185) rfl)) rfl
theorem yd_X6_service : ev_Yd yX6_service RX6 2 := ⟨rfl, by decide +kernel, by decide +kernel, by decide +kernel⟩
theorem lm_X6_service : Cond.code yX6_service cX6_service 3 (some .int) ∈ ev_good := ev_in (ev_t4 _ (List.mem_of_getElem? (i := 137) rfl)) rfl
theorem li_X6_service : Cond.instanceMethod yX6_service ∈ ev_good := ev_in (ev_t4 _ (List.mem_of_getElem? (i := 135) rfl)) rfl
theorem le_X6_service : Cond.selects RX6 yX6_service yX6_service ∈ ev_good := ev_in (ev_t4 _ (List.mem_of_getElem? (i := 136) rfl)) rfl
theorem yd_X6_setOn : ev_Yd yX6_setOn RX6 3 := ⟨rfl, by decide +kernel, by decide +kernel, by decide +kernel⟩
theorem lm_X6_setOn : Cond.code yX6_setOn cX6_setOn 4 (some .int) ∈ ev_good := ev_in (ev_t6 _ (List.mem_of_getElem? (i := 122) rfl)) rfl
theorem li_X6_setOn : Cond.instanceMethod yX6_setOn ∈ ev_good := ev_in (ev_t6 _ (List.mem_of_getElem? (i := 120) rfl)) rfl
theorem le_X6_setOn : Cond.selects RX6 yX6_setOn yX6_setOn ∈ ev_good := ev_in (ev_t6 _ (List.mem_of_getElem? (i := 121) rfl)) rfl
theorem yd_X6_setPort : ev_Yd yX6_setPort RX6 2 := ⟨rfl, by decide +kernel, by decide +kernel, by decide +kernel⟩
theorem lm_X6_setPort : Cond.code yX6_setPort cX6_setPort 4 (some .int) ∈ ev_good := ev_in (ev_t6 _ (List.mem_of_getElem? (i := 111) rfl)) rfl
theorem li_X6_setPort : Cond.instanceMethod yX6_setPort ∈ ev_good := ev_in (ev_t6 _ (List.mem_of_getElem? (i := 109) rfl)) rfl
theorem le_X6_setPort : Cond.selects RX6 yX6_setPort yX6_setPort ∈ ev_good := ev_in (ev_t6 _ (List.mem_of_getElem? (i := 110) rfl)) rfl
theorem yd_X6_setSide : ev_Yd yX6_setSide RX6 2 := ⟨rfl, by decide +kernel, by decide +kernel, by decide +kernel⟩
theorem lm_X6_setSide : Cond.code yX6_setSide cX6_setSide 4 (some .int) ∈ ev_good := ev_in (ev_t6 _ (List.mem_of_getElem? (i := 145) rfl)) rfl
theorem li_X6_setSide : Cond.instanceMethod yX6_setSide ∈ ev_good := ev_in (ev_t6 _ (List.mem_of_getElem? (i := 143) rfl)) rfl
theorem le_X6_setSide : Cond.selects RX6 yX6_setSide yX6_setSide ∈ ev_good := ev_in (ev_t6 _ (List.mem_of_getElem? (i := 144) rfl)) rfl
theorem yd_X6_signOf : ev_Yd yX6_signOf RX6 1 := ⟨rfl, by decide +kernel, by decide +kernel, by decide +kernel⟩
theorem lm_X6_signOf : Cond.code yX6_signOf cX6_signOf 1 (some .int) ∈ ev_good := ev_in (ev_t3 _ (List.mem_of_getElem? (i := 114) rfl)) rfl
theorem ls_X6_signOf : Cond.static yX6_signOf ∈ ev_good := ev_in (ev_t3 _ (List.mem_of_getElem? (i := 113) rfl)) rfl
theorem yd_X6_stale : ev_Yd yX6_stale RX6 0 := ⟨rfl, by decide +kernel, by decide +kernel, by decide +kernel⟩
theorem lm_X6_stale : Cond.code yX6_stale cX6_stale 1 (some .int) ∈ ev_good := ev_in (ev_t3 _ (List.mem_of_getElem? (i := 32) rfl)) rfl
theorem li_X6_stale : Cond.instanceMethod yX6_stale ∈ ev_good := ev_in (ev_t3 _ (List.mem_of_getElem? (i := 30) rfl)) rfl
theorem le_X6_stale : Cond.selects RX6 yX6_stale yX6_stale ∈ ev_good := ev_in (ev_t3 _ (List.mem_of_getElem? (i := 31) rfl)) rfl
theorem yd_X6_truncate : ev_Yd yX6_truncate RX6 1 := ⟨rfl, by decide +kernel, by decide +kernel, by decide +kernel⟩
theorem lm_X6_truncate : Cond.code yX6_truncate cX6_truncate 2 (some .int) ∈ ev_good := ev_in (ev_t3 _ (List.mem_of_getElem? (i := 203) rfl)) rfl
theorem li_X6_truncate : Cond.instanceMethod yX6_truncate ∈ ev_good := ev_in (ev_t3 _ (List.mem_of_getElem? (i := 201) rfl)) rfl
theorem le_X6_truncate : Cond.selects RX6 yX6_truncate yX6_truncate ∈ ev_good := ev_in (ev_t3 _ (List.mem_of_getElem? (i := 202) rfl)) rfl
theorem yd_X6_undo : ev_Yd yX6_undo RX6 0 := ⟨rfl, by decide +kernel, by decide +kernel, by decide +kernel⟩
theorem lm_X6_undo : Cond.code yX6_undo cX6_undo 1 (some .int) ∈ ev_good := ev_in (ev_t6 _ (List.mem_of_getElem? (i := 173) rfl)) rfl
theorem li_X6_undo : Cond.instanceMethod yX6_undo ∈ ev_good := ev_in (ev_t6 _ (List.mem_of_getElem? (i := 171) rfl)) rfl
theorem le_X6_undo : Cond.selects RX6 yX6_undo yX6_undo ∈ ev_good := ev_in (ev_t6 _ (List.mem_of_getElem? (i := 172) rfl)) rfl
theorem yd_X6_why : ev_Yd yX6_why RX6 2 := ⟨rfl, by decide +kernel, by decide +kernel, by decide +kernel⟩
theorem lm_X6_why : Cond.code yX6_why cX6_why 4 (some .int) ∈ ev_good := ev_in (ev_t5 _ (List.mem_of_getElem? (i := 28) rfl)) rfl
theorem li_X6_why : Cond.instanceMethod yX6_why ∈ ev_good := ev_in (ev_t5 _ (List.mem_of_getElem? (i := 26) rfl)) rfl
theorem le_X6_why : Cond.selects RX6 yX6_why yX6_why ∈ ev_good := ev_in (ev_t5 _ (List.mem_of_getElem? (i := 27) rfl)) rfl
theorem yd_X6_withdraw : ev_Yd yX6_withdraw RX6 1 := ⟨rfl, by decide +kernel, by decide +kernel, by decide +kernel⟩
theorem lm_X6_withdraw : Cond.code yX6_withdraw cX6_withdraw 3 (some .int) ∈ ev_good := ev_in (ev_t6 _ (List.mem_of_getElem? (i := 99) rfl)) rfl
theorem li_X6_withdraw : Cond.instanceMethod yX6_withdraw ∈ ev_good := ev_in (ev_t6 _ (List.mem_of_getElem? (i := 97) rfl)) rfl
theorem le_X6_withdraw : Cond.selects RX6 yX6_withdraw yX6_withdraw ∈ ev_good := ev_in (ev_t6 _ (List.mem_of_getElem? (i := 98) rfl)) rfl
theorem yd_X6_write : ev_Yd yX6_write RX6 0 := ⟨rfl, by decide +kernel, by decide +kernel, by decide +kernel⟩
theorem lm_X6_write : Cond.code yX6_write cX6_write 3 (some .int) ∈ ev_good := ev_in (ev_t3 _ (List.mem_of_getElem? (i := 96) rfl)) rfl
theorem li_X6_write : Cond.instanceMethod yX6_write ∈ ev_good := ev_in (ev_t3 _ (List.mem_of_getElem? (i := 94) rfl)) rfl
theorem le_X6_write : Cond.selects RX6 yX6_write yX6_write ∈ ev_good := ev_in (ev_t3 _ (List.mem_of_getElem? (i := 95) rfl)) rfl
theorem yd_X7_acts : ev_Yd yX7_acts RX7 1 := ⟨rfl, by decide +kernel, by decide +kernel, by decide +kernel⟩
theorem lm_X7_acts : Cond.code yX7_acts cX7_acts 3 none ∈ ev_good := ev_in (ev_t8 _ (List.mem_of_getElem? (i := 161) rfl)) rfl
theorem li_X7_acts : Cond.instanceMethod yX7_acts ∈ ev_good := ev_in (ev_t8 _ (List.mem_of_getElem? (i := 160) rfl)) rfl
theorem le_X7_acts : Cond.selects RX7 yX7_acts yX7_acts ∈ ev_good := ev_in (ev_t0 _ (List.mem_of_getElem? (i := 110) rfl)) rfl
theorem yd_X7_add : ev_Yd yX7_add RX7 4 := ⟨rfl, by decide +kernel, by decide +kernel, by decide +kernel⟩
theorem lm_X7_add : Cond.code yX7_add cX7_add 6 (some .int) ∈ ev_good := ev_in (ev_t8 _ (List.mem_of_getElem? (i := 230) rfl)) rfl
theorem li_X7_add : Cond.instanceMethod yX7_add ∈ ev_good := ev_in (ev_t8 _ (List.mem_of_getElem? (i := 228) rfl)) rfl
theorem le_X7_add : Cond.selects RX7 yX7_add yX7_add ∈ ev_good := ev_in (ev_t8 _ (List.mem_of_getElem? (i := 229) rfl)) rfl
theorem yd_X7_append : ev_Yd yX7_append RX7 5 := ⟨rfl, by decide +kernel, by decide +kernel, by decide +kernel⟩
theorem lm_X7_append : Cond.code yX7_append cX7_append 6 (some .int) ∈ ev_good := ev_in (ev_t7 _ (List.mem_of_getElem? (i := 80) rfl)) rfl
theorem li_X7_append : Cond.instanceMethod yX7_append ∈ ev_good := ev_in (ev_t7 _ (List.mem_of_getElem? (i := 78) rfl)) rfl
theorem le_X7_append : Cond.selects RX7 yX7_append yX7_append ∈ ev_good := ev_in (ev_t7 _ (List.mem_of_getElem? (i := 79) rfl)) rfl
theorem yd_X7_asks : ev_Yd yX7_asks RX7 2 := ⟨rfl, by decide +kernel, by decide +kernel, by decide +kernel⟩
theorem lm_X7_asks : Cond.code yX7_asks cX7_asks 7 none ∈ ev_good := ev_in (ev_t8 _ (List.mem_of_getElem? (i := 173) rfl)) rfl
theorem li_X7_asks : Cond.instanceMethod yX7_asks ∈ ev_good := ev_in (ev_t8 _ (List.mem_of_getElem? (i := 172) rfl)) rfl
theorem le_X7_asks : Cond.selects RX7 yX7_asks yX7_asks ∈ ev_good := ev_in (ev_t0 _ (List.mem_of_getElem? (i := 113) rfl)) rfl
theorem yd_X7_baseByte : ev_Yd yX7_baseByte RX7 2 := ⟨rfl, by decide +kernel, by decide +kernel, by decide +kernel⟩
theorem lm_X7_baseByte : Cond.code yX7_baseByte cX7_baseByte 3 (some .int) ∈ ev_good := ev_in (ev_t7 _ (List.mem_of_getElem? (i := 227) rfl)) rfl
theorem li_X7_baseByte : Cond.instanceMethod yX7_baseByte ∈ ev_good := ev_in (ev_t7 _ (List.mem_of_getElem? (i := 225) rfl)) rfl
theorem le_X7_baseByte : Cond.selects RX7 yX7_baseByte yX7_baseByte ∈ ev_good := ev_in (ev_t7 _ (List.mem_of_getElem? (i := 226) rfl)) rfl
theorem yd_X7_begins : ev_Yd yX7_begins RX7 6 := ⟨rfl, by decide +kernel, by decide +kernel, by decide +kernel⟩
theorem lm_X7_begins : Cond.code yX7_begins cX7_begins 8 none ∈ ev_good := ev_in (ev_t6 _ (List.mem_of_getElem? (i := 211) rfl)) rfl
theorem ls_X7_begins : Cond.static yX7_begins ∈ ev_good := ev_in (ev_t6 _ (List.mem_of_getElem? (i := 210) rfl)) rfl
theorem yd_X7_blanks : ev_Yd yX7_blanks RX7 0 := ⟨rfl, by decide +kernel, by decide +kernel, by decide +kernel⟩
theorem lm_X7_blanks : Cond.code yX7_blanks cX7_blanks 1 none ∈ ev_good := ev_in (ev_t7 _ (List.mem_of_getElem? (i := 112) rfl)) rfl
theorem li_X7_blanks : Cond.instanceMethod yX7_blanks ∈ ev_good := ev_in (ev_t7 _ (List.mem_of_getElem? (i := 111) rfl)) rfl
theorem le_X7_blanks : Cond.selects RX7 yX7_blanks yX7_blanks ∈ ev_good := ev_in (ev_t0 _ (List.mem_of_getElem? (i := 69) rfl)) rfl
theorem yd_X7_browse : ev_Yd yX7_browse RX7 3 := ⟨rfl, by decide +kernel, by decide +kernel, by decide +kernel⟩
theorem lm_X7_browse : Cond.code yX7_browse cX7_browse 4 (some .int) ∈ ev_good := ev_in (ev_t9 _ (List.mem_of_getElem? (i := 16) rfl)) rfl
theorem li_X7_browse : Cond.instanceMethod yX7_browse ∈ ev_good := ev_in (ev_t9 _ (List.mem_of_getElem? (i := 14) rfl)) rfl
theorem le_X7_browse : Cond.selects RX7 yX7_browse yX7_browse ∈ ev_good := ev_in (ev_t9 _ (List.mem_of_getElem? (i := 15) rfl)) rfl
theorem yd_X7_browsed : ev_Yd yX7_browsed RX7 1 := ⟨rfl, by decide +kernel, by decide +kernel, by decide +kernel⟩
theorem lm_X7_browsed : Cond.code yX7_browsed cX7_browsed 4 (some .int) ∈ ev_good := ev_in (ev_t7 _ (List.mem_of_getElem? (i := 201) rfl)) rfl
theorem li_X7_browsed : Cond.instanceMethod yX7_browsed ∈ ev_good := ev_in (ev_t7 _ (List.mem_of_getElem? (i := 200) rfl)) rfl
theorem le_X7_browsed : Cond.selects RX7 yX7_browsed yX7_browsed ∈ ev_good := ev_in (ev_t0 _ (List.mem_of_getElem? (i := 82) rfl)) rfl
theorem yd_X7_browser : ev_Yd yX7_browser RX7 3 := ⟨rfl, by decide +kernel, by decide +kernel, by decide +kernel⟩
theorem lm_X7_browser : Cond.code yX7_browser cX7_browser 5 (some .int) ∈ ev_good := ev_in (ev_t8 _ (List.mem_of_getElem? (i := 18) rfl)) rfl
theorem li_X7_browser : Cond.instanceMethod yX7_browser ∈ ev_good := ev_in (ev_t8 _ (List.mem_of_getElem? (i := 16) rfl)) rfl
theorem le_X7_browser : Cond.selects RX7 yX7_browser yX7_browser ∈ ev_good := ev_in (ev_t8 _ (List.mem_of_getElem? (i := 17) rfl)) rfl
theorem yd_X7_browserAt : ev_Yd yX7_browserAt RX7 2 := ⟨rfl, by decide +kernel, by decide +kernel, by decide +kernel⟩
theorem lm_X7_browserAt : Cond.code yX7_browserAt cX7_browserAt 2 (some .int) ∈ ev_good := ev_in (ev_t6 _ (List.mem_of_getElem? (i := 223) rfl)) rfl
theorem ls_X7_browserAt : Cond.static yX7_browserAt ∈ ev_good := ev_in (ev_t6 _ (List.mem_of_getElem? (i := 222) rfl)) rfl
theorem yd_X7_browses : ev_Yd yX7_browses RX7 3 := ⟨rfl, by decide +kernel, by decide +kernel, by decide +kernel⟩
theorem lm_X7_browses : Cond.code yX7_browses cX7_browses 4 none ∈ ev_good := ev_in (ev_t6 _ (List.mem_of_getElem? (i := 220) rfl)) rfl
theorem ls_X7_browses : Cond.static yX7_browses ∈ ev_good := ev_in (ev_t6 _ (List.mem_of_getElem? (i := 219) rfl)) rfl
theorem yd_X7_bytes : ev_Yd yX7_bytes RX7 1 := ⟨rfl, by decide +kernel, by decide +kernel, by decide +kernel⟩
theorem lm_X7_bytes : Cond.code yX7_bytes cX7_bytes 3 none ∈ ev_good := ev_in (ev_t7 _ (List.mem_of_getElem? (i := 84) rfl)) rfl
theorem li_X7_bytes : Cond.instanceMethod yX7_bytes ∈ ev_good := ev_in (ev_t7 _ (List.mem_of_getElem? (i := 83) rfl)) rfl
theorem le_X7_bytes : Cond.selects RX7 yX7_bytes yX7_bytes ∈ ev_good := ev_in (ev_t0 _ (List.mem_of_getElem? (i := 65) rfl)) rfl
theorem yd_X7_caches : ev_Yd yX7_caches RX7 2 := ⟨rfl, by decide +kernel, by decide +kernel, by decide +kernel⟩
theorem lm_X7_caches : Cond.code yX7_caches cX7_caches 8 none ∈ ev_good := ev_in (ev_t8 _ (List.mem_of_getElem? (i := 149) rfl)) rfl
theorem li_X7_caches : Cond.instanceMethod yX7_caches ∈ ev_good := ev_in (ev_t8 _ (List.mem_of_getElem? (i := 148) rfl)) rfl
theorem le_X7_caches : Cond.selects RX7 yX7_caches yX7_caches ∈ ev_good := ev_in (ev_t0 _ (List.mem_of_getElem? (i := 107) rfl)) rfl
theorem yd_X7_clashes : ev_Yd yX7_clashes RX7 0 := ⟨rfl, by decide +kernel, by decide +kernel, by decide +kernel⟩
theorem lm_X7_clashes : Cond.code yX7_clashes cX7_clashes 7 (some .int) ∈ ev_good := ev_in (ev_t8 _ (List.mem_of_getElem? (i := 78) rfl)) rfl
theorem li_X7_clashes : Cond.instanceMethod yX7_clashes ∈ ev_good := ev_in (ev_t8 _ (List.mem_of_getElem? (i := 76) rfl)) rfl
theorem le_X7_clashes : Cond.selects RX7 yX7_clashes yX7_clashes ∈ ev_good := ev_in (ev_t8 _ (List.mem_of_getElem? (i := 77) rfl)) rfl
theorem yd_X7_comes : ev_Yd yX7_comes RX7 2 := ⟨rfl, by decide +kernel, by decide +kernel, by decide +kernel⟩
theorem lm_X7_comes : Cond.code yX7_comes cX7_comes 7 none ∈ ev_good := ev_in (ev_t8 _ (List.mem_of_getElem? (i := 113) rfl)) rfl
theorem li_X7_comes : Cond.instanceMethod yX7_comes ∈ ev_good := ev_in (ev_t8 _ (List.mem_of_getElem? (i := 112) rfl)) rfl
theorem le_X7_comes : Cond.selects RX7 yX7_comes yX7_comes ∈ ev_good := ev_in (ev_t0 _ (List.mem_of_getElem? (i := 98) rfl)) rfl
theorem yd_X7_compares : ev_Yd yX7_compares RX7 2 := ⟨rfl, by decide +kernel, by decide +kernel, by decide +kernel⟩
theorem lm_X7_compares : Cond.code yX7_compares cX7_compares 3 (some .int) ∈ ev_good := ev_in (ev_t8 _ (List.mem_of_getElem? (i := 133) rfl)) rfl
theorem li_X7_compares : Cond.instanceMethod yX7_compares ∈ ev_good := ev_in (ev_t8 _ (List.mem_of_getElem? (i := 132) rfl)) rfl
theorem le_X7_compares : Cond.selects RX7 yX7_compares yX7_compares ∈ ev_good := ev_in (ev_t0 _ (List.mem_of_getElem? (i := 103) rfl)) rfl
theorem yd_X7_content : ev_Yd yX7_content RX7 0 := ⟨rfl, by decide +kernel, by decide +kernel, by decide +kernel⟩
theorem lm_X7_content : Cond.code yX7_content cX7_content 3 (some .int) ∈ ev_good := ev_in (ev_t7 _ (List.mem_of_getElem? (i := 191) rfl)) rfl
theorem li_X7_content : Cond.instanceMethod yX7_content ∈ ev_good := ev_in (ev_t7 _ (List.mem_of_getElem? (i := 190) rfl)) rfl
theorem le_X7_content : Cond.selects RX7 yX7_content yX7_content ∈ ev_good := ev_in (ev_t0 _ (List.mem_of_getElem? (i := 81) rfl)) rfl
theorem yd_X7_copies : ev_Yd yX7_copies RX7 4 := ⟨rfl, by decide +kernel, by decide +kernel, by decide +kernel⟩
theorem lm_X7_copies : Cond.code yX7_copies cX7_copies 6 none ∈ ev_good := ev_in (ev_t8 _ (List.mem_of_getElem? (i := 97) rfl)) rfl
theorem ls_X7_copies : Cond.static yX7_copies ∈ ev_good := ev_in (ev_t8 _ (List.mem_of_getElem? (i := 96) rfl)) rfl
theorem yd_X7_count : ev_Yd yX7_count RX7 1 := ⟨rfl, by decide +kernel, by decide +kernel, by decide +kernel⟩
theorem lm_X7_count : Cond.code yX7_count cX7_count 4 (some .int) ∈ ev_good := ev_in (ev_t7 _ (List.mem_of_getElem? (i := 196) rfl)) rfl
theorem li_X7_count : Cond.instanceMethod yX7_count ∈ ev_good := ev_in (ev_t7 _ (List.mem_of_getElem? (i := 194) rfl)) rfl
theorem le_X7_count : Cond.selects RX7 yX7_count yX7_count ∈ ev_good := ev_in (ev_t7 _ (List.mem_of_getElem? (i := 195) rfl)) rfl
theorem yd_X7_coverage : ev_Yd yX7_coverage RX7 0 := ⟨rfl, by decide +kernel, by decide +kernel, by decide +kernel⟩
theorem lm_X7_coverage : Cond.code yX7_coverage cX7_coverage 8 (some .double) ∈ ev_good := ev_in (ev_t8 _ (List.mem_of_getElem? (i := 82) rfl)) rfl
theorem li_X7_coverage : Cond.instanceMethod yX7_coverage ∈ ev_good := ev_in (ev_t8 _ (List.mem_of_getElem? (i := 80) rfl)) rfl
theorem le_X7_coverage : Cond.selects RX7 yX7_coverage yX7_coverage ∈ ev_good := ev_in (ev_t8 _ (List.mem_of_getElem? (i := 81) rfl)) rfl
theorem yd_X7_delivers : ev_Yd yX7_delivers RX7 0 := ⟨rfl, by decide +kernel, by decide +kernel, by decide +kernel⟩
theorem lm_X7_delivers : Cond.code yX7_delivers cX7_delivers 5 none ∈ ev_good := ev_in (ev_t8 _ (List.mem_of_getElem? (i := 109) rfl)) rfl
theorem li_X7_delivers : Cond.instanceMethod yX7_delivers ∈ ev_good := ev_in (ev_t8 _ (List.mem_of_getElem? (i := 108) rfl)) rfl
theorem le_X7_delivers : Cond.selects RX7 yX7_delivers yX7_delivers ∈ ev_good := ev_in (ev_t0 _ (List.mem_of_getElem? (i := 97) rfl)) rfl
theorem yd_X7_errorCode : ev_Yd yX7_errorCode RX7 0 := ⟨rfl, by decide +kernel, by decide +kernel, by decide +kernel⟩
theorem lm_X7_errorCode : Cond.code yX7_errorCode cX7_errorCode 1 (some .int) ∈ ev_good := ev_in (ev_t7 _ (List.mem_of_getElem? (i := 179) rfl)) rfl
theorem li_X7_errorCode : Cond.instanceMethod yX7_errorCode ∈ ev_good := ev_in (ev_t7 _ (List.mem_of_getElem? (i := 177) rfl)) rfl
theorem le_X7_errorCode : Cond.selects RX7 yX7_errorCode yX7_errorCode ∈ ev_good := ev_in (ev_t7 _ (List.mem_of_getElem? (i := 178) rfl)) rfl
theorem yd_X7_errorPosition : ev_Yd yX7_errorPosition RX7 0 := ⟨rfl, by decide +kernel, by decide +kernel, by decide +kernel⟩
theorem lm_X7_errorPosition : Cond.code yX7_errorPosition cX7_errorPosition 1 (some .int) ∈ ev_good := ev_in (ev_t7 _ (List.mem_of_getElem? (i := 183) rfl)) rfl
theorem li_X7_errorPosition : Cond.instanceMethod yX7_errorPosition ∈ ev_good := ev_in (ev_t7 _ (List.mem_of_getElem? (i := 181) rfl)) rfl
theorem le_X7_errorPosition : Cond.selects RX7 yX7_errorPosition yX7_errorPosition ∈ ev_good := ev_in (ev_t7 _ (List.mem_of_getElem? (i := 182) rfl)) rfl
theorem yd_X7_establishedIn : ev_Yd yX7_establishedIn RX7 1 := ⟨rfl, by decide +kernel, by decide +kernel, by decide +kernel⟩
theorem lm_X7_establishedIn : Cond.code yX7_establishedIn cX7_establishedIn 3 (some .int) ∈ ev_good := ev_in (ev_t8 _ (List.mem_of_getElem? (i := 90) rfl)) rfl
theorem li_X7_establishedIn : Cond.instanceMethod yX7_establishedIn ∈ ev_good := ev_in (ev_t8 _ (List.mem_of_getElem? (i := 88) rfl)) rfl
theorem le_X7_establishedIn : Cond.selects RX7 yX7_establishedIn yX7_establishedIn ∈ ev_good := ev_in (ev_t8 _ (List.mem_of_getElem? (i := 89) rfl)) rfl
theorem yd_X7_establishes : ev_Yd yX7_establishes RX7 1 := ⟨rfl, by decide +kernel, by decide +kernel, by decide +kernel⟩
theorem lm_X7_establishes : Cond.code yX7_establishes cX7_establishes 3 (some .int) ∈ ev_good := ev_in (ev_t8 _ (List.mem_of_getElem? (i := 101) rfl)) rfl
theorem li_X7_establishes : Cond.instanceMethod yX7_establishes ∈ ev_good := ev_in (ev_t8 _ (List.mem_of_getElem? (i := 100) rfl)) rfl
theorem le_X7_establishes : Cond.selects RX7 yX7_establishes yX7_establishes ∈ ev_good := ev_in (ev_t0 _ (List.mem_of_getElem? (i := 95) rfl)) rfl
theorem yd_X7_expires : ev_Yd yX7_expires RX7 1 := ⟨rfl, by decide +kernel, by decide +kernel, by decide +kernel⟩
theorem lm_X7_expires : Cond.code yX7_expires cX7_expires 4 none ∈ ev_good := ev_in (ev_t8 _ (List.mem_of_getElem? (i := 157) rfl)) rfl
theorem li_X7_expires : Cond.instanceMethod yX7_expires ∈ ev_good := ev_in (ev_t8 _ (List.mem_of_getElem? (i := 156) rfl)) rfl
theorem le_X7_expires : Cond.selects RX7 yX7_expires yX7_expires ∈ ev_good := ev_in (ev_t0 _ (List.mem_of_getElem? (i := 109) rfl)) rfl
theorem yd_X7_fault : ev_Yd yX7_fault RX7 2 := ⟨rfl, by decide +kernel, by decide +kernel, by decide +kernel⟩
theorem lm_X7_fault : Cond.code yX7_fault cX7_fault 3 none ∈ ev_good := ev_in (ev_t7 _ (List.mem_of_getElem? (i := 128) rfl)) rfl
theorem li_X7_fault : Cond.instanceMethod yX7_fault ∈ ev_good := ev_in (ev_t7 _ (List.mem_of_getElem? (i := 127) rfl)) rfl
theorem le_X7_fault : Cond.selects RX7 yX7_fault yX7_fault ∈ ev_good := ev_in (ev_t0 _ (List.mem_of_getElem? (i := 72) rfl)) rfl
theorem yd_X7_find : ev_Yd yX7_find RX7 1 := ⟨rfl, by decide +kernel, by decide +kernel, by decide +kernel⟩
theorem lm_X7_find : Cond.code yX7_find cX7_find 5 (some .int) ∈ ev_good := ev_in (ev_t7 _ (List.mem_of_getElem? (i := 187) rfl)) rfl
theorem li_X7_find : Cond.instanceMethod yX7_find ∈ ev_good := ev_in (ev_t7 _ (List.mem_of_getElem? (i := 185) rfl)) rfl
theorem le_X7_find : Cond.selects RX7 yX7_find yX7_find ∈ ev_good := ev_in (ev_t7 _ (List.mem_of_getElem? (i := 186) rfl)) rfl
theorem yd_X7_freshIn : ev_Yd yX7_freshIn RX7 0 := ⟨rfl, by decide +kernel, by decide +kernel, by decide +kernel⟩
theorem lm_X7_freshIn : Cond.code yX7_freshIn cX7_freshIn 2 (some .int) ∈ ev_good := ev_in (ev_t8 _ (List.mem_of_getElem? (i := 194) rfl)) rfl
theorem li_X7_freshIn : Cond.instanceMethod yX7_freshIn ∈ ev_good := ev_in (ev_t8 _ (List.mem_of_getElem? (i := 192) rfl)) rfl
theorem le_X7_freshIn : Cond.selects RX7 yX7_freshIn yX7_freshIn ∈ ev_good := ev_in (ev_t8 _ (List.mem_of_getElem? (i := 193) rfl)) rfl
theorem yd_X7_goesOff : ev_Yd yX7_goesOff RX7 2 := ⟨rfl, by decide +kernel, by decide +kernel, by decide +kernel⟩
theorem lm_X7_goesOff : Cond.code yX7_goesOff cX7_goesOff 5 none ∈ ev_good := ev_in (ev_t9 _ (List.mem_of_getElem? (i := 8) rfl)) rfl
theorem li_X7_goesOff : Cond.instanceMethod yX7_goesOff ∈ ev_good := ev_in (ev_t9 _ (List.mem_of_getElem? (i := 7) rfl)) rfl
theorem le_X7_goesOff : Cond.selects RX7 yX7_goesOff yX7_goesOff ∈ ev_good := ev_in (ev_t0 _ (List.mem_of_getElem? (i := 119) rfl)) rfl
theorem yd_X7_hasName : ev_Yd yX7_hasName RX7 6 := ⟨rfl, by decide +kernel, by decide +kernel, by decide +kernel⟩
theorem lm_X7_hasName : Cond.code yX7_hasName cX7_hasName 8 (some .boolean) ∈ ev_good := ev_in (ev_t7 _ (List.mem_of_getElem? (i := 156) rfl)) rfl
theorem ls_X7_hasName : Cond.static yX7_hasName ∈ ev_good := ev_in (ev_t7 _ (List.mem_of_getElem? (i := 155) rfl)) rfl
theorem yd_X7_haveSameName : ev_Yd yX7_haveSameName RX7 2 := ⟨rfl, by decide +kernel, by decide +kernel, by decide +kernel⟩
theorem lm_X7_haveSameName : Cond.code yX7_haveSameName cX7_haveSameName 3 (some .boolean) ∈ ev_good := ev_in (ev_t7 _ (List.mem_of_getElem? (i := 234) rfl)) rfl
theorem li_X7_haveSameName : Cond.instanceMethod yX7_haveSameName ∈ ev_good := ev_in (ev_t7 _ (List.mem_of_getElem? (i := 232) rfl)) rfl
theorem le_X7_haveSameName : Cond.selects RX7 yX7_haveSameName yX7_haveSameName ∈ ev_good := ev_in (ev_t7 _ (List.mem_of_getElem? (i := 233) rfl)) rfl
theorem yd_X7_host : ev_Yd yX7_host RX7 2 := ⟨rfl, by decide +kernel, by decide +kernel, by decide +kernel⟩
theorem lm_X7_host : Cond.code yX7_host cX7_host 5 (some .int) ∈ ev_good := ev_in (ev_t7 _ (List.mem_of_getElem? (i := 209) rfl)) rfl
theorem li_X7_host : Cond.instanceMethod yX7_host ∈ ev_good := ev_in (ev_t7 _ (List.mem_of_getElem? (i := 207) rfl)) rfl
theorem le_X7_host : Cond.selects RX7 yX7_host yX7_host ∈ ev_good := ev_in (ev_t7 _ (List.mem_of_getElem? (i := 208) rfl)) rfl
theorem yd_X7_hostAt : ev_Yd yX7_hostAt RX7 1 := ⟨rfl, by decide +kernel, by decide +kernel, by decide +kernel⟩
theorem lm_X7_hostAt : Cond.code yX7_hostAt cX7_hostAt 1 (some .int) ∈ ev_good := ev_in (ev_t6 _ (List.mem_of_getElem? (i := 217) rfl)) rfl
theorem ls_X7_hostAt : Cond.static yX7_hostAt ∈ ev_good := ev_in (ev_t6 _ (List.mem_of_getElem? (i := 216) rfl)) rfl
theorem yd_X7_in : ev_Yd yX7_in RX7 3 := ⟨rfl, by decide +kernel, by decide +kernel, by decide +kernel⟩
theorem lm_X7_in : Cond.code yX7_in cX7_in 6 (some .boolean) ∈ ev_good := ev_in (ev_t7 _ (List.mem_of_getElem? (i := 91) rfl)) rfl
theorem ls_X7_in : Cond.static yX7_in ∈ ev_good := ev_in (ev_t7 _ (List.mem_of_getElem? (i := 90) rfl)) rfl
theorem yd_X7_init : ev_Yd yX7_init RX7 0 := ⟨rfl, by decide +kernel, by decide +kernel, by decide +kernel⟩
theorem lm_X7_init : Cond.code yX7_init cX7_init 1 none ∈ ev_good := ev_in (ev_t6 _ (List.mem_of_getElem? (i := 204) rfl)) rfl
theorem li_X7_init : Cond.instanceMethod yX7_init ∈ ev_good := ev_in (ev_t6 _ (List.mem_of_getElem? (i := 203) rfl)) rfl
theorem yd_X7_isAnswered : ev_Yd yX7_isAnswered RX7 2 := ⟨rfl, by decide +kernel, by decide +kernel, by decide +kernel⟩
theorem lm_X7_isAnswered : Cond.code yX7_isAnswered cX7_isAnswered 7 (some .boolean) ∈ ev_good := ev_in (ev_t8 _ (List.mem_of_getElem? (i := 145) rfl)) rfl
theorem li_X7_isAnswered : Cond.instanceMethod yX7_isAnswered ∈ ev_good := ev_in (ev_t8 _ (List.mem_of_getElem? (i := 144) rfl)) rfl
theorem le_X7_isAnswered : Cond.selects RX7 yX7_isAnswered yX7_isAnswered ∈ ev_good := ev_in (ev_t0 _ (List.mem_of_getElem? (i := 106) rfl)) rfl
theorem yd_X7_isHost : ev_Yd yX7_isHost RX7 1 := ⟨rfl, by decide +kernel, by decide +kernel, by decide +kernel⟩
theorem lm_X7_isHost : Cond.code yX7_isHost cX7_isHost 2 (some .boolean) ∈ ev_good := ev_in (ev_t7 _ (List.mem_of_getElem? (i := 213) rfl)) rfl
theorem li_X7_isHost : Cond.instanceMethod yX7_isHost ∈ ev_good := ev_in (ev_t7 _ (List.mem_of_getElem? (i := 212) rfl)) rfl
theorem le_X7_isHost : Cond.selects RX7 yX7_isHost yX7_isHost ∈ ev_good := ev_in (ev_t0 _ (List.mem_of_getElem? (i := 84) rfl)) rfl
theorem yd_X7_isIn : ev_Yd yX7_isIn RX7 2 := ⟨rfl, by decide +kernel, by decide +kernel, by decide +kernel⟩
theorem lm_X7_isIn : Cond.code yX7_isIn cX7_isIn 3 (some .boolean) ∈ ev_good := ev_in (ev_t7 _ (List.mem_of_getElem? (i := 175) rfl)) rfl
theorem ls_X7_isIn : Cond.static yX7_isIn ∈ ev_good := ev_in (ev_t7 _ (List.mem_of_getElem? (i := 174) rfl)) rfl
theorem yd_X7_isLetter : ev_Yd yX7_isLetter RX7 1 := ⟨rfl, by decide +kernel, by decide +kernel, by decide +kernel⟩
theorem lm_X7_isLetter : Cond.code yX7_isLetter cX7_isLetter 2 (some .boolean) ∈ ev_good := ev_in (ev_t7 _ (List.mem_of_getElem? (i := 120) rfl)) rfl
theorem li_X7_isLetter : Cond.instanceMethod yX7_isLetter ∈ ev_good := ev_in (ev_t7 _ (List.mem_of_getElem? (i := 119) rfl)) rfl
theorem le_X7_isLetter : Cond.selects RX7 yX7_isLetter yX7_isLetter ∈ ev_good := ev_in (ev_t0 _ (List.mem_of_getElem? (i := 71) rfl)) rfl
theorem yd_X7_isMarked : ev_Yd yX7_isMarked RX7 1 := ⟨rfl, by decide +kernel, by decide +kernel, by decide +kernel⟩
theorem lm_X7_isMarked : Cond.code yX7_isMarked cX7_isMarked 2 (some .boolean) ∈ ev_good := ev_in (ev_t8 _ (List.mem_of_getElem? (i := 37) rfl)) rfl
theorem li_X7_isMarked : Cond.instanceMethod yX7_isMarked ∈ ev_good := ev_in (ev_t8 _ (List.mem_of_getElem? (i := 35) rfl)) rfl
theorem le_X7_isMarked : Cond.selects RX7 yX7_isMarked yX7_isMarked ∈ ev_good := ev_in (ev_t8 _ (List.mem_of_getElem? (i := 36) rfl)) rfl
theorem yd_X7_isOld : ev_Yd yX7_isOld RX7 1 := ⟨rfl, by decide +kernel, by decide +kernel, by decide +kernel⟩
theorem lm_X7_isOld : Cond.code yX7_isOld cX7_isOld 2 (some .boolean) ∈ ev_good := ev_in (ev_t8 _ (List.mem_of_getElem? (i := 169) rfl)) rfl
theorem li_X7_isOld : Cond.instanceMethod yX7_isOld ∈ ev_good := ev_in (ev_t8 _ (List.mem_of_getElem? (i := 168) rfl)) rfl
theorem le_X7_isOld : Cond.selects RX7 yX7_isOld yX7_isOld ∈ ev_good := ev_in (ev_t0 _ (List.mem_of_getElem? (i := 112) rfl)) rfl
theorem yd_X7_isRecord : ev_Yd yX7_isRecord RX7 2 := ⟨rfl, by decide +kernel, by decide +kernel, by decide +kernel⟩
theorem lm_X7_isRecord : Cond.code yX7_isRecord cX7_isRecord 3 (some .boolean) ∈ ev_good := ev_in (ev_t8 _ (List.mem_of_getElem? (i := 6) rfl)) rfl
theorem li_X7_isRecord : Cond.instanceMethod yX7_isRecord ∈ ev_good := ev_in (ev_t8 _ (List.mem_of_getElem? (i := 5) rfl)) rfl
theorem le_X7_isRecord : Cond.selects RX7 yX7_isRecord yX7_isRecord ∈ ev_good := ev_in (ev_t0 _ (List.mem_of_getElem? (i := 87) rfl)) rfl
theorem yd_X7_isSame : ev_Yd yX7_isSame RX7 2 := ⟨rfl, by decide +kernel, by decide +kernel, by decide +kernel⟩
theorem lm_X7_isSame : Cond.code yX7_isSame cX7_isSame 3 (some .boolean) ∈ ev_good := ev_in (ev_t7 _ (List.mem_of_getElem? (i := 238) rfl)) rfl
theorem li_X7_isSame : Cond.instanceMethod yX7_isSame ∈ ev_good := ev_in (ev_t7 _ (List.mem_of_getElem? (i := 237) rfl)) rfl
theorem le_X7_isSame : Cond.selects RX7 yX7_isSame yX7_isSame ∈ ev_good := ev_in (ev_t0 _ (List.mem_of_getElem? (i := 86) rfl)) rfl
theorem yd_X7_isService : ev_Yd yX7_isService RX7 1 := ⟨rfl, by decide +kernel, by decide +kernel, by decide +kernel⟩
theorem lm_X7_isService : Cond.code yX7_isService cX7_isService 2 (some .boolean) ∈ ev_good := ev_in (ev_t7 _ (List.mem_of_getElem? (i := 222) rfl)) rfl
theorem li_X7_isService : Cond.instanceMethod yX7_isService ∈ ev_good := ev_in (ev_t7 _ (List.mem_of_getElem? (i := 221) rfl)) rfl
theorem le_X7_isService : Cond.selects RX7 yX7_isService yX7_isService ∈ ev_good := ev_in (ev_t0 _ (List.mem_of_getElem? (i := 85) rfl)) rfl
theorem yd_X7_isThere : ev_Yd yX7_isThere RX7 1 := ⟨rfl, by decide +kernel, by decide +kernel, by decide +kernel⟩
theorem lm_X7_isThere : Cond.code yX7_isThere cX7_isThere 3 (some .boolean) ∈ ev_good := ev_in (ev_t8 _ (List.mem_of_getElem? (i := 74) rfl)) rfl
theorem li_X7_isThere : Cond.instanceMethod yX7_isThere ∈ ev_good := ev_in (ev_t8 _ (List.mem_of_getElem? (i := 73) rfl)) rfl
theorem le_X7_isThere : Cond.selects RX7 yX7_isThere yX7_isThere ∈ ev_good := ev_in (ev_t0 _ (List.mem_of_getElem? (i := 93) rfl)) rfl
theorem yd_X7_isType : ev_Yd yX7_isType RX7 1 := ⟨rfl, by decide +kernel, by decide +kernel, by decide +kernel⟩
theorem lm_X7_isType : Cond.code yX7_isType cX7_isType 2 (some .boolean) ∈ ev_good := ev_in (ev_t8 _ (List.mem_of_getElem? (i := 22) rfl)) rfl
theorem li_X7_isType : Cond.instanceMethod yX7_isType ∈ ev_good := ev_in (ev_t8 _ (List.mem_of_getElem? (i := 21) rfl)) rfl
theorem le_X7_isType : Cond.selects RX7 yX7_isType yX7_isType ∈ ev_good := ev_in (ev_t0 _ (List.mem_of_getElem? (i := 88) rfl)) rfl
theorem yd_X7_keeps : ev_Yd yX7_keeps RX7 0 := ⟨rfl, by decide +kernel, by decide +kernel, by decide +kernel⟩
theorem lm_X7_keeps : Cond.code yX7_keeps cX7_keeps 1 none ∈ ev_good := ev_in (ev_t8 _ (List.mem_of_getElem? (i := 226) rfl)) rfl
theorem li_X7_keeps : Cond.instanceMethod yX7_keeps ∈ ev_good := ev_in (ev_t8 _ (List.mem_of_getElem? (i := 225) rfl)) rfl
theorem le_X7_keeps : Cond.selects RX7 yX7_keeps yX7_keeps ∈ ev_good := ev_in (ev_t0 _ (List.mem_of_getElem? (i := 118) rfl)) rfl
theorem yd_X7_knownAt : ev_Yd yX7_knownAt RX7 2 := ⟨rfl, by decide +kernel, by decide +kernel, by decide +kernel⟩
theorem lm_X7_knownAt : Cond.code yX7_knownAt cX7_knownAt 2 (some .int) ∈ ev_good := ev_in (ev_t8 _ (List.mem_of_getElem? (i := 33) rfl)) rfl
theorem ls_X7_knownAt : Cond.static yX7_knownAt ∈ ev_good := ev_in (ev_t8 _ (List.mem_of_getElem? (i := 32) rfl)) rfl
theorem yd_X7_knownIn : ev_Yd yX7_knownIn RX7 2 := ⟨rfl, by decide +kernel, by decide +kernel, by decide +kernel⟩
theorem lm_X7_knownIn : Cond.code yX7_knownIn cX7_knownIn 4 (some .int) ∈ ev_good := ev_in (ev_t8 _ (List.mem_of_getElem? (i := 186) rfl)) rfl
theorem li_X7_knownIn : Cond.instanceMethod yX7_knownIn ∈ ev_good := ev_in (ev_t8 _ (List.mem_of_getElem? (i := 184) rfl)) rfl
theorem le_X7_knownIn : Cond.selects RX7 yX7_knownIn yX7_knownIn ∈ ev_good := ev_in (ev_t8 _ (List.mem_of_getElem? (i := 185) rfl)) rfl
theorem yd_X7_knownPort : ev_Yd yX7_knownPort RX7 2 := ⟨rfl, by decide +kernel, by decide +kernel, by decide +kernel⟩
theorem lm_X7_knownPort : Cond.code yX7_knownPort cX7_knownPort 4 (some .int) ∈ ev_good := ev_in (ev_t8 _ (List.mem_of_getElem? (i := 50) rfl)) rfl
theorem li_X7_knownPort : Cond.instanceMethod yX7_knownPort ∈ ev_good := ev_in (ev_t8 _ (List.mem_of_getElem? (i := 49) rfl)) rfl
theorem le_X7_knownPort : Cond.selects RX7 yX7_knownPort yX7_knownPort ∈ ev_good := ev_in (ev_t0 _ (List.mem_of_getElem? (i := 89) rfl)) rfl
theorem yd_X7_known_ : ev_Yd yX7_known_ RX7 2 := ⟨rfl, by decide +kernel, by decide +kernel, by decide +kernel⟩
theorem lm_X7_known_ : Cond.code yX7_known_ cX7_known_ 3 (some .int) ∈ ev_good := ev_in (ev_t8 _ (List.mem_of_getElem? (i := 46) rfl)) rfl
theorem li_X7_known_ : Cond.instanceMethod yX7_known_ ∈ ev_good := ev_in (ev_t8 _ (List.mem_of_getElem? (i := 44) rfl)) rfl
theorem le_X7_known_ : Cond.selects RX7 yX7_known_ yX7_known_ ∈ ev_good := ev_in (ev_t8 _ (List.mem_of_getElem? (i := 45) rfl)) rfl
theorem yd_X7_lays : ev_Yd yX7_lays RX7 0 := ⟨rfl, by decide +kernel, by decide +kernel, by decide +kernel⟩
theorem lm_X7_lays : Cond.code yX7_lays cX7_lays 1 none ∈ ev_good := ev_in (ev_t8 _ (List.mem_of_getElem? (i := 94) rfl)) rfl
theorem li_X7_lays : Cond.instanceMethod yX7_lays ∈ ev_good := ev_in (ev_t8 _ (List.mem_of_getElem? (i := 93) rfl)) rfl
theorem le_X7_lays : Cond.selects RX7 yX7_lays yX7_lays ∈ ev_good := ev_in (ev_t0 _ (List.mem_of_getElem? (i := 94) rfl)) rfl
theorem yd_X7_letterOf : ev_Yd yX7_letterOf RX7 2 := ⟨rfl, by decide +kernel, by decide +kernel, by decide +kernel⟩
theorem lm_X7_letterOf : Cond.code yX7_letterOf cX7_letterOf 5 (some .int) ∈ ev_good := ev_in (ev_t7 _ (List.mem_of_getElem? (i := 230) rfl)) rfl
theorem ls_X7_letterOf : Cond.static yX7_letterOf ∈ ev_good := ev_in (ev_t7 _ (List.mem_of_getElem? (i := 229) rfl)) rfl
theorem yd_X7_load : ev_Yd yX7_load RX7 0 := ⟨rfl, by decide +kernel, by decide +kernel, by decide +kernel⟩
theorem lm_X7_load : Cond.code yX7_load cX7_load 1 (some .int) ∈ ev_good := ev_in (ev_t7 _ (List.mem_of_getElem? (i := 95) rfl)) rfl
theorem li_X7_load : Cond.instanceMethod yX7_load ∈ ev_good := ev_in (ev_t7 _ (List.mem_of_getElem? (i := 93) rfl)) rfl
theorem le_X7_load : Cond.selects RX7 yX7_load yX7_load ∈ ev_good := ev_in (ev_t7 _ (List.mem_of_getElem? (i := 94) rfl)) rfl
theorem yd_X7_log : ev_Yd yX7_log RX7 2 := ⟨rfl, by decide +kernel, by decide +kernel, by decide +kernel⟩
theorem lm_X7_log : Cond.code yX7_log cX7_log 3 (some .int) ∈ ev_good := ev_in (ev_t8 _ (List.mem_of_getElem? (i := 42) rfl)) rfl
theorem li_X7_log : Cond.instanceMethod yX7_log ∈ ev_good := ev_in (ev_t8 _ (List.mem_of_getElem? (i := 40) rfl)) rfl
theorem le_X7_log : Cond.selects RX7 yX7_log yX7_log ∈ ev_good := ev_in (ev_t8 _ (List.mem_of_getElem? (i := 41) rfl)) rfl
theorem yd_X7_logged : ev_Yd yX7_logged RX7 0 := ⟨rfl, by decide +kernel, by decide +kernel, by decide +kernel⟩
theorem lm_X7_logged : Cond.code yX7_logged cX7_logged 1 (some .int) ∈ ev_good := ev_in (ev_t7 _ (List.mem_of_getElem? (i := 205) rfl)) rfl
theorem li_X7_logged : Cond.instanceMethod yX7_logged ∈ ev_good := ev_in (ev_t7 _ (List.mem_of_getElem? (i := 204) rfl)) rfl
theorem le_X7_logged : Cond.selects RX7 yX7_logged yX7_logged ∈ ev_good := ev_in (ev_t0 _ (List.mem_of_getElem? (i := 83) rfl)) rfl
theorem yd_X7_logs : ev_Yd yX7_logs RX7 3 := ⟨rfl, by decide +kernel, by decide +kernel, by decide +kernel⟩
theorem lm_X7_logs : Cond.code yX7_logs cX7_logs 5 none ∈ ev_good := ev_in (ev_t8 _ (List.mem_of_getElem? (i := 129) rfl)) rfl
theorem li_X7_logs : Cond.instanceMethod yX7_logs ∈ ev_good := ev_in (ev_t8 _ (List.mem_of_getElem? (i := 128) rfl)) rfl
theorem le_X7_logs : Cond.selects RX7 yX7_logs yX7_logs ∈ ev_good := ev_in (ev_t0 _ (List.mem_of_getElem? (i := 102) rfl)) rfl
theorem yd_X7_looks : ev_Yd yX7_looks RX7 2 := ⟨rfl, by decide +kernel, by decide +kernel, by decide +kernel⟩
theorem lm_X7_looks : Cond.code yX7_looks cX7_looks 8 none ∈ ev_good := ev_in (ev_t8 _ (List.mem_of_getElem? (i := 165) rfl)) rfl
theorem li_X7_looks : Cond.instanceMethod yX7_looks ∈ ev_good := ev_in (ev_t8 _ (List.mem_of_getElem? (i := 164) rfl)) rfl
theorem le_X7_looks : Cond.selects RX7 yX7_looks yX7_looks ∈ ev_good := ev_in (ev_t0 _ (List.mem_of_getElem? (i := 111) rfl)) rfl
theorem yd_X7_mark : ev_Yd yX7_mark RX7 1 := ⟨rfl, by decide +kernel, by decide +kernel, by decide +kernel⟩
theorem lm_X7_mark : Cond.code yX7_mark cX7_mark 2 (some .int) ∈ ev_good := ev_in (ev_t9 _ (List.mem_of_getElem? (i := 20) rfl)) rfl
theorem li_X7_mark : Cond.instanceMethod yX7_mark ∈ ev_good := ev_in (ev_t9 _ (List.mem_of_getElem? (i := 18) rfl)) rfl
theorem le_X7_mark : Cond.selects RX7 yX7_mark yX7_mark ∈ ev_good := ev_in (ev_t9 _ (List.mem_of_getElem? (i := 19) rfl)) rfl
theorem yd_X7_meets : ev_Yd yX7_meets RX7 2 := ⟨rfl, by decide +kernel, by decide +kernel, by decide +kernel⟩
theorem lm_X7_meets : Cond.code yX7_meets cX7_meets 5 none ∈ ev_good := ev_in (ev_t8 _ (List.mem_of_getElem? (i := 117) rfl)) rfl
theorem li_X7_meets : Cond.instanceMethod yX7_meets ∈ ev_good := ev_in (ev_t8 _ (List.mem_of_getElem? (i := 116) rfl)) rfl
theorem le_X7_meets : Cond.selects RX7 yX7_meets yX7_meets ∈ ev_good := ev_in (ev_t0 _ (List.mem_of_getElem? (i := 99) rfl)) rfl
theorem yd_X7_message : ev_Yd yX7_message RX7 2 := ⟨rfl, by decide +kernel, by decide +kernel, by decide +kernel⟩
theorem lm_X7_message : Cond.code yX7_message cX7_message 5 (some .int) ∈ ev_good := ev_in (ev_t8 _ (List.mem_of_getElem? (i := 27) rfl)) rfl
theorem li_X7_message : Cond.instanceMethod yX7_message ∈ ev_good := ev_in (ev_t8 _ (List.mem_of_getElem? (i := 25) rfl)) rfl
theorem le_X7_message : Cond.selects RX7 yX7_message yX7_message ∈ ev_good := ev_in (ev_t8 _ (List.mem_of_getElem? (i := 26) rfl)) rfl
theorem yd_X7_messageAt : ev_Yd yX7_messageAt RX7 1 := ⟨rfl, by decide +kernel, by decide +kernel, by decide +kernel⟩
theorem lm_X7_messageAt : Cond.code yX7_messageAt cX7_messageAt 1 (some .int) ∈ ev_good := ev_in (ev_t8 _ (List.mem_of_getElem? (i := 30) rfl)) rfl
theorem ls_X7_messageAt : Cond.static yX7_messageAt ∈ ev_good := ev_in (ev_t8 _ (List.mem_of_getElem? (i := 29) rfl)) rfl
theorem yd_X7_messagesIn : ev_Yd yX7_messagesIn RX7 1 := ⟨rfl, by decide +kernel, by decide +kernel, by decide +kernel⟩
theorem lm_X7_messagesIn : Cond.code yX7_messagesIn cX7_messagesIn 4 (some .int) ∈ ev_good := ev_in (ev_t8 _ (List.mem_of_getElem? (i := 190) rfl)) rfl
theorem li_X7_messagesIn : Cond.instanceMethod yX7_messagesIn ∈ ev_good := ev_in (ev_t8 _ (List.mem_of_getElem? (i := 188) rfl)) rfl
theorem le_X7_messagesIn : Cond.selects RX7 yX7_messagesIn yX7_messagesIn ∈ ev_good := ev_in (ev_t8 _ (List.mem_of_getElem? (i := 189) rfl)) rfl
theorem yd_X7_names : ev_Yd yX7_names RX7 3 := ⟨rfl, by decide +kernel, by decide +kernel, by decide +kernel⟩
theorem lm_X7_names : Cond.code yX7_names cX7_names 8 (some .int) ∈ ev_good := ev_in (ev_t7 _ (List.mem_of_getElem? (i := 104) rfl)) rfl
theorem li_X7_names : Cond.instanceMethod yX7_names ∈ ev_good := ev_in (ev_t7 _ (List.mem_of_getElem? (i := 103) rfl)) rfl
theorem le_X7_names : Cond.selects RX7 yX7_names yX7_names ∈ ev_good := ev_in (ev_t0 _ (List.mem_of_getElem? (i := 67) rfl)) rfl
theorem yd_X7_numberIf : ev_Yd yX7_numberIf RX7 4 := ⟨rfl, by decide +kernel, by decide +kernel, by decide +kernel⟩
theorem lm_X7_numberIf : Cond.code yX7_numberIf cX7_numberIf 9 (some .int) ∈ ev_good := ev_in (ev_t8 _ (List.mem_of_getElem? (i := 198) rfl)) rfl
theorem li_X7_numberIf : Cond.instanceMethod yX7_numberIf ∈ ev_good := ev_in (ev_t8 _ (List.mem_of_getElem? (i := 196) rfl)) rfl
theorem le_X7_numberIf : Cond.selects RX7 yX7_numberIf yX7_numberIf ∈ ev_good := ev_in (ev_t8 _ (List.mem_of_getElem? (i := 197) rfl)) rfl
theorem yd_X7_numberIn : ev_Yd yX7_numberIn RX7 2 := ⟨rfl, by decide +kernel, by decide +kernel, by decide +kernel⟩
theorem lm_X7_numberIn : Cond.code yX7_numberIn cX7_numberIn 4 (some .int) ∈ ev_good := ev_in (ev_t8 _ (List.mem_of_getElem? (i := 181) rfl)) rfl
theorem li_X7_numberIn : Cond.instanceMethod yX7_numberIn ∈ ev_good := ev_in (ev_t8 _ (List.mem_of_getElem? (i := 179) rfl)) rfl
theorem le_X7_numberIn : Cond.selects RX7 yX7_numberIn yX7_numberIn ∈ ev_good := ev_in (ev_t8 _ (List.mem_of_getElem? (i := 180) rfl)) rfl
theorem yd_X7_outputByte : ev_Yd yX7_outputByte RX7 1 := ⟨rfl, by decide +kernel, by decide +kernel, by decide +kernel⟩
theorem lm_X7_outputByte : Cond.code yX7_outputByte cX7_outputByte 2 (some .int) ∈ ev_good := ev_in (ev_t8 _ (List.mem_of_getElem? (i := 218) rfl)) rfl
theorem li_X7_outputByte : Cond.instanceMethod yX7_outputByte ∈ ev_good := ev_in (ev_t8 _ (List.mem_of_getElem? (i := 216) rfl)) rfl
theorem le_X7_outputByte : Cond.selects RX7 yX7_outputByte yX7_outputByte ∈ ev_good := ev_in (ev_t8 _ (List.mem_of_getElem? (i := 217) rfl)) rfl
theorem yd_X7_pass : ev_Yd yX7_pass RX7 1 := ⟨rfl, by decide +kernel, by decide +kernel, by decide +kernel⟩
theorem lm_X7_pass : Cond.code yX7_pass cX7_pass 4 (some .int) ∈ ev_good := ev_in (ev_t8 _ (List.mem_of_getElem? (i := 222) rfl)) rfl
theorem li_X7_pass : Cond.instanceMethod yX7_pass ∈ ev_good := ev_in (ev_t8 _ (List.mem_of_getElem? (i := 220) rfl)) rfl
theorem le_X7_pass : Cond.selects RX7 yX7_pass yX7_pass ∈ ev_good := ev_in (ev_t8 _ (List.mem_of_getElem? (i := 221) rfl)) rfl
theorem yd_X7_placeOf : ev_Yd yX7_placeOf RX7 3 := ⟨rfl, by decide +kernel, by decide +kernel, by decide +kernel⟩
theorem lm_X7_placeOf : Cond.code yX7_placeOf cX7_placeOf 4 (some .int) ∈ ev_good := ev_in (ev_t7 _ (List.mem_of_getElem? (i := 135) rfl)) rfl
theorem ls_X7_placeOf : Cond.static yX7_placeOf ∈ ev_good := ev_in (ev_t7 _ (List.mem_of_getElem? (i := 134) rfl)) rfl
theorem yd_X7_probes : ev_Yd yX7_probes RX7 2 := ⟨rfl, by decide +kernel, by decide +kernel, by decide +kernel⟩
theorem lm_X7_probes : Cond.code yX7_probes cX7_probes 4 none ∈ ev_good := ev_in (ev_t8 _ (List.mem_of_getElem? (i := 137) rfl)) rfl
theorem li_X7_probes : Cond.instanceMethod yX7_probes ∈ ev_good := ev_in (ev_t8 _ (List.mem_of_getElem? (i := 136) rfl)) rfl
theorem le_X7_probes : Cond.selects RX7 yX7_probes yX7_probes ∈ ev_good := ev_in (ev_t0 _ (List.mem_of_getElem? (i := 104) rfl)) rfl
theorem yd_X7_puts : ev_Yd yX7_puts RX7 1 := ⟨rfl, by decide +kernel, by decide +kernel, by decide +kernel⟩
theorem lm_X7_puts : Cond.code yX7_puts cX7_puts 2 none ∈ ev_good := ev_in (ev_t8 _ (List.mem_of_getElem? (i := 210) rfl)) rfl
theorem li_X7_puts : Cond.instanceMethod yX7_puts ∈ ev_good := ev_in (ev_t8 _ (List.mem_of_getElem? (i := 209) rfl)) rfl
theorem le_X7_puts : Cond.selects RX7 yX7_puts yX7_puts ∈ ev_good := ev_in (ev_t0 _ (List.mem_of_getElem? (i := 116) rfl)) rfl
theorem yd_X7_putsName : ev_Yd yX7_putsName RX7 1 := ⟨rfl, by decide +kernel, by decide +kernel, by decide +kernel⟩
theorem lm_X7_putsName : Cond.code yX7_putsName cX7_putsName 3 none ∈ ev_good := ev_in (ev_t8 _ (List.mem_of_getElem? (i := 206) rfl)) rfl
theorem li_X7_putsName : Cond.instanceMethod yX7_putsName ∈ ev_good := ev_in (ev_t8 _ (List.mem_of_getElem? (i := 205) rfl)) rfl
theorem le_X7_putsName : Cond.selects RX7 yX7_putsName yX7_putsName ∈ ev_good := ev_in (ev_t0 _ (List.mem_of_getElem? (i := 115) rfl)) rfl
theorem yd_X7_readsText : ev_Yd yX7_readsText RX7 0 := ⟨rfl, by decide +kernel, by decide +kernel, by decide +kernel⟩
theorem lm_X7_readsText : Cond.code yX7_readsText cX7_readsText 4 none ∈ ev_good := ev_in (ev_t7 _ (List.mem_of_getElem? (i := 99) rfl)) rfl
theorem li_X7_readsText : Cond.instanceMethod yX7_readsText ∈ ev_good := ev_in (ev_t7 _ (List.mem_of_getElem? (i := 98) rfl)) rfl
theorem le_X7_readsText : Cond.selects RX7 yX7_readsText yX7_readsText ∈ ev_good := ev_in (ev_t0 _ (List.mem_of_getElem? (i := 66) rfl)) rfl
theorem yd_X7_record : ev_Yd yX7_record RX7 3 := ⟨rfl, by decide +kernel, by decide +kernel, by decide +kernel⟩
theorem lm_X7_record : Cond.code yX7_record cX7_record 5 (some .int) ∈ ev_good := ev_in (ev_t8 _ (List.mem_of_getElem? (i := 2) rfl)) rfl
theorem li_X7_record : Cond.instanceMethod yX7_record ∈ ev_good := ev_in (ev_t8 _ (List.mem_of_getElem? (i := 0) rfl)) rfl
theorem le_X7_record : Cond.selects RX7 yX7_record yX7_record ∈ ev_good := ev_in (ev_t8 _ (List.mem_of_getElem? (i := 1) rfl)) rfl
theorem yd_X7_recordAt : ev_Yd yX7_recordAt RX7 2 := ⟨rfl, by decide +kernel, by decide +kernel, by decide +kernel⟩
theorem lm_X7_recordAt : Cond.code yX7_recordAt cX7_recordAt 2 (some .int) ∈ ev_good := ev_in (ev_t8 _ (List.mem_of_getElem? (i := 10) rfl)) rfl
theorem ls_X7_recordAt : Cond.static yX7_recordAt ∈ ev_good := ev_in (ev_t8 _ (List.mem_of_getElem? (i := 9) rfl)) rfl
theorem yd_X7_recordByte : ev_Yd yX7_recordByte RX7 3 := ⟨rfl, by decide +kernel, by decide +kernel, by decide +kernel⟩
theorem lm_X7_recordByte : Cond.code yX7_recordByte cX7_recordByte 4 (some .int) ∈ ev_good := ev_in (ev_t8 _ (List.mem_of_getElem? (i := 14) rfl)) rfl
theorem li_X7_recordByte : Cond.instanceMethod yX7_recordByte ∈ ev_good := ev_in (ev_t8 _ (List.mem_of_getElem? (i := 12) rfl)) rfl
theorem le_X7_recordByte : Cond.selects RX7 yX7_recordByte yX7_recordByte ∈ ev_good := ev_in (ev_t8 _ (List.mem_of_getElem? (i := 13) rfl)) rfl
theorem yd_X7_recordOf : ev_Yd yX7_recordOf RX7 2 := ⟨rfl, by decide +kernel, by decide +kernel, by decide +kernel⟩
theorem lm_X7_recordOf : Cond.code yX7_recordOf cX7_recordOf 4 (some .int) ∈ ev_good := ev_in (ev_t8 _ (List.mem_of_getElem? (i := 54) rfl)) rfl
theorem li_X7_recordOf : Cond.instanceMethod yX7_recordOf ∈ ev_good := ev_in (ev_t8 _ (List.mem_of_getElem? (i := 53) rfl)) rfl
theorem le_X7_recordOf : Cond.selects RX7 yX7_recordOf yX7_recordOf ∈ ev_good := ev_in (ev_t0 _ (List.mem_of_getElem? (i := 90) rfl)) rfl
theorem yd_X7_records : ev_Yd yX7_records RX7 2 := ⟨rfl, by decide +kernel, by decide +kernel, by decide +kernel⟩
theorem lm_X7_records : Cond.code yX7_records cX7_records 5 (some .int) ∈ ev_good := ev_in (ev_t8 _ (List.mem_of_getElem? (i := 58) rfl)) rfl
theorem li_X7_records : Cond.instanceMethod yX7_records ∈ ev_good := ev_in (ev_t8 _ (List.mem_of_getElem? (i := 56) rfl)) rfl
theorem le_X7_records : Cond.selects RX7 yX7_records yX7_records ∈ ev_good := ev_in (ev_t8 _ (List.mem_of_getElem? (i := 57) rfl)) rfl
theorem yd_X7_renames : ev_Yd yX7_renames RX7 1 := ⟨rfl, by decide +kernel, by decide +kernel, by decide +kernel⟩
theorem lm_X7_renames : Cond.code yX7_renames cX7_renames 4 none ∈ ev_good := ev_in (ev_t8 _ (List.mem_of_getElem? (i := 141) rfl)) rfl
theorem li_X7_renames : Cond.instanceMethod yX7_renames ∈ ev_good := ev_in (ev_t8 _ (List.mem_of_getElem? (i := 140) rfl)) rfl
theorem le_X7_renames : Cond.selects RX7 yX7_renames yX7_renames ∈ ev_good := ev_in (ev_t0 _ (List.mem_of_getElem? (i := 105) rfl)) rfl
theorem yd_X7_restore : ev_Yd yX7_restore RX7 1 := ⟨rfl, by decide +kernel, by decide +kernel, by decide +kernel⟩
theorem lm_X7_restore : Cond.code yX7_restore cX7_restore 2 none ∈ ev_good := ev_in (ev_t9 _ (List.mem_of_getElem? (i := 32) rfl)) rfl
theorem li_X7_restore : Cond.instanceMethod yX7_restore ∈ ev_good := ev_in (ev_t9 _ (List.mem_of_getElem? (i := 30) rfl)) rfl
theorem le_X7_restore : Cond.selects RX7 yX7_restore yX7_restore ∈ ev_good := ev_in (ev_t9 _ (List.mem_of_getElem? (i := 31) rfl)) rfl
theorem yd_X7_save : ev_Yd yX7_save RX7 1 := ⟨rfl, by decide +kernel, by decide +kernel, by decide +kernel⟩
theorem lm_X7_save : Cond.code yX7_save cX7_save 2 none ∈ ev_good := ev_in (ev_t9 _ (List.mem_of_getElem? (i := 28) rfl)) rfl
theorem li_X7_save : Cond.instanceMethod yX7_save ∈ ev_good := ev_in (ev_t9 _ (List.mem_of_getElem? (i := 26) rfl)) rfl
theorem le_X7_save : Cond.selects RX7 yX7_save yX7_save ∈ ev_good := ev_in (ev_t9 _ (List.mem_of_getElem? (i := 27) rfl)) rfl
theorem yd_X7_says : ev_Yd yX7_says RX7 1 := ⟨rfl, by decide +kernel, by decide +kernel, by decide +kernel⟩
theorem lm_X7_says : Cond.code yX7_says cX7_says 5 (some .boolean) ∈ ev_good := ev_in (ev_t7 _ (List.mem_of_getElem? (i := 108) rfl)) rfl
theorem li_X7_says : Cond.instanceMethod yX7_says ∈ ev_good := ev_in (ev_t7 _ (List.mem_of_getElem? (i := 107) rfl)) rfl
theorem le_X7_says : Cond.selects RX7 yX7_says yX7_says ∈ ev_good := ev_in (ev_t0 _ (List.mem_of_getElem? (i := 68) rfl)) rfl
theorem yd_X7_semicolon : ev_Yd yX7_semicolon RX7 0 := ⟨rfl, by decide +kernel, by decide +kernel, by decide +kernel⟩
theorem lm_X7_semicolon : Cond.code yX7_semicolon cX7_semicolon 1 none ∈ ev_good := ev_in (ev_t7 _ (List.mem_of_getElem? (i := 139) rfl)) rfl
theorem li_X7_semicolon : Cond.instanceMethod yX7_semicolon ∈ ev_good := ev_in (ev_t7 _ (List.mem_of_getElem? (i := 138) rfl)) rfl
theorem le_X7_semicolon : Cond.selects RX7 yX7_semicolon yX7_semicolon ∈ ev_good := ev_in (ev_t0 _ (List.mem_of_getElem? (i := 74) rfl)) rfl
theorem yd_X7_sends : ev_Yd yX7_sends RX7 7 := ⟨rfl, by decide +kernel, by decide +kernel, by decide +kernel⟩
theorem lm_X7_sends : Cond.code yX7_sends cX7_sends 10 none ∈ ev_good := ev_in (ev_t8 _ (List.mem_of_getElem? (i := 125) rfl)) rfl
theorem li_X7_sends : Cond.instanceMethod yX7_sends ∈ ev_good := ev_in (ev_t8 _ (List.mem_of_getElem? (i := 124) rfl)) rfl
theorem le_X7_sends : Cond.selects RX7 yX7_sends yX7_sends ∈ ev_good := ev_in (ev_t0 _ (List.mem_of_getElem? (i := 101) rfl)) rfl
theorem yd_X7_serviceAt : ev_Yd yX7_serviceAt RX7 1 := ⟨rfl, by decide +kernel, by decide +kernel, by decide +kernel⟩
theorem lm_X7_serviceAt : Cond.code yX7_serviceAt cX7_serviceAt 1 (some .int) ∈ ev_good := ev_in (ev_t6 _ (List.mem_of_getElem? (i := 214) rfl)) rfl
theorem ls_X7_serviceAt : Cond.static yX7_serviceAt ∈ ev_good := ev_in (ev_t6 _ (List.mem_of_getElem? (i := 213) rfl)) rfl
theorem yd_X7_service_ : ev_Yd yX7_service_ RX7 2 := ⟨rfl, by decide +kernel, by decide +kernel, by decide +kernel⟩
theorem lm_X7_service_ : Cond.code yX7_service_ cX7_service_ 3 (some .int) ∈ ev_good := ev_in (ev_t7 _ (List.mem_of_getElem? (i := 218) rfl)) rfl
theorem li_X7_service_ : Cond.instanceMethod yX7_service_ ∈ ev_good := ev_in (ev_t7 _ (List.mem_of_getElem? (i := 216) rfl)) rfl
theorem le_X7_service_ : Cond.selects RX7 yX7_service_ yX7_service_ ∈ ev_good := ev_in (ev_t7 _ (List.mem_of_getElem? (i := 217) rfl)) rfl
theorem yd_X7_setOn : ev_Yd yX7_setOn RX7 3 := ⟨rfl, by decide +kernel, by decide +kernel, by decide +kernel⟩
theorem lm_X7_setOn : Cond.code yX7_setOn cX7_setOn 7 (some .int) ∈ ev_good := ev_in (ev_t9 _ (List.mem_of_getElem? (i := 4) rfl)) rfl
theorem li_X7_setOn : Cond.instanceMethod yX7_setOn ∈ ev_good := ev_in (ev_t9 _ (List.mem_of_getElem? (i := 2) rfl)) rfl
theorem le_X7_setOn : Cond.selects RX7 yX7_setOn yX7_setOn ∈ ev_good := ev_in (ev_t9 _ (List.mem_of_getElem? (i := 3) rfl)) rfl
theorem yd_X7_setPort : ev_Yd yX7_setPort RX7 2 := ⟨rfl, by decide +kernel, by decide +kernel, by decide +kernel⟩
theorem lm_X7_setPort : Cond.code yX7_setPort cX7_setPort 5 (some .int) ∈ ev_good := ev_in (ev_t9 _ (List.mem_of_getElem? (i := 0) rfl)) rfl
theorem li_X7_setPort : Cond.instanceMethod yX7_setPort ∈ ev_good := ev_in (ev_t8 _ (List.mem_of_getElem? (i := 238) rfl)) rfl
theorem le_X7_setPort : Cond.selects RX7 yX7_setPort yX7_setPort ∈ ev_good := ev_in (ev_t8 _ (List.mem_of_getElem? (i := 239) rfl)) rfl
theorem yd_X7_setSide : ev_Yd yX7_setSide RX7 2 := ⟨rfl, by decide +kernel, by decide +kernel, by decide +kernel⟩
theorem lm_X7_setSide : Cond.code yX7_setSide cX7_setSide 4 (some .int) ∈ ev_good := ev_in (ev_t9 _ (List.mem_of_getElem? (i := 12) rfl)) rfl
theorem li_X7_setSide : Cond.instanceMethod yX7_setSide ∈ ev_good := ev_in (ev_t9 _ (List.mem_of_getElem? (i := 10) rfl)) rfl
theorem le_X7_setSide : Cond.selects RX7 yX7_setSide yX7_setSide ∈ ev_good := ev_in (ev_t9 _ (List.mem_of_getElem? (i := 11) rfl)) rfl
theorem yd_X7_stale : ev_Yd yX7_stale RX7 0 := ⟨rfl, by decide +kernel, by decide +kernel, by decide +kernel⟩
theorem lm_X7_stale : Cond.code yX7_stale cX7_stale 1 (some .int) ∈ ev_good := ev_in (ev_t8 _ (List.mem_of_getElem? (i := 62) rfl)) rfl
theorem li_X7_stale : Cond.instanceMethod yX7_stale ∈ ev_good := ev_in (ev_t8 _ (List.mem_of_getElem? (i := 60) rfl)) rfl
theorem le_X7_stale : Cond.selects RX7 yX7_stale yX7_stale ∈ ev_good := ev_in (ev_t8 _ (List.mem_of_getElem? (i := 61) rfl)) rfl
theorem yd_X7_staleNow : ev_Yd yX7_staleNow RX7 0 := ⟨rfl, by decide +kernel, by decide +kernel, by decide +kernel⟩
theorem lm_X7_staleNow : Cond.code yX7_staleNow cX7_staleNow 4 (some .int) ∈ ev_good := ev_in (ev_t8 _ (List.mem_of_getElem? (i := 66) rfl)) rfl
theorem li_X7_staleNow : Cond.instanceMethod yX7_staleNow ∈ ev_good := ev_in (ev_t8 _ (List.mem_of_getElem? (i := 65) rfl)) rfl
theorem le_X7_staleNow : Cond.selects RX7 yX7_staleNow yX7_staleNow ∈ ev_good := ev_in (ev_t0 _ (List.mem_of_getElem? (i := 91) rfl)) rfl
theorem yd_X7_takesBack : ev_Yd yX7_takesBack RX7 0 := ⟨rfl, by decide +kernel, by decide +kernel, by decide +kernel⟩
theorem lm_X7_takesBack : Cond.code yX7_takesBack cX7_takesBack 1 none ∈ ev_good := ev_in (ev_t8 _ (List.mem_of_getElem? (i := 177) rfl)) rfl
theorem li_X7_takesBack : Cond.instanceMethod yX7_takesBack ∈ ev_good := ev_in (ev_t8 _ (List.mem_of_getElem? (i := 176) rfl)) rfl
theorem le_X7_takesBack : Cond.selects RX7 yX7_takesBack yX7_takesBack ∈ ev_good := ev_in (ev_t0 _ (List.mem_of_getElem? (i := 114) rfl)) rfl
theorem yd_X7_takesText : ev_Yd yX7_takesText RX7 0 := ⟨rfl, by decide +kernel, by decide +kernel, by decide +kernel⟩
theorem lm_X7_takesText : Cond.code yX7_takesText cX7_takesText 2 none ∈ ev_good := ev_in (ev_t6 _ (List.mem_of_getElem? (i := 227) rfl)) rfl
theorem li_X7_takesText : Cond.instanceMethod yX7_takesText ∈ ev_good := ev_in (ev_t6 _ (List.mem_of_getElem? (i := 226) rfl)) rfl
theorem le_X7_takesText : Cond.selects RX7 yX7_takesText yX7_takesText ∈ ev_good := ev_in (ev_t0 _ (List.mem_of_getElem? (i := 64) rfl)) rfl
theorem yd_X7_takesWord : ev_Yd yX7_takesWord RX7 1 := ⟨rfl, by decide +kernel, by decide +kernel, by decide +kernel⟩
theorem lm_X7_takesWord : Cond.code yX7_takesWord cX7_takesWord 5 (some .long) ∈ ev_good := ev_in (ev_t7 _ (List.mem_of_getElem? (i := 116) rfl)) rfl
theorem li_X7_takesWord : Cond.instanceMethod yX7_takesWord ∈ ev_good := ev_in (ev_t7 _ (List.mem_of_getElem? (i := 115) rfl)) rfl
theorem le_X7_takesWord : Cond.selects RX7 yX7_takesWord yX7_takesWord ∈ ev_good := ev_in (ev_t0 _ (List.mem_of_getElem? (i := 70) rfl)) rfl
theorem yd_X7_tells : ev_Yd yX7_tells RX7 3 := ⟨rfl, by decide +kernel, by decide +kernel, by decide +kernel⟩
theorem lm_X7_tells : Cond.code yX7_tells cX7_tells 5 none ∈ ev_good := ev_in (ev_t8 _ (List.mem_of_getElem? (i := 121) rfl)) rfl
theorem li_X7_tells : Cond.instanceMethod yX7_tells ∈ ev_good := ev_in (ev_t8 _ (List.mem_of_getElem? (i := 120) rfl)) rfl
theorem le_X7_tells : Cond.selects RX7 yX7_tells yX7_tells ∈ ev_good := ev_in (ev_t0 _ (List.mem_of_getElem? (i := 100) rfl)) rfl
theorem yd_X7_thrown : ev_Yd yX7_thrown RX7 0 := ⟨rfl, by decide +kernel, by decide +kernel, by decide +kernel⟩
theorem lm_X7_thrown : Cond.code yX7_thrown cX7_thrown 1 (some .int) ∈ ev_good := ev_in (ev_t7 _ (List.mem_of_getElem? (i := 76) rfl)) rfl
theorem li_X7_thrown : Cond.instanceMethod yX7_thrown ∈ ev_good := ev_in (ev_t7 _ (List.mem_of_getElem? (i := 74) rfl)) rfl
theorem le_X7_thrown : Cond.selects RX7 yX7_thrown yX7_thrown ∈ ev_good := ev_in (ev_t7 _ (List.mem_of_getElem? (i := 75) rfl)) rfl
theorem yd_X7_ticks : ev_Yd yX7_ticks RX7 0 := ⟨rfl, by decide +kernel, by decide +kernel, by decide +kernel⟩
theorem lm_X7_ticks : Cond.code yX7_ticks cX7_ticks 3 none ∈ ev_good := ev_in (ev_t8 _ (List.mem_of_getElem? (i := 105) rfl)) rfl
theorem li_X7_ticks : Cond.instanceMethod yX7_ticks ∈ ev_good := ev_in (ev_t8 _ (List.mem_of_getElem? (i := 104) rfl)) rfl
theorem le_X7_ticks : Cond.selects RX7 yX7_ticks yX7_ticks ∈ ev_good := ev_in (ev_t0 _ (List.mem_of_getElem? (i := 96) rfl)) rfl
theorem yd_X7_truncate : ev_Yd yX7_truncate RX7 1 := ⟨rfl, by decide +kernel, by decide +kernel, by decide +kernel⟩
theorem lm_X7_truncate : Cond.code yX7_truncate cX7_truncate 2 (some .int) ∈ ev_good := ev_in (ev_t7 _ (List.mem_of_getElem? (i := 88) rfl)) rfl
theorem li_X7_truncate : Cond.instanceMethod yX7_truncate ∈ ev_good := ev_in (ev_t7 _ (List.mem_of_getElem? (i := 86) rfl)) rfl
theorem le_X7_truncate : Cond.selects RX7 yX7_truncate yX7_truncate ∈ ev_good := ev_in (ev_t7 _ (List.mem_of_getElem? (i := 87) rfl)) rfl
theorem yd_X7_undo : ev_Yd yX7_undo RX7 0 := ⟨rfl, by decide +kernel, by decide +kernel, by decide +kernel⟩
theorem lm_X7_undo : Cond.code yX7_undo cX7_undo 1 (some .int) ∈ ev_good := ev_in (ev_t9 _ (List.mem_of_getElem? (i := 24) rfl)) rfl
theorem li_X7_undo : Cond.instanceMethod yX7_undo ∈ ev_good := ev_in (ev_t9 _ (List.mem_of_getElem? (i := 22) rfl)) rfl
theorem le_X7_undo : Cond.selects RX7 yX7_undo yX7_undo ∈ ev_good := ev_in (ev_t9 _ (List.mem_of_getElem? (i := 23) rfl)) rfl
theorem yd_X7_why : ev_Yd yX7_why RX7 2 := ⟨rfl, by decide +kernel, by decide +kernel, by decide +kernel⟩
theorem lm_X7_why : Cond.code yX7_why cX7_why 6 (some .int) ∈ ev_good := ev_in (ev_t8 _ (List.mem_of_getElem? (i := 86) rfl)) rfl
theorem li_X7_why : Cond.instanceMethod yX7_why ∈ ev_good := ev_in (ev_t8 _ (List.mem_of_getElem? (i := 84) rfl)) rfl
theorem le_X7_why : Cond.selects RX7 yX7_why yX7_why ∈ ev_good := ev_in (ev_t8 _ (List.mem_of_getElem? (i := 85) rfl)) rfl
theorem yd_X7_withdraw : ev_Yd yX7_withdraw RX7 1 := ⟨rfl, by decide +kernel, by decide +kernel, by decide +kernel⟩
theorem lm_X7_withdraw : Cond.code yX7_withdraw cX7_withdraw 4 (some .int) ∈ ev_good := ev_in (ev_t8 _ (List.mem_of_getElem? (i := 236) rfl)) rfl
theorem li_X7_withdraw : Cond.instanceMethod yX7_withdraw ∈ ev_good := ev_in (ev_t8 _ (List.mem_of_getElem? (i := 234) rfl)) rfl
theorem le_X7_withdraw : Cond.selects RX7 yX7_withdraw yX7_withdraw ∈ ev_good := ev_in (ev_t8 _ (List.mem_of_getElem? (i := 235) rfl)) rfl
theorem yd_X7_write : ev_Yd yX7_write RX7 0 := ⟨rfl, by decide +kernel, by decide +kernel, by decide +kernel⟩
theorem lm_X7_write : Cond.code yX7_write cX7_write 3 (some .int) ∈ ev_good := ev_in (ev_t8 _ (List.mem_of_getElem? (i := 202) rfl)) rfl
theorem li_X7_write : Cond.instanceMethod yX7_write ∈ ev_good := ev_in (ev_t8 _ (List.mem_of_getElem? (i := 200) rfl)) rfl
theorem le_X7_write : Cond.selects RX7 yX7_write yX7_write ∈ ev_good := ev_in (ev_t8 _ (List.mem_of_getElem? (i := 201) rfl)) rfl
theorem lkL_100 : Cond.methodLink RL 100 yX6_pass ∈ ev_good := ev_in (ev_t6 _ (List.mem_of_getElem? (i := 73) rfl)) rfl
theorem lkL_103 : Cond.methodLink RL 103 yX6_add ∈ ev_good := ev_in (ev_t6 _ (List.mem_of_getElem? (i := 87) rfl)) rfl
theorem lkL_106 : Cond.methodLink RL 106 yX6_withdraw ∈ ev_good := ev_in (ev_t6 _ (List.mem_of_getElem? (i := 96) rfl)) rfl
theorem lkL_109 : Cond.methodLink RL 109 yX6_setPort ∈ ev_good := ev_in (ev_t6 _ (List.mem_of_getElem? (i := 108) rfl)) rfl
theorem lkL_112 : Cond.methodLink RL 112 yX6_setOn ∈ ev_good := ev_in (ev_t6 _ (List.mem_of_getElem? (i := 119) rfl)) rfl
theorem lkL_116 : Cond.methodLink RL 116 yX6_setSide ∈ ev_good := ev_in (ev_t6 _ (List.mem_of_getElem? (i := 142) rfl)) rfl
theorem lkL_119 : Cond.methodLink RL 119 yX6_browse ∈ ev_good := ev_in (ev_t6 _ (List.mem_of_getElem? (i := 151) rfl)) rfl
theorem lkL_123 : Cond.methodLink RL 123 yX6_mark ∈ ev_good := ev_in (ev_t6 _ (List.mem_of_getElem? (i := 161) rfl)) rfl
theorem lkL_126 : Cond.methodLink RL 126 yX6_undo ∈ ev_good := ev_in (ev_t6 _ (List.mem_of_getElem? (i := 170) rfl)) rfl
theorem lkL_129 : Cond.methodLink RL 129 yX6_save ∈ ev_good := ev_in (ev_t6 _ (List.mem_of_getElem? (i := 183) rfl)) rfl
theorem lkL_133 : Cond.methodLink RL 133 yX6_restore ∈ ev_good := ev_in (ev_t6 _ (List.mem_of_getElem? (i := 195) rfl)) rfl
theorem lkL_15 : Cond.methodLink RL 15 yX6_truncate ∈ ev_good := ev_in (ev_t3 _ (List.mem_of_getElem? (i := 200) rfl)) rfl
theorem lkL_21 : Cond.methodLink RL 21 yX6_load ∈ ev_good := ev_in (ev_t3 _ (List.mem_of_getElem? (i := 224) rfl)) rfl
theorem lkL_27 : Cond.methodLink RL 27 yX6_find ∈ ev_good := ev_in (ev_t4 _ (List.mem_of_getElem? (i := 31) rfl)) rfl
theorem lkL_32 : Cond.methodLink RL 32 yX6_count ∈ ev_good := ev_in (ev_t4 _ (List.mem_of_getElem? (i := 61) rfl)) rfl
theorem lkL_35 : Cond.methodLink RL 35 yX6_host ∈ ev_good := ev_in (ev_t4 _ (List.mem_of_getElem? (i := 114) rfl)) rfl
theorem lkL_39 : Cond.methodLink RL 39 yX6_service ∈ ev_good := ev_in (ev_t4 _ (List.mem_of_getElem? (i := 134) rfl)) rfl
theorem lkL_42 : Cond.methodLink RL 42 yX6_baseByte ∈ ev_good := ev_in (ev_t4 _ (List.mem_of_getElem? (i := 147) rfl)) rfl
theorem lkL_45 : Cond.methodLink RL 45 yX6_haveSameName ∈ ev_good := ev_in (ev_t4 _ (List.mem_of_getElem? (i := 155) rfl)) rfl
theorem lkL_49 : Cond.methodLink RL 49 yX6_record ∈ ev_good := ev_in (ev_t4 _ (List.mem_of_getElem? (i := 163) rfl)) rfl
theorem lkL_53 : Cond.methodLink RL 53 yX6_recordByte ∈ ev_good := ev_in (ev_t4 _ (List.mem_of_getElem? (i := 180) rfl)) rfl
theorem lkL_56 : Cond.methodLink RL 56 yX6_browser ∈ ev_good := ev_in (ev_t4 _ (List.mem_of_getElem? (i := 187) rfl)) rfl
theorem lkL_59 : Cond.methodLink RL 59 yX6_message ∈ ev_good := ev_in (ev_t4 _ (List.mem_of_getElem? (i := 202) rfl)) rfl
theorem lkL_62 : Cond.methodLink RL 62 yX6_isMarked ∈ ev_good := ev_in (ev_t4 _ (List.mem_of_getElem? (i := 227) rfl)) rfl
theorem lkL_66 : Cond.methodLink RL 66 yX6_log ∈ ev_good := ev_in (ev_t4 _ (List.mem_of_getElem? (i := 238) rfl)) rfl
theorem lkL_69 : Cond.methodLink RL 69 yX6_known ∈ ev_good := ev_in (ev_t5 _ (List.mem_of_getElem? (i := 6) rfl)) rfl
theorem lkL_7 : Cond.methodLink RL 7 yX6_append ∈ ev_good := ev_in (ev_t3 _ (List.mem_of_getElem? (i := 120) rfl)) rfl
theorem lkL_72 : Cond.methodLink RL 72 yX6_records ∈ ev_good := ev_in (ev_t5 _ (List.mem_of_getElem? (i := 14) rfl)) rfl
theorem lkL_75 : Cond.methodLink RL 75 yX6_why ∈ ev_good := ev_in (ev_t5 _ (List.mem_of_getElem? (i := 25) rfl)) rfl
theorem lkL_78 : Cond.methodLink RL 78 yX6_establishedIn ∈ ev_good := ev_in (ev_t5 _ (List.mem_of_getElem? (i := 41) rfl)) rfl
theorem lkL_81 : Cond.methodLink RL 81 yX6_numberIn ∈ ev_good := ev_in (ev_t6 _ (List.mem_of_getElem? (i := 15) rfl)) rfl
theorem lkL_84 : Cond.methodLink RL 84 yX6_knownIn ∈ ev_good := ev_in (ev_t6 _ (List.mem_of_getElem? (i := 26) rfl)) rfl
theorem lkL_87 : Cond.methodLink RL 87 yX6_messagesIn ∈ ev_good := ev_in (ev_t6 _ (List.mem_of_getElem? (i := 34) rfl)) rfl
theorem lkL_90 : Cond.methodLink RL 90 yX6_freshIn ∈ ev_good := ev_in (ev_t6 _ (List.mem_of_getElem? (i := 41) rfl)) rfl
theorem lkL_93 : Cond.methodLink RL 93 yX6_numberIf ∈ ev_good := ev_in (ev_t6 _ (List.mem_of_getElem? (i := 49) rfl)) rfl
theorem lkL_97 : Cond.methodLink RL 97 yX6_outputByte ∈ ev_good := ev_in (ev_t6 _ (List.mem_of_getElem? (i := 64) rfl)) rfl
theorem lkX0_17 : Cond.methodLink RX0 17 yX1_init ∈ ev_good := ev_in (ev_t1 _ (List.mem_of_getElem? (i := 208) rfl)) rfl
theorem lkX0_25 : Cond.methodLink RX0 25 yX1_copyFrom ∈ ev_good := ev_in (ev_t6 _ (List.mem_of_getElem? (i := 82) rfl)) rfl
theorem lkX1_101 : Cond.methodLink RX1 101 yX2_copyFrom ∈ ev_good := ev_in (ev_t4 _ (List.mem_of_getElem? (i := 18) rfl)) rfl
theorem lkX1_104 : Cond.methodLink RX1 104 yX4_at ∈ ev_good := ev_in (ev_t2 _ (List.mem_of_getElem? (i := 177) rfl)) rfl
theorem lkX1_108 : Cond.methodLink RX1 108 yX1_browserOf ∈ ev_good := ev_in (ev_t2 _ (List.mem_of_getElem? (i := 208) rfl)) rfl
theorem lkX1_11 : Cond.methodLink RX1 11 yX4_init ∈ ev_good := ev_in (ev_t1 _ (List.mem_of_getElem? (i := 56) rfl)) rfl
theorem lkX1_111 : Cond.methodLink RX1 111 yX4_size ∈ ev_good := ev_in (ev_t2 _ (List.mem_of_getElem? (i := 173) rfl)) rfl
theorem lkX1_114 : Cond.methodLink RX1 114 yX1_isOn ∈ ev_good := ev_in (ev_t2 _ (List.mem_of_getElem? (i := 187) rfl)) rfl
theorem lkX1_118 : Cond.methodLink RX1 118 yX1_isBrowsing ∈ ev_good := ev_in (ev_t4 _ (List.mem_of_getElem? (i := 98) rfl)) rfl
theorem lkX1_122 : Cond.methodLink RX1 122 yX1_browsersOf ∈ ev_good := ev_in (ev_t4 _ (List.mem_of_getElem? (i := 94) rfl)) rfl
theorem lkX1_131 : Cond.methodLink RX1 131 yX2_length ∈ ev_good := ev_in (ev_t4 _ (List.mem_of_getElem? (i := 74) rfl)) rfl
theorem lkX1_134 : Cond.methodLinkNest RX1 134 yX6_intOf "LinkDirectory" ∈ lw_tbl := ev_t4 _ (List.mem_of_getElem? (i := 89) rfl)
theorem lkX1_138 : Cond.methodLink RX1 138 yX4_placeNamedAs ∈ ev_good := ev_in (ev_t3 _ (List.mem_of_getElem? (i := 88) rfl)) rfl
theorem lkX1_146 : Cond.methodLink RX1 146 yX4_isNamedAs ∈ ev_good := ev_in (ev_t3 _ (List.mem_of_getElem? (i := 41) rfl)) rfl
theorem lkX1_150 : Cond.methodLink RX1 150 yX4_compareData ∈ ev_good := ev_in (ev_t3 _ (List.mem_of_getElem? (i := 45) rfl)) rfl
theorem lkX1_154 : Cond.methodLink RX1 154 yX1_holdsName ∈ ev_good := ev_in (ev_t3 _ (List.mem_of_getElem? (i := 52) rfl)) rfl
theorem lkX1_157 : Cond.methodLink RX1 157 yX1_isClash ∈ ev_good := ev_in (ev_t3 _ (List.mem_of_getElem? (i := 64) rfl)) rfl
theorem lkX1_160 : Cond.methodLink RX1 160 yX1_isOnSameSide ∈ ev_good := ev_in (ev_t3 _ (List.mem_of_getElem? (i := 68) rfl)) rfl
theorem lkX1_163 : Cond.methodLink RX1 163 yX1_isPairToKnow ∈ ev_good := ev_in (ev_t3 _ (List.mem_of_getElem? (i := 80) rfl)) rfl
theorem lkX1_166 : Cond.methodLink RX1 166 yX1_portKnown ∈ ev_good := ev_in (ev_t3 _ (List.mem_of_getElem? (i := 84) rfl)) rfl
theorem lkX1_169 : Cond.methodLink RX1 169 yX1_messagesCome ∈ ev_good := ev_in (ev_t5 _ (List.mem_of_getElem? (i := 49) rfl)) rfl
theorem lkX1_172 : Cond.methodLink RX1 172 yX1_recordsExpire ∈ ev_good := ev_in (ev_t5 _ (List.mem_of_getElem? (i := 222) rfl)) rfl
theorem lkX1_175 : Cond.methodLink RX1 175 yX1_servicesAct ∈ ev_good := ev_in (ev_t5 _ (List.mem_of_getElem? (i := 226) rfl)) rfl
theorem lkX1_178 : Cond.methodLink RX1 178 yX1_browsersAct ∈ ev_good := ev_in (ev_t5 _ (List.mem_of_getElem? (i := 234) rfl)) rfl
theorem lkX1_184 : Cond.methodLink RX1 184 yX1_openPart ∈ ev_good := ev_in (ev_t5 _ (List.mem_of_getElem? (i := 53) rfl)) rfl
theorem lkX1_189 : Cond.methodLink RX1 189 yX1_takeOpenPart ∈ ev_good := ev_in (ev_t5 _ (List.mem_of_getElem? (i := 58) rfl)) rfl
theorem lkX1_192 : Cond.methodLink RX1 192 yX1_isCalm ∈ ev_good := ev_in (ev_t5 _ (List.mem_of_getElem? (i := 66) rfl)) rfl
theorem lkX1_195 : Cond.methodLink RX1 195 yX1_findReply ∈ ev_good := ev_in (ev_t5 _ (List.mem_of_getElem? (i := 82) rfl)) rfl
theorem lkX1_198 : Cond.methodLink RX1 198 yX1_sendReply ∈ ev_good := ev_in (ev_t5 _ (List.mem_of_getElem? (i := 147) rfl)) rfl
theorem lkX1_201 : Cond.methodLink RX1 201 yX1_keepLatest ∈ ev_good := ev_in (ev_t5 _ (List.mem_of_getElem? (i := 156) rfl)) rfl
theorem lkX1_204 : Cond.methodLink RX1 204 yX1_openPieces ∈ ev_good := ev_in (ev_t5 _ (List.mem_of_getElem? (i := 173) rfl)) rfl
theorem lkX1_210 : Cond.methodLink RX1 210 yX1_comesTo ∈ ev_good := ev_in (ev_t5 _ (List.mem_of_getElem? (i := 78) rfl)) rfl
theorem lkX1_213 : Cond.methodLink RX1 213 yX1_probeComes ∈ ev_good := ev_in (ev_t5 _ (List.mem_of_getElem? (i := 177) rfl)) rfl
theorem lkX1_217 : Cond.methodLink RX1 217 yX1_responseComes ∈ ev_good := ev_in (ev_t5 _ (List.mem_of_getElem? (i := 198) rfl)) rfl
theorem lkX1_220 : Cond.methodLink RX1 220 yX1_queryComes ∈ ev_good := ev_in (ev_t5 _ (List.mem_of_getElem? (i := 214) rfl)) rfl
theorem lkX1_223 : Cond.methodLink RX1 223 yX4_put ∈ ev_good := ev_in (ev_t2 _ (List.mem_of_getElem? (i := 186) rfl)) rfl
theorem lkX1_226 : Cond.methodLink RX1 226 yX4_cutTo ∈ ev_good := ev_in (ev_t5 _ (List.mem_of_getElem? (i := 62) rfl)) rfl
theorem lkX1_232 : Cond.methodLink RX1 232 yX1_hasMarkAhead ∈ ev_good := ev_in (ev_t5 _ (List.mem_of_getElem? (i := 70) rfl)) rfl
theorem lkX1_236 : Cond.methodLink RX1 236 yX1_isCalmMessage ∈ ev_good := ev_in (ev_t5 _ (List.mem_of_getElem? (i := 74) rfl)) rfl
theorem lkX1_239 : Cond.methodLink RX1 239 yX2_wantReply ∈ ev_good := ev_in (ev_t5 _ (List.mem_of_getElem? (i := 86) rfl)) rfl
theorem lkX1_242 : Cond.methodLink RX1 242 yX2_isToReply ∈ ev_good := ev_in (ev_t5 _ (List.mem_of_getElem? (i := 95) rfl)) rfl
theorem lkX1_245 : Cond.methodLink RX1 245 yX2_isRun ∈ ev_good := ev_in (ev_t5 _ (List.mem_of_getElem? (i := 96) rfl)) rfl
theorem lkX1_251 : Cond.methodLink RX1 251 yX1_replyToMessage ∈ ev_good := ev_in (ev_t5 _ (List.mem_of_getElem? (i := 106) rfl)) rfl
theorem lkX1_254 : Cond.methodLink RX1 254 yX2_endRun ∈ ev_good := ev_in (ev_t5 _ (List.mem_of_getElem? (i := 125) rfl)) rfl
theorem lkX1_257 : Cond.methodLink RX1 257 yX2_putReply ∈ ev_good := ev_in (ev_t5 _ (List.mem_of_getElem? (i := 143) rfl)) rfl
theorem lkX1_263 : Cond.methodLink RX1 263 yX2_messageOf ∈ ev_good := ev_in (ev_t5 _ (List.mem_of_getElem? (i := 110) rfl)) rfl
theorem lkX1_267 : Cond.methodLink RX1 267 yX2_addItem ∈ ev_good := ev_in (ev_t5 _ (List.mem_of_getElem? (i := 151) rfl)) rfl
theorem lkX1_273 : Cond.methodLink RX1 273 yX1_keepRecord ∈ ev_good := ev_in (ev_t5 _ (List.mem_of_getElem? (i := 160) rfl)) rfl
theorem lkX1_276 : Cond.methodLink RX1 276 yX1_sendFor ∈ ev_good := ev_in (ev_t5 _ (List.mem_of_getElem? (i := 181) rfl)) rfl
theorem lkX1_279 : Cond.methodLink RX1 279 yX4_increase ∈ ev_good := ev_in (ev_t5 _ (List.mem_of_getElem? (i := 189) rfl)) rfl
theorem lkX1_282 : Cond.methodLink RX1 282 yX1_noteEvent ∈ ev_good := ev_in (ev_t5 _ (List.mem_of_getElem? (i := 194) rfl)) rfl
theorem lkX1_285 : Cond.methodLink RX1 285 yX1_beginToProbe ∈ ev_good := ev_in (ev_t2 _ (List.mem_of_getElem? (i := 191) rfl)) rfl
theorem lkX1_291 : Cond.methodLink RX1 291 yX1_renameService ∈ ev_good := ev_in (ev_t5 _ (List.mem_of_getElem? (i := 206) rfl)) rfl
theorem lkX1_294 : Cond.methodLink RX1 294 yX1_isKnownAnswer ∈ ev_good := ev_in (ev_t5 _ (List.mem_of_getElem? (i := 218) rfl)) rfl
theorem lkX1_304 : Cond.methodLink RX1 304 yX4_copyShared ∈ ev_good := ev_in (ev_t5 _ (List.mem_of_getElem? (i := 172) rfl)) rfl
theorem lkX1_308 : Cond.methodLink RX1 308 yX4_endOfRecord ∈ ev_good := ev_in (ev_t5 _ (List.mem_of_getElem? (i := 167) rfl)) rfl
theorem lkX1_311 : Cond.methodLink RX1 311 yX1_announceService ∈ ev_good := ev_in (ev_t5 _ (List.mem_of_getElem? (i := 230) rfl)) rfl
theorem lkX1_314 : Cond.methodLink RX1 314 yX1_browserActs ∈ ev_good := ev_in (ev_t5 _ (List.mem_of_getElem? (i := 238) rfl)) rfl
theorem lkX1_317 : Cond.methodLink RX1 317 yX1_ageRecords ∈ ev_good := ev_in (ev_t6 _ (List.mem_of_getElem? (i := 2) rfl)) rfl
theorem lkX1_320 : Cond.methodLink RX1 320 yX1_sendQuery ∈ ev_good := ev_in (ev_t6 _ (List.mem_of_getElem? (i := 6) rfl)) rfl
theorem lkX1_323 : Cond.methodLink RX1 323 yX1_hasTwin ∈ ev_good := ev_in (ev_t5 _ (List.mem_of_getElem? (i := 210) rfl)) rfl
theorem lkX1_326 : Cond.methodLink RX1 326 yX1_countMessage ∈ ev_good := ev_in (ev_t5 _ (List.mem_of_getElem? (i := 185) rfl)) rfl
theorem lkX1_329 : Cond.methodLink RX1 329 yX2_addMessage ∈ ev_good := ev_in (ev_t6 _ (List.mem_of_getElem? (i := 10) rfl)) rfl
theorem lkX1_332 : Cond.methodLink RX1 332 yX4_placeOf ∈ ev_good := ev_in (ev_t5 _ (List.mem_of_getElem? (i := 193) rfl)) rfl
theorem lkX1_335 : Cond.methodLink RX1 335 yX1_endBrowsing ∈ ev_good := ev_in (ev_t6 _ (List.mem_of_getElem? (i := 131) rfl)) rfl
theorem lkX1_47 : Cond.methodLink RX1 47 yX2_init ∈ ev_good := ev_in (ev_t1 _ (List.mem_of_getElem? (i := 78) rfl)) rfl
theorem lkX1_59 : Cond.methodLink RX1 59 yX1_reset ∈ ev_good := ev_in (ev_t1 _ (List.mem_of_getElem? (i := 104) rfl)) rfl
theorem lkX1_62 : Cond.methodLink RX1 62 yX4_clear ∈ ev_good := ev_in (ev_t1 _ (List.mem_of_getElem? (i := 108) rfl)) rfl
theorem lkX1_65 : Cond.methodLink RX1 65 yX4_addRow ∈ ev_good := ev_in (ev_t1 _ (List.mem_of_getElem? (i := 112) rfl)) rfl
theorem lkX1_69 : Cond.methodLink RX1 69 yX2_clear ∈ ev_good := ev_in (ev_t1 _ (List.mem_of_getElem? (i := 116) rfl)) rfl
theorem lkX1_70 : Cond.methodLink RX1 70 yX1_cacheOf ∈ ev_good := ev_in (ev_t1 _ (List.mem_of_getElem? (i := 121) rfl)) rfl
theorem lkX1_97 : Cond.methodLink RX1 97 yX4_copyFrom ∈ ev_good := ev_in (ev_t4 _ (List.mem_of_getElem? (i := 8) rfl)) rfl
theorem lkX2_102 : Cond.methodLink RX2 102 yX2_isToReply ∈ ev_good := ev_in (ev_t5 _ (List.mem_of_getElem? (i := 91) rfl)) rfl
theorem lkX2_14 : Cond.methodLink RX2 14 yX4_init ∈ ev_good := ev_in (ev_t1 _ (List.mem_of_getElem? (i := 84) rfl)) rfl
theorem lkX2_32 : Cond.methodLink RX2 32 yX4_clear ∈ ev_good := ev_in (ev_t1 _ (List.mem_of_getElem? (i := 120) rfl)) rfl
theorem lkX2_35 : Cond.methodLink RX2 35 yX4_copyFrom ∈ ev_good := ev_in (ev_t4 _ (List.mem_of_getElem? (i := 22) rfl)) rfl
theorem lkX2_39 : Cond.methodLink RX2 39 yX4_size ∈ ev_good := ev_in (ev_t4 _ (List.mem_of_getElem? (i := 78) rfl)) rfl
theorem lkX2_43 : Cond.methodLink RX2 43 yX2_lengthBefore ∈ ev_good := ev_in (ev_t4 _ (List.mem_of_getElem? (i := 79) rfl)) rfl
theorem lkX2_51 : Cond.methodLink RX2 51 yX4_at ∈ ev_good := ev_in (ev_t4 _ (List.mem_of_getElem? (i := 87) rfl)) rfl
theorem lkX2_55 : Cond.methodLinkNest RX2 55 yX6_intOf "LinkDirectory" ∈ lw_tbl := ev_t4 _ (List.mem_of_getElem? (i := 88) rfl)
theorem lkX2_67 : Cond.methodLink RX2 67 yX4_addRow ∈ ev_good := ev_in (ev_t5 _ (List.mem_of_getElem? (i := 105) rfl)) rfl
theorem lkX2_70 : Cond.methodLink RX2 70 yX4_put ∈ ev_good := ev_in (ev_t5 _ (List.mem_of_getElem? (i := 90) rfl)) rfl
theorem lkX2_73 : Cond.methodLink RX2 73 yX4_isNamedAs ∈ ev_good := ev_in (ev_t5 _ (List.mem_of_getElem? (i := 114) rfl)) rfl
theorem lkX2_77 : Cond.methodLink RX2 77 yX4_compareData ∈ ev_good := ev_in (ev_t5 _ (List.mem_of_getElem? (i := 115) rfl)) rfl
theorem lkX2_81 : Cond.methodLink RX2 81 yX2_addMessage ∈ ev_good := ev_in (ev_t5 _ (List.mem_of_getElem? (i := 116) rfl)) rfl
theorem lkX2_84 : Cond.methodLink RX2 84 yX4_copyShared ∈ ev_good := ev_in (ev_t5 _ (List.mem_of_getElem? (i := 120) rfl)) rfl
theorem lkX2_88 : Cond.methodLink RX2 88 yX4_cutTo ∈ ev_good := ev_in (ev_t5 _ (List.mem_of_getElem? (i := 129) rfl)) rfl
theorem lkX3_102 : Cond.methodLink RX3 102 yX3_readPlace ∈ ev_good := ev_in (ev_t2 _ (List.mem_of_getElem? (i := 165) rfl)) rfl
theorem lkX3_106 : Cond.methodLink RX3 106 yX1_isTaken ∈ ev_good := ev_in (ev_t2 _ (List.mem_of_getElem? (i := 169) rfl)) rfl
theorem lkX3_110 : Cond.methodLink RX3 110 yX3_readNumber ∈ ev_good := ev_in (ev_t2 _ (List.mem_of_getElem? (i := 178) rfl)) rfl
theorem lkX3_113 : Cond.methodLink RX3 113 yX1_addService ∈ ev_good := ev_in (ev_t2 _ (List.mem_of_getElem? (i := 182) rfl)) rfl
theorem lkX3_119 : Cond.methodLink RX3 119 yX3_readBrowser ∈ ev_good := ev_in (ev_t2 _ (List.mem_of_getElem? (i := 200) rfl)) rfl
theorem lkX3_122 : Cond.methodLink RX3 122 yX1_isBrowsing ∈ ev_good := ev_in (ev_t2 _ (List.mem_of_getElem? (i := 204) rfl)) rfl
theorem lkX3_126 : Cond.methodLink RX3 126 yX3_failAt ∈ ev_good := ev_in (ev_t2 _ (List.mem_of_getElem? (i := 130) rfl)) rfl
theorem lkX3_129 : Cond.methodLink RX3 129 yX1_beginToBrowse ∈ ev_good := ev_in (ev_t2 _ (List.mem_of_getElem? (i := 211) rfl)) rfl
theorem lkX3_148 : Cond.methodLink RX3 148 yX5_isSame ∈ ev_good := ev_in (ev_t2 _ (List.mem_of_getElem? (i := 122) rfl)) rfl
theorem lkX3_154 : Cond.methodLink RX3 154 yX5_size ∈ ev_good := ev_in (ev_t2 _ (List.mem_of_getElem? (i := 79) rfl)) rfl
theorem lkX3_155 : Cond.methodLink RX3 155 yX5_byteAt ∈ ev_good := ev_in (ev_t2 _ (List.mem_of_getElem? (i := 83) rfl)) rfl
theorem lkX3_159 : Cond.methodLink RX3 159 yX3_isBlank ∈ ev_good := ev_in (ev_t2 _ (List.mem_of_getElem? (i := 87) rfl)) rfl
theorem lkX3_162 : Cond.methodLink RX3 162 yX3_isLetter ∈ ev_good := ev_in (ev_t2 _ (List.mem_of_getElem? (i := 90) rfl)) rfl
theorem lkX3_165 : Cond.methodLink RX3 165 yX3_endOfWord ∈ ev_good := ev_in (ev_t2 _ (List.mem_of_getElem? (i := 93) rfl)) rfl
theorem lkX3_168 : Cond.methodLink RX3 168 yX5_wordIn ∈ ev_good := ev_in (ev_t2 _ (List.mem_of_getElem? (i := 97) rfl)) rfl
theorem lkX3_171 : Cond.methodLink RX3 171 yX3_isDigit ∈ ev_good := ev_in (ev_t2 _ (List.mem_of_getElem? (i := 102) rfl)) rfl
theorem lkX3_174 : Cond.methodLink RX3 174 yX3_endOfDigits ∈ ev_good := ev_in (ev_t2 _ (List.mem_of_getElem? (i := 105) rfl)) rfl
theorem lkX3_177 : Cond.methodLink RX3 177 yX3_valueOfDigits ∈ ev_good := ev_in (ev_t2 _ (List.mem_of_getElem? (i := 109) rfl)) rfl
theorem lkX3_38 : Cond.methodLink RX3 38 yX1_reset ∈ ev_good := ev_in (ev_t2 _ (List.mem_of_getElem? (i := 74) rfl)) rfl
theorem lkX3_43 : Cond.methodLink RX3 43 yX3_toNextToken ∈ ev_good := ev_in (ev_t2 _ (List.mem_of_getElem? (i := 75) rfl)) rfl
theorem lkX3_51 : Cond.methodLink RX3 51 yX3_readNames ∈ ev_good := ev_in (ev_t2 _ (List.mem_of_getElem? (i := 114) rfl)) rfl
theorem lkX3_59 : Cond.methodLink RX3 59 yX3_readServices ∈ ev_good := ev_in (ev_t2 _ (List.mem_of_getElem? (i := 156) rfl)) rfl
theorem lkX3_63 : Cond.methodLink RX3 63 yX3_readBrowsers ∈ ev_good := ev_in (ev_t2 _ (List.mem_of_getElem? (i := 195) rfl)) rfl
theorem lkX3_66 : Cond.methodLink RX3 66 yX3_readLosses ∈ ev_good := ev_in (ev_t2 _ (List.mem_of_getElem? (i := 215) rfl)) rfl
theorem lkX3_69 : Cond.methodLink RX3 69 yX3_fail ∈ ev_good := ev_in (ev_t2 _ (List.mem_of_getElem? (i := 126) rfl)) rfl
theorem lkX3_73 : Cond.methodLink RX3 73 yX3_isAtWord ∈ ev_good := ev_in (ev_t2 _ (List.mem_of_getElem? (i := 118) rfl)) rfl
theorem lkX3_77 : Cond.methodLink RX3 77 yX3_isAtName ∈ ev_good := ev_in (ev_t2 _ (List.mem_of_getElem? (i := 134) rfl)) rfl
theorem lkX3_80 : Cond.methodLink RX3 80 yX4_placeOf ∈ ev_good := ev_in (ev_t2 _ (List.mem_of_getElem? (i := 138) rfl)) rfl
theorem lkX3_86 : Cond.methodLink RX3 86 yX4_addRow ∈ ev_good := ev_in (ev_t2 _ (List.mem_of_getElem? (i := 146) rfl)) rfl
theorem lkX3_90 : Cond.methodLink RX3 90 yX4_put ∈ ev_good := ev_in (ev_t2 _ (List.mem_of_getElem? (i := 147) rfl)) rfl
theorem lkX3_94 : Cond.methodLink RX3 94 yX3_readSemicolon ∈ ev_good := ev_in (ev_t2 _ (List.mem_of_getElem? (i := 151) rfl)) rfl
theorem lkX3_99 : Cond.methodLink RX3 99 yX3_readService ∈ ev_good := ev_in (ev_t2 _ (List.mem_of_getElem? (i := 161) rfl)) rfl
theorem lkX4_31 : Cond.methodLink RX4 31 yX4_at ∈ ev_good := ev_in (ev_t2 _ (List.mem_of_getElem? (i := 142) rfl)) rfl
theorem lkX4_34 : Cond.methodLinkNest RX4 34 yX6_intOf "LinkDirectory" ∈ lw_tbl := ev_t5 _ (List.mem_of_getElem? (i := 138) rfl)
theorem lkX4_38 : Cond.methodLink RX4 38 yX4_put ∈ ev_good := ev_in (ev_t5 _ (List.mem_of_getElem? (i := 124) rfl)) rfl
theorem lkX4_42 : Cond.methodLink RX4 42 yX4_move ∈ ev_good := ev_in (ev_t4 _ (List.mem_of_getElem? (i := 12) rfl)) rfl
theorem lkX4_52 : Cond.methodLink RX4 52 yX4_isNamedAs ∈ ev_good := ev_in (ev_t3 _ (List.mem_of_getElem? (i := 92) rfl)) rfl
theorem lkX4_56 : Cond.methodLink RX4 56 yJ6_compare_7cf53 ∈ ev_good := ev_in (ev_t3 _ (List.mem_of_getElem? (i := 49) rfl)) rfl
theorem lkX5_25 : Cond.methodLink RX5 25 yX5_put ∈ ev_good := ev_in (ev_t2 _ (List.mem_of_getElem? (i := 32) rfl)) rfl
theorem lkX5_38 : Cond.methodLinkNest RX5 38 yX6_letterOf "LinkDirectory" ∈ lw_tbl := ev_t3 _ (List.mem_of_getElem? (i := 103) rfl)
theorem lkX5_42 : Cond.methodLink RX5 42 yX5_wordIn ∈ ev_good := ev_in (ev_t4 _ (List.mem_of_getElem? (i := 39) rfl)) rfl
theorem lkX5_45 : Cond.methodLink RX5 45 yX5_byteAt ∈ ev_good := ev_in (ev_t2 _ (List.mem_of_getElem? (i := 101) rfl)) rfl
theorem lkX6_100 : Cond.methodLink RX6 100 yX1_copyFrom ∈ ev_good := ev_in (ev_t4 _ (List.mem_of_getElem? (i := 4) rfl)) rfl
theorem lkX6_11 : Cond.methodLink RX6 11 yX5_init ∈ ev_good := ev_in (ev_t1 _ (List.mem_of_getElem? (i := 33) rfl)) rfl
theorem lkX6_111 : Cond.methodLink RX6 111 yX4_size ∈ ev_good := ev_in (ev_t3 _ (List.mem_of_getElem? (i := 97) rfl)) rfl
theorem lkX6_114 : Cond.methodLink RX6 114 yX5_asWord ∈ ev_good := ev_in (ev_t4 _ (List.mem_of_getElem? (i := 35) rfl)) rfl
theorem lkX6_122 : Cond.methodLink RX6 122 yX4_placeOf ∈ ev_good := ev_in (ev_t4 _ (List.mem_of_getElem? (i := 41) rfl)) rfl
theorem lkX6_141 : Cond.methodLink RX6 141 yX6_intOf ∈ ev_good := ev_in (ev_t4 _ (List.mem_of_getElem? (i := 65) rfl)) rfl
theorem lkX6_148 : Cond.methodLink RX6 148 yX1_messagesUnderWay ∈ ev_good := ev_in (ev_t4 _ (List.mem_of_getElem? (i := 70) rfl)) rfl
theorem lkX6_151 : Cond.methodLink RX6 151 yX1_browsersOfAll ∈ ev_good := ev_in (ev_t4 _ (List.mem_of_getElem? (i := 90) rfl)) rfl
theorem lkX6_160 : Cond.methodLink RX6 160 yX1_eventsKept ∈ ev_good := ev_in (ev_t4 _ (List.mem_of_getElem? (i := 99) rfl)) rfl
theorem lkX6_163 : Cond.methodLink RX6 163 yX0_size ∈ ev_good := ev_in (ev_t4 _ (List.mem_of_getElem? (i := 106) rfl)) rfl
theorem lkX6_166 : Cond.methodLink RX6 166 yX6_mustHaveHost ∈ ev_good := ev_in (ev_t4 _ (List.mem_of_getElem? (i := 118) rfl)) rfl
theorem lkX6_169 : Cond.methodLink RX6 169 yX1_isOn ∈ ev_good := ev_in (ev_t4 _ (List.mem_of_getElem? (i := 123) rfl)) rfl
theorem lkX6_173 : Cond.methodLink RX6 173 yX4_at ∈ ev_good := ev_in (ev_t3 _ (List.mem_of_getElem? (i := 98) rfl)) rfl
theorem lkX6_176 : Cond.methodLink RX6 176 yX1_servicesOf ∈ ev_good := ev_in (ev_t4 _ (List.mem_of_getElem? (i := 124) rfl)) rfl
theorem lkX6_180 : Cond.methodLink RX6 180 yX1_cacheOf ∈ ev_good := ev_in (ev_t4 _ (List.mem_of_getElem? (i := 128) rfl)) rfl
theorem lkX6_184 : Cond.methodLink RX6 184 yX1_browsersOf ∈ ev_good := ev_in (ev_t4 _ (List.mem_of_getElem? (i := 129) rfl)) rfl
theorem lkX6_189 : Cond.methodLink RX6 189 yX6_mustHaveService ∈ ev_good := ev_in (ev_t4 _ (List.mem_of_getElem? (i := 138) rfl)) rfl
theorem lkX6_194 : Cond.methodLink RX6 194 yX6_letterOf ∈ ev_good := ev_in (ev_t4 _ (List.mem_of_getElem? (i := 151) rfl)) rfl
theorem lkX6_197 : Cond.methodLink RX6 197 yX4_isNamedAs ∈ ev_good := ev_in (ev_t4 _ (List.mem_of_getElem? (i := 159) rfl)) rfl
theorem lkX6_201 : Cond.methodLink RX6 201 yX6_mustHaveRecord ∈ ev_good := ev_in (ev_t4 _ (List.mem_of_getElem? (i := 167) rfl)) rfl
theorem lkX6_210 : Cond.methodLink RX6 210 yX6_mustHaveType ∈ ev_good := ev_in (ev_t4 _ (List.mem_of_getElem? (i := 191) rfl)) rfl
theorem lkX6_215 : Cond.methodLink RX6 215 yX1_isBrowsing ∈ ev_good := ev_in (ev_t4 _ (List.mem_of_getElem? (i := 197) rfl)) rfl
theorem lkX6_222 : Cond.methodLink RX6 222 yX1_browserOf ∈ ev_good := ev_in (ev_t4 _ (List.mem_of_getElem? (i := 198) rfl)) rfl
theorem lkX6_23 : Cond.methodLink RX6 23 yX1_init ∈ ev_good := ev_in (ev_t1 _ (List.mem_of_getElem? (i := 50) rfl)) rfl
theorem lkX6_248 : Cond.methodLink RX6 248 yX6_mustBeMessage ∈ ev_good := ev_in (ev_t4 _ (List.mem_of_getElem? (i := 231) rfl)) rfl
theorem lkX6_262 : Cond.methodLink RX6 262 yX1_portKnown ∈ ev_good := ev_in (ev_t5 _ (List.mem_of_getElem? (i := 10) rfl)) rfl
theorem lkX6_265 : Cond.methodLink RX6 265 yX1_recordsOf ∈ ev_good := ev_in (ev_t5 _ (List.mem_of_getElem? (i := 18) rfl)) rfl
theorem lkX6_268 : Cond.methodLink RX6 268 yX1_staleRecords ∈ ev_good := ev_in (ev_t3 _ (List.mem_of_getElem? (i := 33) rfl)) rfl
theorem lkX6_271 : Cond.methodLink RX6 271 yX1_clashingPairs ∈ ev_good := ev_in (ev_t3 _ (List.mem_of_getElem? (i := 60) rfl)) rfl
theorem lkX6_274 : Cond.methodLink RX6 274 yX1_pairsToKnow ∈ ev_good := ev_in (ev_t3 _ (List.mem_of_getElem? (i := 76) rfl)) rfl
theorem lkX6_280 : Cond.methodLink RX6 280 yX1_reasonOf ∈ ev_good := ev_in (ev_t5 _ (List.mem_of_getElem? (i := 30) rfl)) rfl
theorem lkX6_283 : Cond.methodLink RX6 283 yX1_causeOf ∈ ev_good := ev_in (ev_t5 _ (List.mem_of_getElem? (i := 34) rfl)) rfl
theorem lkX6_286 : Cond.methodLink RX6 286 yX1_tick ∈ ev_good := ev_in (ev_t5 _ (List.mem_of_getElem? (i := 45) rfl)) rfl
theorem lkX6_291 : Cond.methodLink RX6 291 yX6_mustBeTicks ∈ ev_good := ev_in (ev_t6 _ (List.mem_of_getElem? (i := 19) rfl)) rfl
theorem lkX6_298 : Cond.methodLink RX6 298 yX6_mustBePort ∈ ev_good := ev_in (ev_t6 _ (List.mem_of_getElem? (i := 53) rfl)) rfl
theorem lkX6_301 : Cond.methodLink RX6 301 yX1_isTaken ∈ ev_good := ev_in (ev_t6 _ (List.mem_of_getElem? (i := 57) rfl)) rfl
theorem lkX6_313 : Cond.methodLink RX6 313 yX5_putWord ∈ ev_good := ev_in (ev_t3 _ (List.mem_of_getElem? (i := 99) rfl)) rfl
theorem lkX6_316 : Cond.methodLink RX6 316 yX5_put ∈ ev_good := ev_in (ev_t3 _ (List.mem_of_getElem? (i := 106) rfl)) rfl
theorem lkX6_322 : Cond.methodLink RX6 322 yX6_signOf ∈ ev_good := ev_in (ev_t3 _ (List.mem_of_getElem? (i := 112) rfl)) rfl
theorem lkX6_33 : Cond.methodLink RX6 33 yX0_init ∈ ev_good := ev_in (ev_t1 _ (List.mem_of_getElem? (i := 202) rfl)) rfl
theorem lkX6_332 : Cond.methodLink RX6 332 yX0_keep ∈ ev_good := ev_in (ev_t6 _ (List.mem_of_getElem? (i := 78) rfl)) rfl
theorem lkX6_341 : Cond.methodLink RX6 341 yX1_withdrawService ∈ ev_good := ev_in (ev_t6 _ (List.mem_of_getElem? (i := 101) rfl)) rfl
theorem lkX6_344 : Cond.methodLink RX6 344 yX1_changePort ∈ ev_good := ev_in (ev_t6 _ (List.mem_of_getElem? (i := 112) rfl)) rfl
theorem lkX6_350 : Cond.methodLink RX6 350 yX1_switchOff ∈ ev_good := ev_in (ev_t6 _ (List.mem_of_getElem? (i := 127) rfl)) rfl
theorem lkX6_354 : Cond.methodLink RX6 354 yX1_hostsOn ∈ ev_good := ev_in (ev_t6 _ (List.mem_of_getElem? (i := 135) rfl)) rfl
theorem lkX6_359 : Cond.methodLink RX6 359 yX4_put ∈ ev_good := ev_in (ev_t6 _ (List.mem_of_getElem? (i := 147) rfl)) rfl
theorem lkX6_364 : Cond.methodLink RX6 364 yX1_beginToBrowse ∈ ev_good := ev_in (ev_t6 _ (List.mem_of_getElem? (i := 156) rfl)) rfl
theorem lkX6_367 : Cond.methodLink RX6 367 yX1_endBrowsing ∈ ev_good := ev_in (ev_t6 _ (List.mem_of_getElem? (i := 157) rfl)) rfl
theorem lkX6_372 : Cond.methodLink RX6 372 yX1_addMark ∈ ev_good := ev_in (ev_t6 _ (List.mem_of_getElem? (i := 166) rfl)) rfl
theorem lkX6_380 : Cond.methodLink RX6 380 yX6_mustBeSlot ∈ ev_good := ev_in (ev_t6 _ (List.mem_of_getElem? (i := 187) rfl)) rfl
theorem lkX6_55 : Cond.methodLink RX6 55 yX5_putAll ∈ ev_good := ev_in (ev_t1 _ (List.mem_of_getElem? (i := 220) rfl)) rfl
theorem lkX6_61 : Cond.methodLink RX6 61 yX3_init ∈ ev_good := ev_in (ev_t2 _ (List.mem_of_getElem? (i := 38) rfl)) rfl
theorem lkX6_64 : Cond.methodLink RX6 64 yX3_readText ∈ ev_good := ev_in (ev_t2 _ (List.mem_of_getElem? (i := 70) rfl)) rfl
theorem lkX6_68 : Cond.methodLink RX6 68 yX5_cutTo ∈ ev_good := ev_in (ev_t2 _ (List.mem_of_getElem? (i := 229) rfl)) rfl
theorem lkX6_71 : Cond.methodLink RX6 71 yX5_size ∈ ev_good := ev_in (ev_t3 _ (List.mem_of_getElem? (i := 115) rfl)) rfl
theorem lkX6_81 : Cond.methodLink RX6 81 yX5_putFour ∈ ev_good := ev_in (ev_t3 _ (List.mem_of_getElem? (i := 192) rfl)) rfl
theorem lkX7_114 : Cond.methodLink RX7 114 yX7_blanks ∈ ev_good := ev_in (ev_t7 _ (List.mem_of_getElem? (i := 109) rfl)) rfl
theorem lkX7_120 : Cond.methodLink RX7 120 yX7_isLetter ∈ ev_good := ev_in (ev_t7 _ (List.mem_of_getElem? (i := 117) rfl)) rfl
theorem lkX7_128 : Cond.methodLink RX7 128 yX7_takesWord ∈ ev_good := ev_in (ev_t7 _ (List.mem_of_getElem? (i := 113) rfl)) rfl
theorem lkX7_136 : Cond.methodLink RX7 136 yX7_fault ∈ ev_good := ev_in (ev_t7 _ (List.mem_of_getElem? (i := 125) rfl)) rfl
theorem lkX7_153 : Cond.methodLink RX7 153 yX7_placeOf ∈ ev_good := ev_in (ev_t7 _ (List.mem_of_getElem? (i := 133) rfl)) rfl
theorem lkX7_157 : Cond.methodLink RX7 157 yX7_says ∈ ev_good := ev_in (ev_t7 _ (List.mem_of_getElem? (i := 105) rfl)) rfl
theorem lkX7_161 : Cond.methodLink RX7 161 yX7_semicolon ∈ ev_good := ev_in (ev_t7 _ (List.mem_of_getElem? (i := 136) rfl)) rfl
theorem lkX7_168 : Cond.methodLink RX7 168 yX7_hasName ∈ ev_good := ev_in (ev_t7 _ (List.mem_of_getElem? (i := 154) rfl)) rfl
theorem lkX7_175 : Cond.methodLink RX7 175 yX7_isIn ∈ ev_good := ev_in (ev_t7 _ (List.mem_of_getElem? (i := 173) rfl)) rfl
theorem lkX7_181 : Cond.methodLink RX7 181 yX7_names ∈ ev_good := ev_in (ev_t7 _ (List.mem_of_getElem? (i := 101) rfl)) rfl
theorem lkX7_208 : Cond.methodLink RX7 208 yX7_readsText ∈ ev_good := ev_in (ev_t7 _ (List.mem_of_getElem? (i := 96) rfl)) rfl
theorem lkX7_211 : Cond.methodLink RX7 211 yX7_content ∈ ev_good := ev_in (ev_t7 _ (List.mem_of_getElem? (i := 188) rfl)) rfl
theorem lkX7_216 : Cond.methodLink RX7 216 yX7_logs ∈ ev_good := ev_in (ev_t8 _ (List.mem_of_getElem? (i := 126) rfl)) rfl
theorem lkX7_220 : Cond.methodLink RX7 220 yX7_messageAt ∈ ev_good := ev_in (ev_t8 _ (List.mem_of_getElem? (i := 28) rfl)) rfl
theorem lkX7_223 : Cond.methodLink RX7 223 yX7_sends ∈ ev_good := ev_in (ev_t8 _ (List.mem_of_getElem? (i := 122) rfl)) rfl
theorem lkX7_227 : Cond.methodLink RX7 227 yX7_recordAt ∈ ev_good := ev_in (ev_t8 _ (List.mem_of_getElem? (i := 8) rfl)) rfl
theorem lkX7_230 : Cond.methodLink RX7 230 yX7_isSame ∈ ev_good := ev_in (ev_t7 _ (List.mem_of_getElem? (i := 235) rfl)) rfl
theorem lkX7_234 : Cond.methodLink RX7 234 yX7_recordOf ∈ ev_good := ev_in (ev_t8 _ (List.mem_of_getElem? (i := 51) rfl)) rfl
theorem lkX7_240 : Cond.methodLink RX7 240 yX7_knownAt ∈ ev_good := ev_in (ev_t8 _ (List.mem_of_getElem? (i := 31) rfl)) rfl
theorem lkX7_243 : Cond.methodLink RX7 243 yX7_isThere ∈ ev_good := ev_in (ev_t8 _ (List.mem_of_getElem? (i := 71) rfl)) rfl
theorem lkX7_246 : Cond.methodLink RX7 246 yX7_tells ∈ ev_good := ev_in (ev_t8 _ (List.mem_of_getElem? (i := 118) rfl)) rfl
theorem lkX7_249 : Cond.methodLink RX7 249 yX7_compares ∈ ev_good := ev_in (ev_t8 _ (List.mem_of_getElem? (i := 130) rfl)) rfl
theorem lkX7_252 : Cond.methodLink RX7 252 yX7_probes ∈ ev_good := ev_in (ev_t8 _ (List.mem_of_getElem? (i := 134) rfl)) rfl
theorem lkX7_255 : Cond.methodLink RX7 255 yX7_renames ∈ ev_good := ev_in (ev_t8 _ (List.mem_of_getElem? (i := 138) rfl)) rfl
theorem lkX7_258 : Cond.methodLink RX7 258 yX7_meets ∈ ev_good := ev_in (ev_t8 _ (List.mem_of_getElem? (i := 114) rfl)) rfl
theorem lkX7_261 : Cond.methodLink RX7 261 yX7_isAnswered ∈ ev_good := ev_in (ev_t8 _ (List.mem_of_getElem? (i := 142) rfl)) rfl
theorem lkX7_264 : Cond.methodLink RX7 264 yX7_caches ∈ ev_good := ev_in (ev_t8 _ (List.mem_of_getElem? (i := 146) rfl)) rfl
theorem lkX7_267 : Cond.methodLink RX7 267 yX7_comes ∈ ev_good := ev_in (ev_t8 _ (List.mem_of_getElem? (i := 110) rfl)) rfl
theorem lkX7_270 : Cond.methodLink RX7 270 yX7_isOld ∈ ev_good := ev_in (ev_t8 _ (List.mem_of_getElem? (i := 166) rfl)) rfl
theorem lkX7_273 : Cond.methodLink RX7 273 yX7_asks ∈ ev_good := ev_in (ev_t8 _ (List.mem_of_getElem? (i := 170) rfl)) rfl
theorem lkX7_276 : Cond.methodLink RX7 276 yX7_delivers ∈ ev_good := ev_in (ev_t8 _ (List.mem_of_getElem? (i := 106) rfl)) rfl
theorem lkX7_279 : Cond.methodLink RX7 279 yX7_expires ∈ ev_good := ev_in (ev_t8 _ (List.mem_of_getElem? (i := 154) rfl)) rfl
theorem lkX7_282 : Cond.methodLink RX7 282 yX7_acts ∈ ev_good := ev_in (ev_t8 _ (List.mem_of_getElem? (i := 158) rfl)) rfl
theorem lkX7_285 : Cond.methodLink RX7 285 yX7_looks ∈ ev_good := ev_in (ev_t8 _ (List.mem_of_getElem? (i := 162) rfl)) rfl
theorem lkX7_288 : Cond.methodLink RX7 288 yX7_copies ∈ ev_good := ev_in (ev_t8 _ (List.mem_of_getElem? (i := 95) rfl)) rfl
theorem lkX7_294 : Cond.methodLink RX7 294 yX7_browsed ∈ ev_good := ev_in (ev_t7 _ (List.mem_of_getElem? (i := 198) rfl)) rfl
theorem lkX7_297 : Cond.methodLink RX7 297 yX7_logged ∈ ev_good := ev_in (ev_t7 _ (List.mem_of_getElem? (i := 202) rfl)) rfl
theorem lkX7_300 : Cond.methodLink RX7 300 yX7_isHost ∈ ev_good := ev_in (ev_t7 _ (List.mem_of_getElem? (i := 210) rfl)) rfl
theorem lkX7_305 : Cond.methodLink RX7 305 yX7_isService ∈ ev_good := ev_in (ev_t7 _ (List.mem_of_getElem? (i := 219) rfl)) rfl
theorem lkX7_310 : Cond.methodLink RX7 310 yX7_letterOf ∈ ev_good := ev_in (ev_t7 _ (List.mem_of_getElem? (i := 228) rfl)) rfl
theorem lkX7_313 : Cond.methodLink RX7 313 yX7_isRecord ∈ ev_good := ev_in (ev_t8 _ (List.mem_of_getElem? (i := 3) rfl)) rfl
theorem lkX7_318 : Cond.methodLink RX7 318 yX7_isType ∈ ev_good := ev_in (ev_t8 _ (List.mem_of_getElem? (i := 19) rfl)) rfl
theorem lkX7_325 : Cond.methodLink RX7 325 yX7_knownPort ∈ ev_good := ev_in (ev_t8 _ (List.mem_of_getElem? (i := 47) rfl)) rfl
theorem lkX7_331 : Cond.methodLink RX7 331 yX7_staleNow ∈ ev_good := ev_in (ev_t8 _ (List.mem_of_getElem? (i := 63) rfl)) rfl
theorem lkX7_334 : Cond.methodLink RX7 334 yX7_ticks ∈ ev_good := ev_in (ev_t8 _ (List.mem_of_getElem? (i := 102) rfl)) rfl
theorem lkX7_337 : Cond.methodLink RX7 337 yX7_lays ∈ ev_good := ev_in (ev_t8 _ (List.mem_of_getElem? (i := 91) rfl)) rfl
theorem lkX7_340 : Cond.methodLink RX7 340 yX7_establishes ∈ ev_good := ev_in (ev_t8 _ (List.mem_of_getElem? (i := 98) rfl)) rfl
theorem lkX7_343 : Cond.methodLink RX7 343 yX7_takesBack ∈ ev_good := ev_in (ev_t8 _ (List.mem_of_getElem? (i := 174) rfl)) rfl
theorem lkX7_351 : Cond.methodLink RX7 351 yX7_puts ∈ ev_good := ev_in (ev_t8 _ (List.mem_of_getElem? (i := 207) rfl)) rfl
theorem lkX7_354 : Cond.methodLink RX7 354 yX7_putsName ∈ ev_good := ev_in (ev_t8 _ (List.mem_of_getElem? (i := 203) rfl)) rfl
theorem lkX7_363 : Cond.methodLink RX7 363 yX7_keeps ∈ ev_good := ev_in (ev_t8 _ (List.mem_of_getElem? (i := 223) rfl)) rfl
theorem lkX7_370 : Cond.methodLink RX7 370 yX7_goesOff ∈ ev_good := ev_in (ev_t9 _ (List.mem_of_getElem? (i := 5) rfl)) rfl
theorem lkX7_60 : Cond.methodLink RX7 60 yX7_begins ∈ ev_good := ev_in (ev_t6 _ (List.mem_of_getElem? (i := 209) rfl)) rfl
theorem lkX7_64 : Cond.methodLink RX7 64 yX7_browses ∈ ev_good := ev_in (ev_t6 _ (List.mem_of_getElem? (i := 218) rfl)) rfl
theorem lkX7_68 : Cond.methodLink RX7 68 yX7_takesText ∈ ev_good := ev_in (ev_t6 _ (List.mem_of_getElem? (i := 224) rfl)) rfl
theorem lkX7_74 : Cond.methodLink RX7 74 yX7_serviceAt ∈ ev_good := ev_in (ev_t6 _ (List.mem_of_getElem? (i := 212) rfl)) rfl
theorem lkX7_78 : Cond.methodLink RX7 78 yX7_hostAt ∈ ev_good := ev_in (ev_t6 _ (List.mem_of_getElem? (i := 215) rfl)) rfl
theorem lkX7_81 : Cond.methodLink RX7 81 yX7_browserAt ∈ ev_good := ev_in (ev_t6 _ (List.mem_of_getElem? (i := 221) rfl)) rfl
theorem lkX7_88 : Cond.methodLink RX7 88 yX7_bytes ∈ ev_good := ev_in (ev_t7 _ (List.mem_of_getElem? (i := 81) rfl)) rfl
theorem lkX7_92 : Cond.methodLink RX7 92 yX7_in ∈ ev_good := ev_in (ev_t7 _ (List.mem_of_getElem? (i := 89) rfl)) rfl
theorem lclX0_9 : Cond.classLink RX0 9 RX1 ∈ ev_good := ev_in (ev_t1 _ (List.mem_of_getElem? (i := 206) rfl)) rfl
theorem lclX1_9 : Cond.classLink RX1 9 RX4 ∈ ev_good := ev_in (ev_t1 _ (List.mem_of_getElem? (i := 54) rfl)) rfl
theorem lclX6_21 : Cond.classLink RX6 21 RX1 ∈ ev_good := ev_in (ev_t1 _ (List.mem_of_getElem? (i := 48) rfl)) rfl
theorem lcX1_188 : Cond.constant RX1 188 (1000000 : Int32) ∈ ev_good := ev_in (ev_t5 _ (List.mem_of_getElem? (i := 57) rfl)) rfl
theorem lcX1_41 : Cond.constant RX1 41 (65536 : Int32) ∈ ev_good := ev_in (ev_t1 _ (List.mem_of_getElem? (i := 75) rfl)) rfl
theorem lcX2_13 : Cond.constant RX2 13 (65536 : Int32) ∈ ev_good := ev_in (ev_t1 _ (List.mem_of_getElem? (i := 83) rfl)) rfl
theorem lcX2_21 : Cond.constant RX2 21 (262144 : Int32) ∈ ev_good := ev_in (ev_t1 _ (List.mem_of_getElem? (i := 85) rfl)) rfl
theorem lcX6_401 : Cond.constantLong RX6 401 (2147483647 : Int64) ∈ ev_good := ev_in (ev_t4 _ (List.mem_of_getElem? (i := 68) rfl)) rfl
theorem lcX6_403 : Cond.constant RX6 403 (2147483647 : Int32) ∈ ev_good := ev_in (ev_t4 _ (List.mem_of_getElem? (i := 69) rfl)) rfl
theorem lcX7_106 : Cond.constantLong RX7 106 (97 : Int64) ∈ ev_good := ev_in (ev_t7 _ (List.mem_of_getElem? (i := 121) rfl)) rfl
theorem lcX7_108 : Cond.constantLong RX7 108 (122 : Int64) ∈ ev_good := ev_in (ev_t7 _ (List.mem_of_getElem? (i := 122) rfl)) rfl
theorem lcX7_124 : Cond.constantLong RX7 124 (27 : Int64) ∈ ev_good := ev_in (ev_t7 _ (List.mem_of_getElem? (i := 123) rfl)) rfl
theorem lcX7_16 : Cond.constant RX7 16 (56747 : Int32) ∈ ev_good := ev_in (ev_t6 _ (List.mem_of_getElem? (i := 206) rfl)) rfl
theorem lcX7_179 : Cond.constantLong RX7 179 (4561183 : Int64) ∈ ev_good := ev_in (ev_t7 _ (List.mem_of_getElem? (i := 100) rfl)) rfl
theorem lcX7_185 : Cond.constantLong RX7 185 (11132713 : Int64) ∈ ev_good := ev_in (ev_t7 _ (List.mem_of_getElem? (i := 144) rfl)) rfl
theorem lcX7_187 : Cond.constantLong RX7 187 (7442739437 : Int64) ∈ ev_good := ev_in (ev_t7 _ (List.mem_of_getElem? (i := 145) rfl)) rfl
theorem lcX7_192 : Cond.constantLong RX7 192 (38576282 : Int64) ∈ ev_good := ev_in (ev_t7 _ (List.mem_of_getElem? (i := 167) rfl)) rfl
theorem lcX7_194 : Cond.constantLong RX7 194 (247649 : Int64) ∈ ev_good := ev_in (ev_t7 _ (List.mem_of_getElem? (i := 168) rfl)) rfl
theorem lcX7_20 : Cond.constant RX7 20 (453976 : Int32) ∈ ev_good := ev_in (ev_t6 _ (List.mem_of_getElem? (i := 207) rfl)) rfl
theorem lcX7_214 : Cond.constantLong RX7 214 (2 : Int64) ∈ ev_good := ev_in (ev_t7 _ (List.mem_of_getElem? (i := 192) rfl)) rfl
theorem lcX7_24 : Cond.constant RX7 24 (113494 : Int32) ∈ ev_good := ev_in (ev_t6 _ (List.mem_of_getElem? (i := 208) rfl)) rfl
theorem lcX7_292 : Cond.constantLong RX7 292 (11 : Int64) ∈ ev_good := ev_in (ev_t7 _ (List.mem_of_getElem? (i := 197) rfl)) rfl
theorem lcX7_303 : Cond.constantLong RX7 303 (5 : Int64) ∈ ev_good := ev_in (ev_t7 _ (List.mem_of_getElem? (i := 214) rfl)) rfl
theorem lcX7_308 : Cond.constantLong RX7 308 (10 : Int64) ∈ ev_good := ev_in (ev_t7 _ (List.mem_of_getElem? (i := 223) rfl)) rfl
theorem lcX7_321 : Cond.constantLong RX7 321 (3 : Int64) ∈ ev_good := ev_in (ev_t8 _ (List.mem_of_getElem? (i := 23) rfl)) rfl
theorem lcX7_323 : Cond.constantLong RX7 323 (999 : Int64) ∈ ev_good := ev_in (ev_t8 _ (List.mem_of_getElem? (i := 38) rfl)) rfl
theorem lcX7_346 : Cond.constantLong RX7 346 (100 : Int64) ∈ ev_good := ev_in (ev_t8 _ (List.mem_of_getElem? (i := 182) rfl)) rfl
theorem lcX7_366 : Cond.constantLong RX7 366 (20 : Int64) ∈ ev_good := ev_in (ev_t8 _ (List.mem_of_getElem? (i := 231) rfl)) rfl
theorem lcX7_368 : Cond.constantLong RX7 368 (1000 : Int64) ∈ ev_good := ev_in (ev_t8 _ (List.mem_of_getElem? (i := 232) rfl)) rfl
theorem lfX0_11 : Cond.fieldLink RX0 11 (TX0 0).1 (TX0 0).2.1 (TX0 0).2.2.1 ∈ ev_good := ev_in (ev_t1 _ (List.mem_of_getElem? (i := 209) rfl)) rfl
theorem lfX0_18 : Cond.fieldLink RX0 18 (TX0 1).1 (TX0 1).2.1 (TX0 1).2.2.1 ∈ ev_good := ev_in (ev_t1 _ (List.mem_of_getElem? (i := 210) rfl)) rfl
theorem lfX0_22 : Cond.fieldLink RX0 22 (TX0 2).1 (TX0 2).2.1 (TX0 2).2.2.1 ∈ ev_good := ev_in (ev_t1 _ (List.mem_of_getElem? (i := 211) rfl)) rfl
theorem lfX1_14 : Cond.fieldLink RX1 14 (TX1 0).1 (TX1 0).2.1 (TX1 0).2.2.1 ∈ ev_good := ev_in (ev_t1 _ (List.mem_of_getElem? (i := 125) rfl)) rfl
theorem lnX1_181 : Cond.fieldLinkNest RX1 181 (TX2 2).1 (TX2 2).2.1 (TX2 2).2.2.1 "LinkDirectory" ∈ lw_tbl := ev_t1 _ (List.mem_of_getElem? (i := 92) rfl)
theorem lfX1_20 : Cond.fieldLink RX1 20 (TX1 1).1 (TX1 1).2.1 (TX1 1).2.2.1 ∈ ev_good := ev_in (ev_t1 _ (List.mem_of_getElem? (i := 128) rfl)) rfl
theorem lnX1_207 : Cond.fieldLinkNest RX1 207 (TX2 0).1 (TX2 0).2.1 (TX2 0).2.2.1 "LinkDirectory" ∈ lw_tbl := ev_t1 _ (List.mem_of_getElem? (i := 88) rfl)
theorem lnX1_229 : Cond.fieldLinkNest RX1 229 (TX2 1).1 (TX2 1).2.1 (TX2 1).2.2.1 "LinkDirectory" ∈ lw_tbl := ev_t1 _ (List.mem_of_getElem? (i := 90) rfl)
theorem lfX1_23 : Cond.fieldLink RX1 23 (TX1 2).1 (TX1 2).2.1 (TX1 2).2.2.1 ∈ ev_good := ev_in (ev_t1 _ (List.mem_of_getElem? (i := 131) rfl)) rfl
theorem lfX1_26 : Cond.fieldLink RX1 26 (TX1 3).1 (TX1 3).2.1 (TX1 3).2.2.1 ∈ ev_good := ev_in (ev_t1 _ (List.mem_of_getElem? (i := 133) rfl)) rfl
theorem lfX1_29 : Cond.fieldLink RX1 29 (TX1 4).1 (TX1 4).2.1 (TX1 4).2.2.1 ∈ ev_good := ev_in (ev_t1 _ (List.mem_of_getElem? (i := 135) rfl)) rfl
theorem lfX1_32 : Cond.fieldLink RX1 32 (TX1 5).1 (TX1 5).2.1 (TX1 5).2.2.1 ∈ ev_good := ev_in (ev_t1 _ (List.mem_of_getElem? (i := 136) rfl)) rfl
theorem lfX1_35 : Cond.fieldLink RX1 35 (TX1 6).1 (TX1 6).2.1 (TX1 6).2.2.1 ∈ ev_good := ev_in (ev_t1 _ (List.mem_of_getElem? (i := 139) rfl)) rfl
theorem lfX1_38 : Cond.fieldLink RX1 38 (TX1 8).1 (TX1 8).2.1 (TX1 8).2.2.1 ∈ ev_good := ev_in (ev_t1 _ (List.mem_of_getElem? (i := 142) rfl)) rfl
theorem lfX1_42 : Cond.fieldLink RX1 42 (TX1 9).1 (TX1 9).2.1 (TX1 9).2.2.1 ∈ ev_good := ev_in (ev_t1 _ (List.mem_of_getElem? (i := 143) rfl)) rfl
theorem lfX1_48 : Cond.fieldLink RX1 48 (TX1 10).1 (TX1 10).2.1 (TX1 10).2.2.1 ∈ ev_good := ev_in (ev_t1 _ (List.mem_of_getElem? (i := 144) rfl)) rfl
theorem lfX1_52 : Cond.fieldLink RX1 52 (TX1 11).1 (TX1 11).2.1 (TX1 11).2.2.1 ∈ ev_good := ev_in (ev_t1 _ (List.mem_of_getElem? (i := 146) rfl)) rfl
theorem lfX1_55 : Cond.fieldLink RX1 55 (TX1 7).1 (TX1 7).2.1 (TX1 7).2.2.1 ∈ ev_good := ev_in (ev_t1 _ (List.mem_of_getElem? (i := 141) rfl)) rfl
theorem lfX1_74 : Cond.fieldLink RX1 74 (TX1 12).1 (TX1 12).2.1 (TX1 12).2.2.1 ∈ ev_good := ev_in (ev_t1 _ (List.mem_of_getElem? (i := 148) rfl)) rfl
theorem lfX1_78 : Cond.fieldLink RX1 78 (TX1 13).1 (TX1 13).2.1 (TX1 13).2.2.1 ∈ ev_good := ev_in (ev_t1 _ (List.mem_of_getElem? (i := 150) rfl)) rfl
theorem lfX1_82 : Cond.fieldLink RX1 82 (TX1 14).1 (TX1 14).2.1 (TX1 14).2.2.1 ∈ ev_good := ev_in (ev_t1 _ (List.mem_of_getElem? (i := 152) rfl)) rfl
theorem lfX1_85 : Cond.fieldLink RX1 85 (TX1 15).1 (TX1 15).2.1 (TX1 15).2.2.1 ∈ ev_good := ev_in (ev_t1 _ (List.mem_of_getElem? (i := 154) rfl)) rfl
theorem lfX1_88 : Cond.fieldLink RX1 88 (TX1 16).1 (TX1 16).2.1 (TX1 16).2.2.1 ∈ ev_good := ev_in (ev_t1 _ (List.mem_of_getElem? (i := 156) rfl)) rfl
theorem lfX1_91 : Cond.fieldLink RX1 91 (TX1 17).1 (TX1 17).2.1 (TX1 17).2.2.1 ∈ ev_good := ev_in (ev_t1 _ (List.mem_of_getElem? (i := 158) rfl)) rfl
theorem lfX1_94 : Cond.fieldLink RX1 94 (TX1 18).1 (TX1 18).2.1 (TX1 18).2.2.1 ∈ ev_good := ev_in (ev_t1 _ (List.mem_of_getElem? (i := 160) rfl)) rfl
theorem lfX2_17 : Cond.fieldLink RX2 17 (TX2 0).1 (TX2 0).2.1 (TX2 0).2.2.1 ∈ ev_good := ev_in (ev_t1 _ (List.mem_of_getElem? (i := 86) rfl)) rfl
theorem lfX2_22 : Cond.fieldLink RX2 22 (TX2 1).1 (TX2 1).2.1 (TX2 1).2.2.1 ∈ ev_good := ev_in (ev_t1 _ (List.mem_of_getElem? (i := 89) rfl)) rfl
theorem lfX2_25 : Cond.fieldLink RX2 25 (TX2 2).1 (TX2 2).2.1 (TX2 2).2.2.1 ∈ ev_good := ev_in (ev_t1 _ (List.mem_of_getElem? (i := 91) rfl)) rfl
theorem lfX2_28 : Cond.fieldLink RX2 28 (TX2 3).1 (TX2 3).2.1 (TX2 3).2.2.1 ∈ ev_good := ev_in (ev_t1 _ (List.mem_of_getElem? (i := 93) rfl)) rfl
theorem lfX3_15 : Cond.fieldLink RX3 15 (TX3 1).1 (TX3 1).2.1 (TX3 1).2.2.1 ∈ ev_good := ev_in (ev_t2 _ (List.mem_of_getElem? (i := 43) rfl)) rfl
theorem lfX3_19 : Cond.fieldLink RX3 19 (TX3 2).1 (TX3 2).2.1 (TX3 2).2.2.1 ∈ ev_good := ev_in (ev_t2 _ (List.mem_of_getElem? (i := 44) rfl)) rfl
theorem lfX3_23 : Cond.fieldLink RX3 23 (TX3 3).1 (TX3 3).2.1 (TX3 3).2.2.1 ∈ ev_good := ev_in (ev_t2 _ (List.mem_of_getElem? (i := 45) rfl)) rfl
theorem lfX3_26 : Cond.fieldLink RX3 26 (TX3 4).1 (TX3 4).2.1 (TX3 4).2.2.1 ∈ ev_good := ev_in (ev_t2 _ (List.mem_of_getElem? (i := 46) rfl)) rfl
theorem lfX3_29 : Cond.fieldLink RX3 29 (TX3 5).1 (TX3 5).2.1 (TX3 5).2.2.1 ∈ ev_good := ev_in (ev_t2 _ (List.mem_of_getElem? (i := 47) rfl)) rfl
theorem lnX3_48 : Cond.fieldLinkNest RX3 48 (TX1 0).1 (TX1 0).2.1 (TX1 0).2.2.1 "LinkDirectory" ∈ lw_tbl := ev_t1 _ (List.mem_of_getElem? (i := 126) rfl)
theorem lnX3_57 : Cond.fieldLinkNest RX3 57 (TX1 1).1 (TX1 1).2.1 (TX1 1).2.2.1 "LinkDirectory" ∈ lw_tbl := ev_t1 _ (List.mem_of_getElem? (i := 129) rfl)
theorem lfX3_9 : Cond.fieldLink RX3 9 (TX3 0).1 (TX3 0).2.1 (TX3 0).2.2.1 ∈ ev_good := ev_in (ev_t2 _ (List.mem_of_getElem? (i := 42) rfl)) rfl
theorem lfX4_15 : Cond.fieldLink RX4 15 (TX4 1).1 (TX4 1).2.1 (TX4 1).2.2.1 ∈ ev_good := ev_in (ev_t1 _ (List.mem_of_getElem? (i := 62) rfl)) rfl
theorem lfX4_24 : Cond.fieldLink RX4 24 (TX4 2).1 (TX4 2).2.1 (TX4 2).2.2.1 ∈ ev_good := ev_in (ev_t1 _ (List.mem_of_getElem? (i := 63) rfl)) rfl
theorem lfX4_28 : Cond.fieldLink RX4 28 (TX4 3).1 (TX4 3).2.1 (TX4 3).2.2.1 ∈ ev_good := ev_in (ev_t1 _ (List.mem_of_getElem? (i := 64) rfl)) rfl
theorem lfX4_9 : Cond.fieldLink RX4 9 (TX4 0).1 (TX4 0).2.1 (TX4 0).2.2.1 ∈ ev_good := ev_in (ev_t1 _ (List.mem_of_getElem? (i := 61) rfl)) rfl
theorem lfX5_15 : Cond.fieldLink RX5 15 (TX5 0).1 (TX5 0).2.1 (TX5 0).2.2.1 ∈ ev_good := ev_in (ev_t1 _ (List.mem_of_getElem? (i := 40) rfl)) rfl
theorem lfX5_21 : Cond.fieldLink RX5 21 (TX5 1).1 (TX5 1).2.1 (TX5 1).2.2.1 ∈ ev_good := ev_in (ev_t1 _ (List.mem_of_getElem? (i := 41) rfl)) rfl
theorem lnX6_107 : Cond.fieldLinkNest RX6 107 (TX1 2).1 (TX1 2).2.1 (TX1 2).2.2.1 "LinkDirectory" ∈ lw_tbl := ev_t1 _ (List.mem_of_getElem? (i := 132) rfl)
theorem lnX6_119 : Cond.fieldLinkNest RX6 119 (TX1 0).1 (TX1 0).2.1 (TX1 0).2.2.1 "LinkDirectory" ∈ lw_tbl := ev_t1 _ (List.mem_of_getElem? (i := 127) rfl)
theorem lnX6_126 : Cond.fieldLinkNest RX6 126 (TX1 1).1 (TX1 1).2.1 (TX1 1).2.2.1 "LinkDirectory" ∈ lw_tbl := ev_t1 _ (List.mem_of_getElem? (i := 130) rfl)
theorem lnX6_134 : Cond.fieldLinkNest RX6 134 (TX1 12).1 (TX1 12).2.1 (TX1 12).2.2.1 "LinkDirectory" ∈ lw_tbl := ev_t1 _ (List.mem_of_getElem? (i := 149) rfl)
theorem lnX6_137 : Cond.fieldLinkNest RX6 137 (TX1 13).1 (TX1 13).2.1 (TX1 13).2.2.1 "LinkDirectory" ∈ lw_tbl := ev_t1 _ (List.mem_of_getElem? (i := 151) rfl)
theorem lfX6_14 : Cond.fieldLink RX6 14 (TX6 0).1 (TX6 0).2.1 (TX6 0).2.2.1 ∈ ev_good := ev_in (ev_t2 _ (List.mem_of_getElem? (i := 233) rfl)) rfl
theorem lnX6_145 : Cond.fieldLinkNest RX6 145 (TX1 14).1 (TX1 14).2.1 (TX1 14).2.2.1 "LinkDirectory" ∈ lw_tbl := ev_t1 _ (List.mem_of_getElem? (i := 153) rfl)
theorem lnX6_154 : Cond.fieldLinkNest RX6 154 (TX1 15).1 (TX1 15).2.1 (TX1 15).2.2.1 "LinkDirectory" ∈ lw_tbl := ev_t1 _ (List.mem_of_getElem? (i := 155) rfl)
theorem lnX6_157 : Cond.fieldLinkNest RX6 157 (TX1 16).1 (TX1 16).2.1 (TX1 16).2.2.1 "LinkDirectory" ∈ lw_tbl := ev_t1 _ (List.mem_of_getElem? (i := 157) rfl)
theorem lfX6_18 : Cond.fieldLink RX6 18 (TX6 1).1 (TX6 1).2.1 (TX6 1).2.2.1 ∈ ev_good := ev_in (ev_t2 _ (List.mem_of_getElem? (i := 234) rfl)) rfl
theorem lnX6_219 : Cond.fieldLinkNest RX6 219 (TX1 3).1 (TX1 3).2.1 (TX1 3).2.2.1 "LinkDirectory" ∈ lw_tbl := ev_t1 _ (List.mem_of_getElem? (i := 134) rfl)
theorem lfX6_24 : Cond.fieldLink RX6 24 (TX6 2).1 (TX6 2).2.1 (TX6 2).2.2.1 ∈ ev_good := ev_in (ev_t2 _ (List.mem_of_getElem? (i := 235) rfl)) rfl
theorem lnX6_251 : Cond.fieldLinkNest RX6 251 (TX1 5).1 (TX1 5).2.1 (TX1 5).2.2.1 "LinkDirectory" ∈ lw_tbl := ev_t1 _ (List.mem_of_getElem? (i := 138) rfl)
theorem lfX6_28 : Cond.fieldLink RX6 28 (TX6 3).1 (TX6 3).2.1 (TX6 3).2.2.1 ∈ ev_good := ev_in (ev_t2 _ (List.mem_of_getElem? (i := 236) rfl)) rfl
theorem lfX6_34 : Cond.fieldLink RX6 34 (TX6 4).1 (TX6 4).2.1 (TX6 4).2.2.1 ∈ ev_good := ev_in (ev_t2 _ (List.mem_of_getElem? (i := 237) rfl)) rfl
theorem lfX6_38 : Cond.fieldLink RX6 38 (TX6 5).1 (TX6 5).2.1 (TX6 5).2.2.1 ∈ ev_good := ev_in (ev_t2 _ (List.mem_of_getElem? (i := 238) rfl)) rfl
theorem lfX6_42 : Cond.fieldLink RX6 42 (TX6 6).1 (TX6 6).2.1 (TX6 6).2.2.1 ∈ ev_good := ev_in (ev_t2 _ (List.mem_of_getElem? (i := 239) rfl)) rfl
theorem lfX6_46 : Cond.fieldLink RX6 46 (TX6 7).1 (TX6 7).2.1 (TX6 7).2.2.1 ∈ ev_good := ev_in (ev_t3 _ (List.mem_of_getElem? (i := 0) rfl)) rfl
theorem lfX6_50 : Cond.fieldLink RX6 50 (TX6 8).1 (TX6 8).2.1 (TX6 8).2.2.1 ∈ ev_good := ev_in (ev_t3 _ (List.mem_of_getElem? (i := 1) rfl)) rfl
theorem lnX6_89 : Cond.fieldLinkNest RX6 89 (TX3 6).1 (TX3 6).2.1 (TX3 6).2.2.1 "LinkDirectory" ∈ lw_tbl := ev_t2 _ (List.mem_of_getElem? (i := 49) rfl)
theorem lnX6_92 : Cond.fieldLinkNest RX6 92 (TX3 7).1 (TX3 7).2.1 (TX3 7).2.2.1 "LinkDirectory" ∈ lw_tbl := ev_t2 _ (List.mem_of_getElem? (i := 51) rfl)
theorem lfX7_100 : Cond.fieldLink RX7 100 (TX7 15).1 (TX7 15).2.1 (TX7 15).2.2.1 ∈ ev_good := ev_in (ev_t7 _ (List.mem_of_getElem? (i := 3) rfl)) rfl
theorem lfX7_103 : Cond.fieldLink RX7 103 (TX7 14).1 (TX7 14).2.1 (TX7 14).2.2.1 ∈ ev_good := ev_in (ev_t7 _ (List.mem_of_getElem? (i := 2) rfl)) rfl
theorem lfX7_13 : Cond.fieldLink RX7 13 (TX7 4).1 (TX7 4).2.1 (TX7 4).2.2.1 ∈ ev_good := ev_in (ev_t6 _ (List.mem_of_getElem? (i := 232) rfl)) rfl
theorem lfX7_17 : Cond.fieldLink RX7 17 (TX7 5).1 (TX7 5).2.1 (TX7 5).2.2.1 ∈ ev_good := ev_in (ev_t6 _ (List.mem_of_getElem? (i := 233) rfl)) rfl
theorem lfX7_199 : Cond.fieldLink RX7 199 (TX7 1).1 (TX7 1).2.1 (TX7 1).2.2.1 ∈ ev_good := ev_in (ev_t6 _ (List.mem_of_getElem? (i := 229) rfl)) rfl
theorem lfX7_202 : Cond.fieldLink RX7 202 (TX7 2).1 (TX7 2).2.1 (TX7 2).2.2.1 ∈ ev_good := ev_in (ev_t6 _ (List.mem_of_getElem? (i := 230) rfl)) rfl
theorem lfX7_205 : Cond.fieldLink RX7 205 (TX7 10).1 (TX7 10).2.1 (TX7 10).2.2.1 ∈ ev_good := ev_in (ev_t6 _ (List.mem_of_getElem? (i := 238) rfl)) rfl
theorem lfX7_21 : Cond.fieldLink RX7 21 (TX7 6).1 (TX7 6).2.1 (TX7 6).2.2.1 ∈ ev_good := ev_in (ev_t6 _ (List.mem_of_getElem? (i := 234) rfl)) rfl
theorem lfX7_25 : Cond.fieldLink RX7 25 (TX7 7).1 (TX7 7).2.1 (TX7 7).2.2.1 ∈ ev_good := ev_in (ev_t6 _ (List.mem_of_getElem? (i := 235) rfl)) rfl
theorem lfX7_28 : Cond.fieldLink RX7 28 (TX7 8).1 (TX7 8).2.1 (TX7 8).2.2.1 ∈ ev_good := ev_in (ev_t6 _ (List.mem_of_getElem? (i := 236) rfl)) rfl
theorem lfX7_31 : Cond.fieldLink RX7 31 (TX7 9).1 (TX7 9).2.1 (TX7 9).2.2.1 ∈ ev_good := ev_in (ev_t6 _ (List.mem_of_getElem? (i := 237) rfl)) rfl
theorem lfX7_348 : Cond.fieldLink RX7 348 (TX7 27).1 (TX7 27).2.1 (TX7 27).2.2.1 ∈ ev_good := ev_in (ev_t7 _ (List.mem_of_getElem? (i := 15) rfl)) rfl
theorem lfX7_35 : Cond.fieldLink RX7 35 (TX7 12).1 (TX7 12).2.1 (TX7 12).2.2.1 ∈ ev_good := ev_in (ev_t7 _ (List.mem_of_getElem? (i := 0) rfl)) rfl
theorem lfX7_360 : Cond.fieldLink RX7 360 (TX7 11).1 (TX7 11).2.1 (TX7 11).2.2.1 ∈ ev_good := ev_in (ev_t6 _ (List.mem_of_getElem? (i := 239) rfl)) rfl
theorem lfX7_38 : Cond.fieldLink RX7 38 (TX7 16).1 (TX7 16).2.1 (TX7 16).2.2.1 ∈ ev_good := ev_in (ev_t7 _ (List.mem_of_getElem? (i := 4) rfl)) rfl
theorem lfX7_42 : Cond.fieldLink RX7 42 (TX7 23).1 (TX7 23).2.1 (TX7 23).2.2.1 ∈ ev_good := ev_in (ev_t7 _ (List.mem_of_getElem? (i := 11) rfl)) rfl
theorem lfX7_45 : Cond.fieldLink RX7 45 (TX7 24).1 (TX7 24).2.1 (TX7 24).2.2.1 ∈ ev_good := ev_in (ev_t7 _ (List.mem_of_getElem? (i := 12) rfl)) rfl
theorem lfX7_48 : Cond.fieldLink RX7 48 (TX7 25).1 (TX7 25).2.1 (TX7 25).2.2.1 ∈ ev_good := ev_in (ev_t7 _ (List.mem_of_getElem? (i := 13) rfl)) rfl
theorem lfX7_51 : Cond.fieldLink RX7 51 (TX7 26).1 (TX7 26).2.1 (TX7 26).2.2.1 ∈ ev_good := ev_in (ev_t7 _ (List.mem_of_getElem? (i := 14) rfl)) rfl
theorem lfX7_54 : Cond.fieldLink RX7 54 (TX7 21).1 (TX7 21).2.1 (TX7 21).2.2.1 ∈ ev_good := ev_in (ev_t7 _ (List.mem_of_getElem? (i := 9) rfl)) rfl
theorem lfX7_57 : Cond.fieldLink RX7 57 (TX7 22).1 (TX7 22).2.1 (TX7 22).2.2.1 ∈ ev_good := ev_in (ev_t7 _ (List.mem_of_getElem? (i := 10) rfl)) rfl
theorem lfX7_7 : Cond.fieldLink RX7 7 (TX7 3).1 (TX7 3).2.1 (TX7 3).2.2.1 ∈ ev_good := ev_in (ev_t6 _ (List.mem_of_getElem? (i := 231) rfl)) rfl
theorem lfX7_71 : Cond.fieldLink RX7 71 (TX7 0).1 (TX7 0).2.1 (TX7 0).2.2.1 ∈ ev_good := ev_in (ev_t6 _ (List.mem_of_getElem? (i := 228) rfl)) rfl
theorem lfX7_85 : Cond.fieldLink RX7 85 (TX7 13).1 (TX7 13).2.1 (TX7 13).2.2.1 ∈ ev_good := ev_in (ev_t7 _ (List.mem_of_getElem? (i := 1) rfl)) rfl
theorem lfX7_96 : Cond.fieldLink RX7 96 (TX7 17).1 (TX7 17).2.1 (TX7 17).2.2.1 ∈ ev_good := ev_in (ev_t7 _ (List.mem_of_getElem? (i := 5) rfl)) rfl
theorem lkX0_29 : Cond.methodLink RX0 29 Lib.Math.min.name ∈ ev_good := ev_in (ev_t6 _ (List.mem_of_getElem? (i := 83) rfl)) rfl
theorem lkX0_3 : Cond.methodLink RX0 3 Lib.objectInit ∈ ev_good := ev_in (ev_t1 _ (List.mem_of_getElem? (i := 205) rfl)) rfl
theorem lkX1_126 : Cond.methodLink RX1 126 Lib.Math.min.name ∈ ev_good := ev_in (ev_t4 _ (List.mem_of_getElem? (i := 103) rfl)) rfl
theorem lkX1_3 : Cond.methodLink RX1 3 Lib.objectInit ∈ ev_good := ev_in (ev_t1 _ (List.mem_of_getElem? (i := 53) rfl)) rfl
theorem lkX2_3 : Cond.methodLink RX2 3 Lib.objectInit ∈ ev_good := ev_in (ev_t1 _ (List.mem_of_getElem? (i := 81) rfl)) rfl
theorem lkX3_3 : Cond.methodLink RX3 3 Lib.objectInit ∈ ev_good := ev_in (ev_t2 _ (List.mem_of_getElem? (i := 41) rfl)) rfl
theorem lkX4_18 : Cond.methodLink RX4 18 Lib.Math.max.name ∈ ev_good := ev_in (ev_t1 _ (List.mem_of_getElem? (i := 60) rfl)) rfl
theorem lkX4_3 : Cond.methodLink RX4 3 Lib.objectInit ∈ ev_good := ev_in (ev_t1 _ (List.mem_of_getElem? (i := 59) rfl)) rfl
theorem lkX4_46 : Cond.methodLink RX4 46 arraycopyName ∈ ev_good := ev_in (ev_t4 _ (List.mem_of_getElem? (i := 15) rfl)) rfl
theorem lkX5_29 : Cond.methodLink RX5 29 yJ0_length_8abf5 ∈ ev_good := ev_in (ev_t1 _ (List.mem_of_getElem? (i := 224) rfl)) rfl
theorem lkX5_3 : Cond.methodLink RX5 3 Lib.objectInit ∈ ev_good := ev_in (ev_t1 _ (List.mem_of_getElem? (i := 36) rfl)) rfl
theorem lkX5_34 : Cond.methodLink RX5 34 yJ0_charAt_5068e ∈ ev_good := ev_in (ev_t1 _ (List.mem_of_getElem? (i := 234) rfl)) rfl
theorem lkX5_9 : Cond.methodLink RX5 9 Lib.Math.max.name ∈ ev_good := ev_in (ev_t1 _ (List.mem_of_getElem? (i := 37) rfl)) rfl
theorem lkX6_3 : Cond.methodLink RX6 3 Lib.objectInit ∈ ev_good := ev_in (ev_t1 _ (List.mem_of_getElem? (i := 28) rfl)) rfl
theorem lkX7_1 : Cond.methodLink RX7 1 Lib.objectInit ∈ ev_good := ev_in (ev_t6 _ (List.mem_of_getElem? (i := 205) rfl)) rfl
theorem lclX1_45 : Cond.classLink RX1 45 RX2 ∈ ev_good := ev_in (ev_t1 _ (List.mem_of_getElem? (i := 76) rfl)) rfl
theorem lclX2_9 : Cond.classLink RX2 9 RX4 ∈ ev_good := ev_in (ev_t1 _ (List.mem_of_getElem? (i := 82) rfl)) rfl
theorem lclX6_31 : Cond.classLink RX6 31 RX0 ∈ ev_good := ev_in (ev_t1 _ (List.mem_of_getElem? (i := 200) rfl)) rfl
theorem lclX6_59 : Cond.classLink RX6 59 RX3 ∈ ev_good := ev_in (ev_t2 _ (List.mem_of_getElem? (i := 36) rfl)) rfl
theorem lclX6_9 : Cond.classLink RX6 9 RX5 ∈ ev_good := ev_in (ev_t1 _ (List.mem_of_getElem? (i := 31) rfl)) rfl
theorem lfX3_32 : Cond.fieldLink RX3 32 (TX3 6).1 (TX3 6).2.1 (TX3 6).2.2.1 ∈ ev_good := ev_in (ev_t2 _ (List.mem_of_getElem? (i := 48) rfl)) rfl
theorem lfX3_35 : Cond.fieldLink RX3 35 (TX3 7).1 (TX3 7).2.1 (TX3 7).2.2.1 ∈ ev_good := ev_in (ev_t2 _ (List.mem_of_getElem? (i := 50) rfl)) rfl
theorem lfX7_117 : Cond.fieldLink RX7 117 (TX7 20).1 (TX7 20).2.1 (TX7 20).2.2.1 ∈ ev_good := ev_in (ev_t7 _ (List.mem_of_getElem? (i := 8) rfl)) rfl
