set_option maxRecDepth 20000 in
set_option maxHeartbeats 4000000 in
theorem v_X6_init {l : Launch} {d mc ms : Nat} {Q : Option Value → qH → Prop} {QX : String → qH → Prop} (hkc : 5 ≤ mc) (hks : 544 ≤ ms) (x0 : Nat) {h : qH} (hv : qPI h x0 6 3 (3000 : Int32) (fun h1 => qPI h1 x0 6 4 (-20 : Int32) (fun h2 => qPI h2 x0 6 5 (100 : Int32) (fun h3 => qNI h3 133 (fun r4 h5 => qPR h5 x0 6 10 r4 (fun h6 => qNI h6 133 (fun r7 h8 => qPR h8 x0 6 11 r7 (fun h9 => qNI h9 133 (fun r10 h11 => qPR h11 x0 6 12 r10 (fun h12 => qNI h12 133 (fun r13 h14 => qPR h14 x0 6 13 r13 (fun h15 => qNI h15 12 (fun r16 h17 => qPR h17 x0 6 14 r16 (fun h18 => Q none h18)))))))))))))) : q_Ct l (d + 1) mX6_init [.ref x0] h mc ms Q QX := by
  refine q_body (by decide ) (by intro v hm; simp only [List.mem_cons, List.not_mem_nil, or_false] at hm; subst hm; rfl) (Nat.le_of_ble_eq_true rfl) ?_
  refine j_pad 0 rfl ?_
  refine j_aload_n dX6_init_0 rfl rfl ?_
  refine j_objInit dX6_init_1 w_m_X6_3 w_in_objInit w_co_objInit (Nat.le_of_ble_eq_true rfl) (by omega) ?_
  refine j_aload_n dX6_init_4 rfl rfl ?_
  refine j_sipush (v := (3000 : Int32)) dX6_init_5 (by decide) ?_
  obtain ⟨fs, e1, e2, hv⟩ := hv
  refine j_put (k := 3) (ty0 := tyX6) cl_X6 (pf_X6_3) w_f_X6_9 dX6_init_8 (fun g ad => q_nI g ad _) e1 e2 ?_
  generalize q_set h x0 _ = h1 at hv ⊢
  refine j_aload_n dX6_init_11 rfl rfl ?_
  refine j_bipush (v := (-20 : Int32)) dX6_init_12 (by decide) ?_
  obtain ⟨fs, e1, e2, hv⟩ := hv
  refine j_put (k := 4) (ty0 := tyX6) cl_X6 (pf_X6_4) w_f_X6_15 dX6_init_14 (fun g ad => q_nI g ad _) e1 e2 ?_
  generalize q_set h1 x0 _ = h2 at hv ⊢
  refine j_aload_n dX6_init_17 rfl rfl ?_
  refine j_bipush (v := (100 : Int32)) dX6_init_18 (by decide) ?_
  obtain ⟨fs, e1, e2, hv⟩ := hv
  refine j_put (k := 5) (ty0 := tyX6) cl_X6 (pf_X6_5) w_f_X6_18 dX6_init_20 (fun g ad => q_nI g ad _) e1 e2 ?_
  generalize q_set h2 x0 _ = h3 at hv ⊢
  refine j_aload_n dX6_init_23 rfl rfl ?_
  refine j_sipush (v := (133 : Int32)) dX6_init_24 (by decide) ?_
  refine jj_newI (N := 133) w_ar_int dX6_init_27 (by decide) (by decide) (by decide) (kc' := (mc - 1)) (ks' := (ms - 133)) (by omega) (by omega) hv (fun r4 h5 hv => ?_)
  obtain ⟨fs, e1, e2, hv⟩ := hv
  refine j_putF (k := 10) (ty0 := tyX6) cl_X6 (pf_X6_10) w_f_X6_21 dX6_init_29 rfl rfl (fun g ad => q_nRa g ad _ _) e1 e2 ?_
  generalize q_set h5 x0 _ = h6 at hv ⊢
  refine j_aload_n dX6_init_32 rfl rfl ?_
  refine j_sipush (v := (133 : Int32)) dX6_init_33 (by decide) ?_
  refine jj_newI (N := 133) w_ar_int dX6_init_36 (by decide) (by decide) (by decide) (kc' := (mc - 2)) (ks' := (ms - 266)) (by omega) (by omega) hv (fun r7 h8 hv => ?_)
  obtain ⟨fs, e1, e2, hv⟩ := hv
  refine j_putF (k := 11) (ty0 := tyX6) cl_X6 (pf_X6_11) w_f_X6_25 dX6_init_38 rfl rfl (fun g ad => q_nRa g ad _ _) e1 e2 ?_
  generalize q_set h8 x0 _ = h9 at hv ⊢
  refine j_aload_n dX6_init_41 rfl rfl ?_
  refine j_sipush (v := (133 : Int32)) dX6_init_42 (by decide) ?_
  refine jj_newI (N := 133) w_ar_int dX6_init_45 (by decide) (by decide) (by decide) (kc' := (mc - 3)) (ks' := (ms - 399)) (by omega) (by omega) hv (fun r10 h11 hv => ?_)
  obtain ⟨fs, e1, e2, hv⟩ := hv
  refine j_putF (k := 12) (ty0 := tyX6) cl_X6 (pf_X6_12) w_f_X6_28 dX6_init_47 rfl rfl (fun g ad => q_nRa g ad _ _) e1 e2 ?_
  generalize q_set h11 x0 _ = h12 at hv ⊢
  refine j_aload_n dX6_init_50 rfl rfl ?_
  refine j_sipush (v := (133 : Int32)) dX6_init_51 (by decide) ?_
  refine jj_newI (N := 133) w_ar_int dX6_init_54 (by decide) (by decide) (by decide) (kc' := (mc - 4)) (ks' := (ms - 532)) (by omega) (by omega) hv (fun r13 h14 hv => ?_)
  obtain ⟨fs, e1, e2, hv⟩ := hv
  refine j_putF (k := 13) (ty0 := tyX6) cl_X6 (pf_X6_13) w_f_X6_31 dX6_init_56 rfl rfl (fun g ad => q_nRa g ad _ _) e1 e2 ?_
  generalize q_set h14 x0 _ = h15 at hv ⊢
  refine j_aload_n dX6_init_59 rfl rfl ?_
  refine j_bipush (v := (12 : Int32)) dX6_init_60 (by decide) ?_
  refine jj_newI (N := 12) w_ar_int dX6_init_62 (by decide) (by decide) (by decide) (kc' := (mc - 5)) (ks' := (ms - 544)) (by omega) (by omega) hv (fun r16 h17 hv => ?_)
  obtain ⟨fs, e1, e2, hv⟩ := hv
  refine j_putF (k := 14) (ty0 := tyX6) cl_X6 (pf_X6_14) w_f_X6_34 dX6_init_64 rfl rfl (fun g ad => q_nRa g ad _ _) e1 e2 ?_
  generalize q_set h17 x0 _ = h18 at hv ⊢
  exact j_vret dX6_init_67 rfl hv
set_option maxRecDepth 20000 in
set_option maxHeartbeats 4000000 in
theorem v_X5_init {l : Launch} {d mc ms : Nat} {Q : Option Value → qH → Prop} {QX : String → qH → Prop} (hkc : 3 ≤ mc) (hks : 120 ≤ ms) (x0 : Nat) {h : qH} (hv : qNI h 40 (fun r1 h2 => qPR h2 x0 5 0 r1 (fun h3 => qNI h3 40 (fun r4 h5 => qPR h5 x0 5 1 r4 (fun h6 => qNI h6 40 (fun r7 h8 => qPR h8 x0 5 2 r7 (fun h9 => Q none h9))))))) : q_Ct l (d + 1) mX5_init [.ref x0] h mc ms Q QX := by
  refine q_body (by decide ) (by intro v hm; simp only [List.mem_cons, List.not_mem_nil, or_false] at hm; subst hm; rfl) (Nat.le_of_ble_eq_true rfl) ?_
  refine j_pad 0 rfl ?_
  refine j_aload_n dX5_init_0 rfl rfl ?_
  refine j_objInit dX5_init_1 w_m_X5_3 w_in_objInit w_co_objInit (Nat.le_of_ble_eq_true rfl) (by omega) ?_
  refine j_aload_n dX5_init_4 rfl rfl ?_
  refine j_bipush (v := (40 : Int32)) dX5_init_5 (by decide) ?_
  refine jj_newI (N := 40) w_ar_int dX5_init_7 (by decide) (by decide) (by decide) (kc' := (mc - 1)) (ks' := (ms - 40)) (by omega) (by omega) hv (fun r1 h2 hv => ?_)
  obtain ⟨fs, e1, e2, hv⟩ := hv
  refine j_putF (k := 0) (ty0 := tyX5) cl_X5 (pf_X5_0) w_f_X5_9 dX5_init_9 rfl rfl (fun g ad => q_nRa g ad _ _) e1 e2 ?_
  generalize q_set h2 x0 _ = h3 at hv ⊢
  refine j_aload_n dX5_init_12 rfl rfl ?_
  refine j_bipush (v := (40 : Int32)) dX5_init_13 (by decide) ?_
  refine jj_newI (N := 40) w_ar_int dX5_init_15 (by decide) (by decide) (by decide) (kc' := (mc - 2)) (ks' := (ms - 80)) (by omega) (by omega) hv (fun r4 h5 hv => ?_)
  obtain ⟨fs, e1, e2, hv⟩ := hv
  refine j_putF (k := 1) (ty0 := tyX5) cl_X5 (pf_X5_1) w_f_X5_15 dX5_init_17 rfl rfl (fun g ad => q_nRa g ad _ _) e1 e2 ?_
  generalize q_set h5 x0 _ = h6 at hv ⊢
  refine j_aload_n dX5_init_20 rfl rfl ?_
  refine j_bipush (v := (40 : Int32)) dX5_init_21 (by decide) ?_
  refine jj_newI (N := 40) w_ar_int dX5_init_23 (by decide) (by decide) (by decide) (kc' := (mc - 3)) (ks' := (ms - 120)) (by omega) (by omega) hv (fun r7 h8 hv => ?_)
  obtain ⟨fs, e1, e2, hv⟩ := hv
  refine j_putF (k := 2) (ty0 := tyX5) cl_X5 (pf_X5_2) w_f_X5_18 dX5_init_25 rfl rfl (fun g ad => q_nRa g ad _ _) e1 e2 ?_
  generalize q_set h8 x0 _ = h9 at hv ⊢
  exact j_vret dX5_init_28 rfl hv
set_option maxRecDepth 20000 in
set_option maxHeartbeats 4000000 in
theorem v_X4_init {l : Launch} {d mc ms : Nat} {Q : Option Value → qH → Prop} {QX : String → qH → Prop} (hkc : 3 ≤ mc) (hks : 18 ≤ ms) (x0 : Nat) {h : qH} (hv : qNI h 6 (fun r1 h2 => qPR h2 x0 4 0 r1 (fun h3 => qNI h3 6 (fun r4 h5 => qPR h5 x0 4 1 r4 (fun h6 => qNI h6 6 (fun r7 h8 => qPR h8 x0 4 2 r7 (fun h9 => Q none h9))))))) : q_Ct l (d + 1) mX4_init [.ref x0] h mc ms Q QX := by
  refine q_body (by decide ) (by intro v hm; simp only [List.mem_cons, List.not_mem_nil, or_false] at hm; subst hm; rfl) (Nat.le_of_ble_eq_true rfl) ?_
  refine j_pad 0 rfl ?_
  refine j_aload_n dX4_init_0 rfl rfl ?_
  refine j_objInit dX4_init_1 w_m_X4_3 w_in_objInit w_co_objInit (Nat.le_of_ble_eq_true rfl) (by omega) ?_
  refine j_aload_n dX4_init_4 rfl rfl ?_
  refine j_bipush (v := (6 : Int32)) dX4_init_5 (by decide) ?_
  refine jj_newI (N := 6) w_ar_int dX4_init_7 (by decide) (by decide) (by decide) (kc' := (mc - 1)) (ks' := (ms - 6)) (by omega) (by omega) hv (fun r1 h2 hv => ?_)
  obtain ⟨fs, e1, e2, hv⟩ := hv
  refine j_putF (k := 0) (ty0 := tyX4) cl_X4 (pf_X4_0) w_f_X4_9 dX4_init_9 rfl rfl (fun g ad => q_nRa g ad _ _) e1 e2 ?_
  generalize q_set h2 x0 _ = h3 at hv ⊢
  refine j_aload_n dX4_init_12 rfl rfl ?_
  refine j_bipush (v := (6 : Int32)) dX4_init_13 (by decide) ?_
  refine jj_newI (N := 6) w_ar_int dX4_init_15 (by decide) (by decide) (by decide) (kc' := (mc - 2)) (ks' := (ms - 12)) (by omega) (by omega) hv (fun r4 h5 hv => ?_)
  obtain ⟨fs, e1, e2, hv⟩ := hv
  refine j_putF (k := 1) (ty0 := tyX4) cl_X4 (pf_X4_1) w_f_X4_15 dX4_init_17 rfl rfl (fun g ad => q_nRa g ad _ _) e1 e2 ?_
  generalize q_set h5 x0 _ = h6 at hv ⊢
  refine j_aload_n dX4_init_20 rfl rfl ?_
  refine j_bipush (v := (6 : Int32)) dX4_init_21 (by decide) ?_
  refine jj_newI (N := 6) w_ar_int dX4_init_23 (by decide) (by decide) (by decide) (kc' := (mc - 3)) (ks' := (ms - 18)) (by omega) (by omega) hv (fun r7 h8 hv => ?_)
  obtain ⟨fs, e1, e2, hv⟩ := hv
  refine j_putF (k := 2) (ty0 := tyX4) cl_X4 (pf_X4_2) w_f_X4_18 dX4_init_25 rfl rfl (fun g ad => q_nRa g ad _ _) e1 e2 ?_
  generalize q_set h8 x0 _ = h9 at hv ⊢
  exact j_vret dX4_init_28 rfl hv
set_option maxRecDepth 20000 in
set_option maxHeartbeats 4000000 in
theorem v_X7_init {l : Launch} {d mc ms : Nat} {Q : Option Value → qH → Prop} {QX : String → qH → Prop} (hkc : 4 ≤ mc) (hks : 48 ≤ ms) (x0 : Nat) {h : qH} (hv : qNI h 12 (fun r1 h2 => qPR h2 x0 7 0 r1 (fun h3 => qNI h3 12 (fun r4 h5 => qPR h5 x0 7 1 r4 (fun h6 => qNI h6 12 (fun r7 h8 => qPR h8 x0 7 2 r7 (fun h9 => qNI h9 12 (fun r10 h11 => qPR h11 x0 7 3 r10 (fun h12 => Q none h12))))))))) : q_Ct l (d + 1) mX7_init [.ref x0] h mc ms Q QX := by
  refine q_body (by decide ) (by intro v hm; simp only [List.mem_cons, List.not_mem_nil, or_false] at hm; subst hm; rfl) (Nat.le_of_ble_eq_true rfl) ?_
  refine j_pad 0 rfl ?_
  refine j_aload_n dX7_init_0 rfl rfl ?_
  refine j_objInit dX7_init_1 w_m_X7_3 w_in_objInit w_co_objInit (Nat.le_of_ble_eq_true rfl) (by omega) ?_
  refine j_aload_n dX7_init_4 rfl rfl ?_
  refine j_bipush (v := (12 : Int32)) dX7_init_5 (by decide) ?_
  refine jj_newI (N := 12) w_ar_int dX7_init_7 (by decide) (by decide) (by decide) (kc' := (mc - 1)) (ks' := (ms - 12)) (by omega) (by omega) hv (fun r1 h2 hv => ?_)
  obtain ⟨fs, e1, e2, hv⟩ := hv
  refine j_putF (k := 0) (ty0 := tyX7) cl_X7 (pf_X7_0) w_f_X7_9 dX7_init_9 rfl rfl (fun g ad => q_nRa g ad _ _) e1 e2 ?_
  generalize q_set h2 x0 _ = h3 at hv ⊢
  refine j_aload_n dX7_init_12 rfl rfl ?_
  refine j_bipush (v := (12 : Int32)) dX7_init_13 (by decide) ?_
  refine jj_newI (N := 12) w_ar_int dX7_init_15 (by decide) (by decide) (by decide) (kc' := (mc - 2)) (ks' := (ms - 24)) (by omega) (by omega) hv (fun r4 h5 hv => ?_)
  obtain ⟨fs, e1, e2, hv⟩ := hv
  refine j_putF (k := 1) (ty0 := tyX7) cl_X7 (pf_X7_1) w_f_X7_15 dX7_init_17 rfl rfl (fun g ad => q_nRa g ad _ _) e1 e2 ?_
  generalize q_set h5 x0 _ = h6 at hv ⊢
  refine j_aload_n dX7_init_20 rfl rfl ?_
  refine j_bipush (v := (12 : Int32)) dX7_init_21 (by decide) ?_
  refine jj_newI (N := 12) w_ar_int dX7_init_23 (by decide) (by decide) (by decide) (kc' := (mc - 3)) (ks' := (ms - 36)) (by omega) (by omega) hv (fun r7 h8 hv => ?_)
  obtain ⟨fs, e1, e2, hv⟩ := hv
  refine j_putF (k := 2) (ty0 := tyX7) cl_X7 (pf_X7_2) w_f_X7_18 dX7_init_25 rfl rfl (fun g ad => q_nRa g ad _ _) e1 e2 ?_
  generalize q_set h8 x0 _ = h9 at hv ⊢
  refine j_aload_n dX7_init_28 rfl rfl ?_
  refine j_bipush (v := (12 : Int32)) dX7_init_29 (by decide) ?_
  refine jj_newI (N := 12) w_ar_int dX7_init_31 (by decide) (by decide) (by decide) (kc' := (mc - 4)) (ks' := (ms - 48)) (by omega) (by omega) hv (fun r10 h11 hv => ?_)
  obtain ⟨fs, e1, e2, hv⟩ := hv
  refine j_putF (k := 3) (ty0 := tyX7) cl_X7 (pf_X7_3) w_f_X7_21 dX7_init_33 rfl rfl (fun g ad => q_nRa g ad _ _) e1 e2 ?_
  generalize q_set h11 x0 _ = h12 at hv ⊢
  exact j_vret dX7_init_36 rfl hv
set_option maxRecDepth 20000 in
set_option maxHeartbeats 4000000 in
theorem v_X8_init {l : Launch} {d mc ms : Nat} {Q : Option Value → qH → Prop} {QX : String → qH → Prop} (hkc : 2 ≤ mc) (hks : 1152 ≤ ms) (x0 : Nat) (x1 : Nat) {h : qH} (hv : qNI h 576 (fun r1 h2 => qPR h2 x0 8 1 r1 (fun h3 => qNI h3 576 (fun r4 h5 => qPR h5 x0 8 2 r4 (fun h6 => qPR h6 x0 8 0 x1 (fun h7 => Q none h7)))))) : q_Ct l (d + 1) mX8_init [.ref x0, .ref x1] h mc ms Q QX := by
  refine q_body (by decide ) (by intro v hm; simp only [List.mem_cons, List.not_mem_nil, or_false] at hm; rcases hm with rfl | rfl <;> rfl) (Nat.le_of_ble_eq_true rfl) ?_
  refine j_pad 0 rfl ?_
  refine j_aload_n dX8_init_0 rfl rfl ?_
  refine j_objInit dX8_init_1 w_m_X8_3 w_in_objInit w_co_objInit (Nat.le_of_ble_eq_true rfl) (by omega) ?_
  refine j_aload_n dX8_init_4 rfl rfl ?_
  refine j_sipush (v := (576 : Int32)) dX8_init_5 (by decide) ?_
  refine jj_newI (N := 576) w_ar_int dX8_init_8 (by decide) (by decide) (by decide) (kc' := (mc - 1)) (ks' := (ms - 576)) (by omega) (by omega) hv (fun r1 h2 hv => ?_)
  obtain ⟨fs, e1, e2, hv⟩ := hv
  refine j_putF (k := 1) (ty0 := tyX8) cl_X8 (pf_X8_1) w_f_X8_9 dX8_init_10 rfl rfl (fun g ad => q_nRa g ad _ _) e1 e2 ?_
  generalize q_set h2 x0 _ = h3 at hv ⊢
  refine j_aload_n dX8_init_13 rfl rfl ?_
  refine j_sipush (v := (576 : Int32)) dX8_init_14 (by decide) ?_
  refine jj_newI (N := 576) w_ar_int dX8_init_17 (by decide) (by decide) (by decide) (kc' := (mc - 2)) (ks' := (ms - 1152)) (by omega) (by omega) hv (fun r4 h5 hv => ?_)
  obtain ⟨fs, e1, e2, hv⟩ := hv
  refine j_putF (k := 2) (ty0 := tyX8) cl_X8 (pf_X8_2) w_f_X8_15 dX8_init_19 rfl rfl (fun g ad => q_nRa g ad _ _) e1 e2 ?_
  generalize q_set h5 x0 _ = h6 at hv ⊢
  refine j_aload_n dX8_init_22 rfl rfl ?_
  refine j_aload_n dX8_init_23 rfl rfl ?_
  obtain ⟨fs, e1, e2, hv⟩ := hv
  refine j_putF (k := 0) (ty0 := tyX8) cl_X8 (pf_X8_0) w_f_X8_18 dX8_init_24 rfl rfl (fun g ad => q_nRo g ad _ _) e1 e2 ?_
  generalize q_set h6 x0 _ = h7 at hv ⊢
  exact j_vret dX8_init_27 rfl hv
set_option maxRecDepth 20000 in
set_option maxHeartbeats 4000000 in
theorem v_X1_init {l : Launch} {d mc ms : Nat} {Q : Option Value → qH → Prop} {QX : String → qH → Prop} (hkc : 4 ≤ mc) (hks : 6336 ≤ ms) (x0 : Nat) {h : qH} (hv : qNI h 576 (fun r1 h2 => qPR h2 x0 1 0 r1 (fun h3 => qNI h3 576 (fun r4 h5 => qPR h5 x0 1 1 r4 (fun h6 => qNZ h6 576 (fun r7 h8 => qPR h8 x0 1 2 r7 (fun h9 => qNI h9 4608 (fun r10 h11 => qPR h11 x0 1 3 r10 (fun h12 => qPI h12 x0 1 4 (12 : Int32) (fun h13 => qOB h13 x0 1 (qCV l (d + 3) mX1_measureSteps [.ref x0] h13 0 0 (fun h14 => Q none h14)))))))))))) : q_Ct l (d + 4) mX1_init [.ref x0] h mc ms Q QX := by
  refine q_body (by decide ) (by intro v hm; simp only [List.mem_cons, List.not_mem_nil, or_false] at hm; subst hm; rfl) (Nat.le_of_ble_eq_true rfl) ?_
  refine j_pad 0 rfl ?_
  refine j_aload_n dX1_init_0 rfl rfl ?_
  refine j_objInit dX1_init_1 w_m_X1_3 w_in_objInit w_co_objInit (Nat.le_of_ble_eq_true rfl) (by omega) ?_
  refine j_aload_n dX1_init_4 rfl rfl ?_
  refine j_sipush (v := (576 : Int32)) dX1_init_5 (by decide) ?_
  refine jj_newI (N := 576) w_ar_int dX1_init_8 (by decide) (by decide) (by decide) (kc' := (mc - 1)) (ks' := (ms - 576)) (by omega) (by omega) hv (fun r1 h2 hv => ?_)
  obtain ⟨fs, e1, e2, hv⟩ := hv
  refine j_putF (k := 0) (ty0 := tyX1) cl_X1 (pf_X1_0) w_f_X1_9 dX1_init_10 rfl rfl (fun g ad => q_nRa g ad _ _) e1 e2 ?_
  generalize q_set h2 x0 _ = h3 at hv ⊢
  refine j_aload_n dX1_init_13 rfl rfl ?_
  refine j_sipush (v := (576 : Int32)) dX1_init_14 (by decide) ?_
  refine jj_newI (N := 576) w_ar_int dX1_init_17 (by decide) (by decide) (by decide) (kc' := (mc - 2)) (ks' := (ms - 1152)) (by omega) (by omega) hv (fun r4 h5 hv => ?_)
  obtain ⟨fs, e1, e2, hv⟩ := hv
  refine j_putF (k := 1) (ty0 := tyX1) cl_X1 (pf_X1_1) w_f_X1_15 dX1_init_19 rfl rfl (fun g ad => q_nRa g ad _ _) e1 e2 ?_
  generalize q_set h5 x0 _ = h6 at hv ⊢
  refine j_aload_n dX1_init_22 rfl rfl ?_
  refine j_sipush (v := (576 : Int32)) dX1_init_23 (by decide) ?_
  refine jj_newZ (N := 576) w_ar_boolean dX1_init_26 (by decide) (by decide) (by decide) (kc' := (mc - 3)) (ks' := (ms - 1728)) (by omega) (by omega) hv (fun r7 h8 hv => ?_)
  obtain ⟨fs, e1, e2, hv⟩ := hv
  refine j_putF (k := 2) (ty0 := tyX1) cl_X1 (pf_X1_2) w_f_X1_18 dX1_init_28 rfl rfl (fun g ad => q_nRa g ad _ _) e1 e2 ?_
  generalize q_set h8 x0 _ = h9 at hv ⊢
  refine j_aload_n dX1_init_31 rfl rfl ?_
  refine j_sipush (v := (4608 : Int32)) dX1_init_32 (by decide) ?_
  refine jj_newI (N := 4608) w_ar_int dX1_init_35 (by decide) (by decide) (by decide) (kc' := (mc - 4)) (ks' := (ms - 6336)) (by omega) (by omega) hv (fun r10 h11 hv => ?_)
  obtain ⟨fs, e1, e2, hv⟩ := hv
  refine j_putF (k := 3) (ty0 := tyX1) cl_X1 (pf_X1_3) w_f_X1_22 dX1_init_37 rfl rfl (fun g ad => q_nRa g ad _ _) e1 e2 ?_
  generalize q_set h11 x0 _ = h12 at hv ⊢
  refine j_aload_n dX1_init_40 rfl rfl ?_
  refine j_bipush (v := (12 : Int32)) dX1_init_41 (by decide) ?_
  obtain ⟨fs, e1, e2, hv⟩ := hv
  refine j_put (k := 4) (ty0 := tyX1) cl_X1 (pf_X1_4) w_f_X1_25 dX1_init_43 (fun g ad => q_nI g ad _) e1 e2 ?_
  generalize q_set h12 x0 _ = h13 at hv ⊢
  refine j_aload_n dX1_init_46 rfl rfl ?_
  obtain ⟨⟨fs, e1⟩, hv⟩ := hv
  refine j_virtual (avs := []) (rest := []) (i := x0) (kc' := (mc - 4)) (ks' := (ms - 6336)) dX1_init_47 mt_X1_measureSteps w_m_X1_29 w_in_X1_measureSteps w_se_X1_measureSteps rfl rfl (Nat.le_of_ble_eq_true rfl) (Nat.le_refl _) (by omega) (by omega) cl_X1.1 e1 hv (fun _ _ q9 => q9) ?_
  rintro _ h14 ⟨rfl, hv⟩ -
  exact j_vret dX1_init_50 rfl hv
set_option maxRecDepth 20000 in
set_option maxHeartbeats 4000000 in
theorem v_X0_init {l : Launch} {d mc ms : Nat} {Q : Option Value → qH → Prop} {QX : String → qH → Prop} (hkc : 6 ≤ mc) (hks : 559 ≤ ms) (x0 : Nat) (x1 : Nat) (x2 : Nat) (x3 : Nat) (x4 : Nat) {h : qH} (hv : qNW h 6 dfX6 (fun r1 h2 => qCV l (d + 1) mX6_init [.ref r1] h2 5 544 (fun h3 => qPR h3 x0 0 4 r1 (fun h4 => qPI h4 x0 0 5 (4000 : Int32) (fun h5 => qPI h5 x0 0 6 (800 : Int32) (fun h6 => qPI h6 x0 0 7 (0 : Int32) (fun h7 => qPR h7 x0 0 0 x1 (fun h8 => qPR h8 x0 0 1 x2 (fun h9 => qPR h9 x0 0 2 x3 (fun h10 => qPR h10 x0 0 3 x4 (fun h11 => Q none h11))))))))))) : q_Ct l (d + 2) mX0_init [.ref x0, .ref x1, .ref x2, .ref x3, .ref x4] h mc ms Q QX := by
  refine q_body (by decide ) (by intro v hm; simp only [List.mem_cons, List.not_mem_nil, or_false] at hm; rcases hm with rfl | rfl | rfl | rfl | rfl <;> rfl) (Nat.le_of_ble_eq_true rfl) ?_
  refine j_pad 0 rfl ?_
  refine j_aload_n dX0_init_0 rfl rfl ?_
  refine j_objInit dX0_init_1 w_m_X0_3 w_in_objInit w_co_objInit (Nat.le_of_ble_eq_true rfl) (by omega) ?_
  refine j_aload_n dX0_init_4 rfl rfl ?_
  refine jj_new (fs := dfX6) cl_X6 tyX6_ok w_cl_X0_9 w_iq_X6 w_in9_X6 dX0_init_5 nfX6 (q_pl_wf rfl) (kc' := (mc - 1)) (ks' := (ms - 15)) (by omega) (by omega) hv (fun r1 h2 hv => ?_)
  refine j_dup dX0_init_8 rfl ?_
  refine j_specialN (avs := []) (rest := [.ref r1, .ref x0]) (i := r1) (kc' := (mc - 6)) (ks' := (ms - 559)) dX0_init_9 mt_X6_init rfl rfl w_mn_X0_11 w_in_X6_init rfl rfl (Nat.le_of_ble_eq_true rfl) (Nat.le_refl _) (by omega) (by omega) hv (fun _ _ q9 => q9) ?_
  rintro _ h3 ⟨rfl, hv⟩ -
  obtain ⟨fs, e1, e2, hv⟩ := hv
  refine j_putF (k := 4) (ty0 := tyX0) cl_X0 (pf_X0_4) w_f_X0_12 dX0_init_12 rfl rfl (fun g ad => q_nRo g ad _ _) e1 e2 ?_
  generalize q_set h3 x0 _ = h4 at hv ⊢
  refine j_aload_n dX0_init_15 rfl rfl ?_
  refine j_sipush (v := (4000 : Int32)) dX0_init_16 (by decide) ?_
  obtain ⟨fs, e1, e2, hv⟩ := hv
  refine j_put (k := 5) (ty0 := tyX0) cl_X0 (pf_X0_5) w_f_X0_18 dX0_init_19 (fun g ad => q_nI g ad _) e1 e2 ?_
  generalize q_set h4 x0 _ = h5 at hv ⊢
  refine j_aload_n dX0_init_22 rfl rfl ?_
  refine j_sipush (v := (800 : Int32)) dX0_init_23 (by decide) ?_
  obtain ⟨fs, e1, e2, hv⟩ := hv
  refine j_put (k := 6) (ty0 := tyX0) cl_X0 (pf_X0_6) w_f_X0_22 dX0_init_26 (fun g ad => q_nI g ad _) e1 e2 ?_
  generalize q_set h5 x0 _ = h6 at hv ⊢
  refine j_aload_n dX0_init_29 rfl rfl ?_
  refine j_iconst (v := (0 : Int32)) dX0_init_30 (by decide) ?_
  obtain ⟨fs, e1, e2, hv⟩ := hv
  refine j_put (k := 7) (ty0 := tyX0) cl_X0 (pf_X0_7) w_f_X0_25 dX0_init_31 (fun g ad => q_nI g ad _) e1 e2 ?_
  generalize q_set h6 x0 _ = h7 at hv ⊢
  refine j_aload_n dX0_init_34 rfl rfl ?_
  refine j_aload_n dX0_init_35 rfl rfl ?_
  obtain ⟨fs, e1, e2, hv⟩ := hv
  refine j_putF (k := 0) (ty0 := tyX0) cl_X0 (pf_X0_0) w_f_X0_28 dX0_init_36 rfl rfl (fun g ad => q_nRo g ad _ _) e1 e2 ?_
  generalize q_set h7 x0 _ = h8 at hv ⊢
  refine j_aload_n dX0_init_39 rfl rfl ?_
  refine j_aload_n dX0_init_40 rfl rfl ?_
  obtain ⟨fs, e1, e2, hv⟩ := hv
  refine j_putF (k := 1) (ty0 := tyX0) cl_X0 (pf_X0_1) w_f_X0_32 dX0_init_41 rfl rfl (fun g ad => q_nRo g ad _ _) e1 e2 ?_
  generalize q_set h8 x0 _ = h9 at hv ⊢
  refine j_aload_n dX0_init_44 rfl rfl ?_
  refine j_aload_n dX0_init_45 rfl rfl ?_
  obtain ⟨fs, e1, e2, hv⟩ := hv
  refine j_putF (k := 2) (ty0 := tyX0) cl_X0 (pf_X0_2) w_f_X0_36 dX0_init_46 rfl rfl (fun g ad => q_nRo g ad _ _) e1 e2 ?_
  generalize q_set h9 x0 _ = h10 at hv ⊢
  refine j_aload_n dX0_init_49 rfl rfl ?_
  refine j_aload dX0_init_50 rfl ?_
  obtain ⟨fs, e1, e2, hv⟩ := hv
  refine j_putF (k := 3) (ty0 := tyX0) cl_X0 (pf_X0_3) w_f_X0_40 dX0_init_52 rfl rfl (fun g ad => q_nRo g ad _ _) e1 e2 ?_
  generalize q_set h10 x0 _ = h11 at hv ⊢
  exact j_vret dX0_init_55 rfl hv
set_option maxRecDepth 20000 in
set_option maxHeartbeats 4000000 in
theorem v_X2_init {l : Launch} {d mc ms : Nat} {Q : Option Value → qH → Prop} {QX : String → qH → Prop} (hkc : 6 ≤ mc) (hks : 559 ≤ ms) (x0 : Nat) (x1 : Nat) (x2 : Nat) (x3 : Nat) (x4 : Nat) {h : qH} (hv : qNW h 6 dfX6 (fun r1 h2 => qCV l (d + 1) mX6_init [.ref r1] h2 5 544 (fun h3 => qPR h3 x0 2 4 r1 (fun h4 => qPR h4 x0 2 0 x1 (fun h5 => qPR h5 x0 2 1 x2 (fun h6 => qPR h6 x0 2 2 x3 (fun h7 => qPR h7 x0 2 3 x4 (fun h8 => Q none h8)))))))) : q_Ct l (d + 2) mX2_init [.ref x0, .ref x1, .ref x2, .ref x3, .ref x4] h mc ms Q QX := by
  refine q_body (by decide ) (by intro v hm; simp only [List.mem_cons, List.not_mem_nil, or_false] at hm; rcases hm with rfl | rfl | rfl | rfl | rfl <;> rfl) (Nat.le_of_ble_eq_true rfl) ?_
  refine j_pad 0 rfl ?_
  refine j_aload_n dX2_init_0 rfl rfl ?_
  refine j_objInit dX2_init_1 w_m_X2_3 w_in_objInit w_co_objInit (Nat.le_of_ble_eq_true rfl) (by omega) ?_
  refine j_aload_n dX2_init_4 rfl rfl ?_
  refine jj_new (fs := dfX6) cl_X6 tyX6_ok w_cl_X2_9 w_iq_X6 w_in9_X6 dX2_init_5 nfX6 (q_pl_wf rfl) (kc' := (mc - 1)) (ks' := (ms - 15)) (by omega) (by omega) hv (fun r1 h2 hv => ?_)
  refine j_dup dX2_init_8 rfl ?_
  refine j_specialN (avs := []) (rest := [.ref r1, .ref x0]) (i := r1) (kc' := (mc - 6)) (ks' := (ms - 559)) dX2_init_9 mt_X6_init rfl rfl w_mn_X2_11 w_in_X6_init rfl rfl (Nat.le_of_ble_eq_true rfl) (Nat.le_refl _) (by omega) (by omega) hv (fun _ _ q9 => q9) ?_
  rintro _ h3 ⟨rfl, hv⟩ -
  obtain ⟨fs, e1, e2, hv⟩ := hv
  refine j_putF (k := 4) (ty0 := tyX2) cl_X2 (pf_X2_4) w_f_X2_12 dX2_init_12 rfl rfl (fun g ad => q_nRo g ad _ _) e1 e2 ?_
  generalize q_set h3 x0 _ = h4 at hv ⊢
  refine j_aload_n dX2_init_15 rfl rfl ?_
  refine j_aload_n dX2_init_16 rfl rfl ?_
  obtain ⟨fs, e1, e2, hv⟩ := hv
  refine j_putF (k := 0) (ty0 := tyX2) cl_X2 (pf_X2_0) w_f_X2_18 dX2_init_17 rfl rfl (fun g ad => q_nRo g ad _ _) e1 e2 ?_
  generalize q_set h4 x0 _ = h5 at hv ⊢
  refine j_aload_n dX2_init_20 rfl rfl ?_
  refine j_aload_n dX2_init_21 rfl rfl ?_
  obtain ⟨fs, e1, e2, hv⟩ := hv
  refine j_putF (k := 1) (ty0 := tyX2) cl_X2 (pf_X2_1) w_f_X2_22 dX2_init_22 rfl rfl (fun g ad => q_nRo g ad _ _) e1 e2 ?_
  generalize q_set h5 x0 _ = h6 at hv ⊢
  refine j_aload_n dX2_init_25 rfl rfl ?_
  refine j_aload_n dX2_init_26 rfl rfl ?_
  obtain ⟨fs, e1, e2, hv⟩ := hv
  refine j_putF (k := 2) (ty0 := tyX2) cl_X2 (pf_X2_2) w_f_X2_26 dX2_init_27 rfl rfl (fun g ad => q_nRo g ad _ _) e1 e2 ?_
  generalize q_set h6 x0 _ = h7 at hv ⊢
  refine j_aload_n dX2_init_30 rfl rfl ?_
  refine j_aload dX2_init_31 rfl ?_
  obtain ⟨fs, e1, e2, hv⟩ := hv
  refine j_putF (k := 3) (ty0 := tyX2) cl_X2 (pf_X2_3) w_f_X2_30 dX2_init_33 rfl rfl (fun g ad => q_nRo g ad _ _) e1 e2 ?_
  generalize q_set h7 x0 _ = h8 at hv ⊢
  exact j_vret dX2_init_36 rfl hv
set_option maxRecDepth 20000 in
set_option maxHeartbeats 4000000 in
theorem v_X9_init {l : Launch} {d mc ms : Nat} {Q : Option Value → qH → Prop} {QX : String → qH → Prop} (hkc : 48 ≤ mc) (hks : 9953 ≤ ms) (x0 : Nat) {h : qH} (hv : qNW h 1 dfX1 (fun r1 h2 => qCV l (d + 4) mX1_init [.ref r1] h2 4 6336 (fun h3 => qPR h3 x0 9 0 r1 (fun h4 => qNW h4 8 dfX8 (fun r5 h6 => qGR h6 x0 9 0 (fun r7 => qCV l (d + 4) mX8_init [.ref r5, .ref r7] h6 2 1152 (fun h8 => qPR h8 x0 9 1 r5 (fun h9 => qNW h9 7 dfX7 (fun r10 h11 => qCV l (d + 4) mX7_init [.ref r10] h11 4 48 (fun h12 => qPR h12 x0 9 2 r10 (fun h13 => qNW h13 4 dfX4 (fun r14 h15 => qCV l (d + 4) mX4_init [.ref r14] h15 3 18 (fun h16 => qPR h16 x0 9 3 r14 (fun h17 => qNW h17 0 dfX0 (fun r18 h19 => qGR h19 x0 9 0 (fun r20 => qGR h19 x0 9 1 (fun r21 => qGR h19 x0 9 2 (fun r22 => qGR h19 x0 9 3 (fun r23 => qCV l (d + 4) mX0_init [.ref r18, .ref r20, .ref r21, .ref r22, .ref r23] h19 6 559 (fun h24 => qPR h24 x0 9 4 r18 (fun h25 => qNW h25 2 dfX2 (fun r26 h27 => qGR h27 x0 9 0 (fun r28 => qGR h27 x0 9 1 (fun r29 => qGR h27 x0 9 2 (fun r30 => qGR h27 x0 9 4 (fun r31 => qCV l (d + 4) mX2_init [.ref r26, .ref r28, .ref r29, .ref r30, .ref r31] h27 6 559 (fun h32 => qPR h32 x0 9 5 r26 (fun h33 => qNW h33 6 dfX6 (fun r34 h35 => qCV l (d + 4) mX6_init [.ref r34] h35 5 544 (fun h36 => qPR h36 x0 9 6 r34 (fun h37 => qNW h37 6 dfX6 (fun r38 h39 => qCV l (d + 4) mX6_init [.ref r38] h39 5 544 (fun h40 => qPR h40 x0 9 7 r38 (fun h41 => qNW h41 5 dfX5 (fun r42 h43 => qCV l (d + 4) mX5_init [.ref r42] h43 3 120 (fun h44 => qPR h44 x0 9 8 r42 (fun h45 => qNM h45 8 (fun r46 h47 => qPR h47 x0 9 9 r46 (fun h48 => Q none h48))))))))))))))))))))))))))))))))))))))) : q_Ct l (d + 5) mX9_init [.ref x0] h mc ms Q QX := by
  refine q_body (by decide ) (by intro v hm; simp only [List.mem_cons, List.not_mem_nil, or_false] at hm; subst hm; rfl) (Nat.le_of_ble_eq_true rfl) ?_
  refine j_pad 0 rfl ?_
  refine j_aload_n dX9_init_0 rfl rfl ?_
  refine j_objInit dX9_init_1 w_m_X9_1 w_in_objInit w_co_objInit (Nat.le_of_ble_eq_true rfl) (by omega) ?_
  refine j_aload_n dX9_init_4 rfl rfl ?_
  refine jj_new (fs := dfX1) cl_X1 tyX1_ok w_cl_X9_7 w_iq_X1 w_in9_X1 dX9_init_5 nfX1 (q_pl_wf rfl) (kc' := (mc - 1)) (ks' := (ms - 5)) (by omega) (by omega) hv (fun r1 h2 hv => ?_)
  refine j_dup dX9_init_8 rfl ?_
  refine j_special (avs := []) (rest := [.ref r1, .ref x0]) (i := r1) (kc' := (mc - 5)) (ks' := (ms - 6341)) dX9_init_9 mt_X1_init rfl rfl w_m_X9_9 w_in_X1_init rfl rfl (Nat.le_of_ble_eq_true rfl) (Nat.le_refl _) (by omega) (by omega) hv (fun _ _ q9 => q9) ?_
  rintro _ h3 ⟨rfl, hv⟩ -
  obtain ⟨fs, e1, e2, hv⟩ := hv
  refine j_putF (k := 0) (ty0 := tyX9) cl_X9 (pf_X9_0) w_f_X9_10 dX9_init_12 rfl rfl (fun g ad => q_nRo g ad _ _) e1 e2 ?_
  generalize q_set h3 x0 _ = h4 at hv ⊢
  refine j_aload_n dX9_init_15 rfl rfl ?_
  refine jj_new (fs := dfX8) cl_X8 tyX8_ok w_cl_X9_16 w_iq_X8 w_in9_X8 dX9_init_16 nfX8 (q_pl_wf rfl) (kc' := (mc - 6)) (ks' := (ms - 6345)) (by omega) (by omega) hv (fun r5 h6 hv => ?_)
  refine j_dup dX9_init_19 rfl ?_
  refine j_aload_n dX9_init_20 rfl rfl ?_
  obtain ⟨fs, r7, e1, e2, hv⟩ := hv
  refine j_getf (k := 0) cl_X9 (by decide) w_f_X9_10 dX9_init_21 e1 e2 ?_
  refine j_special (avs := [.ref r7]) (rest := [.ref r5, .ref x0]) (i := r5) (kc' := (mc - 8)) (ks' := (ms - 7497)) dX9_init_24 mt_X8_init rfl rfl w_m_X9_18 w_in_X8_init rfl rfl (Nat.le_of_ble_eq_true rfl) (Nat.le_refl _) (by omega) (by omega) hv (fun _ _ q9 => q9) ?_
  rintro _ h8 ⟨rfl, hv⟩ -
  obtain ⟨fs, e1, e2, hv⟩ := hv
  refine j_putF (k := 1) (ty0 := tyX9) cl_X9 (pf_X9_1) w_f_X9_21 dX9_init_27 rfl rfl (fun g ad => q_nRo g ad _ _) e1 e2 ?_
  generalize q_set h8 x0 _ = h9 at hv ⊢
  refine j_aload_n dX9_init_30 rfl rfl ?_
  refine jj_new (fs := dfX7) cl_X7 tyX7_ok w_cl_X9_25 w_iq_X7 w_in9_X7 dX9_init_31 nfX7 (q_pl_wf rfl) (kc' := (mc - 9)) (ks' := (ms - 7502)) (by omega) (by omega) hv (fun r10 h11 hv => ?_)
  refine j_dup dX9_init_34 rfl ?_
  refine j_specialN (avs := []) (rest := [.ref r10, .ref x0]) (i := r10) (kc' := (mc - 13)) (ks' := (ms - 7550)) dX9_init_35 mt_X7_init rfl rfl w_mn_X9_27 w_in_X7_init rfl rfl (Nat.le_of_ble_eq_true rfl) (Nat.le_refl _) (by omega) (by omega) hv (fun _ _ q9 => q9) ?_
  rintro _ h12 ⟨rfl, hv⟩ -
  obtain ⟨fs, e1, e2, hv⟩ := hv
  refine j_putF (k := 2) (ty0 := tyX9) cl_X9 (pf_X9_2) w_f_X9_28 dX9_init_38 rfl rfl (fun g ad => q_nRo g ad _ _) e1 e2 ?_
  generalize q_set h12 x0 _ = h13 at hv ⊢
  refine j_aload_n dX9_init_41 rfl rfl ?_
  refine jj_new (fs := dfX4) cl_X4 tyX4_ok w_cl_X9_32 w_iq_X4 w_in9_X4 dX9_init_42 nfX4 (q_pl_wf rfl) (kc' := (mc - 14)) (ks' := (ms - 7554)) (by omega) (by omega) hv (fun r14 h15 hv => ?_)
  refine j_dup dX9_init_45 rfl ?_
  refine j_specialN (avs := []) (rest := [.ref r14, .ref x0]) (i := r14) (kc' := (mc - 17)) (ks' := (ms - 7572)) dX9_init_46 mt_X4_init rfl rfl w_mn_X9_34 w_in_X4_init rfl rfl (Nat.le_of_ble_eq_true rfl) (Nat.le_refl _) (by omega) (by omega) hv (fun _ _ q9 => q9) ?_
  rintro _ h16 ⟨rfl, hv⟩ -
  obtain ⟨fs, e1, e2, hv⟩ := hv
  refine j_putF (k := 3) (ty0 := tyX9) cl_X9 (pf_X9_3) w_f_X9_35 dX9_init_49 rfl rfl (fun g ad => q_nRo g ad _ _) e1 e2 ?_
  generalize q_set h16 x0 _ = h17 at hv ⊢
  refine j_aload_n dX9_init_52 rfl rfl ?_
  refine jj_new (fs := dfX0) cl_X0 tyX0_ok w_cl_X9_39 w_iq_X0 w_in9_X0 dX9_init_53 nfX0 (q_pl_wf rfl) (kc' := (mc - 18)) (ks' := (ms - 7580)) (by omega) (by omega) hv (fun r18 h19 hv => ?_)
  refine j_dup dX9_init_56 rfl ?_
  refine j_aload_n dX9_init_57 rfl rfl ?_
  obtain ⟨fs, r20, e1, e2, hv⟩ := hv
  refine j_getf (k := 0) cl_X9 (by decide) w_f_X9_10 dX9_init_58 e1 e2 ?_
  refine j_aload_n dX9_init_61 rfl rfl ?_
  obtain ⟨fs, r21, e1, e2, hv⟩ := hv
  refine j_getf (k := 1) cl_X9 (by decide) w_f_X9_21 dX9_init_62 e1 e2 ?_
  refine j_aload_n dX9_init_65 rfl rfl ?_
  obtain ⟨fs, r22, e1, e2, hv⟩ := hv
  refine j_getf (k := 2) cl_X9 (by decide) w_f_X9_28 dX9_init_66 e1 e2 ?_
  refine j_aload_n dX9_init_69 rfl rfl ?_
  obtain ⟨fs, r23, e1, e2, hv⟩ := hv
  refine j_getf (k := 3) cl_X9 (by decide) w_f_X9_35 dX9_init_70 e1 e2 ?_
  refine j_special (avs := [.ref r20, .ref r21, .ref r22, .ref r23]) (rest := [.ref r18, .ref x0]) (i := r18) (kc' := (mc - 24)) (ks' := (ms - 8139)) dX9_init_73 mt_X0_init rfl rfl w_m_X9_41 w_in_X0_init rfl rfl (Nat.le_of_ble_eq_true rfl) (Nat.le_refl _) (by omega) (by omega) hv (fun _ _ q9 => q9) ?_
  rintro _ h24 ⟨rfl, hv⟩ -
  obtain ⟨fs, e1, e2, hv⟩ := hv
  refine j_putF (k := 4) (ty0 := tyX9) cl_X9 (pf_X9_4) w_f_X9_44 dX9_init_76 rfl rfl (fun g ad => q_nRo g ad _ _) e1 e2 ?_
  generalize q_set h24 x0 _ = h25 at hv ⊢
  refine j_aload_n dX9_init_79 rfl rfl ?_
  refine jj_new (fs := dfX2) cl_X2 tyX2_ok w_cl_X9_48 w_iq_X2 w_in9_X2 dX9_init_80 nfX2 (q_pl_wf rfl) (kc' := (mc - 25)) (ks' := (ms - 8144)) (by omega) (by omega) hv (fun r26 h27 hv => ?_)
  refine j_dup dX9_init_83 rfl ?_
  refine j_aload_n dX9_init_84 rfl rfl ?_
  obtain ⟨fs, r28, e1, e2, hv⟩ := hv
  refine j_getf (k := 0) cl_X9 (by decide) w_f_X9_10 dX9_init_85 e1 e2 ?_
  refine j_aload_n dX9_init_88 rfl rfl ?_
  obtain ⟨fs, r29, e1, e2, hv⟩ := hv
  refine j_getf (k := 1) cl_X9 (by decide) w_f_X9_21 dX9_init_89 e1 e2 ?_
  refine j_aload_n dX9_init_92 rfl rfl ?_
  obtain ⟨fs, r30, e1, e2, hv⟩ := hv
  refine j_getf (k := 2) cl_X9 (by decide) w_f_X9_28 dX9_init_93 e1 e2 ?_
  refine j_aload_n dX9_init_96 rfl rfl ?_
  obtain ⟨fs, r31, e1, e2, hv⟩ := hv
  refine j_getf (k := 4) cl_X9 (by decide) w_f_X9_44 dX9_init_97 e1 e2 ?_
  refine j_special (avs := [.ref r28, .ref r29, .ref r30, .ref r31]) (rest := [.ref r26, .ref x0]) (i := r26) (kc' := (mc - 31)) (ks' := (ms - 8703)) dX9_init_100 mt_X2_init rfl rfl w_m_X9_50 w_in_X2_init rfl rfl (Nat.le_of_ble_eq_true rfl) (Nat.le_refl _) (by omega) (by omega) hv (fun _ _ q9 => q9) ?_
  rintro _ h32 ⟨rfl, hv⟩ -
  obtain ⟨fs, e1, e2, hv⟩ := hv
  refine j_putF (k := 5) (ty0 := tyX9) cl_X9 (pf_X9_5) w_f_X9_53 dX9_init_103 rfl rfl (fun g ad => q_nRo g ad _ _) e1 e2 ?_
  generalize q_set h32 x0 _ = h33 at hv ⊢
  refine j_aload_n dX9_init_106 rfl rfl ?_
  refine jj_new (fs := dfX6) cl_X6 tyX6_ok w_cl_X9_57 w_iq_X6 w_in9_X6 dX9_init_107 nfX6 (q_pl_wf rfl) (kc' := (mc - 32)) (ks' := (ms - 8718)) (by omega) (by omega) hv (fun r34 h35 hv => ?_)
  refine j_dup dX9_init_110 rfl ?_
  refine j_specialN (avs := []) (rest := [.ref r34, .ref x0]) (i := r34) (kc' := (mc - 37)) (ks' := (ms - 9262)) dX9_init_111 mt_X6_init rfl rfl w_mn_X9_59 w_in_X6_init rfl rfl (Nat.le_of_ble_eq_true rfl) (Nat.le_refl _) (by omega) (by omega) hv (fun _ _ q9 => q9) ?_
  rintro _ h36 ⟨rfl, hv⟩ -
  obtain ⟨fs, e1, e2, hv⟩ := hv
  refine j_putF (k := 6) (ty0 := tyX9) cl_X9 (pf_X9_6) w_f_X9_60 dX9_init_114 rfl rfl (fun g ad => q_nRo g ad _ _) e1 e2 ?_
  generalize q_set h36 x0 _ = h37 at hv ⊢
  refine j_aload_n dX9_init_117 rfl rfl ?_
  refine jj_new (fs := dfX6) cl_X6 tyX6_ok w_cl_X9_57 w_iq_X6 w_in9_X6 dX9_init_118 nfX6 (q_pl_wf rfl) (kc' := (mc - 38)) (ks' := (ms - 9277)) (by omega) (by omega) hv (fun r38 h39 hv => ?_)
  refine j_dup dX9_init_121 rfl ?_
  refine j_specialN (avs := []) (rest := [.ref r38, .ref x0]) (i := r38) (kc' := (mc - 43)) (ks' := (ms - 9821)) dX9_init_122 mt_X6_init rfl rfl w_mn_X9_59 w_in_X6_init rfl rfl (Nat.le_of_ble_eq_true rfl) (Nat.le_refl _) (by omega) (by omega) hv (fun _ _ q9 => q9) ?_
  rintro _ h40 ⟨rfl, hv⟩ -
  obtain ⟨fs, e1, e2, hv⟩ := hv
  refine j_putF (k := 7) (ty0 := tyX9) cl_X9 (pf_X9_7) w_f_X9_64 dX9_init_125 rfl rfl (fun g ad => q_nRo g ad _ _) e1 e2 ?_
  generalize q_set h40 x0 _ = h41 at hv ⊢
  refine j_aload_n dX9_init_128 rfl rfl ?_
  refine jj_new (fs := dfX5) cl_X5 tyX5_ok w_cl_X9_67 w_iq_X5 w_in9_X5 dX9_init_129 nfX5 (q_pl_wf rfl) (kc' := (mc - 44)) (ks' := (ms - 9825)) (by omega) (by omega) hv (fun r42 h43 hv => ?_)
  refine j_dup dX9_init_132 rfl ?_
  refine j_specialN (avs := []) (rest := [.ref r42, .ref x0]) (i := r42) (kc' := (mc - 47)) (ks' := (ms - 9945)) dX9_init_133 mt_X5_init rfl rfl w_mn_X9_69 w_in_X5_init rfl rfl (Nat.le_of_ble_eq_true rfl) (Nat.le_refl _) (by omega) (by omega) hv (fun _ _ q9 => q9) ?_
  rintro _ h44 ⟨rfl, hv⟩ -
  obtain ⟨fs, e1, e2, hv⟩ := hv
  refine j_putF (k := 8) (ty0 := tyX9) cl_X9 (pf_X9_8) w_f_X9_70 dX9_init_136 rfl rfl (fun g ad => q_nRo g ad _ _) e1 e2 ?_
  generalize q_set h44 x0 _ = h45 at hv ⊢
  refine j_aload_n dX9_init_139 rfl rfl ?_
  refine j_bipush (v := (8 : Int32)) dX9_init_140 (by decide) ?_
  refine jj_newM (N := 8) w_cl_X9_74 dX9_init_142 (by decide) (by decide) (by decide) (kc' := (mc - 48)) (ks' := (ms - 9953)) (by omega) (by omega) hv (fun r46 h47 hv => ?_)
  obtain ⟨fs, e1, e2, hv⟩ := hv
  refine j_putF (k := 9) (ty0 := tyX9) cl_X9 (pf_X9_9) w_f_X9_76 dX9_init_145 rfl rfl (fun g ad => q_nRa g ad _ _) e1 e2 ?_
  generalize q_set h47 x0 _ = h48 at hv ⊢
  exact j_vret dX9_init_148 rfl hv
set_option maxRecDepth 20000 in
set_option maxHeartbeats 4000000 in
theorem v_X9_sent {l : Launch} {d mc ms : Nat} {Q : Option Value → qH → Prop} {QX : String → qH → Prop} (x0 : Nat) {h : qH} (hv : qGR h x0 9 6 (fun r1 => qGI h r1 6 8 (fun z2 => qIF (z2 = 0) (Q (some (.double FP.dconst1)) h) (qGR h x0 9 6 (fun r3 => qGI h r3 6 7 (fun z4 => qGR h x0 9 6 (fun r5 => qGI h r5 6 8 (fun z6 => qAN (vf_n64 (FP.ddiv (FP.i2d z4) (FP.i2d z6))) (Q (some (.double (FP.ddiv (FP.i2d z4) (FP.i2d z6)))) h))))))))) : q_Ct l (d + 0) mX9_sent [.ref x0] h mc ms Q QX := by
  refine q_body (by decide ) (by intro v hm; simp only [List.mem_cons, List.not_mem_nil, or_false] at hm; subst hm; rfl) (Nat.le_of_ble_eq_true rfl) ?_
  refine j_pad 0 rfl ?_
  refine j_aload_n dX9_sent_0 rfl rfl ?_
  obtain ⟨fs, r1, e1, e2, hv⟩ := hv
  refine j_getf (k := 6) cl_X9 (by decide) w_f_X9_60 dX9_sent_1 e1 e2 ?_
  obtain ⟨fs, z2, e1, e2, hv⟩ := hv
  refine j_getfN (k := 8) cl_X6 (by decide) w_fn_X9_335 dX9_sent_4 e1 e2 ?_
  refine j_if_ne (tgt := 14) dX9_sent_7 (by decide) (fun hc => ?_) (fun hc => ?_)
  · replace hv := hv.2 hc
    refine j_aload_n dX9_sent_14 rfl rfl ?_
    obtain ⟨fs, r3, e1, e2, hv⟩ := hv
    refine j_getf (k := 6) cl_X9 (by decide) w_f_X9_60 dX9_sent_15 e1 e2 ?_
    obtain ⟨fs, z4, e1, e2, hv⟩ := hv
    refine j_getfN (k := 7) cl_X6 (by decide) w_fn_X9_338 dX9_sent_18 e1 e2 ?_
    refine j_i2d dX9_sent_21 ?_
    refine j_aload_n dX9_sent_22 rfl rfl ?_
    obtain ⟨fs, r5, e1, e2, hv⟩ := hv
    refine j_getf (k := 6) cl_X9 (by decide) w_f_X9_60 dX9_sent_23 e1 e2 ?_
    obtain ⟨fs, z6, e1, e2, hv⟩ := hv
    refine j_getfN (k := 8) cl_X6 (by decide) w_fn_X9_335 dX9_sent_26 e1 e2 ?_
    refine j_i2d dX9_sent_29 ?_
    obtain ⟨hz, hv⟩ := hv
    refine j_ddiv dX9_sent_30 hz ?_
    exact j_dret dX9_sent_31 rfl hv
  · replace hv := hv.1 hc
    refine j_dconst1 dX9_sent_10 ?_
    refine j_goto (tgt := 31) dX9_sent_11 (by decide) ?_
    exact j_dret dX9_sent_31 rfl hv
