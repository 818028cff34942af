set_option maxRecDepth 20000 in
set_option maxHeartbeats 4000000 in
theorem v_X6_init {l : Launch} {d mc ms : Nat} {Q : Option Value → qH → Prop} {QX : String → qH → Prop} (hkc : 5 ≤ mc) (hks : 544 ≤ ms) (x0 : Nat) {h : qH} (hv : qPI h x0 6 3 (3000 : Int32) (fun h1 => qPI h1 x0 6 4 (-20 : Int32) (fun h2 => qPI h2 x0 6 5 (100 : Int32) (fun h3 => qNI h3 133 (fun r4 h5 => qPR h5 x0 6 10 r4 (fun h6 => qNI h6 133 (fun r7 h8 => qPR h8 x0 6 11 r7 (fun h9 => qNI h9 133 (fun r10 h11 => qPR h11 x0 6 12 r10 (fun h12 => qNI h12 133 (fun r13 h14 => qPR h14 x0 6 13 r13 (fun h15 => qNI h15 12 (fun r16 h17 => qPR h17 x0 6 14 r16 (fun h18 => Q none h18)))))))))))))) : q_Ct l (d + 1) mX6_init [.ref x0] h mc ms Q QX := by
  refine q_body (by decide ) (by intro v hm; simp only [List.mem_cons, List.not_mem_nil, or_false] at hm; subst hm; rfl) (Nat.le_of_ble_eq_true rfl) ?_
  refine q_KT ?_
  refine k_pad 0 rfl ?_
  refine k_aload_n dX6_init_0 rfl rfl ?_
  refine k_objInit dX6_init_1 w_m_X6_3 w_in_objInit w_co_objInit (Nat.le_of_ble_eq_true rfl) (by omega) ?_
  refine k_aload_n dX6_init_4 rfl rfl ?_
  refine k_sipush (v := (3000 : Int32)) dX6_init_5 (by decide) ?_
  obtain ⟨fs, e1, e2, hv⟩ := hv
  refine k_put (k := 3) (ty0 := tyX6) cl_X6 (pf_X6_3) w_f_X6_9 dX6_init_8 (fun g ad => q_nI g ad _) e1 e2 ?_
  generalize q_set h x0 _ = h1 at hv ⊢
  refine k_aload_n dX6_init_11 rfl rfl ?_
  refine k_bipush (v := (-20 : Int32)) dX6_init_12 (by decide) ?_
  obtain ⟨fs, e1, e2, hv⟩ := hv
  refine k_put (k := 4) (ty0 := tyX6) cl_X6 (pf_X6_4) w_f_X6_15 dX6_init_14 (fun g ad => q_nI g ad _) e1 e2 ?_
  generalize q_set h1 x0 _ = h2 at hv ⊢
  refine k_aload_n dX6_init_17 rfl rfl ?_
  refine k_bipush (v := (100 : Int32)) dX6_init_18 (by decide) ?_
  obtain ⟨fs, e1, e2, hv⟩ := hv
  refine k_put (k := 5) (ty0 := tyX6) cl_X6 (pf_X6_5) w_f_X6_18 dX6_init_20 (fun g ad => q_nI g ad _) e1 e2 ?_
  generalize q_set h2 x0 _ = h3 at hv ⊢
  refine k_aload_n dX6_init_23 rfl rfl ?_
  refine k_sipush (v := (133 : Int32)) dX6_init_24 (by decide) ?_
  try unfold qNI at hv
  refine k_newI (N := 133) w_ar_int dX6_init_27 (by decide) (by decide) (by decide) (kc' := (mc - 1)) (ks' := (ms - 133)) (by omega) (by omega) ?_
  generalize q_push h3 _ = h5 at hv ⊢
  generalize (h3).2 = r4 at hv ⊢
  obtain ⟨fs, e1, e2, hv⟩ := hv
  refine k_putF (k := 10) (ty0 := tyX6) cl_X6 (pf_X6_10) w_f_X6_21 dX6_init_29 rfl rfl (fun g ad => q_nRa g ad _ _) e1 e2 ?_
  generalize q_set h5 x0 _ = h6 at hv ⊢
  refine k_aload_n dX6_init_32 rfl rfl ?_
  refine k_sipush (v := (133 : Int32)) dX6_init_33 (by decide) ?_
  try unfold qNI at hv
  refine k_newI (N := 133) w_ar_int dX6_init_36 (by decide) (by decide) (by decide) (kc' := (mc - 2)) (ks' := (ms - 266)) (by omega) (by omega) ?_
  generalize q_push h6 _ = h8 at hv ⊢
  generalize (h6).2 = r7 at hv ⊢
  obtain ⟨fs, e1, e2, hv⟩ := hv
  refine k_putF (k := 11) (ty0 := tyX6) cl_X6 (pf_X6_11) w_f_X6_25 dX6_init_38 rfl rfl (fun g ad => q_nRa g ad _ _) e1 e2 ?_
  generalize q_set h8 x0 _ = h9 at hv ⊢
  refine k_aload_n dX6_init_41 rfl rfl ?_
  refine k_sipush (v := (133 : Int32)) dX6_init_42 (by decide) ?_
  try unfold qNI at hv
  refine k_newI (N := 133) w_ar_int dX6_init_45 (by decide) (by decide) (by decide) (kc' := (mc - 3)) (ks' := (ms - 399)) (by omega) (by omega) ?_
  generalize q_push h9 _ = h11 at hv ⊢
  generalize (h9).2 = r10 at hv ⊢
  obtain ⟨fs, e1, e2, hv⟩ := hv
  refine k_putF (k := 12) (ty0 := tyX6) cl_X6 (pf_X6_12) w_f_X6_28 dX6_init_47 rfl rfl (fun g ad => q_nRa g ad _ _) e1 e2 ?_
  generalize q_set h11 x0 _ = h12 at hv ⊢
  refine k_aload_n dX6_init_50 rfl rfl ?_
  refine k_sipush (v := (133 : Int32)) dX6_init_51 (by decide) ?_
  try unfold qNI at hv
  refine k_newI (N := 133) w_ar_int dX6_init_54 (by decide) (by decide) (by decide) (kc' := (mc - 4)) (ks' := (ms - 532)) (by omega) (by omega) ?_
  generalize q_push h12 _ = h14 at hv ⊢
  generalize (h12).2 = r13 at hv ⊢
  obtain ⟨fs, e1, e2, hv⟩ := hv
  refine k_putF (k := 13) (ty0 := tyX6) cl_X6 (pf_X6_13) w_f_X6_31 dX6_init_56 rfl rfl (fun g ad => q_nRa g ad _ _) e1 e2 ?_
  generalize q_set h14 x0 _ = h15 at hv ⊢
  refine k_aload_n dX6_init_59 rfl rfl ?_
  refine k_bipush (v := (12 : Int32)) dX6_init_60 (by decide) ?_
  try unfold qNI at hv
  refine k_newI (N := 12) w_ar_int dX6_init_62 (by decide) (by decide) (by decide) (kc' := (mc - 5)) (ks' := (ms - 544)) (by omega) (by omega) ?_
  generalize q_push h15 _ = h17 at hv ⊢
  generalize (h15).2 = r16 at hv ⊢
  obtain ⟨fs, e1, e2, hv⟩ := hv
  refine k_putF (k := 14) (ty0 := tyX6) cl_X6 (pf_X6_14) w_f_X6_34 dX6_init_64 rfl rfl (fun g ad => q_nRa g ad _ _) e1 e2 ?_
  generalize q_set h17 x0 _ = h18 at hv ⊢
  exact k_vret dX6_init_67 rfl hv
set_option maxRecDepth 20000 in
set_option maxHeartbeats 4000000 in
theorem v_X5_init {l : Launch} {d mc ms : Nat} {Q : Option Value → qH → Prop} {QX : String → qH → Prop} (hkc : 3 ≤ mc) (hks : 120 ≤ ms) (x0 : Nat) {h : qH} (hv : qNI h 40 (fun r1 h2 => qPR h2 x0 5 0 r1 (fun h3 => qNI h3 40 (fun r4 h5 => qPR h5 x0 5 1 r4 (fun h6 => qNI h6 40 (fun r7 h8 => qPR h8 x0 5 2 r7 (fun h9 => Q none h9))))))) : q_Ct l (d + 1) mX5_init [.ref x0] h mc ms Q QX := by
  refine q_body (by decide ) (by intro v hm; simp only [List.mem_cons, List.not_mem_nil, or_false] at hm; subst hm; rfl) (Nat.le_of_ble_eq_true rfl) ?_
  refine q_KT ?_
  refine k_pad 0 rfl ?_
  refine k_aload_n dX5_init_0 rfl rfl ?_
  refine k_objInit dX5_init_1 w_m_X5_3 w_in_objInit w_co_objInit (Nat.le_of_ble_eq_true rfl) (by omega) ?_
  refine k_aload_n dX5_init_4 rfl rfl ?_
  refine k_bipush (v := (40 : Int32)) dX5_init_5 (by decide) ?_
  try unfold qNI at hv
  refine k_newI (N := 40) w_ar_int dX5_init_7 (by decide) (by decide) (by decide) (kc' := (mc - 1)) (ks' := (ms - 40)) (by omega) (by omega) ?_
  generalize q_push h _ = h2 at hv ⊢
  generalize (h).2 = r1 at hv ⊢
  obtain ⟨fs, e1, e2, hv⟩ := hv
  refine k_putF (k := 0) (ty0 := tyX5) cl_X5 (pf_X5_0) w_f_X5_9 dX5_init_9 rfl rfl (fun g ad => q_nRa g ad _ _) e1 e2 ?_
  generalize q_set h2 x0 _ = h3 at hv ⊢
  refine k_aload_n dX5_init_12 rfl rfl ?_
  refine k_bipush (v := (40 : Int32)) dX5_init_13 (by decide) ?_
  try unfold qNI at hv
  refine k_newI (N := 40) w_ar_int dX5_init_15 (by decide) (by decide) (by decide) (kc' := (mc - 2)) (ks' := (ms - 80)) (by omega) (by omega) ?_
  generalize q_push h3 _ = h5 at hv ⊢
  generalize (h3).2 = r4 at hv ⊢
  obtain ⟨fs, e1, e2, hv⟩ := hv
  refine k_putF (k := 1) (ty0 := tyX5) cl_X5 (pf_X5_1) w_f_X5_15 dX5_init_17 rfl rfl (fun g ad => q_nRa g ad _ _) e1 e2 ?_
  generalize q_set h5 x0 _ = h6 at hv ⊢
  refine k_aload_n dX5_init_20 rfl rfl ?_
  refine k_bipush (v := (40 : Int32)) dX5_init_21 (by decide) ?_
  try unfold qNI at hv
  refine k_newI (N := 40) w_ar_int dX5_init_23 (by decide) (by decide) (by decide) (kc' := (mc - 3)) (ks' := (ms - 120)) (by omega) (by omega) ?_
  generalize q_push h6 _ = h8 at hv ⊢
  generalize (h6).2 = r7 at hv ⊢
  obtain ⟨fs, e1, e2, hv⟩ := hv
  refine k_putF (k := 2) (ty0 := tyX5) cl_X5 (pf_X5_2) w_f_X5_18 dX5_init_25 rfl rfl (fun g ad => q_nRa g ad _ _) e1 e2 ?_
  generalize q_set h8 x0 _ = h9 at hv ⊢
  exact k_vret dX5_init_28 rfl hv
set_option maxRecDepth 20000 in
set_option maxHeartbeats 4000000 in
theorem v_X4_init {l : Launch} {d mc ms : Nat} {Q : Option Value → qH → Prop} {QX : String → qH → Prop} (hkc : 3 ≤ mc) (hks : 18 ≤ ms) (x0 : Nat) {h : qH} (hv : qNI h 6 (fun r1 h2 => qPR h2 x0 4 0 r1 (fun h3 => qNI h3 6 (fun r4 h5 => qPR h5 x0 4 1 r4 (fun h6 => qNI h6 6 (fun r7 h8 => qPR h8 x0 4 2 r7 (fun h9 => Q none h9))))))) : q_Ct l (d + 1) mX4_init [.ref x0] h mc ms Q QX := by
  refine q_body (by decide ) (by intro v hm; simp only [List.mem_cons, List.not_mem_nil, or_false] at hm; subst hm; rfl) (Nat.le_of_ble_eq_true rfl) ?_
  refine q_KT ?_
  refine k_pad 0 rfl ?_
  refine k_aload_n dX4_init_0 rfl rfl ?_
  refine k_objInit dX4_init_1 w_m_X4_3 w_in_objInit w_co_objInit (Nat.le_of_ble_eq_true rfl) (by omega) ?_
  refine k_aload_n dX4_init_4 rfl rfl ?_
  refine k_bipush (v := (6 : Int32)) dX4_init_5 (by decide) ?_
  try unfold qNI at hv
  refine k_newI (N := 6) w_ar_int dX4_init_7 (by decide) (by decide) (by decide) (kc' := (mc - 1)) (ks' := (ms - 6)) (by omega) (by omega) ?_
  generalize q_push h _ = h2 at hv ⊢
  generalize (h).2 = r1 at hv ⊢
  obtain ⟨fs, e1, e2, hv⟩ := hv
  refine k_putF (k := 0) (ty0 := tyX4) cl_X4 (pf_X4_0) w_f_X4_9 dX4_init_9 rfl rfl (fun g ad => q_nRa g ad _ _) e1 e2 ?_
  generalize q_set h2 x0 _ = h3 at hv ⊢
  refine k_aload_n dX4_init_12 rfl rfl ?_
  refine k_bipush (v := (6 : Int32)) dX4_init_13 (by decide) ?_
  try unfold qNI at hv
  refine k_newI (N := 6) w_ar_int dX4_init_15 (by decide) (by decide) (by decide) (kc' := (mc - 2)) (ks' := (ms - 12)) (by omega) (by omega) ?_
  generalize q_push h3 _ = h5 at hv ⊢
  generalize (h3).2 = r4 at hv ⊢
  obtain ⟨fs, e1, e2, hv⟩ := hv
  refine k_putF (k := 1) (ty0 := tyX4) cl_X4 (pf_X4_1) w_f_X4_15 dX4_init_17 rfl rfl (fun g ad => q_nRa g ad _ _) e1 e2 ?_
  generalize q_set h5 x0 _ = h6 at hv ⊢
  refine k_aload_n dX4_init_20 rfl rfl ?_
  refine k_bipush (v := (6 : Int32)) dX4_init_21 (by decide) ?_
  try unfold qNI at hv
  refine k_newI (N := 6) w_ar_int dX4_init_23 (by decide) (by decide) (by decide) (kc' := (mc - 3)) (ks' := (ms - 18)) (by omega) (by omega) ?_
  generalize q_push h6 _ = h8 at hv ⊢
  generalize (h6).2 = r7 at hv ⊢
  obtain ⟨fs, e1, e2, hv⟩ := hv
  refine k_putF (k := 2) (ty0 := tyX4) cl_X4 (pf_X4_2) w_f_X4_18 dX4_init_25 rfl rfl (fun g ad => q_nRa g ad _ _) e1 e2 ?_
  generalize q_set h8 x0 _ = h9 at hv ⊢
  exact k_vret dX4_init_28 rfl hv
set_option maxRecDepth 20000 in
set_option maxHeartbeats 4000000 in
theorem v_X7_init {l : Launch} {d mc ms : Nat} {Q : Option Value → qH → Prop} {QX : String → qH → Prop} (hkc : 4 ≤ mc) (hks : 48 ≤ ms) (x0 : Nat) {h : qH} (hv : qNI h 12 (fun r1 h2 => qPR h2 x0 7 0 r1 (fun h3 => qNI h3 12 (fun r4 h5 => qPR h5 x0 7 1 r4 (fun h6 => qNI h6 12 (fun r7 h8 => qPR h8 x0 7 2 r7 (fun h9 => qNI h9 12 (fun r10 h11 => qPR h11 x0 7 3 r10 (fun h12 => Q none h12))))))))) : q_Ct l (d + 1) mX7_init [.ref x0] h mc ms Q QX := by
  refine q_body (by decide ) (by intro v hm; simp only [List.mem_cons, List.not_mem_nil, or_false] at hm; subst hm; rfl) (Nat.le_of_ble_eq_true rfl) ?_
  refine q_KT ?_
  refine k_pad 0 rfl ?_
  refine k_aload_n dX7_init_0 rfl rfl ?_
  refine k_objInit dX7_init_1 w_m_X7_3 w_in_objInit w_co_objInit (Nat.le_of_ble_eq_true rfl) (by omega) ?_
  refine k_aload_n dX7_init_4 rfl rfl ?_
  refine k_bipush (v := (12 : Int32)) dX7_init_5 (by decide) ?_
  try unfold qNI at hv
  refine k_newI (N := 12) w_ar_int dX7_init_7 (by decide) (by decide) (by decide) (kc' := (mc - 1)) (ks' := (ms - 12)) (by omega) (by omega) ?_
  generalize q_push h _ = h2 at hv ⊢
  generalize (h).2 = r1 at hv ⊢
  obtain ⟨fs, e1, e2, hv⟩ := hv
  refine k_putF (k := 0) (ty0 := tyX7) cl_X7 (pf_X7_0) w_f_X7_9 dX7_init_9 rfl rfl (fun g ad => q_nRa g ad _ _) e1 e2 ?_
  generalize q_set h2 x0 _ = h3 at hv ⊢
  refine k_aload_n dX7_init_12 rfl rfl ?_
  refine k_bipush (v := (12 : Int32)) dX7_init_13 (by decide) ?_
  try unfold qNI at hv
  refine k_newI (N := 12) w_ar_int dX7_init_15 (by decide) (by decide) (by decide) (kc' := (mc - 2)) (ks' := (ms - 24)) (by omega) (by omega) ?_
  generalize q_push h3 _ = h5 at hv ⊢
  generalize (h3).2 = r4 at hv ⊢
  obtain ⟨fs, e1, e2, hv⟩ := hv
  refine k_putF (k := 1) (ty0 := tyX7) cl_X7 (pf_X7_1) w_f_X7_15 dX7_init_17 rfl rfl (fun g ad => q_nRa g ad _ _) e1 e2 ?_
  generalize q_set h5 x0 _ = h6 at hv ⊢
  refine k_aload_n dX7_init_20 rfl rfl ?_
  refine k_bipush (v := (12 : Int32)) dX7_init_21 (by decide) ?_
  try unfold qNI at hv
  refine k_newI (N := 12) w_ar_int dX7_init_23 (by decide) (by decide) (by decide) (kc' := (mc - 3)) (ks' := (ms - 36)) (by omega) (by omega) ?_
  generalize q_push h6 _ = h8 at hv ⊢
  generalize (h6).2 = r7 at hv ⊢
  obtain ⟨fs, e1, e2, hv⟩ := hv
  refine k_putF (k := 2) (ty0 := tyX7) cl_X7 (pf_X7_2) w_f_X7_18 dX7_init_25 rfl rfl (fun g ad => q_nRa g ad _ _) e1 e2 ?_
  generalize q_set h8 x0 _ = h9 at hv ⊢
  refine k_aload_n dX7_init_28 rfl rfl ?_
  refine k_bipush (v := (12 : Int32)) dX7_init_29 (by decide) ?_
  try unfold qNI at hv
  refine k_newI (N := 12) w_ar_int dX7_init_31 (by decide) (by decide) (by decide) (kc' := (mc - 4)) (ks' := (ms - 48)) (by omega) (by omega) ?_
  generalize q_push h9 _ = h11 at hv ⊢
  generalize (h9).2 = r10 at hv ⊢
  obtain ⟨fs, e1, e2, hv⟩ := hv
  refine k_putF (k := 3) (ty0 := tyX7) cl_X7 (pf_X7_3) w_f_X7_21 dX7_init_33 rfl rfl (fun g ad => q_nRa g ad _ _) e1 e2 ?_
  generalize q_set h11 x0 _ = h12 at hv ⊢
  exact k_vret dX7_init_36 rfl hv
set_option maxRecDepth 20000 in
set_option maxHeartbeats 4000000 in
theorem v_X8_init {l : Launch} {d mc ms : Nat} {Q : Option Value → qH → Prop} {QX : String → qH → Prop} (hkc : 2 ≤ mc) (hks : 1152 ≤ ms) (x0 : Nat) (x1 : Nat) {h : qH} (hv : qNI h 576 (fun r1 h2 => qPR h2 x0 8 1 r1 (fun h3 => qNI h3 576 (fun r4 h5 => qPR h5 x0 8 2 r4 (fun h6 => qPR h6 x0 8 0 x1 (fun h7 => Q none h7)))))) : q_Ct l (d + 1) mX8_init [.ref x0, .ref x1] h mc ms Q QX := by
  refine q_body (by decide ) (by intro v hm; simp only [List.mem_cons, List.not_mem_nil, or_false] at hm; rcases hm with rfl | rfl <;> rfl) (Nat.le_of_ble_eq_true rfl) ?_
  refine q_KT ?_
  refine k_pad 0 rfl ?_
  refine k_aload_n dX8_init_0 rfl rfl ?_
  refine k_objInit dX8_init_1 w_m_X8_3 w_in_objInit w_co_objInit (Nat.le_of_ble_eq_true rfl) (by omega) ?_
  refine k_aload_n dX8_init_4 rfl rfl ?_
  refine k_sipush (v := (576 : Int32)) dX8_init_5 (by decide) ?_
  try unfold qNI at hv
  refine k_newI (N := 576) w_ar_int dX8_init_8 (by decide) (by decide) (by decide) (kc' := (mc - 1)) (ks' := (ms - 576)) (by omega) (by omega) ?_
  generalize q_push h _ = h2 at hv ⊢
  generalize (h).2 = r1 at hv ⊢
  obtain ⟨fs, e1, e2, hv⟩ := hv
  refine k_putF (k := 1) (ty0 := tyX8) cl_X8 (pf_X8_1) w_f_X8_9 dX8_init_10 rfl rfl (fun g ad => q_nRa g ad _ _) e1 e2 ?_
  generalize q_set h2 x0 _ = h3 at hv ⊢
  refine k_aload_n dX8_init_13 rfl rfl ?_
  refine k_sipush (v := (576 : Int32)) dX8_init_14 (by decide) ?_
  try unfold qNI at hv
  refine k_newI (N := 576) w_ar_int dX8_init_17 (by decide) (by decide) (by decide) (kc' := (mc - 2)) (ks' := (ms - 1152)) (by omega) (by omega) ?_
  generalize q_push h3 _ = h5 at hv ⊢
  generalize (h3).2 = r4 at hv ⊢
  obtain ⟨fs, e1, e2, hv⟩ := hv
  refine k_putF (k := 2) (ty0 := tyX8) cl_X8 (pf_X8_2) w_f_X8_15 dX8_init_19 rfl rfl (fun g ad => q_nRa g ad _ _) e1 e2 ?_
  generalize q_set h5 x0 _ = h6 at hv ⊢
  refine k_aload_n dX8_init_22 rfl rfl ?_
  refine k_aload_n dX8_init_23 rfl rfl ?_
  obtain ⟨fs, e1, e2, hv⟩ := hv
  refine k_putF (k := 0) (ty0 := tyX8) cl_X8 (pf_X8_0) w_f_X8_18 dX8_init_24 rfl rfl (fun g ad => q_nRo g ad _ _) e1 e2 ?_
  generalize q_set h6 x0 _ = h7 at hv ⊢
  exact k_vret dX8_init_27 rfl hv
set_option maxRecDepth 20000 in
set_option maxHeartbeats 4000000 in
theorem v_X1_init {l : Launch} {d mc ms : Nat} {Q : Option Value → qH → Prop} {QX : String → qH → Prop} (hkc : 4 ≤ mc) (hks : 6336 ≤ ms) (x0 : Nat) {h : qH} (hv : qNI h 576 (fun r1 h2 => qPR h2 x0 1 0 r1 (fun h3 => qNI h3 576 (fun r4 h5 => qPR h5 x0 1 1 r4 (fun h6 => qNZ h6 576 (fun r7 h8 => qPR h8 x0 1 2 r7 (fun h9 => qNI h9 4608 (fun r10 h11 => qPR h11 x0 1 3 r10 (fun h12 => qPI h12 x0 1 4 (12 : Int32) (fun h13 => qOB h13 x0 1 (qCV l (d + 3) mX1_measureSteps [.ref x0] h13 0 0 (fun h14 => Q none h14)))))))))))) : q_Ct l (d + 4) mX1_init [.ref x0] h mc ms Q QX := by
  refine q_body (by decide ) (by intro v hm; simp only [List.mem_cons, List.not_mem_nil, or_false] at hm; subst hm; rfl) (Nat.le_of_ble_eq_true rfl) ?_
  refine q_KT ?_
  refine k_pad 0 rfl ?_
  refine k_aload_n dX1_init_0 rfl rfl ?_
  refine k_objInit dX1_init_1 w_m_X1_3 w_in_objInit w_co_objInit (Nat.le_of_ble_eq_true rfl) (by omega) ?_
  refine k_aload_n dX1_init_4 rfl rfl ?_
  refine k_sipush (v := (576 : Int32)) dX1_init_5 (by decide) ?_
  try unfold qNI at hv
  refine k_newI (N := 576) w_ar_int dX1_init_8 (by decide) (by decide) (by decide) (kc' := (mc - 1)) (ks' := (ms - 576)) (by omega) (by omega) ?_
  generalize q_push h _ = h2 at hv ⊢
  generalize (h).2 = r1 at hv ⊢
  obtain ⟨fs, e1, e2, hv⟩ := hv
  refine k_putF (k := 0) (ty0 := tyX1) cl_X1 (pf_X1_0) w_f_X1_9 dX1_init_10 rfl rfl (fun g ad => q_nRa g ad _ _) e1 e2 ?_
  generalize q_set h2 x0 _ = h3 at hv ⊢
  refine k_aload_n dX1_init_13 rfl rfl ?_
  refine k_sipush (v := (576 : Int32)) dX1_init_14 (by decide) ?_
  try unfold qNI at hv
  refine k_newI (N := 576) w_ar_int dX1_init_17 (by decide) (by decide) (by decide) (kc' := (mc - 2)) (ks' := (ms - 1152)) (by omega) (by omega) ?_
  generalize q_push h3 _ = h5 at hv ⊢
  generalize (h3).2 = r4 at hv ⊢
  obtain ⟨fs, e1, e2, hv⟩ := hv
  refine k_putF (k := 1) (ty0 := tyX1) cl_X1 (pf_X1_1) w_f_X1_15 dX1_init_19 rfl rfl (fun g ad => q_nRa g ad _ _) e1 e2 ?_
  generalize q_set h5 x0 _ = h6 at hv ⊢
  refine k_aload_n dX1_init_22 rfl rfl ?_
  refine k_sipush (v := (576 : Int32)) dX1_init_23 (by decide) ?_
  try unfold qNZ at hv
  refine k_newZ (N := 576) w_ar_boolean dX1_init_26 (by decide) (by decide) (by decide) (kc' := (mc - 3)) (ks' := (ms - 1728)) (by omega) (by omega) ?_
  generalize q_push h6 _ = h8 at hv ⊢
  generalize (h6).2 = r7 at hv ⊢
  obtain ⟨fs, e1, e2, hv⟩ := hv
  refine k_putF (k := 2) (ty0 := tyX1) cl_X1 (pf_X1_2) w_f_X1_18 dX1_init_28 rfl rfl (fun g ad => q_nRa g ad _ _) e1 e2 ?_
  generalize q_set h8 x0 _ = h9 at hv ⊢
  refine k_aload_n dX1_init_31 rfl rfl ?_
  refine k_sipush (v := (4608 : Int32)) dX1_init_32 (by decide) ?_
  try unfold qNI at hv
  refine k_newI (N := 4608) w_ar_int dX1_init_35 (by decide) (by decide) (by decide) (kc' := (mc - 4)) (ks' := (ms - 6336)) (by omega) (by omega) ?_
  generalize q_push h9 _ = h11 at hv ⊢
  generalize (h9).2 = r10 at hv ⊢
  obtain ⟨fs, e1, e2, hv⟩ := hv
  refine k_putF (k := 3) (ty0 := tyX1) cl_X1 (pf_X1_3) w_f_X1_22 dX1_init_37 rfl rfl (fun g ad => q_nRa g ad _ _) e1 e2 ?_
  generalize q_set h11 x0 _ = h12 at hv ⊢
  refine k_aload_n dX1_init_40 rfl rfl ?_
  refine k_bipush (v := (12 : Int32)) dX1_init_41 (by decide) ?_
  obtain ⟨fs, e1, e2, hv⟩ := hv
  refine k_put (k := 4) (ty0 := tyX1) cl_X1 (pf_X1_4) w_f_X1_25 dX1_init_43 (fun g ad => q_nI g ad _) e1 e2 ?_
  generalize q_set h12 x0 _ = h13 at hv ⊢
  refine k_aload_n dX1_init_46 rfl rfl ?_
  obtain ⟨⟨fs, e1⟩, hv⟩ := hv
  refine k_virtual (avs := []) (rest := []) (i := x0) (kc' := (mc - 4)) (ks' := (ms - 6336)) dX1_init_47 mt_X1_measureSteps w_m_X1_29 w_in_X1_measureSteps w_se_X1_measureSteps rfl rfl (Nat.le_of_ble_eq_true rfl) (Nat.le_refl _) (by omega) (by omega) cl_X1.1 e1 hv (fun _ _ q9 => q9) ?_
  rintro _ h14 ⟨rfl, hv⟩ -
  exact k_vret dX1_init_50 rfl hv
set_option maxRecDepth 20000 in
set_option maxHeartbeats 4000000 in
theorem v_X0_init {l : Launch} {d mc ms : Nat} {Q : Option Value → qH → Prop} {QX : String → qH → Prop} (hkc : 6 ≤ mc) (hks : 559 ≤ ms) (x0 : Nat) (x1 : Nat) (x2 : Nat) (x3 : Nat) (x4 : Nat) {h : qH} (hv : qNW h 6 dfX6 (fun r1 h2 => qCV l (d + 1) mX6_init [.ref r1] h2 5 544 (fun h3 => qPR h3 x0 0 4 r1 (fun h4 => qPI h4 x0 0 5 (4000 : Int32) (fun h5 => qPI h5 x0 0 6 (800 : Int32) (fun h6 => qPI h6 x0 0 7 (0 : Int32) (fun h7 => qPR h7 x0 0 0 x1 (fun h8 => qPR h8 x0 0 1 x2 (fun h9 => qPR h9 x0 0 2 x3 (fun h10 => qPR h10 x0 0 3 x4 (fun h11 => Q none h11))))))))))) : q_Ct l (d + 2) mX0_init [.ref x0, .ref x1, .ref x2, .ref x3, .ref x4] h mc ms Q QX := by
  refine q_body (by decide ) (by intro v hm; simp only [List.mem_cons, List.not_mem_nil, or_false] at hm; rcases hm with rfl | rfl | rfl | rfl | rfl <;> rfl) (Nat.le_of_ble_eq_true rfl) ?_
  refine q_KT ?_
  refine k_pad 0 rfl ?_
  refine k_aload_n dX0_init_0 rfl rfl ?_
  refine k_objInit dX0_init_1 w_m_X0_3 w_in_objInit w_co_objInit (Nat.le_of_ble_eq_true rfl) (by omega) ?_
  refine k_aload_n dX0_init_4 rfl rfl ?_
  try unfold qNW at hv
  refine k_new (fs := dfX6) cl_X6 tyX6_ok w_cl_X0_9 w_iq_X6 w_in9_X6 dX0_init_5 nfX6 (q_pl_wf rfl) (kc' := (mc - 1)) (ks' := (ms - 15)) (by omega) (by omega) ?_
  generalize q_push h _ = h2 at hv ⊢
  generalize (h).2 = r1 at hv ⊢
  refine k_dup dX0_init_8 rfl ?_
  refine k_specialN (avs := []) (rest := [.ref r1, .ref x0]) (i := r1) (kc' := (mc - 6)) (ks' := (ms - 559)) dX0_init_9 mt_X6_init rfl rfl w_mn_X0_11 w_in_X6_init rfl rfl (Nat.le_of_ble_eq_true rfl) (Nat.le_refl _) (by omega) (by omega) hv (fun _ _ q9 => q9) ?_
  rintro _ h3 ⟨rfl, hv⟩ -
  obtain ⟨fs, e1, e2, hv⟩ := hv
  refine k_putF (k := 4) (ty0 := tyX0) cl_X0 (pf_X0_4) w_f_X0_12 dX0_init_12 rfl rfl (fun g ad => q_nRo g ad _ _) e1 e2 ?_
  generalize q_set h3 x0 _ = h4 at hv ⊢
  refine k_aload_n dX0_init_15 rfl rfl ?_
  refine k_sipush (v := (4000 : Int32)) dX0_init_16 (by decide) ?_
  obtain ⟨fs, e1, e2, hv⟩ := hv
  refine k_put (k := 5) (ty0 := tyX0) cl_X0 (pf_X0_5) w_f_X0_18 dX0_init_19 (fun g ad => q_nI g ad _) e1 e2 ?_
  generalize q_set h4 x0 _ = h5 at hv ⊢
  refine k_aload_n dX0_init_22 rfl rfl ?_
  refine k_sipush (v := (800 : Int32)) dX0_init_23 (by decide) ?_
  obtain ⟨fs, e1, e2, hv⟩ := hv
  refine k_put (k := 6) (ty0 := tyX0) cl_X0 (pf_X0_6) w_f_X0_22 dX0_init_26 (fun g ad => q_nI g ad _) e1 e2 ?_
  generalize q_set h5 x0 _ = h6 at hv ⊢
  refine k_aload_n dX0_init_29 rfl rfl ?_
  refine k_iconst (v := (0 : Int32)) dX0_init_30 (by decide) ?_
  obtain ⟨fs, e1, e2, hv⟩ := hv
  refine k_put (k := 7) (ty0 := tyX0) cl_X0 (pf_X0_7) w_f_X0_25 dX0_init_31 (fun g ad => q_nI g ad _) e1 e2 ?_
  generalize q_set h6 x0 _ = h7 at hv ⊢
  refine k_aload_n dX0_init_34 rfl rfl ?_
  refine k_aload_n dX0_init_35 rfl rfl ?_
  obtain ⟨fs, e1, e2, hv⟩ := hv
  refine k_putF (k := 0) (ty0 := tyX0) cl_X0 (pf_X0_0) w_f_X0_28 dX0_init_36 rfl rfl (fun g ad => q_nRo g ad _ _) e1 e2 ?_
  generalize q_set h7 x0 _ = h8 at hv ⊢
  refine k_aload_n dX0_init_39 rfl rfl ?_
  refine k_aload_n dX0_init_40 rfl rfl ?_
  obtain ⟨fs, e1, e2, hv⟩ := hv
  refine k_putF (k := 1) (ty0 := tyX0) cl_X0 (pf_X0_1) w_f_X0_32 dX0_init_41 rfl rfl (fun g ad => q_nRo g ad _ _) e1 e2 ?_
  generalize q_set h8 x0 _ = h9 at hv ⊢
  refine k_aload_n dX0_init_44 rfl rfl ?_
  refine k_aload_n dX0_init_45 rfl rfl ?_
  obtain ⟨fs, e1, e2, hv⟩ := hv
  refine k_putF (k := 2) (ty0 := tyX0) cl_X0 (pf_X0_2) w_f_X0_36 dX0_init_46 rfl rfl (fun g ad => q_nRo g ad _ _) e1 e2 ?_
  generalize q_set h9 x0 _ = h10 at hv ⊢
  refine k_aload_n dX0_init_49 rfl rfl ?_
  refine k_aload dX0_init_50 rfl ?_
  obtain ⟨fs, e1, e2, hv⟩ := hv
  refine k_putF (k := 3) (ty0 := tyX0) cl_X0 (pf_X0_3) w_f_X0_40 dX0_init_52 rfl rfl (fun g ad => q_nRo g ad _ _) e1 e2 ?_
  generalize q_set h10 x0 _ = h11 at hv ⊢
  exact k_vret dX0_init_55 rfl hv
set_option maxRecDepth 20000 in
set_option maxHeartbeats 4000000 in
theorem v_X2_init {l : Launch} {d mc ms : Nat} {Q : Option Value → qH → Prop} {QX : String → qH → Prop} (hkc : 6 ≤ mc) (hks : 559 ≤ ms) (x0 : Nat) (x1 : Nat) (x2 : Nat) (x3 : Nat) (x4 : Nat) {h : qH} (hv : qNW h 6 dfX6 (fun r1 h2 => qCV l (d + 1) mX6_init [.ref r1] h2 5 544 (fun h3 => qPR h3 x0 2 4 r1 (fun h4 => qPR h4 x0 2 0 x1 (fun h5 => qPR h5 x0 2 1 x2 (fun h6 => qPR h6 x0 2 2 x3 (fun h7 => qPR h7 x0 2 3 x4 (fun h8 => Q none h8)))))))) : q_Ct l (d + 2) mX2_init [.ref x0, .ref x1, .ref x2, .ref x3, .ref x4] h mc ms Q QX := by
  refine q_body (by decide ) (by intro v hm; simp only [List.mem_cons, List.not_mem_nil, or_false] at hm; rcases hm with rfl | rfl | rfl | rfl | rfl <;> rfl) (Nat.le_of_ble_eq_true rfl) ?_
  refine q_KT ?_
  refine k_pad 0 rfl ?_
  refine k_aload_n dX2_init_0 rfl rfl ?_
  refine k_objInit dX2_init_1 w_m_X2_3 w_in_objInit w_co_objInit (Nat.le_of_ble_eq_true rfl) (by omega) ?_
  refine k_aload_n dX2_init_4 rfl rfl ?_
  try unfold qNW at hv
  refine k_new (fs := dfX6) cl_X6 tyX6_ok w_cl_X2_9 w_iq_X6 w_in9_X6 dX2_init_5 nfX6 (q_pl_wf rfl) (kc' := (mc - 1)) (ks' := (ms - 15)) (by omega) (by omega) ?_
  generalize q_push h _ = h2 at hv ⊢
  generalize (h).2 = r1 at hv ⊢
  refine k_dup dX2_init_8 rfl ?_
  refine k_specialN (avs := []) (rest := [.ref r1, .ref x0]) (i := r1) (kc' := (mc - 6)) (ks' := (ms - 559)) dX2_init_9 mt_X6_init rfl rfl w_mn_X2_11 w_in_X6_init rfl rfl (Nat.le_of_ble_eq_true rfl) (Nat.le_refl _) (by omega) (by omega) hv (fun _ _ q9 => q9) ?_
  rintro _ h3 ⟨rfl, hv⟩ -
  obtain ⟨fs, e1, e2, hv⟩ := hv
  refine k_putF (k := 4) (ty0 := tyX2) cl_X2 (pf_X2_4) w_f_X2_12 dX2_init_12 rfl rfl (fun g ad => q_nRo g ad _ _) e1 e2 ?_
  generalize q_set h3 x0 _ = h4 at hv ⊢
  refine k_aload_n dX2_init_15 rfl rfl ?_
  refine k_aload_n dX2_init_16 rfl rfl ?_
  obtain ⟨fs, e1, e2, hv⟩ := hv
  refine k_putF (k := 0) (ty0 := tyX2) cl_X2 (pf_X2_0) w_f_X2_18 dX2_init_17 rfl rfl (fun g ad => q_nRo g ad _ _) e1 e2 ?_
  generalize q_set h4 x0 _ = h5 at hv ⊢
  refine k_aload_n dX2_init_20 rfl rfl ?_
  refine k_aload_n dX2_init_21 rfl rfl ?_
  obtain ⟨fs, e1, e2, hv⟩ := hv
  refine k_putF (k := 1) (ty0 := tyX2) cl_X2 (pf_X2_1) w_f_X2_22 dX2_init_22 rfl rfl (fun g ad => q_nRo g ad _ _) e1 e2 ?_
  generalize q_set h5 x0 _ = h6 at hv ⊢
  refine k_aload_n dX2_init_25 rfl rfl ?_
  refine k_aload_n dX2_init_26 rfl rfl ?_
  obtain ⟨fs, e1, e2, hv⟩ := hv
  refine k_putF (k := 2) (ty0 := tyX2) cl_X2 (pf_X2_2) w_f_X2_26 dX2_init_27 rfl rfl (fun g ad => q_nRo g ad _ _) e1 e2 ?_
  generalize q_set h6 x0 _ = h7 at hv ⊢
  refine k_aload_n dX2_init_30 rfl rfl ?_
  refine k_aload dX2_init_31 rfl ?_
  obtain ⟨fs, e1, e2, hv⟩ := hv
  refine k_putF (k := 3) (ty0 := tyX2) cl_X2 (pf_X2_3) w_f_X2_30 dX2_init_33 rfl rfl (fun g ad => q_nRo g ad _ _) e1 e2 ?_
  generalize q_set h7 x0 _ = h8 at hv ⊢
  exact k_vret dX2_init_36 rfl hv
set_option maxRecDepth 20000 in
set_option maxHeartbeats 4000000 in
theorem v_X3_init {l : Launch} {d mc ms : Nat} {Q : Option Value → qH → Prop} {QX : String → qH → Prop} (hkc : 10 ≤ mc) (hks : 683 ≤ ms) (x0 : Nat) {h : qH} (hv : qNW h 6 dfX6 (fun r1 h2 => qCV l (d + 1) mX6_init [.ref r1] h2 5 544 (fun h3 => qPR h3 x0 3 0 r1 (fun h4 => qNW h4 5 dfX5 (fun r5 h6 => qCV l (d + 1) mX5_init [.ref r5] h6 3 120 (fun h7 => qPR h7 x0 3 1 r5 (fun h8 => Q none h8))))))) : q_Ct l (d + 2) mX3_init [.ref x0] h mc ms Q QX := by
  refine q_body (by decide ) (by intro v hm; simp only [List.mem_cons, List.not_mem_nil, or_false] at hm; subst hm; rfl) (Nat.le_of_ble_eq_true rfl) ?_
  refine q_KT ?_
  refine k_pad 0 rfl ?_
  refine k_aload_n dX3_init_0 rfl rfl ?_
  refine k_objInit dX3_init_1 w_m_X3_1 w_in_objInit w_co_objInit (Nat.le_of_ble_eq_true rfl) (by omega) ?_
  refine k_aload_n dX3_init_4 rfl rfl ?_
  try unfold qNW at hv
  refine k_new (fs := dfX6) cl_X6 tyX6_ok w_cl_X3_7 w_iq_X6 w_in9_X6 dX3_init_5 nfX6 (q_pl_wf rfl) (kc' := (mc - 1)) (ks' := (ms - 15)) (by omega) (by omega) ?_
  generalize q_push h _ = h2 at hv ⊢
  generalize (h).2 = r1 at hv ⊢
  refine k_dup dX3_init_8 rfl ?_
  refine k_specialN (avs := []) (rest := [.ref r1, .ref x0]) (i := r1) (kc' := (mc - 6)) (ks' := (ms - 559)) dX3_init_9 mt_X6_init rfl rfl w_mn_X3_9 w_in_X6_init rfl rfl (Nat.le_of_ble_eq_true rfl) (Nat.le_refl _) (by omega) (by omega) hv (fun _ _ q9 => q9) ?_
  rintro _ h3 ⟨rfl, hv⟩ -
  obtain ⟨fs, e1, e2, hv⟩ := hv
  refine k_putF (k := 0) (ty0 := tyX3) cl_X3 (pf_X3_0) w_f_X3_10 dX3_init_12 rfl rfl (fun g ad => q_nRo g ad _ _) e1 e2 ?_
  generalize q_set h3 x0 _ = h4 at hv ⊢
  refine k_aload_n dX3_init_15 rfl rfl ?_
  try unfold qNW at hv
  refine k_new (fs := dfX5) cl_X5 tyX5_ok w_cl_X3_16 w_iq_X5 w_in9_X5 dX3_init_16 nfX5 (q_pl_wf rfl) (kc' := (mc - 7)) (ks' := (ms - 563)) (by omega) (by omega) ?_
  generalize q_push h4 _ = h6 at hv ⊢
  generalize (h4).2 = r5 at hv ⊢
  refine k_dup dX3_init_19 rfl ?_
  refine k_specialN (avs := []) (rest := [.ref r5, .ref x0]) (i := r5) (kc' := (mc - 10)) (ks' := (ms - 683)) dX3_init_20 mt_X5_init rfl rfl w_mn_X3_18 w_in_X5_init rfl rfl (Nat.le_of_ble_eq_true rfl) (Nat.le_refl _) (by omega) (by omega) hv (fun _ _ q9 => q9) ?_
  rintro _ h7 ⟨rfl, hv⟩ -
  obtain ⟨fs, e1, e2, hv⟩ := hv
  refine k_putF (k := 1) (ty0 := tyX3) cl_X3 (pf_X3_1) w_f_X3_19 dX3_init_23 rfl rfl (fun g ad => q_nRo g ad _ _) e1 e2 ?_
  generalize q_set h7 x0 _ = h8 at hv ⊢
  exact k_vret dX3_init_26 rfl hv
set_option maxRecDepth 20000 in
set_option maxHeartbeats 4000000 in
theorem v_X9_mark {l : Launch} {d mc ms : Nat} {Q : Option Value → qH → Prop} {QX : String → qH → Prop} (hl0 : l.stackTraces = false) (hkc : 11 ≤ mc) (hks : 685 ≤ ms) (x0 : Nat) {h : qH} (hv : qGI h x0 9 10 (fun z1 => qIF (z1 < 0) (QX "java/lang/IllegalStateException" h) (qGI h x0 9 10 (fun z2 => qIF (z2 < (8 : Int32)) (qGR h x0 9 9 (fun r3 => qGI h x0 9 10 (fun z4 => qO3 h r3 z4 (fun r5 => qGR h r5 3 0 (fun r6 => qGR h x0 9 6 (fun r7 => qOB h r6 6 (qCV l (d + 5) mX6_copyFrom [.ref r6, .ref r7] h 0 0 (fun h8 => qGR h8 r5 3 1 (fun r9 => qGR h8 x0 9 8 (fun r10 => qOB h8 r9 5 (qCV l (d + 5) mX5_copyFrom [.ref r9, .ref r10] h8 0 0 (fun h11 => qGI h11 x0 9 10 (fun z12 => qPI h11 x0 9 10 (z12 + (1 : Int32)) (fun h13 => qGI h13 x0 9 10 (fun z14 => Q (some (.int (z14 - (1 : Int32)))) h13)))))))))))) (qNW h 3 dfX3 (fun r15 h16 => qCV l (d + 5) mX3_init [.ref r15] h16 10 683 (fun h17 => qGR h17 x0 9 9 (fun r18 => qGI h17 x0 9 10 (fun z19 => qA3 h17 r18 z19 r15 (fun h20 => qGR h20 r15 3 0 (fun r21 => qGR h20 x0 9 6 (fun r22 => qOB h20 r21 6 (qCV l (d + 5) mX6_copyFrom [.ref r21, .ref r22] h20 0 0 (fun h23 => qGR h23 r15 3 1 (fun r24 => qGR h23 x0 9 8 (fun r25 => qOB h23 r24 5 (qCV l (d + 5) mX5_copyFrom [.ref r24, .ref r25] h23 0 0 (fun h26 => qGI h26 x0 9 10 (fun z27 => qPI h26 x0 9 10 (z27 + (1 : Int32)) (fun h28 => qGI h28 x0 9 10 (fun z29 => Q (some (.int (z29 - (1 : Int32)))) h28)))))))))))))))))))) (QX "java/lang/IllegalStateException" h))))) : q_Ct l (d + 6) mX9_mark [.ref x0] h mc ms Q QX := by
  refine q_body (by decide ) (by intro v hm; simp only [List.mem_cons, List.not_mem_nil, or_false] at hm; subst hm; rfl) (Nat.le_of_ble_eq_true rfl) ?_
  refine j_pad 1 rfl ?_
  refine j_aload_n dX9_mark_0 rfl rfl ?_
  obtain ⟨fs, z1, e1, e2, hv⟩ := hv
  refine j_getf (k := 10) cl_X9 (by decide) w_f_X9_313 dX9_mark_1 e1 e2 ?_
  refine j_if_lt (tgt := 16) dX9_mark_4 (by decide) (fun hc => ?_) (fun hc => ?_)
  · replace hv := hv.1 hc
    exact j_throwW (text := "there are 8 marks") hl0 rfl xw_ISE w_cl_X9_162 (by decide +kernel) dX9_mark_16 dX9_mark_19 dX9_mark_20 dX9_mark_23 dX9_mark_26 (by omega) (Nat.le_of_ble_eq_true rfl) (by omega) (by omega) hv
  · replace hv := hv.2 hc
    refine j_aload_n dX9_mark_7 rfl rfl ?_
    obtain ⟨fs, z2, e1, e2, hv⟩ := hv
    refine j_getf (k := 10) cl_X9 (by decide) w_f_X9_313 dX9_mark_8 e1 e2 ?_
    refine j_bipush (v := (8 : Int32)) dX9_mark_11 (by decide) ?_
    refine j_icmp_lt (tgt := 27) dX9_mark_13 (by decide) (fun hc => ?_) (fun hc => ?_)
    · replace hv := hv.1 hc
      refine j_aload_n dX9_mark_27 rfl rfl ?_
      obtain ⟨fs, r3, e1, e2, hv⟩ := hv
      refine j_getf (k := 9) cl_X9 (by decide) w_f_X9_76 dX9_mark_28 e1 e2 ?_
      refine j_aload_n dX9_mark_31 rfl rfl ?_
      obtain ⟨fs, z4, e1, e2, hv⟩ := hv
      refine j_getf (k := 10) cl_X9 (by decide) w_f_X9_313 dX9_mark_32 e1 e2 ?_
      obtain ⟨N, f, e1, e2, hA, hB⟩ := hv
      rcases hf : f (Int32.toNatClampNeg z4) with _ | r5
      · replace hv := hB hf
        refine j_aald (C := "") (t0 := 0) (v := .null) dX9_mark_35 e1 e2 (by rw [hf]) ?_
        refine j_astore_nN dX9_mark_36 rfl (by decide) rfl rfl ?_
        refine j_aload_nN dX9_mark_37 rfl rfl ?_
        refine j_ifnonnullN dX9_mark_38 ?_
        try unfold qNW at hv
        refine j_new (fs := dfX3) cl_X3 tyX3_ok w_cl_X9_74 w_iq_X3 w_in9_X3 dX9_mark_41 nfX3 (q_pl_wf rfl) (kc' := (mc - 1)) (ks' := (ms - 2)) (by omega) (by omega) ?_
        generalize q_push h _ = h16 at hv ⊢
        generalize (h).2 = r15 at hv ⊢
        refine j_dup dX9_mark_44 rfl ?_
        refine j_specialN (avs := []) (rest := [.ref r15]) (i := r15) (kc' := (mc - 11)) (ks' := (ms - 685)) dX9_mark_45 mt_X3_init rfl rfl w_mn_X9_318 w_in_X3_init rfl rfl (Nat.le_of_ble_eq_true rfl) (Nat.le_refl _) (by omega) (by omega) hv (fun _ _ q9 => q9) ?_
        rintro _ h17 ⟨rfl, hv⟩ -
        refine j_astore_n dX9_mark_48 rfl (by decide) rfl rfl ?_
        refine j_aload_n dX9_mark_49 rfl rfl ?_
        obtain ⟨fs, r18, e1, e2, hv⟩ := hv
        refine j_getf (k := 9) cl_X9 (by decide) w_f_X9_76 dX9_mark_50 e1 e2 ?_
        refine j_aload_n dX9_mark_53 rfl rfl ?_
        obtain ⟨fs, z19, e1, e2, hv⟩ := hv
        refine j_getf (k := 10) cl_X9 (by decide) w_f_X9_313 dX9_mark_54 e1 e2 ?_
        refine j_aload_n dX9_mark_57 rfl rfl ?_
        obtain ⟨N, f, fs, e1, e2, e3, hv⟩ := hv
        refine j_aast (T := TX3) (N1 := 2) dX9_mark_58 e1 e2 rfl e3 ?_
        generalize q_set h17 r18 _ = h20 at hv ⊢
        refine j_aload_n dX9_mark_59 rfl rfl ?_
        obtain ⟨fs, r21, e1, e2, hv⟩ := hv
        refine j_getfN (k := 0) cl_X3 (by decide) w_fn_X9_319 dX9_mark_60 e1 e2 ?_
        refine j_aload_n dX9_mark_63 rfl rfl ?_
        obtain ⟨fs, r22, e1, e2, hv⟩ := hv
        refine j_getf (k := 6) cl_X9 (by decide) w_f_X9_60 dX9_mark_64 e1 e2 ?_
        obtain ⟨⟨fs, e1⟩, hv⟩ := hv
        refine j_virtual (avs := [.ref r22]) (rest := []) (i := r21) (kc' := (mc - 11)) (ks' := (ms - 685)) dX9_mark_67 mt_X6_copyFrom w_m_X9_322 w_in_X6_copyFrom w_se_X6_copyFrom rfl rfl (Nat.le_of_ble_eq_true rfl) (Nat.le_refl _) (by omega) (by omega) cl_X6.1 e1 hv (fun _ _ q9 => q9) ?_
        rintro _ h23 ⟨rfl, hv⟩ -
        refine j_aload_n dX9_mark_70 rfl rfl ?_
        obtain ⟨fs, r24, e1, e2, hv⟩ := hv
        refine j_getfN (k := 1) cl_X3 (by decide) w_fn_X9_326 dX9_mark_71 e1 e2 ?_
        refine j_aload_n dX9_mark_74 rfl rfl ?_
        obtain ⟨fs, r25, e1, e2, hv⟩ := hv
        refine j_getf (k := 8) cl_X9 (by decide) w_f_X9_70 dX9_mark_75 e1 e2 ?_
        obtain ⟨⟨fs, e1⟩, hv⟩ := hv
        refine j_virtual (avs := [.ref r25]) (rest := []) (i := r24) (kc' := (mc - 11)) (ks' := (ms - 685)) dX9_mark_78 mt_X5_copyFrom w_m_X9_327 w_in_X5_copyFrom w_se_X5_copyFrom rfl rfl (Nat.le_of_ble_eq_true rfl) (Nat.le_refl _) (by omega) (by omega) cl_X5.1 e1 hv (fun _ _ q9 => q9) ?_
        rintro _ h26 ⟨rfl, hv⟩ -
        refine j_aload_n dX9_mark_81 rfl rfl ?_
        refine j_dup dX9_mark_82 rfl ?_
        obtain ⟨fs, z27, e1, e2, hv⟩ := hv
        refine j_getf (k := 10) cl_X9 (by decide) w_f_X9_313 dX9_mark_83 e1 e2 ?_
        refine j_iconst (v := (1 : Int32)) dX9_mark_86 (by decide) ?_
        refine j_iadd dX9_mark_87 ?_
        obtain ⟨fs, e1, e2, hv⟩ := hv
        refine j_put (k := 10) (ty0 := tyX9) cl_X9 (pf_X9_10) w_f_X9_313 dX9_mark_88 (fun g ad => q_nI g ad _) e1 e2 ?_
        generalize q_set h26 x0 _ = h28 at hv ⊢
        refine j_aload_n dX9_mark_91 rfl rfl ?_
        obtain ⟨fs, z29, e1, e2, hv⟩ := hv
        refine j_getf (k := 10) cl_X9 (by decide) w_f_X9_313 dX9_mark_92 e1 e2 ?_
        refine j_iconst (v := (1 : Int32)) dX9_mark_95 (by decide) ?_
        refine j_isub dX9_mark_96 ?_
        exact j_iret dX9_mark_97 rfl hv
      · replace hv := hA _ hf
        refine j_aald (C := "") (t0 := 0) (v := .ref r5) dX9_mark_35 e1 e2 (by rw [hf]) ?_
        refine j_astore_n dX9_mark_36 rfl (by decide) rfl rfl ?_
        refine j_aload_n dX9_mark_37 rfl rfl ?_
        refine j_ifnonnull (tgt := 59) dX9_mark_38 (by decide) ?_
        refine j_aload_n dX9_mark_59 rfl rfl ?_
        obtain ⟨fs, r6, e1, e2, hv⟩ := hv
        refine j_getfN (k := 0) cl_X3 (by decide) w_fn_X9_319 dX9_mark_60 e1 e2 ?_
        refine j_aload_n dX9_mark_63 rfl rfl ?_
        obtain ⟨fs, r7, e1, e2, hv⟩ := hv
        refine j_getf (k := 6) cl_X9 (by decide) w_f_X9_60 dX9_mark_64 e1 e2 ?_
        obtain ⟨⟨fs, e1⟩, hv⟩ := hv
        refine j_virtual (avs := [.ref r7]) (rest := []) (i := r6) (kc' := mc) (ks' := ms) dX9_mark_67 mt_X6_copyFrom w_m_X9_322 w_in_X6_copyFrom w_se_X6_copyFrom rfl rfl (Nat.le_of_ble_eq_true rfl) (Nat.le_refl _) (by omega) (by omega) cl_X6.1 e1 hv (fun _ _ q9 => q9) ?_
        rintro _ h8 ⟨rfl, hv⟩ -
        refine j_aload_n dX9_mark_70 rfl rfl ?_
        obtain ⟨fs, r9, e1, e2, hv⟩ := hv
        refine j_getfN (k := 1) cl_X3 (by decide) w_fn_X9_326 dX9_mark_71 e1 e2 ?_
        refine j_aload_n dX9_mark_74 rfl rfl ?_
        obtain ⟨fs, r10, e1, e2, hv⟩ := hv
        refine j_getf (k := 8) cl_X9 (by decide) w_f_X9_70 dX9_mark_75 e1 e2 ?_
        obtain ⟨⟨fs, e1⟩, hv⟩ := hv
        refine j_virtual (avs := [.ref r10]) (rest := []) (i := r9) (kc' := mc) (ks' := ms) dX9_mark_78 mt_X5_copyFrom w_m_X9_327 w_in_X5_copyFrom w_se_X5_copyFrom rfl rfl (Nat.le_of_ble_eq_true rfl) (Nat.le_refl _) (by omega) (by omega) cl_X5.1 e1 hv (fun _ _ q9 => q9) ?_
        rintro _ h11 ⟨rfl, hv⟩ -
        refine j_aload_n dX9_mark_81 rfl rfl ?_
        refine j_dup dX9_mark_82 rfl ?_
        obtain ⟨fs, z12, e1, e2, hv⟩ := hv
        refine j_getf (k := 10) cl_X9 (by decide) w_f_X9_313 dX9_mark_83 e1 e2 ?_
        refine j_iconst (v := (1 : Int32)) dX9_mark_86 (by decide) ?_
        refine j_iadd dX9_mark_87 ?_
        obtain ⟨fs, e1, e2, hv⟩ := hv
        refine j_put (k := 10) (ty0 := tyX9) cl_X9 (pf_X9_10) w_f_X9_313 dX9_mark_88 (fun g ad => q_nI g ad _) e1 e2 ?_
        generalize q_set h11 x0 _ = h13 at hv ⊢
        refine j_aload_n dX9_mark_91 rfl rfl ?_
        obtain ⟨fs, z14, e1, e2, hv⟩ := hv
        refine j_getf (k := 10) cl_X9 (by decide) w_f_X9_313 dX9_mark_92 e1 e2 ?_
        refine j_iconst (v := (1 : Int32)) dX9_mark_95 (by decide) ?_
        refine j_isub dX9_mark_96 ?_
        exact j_iret dX9_mark_97 rfl hv
    · replace hv := hv.2 hc
      exact j_throwW (text := "there are 8 marks") hl0 rfl xw_ISE w_cl_X9_162 (by decide +kernel) dX9_mark_16 dX9_mark_19 dX9_mark_20 dX9_mark_23 dX9_mark_26 (by omega) (Nat.le_of_ble_eq_true rfl) (by omega) (by omega) hv
set_option maxRecDepth 20000 in
set_option maxHeartbeats 4000000 in
theorem v_X9_back {l : Launch} {d mc ms : Nat} {Q : Option Value → qH → Prop} {QX : String → qH → Prop} (hl0 : l.stackTraces = false) (hkc : 1 ≤ mc) (hks : 6 ≤ ms) (x0 : Nat) (x1 : Int32) {h : qH} (hv : qIF (x1 < 0) (QX "java/lang/IndexOutOfBoundsException" h) (qGI h x0 9 10 (fun z1 => qIF (z1 ≤ x1) (QX "java/lang/IndexOutOfBoundsException" h) (qIF (x1 < (8 : Int32)) (qGR h x0 9 9 (fun r2 => qO3 h r2 x1 (fun r3 => qGR h x0 9 6 (fun r4 => qGR h r3 3 0 (fun r5 => qOB h r4 6 (qCV l (d + 5) mX6_copyFrom [.ref r4, .ref r5] h 0 0 (fun h6 => qGR h6 x0 9 6 (fun r7 => qGR h6 x0 9 4 (fun r8 => qGI h6 r8 0 5 (fun z9 => qOB h6 r7 6 (qCV l (d + 5) mX6_limitBattery [.ref r7, .int z9] h6 0 0 (fun h10 => qGR h10 x0 9 8 (fun r11 => qGR h10 r3 3 1 (fun r12 => qOB h10 r11 5 (qCV l (d + 5) mX5_copyFrom [.ref r11, .ref r12] h10 0 0 (fun h13 => qPI h13 x0 9 10 (x1 + (1 : Int32)) (fun h14 => qGR h14 x0 9 6 (fun r15 => qGI h14 r15 6 0 (fun z16 => Q (some (.int z16)) h14))))))))))))))))) (QX "java/lang/IndexOutOfBoundsException" h))) (QX "java/lang/IndexOutOfBoundsException" h))))) : q_Ct l (d + 6) mX9_back [.ref x0, .int x1] h mc ms Q QX := by
  refine q_body (by decide ) (by intro v hm; simp only [List.mem_cons, List.not_mem_nil, or_false] at hm; rcases hm with rfl | rfl <;> rfl) (Nat.le_of_ble_eq_true rfl) ?_
  refine j_pad 1 rfl ?_
  refine j_iload_n dX9_back_0 rfl rfl ?_
  refine j_if_lt (tgt := 18) dX9_back_1 (by decide) (fun hc => ?_) (fun hc => ?_)
  · replace hv := hv.1 hc
    refine j_null dX9_back_18 ?_
    refine j_goto (tgt := 28) dX9_back_19 (by decide) ?_
    refine j_astore_nN dX9_back_28 rfl (by decide) rfl rfl ?_
    refine j_aload_nN dX9_back_29 rfl rfl ?_
    refine j_ifnonnullN dX9_back_30 ?_
    exact j_throwW (text := "no such mark") hl0 rfl xw_IOE w_cl_X9_109 (by decide +kernel) dX9_back_33 dX9_back_36 dX9_back_37 dX9_back_40 dX9_back_43 (by omega) (Nat.le_of_ble_eq_true rfl) (by omega) (by omega) hv
  · replace hv := hv.2 hc
    refine j_iload_n dX9_back_4 rfl rfl ?_
    refine j_aload_n dX9_back_5 rfl rfl ?_
    obtain ⟨fs, z1, e1, e2, hv⟩ := hv
    refine j_getf (k := 10) cl_X9 (by decide) w_f_X9_313 dX9_back_6 e1 e2 ?_
    refine j_icmp_ge (tgt := 18) dX9_back_9 (by decide) (fun hc => ?_) (fun hc => ?_)
    · replace hv := hv.1 hc
      refine j_null dX9_back_18 ?_
      refine j_goto (tgt := 28) dX9_back_19 (by decide) ?_
      refine j_astore_nN dX9_back_28 rfl (by decide) rfl rfl ?_
      refine j_aload_nN dX9_back_29 rfl rfl ?_
      refine j_ifnonnullN dX9_back_30 ?_
      exact j_throwW (text := "no such mark") hl0 rfl xw_IOE w_cl_X9_109 (by decide +kernel) dX9_back_33 dX9_back_36 dX9_back_37 dX9_back_40 dX9_back_43 (by omega) (Nat.le_of_ble_eq_true rfl) (by omega) (by omega) hv
    · replace hv := hv.2 hc
      refine j_iload_n dX9_back_12 rfl rfl ?_
      refine j_bipush (v := (8 : Int32)) dX9_back_13 (by decide) ?_
      refine j_icmp_lt (tgt := 22) dX9_back_15 (by decide) (fun hc => ?_) (fun hc => ?_)
      · replace hv := hv.1 hc
        refine j_aload_n dX9_back_22 rfl rfl ?_
        obtain ⟨fs, r2, e1, e2, hv⟩ := hv
        refine j_getf (k := 9) cl_X9 (by decide) w_f_X9_76 dX9_back_23 e1 e2 ?_
        refine j_iload_n dX9_back_26 rfl rfl ?_
        obtain ⟨N, f, e1, e2, hA, hB⟩ := hv
        rcases hf : f (Int32.toNatClampNeg x1) with _ | r3
        · replace hv := hB hf
          refine j_aald (C := "") (t0 := 0) (v := .null) dX9_back_27 e1 e2 (by rw [hf]) ?_
          refine j_astore_nN dX9_back_28 rfl (by decide) rfl rfl ?_
          refine j_aload_nN dX9_back_29 rfl rfl ?_
          refine j_ifnonnullN dX9_back_30 ?_
          exact j_throwW (text := "no such mark") hl0 rfl xw_IOE w_cl_X9_109 (by decide +kernel) dX9_back_33 dX9_back_36 dX9_back_37 dX9_back_40 dX9_back_43 (by omega) (Nat.le_of_ble_eq_true rfl) (by omega) (by omega) hv
        · replace hv := hA _ hf
          refine j_aald (C := "") (t0 := 0) (v := .ref r3) dX9_back_27 e1 e2 (by rw [hf]) ?_
          refine j_astore_n dX9_back_28 rfl (by decide) rfl rfl ?_
          refine j_aload_n dX9_back_29 rfl rfl ?_
          refine j_ifnonnull (tgt := 44) dX9_back_30 (by decide) ?_
          refine j_aload_n dX9_back_44 rfl rfl ?_
          obtain ⟨fs, r4, e1, e2, hv⟩ := hv
          refine j_getf (k := 6) cl_X9 (by decide) w_f_X9_60 dX9_back_45 e1 e2 ?_
          refine j_aload_n dX9_back_48 rfl rfl ?_
          obtain ⟨fs, r5, e1, e2, hv⟩ := hv
          refine j_getfN (k := 0) cl_X3 (by decide) w_fn_X9_319 dX9_back_49 e1 e2 ?_
          obtain ⟨⟨fs, e1⟩, hv⟩ := hv
          refine j_virtual (avs := [.ref r5]) (rest := []) (i := r4) (kc' := mc) (ks' := ms) dX9_back_52 mt_X6_copyFrom w_m_X9_322 w_in_X6_copyFrom w_se_X6_copyFrom rfl rfl (Nat.le_of_ble_eq_true rfl) (Nat.le_refl _) (by omega) (by omega) cl_X6.1 e1 hv (fun _ _ q9 => q9) ?_
          rintro _ h6 ⟨rfl, hv⟩ -
          refine j_aload_n dX9_back_55 rfl rfl ?_
          obtain ⟨fs, r7, e1, e2, hv⟩ := hv
          refine j_getf (k := 6) cl_X9 (by decide) w_f_X9_60 dX9_back_56 e1 e2 ?_
          refine j_aload_n dX9_back_59 rfl rfl ?_
          obtain ⟨fs, r8, e1, e2, hv⟩ := hv
          refine j_getf (k := 4) cl_X9 (by decide) w_f_X9_44 dX9_back_60 e1 e2 ?_
          obtain ⟨fs, z9, e1, e2, hv⟩ := hv
          refine j_getfN (k := 5) cl_X0 (by decide) w_fn_X9_214 dX9_back_63 e1 e2 ?_
          obtain ⟨⟨fs, e1⟩, hv⟩ := hv
          refine j_virtual (avs := [.int z9]) (rest := []) (i := r7) (kc' := mc) (ks' := ms) dX9_back_66 mt_X6_limitBattery w_m_X9_220 w_in_X6_limitBattery w_se_X6_limitBattery rfl rfl (Nat.le_of_ble_eq_true rfl) (Nat.le_refl _) (by omega) (by omega) cl_X6.1 e1 hv (fun _ _ q9 => q9) ?_
          rintro _ h10 ⟨rfl, hv⟩ -
          refine j_aload_n dX9_back_69 rfl rfl ?_
          obtain ⟨fs, r11, e1, e2, hv⟩ := hv
          refine j_getf (k := 8) cl_X9 (by decide) w_f_X9_70 dX9_back_70 e1 e2 ?_
          refine j_aload_n dX9_back_73 rfl rfl ?_
          obtain ⟨fs, r12, e1, e2, hv⟩ := hv
          refine j_getfN (k := 1) cl_X3 (by decide) w_fn_X9_326 dX9_back_74 e1 e2 ?_
          obtain ⟨⟨fs, e1⟩, hv⟩ := hv
          refine j_virtual (avs := [.ref r12]) (rest := []) (i := r11) (kc' := mc) (ks' := ms) dX9_back_77 mt_X5_copyFrom w_m_X9_327 w_in_X5_copyFrom w_se_X5_copyFrom rfl rfl (Nat.le_of_ble_eq_true rfl) (Nat.le_refl _) (by omega) (by omega) cl_X5.1 e1 hv (fun _ _ q9 => q9) ?_
          rintro _ h13 ⟨rfl, hv⟩ -
          refine j_aload_n dX9_back_80 rfl rfl ?_
          refine j_iload_n dX9_back_81 rfl rfl ?_
          refine j_iconst (v := (1 : Int32)) dX9_back_82 (by decide) ?_
          refine j_iadd dX9_back_83 ?_
          obtain ⟨fs, e1, e2, hv⟩ := hv
          refine j_put (k := 10) (ty0 := tyX9) cl_X9 (pf_X9_10) w_f_X9_313 dX9_back_84 (fun g ad => q_nI g ad _) e1 e2 ?_
          generalize q_set h13 x0 _ = h14 at hv ⊢
          refine j_aload_n dX9_back_87 rfl rfl ?_
          obtain ⟨fs, r15, e1, e2, hv⟩ := hv
          refine j_getf (k := 6) cl_X9 (by decide) w_f_X9_60 dX9_back_88 e1 e2 ?_
          obtain ⟨fs, z16, e1, e2, hv⟩ := hv
          refine j_getfN (k := 0) cl_X6 (by decide) w_fn_X9_332 dX9_back_91 e1 e2 ?_
          exact j_iret dX9_back_94 rfl hv
      · replace hv := hv.2 hc
        refine j_null dX9_back_18 ?_
        refine j_goto (tgt := 28) dX9_back_19 (by decide) ?_
        refine j_astore_nN dX9_back_28 rfl (by decide) rfl rfl ?_
        refine j_aload_nN dX9_back_29 rfl rfl ?_
        refine j_ifnonnullN dX9_back_30 ?_
        exact j_throwW (text := "no such mark") hl0 rfl xw_IOE w_cl_X9_109 (by decide +kernel) dX9_back_33 dX9_back_36 dX9_back_37 dX9_back_40 dX9_back_43 (by omega) (Nat.le_of_ble_eq_true rfl) (by omega) (by omega) hv
set_option maxRecDepth 20000 in
set_option maxHeartbeats 4000000 in
theorem v_X9_sent {l : Launch} {d mc ms : Nat} {Q : Option Value → qH → Prop} {QX : String → qH → Prop} (x0 : Nat) {h : qH} (hv : qGR h x0 9 6 (fun r1 => qGI h r1 6 8 (fun z2 => qIF (z2 = 0) (Q (some (.double FP.dconst1)) h) (qGR h x0 9 6 (fun r3 => qGI h r3 6 7 (fun z4 => qGR h x0 9 6 (fun r5 => qGI h r5 6 8 (fun z6 => qAN (vf_n64 (FP.ddiv (FP.i2d z4) (FP.i2d z6))) (Q (some (.double (FP.ddiv (FP.i2d z4) (FP.i2d z6)))) h))))))))) : q_Ct l (d + 0) mX9_sent [.ref x0] h mc ms Q QX := by
  refine q_body (by decide ) (by intro v hm; simp only [List.mem_cons, List.not_mem_nil, or_false] at hm; subst hm; rfl) (Nat.le_of_ble_eq_true rfl) ?_
  refine q_KT ?_
  refine k_pad 0 rfl ?_
  refine k_aload_n dX9_sent_0 rfl rfl ?_
  obtain ⟨fs, r1, e1, e2, hv⟩ := hv
  refine k_getf (k := 6) cl_X9 (by decide) w_f_X9_60 dX9_sent_1 e1 e2 ?_
  obtain ⟨fs, z2, e1, e2, hv⟩ := hv
  refine k_getfN (k := 8) cl_X6 (by decide) w_fn_X9_335 dX9_sent_4 e1 e2 ?_
  refine k_if_ne (tgt := 14) dX9_sent_7 (by decide) (fun hc => ?_) (fun hc => ?_)
  · replace hv := hv.2 hc
    refine k_aload_n dX9_sent_14 rfl rfl ?_
    obtain ⟨fs, r3, e1, e2, hv⟩ := hv
    refine k_getf (k := 6) cl_X9 (by decide) w_f_X9_60 dX9_sent_15 e1 e2 ?_
    obtain ⟨fs, z4, e1, e2, hv⟩ := hv
    refine k_getfN (k := 7) cl_X6 (by decide) w_fn_X9_338 dX9_sent_18 e1 e2 ?_
    refine k_i2d dX9_sent_21 ?_
    refine k_aload_n dX9_sent_22 rfl rfl ?_
    obtain ⟨fs, r5, e1, e2, hv⟩ := hv
    refine k_getf (k := 6) cl_X9 (by decide) w_f_X9_60 dX9_sent_23 e1 e2 ?_
    obtain ⟨fs, z6, e1, e2, hv⟩ := hv
    refine k_getfN (k := 8) cl_X6 (by decide) w_fn_X9_335 dX9_sent_26 e1 e2 ?_
    refine k_i2d dX9_sent_29 ?_
    obtain ⟨hz, hv⟩ := hv
    refine k_ddiv dX9_sent_30 hz ?_
    exact k_dret dX9_sent_31 rfl hv
  · replace hv := hv.1 hc
    refine k_dconst1 dX9_sent_10 ?_
    refine k_goto (tgt := 31) dX9_sent_11 (by decide) ?_
    exact k_dret dX9_sent_31 rfl hv
set_option maxRecDepth 20000 in
set_option maxHeartbeats 4000000 in
theorem v_X10_sent {l : Launch} {d mc ms : Nat} {Q : Option Value → qH → Prop} {QX : String → qH → Prop} (x0 : Nat) {h : qH} (hv : qPI h x0 10 0 (0 : Int32) (fun h1 => qGR h1 x0 10 11 (fun r2 => qAL h1 r2 (8 : Int32) (fun z3 => qIF (z3 = 0) (Q (some (.double FP.dconst1)) h1) (qGR h1 x0 10 11 (fun r4 => qAL h1 r4 (7 : Int32) (fun z5 => qGR h1 x0 10 11 (fun r6 => qAL h1 r6 (8 : Int32) (fun z7 => qAN (vf_n64 (FP.ddiv (FP.i2d z5) (FP.i2d z7))) (Q (some (.double (FP.ddiv (FP.i2d z5) (FP.i2d z7)))) h1)))))))))) : q_Ct l (d + 0) mX10_sent [.ref x0] h mc ms Q QX := by
  refine q_body (by decide ) (by intro v hm; simp only [List.mem_cons, List.not_mem_nil, or_false] at hm; subst hm; rfl) (Nat.le_of_ble_eq_true rfl) ?_
  refine q_KT ?_
  refine k_pad 0 rfl ?_
  refine k_aload_n dX10_sent_0 rfl rfl ?_
  refine k_iconst (v := (0 : Int32)) dX10_sent_1 (by decide) ?_
  obtain ⟨fs, e1, e2, hv⟩ := hv
  refine k_put (k := 0) (ty0 := tyX10) cl_X10 (pf_X10_0) w_f_X10_71 dX10_sent_2 (fun g ad => q_nI g ad _) e1 e2 ?_
  generalize q_set h x0 _ = h1 at hv ⊢
  refine k_aload_n dX10_sent_5 rfl rfl ?_
  obtain ⟨fs, r2, e1, e2, hv⟩ := hv
  refine k_getf (k := 11) cl_X10 (by decide) w_f_X10_36 dX10_sent_6 e1 e2 ?_
  refine k_bipush (v := (8 : Int32)) dX10_sent_9 (by decide) ?_
  obtain ⟨N, f, e1, e2, hv⟩ := hv
  refine k_iald dX10_sent_11 e1 e2 ?_
  generalize f _ = z3 at hv ⊢
  refine k_if_ne (tgt := 19) dX10_sent_12 (by decide) (fun hc => ?_) (fun hc => ?_)
  · replace hv := hv.2 hc
    refine k_aload_n dX10_sent_19 rfl rfl ?_
    obtain ⟨fs, r4, e1, e2, hv⟩ := hv
    refine k_getf (k := 11) cl_X10 (by decide) w_f_X10_36 dX10_sent_20 e1 e2 ?_
    refine k_bipush (v := (7 : Int32)) dX10_sent_23 (by decide) ?_
    obtain ⟨N, f, e1, e2, hv⟩ := hv
    refine k_iald dX10_sent_25 e1 e2 ?_
    generalize f _ = z5 at hv ⊢
    refine k_i2d dX10_sent_26 ?_
    refine k_aload_n dX10_sent_27 rfl rfl ?_
    obtain ⟨fs, r6, e1, e2, hv⟩ := hv
    refine k_getf (k := 11) cl_X10 (by decide) w_f_X10_36 dX10_sent_28 e1 e2 ?_
    refine k_bipush (v := (8 : Int32)) dX10_sent_31 (by decide) ?_
    obtain ⟨N, f, e1, e2, hv⟩ := hv
    refine k_iald dX10_sent_33 e1 e2 ?_
    generalize f _ = z7 at hv ⊢
    refine k_i2d dX10_sent_34 ?_
    obtain ⟨hz, hv⟩ := hv
    refine k_ddiv dX10_sent_35 hz ?_
    exact k_dret dX10_sent_36 rfl hv
  · replace hv := hv.1 hc
    refine k_dconst1 dX10_sent_15 ?_
    refine k_goto (tgt := 36) dX10_sent_16 (by decide) ?_
    exact k_dret dX10_sent_36 rfl hv
