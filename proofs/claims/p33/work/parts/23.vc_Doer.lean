set_option maxRecDepth 20000 in
set_option maxHeartbeats 4000000 in
theorem v_X0_lightAt {l : Launch} {d mc ms : Nat} {Q : Option Value → qH → Prop} {QX : String → qH → Prop} (x0 : Int32) {h : qH} (hv : qIF (x0 < (360 : Int32)) (Q (some (.int (0 : Int32))) h) (qIF (x0 < (1080 : Int32)) (qIF ((720 : Int32) ≤ x0) (Q (some (.int ((1080 : Int32) - x0))) h) (Q (some (.int (x0 - (360 : Int32)))) h)) (Q (some (.int (0 : Int32))) h))) : q_Ct l (d + 0) mX0_lightAt [.int x0] h mc ms Q QX := by
  refine q_body (by decide ) (by intro v hm; simp only [List.mem_cons, List.not_mem_nil, or_false] at hm; subst hm; rfl) (Nat.le_of_ble_eq_true rfl) ?_
  refine j_pad 0 rfl ?_
  refine j_iload_n dX0_lightAt_0 rfl rfl ?_
  refine j_sipush (v := (360 : Int32)) dX0_lightAt_1 (by decide) ?_
  refine j_icmp_lt (tgt := 14) dX0_lightAt_4 (by decide) (fun hc => ?_) (fun hc => ?_)
  · replace hv := hv.1 hc
    refine j_iconst (v := (0 : Int32)) dX0_lightAt_14 (by decide) ?_
    exact j_iret dX0_lightAt_15 rfl hv
  · replace hv := hv.2 hc
    refine j_iload_n dX0_lightAt_7 rfl rfl ?_
    refine j_sipush (v := (1080 : Int32)) dX0_lightAt_8 (by decide) ?_
    refine j_icmp_lt (tgt := 16) dX0_lightAt_11 (by decide) (fun hc => ?_) (fun hc => ?_)
    · replace hv := hv.1 hc
      refine j_iload_n dX0_lightAt_16 rfl rfl ?_
      refine j_sipush (v := (720 : Int32)) dX0_lightAt_17 (by decide) ?_
      refine j_icmp_ge (tgt := 31) dX0_lightAt_20 (by decide) (fun hc => ?_) (fun hc => ?_)
      · replace hv := hv.1 hc
        refine j_sipush (v := (1080 : Int32)) dX0_lightAt_31 (by decide) ?_
        refine j_iload_n dX0_lightAt_34 rfl rfl ?_
        refine j_isub dX0_lightAt_35 ?_
        exact j_iret dX0_lightAt_36 rfl hv
      · replace hv := hv.2 hc
        refine j_iload_n dX0_lightAt_23 rfl rfl ?_
        refine j_sipush (v := (360 : Int32)) dX0_lightAt_24 (by decide) ?_
        refine j_isub dX0_lightAt_27 ?_
        refine j_goto (tgt := 36) dX0_lightAt_28 (by decide) ?_
        exact j_iret dX0_lightAt_36 rfl hv
    · replace hv := hv.2 hc
      refine j_iconst (v := (0 : Int32)) dX0_lightAt_14 (by decide) ?_
      exact j_iret dX0_lightAt_15 rfl hv
set_option maxRecDepth 20000 in
set_option maxHeartbeats 4000000 in
theorem v_X0_airBy {l : Launch} {d mc ms : Nat} {Q : Option Value → qH → Prop} {QX : String → qH → Prop} (x0 : Int32) {h : qH} (hv : Q (some (.int ((-70 : Int32) + (x0 / (6 : Int32))))) h) : q_Ct l (d + 0) mX0_airBy [.int x0] h mc ms Q QX := by
  refine q_body (by decide ) (by intro v hm; simp only [List.mem_cons, List.not_mem_nil, or_false] at hm; subst hm; rfl) (Nat.le_of_ble_eq_true rfl) ?_
  refine j_pad 0 rfl ?_
  refine j_bipush (v := (-70 : Int32)) dX0_airBy_0 (by decide) ?_
  refine j_iload_n dX0_airBy_2 rfl rfl ?_
  refine j_bipush (v := (6 : Int32)) dX0_airBy_3 (by decide) ?_
  refine j_idiv dX0_airBy_5 (by decide) ?_
  refine j_iadd dX0_airBy_6 ?_
  exact j_iret dX0_airBy_7 rfl hv
set_option maxRecDepth 20000 in
set_option maxHeartbeats 4000000 in
theorem v_X0_powerBy {l : Launch} {d mc ms : Nat} {Q : Option Value → qH → Prop} {QX : String → qH → Prop} (x0 : Int32) (x1 : Int32) {h : qH} (hv : Q (some (.int ((x0 * x1) / (3600 : Int32)))) h) : q_Ct l (d + 0) mX0_powerBy [.int x0, .int x1] h mc ms Q QX := by
  refine q_body (by decide ) (by intro v hm; simp only [List.mem_cons, List.not_mem_nil, or_false] at hm; rcases hm with rfl | rfl <;> rfl) (Nat.le_of_ble_eq_true rfl) ?_
  refine j_pad 0 rfl ?_
  refine j_iload_n dX0_powerBy_0 rfl rfl ?_
  refine j_iload_n dX0_powerBy_1 rfl rfl ?_
  refine j_imul dX0_powerBy_2 ?_
  refine j_sipush (v := (3600 : Int32)) dX0_powerBy_3 (by decide) ?_
  refine j_idiv dX0_powerBy_6 (by decide) ?_
  exact j_iret dX0_powerBy_7 rfl hv
set_option maxRecDepth 20000 in
set_option maxHeartbeats 4000000 in
theorem v_X0_performAll_8 {l : Launch} {d mc ms n0 kc ks : Nat} {Q : Option Value → qH → Prop} {QX : String → qH → Prop} (x0 : Nat) (x1 : Nat) (x2 : Nat) (x3 : Int32) (x4 : Int32) {h : qH} (hv : qIF (x3 ≤ x4) (qGI h x2 5 3 (fun z1 => Q (some (.int (if z1 < x3 then z1 else x3))) h)) (qOB h x2 5 (qCI l (d + 4) mX5_has [.ref x2, .int x4] h 0 0 (fun z4 h3 => qIF (z4 = 0) (qGI h3 x2 5 3 (fun z5 => Q (some (.int (if z5 < x3 then z5 else x3))) h3)) (qOB h3 x2 5 (qCI l (d + 4) mX5_tell [.ref x2, .int x4, .int (0 : Int32)] h3 0 0 (fun z8 h7 => qOB h7 x2 5 (qCI l (d + 4) mX5_tell [.ref x2, .int x4, .int (1 : Int32)] h7 0 0 (fun z10 h9 => qOB h9 x2 5 (qCI l (d + 4) mX5_tell [.ref x2, .int x4, .int (2 : Int32)] h9 0 0 (fun z12 h11 => qOB h11 x0 0 (qCI l (d + 4) mX0_perform [.ref x0, .ref x1, .int z8, .int z10, .int z12] h11 0 0 (fun z14 h13 => qPI h13 x0 0 7 z14 (fun h15 => qGI h15 x0 0 7 (fun z16 => qIF (z16 = 0) (q_J l (d + 5) mX0_performAll mc ms Q QX n0 8 [some (.ref x0), some (.ref x1), some (.ref x2), some (.int x3), some (.int (x4 + (1 : Int32)))] [] h15 kc ks) (Q (some (.int x4)) h15)))))))))))))))) : q_J l (d + 5) mX0_performAll mc ms Q QX n0 8 [some (.ref x0), some (.ref x1), some (.ref x2), some (.int x3), some (.int x4)] [] h kc ks := by
  refine j_iload dX0_performAll_8 rfl ?_
  refine j_iload_n dX0_performAll_10 rfl rfl ?_
  refine j_icmp_ge (tgt := 69) dX0_performAll_11 (by decide) (fun hc => ?_) (fun hc => ?_)
  · replace hv := hv.1 hc
    refine j_iload_n dX0_performAll_69 rfl rfl ?_
    refine j_aload_n dX0_performAll_70 rfl rfl ?_
    obtain ⟨fs, z1, e1, e2, hv⟩ := hv
    refine j_getfN (k := 3) cl_X5 (by decide) w_fn_X0_58 dX0_performAll_71 e1 e2 ?_
    refine j_mmin dX0_performAll_74 w_m_X0_61 w_st_min w_ini_Math w_co_min (Nat.le_of_ble_eq_true rfl) (by omega) ?_
    exact j_iret dX0_performAll_77 rfl hv
  · replace hv := hv.2 hc
    refine j_aload_n dX0_performAll_14 rfl rfl ?_
    refine j_iload dX0_performAll_15 rfl ?_
    obtain ⟨⟨fs, e1⟩, hv⟩ := hv
    refine j_virtual (avs := [.int x4]) (rest := []) (i := x2) (kc' := kc) (ks' := ks) dX0_performAll_17 mt_X5_has w_m_X0_44 w_in_X5_has w_se_X5_has rfl rfl (Nat.le_of_ble_eq_true rfl) (Nat.le_refl _) (by omega) (by omega) cl_X5.1 e1 hv (fun _ _ q9 => q9) ?_
    rintro _ h3 ⟨z4, rfl, hv⟩ -
    refine j_if_eq (tgt := 69) dX0_performAll_20 (by decide) (fun hc => ?_) (fun hc => ?_)
    · replace hv := hv.1 hc
      refine j_iload_n dX0_performAll_69 rfl rfl ?_
      refine j_aload_n dX0_performAll_70 rfl rfl ?_
      obtain ⟨fs, z5, e1, e2, hv⟩ := hv
      refine j_getfN (k := 3) cl_X5 (by decide) w_fn_X0_58 dX0_performAll_71 e1 e2 ?_
      refine j_mmin dX0_performAll_74 w_m_X0_61 w_st_min w_ini_Math w_co_min (Nat.le_of_ble_eq_true rfl) (by omega) ?_
      exact j_iret dX0_performAll_77 rfl hv
    · replace hv := hv.2 hc
      refine j_aload_n dX0_performAll_23 rfl rfl ?_
      refine j_aload_n dX0_performAll_24 rfl rfl ?_
      refine j_aload_n dX0_performAll_25 rfl rfl ?_
      refine j_aload_n dX0_performAll_26 rfl rfl ?_
      refine j_iload dX0_performAll_27 rfl ?_
      refine j_iconst (v := (0 : Int32)) dX0_performAll_29 (by decide) ?_
      obtain ⟨⟨fs, e1⟩, hv⟩ := hv
      refine j_virtual (avs := [.int x4, .int (0 : Int32)]) (rest := [.ref x1, .ref x0, .ref x0]) (i := x2) (kc' := kc) (ks' := ks) dX0_performAll_30 mt_X5_tell w_m_X0_50 w_in_X5_tell w_se_X5_tell rfl rfl (Nat.le_of_ble_eq_true rfl) (Nat.le_refl _) (by omega) (by omega) cl_X5.1 e1 hv (fun _ _ q9 => q9) ?_
      rintro _ h7 ⟨z8, rfl, hv⟩ -
      refine j_aload_n dX0_performAll_33 rfl rfl ?_
      refine j_iload dX0_performAll_34 rfl ?_
      refine j_iconst (v := (1 : Int32)) dX0_performAll_36 (by decide) ?_
      obtain ⟨⟨fs, e1⟩, hv⟩ := hv
      refine j_virtual (avs := [.int x4, .int (1 : Int32)]) (rest := [.int z8, .ref x1, .ref x0, .ref x0]) (i := x2) (kc' := kc) (ks' := ks) dX0_performAll_37 mt_X5_tell w_m_X0_50 w_in_X5_tell w_se_X5_tell rfl rfl (Nat.le_of_ble_eq_true rfl) (Nat.le_refl _) (by omega) (by omega) cl_X5.1 e1 hv (fun _ _ q9 => q9) ?_
      rintro _ h9 ⟨z10, rfl, hv⟩ -
      refine j_aload_n dX0_performAll_40 rfl rfl ?_
      refine j_iload dX0_performAll_41 rfl ?_
      refine j_iconst (v := (2 : Int32)) dX0_performAll_43 (by decide) ?_
      obtain ⟨⟨fs, e1⟩, hv⟩ := hv
      refine j_virtual (avs := [.int x4, .int (2 : Int32)]) (rest := [.int z10, .int z8, .ref x1, .ref x0, .ref x0]) (i := x2) (kc' := kc) (ks' := ks) dX0_performAll_44 mt_X5_tell w_m_X0_50 w_in_X5_tell w_se_X5_tell rfl rfl (Nat.le_of_ble_eq_true rfl) (Nat.le_refl _) (by omega) (by omega) cl_X5.1 e1 hv (fun _ _ q9 => q9) ?_
      rintro _ h11 ⟨z12, rfl, hv⟩ -
      obtain ⟨⟨fs, e1⟩, hv⟩ := hv
      refine j_virtual (avs := [.ref x1, .int z8, .int z10, .int z12]) (rest := [.ref x0]) (i := x0) (kc' := kc) (ks' := ks) dX0_performAll_47 mt_X0_perform w_m_X0_54 w_in_X0_perform w_se_X0_perform rfl rfl (Nat.le_of_ble_eq_true rfl) (Nat.le_refl _) (by omega) (by omega) cl_X0.1 e1 hv (fun _ _ q9 => q9) ?_
      rintro _ h13 ⟨z14, rfl, hv⟩ -
      obtain ⟨fs, e1, e2, hv⟩ := hv
      refine j_put (k := 7) (ty0 := tyX0) cl_X0 (pf_X0_7) w_f_X0_25 dX0_performAll_50 (fun g ad => q_nI g ad _) e1 e2 ?_
      generalize q_set h13 x0 _ = h15 at hv ⊢
      refine j_aload_n dX0_performAll_53 rfl rfl ?_
      obtain ⟨fs, z16, e1, e2, hv⟩ := hv
      refine j_getf (k := 7) cl_X0 (by decide) w_f_X0_25 dX0_performAll_54 e1 e2 ?_
      refine j_if_eq (tgt := 63) dX0_performAll_57 (by decide) (fun hc => ?_) (fun hc => ?_)
      · replace hv := hv.1 hc
        refine j_iinc (w := (x4 + (1 : Int32))) dX0_performAll_63 rfl (by rfl) (by decide) rfl rfl ?_
        refine j_goto (tgt := 8) dX0_performAll_66 (by decide) ?_
        exact hv
      · replace hv := hv.2 hc
        refine j_iload dX0_performAll_60 rfl ?_
        exact j_iret dX0_performAll_62 rfl hv
set_option maxRecDepth 20000 in
set_option maxHeartbeats 4000000 in
theorem v_X0_performAll {l : Launch} {d mc ms : Nat} {Q : Option Value → qH → Prop} {QX : String → qH → Prop} (x0 : Nat) (x1 : Nat) (x2 : Nat) (x3 : Int32) {h : qH} (hv : qPI h x0 0 7 (0 : Int32) (fun h1 => q_J l (d + 5) mX0_performAll mc ms Q QX h.2 8 [some (.ref x0), some (.ref x1), some (.ref x2), some (.int x3), some (.int (0 : Int32))] [] h1 mc ms)) : q_Ct l (d + 5) mX0_performAll [.ref x0, .ref x1, .ref x2, .int x3] h mc ms Q QX := by
  refine q_body (by decide ) (by intro v hm; simp only [List.mem_cons, List.not_mem_nil, or_false] at hm; rcases hm with rfl | rfl | rfl | rfl <;> rfl) (Nat.le_of_ble_eq_true rfl) ?_
  refine j_pad 1 rfl ?_
  refine j_aload_n dX0_performAll_0 rfl rfl ?_
  refine j_iconst (v := (0 : Int32)) dX0_performAll_1 (by decide) ?_
  obtain ⟨fs, e1, e2, hv⟩ := hv
  refine j_put (k := 7) (ty0 := tyX0) cl_X0 (pf_X0_7) w_f_X0_25 dX0_performAll_2 (fun g ad => q_nI g ad _) e1 e2 ?_
  generalize q_set h x0 _ = h1 at hv ⊢
  refine j_iconst (v := (0 : Int32)) dX0_performAll_5 (by decide) ?_
  refine j_istore dX0_performAll_6 (by decide) rfl rfl ?_
  exact hv
set_option maxRecDepth 20000 in
set_option maxHeartbeats 4000000 in
theorem v_X0_perform_141 {l : Launch} {d mc ms n0 kc ks : Nat} {Q : Option Value → qH → Prop} {QX : String → qH → Prop} (x0 : Nat) (x1 : Nat) (x2 : Int32) (x3 : Int32) (x4 : Int32) (x5 : Int32) (y0 : Nat) (y1 : Int32) {h : qH} (hv : qPZ h y0 6 6 y1 (fun h1 => qIF (x5 = 0) (Q (some (.int x5)) h1) (qGR h1 x0 0 4 (fun r2 => qOB h1 x1 6 (qCV l (d + 3) mX6_copyFrom [.ref x1, .ref r2] h1 0 0 (fun h3 => Q (some (.int x5)) h3)))))) : q_J l (d + 4) mX0_perform mc ms Q QX n0 141 [some (.ref x0), some (.ref x1), some (.int x2), some (.int x3), some (.int x4), some (.int x5)] [.int y1, .ref y0] h kc ks := by
  obtain ⟨hz, fs, e1, e2, hv⟩ := hv
  refine j_putN (k := 6) (ty0 := tyX6) cl_X6 (pf_X6_6) w_fn_X0_88 dX0_perform_141 (fun g ad => q_nZ g ad hz) e1 e2 ?_
  generalize q_set h y0 _ = h1 at hv ⊢
  refine j_goto (tgt := 154) dX0_perform_144 (by decide) ?_
  refine j_iload dX0_perform_154 rfl ?_
  refine j_if_eq (tgt := 167) dX0_perform_156 (by decide) (fun hc => ?_) (fun hc => ?_)
  · replace hv := hv.1 hc
    refine j_iload dX0_perform_167 rfl ?_
    exact j_iret dX0_perform_169 rfl hv
  · replace hv := hv.2 hc
    refine j_aload_n dX0_perform_159 rfl rfl ?_
    refine j_aload_n dX0_perform_160 rfl rfl ?_
    obtain ⟨fs, r2, e1, e2, hv⟩ := hv
    refine j_getf (k := 4) cl_X0 (by decide) w_f_X0_12 dX0_perform_161 e1 e2 ?_
    obtain ⟨⟨fs, e1⟩, hv⟩ := hv
    refine j_virtual (avs := [.ref r2]) (rest := []) (i := x1) (kc' := kc) (ks' := ks) dX0_perform_164 mt_X6_copyFrom w_m_X0_66 w_in_X6_copyFrom w_se_X6_copyFrom rfl rfl (Nat.le_of_ble_eq_true rfl) (Nat.le_refl _) (by omega) (by omega) cl_X6.1 e1 hv (fun _ _ q9 => q9) ?_
    rintro _ h3 ⟨rfl, hv⟩ -
    refine j_iload dX0_perform_167 rfl ?_
    exact j_iret dX0_perform_169 rfl hv
set_option maxRecDepth 20000 in
set_option maxHeartbeats 4000000 in
theorem v_X0_perform {l : Launch} {d mc ms : Nat} {Q : Option Value → qH → Prop} {QX : String → qH → Prop} (x0 : Nat) (x1 : Nat) (x2 : Int32) (x3 : Int32) (x4 : Int32) {h : qH} (hv : qGR h x0 0 4 (fun r1 => qOB h r1 6 (qCV l (d + 3) mX6_copyFrom [.ref r1, .ref x1] h 0 0 (fun h2 => qIF (x2 = (0 : Int32)) (qOB h2 x0 0 (qCI l (d + 3) mX0_drive [.ref x0, .ref x1, .int x3, .int x4] h2 0 0 (fun z4 h3 => qIF (z4 = 0) (Q (some (.int z4)) h3) (qGR h3 x0 0 4 (fun r5 => qOB h3 x1 6 (qCV l (d + 3) mX6_copyFrom [.ref x1, .ref r5] h3 0 0 (fun h6 => Q (some (.int z4)) h6))))))) (qIF (x2 = (1 : Int32)) (qOB h2 x0 0 (qCI l (d + 3) mX0_takeImage [.ref x0, .ref x1, .int x3, .int x4] h2 0 0 (fun z8 h7 => qIF (z8 = 0) (Q (some (.int z8)) h7) (qGR h7 x0 0 4 (fun r9 => qOB h7 x1 6 (qCV l (d + 3) mX6_copyFrom [.ref x1, .ref r9] h7 0 0 (fun h10 => Q (some (.int z8)) h10))))))) (qIF (x2 = (2 : Int32)) (qOB h2 x0 0 (qCI l (d + 3) mX0_takeTouch [.ref x0, .ref x1, .int x3, .int x4] h2 0 0 (fun z12 h11 => qIF (z12 = 0) (Q (some (.int z12)) h11) (qGR h11 x0 0 4 (fun r13 => qOB h11 x1 6 (qCV l (d + 3) mX6_copyFrom [.ref x1, .ref r13] h11 0 0 (fun h14 => Q (some (.int z12)) h14))))))) (qIF (x2 = (3 : Int32)) (qOB h2 x0 0 (qCI l (d + 3) mX0_transmit [.ref x0, .ref x1, .int x3] h2 0 0 (fun z16 h15 => qIF (z16 = 0) (Q (some (.int z16)) h15) (qGR h15 x0 0 4 (fun r17 => qOB h15 x1 6 (qCV l (d + 3) mX6_copyFrom [.ref x1, .ref r17] h15 0 0 (fun h18 => Q (some (.int z16)) h18))))))) (qIF (x2 = (4 : Int32)) (qOB h2 x0 0 (qCI l (d + 3) mX0_rest [.ref x0, .ref x1, .int x3, .int (1 : Int32)] h2 0 0 (fun z20 h19 => qIF (z20 = 0) (Q (some (.int z20)) h19) (qGR h19 x0 0 4 (fun r21 => qOB h19 x1 6 (qCV l (d + 3) mX6_copyFrom [.ref x1, .ref r21] h19 0 0 (fun h22 => Q (some (.int z20)) h22))))))) (qIF (x2 = (5 : Int32)) (qOB h2 x0 0 (qCI l (d + 3) mX0_rest [.ref x0, .ref x1, .int x3, .int (0 : Int32)] h2 0 0 (fun z24 h23 => qIF (z24 = 0) (Q (some (.int z24)) h23) (qGR h23 x0 0 4 (fun r25 => qOB h23 x1 6 (qCV l (d + 3) mX6_copyFrom [.ref x1, .ref r25] h23 0 0 (fun h26 => Q (some (.int z24)) h26))))))) (qIF (x2 = (6 : Int32)) (qIF (x3 = (1 : Int32)) (q_J l (d + 4) mX0_perform mc ms Q QX h.2 141 [some (.ref x0), some (.ref x1), some (.int x2), some (.int x3), some (.int x4), some (.int (0 : Int32))] [.int (1 : Int32), .ref x1] h2 mc ms) (q_J l (d + 4) mX0_perform mc ms Q QX h.2 141 [some (.ref x0), some (.ref x1), some (.int x2), some (.int x3), some (.int x4), some (.int (0 : Int32))] [.int (0 : Int32), .ref x1] h2 mc ms)) (qOB h2 x0 0 (qCI l (d + 3) mX0_clean [.ref x0, .ref x1] h2 0 0 (fun z28 h27 => qIF (z28 = 0) (Q (some (.int z28)) h27) (qGR h27 x0 0 4 (fun r29 => qOB h27 x1 6 (qCV l (d + 3) mX6_copyFrom [.ref x1, .ref r29] h27 0 0 (fun h30 => Q (some (.int z28)) h30))))))))))))))))) : q_Ct l (d + 4) mX0_perform [.ref x0, .ref x1, .int x2, .int x3, .int x4] h mc ms Q QX := by
  refine q_body (by decide ) (by intro v hm; simp only [List.mem_cons, List.not_mem_nil, or_false] at hm; rcases hm with rfl | rfl | rfl | rfl | rfl <;> rfl) (Nat.le_of_ble_eq_true rfl) ?_
  refine j_pad 1 rfl ?_
  refine j_aload_n dX0_perform_0 rfl rfl ?_
  obtain ⟨fs, r1, e1, e2, hv⟩ := hv
  refine j_getf (k := 4) cl_X0 (by decide) w_f_X0_12 dX0_perform_1 e1 e2 ?_
  refine j_aload_n dX0_perform_4 rfl rfl ?_
  obtain ⟨⟨fs, e1⟩, hv⟩ := hv
  refine j_virtual (avs := [.ref x1]) (rest := []) (i := r1) (kc' := mc) (ks' := ms) dX0_perform_5 mt_X6_copyFrom w_m_X0_66 w_in_X6_copyFrom w_se_X6_copyFrom rfl rfl (Nat.le_of_ble_eq_true rfl) (Nat.le_refl _) (by omega) (by omega) cl_X6.1 e1 hv (fun _ _ q9 => q9) ?_
  rintro _ h2 ⟨rfl, hv⟩ -
  refine j_iconst (v := (0 : Int32)) dX0_perform_8 (by decide) ?_
  refine j_istore dX0_perform_9 (by decide) rfl rfl ?_
  refine j_iload_n dX0_perform_11 rfl rfl ?_
  by_cases hc0 : x2 = (0 : Int32)
  · replace hv := hv.1 hc0
    refine j_tableIn (tgt := 56) (off := 44) dX0_perform_12 (by rw [hc0]; decide) (by rw [hc0]; decide) (by rw [hc0]; decide) (by decide) ?_
    refine j_aload_n dX0_perform_56 rfl rfl ?_
    refine j_aload_n dX0_perform_57 rfl rfl ?_
    refine j_iload_n dX0_perform_58 rfl rfl ?_
    refine j_iload dX0_perform_59 rfl ?_
    obtain ⟨⟨fs, e1⟩, hv⟩ := hv
    refine j_virtual (avs := [.ref x1, .int x3, .int x4]) (rest := []) (i := x0) (kc' := mc) (ks' := ms) dX0_perform_61 mt_X0_drive w_m_X0_70 w_in_X0_drive w_se_X0_drive rfl rfl (Nat.le_of_ble_eq_true rfl) (Nat.le_refl _) (by omega) (by omega) cl_X0.1 e1 hv (fun _ _ q9 => q9) ?_
    rintro _ h3 ⟨z4, rfl, hv⟩ -
    refine j_istore dX0_perform_64 (by decide) rfl rfl ?_
    refine j_goto (tgt := 154) dX0_perform_66 (by decide) ?_
    refine j_iload dX0_perform_154 rfl ?_
    refine j_if_eq (tgt := 167) dX0_perform_156 (by decide) (fun hc => ?_) (fun hc => ?_)
    · replace hv := hv.1 hc
      refine j_iload dX0_perform_167 rfl ?_
      exact j_iret dX0_perform_169 rfl hv
    · replace hv := hv.2 hc
      refine j_aload_n dX0_perform_159 rfl rfl ?_
      refine j_aload_n dX0_perform_160 rfl rfl ?_
      obtain ⟨fs, r5, e1, e2, hv⟩ := hv
      refine j_getf (k := 4) cl_X0 (by decide) w_f_X0_12 dX0_perform_161 e1 e2 ?_
      obtain ⟨⟨fs, e1⟩, hv⟩ := hv
      refine j_virtual (avs := [.ref r5]) (rest := []) (i := x1) (kc' := mc) (ks' := ms) dX0_perform_164 mt_X6_copyFrom w_m_X0_66 w_in_X6_copyFrom w_se_X6_copyFrom rfl rfl (Nat.le_of_ble_eq_true rfl) (Nat.le_refl _) (by omega) (by omega) cl_X6.1 e1 hv (fun _ _ q9 => q9) ?_
      rintro _ h6 ⟨rfl, hv⟩ -
      refine j_iload dX0_perform_167 rfl ?_
      exact j_iret dX0_perform_169 rfl hv
  · replace hv := hv.2 hc0
    by_cases hc1 : x2 = (1 : Int32)
    · replace hv := hv.1 hc1
      refine j_tableIn (tgt := 69) (off := 57) dX0_perform_12 (by rw [hc1]; decide) (by rw [hc1]; decide) (by rw [hc1]; decide) (by decide) ?_
      refine j_aload_n dX0_perform_69 rfl rfl ?_
      refine j_aload_n dX0_perform_70 rfl rfl ?_
      refine j_iload_n dX0_perform_71 rfl rfl ?_
      refine j_iload dX0_perform_72 rfl ?_
      obtain ⟨⟨fs, e1⟩, hv⟩ := hv
      refine j_virtual (avs := [.ref x1, .int x3, .int x4]) (rest := []) (i := x0) (kc' := mc) (ks' := ms) dX0_perform_74 mt_X0_takeImage w_m_X0_74 w_in_X0_takeImage w_se_X0_takeImage rfl rfl (Nat.le_of_ble_eq_true rfl) (Nat.le_refl _) (by omega) (by omega) cl_X0.1 e1 hv (fun _ _ q9 => q9) ?_
      rintro _ h7 ⟨z8, rfl, hv⟩ -
      refine j_istore dX0_perform_77 (by decide) rfl rfl ?_
      refine j_goto (tgt := 154) dX0_perform_79 (by decide) ?_
      refine j_iload dX0_perform_154 rfl ?_
      refine j_if_eq (tgt := 167) dX0_perform_156 (by decide) (fun hc => ?_) (fun hc => ?_)
      · replace hv := hv.1 hc
        refine j_iload dX0_perform_167 rfl ?_
        exact j_iret dX0_perform_169 rfl hv
      · replace hv := hv.2 hc
        refine j_aload_n dX0_perform_159 rfl rfl ?_
        refine j_aload_n dX0_perform_160 rfl rfl ?_
        obtain ⟨fs, r9, e1, e2, hv⟩ := hv
        refine j_getf (k := 4) cl_X0 (by decide) w_f_X0_12 dX0_perform_161 e1 e2 ?_
        obtain ⟨⟨fs, e1⟩, hv⟩ := hv
        refine j_virtual (avs := [.ref r9]) (rest := []) (i := x1) (kc' := mc) (ks' := ms) dX0_perform_164 mt_X6_copyFrom w_m_X0_66 w_in_X6_copyFrom w_se_X6_copyFrom rfl rfl (Nat.le_of_ble_eq_true rfl) (Nat.le_refl _) (by omega) (by omega) cl_X6.1 e1 hv (fun _ _ q9 => q9) ?_
        rintro _ h10 ⟨rfl, hv⟩ -
        refine j_iload dX0_perform_167 rfl ?_
        exact j_iret dX0_perform_169 rfl hv
    · replace hv := hv.2 hc1
      by_cases hc2 : x2 = (2 : Int32)
      · replace hv := hv.1 hc2
        refine j_tableIn (tgt := 82) (off := 70) dX0_perform_12 (by rw [hc2]; decide) (by rw [hc2]; decide) (by rw [hc2]; decide) (by decide) ?_
        refine j_aload_n dX0_perform_82 rfl rfl ?_
        refine j_aload_n dX0_perform_83 rfl rfl ?_
        refine j_iload_n dX0_perform_84 rfl rfl ?_
        refine j_iload dX0_perform_85 rfl ?_
        obtain ⟨⟨fs, e1⟩, hv⟩ := hv
        refine j_virtual (avs := [.ref x1, .int x3, .int x4]) (rest := []) (i := x0) (kc' := mc) (ks' := ms) dX0_perform_87 mt_X0_takeTouch w_m_X0_77 w_in_X0_takeTouch w_se_X0_takeTouch rfl rfl (Nat.le_of_ble_eq_true rfl) (Nat.le_refl _) (by omega) (by omega) cl_X0.1 e1 hv (fun _ _ q9 => q9) ?_
        rintro _ h11 ⟨z12, rfl, hv⟩ -
        refine j_istore dX0_perform_90 (by decide) rfl rfl ?_
        refine j_goto (tgt := 154) dX0_perform_92 (by decide) ?_
        refine j_iload dX0_perform_154 rfl ?_
        refine j_if_eq (tgt := 167) dX0_perform_156 (by decide) (fun hc => ?_) (fun hc => ?_)
        · replace hv := hv.1 hc
          refine j_iload dX0_perform_167 rfl ?_
          exact j_iret dX0_perform_169 rfl hv
        · replace hv := hv.2 hc
          refine j_aload_n dX0_perform_159 rfl rfl ?_
          refine j_aload_n dX0_perform_160 rfl rfl ?_
          obtain ⟨fs, r13, e1, e2, hv⟩ := hv
          refine j_getf (k := 4) cl_X0 (by decide) w_f_X0_12 dX0_perform_161 e1 e2 ?_
          obtain ⟨⟨fs, e1⟩, hv⟩ := hv
          refine j_virtual (avs := [.ref r13]) (rest := []) (i := x1) (kc' := mc) (ks' := ms) dX0_perform_164 mt_X6_copyFrom w_m_X0_66 w_in_X6_copyFrom w_se_X6_copyFrom rfl rfl (Nat.le_of_ble_eq_true rfl) (Nat.le_refl _) (by omega) (by omega) cl_X6.1 e1 hv (fun _ _ q9 => q9) ?_
          rintro _ h14 ⟨rfl, hv⟩ -
          refine j_iload dX0_perform_167 rfl ?_
          exact j_iret dX0_perform_169 rfl hv
      · replace hv := hv.2 hc2
        by_cases hc3 : x2 = (3 : Int32)
        · replace hv := hv.1 hc3
          refine j_tableIn (tgt := 95) (off := 83) dX0_perform_12 (by rw [hc3]; decide) (by rw [hc3]; decide) (by rw [hc3]; decide) (by decide) ?_
          refine j_aload_n dX0_perform_95 rfl rfl ?_
          refine j_aload_n dX0_perform_96 rfl rfl ?_
          refine j_iload_n dX0_perform_97 rfl rfl ?_
          obtain ⟨⟨fs, e1⟩, hv⟩ := hv
          refine j_virtual (avs := [.ref x1, .int x3]) (rest := []) (i := x0) (kc' := mc) (ks' := ms) dX0_perform_98 mt_X0_transmit w_m_X0_80 w_in_X0_transmit w_se_X0_transmit rfl rfl (Nat.le_of_ble_eq_true rfl) (Nat.le_refl _) (by omega) (by omega) cl_X0.1 e1 hv (fun _ _ q9 => q9) ?_
          rintro _ h15 ⟨z16, rfl, hv⟩ -
          refine j_istore dX0_perform_101 (by decide) rfl rfl ?_
          refine j_goto (tgt := 154) dX0_perform_103 (by decide) ?_
          refine j_iload dX0_perform_154 rfl ?_
          refine j_if_eq (tgt := 167) dX0_perform_156 (by decide) (fun hc => ?_) (fun hc => ?_)
          · replace hv := hv.1 hc
            refine j_iload dX0_perform_167 rfl ?_
            exact j_iret dX0_perform_169 rfl hv
          · replace hv := hv.2 hc
            refine j_aload_n dX0_perform_159 rfl rfl ?_
            refine j_aload_n dX0_perform_160 rfl rfl ?_
            obtain ⟨fs, r17, e1, e2, hv⟩ := hv
            refine j_getf (k := 4) cl_X0 (by decide) w_f_X0_12 dX0_perform_161 e1 e2 ?_
            obtain ⟨⟨fs, e1⟩, hv⟩ := hv
            refine j_virtual (avs := [.ref r17]) (rest := []) (i := x1) (kc' := mc) (ks' := ms) dX0_perform_164 mt_X6_copyFrom w_m_X0_66 w_in_X6_copyFrom w_se_X6_copyFrom rfl rfl (Nat.le_of_ble_eq_true rfl) (Nat.le_refl _) (by omega) (by omega) cl_X6.1 e1 hv (fun _ _ q9 => q9) ?_
            rintro _ h18 ⟨rfl, hv⟩ -
            refine j_iload dX0_perform_167 rfl ?_
            exact j_iret dX0_perform_169 rfl hv
        · replace hv := hv.2 hc3
          by_cases hc4 : x2 = (4 : Int32)
          · replace hv := hv.1 hc4
            refine j_tableIn (tgt := 106) (off := 94) dX0_perform_12 (by rw [hc4]; decide) (by rw [hc4]; decide) (by rw [hc4]; decide) (by decide) ?_
            refine j_aload_n dX0_perform_106 rfl rfl ?_
            refine j_aload_n dX0_perform_107 rfl rfl ?_
            refine j_iload_n dX0_perform_108 rfl rfl ?_
            refine j_iconst (v := (1 : Int32)) dX0_perform_109 (by decide) ?_
            obtain ⟨⟨fs, e1⟩, hv⟩ := hv
            refine j_virtual (avs := [.ref x1, .int x3, .int (1 : Int32)]) (rest := []) (i := x0) (kc' := mc) (ks' := ms) dX0_perform_110 mt_X0_rest w_m_X0_84 w_in_X0_rest w_se_X0_rest rfl rfl (Nat.le_of_ble_eq_true rfl) (Nat.le_refl _) (by omega) (by omega) cl_X0.1 e1 hv (fun _ _ q9 => q9) ?_
            rintro _ h19 ⟨z20, rfl, hv⟩ -
            refine j_istore dX0_perform_113 (by decide) rfl rfl ?_
            refine j_goto (tgt := 154) dX0_perform_115 (by decide) ?_
            refine j_iload dX0_perform_154 rfl ?_
            refine j_if_eq (tgt := 167) dX0_perform_156 (by decide) (fun hc => ?_) (fun hc => ?_)
            · replace hv := hv.1 hc
              refine j_iload dX0_perform_167 rfl ?_
              exact j_iret dX0_perform_169 rfl hv
            · replace hv := hv.2 hc
              refine j_aload_n dX0_perform_159 rfl rfl ?_
              refine j_aload_n dX0_perform_160 rfl rfl ?_
              obtain ⟨fs, r21, e1, e2, hv⟩ := hv
              refine j_getf (k := 4) cl_X0 (by decide) w_f_X0_12 dX0_perform_161 e1 e2 ?_
              obtain ⟨⟨fs, e1⟩, hv⟩ := hv
              refine j_virtual (avs := [.ref r21]) (rest := []) (i := x1) (kc' := mc) (ks' := ms) dX0_perform_164 mt_X6_copyFrom w_m_X0_66 w_in_X6_copyFrom w_se_X6_copyFrom rfl rfl (Nat.le_of_ble_eq_true rfl) (Nat.le_refl _) (by omega) (by omega) cl_X6.1 e1 hv (fun _ _ q9 => q9) ?_
              rintro _ h22 ⟨rfl, hv⟩ -
              refine j_iload dX0_perform_167 rfl ?_
              exact j_iret dX0_perform_169 rfl hv
          · replace hv := hv.2 hc4
            by_cases hc5 : x2 = (5 : Int32)
            · replace hv := hv.1 hc5
              refine j_tableIn (tgt := 118) (off := 106) dX0_perform_12 (by rw [hc5]; decide) (by rw [hc5]; decide) (by rw [hc5]; decide) (by decide) ?_
              refine j_aload_n dX0_perform_118 rfl rfl ?_
              refine j_aload_n dX0_perform_119 rfl rfl ?_
              refine j_iload_n dX0_perform_120 rfl rfl ?_
              refine j_iconst (v := (0 : Int32)) dX0_perform_121 (by decide) ?_
              obtain ⟨⟨fs, e1⟩, hv⟩ := hv
              refine j_virtual (avs := [.ref x1, .int x3, .int (0 : Int32)]) (rest := []) (i := x0) (kc' := mc) (ks' := ms) dX0_perform_122 mt_X0_rest w_m_X0_84 w_in_X0_rest w_se_X0_rest rfl rfl (Nat.le_of_ble_eq_true rfl) (Nat.le_refl _) (by omega) (by omega) cl_X0.1 e1 hv (fun _ _ q9 => q9) ?_
              rintro _ h23 ⟨z24, rfl, hv⟩ -
              refine j_istore dX0_perform_125 (by decide) rfl rfl ?_
              refine j_goto (tgt := 154) dX0_perform_127 (by decide) ?_
              refine j_iload dX0_perform_154 rfl ?_
              refine j_if_eq (tgt := 167) dX0_perform_156 (by decide) (fun hc => ?_) (fun hc => ?_)
              · replace hv := hv.1 hc
                refine j_iload dX0_perform_167 rfl ?_
                exact j_iret dX0_perform_169 rfl hv
              · replace hv := hv.2 hc
                refine j_aload_n dX0_perform_159 rfl rfl ?_
                refine j_aload_n dX0_perform_160 rfl rfl ?_
                obtain ⟨fs, r25, e1, e2, hv⟩ := hv
                refine j_getf (k := 4) cl_X0 (by decide) w_f_X0_12 dX0_perform_161 e1 e2 ?_
                obtain ⟨⟨fs, e1⟩, hv⟩ := hv
                refine j_virtual (avs := [.ref r25]) (rest := []) (i := x1) (kc' := mc) (ks' := ms) dX0_perform_164 mt_X6_copyFrom w_m_X0_66 w_in_X6_copyFrom w_se_X6_copyFrom rfl rfl (Nat.le_of_ble_eq_true rfl) (Nat.le_refl _) (by omega) (by omega) cl_X6.1 e1 hv (fun _ _ q9 => q9) ?_
                rintro _ h26 ⟨rfl, hv⟩ -
                refine j_iload dX0_perform_167 rfl ?_
                exact j_iret dX0_perform_169 rfl hv
            · replace hv := hv.2 hc5
              by_cases hc6 : x2 = (6 : Int32)
              · replace hv := hv.1 hc6
                refine j_tableIn (tgt := 130) (off := 118) dX0_perform_12 (by rw [hc6]; decide) (by rw [hc6]; decide) (by rw [hc6]; decide) (by decide) ?_
                refine j_aload_n dX0_perform_130 rfl rfl ?_
                refine j_iload_n dX0_perform_131 rfl rfl ?_
                refine j_iconst (v := (1 : Int32)) dX0_perform_132 (by decide) ?_
                refine j_icmp_ne (tgt := 140) dX0_perform_133 (by decide) (fun hc => ?_) (fun hc => ?_)
                · replace hv := hv.2 hc
                  refine j_iconst (v := (0 : Int32)) dX0_perform_140 (by decide) ?_
                  exact hv
                · replace hv := hv.1 hc
                  refine j_iconst (v := (1 : Int32)) dX0_perform_136 (by decide) ?_
                  refine j_goto (tgt := 141) dX0_perform_137 (by decide) ?_
                  exact hv
              · replace hv := hv.2 hc6
                refine j_tableOut (tgt := 147) dX0_perform_12 (q_tabO (by decide) (by decide) (fun j h1 => by match j, h1 with | 0, _ => exact hc0 | 1, _ => exact hc1 | 2, _ => exact hc2 | 3, _ => exact hc3 | 4, _ => exact hc4 | 5, _ => exact hc5 | 6, _ => exact hc6 | j + 7, h1 => exact absurd h1 (by omega))) (by decide) ?_
                refine j_aload_n dX0_perform_147 rfl rfl ?_
                refine j_aload_n dX0_perform_148 rfl rfl ?_
                obtain ⟨⟨fs, e1⟩, hv⟩ := hv
                refine j_virtual (avs := [.ref x1]) (rest := []) (i := x0) (kc' := mc) (ks' := ms) dX0_perform_149 mt_X0_clean w_m_X0_92 w_in_X0_clean w_se_X0_clean rfl rfl (Nat.le_of_ble_eq_true rfl) (Nat.le_refl _) (by omega) (by omega) cl_X0.1 e1 hv (fun _ _ q9 => q9) ?_
                rintro _ h27 ⟨z28, rfl, hv⟩ -
                refine j_istore dX0_perform_152 (by decide) rfl rfl ?_
                refine j_iload dX0_perform_154 rfl ?_
                refine j_if_eq (tgt := 167) dX0_perform_156 (by decide) (fun hc => ?_) (fun hc => ?_)
                · replace hv := hv.1 hc
                  refine j_iload dX0_perform_167 rfl ?_
                  exact j_iret dX0_perform_169 rfl hv
                · replace hv := hv.2 hc
                  refine j_aload_n dX0_perform_159 rfl rfl ?_
                  refine j_aload_n dX0_perform_160 rfl rfl ?_
                  obtain ⟨fs, r29, e1, e2, hv⟩ := hv
                  refine j_getf (k := 4) cl_X0 (by decide) w_f_X0_12 dX0_perform_161 e1 e2 ?_
                  obtain ⟨⟨fs, e1⟩, hv⟩ := hv
                  refine j_virtual (avs := [.ref r29]) (rest := []) (i := x1) (kc' := mc) (ks' := ms) dX0_perform_164 mt_X6_copyFrom w_m_X0_66 w_in_X6_copyFrom w_se_X6_copyFrom rfl rfl (Nat.le_of_ble_eq_true rfl) (Nat.le_refl _) (by omega) (by omega) cl_X6.1 e1 hv (fun _ _ q9 => q9) ?_
                  rintro _ h30 ⟨rfl, hv⟩ -
                  refine j_iload dX0_perform_167 rfl ?_
                  exact j_iret dX0_perform_169 rfl hv
set_option maxRecDepth 20000 in
set_option maxHeartbeats 4000000 in
theorem v_X0_passMinutes_141 {l : Launch} {d mc ms n0 kc ks : Nat} {Q : Option Value → qH → Prop} {QX : String → qH → Prop} (x0 : Nat) (x1 : Nat) (x2 : Int32) (x3 : Int32) (x4 : Int32) (x5 : Int32) (x6 : Int32) (x7 : Int32) (x8 : Int32) (y0 : Nat) (y1 : Int32) (y2 : Int32) (y3 : Int32) {h : qH} (hv : qPI h y0 6 4 (y1 + (y2 + y3)) (fun h1 => qGI h1 x1 6 0 (fun z2 => qPI h1 x1 6 0 (z2 + (1 : Int32)) (fun h3 => qGI h3 x1 6 0 (fun z4 => qIF ((z4 - z4 / (1440 : Int32) * (1440 : Int32)) = 0) (qGI h3 x1 6 5 (fun z5 => qPI h3 x1 6 5 (if (20 : Int32) < (z5 - (1 : Int32)) then (z5 - (1 : Int32)) else (20 : Int32)) (fun h7 => q_J l (d + 1) mX0_passMinutes mc ms Q QX n0 3 [some (.ref x0), some (.ref x1), some (.int x2), some (.int x3), some (.int x4), some (.int (x5 + (1 : Int32))), none, none, none] [] h7 kc ks))) (q_J l (d + 1) mX0_passMinutes mc ms Q QX n0 3 [some (.ref x0), some (.ref x1), some (.int x2), some (.int x3), some (.int x4), some (.int (x5 + (1 : Int32))), none, none, none] [] h3 kc ks)))))) : q_J l (d + 1) mX0_passMinutes mc ms Q QX n0 141 [some (.ref x0), some (.ref x1), some (.int x2), some (.int x3), some (.int x4), some (.int x5), some (.int x6), some (.int x7), some (.int x8)] [.int y3, .int y2, .int y1, .ref y0] h kc ks := by
  refine j_iadd dX0_passMinutes_141 ?_
  refine j_iadd dX0_passMinutes_142 ?_
  obtain ⟨fs, e1, e2, hv⟩ := hv
  refine j_putN (k := 4) (ty0 := tyX6) cl_X6 (pf_X6_4) w_fn_X0_112 dX0_passMinutes_143 (fun g ad => q_nI g ad _) e1 e2 ?_
  generalize q_set h y0 _ = h1 at hv ⊢
  refine j_aload_n dX0_passMinutes_146 rfl rfl ?_
  refine j_dup dX0_passMinutes_147 rfl ?_
  obtain ⟨fs, z2, e1, e2, hv⟩ := hv
  refine j_getfN (k := 0) cl_X6 (by decide) w_fn_X0_96 dX0_passMinutes_148 e1 e2 ?_
  refine j_iconst (v := (1 : Int32)) dX0_passMinutes_151 (by decide) ?_
  refine j_iadd dX0_passMinutes_152 ?_
  obtain ⟨fs, e1, e2, hv⟩ := hv
  refine j_putN (k := 0) (ty0 := tyX6) cl_X6 (pf_X6_0) w_fn_X0_96 dX0_passMinutes_153 (fun g ad => q_nI g ad _) e1 e2 ?_
  generalize q_set h1 x1 _ = h3 at hv ⊢
  refine j_aload_n dX0_passMinutes_156 rfl rfl ?_
  obtain ⟨fs, z4, e1, e2, hv⟩ := hv
  refine j_getfN (k := 0) cl_X6 (by decide) w_fn_X0_96 dX0_passMinutes_157 e1 e2 ?_
  refine j_sipush (v := (1440 : Int32)) dX0_passMinutes_160 (by decide) ?_
  refine j_irem dX0_passMinutes_163 (by decide) ?_
  refine j_if_ne (tgt := 182) dX0_passMinutes_164 (by decide) (fun hc => ?_) (fun hc => ?_)
  · replace hv := hv.2 hc
    refine j_iinc (w := (x5 + (1 : Int32))) dX0_passMinutes_182 rfl (by rfl) (by decide) rfl rfl ?_
    refine j_goto (tgt := 3) dX0_passMinutes_185 (by decide) ?_
    refine j_mask [true, true, true, true, true, true, false, false, false] rfl ?_
    exact hv
  · replace hv := hv.1 hc
    refine j_aload_n dX0_passMinutes_167 rfl rfl ?_
    refine j_bipush (v := (20 : Int32)) dX0_passMinutes_168 (by decide) ?_
    refine j_aload_n dX0_passMinutes_170 rfl rfl ?_
    obtain ⟨fs, z5, e1, e2, hv⟩ := hv
    refine j_getfN (k := 5) cl_X6 (by decide) w_fn_X0_106 dX0_passMinutes_171 e1 e2 ?_
    refine j_iconst (v := (1 : Int32)) dX0_passMinutes_174 (by decide) ?_
    refine j_isub dX0_passMinutes_175 ?_
    refine j_mmax dX0_passMinutes_176 w_m_X0_118 w_st_max w_ini_Math w_co_max (Nat.le_of_ble_eq_true rfl) (by omega) ?_
    obtain ⟨fs, e1, e2, hv⟩ := hv
    refine j_putN (k := 5) (ty0 := tyX6) cl_X6 (pf_X6_5) w_fn_X0_106 dX0_passMinutes_179 (fun g ad => q_nI g ad _) e1 e2 ?_
    generalize q_set h3 x1 _ = h7 at hv ⊢
    refine j_iinc (w := (x5 + (1 : Int32))) dX0_passMinutes_182 rfl (by rfl) (by decide) rfl rfl ?_
    refine j_goto (tgt := 3) dX0_passMinutes_185 (by decide) ?_
    refine j_mask [true, true, true, true, true, true, false, false, false] rfl ?_
    exact hv
set_option maxRecDepth 20000 in
set_option maxHeartbeats 4000000 in
theorem v_X0_passMinutes_131 {l : Launch} {d mc ms n0 kc ks : Nat} {Q : Option Value → qH → Prop} {QX : String → qH → Prop} (x0 : Nat) (x1 : Nat) (x2 : Int32) (x3 : Int32) (x4 : Int32) (x5 : Int32) (x6 : Int32) (x7 : Int32) (x8 : Int32) (y0 : Nat) (y1 : Int32) (y2 : Int32) (y3 : Int32) {h : qH} (hv : qIF (x3 = 0) (q_J l (d + 1) mX0_passMinutes mc ms Q QX n0 141 [some (.ref x0), some (.ref x1), some (.int x2), some (.int x3), some (.int x4), some (.int x5), some (.int x6), some (.int x7), some (.int x8)] [.int (0 : Int32), .int (y2 + y3), .int y1, .ref y0] h kc ks) (q_J l (d + 1) mX0_passMinutes mc ms Q QX n0 141 [some (.ref x0), some (.ref x1), some (.int x2), some (.int x3), some (.int x4), some (.int x5), some (.int x6), some (.int x7), some (.int x8)] [.int (1 : Int32), .int (y2 + y3), .int y1, .ref y0] h kc ks)) : q_J l (d + 1) mX0_passMinutes mc ms Q QX n0 131 [some (.ref x0), some (.ref x1), some (.int x2), some (.int x3), some (.int x4), some (.int x5), some (.int x6), some (.int x7), some (.int x8)] [.int y3, .int y2, .int y1, .ref y0] h kc ks := by
  refine j_iadd dX0_passMinutes_131 ?_
  refine j_iload_n dX0_passMinutes_132 rfl rfl ?_
  refine j_if_eq (tgt := 140) dX0_passMinutes_133 (by decide) (fun hc => ?_) (fun hc => ?_)
  · replace hv := hv.1 hc
    refine j_iconst (v := (0 : Int32)) dX0_passMinutes_140 (by decide) ?_
    exact hv
  · replace hv := hv.2 hc
    refine j_iconst (v := (1 : Int32)) dX0_passMinutes_136 (by decide) ?_
    refine j_goto (tgt := 141) dX0_passMinutes_137 (by decide) ?_
    exact hv
set_option maxRecDepth 20000 in
set_option maxHeartbeats 4000000 in
theorem v_X0_passMinutes_56 {l : Launch} {d mc ms n0 kc ks : Nat} {Q : Option Value → qH → Prop} {QX : String → qH → Prop} (x0 : Nat) (x1 : Nat) (x2 : Int32) (x3 : Int32) (x4 : Int32) (x5 : Int32) (x6 : Int32) (y0 : Int32) (y1 : Int32) {h : qH} (hv : qGI h x1 6 3 (fun z1 => qGI h x1 6 5 (fun z2 => qCI l (d + 0) mX0_powerBy [.int x6, .int z2] h 0 0 (fun z4 h3 => qIF (0 ≤ ((z1 + z4) - ((y0 + y1) + x4))) (qGI h3 x0 0 5 (fun z5 => qPI h3 x1 6 3 (if z5 < ((z1 + z4) - ((y0 + y1) + x4)) then z5 else ((z1 + z4) - ((y0 + y1) + x4))) (fun h7 => qGI h7 x1 6 4 (fun z8 => qCI l (d + 0) mX0_airBy [.int x6] h7 0 0 (fun z10 h9 => qGI h9 x1 6 4 (fun z11 => qGI h9 x1 6 6 (fun z12 => qIF (z12 = 0) (q_J l (d + 1) mX0_passMinutes mc ms Q QX n0 131 [some (.ref x0), some (.ref x1), some (.int x2), some (.int x3), some (.int x4), some (.int x5), some (.int x6), some (.int ((y0 + y1) + x4)), some (.int ((z1 + z4) - ((y0 + y1) + x4)))] [.int (0 : Int32), .int ((z10 - z11) / (20 : Int32)), .int z8, .ref x1] h9 kc ks) (q_J l (d + 1) mX0_passMinutes mc ms Q QX n0 131 [some (.ref x0), some (.ref x1), some (.int x2), some (.int x3), some (.int x4), some (.int x5), some (.int x6), some (.int ((y0 + y1) + x4)), some (.int ((z1 + z4) - ((y0 + y1) + x4)))] [.int (2 : Int32), .int ((z10 - z11) / (20 : Int32)), .int z8, .ref x1] h9 kc ks)))))))) (Q (some (.int (2 : Int32))) h3))))) : q_J l (d + 1) mX0_passMinutes mc ms Q QX n0 56 [some (.ref x0), some (.ref x1), some (.int x2), some (.int x3), some (.int x4), some (.int x5), some (.int x6), none, none] [.int y1, .int y0] h kc ks := by
  refine j_iadd dX0_passMinutes_56 ?_
  refine j_iload dX0_passMinutes_57 rfl ?_
  refine j_iadd dX0_passMinutes_59 ?_
  refine j_istore dX0_passMinutes_60 (by decide) rfl rfl ?_
  refine j_aload_n dX0_passMinutes_62 rfl rfl ?_
  obtain ⟨fs, z1, e1, e2, hv⟩ := hv
  refine j_getfN (k := 3) cl_X6 (by decide) w_fn_X0_103 dX0_passMinutes_63 e1 e2 ?_
  refine j_iload dX0_passMinutes_66 rfl ?_
  refine j_aload_n dX0_passMinutes_68 rfl rfl ?_
  obtain ⟨fs, z2, e1, e2, hv⟩ := hv
  refine j_getfN (k := 5) cl_X6 (by decide) w_fn_X0_106 dX0_passMinutes_69 e1 e2 ?_
  refine j_static (avs := [.int x6, .int z2]) (rest := [.int z1]) (kc' := kc) (ks' := ks) dX0_passMinutes_72 mt_X0_powerBy w_m_X0_109 w_st_X0_powerBy rfl rfl (Nat.le_of_ble_eq_true rfl) (Nat.le_refl _) (by omega) (by omega) hv (fun _ _ q9 => q9) ?_
  rintro _ h3 ⟨z4, rfl, hv⟩ -
  refine j_iadd dX0_passMinutes_75 ?_
  refine j_iload dX0_passMinutes_76 rfl ?_
  refine j_isub dX0_passMinutes_78 ?_
  refine j_istore dX0_passMinutes_79 (by decide) rfl rfl ?_
  refine j_iload dX0_passMinutes_81 rfl ?_
  refine j_if_ge (tgt := 88) dX0_passMinutes_83 (by decide) (fun hc => ?_) (fun hc => ?_)
  · replace hv := hv.1 hc
    refine j_aload_n dX0_passMinutes_88 rfl rfl ?_
    refine j_iload dX0_passMinutes_89 rfl ?_
    refine j_aload_n dX0_passMinutes_91 rfl rfl ?_
    obtain ⟨fs, z5, e1, e2, hv⟩ := hv
    refine j_getf (k := 5) cl_X0 (by decide) w_f_X0_18 dX0_passMinutes_92 e1 e2 ?_
    refine j_mmin dX0_passMinutes_95 w_m_X0_61 w_st_min w_ini_Math w_co_min (Nat.le_of_ble_eq_true rfl) (by omega) ?_
    obtain ⟨fs, e1, e2, hv⟩ := hv
    refine j_putN (k := 3) (ty0 := tyX6) cl_X6 (pf_X6_3) w_fn_X0_103 dX0_passMinutes_98 (fun g ad => q_nI g ad _) e1 e2 ?_
    generalize q_set h3 x1 _ = h7 at hv ⊢
    refine j_aload_n dX0_passMinutes_101 rfl rfl ?_
    refine j_dup dX0_passMinutes_102 rfl ?_
    obtain ⟨fs, z8, e1, e2, hv⟩ := hv
    refine j_getfN (k := 4) cl_X6 (by decide) w_fn_X0_112 dX0_passMinutes_103 e1 e2 ?_
    refine j_iload dX0_passMinutes_106 rfl ?_
    refine j_static (avs := [.int x6]) (rest := [.int z8, .ref x1]) (kc' := kc) (ks' := ks) dX0_passMinutes_108 mt_X0_airBy w_m_X0_115 w_st_X0_airBy rfl rfl (Nat.le_of_ble_eq_true rfl) (Nat.le_refl _) (by omega) (by omega) hv (fun _ _ q9 => q9) ?_
    rintro _ h9 ⟨z10, rfl, hv⟩ -
    refine j_aload_n dX0_passMinutes_111 rfl rfl ?_
    obtain ⟨fs, z11, e1, e2, hv⟩ := hv
    refine j_getfN (k := 4) cl_X6 (by decide) w_fn_X0_112 dX0_passMinutes_112 e1 e2 ?_
    refine j_isub dX0_passMinutes_115 ?_
    refine j_bipush (v := (20 : Int32)) dX0_passMinutes_116 (by decide) ?_
    refine j_idiv dX0_passMinutes_118 (by decide) ?_
    refine j_aload_n dX0_passMinutes_119 rfl rfl ?_
    obtain ⟨fs, z12, e1, e2, hv⟩ := hv
    refine j_getfN (k := 6) cl_X6 (by decide) w_fn_X0_88 dX0_passMinutes_120 e1 e2 ?_
    refine j_if_eq (tgt := 130) dX0_passMinutes_123 (by decide) (fun hc => ?_) (fun hc => ?_)
    · replace hv := hv.1 hc
      refine j_iconst (v := (0 : Int32)) dX0_passMinutes_130 (by decide) ?_
      exact hv
    · replace hv := hv.2 hc
      refine j_iconst (v := (2 : Int32)) dX0_passMinutes_126 (by decide) ?_
      refine j_goto (tgt := 131) dX0_passMinutes_127 (by decide) ?_
      exact hv
  · replace hv := hv.2 hc
    refine j_iconst (v := (2 : Int32)) dX0_passMinutes_86 (by decide) ?_
    exact j_iret dX0_passMinutes_87 rfl hv
set_option maxRecDepth 20000 in
set_option maxHeartbeats 4000000 in
theorem v_X0_passMinutes_44 {l : Launch} {d mc ms n0 kc ks : Nat} {Q : Option Value → qH → Prop} {QX : String → qH → Prop} (x0 : Nat) (x1 : Nat) (x2 : Int32) (x3 : Int32) (x4 : Int32) (x5 : Int32) (x6 : Int32) (y0 : Int32) {h : qH} (hv : qGI h x1 6 6 (fun z1 => qIF (z1 = 0) (q_J l (d + 1) mX0_passMinutes mc ms Q QX n0 56 [some (.ref x0), some (.ref x1), some (.int x2), some (.int x3), some (.int x4), some (.int x5), some (.int x6), none, none] [.int (0 : Int32), .int y0] h kc ks) (q_J l (d + 1) mX0_passMinutes mc ms Q QX n0 56 [some (.ref x0), some (.ref x1), some (.int x2), some (.int x3), some (.int x4), some (.int x5), some (.int x6), none, none] [.int (3 : Int32), .int y0] h kc ks))) : q_J l (d + 1) mX0_passMinutes mc ms Q QX n0 44 [some (.ref x0), some (.ref x1), some (.int x2), some (.int x3), some (.int x4), some (.int x5), some (.int x6), none, none] [.int y0] h kc ks := by
  refine j_aload_n dX0_passMinutes_44 rfl rfl ?_
  obtain ⟨fs, z1, e1, e2, hv⟩ := hv
  refine j_getfN (k := 6) cl_X6 (by decide) w_fn_X0_88 dX0_passMinutes_45 e1 e2 ?_
  refine j_if_eq (tgt := 55) dX0_passMinutes_48 (by decide) (fun hc => ?_) (fun hc => ?_)
  · replace hv := hv.1 hc
    refine j_iconst (v := (0 : Int32)) dX0_passMinutes_55 (by decide) ?_
    exact hv
  · replace hv := hv.2 hc
    refine j_iconst (v := (3 : Int32)) dX0_passMinutes_51 (by decide) ?_
    refine j_goto (tgt := 56) dX0_passMinutes_52 (by decide) ?_
    exact hv
set_option maxRecDepth 20000 in
set_option maxHeartbeats 4000000 in
theorem v_X0_passMinutes_3 {l : Launch} {d mc ms n0 kc ks : Nat} {Q : Option Value → qH → Prop} {QX : String → qH → Prop} (x0 : Nat) (x1 : Nat) (x2 : Int32) (x3 : Int32) (x4 : Int32) (x5 : Int32) {h : qH} (hv : qIF (x2 ≤ x5) (Q (some (.int (0 : Int32))) h) (qGI h x1 6 0 (fun z1 => qIF (z1 < (14400 : Int32)) (qGI h x1 6 0 (fun z2 => qCI l (d + 0) mX0_lightAt [.int (z2 - z2 / (1440 : Int32) * (1440 : Int32))] h 0 0 (fun z4 h3 => qIF (x3 = 0) (q_J l (d + 1) mX0_passMinutes mc ms Q QX n0 44 [some (.ref x0), some (.ref x1), some (.int x2), some (.int x3), some (.int x4), some (.int x5), some (.int z4), none, none] [.int (1 : Int32)] h3 kc ks) (q_J l (d + 1) mX0_passMinutes mc ms Q QX n0 44 [some (.ref x0), some (.ref x1), some (.int x2), some (.int x3), some (.int x4), some (.int x5), some (.int z4), none, none] [.int (2 : Int32)] h3 kc ks)))) (Q (some (.int (7 : Int32))) h)))) : q_J l (d + 1) mX0_passMinutes mc ms Q QX n0 3 [some (.ref x0), some (.ref x1), some (.int x2), some (.int x3), some (.int x4), some (.int x5), none, none, none] [] h kc ks := by
  refine j_iload dX0_passMinutes_3 rfl ?_
  refine j_iload_n dX0_passMinutes_5 rfl rfl ?_
  refine j_icmp_ge (tgt := 188) dX0_passMinutes_6 (by decide) (fun hc => ?_) (fun hc => ?_)
  · replace hv := hv.1 hc
    refine j_iconst (v := (0 : Int32)) dX0_passMinutes_188 (by decide) ?_
    exact j_iret dX0_passMinutes_189 rfl hv
  · replace hv := hv.2 hc
    refine j_aload_n dX0_passMinutes_9 rfl rfl ?_
    obtain ⟨fs, z1, e1, e2, hv⟩ := hv
    refine j_getfN (k := 0) cl_X6 (by decide) w_fn_X0_96 dX0_passMinutes_10 e1 e2 ?_
    refine j_sipush (v := (14400 : Int32)) dX0_passMinutes_13 (by decide) ?_
    refine j_icmp_lt (tgt := 22) dX0_passMinutes_16 (by decide) (fun hc => ?_) (fun hc => ?_)
    · replace hv := hv.1 hc
      refine j_aload_n dX0_passMinutes_22 rfl rfl ?_
      obtain ⟨fs, z2, e1, e2, hv⟩ := hv
      refine j_getfN (k := 0) cl_X6 (by decide) w_fn_X0_96 dX0_passMinutes_23 e1 e2 ?_
      refine j_sipush (v := (1440 : Int32)) dX0_passMinutes_26 (by decide) ?_
      refine j_irem dX0_passMinutes_29 (by decide) ?_
      refine j_static (avs := [.int (z2 - z2 / (1440 : Int32) * (1440 : Int32))]) (rest := []) (kc' := kc) (ks' := ks) dX0_passMinutes_30 mt_X0_lightAt w_m_X0_99 w_st_X0_lightAt rfl rfl (Nat.le_of_ble_eq_true rfl) (Nat.le_refl _) (by omega) (by omega) hv (fun _ _ q9 => q9) ?_
      rintro _ h3 ⟨z4, rfl, hv⟩ -
      refine j_istore dX0_passMinutes_33 (by decide) rfl rfl ?_
      refine j_iload_n dX0_passMinutes_35 rfl rfl ?_
      refine j_if_eq (tgt := 43) dX0_passMinutes_36 (by decide) (fun hc => ?_) (fun hc => ?_)
      · replace hv := hv.1 hc
        refine j_iconst (v := (1 : Int32)) dX0_passMinutes_43 (by decide) ?_
        exact hv
      · replace hv := hv.2 hc
        refine j_iconst (v := (2 : Int32)) dX0_passMinutes_39 (by decide) ?_
        refine j_goto (tgt := 44) dX0_passMinutes_40 (by decide) ?_
        exact hv
    · replace hv := hv.2 hc
      refine j_bipush (v := (7 : Int32)) dX0_passMinutes_19 (by decide) ?_
      exact j_iret dX0_passMinutes_21 rfl hv
set_option maxRecDepth 20000 in
set_option maxHeartbeats 4000000 in
theorem v_X0_passMinutes {l : Launch} {d mc ms : Nat} {Q : Option Value → qH → Prop} {QX : String → qH → Prop} (x0 : Nat) (x1 : Nat) (x2 : Int32) (x3 : Int32) (x4 : Int32) {h : qH} (hv : q_J l (d + 1) mX0_passMinutes mc ms Q QX h.2 3 [some (.ref x0), some (.ref x1), some (.int x2), some (.int x3), some (.int x4), some (.int (0 : Int32)), none, none, none] [] h mc ms) : q_Ct l (d + 1) mX0_passMinutes [.ref x0, .ref x1, .int x2, .int x3, .int x4] h mc ms Q QX := by
  refine q_body (by decide ) (by intro v hm; simp only [List.mem_cons, List.not_mem_nil, or_false] at hm; rcases hm with rfl | rfl | rfl | rfl | rfl <;> rfl) (Nat.le_of_ble_eq_true rfl) ?_
  refine j_pad 4 rfl ?_
  refine j_iconst (v := (0 : Int32)) dX0_passMinutes_0 (by decide) ?_
  refine j_istore dX0_passMinutes_1 (by decide) rfl rfl ?_
  exact hv
set_option maxRecDepth 20000 in
set_option maxHeartbeats 4000000 in
theorem v_X0_drive_39 {l : Launch} {d mc ms n0 kc ks : Nat} {Q : Option Value → qH → Prop} {QX : String → qH → Prop} (x0 : Nat) (x1 : Nat) (x2 : Int32) (x3 : Int32) (x4 : Int32) {h : qH} (hv : qGR h x0 0 1 (fun r1 => qGI h x1 6 1 (fun z2 => qGI h x1 6 2 (fun z3 => qCI l (d + 2) mX1_placeOf [.int z2, .int z3] h 0 0 (fun z5 h4 => qOB h4 r1 8 (qCI l (d + 2) mX8_directionFrom [.ref r1, .int z5] h4 0 0 (fun z7 h6 => qIF (z7 < 0) (Q (some (.int (1 : Int32))) h6) (qIF (z7 < (8 : Int32)) (qOB h6 x0 0 (qCI l (d + 2) mX0_step [.ref x0, .ref x1, .int z7] h6 0 0 (fun z9 h8 => qIF (z9 = 0) (q_J l (d + 3) mX0_drive mc ms Q QX n0 15 [some (.ref x0), some (.ref x1), some (.int x2), some (.int x3), some (.int (x4 + (1 : Int32))), none, none] [] h8 kc ks) (Q (some (.int z9)) h8)))) (Q (some (.int (1 : Int32))) h6))))))))) : q_J l (d + 3) mX0_drive mc ms Q QX n0 39 [some (.ref x0), some (.ref x1), some (.int x2), some (.int x3), some (.int x4), none, none] [] h kc ks := by
  refine j_aload_n dX0_drive_39 rfl rfl ?_
  obtain ⟨fs, r1, e1, e2, hv⟩ := hv
  refine j_getf (k := 1) cl_X0 (by decide) w_f_X0_32 dX0_drive_40 e1 e2 ?_
  refine j_aload_n dX0_drive_43 rfl rfl ?_
  obtain ⟨fs, z2, e1, e2, hv⟩ := hv
  refine j_getfN (k := 1) cl_X6 (by decide) w_fn_X0_132 dX0_drive_44 e1 e2 ?_
  refine j_aload_n dX0_drive_47 rfl rfl ?_
  obtain ⟨fs, z3, e1, e2, hv⟩ := hv
  refine j_getfN (k := 2) cl_X6 (by decide) w_fn_X0_135 dX0_drive_48 e1 e2 ?_
  refine j_static (avs := [.int z2, .int z3]) (rest := [.ref r1]) (kc' := kc) (ks' := ks) dX0_drive_51 mt_X1_placeOf w_m_X0_121 w_st_X1_placeOf rfl rfl (Nat.le_of_ble_eq_true rfl) (Nat.le_refl _) (by omega) (by omega) hv (fun _ _ q9 => q9) ?_
  rintro _ h4 ⟨z5, rfl, hv⟩ -
  obtain ⟨⟨fs, e1⟩, hv⟩ := hv
  refine j_virtual (avs := [.int z5]) (rest := []) (i := r1) (kc' := kc) (ks' := ks) dX0_drive_54 mt_X8_directionFrom w_m_X0_138 w_in_X8_directionFrom w_se_X8_directionFrom rfl rfl (Nat.le_of_ble_eq_true rfl) (Nat.le_refl _) (by omega) (by omega) cl_X8.1 e1 hv (fun _ _ q9 => q9) ?_
  rintro _ h6 ⟨z7, rfl, hv⟩ -
  refine j_istore dX0_drive_57 (by decide) rfl rfl ?_
  refine j_iload dX0_drive_59 rfl ?_
  refine j_if_lt (tgt := 71) dX0_drive_61 (by decide) (fun hc => ?_) (fun hc => ?_)
  · replace hv := hv.1 hc
    refine j_iconst (v := (1 : Int32)) dX0_drive_71 (by decide) ?_
    exact j_iret dX0_drive_72 rfl hv
  · replace hv := hv.2 hc
    refine j_iload dX0_drive_64 rfl ?_
    refine j_bipush (v := (8 : Int32)) dX0_drive_66 (by decide) ?_
    refine j_icmp_lt (tgt := 73) dX0_drive_68 (by decide) (fun hc => ?_) (fun hc => ?_)
    · replace hv := hv.1 hc
      refine j_aload_n dX0_drive_73 rfl rfl ?_
      refine j_aload_n dX0_drive_74 rfl rfl ?_
      refine j_iload dX0_drive_75 rfl ?_
      obtain ⟨⟨fs, e1⟩, hv⟩ := hv
      refine j_virtual (avs := [.ref x1, .int z7]) (rest := []) (i := x0) (kc' := kc) (ks' := ks) dX0_drive_77 mt_X0_step w_m_X0_141 w_in_X0_step w_se_X0_step rfl rfl (Nat.le_of_ble_eq_true rfl) (Nat.le_refl _) (by omega) (by omega) cl_X0.1 e1 hv (fun _ _ q9 => q9) ?_
      rintro _ h8 ⟨z9, rfl, hv⟩ -
      refine j_istore dX0_drive_80 (by decide) rfl rfl ?_
      refine j_iload dX0_drive_82 rfl ?_
      refine j_if_eq (tgt := 90) dX0_drive_84 (by decide) (fun hc => ?_) (fun hc => ?_)
      · replace hv := hv.1 hc
        refine j_iinc (w := (x4 + (1 : Int32))) dX0_drive_90 rfl (by rfl) (by decide) rfl rfl ?_
        refine j_goto (tgt := 15) dX0_drive_93 (by decide) ?_
        refine j_mask [true, true, true, true, true, false, false] rfl ?_
        exact hv
      · replace hv := hv.2 hc
        refine j_iload dX0_drive_87 rfl ?_
        exact j_iret dX0_drive_89 rfl hv
    · replace hv := hv.2 hc
      refine j_iconst (v := (1 : Int32)) dX0_drive_71 (by decide) ?_
      exact j_iret dX0_drive_72 rfl hv
set_option maxRecDepth 20000 in
set_option maxHeartbeats 4000000 in
theorem v_X0_drive_15 {l : Launch} {d mc ms n0 kc ks : Nat} {Q : Option Value → qH → Prop} {QX : String → qH → Prop} (x0 : Nat) (x1 : Nat) (x2 : Int32) (x3 : Int32) (x4 : Int32) {h : qH} (hv : qIF ((576 : Int32) ≤ x4) (Q (some (.int (0 : Int32))) h) (qGI h x1 6 1 (fun z1 => qIF (z1 = x2) (qGI h x1 6 2 (fun z2 => qIF (z2 = x3) (Q (some (.int (0 : Int32))) h) (q_J l (d + 3) mX0_drive mc ms Q QX n0 39 [some (.ref x0), some (.ref x1), some (.int x2), some (.int x3), some (.int x4), none, none] [] h kc ks))) (q_J l (d + 3) mX0_drive mc ms Q QX n0 39 [some (.ref x0), some (.ref x1), some (.int x2), some (.int x3), some (.int x4), none, none] [] h kc ks)))) : q_J l (d + 3) mX0_drive mc ms Q QX n0 15 [some (.ref x0), some (.ref x1), some (.int x2), some (.int x3), some (.int x4), none, none] [] h kc ks := by
  refine j_iload dX0_drive_15 rfl ?_
  refine j_sipush (v := (576 : Int32)) dX0_drive_17 (by decide) ?_
  refine j_icmp_ge (tgt := 96) dX0_drive_20 (by decide) (fun hc => ?_) (fun hc => ?_)
  · replace hv := hv.1 hc
    refine j_iconst (v := (0 : Int32)) dX0_drive_96 (by decide) ?_
    exact j_iret dX0_drive_97 rfl hv
  · replace hv := hv.2 hc
    refine j_aload_n dX0_drive_23 rfl rfl ?_
    obtain ⟨fs, z1, e1, e2, hv⟩ := hv
    refine j_getfN (k := 1) cl_X6 (by decide) w_fn_X0_132 dX0_drive_24 e1 e2 ?_
    refine j_iload_n dX0_drive_27 rfl rfl ?_
    refine j_icmp_ne (tgt := 39) dX0_drive_28 (by decide) (fun hc => ?_) (fun hc => ?_)
    · replace hv := hv.2 hc
      exact hv
    · replace hv := hv.1 hc
      refine j_aload_n dX0_drive_31 rfl rfl ?_
      obtain ⟨fs, z2, e1, e2, hv⟩ := hv
      refine j_getfN (k := 2) cl_X6 (by decide) w_fn_X0_135 dX0_drive_32 e1 e2 ?_
      refine j_iload_n dX0_drive_35 rfl rfl ?_
      refine j_icmp_eq (tgt := 96) dX0_drive_36 (by decide) (fun hc => ?_) (fun hc => ?_)
      · replace hv := hv.1 hc
        refine j_iconst (v := (0 : Int32)) dX0_drive_96 (by decide) ?_
        exact j_iret dX0_drive_97 rfl hv
      · replace hv := hv.2 hc
        exact hv
set_option maxRecDepth 20000 in
set_option maxHeartbeats 4000000 in
theorem v_X0_drive {l : Launch} {d mc ms : Nat} {Q : Option Value → qH → Prop} {QX : String → qH → Prop} (x0 : Nat) (x1 : Nat) (x2 : Int32) (x3 : Int32) {h : qH} (hv : qGR h x0 0 1 (fun r1 => qCI l (d + 2) mX1_placeOf [.int x2, .int x3] h 0 0 (fun z3 h2 => qOB h2 r1 8 (qCV l (d + 2) mX8_measureTo [.ref r1, .int z3] h2 0 0 (fun h4 => q_J l (d + 3) mX0_drive mc ms Q QX h.2 15 [some (.ref x0), some (.ref x1), some (.int x2), some (.int x3), some (.int (0 : Int32)), none, none] [] h4 mc ms))))) : q_Ct l (d + 3) mX0_drive [.ref x0, .ref x1, .int x2, .int x3] h mc ms Q QX := by
  refine q_body (by decide ) (by intro v hm; simp only [List.mem_cons, List.not_mem_nil, or_false] at hm; rcases hm with rfl | rfl | rfl | rfl <;> rfl) (Nat.le_of_ble_eq_true rfl) ?_
  refine j_pad 3 rfl ?_
  refine j_aload_n dX0_drive_0 rfl rfl ?_
  obtain ⟨fs, r1, e1, e2, hv⟩ := hv
  refine j_getf (k := 1) cl_X0 (by decide) w_f_X0_32 dX0_drive_1 e1 e2 ?_
  refine j_iload_n dX0_drive_4 rfl rfl ?_
  refine j_iload_n dX0_drive_5 rfl rfl ?_
  refine j_static (avs := [.int x2, .int x3]) (rest := [.ref r1]) (kc' := mc) (ks' := ms) dX0_drive_6 mt_X1_placeOf w_m_X0_121 w_st_X1_placeOf rfl rfl (Nat.le_of_ble_eq_true rfl) (Nat.le_refl _) (by omega) (by omega) hv (fun _ _ q9 => q9) ?_
  rintro _ h2 ⟨z3, rfl, hv⟩ -
  obtain ⟨⟨fs, e1⟩, hv⟩ := hv
  refine j_virtual (avs := [.int z3]) (rest := []) (i := r1) (kc' := mc) (ks' := ms) dX0_drive_9 mt_X8_measureTo w_m_X0_126 w_in_X8_measureTo w_se_X8_measureTo rfl rfl (Nat.le_of_ble_eq_true rfl) (Nat.le_refl _) (by omega) (by omega) cl_X8.1 e1 hv (fun _ _ q9 => q9) ?_
  rintro _ h4 ⟨rfl, hv⟩ -
  refine j_iconst (v := (0 : Int32)) dX0_drive_12 (by decide) ?_
  refine j_istore dX0_drive_13 (by decide) rfl rfl ?_
  exact hv
set_option maxRecDepth 20000 in
set_option maxHeartbeats 4000000 in
theorem v_X0_step_66 {l : Launch} {d mc ms n0 kc ks : Nat} {Q : Option Value → qH → Prop} {QX : String → qH → Prop} (x0 : Nat) (x1 : Nat) (x2 : Int32) (x3 : Int32) (x4 : Int32) {h : qH} (hv : qGI h x1 6 1 (fun z1 => qSL 0 x2 (fun z2 => qPI h x1 6 1 (z1 + z2) (fun h3 => qGI h3 x1 6 2 (fun z4 => qSL 1 x2 (fun z5 => qPI h3 x1 6 2 (z4 + z5) (fun h6 => Q (some (.int x4)) h6))))))) : q_J l (d + 2) mX0_step mc ms Q QX n0 66 [some (.ref x0), some (.ref x1), some (.int x2), some (.int x3), some (.int x4)] [] h kc ks := by
  refine j_aload_n dX0_step_66 rfl rfl ?_
  refine j_dup dX0_step_67 rfl ?_
  obtain ⟨fs, z1, e1, e2, hv⟩ := hv
  refine j_getfN (k := 1) cl_X6 (by decide) w_fn_X0_132 dX0_step_68 e1 e2 ?_
  refine j_getsN (k := 0) (by decide) w_fn_X0_154 dX0_step_71 ?_
  refine j_iload_n dX0_step_74 rfl rfl ?_
  obtain ⟨e1, hv⟩ := hv
  refine j_sald (k := 0) (by decide) dX0_step_75 e1 ?_
  generalize q_sF 0 _ = z2 at hv ⊢
  refine j_iadd dX0_step_76 ?_
  obtain ⟨fs, e1, e2, hv⟩ := hv
  refine j_putN (k := 1) (ty0 := tyX6) cl_X6 (pf_X6_1) w_fn_X0_132 dX0_step_77 (fun g ad => q_nI g ad _) e1 e2 ?_
  generalize q_set h x1 _ = h3 at hv ⊢
  refine j_aload_n dX0_step_80 rfl rfl ?_
  refine j_dup dX0_step_81 rfl ?_
  obtain ⟨fs, z4, e1, e2, hv⟩ := hv
  refine j_getfN (k := 2) cl_X6 (by decide) w_fn_X0_135 dX0_step_82 e1 e2 ?_
  refine j_getsN (k := 1) (by decide) w_fn_X0_158 dX0_step_85 ?_
  refine j_iload_n dX0_step_88 rfl rfl ?_
  obtain ⟨e1, hv⟩ := hv
  refine j_sald (k := 1) (by decide) dX0_step_89 e1 ?_
  generalize q_sF 1 _ = z5 at hv ⊢
  refine j_iadd dX0_step_90 ?_
  obtain ⟨fs, e1, e2, hv⟩ := hv
  refine j_putN (k := 2) (ty0 := tyX6) cl_X6 (pf_X6_2) w_fn_X0_135 dX0_step_91 (fun g ad => q_nI g ad _) e1 e2 ?_
  generalize q_set h3 x1 _ = h6 at hv ⊢
  refine j_iload dX0_step_94 rfl ?_
  exact j_iret dX0_step_96 rfl hv
set_option maxRecDepth 20000 in
set_option maxHeartbeats 4000000 in
theorem v_X0_step {l : Launch} {d mc ms : Nat} {Q : Option Value → qH → Prop} {QX : String → qH → Prop} (x0 : Nat) (x1 : Nat) (x2 : Int32) {h : qH} (hv : qGI h x1 6 4 (fun z1 => qIF ((-50 : Int32) ≤ z1) (qGI h x1 6 1 (fun z2 => qGI h x1 6 2 (fun z3 => qCI l (d + 1) mX1_placeOf [.int z2, .int z3] h 0 0 (fun z5 h4 => qGR h4 x0 0 0 (fun r6 => qOB h4 r6 1 (qCI l (d + 1) mX1_minutesOf [.ref r6, .int z5, .int x2] h4 0 0 (fun z8 h7 => qOB h7 x0 0 (qCI l (d + 1) mX0_passMinutes [.ref x0, .ref x1, .int (z8 - (1 : Int32)), .int (1 : Int32), .int (0 : Int32)] h7 0 0 (fun z10 h9 => qIF (z10 = 0) (qGR h9 x0 0 0 (fun r11 => qOB h9 r11 1 (qCI l (d + 1) mX1_energyOf [.ref r11, .int z5, .int x2] h9 0 0 (fun z13 h12 => qOB h12 x0 0 (qCI l (d + 1) mX0_passMinutes [.ref x0, .ref x1, .int (1 : Int32), .int (1 : Int32), .int z13] h12 0 0 (fun z15 h14 => q_J l (d + 2) mX0_step mc ms Q QX h.2 66 [some (.ref x0), some (.ref x1), some (.int x2), some (.int z5), some (.int z15)] [] h14 mc ms)))))) (q_J l (d + 2) mX0_step mc ms Q QX h.2 66 [some (.ref x0), some (.ref x1), some (.int x2), some (.int z5), some (.int z10)] [] h9 mc ms)))))))))) (Q (some (.int (3 : Int32))) h))) : q_Ct l (d + 2) mX0_step [.ref x0, .ref x1, .int x2] h mc ms Q QX := by
  refine q_body (by decide ) (by intro v hm; simp only [List.mem_cons, List.not_mem_nil, or_false] at hm; rcases hm with rfl | rfl | rfl <;> rfl) (Nat.le_of_ble_eq_true rfl) ?_
  refine j_pad 2 rfl ?_
  refine j_aload_n dX0_step_0 rfl rfl ?_
  obtain ⟨fs, z1, e1, e2, hv⟩ := hv
  refine j_getfN (k := 4) cl_X6 (by decide) w_fn_X0_112 dX0_step_1 e1 e2 ?_
  refine j_bipush (v := (-50 : Int32)) dX0_step_4 (by decide) ?_
  refine j_icmp_ge (tgt := 11) dX0_step_6 (by decide) (fun hc => ?_) (fun hc => ?_)
  · replace hv := hv.1 hc
    refine j_aload_n dX0_step_11 rfl rfl ?_
    obtain ⟨fs, z2, e1, e2, hv⟩ := hv
    refine j_getfN (k := 1) cl_X6 (by decide) w_fn_X0_132 dX0_step_12 e1 e2 ?_
    refine j_aload_n dX0_step_15 rfl rfl ?_
    obtain ⟨fs, z3, e1, e2, hv⟩ := hv
    refine j_getfN (k := 2) cl_X6 (by decide) w_fn_X0_135 dX0_step_16 e1 e2 ?_
    refine j_static (avs := [.int z2, .int z3]) (rest := []) (kc' := mc) (ks' := ms) dX0_step_19 mt_X1_placeOf w_m_X0_121 w_st_X1_placeOf rfl rfl (Nat.le_of_ble_eq_true rfl) (Nat.le_refl _) (by omega) (by omega) hv (fun _ _ q9 => q9) ?_
    rintro _ h4 ⟨z5, rfl, hv⟩ -
    refine j_istore_n dX0_step_22 rfl (by decide) rfl rfl ?_
    refine j_aload_n dX0_step_23 rfl rfl ?_
    refine j_aload_n dX0_step_24 rfl rfl ?_
    refine j_aload_n dX0_step_25 rfl rfl ?_
    obtain ⟨fs, r6, e1, e2, hv⟩ := hv
    refine j_getf (k := 0) cl_X0 (by decide) w_f_X0_28 dX0_step_26 e1 e2 ?_
    refine j_iload_n dX0_step_29 rfl rfl ?_
    refine j_iload_n dX0_step_30 rfl rfl ?_
    obtain ⟨⟨fs, e1⟩, hv⟩ := hv
    refine j_virtual (avs := [.int z5, .int x2]) (rest := [.ref x1, .ref x0]) (i := r6) (kc' := mc) (ks' := ms) dX0_step_31 mt_X1_minutesOf w_m_X0_144 w_in_X1_minutesOf w_se_X1_minutesOf rfl rfl (Nat.le_of_ble_eq_true rfl) (Nat.le_refl _) (by omega) (by omega) cl_X1.1 e1 hv (fun _ _ q9 => q9) ?_
    rintro _ h7 ⟨z8, rfl, hv⟩ -
    refine j_iconst (v := (1 : Int32)) dX0_step_34 (by decide) ?_
    refine j_isub dX0_step_35 ?_
    refine j_iconst (v := (1 : Int32)) dX0_step_36 (by decide) ?_
    refine j_iconst (v := (0 : Int32)) dX0_step_37 (by decide) ?_
    obtain ⟨⟨fs, e1⟩, hv⟩ := hv
    refine j_virtual (avs := [.ref x1, .int (z8 - (1 : Int32)), .int (1 : Int32), .int (0 : Int32)]) (rest := []) (i := x0) (kc' := mc) (ks' := ms) dX0_step_38 mt_X0_passMinutes w_m_X0_147 w_in_X0_passMinutes w_se_X0_passMinutes rfl rfl (Nat.le_of_ble_eq_true rfl) (Nat.le_refl _) (by omega) (by omega) cl_X0.1 e1 hv (fun _ _ q9 => q9) ?_
    rintro _ h9 ⟨z10, rfl, hv⟩ -
    refine j_istore dX0_step_41 (by decide) rfl rfl ?_
    refine j_iload dX0_step_43 rfl ?_
    refine j_if_ne (tgt := 66) dX0_step_45 (by decide) (fun hc => ?_) (fun hc => ?_)
    · replace hv := hv.2 hc
      exact hv
    · replace hv := hv.1 hc
      refine j_aload_n dX0_step_48 rfl rfl ?_
      refine j_aload_n dX0_step_49 rfl rfl ?_
      refine j_iconst (v := (1 : Int32)) dX0_step_50 (by decide) ?_
      refine j_iconst (v := (1 : Int32)) dX0_step_51 (by decide) ?_
      refine j_aload_n dX0_step_52 rfl rfl ?_
      obtain ⟨fs, r11, e1, e2, hv⟩ := hv
      refine j_getf (k := 0) cl_X0 (by decide) w_f_X0_28 dX0_step_53 e1 e2 ?_
      refine j_iload_n dX0_step_56 rfl rfl ?_
      refine j_iload_n dX0_step_57 rfl rfl ?_
      obtain ⟨⟨fs, e1⟩, hv⟩ := hv
      refine j_virtual (avs := [.int z5, .int x2]) (rest := [.int (1 : Int32), .int (1 : Int32), .ref x1, .ref x0]) (i := r11) (kc' := mc) (ks' := ms) dX0_step_58 mt_X1_energyOf w_m_X0_151 w_in_X1_energyOf w_se_X1_energyOf rfl rfl (Nat.le_of_ble_eq_true rfl) (Nat.le_refl _) (by omega) (by omega) cl_X1.1 e1 hv (fun _ _ q9 => q9) ?_
      rintro _ h12 ⟨z13, rfl, hv⟩ -
      obtain ⟨⟨fs, e1⟩, hv⟩ := hv
      refine j_virtual (avs := [.ref x1, .int (1 : Int32), .int (1 : Int32), .int z13]) (rest := []) (i := x0) (kc' := mc) (ks' := ms) dX0_step_61 mt_X0_passMinutes w_m_X0_147 w_in_X0_passMinutes w_se_X0_passMinutes rfl rfl (Nat.le_of_ble_eq_true rfl) (Nat.le_refl _) (by omega) (by omega) cl_X0.1 e1 hv (fun _ _ q9 => q9) ?_
      rintro _ h14 ⟨z15, rfl, hv⟩ -
      refine j_istore dX0_step_64 (by decide) rfl rfl ?_
      exact hv
  · replace hv := hv.2 hc
    refine j_iconst (v := (3 : Int32)) dX0_step_9 (by decide) ?_
    exact j_iret dX0_step_10 rfl hv
set_option maxRecDepth 20000 in
set_option maxHeartbeats 4000000 in
theorem v_X0_takeImage {l : Launch} {d mc ms : Nat} {Q : Option Value → qH → Prop} {QX : String → qH → Prop} (x0 : Nat) (x1 : Nat) (x2 : Int32) (x3 : Int32) {h : qH} (hv : qGR h x0 0 2 (fun r1 => qOB h r1 7 (qCI l (d + 2) mX7_xOf [.ref r1, .int x2] h 0 0 (fun z3 h2 => qGR h2 x0 0 2 (fun r4 => qOB h2 r4 7 (qCI l (d + 2) mX7_yOf [.ref r4, .int x2] h2 0 0 (fun z6 h5 => qGI h5 x1 6 1 (fun z7 => qGI h5 x1 6 2 (fun z8 => qCI l (d + 2) mX1_distance [.int z7, .int z8, .int z3, .int z6] h5 0 0 (fun z10 h9 => qIF ((6 : Int32) < z10) (Q (some (.int (5 : Int32))) h9) (qGR h9 x0 0 0 (fun r11 => qGI h9 x1 6 1 (fun z12 => qGI h9 x1 6 2 (fun z13 => qOB h9 r11 1 (qCI l (d + 2) mX1_isSeen [.ref r11, .int z12, .int z13, .int z3, .int z6] h9 0 0 (fun z15 h14 => qIF (z15 = 0) (Q (some (.int (5 : Int32))) h14) (qOB h14 x0 0 (qCI l (d + 2) mX0_useTool [.ref x0, .ref x1, .int (40 : Int32), .int (6 : Int32), .int (3 : Int32)] h14 0 0 (fun z17 h16 => qIF (z17 = 0) (qGI h16 x1 6 1 (fun z18 => qGI h16 x1 6 2 (fun z19 => qCI l (d + 2) mX1_octantOf [.int z18, .int z19, .int z3, .int z6] h16 0 0 (fun z21 h20 => qOB h20 x1 6 (qCV l (d + 2) mX6_keep [.ref x1, .int x2, .int (40 : Int32), .int x3, .int z21] h20 0 0 (fun h22 => Q (some (.int z17)) h22)))))) (Q (some (.int z17)) h16)))))))))))))))))))) : q_Ct l (d + 3) mX0_takeImage [.ref x0, .ref x1, .int x2, .int x3] h mc ms Q QX := by
  refine q_body (by decide ) (by intro v hm; simp only [List.mem_cons, List.not_mem_nil, or_false] at hm; rcases hm with rfl | rfl | rfl | rfl <;> rfl) (Nat.le_of_ble_eq_true rfl) ?_
  refine j_pad 3 rfl ?_
  refine j_aload_n dX0_takeImage_0 rfl rfl ?_
  obtain ⟨fs, r1, e1, e2, hv⟩ := hv
  refine j_getf (k := 2) cl_X0 (by decide) w_f_X0_36 dX0_takeImage_1 e1 e2 ?_
  refine j_iload_n dX0_takeImage_4 rfl rfl ?_
  obtain ⟨⟨fs, e1⟩, hv⟩ := hv
  refine j_virtual (avs := [.int x2]) (rest := []) (i := r1) (kc' := mc) (ks' := ms) dX0_takeImage_5 mt_X7_xOf w_m_X0_161 w_in_X7_xOf w_se_X7_xOf rfl rfl (Nat.le_of_ble_eq_true rfl) (Nat.le_refl _) (by omega) (by omega) cl_X7.1 e1 hv (fun _ _ q9 => q9) ?_
  rintro _ h2 ⟨z3, rfl, hv⟩ -
  refine j_istore dX0_takeImage_8 (by decide) rfl rfl ?_
  refine j_aload_n dX0_takeImage_10 rfl rfl ?_
  obtain ⟨fs, r4, e1, e2, hv⟩ := hv
  refine j_getf (k := 2) cl_X0 (by decide) w_f_X0_36 dX0_takeImage_11 e1 e2 ?_
  refine j_iload_n dX0_takeImage_14 rfl rfl ?_
  obtain ⟨⟨fs, e1⟩, hv⟩ := hv
  refine j_virtual (avs := [.int x2]) (rest := []) (i := r4) (kc' := mc) (ks' := ms) dX0_takeImage_15 mt_X7_yOf w_m_X0_166 w_in_X7_yOf w_se_X7_yOf rfl rfl (Nat.le_of_ble_eq_true rfl) (Nat.le_refl _) (by omega) (by omega) cl_X7.1 e1 hv (fun _ _ q9 => q9) ?_
  rintro _ h5 ⟨z6, rfl, hv⟩ -
  refine j_istore dX0_takeImage_18 (by decide) rfl rfl ?_
  refine j_aload_n dX0_takeImage_20 rfl rfl ?_
  obtain ⟨fs, z7, e1, e2, hv⟩ := hv
  refine j_getfN (k := 1) cl_X6 (by decide) w_fn_X0_132 dX0_takeImage_21 e1 e2 ?_
  refine j_aload_n dX0_takeImage_24 rfl rfl ?_
  obtain ⟨fs, z8, e1, e2, hv⟩ := hv
  refine j_getfN (k := 2) cl_X6 (by decide) w_fn_X0_135 dX0_takeImage_25 e1 e2 ?_
  refine j_iload dX0_takeImage_28 rfl ?_
  refine j_iload dX0_takeImage_30 rfl ?_
  refine j_static (avs := [.int z7, .int z8, .int z3, .int z6]) (rest := []) (kc' := mc) (ks' := ms) dX0_takeImage_32 mt_X1_distance w_m_X0_169 w_st_X1_distance rfl rfl (Nat.le_of_ble_eq_true rfl) (Nat.le_refl _) (by omega) (by omega) hv (fun _ _ q9 => q9) ?_
  rintro _ h9 ⟨z10, rfl, hv⟩ -
  refine j_bipush (v := (6 : Int32)) dX0_takeImage_35 (by decide) ?_
  refine j_icmp_gt (tgt := 62) dX0_takeImage_37 (by decide) (fun hc => ?_) (fun hc => ?_)
  · replace hv := hv.1 hc
    refine j_iconst (v := (5 : Int32)) dX0_takeImage_62 (by decide) ?_
    exact j_iret dX0_takeImage_63 rfl hv
  · replace hv := hv.2 hc
    refine j_aload_n dX0_takeImage_40 rfl rfl ?_
    obtain ⟨fs, r11, e1, e2, hv⟩ := hv
    refine j_getf (k := 0) cl_X0 (by decide) w_f_X0_28 dX0_takeImage_41 e1 e2 ?_
    refine j_aload_n dX0_takeImage_44 rfl rfl ?_
    obtain ⟨fs, z12, e1, e2, hv⟩ := hv
    refine j_getfN (k := 1) cl_X6 (by decide) w_fn_X0_132 dX0_takeImage_45 e1 e2 ?_
    refine j_aload_n dX0_takeImage_48 rfl rfl ?_
    obtain ⟨fs, z13, e1, e2, hv⟩ := hv
    refine j_getfN (k := 2) cl_X6 (by decide) w_fn_X0_135 dX0_takeImage_49 e1 e2 ?_
    refine j_iload dX0_takeImage_52 rfl ?_
    refine j_iload dX0_takeImage_54 rfl ?_
    obtain ⟨⟨fs, e1⟩, hv⟩ := hv
    refine j_virtual (avs := [.int z12, .int z13, .int z3, .int z6]) (rest := []) (i := r11) (kc' := mc) (ks' := ms) dX0_takeImage_56 mt_X1_isSeen w_m_X0_173 w_in_X1_isSeen w_se_X1_isSeen rfl rfl (Nat.le_of_ble_eq_true rfl) (Nat.le_refl _) (by omega) (by omega) cl_X1.1 e1 hv (fun _ _ q9 => q9) ?_
    rintro _ h14 ⟨z15, rfl, hv⟩ -
    refine j_if_ne (tgt := 64) dX0_takeImage_59 (by decide) (fun hc => ?_) (fun hc => ?_)
    · replace hv := hv.2 hc
      refine j_aload_n dX0_takeImage_64 rfl rfl ?_
      refine j_aload_n dX0_takeImage_65 rfl rfl ?_
      refine j_bipush (v := (40 : Int32)) dX0_takeImage_66 (by decide) ?_
      refine j_bipush (v := (6 : Int32)) dX0_takeImage_68 (by decide) ?_
      refine j_iconst (v := (3 : Int32)) dX0_takeImage_70 (by decide) ?_
      obtain ⟨⟨fs, e1⟩, hv⟩ := hv
      refine j_virtual (avs := [.ref x1, .int (40 : Int32), .int (6 : Int32), .int (3 : Int32)]) (rest := []) (i := x0) (kc' := mc) (ks' := ms) dX0_takeImage_71 mt_X0_useTool w_m_X0_177 w_in_X0_useTool w_se_X0_useTool rfl rfl (Nat.le_of_ble_eq_true rfl) (Nat.le_refl _) (by omega) (by omega) cl_X0.1 e1 hv (fun _ _ q9 => q9) ?_
      rintro _ h16 ⟨z17, rfl, hv⟩ -
      refine j_istore dX0_takeImage_74 (by decide) rfl rfl ?_
      refine j_iload dX0_takeImage_76 rfl ?_
      refine j_if_ne (tgt := 104) dX0_takeImage_78 (by decide) (fun hc => ?_) (fun hc => ?_)
      · replace hv := hv.2 hc
        refine j_iload dX0_takeImage_104 rfl ?_
        exact j_iret dX0_takeImage_106 rfl hv
      · replace hv := hv.1 hc
        refine j_aload_n dX0_takeImage_81 rfl rfl ?_
        refine j_iload_n dX0_takeImage_82 rfl rfl ?_
        refine j_bipush (v := (40 : Int32)) dX0_takeImage_83 (by decide) ?_
        refine j_iload_n dX0_takeImage_85 rfl rfl ?_
        refine j_aload_n dX0_takeImage_86 rfl rfl ?_
        obtain ⟨fs, z18, e1, e2, hv⟩ := hv
        refine j_getfN (k := 1) cl_X6 (by decide) w_fn_X0_132 dX0_takeImage_87 e1 e2 ?_
        refine j_aload_n dX0_takeImage_90 rfl rfl ?_
        obtain ⟨fs, z19, e1, e2, hv⟩ := hv
        refine j_getfN (k := 2) cl_X6 (by decide) w_fn_X0_135 dX0_takeImage_91 e1 e2 ?_
        refine j_iload dX0_takeImage_94 rfl ?_
        refine j_iload dX0_takeImage_96 rfl ?_
        refine j_static (avs := [.int z18, .int z19, .int z3, .int z6]) (rest := [.int x3, .int (40 : Int32), .int x2, .ref x1]) (kc' := mc) (ks' := ms) dX0_takeImage_98 mt_X1_octantOf w_m_X0_180 w_st_X1_octantOf rfl rfl (Nat.le_of_ble_eq_true rfl) (Nat.le_refl _) (by omega) (by omega) hv (fun _ _ q9 => q9) ?_
        rintro _ h20 ⟨z21, rfl, hv⟩ -
        obtain ⟨⟨fs, e1⟩, hv⟩ := hv
        refine j_virtual (avs := [.int x2, .int (40 : Int32), .int x3, .int z21]) (rest := []) (i := x1) (kc' := mc) (ks' := ms) dX0_takeImage_101 mt_X6_keep w_m_X0_183 w_in_X6_keep w_se_X6_keep rfl rfl (Nat.le_of_ble_eq_true rfl) (Nat.le_refl _) (by omega) (by omega) cl_X6.1 e1 hv (fun _ _ q9 => q9) ?_
        rintro _ h22 ⟨rfl, hv⟩ -
        refine j_iload dX0_takeImage_104 rfl ?_
        exact j_iret dX0_takeImage_106 rfl hv
    · replace hv := hv.1 hc
      refine j_iconst (v := (5 : Int32)) dX0_takeImage_62 (by decide) ?_
      exact j_iret dX0_takeImage_63 rfl hv
set_option maxRecDepth 20000 in
set_option maxHeartbeats 4000000 in
theorem v_X0_takeTouch {l : Launch} {d mc ms : Nat} {Q : Option Value → qH → Prop} {QX : String → qH → Prop} (x0 : Nat) (x1 : Nat) (x2 : Int32) (x3 : Int32) {h : qH} (hv : qGI h x1 6 1 (fun z1 => qGI h x1 6 2 (fun z2 => qGR h x0 0 2 (fun r3 => qOB h r3 7 (qCI l (d + 2) mX7_xOf [.ref r3, .int x2] h 0 0 (fun z5 h4 => qGR h4 x0 0 2 (fun r6 => qOB h4 r6 7 (qCI l (d + 2) mX7_yOf [.ref r6, .int x2] h4 0 0 (fun z8 h7 => qCI l (d + 2) mX1_distance [.int z1, .int z2, .int z5, .int z8] h7 0 0 (fun z10 h9 => qIF (z10 ≤ (1 : Int32)) (qOB h9 x0 0 (qCI l (d + 2) mX0_useTool [.ref x0, .ref x1, .int (90 : Int32), .int (25 : Int32), .int (5 : Int32)] h9 0 0 (fun z12 h11 => qIF (z12 = 0) (qOB h11 x1 6 (qCV l (d + 2) mX6_keep [.ref x1, .int x2, .int (90 : Int32), .int x3, .int (9 : Int32)] h11 0 0 (fun h13 => Q (some (.int z12)) h13))) (Q (some (.int z12)) h11)))) (Q (some (.int (5 : Int32))) h9))))))))))) : q_Ct l (d + 3) mX0_takeTouch [.ref x0, .ref x1, .int x2, .int x3] h mc ms Q QX := by
  refine q_body (by decide ) (by intro v hm; simp only [List.mem_cons, List.not_mem_nil, or_false] at hm; rcases hm with rfl | rfl | rfl | rfl <;> rfl) (Nat.le_of_ble_eq_true rfl) ?_
  refine j_pad 1 rfl ?_
  refine j_aload_n dX0_takeTouch_0 rfl rfl ?_
  obtain ⟨fs, z1, e1, e2, hv⟩ := hv
  refine j_getfN (k := 1) cl_X6 (by decide) w_fn_X0_132 dX0_takeTouch_1 e1 e2 ?_
  refine j_aload_n dX0_takeTouch_4 rfl rfl ?_
  obtain ⟨fs, z2, e1, e2, hv⟩ := hv
  refine j_getfN (k := 2) cl_X6 (by decide) w_fn_X0_135 dX0_takeTouch_5 e1 e2 ?_
  refine j_aload_n dX0_takeTouch_8 rfl rfl ?_
  obtain ⟨fs, r3, e1, e2, hv⟩ := hv
  refine j_getf (k := 2) cl_X0 (by decide) w_f_X0_36 dX0_takeTouch_9 e1 e2 ?_
  refine j_iload_n dX0_takeTouch_12 rfl rfl ?_
  obtain ⟨⟨fs, e1⟩, hv⟩ := hv
  refine j_virtual (avs := [.int x2]) (rest := [.int z2, .int z1]) (i := r3) (kc' := mc) (ks' := ms) dX0_takeTouch_13 mt_X7_xOf w_m_X0_161 w_in_X7_xOf w_se_X7_xOf rfl rfl (Nat.le_of_ble_eq_true rfl) (Nat.le_refl _) (by omega) (by omega) cl_X7.1 e1 hv (fun _ _ q9 => q9) ?_
  rintro _ h4 ⟨z5, rfl, hv⟩ -
  refine j_aload_n dX0_takeTouch_16 rfl rfl ?_
  obtain ⟨fs, r6, e1, e2, hv⟩ := hv
  refine j_getf (k := 2) cl_X0 (by decide) w_f_X0_36 dX0_takeTouch_17 e1 e2 ?_
  refine j_iload_n dX0_takeTouch_20 rfl rfl ?_
  obtain ⟨⟨fs, e1⟩, hv⟩ := hv
  refine j_virtual (avs := [.int x2]) (rest := [.int z5, .int z2, .int z1]) (i := r6) (kc' := mc) (ks' := ms) dX0_takeTouch_21 mt_X7_yOf w_m_X0_166 w_in_X7_yOf w_se_X7_yOf rfl rfl (Nat.le_of_ble_eq_true rfl) (Nat.le_refl _) (by omega) (by omega) cl_X7.1 e1 hv (fun _ _ q9 => q9) ?_
  rintro _ h7 ⟨z8, rfl, hv⟩ -
  refine j_static (avs := [.int z1, .int z2, .int z5, .int z8]) (rest := []) (kc' := mc) (ks' := ms) dX0_takeTouch_24 mt_X1_distance w_m_X0_169 w_st_X1_distance rfl rfl (Nat.le_of_ble_eq_true rfl) (Nat.le_refl _) (by omega) (by omega) hv (fun _ _ q9 => q9) ?_
  rintro _ h9 ⟨z10, rfl, hv⟩ -
  refine j_iconst (v := (1 : Int32)) dX0_takeTouch_27 (by decide) ?_
  refine j_icmp_le (tgt := 33) dX0_takeTouch_28 (by decide) (fun hc => ?_) (fun hc => ?_)
  · replace hv := hv.1 hc
    refine j_aload_n dX0_takeTouch_33 rfl rfl ?_
    refine j_aload_n dX0_takeTouch_34 rfl rfl ?_
    refine j_bipush (v := (90 : Int32)) dX0_takeTouch_35 (by decide) ?_
    refine j_bipush (v := (25 : Int32)) dX0_takeTouch_37 (by decide) ?_
    refine j_iconst (v := (5 : Int32)) dX0_takeTouch_39 (by decide) ?_
    obtain ⟨⟨fs, e1⟩, hv⟩ := hv
    refine j_virtual (avs := [.ref x1, .int (90 : Int32), .int (25 : Int32), .int (5 : Int32)]) (rest := []) (i := x0) (kc' := mc) (ks' := ms) dX0_takeTouch_40 mt_X0_useTool w_m_X0_177 w_in_X0_useTool w_se_X0_useTool rfl rfl (Nat.le_of_ble_eq_true rfl) (Nat.le_refl _) (by omega) (by omega) cl_X0.1 e1 hv (fun _ _ q9 => q9) ?_
    rintro _ h11 ⟨z12, rfl, hv⟩ -
    refine j_istore dX0_takeTouch_43 (by decide) rfl rfl ?_
    refine j_iload dX0_takeTouch_45 rfl ?_
    refine j_if_ne (tgt := 60) dX0_takeTouch_47 (by decide) (fun hc => ?_) (fun hc => ?_)
    · replace hv := hv.2 hc
      refine j_iload dX0_takeTouch_60 rfl ?_
      exact j_iret dX0_takeTouch_62 rfl hv
    · replace hv := hv.1 hc
      refine j_aload_n dX0_takeTouch_50 rfl rfl ?_
      refine j_iload_n dX0_takeTouch_51 rfl rfl ?_
      refine j_bipush (v := (90 : Int32)) dX0_takeTouch_52 (by decide) ?_
      refine j_iload_n dX0_takeTouch_54 rfl rfl ?_
      refine j_bipush (v := (9 : Int32)) dX0_takeTouch_55 (by decide) ?_
      obtain ⟨⟨fs, e1⟩, hv⟩ := hv
      refine j_virtual (avs := [.int x2, .int (90 : Int32), .int x3, .int (9 : Int32)]) (rest := []) (i := x1) (kc' := mc) (ks' := ms) dX0_takeTouch_57 mt_X6_keep w_m_X0_183 w_in_X6_keep w_se_X6_keep rfl rfl (Nat.le_of_ble_eq_true rfl) (Nat.le_refl _) (by omega) (by omega) cl_X6.1 e1 hv (fun _ _ q9 => q9) ?_
      rintro _ h13 ⟨rfl, hv⟩ -
      refine j_iload dX0_takeTouch_60 rfl ?_
      exact j_iret dX0_takeTouch_62 rfl hv
  · replace hv := hv.2 hc
    refine j_iconst (v := (5 : Int32)) dX0_takeTouch_31 (by decide) ?_
    exact j_iret dX0_takeTouch_32 rfl hv
set_option maxRecDepth 20000 in
set_option maxHeartbeats 4000000 in
theorem v_X0_useTool {l : Launch} {d mc ms : Nat} {Q : Option Value → qH → Prop} {QX : String → qH → Prop} (x0 : Nat) (x1 : Nat) (x2 : Int32) (x3 : Int32) (x4 : Int32) {h : qH} (hv : qGI h x1 6 4 (fun z1 => qIF ((-40 : Int32) ≤ z1) (qOB h x1 6 (qCI l (d + 1) mX6_isFull [.ref x1] h 0 0 (fun z3 h2 => qIF (z3 = 0) (qOB h2 x1 6 (qCI l (d + 1) mX6_unitsKept [.ref x1] h2 0 0 (fun z5 h4 => qGI h4 x0 0 6 (fun z6 => qIF ((z5 + x2) ≤ z6) (qOB h4 x0 0 (qCI l (d + 1) mX0_passMinutes [.ref x0, .ref x1, .int x3, .int (1 : Int32), .int x4] h4 0 0 (fun z8 h7 => Q (some (.int z8)) h7))) (Q (some (.int (4 : Int32))) h4))))) (Q (some (.int (4 : Int32))) h2)))) (Q (some (.int (3 : Int32))) h))) : q_Ct l (d + 2) mX0_useTool [.ref x0, .ref x1, .int x2, .int x3, .int x4] h mc ms Q QX := by
  refine q_body (by decide ) (by intro v hm; simp only [List.mem_cons, List.not_mem_nil, or_false] at hm; rcases hm with rfl | rfl | rfl | rfl | rfl <;> rfl) (Nat.le_of_ble_eq_true rfl) ?_
  refine j_pad 0 rfl ?_
  refine j_aload_n dX0_useTool_0 rfl rfl ?_
  obtain ⟨fs, z1, e1, e2, hv⟩ := hv
  refine j_getfN (k := 4) cl_X6 (by decide) w_fn_X0_112 dX0_useTool_1 e1 e2 ?_
  refine j_bipush (v := (-40 : Int32)) dX0_useTool_4 (by decide) ?_
  refine j_icmp_ge (tgt := 11) dX0_useTool_6 (by decide) (fun hc => ?_) (fun hc => ?_)
  · replace hv := hv.1 hc
    refine j_aload_n dX0_useTool_11 rfl rfl ?_
    obtain ⟨⟨fs, e1⟩, hv⟩ := hv
    refine j_virtual (avs := []) (rest := []) (i := x1) (kc' := mc) (ks' := ms) dX0_useTool_12 mt_X6_isFull w_m_X0_187 w_in_X6_isFull w_se_X6_isFull rfl rfl (Nat.le_of_ble_eq_true rfl) (Nat.le_refl _) (by omega) (by omega) cl_X6.1 e1 hv (fun _ _ q9 => q9) ?_
    rintro _ h2 ⟨z3, rfl, hv⟩ -
    refine j_if_ne (tgt := 31) dX0_useTool_15 (by decide) (fun hc => ?_) (fun hc => ?_)
    · replace hv := hv.2 hc
      refine j_iconst (v := (4 : Int32)) dX0_useTool_31 (by decide) ?_
      exact j_iret dX0_useTool_32 rfl hv
    · replace hv := hv.1 hc
      refine j_aload_n dX0_useTool_18 rfl rfl ?_
      obtain ⟨⟨fs, e1⟩, hv⟩ := hv
      refine j_virtual (avs := []) (rest := []) (i := x1) (kc' := mc) (ks' := ms) dX0_useTool_19 mt_X6_unitsKept w_m_X0_191 w_in_X6_unitsKept w_se_X6_unitsKept rfl rfl (Nat.le_of_ble_eq_true rfl) (Nat.le_refl _) (by omega) (by omega) cl_X6.1 e1 hv (fun _ _ q9 => q9) ?_
      rintro _ h4 ⟨z5, rfl, hv⟩ -
      refine j_iload_n dX0_useTool_22 rfl rfl ?_
      refine j_iadd dX0_useTool_23 ?_
      refine j_aload_n dX0_useTool_24 rfl rfl ?_
      obtain ⟨fs, z6, e1, e2, hv⟩ := hv
      refine j_getf (k := 6) cl_X0 (by decide) w_f_X0_22 dX0_useTool_25 e1 e2 ?_
      refine j_icmp_le (tgt := 33) dX0_useTool_28 (by decide) (fun hc => ?_) (fun hc => ?_)
      · replace hv := hv.1 hc
        refine j_aload_n dX0_useTool_33 rfl rfl ?_
        refine j_aload_n dX0_useTool_34 rfl rfl ?_
        refine j_iload_n dX0_useTool_35 rfl rfl ?_
        refine j_iconst (v := (1 : Int32)) dX0_useTool_36 (by decide) ?_
        refine j_iload dX0_useTool_37 rfl ?_
        obtain ⟨⟨fs, e1⟩, hv⟩ := hv
        refine j_virtual (avs := [.ref x1, .int x3, .int (1 : Int32), .int x4]) (rest := []) (i := x0) (kc' := mc) (ks' := ms) dX0_useTool_39 mt_X0_passMinutes w_m_X0_147 w_in_X0_passMinutes w_se_X0_passMinutes rfl rfl (Nat.le_of_ble_eq_true rfl) (Nat.le_refl _) (by omega) (by omega) cl_X0.1 e1 hv (fun _ _ q9 => q9) ?_
        rintro _ h7 ⟨z8, rfl, hv⟩ -
        exact j_iret dX0_useTool_42 rfl hv
      · replace hv := hv.2 hc
        refine j_iconst (v := (4 : Int32)) dX0_useTool_31 (by decide) ?_
        exact j_iret dX0_useTool_32 rfl hv
  · replace hv := hv.2 hc
    refine j_iconst (v := (3 : Int32)) dX0_useTool_9 (by decide) ?_
    exact j_iret dX0_useTool_10 rfl hv
set_option maxRecDepth 20000 in
set_option maxHeartbeats 4000000 in
theorem v_X0_transmit_23 {l : Launch} {d mc ms n0 kc ks : Nat} {Q : Option Value → qH → Prop} {QX : String → qH → Prop} (x0 : Nat) (x1 : Nat) (x2 : Int32) (x3 : Int32) {h : qH} (hv : qIF (x2 ≤ x3) (Q (some (.int (0 : Int32))) h) (qGI h x1 6 9 (fun z1 => qIF (z1 ≤ 0) (Q (some (.int (0 : Int32))) h) (qGR h x0 0 3 (fun r2 => qGI h x1 6 0 (fun z3 => qOB h r2 4 (qCI l (d + 2) mX4_rateAt [.ref r2, .int (z3 - z3 / (1440 : Int32) * (1440 : Int32))] h 0 0 (fun z5 h4 => qOB h4 x1 6 (qCV l (d + 2) mX6_sendUnits [.ref x1, .int z5] h4 0 0 (fun h6 => qOB h6 x0 0 (qCI l (d + 2) mX0_passMinutes [.ref x0, .ref x1, .int (1 : Int32), .int (1 : Int32), .int (4 : Int32)] h6 0 0 (fun z8 h7 => qIF (z8 = 0) (q_J l (d + 3) mX0_transmit mc ms Q QX n0 23 [some (.ref x0), some (.ref x1), some (.int x2), some (.int (x3 + (1 : Int32))), none] [] h7 kc ks) (Q (some (.int z8)) h7))))))))))))) : q_J l (d + 3) mX0_transmit mc ms Q QX n0 23 [some (.ref x0), some (.ref x1), some (.int x2), some (.int x3), none] [] h kc ks := by
  refine j_iload_n dX0_transmit_23 rfl rfl ?_
  refine j_iload_n dX0_transmit_24 rfl rfl ?_
  refine j_icmp_ge (tgt := 78) dX0_transmit_25 (by decide) (fun hc => ?_) (fun hc => ?_)
  · replace hv := hv.1 hc
    refine j_iconst (v := (0 : Int32)) dX0_transmit_78 (by decide) ?_
    exact j_iret dX0_transmit_79 rfl hv
  · replace hv := hv.2 hc
    refine j_aload_n dX0_transmit_28 rfl rfl ?_
    obtain ⟨fs, z1, e1, e2, hv⟩ := hv
    refine j_getfN (k := 9) cl_X6 (by decide) w_fn_X0_200 dX0_transmit_29 e1 e2 ?_
    refine j_if_le (tgt := 78) dX0_transmit_32 (by decide) (fun hc => ?_) (fun hc => ?_)
    · replace hv := hv.1 hc
      refine j_iconst (v := (0 : Int32)) dX0_transmit_78 (by decide) ?_
      exact j_iret dX0_transmit_79 rfl hv
    · replace hv := hv.2 hc
      refine j_aload_n dX0_transmit_35 rfl rfl ?_
      refine j_aload_n dX0_transmit_36 rfl rfl ?_
      obtain ⟨fs, r2, e1, e2, hv⟩ := hv
      refine j_getf (k := 3) cl_X0 (by decide) w_f_X0_40 dX0_transmit_37 e1 e2 ?_
      refine j_aload_n dX0_transmit_40 rfl rfl ?_
      obtain ⟨fs, z3, e1, e2, hv⟩ := hv
      refine j_getfN (k := 0) cl_X6 (by decide) w_fn_X0_96 dX0_transmit_41 e1 e2 ?_
      refine j_sipush (v := (1440 : Int32)) dX0_transmit_44 (by decide) ?_
      refine j_irem dX0_transmit_47 (by decide) ?_
      obtain ⟨⟨fs, e1⟩, hv⟩ := hv
      refine j_virtual (avs := [.int (z3 - z3 / (1440 : Int32) * (1440 : Int32))]) (rest := [.ref x1]) (i := r2) (kc' := kc) (ks' := ks) dX0_transmit_48 mt_X4_rateAt w_m_X0_195 w_in_X4_rateAt w_se_X4_rateAt rfl rfl (Nat.le_of_ble_eq_true rfl) (Nat.le_refl _) (by omega) (by omega) cl_X4.1 e1 hv (fun _ _ q9 => q9) ?_
      rintro _ h4 ⟨z5, rfl, hv⟩ -
      obtain ⟨⟨fs, e1⟩, hv⟩ := hv
      refine j_virtual (avs := [.int z5]) (rest := []) (i := x1) (kc' := kc) (ks' := ks) dX0_transmit_51 mt_X6_sendUnits w_m_X0_203 w_in_X6_sendUnits w_se_X6_sendUnits rfl rfl (Nat.le_of_ble_eq_true rfl) (Nat.le_refl _) (by omega) (by omega) cl_X6.1 e1 hv (fun _ _ q9 => q9) ?_
      rintro _ h6 ⟨rfl, hv⟩ -
      refine j_aload_n dX0_transmit_54 rfl rfl ?_
      refine j_aload_n dX0_transmit_55 rfl rfl ?_
      refine j_iconst (v := (1 : Int32)) dX0_transmit_56 (by decide) ?_
      refine j_iconst (v := (1 : Int32)) dX0_transmit_57 (by decide) ?_
      refine j_iconst (v := (4 : Int32)) dX0_transmit_58 (by decide) ?_
      obtain ⟨⟨fs, e1⟩, hv⟩ := hv
      refine j_virtual (avs := [.ref x1, .int (1 : Int32), .int (1 : Int32), .int (4 : Int32)]) (rest := []) (i := x0) (kc' := kc) (ks' := ks) dX0_transmit_59 mt_X0_passMinutes w_m_X0_147 w_in_X0_passMinutes w_se_X0_passMinutes rfl rfl (Nat.le_of_ble_eq_true rfl) (Nat.le_refl _) (by omega) (by omega) cl_X0.1 e1 hv (fun _ _ q9 => q9) ?_
      rintro _ h7 ⟨z8, rfl, hv⟩ -
      refine j_istore dX0_transmit_62 (by decide) rfl rfl ?_
      refine j_iload dX0_transmit_64 rfl ?_
      refine j_if_eq (tgt := 72) dX0_transmit_66 (by decide) (fun hc => ?_) (fun hc => ?_)
      · replace hv := hv.1 hc
        refine j_iinc (w := (x3 + (1 : Int32))) dX0_transmit_72 rfl (by rfl) (by decide) rfl rfl ?_
        refine j_goto (tgt := 23) dX0_transmit_75 (by decide) ?_
        refine j_mask [true, true, true, true, false] rfl ?_
        exact hv
      · replace hv := hv.2 hc
        refine j_iload dX0_transmit_69 rfl ?_
        exact j_iret dX0_transmit_71 rfl hv
set_option maxRecDepth 20000 in
set_option maxHeartbeats 4000000 in
theorem v_X0_transmit {l : Launch} {d mc ms : Nat} {Q : Option Value → qH → Prop} {QX : String → qH → Prop} (x0 : Nat) (x1 : Nat) (x2 : Int32) {h : qH} (hv : qGR h x0 0 3 (fun r1 => qGI h x1 6 0 (fun z2 => qOB h r1 4 (qCI l (d + 2) mX4_rateAt [.ref r1, .int (z2 - z2 / (1440 : Int32) * (1440 : Int32))] h 0 0 (fun z4 h3 => qIF (z4 = 0) (Q (some (.int (6 : Int32))) h3) (q_J l (d + 3) mX0_transmit mc ms Q QX h.2 23 [some (.ref x0), some (.ref x1), some (.int x2), some (.int (0 : Int32)), none] [] h3 mc ms)))))) : q_Ct l (d + 3) mX0_transmit [.ref x0, .ref x1, .int x2] h mc ms Q QX := by
  refine q_body (by decide ) (by intro v hm; simp only [List.mem_cons, List.not_mem_nil, or_false] at hm; rcases hm with rfl | rfl | rfl <;> rfl) (Nat.le_of_ble_eq_true rfl) ?_
  refine j_pad 2 rfl ?_
  refine j_aload_n dX0_transmit_0 rfl rfl ?_
  obtain ⟨fs, r1, e1, e2, hv⟩ := hv
  refine j_getf (k := 3) cl_X0 (by decide) w_f_X0_40 dX0_transmit_1 e1 e2 ?_
  refine j_aload_n dX0_transmit_4 rfl rfl ?_
  obtain ⟨fs, z2, e1, e2, hv⟩ := hv
  refine j_getfN (k := 0) cl_X6 (by decide) w_fn_X0_96 dX0_transmit_5 e1 e2 ?_
  refine j_sipush (v := (1440 : Int32)) dX0_transmit_8 (by decide) ?_
  refine j_irem dX0_transmit_11 (by decide) ?_
  obtain ⟨⟨fs, e1⟩, hv⟩ := hv
  refine j_virtual (avs := [.int (z2 - z2 / (1440 : Int32) * (1440 : Int32))]) (rest := []) (i := r1) (kc' := mc) (ks' := ms) dX0_transmit_12 mt_X4_rateAt w_m_X0_195 w_in_X4_rateAt w_se_X4_rateAt rfl rfl (Nat.le_of_ble_eq_true rfl) (Nat.le_refl _) (by omega) (by omega) cl_X4.1 e1 hv (fun _ _ q9 => q9) ?_
  rintro _ h3 ⟨z4, rfl, hv⟩ -
  refine j_if_ne (tgt := 21) dX0_transmit_15 (by decide) (fun hc => ?_) (fun hc => ?_)
  · replace hv := hv.2 hc
    refine j_iconst (v := (0 : Int32)) dX0_transmit_21 (by decide) ?_
    refine j_istore_n dX0_transmit_22 rfl (by decide) rfl rfl ?_
    exact hv
  · replace hv := hv.1 hc
    refine j_bipush (v := (6 : Int32)) dX0_transmit_18 (by decide) ?_
    exact j_iret dX0_transmit_20 rfl hv
set_option maxRecDepth 20000 in
set_option maxHeartbeats 4000000 in
theorem v_X0_rest {l : Launch} {d mc ms : Nat} {Q : Option Value → qH → Prop} {QX : String → qH → Prop} (x0 : Nat) (x1 : Nat) (x2 : Int32) (x3 : Int32) {h : qH} (hv : qGI h x1 6 0 (fun z1 => qCI l (d + 1) mJ9_floorMod_7cf53 [.int ((x2 - z1) - (1 : Int32)), .int (1440 : Int32)] h 0 0 (fun z3 h2 => qOB h2 x0 0 (qCI l (d + 1) mX0_passMinutes [.ref x0, .ref x1, .int ((1 : Int32) + z3), .int x3, .int (0 : Int32)] h2 0 0 (fun z5 h4 => Q (some (.int z5)) h4))))) : q_Ct l (d + 2) mX0_rest [.ref x0, .ref x1, .int x2, .int x3] h mc ms Q QX := by
  refine q_body (by decide ) (by intro v hm; simp only [List.mem_cons, List.not_mem_nil, or_false] at hm; rcases hm with rfl | rfl | rfl | rfl <;> rfl) (Nat.le_of_ble_eq_true rfl) ?_
  refine j_pad 1 rfl ?_
  refine j_iconst (v := (1 : Int32)) dX0_rest_0 (by decide) ?_
  refine j_iload_n dX0_rest_1 rfl rfl ?_
  refine j_aload_n dX0_rest_2 rfl rfl ?_
  obtain ⟨fs, z1, e1, e2, hv⟩ := hv
  refine j_getfN (k := 0) cl_X6 (by decide) w_fn_X0_96 dX0_rest_3 e1 e2 ?_
  refine j_isub dX0_rest_6 ?_
  refine j_iconst (v := (1 : Int32)) dX0_rest_7 (by decide) ?_
  refine j_isub dX0_rest_8 ?_
  refine j_sipush (v := (1440 : Int32)) dX0_rest_9 (by decide) ?_
  refine j_static (avs := [.int ((x2 - z1) - (1 : Int32)), .int (1440 : Int32)]) (rest := [.int (1 : Int32)]) (kc' := mc) (ks' := ms) dX0_rest_12 mt_J9_floorMod_7cf53 w_m_X0_206 w_st_J9_floorMod_7cf53 rfl rfl (Nat.le_of_ble_eq_true rfl) (Nat.le_refl _) (by omega) (by omega) hv (fun _ _ q9 => q9) ?_
  rintro _ h2 ⟨z3, rfl, hv⟩ -
  refine j_iadd dX0_rest_15 ?_
  refine j_istore dX0_rest_16 (by decide) rfl rfl ?_
  refine j_aload_n dX0_rest_18 rfl rfl ?_
  refine j_aload_n dX0_rest_19 rfl rfl ?_
  refine j_iload dX0_rest_20 rfl ?_
  refine j_iload_n dX0_rest_22 rfl rfl ?_
  refine j_iconst (v := (0 : Int32)) dX0_rest_23 (by decide) ?_
  obtain ⟨⟨fs, e1⟩, hv⟩ := hv
  refine j_virtual (avs := [.ref x1, .int ((1 : Int32) + z3), .int x3, .int (0 : Int32)]) (rest := []) (i := x0) (kc' := mc) (ks' := ms) dX0_rest_24 mt_X0_passMinutes w_m_X0_147 w_in_X0_passMinutes w_se_X0_passMinutes rfl rfl (Nat.le_of_ble_eq_true rfl) (Nat.le_refl _) (by omega) (by omega) cl_X0.1 e1 hv (fun _ _ q9 => q9) ?_
  rintro _ h4 ⟨z5, rfl, hv⟩ -
  exact j_iret dX0_rest_27 rfl hv
set_option maxRecDepth 20000 in
set_option maxHeartbeats 4000000 in
theorem v_X0_clean {l : Launch} {d mc ms : Nat} {Q : Option Value → qH → Prop} {QX : String → qH → Prop} (x0 : Nat) (x1 : Nat) {h : qH} (hv : qOB h x0 0 (qCI l (d + 1) mX0_passMinutes [.ref x0, .ref x1, .int (15 : Int32), .int (1 : Int32), .int (6 : Int32)] h 0 0 (fun z2 h1 => qIF (z2 = 0) (qGI h1 x1 6 5 (fun z3 => qPI h1 x1 6 5 (if (z3 + (10 : Int32)) < (100 : Int32) then (z3 + (10 : Int32)) else (100 : Int32)) (fun h5 => Q (some (.int z2)) h5))) (Q (some (.int z2)) h1)))) : q_Ct l (d + 2) mX0_clean [.ref x0, .ref x1] h mc ms Q QX := by
  refine q_body (by decide ) (by intro v hm; simp only [List.mem_cons, List.not_mem_nil, or_false] at hm; rcases hm with rfl | rfl <;> rfl) (Nat.le_of_ble_eq_true rfl) ?_
  refine j_pad 1 rfl ?_
  refine j_aload_n dX0_clean_0 rfl rfl ?_
  refine j_aload_n dX0_clean_1 rfl rfl ?_
  refine j_bipush (v := (15 : Int32)) dX0_clean_2 (by decide) ?_
  refine j_iconst (v := (1 : Int32)) dX0_clean_4 (by decide) ?_
  refine j_bipush (v := (6 : Int32)) dX0_clean_5 (by decide) ?_
  obtain ⟨⟨fs, e1⟩, hv⟩ := hv
  refine j_virtual (avs := [.ref x1, .int (15 : Int32), .int (1 : Int32), .int (6 : Int32)]) (rest := []) (i := x0) (kc' := mc) (ks' := ms) dX0_clean_7 mt_X0_passMinutes w_m_X0_147 w_in_X0_passMinutes w_se_X0_passMinutes rfl rfl (Nat.le_of_ble_eq_true rfl) (Nat.le_refl _) (by omega) (by omega) cl_X0.1 e1 hv (fun _ _ q9 => q9) ?_
  rintro _ h1 ⟨z2, rfl, hv⟩ -
  refine j_istore_n dX0_clean_10 rfl (by decide) rfl rfl ?_
  refine j_iload_n dX0_clean_11 rfl rfl ?_
  refine j_if_ne (tgt := 31) dX0_clean_12 (by decide) (fun hc => ?_) (fun hc => ?_)
  · replace hv := hv.2 hc
    refine j_iload_n dX0_clean_31 rfl rfl ?_
    exact j_iret dX0_clean_32 rfl hv
  · replace hv := hv.1 hc
    refine j_aload_n dX0_clean_15 rfl rfl ?_
    refine j_bipush (v := (100 : Int32)) dX0_clean_16 (by decide) ?_
    refine j_aload_n dX0_clean_18 rfl rfl ?_
    obtain ⟨fs, z3, e1, e2, hv⟩ := hv
    refine j_getfN (k := 5) cl_X6 (by decide) w_fn_X0_106 dX0_clean_19 e1 e2 ?_
    refine j_bipush (v := (10 : Int32)) dX0_clean_22 (by decide) ?_
    refine j_iadd dX0_clean_24 ?_
    refine j_mmin dX0_clean_25 w_m_X0_61 w_st_min w_ini_Math w_co_min (Nat.le_of_ble_eq_true rfl) (by omega) ?_
    obtain ⟨fs, e1, e2, hv⟩ := hv
    refine j_putN (k := 5) (ty0 := tyX6) cl_X6 (pf_X6_5) w_fn_X0_106 dX0_clean_28 (fun g ad => q_nI g ad _) e1 e2 ?_
    generalize q_set h1 x1 _ = h5 at hv ⊢
    refine j_iload_n dX0_clean_31 rfl rfl ?_
    exact j_iret dX0_clean_32 rfl hv
