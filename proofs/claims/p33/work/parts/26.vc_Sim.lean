set_option maxRecDepth 20000 in
set_option maxHeartbeats 4000000 in
theorem v_X10_init {l : Launch} {d mc ms : Nat} {Q : Option Value → qH → Prop} {QX : String → qH → Prop} (hkc : 6 ≤ mc) (hks : 1485 ≤ ms) (x0 : Nat) {h : qH} (hv : qNI h 9 (fun r1 h2 => qAS h2 r1 (0 : Int32) (0 : Int32) (fun h3 => qAS h3 r1 (1 : Int32) (0 : Int32) (fun h4 => qAS h4 r1 (2 : Int32) (0 : Int32) (fun h5 => qAS h5 r1 (3 : Int32) (3000 : Int32) (fun h6 => qAS h6 r1 (4 : Int32) (-20 : Int32) (fun h7 => qAS h7 r1 (5 : Int32) (0 : Int32) (fun h8 => qAS h8 r1 (6 : Int32) (100 : Int32) (fun h9 => qAS h9 r1 (7 : Int32) (0 : Int32) (fun h10 => qAS h10 r1 (8 : Int32) (4000 : Int32) (fun h11 => qPR h11 x0 10 0 r1 (fun h12 => qNA h12 (0 : Int32) 0 (fun r13 h14 => qPR h14 x0 10 1 r13 (fun h15 => qNI h15 12 (fun r16 h17 => qPR h17 x0 10 2 r16 (fun h18 => qNZ h18 12 (fun r19 h20 => qPR h20 x0 10 3 r19 (fun h21 => qPI h21 x0 10 5 (800 : Int32) (fun h22 => qNI h22 1440 (fun r23 h24 => qPR h24 x0 10 6 r23 (fun h25 => qNA h25 (12 : Int32) 12 (fun r26 h27 => qPR h27 x0 10 8 r26 (fun h28 => Q none h28))))))))))))))))))))))) : q_Ct l (d + 1) mX10_init [.ref x0] h mc ms Q QX := by
  refine q_body (by decide ) (by intro v hm; simp only [List.mem_cons, List.not_mem_nil, or_false] at hm; subst hm; rfl) (Nat.le_of_ble_eq_true rfl) ?_
  refine j_pad 0 rfl ?_
  refine j_aload_n dX10_init_0 rfl rfl ?_
  refine j_objInit dX10_init_1 w_m_X10_1 w_in_objInit w_co_objInit (Nat.le_of_ble_eq_true rfl) (by omega) ?_
  refine j_aload_n dX10_init_4 rfl rfl ?_
  refine j_bipush (v := (9 : Int32)) dX10_init_5 (by decide) ?_
  refine jj_newI (N := 9) w_ar_int dX10_init_7 (by decide) (by decide) (by decide) (kc' := (mc - 1)) (ks' := (ms - 9)) (by omega) (by omega) hv (fun r1 h2 hv => ?_)
  refine j_dup dX10_init_9 rfl ?_
  refine j_iconst (v := (0 : Int32)) dX10_init_10 (by decide) ?_
  refine j_iconst (v := (0 : Int32)) dX10_init_11 (by decide) ?_
  obtain ⟨N, f, e1, e2, hv⟩ := hv
  refine j_iast dX10_init_12 e1 e2 ?_
  generalize q_set h2 r1 _ = h3 at hv ⊢
  refine j_dup dX10_init_13 rfl ?_
  refine j_iconst (v := (1 : Int32)) dX10_init_14 (by decide) ?_
  refine j_iconst (v := (0 : Int32)) dX10_init_15 (by decide) ?_
  obtain ⟨N, f, e1, e2, hv⟩ := hv
  refine j_iast dX10_init_16 e1 e2 ?_
  generalize q_set h3 r1 _ = h4 at hv ⊢
  refine j_dup dX10_init_17 rfl ?_
  refine j_iconst (v := (2 : Int32)) dX10_init_18 (by decide) ?_
  refine j_iconst (v := (0 : Int32)) dX10_init_19 (by decide) ?_
  obtain ⟨N, f, e1, e2, hv⟩ := hv
  refine j_iast dX10_init_20 e1 e2 ?_
  generalize q_set h4 r1 _ = h5 at hv ⊢
  refine j_dup dX10_init_21 rfl ?_
  refine j_iconst (v := (3 : Int32)) dX10_init_22 (by decide) ?_
  refine j_sipush (v := (3000 : Int32)) dX10_init_23 (by decide) ?_
  obtain ⟨N, f, e1, e2, hv⟩ := hv
  refine j_iast dX10_init_26 e1 e2 ?_
  generalize q_set h5 r1 _ = h6 at hv ⊢
  refine j_dup dX10_init_27 rfl ?_
  refine j_iconst (v := (4 : Int32)) dX10_init_28 (by decide) ?_
  refine j_bipush (v := (-20 : Int32)) dX10_init_29 (by decide) ?_
  obtain ⟨N, f, e1, e2, hv⟩ := hv
  refine j_iast dX10_init_31 e1 e2 ?_
  generalize q_set h6 r1 _ = h7 at hv ⊢
  refine j_dup dX10_init_32 rfl ?_
  refine j_iconst (v := (5 : Int32)) dX10_init_33 (by decide) ?_
  refine j_iconst (v := (0 : Int32)) dX10_init_34 (by decide) ?_
  obtain ⟨N, f, e1, e2, hv⟩ := hv
  refine j_iast dX10_init_35 e1 e2 ?_
  generalize q_set h7 r1 _ = h8 at hv ⊢
  refine j_dup dX10_init_36 rfl ?_
  refine j_bipush (v := (6 : Int32)) dX10_init_37 (by decide) ?_
  refine j_bipush (v := (100 : Int32)) dX10_init_39 (by decide) ?_
  obtain ⟨N, f, e1, e2, hv⟩ := hv
  refine j_iast dX10_init_41 e1 e2 ?_
  generalize q_set h8 r1 _ = h9 at hv ⊢
  refine j_dup dX10_init_42 rfl ?_
  refine j_bipush (v := (7 : Int32)) dX10_init_43 (by decide) ?_
  refine j_iconst (v := (0 : Int32)) dX10_init_45 (by decide) ?_
  obtain ⟨N, f, e1, e2, hv⟩ := hv
  refine j_iast dX10_init_46 e1 e2 ?_
  generalize q_set h9 r1 _ = h10 at hv ⊢
  refine j_dup dX10_init_47 rfl ?_
  refine j_bipush (v := (8 : Int32)) dX10_init_48 (by decide) ?_
  refine j_sipush (v := (4000 : Int32)) dX10_init_50 (by decide) ?_
  obtain ⟨N, f, e1, e2, hv⟩ := hv
  refine j_iast dX10_init_53 e1 e2 ?_
  generalize q_set h10 r1 _ = h11 at hv ⊢
  obtain ⟨fs, e1, e2, hv⟩ := hv
  refine j_put (k := 0) (ty0 := tyX10) cl_X10 (pf_X10_0) w_f_X10_7 dX10_init_54 (fun g ad => q_nRa g ad _ _) e1 e2 ?_
  generalize q_set h11 x0 _ = h12 at hv ⊢
  refine j_aload_n dX10_init_57 rfl rfl ?_
  refine j_iconst (v := (0 : Int32)) dX10_init_58 (by decide) ?_
  refine jj_newA w_cl_X10_13 dX10_init_59 (by decide) (kc' := (mc - 2)) (ks' := (ms - 9)) (by omega) (by omega) hv (fun r13 h14 hv => ?_)
  obtain ⟨fs, e1, e2, hv⟩ := hv
  refine j_put (k := 1) (ty0 := tyX10) cl_X10 (pf_X10_1) w_f_X10_14 dX10_init_62 (fun g ad => q_nRa g ad _ _) e1 e2 ?_
  generalize q_set h14 x0 _ = h15 at hv ⊢
  refine j_aload_n dX10_init_65 rfl rfl ?_
  refine j_bipush (v := (12 : Int32)) dX10_init_66 (by decide) ?_
  refine jj_newI (N := 12) w_ar_int dX10_init_68 (by decide) (by decide) (by decide) (kc' := (mc - 3)) (ks' := (ms - 21)) (by omega) (by omega) hv (fun r16 h17 hv => ?_)
  obtain ⟨fs, e1, e2, hv⟩ := hv
  refine j_put (k := 2) (ty0 := tyX10) cl_X10 (pf_X10_2) w_f_X10_18 dX10_init_70 (fun g ad => q_nRa g ad _ _) e1 e2 ?_
  generalize q_set h17 x0 _ = h18 at hv ⊢
  refine j_aload_n dX10_init_73 rfl rfl ?_
  refine j_bipush (v := (12 : Int32)) dX10_init_74 (by decide) ?_
  refine jj_newZ (N := 12) w_ar_boolean dX10_init_76 (by decide) (by decide) (by decide) (kc' := (mc - 4)) (ks' := (ms - 33)) (by omega) (by omega) hv (fun r19 h20 hv => ?_)
  obtain ⟨fs, e1, e2, hv⟩ := hv
  refine j_put (k := 3) (ty0 := tyX10) cl_X10 (pf_X10_3) w_f_X10_21 dX10_init_78 (fun g ad => q_nRa g ad _ _) e1 e2 ?_
  generalize q_set h20 x0 _ = h21 at hv ⊢
  refine j_aload_n dX10_init_81 rfl rfl ?_
  refine j_sipush (v := (800 : Int32)) dX10_init_82 (by decide) ?_
  obtain ⟨fs, e1, e2, hv⟩ := hv
  refine j_put (k := 5) (ty0 := tyX10) cl_X10 (pf_X10_5) w_f_X10_25 dX10_init_85 (fun g ad => q_nI g ad _) e1 e2 ?_
  generalize q_set h21 x0 _ = h22 at hv ⊢
  refine j_aload_n dX10_init_88 rfl rfl ?_
  refine j_sipush (v := (1440 : Int32)) dX10_init_89 (by decide) ?_
  refine jj_newI (N := 1440) w_ar_int dX10_init_92 (by decide) (by decide) (by decide) (kc' := (mc - 5)) (ks' := (ms - 1473)) (by omega) (by omega) hv (fun r23 h24 hv => ?_)
  obtain ⟨fs, e1, e2, hv⟩ := hv
  refine j_put (k := 6) (ty0 := tyX10) cl_X10 (pf_X10_6) w_f_X10_29 dX10_init_94 (fun g ad => q_nRa g ad _ _) e1 e2 ?_
  generalize q_set h24 x0 _ = h25 at hv ⊢
  refine j_aload_n dX10_init_97 rfl rfl ?_
  refine j_bipush (v := (12 : Int32)) dX10_init_98 (by decide) ?_
  refine jj_newA w_cl_X10_13 dX10_init_100 (by decide) (kc' := (mc - 6)) (ks' := (ms - 1485)) (by omega) (by omega) hv (fun r26 h27 hv => ?_)
  obtain ⟨fs, e1, e2, hv⟩ := hv
  refine j_put (k := 8) (ty0 := tyX10) cl_X10 (pf_X10_8) w_f_X10_32 dX10_init_103 (fun g ad => q_nRa g ad _ _) e1 e2 ?_
  generalize q_set h27 x0 _ = h28 at hv ⊢
  exact j_vret dX10_init_106 rfl hv
set_option maxRecDepth 20000 in
set_option maxHeartbeats 4000000 in
theorem v_X10_light {l : Launch} {d mc ms : Nat} {Q : Option Value → qH → Prop} {QX : String → qH → Prop} (x0 : Nat) {h : qH} (hv : qGR h x0 10 0 (fun r1 => qAL h r1 (0 : Int32) (fun z2 => qIF ((z2 - z2 / (1440 : Int32) * (1440 : Int32)) < (360 : Int32)) (Q (some (.int (0 : Int32))) h) (qIF ((z2 - z2 / (1440 : Int32) * (1440 : Int32)) < (1080 : Int32)) (qIF ((720 : Int32) < (z2 - z2 / (1440 : Int32) * (1440 : Int32))) (Q (some (.int ((1080 : Int32) - (z2 - z2 / (1440 : Int32) * (1440 : Int32))))) h) (Q (some (.int ((z2 - z2 / (1440 : Int32) * (1440 : Int32)) - (360 : Int32)))) h)) (Q (some (.int (0 : Int32))) h))))) : q_Ct l (d + 0) mX10_light [.ref x0] h mc ms Q QX := by
  refine q_body (by decide ) (by intro v hm; simp only [List.mem_cons, List.not_mem_nil, or_false] at hm; subst hm; rfl) (Nat.le_of_ble_eq_true rfl) ?_
  refine j_pad 1 rfl ?_
  refine j_aload_n dX10_light_0 rfl rfl ?_
  obtain ⟨fs, r1, e1, e2, hv⟩ := hv
  refine j_getf (k := 0) cl_X10 (by decide) w_f_X10_7 dX10_light_1 e1 e2 ?_
  refine j_iconst (v := (0 : Int32)) dX10_light_4 (by decide) ?_
  obtain ⟨N, f, e1, e2, hv⟩ := hv
  refine j_iald dX10_light_5 e1 e2 ?_
  generalize f _ = z2 at hv ⊢
  refine j_sipush (v := (1440 : Int32)) dX10_light_6 (by decide) ?_
  refine j_irem dX10_light_9 (by decide) ?_
  refine j_istore_n dX10_light_10 rfl (by decide) rfl rfl ?_
  refine j_iload_n dX10_light_11 rfl rfl ?_
  refine j_sipush (v := (360 : Int32)) dX10_light_12 (by decide) ?_
  refine j_icmp_lt (tgt := 25) dX10_light_15 (by decide) (fun hc => ?_) (fun hc => ?_)
  · replace hv := hv.1 hc
    refine j_iconst (v := (0 : Int32)) dX10_light_25 (by decide) ?_
    refine j_goto (tgt := 49) dX10_light_26 (by decide) ?_
    exact j_iret dX10_light_49 rfl hv
  · replace hv := hv.2 hc
    refine j_iload_n dX10_light_18 rfl rfl ?_
    refine j_sipush (v := (1080 : Int32)) dX10_light_19 (by decide) ?_
    refine j_icmp_lt (tgt := 29) dX10_light_22 (by decide) (fun hc => ?_) (fun hc => ?_)
    · replace hv := hv.1 hc
      refine j_iload_n dX10_light_29 rfl rfl ?_
      refine j_sipush (v := (720 : Int32)) dX10_light_30 (by decide) ?_
      refine j_icmp_gt (tgt := 44) dX10_light_33 (by decide) (fun hc => ?_) (fun hc => ?_)
      · replace hv := hv.1 hc
        refine j_sipush (v := (1080 : Int32)) dX10_light_44 (by decide) ?_
        refine j_iload_n dX10_light_47 rfl rfl ?_
        refine j_isub dX10_light_48 ?_
        exact j_iret dX10_light_49 rfl hv
      · replace hv := hv.2 hc
        refine j_iload_n dX10_light_36 rfl rfl ?_
        refine j_sipush (v := (360 : Int32)) dX10_light_37 (by decide) ?_
        refine j_isub dX10_light_40 ?_
        refine j_goto (tgt := 49) dX10_light_41 (by decide) ?_
        exact j_iret dX10_light_49 rfl hv
    · replace hv := hv.2 hc
      refine j_iconst (v := (0 : Int32)) dX10_light_25 (by decide) ?_
      refine j_goto (tgt := 49) dX10_light_26 (by decide) ?_
      exact j_iret dX10_light_49 rfl hv
set_option maxRecDepth 20000 in
set_option maxHeartbeats 4000000 in
theorem v_X10_minute_168 {l : Launch} {d mc ms n0 kc ks : Nat} {Q : Option Value → qH → Prop} {QX : String → qH → Prop} (x0 : Nat) (x1 : Int32) (x2 : Int32) (x3 : Int32) (x4 : Int32) (x5 : Int32) (y0 : Nat) (y1 : Int32) (y2 : Int32) (y3 : Int32) {h : qH} (hv : qAS h y0 y1 (y2 + y3) (fun h1 => qGR h1 x0 10 0 (fun r2 => qAL h1 r2 (0 : Int32) (fun z3 => qAS h1 r2 (0 : Int32) (z3 + (1 : Int32)) (fun h4 => qGR h4 x0 10 0 (fun r5 => qAL h4 r5 (0 : Int32) (fun z6 => qIF ((z6 - z6 / (1440 : Int32) * (1440 : Int32)) = 0) (qGR h4 x0 10 0 (fun r7 => qAL h4 r7 (6 : Int32) (fun z8 => qIF (z8 ≤ (20 : Int32)) (Q (some (.int (0 : Int32))) h4) (qGR h4 x0 10 0 (fun r9 => qAL h4 r9 (6 : Int32) (fun z10 => qAS h4 r9 (6 : Int32) (z10 - (1 : Int32)) (fun h11 => Q (some (.int (0 : Int32))) h11))))))) (Q (some (.int (0 : Int32))) h4)))))))) : q_J l (d + 1) mX10_minute mc ms Q QX n0 168 [some (.ref x0), some (.int x1), some (.int x2), some (.int x3), some (.int x4), some (.int x5)] [.int y3, .int y2, .int y1, .ref y0] h kc ks := by
  refine j_iadd dX10_minute_168 ?_
  obtain ⟨N, f, e1, e2, hv⟩ := hv
  refine j_iast dX10_minute_169 e1 e2 ?_
  generalize q_set h y0 _ = h1 at hv ⊢
  refine j_aload_n dX10_minute_170 rfl rfl ?_
  obtain ⟨fs, r2, e1, e2, hv⟩ := hv
  refine j_getf (k := 0) cl_X10 (by decide) w_f_X10_7 dX10_minute_171 e1 e2 ?_
  refine j_iconst (v := (0 : Int32)) dX10_minute_174 (by decide) ?_
  refine j_dup2 dX10_minute_175 rfl rfl ?_
  obtain ⟨N, f, e1, e2, hv⟩ := hv
  refine j_iald dX10_minute_176 e1 e2 ?_
  generalize f _ = z3 at hv ⊢
  refine j_iconst (v := (1 : Int32)) dX10_minute_177 (by decide) ?_
  refine j_iadd dX10_minute_178 ?_
  obtain ⟨N, f, e1, e2, hv⟩ := hv
  refine j_iast dX10_minute_179 e1 e2 ?_
  generalize q_set h1 r2 _ = h4 at hv ⊢
  refine j_aload_n dX10_minute_180 rfl rfl ?_
  obtain ⟨fs, r5, e1, e2, hv⟩ := hv
  refine j_getf (k := 0) cl_X10 (by decide) w_f_X10_7 dX10_minute_181 e1 e2 ?_
  refine j_iconst (v := (0 : Int32)) dX10_minute_184 (by decide) ?_
  obtain ⟨N, f, e1, e2, hv⟩ := hv
  refine j_iald dX10_minute_185 e1 e2 ?_
  generalize f _ = z6 at hv ⊢
  refine j_sipush (v := (1440 : Int32)) dX10_minute_186 (by decide) ?_
  refine j_irem dX10_minute_189 (by decide) ?_
  refine j_if_ne (tgt := 216) dX10_minute_190 (by decide) (fun hc => ?_) (fun hc => ?_)
  · replace hv := hv.2 hc
    refine j_iconst (v := (0 : Int32)) dX10_minute_216 (by decide) ?_
    exact j_iret dX10_minute_217 rfl hv
  · replace hv := hv.1 hc
    refine j_aload_n dX10_minute_193 rfl rfl ?_
    obtain ⟨fs, r7, e1, e2, hv⟩ := hv
    refine j_getf (k := 0) cl_X10 (by decide) w_f_X10_7 dX10_minute_194 e1 e2 ?_
    refine j_bipush (v := (6 : Int32)) dX10_minute_197 (by decide) ?_
    obtain ⟨N, f, e1, e2, hv⟩ := hv
    refine j_iald dX10_minute_199 e1 e2 ?_
    generalize f _ = z8 at hv ⊢
    refine j_bipush (v := (20 : Int32)) dX10_minute_200 (by decide) ?_
    refine j_icmp_le (tgt := 216) dX10_minute_202 (by decide) (fun hc => ?_) (fun hc => ?_)
    · replace hv := hv.1 hc
      refine j_iconst (v := (0 : Int32)) dX10_minute_216 (by decide) ?_
      exact j_iret dX10_minute_217 rfl hv
    · replace hv := hv.2 hc
      refine j_aload_n dX10_minute_205 rfl rfl ?_
      obtain ⟨fs, r9, e1, e2, hv⟩ := hv
      refine j_getf (k := 0) cl_X10 (by decide) w_f_X10_7 dX10_minute_206 e1 e2 ?_
      refine j_bipush (v := (6 : Int32)) dX10_minute_209 (by decide) ?_
      refine j_dup2 dX10_minute_211 rfl rfl ?_
      obtain ⟨N, f, e1, e2, hv⟩ := hv
      refine j_iald dX10_minute_212 e1 e2 ?_
      generalize f _ = z10 at hv ⊢
      refine j_iconst (v := (1 : Int32)) dX10_minute_213 (by decide) ?_
      refine j_isub dX10_minute_214 ?_
      obtain ⟨N, f, e1, e2, hv⟩ := hv
      refine j_iast dX10_minute_215 e1 e2 ?_
      generalize q_set h4 r9 _ = h11 at hv ⊢
      refine j_iconst (v := (0 : Int32)) dX10_minute_216 (by decide) ?_
      exact j_iret dX10_minute_217 rfl hv
set_option maxRecDepth 20000 in
set_option maxHeartbeats 4000000 in
theorem v_X10_minute_158 {l : Launch} {d mc ms n0 kc ks : Nat} {Q : Option Value → qH → Prop} {QX : String → qH → Prop} (x0 : Nat) (x1 : Int32) (x2 : Int32) (x3 : Int32) (x4 : Int32) (x5 : Int32) (y0 : Nat) (y1 : Int32) (y2 : Int32) (y3 : Int32) {h : qH} (hv : qIF (x2 = 0) (q_J l (d + 1) mX10_minute mc ms Q QX n0 168 [some (.ref x0), some (.int x1), some (.int x2), some (.int x3), some (.int x4), some (.int x5)] [.int (0 : Int32), .int (y2 + y3), .int y1, .ref y0] h kc ks) (q_J l (d + 1) mX10_minute mc ms Q QX n0 168 [some (.ref x0), some (.int x1), some (.int x2), some (.int x3), some (.int x4), some (.int x5)] [.int (1 : Int32), .int (y2 + y3), .int y1, .ref y0] h kc ks)) : q_J l (d + 1) mX10_minute mc ms Q QX n0 158 [some (.ref x0), some (.int x1), some (.int x2), some (.int x3), some (.int x4), some (.int x5)] [.int y3, .int y2, .int y1, .ref y0] h kc ks := by
  refine j_iadd dX10_minute_158 ?_
  refine j_iload_n dX10_minute_159 rfl rfl ?_
  refine j_if_eq (tgt := 167) dX10_minute_160 (by decide) (fun hc => ?_) (fun hc => ?_)
  · replace hv := hv.1 hc
    refine j_iconst (v := (0 : Int32)) dX10_minute_167 (by decide) ?_
    exact hv
  · replace hv := hv.2 hc
    refine j_iconst (v := (1 : Int32)) dX10_minute_163 (by decide) ?_
    refine j_goto (tgt := 168) dX10_minute_164 (by decide) ?_
    exact hv
set_option maxRecDepth 20000 in
set_option maxHeartbeats 4000000 in
theorem v_X10_minute_106 {l : Launch} {d mc ms n0 kc ks : Nat} {Q : Option Value → qH → Prop} {QX : String → qH → Prop} (x0 : Nat) (x1 : Int32) (x2 : Int32) (x3 : Int32) (x4 : Int32) (y0 : Nat) (y1 : Int32) (y2 : Int32) {h : qH} (hv : qAS h y0 y1 y2 (fun h1 => qOB h1 x0 10 (qCI l (d + 0) mX10_light [.ref x0] h1 0 0 (fun z3 h2 => qGR h2 x0 10 0 (fun r4 => qGR h2 x0 10 0 (fun r5 => qAL h2 r5 (4 : Int32) (fun z6 => qGR h2 x0 10 0 (fun r7 => qAL h2 r7 (4 : Int32) (fun z8 => qGR h2 x0 10 0 (fun r9 => qAL h2 r9 (5 : Int32) (fun z10 => qIF (z10 = (1 : Int32)) (q_J l (d + 1) mX10_minute mc ms Q QX n0 158 [some (.ref x0), some (.int x1), some (.int x2), some (.int x3), some (.int x4), some (.int ((z3 / (6 : Int32)) - (70 : Int32)))] [.int (2 : Int32), .int (z6 + ((((z3 / (6 : Int32)) - (70 : Int32)) - z8) / (20 : Int32))), .int (4 : Int32), .ref r4] h2 kc ks) (q_J l (d + 1) mX10_minute mc ms Q QX n0 158 [some (.ref x0), some (.int x1), some (.int x2), some (.int x3), some (.int x4), some (.int ((z3 / (6 : Int32)) - (70 : Int32)))] [.int (0 : Int32), .int (z6 + ((((z3 / (6 : Int32)) - (70 : Int32)) - z8) / (20 : Int32))), .int (4 : Int32), .ref r4] h2 kc ks)))))))))))) : q_J l (d + 1) mX10_minute mc ms Q QX n0 106 [some (.ref x0), some (.int x1), some (.int x2), some (.int x3), some (.int x4), none] [.int y2, .int y1, .ref y0] h kc ks := by
  obtain ⟨N, f, e1, e2, hv⟩ := hv
  refine j_iast dX10_minute_106 e1 e2 ?_
  generalize q_set h y0 _ = h1 at hv ⊢
  refine j_aload_n dX10_minute_107 rfl rfl ?_
  obtain ⟨⟨fs, e1⟩, hv⟩ := hv
  refine j_virtual (avs := []) (rest := []) (i := x0) (kc' := kc) (ks' := ks) dX10_minute_108 mt_X10_light w_m_X10_48 w_in_X10_light w_se_X10_light rfl rfl (Nat.le_of_ble_eq_true rfl) (Nat.le_refl _) (by omega) (by omega) cl_X10.1 e1 hv (fun _ _ q9 => q9) ?_
  rintro _ h2 ⟨z3, rfl, hv⟩ -
  refine j_bipush (v := (6 : Int32)) dX10_minute_111 (by decide) ?_
  refine j_idiv dX10_minute_113 (by decide) ?_
  refine j_bipush (v := (70 : Int32)) dX10_minute_114 (by decide) ?_
  refine j_isub dX10_minute_116 ?_
  refine j_istore dX10_minute_117 (by decide) rfl rfl ?_
  refine j_aload_n dX10_minute_119 rfl rfl ?_
  obtain ⟨fs, r4, e1, e2, hv⟩ := hv
  refine j_getf (k := 0) cl_X10 (by decide) w_f_X10_7 dX10_minute_120 e1 e2 ?_
  refine j_iconst (v := (4 : Int32)) dX10_minute_123 (by decide) ?_
  refine j_aload_n dX10_minute_124 rfl rfl ?_
  obtain ⟨fs, r5, e1, e2, hv⟩ := hv
  refine j_getf (k := 0) cl_X10 (by decide) w_f_X10_7 dX10_minute_125 e1 e2 ?_
  refine j_iconst (v := (4 : Int32)) dX10_minute_128 (by decide) ?_
  obtain ⟨N, f, e1, e2, hv⟩ := hv
  refine j_iald dX10_minute_129 e1 e2 ?_
  generalize f _ = z6 at hv ⊢
  refine j_iload dX10_minute_130 rfl ?_
  refine j_aload_n dX10_minute_132 rfl rfl ?_
  obtain ⟨fs, r7, e1, e2, hv⟩ := hv
  refine j_getf (k := 0) cl_X10 (by decide) w_f_X10_7 dX10_minute_133 e1 e2 ?_
  refine j_iconst (v := (4 : Int32)) dX10_minute_136 (by decide) ?_
  obtain ⟨N, f, e1, e2, hv⟩ := hv
  refine j_iald dX10_minute_137 e1 e2 ?_
  generalize f _ = z8 at hv ⊢
  refine j_isub dX10_minute_138 ?_
  refine j_bipush (v := (20 : Int32)) dX10_minute_139 (by decide) ?_
  refine j_idiv dX10_minute_141 (by decide) ?_
  refine j_iadd dX10_minute_142 ?_
  refine j_aload_n dX10_minute_143 rfl rfl ?_
  obtain ⟨fs, r9, e1, e2, hv⟩ := hv
  refine j_getf (k := 0) cl_X10 (by decide) w_f_X10_7 dX10_minute_144 e1 e2 ?_
  refine j_iconst (v := (5 : Int32)) dX10_minute_147 (by decide) ?_
  obtain ⟨N, f, e1, e2, hv⟩ := hv
  refine j_iald dX10_minute_148 e1 e2 ?_
  generalize f _ = z10 at hv ⊢
  refine j_iconst (v := (1 : Int32)) dX10_minute_149 (by decide) ?_
  refine j_icmp_ne (tgt := 157) dX10_minute_150 (by decide) (fun hc => ?_) (fun hc => ?_)
  · replace hv := hv.2 hc
    refine j_iconst (v := (0 : Int32)) dX10_minute_157 (by decide) ?_
    exact hv
  · replace hv := hv.1 hc
    refine j_iconst (v := (2 : Int32)) dX10_minute_153 (by decide) ?_
    refine j_goto (tgt := 158) dX10_minute_154 (by decide) ?_
    exact hv
set_option maxRecDepth 20000 in
set_option maxHeartbeats 4000000 in
theorem v_X10_minute_65 {l : Launch} {d mc ms n0 kc ks : Nat} {Q : Option Value → qH → Prop} {QX : String → qH → Prop} (x0 : Nat) (x1 : Int32) (x2 : Int32) (x3 : Int32) (y0 : Int32) (y1 : Int32) {h : qH} (hv : qIF (0 ≤ ((y0 - y1) - x1)) (qGR h x0 10 0 (fun r1 => qGR h x0 10 0 (fun r2 => qAL h r2 (8 : Int32) (fun z3 => qIF (((y0 - y1) - x1) ≤ z3) (q_J l (d + 1) mX10_minute mc ms Q QX n0 106 [some (.ref x0), some (.int x1), some (.int x2), some (.int x3), some (.int ((y0 - y1) - x1)), none] [.int ((y0 - y1) - x1), .int (3 : Int32), .ref r1] h kc ks) (qGR h x0 10 0 (fun r4 => qAL h r4 (8 : Int32) (fun z5 => q_J l (d + 1) mX10_minute mc ms Q QX n0 106 [some (.ref x0), some (.int x1), some (.int x2), some (.int x3), some (.int ((y0 - y1) - x1)), none] [.int z5, .int (3 : Int32), .ref r1] h kc ks))))))) (Q (some (.int (2 : Int32))) h)) : q_J l (d + 1) mX10_minute mc ms Q QX n0 65 [some (.ref x0), some (.int x1), some (.int x2), some (.int x3), none, none] [.int y1, .int y0] h kc ks := by
  refine j_isub dX10_minute_65 ?_
  refine j_iload_n dX10_minute_66 rfl rfl ?_
  refine j_isub dX10_minute_67 ?_
  refine j_istore dX10_minute_68 (by decide) rfl rfl ?_
  refine j_iload dX10_minute_70 rfl ?_
  refine j_if_ge (tgt := 77) dX10_minute_72 (by decide) (fun hc => ?_) (fun hc => ?_)
  · replace hv := hv.1 hc
    refine j_aload_n dX10_minute_77 rfl rfl ?_
    obtain ⟨fs, r1, e1, e2, hv⟩ := hv
    refine j_getf (k := 0) cl_X10 (by decide) w_f_X10_7 dX10_minute_78 e1 e2 ?_
    refine j_iconst (v := (3 : Int32)) dX10_minute_81 (by decide) ?_
    refine j_iload dX10_minute_82 rfl ?_
    refine j_aload_n dX10_minute_84 rfl rfl ?_
    obtain ⟨fs, r2, e1, e2, hv⟩ := hv
    refine j_getf (k := 0) cl_X10 (by decide) w_f_X10_7 dX10_minute_85 e1 e2 ?_
    refine j_bipush (v := (8 : Int32)) dX10_minute_88 (by decide) ?_
    obtain ⟨N, f, e1, e2, hv⟩ := hv
    refine j_iald dX10_minute_90 e1 e2 ?_
    generalize f _ = z3 at hv ⊢
    refine j_icmp_le (tgt := 104) dX10_minute_91 (by decide) (fun hc => ?_) (fun hc => ?_)
    · replace hv := hv.1 hc
      refine j_iload dX10_minute_104 rfl ?_
      exact hv
    · replace hv := hv.2 hc
      refine j_aload_n dX10_minute_94 rfl rfl ?_
      obtain ⟨fs, r4, e1, e2, hv⟩ := hv
      refine j_getf (k := 0) cl_X10 (by decide) w_f_X10_7 dX10_minute_95 e1 e2 ?_
      refine j_bipush (v := (8 : Int32)) dX10_minute_98 (by decide) ?_
      obtain ⟨N, f, e1, e2, hv⟩ := hv
      refine j_iald dX10_minute_100 e1 e2 ?_
      generalize f _ = z5 at hv ⊢
      refine j_goto (tgt := 106) dX10_minute_101 (by decide) ?_
      exact hv
  · replace hv := hv.2 hc
    refine j_iconst (v := (2 : Int32)) dX10_minute_75 (by decide) ?_
    exact j_iret dX10_minute_76 rfl hv
set_option maxRecDepth 20000 in
set_option maxHeartbeats 4000000 in
theorem v_X10_minute_49 {l : Launch} {d mc ms n0 kc ks : Nat} {Q : Option Value → qH → Prop} {QX : String → qH → Prop} (x0 : Nat) (x1 : Int32) (x2 : Int32) (x3 : Int32) (y0 : Int32) (y1 : Int32) {h : qH} (hv : qGR h x0 10 0 (fun r1 => qAL h r1 (5 : Int32) (fun z2 => qIF (z2 = (1 : Int32)) (q_J l (d + 1) mX10_minute mc ms Q QX n0 65 [some (.ref x0), some (.int x1), some (.int x2), some (.int x3), none, none] [.int (3 : Int32), .int (y0 - y1)] h kc ks) (q_J l (d + 1) mX10_minute mc ms Q QX n0 65 [some (.ref x0), some (.int x1), some (.int x2), some (.int x3), none, none] [.int (0 : Int32), .int (y0 - y1)] h kc ks)))) : q_J l (d + 1) mX10_minute mc ms Q QX n0 49 [some (.ref x0), some (.int x1), some (.int x2), some (.int x3), none, none] [.int y1, .int y0] h kc ks := by
  refine j_isub dX10_minute_49 ?_
  refine j_aload_n dX10_minute_50 rfl rfl ?_
  obtain ⟨fs, r1, e1, e2, hv⟩ := hv
  refine j_getf (k := 0) cl_X10 (by decide) w_f_X10_7 dX10_minute_51 e1 e2 ?_
  refine j_iconst (v := (5 : Int32)) dX10_minute_54 (by decide) ?_
  obtain ⟨N, f, e1, e2, hv⟩ := hv
  refine j_iald dX10_minute_55 e1 e2 ?_
  generalize f _ = z2 at hv ⊢
  refine j_iconst (v := (1 : Int32)) dX10_minute_56 (by decide) ?_
  refine j_icmp_ne (tgt := 64) dX10_minute_57 (by decide) (fun hc => ?_) (fun hc => ?_)
  · replace hv := hv.2 hc
    refine j_iconst (v := (0 : Int32)) dX10_minute_64 (by decide) ?_
    exact hv
  · replace hv := hv.1 hc
    refine j_iconst (v := (3 : Int32)) dX10_minute_60 (by decide) ?_
    refine j_goto (tgt := 65) dX10_minute_61 (by decide) ?_
    exact hv
set_option maxRecDepth 20000 in
set_option maxHeartbeats 4000000 in
theorem v_X10_minute {l : Launch} {d mc ms : Nat} {Q : Option Value → qH → Prop} {QX : String → qH → Prop} (x0 : Nat) (x1 : Int32) (x2 : Int32) {h : qH} (hv : qGR h x0 10 0 (fun r1 => qAL h r1 (0 : Int32) (fun z2 => qIF (z2 < (14400 : Int32)) (qOB h x0 10 (qCI l (d + 0) mX10_light [.ref x0] h 0 0 (fun z4 h3 => qGR h3 x0 10 0 (fun r5 => qAL h3 r5 (6 : Int32) (fun z6 => qGR h3 x0 10 0 (fun r7 => qAL h3 r7 (3 : Int32) (fun z8 => qIF (x2 = 0) (q_J l (d + 1) mX10_minute mc ms Q QX h.2 49 [some (.ref x0), some (.int x1), some (.int x2), some (.int ((z4 * z6) / (3600 : Int32))), none, none] [.int (1 : Int32), .int (z8 + ((z4 * z6) / (3600 : Int32)))] h3 mc ms) (q_J l (d + 1) mX10_minute mc ms Q QX h.2 49 [some (.ref x0), some (.int x1), some (.int x2), some (.int ((z4 * z6) / (3600 : Int32))), none, none] [.int (2 : Int32), .int (z8 + ((z4 * z6) / (3600 : Int32)))] h3 mc ms)))))))) (Q (some (.int (7 : Int32))) h)))) : q_Ct l (d + 1) mX10_minute [.ref x0, .int x1, .int x2] h mc ms Q QX := by
  refine q_body (by decide ) (by intro v hm; simp only [List.mem_cons, List.not_mem_nil, or_false] at hm; rcases hm with rfl | rfl | rfl <;> rfl) (Nat.le_of_ble_eq_true rfl) ?_
  refine j_pad 3 rfl ?_
  refine j_aload_n dX10_minute_0 rfl rfl ?_
  obtain ⟨fs, r1, e1, e2, hv⟩ := hv
  refine j_getf (k := 0) cl_X10 (by decide) w_f_X10_7 dX10_minute_1 e1 e2 ?_
  refine j_iconst (v := (0 : Int32)) dX10_minute_4 (by decide) ?_
  obtain ⟨N, f, e1, e2, hv⟩ := hv
  refine j_iald dX10_minute_5 e1 e2 ?_
  generalize f _ = z2 at hv ⊢
  refine j_sipush (v := (14400 : Int32)) dX10_minute_6 (by decide) ?_
  refine j_icmp_lt (tgt := 15) dX10_minute_9 (by decide) (fun hc => ?_) (fun hc => ?_)
  · replace hv := hv.1 hc
    refine j_aload_n dX10_minute_15 rfl rfl ?_
    obtain ⟨⟨fs, e1⟩, hv⟩ := hv
    refine j_virtual (avs := []) (rest := []) (i := x0) (kc' := mc) (ks' := ms) dX10_minute_16 mt_X10_light w_m_X10_48 w_in_X10_light w_se_X10_light rfl rfl (Nat.le_of_ble_eq_true rfl) (Nat.le_refl _) (by omega) (by omega) cl_X10.1 e1 hv (fun _ _ q9 => q9) ?_
    rintro _ h3 ⟨z4, rfl, hv⟩ -
    refine j_aload_n dX10_minute_19 rfl rfl ?_
    obtain ⟨fs, r5, e1, e2, hv⟩ := hv
    refine j_getf (k := 0) cl_X10 (by decide) w_f_X10_7 dX10_minute_20 e1 e2 ?_
    refine j_bipush (v := (6 : Int32)) dX10_minute_23 (by decide) ?_
    obtain ⟨N, f, e1, e2, hv⟩ := hv
    refine j_iald dX10_minute_25 e1 e2 ?_
    generalize f _ = z6 at hv ⊢
    refine j_imul dX10_minute_26 ?_
    refine j_sipush (v := (3600 : Int32)) dX10_minute_27 (by decide) ?_
    refine j_idiv dX10_minute_30 (by decide) ?_
    refine j_istore_n dX10_minute_31 rfl (by decide) rfl rfl ?_
    refine j_aload_n dX10_minute_32 rfl rfl ?_
    obtain ⟨fs, r7, e1, e2, hv⟩ := hv
    refine j_getf (k := 0) cl_X10 (by decide) w_f_X10_7 dX10_minute_33 e1 e2 ?_
    refine j_iconst (v := (3 : Int32)) dX10_minute_36 (by decide) ?_
    obtain ⟨N, f, e1, e2, hv⟩ := hv
    refine j_iald dX10_minute_37 e1 e2 ?_
    generalize f _ = z8 at hv ⊢
    refine j_iload_n dX10_minute_38 rfl rfl ?_
    refine j_iadd dX10_minute_39 ?_
    refine j_iload_n dX10_minute_40 rfl rfl ?_
    refine j_if_eq (tgt := 48) dX10_minute_41 (by decide) (fun hc => ?_) (fun hc => ?_)
    · replace hv := hv.1 hc
      refine j_iconst (v := (1 : Int32)) dX10_minute_48 (by decide) ?_
      exact hv
    · replace hv := hv.2 hc
      refine j_iconst (v := (2 : Int32)) dX10_minute_44 (by decide) ?_
      refine j_goto (tgt := 49) dX10_minute_45 (by decide) ?_
      exact hv
  · replace hv := hv.2 hc
    refine j_bipush (v := (7 : Int32)) dX10_minute_12 (by decide) ?_
    exact j_iret dX10_minute_14 rfl hv
set_option maxRecDepth 20000 in
set_option maxHeartbeats 4000000 in
theorem v_X10_minutes_2 {l : Launch} {d mc ms n0 kc ks : Nat} {Q : Option Value → qH → Prop} {QX : String → qH → Prop} (x0 : Nat) (x1 : Int32) (x2 : Int32) (x3 : Int32) {h : qH} (hv : qIF (x1 ≤ x3) (Q (some (.int (0 : Int32))) h) (qOB h x0 10 (qCI l (d + 1) mX10_minute [.ref x0, .int x2, .int (1 : Int32)] h 0 0 (fun z2 h1 => qIF (z2 ≤ 0) (q_J l (d + 2) mX10_minutes mc ms Q QX n0 2 [some (.ref x0), some (.int x1), some (.int x2), some (.int (x3 + (1 : Int32))), none] [] h1 kc ks) (Q (some (.int z2)) h1))))) : q_J l (d + 2) mX10_minutes mc ms Q QX n0 2 [some (.ref x0), some (.int x1), some (.int x2), some (.int x3), none] [] h kc ks := by
  refine j_iload_n dX10_minutes_2 rfl rfl ?_
  refine j_iload_n dX10_minutes_3 rfl rfl ?_
  refine j_icmp_ge (tgt := 29) dX10_minutes_4 (by decide) (fun hc => ?_) (fun hc => ?_)
  · replace hv := hv.1 hc
    refine j_iconst (v := (0 : Int32)) dX10_minutes_29 (by decide) ?_
    exact j_iret dX10_minutes_30 rfl hv
  · replace hv := hv.2 hc
    refine j_aload_n dX10_minutes_7 rfl rfl ?_
    refine j_iload_n dX10_minutes_8 rfl rfl ?_
    refine j_iconst (v := (1 : Int32)) dX10_minutes_9 (by decide) ?_
    obtain ⟨⟨fs, e1⟩, hv⟩ := hv
    refine j_virtual (avs := [.int x2, .int (1 : Int32)]) (rest := []) (i := x0) (kc' := kc) (ks' := ks) dX10_minutes_10 mt_X10_minute w_m_X10_52 w_in_X10_minute w_se_X10_minute rfl rfl (Nat.le_of_ble_eq_true rfl) (Nat.le_refl _) (by omega) (by omega) cl_X10.1 e1 hv (fun _ _ q9 => q9) ?_
    rintro _ h1 ⟨z2, rfl, hv⟩ -
    refine j_istore dX10_minutes_13 (by decide) rfl rfl ?_
    refine j_iload dX10_minutes_15 rfl ?_
    refine j_if_le (tgt := 23) dX10_minutes_17 (by decide) (fun hc => ?_) (fun hc => ?_)
    · replace hv := hv.1 hc
      refine j_iinc (w := (x3 + (1 : Int32))) dX10_minutes_23 rfl (by rfl) (by decide) rfl rfl ?_
      refine j_goto (tgt := 2) dX10_minutes_26 (by decide) ?_
      refine j_mask [true, true, true, true, false] rfl ?_
      exact hv
    · replace hv := hv.2 hc
      refine j_iload dX10_minutes_20 rfl ?_
      exact j_iret dX10_minutes_22 rfl hv
set_option maxRecDepth 20000 in
set_option maxHeartbeats 4000000 in
theorem v_X10_minutes {l : Launch} {d mc ms : Nat} {Q : Option Value → qH → Prop} {QX : String → qH → Prop} (x0 : Nat) (x1 : Int32) (x2 : Int32) {h : qH} (hv : q_J l (d + 2) mX10_minutes mc ms Q QX h.2 2 [some (.ref x0), some (.int x1), some (.int x2), some (.int (0 : Int32)), none] [] h mc ms) : q_Ct l (d + 2) mX10_minutes [.ref x0, .int x1, .int x2] h mc ms Q QX := by
  refine q_body (by decide ) (by intro v hm; simp only [List.mem_cons, List.not_mem_nil, or_false] at hm; rcases hm with rfl | rfl | rfl <;> rfl) (Nat.le_of_ble_eq_true rfl) ?_
  refine j_pad 2 rfl ?_
  refine j_iconst (v := (0 : Int32)) dX10_minutes_0 (by decide) ?_
  refine j_istore_n dX10_minutes_1 rfl (by decide) rfl rfl ?_
  exact hv
set_option maxRecDepth 20000 in
set_option maxHeartbeats 4000000 in
theorem v_X10_units_13 {l : Launch} {d mc ms n0 kc ks : Nat} {Q : Option Value → qH → Prop} {QX : String → qH → Prop} (x0 : Nat) (x1 : Int32) (x2 : Nat) (x3 : Int32) (x4 : Int32) {h : qH} (hv : qIF (x3 ≤ x4) (Q (some (.int x1)) h) (qO4 h x2 x4 (fun r1 => qAL h r1 (1 : Int32) (fun z2 => q_J l (d + 0) mX10_units mc ms Q QX n0 13 [some (.ref x0), some (.int (x1 + z2)), some (.ref x2), some (.int x3), some (.int (x4 + (1 : Int32))), none] [] h kc ks)))) : q_J l (d + 0) mX10_units mc ms Q QX n0 13 [some (.ref x0), some (.int x1), some (.ref x2), some (.int x3), some (.int x4), none] [] h kc ks := by
  refine j_iload dX10_units_13 rfl ?_
  refine j_iload_n dX10_units_15 rfl rfl ?_
  refine j_icmp_ge (tgt := 38) dX10_units_16 (by decide) (fun hc => ?_) (fun hc => ?_)
  · replace hv := hv.1 hc
    refine j_iload_n dX10_units_38 rfl rfl ?_
    exact j_iret dX10_units_39 rfl hv
  · replace hv := hv.2 hc
    refine j_aload_n dX10_units_19 rfl rfl ?_
    refine j_iload dX10_units_20 rfl ?_
    obtain ⟨N, f, r1, e1, e2, e3, hv⟩ := hv
    refine j_aaldA dX10_units_22 e1 e2 e3 ?_
    refine j_astore dX10_units_23 (by decide) rfl rfl ?_
    refine j_iload_n dX10_units_25 rfl rfl ?_
    refine j_aload dX10_units_26 rfl ?_
    refine j_iconst (v := (1 : Int32)) dX10_units_28 (by decide) ?_
    obtain ⟨N, f, e1, e2, hv⟩ := hv
    refine j_iald dX10_units_29 e1 e2 ?_
    generalize f _ = z2 at hv ⊢
    refine j_iadd dX10_units_30 ?_
    refine j_istore_n dX10_units_31 rfl (by decide) rfl rfl ?_
    refine j_iinc (w := (x4 + (1 : Int32))) dX10_units_32 rfl (by rfl) (by decide) rfl rfl ?_
    refine j_goto (tgt := 13) dX10_units_35 (by decide) ?_
    refine j_mask [true, true, true, true, true, false] rfl ?_
    exact hv
set_option maxRecDepth 20000 in
set_option maxHeartbeats 4000000 in
theorem v_X10_units {l : Launch} {d mc ms : Nat} {Q : Option Value → qH → Prop} {QX : String → qH → Prop} (x0 : Nat) {h : qH} (hv : qGR h x0 10 1 (fun r1 => qLN h r1 (fun z2 => q_J l (d + 0) mX10_units mc ms Q QX h.2 13 [some (.ref x0), some (.int (0 : Int32)), some (.ref r1), some (.int z2), some (.int (0 : Int32)), none] [] h mc ms))) : q_Ct l (d + 0) mX10_units [.ref x0] h mc ms Q QX := by
  refine q_body (by decide ) (by intro v hm; simp only [List.mem_cons, List.not_mem_nil, or_false] at hm; subst hm; rfl) (Nat.le_of_ble_eq_true rfl) ?_
  refine j_pad 5 rfl ?_
  refine j_iconst (v := (0 : Int32)) dX10_units_0 (by decide) ?_
  refine j_istore_n dX10_units_1 rfl (by decide) rfl rfl ?_
  refine j_aload_n dX10_units_2 rfl rfl ?_
  obtain ⟨fs, r1, e1, e2, hv⟩ := hv
  refine j_getf (k := 1) cl_X10 (by decide) w_f_X10_14 dX10_units_3 e1 e2 ?_
  refine j_astore_n dX10_units_6 rfl (by decide) rfl rfl ?_
  refine j_aload_n dX10_units_7 rfl rfl ?_
  obtain ⟨t9, x9, e1, e2, hv⟩ := hv
  generalize hz9 : Int32.ofNat x9.1 = z2 at hv
  refine j_alen (N := 0) dX10_units_8 e1 e2 hz9 ?_
  refine j_istore_n dX10_units_9 rfl (by decide) rfl rfl ?_
  refine j_iconst (v := (0 : Int32)) dX10_units_10 (by decide) ?_
  refine j_istore dX10_units_11 (by decide) rfl rfl ?_
  exact hv
set_option maxRecDepth 20000 in
set_option maxHeartbeats 4000000 in
theorem v_X10_images_19 {l : Launch} {d mc ms n0 kc ks : Nat} {Q : Option Value → qH → Prop} {QX : String → qH → Prop} (x0 : Nat) (x1 : Int32) (x2 : Int32) (x3 : Nat) (x4 : Int32) (x5 : Int32) {h : qH} (hv : qIF (x4 ≤ x5) (Q (some (.int x2)) h) (qO4 h x3 x5 (fun r1 => qAL h r1 (0 : Int32) (fun z2 => qIF (z2 = x1) (qAL h r1 (3 : Int32) (fun z3 => qIF (z3 = (9 : Int32)) (q_J l (d + 0) mX10_images mc ms Q QX n0 19 [some (.ref x0), some (.int x1), some (.int x2), some (.ref x3), some (.int x4), some (.int (x5 + (1 : Int32))), none] [] h kc ks) (qAL h r1 (3 : Int32) (fun z4 => q_J l (d + 0) mX10_images mc ms Q QX n0 19 [some (.ref x0), some (.int x1), some (.int (x2 ||| ((1 : Int32) <<< (z4 &&& 31)))), some (.ref x3), some (.int x4), some (.int (x5 + (1 : Int32))), none] [] h kc ks)))) (q_J l (d + 0) mX10_images mc ms Q QX n0 19 [some (.ref x0), some (.int x1), some (.int x2), some (.ref x3), some (.int x4), some (.int (x5 + (1 : Int32))), none] [] h kc ks))))) : q_J l (d + 0) mX10_images mc ms Q QX n0 19 [some (.ref x0), some (.int x1), some (.int x2), some (.ref x3), some (.int x4), some (.int x5), none] [] h kc ks := by
  refine j_iload dX10_images_19 rfl ?_
  refine j_iload dX10_images_21 rfl ?_
  refine j_icmp_ge (tgt := 64) dX10_images_23 (by decide) (fun hc => ?_) (fun hc => ?_)
  · replace hv := hv.1 hc
    refine j_iload_n dX10_images_64 rfl rfl ?_
    exact j_iret dX10_images_65 rfl hv
  · replace hv := hv.2 hc
    refine j_aload_n dX10_images_26 rfl rfl ?_
    refine j_iload dX10_images_27 rfl ?_
    obtain ⟨N, f, r1, e1, e2, e3, hv⟩ := hv
    refine j_aaldA dX10_images_29 e1 e2 e3 ?_
    refine j_astore dX10_images_30 (by decide) rfl rfl ?_
    refine j_aload dX10_images_32 rfl ?_
    refine j_iconst (v := (0 : Int32)) dX10_images_34 (by decide) ?_
    obtain ⟨N, f, e1, e2, hv⟩ := hv
    refine j_iald dX10_images_35 e1 e2 ?_
    generalize f _ = z2 at hv ⊢
    refine j_iload_n dX10_images_36 rfl rfl ?_
    refine j_icmp_ne (tgt := 58) dX10_images_37 (by decide) (fun hc => ?_) (fun hc => ?_)
    · replace hv := hv.2 hc
      refine j_iinc (w := (x5 + (1 : Int32))) dX10_images_58 rfl (by rfl) (by decide) rfl rfl ?_
      refine j_goto (tgt := 19) dX10_images_61 (by decide) ?_
      refine j_mask [true, true, true, true, true, true, false] rfl ?_
      exact hv
    · replace hv := hv.1 hc
      refine j_aload dX10_images_40 rfl ?_
      refine j_iconst (v := (3 : Int32)) dX10_images_42 (by decide) ?_
      obtain ⟨N, f, e1, e2, hv⟩ := hv
      refine j_iald dX10_images_43 e1 e2 ?_
      generalize f _ = z3 at hv ⊢
      refine j_bipush (v := (9 : Int32)) dX10_images_44 (by decide) ?_
      refine j_icmp_eq (tgt := 58) dX10_images_46 (by decide) (fun hc => ?_) (fun hc => ?_)
      · replace hv := hv.1 hc
        refine j_iinc (w := (x5 + (1 : Int32))) dX10_images_58 rfl (by rfl) (by decide) rfl rfl ?_
        refine j_goto (tgt := 19) dX10_images_61 (by decide) ?_
        refine j_mask [true, true, true, true, true, true, false] rfl ?_
        exact hv
      · replace hv := hv.2 hc
        refine j_iload_n dX10_images_49 rfl rfl ?_
        refine j_iconst (v := (1 : Int32)) dX10_images_50 (by decide) ?_
        refine j_aload dX10_images_51 rfl ?_
        refine j_iconst (v := (3 : Int32)) dX10_images_53 (by decide) ?_
        obtain ⟨N, f, e1, e2, hv⟩ := hv
        refine j_iald dX10_images_54 e1 e2 ?_
        generalize f _ = z4 at hv ⊢
        refine j_ishl dX10_images_55 ?_
        refine j_ior dX10_images_56 ?_
        refine j_istore_n dX10_images_57 rfl (by decide) rfl rfl ?_
        refine j_iinc (w := (x5 + (1 : Int32))) dX10_images_58 rfl (by rfl) (by decide) rfl rfl ?_
        refine j_goto (tgt := 19) dX10_images_61 (by decide) ?_
        refine j_mask [true, true, true, true, true, true, false] rfl ?_
        exact hv
set_option maxRecDepth 20000 in
set_option maxHeartbeats 4000000 in
theorem v_X10_images {l : Launch} {d mc ms : Nat} {Q : Option Value → qH → Prop} {QX : String → qH → Prop} (x0 : Nat) (x1 : Int32) {h : qH} (hv : qGR h x0 10 2 (fun r1 => qAL h r1 x1 (fun z2 => qGR h x0 10 1 (fun r3 => qLN h r3 (fun z4 => q_J l (d + 0) mX10_images mc ms Q QX h.2 19 [some (.ref x0), some (.int x1), some (.int z2), some (.ref r3), some (.int z4), some (.int (0 : Int32)), none] [] h mc ms))))) : q_Ct l (d + 0) mX10_images [.ref x0, .int x1] h mc ms Q QX := by
  refine q_body (by decide ) (by intro v hm; simp only [List.mem_cons, List.not_mem_nil, or_false] at hm; rcases hm with rfl | rfl <;> rfl) (Nat.le_of_ble_eq_true rfl) ?_
  refine j_pad 5 rfl ?_
  refine j_aload_n dX10_images_0 rfl rfl ?_
  obtain ⟨fs, r1, e1, e2, hv⟩ := hv
  refine j_getf (k := 2) cl_X10 (by decide) w_f_X10_18 dX10_images_1 e1 e2 ?_
  refine j_iload_n dX10_images_4 rfl rfl ?_
  obtain ⟨N, f, e1, e2, hv⟩ := hv
  refine j_iald dX10_images_5 e1 e2 ?_
  generalize f _ = z2 at hv ⊢
  refine j_istore_n dX10_images_6 rfl (by decide) rfl rfl ?_
  refine j_aload_n dX10_images_7 rfl rfl ?_
  obtain ⟨fs, r3, e1, e2, hv⟩ := hv
  refine j_getf (k := 1) cl_X10 (by decide) w_f_X10_14 dX10_images_8 e1 e2 ?_
  refine j_astore_n dX10_images_11 rfl (by decide) rfl rfl ?_
  refine j_aload_n dX10_images_12 rfl rfl ?_
  obtain ⟨t9, x9, e1, e2, hv⟩ := hv
  generalize hz9 : Int32.ofNat x9.1 = z4 at hv
  refine j_alen (N := 0) dX10_images_13 e1 e2 hz9 ?_
  refine j_istore dX10_images_14 (by decide) rfl rfl ?_
  refine j_iconst (v := (0 : Int32)) dX10_images_16 (by decide) ?_
  refine j_istore dX10_images_17 (by decide) rfl rfl ?_
  exact hv
set_option maxRecDepth 20000 in
set_option maxHeartbeats 4000000 in
theorem v_X10_octant_43 {l : Launch} {d mc ms n0 kc ks : Nat} {Q : Option Value → qH → Prop} {QX : String → qH → Prop} (x0 : Nat) (x1 : Int32) (x2 : Int32) (x3 : Int32) (x4 : Int32) (x5 : Int32) {h : qH} (hv : qIF ((8 : Int32) ≤ x5) (Q (some (.int x4)) h) (qSL 2 x5 (fun z1 => qIF (z1 = x2) (qSL 3 x5 (fun z2 => qIF (z2 = x3) (q_J l (d + 1) mX10_octant mc ms Q QX n0 43 [some (.ref x0), some (.int x1), some (.int x2), some (.int x3), some (.int x5), some (.int (x5 + (1 : Int32)))] [] h kc ks) (q_J l (d + 1) mX10_octant mc ms Q QX n0 43 [some (.ref x0), some (.int x1), some (.int x2), some (.int x3), some (.int x4), some (.int (x5 + (1 : Int32)))] [] h kc ks))) (q_J l (d + 1) mX10_octant mc ms Q QX n0 43 [some (.ref x0), some (.int x1), some (.int x2), some (.int x3), some (.int x4), some (.int (x5 + (1 : Int32)))] [] h kc ks)))) : q_J l (d + 1) mX10_octant mc ms Q QX n0 43 [some (.ref x0), some (.int x1), some (.int x2), some (.int x3), some (.int x4), some (.int x5)] [] h kc ks := by
  refine j_iload dX10_octant_43 rfl ?_
  refine j_bipush (v := (8 : Int32)) dX10_octant_45 (by decide) ?_
  refine j_icmp_ge (tgt := 80) dX10_octant_47 (by decide) (fun hc => ?_) (fun hc => ?_)
  · replace hv := hv.1 hc
    refine j_iload dX10_octant_80 rfl ?_
    exact j_iret dX10_octant_82 rfl hv
  · replace hv := hv.2 hc
    refine j_getsN (k := 2) (by decide) w_fn_X10_62 dX10_octant_50 ?_
    refine j_iload dX10_octant_53 rfl ?_
    obtain ⟨e1, hv⟩ := hv
    refine j_sald (k := 2) (by decide) dX10_octant_55 e1 ?_
    generalize q_sF 2 _ = z1 at hv ⊢
    refine j_iload_n dX10_octant_56 rfl rfl ?_
    refine j_icmp_ne (tgt := 74) dX10_octant_57 (by decide) (fun hc => ?_) (fun hc => ?_)
    · replace hv := hv.2 hc
      refine j_iinc (w := (x5 + (1 : Int32))) dX10_octant_74 rfl (by rfl) (by decide) rfl rfl ?_
      refine j_goto (tgt := 43) dX10_octant_77 (by decide) ?_
      exact hv
    · replace hv := hv.1 hc
      refine j_getsN (k := 3) (by decide) w_fn_X10_67 dX10_octant_60 ?_
      refine j_iload dX10_octant_63 rfl ?_
      obtain ⟨e1, hv⟩ := hv
      refine j_sald (k := 3) (by decide) dX10_octant_65 e1 ?_
      generalize q_sF 3 _ = z2 at hv ⊢
      refine j_iload_n dX10_octant_66 rfl rfl ?_
      refine j_icmp_ne (tgt := 74) dX10_octant_67 (by decide) (fun hc => ?_) (fun hc => ?_)
      · replace hv := hv.2 hc
        refine j_iinc (w := (x5 + (1 : Int32))) dX10_octant_74 rfl (by rfl) (by decide) rfl rfl ?_
        refine j_goto (tgt := 43) dX10_octant_77 (by decide) ?_
        exact hv
      · replace hv := hv.1 hc
        refine j_iload dX10_octant_70 rfl ?_
        refine j_istore dX10_octant_72 (by decide) rfl rfl ?_
        refine j_iinc (w := (x5 + (1 : Int32))) dX10_octant_74 rfl (by rfl) (by decide) rfl rfl ?_
        refine j_goto (tgt := 43) dX10_octant_77 (by decide) ?_
        exact hv
set_option maxRecDepth 20000 in
set_option maxHeartbeats 4000000 in
theorem v_X10_octant {l : Launch} {d mc ms : Nat} {Q : Option Value → qH → Prop} {QX : String → qH → Prop} (x0 : Nat) (x1 : Int32) {h : qH} (hv : qGR h x0 10 0 (fun r1 => qAL h r1 (1 : Int32) (fun z2 => qGR h x0 10 8 (fun r3 => qO4 h r3 x1 (fun r4 => qAL h r4 (0 : Int32) (fun z5 => qCI l (d + 0) mJ6_compare_7cf53 [.int z2, .int z5] h 0 0 (fun z7 h6 => qGR h6 x0 10 0 (fun r8 => qAL h6 r8 (2 : Int32) (fun z9 => qGR h6 x0 10 8 (fun r10 => qO4 h6 r10 x1 (fun r11 => qAL h6 r11 (1 : Int32) (fun z12 => qCI l (d + 0) mJ6_compare_7cf53 [.int z9, .int z12] h6 0 0 (fun z14 h13 => q_J l (d + 1) mX10_octant mc ms Q QX h.2 43 [some (.ref x0), some (.int x1), some (.int z7), some (.int z14), some (.int (8 : Int32)), some (.int (0 : Int32))] [] h13 mc ms))))))))))))) : q_Ct l (d + 1) mX10_octant [.ref x0, .int x1] h mc ms Q QX := by
  refine q_body (by decide ) (by intro v hm; simp only [List.mem_cons, List.not_mem_nil, or_false] at hm; rcases hm with rfl | rfl <;> rfl) (Nat.le_of_ble_eq_true rfl) ?_
  refine j_pad 4 rfl ?_
  refine j_aload_n dX10_octant_0 rfl rfl ?_
  obtain ⟨fs, r1, e1, e2, hv⟩ := hv
  refine j_getf (k := 0) cl_X10 (by decide) w_f_X10_7 dX10_octant_1 e1 e2 ?_
  refine j_iconst (v := (1 : Int32)) dX10_octant_4 (by decide) ?_
  obtain ⟨N, f, e1, e2, hv⟩ := hv
  refine j_iald dX10_octant_5 e1 e2 ?_
  generalize f _ = z2 at hv ⊢
  refine j_aload_n dX10_octant_6 rfl rfl ?_
  obtain ⟨fs, r3, e1, e2, hv⟩ := hv
  refine j_getf (k := 8) cl_X10 (by decide) w_f_X10_32 dX10_octant_7 e1 e2 ?_
  refine j_iload_n dX10_octant_10 rfl rfl ?_
  obtain ⟨N, f, r4, e1, e2, e3, hv⟩ := hv
  refine j_aaldA dX10_octant_11 e1 e2 e3 ?_
  refine j_iconst (v := (0 : Int32)) dX10_octant_12 (by decide) ?_
  obtain ⟨N, f, e1, e2, hv⟩ := hv
  refine j_iald dX10_octant_13 e1 e2 ?_
  generalize f _ = z5 at hv ⊢
  refine j_static (avs := [.int z2, .int z5]) (rest := []) (kc' := mc) (ks' := ms) dX10_octant_14 mt_J6_compare_7cf53 w_m_X10_56 w_st_J6_compare_7cf53 rfl rfl (Nat.le_of_ble_eq_true rfl) (Nat.le_refl _) (by omega) (by omega) hv (fun _ _ q9 => q9) ?_
  rintro _ h6 ⟨z7, rfl, hv⟩ -
  refine j_istore_n dX10_octant_17 rfl (by decide) rfl rfl ?_
  refine j_aload_n dX10_octant_18 rfl rfl ?_
  obtain ⟨fs, r8, e1, e2, hv⟩ := hv
  refine j_getf (k := 0) cl_X10 (by decide) w_f_X10_7 dX10_octant_19 e1 e2 ?_
  refine j_iconst (v := (2 : Int32)) dX10_octant_22 (by decide) ?_
  obtain ⟨N, f, e1, e2, hv⟩ := hv
  refine j_iald dX10_octant_23 e1 e2 ?_
  generalize f _ = z9 at hv ⊢
  refine j_aload_n dX10_octant_24 rfl rfl ?_
  obtain ⟨fs, r10, e1, e2, hv⟩ := hv
  refine j_getf (k := 8) cl_X10 (by decide) w_f_X10_32 dX10_octant_25 e1 e2 ?_
  refine j_iload_n dX10_octant_28 rfl rfl ?_
  obtain ⟨N, f, r11, e1, e2, e3, hv⟩ := hv
  refine j_aaldA dX10_octant_29 e1 e2 e3 ?_
  refine j_iconst (v := (1 : Int32)) dX10_octant_30 (by decide) ?_
  obtain ⟨N, f, e1, e2, hv⟩ := hv
  refine j_iald dX10_octant_31 e1 e2 ?_
  generalize f _ = z12 at hv ⊢
  refine j_static (avs := [.int z9, .int z12]) (rest := []) (kc' := mc) (ks' := ms) dX10_octant_32 mt_J6_compare_7cf53 w_m_X10_56 w_st_J6_compare_7cf53 rfl rfl (Nat.le_of_ble_eq_true rfl) (Nat.le_refl _) (by omega) (by omega) hv (fun _ _ q9 => q9) ?_
  rintro _ h13 ⟨z14, rfl, hv⟩ -
  refine j_istore_n dX10_octant_35 rfl (by decide) rfl rfl ?_
  refine j_bipush (v := (8 : Int32)) dX10_octant_36 (by decide) ?_
  refine j_istore dX10_octant_38 (by decide) rfl rfl ?_
  refine j_iconst (v := (0 : Int32)) dX10_octant_40 (by decide) ?_
  refine j_istore dX10_octant_41 (by decide) rfl rfl ?_
  exact hv
set_option maxRecDepth 20000 in
set_option maxHeartbeats 4000000 in
theorem v_X10_picture_189 {l : Launch} {d mc ms n0 kc ks : Nat} {Q : Option Value → qH → Prop} {QX : String → qH → Prop} (hkc : 1 ≤ kc) (hks : 4 ≤ ks) (x0 : Nat) (x1 : Int32) (x2 : Int32) (x3 : Int32) (x4 : Int32) (x5 : Int32) (x6 : Int32) (x7 : Nat) (x8 : Int32) {h : qH} (hv : qGR h x0 10 1 (fun r1 => qLN h r1 (fun z2 => qIF (z2 ≤ x8) (qGR h x0 10 1 (fun r3 => qLN h r3 (fun z4 => qNI h 4 (fun r5 h6 => qAS h6 r5 (0 : Int32) x2 (fun h7 => qAS h7 r5 (1 : Int32) x5 (fun h8 => qAS h8 r5 (2 : Int32) x3 (fun h9 => qIF (x1 = 0) (qOB h9 x0 10 (qCI l (d + 2) mX10_octant [.ref x0, .int x2] h9 0 0 (fun z11 h10 => qAS h10 r5 (3 : Int32) z11 (fun h12 => qA4 h12 x7 z4 r5 (fun h13 => qPR h13 x0 10 1 x7 (fun h14 => qGI h14 x0 10 4 (fun z15 => qPI h14 x0 10 4 (z15 + x5) (fun h16 => Q (some (.int (0 : Int32))) h16)))))))) (qAS h9 r5 (3 : Int32) (9 : Int32) (fun h17 => qA4 h17 x7 z4 r5 (fun h18 => qPR h18 x0 10 1 x7 (fun h19 => qGI h19 x0 10 4 (fun z20 => qPI h19 x0 10 4 (z20 + x5) (fun h21 => Q (some (.int (0 : Int32))) h21))))))))))))) (qGR h x0 10 1 (fun r22 => qO4 h r22 x8 (fun r23 => qA4 h x7 x8 r23 (fun h24 => q_J l (d + 3) mX10_picture mc ms Q QX n0 189 [some (.ref x0), some (.int x1), some (.int x2), some (.int x3), some (.int x4), some (.int x5), some (.int x6), some (.ref x7), some (.int (x8 + (1 : Int32)))] [] h24 kc ks))))))) : q_J l (d + 3) mX10_picture mc ms Q QX n0 189 [some (.ref x0), some (.int x1), some (.int x2), some (.int x3), some (.int x4), some (.int x5), some (.int x6), some (.ref x7), some (.int x8)] [] h kc ks := by
  refine j_iload dX10_picture_189 rfl ?_
  refine j_aload_n dX10_picture_191 rfl rfl ?_
  obtain ⟨fs, r1, e1, e2, hv⟩ := hv
  refine j_getf (k := 1) cl_X10 (by decide) w_f_X10_14 dX10_picture_192 e1 e2 ?_
  obtain ⟨t9, x9, e1, e2, hv⟩ := hv
  generalize hz9 : Int32.ofNat x9.1 = z2 at hv
  refine j_alen (N := 0) dX10_picture_195 e1 e2 hz9 ?_
  refine j_icmp_ge (tgt := 217) dX10_picture_196 (by decide) (fun hc => ?_) (fun hc => ?_)
  · replace hv := hv.1 hc
    refine j_aload dX10_picture_217 rfl ?_
    refine j_aload_n dX10_picture_219 rfl rfl ?_
    obtain ⟨fs, r3, e1, e2, hv⟩ := hv
    refine j_getf (k := 1) cl_X10 (by decide) w_f_X10_14 dX10_picture_220 e1 e2 ?_
    obtain ⟨t9, x9, e1, e2, hv⟩ := hv
    generalize hz9 : Int32.ofNat x9.1 = z4 at hv
    refine j_alen (N := 0) dX10_picture_223 e1 e2 hz9 ?_
    refine j_iconst (v := (4 : Int32)) dX10_picture_224 (by decide) ?_
    refine jj_newI (N := 4) w_ar_int dX10_picture_225 (by decide) (by decide) (by decide) (kc' := (kc - 1)) (ks' := (ks - 4)) (by omega) (by omega) hv (fun r5 h6 hv => ?_)
    refine j_dup dX10_picture_227 rfl ?_
    refine j_iconst (v := (0 : Int32)) dX10_picture_228 (by decide) ?_
    refine j_iload_n dX10_picture_229 rfl rfl ?_
    obtain ⟨N, f, e1, e2, hv⟩ := hv
    refine j_iast dX10_picture_230 e1 e2 ?_
    generalize q_set h6 r5 _ = h7 at hv ⊢
    refine j_dup dX10_picture_231 rfl ?_
    refine j_iconst (v := (1 : Int32)) dX10_picture_232 (by decide) ?_
    refine j_iload dX10_picture_233 rfl ?_
    obtain ⟨N, f, e1, e2, hv⟩ := hv
    refine j_iast dX10_picture_235 e1 e2 ?_
    generalize q_set h7 r5 _ = h8 at hv ⊢
    refine j_dup dX10_picture_236 rfl ?_
    refine j_iconst (v := (2 : Int32)) dX10_picture_237 (by decide) ?_
    refine j_iload_n dX10_picture_238 rfl rfl ?_
    obtain ⟨N, f, e1, e2, hv⟩ := hv
    refine j_iast dX10_picture_239 e1 e2 ?_
    generalize q_set h8 r5 _ = h9 at hv ⊢
    refine j_dup dX10_picture_240 rfl ?_
    refine j_iconst (v := (3 : Int32)) dX10_picture_241 (by decide) ?_
    refine j_iload_n dX10_picture_242 rfl rfl ?_
    refine j_if_eq (tgt := 251) dX10_picture_243 (by decide) (fun hc => ?_) (fun hc => ?_)
    · replace hv := hv.1 hc
      refine j_aload_n dX10_picture_251 rfl rfl ?_
      refine j_iload_n dX10_picture_252 rfl rfl ?_
      obtain ⟨⟨fs, e1⟩, hv⟩ := hv
      refine j_virtual (avs := [.int x2]) (rest := [.int (3 : Int32), .ref r5, .ref r5, .int z4, .ref x7]) (i := x0) (kc' := (kc - 1)) (ks' := (ks - 4)) dX10_picture_253 mt_X10_octant w_m_X10_89 w_in_X10_octant w_se_X10_octant rfl rfl (Nat.le_of_ble_eq_true rfl) (Nat.le_refl _) (by omega) (by omega) cl_X10.1 e1 hv (fun _ _ q9 => q9) ?_
      rintro _ h10 ⟨z11, rfl, hv⟩ -
      obtain ⟨N, f, e1, e2, hv⟩ := hv
      refine j_iast dX10_picture_256 e1 e2 ?_
      generalize q_set h10 r5 _ = h12 at hv ⊢
      obtain ⟨N, f, M, F, e1, e2, e3, hv⟩ := hv
      refine j_aast4 dX10_picture_257 e1 e2 e3 ?_
      generalize q_set h12 x7 _ = h13 at hv ⊢
      refine j_aload_n dX10_picture_258 rfl rfl ?_
      refine j_aload dX10_picture_259 rfl ?_
      obtain ⟨fs, e1, e2, hv⟩ := hv
      refine j_put (k := 1) (ty0 := tyX10) cl_X10 (pf_X10_1) w_f_X10_14 dX10_picture_261 (fun g ad => q_nRa g ad _ _) e1 e2 ?_
      generalize q_set h13 x0 _ = h14 at hv ⊢
      refine j_aload_n dX10_picture_264 rfl rfl ?_
      refine j_dup dX10_picture_265 rfl ?_
      obtain ⟨fs, z15, e1, e2, hv⟩ := hv
      refine j_getf (k := 4) cl_X10 (by decide) w_f_X10_42 dX10_picture_266 e1 e2 ?_
      refine j_iload dX10_picture_269 rfl ?_
      refine j_iadd dX10_picture_271 ?_
      obtain ⟨fs, e1, e2, hv⟩ := hv
      refine j_put (k := 4) (ty0 := tyX10) cl_X10 (pf_X10_4) w_f_X10_42 dX10_picture_272 (fun g ad => q_nI g ad _) e1 e2 ?_
      generalize q_set h14 x0 _ = h16 at hv ⊢
      refine j_iconst (v := (0 : Int32)) dX10_picture_275 (by decide) ?_
      exact j_iret dX10_picture_276 rfl hv
    · replace hv := hv.2 hc
      refine j_bipush (v := (9 : Int32)) dX10_picture_246 (by decide) ?_
      refine j_goto (tgt := 256) dX10_picture_248 (by decide) ?_
      obtain ⟨N, f, e1, e2, hv⟩ := hv
      refine j_iast dX10_picture_256 e1 e2 ?_
      generalize q_set h9 r5 _ = h17 at hv ⊢
      obtain ⟨N, f, M, F, e1, e2, e3, hv⟩ := hv
      refine j_aast4 dX10_picture_257 e1 e2 e3 ?_
      generalize q_set h17 x7 _ = h18 at hv ⊢
      refine j_aload_n dX10_picture_258 rfl rfl ?_
      refine j_aload dX10_picture_259 rfl ?_
      obtain ⟨fs, e1, e2, hv⟩ := hv
      refine j_put (k := 1) (ty0 := tyX10) cl_X10 (pf_X10_1) w_f_X10_14 dX10_picture_261 (fun g ad => q_nRa g ad _ _) e1 e2 ?_
      generalize q_set h18 x0 _ = h19 at hv ⊢
      refine j_aload_n dX10_picture_264 rfl rfl ?_
      refine j_dup dX10_picture_265 rfl ?_
      obtain ⟨fs, z20, e1, e2, hv⟩ := hv
      refine j_getf (k := 4) cl_X10 (by decide) w_f_X10_42 dX10_picture_266 e1 e2 ?_
      refine j_iload dX10_picture_269 rfl ?_
      refine j_iadd dX10_picture_271 ?_
      obtain ⟨fs, e1, e2, hv⟩ := hv
      refine j_put (k := 4) (ty0 := tyX10) cl_X10 (pf_X10_4) w_f_X10_42 dX10_picture_272 (fun g ad => q_nI g ad _) e1 e2 ?_
      generalize q_set h19 x0 _ = h21 at hv ⊢
      refine j_iconst (v := (0 : Int32)) dX10_picture_275 (by decide) ?_
      exact j_iret dX10_picture_276 rfl hv
  · replace hv := hv.2 hc
    refine j_aload dX10_picture_199 rfl ?_
    refine j_iload dX10_picture_201 rfl ?_
    refine j_aload_n dX10_picture_203 rfl rfl ?_
    obtain ⟨fs, r22, e1, e2, hv⟩ := hv
    refine j_getf (k := 1) cl_X10 (by decide) w_f_X10_14 dX10_picture_204 e1 e2 ?_
    refine j_iload dX10_picture_207 rfl ?_
    obtain ⟨N, f, r23, e1, e2, e3, hv⟩ := hv
    refine j_aaldA dX10_picture_209 e1 e2 e3 ?_
    obtain ⟨N, f, M, F, e1, e2, e3, hv⟩ := hv
    refine j_aast4 dX10_picture_210 e1 e2 e3 ?_
    generalize q_set h x7 _ = h24 at hv ⊢
    refine j_iinc (w := (x8 + (1 : Int32))) dX10_picture_211 rfl (by rfl) (by decide) rfl rfl ?_
    refine j_goto (tgt := 189) dX10_picture_214 (by decide) ?_
    exact hv
set_option maxRecDepth 20000 in
set_option maxHeartbeats 4000000 in
theorem v_X10_picture_164 {l : Launch} {d mc ms n0 kc ks : Nat} {Q : Option Value → qH → Prop} {QX : String → qH → Prop} (hkc : 1 ≤ kc) (hks : 40 ≤ ks) (x0 : Nat) (x1 : Int32) (x2 : Int32) (x3 : Int32) (x4 : Int32) (x5 : Int32) (y0 : Int32) {h : qH} (hv : qIF (y0 ≤ 0) (qGR h x0 10 1 (fun r1 => qLN h r1 (fun z2 => qNA h (z2 + (1 : Int32)) 40 (fun r3 h4 => q_J l (d + 3) mX10_picture mc ms Q QX n0 189 [some (.ref x0), some (.int x1), some (.int x2), some (.int x3), some (.int x4), some (.int x5), some (.int y0), some (.ref r3), some (.int (0 : Int32))] [] h4 (kc - 1) (ks - 40))))) (Q (some (.int y0)) h)) : q_J l (d + 3) mX10_picture mc ms Q QX n0 164 [some (.ref x0), some (.int x1), some (.int x2), some (.int x3), some (.int x4), some (.int x5), none, none, none] [.int y0] h kc ks := by
  refine j_istore dX10_picture_164 (by decide) rfl rfl ?_
  refine j_iload dX10_picture_166 rfl ?_
  refine j_if_le (tgt := 174) dX10_picture_168 (by decide) (fun hc => ?_) (fun hc => ?_)
  · replace hv := hv.1 hc
    refine j_aload_n dX10_picture_174 rfl rfl ?_
    obtain ⟨fs, r1, e1, e2, hv⟩ := hv
    refine j_getf (k := 1) cl_X10 (by decide) w_f_X10_14 dX10_picture_175 e1 e2 ?_
    obtain ⟨t9, x9, e1, e2, hv⟩ := hv
    generalize hz9 : Int32.ofNat x9.1 = z2 at hv
    refine j_alen (N := 0) dX10_picture_178 e1 e2 hz9 ?_
    refine j_iconst (v := (1 : Int32)) dX10_picture_179 (by decide) ?_
    refine j_iadd dX10_picture_180 ?_
    refine jj_newA w_cl_X10_13 dX10_picture_181 (by decide) (kc' := (kc - 1)) (ks' := (ks - 40)) (by omega) (by omega) hv (fun r3 h4 hv => ?_)
    refine j_astore dX10_picture_184 (by decide) rfl rfl ?_
    refine j_iconst (v := (0 : Int32)) dX10_picture_186 (by decide) ?_
    refine j_istore dX10_picture_187 (by decide) rfl rfl ?_
    exact hv
  · replace hv := hv.2 hc
    refine j_iload dX10_picture_171 rfl ?_
    exact j_iret dX10_picture_173 rfl hv
set_option maxRecDepth 20000 in
set_option maxHeartbeats 4000000 in
theorem v_X10_picture_125 {l : Launch} {d mc ms n0 kc ks : Nat} {Q : Option Value → qH → Prop} {QX : String → qH → Prop} (x0 : Nat) (x1 : Int32) (x2 : Int32) (x3 : Int32) (x4 : Int32) (y0 : Int32) {h : qH} (hv : qOB h x0 10 (qCI l (d + 2) mX10_units [.ref x0] h 0 0 (fun z2 h1 => qGI h1 x0 10 5 (fun z3 => qIF ((z2 + y0) ≤ z3) (qIF (x1 = 0) (qOB h1 x0 10 (qCI l (d + 2) mX10_minutes [.ref x0, .int (6 : Int32), .int (3 : Int32)] h1 0 0 (fun z5 h4 => q_J l (d + 3) mX10_picture mc ms Q QX n0 164 [some (.ref x0), some (.int x1), some (.int x2), some (.int x3), some (.int x4), some (.int y0), none, none, none] [.int z5] h4 kc ks))) (qOB h1 x0 10 (qCI l (d + 2) mX10_minutes [.ref x0, .int (25 : Int32), .int (5 : Int32)] h1 0 0 (fun z7 h6 => q_J l (d + 3) mX10_picture mc ms Q QX n0 164 [some (.ref x0), some (.int x1), some (.int x2), some (.int x3), some (.int x4), some (.int y0), none, none, none] [.int z7] h6 kc ks)))) (Q (some (.int (4 : Int32))) h1))))) : q_J l (d + 3) mX10_picture mc ms Q QX n0 125 [some (.ref x0), some (.int x1), some (.int x2), some (.int x3), some (.int x4), none, none, none, none] [.int y0] h kc ks := by
  refine j_istore dX10_picture_125 (by decide) rfl rfl ?_
  refine j_aload_n dX10_picture_127 rfl rfl ?_
  obtain ⟨⟨fs, e1⟩, hv⟩ := hv
  refine j_virtual (avs := []) (rest := []) (i := x0) (kc' := kc) (ks' := ks) dX10_picture_128 mt_X10_units w_m_X10_83 w_in_X10_units w_se_X10_units rfl rfl (Nat.le_of_ble_eq_true rfl) (Nat.le_refl _) (by omega) (by omega) cl_X10.1 e1 hv (fun _ _ q9 => q9) ?_
  rintro _ h1 ⟨z2, rfl, hv⟩ -
  refine j_iload dX10_picture_131 rfl ?_
  refine j_iadd dX10_picture_133 ?_
  refine j_aload_n dX10_picture_134 rfl rfl ?_
  obtain ⟨fs, z3, e1, e2, hv⟩ := hv
  refine j_getf (k := 5) cl_X10 (by decide) w_f_X10_25 dX10_picture_135 e1 e2 ?_
  refine j_icmp_le (tgt := 143) dX10_picture_138 (by decide) (fun hc => ?_) (fun hc => ?_)
  · replace hv := hv.1 hc
    refine j_iload_n dX10_picture_143 rfl rfl ?_
    refine j_if_eq (tgt := 157) dX10_picture_144 (by decide) (fun hc => ?_) (fun hc => ?_)
    · replace hv := hv.1 hc
      refine j_aload_n dX10_picture_157 rfl rfl ?_
      refine j_bipush (v := (6 : Int32)) dX10_picture_158 (by decide) ?_
      refine j_iconst (v := (3 : Int32)) dX10_picture_160 (by decide) ?_
      obtain ⟨⟨fs, e1⟩, hv⟩ := hv
      refine j_virtual (avs := [.int (6 : Int32), .int (3 : Int32)]) (rest := []) (i := x0) (kc' := kc) (ks' := ks) dX10_picture_161 mt_X10_minutes w_m_X10_86 w_in_X10_minutes w_se_X10_minutes rfl rfl (Nat.le_of_ble_eq_true rfl) (Nat.le_refl _) (by omega) (by omega) cl_X10.1 e1 hv (fun _ _ q9 => q9) ?_
      rintro _ h4 ⟨z5, rfl, hv⟩ -
      exact hv
    · replace hv := hv.2 hc
      refine j_aload_n dX10_picture_147 rfl rfl ?_
      refine j_bipush (v := (25 : Int32)) dX10_picture_148 (by decide) ?_
      refine j_iconst (v := (5 : Int32)) dX10_picture_150 (by decide) ?_
      obtain ⟨⟨fs, e1⟩, hv⟩ := hv
      refine j_virtual (avs := [.int (25 : Int32), .int (5 : Int32)]) (rest := []) (i := x0) (kc' := kc) (ks' := ks) dX10_picture_151 mt_X10_minutes w_m_X10_86 w_in_X10_minutes w_se_X10_minutes rfl rfl (Nat.le_of_ble_eq_true rfl) (Nat.le_refl _) (by omega) (by omega) cl_X10.1 e1 hv (fun _ _ q9 => q9) ?_
      rintro _ h6 ⟨z7, rfl, hv⟩ -
      refine j_goto (tgt := 164) dX10_picture_154 (by decide) ?_
      exact hv
  · replace hv := hv.2 hc
    refine j_iconst (v := (4 : Int32)) dX10_picture_141 (by decide) ?_
    exact j_iret dX10_picture_142 rfl hv
set_option maxRecDepth 20000 in
set_option maxHeartbeats 4000000 in
theorem v_X10_picture_101 {l : Launch} {d mc ms n0 kc ks : Nat} {Q : Option Value → qH → Prop} {QX : String → qH → Prop} (x0 : Nat) (x1 : Int32) (x2 : Int32) (x3 : Int32) (x4 : Int32) {h : qH} (hv : qGR h x0 10 0 (fun r1 => qAL h r1 (4 : Int32) (fun z2 => qIF ((-40 : Int32) ≤ z2) (qIF (x1 = 0) (q_J l (d + 3) mX10_picture mc ms Q QX n0 125 [some (.ref x0), some (.int x1), some (.int x2), some (.int x3), some (.int x4), none, none, none, none] [.int (40 : Int32)] h kc ks) (q_J l (d + 3) mX10_picture mc ms Q QX n0 125 [some (.ref x0), some (.int x1), some (.int x2), some (.int x3), some (.int x4), none, none, none, none] [.int (90 : Int32)] h kc ks)) (Q (some (.int (3 : Int32))) h)))) : q_J l (d + 3) mX10_picture mc ms Q QX n0 101 [some (.ref x0), some (.int x1), some (.int x2), some (.int x3), some (.int x4), none, none, none, none] [] h kc ks := by
  refine j_aload_n dX10_picture_101 rfl rfl ?_
  obtain ⟨fs, r1, e1, e2, hv⟩ := hv
  refine j_getf (k := 0) cl_X10 (by decide) w_f_X10_7 dX10_picture_102 e1 e2 ?_
  refine j_iconst (v := (4 : Int32)) dX10_picture_105 (by decide) ?_
  obtain ⟨N, f, e1, e2, hv⟩ := hv
  refine j_iald dX10_picture_106 e1 e2 ?_
  generalize f _ = z2 at hv ⊢
  refine j_bipush (v := (-40 : Int32)) dX10_picture_107 (by decide) ?_
  refine j_icmp_ge (tgt := 114) dX10_picture_109 (by decide) (fun hc => ?_) (fun hc => ?_)
  · replace hv := hv.1 hc
    refine j_iload_n dX10_picture_114 rfl rfl ?_
    refine j_if_eq (tgt := 123) dX10_picture_115 (by decide) (fun hc => ?_) (fun hc => ?_)
    · replace hv := hv.1 hc
      refine j_bipush (v := (40 : Int32)) dX10_picture_123 (by decide) ?_
      exact hv
    · replace hv := hv.2 hc
      refine j_bipush (v := (90 : Int32)) dX10_picture_118 (by decide) ?_
      refine j_goto (tgt := 125) dX10_picture_120 (by decide) ?_
      exact hv
  · replace hv := hv.2 hc
    refine j_iconst (v := (3 : Int32)) dX10_picture_112 (by decide) ?_
    exact j_iret dX10_picture_113 rfl hv
set_option maxRecDepth 20000 in
set_option maxHeartbeats 4000000 in
theorem v_X10_picture {l : Launch} {d mc ms : Nat} {Q : Option Value → qH → Prop} {QX : String → qH → Prop} (x0 : Nat) (x1 : Int32) (x2 : Int32) (x3 : Int32) {h : qH} (hv : qGR h x0 10 8 (fun r1 => qO4 h r1 x2 (fun r2 => qAL h r2 (0 : Int32) (fun z3 => qGR h x0 10 0 (fun r4 => qAL h r4 (1 : Int32) (fun z5 => qGR h x0 10 8 (fun r7 => qO4 h r7 x2 (fun r8 => qAL h r8 (1 : Int32) (fun z9 => qGR h x0 10 0 (fun r10 => qAL h r10 (2 : Int32) (fun z11 => qIF (x1 = 0) (qIF ((6 : Int32) < (if (if 0 ≤ (z3 - z5) then (z3 - z5) else 0 - (z3 - z5)) < (if 0 ≤ (z9 - z11) then (z9 - z11) else 0 - (z9 - z11)) then (if 0 ≤ (z9 - z11) then (z9 - z11) else 0 - (z9 - z11)) else (if 0 ≤ (z3 - z5) then (z3 - z5) else 0 - (z3 - z5)))) (Q (some (.int (5 : Int32))) h) (qGR h x0 10 7 (fun r14 => qGR h x0 10 0 (fun r15 => qAL h r15 (1 : Int32) (fun z16 => qGR h x0 10 0 (fun r17 => qAL h r17 (2 : Int32) (fun z18 => qGR h x0 10 8 (fun r19 => qO4 h r19 x2 (fun r20 => qAL h r20 (0 : Int32) (fun z21 => qGR h x0 10 8 (fun r22 => qO4 h r22 x2 (fun r23 => qAL h r23 (1 : Int32) (fun z24 => qCI l (d + 2) mL_sees [.ref r14, .int z16, .int z18, .int z21, .int z24] h 0 0 (fun z26 h25 => qIF (z26 = 0) (Q (some (.int (5 : Int32))) h25) (q_J l (d + 3) mX10_picture mc ms Q QX h.2 101 [some (.ref x0), some (.int x1), some (.int x2), some (.int x3), some (.int (if (if 0 ≤ (z3 - z5) then (z3 - z5) else 0 - (z3 - z5)) < (if 0 ≤ (z9 - z11) then (z9 - z11) else 0 - (z9 - z11)) then (if 0 ≤ (z9 - z11) then (z9 - z11) else 0 - (z9 - z11)) else (if 0 ≤ (z3 - z5) then (z3 - z5) else 0 - (z3 - z5)))), none, none, none, none] [] h25 mc ms))))))))))))))) (qIF ((if (if 0 ≤ (z3 - z5) then (z3 - z5) else 0 - (z3 - z5)) < (if 0 ≤ (z9 - z11) then (z9 - z11) else 0 - (z9 - z11)) then (if 0 ≤ (z9 - z11) then (z9 - z11) else 0 - (z9 - z11)) else (if 0 ≤ (z3 - z5) then (z3 - z5) else 0 - (z3 - z5))) ≤ (1 : Int32)) (q_J l (d + 3) mX10_picture mc ms Q QX h.2 101 [some (.ref x0), some (.int x1), some (.int x2), some (.int x3), some (.int (if (if 0 ≤ (z3 - z5) then (z3 - z5) else 0 - (z3 - z5)) < (if 0 ≤ (z9 - z11) then (z9 - z11) else 0 - (z9 - z11)) then (if 0 ≤ (z9 - z11) then (z9 - z11) else 0 - (z9 - z11)) else (if 0 ≤ (z3 - z5) then (z3 - z5) else 0 - (z3 - z5)))), none, none, none, none] [] h mc ms) (Q (some (.int (5 : Int32))) h))))))))))))) : q_Ct l (d + 3) mX10_picture [.ref x0, .int x1, .int x2, .int x3] h mc ms Q QX := by
  refine q_body (by decide ) (by intro v hm; simp only [List.mem_cons, List.not_mem_nil, or_false] at hm; rcases hm with rfl | rfl | rfl | rfl <;> rfl) (Nat.le_of_ble_eq_true rfl) ?_
  refine j_pad 5 rfl ?_
  refine j_aload_n dX10_picture_0 rfl rfl ?_
  obtain ⟨fs, r1, e1, e2, hv⟩ := hv
  refine j_getf (k := 8) cl_X10 (by decide) w_f_X10_32 dX10_picture_1 e1 e2 ?_
  refine j_iload_n dX10_picture_4 rfl rfl ?_
  obtain ⟨N, f, r2, e1, e2, e3, hv⟩ := hv
  refine j_aaldA dX10_picture_5 e1 e2 e3 ?_
  refine j_iconst (v := (0 : Int32)) dX10_picture_6 (by decide) ?_
  obtain ⟨N, f, e1, e2, hv⟩ := hv
  refine j_iald dX10_picture_7 e1 e2 ?_
  generalize f _ = z3 at hv ⊢
  refine j_aload_n dX10_picture_8 rfl rfl ?_
  obtain ⟨fs, r4, e1, e2, hv⟩ := hv
  refine j_getf (k := 0) cl_X10 (by decide) w_f_X10_7 dX10_picture_9 e1 e2 ?_
  refine j_iconst (v := (1 : Int32)) dX10_picture_12 (by decide) ?_
  obtain ⟨N, f, e1, e2, hv⟩ := hv
  refine j_iald dX10_picture_13 e1 e2 ?_
  generalize f _ = z5 at hv ⊢
  refine j_isub dX10_picture_14 ?_
  refine j_mabs dX10_picture_15 w_m_X10_70 w_st_abs w_ini_Math w_co_abs (Nat.le_of_ble_eq_true rfl) (by omega) ?_
  refine j_aload_n dX10_picture_18 rfl rfl ?_
  obtain ⟨fs, r7, e1, e2, hv⟩ := hv
  refine j_getf (k := 8) cl_X10 (by decide) w_f_X10_32 dX10_picture_19 e1 e2 ?_
  refine j_iload_n dX10_picture_22 rfl rfl ?_
  obtain ⟨N, f, r8, e1, e2, e3, hv⟩ := hv
  refine j_aaldA dX10_picture_23 e1 e2 e3 ?_
  refine j_iconst (v := (1 : Int32)) dX10_picture_24 (by decide) ?_
  obtain ⟨N, f, e1, e2, hv⟩ := hv
  refine j_iald dX10_picture_25 e1 e2 ?_
  generalize f _ = z9 at hv ⊢
  refine j_aload_n dX10_picture_26 rfl rfl ?_
  obtain ⟨fs, r10, e1, e2, hv⟩ := hv
  refine j_getf (k := 0) cl_X10 (by decide) w_f_X10_7 dX10_picture_27 e1 e2 ?_
  refine j_iconst (v := (2 : Int32)) dX10_picture_30 (by decide) ?_
  obtain ⟨N, f, e1, e2, hv⟩ := hv
  refine j_iald dX10_picture_31 e1 e2 ?_
  generalize f _ = z11 at hv ⊢
  refine j_isub dX10_picture_32 ?_
  refine j_mabs dX10_picture_33 w_m_X10_70 w_st_abs w_ini_Math w_co_abs (Nat.le_of_ble_eq_true rfl) (by omega) ?_
  refine j_mmax dX10_picture_36 w_m_X10_76 w_st_max w_ini_Math w_co_max (Nat.le_of_ble_eq_true rfl) (by omega) ?_
  refine j_istore dX10_picture_39 (by decide) rfl rfl ?_
  refine j_iload_n dX10_picture_41 rfl rfl ?_
  refine j_if_eq (tgt := 54) dX10_picture_42 (by decide) (fun hc => ?_) (fun hc => ?_)
  · replace hv := hv.1 hc
    refine j_iload dX10_picture_54 rfl ?_
    refine j_bipush (v := (6 : Int32)) dX10_picture_56 (by decide) ?_
    refine j_icmp_gt (tgt := 99) dX10_picture_58 (by decide) (fun hc => ?_) (fun hc => ?_)
    · replace hv := hv.1 hc
      refine j_iconst (v := (5 : Int32)) dX10_picture_99 (by decide) ?_
      exact j_iret dX10_picture_100 rfl hv
    · replace hv := hv.2 hc
      refine j_aload_n dX10_picture_61 rfl rfl ?_
      obtain ⟨fs, r14, e1, e2, hv⟩ := hv
      refine j_getf (k := 7) cl_X10 (by decide) w_f_X10_45 dX10_picture_62 e1 e2 ?_
      refine j_aload_n dX10_picture_65 rfl rfl ?_
      obtain ⟨fs, r15, e1, e2, hv⟩ := hv
      refine j_getf (k := 0) cl_X10 (by decide) w_f_X10_7 dX10_picture_66 e1 e2 ?_
      refine j_iconst (v := (1 : Int32)) dX10_picture_69 (by decide) ?_
      obtain ⟨N, f, e1, e2, hv⟩ := hv
      refine j_iald dX10_picture_70 e1 e2 ?_
      generalize f _ = z16 at hv ⊢
      refine j_aload_n dX10_picture_71 rfl rfl ?_
      obtain ⟨fs, r17, e1, e2, hv⟩ := hv
      refine j_getf (k := 0) cl_X10 (by decide) w_f_X10_7 dX10_picture_72 e1 e2 ?_
      refine j_iconst (v := (2 : Int32)) dX10_picture_75 (by decide) ?_
      obtain ⟨N, f, e1, e2, hv⟩ := hv
      refine j_iald dX10_picture_76 e1 e2 ?_
      generalize f _ = z18 at hv ⊢
      refine j_aload_n dX10_picture_77 rfl rfl ?_
      obtain ⟨fs, r19, e1, e2, hv⟩ := hv
      refine j_getf (k := 8) cl_X10 (by decide) w_f_X10_32 dX10_picture_78 e1 e2 ?_
      refine j_iload_n dX10_picture_81 rfl rfl ?_
      obtain ⟨N, f, r20, e1, e2, e3, hv⟩ := hv
      refine j_aaldA dX10_picture_82 e1 e2 e3 ?_
      refine j_iconst (v := (0 : Int32)) dX10_picture_83 (by decide) ?_
      obtain ⟨N, f, e1, e2, hv⟩ := hv
      refine j_iald dX10_picture_84 e1 e2 ?_
      generalize f _ = z21 at hv ⊢
      refine j_aload_n dX10_picture_85 rfl rfl ?_
      obtain ⟨fs, r22, e1, e2, hv⟩ := hv
      refine j_getf (k := 8) cl_X10 (by decide) w_f_X10_32 dX10_picture_86 e1 e2 ?_
      refine j_iload_n dX10_picture_89 rfl rfl ?_
      obtain ⟨N, f, r23, e1, e2, e3, hv⟩ := hv
      refine j_aaldA dX10_picture_90 e1 e2 e3 ?_
      refine j_iconst (v := (1 : Int32)) dX10_picture_91 (by decide) ?_
      obtain ⟨N, f, e1, e2, hv⟩ := hv
      refine j_iald dX10_picture_92 e1 e2 ?_
      generalize f _ = z24 at hv ⊢
      refine j_staticN (avs := [.ref r14, .int z16, .int z18, .int z21, .int z24]) (rest := []) (kc' := mc) (ks' := ms) dX10_picture_93 mt_L_sees w_mn_X10_79 w_st_L_sees rfl rfl (Nat.le_of_ble_eq_true rfl) (Nat.le_refl _) (by omega) (by omega) hv (fun _ _ q9 => q9) ?_
      rintro _ h25 ⟨z26, rfl, hv⟩ -
      refine j_if_ne (tgt := 101) dX10_picture_96 (by decide) (fun hc => ?_) (fun hc => ?_)
      · replace hv := hv.2 hc
        exact hv
      · replace hv := hv.1 hc
        refine j_iconst (v := (5 : Int32)) dX10_picture_99 (by decide) ?_
        exact j_iret dX10_picture_100 rfl hv
  · replace hv := hv.2 hc
    refine j_iload dX10_picture_45 rfl ?_
    refine j_iconst (v := (1 : Int32)) dX10_picture_47 (by decide) ?_
    refine j_icmp_le (tgt := 101) dX10_picture_48 (by decide) (fun hc => ?_) (fun hc => ?_)
    · replace hv := hv.1 hc
      exact hv
    · replace hv := hv.2 hc
      refine j_goto (tgt := 99) dX10_picture_51 (by decide) ?_
      refine j_iconst (v := (5 : Int32)) dX10_picture_99 (by decide) ?_
      exact j_iret dX10_picture_100 rfl hv
set_option maxRecDepth 20000 in
set_option maxHeartbeats 4000000 in
theorem v_X10_drive_155 {l : Launch} {d mc ms n0 kc ks : Nat} {Q : Option Value → qH → Prop} {QX : String → qH → Prop} (x0 : Nat) (x1 : Int32) (x2 : Int32) (x3 : Nat) (x4 : Int32) (x5 : Int32) (x6 : Int32) {h : qH} (hv : qIF (x6 ≤ 0) (qGR h x0 10 0 (fun r1 => qAL h r1 (1 : Int32) (fun z2 => qSL 2 x4 (fun z3 => qAS h r1 (1 : Int32) (z2 + z3) (fun h4 => qGR h4 x0 10 0 (fun r5 => qAL h4 r5 (2 : Int32) (fun z6 => qSL 3 x4 (fun z7 => qAS h4 r5 (2 : Int32) (z6 + z7) (fun h8 => q_J l (d + 3) mX10_drive mc ms Q QX n0 33 [some (.ref x0), some (.int x1), some (.int x2), some (.ref x3), none, none, none] [] h8 kc ks))))))))) (Q (some (.int x6)) h)) : q_J l (d + 3) mX10_drive mc ms Q QX n0 155 [some (.ref x0), some (.int x1), some (.int x2), some (.ref x3), some (.int x4), some (.int x5), some (.int x6)] [] h kc ks := by
  refine j_iload dX10_drive_155 rfl ?_
  refine j_if_le (tgt := 163) dX10_drive_157 (by decide) (fun hc => ?_) (fun hc => ?_)
  · replace hv := hv.1 hc
    refine j_aload_n dX10_drive_163 rfl rfl ?_
    obtain ⟨fs, r1, e1, e2, hv⟩ := hv
    refine j_getf (k := 0) cl_X10 (by decide) w_f_X10_7 dX10_drive_164 e1 e2 ?_
    refine j_iconst (v := (1 : Int32)) dX10_drive_167 (by decide) ?_
    refine j_dup2 dX10_drive_168 rfl rfl ?_
    obtain ⟨N, f, e1, e2, hv⟩ := hv
    refine j_iald dX10_drive_169 e1 e2 ?_
    generalize f _ = z2 at hv ⊢
    refine j_getsN (k := 2) (by decide) w_fn_X10_62 dX10_drive_170 ?_
    refine j_iload dX10_drive_173 rfl ?_
    obtain ⟨e1, hv⟩ := hv
    refine j_sald (k := 2) (by decide) dX10_drive_175 e1 ?_
    generalize q_sF 2 _ = z3 at hv ⊢
    refine j_iadd dX10_drive_176 ?_
    obtain ⟨N, f, e1, e2, hv⟩ := hv
    refine j_iast dX10_drive_177 e1 e2 ?_
    generalize q_set h r1 _ = h4 at hv ⊢
    refine j_aload_n dX10_drive_178 rfl rfl ?_
    obtain ⟨fs, r5, e1, e2, hv⟩ := hv
    refine j_getf (k := 0) cl_X10 (by decide) w_f_X10_7 dX10_drive_179 e1 e2 ?_
    refine j_iconst (v := (2 : Int32)) dX10_drive_182 (by decide) ?_
    refine j_dup2 dX10_drive_183 rfl rfl ?_
    obtain ⟨N, f, e1, e2, hv⟩ := hv
    refine j_iald dX10_drive_184 e1 e2 ?_
    generalize f _ = z6 at hv ⊢
    refine j_getsN (k := 3) (by decide) w_fn_X10_67 dX10_drive_185 ?_
    refine j_iload dX10_drive_188 rfl ?_
    obtain ⟨e1, hv⟩ := hv
    refine j_sald (k := 3) (by decide) dX10_drive_190 e1 ?_
    generalize q_sF 3 _ = z7 at hv ⊢
    refine j_iadd dX10_drive_191 ?_
    obtain ⟨N, f, e1, e2, hv⟩ := hv
    refine j_iast dX10_drive_192 e1 e2 ?_
    generalize q_set h4 r5 _ = h8 at hv ⊢
    refine j_goto (tgt := 33) dX10_drive_193 (by decide) ?_
    refine j_mask [true, true, true, true, false, false, false] rfl ?_
    exact hv
  · replace hv := hv.2 hc
    refine j_iload dX10_drive_160 rfl ?_
    exact j_iret dX10_drive_162 rfl hv
set_option maxRecDepth 20000 in
set_option maxHeartbeats 4000000 in
theorem v_X10_drive_53 {l : Launch} {d mc ms n0 kc ks : Nat} {Q : Option Value → qH → Prop} {QX : String → qH → Prop} (x0 : Nat) (x1 : Int32) (x2 : Int32) (x3 : Nat) {h : qH} (hv : qGR h x0 10 0 (fun r1 => qAL h r1 (4 : Int32) (fun z2 => qIF ((-50 : Int32) ≤ z2) (qGR h x0 10 7 (fun r3 => qGR h x0 10 0 (fun r4 => qAL h r4 (1 : Int32) (fun z5 => qGR h x0 10 0 (fun r6 => qAL h r6 (2 : Int32) (fun z7 => qCI l (d + 2) mL_next [.ref r3, .ref x3, .int z5, .int z7] h 0 0 (fun z9 h8 => qGR h8 x0 10 7 (fun r10 => qGR h8 x0 10 0 (fun r11 => qAL h8 r11 (1 : Int32) (fun z12 => qGR h8 x0 10 0 (fun r13 => qAL h8 r13 (2 : Int32) (fun z14 => qCI l (d + 2) mL_step [.ref r10, .int z12, .int z14, .int z9] h8 0 0 (fun z16 h15 => qOB h15 x0 10 (qCI l (d + 2) mX10_minutes [.ref x0, .int (z16 - (1 : Int32)), .int (0 : Int32)] h15 0 0 (fun z18 h17 => qIF (z18 = 0) (qGR h17 x0 10 7 (fun r19 => qGR h17 x0 10 0 (fun r20 => qAL h17 r20 (1 : Int32) (fun z21 => qGR h17 x0 10 0 (fun r22 => qAL h17 r22 (2 : Int32) (fun z23 => qCI l (d + 2) mL_energy [.ref r19, .int z21, .int z23, .int z9] h17 0 0 (fun z25 h24 => qOB h24 x0 10 (qCI l (d + 2) mX10_minute [.ref x0, .int z25, .int (1 : Int32)] h24 0 0 (fun z27 h26 => q_J l (d + 3) mX10_drive mc ms Q QX n0 155 [some (.ref x0), some (.int x1), some (.int x2), some (.ref x3), some (.int z9), some (.int z16), some (.int z27)] [] h26 kc ks))))))))) (q_J l (d + 3) mX10_drive mc ms Q QX n0 155 [some (.ref x0), some (.int x1), some (.int x2), some (.ref x3), some (.int z9), some (.int z16), some (.int z18)] [] h17 kc ks)))))))))))))))) (Q (some (.int (3 : Int32))) h)))) : q_J l (d + 3) mX10_drive mc ms Q QX n0 53 [some (.ref x0), some (.int x1), some (.int x2), some (.ref x3), none, none, none] [] h kc ks := by
  refine j_aload_n dX10_drive_53 rfl rfl ?_
  obtain ⟨fs, r1, e1, e2, hv⟩ := hv
  refine j_getf (k := 0) cl_X10 (by decide) w_f_X10_7 dX10_drive_54 e1 e2 ?_
  refine j_iconst (v := (4 : Int32)) dX10_drive_57 (by decide) ?_
  obtain ⟨N, f, e1, e2, hv⟩ := hv
  refine j_iald dX10_drive_58 e1 e2 ?_
  generalize f _ = z2 at hv ⊢
  refine j_bipush (v := (-50 : Int32)) dX10_drive_59 (by decide) ?_
  refine j_icmp_ge (tgt := 66) dX10_drive_61 (by decide) (fun hc => ?_) (fun hc => ?_)
  · replace hv := hv.1 hc
    refine j_aload_n dX10_drive_66 rfl rfl ?_
    obtain ⟨fs, r3, e1, e2, hv⟩ := hv
    refine j_getf (k := 7) cl_X10 (by decide) w_f_X10_45 dX10_drive_67 e1 e2 ?_
    refine j_aload_n dX10_drive_70 rfl rfl ?_
    refine j_aload_n dX10_drive_71 rfl rfl ?_
    obtain ⟨fs, r4, e1, e2, hv⟩ := hv
    refine j_getf (k := 0) cl_X10 (by decide) w_f_X10_7 dX10_drive_72 e1 e2 ?_
    refine j_iconst (v := (1 : Int32)) dX10_drive_75 (by decide) ?_
    obtain ⟨N, f, e1, e2, hv⟩ := hv
    refine j_iald dX10_drive_76 e1 e2 ?_
    generalize f _ = z5 at hv ⊢
    refine j_aload_n dX10_drive_77 rfl rfl ?_
    obtain ⟨fs, r6, e1, e2, hv⟩ := hv
    refine j_getf (k := 0) cl_X10 (by decide) w_f_X10_7 dX10_drive_78 e1 e2 ?_
    refine j_iconst (v := (2 : Int32)) dX10_drive_81 (by decide) ?_
    obtain ⟨N, f, e1, e2, hv⟩ := hv
    refine j_iald dX10_drive_82 e1 e2 ?_
    generalize f _ = z7 at hv ⊢
    refine j_staticN (avs := [.ref r3, .ref x3, .int z5, .int z7]) (rest := []) (kc' := kc) (ks' := ks) dX10_drive_83 mt_L_next w_mn_X10_99 w_st_L_next rfl rfl (Nat.le_of_ble_eq_true rfl) (Nat.le_refl _) (by omega) (by omega) hv (fun _ _ q9 => q9) ?_
    rintro _ h8 ⟨z9, rfl, hv⟩ -
    refine j_istore dX10_drive_86 (by decide) rfl rfl ?_
    refine j_aload_n dX10_drive_88 rfl rfl ?_
    obtain ⟨fs, r10, e1, e2, hv⟩ := hv
    refine j_getf (k := 7) cl_X10 (by decide) w_f_X10_45 dX10_drive_89 e1 e2 ?_
    refine j_aload_n dX10_drive_92 rfl rfl ?_
    obtain ⟨fs, r11, e1, e2, hv⟩ := hv
    refine j_getf (k := 0) cl_X10 (by decide) w_f_X10_7 dX10_drive_93 e1 e2 ?_
    refine j_iconst (v := (1 : Int32)) dX10_drive_96 (by decide) ?_
    obtain ⟨N, f, e1, e2, hv⟩ := hv
    refine j_iald dX10_drive_97 e1 e2 ?_
    generalize f _ = z12 at hv ⊢
    refine j_aload_n dX10_drive_98 rfl rfl ?_
    obtain ⟨fs, r13, e1, e2, hv⟩ := hv
    refine j_getf (k := 0) cl_X10 (by decide) w_f_X10_7 dX10_drive_99 e1 e2 ?_
    refine j_iconst (v := (2 : Int32)) dX10_drive_102 (by decide) ?_
    obtain ⟨N, f, e1, e2, hv⟩ := hv
    refine j_iald dX10_drive_103 e1 e2 ?_
    generalize f _ = z14 at hv ⊢
    refine j_iload dX10_drive_104 rfl ?_
    refine j_staticN (avs := [.ref r10, .int z12, .int z14, .int z9]) (rest := []) (kc' := kc) (ks' := ks) dX10_drive_106 mt_L_step w_mn_X10_103 w_st_L_step rfl rfl (Nat.le_of_ble_eq_true rfl) (Nat.le_refl _) (by omega) (by omega) hv (fun _ _ q9 => q9) ?_
    rintro _ h15 ⟨z16, rfl, hv⟩ -
    refine j_istore dX10_drive_109 (by decide) rfl rfl ?_
    refine j_aload_n dX10_drive_111 rfl rfl ?_
    refine j_iload dX10_drive_112 rfl ?_
    refine j_iconst (v := (1 : Int32)) dX10_drive_114 (by decide) ?_
    refine j_isub dX10_drive_115 ?_
    refine j_iconst (v := (0 : Int32)) dX10_drive_116 (by decide) ?_
    obtain ⟨⟨fs, e1⟩, hv⟩ := hv
    refine j_virtual (avs := [.int (z16 - (1 : Int32)), .int (0 : Int32)]) (rest := []) (i := x0) (kc' := kc) (ks' := ks) dX10_drive_117 mt_X10_minutes w_m_X10_86 w_in_X10_minutes w_se_X10_minutes rfl rfl (Nat.le_of_ble_eq_true rfl) (Nat.le_refl _) (by omega) (by omega) cl_X10.1 e1 hv (fun _ _ q9 => q9) ?_
    rintro _ h17 ⟨z18, rfl, hv⟩ -
    refine j_istore dX10_drive_120 (by decide) rfl rfl ?_
    refine j_iload dX10_drive_122 rfl ?_
    refine j_if_ne (tgt := 155) dX10_drive_124 (by decide) (fun hc => ?_) (fun hc => ?_)
    · replace hv := hv.2 hc
      exact hv
    · replace hv := hv.1 hc
      refine j_aload_n dX10_drive_127 rfl rfl ?_
      refine j_aload_n dX10_drive_128 rfl rfl ?_
      obtain ⟨fs, r19, e1, e2, hv⟩ := hv
      refine j_getf (k := 7) cl_X10 (by decide) w_f_X10_45 dX10_drive_129 e1 e2 ?_
      refine j_aload_n dX10_drive_132 rfl rfl ?_
      obtain ⟨fs, r20, e1, e2, hv⟩ := hv
      refine j_getf (k := 0) cl_X10 (by decide) w_f_X10_7 dX10_drive_133 e1 e2 ?_
      refine j_iconst (v := (1 : Int32)) dX10_drive_136 (by decide) ?_
      obtain ⟨N, f, e1, e2, hv⟩ := hv
      refine j_iald dX10_drive_137 e1 e2 ?_
      generalize f _ = z21 at hv ⊢
      refine j_aload_n dX10_drive_138 rfl rfl ?_
      obtain ⟨fs, r22, e1, e2, hv⟩ := hv
      refine j_getf (k := 0) cl_X10 (by decide) w_f_X10_7 dX10_drive_139 e1 e2 ?_
      refine j_iconst (v := (2 : Int32)) dX10_drive_142 (by decide) ?_
      obtain ⟨N, f, e1, e2, hv⟩ := hv
      refine j_iald dX10_drive_143 e1 e2 ?_
      generalize f _ = z23 at hv ⊢
      refine j_iload dX10_drive_144 rfl ?_
      refine j_staticN (avs := [.ref r19, .int z21, .int z23, .int z9]) (rest := [.ref x0]) (kc' := kc) (ks' := ks) dX10_drive_146 mt_L_energy w_mn_X10_107 w_st_L_energy rfl rfl (Nat.le_of_ble_eq_true rfl) (Nat.le_refl _) (by omega) (by omega) hv (fun _ _ q9 => q9) ?_
      rintro _ h24 ⟨z25, rfl, hv⟩ -
      refine j_iconst (v := (1 : Int32)) dX10_drive_149 (by decide) ?_
      obtain ⟨⟨fs, e1⟩, hv⟩ := hv
      refine j_virtual (avs := [.int z25, .int (1 : Int32)]) (rest := []) (i := x0) (kc' := kc) (ks' := ks) dX10_drive_150 mt_X10_minute w_m_X10_52 w_in_X10_minute w_se_X10_minute rfl rfl (Nat.le_of_ble_eq_true rfl) (Nat.le_refl _) (by omega) (by omega) cl_X10.1 e1 hv (fun _ _ q9 => q9) ?_
      rintro _ h26 ⟨z27, rfl, hv⟩ -
      refine j_istore dX10_drive_153 (by decide) rfl rfl ?_
      exact hv
  · replace hv := hv.2 hc
    refine j_iconst (v := (3 : Int32)) dX10_drive_64 (by decide) ?_
    exact j_iret dX10_drive_65 rfl hv
set_option maxRecDepth 20000 in
set_option maxHeartbeats 4000000 in
theorem v_X10_drive_33 {l : Launch} {d mc ms n0 kc ks : Nat} {Q : Option Value → qH → Prop} {QX : String → qH → Prop} (x0 : Nat) (x1 : Int32) (x2 : Int32) (x3 : Nat) {h : qH} (hv : qGR h x0 10 0 (fun r1 => qAL h r1 (1 : Int32) (fun z2 => qIF (z2 = x1) (qGR h x0 10 0 (fun r3 => qAL h r3 (2 : Int32) (fun z4 => qIF (z4 = x2) (Q (some (.int (0 : Int32))) h) (q_J l (d + 3) mX10_drive mc ms Q QX n0 53 [some (.ref x0), some (.int x1), some (.int x2), some (.ref x3), none, none, none] [] h kc ks)))) (q_J l (d + 3) mX10_drive mc ms Q QX n0 53 [some (.ref x0), some (.int x1), some (.int x2), some (.ref x3), none, none, none] [] h kc ks)))) : q_J l (d + 3) mX10_drive mc ms Q QX n0 33 [some (.ref x0), some (.int x1), some (.int x2), some (.ref x3), none, none, none] [] h kc ks := by
  refine j_aload_n dX10_drive_33 rfl rfl ?_
  obtain ⟨fs, r1, e1, e2, hv⟩ := hv
  refine j_getf (k := 0) cl_X10 (by decide) w_f_X10_7 dX10_drive_34 e1 e2 ?_
  refine j_iconst (v := (1 : Int32)) dX10_drive_37 (by decide) ?_
  obtain ⟨N, f, e1, e2, hv⟩ := hv
  refine j_iald dX10_drive_38 e1 e2 ?_
  generalize f _ = z2 at hv ⊢
  refine j_iload_n dX10_drive_39 rfl rfl ?_
  refine j_icmp_ne (tgt := 53) dX10_drive_40 (by decide) (fun hc => ?_) (fun hc => ?_)
  · replace hv := hv.2 hc
    exact hv
  · replace hv := hv.1 hc
    refine j_aload_n dX10_drive_43 rfl rfl ?_
    obtain ⟨fs, r3, e1, e2, hv⟩ := hv
    refine j_getf (k := 0) cl_X10 (by decide) w_f_X10_7 dX10_drive_44 e1 e2 ?_
    refine j_iconst (v := (2 : Int32)) dX10_drive_47 (by decide) ?_
    obtain ⟨N, f, e1, e2, hv⟩ := hv
    refine j_iald dX10_drive_48 e1 e2 ?_
    generalize f _ = z4 at hv ⊢
    refine j_iload_n dX10_drive_49 rfl rfl ?_
    refine j_icmp_eq (tgt := 196) dX10_drive_50 (by decide) (fun hc => ?_) (fun hc => ?_)
    · replace hv := hv.1 hc
      refine j_iconst (v := (0 : Int32)) dX10_drive_196 (by decide) ?_
      exact j_iret dX10_drive_197 rfl hv
    · replace hv := hv.2 hc
      exact hv
set_option maxRecDepth 20000 in
set_option maxHeartbeats 4000000 in
theorem v_X10_drive {l : Launch} {d mc ms : Nat} {Q : Option Value → qH → Prop} {QX : String → qH → Prop} (hkc : 1 ≤ mc) (hks : 576 ≤ ms) (x0 : Nat) (x1 : Int32) (x2 : Int32) {h : qH} (hv : qGR h x0 10 7 (fun r1 => qCR l (d + 2) mL_costs [.ref r1, .int x1, .int x2] h 1 576 (fun z3 h2 => qGR h2 x0 10 0 (fun r4 => qAL h2 r4 (2 : Int32) (fun z5 => qGR h2 x0 10 0 (fun r6 => qAL h2 r6 (1 : Int32) (fun z7 => qAL h2 z3 (((24 : Int32) * z5) + z7) (fun z8 => qIF (0 ≤ z8) (q_J l (d + 3) mX10_drive mc ms Q QX h.2 33 [some (.ref x0), some (.int x1), some (.int x2), some (.ref z3), none, none, none] [] h2 (mc - 1) (ms - 576)) (Q (some (.int (1 : Int32))) h2))))))))) : q_Ct l (d + 3) mX10_drive [.ref x0, .int x1, .int x2] h mc ms Q QX := by
  refine q_body (by decide ) (by intro v hm; simp only [List.mem_cons, List.not_mem_nil, or_false] at hm; rcases hm with rfl | rfl | rfl <;> rfl) (Nat.le_of_ble_eq_true rfl) ?_
  refine j_pad 4 rfl ?_
  refine j_aload_n dX10_drive_0 rfl rfl ?_
  obtain ⟨fs, r1, e1, e2, hv⟩ := hv
  refine j_getf (k := 7) cl_X10 (by decide) w_f_X10_45 dX10_drive_1 e1 e2 ?_
  refine j_iload_n dX10_drive_4 rfl rfl ?_
  refine j_iload_n dX10_drive_5 rfl rfl ?_
  refine j_staticN (avs := [.ref r1, .int x1, .int x2]) (rest := []) (kc' := (mc - 1)) (ks' := (ms - 576)) dX10_drive_6 mt_L_costs w_mn_X10_95 w_st_L_costs rfl rfl (Nat.le_of_ble_eq_true rfl) (Nat.le_refl _) (by omega) (by omega) hv (fun _ _ q9 => q9) ?_
  rintro _ h2 ⟨z3, rfl, hv⟩ -
  refine j_astore_n dX10_drive_9 rfl (by decide) rfl rfl ?_
  refine j_aload_n dX10_drive_10 rfl rfl ?_
  refine j_bipush (v := (24 : Int32)) dX10_drive_11 (by decide) ?_
  refine j_aload_n dX10_drive_13 rfl rfl ?_
  obtain ⟨fs, r4, e1, e2, hv⟩ := hv
  refine j_getf (k := 0) cl_X10 (by decide) w_f_X10_7 dX10_drive_14 e1 e2 ?_
  refine j_iconst (v := (2 : Int32)) dX10_drive_17 (by decide) ?_
  obtain ⟨N, f, e1, e2, hv⟩ := hv
  refine j_iald dX10_drive_18 e1 e2 ?_
  generalize f _ = z5 at hv ⊢
  refine j_imul dX10_drive_19 ?_
  refine j_aload_n dX10_drive_20 rfl rfl ?_
  obtain ⟨fs, r6, e1, e2, hv⟩ := hv
  refine j_getf (k := 0) cl_X10 (by decide) w_f_X10_7 dX10_drive_21 e1 e2 ?_
  refine j_iconst (v := (1 : Int32)) dX10_drive_24 (by decide) ?_
  obtain ⟨N, f, e1, e2, hv⟩ := hv
  refine j_iald dX10_drive_25 e1 e2 ?_
  generalize f _ = z7 at hv ⊢
  refine j_iadd dX10_drive_26 ?_
  obtain ⟨N, f, e1, e2, hv⟩ := hv
  refine j_iald dX10_drive_27 e1 e2 ?_
  generalize f _ = z8 at hv ⊢
  refine j_if_ge (tgt := 33) dX10_drive_28 (by decide) (fun hc => ?_) (fun hc => ?_)
  · replace hv := hv.1 hc
    exact hv
  · replace hv := hv.2 hc
    refine j_iconst (v := (1 : Int32)) dX10_drive_31 (by decide) ?_
    exact j_iret dX10_drive_32 rfl hv
set_option maxRecDepth 20000 in
set_option maxHeartbeats 4000000 in
theorem v_X10_act {l : Launch} {d mc ms : Nat} {Q : Option Value → qH → Prop} {QX : String → qH → Prop} (hkc : 2 ≤ mc) (hks : 576 ≤ ms) (x0 : Nat) (x1 : Int32) (x2 : Int32) (x3 : Int32) {h : qH} (hv : qIF (x1 = (0 : Int32)) (qOB h x0 10 (qCI l (d + 3) mX10_drive [.ref x0, .int x2, .int x3] h 1 576 (fun z2 h1 => Q (some (.int z2)) h1))) (qIF (x1 = (1 : Int32)) (qOB h x0 10 (qCI l (d + 3) mX10_picture [.ref x0, .int (0 : Int32), .int x2, .int x3] h 2 44 (fun z4 h3 => Q (some (.int z4)) h3))) (qIF (x1 = (2 : Int32)) (qOB h x0 10 (qCI l (d + 3) mX10_picture [.ref x0, .int (1 : Int32), .int x2, .int x3] h 2 44 (fun z6 h5 => Q (some (.int z6)) h5))) (qIF (x1 = (3 : Int32)) (qOB h x0 10 (qCI l (d + 3) mX10_send [.ref x0, .int x2] h 0 0 (fun z8 h7 => Q (some (.int z8)) h7))) (qIF (x1 = (4 : Int32)) (qOB h x0 10 (qCI l (d + 3) mX10_rest [.ref x0, .int x2, .int (1 : Int32)] h 0 0 (fun z10 h9 => Q (some (.int z10)) h9))) (qIF (x1 = (5 : Int32)) (qOB h x0 10 (qCI l (d + 3) mX10_rest [.ref x0, .int x2, .int (0 : Int32)] h 0 0 (fun z12 h11 => Q (some (.int z12)) h11))) (qIF (x1 = (6 : Int32)) (qGR h x0 10 0 (fun r13 => qAS h r13 (5 : Int32) x2 (fun h14 => Q (some (.int (0 : Int32))) h14))) (qOB h x0 10 (qCI l (d + 3) mX10_minutes [.ref x0, .int (15 : Int32), .int (6 : Int32)] h 0 0 (fun z16 h15 => qGR h15 x0 10 0 (fun r17 => qGR h15 x0 10 0 (fun r18 => qAL h15 r18 (6 : Int32) (fun z19 => qIF (z19 ≤ (90 : Int32)) (qGR h15 x0 10 0 (fun r20 => qAL h15 r20 (6 : Int32) (fun z21 => qAS h15 r17 (6 : Int32) (z21 + (10 : Int32)) (fun h22 => Q (some (.int z16)) h22)))) (qAS h15 r17 (6 : Int32) (100 : Int32) (fun h23 => Q (some (.int z16)) h23))))))))))))))) : q_Ct l (d + 4) mX10_act [.ref x0, .int x1, .int x2, .int x3] h mc ms Q QX := by
  refine q_body (by decide ) (by intro v hm; simp only [List.mem_cons, List.not_mem_nil, or_false] at hm; rcases hm with rfl | rfl | rfl | rfl <;> rfl) (Nat.le_of_ble_eq_true rfl) ?_
  refine j_pad 1 rfl ?_
  refine j_iload_n dX10_act_0 rfl rfl ?_
  by_cases hc0 : x1 = (0 : Int32)
  · replace hv := hv.1 hc0
    refine j_tableIn (tgt := 44) (off := 43) dX10_act_1 (by rw [hc0]; decide) (by rw [hc0]; decide) (by rw [hc0]; decide) (by decide) ?_
    refine j_aload_n dX10_act_44 rfl rfl ?_
    refine j_iload_n dX10_act_45 rfl rfl ?_
    refine j_iload_n dX10_act_46 rfl rfl ?_
    obtain ⟨⟨fs, e1⟩, hv⟩ := hv
    refine j_virtual (avs := [.int x2, .int x3]) (rest := []) (i := x0) (kc' := (mc - 1)) (ks' := (ms - 576)) dX10_act_47 mt_X10_drive w_m_X10_110 w_in_X10_drive w_se_X10_drive rfl rfl (Nat.le_of_ble_eq_true rfl) (Nat.le_refl _) (by omega) (by omega) cl_X10.1 e1 hv (fun _ _ q9 => q9) ?_
    rintro _ h1 ⟨z2, rfl, hv⟩ -
    exact j_iret dX10_act_50 rfl hv
  · replace hv := hv.2 hc0
    by_cases hc1 : x1 = (1 : Int32)
    · replace hv := hv.1 hc1
      refine j_tableIn (tgt := 51) (off := 50) dX10_act_1 (by rw [hc1]; decide) (by rw [hc1]; decide) (by rw [hc1]; decide) (by decide) ?_
      refine j_aload_n dX10_act_51 rfl rfl ?_
      refine j_iconst (v := (0 : Int32)) dX10_act_52 (by decide) ?_
      refine j_iload_n dX10_act_53 rfl rfl ?_
      refine j_iload_n dX10_act_54 rfl rfl ?_
      obtain ⟨⟨fs, e1⟩, hv⟩ := hv
      refine j_virtual (avs := [.int (0 : Int32), .int x2, .int x3]) (rest := []) (i := x0) (kc' := (mc - 2)) (ks' := (ms - 44)) dX10_act_55 mt_X10_picture w_m_X10_113 w_in_X10_picture w_se_X10_picture rfl rfl (Nat.le_of_ble_eq_true rfl) (Nat.le_refl _) (by omega) (by omega) cl_X10.1 e1 hv (fun _ _ q9 => q9) ?_
      rintro _ h3 ⟨z4, rfl, hv⟩ -
      exact j_iret dX10_act_58 rfl hv
    · replace hv := hv.2 hc1
      by_cases hc2 : x1 = (2 : Int32)
      · replace hv := hv.1 hc2
        refine j_tableIn (tgt := 59) (off := 58) dX10_act_1 (by rw [hc2]; decide) (by rw [hc2]; decide) (by rw [hc2]; decide) (by decide) ?_
        refine j_aload_n dX10_act_59 rfl rfl ?_
        refine j_iconst (v := (1 : Int32)) dX10_act_60 (by decide) ?_
        refine j_iload_n dX10_act_61 rfl rfl ?_
        refine j_iload_n dX10_act_62 rfl rfl ?_
        obtain ⟨⟨fs, e1⟩, hv⟩ := hv
        refine j_virtual (avs := [.int (1 : Int32), .int x2, .int x3]) (rest := []) (i := x0) (kc' := (mc - 2)) (ks' := (ms - 44)) dX10_act_63 mt_X10_picture w_m_X10_113 w_in_X10_picture w_se_X10_picture rfl rfl (Nat.le_of_ble_eq_true rfl) (Nat.le_refl _) (by omega) (by omega) cl_X10.1 e1 hv (fun _ _ q9 => q9) ?_
        rintro _ h5 ⟨z6, rfl, hv⟩ -
        exact j_iret dX10_act_66 rfl hv
      · replace hv := hv.2 hc2
        by_cases hc3 : x1 = (3 : Int32)
        · replace hv := hv.1 hc3
          refine j_tableIn (tgt := 67) (off := 66) dX10_act_1 (by rw [hc3]; decide) (by rw [hc3]; decide) (by rw [hc3]; decide) (by decide) ?_
          refine j_aload_n dX10_act_67 rfl rfl ?_
          refine j_iload_n dX10_act_68 rfl rfl ?_
          obtain ⟨⟨fs, e1⟩, hv⟩ := hv
          refine j_virtual (avs := [.int x2]) (rest := []) (i := x0) (kc' := mc) (ks' := ms) dX10_act_69 mt_X10_send w_m_X10_117 w_in_X10_send w_se_X10_send rfl rfl (Nat.le_of_ble_eq_true rfl) (Nat.le_refl _) (by omega) (by omega) cl_X10.1 e1 hv (fun _ _ q9 => q9) ?_
          rintro _ h7 ⟨z8, rfl, hv⟩ -
          exact j_iret dX10_act_72 rfl hv
        · replace hv := hv.2 hc3
          by_cases hc4 : x1 = (4 : Int32)
          · replace hv := hv.1 hc4
            refine j_tableIn (tgt := 73) (off := 72) dX10_act_1 (by rw [hc4]; decide) (by rw [hc4]; decide) (by rw [hc4]; decide) (by decide) ?_
            refine j_aload_n dX10_act_73 rfl rfl ?_
            refine j_iload_n dX10_act_74 rfl rfl ?_
            refine j_iconst (v := (1 : Int32)) dX10_act_75 (by decide) ?_
            obtain ⟨⟨fs, e1⟩, hv⟩ := hv
            refine j_virtual (avs := [.int x2, .int (1 : Int32)]) (rest := []) (i := x0) (kc' := mc) (ks' := ms) dX10_act_76 mt_X10_rest w_m_X10_120 w_in_X10_rest w_se_X10_rest rfl rfl (Nat.le_of_ble_eq_true rfl) (Nat.le_refl _) (by omega) (by omega) cl_X10.1 e1 hv (fun _ _ q9 => q9) ?_
            rintro _ h9 ⟨z10, rfl, hv⟩ -
            exact j_iret dX10_act_79 rfl hv
          · replace hv := hv.2 hc4
            by_cases hc5 : x1 = (5 : Int32)
            · replace hv := hv.1 hc5
              refine j_tableIn (tgt := 80) (off := 79) dX10_act_1 (by rw [hc5]; decide) (by rw [hc5]; decide) (by rw [hc5]; decide) (by decide) ?_
              refine j_aload_n dX10_act_80 rfl rfl ?_
              refine j_iload_n dX10_act_81 rfl rfl ?_
              refine j_iconst (v := (0 : Int32)) dX10_act_82 (by decide) ?_
              obtain ⟨⟨fs, e1⟩, hv⟩ := hv
              refine j_virtual (avs := [.int x2, .int (0 : Int32)]) (rest := []) (i := x0) (kc' := mc) (ks' := ms) dX10_act_83 mt_X10_rest w_m_X10_120 w_in_X10_rest w_se_X10_rest rfl rfl (Nat.le_of_ble_eq_true rfl) (Nat.le_refl _) (by omega) (by omega) cl_X10.1 e1 hv (fun _ _ q9 => q9) ?_
              rintro _ h11 ⟨z12, rfl, hv⟩ -
              exact j_iret dX10_act_86 rfl hv
            · replace hv := hv.2 hc5
              by_cases hc6 : x1 = (6 : Int32)
              · replace hv := hv.1 hc6
                refine j_tableIn (tgt := 87) (off := 86) dX10_act_1 (by rw [hc6]; decide) (by rw [hc6]; decide) (by rw [hc6]; decide) (by decide) ?_
                refine j_aload_n dX10_act_87 rfl rfl ?_
                obtain ⟨fs, r13, e1, e2, hv⟩ := hv
                refine j_getf (k := 0) cl_X10 (by decide) w_f_X10_7 dX10_act_88 e1 e2 ?_
                refine j_iconst (v := (5 : Int32)) dX10_act_91 (by decide) ?_
                refine j_iload_n dX10_act_92 rfl rfl ?_
                obtain ⟨N, f, e1, e2, hv⟩ := hv
                refine j_iast dX10_act_93 e1 e2 ?_
                generalize q_set h r13 _ = h14 at hv ⊢
                refine j_iconst (v := (0 : Int32)) dX10_act_94 (by decide) ?_
                exact j_iret dX10_act_95 rfl hv
              · replace hv := hv.2 hc6
                refine j_tableOut (tgt := 96) dX10_act_1 (q_tabO (by decide) (by decide) (fun j h1 => by match j, h1 with | 0, _ => exact hc0 | 1, _ => exact hc1 | 2, _ => exact hc2 | 3, _ => exact hc3 | 4, _ => exact hc4 | 5, _ => exact hc5 | 6, _ => exact hc6 | j + 7, h1 => exact absurd h1 (by omega))) (by decide) ?_
                refine j_aload_n dX10_act_96 rfl rfl ?_
                refine j_bipush (v := (15 : Int32)) dX10_act_97 (by decide) ?_
                refine j_bipush (v := (6 : Int32)) dX10_act_99 (by decide) ?_
                obtain ⟨⟨fs, e1⟩, hv⟩ := hv
                refine j_virtual (avs := [.int (15 : Int32), .int (6 : Int32)]) (rest := []) (i := x0) (kc' := mc) (ks' := ms) dX10_act_101 mt_X10_minutes w_m_X10_86 w_in_X10_minutes w_se_X10_minutes rfl rfl (Nat.le_of_ble_eq_true rfl) (Nat.le_refl _) (by omega) (by omega) cl_X10.1 e1 hv (fun _ _ q9 => q9) ?_
                rintro _ h15 ⟨z16, rfl, hv⟩ -
                refine j_istore dX10_act_104 (by decide) rfl rfl ?_
                refine j_aload_n dX10_act_106 rfl rfl ?_
                obtain ⟨fs, r17, e1, e2, hv⟩ := hv
                refine j_getf (k := 0) cl_X10 (by decide) w_f_X10_7 dX10_act_107 e1 e2 ?_
                refine j_bipush (v := (6 : Int32)) dX10_act_110 (by decide) ?_
                refine j_aload_n dX10_act_112 rfl rfl ?_
                obtain ⟨fs, r18, e1, e2, hv⟩ := hv
                refine j_getf (k := 0) cl_X10 (by decide) w_f_X10_7 dX10_act_113 e1 e2 ?_
                refine j_bipush (v := (6 : Int32)) dX10_act_116 (by decide) ?_
                obtain ⟨N, f, e1, e2, hv⟩ := hv
                refine j_iald dX10_act_118 e1 e2 ?_
                generalize f _ = z19 at hv ⊢
                refine j_bipush (v := (90 : Int32)) dX10_act_119 (by decide) ?_
                refine j_icmp_le (tgt := 129) dX10_act_121 (by decide) (fun hc => ?_) (fun hc => ?_)
                · replace hv := hv.1 hc
                  refine j_aload_n dX10_act_129 rfl rfl ?_
                  obtain ⟨fs, r20, e1, e2, hv⟩ := hv
                  refine j_getf (k := 0) cl_X10 (by decide) w_f_X10_7 dX10_act_130 e1 e2 ?_
                  refine j_bipush (v := (6 : Int32)) dX10_act_133 (by decide) ?_
                  obtain ⟨N, f, e1, e2, hv⟩ := hv
                  refine j_iald dX10_act_135 e1 e2 ?_
                  generalize f _ = z21 at hv ⊢
                  refine j_bipush (v := (10 : Int32)) dX10_act_136 (by decide) ?_
                  refine j_iadd dX10_act_138 ?_
                  obtain ⟨N, f, e1, e2, hv⟩ := hv
                  refine j_iast dX10_act_139 e1 e2 ?_
                  generalize q_set h15 r17 _ = h22 at hv ⊢
                  refine j_iload dX10_act_140 rfl ?_
                  exact j_iret dX10_act_142 rfl hv
                · replace hv := hv.2 hc
                  refine j_bipush (v := (100 : Int32)) dX10_act_124 (by decide) ?_
                  refine j_goto (tgt := 139) dX10_act_126 (by decide) ?_
                  obtain ⟨N, f, e1, e2, hv⟩ := hv
                  refine j_iast dX10_act_139 e1 e2 ?_
                  generalize q_set h15 r17 _ = h23 at hv ⊢
                  refine j_iload dX10_act_140 rfl ?_
                  exact j_iret dX10_act_142 rfl hv
set_option maxRecDepth 20000 in
set_option maxHeartbeats 4000000 in
theorem v_X10_told {l : Launch} {d mc ms : Nat} {Q : Option Value → qH → Prop} {QX : String → qH → Prop} (x0 : Nat) (x1 : Int32) {h : qH} (hv : qIF ((7 : Int32) ≤ x1) (qIF (x1 = (7 : Int32)) (qOB h x0 10 (qCI l (d + 0) mX10_units [.ref x0] h 0 0 (fun z6 h5 => Q (some (.int z6)) h5))) (qIF (x1 = (8 : Int32)) (qGR h x0 10 1 (fun r3 => qLN h r3 (fun z4 => Q (some (.int z4)) h))) (qGR h x0 10 0 (fun r1 => qAL h r1 (7 : Int32) (fun z2 => Q (some (.int z2)) h))))) (qGR h x0 10 0 (fun r7 => qAL h r7 x1 (fun z8 => Q (some (.int z8)) h)))) : q_Ct l (d + 1) mX10_told [.ref x0, .int x1] h mc ms Q QX := by
  refine q_body (by decide ) (by intro v hm; simp only [List.mem_cons, List.not_mem_nil, or_false] at hm; rcases hm with rfl | rfl <;> rfl) (Nat.le_of_ble_eq_true rfl) ?_
  refine j_pad 0 rfl ?_
  refine j_iload_n dX10_told_0 rfl rfl ?_
  refine j_bipush (v := (7 : Int32)) dX10_told_1 (by decide) ?_
  refine j_icmp_ge (tgt := 15) dX10_told_3 (by decide) (fun hc => ?_) (fun hc => ?_)
  · replace hv := hv.1 hc
    refine j_iload_n dX10_told_15 rfl rfl ?_
    refine j_bipush (v := (7 : Int32)) dX10_told_16 (by decide) ?_
    refine j_icmp_ne (tgt := 28) dX10_told_18 (by decide) (fun hc => ?_) (fun hc => ?_)
    · replace hv := hv.2 hc
      refine j_iload_n dX10_told_28 rfl rfl ?_
      refine j_bipush (v := (8 : Int32)) dX10_told_29 (by decide) ?_
      refine j_icmp_ne (tgt := 42) dX10_told_31 (by decide) (fun hc => ?_) (fun hc => ?_)
      · replace hv := hv.2 hc
        refine j_aload_n dX10_told_42 rfl rfl ?_
        obtain ⟨fs, r1, e1, e2, hv⟩ := hv
        refine j_getf (k := 0) cl_X10 (by decide) w_f_X10_7 dX10_told_43 e1 e2 ?_
        refine j_bipush (v := (7 : Int32)) dX10_told_46 (by decide) ?_
        obtain ⟨N, f, e1, e2, hv⟩ := hv
        refine j_iald dX10_told_48 e1 e2 ?_
        generalize f _ = z2 at hv ⊢
        exact j_iret dX10_told_49 rfl hv
      · replace hv := hv.1 hc
        refine j_aload_n dX10_told_34 rfl rfl ?_
        obtain ⟨fs, r3, e1, e2, hv⟩ := hv
        refine j_getf (k := 1) cl_X10 (by decide) w_f_X10_14 dX10_told_35 e1 e2 ?_
        obtain ⟨t9, x9, e1, e2, hv⟩ := hv
        generalize hz9 : Int32.ofNat x9.1 = z4 at hv
        refine j_alen (N := 0) dX10_told_38 e1 e2 hz9 ?_
        refine j_goto (tgt := 49) dX10_told_39 (by decide) ?_
        exact j_iret dX10_told_49 rfl hv
    · replace hv := hv.1 hc
      refine j_aload_n dX10_told_21 rfl rfl ?_
      obtain ⟨⟨fs, e1⟩, hv⟩ := hv
      refine j_virtual (avs := []) (rest := []) (i := x0) (kc' := mc) (ks' := ms) dX10_told_22 mt_X10_units w_m_X10_83 w_in_X10_units w_se_X10_units rfl rfl (Nat.le_of_ble_eq_true rfl) (Nat.le_refl _) (by omega) (by omega) cl_X10.1 e1 hv (fun _ _ q9 => q9) ?_
      rintro _ h5 ⟨z6, rfl, hv⟩ -
      refine j_goto (tgt := 49) dX10_told_25 (by decide) ?_
      exact j_iret dX10_told_49 rfl hv
  · replace hv := hv.2 hc
    refine j_aload_n dX10_told_6 rfl rfl ?_
    obtain ⟨fs, r7, e1, e2, hv⟩ := hv
    refine j_getf (k := 0) cl_X10 (by decide) w_f_X10_7 dX10_told_7 e1 e2 ?_
    refine j_iload_n dX10_told_10 rfl rfl ?_
    obtain ⟨N, f, e1, e2, hv⟩ := hv
    refine j_iald dX10_told_11 e1 e2 ?_
    generalize f _ = z8 at hv ⊢
    refine j_goto (tgt := 49) dX10_told_12 (by decide) ?_
    exact j_iret dX10_told_49 rfl hv
set_option maxRecDepth 20000 in
set_option maxHeartbeats 4000000 in
theorem v_X10_isSame_222 {l : Launch} {d mc ms n0 kc ks : Nat} {Q : Option Value → qH → Prop} {QX : String → qH → Prop} (x0 : Nat) (x1 : Nat) (x2 : Int32) {h : qH} (hv : qOB h x1 9 (qCD l (d + 6) mX9_sent [.ref x1] h 0 0 (fun z2 h1 => qGI h1 x0 10 4 (fun z3 => qIF (z3 = 0) (qIF ((Op.cmpValue (FP.dcmp z2 FP.dconst1) .l) = 0) (Q (some (.int (1 : Int32))) h1) (Q (some (.int (0 : Int32))) h1)) (qGR h1 x0 10 0 (fun r4 => qAL h1 r4 (7 : Int32) (fun z5 => qGI h1 x0 10 4 (fun z6 => qAN (vf_n64 (FP.ddiv (FP.i2d z5) (FP.i2d z6))) (qIF ((Op.cmpValue (FP.dcmp z2 (FP.ddiv (FP.i2d z5) (FP.i2d z6))) .l) = 0) (Q (some (.int (1 : Int32))) h1) (Q (some (.int (0 : Int32))) h1)))))))))) : q_J l (d + 7) mX10_isSame mc ms Q QX n0 222 [some (.ref x0), some (.ref x1), some (.int x2), none, none] [] h kc ks := by
  refine j_aload_n dX10_isSame_222 rfl rfl ?_
  obtain ⟨⟨fs, e1⟩, hv⟩ := hv
  refine j_virtual (avs := []) (rest := []) (i := x1) (kc' := kc) (ks' := ks) dX10_isSame_223 mt_X9_sent w_m_X10_143 w_in_X9_sent w_se_X9_sent rfl rfl (Nat.le_of_ble_eq_true rfl) (Nat.le_refl _) (by omega) (by omega) cl_X9.1 e1 hv (fun _ _ q9 => q9) ?_
  rintro _ h1 ⟨z2, rfl, hv⟩ -
  refine j_aload_n dX10_isSame_226 rfl rfl ?_
  obtain ⟨fs, z3, e1, e2, hv⟩ := hv
  refine j_getf (k := 4) cl_X10 (by decide) w_f_X10_42 dX10_isSame_227 e1 e2 ?_
  refine j_if_ne (tgt := 237) dX10_isSame_230 (by decide) (fun hc => ?_) (fun hc => ?_)
  · replace hv := hv.2 hc
    refine j_aload_n dX10_isSame_237 rfl rfl ?_
    obtain ⟨fs, r4, e1, e2, hv⟩ := hv
    refine j_getf (k := 0) cl_X10 (by decide) w_f_X10_7 dX10_isSame_238 e1 e2 ?_
    refine j_bipush (v := (7 : Int32)) dX10_isSame_241 (by decide) ?_
    obtain ⟨N, f, e1, e2, hv⟩ := hv
    refine j_iald dX10_isSame_243 e1 e2 ?_
    generalize f _ = z5 at hv ⊢
    refine j_i2d dX10_isSame_244 ?_
    refine j_aload_n dX10_isSame_245 rfl rfl ?_
    obtain ⟨fs, z6, e1, e2, hv⟩ := hv
    refine j_getf (k := 4) cl_X10 (by decide) w_f_X10_42 dX10_isSame_246 e1 e2 ?_
    refine j_i2d dX10_isSame_249 ?_
    obtain ⟨hz, hv⟩ := hv
    refine j_ddiv dX10_isSame_250 hz ?_
    refine j_dcmp dX10_isSame_251 ?_
    refine j_if_ne (tgt := 259) dX10_isSame_252 (by decide) (fun hc => ?_) (fun hc => ?_)
    · replace hv := hv.2 hc
      refine j_iconst (v := (0 : Int32)) dX10_isSame_259 (by decide) ?_
      exact j_zret dX10_isSame_260 rfl (by decide) hv
    · replace hv := hv.1 hc
      refine j_iconst (v := (1 : Int32)) dX10_isSame_255 (by decide) ?_
      refine j_goto (tgt := 260) dX10_isSame_256 (by decide) ?_
      exact j_zret dX10_isSame_260 rfl (by decide) hv
  · replace hv := hv.1 hc
    refine j_dconst1 dX10_isSame_233 ?_
    refine j_goto (tgt := 251) dX10_isSame_234 (by decide) ?_
    refine j_dcmp dX10_isSame_251 ?_
    refine j_if_ne (tgt := 259) dX10_isSame_252 (by decide) (fun hc => ?_) (fun hc => ?_)
    · replace hv := hv.2 hc
      refine j_iconst (v := (0 : Int32)) dX10_isSame_259 (by decide) ?_
      exact j_zret dX10_isSame_260 rfl (by decide) hv
    · replace hv := hv.1 hc
      refine j_iconst (v := (1 : Int32)) dX10_isSame_255 (by decide) ?_
      refine j_goto (tgt := 260) dX10_isSame_256 (by decide) ?_
      exact j_zret dX10_isSame_260 rfl (by decide) hv
set_option maxRecDepth 20000 in
set_option maxHeartbeats 4000000 in
theorem v_X10_isSame_192 {l : Launch} {d mc ms n0 kc ks : Nat} {Q : Option Value → qH → Prop} {QX : String → qH → Prop} (hkc : 1 ≤ kc) (hks : 6 ≤ ks) (x0 : Nat) (x1 : Nat) (x2 : Int32) (x3 : Int32) (x4 : Int32) (y0 : Int32) (y1 : Int32) {h : qH} (hv : qIF (y0 = y1) (qOB h x1 9 (qCI l (d + 6) mX9_target [.ref x1, .int x2, .int (5 : Int32)] h 1 6 (fun z2 h1 => qIF (x4 = 0) (qIF (z2 = (0 : Int32)) (q_J l (d + 7) mX10_isSame mc ms Q QX n0 80 [some (.ref x0), some (.ref x1), some (.int (x2 + (1 : Int32))), none, none] [] h1 (kc - 1) (ks - 6)) (Q (some (.int (0 : Int32))) h1)) (qIF (z2 = (1 : Int32)) (q_J l (d + 7) mX10_isSame mc ms Q QX n0 80 [some (.ref x0), some (.ref x1), some (.int (x2 + (1 : Int32))), none, none] [] h1 (kc - 1) (ks - 6)) (Q (some (.int (0 : Int32))) h1))))) (Q (some (.int (0 : Int32))) h)) : q_J l (d + 7) mX10_isSame mc ms Q QX n0 192 [some (.ref x0), some (.ref x1), some (.int x2), some (.int x3), some (.int x4)] [.int y1, .int y0] h kc ks := by
  refine j_icmp_ne (tgt := 214) dX10_isSame_192 (by decide) (fun hc => ?_) (fun hc => ?_)
  · replace hv := hv.2 hc
    refine j_iconst (v := (0 : Int32)) dX10_isSame_214 (by decide) ?_
    exact j_zret dX10_isSame_215 rfl (by decide) hv
  · replace hv := hv.1 hc
    refine j_aload_n dX10_isSame_195 rfl rfl ?_
    refine j_iload_n dX10_isSame_196 rfl rfl ?_
    refine j_iconst (v := (5 : Int32)) dX10_isSame_197 (by decide) ?_
    obtain ⟨⟨fs, e1⟩, hv⟩ := hv
    refine j_virtual (avs := [.int x2, .int (5 : Int32)]) (rest := []) (i := x1) (kc' := (kc - 1)) (ks' := (ks - 6)) dX10_isSame_198 mt_X9_target w_m_X10_137 w_in_X9_target w_se_X9_target rfl rfl (Nat.le_of_ble_eq_true rfl) (Nat.le_refl _) (by omega) (by omega) cl_X9.1 e1 hv (fun _ _ q9 => q9) ?_
    rintro _ h1 ⟨z2, rfl, hv⟩ -
    refine j_iload dX10_isSame_201 rfl ?_
    refine j_if_eq (tgt := 210) dX10_isSame_203 (by decide) (fun hc => ?_) (fun hc => ?_)
    · replace hv := hv.1 hc
      refine j_iconst (v := (0 : Int32)) dX10_isSame_210 (by decide) ?_
      refine j_icmp_eq (tgt := 216) dX10_isSame_211 (by decide) (fun hc => ?_) (fun hc => ?_)
      · replace hv := hv.1 hc
        refine j_iinc (w := (x2 + (1 : Int32))) dX10_isSame_216 rfl (by rfl) (by decide) rfl rfl ?_
        refine j_goto (tgt := 80) dX10_isSame_219 (by decide) ?_
        refine j_mask [true, true, true, false, false] rfl ?_
        exact hv
      · replace hv := hv.2 hc
        refine j_iconst (v := (0 : Int32)) dX10_isSame_214 (by decide) ?_
        exact j_zret dX10_isSame_215 rfl (by decide) hv
    · replace hv := hv.2 hc
      refine j_iconst (v := (1 : Int32)) dX10_isSame_206 (by decide) ?_
      refine j_goto (tgt := 211) dX10_isSame_207 (by decide) ?_
      refine j_icmp_eq (tgt := 216) dX10_isSame_211 (by decide) (fun hc => ?_) (fun hc => ?_)
      · replace hv := hv.1 hc
        refine j_iinc (w := (x2 + (1 : Int32))) dX10_isSame_216 rfl (by rfl) (by decide) rfl rfl ?_
        refine j_goto (tgt := 80) dX10_isSame_219 (by decide) ?_
        refine j_mask [true, true, true, false, false] rfl ?_
        exact hv
      · replace hv := hv.2 hc
        refine j_iconst (v := (0 : Int32)) dX10_isSame_214 (by decide) ?_
        exact j_zret dX10_isSame_215 rfl (by decide) hv
set_option maxRecDepth 20000 in
set_option maxHeartbeats 4000000 in
theorem v_X10_isSame_143 {l : Launch} {d mc ms n0 kc ks : Nat} {Q : Option Value → qH → Prop} {QX : String → qH → Prop} (hkc : 3 ≤ kc) (hks : 18 ≤ ks) (x0 : Nat) (x1 : Nat) (x2 : Int32) (x3 : Int32) (y0 : Int32) {h : qH} (hv : qOB h x1 9 (qCI l (d + 6) mX9_target [.ref x1, .int x2, .int (2 : Int32)] h 1 6 (fun z2 h1 => qIF (z2 = x3) (qOB h1 x1 9 (qCI l (d + 6) mX9_target [.ref x1, .int x2, .int (3 : Int32)] h1 1 6 (fun z4 h3 => qOB h3 x0 10 (qCI l (d + 6) mX10_images [.ref x0, .int x2] h3 0 0 (fun z6 h5 => qCI l (d + 6) mJ6_bitCount_0f7a4 [.int z6] h5 0 0 (fun z8 h7 => qIF (z4 = z8) (qOB h7 x1 9 (qCI l (d + 6) mX9_target [.ref x1, .int x2, .int (4 : Int32)] h7 1 6 (fun z10 h9 => qGR h9 x0 10 3 (fun r11 => qZL h9 r11 x2 (fun z12 => qIF (z12 = 0) (q_J l (d + 7) mX10_isSame mc ms Q QX n0 192 [some (.ref x0), some (.ref x1), some (.int x2), some (.int x3), some (.int y0)] [.int (0 : Int32), .int z10] h9 (kc - 3) (ks - 18)) (q_J l (d + 7) mX10_isSame mc ms Q QX n0 192 [some (.ref x0), some (.ref x1), some (.int x2), some (.int x3), some (.int y0)] [.int (1 : Int32), .int z10] h9 (kc - 3) (ks - 18))))))) (Q (some (.int (0 : Int32))) h7))))))) (Q (some (.int (0 : Int32))) h1)))) : q_J l (d + 7) mX10_isSame mc ms Q QX n0 143 [some (.ref x0), some (.ref x1), some (.int x2), some (.int x3), none] [.int y0] h kc ks := by
  refine j_istore dX10_isSame_143 (by decide) rfl rfl ?_
  refine j_aload_n dX10_isSame_145 rfl rfl ?_
  refine j_iload_n dX10_isSame_146 rfl rfl ?_
  refine j_iconst (v := (2 : Int32)) dX10_isSame_147 (by decide) ?_
  obtain ⟨⟨fs, e1⟩, hv⟩ := hv
  refine j_virtual (avs := [.int x2, .int (2 : Int32)]) (rest := []) (i := x1) (kc' := (kc - 1)) (ks' := (ks - 6)) dX10_isSame_148 mt_X9_target w_m_X10_137 w_in_X9_target w_se_X9_target rfl rfl (Nat.le_of_ble_eq_true rfl) (Nat.le_refl _) (by omega) (by omega) cl_X9.1 e1 hv (fun _ _ q9 => q9) ?_
  rintro _ h1 ⟨z2, rfl, hv⟩ -
  refine j_iload_n dX10_isSame_151 rfl rfl ?_
  refine j_icmp_ne (tgt := 214) dX10_isSame_152 (by decide) (fun hc => ?_) (fun hc => ?_)
  · replace hv := hv.2 hc
    refine j_iconst (v := (0 : Int32)) dX10_isSame_214 (by decide) ?_
    exact j_zret dX10_isSame_215 rfl (by decide) hv
  · replace hv := hv.1 hc
    refine j_aload_n dX10_isSame_155 rfl rfl ?_
    refine j_iload_n dX10_isSame_156 rfl rfl ?_
    refine j_iconst (v := (3 : Int32)) dX10_isSame_157 (by decide) ?_
    obtain ⟨⟨fs, e1⟩, hv⟩ := hv
    refine j_virtual (avs := [.int x2, .int (3 : Int32)]) (rest := []) (i := x1) (kc' := (kc - 2)) (ks' := (ks - 12)) dX10_isSame_158 mt_X9_target w_m_X10_137 w_in_X9_target w_se_X9_target rfl rfl (Nat.le_of_ble_eq_true rfl) (Nat.le_refl _) (by omega) (by omega) cl_X9.1 e1 hv (fun _ _ q9 => q9) ?_
    rintro _ h3 ⟨z4, rfl, hv⟩ -
    refine j_aload_n dX10_isSame_161 rfl rfl ?_
    refine j_iload_n dX10_isSame_162 rfl rfl ?_
    obtain ⟨⟨fs, e1⟩, hv⟩ := hv
    refine j_virtual (avs := [.int x2]) (rest := [.int z4]) (i := x0) (kc' := (kc - 2)) (ks' := (ks - 12)) dX10_isSame_163 mt_X10_images w_m_X10_140 w_in_X10_images w_se_X10_images rfl rfl (Nat.le_of_ble_eq_true rfl) (Nat.le_refl _) (by omega) (by omega) cl_X10.1 e1 hv (fun _ _ q9 => q9) ?_
    rintro _ h5 ⟨z6, rfl, hv⟩ -
    refine j_static (avs := [.int z6]) (rest := [.int z4]) (kc' := (kc - 2)) (ks' := (ks - 12)) dX10_isSame_166 mt_J6_bitCount_0f7a4 w_m_X10_134 w_st_J6_bitCount_0f7a4 rfl rfl (Nat.le_of_ble_eq_true rfl) (Nat.le_refl _) (by omega) (by omega) hv (fun _ _ q9 => q9) ?_
    rintro _ h7 ⟨z8, rfl, hv⟩ -
    refine j_icmp_ne (tgt := 214) dX10_isSame_169 (by decide) (fun hc => ?_) (fun hc => ?_)
    · replace hv := hv.2 hc
      refine j_iconst (v := (0 : Int32)) dX10_isSame_214 (by decide) ?_
      exact j_zret dX10_isSame_215 rfl (by decide) hv
    · replace hv := hv.1 hc
      refine j_aload_n dX10_isSame_172 rfl rfl ?_
      refine j_iload_n dX10_isSame_173 rfl rfl ?_
      refine j_iconst (v := (4 : Int32)) dX10_isSame_174 (by decide) ?_
      obtain ⟨⟨fs, e1⟩, hv⟩ := hv
      refine j_virtual (avs := [.int x2, .int (4 : Int32)]) (rest := []) (i := x1) (kc' := (kc - 3)) (ks' := (ks - 18)) dX10_isSame_175 mt_X9_target w_m_X10_137 w_in_X9_target w_se_X9_target rfl rfl (Nat.le_of_ble_eq_true rfl) (Nat.le_refl _) (by omega) (by omega) cl_X9.1 e1 hv (fun _ _ q9 => q9) ?_
      rintro _ h9 ⟨z10, rfl, hv⟩ -
      refine j_aload_n dX10_isSame_178 rfl rfl ?_
      obtain ⟨fs, r11, e1, e2, hv⟩ := hv
      refine j_getf (k := 3) cl_X10 (by decide) w_f_X10_21 dX10_isSame_179 e1 e2 ?_
      refine j_iload_n dX10_isSame_182 rfl rfl ?_
      obtain ⟨N, f, e1, e2, hv⟩ := hv
      refine j_zald dX10_isSame_183 e1 e2 ?_
      generalize f _ = z12 at hv ⊢
      refine j_if_eq (tgt := 191) dX10_isSame_184 (by decide) (fun hc => ?_) (fun hc => ?_)
      · replace hv := hv.1 hc
        refine j_iconst (v := (0 : Int32)) dX10_isSame_191 (by decide) ?_
        exact hv
      · replace hv := hv.2 hc
        refine j_iconst (v := (1 : Int32)) dX10_isSame_187 (by decide) ?_
        refine j_goto (tgt := 192) dX10_isSame_188 (by decide) ?_
        exact hv
set_option maxRecDepth 20000 in
set_option maxHeartbeats 4000000 in
theorem v_X10_isSame_80 {l : Launch} {d mc ms n0 kc ks : Nat} {Q : Option Value → qH → Prop} {QX : String → qH → Prop} (x0 : Nat) (x1 : Nat) (x2 : Int32) {h : qH} (hv : qIF ((12 : Int32) ≤ x2) (q_J l (d + 7) mX10_isSame mc ms Q QX n0 222 [some (.ref x0), some (.ref x1), some (.int x2), none, none] [] h kc ks) (qGR h x0 10 8 (fun r1 => qO4n h r1 x2 (fun r2 => qGR h x0 10 2 (fun r3 => qAL h r3 x2 (fun z4 => qCI l (d + 6) mJ6_bitCount_0f7a4 [.int z4] h 0 0 (fun z6 h5 => qGR h5 x0 10 8 (fun r7 => qO4 h5 r7 x2 (fun r8 => qAL h5 r8 (3 : Int32) (fun z9 => qIF (z9 = (4 : Int32)) (qGR h5 x0 10 3 (fun r13 => qZL h5 r13 x2 (fun z14 => q_J l (d + 7) mX10_isSame mc ms Q QX n0 143 [some (.ref x0), some (.ref x1), some (.int x2), some (.int z6), none] [.int z14] h5 kc ks))) (qGR h5 x0 10 8 (fun r10 => qO4 h5 r10 x2 (fun r11 => qAL h5 r11 (3 : Int32) (fun z12 => qIF (z6 < z12) (q_J l (d + 7) mX10_isSame mc ms Q QX n0 143 [some (.ref x0), some (.ref x1), some (.int x2), some (.int z6), none] [.int (0 : Int32)] h5 kc ks) (q_J l (d + 7) mX10_isSame mc ms Q QX n0 143 [some (.ref x0), some (.ref x1), some (.int x2), some (.int z6), none] [.int (1 : Int32)] h5 kc ks)))))))))))) (q_J l (d + 7) mX10_isSame mc ms Q QX n0 222 [some (.ref x0), some (.ref x1), some (.int x2), none, none] [] h kc ks)))) : q_J l (d + 7) mX10_isSame mc ms Q QX n0 80 [some (.ref x0), some (.ref x1), some (.int x2), none, none] [] h kc ks := by
  refine j_iload_n dX10_isSame_80 rfl rfl ?_
  refine j_bipush (v := (12 : Int32)) dX10_isSame_81 (by decide) ?_
  refine j_icmp_ge (tgt := 222) dX10_isSame_83 (by decide) (fun hc => ?_) (fun hc => ?_)
  · replace hv := hv.1 hc
    exact hv
  · replace hv := hv.2 hc
    refine j_aload_n dX10_isSame_86 rfl rfl ?_
    obtain ⟨fs, r1, e1, e2, hv⟩ := hv
    refine j_getf (k := 8) cl_X10 (by decide) w_f_X10_32 dX10_isSame_87 e1 e2 ?_
    refine j_iload_n dX10_isSame_90 rfl rfl ?_
    obtain ⟨N, f, e1, e2, hA, hB⟩ := hv
    rcases hf : f (Int32.toNatClampNeg x2) with _ | r2
    · replace hv := hB hf
      refine j_aald4 (v := .null) dX10_isSame_91 e1 e2 (by rw [hf]) ?_
      refine j_ifnullN (tgt := 222) dX10_isSame_92 (by decide) ?_
      exact hv
    · replace hv := hA _ hf
      refine j_aald4 (v := .ref r2) dX10_isSame_91 e1 e2 (by rw [hf]) ?_
      refine j_ifnull dX10_isSame_92 ?_
      refine j_aload_n dX10_isSame_95 rfl rfl ?_
      obtain ⟨fs, r3, e1, e2, hv⟩ := hv
      refine j_getf (k := 2) cl_X10 (by decide) w_f_X10_18 dX10_isSame_96 e1 e2 ?_
      refine j_iload_n dX10_isSame_99 rfl rfl ?_
      obtain ⟨N, f, e1, e2, hv⟩ := hv
      refine j_iald dX10_isSame_100 e1 e2 ?_
      generalize f _ = z4 at hv ⊢
      refine j_static (avs := [.int z4]) (rest := []) (kc' := kc) (ks' := ks) dX10_isSame_101 mt_J6_bitCount_0f7a4 w_m_X10_134 w_st_J6_bitCount_0f7a4 rfl rfl (Nat.le_of_ble_eq_true rfl) (Nat.le_refl _) (by omega) (by omega) hv (fun _ _ q9 => q9) ?_
      rintro _ h5 ⟨z6, rfl, hv⟩ -
      refine j_istore_n dX10_isSame_104 rfl (by decide) rfl rfl ?_
      refine j_aload_n dX10_isSame_105 rfl rfl ?_
      obtain ⟨fs, r7, e1, e2, hv⟩ := hv
      refine j_getf (k := 8) cl_X10 (by decide) w_f_X10_32 dX10_isSame_106 e1 e2 ?_
      refine j_iload_n dX10_isSame_109 rfl rfl ?_
      obtain ⟨N, f, r8, e1, e2, e3, hv⟩ := hv
      refine j_aaldA dX10_isSame_110 e1 e2 e3 ?_
      refine j_iconst (v := (3 : Int32)) dX10_isSame_111 (by decide) ?_
      obtain ⟨N, f, e1, e2, hv⟩ := hv
      refine j_iald dX10_isSame_112 e1 e2 ?_
      generalize f _ = z9 at hv ⊢
      refine j_iconst (v := (4 : Int32)) dX10_isSame_113 (by decide) ?_
      refine j_icmp_ne (tgt := 126) dX10_isSame_114 (by decide) (fun hc => ?_) (fun hc => ?_)
      · replace hv := hv.2 hc
        refine j_iload_n dX10_isSame_126 rfl rfl ?_
        refine j_aload_n dX10_isSame_127 rfl rfl ?_
        obtain ⟨fs, r10, e1, e2, hv⟩ := hv
        refine j_getf (k := 8) cl_X10 (by decide) w_f_X10_32 dX10_isSame_128 e1 e2 ?_
        refine j_iload_n dX10_isSame_131 rfl rfl ?_
        obtain ⟨N, f, r11, e1, e2, e3, hv⟩ := hv
        refine j_aaldA dX10_isSame_132 e1 e2 e3 ?_
        refine j_iconst (v := (3 : Int32)) dX10_isSame_133 (by decide) ?_
        obtain ⟨N, f, e1, e2, hv⟩ := hv
        refine j_iald dX10_isSame_134 e1 e2 ?_
        generalize f _ = z12 at hv ⊢
        refine j_icmp_lt (tgt := 142) dX10_isSame_135 (by decide) (fun hc => ?_) (fun hc => ?_)
        · replace hv := hv.1 hc
          refine j_iconst (v := (0 : Int32)) dX10_isSame_142 (by decide) ?_
          exact hv
        · replace hv := hv.2 hc
          refine j_iconst (v := (1 : Int32)) dX10_isSame_138 (by decide) ?_
          refine j_goto (tgt := 143) dX10_isSame_139 (by decide) ?_
          exact hv
      · replace hv := hv.1 hc
        refine j_aload_n dX10_isSame_117 rfl rfl ?_
        obtain ⟨fs, r13, e1, e2, hv⟩ := hv
        refine j_getf (k := 3) cl_X10 (by decide) w_f_X10_21 dX10_isSame_118 e1 e2 ?_
        refine j_iload_n dX10_isSame_121 rfl rfl ?_
        obtain ⟨N, f, e1, e2, hv⟩ := hv
        refine j_zald dX10_isSame_122 e1 e2 ?_
        generalize f _ = z14 at hv ⊢
        refine j_goto (tgt := 143) dX10_isSame_123 (by decide) ?_
        exact hv
set_option maxRecDepth 20000 in
set_option maxHeartbeats 4000000 in
theorem v_X10_isSame_42 {l : Launch} {d mc ms n0 kc ks : Nat} {Q : Option Value → qH → Prop} {QX : String → qH → Prop} (hkc : 1 ≤ kc) (hks : 6 ≤ ks) (x0 : Nat) (x1 : Nat) (x2 : Int32) (x3 : Int32) {h : qH} (hv : qIF ((4 : Int32) ≤ x3) (q_J l (d + 7) mX10_isSame mc ms Q QX n0 31 [some (.ref x0), some (.ref x1), some (.int (x2 + (1 : Int32))), none, none] [] h kc ks) (qOB h x1 9 (qCI l (d + 6) mX9_piece [.ref x1, .int x2, .int x3] h 1 6 (fun z2 h1 => qGR h1 x0 10 1 (fun r3 => qO4 h1 r3 x2 (fun r4 => qAL h1 r4 x3 (fun z5 => qIF (z2 = z5) (q_J l (d + 7) mX10_isSame mc ms Q QX n0 42 [some (.ref x0), some (.ref x1), some (.int x2), some (.int (x3 + (1 : Int32))), none] [] h1 (kc - 1) (ks - 6)) (Q (some (.int (0 : Int32))) h1)))))))) : q_J l (d + 7) mX10_isSame mc ms Q QX n0 42 [some (.ref x0), some (.ref x1), some (.int x2), some (.int x3), none] [] h kc ks := by
  refine j_iload_n dX10_isSame_42 rfl rfl ?_
  refine j_iconst (v := (4 : Int32)) dX10_isSame_43 (by decide) ?_
  refine j_icmp_ge (tgt := 72) dX10_isSame_44 (by decide) (fun hc => ?_) (fun hc => ?_)
  · replace hv := hv.1 hc
    refine j_iinc (w := (x2 + (1 : Int32))) dX10_isSame_72 rfl (by rfl) (by decide) rfl rfl ?_
    refine j_goto (tgt := 31) dX10_isSame_75 (by decide) ?_
    refine j_mask [true, true, true, false, true] rfl ?_
    exact hv
  · replace hv := hv.2 hc
    refine j_aload_n dX10_isSame_47 rfl rfl ?_
    refine j_iload_n dX10_isSame_48 rfl rfl ?_
    refine j_iload_n dX10_isSame_49 rfl rfl ?_
    obtain ⟨⟨fs, e1⟩, hv⟩ := hv
    refine j_virtual (avs := [.int x2, .int x3]) (rest := []) (i := x1) (kc' := (kc - 1)) (ks' := (ks - 6)) dX10_isSame_50 mt_X9_piece w_m_X10_131 w_in_X9_piece w_se_X9_piece rfl rfl (Nat.le_of_ble_eq_true rfl) (Nat.le_refl _) (by omega) (by omega) cl_X9.1 e1 hv (fun _ _ q9 => q9) ?_
    rintro _ h1 ⟨z2, rfl, hv⟩ -
    refine j_aload_n dX10_isSame_53 rfl rfl ?_
    obtain ⟨fs, r3, e1, e2, hv⟩ := hv
    refine j_getf (k := 1) cl_X10 (by decide) w_f_X10_14 dX10_isSame_54 e1 e2 ?_
    refine j_iload_n dX10_isSame_57 rfl rfl ?_
    obtain ⟨N, f, r4, e1, e2, e3, hv⟩ := hv
    refine j_aaldA dX10_isSame_58 e1 e2 e3 ?_
    refine j_iload_n dX10_isSame_59 rfl rfl ?_
    obtain ⟨N, f, e1, e2, hv⟩ := hv
    refine j_iald dX10_isSame_60 e1 e2 ?_
    generalize f _ = z5 at hv ⊢
    refine j_icmp_eq (tgt := 66) dX10_isSame_61 (by decide) (fun hc => ?_) (fun hc => ?_)
    · replace hv := hv.1 hc
      refine j_iinc (w := (x3 + (1 : Int32))) dX10_isSame_66 rfl (by rfl) (by decide) rfl rfl ?_
      refine j_goto (tgt := 42) dX10_isSame_69 (by decide) ?_
      exact hv
    · replace hv := hv.2 hc
      refine j_iconst (v := (0 : Int32)) dX10_isSame_64 (by decide) ?_
      exact j_zret dX10_isSame_65 rfl (by decide) hv
set_option maxRecDepth 20000 in
set_option maxHeartbeats 4000000 in
theorem v_X10_isSame_31 {l : Launch} {d mc ms n0 kc ks : Nat} {Q : Option Value → qH → Prop} {QX : String → qH → Prop} (x0 : Nat) (x1 : Nat) (x2 : Int32) {h : qH} (hv : qGR h x0 10 1 (fun r1 => qLN h r1 (fun z2 => qIF (z2 ≤ x2) (q_J l (d + 7) mX10_isSame mc ms Q QX n0 80 [some (.ref x0), some (.ref x1), some (.int (0 : Int32)), none, none] [] h kc ks) (q_J l (d + 7) mX10_isSame mc ms Q QX n0 42 [some (.ref x0), some (.ref x1), some (.int x2), some (.int (0 : Int32)), none] [] h kc ks)))) : q_J l (d + 7) mX10_isSame mc ms Q QX n0 31 [some (.ref x0), some (.ref x1), some (.int x2), none, none] [] h kc ks := by
  refine j_iload_n dX10_isSame_31 rfl rfl ?_
  refine j_aload_n dX10_isSame_32 rfl rfl ?_
  obtain ⟨fs, r1, e1, e2, hv⟩ := hv
  refine j_getf (k := 1) cl_X10 (by decide) w_f_X10_14 dX10_isSame_33 e1 e2 ?_
  obtain ⟨t9, x9, e1, e2, hv⟩ := hv
  generalize hz9 : Int32.ofNat x9.1 = z2 at hv
  refine j_alen (N := 0) dX10_isSame_36 e1 e2 hz9 ?_
  refine j_icmp_ge (tgt := 78) dX10_isSame_37 (by decide) (fun hc => ?_) (fun hc => ?_)
  · replace hv := hv.1 hc
    refine j_iconst (v := (0 : Int32)) dX10_isSame_78 (by decide) ?_
    refine j_istore_n dX10_isSame_79 rfl (by decide) rfl rfl ?_
    exact hv
  · replace hv := hv.2 hc
    refine j_iconst (v := (0 : Int32)) dX10_isSame_40 (by decide) ?_
    refine j_istore_n dX10_isSame_41 rfl (by decide) rfl rfl ?_
    exact hv
set_option maxRecDepth 20000 in
set_option maxHeartbeats 4000000 in
theorem v_X10_isSame_2 {l : Launch} {d mc ms n0 kc ks : Nat} {Q : Option Value → qH → Prop} {QX : String → qH → Prop} (hkc : 1 ≤ kc) (hks : 6 ≤ ks) (x0 : Nat) (x1 : Nat) (x2 : Int32) {h : qH} (hv : qIF ((10 : Int32) ≤ x2) (q_J l (d + 7) mX10_isSame mc ms Q QX n0 31 [some (.ref x0), some (.ref x1), some (.int (0 : Int32)), none, none] [] h kc ks) (qOB h x1 9 (qCI l (d + 6) mX9_rover [.ref x1, .int x2] h 1 6 (fun z2 h1 => qOB h1 x0 10 (qCI l (d + 6) mX10_told [.ref x0, .int x2] h1 0 0 (fun z4 h3 => qIF (z2 = z4) (q_J l (d + 7) mX10_isSame mc ms Q QX n0 2 [some (.ref x0), some (.ref x1), some (.int (x2 + (1 : Int32))), none, none] [] h3 (kc - 1) (ks - 6)) (Q (some (.int (0 : Int32))) h3))))))) : q_J l (d + 7) mX10_isSame mc ms Q QX n0 2 [some (.ref x0), some (.ref x1), some (.int x2), none, none] [] h kc ks := by
  refine j_iload_n dX10_isSame_2 rfl rfl ?_
  refine j_bipush (v := (10 : Int32)) dX10_isSame_3 (by decide) ?_
  refine j_icmp_ge (tgt := 29) dX10_isSame_5 (by decide) (fun hc => ?_) (fun hc => ?_)
  · replace hv := hv.1 hc
    refine j_iconst (v := (0 : Int32)) dX10_isSame_29 (by decide) ?_
    refine j_istore_n dX10_isSame_30 rfl (by decide) rfl rfl ?_
    exact hv
  · replace hv := hv.2 hc
    refine j_aload_n dX10_isSame_8 rfl rfl ?_
    refine j_iload_n dX10_isSame_9 rfl rfl ?_
    obtain ⟨⟨fs, e1⟩, hv⟩ := hv
    refine j_virtual (avs := [.int x2]) (rest := []) (i := x1) (kc' := (kc - 1)) (ks' := (ks - 6)) dX10_isSame_10 mt_X9_rover w_m_X10_123 w_in_X9_rover w_se_X9_rover rfl rfl (Nat.le_of_ble_eq_true rfl) (Nat.le_refl _) (by omega) (by omega) cl_X9.1 e1 hv (fun _ _ q9 => q9) ?_
    rintro _ h1 ⟨z2, rfl, hv⟩ -
    refine j_aload_n dX10_isSame_13 rfl rfl ?_
    refine j_iload_n dX10_isSame_14 rfl rfl ?_
    obtain ⟨⟨fs, e1⟩, hv⟩ := hv
    refine j_virtual (avs := [.int x2]) (rest := [.int z2]) (i := x0) (kc' := (kc - 1)) (ks' := (ks - 6)) dX10_isSame_15 mt_X10_told w_m_X10_128 w_in_X10_told w_se_X10_told rfl rfl (Nat.le_of_ble_eq_true rfl) (Nat.le_refl _) (by omega) (by omega) cl_X10.1 e1 hv (fun _ _ q9 => q9) ?_
    rintro _ h3 ⟨z4, rfl, hv⟩ -
    refine j_icmp_eq (tgt := 23) dX10_isSame_18 (by decide) (fun hc => ?_) (fun hc => ?_)
    · replace hv := hv.1 hc
      refine j_iinc (w := (x2 + (1 : Int32))) dX10_isSame_23 rfl (by rfl) (by decide) rfl rfl ?_
      refine j_goto (tgt := 2) dX10_isSame_26 (by decide) ?_
      exact hv
    · replace hv := hv.2 hc
      refine j_iconst (v := (0 : Int32)) dX10_isSame_21 (by decide) ?_
      exact j_zret dX10_isSame_22 rfl (by decide) hv
set_option maxRecDepth 20000 in
set_option maxHeartbeats 4000000 in
theorem v_X10_isSame {l : Launch} {d mc ms : Nat} {Q : Option Value → qH → Prop} {QX : String → qH → Prop} (x0 : Nat) (x1 : Nat) {h : qH} (hv : q_J l (d + 7) mX10_isSame mc ms Q QX h.2 2 [some (.ref x0), some (.ref x1), some (.int (0 : Int32)), none, none] [] h mc ms) : q_Ct l (d + 7) mX10_isSame [.ref x0, .ref x1] h mc ms Q QX := by
  refine q_body (by decide ) (by intro v hm; simp only [List.mem_cons, List.not_mem_nil, or_false] at hm; rcases hm with rfl | rfl <;> rfl) (Nat.le_of_ble_eq_true rfl) ?_
  refine j_pad 3 rfl ?_
  refine j_iconst (v := (0 : Int32)) dX10_isSame_0 (by decide) ?_
  refine j_istore_n dX10_isSame_1 rfl (by decide) rfl rfl ?_
  exact hv
