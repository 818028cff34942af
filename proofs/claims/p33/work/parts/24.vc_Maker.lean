set_option maxRecDepth 20000 in
set_option maxHeartbeats 4000000 in
theorem v_X2_extend_20 {l : Launch} {d mc ms n0 kc ks : Nat} {Q : Option Value → qH → Prop} {QX : String → qH → Prop} (x0 : Nat) (x1 : Nat) (x2 : Nat) (x3 : Int32) (x4 : Int32) (x5 : Int32) (x6 : Int32) (x7 : Int32) {h : qH} (hv : qIF ((52 : Int32) ≤ x7) (qGI h x1 5 3 (fun z1 => Q (some (.int (z1 - x4))) h)) (qOB h x1 5 (qCI l (d + 5) mX5_hasRoom [.ref x1, .int (2 : Int32)] h 0 0 (fun z3 h2 => qIF (z3 = 0) (qGI h2 x1 5 3 (fun z4 => Q (some (.int (z4 - x4))) h2)) (qGR h2 x0 2 1 (fun r5 => qGI h2 x2 6 1 (fun z6 => qGI h2 x2 6 2 (fun z7 => qCI l (d + 5) mX1_placeOf [.int z6, .int z7] h2 0 0 (fun z9 h8 => qOB h8 r5 8 (qCV l (d + 5) mX8_measureFrom [.ref r5, .int z9] h8 0 0 (fun h10 => qOB h10 x0 2 (qCI l (d + 5) mX2_choose [.ref x0, .ref x2, .int x6] h10 0 0 (fun z12 h11 => qOB h11 x0 2 (qCI l (d + 5) mX2_nearestPlace [.ref x0, .ref x2, .int z12] h11 0 0 (fun z14 h13 => qIF (z14 = (-1 : Int32)) (qGI h13 x1 5 3 (fun z17 => Q (some (.int (z17 - x4))) h13)) (qOB h13 x0 2 (qCI l (d + 5) mX2_visit [.ref x0, .ref x1, .ref x2, .int z12, .int z14, .int x5] h13 0 0 (fun z16 h15 => qIF (z16 = 0) (q_J l (d + 6) mX2_extend mc ms Q QX n0 20 [some (.ref x0), some (.ref x1), some (.ref x2), some (.int x3), some (.int x4), some (.int x5), some (.int (x6 ||| ((1 : Int32) <<< (z12 &&& 31)))), some (.int (x7 + (1 : Int32))), none, none] [] h15 kc ks) (q_J l (d + 6) mX2_extend mc ms Q QX n0 20 [some (.ref x0), some (.ref x1), some (.ref x2), some (.int x3), some (.int x4), some (.int x5), some (.int x6), some (.int (x7 + (1 : Int32))), none, none] [] h15 kc ks))))))))))))))))))) : q_J l (d + 6) mX2_extend mc ms Q QX n0 20 [some (.ref x0), some (.ref x1), some (.ref x2), some (.int x3), some (.int x4), some (.int x5), some (.int x6), some (.int x7), none, none] [] h kc ks := by
  refine j_iload dX2_extend_20 rfl ?_
  refine j_bipush (v := (52 : Int32)) dX2_extend_22 (by decide) ?_
  refine j_icmp_ge (tgt := 110) dX2_extend_24 (by decide) (fun hc => ?_) (fun hc => ?_)
  · replace hv := hv.1 hc
    refine j_aload_n dX2_extend_110 rfl rfl ?_
    obtain ⟨fs, z1, e1, e2, hv⟩ := hv
    refine j_getfN (k := 3) cl_X5 (by decide) w_fn_X2_34 dX2_extend_111 e1 e2 ?_
    refine j_iload dX2_extend_114 rfl ?_
    refine j_isub dX2_extend_116 ?_
    exact j_iret dX2_extend_117 rfl hv
  · replace hv := hv.2 hc
    refine j_aload_n dX2_extend_27 rfl rfl ?_
    refine j_iconst (v := (2 : Int32)) dX2_extend_28 (by decide) ?_
    obtain ⟨⟨fs, e1⟩, hv⟩ := hv
    refine j_virtual (avs := [.int (2 : Int32)]) (rest := []) (i := x1) (kc' := kc) (ks' := ks) dX2_extend_29 mt_X5_hasRoom w_m_X2_43 w_in_X5_hasRoom w_se_X5_hasRoom rfl rfl (Nat.le_of_ble_eq_true rfl) (Nat.le_refl _) (by omega) (by omega) cl_X5.1 e1 hv (fun _ _ q9 => q9) ?_
    rintro _ h2 ⟨z3, rfl, hv⟩ -
    refine j_if_eq (tgt := 110) dX2_extend_32 (by decide) (fun hc => ?_) (fun hc => ?_)
    · replace hv := hv.1 hc
      refine j_aload_n dX2_extend_110 rfl rfl ?_
      obtain ⟨fs, z4, e1, e2, hv⟩ := hv
      refine j_getfN (k := 3) cl_X5 (by decide) w_fn_X2_34 dX2_extend_111 e1 e2 ?_
      refine j_iload dX2_extend_114 rfl ?_
      refine j_isub dX2_extend_116 ?_
      exact j_iret dX2_extend_117 rfl hv
    · replace hv := hv.2 hc
      refine j_aload_n dX2_extend_35 rfl rfl ?_
      obtain ⟨fs, r5, e1, e2, hv⟩ := hv
      refine j_getf (k := 1) cl_X2 (by decide) w_f_X2_22 dX2_extend_36 e1 e2 ?_
      refine j_aload_n dX2_extend_39 rfl rfl ?_
      obtain ⟨fs, z6, e1, e2, hv⟩ := hv
      refine j_getfN (k := 1) cl_X6 (by decide) w_fn_X2_47 dX2_extend_40 e1 e2 ?_
      refine j_aload_n dX2_extend_43 rfl rfl ?_
      obtain ⟨fs, z7, e1, e2, hv⟩ := hv
      refine j_getfN (k := 2) cl_X6 (by decide) w_fn_X2_50 dX2_extend_44 e1 e2 ?_
      refine j_static (avs := [.int z6, .int z7]) (rest := [.ref r5]) (kc' := kc) (ks' := ks) dX2_extend_47 mt_X1_placeOf w_m_X2_53 w_st_X1_placeOf rfl rfl (Nat.le_of_ble_eq_true rfl) (Nat.le_refl _) (by omega) (by omega) hv (fun _ _ q9 => q9) ?_
      rintro _ h8 ⟨z9, rfl, hv⟩ -
      obtain ⟨⟨fs, e1⟩, hv⟩ := hv
      refine j_virtual (avs := [.int z9]) (rest := []) (i := r5) (kc' := kc) (ks' := ks) dX2_extend_50 mt_X8_measureFrom w_m_X2_59 w_in_X8_measureFrom w_se_X8_measureFrom rfl rfl (Nat.le_of_ble_eq_true rfl) (Nat.le_refl _) (by omega) (by omega) cl_X8.1 e1 hv (fun _ _ q9 => q9) ?_
      rintro _ h10 ⟨rfl, hv⟩ -
      refine j_aload_n dX2_extend_53 rfl rfl ?_
      refine j_aload_n dX2_extend_54 rfl rfl ?_
      refine j_iload dX2_extend_55 rfl ?_
      obtain ⟨⟨fs, e1⟩, hv⟩ := hv
      refine j_virtual (avs := [.ref x2, .int x6]) (rest := []) (i := x0) (kc' := kc) (ks' := ks) dX2_extend_57 mt_X2_choose w_m_X2_65 w_in_X2_choose w_se_X2_choose rfl rfl (Nat.le_of_ble_eq_true rfl) (Nat.le_refl _) (by omega) (by omega) cl_X2.1 e1 hv (fun _ _ q9 => q9) ?_
      rintro _ h11 ⟨z12, rfl, hv⟩ -
      refine j_istore dX2_extend_60 (by decide) rfl rfl ?_
      refine j_aload_n dX2_extend_62 rfl rfl ?_
      refine j_aload_n dX2_extend_63 rfl rfl ?_
      refine j_iload dX2_extend_64 rfl ?_
      obtain ⟨⟨fs, e1⟩, hv⟩ := hv
      refine j_virtual (avs := [.ref x2, .int z12]) (rest := []) (i := x0) (kc' := kc) (ks' := ks) dX2_extend_66 mt_X2_nearestPlace w_m_X2_69 w_in_X2_nearestPlace w_se_X2_nearestPlace rfl rfl (Nat.le_of_ble_eq_true rfl) (Nat.le_refl _) (by omega) (by omega) cl_X2.1 e1 hv (fun _ _ q9 => q9) ?_
      rintro _ h13 ⟨z14, rfl, hv⟩ -
      refine j_istore dX2_extend_69 (by decide) rfl rfl ?_
      refine j_iload dX2_extend_71 rfl ?_
      refine j_iconst (v := (-1 : Int32)) dX2_extend_73 (by decide) ?_
      refine j_icmp_ne (tgt := 80) dX2_extend_74 (by decide) (fun hc => ?_) (fun hc => ?_)
      · replace hv := hv.2 hc
        refine j_aload_n dX2_extend_80 rfl rfl ?_
        refine j_aload_n dX2_extend_81 rfl rfl ?_
        refine j_aload_n dX2_extend_82 rfl rfl ?_
        refine j_iload dX2_extend_83 rfl ?_
        refine j_iload dX2_extend_85 rfl ?_
        refine j_iload dX2_extend_87 rfl ?_
        obtain ⟨⟨fs, e1⟩, hv⟩ := hv
        refine j_virtual (avs := [.ref x1, .ref x2, .int z12, .int z14, .int x5]) (rest := []) (i := x0) (kc' := kc) (ks' := ks) dX2_extend_89 mt_X2_visit w_m_X2_72 w_in_X2_visit w_se_X2_visit rfl rfl (Nat.le_of_ble_eq_true rfl) (Nat.le_refl _) (by omega) (by omega) cl_X2.1 e1 hv (fun _ _ q9 => q9) ?_
        rintro _ h15 ⟨z16, rfl, hv⟩ -
        refine j_if_ne (tgt := 104) dX2_extend_92 (by decide) (fun hc => ?_) (fun hc => ?_)
        · replace hv := hv.2 hc
          refine j_iinc (w := (x7 + (1 : Int32))) dX2_extend_104 rfl (by rfl) (by decide) rfl rfl ?_
          refine j_goto (tgt := 20) dX2_extend_107 (by decide) ?_
          refine j_mask [true, true, true, true, true, true, true, true, false, false] rfl ?_
          exact hv
        · replace hv := hv.1 hc
          refine j_iload dX2_extend_95 rfl ?_
          refine j_iconst (v := (1 : Int32)) dX2_extend_97 (by decide) ?_
          refine j_iload dX2_extend_98 rfl ?_
          refine j_ishl dX2_extend_100 ?_
          refine j_ior dX2_extend_101 ?_
          refine j_istore dX2_extend_102 (by decide) rfl rfl ?_
          refine j_iinc (w := (x7 + (1 : Int32))) dX2_extend_104 rfl (by rfl) (by decide) rfl rfl ?_
          refine j_goto (tgt := 20) dX2_extend_107 (by decide) ?_
          refine j_mask [true, true, true, true, true, true, true, true, false, false] rfl ?_
          exact hv
      · replace hv := hv.1 hc
        refine j_goto (tgt := 110) dX2_extend_77 (by decide) ?_
        refine j_aload_n dX2_extend_110 rfl rfl ?_
        obtain ⟨fs, z17, e1, e2, hv⟩ := hv
        refine j_getfN (k := 3) cl_X5 (by decide) w_fn_X2_34 dX2_extend_111 e1 e2 ?_
        refine j_iload dX2_extend_114 rfl ?_
        refine j_isub dX2_extend_116 ?_
        exact j_iret dX2_extend_117 rfl hv
set_option maxRecDepth 20000 in
set_option maxHeartbeats 4000000 in
theorem v_X2_extend {l : Launch} {d mc ms : Nat} {Q : Option Value → qH → Prop} {QX : String → qH → Prop} (x0 : Nat) (x1 : Nat) (x2 : Nat) (x3 : Int32) {h : qH} (hv : qGI h x1 5 3 (fun z1 => qGI h x2 6 0 (fun z2 => q_J l (d + 6) mX2_extend mc ms Q QX h.2 20 [some (.ref x0), some (.ref x1), some (.ref x2), some (.int x3), some (.int z1), some (.int (z2 + x3)), some (.int (0 : Int32)), some (.int (0 : Int32)), none, none] [] h mc ms))) : q_Ct l (d + 6) mX2_extend [.ref x0, .ref x1, .ref x2, .int x3] h mc ms Q QX := by
  refine q_body (by decide ) (by intro v hm; simp only [List.mem_cons, List.not_mem_nil, or_false] at hm; rcases hm with rfl | rfl | rfl | rfl <;> rfl) (Nat.le_of_ble_eq_true rfl) ?_
  refine j_pad 6 rfl ?_
  refine j_aload_n dX2_extend_0 rfl rfl ?_
  obtain ⟨fs, z1, e1, e2, hv⟩ := hv
  refine j_getfN (k := 3) cl_X5 (by decide) w_fn_X2_34 dX2_extend_1 e1 e2 ?_
  refine j_istore dX2_extend_4 (by decide) rfl rfl ?_
  refine j_aload_n dX2_extend_6 rfl rfl ?_
  obtain ⟨fs, z2, e1, e2, hv⟩ := hv
  refine j_getfN (k := 0) cl_X6 (by decide) w_fn_X2_40 dX2_extend_7 e1 e2 ?_
  refine j_iload_n dX2_extend_10 rfl rfl ?_
  refine j_iadd dX2_extend_11 ?_
  refine j_istore dX2_extend_12 (by decide) rfl rfl ?_
  refine j_iconst (v := (0 : Int32)) dX2_extend_14 (by decide) ?_
  refine j_istore dX2_extend_15 (by decide) rfl rfl ?_
  refine j_iconst (v := (0 : Int32)) dX2_extend_17 (by decide) ?_
  refine j_istore dX2_extend_18 (by decide) rfl rfl ?_
  exact hv
set_option maxRecDepth 20000 in
set_option maxHeartbeats 4000000 in
theorem v_X2_choose_41 {l : Launch} {d mc ms n0 kc ks : Nat} {Q : Option Value → qH → Prop} {QX : String → qH → Prop} (x0 : Nat) (x1 : Nat) (x2 : Int32) (x3 : Int32) (x4 : Int32) (x5 : Int32) (y0 : Int32) {h : qH} (hv : qIF (y0 = (-1 : Int32)) (q_J l (d + 5) mX2_choose mc ms Q QX n0 8 [some (.ref x0), some (.ref x1), some (.int x2), some (.int x3), some (.int x4), some (.int (x5 + (1 : Int32))), none, none] [] h kc ks) (qGR h x0 2 2 (fun r1 => qOB h r1 7 (qCI l (d + 4) mX7_valueOf [.ref r1, .int x5] h 0 0 (fun z3 h2 => qGR h2 x0 2 1 (fun r4 => qOB h2 r4 8 (qCI l (d + 4) mX8_costOf [.ref r4, .int y0] h2 0 0 (fun z6 h5 => qDV ((1 : Int32) + (if (0 : Int32) < z6 then z6 else (0 : Int32))) (qIF ((((1000 : Int32) * z3) / ((1 : Int32) + (if (0 : Int32) < z6 then z6 else (0 : Int32)))) ≤ x4) (q_J l (d + 5) mX2_choose mc ms Q QX n0 8 [some (.ref x0), some (.ref x1), some (.int x2), some (.int x3), some (.int x4), some (.int (x5 + (1 : Int32))), none, none] [] h5 kc ks) (q_J l (d + 5) mX2_choose mc ms Q QX n0 8 [some (.ref x0), some (.ref x1), some (.int x2), some (.int x5), some (.int (((1000 : Int32) * z3) / ((1 : Int32) + (if (0 : Int32) < z6 then z6 else (0 : Int32))))), some (.int (x5 + (1 : Int32))), none, none] [] h5 kc ks)))))))))) : q_J l (d + 5) mX2_choose mc ms Q QX n0 41 [some (.ref x0), some (.ref x1), some (.int x2), some (.int x3), some (.int x4), some (.int x5), none, none] [.int y0] h kc ks := by
  refine j_istore dX2_choose_41 (by decide) rfl rfl ?_
  refine j_iload dX2_choose_43 rfl ?_
  refine j_iconst (v := (-1 : Int32)) dX2_choose_45 (by decide) ?_
  refine j_icmp_eq (tgt := 94) dX2_choose_46 (by decide) (fun hc => ?_) (fun hc => ?_)
  · replace hv := hv.1 hc
    refine j_iinc (w := (x5 + (1 : Int32))) dX2_choose_94 rfl (by rfl) (by decide) rfl rfl ?_
    refine j_goto (tgt := 8) dX2_choose_97 (by decide) ?_
    refine j_mask [true, true, true, true, true, true, false, true] rfl ?_
    exact hv
  · replace hv := hv.2 hc
    refine j_sipush (v := (1000 : Int32)) dX2_choose_49 (by decide) ?_
    refine j_aload_n dX2_choose_52 rfl rfl ?_
    obtain ⟨fs, r1, e1, e2, hv⟩ := hv
    refine j_getf (k := 2) cl_X2 (by decide) w_f_X2_26 dX2_choose_53 e1 e2 ?_
    refine j_iload dX2_choose_56 rfl ?_
    obtain ⟨⟨fs, e1⟩, hv⟩ := hv
    refine j_virtual (avs := [.int x5]) (rest := [.int (1000 : Int32)]) (i := r1) (kc' := kc) (ks' := ks) dX2_choose_58 mt_X7_valueOf w_m_X2_79 w_in_X7_valueOf w_se_X7_valueOf rfl rfl (Nat.le_of_ble_eq_true rfl) (Nat.le_refl _) (by omega) (by omega) cl_X7.1 e1 hv (fun _ _ q9 => q9) ?_
    rintro _ h2 ⟨z3, rfl, hv⟩ -
    refine j_imul dX2_choose_61 ?_
    refine j_iconst (v := (1 : Int32)) dX2_choose_62 (by decide) ?_
    refine j_iconst (v := (0 : Int32)) dX2_choose_63 (by decide) ?_
    refine j_aload_n dX2_choose_64 rfl rfl ?_
    obtain ⟨fs, r4, e1, e2, hv⟩ := hv
    refine j_getf (k := 1) cl_X2 (by decide) w_f_X2_22 dX2_choose_65 e1 e2 ?_
    refine j_iload dX2_choose_68 rfl ?_
    obtain ⟨⟨fs, e1⟩, hv⟩ := hv
    refine j_virtual (avs := [.int y0]) (rest := [.int (0 : Int32), .int (1 : Int32), .int ((1000 : Int32) * z3)]) (i := r4) (kc' := kc) (ks' := ks) dX2_choose_70 mt_X8_costOf w_m_X2_83 w_in_X8_costOf w_se_X8_costOf rfl rfl (Nat.le_of_ble_eq_true rfl) (Nat.le_refl _) (by omega) (by omega) cl_X8.1 e1 hv (fun _ _ q9 => q9) ?_
    rintro _ h5 ⟨z6, rfl, hv⟩ -
    refine j_mmax dX2_choose_73 w_m_X2_86 w_st_max w_ini_Math w_co_max (Nat.le_of_ble_eq_true rfl) (by omega) ?_
    refine j_iadd dX2_choose_76 ?_
    obtain ⟨hz, hv⟩ := hv
    refine j_idiv dX2_choose_77 hz ?_
    refine j_istore dX2_choose_78 (by decide) rfl rfl ?_
    refine j_iload dX2_choose_80 rfl ?_
    refine j_iload dX2_choose_82 rfl ?_
    refine j_icmp_le (tgt := 94) dX2_choose_84 (by decide) (fun hc => ?_) (fun hc => ?_)
    · replace hv := hv.1 hc
      refine j_iinc (w := (x5 + (1 : Int32))) dX2_choose_94 rfl (by rfl) (by decide) rfl rfl ?_
      refine j_goto (tgt := 8) dX2_choose_97 (by decide) ?_
      refine j_mask [true, true, true, true, true, true, false, false] rfl ?_
      exact hv
    · replace hv := hv.2 hc
      refine j_iload dX2_choose_87 rfl ?_
      refine j_istore_n dX2_choose_89 rfl (by decide) rfl rfl ?_
      refine j_iload dX2_choose_90 rfl ?_
      refine j_istore dX2_choose_92 (by decide) rfl rfl ?_
      refine j_iinc (w := (x5 + (1 : Int32))) dX2_choose_94 rfl (by rfl) (by decide) rfl rfl ?_
      refine j_goto (tgt := 8) dX2_choose_97 (by decide) ?_
      refine j_mask [true, true, true, true, true, true, false, false] rfl ?_
      exact hv
set_option maxRecDepth 20000 in
set_option maxHeartbeats 4000000 in
theorem v_X2_choose_8 {l : Launch} {d mc ms n0 kc ks : Nat} {Q : Option Value → qH → Prop} {QX : String → qH → Prop} (x0 : Nat) (x1 : Nat) (x2 : Int32) (x3 : Int32) (x4 : Int32) (x5 : Int32) {h : qH} (hv : qGR h x0 2 2 (fun r1 => qGI h r1 7 4 (fun z2 => qIF (z2 ≤ x5) (Q (some (.int x3)) h) (qIF (((x2 >>> (x5 &&& 31)) &&& (1 : Int32)) = (1 : Int32)) (q_J l (d + 5) mX2_choose mc ms Q QX n0 41 [some (.ref x0), some (.ref x1), some (.int x2), some (.int x3), some (.int x4), some (.int x5), none, none] [.int (-1 : Int32)] h kc ks) (qOB h x0 2 (qCI l (d + 4) mX2_nearestPlace [.ref x0, .ref x1, .int x5] h 0 0 (fun z4 h3 => q_J l (d + 5) mX2_choose mc ms Q QX n0 41 [some (.ref x0), some (.ref x1), some (.int x2), some (.int x3), some (.int x4), some (.int x5), none, none] [.int z4] h3 kc ks))))))) : q_J l (d + 5) mX2_choose mc ms Q QX n0 8 [some (.ref x0), some (.ref x1), some (.int x2), some (.int x3), some (.int x4), some (.int x5), none, none] [] h kc ks := by
  refine j_iload dX2_choose_8 rfl ?_
  refine j_aload_n dX2_choose_10 rfl rfl ?_
  obtain ⟨fs, r1, e1, e2, hv⟩ := hv
  refine j_getf (k := 2) cl_X2 (by decide) w_f_X2_26 dX2_choose_11 e1 e2 ?_
  obtain ⟨fs, z2, e1, e2, hv⟩ := hv
  refine j_getfN (k := 4) cl_X7 (by decide) w_fn_X2_76 dX2_choose_14 e1 e2 ?_
  refine j_icmp_ge (tgt := 100) dX2_choose_17 (by decide) (fun hc => ?_) (fun hc => ?_)
  · replace hv := hv.1 hc
    refine j_iload_n dX2_choose_100 rfl rfl ?_
    exact j_iret dX2_choose_101 rfl hv
  · replace hv := hv.2 hc
    refine j_iload_n dX2_choose_20 rfl rfl ?_
    refine j_iload dX2_choose_21 rfl ?_
    refine j_ishr dX2_choose_23 ?_
    refine j_iconst (v := (1 : Int32)) dX2_choose_24 (by decide) ?_
    refine j_iand dX2_choose_25 ?_
    refine j_iconst (v := (1 : Int32)) dX2_choose_26 (by decide) ?_
    refine j_icmp_ne (tgt := 34) dX2_choose_27 (by decide) (fun hc => ?_) (fun hc => ?_)
    · replace hv := hv.2 hc
      refine j_aload_n dX2_choose_34 rfl rfl ?_
      refine j_aload_n dX2_choose_35 rfl rfl ?_
      refine j_iload dX2_choose_36 rfl ?_
      obtain ⟨⟨fs, e1⟩, hv⟩ := hv
      refine j_virtual (avs := [.ref x1, .int x5]) (rest := []) (i := x0) (kc' := kc) (ks' := ks) dX2_choose_38 mt_X2_nearestPlace w_m_X2_69 w_in_X2_nearestPlace w_se_X2_nearestPlace rfl rfl (Nat.le_of_ble_eq_true rfl) (Nat.le_refl _) (by omega) (by omega) cl_X2.1 e1 hv (fun _ _ q9 => q9) ?_
      rintro _ h3 ⟨z4, rfl, hv⟩ -
      exact hv
    · replace hv := hv.1 hc
      refine j_iconst (v := (-1 : Int32)) dX2_choose_30 (by decide) ?_
      refine j_goto (tgt := 41) dX2_choose_31 (by decide) ?_
      exact hv
set_option maxRecDepth 20000 in
set_option maxHeartbeats 4000000 in
theorem v_X2_choose {l : Launch} {d mc ms : Nat} {Q : Option Value → qH → Prop} {QX : String → qH → Prop} (x0 : Nat) (x1 : Nat) (x2 : Int32) {h : qH} (hv : q_J l (d + 5) mX2_choose mc ms Q QX h.2 8 [some (.ref x0), some (.ref x1), some (.int x2), some (.int (-1 : Int32)), some (.int (-1 : Int32)), some (.int (0 : Int32)), none, none] [] h mc ms) : q_Ct l (d + 5) mX2_choose [.ref x0, .ref x1, .int x2] h mc ms Q QX := by
  refine q_body (by decide ) (by intro v hm; simp only [List.mem_cons, List.not_mem_nil, or_false] at hm; rcases hm with rfl | rfl | rfl <;> rfl) (Nat.le_of_ble_eq_true rfl) ?_
  refine j_pad 5 rfl ?_
  refine j_iconst (v := (-1 : Int32)) dX2_choose_0 (by decide) ?_
  refine j_istore_n dX2_choose_1 rfl (by decide) rfl rfl ?_
  refine j_iconst (v := (-1 : Int32)) dX2_choose_2 (by decide) ?_
  refine j_istore dX2_choose_3 (by decide) rfl rfl ?_
  refine j_iconst (v := (0 : Int32)) dX2_choose_5 (by decide) ?_
  refine j_istore dX2_choose_6 (by decide) rfl rfl ?_
  exact hv
set_option maxRecDepth 20000 in
set_option maxHeartbeats 4000000 in
theorem v_X2_visit_17 {l : Launch} {d mc ms n0 kc ks : Nat} {Q : Option Value → qH → Prop} {QX : String → qH → Prop} (x0 : Nat) (x1 : Nat) (x2 : Nat) (x3 : Int32) (x4 : Int32) (x5 : Int32) (y0 : Int32) {h : qH} (hv : qGR h x0 2 4 (fun r1 => qOB h r1 6 (qCV l (d + 4) mX6_copyFrom [.ref r1, .ref x2] h 0 0 (fun h2 => qGR h2 x0 2 3 (fun r3 => qOB h2 r3 0 (qCI l (d + 4) mX0_perform [.ref r3, .ref x2, .int (0 : Int32), .int (x4 - x4 / (24 : Int32) * (24 : Int32)), .int (x4 / (24 : Int32))] h2 0 0 (fun z5 h4 => qIF (z5 = 0) (qGR h4 x0 2 3 (fun r8 => qOB h4 r8 0 (qCI l (d + 4) mX0_perform [.ref r8, .ref x2, .int y0, .int x3, .int (5 : Int32)] h4 0 0 (fun z10 h9 => qIF (z10 = 0) (qGI h9 x2 6 0 (fun z13 => qIF (z13 ≤ x5) (qGI h9 x1 5 3 (fun z14 => qOB h9 x1 5 (qCV l (d + 4) mX5_insert [.ref x1, .int z14, .int (0 : Int32), .int (x4 - x4 / (24 : Int32) * (24 : Int32)), .int (x4 / (24 : Int32))] h9 0 0 (fun h15 => qGI h15 x1 5 3 (fun z16 => qOB h15 x1 5 (qCV l (d + 4) mX5_insert [.ref x1, .int z16, .int y0, .int x3, .int (5 : Int32)] h15 0 0 (fun h17 => Q (some (.int (1 : Int32))) h17))))))) (qGR h9 x0 2 4 (fun r18 => qOB h9 x2 6 (qCV l (d + 4) mX6_copyFrom [.ref x2, .ref r18] h9 0 0 (fun h19 => Q (some (.int (0 : Int32))) h19)))))) (qGR h9 x0 2 4 (fun r11 => qOB h9 x2 6 (qCV l (d + 4) mX6_copyFrom [.ref x2, .ref r11] h9 0 0 (fun h12 => Q (some (.int (0 : Int32))) h12)))))))) (qGR h4 x0 2 4 (fun r6 => qOB h4 x2 6 (qCV l (d + 4) mX6_copyFrom [.ref x2, .ref r6] h4 0 0 (fun h7 => Q (some (.int (0 : Int32))) h7))))))))))) : q_J l (d + 5) mX2_visit mc ms Q QX n0 17 [some (.ref x0), some (.ref x1), some (.ref x2), some (.int x3), some (.int x4), some (.int x5), none, none, none] [.int y0] h kc ks := by
  refine j_istore dX2_visit_17 (by decide) rfl rfl ?_
  refine j_iload dX2_visit_19 rfl ?_
  refine j_bipush (v := (24 : Int32)) dX2_visit_21 (by decide) ?_
  refine j_irem dX2_visit_23 (by decide) ?_
  refine j_istore dX2_visit_24 (by decide) rfl rfl ?_
  refine j_iload dX2_visit_26 rfl ?_
  refine j_bipush (v := (24 : Int32)) dX2_visit_28 (by decide) ?_
  refine j_idiv dX2_visit_30 (by decide) ?_
  refine j_istore dX2_visit_31 (by decide) rfl rfl ?_
  refine j_aload_n dX2_visit_33 rfl rfl ?_
  obtain ⟨fs, r1, e1, e2, hv⟩ := hv
  refine j_getf (k := 4) cl_X2 (by decide) w_f_X2_12 dX2_visit_34 e1 e2 ?_
  refine j_aload_n dX2_visit_37 rfl rfl ?_
  obtain ⟨⟨fs, e1⟩, hv⟩ := hv
  refine j_virtual (avs := [.ref x2]) (rest := []) (i := r1) (kc' := kc) (ks' := ks) dX2_visit_38 mt_X6_copyFrom w_m_X2_94 w_in_X6_copyFrom w_se_X6_copyFrom rfl rfl (Nat.le_of_ble_eq_true rfl) (Nat.le_refl _) (by omega) (by omega) cl_X6.1 e1 hv (fun _ _ q9 => q9) ?_
  rintro _ h2 ⟨rfl, hv⟩ -
  refine j_aload_n dX2_visit_41 rfl rfl ?_
  obtain ⟨fs, r3, e1, e2, hv⟩ := hv
  refine j_getf (k := 3) cl_X2 (by decide) w_f_X2_30 dX2_visit_42 e1 e2 ?_
  refine j_aload_n dX2_visit_45 rfl rfl ?_
  refine j_iconst (v := (0 : Int32)) dX2_visit_46 (by decide) ?_
  refine j_iload dX2_visit_47 rfl ?_
  refine j_iload dX2_visit_49 rfl ?_
  obtain ⟨⟨fs, e1⟩, hv⟩ := hv
  refine j_virtual (avs := [.ref x2, .int (0 : Int32), .int (x4 - x4 / (24 : Int32) * (24 : Int32)), .int (x4 / (24 : Int32))]) (rest := []) (i := r3) (kc' := kc) (ks' := ks) dX2_visit_51 mt_X0_perform w_m_X2_98 w_in_X0_perform w_se_X0_perform rfl rfl (Nat.le_of_ble_eq_true rfl) (Nat.le_refl _) (by omega) (by omega) cl_X0.1 e1 hv (fun _ _ q9 => q9) ?_
  rintro _ h4 ⟨z5, rfl, hv⟩ -
  refine j_if_ne (tgt := 81) dX2_visit_54 (by decide) (fun hc => ?_) (fun hc => ?_)
  · replace hv := hv.2 hc
    refine j_aload_n dX2_visit_81 rfl rfl ?_
    refine j_aload_n dX2_visit_82 rfl rfl ?_
    obtain ⟨fs, r6, e1, e2, hv⟩ := hv
    refine j_getf (k := 4) cl_X2 (by decide) w_f_X2_12 dX2_visit_83 e1 e2 ?_
    obtain ⟨⟨fs, e1⟩, hv⟩ := hv
    refine j_virtual (avs := [.ref r6]) (rest := []) (i := x2) (kc' := kc) (ks' := ks) dX2_visit_86 mt_X6_copyFrom w_m_X2_94 w_in_X6_copyFrom w_se_X6_copyFrom rfl rfl (Nat.le_of_ble_eq_true rfl) (Nat.le_refl _) (by omega) (by omega) cl_X6.1 e1 hv (fun _ _ q9 => q9) ?_
    rintro _ h7 ⟨rfl, hv⟩ -
    refine j_iconst (v := (0 : Int32)) dX2_visit_89 (by decide) ?_
    exact j_zret dX2_visit_90 rfl (by decide) hv
  · replace hv := hv.1 hc
    refine j_aload_n dX2_visit_57 rfl rfl ?_
    obtain ⟨fs, r8, e1, e2, hv⟩ := hv
    refine j_getf (k := 3) cl_X2 (by decide) w_f_X2_30 dX2_visit_58 e1 e2 ?_
    refine j_aload_n dX2_visit_61 rfl rfl ?_
    refine j_iload dX2_visit_62 rfl ?_
    refine j_iload_n dX2_visit_64 rfl rfl ?_
    refine j_iconst (v := (5 : Int32)) dX2_visit_65 (by decide) ?_
    obtain ⟨⟨fs, e1⟩, hv⟩ := hv
    refine j_virtual (avs := [.ref x2, .int y0, .int x3, .int (5 : Int32)]) (rest := []) (i := r8) (kc' := kc) (ks' := ks) dX2_visit_66 mt_X0_perform w_m_X2_98 w_in_X0_perform w_se_X0_perform rfl rfl (Nat.le_of_ble_eq_true rfl) (Nat.le_refl _) (by omega) (by omega) cl_X0.1 e1 hv (fun _ _ q9 => q9) ?_
    rintro _ h9 ⟨z10, rfl, hv⟩ -
    refine j_if_ne (tgt := 81) dX2_visit_69 (by decide) (fun hc => ?_) (fun hc => ?_)
    · replace hv := hv.2 hc
      refine j_aload_n dX2_visit_81 rfl rfl ?_
      refine j_aload_n dX2_visit_82 rfl rfl ?_
      obtain ⟨fs, r11, e1, e2, hv⟩ := hv
      refine j_getf (k := 4) cl_X2 (by decide) w_f_X2_12 dX2_visit_83 e1 e2 ?_
      obtain ⟨⟨fs, e1⟩, hv⟩ := hv
      refine j_virtual (avs := [.ref r11]) (rest := []) (i := x2) (kc' := kc) (ks' := ks) dX2_visit_86 mt_X6_copyFrom w_m_X2_94 w_in_X6_copyFrom w_se_X6_copyFrom rfl rfl (Nat.le_of_ble_eq_true rfl) (Nat.le_refl _) (by omega) (by omega) cl_X6.1 e1 hv (fun _ _ q9 => q9) ?_
      rintro _ h12 ⟨rfl, hv⟩ -
      refine j_iconst (v := (0 : Int32)) dX2_visit_89 (by decide) ?_
      exact j_zret dX2_visit_90 rfl (by decide) hv
    · replace hv := hv.1 hc
      refine j_aload_n dX2_visit_72 rfl rfl ?_
      obtain ⟨fs, z13, e1, e2, hv⟩ := hv
      refine j_getfN (k := 0) cl_X6 (by decide) w_fn_X2_40 dX2_visit_73 e1 e2 ?_
      refine j_iload dX2_visit_76 rfl ?_
      refine j_icmp_le (tgt := 91) dX2_visit_78 (by decide) (fun hc => ?_) (fun hc => ?_)
      · replace hv := hv.1 hc
        refine j_aload_n dX2_visit_91 rfl rfl ?_
        refine j_aload_n dX2_visit_92 rfl rfl ?_
        obtain ⟨fs, z14, e1, e2, hv⟩ := hv
        refine j_getfN (k := 3) cl_X5 (by decide) w_fn_X2_34 dX2_visit_93 e1 e2 ?_
        refine j_iconst (v := (0 : Int32)) dX2_visit_96 (by decide) ?_
        refine j_iload dX2_visit_97 rfl ?_
        refine j_iload dX2_visit_99 rfl ?_
        obtain ⟨⟨fs, e1⟩, hv⟩ := hv
        refine j_virtual (avs := [.int z14, .int (0 : Int32), .int (x4 - x4 / (24 : Int32) * (24 : Int32)), .int (x4 / (24 : Int32))]) (rest := []) (i := x1) (kc' := kc) (ks' := ks) dX2_visit_101 mt_X5_insert w_m_X2_104 w_in_X5_insert w_se_X5_insert rfl rfl (Nat.le_of_ble_eq_true rfl) (Nat.le_refl _) (by omega) (by omega) cl_X5.1 e1 hv (fun _ _ q9 => q9) ?_
        rintro _ h15 ⟨rfl, hv⟩ -
        refine j_aload_n dX2_visit_104 rfl rfl ?_
        refine j_aload_n dX2_visit_105 rfl rfl ?_
        obtain ⟨fs, z16, e1, e2, hv⟩ := hv
        refine j_getfN (k := 3) cl_X5 (by decide) w_fn_X2_34 dX2_visit_106 e1 e2 ?_
        refine j_iload dX2_visit_109 rfl ?_
        refine j_iload_n dX2_visit_111 rfl rfl ?_
        refine j_iconst (v := (5 : Int32)) dX2_visit_112 (by decide) ?_
        obtain ⟨⟨fs, e1⟩, hv⟩ := hv
        refine j_virtual (avs := [.int z16, .int y0, .int x3, .int (5 : Int32)]) (rest := []) (i := x1) (kc' := kc) (ks' := ks) dX2_visit_113 mt_X5_insert w_m_X2_104 w_in_X5_insert w_se_X5_insert rfl rfl (Nat.le_of_ble_eq_true rfl) (Nat.le_refl _) (by omega) (by omega) cl_X5.1 e1 hv (fun _ _ q9 => q9) ?_
        rintro _ h17 ⟨rfl, hv⟩ -
        refine j_iconst (v := (1 : Int32)) dX2_visit_116 (by decide) ?_
        exact j_zret dX2_visit_117 rfl (by decide) hv
      · replace hv := hv.2 hc
        refine j_aload_n dX2_visit_81 rfl rfl ?_
        refine j_aload_n dX2_visit_82 rfl rfl ?_
        obtain ⟨fs, r18, e1, e2, hv⟩ := hv
        refine j_getf (k := 4) cl_X2 (by decide) w_f_X2_12 dX2_visit_83 e1 e2 ?_
        obtain ⟨⟨fs, e1⟩, hv⟩ := hv
        refine j_virtual (avs := [.ref r18]) (rest := []) (i := x2) (kc' := kc) (ks' := ks) dX2_visit_86 mt_X6_copyFrom w_m_X2_94 w_in_X6_copyFrom w_se_X6_copyFrom rfl rfl (Nat.le_of_ble_eq_true rfl) (Nat.le_refl _) (by omega) (by omega) cl_X6.1 e1 hv (fun _ _ q9 => q9) ?_
        rintro _ h19 ⟨rfl, hv⟩ -
        refine j_iconst (v := (0 : Int32)) dX2_visit_89 (by decide) ?_
        exact j_zret dX2_visit_90 rfl (by decide) hv
set_option maxRecDepth 20000 in
set_option maxHeartbeats 4000000 in
theorem v_X2_visit {l : Launch} {d mc ms : Nat} {Q : Option Value → qH → Prop} {QX : String → qH → Prop} (x0 : Nat) (x1 : Nat) (x2 : Nat) (x3 : Int32) (x4 : Int32) (x5 : Int32) {h : qH} (hv : qGR h x0 2 2 (fun r1 => qOB h r1 7 (qCI l (d + 4) mX7_needOf [.ref r1, .int x3] h 0 0 (fun z3 h2 => qIF (z3 = (4 : Int32)) (q_J l (d + 5) mX2_visit mc ms Q QX h.2 17 [some (.ref x0), some (.ref x1), some (.ref x2), some (.int x3), some (.int x4), some (.int x5), none, none, none] [.int (2 : Int32)] h2 mc ms) (q_J l (d + 5) mX2_visit mc ms Q QX h.2 17 [some (.ref x0), some (.ref x1), some (.ref x2), some (.int x3), some (.int x4), some (.int x5), none, none, none] [.int (1 : Int32)] h2 mc ms))))) : q_Ct l (d + 5) mX2_visit [.ref x0, .ref x1, .ref x2, .int x3, .int x4, .int x5] h mc ms Q QX := by
  refine q_body (by decide ) (by intro v hm; simp only [List.mem_cons, List.not_mem_nil, or_false] at hm; rcases hm with rfl | rfl | rfl | rfl | rfl | rfl <;> rfl) (Nat.le_of_ble_eq_true rfl) ?_
  refine j_pad 3 rfl ?_
  refine j_aload_n dX2_visit_0 rfl rfl ?_
  obtain ⟨fs, r1, e1, e2, hv⟩ := hv
  refine j_getf (k := 2) cl_X2 (by decide) w_f_X2_26 dX2_visit_1 e1 e2 ?_
  refine j_iload_n dX2_visit_4 rfl rfl ?_
  obtain ⟨⟨fs, e1⟩, hv⟩ := hv
  refine j_virtual (avs := [.int x3]) (rest := []) (i := r1) (kc' := mc) (ks' := ms) dX2_visit_5 mt_X7_needOf w_m_X2_91 w_in_X7_needOf w_se_X7_needOf rfl rfl (Nat.le_of_ble_eq_true rfl) (Nat.le_refl _) (by omega) (by omega) cl_X7.1 e1 hv (fun _ _ q9 => q9) ?_
  rintro _ h2 ⟨z3, rfl, hv⟩ -
  refine j_iconst (v := (4 : Int32)) dX2_visit_8 (by decide) ?_
  refine j_icmp_ne (tgt := 16) dX2_visit_9 (by decide) (fun hc => ?_) (fun hc => ?_)
  · replace hv := hv.2 hc
    refine j_iconst (v := (1 : Int32)) dX2_visit_16 (by decide) ?_
    exact hv
  · replace hv := hv.1 hc
    refine j_iconst (v := (2 : Int32)) dX2_visit_12 (by decide) ?_
    refine j_goto (tgt := 17) dX2_visit_13 (by decide) ?_
    exact hv
set_option maxRecDepth 20000 in
set_option maxHeartbeats 4000000 in
theorem v_X2_nearestPlace_98 {l : Launch} {d mc ms n0 kc ks : Nat} {Q : Option Value → qH → Prop} {QX : String → qH → Prop} (x0 : Nat) (x1 : Nat) (x2 : Int32) (x3 : Int32) (x4 : Int32) (x5 : Int32) (x6 : Int32) (x7 : Int32) (x8 : Int32) (x9 : Int32) {h : qH} (hv : qIF ((x5 + x4) < x9) (q_J l (d + 4) mX2_nearestPlace mc ms Q QX n0 81 [some (.ref x0), some (.ref x1), some (.int x2), some (.int x3), some (.int x4), some (.int x5), some (.int x6), some (.int x7), some (.int (x8 + (1 : Int32))), none, none] [] h kc ks) (qCI l (d + 3) mX1_placeOf [.int x9, .int x8] h 0 0 (fun z2 h1 => qOB h1 x0 2 (qCI l (d + 3) mX2_isNearer [.ref x0, .int z2, .int x7] h1 0 0 (fun z4 h3 => qIF (z4 = 0) (q_J l (d + 4) mX2_nearestPlace mc ms Q QX n0 98 [some (.ref x0), some (.ref x1), some (.int x2), some (.int x3), some (.int x4), some (.int x5), some (.int x6), some (.int x7), some (.int x8), some (.int (x9 + (1 : Int32))), none] [] h3 kc ks) (qOB h3 x0 2 (qCI l (d + 3) mX2_serves [.ref x0, .int x9, .int x8, .int x2, .int x3] h3 0 0 (fun z6 h5 => qIF (z6 = 0) (q_J l (d + 4) mX2_nearestPlace mc ms Q QX n0 98 [some (.ref x0), some (.ref x1), some (.int x2), some (.int x3), some (.int x4), some (.int x5), some (.int x6), some (.int x7), some (.int x8), some (.int (x9 + (1 : Int32))), none] [] h5 kc ks) (q_J l (d + 4) mX2_nearestPlace mc ms Q QX n0 98 [some (.ref x0), some (.ref x1), some (.int x2), some (.int x3), some (.int x4), some (.int x5), some (.int x6), some (.int z2), some (.int x8), some (.int (x9 + (1 : Int32))), none] [] h5 kc ks))))))))) : q_J l (d + 4) mX2_nearestPlace mc ms Q QX n0 98 [some (.ref x0), some (.ref x1), some (.int x2), some (.int x3), some (.int x4), some (.int x5), some (.int x6), some (.int x7), some (.int x8), some (.int x9), none] [] h kc ks := by
  refine j_iload dX2_nearestPlace_98 rfl ?_
  refine j_iload dX2_nearestPlace_100 rfl ?_
  refine j_iload dX2_nearestPlace_102 rfl ?_
  refine j_iadd dX2_nearestPlace_104 ?_
  refine j_icmp_gt (tgt := 151) dX2_nearestPlace_105 (by decide) (fun hc => ?_) (fun hc => ?_)
  · replace hv := hv.1 hc
    refine j_iinc (w := (x8 + (1 : Int32))) dX2_nearestPlace_151 rfl (by rfl) (by decide) rfl rfl ?_
    refine j_goto (tgt := 81) dX2_nearestPlace_154 (by decide) ?_
    refine j_mask [true, true, true, true, true, true, true, true, true, false, true] rfl ?_
    exact hv
  · replace hv := hv.2 hc
    refine j_iload dX2_nearestPlace_108 rfl ?_
    refine j_iload dX2_nearestPlace_110 rfl ?_
    refine j_static (avs := [.int x9, .int x8]) (rest := []) (kc' := kc) (ks' := ks) dX2_nearestPlace_112 mt_X1_placeOf w_m_X2_53 w_st_X1_placeOf rfl rfl (Nat.le_of_ble_eq_true rfl) (Nat.le_refl _) (by omega) (by omega) hv (fun _ _ q9 => q9) ?_
    rintro _ h1 ⟨z2, rfl, hv⟩ -
    refine j_istore dX2_nearestPlace_115 (by decide) rfl rfl ?_
    refine j_aload_n dX2_nearestPlace_117 rfl rfl ?_
    refine j_iload dX2_nearestPlace_118 rfl ?_
    refine j_iload dX2_nearestPlace_120 rfl ?_
    obtain ⟨⟨fs, e1⟩, hv⟩ := hv
    refine j_virtual (avs := [.int z2, .int x7]) (rest := []) (i := x0) (kc' := kc) (ks' := ks) dX2_nearestPlace_122 mt_X2_isNearer w_m_X2_124 w_in_X2_isNearer w_se_X2_isNearer rfl rfl (Nat.le_of_ble_eq_true rfl) (Nat.le_refl _) (by omega) (by omega) cl_X2.1 e1 hv (fun _ _ q9 => q9) ?_
    rintro _ h3 ⟨z4, rfl, hv⟩ -
    refine j_if_eq (tgt := 145) dX2_nearestPlace_125 (by decide) (fun hc => ?_) (fun hc => ?_)
    · replace hv := hv.1 hc
      refine j_iinc (w := (x9 + (1 : Int32))) dX2_nearestPlace_145 rfl (by rfl) (by decide) rfl rfl ?_
      refine j_goto (tgt := 98) dX2_nearestPlace_148 (by decide) ?_
      refine j_mask [true, true, true, true, true, true, true, true, true, true, false] rfl ?_
      exact hv
    · replace hv := hv.2 hc
      refine j_aload_n dX2_nearestPlace_128 rfl rfl ?_
      refine j_iload dX2_nearestPlace_129 rfl ?_
      refine j_iload dX2_nearestPlace_131 rfl ?_
      refine j_iload_n dX2_nearestPlace_133 rfl rfl ?_
      refine j_iload_n dX2_nearestPlace_134 rfl rfl ?_
      obtain ⟨⟨fs, e1⟩, hv⟩ := hv
      refine j_virtual (avs := [.int x9, .int x8, .int x2, .int x3]) (rest := []) (i := x0) (kc' := kc) (ks' := ks) dX2_nearestPlace_135 mt_X2_serves w_m_X2_127 w_in_X2_serves w_se_X2_serves rfl rfl (Nat.le_of_ble_eq_true rfl) (Nat.le_refl _) (by omega) (by omega) cl_X2.1 e1 hv (fun _ _ q9 => q9) ?_
      rintro _ h5 ⟨z6, rfl, hv⟩ -
      refine j_if_eq (tgt := 145) dX2_nearestPlace_138 (by decide) (fun hc => ?_) (fun hc => ?_)
      · replace hv := hv.1 hc
        refine j_iinc (w := (x9 + (1 : Int32))) dX2_nearestPlace_145 rfl (by rfl) (by decide) rfl rfl ?_
        refine j_goto (tgt := 98) dX2_nearestPlace_148 (by decide) ?_
        refine j_mask [true, true, true, true, true, true, true, true, true, true, false] rfl ?_
        exact hv
      · replace hv := hv.2 hc
        refine j_iload dX2_nearestPlace_141 rfl ?_
        refine j_istore dX2_nearestPlace_143 (by decide) rfl rfl ?_
        refine j_iinc (w := (x9 + (1 : Int32))) dX2_nearestPlace_145 rfl (by rfl) (by decide) rfl rfl ?_
        refine j_goto (tgt := 98) dX2_nearestPlace_148 (by decide) ?_
        refine j_mask [true, true, true, true, true, true, true, true, true, true, false] rfl ?_
        exact hv
set_option maxRecDepth 20000 in
set_option maxHeartbeats 4000000 in
theorem v_X2_nearestPlace_81 {l : Launch} {d mc ms n0 kc ks : Nat} {Q : Option Value → qH → Prop} {QX : String → qH → Prop} (x0 : Nat) (x1 : Nat) (x2 : Int32) (x3 : Int32) (x4 : Int32) (x5 : Int32) (x6 : Int32) (x7 : Int32) (x8 : Int32) {h : qH} (hv : qIF ((x6 + x4) < x8) (Q (some (.int x7)) h) (q_J l (d + 4) mX2_nearestPlace mc ms Q QX n0 98 [some (.ref x0), some (.ref x1), some (.int x2), some (.int x3), some (.int x4), some (.int x5), some (.int x6), some (.int x7), some (.int x8), some (.int (x5 - x4)), none] [] h kc ks)) : q_J l (d + 4) mX2_nearestPlace mc ms Q QX n0 81 [some (.ref x0), some (.ref x1), some (.int x2), some (.int x3), some (.int x4), some (.int x5), some (.int x6), some (.int x7), some (.int x8), none, none] [] h kc ks := by
  refine j_iload dX2_nearestPlace_81 rfl ?_
  refine j_iload dX2_nearestPlace_83 rfl ?_
  refine j_iload dX2_nearestPlace_85 rfl ?_
  refine j_iadd dX2_nearestPlace_87 ?_
  refine j_icmp_gt (tgt := 157) dX2_nearestPlace_88 (by decide) (fun hc => ?_) (fun hc => ?_)
  · replace hv := hv.1 hc
    refine j_iload dX2_nearestPlace_157 rfl ?_
    exact j_iret dX2_nearestPlace_159 rfl hv
  · replace hv := hv.2 hc
    refine j_iload dX2_nearestPlace_91 rfl ?_
    refine j_iload dX2_nearestPlace_93 rfl ?_
    refine j_isub dX2_nearestPlace_95 ?_
    refine j_istore dX2_nearestPlace_96 (by decide) rfl rfl ?_
    exact hv
set_option maxRecDepth 20000 in
set_option maxHeartbeats 4000000 in
theorem v_X2_nearestPlace_49 {l : Launch} {d mc ms n0 kc ks : Nat} {Q : Option Value → qH → Prop} {QX : String → qH → Prop} (x0 : Nat) (x1 : Nat) (x2 : Int32) (x3 : Int32) (y0 : Int32) {h : qH} (hv : qGR h x0 2 2 (fun r1 => qOB h r1 7 (qCI l (d + 3) mX7_xOf [.ref r1, .int x2] h 0 0 (fun z3 h2 => qGR h2 x0 2 2 (fun r4 => qOB h2 r4 7 (qCI l (d + 3) mX7_yOf [.ref r4, .int x2] h2 0 0 (fun z6 h5 => q_J l (d + 4) mX2_nearestPlace mc ms Q QX n0 81 [some (.ref x0), some (.ref x1), some (.int x2), some (.int x3), some (.int y0), some (.int z3), some (.int z6), some (.int (-1 : Int32)), some (.int (z6 - y0)), none, none] [] h5 kc ks))))))) : q_J l (d + 4) mX2_nearestPlace mc ms Q QX n0 49 [some (.ref x0), some (.ref x1), some (.int x2), some (.int x3), none, none, none, none, none, none, none] [.int y0] h kc ks := by
  refine j_istore dX2_nearestPlace_49 (by decide) rfl rfl ?_
  refine j_aload_n dX2_nearestPlace_51 rfl rfl ?_
  obtain ⟨fs, r1, e1, e2, hv⟩ := hv
  refine j_getf (k := 2) cl_X2 (by decide) w_f_X2_26 dX2_nearestPlace_52 e1 e2 ?_
  refine j_iload_n dX2_nearestPlace_55 rfl rfl ?_
  obtain ⟨⟨fs, e1⟩, hv⟩ := hv
  refine j_virtual (avs := [.int x2]) (rest := []) (i := r1) (kc' := kc) (ks' := ks) dX2_nearestPlace_56 mt_X7_xOf w_m_X2_118 w_in_X7_xOf w_se_X7_xOf rfl rfl (Nat.le_of_ble_eq_true rfl) (Nat.le_refl _) (by omega) (by omega) cl_X7.1 e1 hv (fun _ _ q9 => q9) ?_
  rintro _ h2 ⟨z3, rfl, hv⟩ -
  refine j_istore dX2_nearestPlace_59 (by decide) rfl rfl ?_
  refine j_aload_n dX2_nearestPlace_61 rfl rfl ?_
  obtain ⟨fs, r4, e1, e2, hv⟩ := hv
  refine j_getf (k := 2) cl_X2 (by decide) w_f_X2_26 dX2_nearestPlace_62 e1 e2 ?_
  refine j_iload_n dX2_nearestPlace_65 rfl rfl ?_
  obtain ⟨⟨fs, e1⟩, hv⟩ := hv
  refine j_virtual (avs := [.int x2]) (rest := []) (i := r4) (kc' := kc) (ks' := ks) dX2_nearestPlace_66 mt_X7_yOf w_m_X2_121 w_in_X7_yOf w_se_X7_yOf rfl rfl (Nat.le_of_ble_eq_true rfl) (Nat.le_refl _) (by omega) (by omega) cl_X7.1 e1 hv (fun _ _ q9 => q9) ?_
  rintro _ h5 ⟨z6, rfl, hv⟩ -
  refine j_istore dX2_nearestPlace_69 (by decide) rfl rfl ?_
  refine j_iconst (v := (-1 : Int32)) dX2_nearestPlace_71 (by decide) ?_
  refine j_istore dX2_nearestPlace_72 (by decide) rfl rfl ?_
  refine j_iload dX2_nearestPlace_74 rfl ?_
  refine j_iload dX2_nearestPlace_76 rfl ?_
  refine j_isub dX2_nearestPlace_78 ?_
  refine j_istore dX2_nearestPlace_79 (by decide) rfl rfl ?_
  exact hv
set_option maxRecDepth 20000 in
set_option maxHeartbeats 4000000 in
theorem v_X2_nearestPlace {l : Launch} {d mc ms : Nat} {Q : Option Value → qH → Prop} {QX : String → qH → Prop} (x0 : Nat) (x1 : Nat) (x2 : Int32) {h : qH} (hv : qOB h x1 6 (qCI l (d + 3) mX6_signsOfAll [.ref x1, .int x2] h 0 0 (fun z2 h1 => qGR h1 x0 2 2 (fun r3 => qOB h1 r3 7 (qCI l (d + 3) mX7_has [.ref r3, .int x2] h1 0 0 (fun z5 h4 => qIF (z5 = 0) (Q (some (.int (-1 : Int32))) h4) (qGR h4 x0 2 2 (fun r6 => qOB h4 r6 7 (qCI l (d + 3) mX7_isMet [.ref r6, .int x2, .int z2] h4 0 0 (fun z8 h7 => qIF (z8 = 0) (qGR h7 x0 2 2 (fun r9 => qOB h7 r9 7 (qCI l (d + 3) mX7_needOf [.ref r9, .int x2] h7 0 0 (fun z11 h10 => qIF (z11 = (4 : Int32)) (q_J l (d + 4) mX2_nearestPlace mc ms Q QX h.2 49 [some (.ref x0), some (.ref x1), some (.int x2), some (.int z2), none, none, none, none, none, none, none] [.int (1 : Int32)] h10 mc ms) (q_J l (d + 4) mX2_nearestPlace mc ms Q QX h.2 49 [some (.ref x0), some (.ref x1), some (.int x2), some (.int z2), none, none, none, none, none, none, none] [.int (6 : Int32)] h10 mc ms))))) (Q (some (.int (-1 : Int32))) h7))))))))))) : q_Ct l (d + 4) mX2_nearestPlace [.ref x0, .ref x1, .int x2] h mc ms Q QX := by
  refine q_body (by decide ) (by intro v hm; simp only [List.mem_cons, List.not_mem_nil, or_false] at hm; rcases hm with rfl | rfl | rfl <;> rfl) (Nat.le_of_ble_eq_true rfl) ?_
  refine j_pad 8 rfl ?_
  refine j_aload_n dX2_nearestPlace_0 rfl rfl ?_
  refine j_iload_n dX2_nearestPlace_1 rfl rfl ?_
  obtain ⟨⟨fs, e1⟩, hv⟩ := hv
  refine j_virtual (avs := [.int x2]) (rest := []) (i := x1) (kc' := mc) (ks' := ms) dX2_nearestPlace_2 mt_X6_signsOfAll w_m_X2_108 w_in_X6_signsOfAll w_se_X6_signsOfAll rfl rfl (Nat.le_of_ble_eq_true rfl) (Nat.le_refl _) (by omega) (by omega) cl_X6.1 e1 hv (fun _ _ q9 => q9) ?_
  rintro _ h1 ⟨z2, rfl, hv⟩ -
  refine j_istore_n dX2_nearestPlace_5 rfl (by decide) rfl rfl ?_
  refine j_aload_n dX2_nearestPlace_6 rfl rfl ?_
  obtain ⟨fs, r3, e1, e2, hv⟩ := hv
  refine j_getf (k := 2) cl_X2 (by decide) w_f_X2_26 dX2_nearestPlace_7 e1 e2 ?_
  refine j_iload_n dX2_nearestPlace_10 rfl rfl ?_
  obtain ⟨⟨fs, e1⟩, hv⟩ := hv
  refine j_virtual (avs := [.int x2]) (rest := []) (i := r3) (kc' := mc) (ks' := ms) dX2_nearestPlace_11 mt_X7_has w_m_X2_111 w_in_X7_has w_se_X7_has rfl rfl (Nat.le_of_ble_eq_true rfl) (Nat.le_refl _) (by omega) (by omega) cl_X7.1 e1 hv (fun _ _ q9 => q9) ?_
  rintro _ h4 ⟨z5, rfl, hv⟩ -
  refine j_if_eq (tgt := 29) dX2_nearestPlace_14 (by decide) (fun hc => ?_) (fun hc => ?_)
  · replace hv := hv.1 hc
    refine j_iconst (v := (-1 : Int32)) dX2_nearestPlace_29 (by decide) ?_
    exact j_iret dX2_nearestPlace_30 rfl hv
  · replace hv := hv.2 hc
    refine j_aload_n dX2_nearestPlace_17 rfl rfl ?_
    obtain ⟨fs, r6, e1, e2, hv⟩ := hv
    refine j_getf (k := 2) cl_X2 (by decide) w_f_X2_26 dX2_nearestPlace_18 e1 e2 ?_
    refine j_iload_n dX2_nearestPlace_21 rfl rfl ?_
    refine j_iload_n dX2_nearestPlace_22 rfl rfl ?_
    obtain ⟨⟨fs, e1⟩, hv⟩ := hv
    refine j_virtual (avs := [.int x2, .int z2]) (rest := []) (i := r6) (kc' := mc) (ks' := ms) dX2_nearestPlace_23 mt_X7_isMet w_m_X2_114 w_in_X7_isMet w_se_X7_isMet rfl rfl (Nat.le_of_ble_eq_true rfl) (Nat.le_refl _) (by omega) (by omega) cl_X7.1 e1 hv (fun _ _ q9 => q9) ?_
    rintro _ h7 ⟨z8, rfl, hv⟩ -
    refine j_if_eq (tgt := 31) dX2_nearestPlace_26 (by decide) (fun hc => ?_) (fun hc => ?_)
    · replace hv := hv.1 hc
      refine j_aload_n dX2_nearestPlace_31 rfl rfl ?_
      obtain ⟨fs, r9, e1, e2, hv⟩ := hv
      refine j_getf (k := 2) cl_X2 (by decide) w_f_X2_26 dX2_nearestPlace_32 e1 e2 ?_
      refine j_iload_n dX2_nearestPlace_35 rfl rfl ?_
      obtain ⟨⟨fs, e1⟩, hv⟩ := hv
      refine j_virtual (avs := [.int x2]) (rest := []) (i := r9) (kc' := mc) (ks' := ms) dX2_nearestPlace_36 mt_X7_needOf w_m_X2_91 w_in_X7_needOf w_se_X7_needOf rfl rfl (Nat.le_of_ble_eq_true rfl) (Nat.le_refl _) (by omega) (by omega) cl_X7.1 e1 hv (fun _ _ q9 => q9) ?_
      rintro _ h10 ⟨z11, rfl, hv⟩ -
      refine j_iconst (v := (4 : Int32)) dX2_nearestPlace_39 (by decide) ?_
      refine j_icmp_ne (tgt := 47) dX2_nearestPlace_40 (by decide) (fun hc => ?_) (fun hc => ?_)
      · replace hv := hv.2 hc
        refine j_bipush (v := (6 : Int32)) dX2_nearestPlace_47 (by decide) ?_
        exact hv
      · replace hv := hv.1 hc
        refine j_iconst (v := (1 : Int32)) dX2_nearestPlace_43 (by decide) ?_
        refine j_goto (tgt := 49) dX2_nearestPlace_44 (by decide) ?_
        exact hv
    · replace hv := hv.2 hc
      refine j_iconst (v := (-1 : Int32)) dX2_nearestPlace_29 (by decide) ?_
      exact j_iret dX2_nearestPlace_30 rfl hv
set_option maxRecDepth 20000 in
set_option maxHeartbeats 4000000 in
theorem v_X2_isNearer {l : Launch} {d mc ms : Nat} {Q : Option Value → qH → Prop} {QX : String → qH → Prop} (x0 : Nat) (x1 : Int32) (x2 : Int32) {h : qH} (hv : qGR h x0 2 1 (fun r1 => qOB h r1 8 (qCI l (d + 0) mX8_costOf [.ref r1, .int x1] h 0 0 (fun z3 h2 => qIF (z3 = (-1 : Int32)) (Q (some (.int (0 : Int32))) h2) (qIF (x2 = (-1 : Int32)) (Q (some (.int (1 : Int32))) h2) (qGR h2 x0 2 1 (fun r4 => qOB h2 r4 8 (qCI l (d + 0) mX8_costOf [.ref r4, .int x2] h2 0 0 (fun z6 h5 => qIF (z6 ≤ z3) (Q (some (.int (0 : Int32))) h5) (Q (some (.int (1 : Int32))) h5)))))))))) : q_Ct l (d + 1) mX2_isNearer [.ref x0, .int x1, .int x2] h mc ms Q QX := by
  refine q_body (by decide ) (by intro v hm; simp only [List.mem_cons, List.not_mem_nil, or_false] at hm; rcases hm with rfl | rfl | rfl <;> rfl) (Nat.le_of_ble_eq_true rfl) ?_
  refine j_pad 1 rfl ?_
  refine j_aload_n dX2_isNearer_0 rfl rfl ?_
  obtain ⟨fs, r1, e1, e2, hv⟩ := hv
  refine j_getf (k := 1) cl_X2 (by decide) w_f_X2_22 dX2_isNearer_1 e1 e2 ?_
  refine j_iload_n dX2_isNearer_4 rfl rfl ?_
  obtain ⟨⟨fs, e1⟩, hv⟩ := hv
  refine j_virtual (avs := [.int x1]) (rest := []) (i := r1) (kc' := mc) (ks' := ms) dX2_isNearer_5 mt_X8_costOf w_m_X2_83 w_in_X8_costOf w_se_X8_costOf rfl rfl (Nat.le_of_ble_eq_true rfl) (Nat.le_refl _) (by omega) (by omega) cl_X8.1 e1 hv (fun _ _ q9 => q9) ?_
  rintro _ h2 ⟨z3, rfl, hv⟩ -
  refine j_istore_n dX2_isNearer_8 rfl (by decide) rfl rfl ?_
  refine j_iload_n dX2_isNearer_9 rfl rfl ?_
  refine j_iconst (v := (-1 : Int32)) dX2_isNearer_10 (by decide) ?_
  refine j_icmp_eq (tgt := 35) dX2_isNearer_11 (by decide) (fun hc => ?_) (fun hc => ?_)
  · replace hv := hv.1 hc
    refine j_iconst (v := (0 : Int32)) dX2_isNearer_35 (by decide) ?_
    exact j_zret dX2_isNearer_36 rfl (by decide) hv
  · replace hv := hv.2 hc
    refine j_iload_n dX2_isNearer_14 rfl rfl ?_
    refine j_iconst (v := (-1 : Int32)) dX2_isNearer_15 (by decide) ?_
    refine j_icmp_eq (tgt := 31) dX2_isNearer_16 (by decide) (fun hc => ?_) (fun hc => ?_)
    · replace hv := hv.1 hc
      refine j_iconst (v := (1 : Int32)) dX2_isNearer_31 (by decide) ?_
      refine j_goto (tgt := 36) dX2_isNearer_32 (by decide) ?_
      exact j_zret dX2_isNearer_36 rfl (by decide) hv
    · replace hv := hv.2 hc
      refine j_iload_n dX2_isNearer_19 rfl rfl ?_
      refine j_aload_n dX2_isNearer_20 rfl rfl ?_
      obtain ⟨fs, r4, e1, e2, hv⟩ := hv
      refine j_getf (k := 1) cl_X2 (by decide) w_f_X2_22 dX2_isNearer_21 e1 e2 ?_
      refine j_iload_n dX2_isNearer_24 rfl rfl ?_
      obtain ⟨⟨fs, e1⟩, hv⟩ := hv
      refine j_virtual (avs := [.int x2]) (rest := [.int z3]) (i := r4) (kc' := mc) (ks' := ms) dX2_isNearer_25 mt_X8_costOf w_m_X2_83 w_in_X8_costOf w_se_X8_costOf rfl rfl (Nat.le_of_ble_eq_true rfl) (Nat.le_refl _) (by omega) (by omega) cl_X8.1 e1 hv (fun _ _ q9 => q9) ?_
      rintro _ h5 ⟨z6, rfl, hv⟩ -
      refine j_icmp_ge (tgt := 35) dX2_isNearer_28 (by decide) (fun hc => ?_) (fun hc => ?_)
      · replace hv := hv.1 hc
        refine j_iconst (v := (0 : Int32)) dX2_isNearer_35 (by decide) ?_
        exact j_zret dX2_isNearer_36 rfl (by decide) hv
      · replace hv := hv.2 hc
        refine j_iconst (v := (1 : Int32)) dX2_isNearer_31 (by decide) ?_
        refine j_goto (tgt := 36) dX2_isNearer_32 (by decide) ?_
        exact j_zret dX2_isNearer_36 rfl (by decide) hv
set_option maxRecDepth 20000 in
set_option maxHeartbeats 4000000 in
theorem v_X2_serves {l : Launch} {d mc ms : Nat} {Q : Option Value → qH → Prop} {QX : String → qH → Prop} (x0 : Nat) (x1 : Int32) (x2 : Int32) (x3 : Int32) (x4 : Int32) {h : qH} (hv : qGR h x0 2 2 (fun r1 => qOB h r1 7 (qCI l (d + 2) mX7_needOf [.ref r1, .int x3] h 0 0 (fun z3 h2 => qIF (z3 = (4 : Int32)) (Q (some (.int (1 : Int32))) h2) (qGR h2 x0 2 2 (fun r4 => qOB h2 r4 7 (qCI l (d + 2) mX7_xOf [.ref r4, .int x3] h2 0 0 (fun z6 h5 => qGR h5 x0 2 2 (fun r7 => qOB h5 r7 7 (qCI l (d + 2) mX7_yOf [.ref r7, .int x3] h5 0 0 (fun z9 h8 => qCI l (d + 2) mX1_octantOf [.int x1, .int x2, .int z6, .int z9] h8 0 0 (fun z11 h10 => qIF (((x4 >>> (z11 &&& 31)) &&& (1 : Int32)) = 0) (qGR h10 x0 2 0 (fun r12 => qOB h10 r12 1 (qCI l (d + 2) mX1_isSeen [.ref r12, .int x1, .int x2, .int z6, .int z9] h10 0 0 (fun z14 h13 => qIF (z14 = 0) (Q (some (.int (0 : Int32))) h13) (Q (some (.int (1 : Int32))) h13))))) (Q (some (.int (0 : Int32))) h10))))))))))))) : q_Ct l (d + 3) mX2_serves [.ref x0, .int x1, .int x2, .int x3, .int x4] h mc ms Q QX := by
  refine q_body (by decide ) (by intro v hm; simp only [List.mem_cons, List.not_mem_nil, or_false] at hm; rcases hm with rfl | rfl | rfl | rfl | rfl <;> rfl) (Nat.le_of_ble_eq_true rfl) ?_
  refine j_pad 3 rfl ?_
  refine j_aload_n dX2_serves_0 rfl rfl ?_
  obtain ⟨fs, r1, e1, e2, hv⟩ := hv
  refine j_getf (k := 2) cl_X2 (by decide) w_f_X2_26 dX2_serves_1 e1 e2 ?_
  refine j_iload_n dX2_serves_4 rfl rfl ?_
  obtain ⟨⟨fs, e1⟩, hv⟩ := hv
  refine j_virtual (avs := [.int x3]) (rest := []) (i := r1) (kc' := mc) (ks' := ms) dX2_serves_5 mt_X7_needOf w_m_X2_91 w_in_X7_needOf w_se_X7_needOf rfl rfl (Nat.le_of_ble_eq_true rfl) (Nat.le_refl _) (by omega) (by omega) cl_X7.1 e1 hv (fun _ _ q9 => q9) ?_
  rintro _ h2 ⟨z3, rfl, hv⟩ -
  refine j_iconst (v := (4 : Int32)) dX2_serves_8 (by decide) ?_
  refine j_icmp_ne (tgt := 14) dX2_serves_9 (by decide) (fun hc => ?_) (fun hc => ?_)
  · replace hv := hv.2 hc
    refine j_aload_n dX2_serves_14 rfl rfl ?_
    obtain ⟨fs, r4, e1, e2, hv⟩ := hv
    refine j_getf (k := 2) cl_X2 (by decide) w_f_X2_26 dX2_serves_15 e1 e2 ?_
    refine j_iload_n dX2_serves_18 rfl rfl ?_
    obtain ⟨⟨fs, e1⟩, hv⟩ := hv
    refine j_virtual (avs := [.int x3]) (rest := []) (i := r4) (kc' := mc) (ks' := ms) dX2_serves_19 mt_X7_xOf w_m_X2_118 w_in_X7_xOf w_se_X7_xOf rfl rfl (Nat.le_of_ble_eq_true rfl) (Nat.le_refl _) (by omega) (by omega) cl_X7.1 e1 hv (fun _ _ q9 => q9) ?_
    rintro _ h5 ⟨z6, rfl, hv⟩ -
    refine j_istore dX2_serves_22 (by decide) rfl rfl ?_
    refine j_aload_n dX2_serves_24 rfl rfl ?_
    obtain ⟨fs, r7, e1, e2, hv⟩ := hv
    refine j_getf (k := 2) cl_X2 (by decide) w_f_X2_26 dX2_serves_25 e1 e2 ?_
    refine j_iload_n dX2_serves_28 rfl rfl ?_
    obtain ⟨⟨fs, e1⟩, hv⟩ := hv
    refine j_virtual (avs := [.int x3]) (rest := []) (i := r7) (kc' := mc) (ks' := ms) dX2_serves_29 mt_X7_yOf w_m_X2_121 w_in_X7_yOf w_se_X7_yOf rfl rfl (Nat.le_of_ble_eq_true rfl) (Nat.le_refl _) (by omega) (by omega) cl_X7.1 e1 hv (fun _ _ q9 => q9) ?_
    rintro _ h8 ⟨z9, rfl, hv⟩ -
    refine j_istore dX2_serves_32 (by decide) rfl rfl ?_
    refine j_iload_n dX2_serves_34 rfl rfl ?_
    refine j_iload_n dX2_serves_35 rfl rfl ?_
    refine j_iload dX2_serves_36 rfl ?_
    refine j_iload dX2_serves_38 rfl ?_
    refine j_static (avs := [.int x1, .int x2, .int z6, .int z9]) (rest := []) (kc' := mc) (ks' := ms) dX2_serves_40 mt_X1_octantOf w_m_X2_131 w_st_X1_octantOf rfl rfl (Nat.le_of_ble_eq_true rfl) (Nat.le_refl _) (by omega) (by omega) hv (fun _ _ q9 => q9) ?_
    rintro _ h10 ⟨z11, rfl, hv⟩ -
    refine j_istore dX2_serves_43 (by decide) rfl rfl ?_
    refine j_iload dX2_serves_45 rfl ?_
    refine j_iload dX2_serves_47 rfl ?_
    refine j_ishr dX2_serves_49 ?_
    refine j_iconst (v := (1 : Int32)) dX2_serves_50 (by decide) ?_
    refine j_iand dX2_serves_51 ?_
    refine j_if_ne (tgt := 75) dX2_serves_52 (by decide) (fun hc => ?_) (fun hc => ?_)
    · replace hv := hv.2 hc
      refine j_iconst (v := (0 : Int32)) dX2_serves_75 (by decide) ?_
      exact j_zret dX2_serves_76 rfl (by decide) hv
    · replace hv := hv.1 hc
      refine j_aload_n dX2_serves_55 rfl rfl ?_
      obtain ⟨fs, r12, e1, e2, hv⟩ := hv
      refine j_getf (k := 0) cl_X2 (by decide) w_f_X2_18 dX2_serves_56 e1 e2 ?_
      refine j_iload_n dX2_serves_59 rfl rfl ?_
      refine j_iload_n dX2_serves_60 rfl rfl ?_
      refine j_iload dX2_serves_61 rfl ?_
      refine j_iload dX2_serves_63 rfl ?_
      obtain ⟨⟨fs, e1⟩, hv⟩ := hv
      refine j_virtual (avs := [.int x1, .int x2, .int z6, .int z9]) (rest := []) (i := r12) (kc' := mc) (ks' := ms) dX2_serves_65 mt_X1_isSeen w_m_X2_135 w_in_X1_isSeen w_se_X1_isSeen rfl rfl (Nat.le_of_ble_eq_true rfl) (Nat.le_refl _) (by omega) (by omega) cl_X1.1 e1 hv (fun _ _ q9 => q9) ?_
      rintro _ h13 ⟨z14, rfl, hv⟩ -
      refine j_if_eq (tgt := 75) dX2_serves_68 (by decide) (fun hc => ?_) (fun hc => ?_)
      · replace hv := hv.1 hc
        refine j_iconst (v := (0 : Int32)) dX2_serves_75 (by decide) ?_
        exact j_zret dX2_serves_76 rfl (by decide) hv
      · replace hv := hv.2 hc
        refine j_iconst (v := (1 : Int32)) dX2_serves_71 (by decide) ?_
        refine j_goto (tgt := 76) dX2_serves_72 (by decide) ?_
        exact j_zret dX2_serves_76 rfl (by decide) hv
  · replace hv := hv.1 hc
    refine j_iconst (v := (1 : Int32)) dX2_serves_12 (by decide) ?_
    exact j_zret dX2_serves_13 rfl (by decide) hv
