set_option maxRecDepth 20000 in
set_option maxHeartbeats 4000000 in
theorem v_X8_measureTo_29 {l : Launch} {d mc ms n0 kc ks : Nat} {Q : Option Value → qH → Prop} {QX : String → qH → Prop} (x0 : Nat) (x1 : Int32) (x2 : Int32) (x3 : Int32) (x4 : Int32) {h : qH} (hv : qIF ((8 : Int32) ≤ x4) (q_J l (d + 2) mX8_measureTo mc ms Q QX n0 7 [some (.ref x0), some (.int x1), some (.int (x2 + (1 : Int32))), none, none, none] [] h kc ks) (qCI l (d + 1) mX1_neighbourOf [.int x3, .int ((x4 + (4 : Int32)) - (x4 + (4 : Int32)) / (8 : Int32) * (8 : Int32))] h 0 0 (fun z2 h1 => qGR h1 x0 8 0 (fun r3 => qOB h1 r3 1 (qCI l (d + 1) mX1_minutesOf [.ref r3, .int z2, .int x4] h1 0 0 (fun z5 h4 => qOB h4 x0 8 (qCV l (d + 1) mX8_reach [.ref x0, .int z2, .int x3, .int z5] h4 0 0 (fun h6 => q_J l (d + 2) mX8_measureTo mc ms Q QX n0 29 [some (.ref x0), some (.int x1), some (.int x2), some (.int x3), some (.int (x4 + (1 : Int32))), none] [] h6 kc ks)))))))) : q_J l (d + 2) mX8_measureTo mc ms Q QX n0 29 [some (.ref x0), some (.int x1), some (.int x2), some (.int x3), some (.int x4), none] [] h kc ks := by
  refine j_iload dX8_measureTo_29 rfl ?_
  refine j_bipush (v := (8 : Int32)) dX8_measureTo_31 (by decide) ?_
  refine j_icmp_ge (tgt := 73) dX8_measureTo_33 (by decide) (fun hc => ?_) (fun hc => ?_)
  · replace hv := hv.1 hc
    refine j_iinc (w := (x2 + (1 : Int32))) dX8_measureTo_73 rfl (by rfl) (by decide) rfl rfl ?_
    refine j_goto (tgt := 7) dX8_measureTo_76 (by decide) ?_
    refine j_mask [true, true, true, false, false, true] rfl ?_
    exact hv
  · replace hv := hv.2 hc
    refine j_iload_n dX8_measureTo_36 rfl rfl ?_
    refine j_iload dX8_measureTo_37 rfl ?_
    refine j_iconst (v := (4 : Int32)) dX8_measureTo_39 (by decide) ?_
    refine j_iadd dX8_measureTo_40 ?_
    refine j_bipush (v := (8 : Int32)) dX8_measureTo_41 (by decide) ?_
    refine j_irem dX8_measureTo_43 (by decide) ?_
    refine j_static (avs := [.int x3, .int ((x4 + (4 : Int32)) - (x4 + (4 : Int32)) / (8 : Int32) * (8 : Int32))]) (rest := []) (kc' := kc) (ks' := ks) dX8_measureTo_44 mt_X1_neighbourOf w_m_X8_34 w_st_X1_neighbourOf rfl rfl (Nat.le_of_ble_eq_true rfl) (Nat.le_refl _) (by omega) (by omega) hv (fun _ _ q9 => q9) ?_
    rintro _ h1 ⟨z2, rfl, hv⟩ -
    refine j_istore dX8_measureTo_47 (by decide) rfl rfl ?_
    refine j_aload_n dX8_measureTo_49 rfl rfl ?_
    refine j_iload dX8_measureTo_50 rfl ?_
    refine j_iload_n dX8_measureTo_52 rfl rfl ?_
    refine j_aload_n dX8_measureTo_53 rfl rfl ?_
    obtain ⟨fs, r3, e1, e2, hv⟩ := hv
    refine j_getf (k := 0) cl_X8 (by decide) w_f_X8_18 dX8_measureTo_54 e1 e2 ?_
    refine j_iload dX8_measureTo_57 rfl ?_
    refine j_iload dX8_measureTo_59 rfl ?_
    obtain ⟨⟨fs, e1⟩, hv⟩ := hv
    refine j_virtual (avs := [.int z2, .int x4]) (rest := [.int x3, .int z2, .ref x0]) (i := r3) (kc' := kc) (ks' := ks) dX8_measureTo_61 mt_X1_minutesOf w_m_X8_40 w_in_X1_minutesOf w_se_X1_minutesOf rfl rfl (Nat.le_of_ble_eq_true rfl) (Nat.le_refl _) (by omega) (by omega) cl_X1.1 e1 hv (fun _ _ q9 => q9) ?_
    rintro _ h4 ⟨z5, rfl, hv⟩ -
    obtain ⟨⟨fs, e1⟩, hv⟩ := hv
    refine j_virtual (avs := [.int z2, .int x3, .int z5]) (rest := []) (i := x0) (kc' := kc) (ks' := ks) dX8_measureTo_64 mt_X8_reach w_m_X8_43 w_in_X8_reach w_se_X8_reach rfl rfl (Nat.le_of_ble_eq_true rfl) (Nat.le_refl _) (by omega) (by omega) cl_X8.1 e1 hv (fun _ _ q9 => q9) ?_
    rintro _ h6 ⟨rfl, hv⟩ -
    refine j_iinc (w := (x4 + (1 : Int32))) dX8_measureTo_67 rfl (by rfl) (by decide) rfl rfl ?_
    refine j_goto (tgt := 29) dX8_measureTo_70 (by decide) ?_
    refine j_mask [true, true, true, true, true, false] rfl ?_
    exact hv
set_option maxRecDepth 20000 in
set_option maxHeartbeats 4000000 in
theorem v_X8_measureTo_7 {l : Launch} {d mc ms n0 kc ks : Nat} {Q : Option Value → qH → Prop} {QX : String → qH → Prop} (x0 : Nat) (x1 : Int32) (x2 : Int32) {h : qH} (hv : qIF ((576 : Int32) ≤ x2) (Q none h) (qGI h x0 8 3 (fun z1 => qIF (z1 ≤ 0) (Q none h) (qOB h x0 8 (qCI l (d + 1) mX8_takeCheapest [.ref x0] h 0 0 (fun z3 h2 => q_J l (d + 2) mX8_measureTo mc ms Q QX n0 29 [some (.ref x0), some (.int x1), some (.int x2), some (.int z3), some (.int (0 : Int32)), none] [] h2 kc ks)))))) : q_J l (d + 2) mX8_measureTo mc ms Q QX n0 7 [some (.ref x0), some (.int x1), some (.int x2), none, none, none] [] h kc ks := by
  refine j_iload_n dX8_measureTo_7 rfl rfl ?_
  refine j_sipush (v := (576 : Int32)) dX8_measureTo_8 (by decide) ?_
  refine j_icmp_ge (tgt := 79) dX8_measureTo_11 (by decide) (fun hc => ?_) (fun hc => ?_)
  · replace hv := hv.1 hc
    exact j_vret dX8_measureTo_79 rfl hv
  · replace hv := hv.2 hc
    refine j_aload_n dX8_measureTo_14 rfl rfl ?_
    obtain ⟨fs, z1, e1, e2, hv⟩ := hv
    refine j_getf (k := 3) cl_X8 (by decide) w_f_X8_26 dX8_measureTo_15 e1 e2 ?_
    refine j_if_le (tgt := 79) dX8_measureTo_18 (by decide) (fun hc => ?_) (fun hc => ?_)
    · replace hv := hv.1 hc
      exact j_vret dX8_measureTo_79 rfl hv
    · replace hv := hv.2 hc
      refine j_aload_n dX8_measureTo_21 rfl rfl ?_
      obtain ⟨⟨fs, e1⟩, hv⟩ := hv
      refine j_virtual (avs := []) (rest := []) (i := x0) (kc' := kc) (ks' := ks) dX8_measureTo_22 mt_X8_takeCheapest w_m_X8_30 w_in_X8_takeCheapest w_se_X8_takeCheapest rfl rfl (Nat.le_of_ble_eq_true rfl) (Nat.le_refl _) (by omega) (by omega) cl_X8.1 e1 hv (fun _ _ q9 => q9) ?_
      rintro _ h2 ⟨z3, rfl, hv⟩ -
      refine j_istore_n dX8_measureTo_25 rfl (by decide) rfl rfl ?_
      refine j_iconst (v := (0 : Int32)) dX8_measureTo_26 (by decide) ?_
      refine j_istore dX8_measureTo_27 (by decide) rfl rfl ?_
      exact hv
set_option maxRecDepth 20000 in
set_option maxHeartbeats 4000000 in
theorem v_X8_measureTo {l : Launch} {d mc ms : Nat} {Q : Option Value → qH → Prop} {QX : String → qH → Prop} (x0 : Nat) (x1 : Int32) {h : qH} (hv : qOB h x0 8 (qCV l (d + 1) mX8_begin [.ref x0, .int x1] h 0 0 (fun h1 => q_J l (d + 2) mX8_measureTo mc ms Q QX h.2 7 [some (.ref x0), some (.int x1), some (.int (0 : Int32)), none, none, none] [] h1 mc ms))) : q_Ct l (d + 2) mX8_measureTo [.ref x0, .int x1] h mc ms Q QX := by
  refine q_body (by decide ) (by intro v hm; simp only [List.mem_cons, List.not_mem_nil, or_false] at hm; rcases hm with rfl | rfl <;> rfl) (Nat.le_of_ble_eq_true rfl) ?_
  refine j_pad 4 rfl ?_
  refine j_aload_n dX8_measureTo_0 rfl rfl ?_
  refine j_iload_n dX8_measureTo_1 rfl rfl ?_
  obtain ⟨⟨fs, e1⟩, hv⟩ := hv
  refine j_virtual (avs := [.int x1]) (rest := []) (i := x0) (kc' := mc) (ks' := ms) dX8_measureTo_2 mt_X8_begin w_m_X8_22 w_in_X8_begin w_se_X8_begin rfl rfl (Nat.le_of_ble_eq_true rfl) (Nat.le_refl _) (by omega) (by omega) cl_X8.1 e1 hv (fun _ _ q9 => q9) ?_
  rintro _ h1 ⟨rfl, hv⟩ -
  refine j_iconst (v := (0 : Int32)) dX8_measureTo_5 (by decide) ?_
  refine j_istore_n dX8_measureTo_6 rfl (by decide) rfl rfl ?_
  exact hv
set_option maxRecDepth 20000 in
set_option maxHeartbeats 4000000 in
theorem v_X8_measureFrom_29 {l : Launch} {d mc ms n0 kc ks : Nat} {Q : Option Value → qH → Prop} {QX : String → qH → Prop} (x0 : Nat) (x1 : Int32) (x2 : Int32) (x3 : Int32) (x4 : Int32) {h : qH} (hv : qIF ((8 : Int32) ≤ x4) (q_J l (d + 2) mX8_measureFrom mc ms Q QX n0 7 [some (.ref x0), some (.int x1), some (.int (x2 + (1 : Int32))), none, none, none] [] h kc ks) (qCI l (d + 1) mX1_neighbourOf [.int x3, .int x4] h 0 0 (fun z2 h1 => qGR h1 x0 8 0 (fun r3 => qOB h1 r3 1 (qCI l (d + 1) mX1_minutesOf [.ref r3, .int x3, .int x4] h1 0 0 (fun z5 h4 => qOB h4 x0 8 (qCV l (d + 1) mX8_reach [.ref x0, .int z2, .int x3, .int z5] h4 0 0 (fun h6 => q_J l (d + 2) mX8_measureFrom mc ms Q QX n0 29 [some (.ref x0), some (.int x1), some (.int x2), some (.int x3), some (.int (x4 + (1 : Int32))), none] [] h6 kc ks)))))))) : q_J l (d + 2) mX8_measureFrom mc ms Q QX n0 29 [some (.ref x0), some (.int x1), some (.int x2), some (.int x3), some (.int x4), none] [] h kc ks := by
  refine j_iload dX8_measureFrom_29 rfl ?_
  refine j_bipush (v := (8 : Int32)) dX8_measureFrom_31 (by decide) ?_
  refine j_icmp_ge (tgt := 67) dX8_measureFrom_33 (by decide) (fun hc => ?_) (fun hc => ?_)
  · replace hv := hv.1 hc
    refine j_iinc (w := (x2 + (1 : Int32))) dX8_measureFrom_67 rfl (by rfl) (by decide) rfl rfl ?_
    refine j_goto (tgt := 7) dX8_measureFrom_70 (by decide) ?_
    refine j_mask [true, true, true, false, false, true] rfl ?_
    exact hv
  · replace hv := hv.2 hc
    refine j_iload_n dX8_measureFrom_36 rfl rfl ?_
    refine j_iload dX8_measureFrom_37 rfl ?_
    refine j_static (avs := [.int x3, .int x4]) (rest := []) (kc' := kc) (ks' := ks) dX8_measureFrom_39 mt_X1_neighbourOf w_m_X8_34 w_st_X1_neighbourOf rfl rfl (Nat.le_of_ble_eq_true rfl) (Nat.le_refl _) (by omega) (by omega) hv (fun _ _ q9 => q9) ?_
    rintro _ h1 ⟨z2, rfl, hv⟩ -
    refine j_istore dX8_measureFrom_42 (by decide) rfl rfl ?_
    refine j_aload_n dX8_measureFrom_44 rfl rfl ?_
    refine j_iload dX8_measureFrom_45 rfl ?_
    refine j_iload_n dX8_measureFrom_47 rfl rfl ?_
    refine j_aload_n dX8_measureFrom_48 rfl rfl ?_
    obtain ⟨fs, r3, e1, e2, hv⟩ := hv
    refine j_getf (k := 0) cl_X8 (by decide) w_f_X8_18 dX8_measureFrom_49 e1 e2 ?_
    refine j_iload_n dX8_measureFrom_52 rfl rfl ?_
    refine j_iload dX8_measureFrom_53 rfl ?_
    obtain ⟨⟨fs, e1⟩, hv⟩ := hv
    refine j_virtual (avs := [.int x3, .int x4]) (rest := [.int x3, .int z2, .ref x0]) (i := r3) (kc' := kc) (ks' := ks) dX8_measureFrom_55 mt_X1_minutesOf w_m_X8_40 w_in_X1_minutesOf w_se_X1_minutesOf rfl rfl (Nat.le_of_ble_eq_true rfl) (Nat.le_refl _) (by omega) (by omega) cl_X1.1 e1 hv (fun _ _ q9 => q9) ?_
    rintro _ h4 ⟨z5, rfl, hv⟩ -
    obtain ⟨⟨fs, e1⟩, hv⟩ := hv
    refine j_virtual (avs := [.int z2, .int x3, .int z5]) (rest := []) (i := x0) (kc' := kc) (ks' := ks) dX8_measureFrom_58 mt_X8_reach w_m_X8_43 w_in_X8_reach w_se_X8_reach rfl rfl (Nat.le_of_ble_eq_true rfl) (Nat.le_refl _) (by omega) (by omega) cl_X8.1 e1 hv (fun _ _ q9 => q9) ?_
    rintro _ h6 ⟨rfl, hv⟩ -
    refine j_iinc (w := (x4 + (1 : Int32))) dX8_measureFrom_61 rfl (by rfl) (by decide) rfl rfl ?_
    refine j_goto (tgt := 29) dX8_measureFrom_64 (by decide) ?_
    refine j_mask [true, true, true, true, true, false] rfl ?_
    exact hv
set_option maxRecDepth 20000 in
set_option maxHeartbeats 4000000 in
theorem v_X8_measureFrom_7 {l : Launch} {d mc ms n0 kc ks : Nat} {Q : Option Value → qH → Prop} {QX : String → qH → Prop} (x0 : Nat) (x1 : Int32) (x2 : Int32) {h : qH} (hv : qIF ((576 : Int32) ≤ x2) (Q none h) (qGI h x0 8 3 (fun z1 => qIF (z1 ≤ 0) (Q none h) (qOB h x0 8 (qCI l (d + 1) mX8_takeCheapest [.ref x0] h 0 0 (fun z3 h2 => q_J l (d + 2) mX8_measureFrom mc ms Q QX n0 29 [some (.ref x0), some (.int x1), some (.int x2), some (.int z3), some (.int (0 : Int32)), none] [] h2 kc ks)))))) : q_J l (d + 2) mX8_measureFrom mc ms Q QX n0 7 [some (.ref x0), some (.int x1), some (.int x2), none, none, none] [] h kc ks := by
  refine j_iload_n dX8_measureFrom_7 rfl rfl ?_
  refine j_sipush (v := (576 : Int32)) dX8_measureFrom_8 (by decide) ?_
  refine j_icmp_ge (tgt := 73) dX8_measureFrom_11 (by decide) (fun hc => ?_) (fun hc => ?_)
  · replace hv := hv.1 hc
    exact j_vret dX8_measureFrom_73 rfl hv
  · replace hv := hv.2 hc
    refine j_aload_n dX8_measureFrom_14 rfl rfl ?_
    obtain ⟨fs, z1, e1, e2, hv⟩ := hv
    refine j_getf (k := 3) cl_X8 (by decide) w_f_X8_26 dX8_measureFrom_15 e1 e2 ?_
    refine j_if_le (tgt := 73) dX8_measureFrom_18 (by decide) (fun hc => ?_) (fun hc => ?_)
    · replace hv := hv.1 hc
      exact j_vret dX8_measureFrom_73 rfl hv
    · replace hv := hv.2 hc
      refine j_aload_n dX8_measureFrom_21 rfl rfl ?_
      obtain ⟨⟨fs, e1⟩, hv⟩ := hv
      refine j_virtual (avs := []) (rest := []) (i := x0) (kc' := kc) (ks' := ks) dX8_measureFrom_22 mt_X8_takeCheapest w_m_X8_30 w_in_X8_takeCheapest w_se_X8_takeCheapest rfl rfl (Nat.le_of_ble_eq_true rfl) (Nat.le_refl _) (by omega) (by omega) cl_X8.1 e1 hv (fun _ _ q9 => q9) ?_
      rintro _ h2 ⟨z3, rfl, hv⟩ -
      refine j_istore_n dX8_measureFrom_25 rfl (by decide) rfl rfl ?_
      refine j_iconst (v := (0 : Int32)) dX8_measureFrom_26 (by decide) ?_
      refine j_istore dX8_measureFrom_27 (by decide) rfl rfl ?_
      exact hv
set_option maxRecDepth 20000 in
set_option maxHeartbeats 4000000 in
theorem v_X8_measureFrom {l : Launch} {d mc ms : Nat} {Q : Option Value → qH → Prop} {QX : String → qH → Prop} (x0 : Nat) (x1 : Int32) {h : qH} (hv : qOB h x0 8 (qCV l (d + 1) mX8_begin [.ref x0, .int x1] h 0 0 (fun h1 => q_J l (d + 2) mX8_measureFrom mc ms Q QX h.2 7 [some (.ref x0), some (.int x1), some (.int (0 : Int32)), none, none, none] [] h1 mc ms))) : q_Ct l (d + 2) mX8_measureFrom [.ref x0, .int x1] h mc ms Q QX := by
  refine q_body (by decide ) (by intro v hm; simp only [List.mem_cons, List.not_mem_nil, or_false] at hm; rcases hm with rfl | rfl <;> rfl) (Nat.le_of_ble_eq_true rfl) ?_
  refine j_pad 4 rfl ?_
  refine j_aload_n dX8_measureFrom_0 rfl rfl ?_
  refine j_iload_n dX8_measureFrom_1 rfl rfl ?_
  obtain ⟨⟨fs, e1⟩, hv⟩ := hv
  refine j_virtual (avs := [.int x1]) (rest := []) (i := x0) (kc' := mc) (ks' := ms) dX8_measureFrom_2 mt_X8_begin w_m_X8_22 w_in_X8_begin w_se_X8_begin rfl rfl (Nat.le_of_ble_eq_true rfl) (Nat.le_refl _) (by omega) (by omega) cl_X8.1 e1 hv (fun _ _ q9 => q9) ?_
  rintro _ h1 ⟨rfl, hv⟩ -
  refine j_iconst (v := (0 : Int32)) dX8_measureFrom_5 (by decide) ?_
  refine j_istore_n dX8_measureFrom_6 rfl (by decide) rfl rfl ?_
  exact hv
set_option maxRecDepth 20000 in
set_option maxHeartbeats 4000000 in
theorem v_X8_begin_2 {l : Launch} {d mc ms n0 kc ks : Nat} {Q : Option Value → qH → Prop} {QX : String → qH → Prop} (x0 : Nat) (x1 : Int32) (x2 : Int32) {h : qH} (hv : qIF ((576 : Int32) ≤ x2) (qPI h x0 8 3 (0 : Int32) (fun h1 => qIF (x1 < 0) (Q none h1) (qIF ((576 : Int32) ≤ x1) (Q none h1) (qGR h1 x0 8 1 (fun r2 => qAS h1 r2 x1 (0 : Int32) (fun h3 => qGR h3 x0 8 2 (fun r4 => qAS h3 r4 (0 : Int32) x1 (fun h5 => qPI h5 x0 8 3 (1 : Int32) (fun h6 => Q none h6))))))))) (qGR h x0 8 1 (fun r7 => qAS h r7 x2 (-1 : Int32) (fun h8 => q_J l (d + 0) mX8_begin mc ms Q QX n0 2 [some (.ref x0), some (.int x1), some (.int (x2 + (1 : Int32)))] [] h8 kc ks)))) : q_J l (d + 0) mX8_begin mc ms Q QX n0 2 [some (.ref x0), some (.int x1), some (.int x2)] [] h kc ks := by
  refine j_iload_n dX8_begin_2 rfl rfl ?_
  refine j_sipush (v := (576 : Int32)) dX8_begin_3 (by decide) ?_
  refine j_icmp_ge (tgt := 22) dX8_begin_6 (by decide) (fun hc => ?_) (fun hc => ?_)
  · replace hv := hv.1 hc
    refine j_aload_n dX8_begin_22 rfl rfl ?_
    refine j_iconst (v := (0 : Int32)) dX8_begin_23 (by decide) ?_
    obtain ⟨fs, e1, e2, hv⟩ := hv
    refine j_put (k := 3) (ty0 := tyX8) cl_X8 (pf_X8_3) w_f_X8_26 dX8_begin_24 (fun g ad => q_nI g ad _) e1 e2 ?_
    generalize q_set h x0 _ = h1 at hv ⊢
    refine j_iload_n dX8_begin_27 rfl rfl ?_
    refine j_if_lt (tgt := 57) dX8_begin_28 (by decide) (fun hc => ?_) (fun hc => ?_)
    · replace hv := hv.1 hc
      exact j_vret dX8_begin_57 rfl hv
    · replace hv := hv.2 hc
      refine j_iload_n dX8_begin_31 rfl rfl ?_
      refine j_sipush (v := (576 : Int32)) dX8_begin_32 (by decide) ?_
      refine j_icmp_ge (tgt := 57) dX8_begin_35 (by decide) (fun hc => ?_) (fun hc => ?_)
      · replace hv := hv.1 hc
        exact j_vret dX8_begin_57 rfl hv
      · replace hv := hv.2 hc
        refine j_aload_n dX8_begin_38 rfl rfl ?_
        obtain ⟨fs, r2, e1, e2, hv⟩ := hv
        refine j_getf (k := 1) cl_X8 (by decide) w_f_X8_9 dX8_begin_39 e1 e2 ?_
        refine j_iload_n dX8_begin_42 rfl rfl ?_
        refine j_iconst (v := (0 : Int32)) dX8_begin_43 (by decide) ?_
        obtain ⟨N, f, e1, e2, hv⟩ := hv
        refine j_iast dX8_begin_44 e1 e2 ?_
        generalize q_set h1 r2 _ = h3 at hv ⊢
        refine j_aload_n dX8_begin_45 rfl rfl ?_
        obtain ⟨fs, r4, e1, e2, hv⟩ := hv
        refine j_getf (k := 2) cl_X8 (by decide) w_f_X8_15 dX8_begin_46 e1 e2 ?_
        refine j_iconst (v := (0 : Int32)) dX8_begin_49 (by decide) ?_
        refine j_iload_n dX8_begin_50 rfl rfl ?_
        obtain ⟨N, f, e1, e2, hv⟩ := hv
        refine j_iast dX8_begin_51 e1 e2 ?_
        generalize q_set h3 r4 _ = h5 at hv ⊢
        refine j_aload_n dX8_begin_52 rfl rfl ?_
        refine j_iconst (v := (1 : Int32)) dX8_begin_53 (by decide) ?_
        obtain ⟨fs, e1, e2, hv⟩ := hv
        refine j_put (k := 3) (ty0 := tyX8) cl_X8 (pf_X8_3) w_f_X8_26 dX8_begin_54 (fun g ad => q_nI g ad _) e1 e2 ?_
        generalize q_set h5 x0 _ = h6 at hv ⊢
        exact j_vret dX8_begin_57 rfl hv
  · replace hv := hv.2 hc
    refine j_aload_n dX8_begin_9 rfl rfl ?_
    obtain ⟨fs, r7, e1, e2, hv⟩ := hv
    refine j_getf (k := 1) cl_X8 (by decide) w_f_X8_9 dX8_begin_10 e1 e2 ?_
    refine j_iload_n dX8_begin_13 rfl rfl ?_
    refine j_iconst (v := (-1 : Int32)) dX8_begin_14 (by decide) ?_
    obtain ⟨N, f, e1, e2, hv⟩ := hv
    refine j_iast dX8_begin_15 e1 e2 ?_
    generalize q_set h r7 _ = h8 at hv ⊢
    refine j_iinc (w := (x2 + (1 : Int32))) dX8_begin_16 rfl (by rfl) (by decide) rfl rfl ?_
    refine j_goto (tgt := 2) dX8_begin_19 (by decide) ?_
    exact hv
set_option maxRecDepth 20000 in
set_option maxHeartbeats 4000000 in
theorem v_X8_begin {l : Launch} {d mc ms : Nat} {Q : Option Value → qH → Prop} {QX : String → qH → Prop} (x0 : Nat) (x1 : Int32) {h : qH} (hv : q_J l (d + 0) mX8_begin mc ms Q QX h.2 2 [some (.ref x0), some (.int x1), some (.int (0 : Int32))] [] h mc ms) : q_Ct l (d + 0) mX8_begin [.ref x0, .int x1] h mc ms Q QX := by
  refine q_body (by decide ) (by intro v hm; simp only [List.mem_cons, List.not_mem_nil, or_false] at hm; rcases hm with rfl | rfl <;> rfl) (Nat.le_of_ble_eq_true rfl) ?_
  refine j_pad 1 rfl ?_
  refine j_iconst (v := (0 : Int32)) dX8_begin_0 (by decide) ?_
  refine j_istore_n dX8_begin_1 rfl (by decide) rfl rfl ?_
  exact hv
set_option maxRecDepth 20000 in
set_option maxHeartbeats 4000000 in
theorem v_X8_takeCheapest_59 {l : Launch} {d mc ms n0 kc ks : Nat} {Q : Option Value → qH → Prop} {QX : String → qH → Prop} (x0 : Nat) (x1 : Int32) (x2 : Int32) (x3 : Int32) {h : qH} (hv : qGR h x0 8 2 (fun r1 => qAL h r1 x1 (fun z2 => qGI h x0 8 3 (fun z3 => qIF (z3 ≤ 0) (Q (some (.int z2)) h) (qGI h x0 8 3 (fun z4 => qIF ((576 : Int32) < z4) (Q (some (.int z2)) h) (qGI h x0 8 3 (fun z5 => qPI h x0 8 3 (z5 - (1 : Int32)) (fun h6 => qGR h6 x0 8 2 (fun r7 => qGR h6 x0 8 2 (fun r8 => qGI h6 x0 8 3 (fun z9 => qAL h6 r8 z9 (fun z10 => qAS h6 r7 x1 z10 (fun h11 => Q (some (.int z2)) h11)))))))))))))) : q_J l (d + 1) mX8_takeCheapest mc ms Q QX n0 59 [some (.ref x0), some (.int x1), some (.int x2), some (.int x3), none] [] h kc ks := by
  refine j_aload_n dX8_takeCheapest_59 rfl rfl ?_
  obtain ⟨fs, r1, e1, e2, hv⟩ := hv
  refine j_getf (k := 2) cl_X8 (by decide) w_f_X8_15 dX8_takeCheapest_60 e1 e2 ?_
  refine j_iload_n dX8_takeCheapest_63 rfl rfl ?_
  obtain ⟨N, f, e1, e2, hv⟩ := hv
  refine j_iald dX8_takeCheapest_64 e1 e2 ?_
  generalize f _ = z2 at hv ⊢
  refine j_istore_n dX8_takeCheapest_65 rfl (by decide) rfl rfl ?_
  refine j_aload_n dX8_takeCheapest_66 rfl rfl ?_
  obtain ⟨fs, z3, e1, e2, hv⟩ := hv
  refine j_getf (k := 3) cl_X8 (by decide) w_f_X8_26 dX8_takeCheapest_67 e1 e2 ?_
  refine j_if_le (tgt := 108) dX8_takeCheapest_70 (by decide) (fun hc => ?_) (fun hc => ?_)
  · replace hv := hv.1 hc
    refine j_iload_n dX8_takeCheapest_108 rfl rfl ?_
    exact j_iret dX8_takeCheapest_109 rfl hv
  · replace hv := hv.2 hc
    refine j_aload_n dX8_takeCheapest_73 rfl rfl ?_
    obtain ⟨fs, z4, e1, e2, hv⟩ := hv
    refine j_getf (k := 3) cl_X8 (by decide) w_f_X8_26 dX8_takeCheapest_74 e1 e2 ?_
    refine j_sipush (v := (576 : Int32)) dX8_takeCheapest_77 (by decide) ?_
    refine j_icmp_gt (tgt := 108) dX8_takeCheapest_80 (by decide) (fun hc => ?_) (fun hc => ?_)
    · replace hv := hv.1 hc
      refine j_iload_n dX8_takeCheapest_108 rfl rfl ?_
      exact j_iret dX8_takeCheapest_109 rfl hv
    · replace hv := hv.2 hc
      refine j_aload_n dX8_takeCheapest_83 rfl rfl ?_
      refine j_dup dX8_takeCheapest_84 rfl ?_
      obtain ⟨fs, z5, e1, e2, hv⟩ := hv
      refine j_getf (k := 3) cl_X8 (by decide) w_f_X8_26 dX8_takeCheapest_85 e1 e2 ?_
      refine j_iconst (v := (1 : Int32)) dX8_takeCheapest_88 (by decide) ?_
      refine j_isub dX8_takeCheapest_89 ?_
      obtain ⟨fs, e1, e2, hv⟩ := hv
      refine j_put (k := 3) (ty0 := tyX8) cl_X8 (pf_X8_3) w_f_X8_26 dX8_takeCheapest_90 (fun g ad => q_nI g ad _) e1 e2 ?_
      generalize q_set h x0 _ = h6 at hv ⊢
      refine j_aload_n dX8_takeCheapest_93 rfl rfl ?_
      obtain ⟨fs, r7, e1, e2, hv⟩ := hv
      refine j_getf (k := 2) cl_X8 (by decide) w_f_X8_15 dX8_takeCheapest_94 e1 e2 ?_
      refine j_iload_n dX8_takeCheapest_97 rfl rfl ?_
      refine j_aload_n dX8_takeCheapest_98 rfl rfl ?_
      obtain ⟨fs, r8, e1, e2, hv⟩ := hv
      refine j_getf (k := 2) cl_X8 (by decide) w_f_X8_15 dX8_takeCheapest_99 e1 e2 ?_
      refine j_aload_n dX8_takeCheapest_102 rfl rfl ?_
      obtain ⟨fs, z9, e1, e2, hv⟩ := hv
      refine j_getf (k := 3) cl_X8 (by decide) w_f_X8_26 dX8_takeCheapest_103 e1 e2 ?_
      obtain ⟨N, f, e1, e2, hv⟩ := hv
      refine j_iald dX8_takeCheapest_106 e1 e2 ?_
      generalize f _ = z10 at hv ⊢
      obtain ⟨N, f, e1, e2, hv⟩ := hv
      refine j_iast dX8_takeCheapest_107 e1 e2 ?_
      generalize q_set h6 r7 _ = h11 at hv ⊢
      refine j_iload_n dX8_takeCheapest_108 rfl rfl ?_
      exact j_iret dX8_takeCheapest_109 rfl hv
set_option maxRecDepth 20000 in
set_option maxHeartbeats 4000000 in
theorem v_X8_takeCheapest_15 {l : Launch} {d mc ms n0 kc ks : Nat} {Q : Option Value → qH → Prop} {QX : String → qH → Prop} (x0 : Nat) (x1 : Int32) (x2 : Int32) (x3 : Int32) {h : qH} (hv : qGI h x0 8 3 (fun z1 => qIF (z1 ≤ x3) (q_J l (d + 1) mX8_takeCheapest mc ms Q QX n0 59 [some (.ref x0), some (.int x1), some (.int x2), some (.int x3), none] [] h kc ks) (qIF ((576 : Int32) ≤ x3) (q_J l (d + 1) mX8_takeCheapest mc ms Q QX n0 59 [some (.ref x0), some (.int x1), some (.int x2), some (.int x3), none] [] h kc ks) (qGR h x0 8 2 (fun r2 => qAL h r2 x3 (fun z3 => qOB h x0 8 (qCI l (d + 0) mX8_costOf [.ref x0, .int z3] h 0 0 (fun z5 h4 => qIF (x2 ≤ z5) (q_J l (d + 1) mX8_takeCheapest mc ms Q QX n0 15 [some (.ref x0), some (.int x1), some (.int x2), some (.int (x3 + (1 : Int32))), none] [] h4 kc ks) (q_J l (d + 1) mX8_takeCheapest mc ms Q QX n0 15 [some (.ref x0), some (.int x3), some (.int z5), some (.int (x3 + (1 : Int32))), none] [] h4 kc ks))))))))) : q_J l (d + 1) mX8_takeCheapest mc ms Q QX n0 15 [some (.ref x0), some (.int x1), some (.int x2), some (.int x3), none] [] h kc ks := by
  refine j_iload_n dX8_takeCheapest_15 rfl rfl ?_
  refine j_aload_n dX8_takeCheapest_16 rfl rfl ?_
  obtain ⟨fs, z1, e1, e2, hv⟩ := hv
  refine j_getf (k := 3) cl_X8 (by decide) w_f_X8_26 dX8_takeCheapest_17 e1 e2 ?_
  refine j_icmp_ge (tgt := 59) dX8_takeCheapest_20 (by decide) (fun hc => ?_) (fun hc => ?_)
  · replace hv := hv.1 hc
    exact hv
  · replace hv := hv.2 hc
    refine j_iload_n dX8_takeCheapest_23 rfl rfl ?_
    refine j_sipush (v := (576 : Int32)) dX8_takeCheapest_24 (by decide) ?_
    refine j_icmp_ge (tgt := 59) dX8_takeCheapest_27 (by decide) (fun hc => ?_) (fun hc => ?_)
    · replace hv := hv.1 hc
      exact hv
    · replace hv := hv.2 hc
      refine j_aload_n dX8_takeCheapest_30 rfl rfl ?_
      refine j_aload_n dX8_takeCheapest_31 rfl rfl ?_
      obtain ⟨fs, r2, e1, e2, hv⟩ := hv
      refine j_getf (k := 2) cl_X8 (by decide) w_f_X8_15 dX8_takeCheapest_32 e1 e2 ?_
      refine j_iload_n dX8_takeCheapest_35 rfl rfl ?_
      obtain ⟨N, f, e1, e2, hv⟩ := hv
      refine j_iald dX8_takeCheapest_36 e1 e2 ?_
      generalize f _ = z3 at hv ⊢
      obtain ⟨⟨fs, e1⟩, hv⟩ := hv
      refine j_virtual (avs := [.int z3]) (rest := []) (i := x0) (kc' := kc) (ks' := ks) dX8_takeCheapest_37 mt_X8_costOf w_m_X8_47 w_in_X8_costOf w_se_X8_costOf rfl rfl (Nat.le_of_ble_eq_true rfl) (Nat.le_refl _) (by omega) (by omega) cl_X8.1 e1 hv (fun _ _ q9 => q9) ?_
      rintro _ h4 ⟨z5, rfl, hv⟩ -
      refine j_istore dX8_takeCheapest_40 (by decide) rfl rfl ?_
      refine j_iload dX8_takeCheapest_42 rfl ?_
      refine j_iload_n dX8_takeCheapest_44 rfl rfl ?_
      refine j_icmp_ge (tgt := 53) dX8_takeCheapest_45 (by decide) (fun hc => ?_) (fun hc => ?_)
      · replace hv := hv.1 hc
        refine j_iinc (w := (x3 + (1 : Int32))) dX8_takeCheapest_53 rfl (by rfl) (by decide) rfl rfl ?_
        refine j_goto (tgt := 15) dX8_takeCheapest_56 (by decide) ?_
        refine j_mask [true, true, true, true, false] rfl ?_
        exact hv
      · replace hv := hv.2 hc
        refine j_iload_n dX8_takeCheapest_48 rfl rfl ?_
        refine j_istore_n dX8_takeCheapest_49 rfl (by decide) rfl rfl ?_
        refine j_iload dX8_takeCheapest_50 rfl ?_
        refine j_istore_n dX8_takeCheapest_52 rfl (by decide) rfl rfl ?_
        refine j_iinc (w := (x3 + (1 : Int32))) dX8_takeCheapest_53 rfl (by rfl) (by decide) rfl rfl ?_
        refine j_goto (tgt := 15) dX8_takeCheapest_56 (by decide) ?_
        refine j_mask [true, true, true, true, false] rfl ?_
        exact hv
set_option maxRecDepth 20000 in
set_option maxHeartbeats 4000000 in
theorem v_X8_takeCheapest {l : Launch} {d mc ms : Nat} {Q : Option Value → qH → Prop} {QX : String → qH → Prop} (x0 : Nat) {h : qH} (hv : qGR h x0 8 2 (fun r1 => qAL h r1 (0 : Int32) (fun z2 => qOB h x0 8 (qCI l (d + 0) mX8_costOf [.ref x0, .int z2] h 0 0 (fun z4 h3 => q_J l (d + 1) mX8_takeCheapest mc ms Q QX h.2 15 [some (.ref x0), some (.int (0 : Int32)), some (.int z4), some (.int (1 : Int32)), none] [] h3 mc ms))))) : q_Ct l (d + 1) mX8_takeCheapest [.ref x0] h mc ms Q QX := by
  refine q_body (by decide ) (by intro v hm; simp only [List.mem_cons, List.not_mem_nil, or_false] at hm; subst hm; rfl) (Nat.le_of_ble_eq_true rfl) ?_
  refine j_pad 4 rfl ?_
  refine j_iconst (v := (0 : Int32)) dX8_takeCheapest_0 (by decide) ?_
  refine j_istore_n dX8_takeCheapest_1 rfl (by decide) rfl rfl ?_
  refine j_aload_n dX8_takeCheapest_2 rfl rfl ?_
  refine j_aload_n dX8_takeCheapest_3 rfl rfl ?_
  obtain ⟨fs, r1, e1, e2, hv⟩ := hv
  refine j_getf (k := 2) cl_X8 (by decide) w_f_X8_15 dX8_takeCheapest_4 e1 e2 ?_
  refine j_iconst (v := (0 : Int32)) dX8_takeCheapest_7 (by decide) ?_
  obtain ⟨N, f, e1, e2, hv⟩ := hv
  refine j_iald dX8_takeCheapest_8 e1 e2 ?_
  generalize f _ = z2 at hv ⊢
  obtain ⟨⟨fs, e1⟩, hv⟩ := hv
  refine j_virtual (avs := [.int z2]) (rest := []) (i := x0) (kc' := mc) (ks' := ms) dX8_takeCheapest_9 mt_X8_costOf w_m_X8_47 w_in_X8_costOf w_se_X8_costOf rfl rfl (Nat.le_of_ble_eq_true rfl) (Nat.le_refl _) (by omega) (by omega) cl_X8.1 e1 hv (fun _ _ q9 => q9) ?_
  rintro _ h3 ⟨z4, rfl, hv⟩ -
  refine j_istore_n dX8_takeCheapest_12 rfl (by decide) rfl rfl ?_
  refine j_iconst (v := (1 : Int32)) dX8_takeCheapest_13 (by decide) ?_
  refine j_istore_n dX8_takeCheapest_14 rfl (by decide) rfl rfl ?_
  exact hv
set_option maxRecDepth 20000 in
set_option maxHeartbeats 4000000 in
theorem v_X8_reach {l : Launch} {d mc ms : Nat} {Q : Option Value → qH → Prop} {QX : String → qH → Prop} (x0 : Nat) (x1 : Int32) (x2 : Int32) (x3 : Int32) {h : qH} (hv : qIF (x3 = (-1 : Int32)) (Q none h) (qIF (x1 < 0) (Q none h) (qIF (x1 < (576 : Int32)) (qOB h x0 8 (qCI l (d + 0) mX8_costOf [.ref x0, .int x2] h 0 0 (fun z2 h1 => qGR h1 x0 8 1 (fun r3 => qAL h1 r3 x1 (fun z4 => qIF (z4 = (-1 : Int32)) (qGI h1 x0 8 3 (fun z9 => qIF (z9 < 0) (qGR h1 x0 8 1 (fun r10 => qAL h1 r10 x1 (fun z11 => qIF (z11 ≤ (z2 + x3)) (Q none h1) (qGR h1 x0 8 1 (fun r12 => qAS h1 r12 x1 (z2 + x3) (fun h13 => Q none h13)))))) (qGI h1 x0 8 3 (fun z14 => qIF ((576 : Int32) ≤ z14) (qGR h1 x0 8 1 (fun r15 => qAL h1 r15 x1 (fun z16 => qIF (z16 ≤ (z2 + x3)) (Q none h1) (qGR h1 x0 8 1 (fun r17 => qAS h1 r17 x1 (z2 + x3) (fun h18 => Q none h18)))))) (qGR h1 x0 8 1 (fun r19 => qAS h1 r19 x1 (z2 + x3) (fun h20 => qGR h20 x0 8 2 (fun r21 => qGI h20 x0 8 3 (fun z22 => qAS h20 r21 z22 x1 (fun h23 => qGI h23 x0 8 3 (fun z24 => qPI h23 x0 8 3 (z24 + (1 : Int32)) (fun h25 => Q none h25)))))))))))) (qGR h1 x0 8 1 (fun r5 => qAL h1 r5 x1 (fun z6 => qIF (z6 ≤ (z2 + x3)) (Q none h1) (qGR h1 x0 8 1 (fun r7 => qAS h1 r7 x1 (z2 + x3) (fun h8 => Q none h8))))))))))) (Q none h)))) : q_Ct l (d + 1) mX8_reach [.ref x0, .int x1, .int x2, .int x3] h mc ms Q QX := by
  refine q_body (by decide ) (by intro v hm; simp only [List.mem_cons, List.not_mem_nil, or_false] at hm; rcases hm with rfl | rfl | rfl | rfl <;> rfl) (Nat.le_of_ble_eq_true rfl) ?_
  refine j_pad 1 rfl ?_
  refine j_iload_n dX8_reach_0 rfl rfl ?_
  refine j_iconst (v := (-1 : Int32)) dX8_reach_1 (by decide) ?_
  refine j_icmp_eq (tgt := 16) dX8_reach_2 (by decide) (fun hc => ?_) (fun hc => ?_)
  · replace hv := hv.1 hc
    exact j_vret dX8_reach_16 rfl hv
  · replace hv := hv.2 hc
    refine j_iload_n dX8_reach_5 rfl rfl ?_
    refine j_if_lt (tgt := 16) dX8_reach_6 (by decide) (fun hc => ?_) (fun hc => ?_)
    · replace hv := hv.1 hc
      exact j_vret dX8_reach_16 rfl hv
    · replace hv := hv.2 hc
      refine j_iload_n dX8_reach_9 rfl rfl ?_
      refine j_sipush (v := (576 : Int32)) dX8_reach_10 (by decide) ?_
      refine j_icmp_lt (tgt := 17) dX8_reach_13 (by decide) (fun hc => ?_) (fun hc => ?_)
      · replace hv := hv.1 hc
        refine j_aload_n dX8_reach_17 rfl rfl ?_
        refine j_iload_n dX8_reach_18 rfl rfl ?_
        obtain ⟨⟨fs, e1⟩, hv⟩ := hv
        refine j_virtual (avs := [.int x2]) (rest := []) (i := x0) (kc' := mc) (ks' := ms) dX8_reach_19 mt_X8_costOf w_m_X8_47 w_in_X8_costOf w_se_X8_costOf rfl rfl (Nat.le_of_ble_eq_true rfl) (Nat.le_refl _) (by omega) (by omega) cl_X8.1 e1 hv (fun _ _ q9 => q9) ?_
        rintro _ h1 ⟨z2, rfl, hv⟩ -
        refine j_iload_n dX8_reach_22 rfl rfl ?_
        refine j_iadd dX8_reach_23 ?_
        refine j_istore dX8_reach_24 (by decide) rfl rfl ?_
        refine j_aload_n dX8_reach_26 rfl rfl ?_
        obtain ⟨fs, r3, e1, e2, hv⟩ := hv
        refine j_getf (k := 1) cl_X8 (by decide) w_f_X8_9 dX8_reach_27 e1 e2 ?_
        refine j_iload_n dX8_reach_30 rfl rfl ?_
        obtain ⟨N, f, e1, e2, hv⟩ := hv
        refine j_iald dX8_reach_31 e1 e2 ?_
        generalize f _ = z4 at hv ⊢
        refine j_iconst (v := (-1 : Int32)) dX8_reach_32 (by decide) ?_
        refine j_icmp_ne (tgt := 84) dX8_reach_33 (by decide) (fun hc => ?_) (fun hc => ?_)
        · replace hv := hv.2 hc
          refine j_iload dX8_reach_84 rfl ?_
          refine j_aload_n dX8_reach_86 rfl rfl ?_
          obtain ⟨fs, r5, e1, e2, hv⟩ := hv
          refine j_getf (k := 1) cl_X8 (by decide) w_f_X8_9 dX8_reach_87 e1 e2 ?_
          refine j_iload_n dX8_reach_90 rfl rfl ?_
          obtain ⟨N, f, e1, e2, hv⟩ := hv
          refine j_iald dX8_reach_91 e1 e2 ?_
          generalize f _ = z6 at hv ⊢
          refine j_icmp_ge (tgt := 103) dX8_reach_92 (by decide) (fun hc => ?_) (fun hc => ?_)
          · replace hv := hv.1 hc
            exact j_vret dX8_reach_103 rfl hv
          · replace hv := hv.2 hc
            refine j_aload_n dX8_reach_95 rfl rfl ?_
            obtain ⟨fs, r7, e1, e2, hv⟩ := hv
            refine j_getf (k := 1) cl_X8 (by decide) w_f_X8_9 dX8_reach_96 e1 e2 ?_
            refine j_iload_n dX8_reach_99 rfl rfl ?_
            refine j_iload dX8_reach_100 rfl ?_
            obtain ⟨N, f, e1, e2, hv⟩ := hv
            refine j_iast dX8_reach_102 e1 e2 ?_
            generalize q_set h1 r7 _ = h8 at hv ⊢
            exact j_vret dX8_reach_103 rfl hv
        · replace hv := hv.1 hc
          refine j_aload_n dX8_reach_36 rfl rfl ?_
          obtain ⟨fs, z9, e1, e2, hv⟩ := hv
          refine j_getf (k := 3) cl_X8 (by decide) w_f_X8_26 dX8_reach_37 e1 e2 ?_
          refine j_if_lt (tgt := 84) dX8_reach_40 (by decide) (fun hc => ?_) (fun hc => ?_)
          · replace hv := hv.1 hc
            refine j_iload dX8_reach_84 rfl ?_
            refine j_aload_n dX8_reach_86 rfl rfl ?_
            obtain ⟨fs, r10, e1, e2, hv⟩ := hv
            refine j_getf (k := 1) cl_X8 (by decide) w_f_X8_9 dX8_reach_87 e1 e2 ?_
            refine j_iload_n dX8_reach_90 rfl rfl ?_
            obtain ⟨N, f, e1, e2, hv⟩ := hv
            refine j_iald dX8_reach_91 e1 e2 ?_
            generalize f _ = z11 at hv ⊢
            refine j_icmp_ge (tgt := 103) dX8_reach_92 (by decide) (fun hc => ?_) (fun hc => ?_)
            · replace hv := hv.1 hc
              exact j_vret dX8_reach_103 rfl hv
            · replace hv := hv.2 hc
              refine j_aload_n dX8_reach_95 rfl rfl ?_
              obtain ⟨fs, r12, e1, e2, hv⟩ := hv
              refine j_getf (k := 1) cl_X8 (by decide) w_f_X8_9 dX8_reach_96 e1 e2 ?_
              refine j_iload_n dX8_reach_99 rfl rfl ?_
              refine j_iload dX8_reach_100 rfl ?_
              obtain ⟨N, f, e1, e2, hv⟩ := hv
              refine j_iast dX8_reach_102 e1 e2 ?_
              generalize q_set h1 r12 _ = h13 at hv ⊢
              exact j_vret dX8_reach_103 rfl hv
          · replace hv := hv.2 hc
            refine j_aload_n dX8_reach_43 rfl rfl ?_
            obtain ⟨fs, z14, e1, e2, hv⟩ := hv
            refine j_getf (k := 3) cl_X8 (by decide) w_f_X8_26 dX8_reach_44 e1 e2 ?_
            refine j_sipush (v := (576 : Int32)) dX8_reach_47 (by decide) ?_
            refine j_icmp_ge (tgt := 84) dX8_reach_50 (by decide) (fun hc => ?_) (fun hc => ?_)
            · replace hv := hv.1 hc
              refine j_iload dX8_reach_84 rfl ?_
              refine j_aload_n dX8_reach_86 rfl rfl ?_
              obtain ⟨fs, r15, e1, e2, hv⟩ := hv
              refine j_getf (k := 1) cl_X8 (by decide) w_f_X8_9 dX8_reach_87 e1 e2 ?_
              refine j_iload_n dX8_reach_90 rfl rfl ?_
              obtain ⟨N, f, e1, e2, hv⟩ := hv
              refine j_iald dX8_reach_91 e1 e2 ?_
              generalize f _ = z16 at hv ⊢
              refine j_icmp_ge (tgt := 103) dX8_reach_92 (by decide) (fun hc => ?_) (fun hc => ?_)
              · replace hv := hv.1 hc
                exact j_vret dX8_reach_103 rfl hv
              · replace hv := hv.2 hc
                refine j_aload_n dX8_reach_95 rfl rfl ?_
                obtain ⟨fs, r17, e1, e2, hv⟩ := hv
                refine j_getf (k := 1) cl_X8 (by decide) w_f_X8_9 dX8_reach_96 e1 e2 ?_
                refine j_iload_n dX8_reach_99 rfl rfl ?_
                refine j_iload dX8_reach_100 rfl ?_
                obtain ⟨N, f, e1, e2, hv⟩ := hv
                refine j_iast dX8_reach_102 e1 e2 ?_
                generalize q_set h1 r17 _ = h18 at hv ⊢
                exact j_vret dX8_reach_103 rfl hv
            · replace hv := hv.2 hc
              refine j_aload_n dX8_reach_53 rfl rfl ?_
              obtain ⟨fs, r19, e1, e2, hv⟩ := hv
              refine j_getf (k := 1) cl_X8 (by decide) w_f_X8_9 dX8_reach_54 e1 e2 ?_
              refine j_iload_n dX8_reach_57 rfl rfl ?_
              refine j_iload dX8_reach_58 rfl ?_
              obtain ⟨N, f, e1, e2, hv⟩ := hv
              refine j_iast dX8_reach_60 e1 e2 ?_
              generalize q_set h1 r19 _ = h20 at hv ⊢
              refine j_aload_n dX8_reach_61 rfl rfl ?_
              obtain ⟨fs, r21, e1, e2, hv⟩ := hv
              refine j_getf (k := 2) cl_X8 (by decide) w_f_X8_15 dX8_reach_62 e1 e2 ?_
              refine j_aload_n dX8_reach_65 rfl rfl ?_
              obtain ⟨fs, z22, e1, e2, hv⟩ := hv
              refine j_getf (k := 3) cl_X8 (by decide) w_f_X8_26 dX8_reach_66 e1 e2 ?_
              refine j_iload_n dX8_reach_69 rfl rfl ?_
              obtain ⟨N, f, e1, e2, hv⟩ := hv
              refine j_iast dX8_reach_70 e1 e2 ?_
              generalize q_set h20 r21 _ = h23 at hv ⊢
              refine j_aload_n dX8_reach_71 rfl rfl ?_
              refine j_dup dX8_reach_72 rfl ?_
              obtain ⟨fs, z24, e1, e2, hv⟩ := hv
              refine j_getf (k := 3) cl_X8 (by decide) w_f_X8_26 dX8_reach_73 e1 e2 ?_
              refine j_iconst (v := (1 : Int32)) dX8_reach_76 (by decide) ?_
              refine j_iadd dX8_reach_77 ?_
              obtain ⟨fs, e1, e2, hv⟩ := hv
              refine j_put (k := 3) (ty0 := tyX8) cl_X8 (pf_X8_3) w_f_X8_26 dX8_reach_78 (fun g ad => q_nI g ad _) e1 e2 ?_
              generalize q_set h23 x0 _ = h25 at hv ⊢
              refine j_goto (tgt := 103) dX8_reach_81 (by decide) ?_
              exact j_vret dX8_reach_103 rfl hv
      · replace hv := hv.2 hc
        exact j_vret dX8_reach_16 rfl hv
set_option maxRecDepth 20000 in
set_option maxHeartbeats 4000000 in
theorem v_X8_costOf {l : Launch} {d mc ms : Nat} {Q : Option Value → qH → Prop} {QX : String → qH → Prop} (x0 : Nat) (x1 : Int32) {h : qH} (hv : qIF (x1 < 0) (Q (some (.int (-1 : Int32))) h) (qIF (x1 < (576 : Int32)) (qGR h x0 8 1 (fun r1 => qAL h r1 x1 (fun z2 => Q (some (.int z2)) h))) (Q (some (.int (-1 : Int32))) h))) : q_Ct l (d + 0) mX8_costOf [.ref x0, .int x1] h mc ms Q QX := by
  refine q_body (by decide ) (by intro v hm; simp only [List.mem_cons, List.not_mem_nil, or_false] at hm; rcases hm with rfl | rfl <;> rfl) (Nat.le_of_ble_eq_true rfl) ?_
  refine j_pad 0 rfl ?_
  refine j_iload_n dX8_costOf_0 rfl rfl ?_
  refine j_if_lt (tgt := 11) dX8_costOf_1 (by decide) (fun hc => ?_) (fun hc => ?_)
  · replace hv := hv.1 hc
    refine j_iconst (v := (-1 : Int32)) dX8_costOf_11 (by decide) ?_
    refine j_goto (tgt := 21) dX8_costOf_12 (by decide) ?_
    exact j_iret dX8_costOf_21 rfl hv
  · replace hv := hv.2 hc
    refine j_iload_n dX8_costOf_4 rfl rfl ?_
    refine j_sipush (v := (576 : Int32)) dX8_costOf_5 (by decide) ?_
    refine j_icmp_lt (tgt := 15) dX8_costOf_8 (by decide) (fun hc => ?_) (fun hc => ?_)
    · replace hv := hv.1 hc
      refine j_aload_n dX8_costOf_15 rfl rfl ?_
      obtain ⟨fs, r1, e1, e2, hv⟩ := hv
      refine j_getf (k := 1) cl_X8 (by decide) w_f_X8_9 dX8_costOf_16 e1 e2 ?_
      refine j_iload_n dX8_costOf_19 rfl rfl ?_
      obtain ⟨N, f, e1, e2, hv⟩ := hv
      refine j_iald dX8_costOf_20 e1 e2 ?_
      generalize f _ = z2 at hv ⊢
      exact j_iret dX8_costOf_21 rfl hv
    · replace hv := hv.2 hc
      refine j_iconst (v := (-1 : Int32)) dX8_costOf_11 (by decide) ?_
      refine j_goto (tgt := 21) dX8_costOf_12 (by decide) ?_
      exact j_iret dX8_costOf_21 rfl hv
set_option maxRecDepth 20000 in
set_option maxHeartbeats 4000000 in
theorem v_X8_directionFrom_12 {l : Launch} {d mc ms n0 kc ks : Nat} {Q : Option Value → qH → Prop} {QX : String → qH → Prop} (x0 : Nat) (x1 : Int32) (x2 : Int32) {h : qH} (hv : qIF ((8 : Int32) ≤ x2) (Q (some (.int (-1 : Int32))) h) (qGR h x0 8 0 (fun r1 => qOB h r1 1 (qCI l (d + 1) mX1_minutesOf [.ref r1, .int x1, .int x2] h 0 0 (fun z3 h2 => qCI l (d + 1) mX1_neighbourOf [.int x1, .int x2] h2 0 0 (fun z5 h4 => qOB h4 x0 8 (qCI l (d + 1) mX8_costOf [.ref x0, .int z5] h4 0 0 (fun z7 h6 => qIF (z3 = (-1 : Int32)) (q_J l (d + 2) mX8_directionFrom mc ms Q QX n0 12 [some (.ref x0), some (.int x1), some (.int (x2 + (1 : Int32))), none, none] [] h6 kc ks) (qIF (z7 = (-1 : Int32)) (q_J l (d + 2) mX8_directionFrom mc ms Q QX n0 12 [some (.ref x0), some (.int x1), some (.int (x2 + (1 : Int32))), none, none] [] h6 kc ks) (qGR h6 x0 8 1 (fun r8 => qAL h6 r8 x1 (fun z9 => qIF ((z3 + z7) = z9) (Q (some (.int x2)) h6) (q_J l (d + 2) mX8_directionFrom mc ms Q QX n0 12 [some (.ref x0), some (.int x1), some (.int (x2 + (1 : Int32))), none, none] [] h6 kc ks))))))))))))) : q_J l (d + 2) mX8_directionFrom mc ms Q QX n0 12 [some (.ref x0), some (.int x1), some (.int x2), none, none] [] h kc ks := by
  refine j_iload_n dX8_directionFrom_12 rfl rfl ?_
  refine j_bipush (v := (8 : Int32)) dX8_directionFrom_13 (by decide) ?_
  refine j_icmp_ge (tgt := 71) dX8_directionFrom_15 (by decide) (fun hc => ?_) (fun hc => ?_)
  · replace hv := hv.1 hc
    refine j_iconst (v := (-1 : Int32)) dX8_directionFrom_71 (by decide) ?_
    exact j_iret dX8_directionFrom_72 rfl hv
  · replace hv := hv.2 hc
    refine j_aload_n dX8_directionFrom_18 rfl rfl ?_
    obtain ⟨fs, r1, e1, e2, hv⟩ := hv
    refine j_getf (k := 0) cl_X8 (by decide) w_f_X8_18 dX8_directionFrom_19 e1 e2 ?_
    refine j_iload_n dX8_directionFrom_22 rfl rfl ?_
    refine j_iload_n dX8_directionFrom_23 rfl rfl ?_
    obtain ⟨⟨fs, e1⟩, hv⟩ := hv
    refine j_virtual (avs := [.int x1, .int x2]) (rest := []) (i := r1) (kc' := kc) (ks' := ks) dX8_directionFrom_24 mt_X1_minutesOf w_m_X8_40 w_in_X1_minutesOf w_se_X1_minutesOf rfl rfl (Nat.le_of_ble_eq_true rfl) (Nat.le_refl _) (by omega) (by omega) cl_X1.1 e1 hv (fun _ _ q9 => q9) ?_
    rintro _ h2 ⟨z3, rfl, hv⟩ -
    refine j_istore_n dX8_directionFrom_27 rfl (by decide) rfl rfl ?_
    refine j_aload_n dX8_directionFrom_28 rfl rfl ?_
    refine j_iload_n dX8_directionFrom_29 rfl rfl ?_
    refine j_iload_n dX8_directionFrom_30 rfl rfl ?_
    refine j_static (avs := [.int x1, .int x2]) (rest := [.ref x0]) (kc' := kc) (ks' := ks) dX8_directionFrom_31 mt_X1_neighbourOf w_m_X8_34 w_st_X1_neighbourOf rfl rfl (Nat.le_of_ble_eq_true rfl) (Nat.le_refl _) (by omega) (by omega) hv (fun _ _ q9 => q9) ?_
    rintro _ h4 ⟨z5, rfl, hv⟩ -
    obtain ⟨⟨fs, e1⟩, hv⟩ := hv
    refine j_virtual (avs := [.int z5]) (rest := []) (i := x0) (kc' := kc) (ks' := ks) dX8_directionFrom_34 mt_X8_costOf w_m_X8_47 w_in_X8_costOf w_se_X8_costOf rfl rfl (Nat.le_of_ble_eq_true rfl) (Nat.le_refl _) (by omega) (by omega) cl_X8.1 e1 hv (fun _ _ q9 => q9) ?_
    rintro _ h6 ⟨z7, rfl, hv⟩ -
    refine j_istore dX8_directionFrom_37 (by decide) rfl rfl ?_
    refine j_iload_n dX8_directionFrom_39 rfl rfl ?_
    refine j_iconst (v := (-1 : Int32)) dX8_directionFrom_40 (by decide) ?_
    refine j_icmp_eq (tgt := 65) dX8_directionFrom_41 (by decide) (fun hc => ?_) (fun hc => ?_)
    · replace hv := hv.1 hc
      refine j_iinc (w := (x2 + (1 : Int32))) dX8_directionFrom_65 rfl (by rfl) (by decide) rfl rfl ?_
      refine j_goto (tgt := 12) dX8_directionFrom_68 (by decide) ?_
      refine j_mask [true, true, true, false, false] rfl ?_
      exact hv
    · replace hv := hv.2 hc
      refine j_iload dX8_directionFrom_44 rfl ?_
      refine j_iconst (v := (-1 : Int32)) dX8_directionFrom_46 (by decide) ?_
      refine j_icmp_eq (tgt := 65) dX8_directionFrom_47 (by decide) (fun hc => ?_) (fun hc => ?_)
      · replace hv := hv.1 hc
        refine j_iinc (w := (x2 + (1 : Int32))) dX8_directionFrom_65 rfl (by rfl) (by decide) rfl rfl ?_
        refine j_goto (tgt := 12) dX8_directionFrom_68 (by decide) ?_
        refine j_mask [true, true, true, false, false] rfl ?_
        exact hv
      · replace hv := hv.2 hc
        refine j_iload_n dX8_directionFrom_50 rfl rfl ?_
        refine j_iload dX8_directionFrom_51 rfl ?_
        refine j_iadd dX8_directionFrom_53 ?_
        refine j_aload_n dX8_directionFrom_54 rfl rfl ?_
        obtain ⟨fs, r8, e1, e2, hv⟩ := hv
        refine j_getf (k := 1) cl_X8 (by decide) w_f_X8_9 dX8_directionFrom_55 e1 e2 ?_
        refine j_iload_n dX8_directionFrom_58 rfl rfl ?_
        obtain ⟨N, f, e1, e2, hv⟩ := hv
        refine j_iald dX8_directionFrom_59 e1 e2 ?_
        generalize f _ = z9 at hv ⊢
        refine j_icmp_ne (tgt := 65) dX8_directionFrom_60 (by decide) (fun hc => ?_) (fun hc => ?_)
        · replace hv := hv.2 hc
          refine j_iinc (w := (x2 + (1 : Int32))) dX8_directionFrom_65 rfl (by rfl) (by decide) rfl rfl ?_
          refine j_goto (tgt := 12) dX8_directionFrom_68 (by decide) ?_
          refine j_mask [true, true, true, false, false] rfl ?_
          exact hv
        · replace hv := hv.1 hc
          refine j_iload_n dX8_directionFrom_63 rfl rfl ?_
          exact j_iret dX8_directionFrom_64 rfl hv
set_option maxRecDepth 20000 in
set_option maxHeartbeats 4000000 in
theorem v_X8_directionFrom {l : Launch} {d mc ms : Nat} {Q : Option Value → qH → Prop} {QX : String → qH → Prop} (x0 : Nat) (x1 : Int32) {h : qH} (hv : qOB h x0 8 (qCI l (d + 1) mX8_costOf [.ref x0, .int x1] h 0 0 (fun z2 h1 => qIF (0 < z2) (q_J l (d + 2) mX8_directionFrom mc ms Q QX h.2 12 [some (.ref x0), some (.int x1), some (.int (0 : Int32)), none, none] [] h1 mc ms) (Q (some (.int (-1 : Int32))) h1)))) : q_Ct l (d + 2) mX8_directionFrom [.ref x0, .int x1] h mc ms Q QX := by
  refine q_body (by decide ) (by intro v hm; simp only [List.mem_cons, List.not_mem_nil, or_false] at hm; rcases hm with rfl | rfl <;> rfl) (Nat.le_of_ble_eq_true rfl) ?_
  refine j_pad 3 rfl ?_
  refine j_aload_n dX8_directionFrom_0 rfl rfl ?_
  refine j_iload_n dX8_directionFrom_1 rfl rfl ?_
  obtain ⟨⟨fs, e1⟩, hv⟩ := hv
  refine j_virtual (avs := [.int x1]) (rest := []) (i := x0) (kc' := mc) (ks' := ms) dX8_directionFrom_2 mt_X8_costOf w_m_X8_47 w_in_X8_costOf w_se_X8_costOf rfl rfl (Nat.le_of_ble_eq_true rfl) (Nat.le_refl _) (by omega) (by omega) cl_X8.1 e1 hv (fun _ _ q9 => q9) ?_
  rintro _ h1 ⟨z2, rfl, hv⟩ -
  refine j_if_gt (tgt := 10) dX8_directionFrom_5 (by decide) (fun hc => ?_) (fun hc => ?_)
  · replace hv := hv.1 hc
    refine j_iconst (v := (0 : Int32)) dX8_directionFrom_10 (by decide) ?_
    refine j_istore_n dX8_directionFrom_11 rfl (by decide) rfl rfl ?_
    exact hv
  · replace hv := hv.2 hc
    refine j_iconst (v := (-1 : Int32)) dX8_directionFrom_8 (by decide) ?_
    exact j_iret dX8_directionFrom_9 rfl hv
set_option maxRecDepth 20000 in
set_option maxHeartbeats 4000000 in
theorem v_X8_sumFrom_61 {l : Launch} {d mc ms n0 kc ks : Nat} {Q : Option Value → qH → Prop} {QX : String → qH → Prop} (x0 : Nat) (x1 : Int32) (x2 : Int32) (x3 : Int32) (x4 : Int32) (x5 : Int32) (x6 : Int32) (y0 : Int32) (y1 : Int32) {h : qH} (hv : qCI l (d + 2) mX1_neighbourOf [.int x4, .int x5] h 0 0 (fun z2 h1 => qOB h1 x0 8 (qCI l (d + 2) mX8_directionFrom [.ref x0, .int z2] h1 0 0 (fun z4 h3 => q_J l (d + 3) mX8_sumFrom mc ms Q QX n0 27 [some (.ref x0), some (.int x1), some (.int x2), some (.int (y0 + y1)), some (.int z2), some (.int z4), some (.int (x6 + (1 : Int32)))] [] h3 kc ks)))) : q_J l (d + 3) mX8_sumFrom mc ms Q QX n0 61 [some (.ref x0), some (.int x1), some (.int x2), some (.int x3), some (.int x4), some (.int x5), some (.int x6)] [.int y1, .int y0] h kc ks := by
  refine j_iadd dX8_sumFrom_61 ?_
  refine j_istore_n dX8_sumFrom_62 rfl (by decide) rfl rfl ?_
  refine j_iload dX8_sumFrom_63 rfl ?_
  refine j_iload dX8_sumFrom_65 rfl ?_
  refine j_static (avs := [.int x4, .int x5]) (rest := []) (kc' := kc) (ks' := ks) dX8_sumFrom_67 mt_X1_neighbourOf w_m_X8_34 w_st_X1_neighbourOf rfl rfl (Nat.le_of_ble_eq_true rfl) (Nat.le_refl _) (by omega) (by omega) hv (fun _ _ q9 => q9) ?_
  rintro _ h1 ⟨z2, rfl, hv⟩ -
  refine j_istore dX8_sumFrom_70 (by decide) rfl rfl ?_
  refine j_aload_n dX8_sumFrom_72 rfl rfl ?_
  refine j_iload dX8_sumFrom_73 rfl ?_
  obtain ⟨⟨fs, e1⟩, hv⟩ := hv
  refine j_virtual (avs := [.int z2]) (rest := []) (i := x0) (kc' := kc) (ks' := ks) dX8_sumFrom_75 mt_X8_directionFrom w_m_X8_51 w_in_X8_directionFrom w_se_X8_directionFrom rfl rfl (Nat.le_of_ble_eq_true rfl) (Nat.le_refl _) (by omega) (by omega) cl_X8.1 e1 hv (fun _ _ q9 => q9) ?_
  rintro _ h3 ⟨z4, rfl, hv⟩ -
  refine j_istore dX8_sumFrom_78 (by decide) rfl rfl ?_
  refine j_iinc (w := (x6 + (1 : Int32))) dX8_sumFrom_80 rfl (by rfl) (by decide) rfl rfl ?_
  refine j_goto (tgt := 27) dX8_sumFrom_83 (by decide) ?_
  exact hv
set_option maxRecDepth 20000 in
set_option maxHeartbeats 4000000 in
theorem v_X8_sumFrom_27 {l : Launch} {d mc ms n0 kc ks : Nat} {Q : Option Value → qH → Prop} {QX : String → qH → Prop} (x0 : Nat) (x1 : Int32) (x2 : Int32) (x3 : Int32) (x4 : Int32) (x5 : Int32) (x6 : Int32) {h : qH} (hv : qIF ((576 : Int32) ≤ x6) (Q (some (.int x3)) h) (qIF (x5 = (-1 : Int32)) (Q (some (.int x3)) h) (qIF (x2 = 0) (q_J l (d + 3) mX8_sumFrom mc ms Q QX n0 61 [some (.ref x0), some (.int x1), some (.int x2), some (.int x3), some (.int x4), some (.int x5), some (.int x6)] [.int (1 : Int32), .int x3] h kc ks) (qGR h x0 8 0 (fun r1 => qOB h r1 1 (qCI l (d + 2) mX1_energyOf [.ref r1, .int x4, .int x5] h 0 0 (fun z3 h2 => q_J l (d + 3) mX8_sumFrom mc ms Q QX n0 61 [some (.ref x0), some (.int x1), some (.int x2), some (.int x3), some (.int x4), some (.int x5), some (.int x6)] [.int z3, .int x3] h2 kc ks))))))) : q_J l (d + 3) mX8_sumFrom mc ms Q QX n0 27 [some (.ref x0), some (.int x1), some (.int x2), some (.int x3), some (.int x4), some (.int x5), some (.int x6)] [] h kc ks := by
  refine j_iload dX8_sumFrom_27 rfl ?_
  refine j_sipush (v := (576 : Int32)) dX8_sumFrom_29 (by decide) ?_
  refine j_icmp_ge (tgt := 86) dX8_sumFrom_32 (by decide) (fun hc => ?_) (fun hc => ?_)
  · replace hv := hv.1 hc
    refine j_iload_n dX8_sumFrom_86 rfl rfl ?_
    exact j_iret dX8_sumFrom_87 rfl hv
  · replace hv := hv.2 hc
    refine j_iload dX8_sumFrom_35 rfl ?_
    refine j_iconst (v := (-1 : Int32)) dX8_sumFrom_37 (by decide) ?_
    refine j_icmp_eq (tgt := 86) dX8_sumFrom_38 (by decide) (fun hc => ?_) (fun hc => ?_)
    · replace hv := hv.1 hc
      refine j_iload_n dX8_sumFrom_86 rfl rfl ?_
      exact j_iret dX8_sumFrom_87 rfl hv
    · replace hv := hv.2 hc
      refine j_iload_n dX8_sumFrom_41 rfl rfl ?_
      refine j_iload_n dX8_sumFrom_42 rfl rfl ?_
      refine j_if_eq (tgt := 60) dX8_sumFrom_43 (by decide) (fun hc => ?_) (fun hc => ?_)
      · replace hv := hv.1 hc
        refine j_iconst (v := (1 : Int32)) dX8_sumFrom_60 (by decide) ?_
        exact hv
      · replace hv := hv.2 hc
        refine j_aload_n dX8_sumFrom_46 rfl rfl ?_
        obtain ⟨fs, r1, e1, e2, hv⟩ := hv
        refine j_getf (k := 0) cl_X8 (by decide) w_f_X8_18 dX8_sumFrom_47 e1 e2 ?_
        refine j_iload dX8_sumFrom_50 rfl ?_
        refine j_iload dX8_sumFrom_52 rfl ?_
        obtain ⟨⟨fs, e1⟩, hv⟩ := hv
        refine j_virtual (avs := [.int x4, .int x5]) (rest := [.int x3]) (i := r1) (kc' := kc) (ks' := ks) dX8_sumFrom_54 mt_X1_energyOf w_m_X8_54 w_in_X1_energyOf w_se_X1_energyOf rfl rfl (Nat.le_of_ble_eq_true rfl) (Nat.le_refl _) (by omega) (by omega) cl_X1.1 e1 hv (fun _ _ q9 => q9) ?_
        rintro _ h2 ⟨z3, rfl, hv⟩ -
        refine j_goto (tgt := 61) dX8_sumFrom_57 (by decide) ?_
        exact hv
set_option maxRecDepth 20000 in
set_option maxHeartbeats 4000000 in
theorem v_X8_sumFrom {l : Launch} {d mc ms : Nat} {Q : Option Value → qH → Prop} {QX : String → qH → Prop} (x0 : Nat) (x1 : Int32) (x2 : Int32) {h : qH} (hv : qOB h x0 8 (qCI l (d + 2) mX8_costOf [.ref x0, .int x1] h 0 0 (fun z2 h1 => qIF (z2 = (-1 : Int32)) (Q (some (.int (-1 : Int32))) h1) (qOB h1 x0 8 (qCI l (d + 2) mX8_directionFrom [.ref x0, .int x1] h1 0 0 (fun z4 h3 => q_J l (d + 3) mX8_sumFrom mc ms Q QX h.2 27 [some (.ref x0), some (.int x1), some (.int x2), some (.int (0 : Int32)), some (.int x1), some (.int z4), some (.int (0 : Int32))] [] h3 mc ms)))))) : q_Ct l (d + 3) mX8_sumFrom [.ref x0, .int x1, .int x2] h mc ms Q QX := by
  refine q_body (by decide ) (by intro v hm; simp only [List.mem_cons, List.not_mem_nil, or_false] at hm; rcases hm with rfl | rfl | rfl <;> rfl) (Nat.le_of_ble_eq_true rfl) ?_
  refine j_pad 4 rfl ?_
  refine j_aload_n dX8_sumFrom_0 rfl rfl ?_
  refine j_iload_n dX8_sumFrom_1 rfl rfl ?_
  obtain ⟨⟨fs, e1⟩, hv⟩ := hv
  refine j_virtual (avs := [.int x1]) (rest := []) (i := x0) (kc' := mc) (ks' := ms) dX8_sumFrom_2 mt_X8_costOf w_m_X8_47 w_in_X8_costOf w_se_X8_costOf rfl rfl (Nat.le_of_ble_eq_true rfl) (Nat.le_refl _) (by omega) (by omega) cl_X8.1 e1 hv (fun _ _ q9 => q9) ?_
  rintro _ h1 ⟨z2, rfl, hv⟩ -
  refine j_iconst (v := (-1 : Int32)) dX8_sumFrom_5 (by decide) ?_
  refine j_icmp_ne (tgt := 11) dX8_sumFrom_6 (by decide) (fun hc => ?_) (fun hc => ?_)
  · replace hv := hv.2 hc
    refine j_iconst (v := (0 : Int32)) dX8_sumFrom_11 (by decide) ?_
    refine j_istore_n dX8_sumFrom_12 rfl (by decide) rfl rfl ?_
    refine j_iload_n dX8_sumFrom_13 rfl rfl ?_
    refine j_istore dX8_sumFrom_14 (by decide) rfl rfl ?_
    refine j_aload_n dX8_sumFrom_16 rfl rfl ?_
    refine j_iload dX8_sumFrom_17 rfl ?_
    obtain ⟨⟨fs, e1⟩, hv⟩ := hv
    refine j_virtual (avs := [.int x1]) (rest := []) (i := x0) (kc' := mc) (ks' := ms) dX8_sumFrom_19 mt_X8_directionFrom w_m_X8_51 w_in_X8_directionFrom w_se_X8_directionFrom rfl rfl (Nat.le_of_ble_eq_true rfl) (Nat.le_refl _) (by omega) (by omega) cl_X8.1 e1 hv (fun _ _ q9 => q9) ?_
    rintro _ h3 ⟨z4, rfl, hv⟩ -
    refine j_istore dX8_sumFrom_22 (by decide) rfl rfl ?_
    refine j_iconst (v := (0 : Int32)) dX8_sumFrom_24 (by decide) ?_
    refine j_istore dX8_sumFrom_25 (by decide) rfl rfl ?_
    exact hv
  · replace hv := hv.1 hc
    refine j_iconst (v := (-1 : Int32)) dX8_sumFrom_9 (by decide) ?_
    exact j_iret dX8_sumFrom_10 rfl hv
