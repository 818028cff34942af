set_option maxRecDepth 20000 in
set_option maxHeartbeats 4000000 in
theorem v_X9_raise {l : Launch} {d mc ms : Nat} {Q : Option Value → qH → Prop} {QX : String → qH → Prop} (hl0 : l.stackTraces = false) (hkc : 1 ≤ mc) (hks : 6 ≤ ms) (x0 : Nat) (x1 : Int32) (x2 : Int32) (x3 : Int32) (x4 : Int32) (x5 : Int32) {h : qH} (hv : qCI l (d + 5) mX1_isRectangle [.int x1, .int x2, .int x3, .int x4] h 0 0 (fun z2 h1 => qIF (z2 = 0) (QX "java/lang/IllegalArgumentException" h1) (qGR h1 x0 9 0 (fun r3 => qOB h1 r3 1 (qCI l (d + 5) mX1_canLift [.ref r3, .int x1, .int x2, .int x3, .int x4, .int x5] h1 0 0 (fun z5 h4 => qIF (z5 = 0) (QX "java/lang/IllegalArgumentException" h4) (qGR h4 x0 9 0 (fun r6 => qOB h4 r6 1 (qCI l (d + 5) mX1_lift [.ref r6, .int x1, .int x2, .int x3, .int x4, .int x5] h4 0 0 (fun z8 h7 => Q (some (.int z8)) h7)))))))))) : q_Ct l (d + 6) mX9_raise [.ref x0, .int x1, .int x2, .int x3, .int x4, .int x5] h mc ms Q QX := by
  refine q_body (by decide ) (by intro v hm; simp only [List.mem_cons, List.not_mem_nil, or_false] at hm; rcases hm with rfl | rfl | rfl | rfl | rfl | rfl <;> rfl) (Nat.le_of_ble_eq_true rfl) ?_
  refine j_pad 0 rfl ?_
  refine j_iload_n dX9_raise_0 rfl rfl ?_
  refine j_iload_n dX9_raise_1 rfl rfl ?_
  refine j_iload_n dX9_raise_2 rfl rfl ?_
  refine j_iload dX9_raise_3 rfl ?_
  refine j_static (avs := [.int x1, .int x2, .int x3, .int x4]) (rest := []) (kc' := mc) (ks' := ms) dX9_raise_5 mt_X1_isRectangle w_m_X9_80 w_st_X1_isRectangle rfl rfl (Nat.le_of_ble_eq_true rfl) (Nat.le_refl _) (by omega) (by omega) hv (fun _ _ q9 => q9) ?_
  rintro _ h1 ⟨z2, rfl, hv⟩ -
  refine j_if_eq (tgt := 28) dX9_raise_8 (by decide) (fun hc => ?_) (fun hc => ?_)
  · replace hv := hv.1 hc
    exact j_throw (text := "no such rectangle, or a height beyond the limits") hl0 rfl xw_IAE w_cl_X9_88 (by decide +kernel) dX9_raise_28 dX9_raise_31 dX9_raise_32 dX9_raise_34 dX9_raise_37 (by omega) (Nat.le_of_ble_eq_true rfl) (by omega) (by omega) hv
  · replace hv := hv.2 hc
    refine j_aload_n dX9_raise_11 rfl rfl ?_
    obtain ⟨fs, r3, e1, e2, hv⟩ := hv
    refine j_getf (k := 0) cl_X9 (by decide) w_f_X9_10 dX9_raise_12 e1 e2 ?_
    refine j_iload_n dX9_raise_15 rfl rfl ?_
    refine j_iload_n dX9_raise_16 rfl rfl ?_
    refine j_iload_n dX9_raise_17 rfl rfl ?_
    refine j_iload dX9_raise_18 rfl ?_
    refine j_iload dX9_raise_20 rfl ?_
    obtain ⟨⟨fs, e1⟩, hv⟩ := hv
    refine j_virtual (avs := [.int x1, .int x2, .int x3, .int x4, .int x5]) (rest := []) (i := r3) (kc' := mc) (ks' := ms) dX9_raise_22 mt_X1_canLift w_m_X9_84 w_in_X1_canLift w_se_X1_canLift rfl rfl (Nat.le_of_ble_eq_true rfl) (Nat.le_refl _) (by omega) (by omega) cl_X1.1 e1 hv (fun _ _ q9 => q9) ?_
    rintro _ h4 ⟨z5, rfl, hv⟩ -
    refine j_if_ne (tgt := 38) dX9_raise_25 (by decide) (fun hc => ?_) (fun hc => ?_)
    · replace hv := hv.2 hc
      refine j_aload_n dX9_raise_38 rfl rfl ?_
      obtain ⟨fs, r6, e1, e2, hv⟩ := hv
      refine j_getf (k := 0) cl_X9 (by decide) w_f_X9_10 dX9_raise_39 e1 e2 ?_
      refine j_iload_n dX9_raise_42 rfl rfl ?_
      refine j_iload_n dX9_raise_43 rfl rfl ?_
      refine j_iload_n dX9_raise_44 rfl rfl ?_
      refine j_iload dX9_raise_45 rfl ?_
      refine j_iload dX9_raise_47 rfl ?_
      obtain ⟨⟨fs, e1⟩, hv⟩ := hv
      refine j_virtual (avs := [.int x1, .int x2, .int x3, .int x4, .int x5]) (rest := []) (i := r6) (kc' := mc) (ks' := ms) dX9_raise_49 mt_X1_lift w_m_X9_95 w_in_X1_lift w_se_X1_lift rfl rfl (Nat.le_of_ble_eq_true rfl) (Nat.le_refl _) (by omega) (by omega) cl_X1.1 e1 hv (fun _ _ q9 => q9) ?_
      rintro _ h7 ⟨z8, rfl, hv⟩ -
      exact j_iret dX9_raise_52 rfl hv
    · replace hv := hv.1 hc
      exact j_throw (text := "no such rectangle, or a height beyond the limits") hl0 rfl xw_IAE w_cl_X9_88 (by decide +kernel) dX9_raise_28 dX9_raise_31 dX9_raise_32 dX9_raise_34 dX9_raise_37 (by omega) (Nat.le_of_ble_eq_true rfl) (by omega) (by omega) hv
set_option maxRecDepth 20000 in
set_option maxHeartbeats 4000000 in
theorem v_X9_pave {l : Launch} {d mc ms : Nat} {Q : Option Value → qH → Prop} {QX : String → qH → Prop} (hl0 : l.stackTraces = false) (hkc : 1 ≤ mc) (hks : 6 ≤ ms) (x0 : Nat) (x1 : Int32) (x2 : Int32) (x3 : Int32) (x4 : Int32) (x5 : Int32) (x6 : Int32) {h : qH} (hv : qCI l (d + 5) mX1_isRectangle [.int x1, .int x2, .int x3, .int x4] h 0 0 (fun z2 h1 => qIF (z2 = 0) (QX "java/lang/IllegalArgumentException" h1) (qIF (x5 < 0) (QX "java/lang/IllegalArgumentException" h1) (qIF (x5 ≤ (3 : Int32)) (qGR h1 x0 9 0 (fun r3 => qOB h1 r3 1 (qCV l (d + 5) mX1_cover [.ref r3, .int x1, .int x2, .int x3, .int x4, .int x5, .int x6] h1 0 0 (fun h4 => Q (some (.int (((x2 - x1) + (1 : Int32)) * ((x4 - x3) + (1 : Int32))))) h4)))) (QX "java/lang/IllegalArgumentException" h1))))) : q_Ct l (d + 6) mX9_pave [.ref x0, .int x1, .int x2, .int x3, .int x4, .int x5, .int x6] h mc ms Q QX := by
  refine q_body (by decide ) (by intro v hm; simp only [List.mem_cons, List.not_mem_nil, or_false] at hm; rcases hm with rfl | rfl | rfl | rfl | rfl | rfl | rfl <;> rfl) (Nat.le_of_ble_eq_true rfl) ?_
  refine j_pad 0 rfl ?_
  refine j_iload_n dX9_pave_0 rfl rfl ?_
  refine j_iload_n dX9_pave_1 rfl rfl ?_
  refine j_iload_n dX9_pave_2 rfl rfl ?_
  refine j_iload dX9_pave_3 rfl ?_
  refine j_static (avs := [.int x1, .int x2, .int x3, .int x4]) (rest := []) (kc' := mc) (ks' := ms) dX9_pave_5 mt_X1_isRectangle w_m_X9_80 w_st_X1_isRectangle rfl rfl (Nat.le_of_ble_eq_true rfl) (Nat.le_refl _) (by omega) (by omega) hv (fun _ _ q9 => q9) ?_
  rintro _ h1 ⟨z2, rfl, hv⟩ -
  refine j_if_eq (tgt := 22) dX9_pave_8 (by decide) (fun hc => ?_) (fun hc => ?_)
  · replace hv := hv.1 hc
    exact j_throw (text := "no such rectangle or roughness") hl0 rfl xw_IAE w_cl_X9_88 (by decide +kernel) dX9_pave_22 dX9_pave_25 dX9_pave_26 dX9_pave_28 dX9_pave_31 (by omega) (Nat.le_of_ble_eq_true rfl) (by omega) (by omega) hv
  · replace hv := hv.2 hc
    refine j_iload dX9_pave_11 rfl ?_
    refine j_if_lt (tgt := 22) dX9_pave_13 (by decide) (fun hc => ?_) (fun hc => ?_)
    · replace hv := hv.1 hc
      exact j_throw (text := "no such rectangle or roughness") hl0 rfl xw_IAE w_cl_X9_88 (by decide +kernel) dX9_pave_22 dX9_pave_25 dX9_pave_26 dX9_pave_28 dX9_pave_31 (by omega) (Nat.le_of_ble_eq_true rfl) (by omega) (by omega) hv
    · replace hv := hv.2 hc
      refine j_iload dX9_pave_16 rfl ?_
      refine j_iconst (v := (3 : Int32)) dX9_pave_18 (by decide) ?_
      refine j_icmp_le (tgt := 32) dX9_pave_19 (by decide) (fun hc => ?_) (fun hc => ?_)
      · replace hv := hv.1 hc
        refine j_aload_n dX9_pave_32 rfl rfl ?_
        obtain ⟨fs, r3, e1, e2, hv⟩ := hv
        refine j_getf (k := 0) cl_X9 (by decide) w_f_X9_10 dX9_pave_33 e1 e2 ?_
        refine j_iload_n dX9_pave_36 rfl rfl ?_
        refine j_iload_n dX9_pave_37 rfl rfl ?_
        refine j_iload_n dX9_pave_38 rfl rfl ?_
        refine j_iload dX9_pave_39 rfl ?_
        refine j_iload dX9_pave_41 rfl ?_
        refine j_iload dX9_pave_43 rfl ?_
        obtain ⟨⟨fs, e1⟩, hv⟩ := hv
        refine j_virtual (avs := [.int x1, .int x2, .int x3, .int x4, .int x5, .int x6]) (rest := []) (i := r3) (kc' := mc) (ks' := ms) dX9_pave_45 mt_X1_cover w_m_X9_101 w_in_X1_cover w_se_X1_cover rfl rfl (Nat.le_of_ble_eq_true rfl) (Nat.le_refl _) (by omega) (by omega) cl_X1.1 e1 hv (fun _ _ q9 => q9) ?_
        rintro _ h4 ⟨rfl, hv⟩ -
        refine j_iload_n dX9_pave_48 rfl rfl ?_
        refine j_iload_n dX9_pave_49 rfl rfl ?_
        refine j_isub dX9_pave_50 ?_
        refine j_iconst (v := (1 : Int32)) dX9_pave_51 (by decide) ?_
        refine j_iadd dX9_pave_52 ?_
        refine j_iload dX9_pave_53 rfl ?_
        refine j_iload_n dX9_pave_55 rfl rfl ?_
        refine j_isub dX9_pave_56 ?_
        refine j_iconst (v := (1 : Int32)) dX9_pave_57 (by decide) ?_
        refine j_iadd dX9_pave_58 ?_
        refine j_imul dX9_pave_59 ?_
        exact j_iret dX9_pave_60 rfl hv
      · replace hv := hv.2 hc
        exact j_throw (text := "no such rectangle or roughness") hl0 rfl xw_IAE w_cl_X9_88 (by decide +kernel) dX9_pave_22 dX9_pave_25 dX9_pave_26 dX9_pave_28 dX9_pave_31 (by omega) (Nat.le_of_ble_eq_true rfl) (by omega) (by omega) hv
set_option maxRecDepth 20000 in
set_option maxHeartbeats 4000000 in
theorem v_X9_setSlope {l : Launch} {d mc ms : Nat} {Q : Option Value → qH → Prop} {QX : String → qH → Prop} (hl0 : l.stackTraces = false) (hkc : 1 ≤ mc) (hks : 6 ≤ ms) (x0 : Nat) (x1 : Int32) {h : qH} (hv : qIF (x1 < 0) (QX "java/lang/IllegalArgumentException" h) (qIF (x1 ≤ (99 : Int32)) (qGR h x0 9 0 (fun r1 => qGI h r1 1 4 (fun z2 => qGR h x0 9 0 (fun r3 => qOB h r3 1 (qCV l (d + 5) mX1_limitSlope [.ref r3, .int x1] h 0 0 (fun h4 => Q (some (.int z2)) h4)))))) (QX "java/lang/IllegalArgumentException" h))) : q_Ct l (d + 6) mX9_setSlope [.ref x0, .int x1] h mc ms Q QX := by
  refine q_body (by decide ) (by intro v hm; simp only [List.mem_cons, List.not_mem_nil, or_false] at hm; rcases hm with rfl | rfl <;> rfl) (Nat.le_of_ble_eq_true rfl) ?_
  refine j_pad 1 rfl ?_
  refine j_iload_n dX9_setSlope_0 rfl rfl ?_
  refine j_if_lt (tgt := 10) dX9_setSlope_1 (by decide) (fun hc => ?_) (fun hc => ?_)
  · replace hv := hv.1 hc
    exact j_throw (text := "no such limit") hl0 rfl xw_IAE w_cl_X9_88 (by decide +kernel) dX9_setSlope_10 dX9_setSlope_13 dX9_setSlope_14 dX9_setSlope_16 dX9_setSlope_19 (by omega) (Nat.le_of_ble_eq_true rfl) (by omega) (by omega) hv
  · replace hv := hv.2 hc
    refine j_iload_n dX9_setSlope_4 rfl rfl ?_
    refine j_bipush (v := (99 : Int32)) dX9_setSlope_5 (by decide) ?_
    refine j_icmp_le (tgt := 20) dX9_setSlope_7 (by decide) (fun hc => ?_) (fun hc => ?_)
    · replace hv := hv.1 hc
      refine j_aload_n dX9_setSlope_20 rfl rfl ?_
      obtain ⟨fs, r1, e1, e2, hv⟩ := hv
      refine j_getf (k := 0) cl_X9 (by decide) w_f_X9_10 dX9_setSlope_21 e1 e2 ?_
      obtain ⟨fs, z2, e1, e2, hv⟩ := hv
      refine j_getfN (k := 4) cl_X1 (by decide) w_fn_X9_126 dX9_setSlope_24 e1 e2 ?_
      refine j_istore_n dX9_setSlope_27 rfl (by decide) rfl rfl ?_
      refine j_aload_n dX9_setSlope_28 rfl rfl ?_
      obtain ⟨fs, r3, e1, e2, hv⟩ := hv
      refine j_getf (k := 0) cl_X9 (by decide) w_f_X9_10 dX9_setSlope_29 e1 e2 ?_
      refine j_iload_n dX9_setSlope_32 rfl rfl ?_
      obtain ⟨⟨fs, e1⟩, hv⟩ := hv
      refine j_virtual (avs := [.int x1]) (rest := []) (i := r3) (kc' := mc) (ks' := ms) dX9_setSlope_33 mt_X1_limitSlope w_m_X9_130 w_in_X1_limitSlope w_se_X1_limitSlope rfl rfl (Nat.le_of_ble_eq_true rfl) (Nat.le_refl _) (by omega) (by omega) cl_X1.1 e1 hv (fun _ _ q9 => q9) ?_
      rintro _ h4 ⟨rfl, hv⟩ -
      refine j_iload_n dX9_setSlope_36 rfl rfl ?_
      exact j_iret dX9_setSlope_37 rfl hv
    · replace hv := hv.2 hc
      exact j_throw (text := "no such limit") hl0 rfl xw_IAE w_cl_X9_88 (by decide +kernel) dX9_setSlope_10 dX9_setSlope_13 dX9_setSlope_14 dX9_setSlope_16 dX9_setSlope_19 (by omega) (Nat.le_of_ble_eq_true rfl) (by omega) (by omega) hv
set_option maxRecDepth 20000 in
set_option maxHeartbeats 4000000 in
theorem v_X9_way {l : Launch} {d mc ms : Nat} {Q : Option Value → qH → Prop} {QX : String → qH → Prop} (hl0 : l.stackTraces = false) (hkc : 1 ≤ mc) (hks : 6 ≤ ms) (x0 : Nat) (x1 : Int32) (x2 : Int32) (x3 : Int32) (x4 : Int32) (x5 : Int32) {h : qH} (hv : qCI l (d + 5) mX1_isPlace [.int x1, .int x2] h 0 0 (fun z2 h1 => qIF (z2 = 0) (QX "java/lang/IndexOutOfBoundsException" h1) (qCI l (d + 5) mX1_isPlace [.int x3, .int x4] h1 0 0 (fun z4 h3 => qIF (z4 = 0) (QX "java/lang/IndexOutOfBoundsException" h3) (qIF (x5 < 0) (QX "java/lang/IndexOutOfBoundsException" h3) (qIF (x5 ≤ (3 : Int32)) (qCI l (d + 5) mX1_placeOf [.int x1, .int x2] h3 0 0 (fun z6 h5 => qGR h5 x0 9 1 (fun r7 => qCI l (d + 5) mX1_placeOf [.int x3, .int x4] h5 0 0 (fun z9 h8 => qOB h8 r7 8 (qCV l (d + 5) mX8_measureTo [.ref r7, .int z9] h8 0 0 (fun h10 => qIF (x5 = 0) (qGR h10 x0 9 1 (fun r19 => qOB h10 r19 8 (qCI l (d + 5) mX8_costOf [.ref r19, .int z6] h10 0 0 (fun z21 h20 => Q (some (.int z21)) h20)))) (qIF (x5 = (3 : Int32)) (qGR h10 x0 9 1 (fun r16 => qOB h10 r16 8 (qCI l (d + 5) mX8_directionFrom [.ref r16, .int z6] h10 0 0 (fun z18 h17 => Q (some (.int z18)) h17)))) (qGR h10 x0 9 1 (fun r11 => qIF (x5 = (1 : Int32)) (qOB h10 r11 8 (qCI l (d + 5) mX8_sumFrom [.ref r11, .int z6, .int (1 : Int32)] h10 0 0 (fun z15 h14 => Q (some (.int z15)) h14))) (qOB h10 r11 8 (qCI l (d + 5) mX8_sumFrom [.ref r11, .int z6, .int (0 : Int32)] h10 0 0 (fun z13 h12 => Q (some (.int z13)) h12)))))))))))) (QX "java/lang/IndexOutOfBoundsException" h3))))))) : q_Ct l (d + 6) mX9_way [.ref x0, .int x1, .int x2, .int x3, .int x4, .int x5] h mc ms Q QX := by
  refine q_body (by decide ) (by intro v hm; simp only [List.mem_cons, List.not_mem_nil, or_false] at hm; rcases hm with rfl | rfl | rfl | rfl | rfl | rfl <;> rfl) (Nat.le_of_ble_eq_true rfl) ?_
  refine j_pad 1 rfl ?_
  refine j_iload_n dX9_way_0 rfl rfl ?_
  refine j_iload_n dX9_way_1 rfl rfl ?_
  refine j_static (avs := [.int x1, .int x2]) (rest := []) (kc' := mc) (ks' := ms) dX9_way_2 mt_X1_isPlace w_m_X9_105 w_st_X1_isPlace rfl rfl (Nat.le_of_ble_eq_true rfl) (Nat.le_refl _) (by omega) (by omega) hv (fun _ _ q9 => q9) ?_
  rintro _ h1 ⟨z2, rfl, hv⟩ -
  refine j_if_eq (tgt := 28) dX9_way_5 (by decide) (fun hc => ?_) (fun hc => ?_)
  · replace hv := hv.1 hc
    exact j_throw (text := "no such place or number") hl0 rfl xw_IOE w_cl_X9_109 (by decide +kernel) dX9_way_28 dX9_way_31 dX9_way_32 dX9_way_34 dX9_way_37 (by omega) (Nat.le_of_ble_eq_true rfl) (by omega) (by omega) hv
  · replace hv := hv.2 hc
    refine j_iload_n dX9_way_8 rfl rfl ?_
    refine j_iload dX9_way_9 rfl ?_
    refine j_static (avs := [.int x3, .int x4]) (rest := []) (kc' := mc) (ks' := ms) dX9_way_11 mt_X1_isPlace w_m_X9_105 w_st_X1_isPlace rfl rfl (Nat.le_of_ble_eq_true rfl) (Nat.le_refl _) (by omega) (by omega) hv (fun _ _ q9 => q9) ?_
    rintro _ h3 ⟨z4, rfl, hv⟩ -
    refine j_if_eq (tgt := 28) dX9_way_14 (by decide) (fun hc => ?_) (fun hc => ?_)
    · replace hv := hv.1 hc
      exact j_throw (text := "no such place or number") hl0 rfl xw_IOE w_cl_X9_109 (by decide +kernel) dX9_way_28 dX9_way_31 dX9_way_32 dX9_way_34 dX9_way_37 (by omega) (Nat.le_of_ble_eq_true rfl) (by omega) (by omega) hv
    · replace hv := hv.2 hc
      refine j_iload dX9_way_17 rfl ?_
      refine j_if_lt (tgt := 28) dX9_way_19 (by decide) (fun hc => ?_) (fun hc => ?_)
      · replace hv := hv.1 hc
        exact j_throw (text := "no such place or number") hl0 rfl xw_IOE w_cl_X9_109 (by decide +kernel) dX9_way_28 dX9_way_31 dX9_way_32 dX9_way_34 dX9_way_37 (by omega) (Nat.le_of_ble_eq_true rfl) (by omega) (by omega) hv
      · replace hv := hv.2 hc
        refine j_iload dX9_way_22 rfl ?_
        refine j_iconst (v := (3 : Int32)) dX9_way_24 (by decide) ?_
        refine j_icmp_le (tgt := 38) dX9_way_25 (by decide) (fun hc => ?_) (fun hc => ?_)
        · replace hv := hv.1 hc
          refine j_iload_n dX9_way_38 rfl rfl ?_
          refine j_iload_n dX9_way_39 rfl rfl ?_
          refine j_static (avs := [.int x1, .int x2]) (rest := []) (kc' := mc) (ks' := ms) dX9_way_40 mt_X1_placeOf w_m_X9_134 w_st_X1_placeOf rfl rfl (Nat.le_of_ble_eq_true rfl) (Nat.le_refl _) (by omega) (by omega) hv (fun _ _ q9 => q9) ?_
          rintro _ h5 ⟨z6, rfl, hv⟩ -
          refine j_istore dX9_way_43 (by decide) rfl rfl ?_
          refine j_aload_n dX9_way_45 rfl rfl ?_
          obtain ⟨fs, r7, e1, e2, hv⟩ := hv
          refine j_getf (k := 1) cl_X9 (by decide) w_f_X9_21 dX9_way_46 e1 e2 ?_
          refine j_iload_n dX9_way_49 rfl rfl ?_
          refine j_iload dX9_way_50 rfl ?_
          refine j_static (avs := [.int x3, .int x4]) (rest := [.ref r7]) (kc' := mc) (ks' := ms) dX9_way_52 mt_X1_placeOf w_m_X9_134 w_st_X1_placeOf rfl rfl (Nat.le_of_ble_eq_true rfl) (Nat.le_refl _) (by omega) (by omega) hv (fun _ _ q9 => q9) ?_
          rintro _ h8 ⟨z9, rfl, hv⟩ -
          obtain ⟨⟨fs, e1⟩, hv⟩ := hv
          refine j_virtual (avs := [.int z9]) (rest := []) (i := r7) (kc' := mc) (ks' := ms) dX9_way_55 mt_X8_measureTo w_m_X9_137 w_in_X8_measureTo w_se_X8_measureTo rfl rfl (Nat.le_of_ble_eq_true rfl) (Nat.le_refl _) (by omega) (by omega) cl_X8.1 e1 hv (fun _ _ q9 => q9) ?_
          rintro _ h10 ⟨rfl, hv⟩ -
          refine j_iload dX9_way_58 rfl ?_
          refine j_if_ne (tgt := 73) dX9_way_60 (by decide) (fun hc => ?_) (fun hc => ?_)
          · replace hv := hv.2 hc
            refine j_iload dX9_way_73 rfl ?_
            refine j_iconst (v := (3 : Int32)) dX9_way_75 (by decide) ?_
            refine j_icmp_ne (tgt := 89) dX9_way_76 (by decide) (fun hc => ?_) (fun hc => ?_)
            · replace hv := hv.2 hc
              refine j_aload_n dX9_way_89 rfl rfl ?_
              obtain ⟨fs, r11, e1, e2, hv⟩ := hv
              refine j_getf (k := 1) cl_X9 (by decide) w_f_X9_21 dX9_way_90 e1 e2 ?_
              refine j_iload dX9_way_93 rfl ?_
              refine j_iload dX9_way_95 rfl ?_
              refine j_iconst (v := (1 : Int32)) dX9_way_97 (by decide) ?_
              refine j_icmp_ne (tgt := 105) dX9_way_98 (by decide) (fun hc => ?_) (fun hc => ?_)
              · replace hv := hv.2 hc
                refine j_iconst (v := (0 : Int32)) dX9_way_105 (by decide) ?_
                obtain ⟨⟨fs, e1⟩, hv⟩ := hv
                refine j_virtual (avs := [.int z6, .int (0 : Int32)]) (rest := []) (i := r11) (kc' := mc) (ks' := ms) dX9_way_106 mt_X8_sumFrom w_m_X9_147 w_in_X8_sumFrom w_se_X8_sumFrom rfl rfl (Nat.le_of_ble_eq_true rfl) (Nat.le_refl _) (by omega) (by omega) cl_X8.1 e1 hv (fun _ _ q9 => q9) ?_
                rintro _ h12 ⟨z13, rfl, hv⟩ -
                exact j_iret dX9_way_109 rfl hv
              · replace hv := hv.1 hc
                refine j_iconst (v := (1 : Int32)) dX9_way_101 (by decide) ?_
                refine j_goto (tgt := 106) dX9_way_102 (by decide) ?_
                obtain ⟨⟨fs, e1⟩, hv⟩ := hv
                refine j_virtual (avs := [.int z6, .int (1 : Int32)]) (rest := []) (i := r11) (kc' := mc) (ks' := ms) dX9_way_106 mt_X8_sumFrom w_m_X9_147 w_in_X8_sumFrom w_se_X8_sumFrom rfl rfl (Nat.le_of_ble_eq_true rfl) (Nat.le_refl _) (by omega) (by omega) cl_X8.1 e1 hv (fun _ _ q9 => q9) ?_
                rintro _ h14 ⟨z15, rfl, hv⟩ -
                exact j_iret dX9_way_109 rfl hv
            · replace hv := hv.1 hc
              refine j_aload_n dX9_way_79 rfl rfl ?_
              obtain ⟨fs, r16, e1, e2, hv⟩ := hv
              refine j_getf (k := 1) cl_X9 (by decide) w_f_X9_21 dX9_way_80 e1 e2 ?_
              refine j_iload dX9_way_83 rfl ?_
              obtain ⟨⟨fs, e1⟩, hv⟩ := hv
              refine j_virtual (avs := [.int z6]) (rest := []) (i := r16) (kc' := mc) (ks' := ms) dX9_way_85 mt_X8_directionFrom w_m_X9_144 w_in_X8_directionFrom w_se_X8_directionFrom rfl rfl (Nat.le_of_ble_eq_true rfl) (Nat.le_refl _) (by omega) (by omega) cl_X8.1 e1 hv (fun _ _ q9 => q9) ?_
              rintro _ h17 ⟨z18, rfl, hv⟩ -
              exact j_iret dX9_way_88 rfl hv
          · replace hv := hv.1 hc
            refine j_aload_n dX9_way_63 rfl rfl ?_
            obtain ⟨fs, r19, e1, e2, hv⟩ := hv
            refine j_getf (k := 1) cl_X9 (by decide) w_f_X9_21 dX9_way_64 e1 e2 ?_
            refine j_iload dX9_way_67 rfl ?_
            obtain ⟨⟨fs, e1⟩, hv⟩ := hv
            refine j_virtual (avs := [.int z6]) (rest := []) (i := r19) (kc' := mc) (ks' := ms) dX9_way_69 mt_X8_costOf w_m_X9_140 w_in_X8_costOf w_se_X8_costOf rfl rfl (Nat.le_of_ble_eq_true rfl) (Nat.le_refl _) (by omega) (by omega) cl_X8.1 e1 hv (fun _ _ q9 => q9) ?_
            rintro _ h20 ⟨z21, rfl, hv⟩ -
            exact j_iret dX9_way_72 rfl hv
        · replace hv := hv.2 hc
          exact j_throw (text := "no such place or number") hl0 rfl xw_IOE w_cl_X9_109 (by decide +kernel) dX9_way_28 dX9_way_31 dX9_way_32 dX9_way_34 dX9_way_37 (by omega) (Nat.le_of_ble_eq_true rfl) (by omega) (by omega) hv
set_option maxRecDepth 20000 in
set_option maxHeartbeats 4000000 in
theorem v_X9_addTarget {l : Launch} {d mc ms : Nat} {Q : Option Value → qH → Prop} {QX : String → qH → Prop} (hl0 : l.stackTraces = false) (hkc : 1 ≤ mc) (hks : 6 ≤ ms) (x0 : Nat) (x1 : Int32) (x2 : Int32) (x3 : Int32) (x4 : Int32) {h : qH} (hv : qCI l (d + 5) mX1_isPlace [.int x1, .int x2] h 0 0 (fun z2 h1 => qIF (z2 = 0) (QX "java/lang/IndexOutOfBoundsException" h1) (qIF (x3 < (1 : Int32)) (QX "java/lang/IllegalArgumentException" h1) (qIF ((100 : Int32) < x3) (QX "java/lang/IllegalArgumentException" h1) (qIF (x4 < (1 : Int32)) (QX "java/lang/IllegalArgumentException" h1) (qIF (x4 ≤ (4 : Int32)) (qGR h1 x0 9 2 (fun r3 => qOB h1 r3 7 (qCI l (d + 5) mX7_isFull [.ref r3] h1 0 0 (fun z5 h4 => qIF (z5 = 0) (qGR h4 x0 9 2 (fun r6 => qOB h4 r6 7 (qCI l (d + 5) mX7_append [.ref r6, .int x1, .int x2, .int x3, .int x4] h4 0 0 (fun z8 h7 => Q (some (.int z8)) h7)))) (QX "java/lang/IllegalStateException" h4))))) (QX "java/lang/IllegalArgumentException" h1))))))) : q_Ct l (d + 6) mX9_addTarget [.ref x0, .int x1, .int x2, .int x3, .int x4] h mc ms Q QX := by
  refine q_body (by decide ) (by intro v hm; simp only [List.mem_cons, List.not_mem_nil, or_false] at hm; rcases hm with rfl | rfl | rfl | rfl | rfl <;> rfl) (Nat.le_of_ble_eq_true rfl) ?_
  refine j_pad 0 rfl ?_
  refine j_iload_n dX9_addTarget_0 rfl rfl ?_
  refine j_iload_n dX9_addTarget_1 rfl rfl ?_
  refine j_static (avs := [.int x1, .int x2]) (rest := []) (kc' := mc) (ks' := ms) dX9_addTarget_2 mt_X1_isPlace w_m_X9_105 w_st_X1_isPlace rfl rfl (Nat.le_of_ble_eq_true rfl) (Nat.le_refl _) (by omega) (by omega) hv (fun _ _ q9 => q9) ?_
  rintro _ h1 ⟨z2, rfl, hv⟩ -
  refine j_if_ne (tgt := 18) dX9_addTarget_5 (by decide) (fun hc => ?_) (fun hc => ?_)
  · replace hv := hv.2 hc
    refine j_iload_n dX9_addTarget_18 rfl rfl ?_
    refine j_iconst (v := (1 : Int32)) dX9_addTarget_19 (by decide) ?_
    refine j_icmp_lt (tgt := 41) dX9_addTarget_20 (by decide) (fun hc => ?_) (fun hc => ?_)
    · replace hv := hv.1 hc
      exact j_throw (text := "no such value or need") hl0 rfl xw_IAE w_cl_X9_88 (by decide +kernel) dX9_addTarget_41 dX9_addTarget_44 dX9_addTarget_45 dX9_addTarget_47 dX9_addTarget_50 (by omega) (Nat.le_of_ble_eq_true rfl) (by omega) (by omega) hv
    · replace hv := hv.2 hc
      refine j_iload_n dX9_addTarget_23 rfl rfl ?_
      refine j_bipush (v := (100 : Int32)) dX9_addTarget_24 (by decide) ?_
      refine j_icmp_gt (tgt := 41) dX9_addTarget_26 (by decide) (fun hc => ?_) (fun hc => ?_)
      · replace hv := hv.1 hc
        exact j_throw (text := "no such value or need") hl0 rfl xw_IAE w_cl_X9_88 (by decide +kernel) dX9_addTarget_41 dX9_addTarget_44 dX9_addTarget_45 dX9_addTarget_47 dX9_addTarget_50 (by omega) (Nat.le_of_ble_eq_true rfl) (by omega) (by omega) hv
      · replace hv := hv.2 hc
        refine j_iload dX9_addTarget_29 rfl ?_
        refine j_iconst (v := (1 : Int32)) dX9_addTarget_31 (by decide) ?_
        refine j_icmp_lt (tgt := 41) dX9_addTarget_32 (by decide) (fun hc => ?_) (fun hc => ?_)
        · replace hv := hv.1 hc
          exact j_throw (text := "no such value or need") hl0 rfl xw_IAE w_cl_X9_88 (by decide +kernel) dX9_addTarget_41 dX9_addTarget_44 dX9_addTarget_45 dX9_addTarget_47 dX9_addTarget_50 (by omega) (Nat.le_of_ble_eq_true rfl) (by omega) (by omega) hv
        · replace hv := hv.2 hc
          refine j_iload dX9_addTarget_35 rfl ?_
          refine j_iconst (v := (4 : Int32)) dX9_addTarget_37 (by decide) ?_
          refine j_icmp_le (tgt := 51) dX9_addTarget_38 (by decide) (fun hc => ?_) (fun hc => ?_)
          · replace hv := hv.1 hc
            refine j_aload_n dX9_addTarget_51 rfl rfl ?_
            obtain ⟨fs, r3, e1, e2, hv⟩ := hv
            refine j_getf (k := 2) cl_X9 (by decide) w_f_X9_28 dX9_addTarget_52 e1 e2 ?_
            obtain ⟨⟨fs, e1⟩, hv⟩ := hv
            refine j_virtual (avs := []) (rest := []) (i := r3) (kc' := mc) (ks' := ms) dX9_addTarget_55 mt_X7_isFull w_m_X9_158 w_in_X7_isFull w_se_X7_isFull rfl rfl (Nat.le_of_ble_eq_true rfl) (Nat.le_refl _) (by omega) (by omega) cl_X7.1 e1 hv (fun _ _ q9 => q9) ?_
            rintro _ h4 ⟨z5, rfl, hv⟩ -
            refine j_if_eq (tgt := 71) dX9_addTarget_58 (by decide) (fun hc => ?_) (fun hc => ?_)
            · replace hv := hv.1 hc
              refine j_aload_n dX9_addTarget_71 rfl rfl ?_
              obtain ⟨fs, r6, e1, e2, hv⟩ := hv
              refine j_getf (k := 2) cl_X9 (by decide) w_f_X9_28 dX9_addTarget_72 e1 e2 ?_
              refine j_iload_n dX9_addTarget_75 rfl rfl ?_
              refine j_iload_n dX9_addTarget_76 rfl rfl ?_
              refine j_iload_n dX9_addTarget_77 rfl rfl ?_
              refine j_iload dX9_addTarget_78 rfl ?_
              obtain ⟨⟨fs, e1⟩, hv⟩ := hv
              refine j_virtual (avs := [.int x1, .int x2, .int x3, .int x4]) (rest := []) (i := r6) (kc' := mc) (ks' := ms) dX9_addTarget_80 mt_X7_append w_m_X9_167 w_in_X7_append w_se_X7_append rfl rfl (Nat.le_of_ble_eq_true rfl) (Nat.le_refl _) (by omega) (by omega) cl_X7.1 e1 hv (fun _ _ q9 => q9) ?_
              rintro _ h7 ⟨z8, rfl, hv⟩ -
              exact j_iret dX9_addTarget_83 rfl hv
            · replace hv := hv.2 hc
              exact j_throw (text := "there are 12 targets") hl0 rfl xw_ISE w_cl_X9_162 (by decide +kernel) dX9_addTarget_61 dX9_addTarget_64 dX9_addTarget_65 dX9_addTarget_67 dX9_addTarget_70 (by omega) (Nat.le_of_ble_eq_true rfl) (by omega) (by omega) hv
          · replace hv := hv.2 hc
            exact j_throw (text := "no such value or need") hl0 rfl xw_IAE w_cl_X9_88 (by decide +kernel) dX9_addTarget_41 dX9_addTarget_44 dX9_addTarget_45 dX9_addTarget_47 dX9_addTarget_50 (by omega) (Nat.le_of_ble_eq_true rfl) (by omega) (by omega) hv
  · replace hv := hv.1 hc
    exact j_throw (text := "no such place") hl0 rfl xw_IOE w_cl_X9_109 (by decide +kernel) dX9_addTarget_8 dX9_addTarget_11 dX9_addTarget_12 dX9_addTarget_14 dX9_addTarget_17 (by omega) (Nat.le_of_ble_eq_true rfl) (by omega) (by omega) hv
set_option maxRecDepth 20000 in
set_option maxHeartbeats 4000000 in
theorem v_X9_target {l : Launch} {d mc ms : Nat} {Q : Option Value → qH → Prop} {QX : String → qH → Prop} (hl0 : l.stackTraces = false) (hkc : 1 ≤ mc) (hks : 6 ≤ ms) (x0 : Nat) (x1 : Int32) (x2 : Int32) {h : qH} (hv : qGR h x0 9 2 (fun r1 => qOB h r1 7 (qCI l (d + 5) mX7_has [.ref r1, .int x1] h 0 0 (fun z3 h2 => qIF (z3 = 0) (QX "java/lang/IndexOutOfBoundsException" h2) (qIF (x2 < 0) (QX "java/lang/IndexOutOfBoundsException" h2) (qIF (x2 ≤ (5 : Int32)) (qGR h2 x0 9 2 (fun r4 => qGR h2 x0 9 6 (fun r5 => qOB h2 r4 7 (qCI l (d + 5) mX7_tell [.ref r4, .int x1, .int x2, .ref r5] h2 0 0 (fun z7 h6 => Q (some (.int z7)) h6))))) (QX "java/lang/IndexOutOfBoundsException" h2))))))) : q_Ct l (d + 6) mX9_target [.ref x0, .int x1, .int x2] h mc ms Q QX := by
  refine q_body (by decide ) (by intro v hm; simp only [List.mem_cons, List.not_mem_nil, or_false] at hm; rcases hm with rfl | rfl | rfl <;> rfl) (Nat.le_of_ble_eq_true rfl) ?_
  refine j_pad 0 rfl ?_
  refine j_aload_n dX9_target_0 rfl rfl ?_
  obtain ⟨fs, r1, e1, e2, hv⟩ := hv
  refine j_getf (k := 2) cl_X9 (by decide) w_f_X9_28 dX9_target_1 e1 e2 ?_
  refine j_iload_n dX9_target_4 rfl rfl ?_
  obtain ⟨⟨fs, e1⟩, hv⟩ := hv
  refine j_virtual (avs := [.int x1]) (rest := []) (i := r1) (kc' := mc) (ks' := ms) dX9_target_5 mt_X7_has w_m_X9_171 w_in_X7_has w_se_X7_has rfl rfl (Nat.le_of_ble_eq_true rfl) (Nat.le_refl _) (by omega) (by omega) cl_X7.1 e1 hv (fun _ _ q9 => q9) ?_
  rintro _ h2 ⟨z3, rfl, hv⟩ -
  refine j_if_eq (tgt := 20) dX9_target_8 (by decide) (fun hc => ?_) (fun hc => ?_)
  · replace hv := hv.1 hc
    exact j_throw (text := "no such target or number") hl0 rfl xw_IOE w_cl_X9_109 (by decide +kernel) dX9_target_20 dX9_target_23 dX9_target_24 dX9_target_26 dX9_target_29 (by omega) (Nat.le_of_ble_eq_true rfl) (by omega) (by omega) hv
  · replace hv := hv.2 hc
    refine j_iload_n dX9_target_11 rfl rfl ?_
    refine j_if_lt (tgt := 20) dX9_target_12 (by decide) (fun hc => ?_) (fun hc => ?_)
    · replace hv := hv.1 hc
      exact j_throw (text := "no such target or number") hl0 rfl xw_IOE w_cl_X9_109 (by decide +kernel) dX9_target_20 dX9_target_23 dX9_target_24 dX9_target_26 dX9_target_29 (by omega) (Nat.le_of_ble_eq_true rfl) (by omega) (by omega) hv
    · replace hv := hv.2 hc
      refine j_iload_n dX9_target_15 rfl rfl ?_
      refine j_iconst (v := (5 : Int32)) dX9_target_16 (by decide) ?_
      refine j_icmp_le (tgt := 30) dX9_target_17 (by decide) (fun hc => ?_) (fun hc => ?_)
      · replace hv := hv.1 hc
        refine j_aload_n dX9_target_30 rfl rfl ?_
        obtain ⟨fs, r4, e1, e2, hv⟩ := hv
        refine j_getf (k := 2) cl_X9 (by decide) w_f_X9_28 dX9_target_31 e1 e2 ?_
        refine j_iload_n dX9_target_34 rfl rfl ?_
        refine j_iload_n dX9_target_35 rfl rfl ?_
        refine j_aload_n dX9_target_36 rfl rfl ?_
        obtain ⟨fs, r5, e1, e2, hv⟩ := hv
        refine j_getf (k := 6) cl_X9 (by decide) w_f_X9_60 dX9_target_37 e1 e2 ?_
        obtain ⟨⟨fs, e1⟩, hv⟩ := hv
        refine j_virtual (avs := [.int x1, .int x2, .ref r5]) (rest := []) (i := r4) (kc' := mc) (ks' := ms) dX9_target_40 mt_X7_tell w_m_X9_177 w_in_X7_tell w_se_X7_tell rfl rfl (Nat.le_of_ble_eq_true rfl) (Nat.le_refl _) (by omega) (by omega) cl_X7.1 e1 hv (fun _ _ q9 => q9) ?_
        rintro _ h6 ⟨z7, rfl, hv⟩ -
        exact j_iret dX9_target_43 rfl hv
      · replace hv := hv.2 hc
        exact j_throw (text := "no such target or number") hl0 rfl xw_IOE w_cl_X9_109 (by decide +kernel) dX9_target_20 dX9_target_23 dX9_target_24 dX9_target_26 dX9_target_29 (by omega) (Nat.le_of_ble_eq_true rfl) (by omega) (by omega) hv
set_option maxRecDepth 20000 in
set_option maxHeartbeats 4000000 in
theorem v_X9_addPass {l : Launch} {d mc ms : Nat} {Q : Option Value → qH → Prop} {QX : String → qH → Prop} (hl0 : l.stackTraces = false) (hkc : 1 ≤ mc) (hks : 6 ≤ ms) (x0 : Nat) (x1 : Int32) (x2 : Int32) (x3 : Int32) {h : qH} (hv : qIF (x1 < 0) (QX "java/lang/IllegalArgumentException" h) (qIF ((1440 : Int32) ≤ x1) (QX "java/lang/IllegalArgumentException" h) (qIF (x2 ≤ x1) (QX "java/lang/IllegalArgumentException" h) (qIF ((1440 : Int32) < x2) (QX "java/lang/IllegalArgumentException" h) (qIF (x3 < (1 : Int32)) (QX "java/lang/IllegalArgumentException" h) (qIF (x3 ≤ (20 : Int32)) (qGR h x0 9 3 (fun r1 => qOB h r1 4 (qCI l (d + 5) mX4_isFull [.ref r1] h 0 0 (fun z3 h2 => qIF (z3 = 0) (qGR h2 x0 9 3 (fun r4 => qOB h2 r4 4 (qCI l (d + 5) mX4_append [.ref r4, .int x1, .int x2, .int x3] h2 0 0 (fun z6 h5 => Q (some (.int z6)) h5)))) (QX "java/lang/IllegalStateException" h2))))) (QX "java/lang/IllegalArgumentException" h))))))) : q_Ct l (d + 6) mX9_addPass [.ref x0, .int x1, .int x2, .int x3] h mc ms Q QX := by
  refine q_body (by decide ) (by intro v hm; simp only [List.mem_cons, List.not_mem_nil, or_false] at hm; rcases hm with rfl | rfl | rfl | rfl <;> rfl) (Nat.le_of_ble_eq_true rfl) ?_
  refine j_pad 0 rfl ?_
  refine j_iload_n dX9_addPass_0 rfl rfl ?_
  refine j_if_lt (tgt := 34) dX9_addPass_1 (by decide) (fun hc => ?_) (fun hc => ?_)
  · replace hv := hv.1 hc
    exact j_throw (text := "no such pass") hl0 rfl xw_IAE w_cl_X9_88 (by decide +kernel) dX9_addPass_34 dX9_addPass_37 dX9_addPass_38 dX9_addPass_40 dX9_addPass_43 (by omega) (Nat.le_of_ble_eq_true rfl) (by omega) (by omega) hv
  · replace hv := hv.2 hc
    refine j_iload_n dX9_addPass_4 rfl rfl ?_
    refine j_sipush (v := (1440 : Int32)) dX9_addPass_5 (by decide) ?_
    refine j_icmp_ge (tgt := 34) dX9_addPass_8 (by decide) (fun hc => ?_) (fun hc => ?_)
    · replace hv := hv.1 hc
      exact j_throw (text := "no such pass") hl0 rfl xw_IAE w_cl_X9_88 (by decide +kernel) dX9_addPass_34 dX9_addPass_37 dX9_addPass_38 dX9_addPass_40 dX9_addPass_43 (by omega) (Nat.le_of_ble_eq_true rfl) (by omega) (by omega) hv
    · replace hv := hv.2 hc
      refine j_iload_n dX9_addPass_11 rfl rfl ?_
      refine j_iload_n dX9_addPass_12 rfl rfl ?_
      refine j_icmp_le (tgt := 34) dX9_addPass_13 (by decide) (fun hc => ?_) (fun hc => ?_)
      · replace hv := hv.1 hc
        exact j_throw (text := "no such pass") hl0 rfl xw_IAE w_cl_X9_88 (by decide +kernel) dX9_addPass_34 dX9_addPass_37 dX9_addPass_38 dX9_addPass_40 dX9_addPass_43 (by omega) (Nat.le_of_ble_eq_true rfl) (by omega) (by omega) hv
      · replace hv := hv.2 hc
        refine j_iload_n dX9_addPass_16 rfl rfl ?_
        refine j_sipush (v := (1440 : Int32)) dX9_addPass_17 (by decide) ?_
        refine j_icmp_gt (tgt := 34) dX9_addPass_20 (by decide) (fun hc => ?_) (fun hc => ?_)
        · replace hv := hv.1 hc
          exact j_throw (text := "no such pass") hl0 rfl xw_IAE w_cl_X9_88 (by decide +kernel) dX9_addPass_34 dX9_addPass_37 dX9_addPass_38 dX9_addPass_40 dX9_addPass_43 (by omega) (Nat.le_of_ble_eq_true rfl) (by omega) (by omega) hv
        · replace hv := hv.2 hc
          refine j_iload_n dX9_addPass_23 rfl rfl ?_
          refine j_iconst (v := (1 : Int32)) dX9_addPass_24 (by decide) ?_
          refine j_icmp_lt (tgt := 34) dX9_addPass_25 (by decide) (fun hc => ?_) (fun hc => ?_)
          · replace hv := hv.1 hc
            exact j_throw (text := "no such pass") hl0 rfl xw_IAE w_cl_X9_88 (by decide +kernel) dX9_addPass_34 dX9_addPass_37 dX9_addPass_38 dX9_addPass_40 dX9_addPass_43 (by omega) (Nat.le_of_ble_eq_true rfl) (by omega) (by omega) hv
          · replace hv := hv.2 hc
            refine j_iload_n dX9_addPass_28 rfl rfl ?_
            refine j_bipush (v := (20 : Int32)) dX9_addPass_29 (by decide) ?_
            refine j_icmp_le (tgt := 44) dX9_addPass_31 (by decide) (fun hc => ?_) (fun hc => ?_)
            · replace hv := hv.1 hc
              refine j_aload_n dX9_addPass_44 rfl rfl ?_
              obtain ⟨fs, r1, e1, e2, hv⟩ := hv
              refine j_getf (k := 3) cl_X9 (by decide) w_f_X9_35 dX9_addPass_45 e1 e2 ?_
              obtain ⟨⟨fs, e1⟩, hv⟩ := hv
              refine j_virtual (avs := []) (rest := []) (i := r1) (kc' := mc) (ks' := ms) dX9_addPass_48 mt_X4_isFull w_m_X9_183 w_in_X4_isFull w_se_X4_isFull rfl rfl (Nat.le_of_ble_eq_true rfl) (Nat.le_refl _) (by omega) (by omega) cl_X4.1 e1 hv (fun _ _ q9 => q9) ?_
              rintro _ h2 ⟨z3, rfl, hv⟩ -
              refine j_if_eq (tgt := 64) dX9_addPass_51 (by decide) (fun hc => ?_) (fun hc => ?_)
              · replace hv := hv.1 hc
                refine j_aload_n dX9_addPass_64 rfl rfl ?_
                obtain ⟨fs, r4, e1, e2, hv⟩ := hv
                refine j_getf (k := 3) cl_X9 (by decide) w_f_X9_35 dX9_addPass_65 e1 e2 ?_
                refine j_iload_n dX9_addPass_68 rfl rfl ?_
                refine j_iload_n dX9_addPass_69 rfl rfl ?_
                refine j_iload_n dX9_addPass_70 rfl rfl ?_
                obtain ⟨⟨fs, e1⟩, hv⟩ := hv
                refine j_virtual (avs := [.int x1, .int x2, .int x3]) (rest := []) (i := r4) (kc' := mc) (ks' := ms) dX9_addPass_71 mt_X4_append w_m_X9_186 w_in_X4_append w_se_X4_append rfl rfl (Nat.le_of_ble_eq_true rfl) (Nat.le_refl _) (by omega) (by omega) cl_X4.1 e1 hv (fun _ _ q9 => q9) ?_
                rintro _ h5 ⟨z6, rfl, hv⟩ -
                exact j_iret dX9_addPass_74 rfl hv
              · replace hv := hv.2 hc
                exact j_throw (text := "there are 6 passes") hl0 rfl xw_ISE w_cl_X9_162 (by decide +kernel) dX9_addPass_54 dX9_addPass_57 dX9_addPass_58 dX9_addPass_60 dX9_addPass_63 (by omega) (Nat.le_of_ble_eq_true rfl) (by omega) (by omega) hv
            · replace hv := hv.2 hc
              exact j_throw (text := "no such pass") hl0 rfl xw_IAE w_cl_X9_88 (by decide +kernel) dX9_addPass_34 dX9_addPass_37 dX9_addPass_38 dX9_addPass_40 dX9_addPass_43 (by omega) (Nat.le_of_ble_eq_true rfl) (by omega) (by omega) hv
set_option maxRecDepth 20000 in
set_option maxHeartbeats 4000000 in
theorem v_X9_setRover {l : Launch} {d mc ms : Nat} {Q : Option Value → qH → Prop} {QX : String → qH → Prop} (hl0 : l.stackTraces = false) (hkc : 1 ≤ mc) (hks : 6 ≤ ms) (x0 : Nat) (x1 : Int32) (x2 : Int32) {h : qH} (hv : qIF (x1 < (100 : Int32)) (QX "java/lang/IllegalArgumentException" h) (qIF ((20000 : Int32) < x1) (QX "java/lang/IllegalArgumentException" h) (qIF (x2 < (40 : Int32)) (QX "java/lang/IllegalArgumentException" h) (qIF (x2 ≤ (5000 : Int32)) (qGR h x0 9 6 (fun r1 => qOB h r1 6 (qCI l (d + 5) mX6_unitsKept [.ref r1] h 0 0 (fun z3 h2 => qIF (z3 ≤ x2) (qGR h2 x0 9 4 (fun r4 => qGI h2 r4 0 5 (fun z5 => qGR h2 x0 9 4 (fun r6 => qPI h2 r6 0 5 x1 (fun h7 => qGR h7 x0 9 4 (fun r8 => qPI h7 r8 0 6 x2 (fun h9 => qGR h9 x0 9 6 (fun r10 => qOB h9 r10 6 (qCV l (d + 5) mX6_limitBattery [.ref r10, .int x1] h9 0 0 (fun h11 => Q (some (.int z5)) h11)))))))))) (QX "java/lang/IllegalStateException" h2))))) (QX "java/lang/IllegalArgumentException" h))))) : q_Ct l (d + 6) mX9_setRover [.ref x0, .int x1, .int x2] h mc ms Q QX := by
  refine q_body (by decide ) (by intro v hm; simp only [List.mem_cons, List.not_mem_nil, or_false] at hm; rcases hm with rfl | rfl | rfl <;> rfl) (Nat.le_of_ble_eq_true rfl) ?_
  refine j_pad 1 rfl ?_
  refine j_iload_n dX9_setRover_0 rfl rfl ?_
  refine j_bipush (v := (100 : Int32)) dX9_setRover_1 (by decide) ?_
  refine j_icmp_lt (tgt := 26) dX9_setRover_3 (by decide) (fun hc => ?_) (fun hc => ?_)
  · replace hv := hv.1 hc
    exact j_throw (text := "no such capacity or memory") hl0 rfl xw_IAE w_cl_X9_88 (by decide +kernel) dX9_setRover_26 dX9_setRover_29 dX9_setRover_30 dX9_setRover_32 dX9_setRover_35 (by omega) (Nat.le_of_ble_eq_true rfl) (by omega) (by omega) hv
  · replace hv := hv.2 hc
    refine j_iload_n dX9_setRover_6 rfl rfl ?_
    refine j_sipush (v := (20000 : Int32)) dX9_setRover_7 (by decide) ?_
    refine j_icmp_gt (tgt := 26) dX9_setRover_10 (by decide) (fun hc => ?_) (fun hc => ?_)
    · replace hv := hv.1 hc
      exact j_throw (text := "no such capacity or memory") hl0 rfl xw_IAE w_cl_X9_88 (by decide +kernel) dX9_setRover_26 dX9_setRover_29 dX9_setRover_30 dX9_setRover_32 dX9_setRover_35 (by omega) (Nat.le_of_ble_eq_true rfl) (by omega) (by omega) hv
    · replace hv := hv.2 hc
      refine j_iload_n dX9_setRover_13 rfl rfl ?_
      refine j_bipush (v := (40 : Int32)) dX9_setRover_14 (by decide) ?_
      refine j_icmp_lt (tgt := 26) dX9_setRover_16 (by decide) (fun hc => ?_) (fun hc => ?_)
      · replace hv := hv.1 hc
        exact j_throw (text := "no such capacity or memory") hl0 rfl xw_IAE w_cl_X9_88 (by decide +kernel) dX9_setRover_26 dX9_setRover_29 dX9_setRover_30 dX9_setRover_32 dX9_setRover_35 (by omega) (Nat.le_of_ble_eq_true rfl) (by omega) (by omega) hv
      · replace hv := hv.2 hc
        refine j_iload_n dX9_setRover_19 rfl rfl ?_
        refine j_sipush (v := (5000 : Int32)) dX9_setRover_20 (by decide) ?_
        refine j_icmp_le (tgt := 36) dX9_setRover_23 (by decide) (fun hc => ?_) (fun hc => ?_)
        · replace hv := hv.1 hc
          refine j_aload_n dX9_setRover_36 rfl rfl ?_
          obtain ⟨fs, r1, e1, e2, hv⟩ := hv
          refine j_getf (k := 6) cl_X9 (by decide) w_f_X9_60 dX9_setRover_37 e1 e2 ?_
          obtain ⟨⟨fs, e1⟩, hv⟩ := hv
          refine j_virtual (avs := []) (rest := []) (i := r1) (kc' := mc) (ks' := ms) dX9_setRover_40 mt_X6_unitsKept w_m_X9_208 w_in_X6_unitsKept w_se_X6_unitsKept rfl rfl (Nat.le_of_ble_eq_true rfl) (Nat.le_refl _) (by omega) (by omega) cl_X6.1 e1 hv (fun _ _ q9 => q9) ?_
          rintro _ h2 ⟨z3, rfl, hv⟩ -
          refine j_iload_n dX9_setRover_43 rfl rfl ?_
          refine j_icmp_le (tgt := 57) dX9_setRover_44 (by decide) (fun hc => ?_) (fun hc => ?_)
          · replace hv := hv.1 hc
            refine j_aload_n dX9_setRover_57 rfl rfl ?_
            obtain ⟨fs, r4, e1, e2, hv⟩ := hv
            refine j_getf (k := 4) cl_X9 (by decide) w_f_X9_44 dX9_setRover_58 e1 e2 ?_
            obtain ⟨fs, z5, e1, e2, hv⟩ := hv
            refine j_getfN (k := 5) cl_X0 (by decide) w_fn_X9_214 dX9_setRover_61 e1 e2 ?_
            refine j_istore_n dX9_setRover_64 rfl (by decide) rfl rfl ?_
            refine j_aload_n dX9_setRover_65 rfl rfl ?_
            obtain ⟨fs, r6, e1, e2, hv⟩ := hv
            refine j_getf (k := 4) cl_X9 (by decide) w_f_X9_44 dX9_setRover_66 e1 e2 ?_
            refine j_iload_n dX9_setRover_69 rfl rfl ?_
            obtain ⟨fs, e1, e2, hv⟩ := hv
            refine j_putN (k := 5) (ty0 := tyX0) cl_X0 (pf_X0_5) w_fn_X9_214 dX9_setRover_70 (fun g ad => q_nI g ad _) e1 e2 ?_
            generalize q_set h2 r6 _ = h7 at hv ⊢
            refine j_aload_n dX9_setRover_73 rfl rfl ?_
            obtain ⟨fs, r8, e1, e2, hv⟩ := hv
            refine j_getf (k := 4) cl_X9 (by decide) w_f_X9_44 dX9_setRover_74 e1 e2 ?_
            refine j_iload_n dX9_setRover_77 rfl rfl ?_
            obtain ⟨fs, e1, e2, hv⟩ := hv
            refine j_putN (k := 6) (ty0 := tyX0) cl_X0 (pf_X0_6) w_fn_X9_217 dX9_setRover_78 (fun g ad => q_nI g ad _) e1 e2 ?_
            generalize q_set h7 r8 _ = h9 at hv ⊢
            refine j_aload_n dX9_setRover_81 rfl rfl ?_
            obtain ⟨fs, r10, e1, e2, hv⟩ := hv
            refine j_getf (k := 6) cl_X9 (by decide) w_f_X9_60 dX9_setRover_82 e1 e2 ?_
            refine j_iload_n dX9_setRover_85 rfl rfl ?_
            obtain ⟨⟨fs, e1⟩, hv⟩ := hv
            refine j_virtual (avs := [.int x1]) (rest := []) (i := r10) (kc' := mc) (ks' := ms) dX9_setRover_86 mt_X6_limitBattery w_m_X9_220 w_in_X6_limitBattery w_se_X6_limitBattery rfl rfl (Nat.le_of_ble_eq_true rfl) (Nat.le_refl _) (by omega) (by omega) cl_X6.1 e1 hv (fun _ _ q9 => q9) ?_
            rintro _ h11 ⟨rfl, hv⟩ -
            refine j_iload_n dX9_setRover_89 rfl rfl ?_
            exact j_iret dX9_setRover_90 rfl hv
          · replace hv := hv.2 hc
            exact j_throw (text := "there are more data than memory") hl0 rfl xw_ISE w_cl_X9_162 (by decide +kernel) dX9_setRover_47 dX9_setRover_50 dX9_setRover_51 dX9_setRover_53 dX9_setRover_56 (by omega) (Nat.le_of_ble_eq_true rfl) (by omega) (by omega) hv
        · replace hv := hv.2 hc
          exact j_throw (text := "no such capacity or memory") hl0 rfl xw_IAE w_cl_X9_88 (by decide +kernel) dX9_setRover_26 dX9_setRover_29 dX9_setRover_30 dX9_setRover_32 dX9_setRover_35 (by omega) (Nat.le_of_ble_eq_true rfl) (by omega) (by omega) hv
set_option maxRecDepth 20000 in
set_option maxHeartbeats 4000000 in
theorem v_X9_rover {l : Launch} {d mc ms : Nat} {Q : Option Value → qH → Prop} {QX : String → qH → Prop} (hl0 : l.stackTraces = false) (hkc : 1 ≤ mc) (hks : 6 ≤ ms) (x0 : Nat) (x1 : Int32) {h : qH} (hv : qIF (x1 < 0) (QX "java/lang/IndexOutOfBoundsException" h) (qIF (x1 ≤ (9 : Int32)) (qGR h x0 9 6 (fun r1 => qOB h r1 6 (qCI l (d + 5) mX6_tell [.ref r1, .int x1] h 0 0 (fun z3 h2 => Q (some (.int z3)) h2)))) (QX "java/lang/IndexOutOfBoundsException" h))) : q_Ct l (d + 6) mX9_rover [.ref x0, .int x1] h mc ms Q QX := by
  refine q_body (by decide ) (by intro v hm; simp only [List.mem_cons, List.not_mem_nil, or_false] at hm; rcases hm with rfl | rfl <;> rfl) (Nat.le_of_ble_eq_true rfl) ?_
  refine j_pad 0 rfl ?_
  refine j_iload_n dX9_rover_0 rfl rfl ?_
  refine j_if_lt (tgt := 10) dX9_rover_1 (by decide) (fun hc => ?_) (fun hc => ?_)
  · replace hv := hv.1 hc
    exact j_throw (text := "no such number") hl0 rfl xw_IOE w_cl_X9_109 (by decide +kernel) dX9_rover_10 dX9_rover_13 dX9_rover_14 dX9_rover_16 dX9_rover_19 (by omega) (Nat.le_of_ble_eq_true rfl) (by omega) (by omega) hv
  · replace hv := hv.2 hc
    refine j_iload_n dX9_rover_4 rfl rfl ?_
    refine j_bipush (v := (9 : Int32)) dX9_rover_5 (by decide) ?_
    refine j_icmp_le (tgt := 20) dX9_rover_7 (by decide) (fun hc => ?_) (fun hc => ?_)
    · replace hv := hv.1 hc
      refine j_aload_n dX9_rover_20 rfl rfl ?_
      obtain ⟨fs, r1, e1, e2, hv⟩ := hv
      refine j_getf (k := 6) cl_X9 (by decide) w_f_X9_60 dX9_rover_21 e1 e2 ?_
      refine j_iload_n dX9_rover_24 rfl rfl ?_
      obtain ⟨⟨fs, e1⟩, hv⟩ := hv
      refine j_virtual (avs := [.int x1]) (rest := []) (i := r1) (kc' := mc) (ks' := ms) dX9_rover_25 mt_X6_tell w_m_X9_225 w_in_X6_tell w_se_X6_tell rfl rfl (Nat.le_of_ble_eq_true rfl) (Nat.le_refl _) (by omega) (by omega) cl_X6.1 e1 hv (fun _ _ q9 => q9) ?_
      rintro _ h2 ⟨z3, rfl, hv⟩ -
      exact j_iret dX9_rover_28 rfl hv
    · replace hv := hv.2 hc
      exact j_throw (text := "no such number") hl0 rfl xw_IOE w_cl_X9_109 (by decide +kernel) dX9_rover_10 dX9_rover_13 dX9_rover_14 dX9_rover_16 dX9_rover_19 (by omega) (Nat.le_of_ble_eq_true rfl) (by omega) (by omega) hv
set_option maxRecDepth 20000 in
set_option maxHeartbeats 4000000 in
theorem v_X9_piece {l : Launch} {d mc ms : Nat} {Q : Option Value → qH → Prop} {QX : String → qH → Prop} (hl0 : l.stackTraces = false) (hkc : 1 ≤ mc) (hks : 6 ≤ ms) (x0 : Nat) (x1 : Int32) (x2 : Int32) {h : qH} (hv : qGR h x0 9 6 (fun r1 => qOB h r1 6 (qCI l (d + 5) mX6_hasPiece [.ref r1, .int x1] h 0 0 (fun z3 h2 => qIF (z3 = 0) (QX "java/lang/IndexOutOfBoundsException" h2) (qIF (x2 < 0) (QX "java/lang/IndexOutOfBoundsException" h2) (qIF (x2 ≤ (3 : Int32)) (qGR h2 x0 9 6 (fun r4 => qOB h2 r4 6 (qCI l (d + 5) mX6_tellPiece [.ref r4, .int x1, .int x2] h2 0 0 (fun z6 h5 => Q (some (.int z6)) h5)))) (QX "java/lang/IndexOutOfBoundsException" h2))))))) : q_Ct l (d + 6) mX9_piece [.ref x0, .int x1, .int x2] h mc ms Q QX := by
  refine q_body (by decide ) (by intro v hm; simp only [List.mem_cons, List.not_mem_nil, or_false] at hm; rcases hm with rfl | rfl | rfl <;> rfl) (Nat.le_of_ble_eq_true rfl) ?_
  refine j_pad 0 rfl ?_
  refine j_aload_n dX9_piece_0 rfl rfl ?_
  obtain ⟨fs, r1, e1, e2, hv⟩ := hv
  refine j_getf (k := 6) cl_X9 (by decide) w_f_X9_60 dX9_piece_1 e1 e2 ?_
  refine j_iload_n dX9_piece_4 rfl rfl ?_
  obtain ⟨⟨fs, e1⟩, hv⟩ := hv
  refine j_virtual (avs := [.int x1]) (rest := []) (i := r1) (kc' := mc) (ks' := ms) dX9_piece_5 mt_X6_hasPiece w_m_X9_227 w_in_X6_hasPiece w_se_X6_hasPiece rfl rfl (Nat.le_of_ble_eq_true rfl) (Nat.le_refl _) (by omega) (by omega) cl_X6.1 e1 hv (fun _ _ q9 => q9) ?_
  rintro _ h2 ⟨z3, rfl, hv⟩ -
  refine j_if_eq (tgt := 20) dX9_piece_8 (by decide) (fun hc => ?_) (fun hc => ?_)
  · replace hv := hv.1 hc
    exact j_throw (text := "no such piece or number") hl0 rfl xw_IOE w_cl_X9_109 (by decide +kernel) dX9_piece_20 dX9_piece_23 dX9_piece_24 dX9_piece_26 dX9_piece_29 (by omega) (Nat.le_of_ble_eq_true rfl) (by omega) (by omega) hv
  · replace hv := hv.2 hc
    refine j_iload_n dX9_piece_11 rfl rfl ?_
    refine j_if_lt (tgt := 20) dX9_piece_12 (by decide) (fun hc => ?_) (fun hc => ?_)
    · replace hv := hv.1 hc
      exact j_throw (text := "no such piece or number") hl0 rfl xw_IOE w_cl_X9_109 (by decide +kernel) dX9_piece_20 dX9_piece_23 dX9_piece_24 dX9_piece_26 dX9_piece_29 (by omega) (Nat.le_of_ble_eq_true rfl) (by omega) (by omega) hv
    · replace hv := hv.2 hc
      refine j_iload_n dX9_piece_15 rfl rfl ?_
      refine j_iconst (v := (3 : Int32)) dX9_piece_16 (by decide) ?_
      refine j_icmp_le (tgt := 30) dX9_piece_17 (by decide) (fun hc => ?_) (fun hc => ?_)
      · replace hv := hv.1 hc
        refine j_aload_n dX9_piece_30 rfl rfl ?_
        obtain ⟨fs, r4, e1, e2, hv⟩ := hv
        refine j_getf (k := 6) cl_X9 (by decide) w_f_X9_60 dX9_piece_31 e1 e2 ?_
        refine j_iload_n dX9_piece_34 rfl rfl ?_
        refine j_iload_n dX9_piece_35 rfl rfl ?_
        obtain ⟨⟨fs, e1⟩, hv⟩ := hv
        refine j_virtual (avs := [.int x1, .int x2]) (rest := []) (i := r4) (kc' := mc) (ks' := ms) dX9_piece_36 mt_X6_tellPiece w_m_X9_232 w_in_X6_tellPiece w_se_X6_tellPiece rfl rfl (Nat.le_of_ble_eq_true rfl) (Nat.le_refl _) (by omega) (by omega) cl_X6.1 e1 hv (fun _ _ q9 => q9) ?_
        rintro _ h5 ⟨z6, rfl, hv⟩ -
        exact j_iret dX9_piece_39 rfl hv
      · replace hv := hv.2 hc
        exact j_throw (text := "no such piece or number") hl0 rfl xw_IOE w_cl_X9_109 (by decide +kernel) dX9_piece_20 dX9_piece_23 dX9_piece_24 dX9_piece_26 dX9_piece_29 (by omega) (Nat.le_of_ble_eq_true rfl) (by omega) (by omega) hv
set_option maxRecDepth 20000 in
set_option maxHeartbeats 4000000 in
theorem v_X9_activity {l : Launch} {d mc ms : Nat} {Q : Option Value → qH → Prop} {QX : String → qH → Prop} (hl0 : l.stackTraces = false) (hkc : 1 ≤ mc) (hks : 6 ≤ ms) (x0 : Nat) (x1 : Int32) (x2 : Int32) {h : qH} (hv : qGR h x0 9 8 (fun r1 => qOB h r1 5 (qCI l (d + 5) mX5_has [.ref r1, .int x1] h 0 0 (fun z3 h2 => qIF (z3 = 0) (QX "java/lang/IndexOutOfBoundsException" h2) (qIF (x2 < 0) (QX "java/lang/IndexOutOfBoundsException" h2) (qIF (x2 ≤ (2 : Int32)) (qGR h2 x0 9 8 (fun r4 => qOB h2 r4 5 (qCI l (d + 5) mX5_tell [.ref r4, .int x1, .int x2] h2 0 0 (fun z6 h5 => Q (some (.int z6)) h5)))) (QX "java/lang/IndexOutOfBoundsException" h2))))))) : q_Ct l (d + 6) mX9_activity [.ref x0, .int x1, .int x2] h mc ms Q QX := by
  refine q_body (by decide ) (by intro v hm; simp only [List.mem_cons, List.not_mem_nil, or_false] at hm; rcases hm with rfl | rfl | rfl <;> rfl) (Nat.le_of_ble_eq_true rfl) ?_
  refine j_pad 0 rfl ?_
  refine j_aload_n dX9_activity_0 rfl rfl ?_
  obtain ⟨fs, r1, e1, e2, hv⟩ := hv
  refine j_getf (k := 8) cl_X9 (by decide) w_f_X9_70 dX9_activity_1 e1 e2 ?_
  refine j_iload_n dX9_activity_4 rfl rfl ?_
  obtain ⟨⟨fs, e1⟩, hv⟩ := hv
  refine j_virtual (avs := [.int x1]) (rest := []) (i := r1) (kc' := mc) (ks' := ms) dX9_activity_5 mt_X5_has w_m_X9_265 w_in_X5_has w_se_X5_has rfl rfl (Nat.le_of_ble_eq_true rfl) (Nat.le_refl _) (by omega) (by omega) cl_X5.1 e1 hv (fun _ _ q9 => q9) ?_
  rintro _ h2 ⟨z3, rfl, hv⟩ -
  refine j_if_eq (tgt := 20) dX9_activity_8 (by decide) (fun hc => ?_) (fun hc => ?_)
  · replace hv := hv.1 hc
    exact j_throwW (text := "no such activity or number") hl0 rfl xw_IOE w_cl_X9_109 (by decide +kernel) dX9_activity_20 dX9_activity_23 dX9_activity_24 dX9_activity_27 dX9_activity_30 (by omega) (Nat.le_of_ble_eq_true rfl) (by omega) (by omega) hv
  · replace hv := hv.2 hc
    refine j_iload_n dX9_activity_11 rfl rfl ?_
    refine j_if_lt (tgt := 20) dX9_activity_12 (by decide) (fun hc => ?_) (fun hc => ?_)
    · replace hv := hv.1 hc
      exact j_throwW (text := "no such activity or number") hl0 rfl xw_IOE w_cl_X9_109 (by decide +kernel) dX9_activity_20 dX9_activity_23 dX9_activity_24 dX9_activity_27 dX9_activity_30 (by omega) (Nat.le_of_ble_eq_true rfl) (by omega) (by omega) hv
    · replace hv := hv.2 hc
      refine j_iload_n dX9_activity_15 rfl rfl ?_
      refine j_iconst (v := (2 : Int32)) dX9_activity_16 (by decide) ?_
      refine j_icmp_le (tgt := 31) dX9_activity_17 (by decide) (fun hc => ?_) (fun hc => ?_)
      · replace hv := hv.1 hc
        refine j_aload_n dX9_activity_31 rfl rfl ?_
        obtain ⟨fs, r4, e1, e2, hv⟩ := hv
        refine j_getf (k := 8) cl_X9 (by decide) w_f_X9_70 dX9_activity_32 e1 e2 ?_
        refine j_iload_n dX9_activity_35 rfl rfl ?_
        refine j_iload_n dX9_activity_36 rfl rfl ?_
        obtain ⟨⟨fs, e1⟩, hv⟩ := hv
        refine j_virtual (avs := [.int x1, .int x2]) (rest := []) (i := r4) (kc' := mc) (ks' := ms) dX9_activity_37 mt_X5_tell w_m_X9_266 w_in_X5_tell w_se_X5_tell rfl rfl (Nat.le_of_ble_eq_true rfl) (Nat.le_refl _) (by omega) (by omega) cl_X5.1 e1 hv (fun _ _ q9 => q9) ?_
        rintro _ h5 ⟨z6, rfl, hv⟩ -
        exact j_iret dX9_activity_40 rfl hv
      · replace hv := hv.2 hc
        exact j_throwW (text := "no such activity or number") hl0 rfl xw_IOE w_cl_X9_109 (by decide +kernel) dX9_activity_20 dX9_activity_23 dX9_activity_24 dX9_activity_27 dX9_activity_30 (by omega) (Nat.le_of_ble_eq_true rfl) (by omega) (by omega) hv
set_option maxRecDepth 20000 in
set_option maxHeartbeats 4000000 in
theorem v_X9_count {l : Launch} {d mc ms : Nat} {Q : Option Value → qH → Prop} {QX : String → qH → Prop} (hl0 : l.stackTraces = false) (hkc : 1 ≤ mc) (hks : 6 ≤ ms) (x0 : Nat) (x1 : Int32) {h : qH} (hv : qIF (x1 < 0) (QX "java/lang/IndexOutOfBoundsException" h) (qIF (x1 ≤ (3 : Int32)) (qOB h x0 9 (qCI l (d + 5) mX9_numberOf [.ref x0, .int x1] h 0 0 (fun z2 h1 => Q (some (.int z2)) h1))) (QX "java/lang/IndexOutOfBoundsException" h))) : q_Ct l (d + 6) mX9_count [.ref x0, .int x1] h mc ms Q QX := by
  refine q_body (by decide ) (by intro v hm; simp only [List.mem_cons, List.not_mem_nil, or_false] at hm; rcases hm with rfl | rfl <;> rfl) (Nat.le_of_ble_eq_true rfl) ?_
  refine j_pad 0 rfl ?_
  refine j_iload_n dX9_count_0 rfl rfl ?_
  refine j_if_lt (tgt := 9) dX9_count_1 (by decide) (fun hc => ?_) (fun hc => ?_)
  · replace hv := hv.1 hc
    exact j_throw (text := "no such number") hl0 rfl xw_IOE w_cl_X9_109 (by decide +kernel) dX9_count_9 dX9_count_12 dX9_count_13 dX9_count_15 dX9_count_18 (by omega) (Nat.le_of_ble_eq_true rfl) (by omega) (by omega) hv
  · replace hv := hv.2 hc
    refine j_iload_n dX9_count_4 rfl rfl ?_
    refine j_iconst (v := (3 : Int32)) dX9_count_5 (by decide) ?_
    refine j_icmp_le (tgt := 19) dX9_count_6 (by decide) (fun hc => ?_) (fun hc => ?_)
    · replace hv := hv.1 hc
      refine j_aload_n dX9_count_19 rfl rfl ?_
      refine j_iload_n dX9_count_20 rfl rfl ?_
      obtain ⟨⟨fs, e1⟩, hv⟩ := hv
      refine j_virtual (avs := [.int x1]) (rest := []) (i := x0) (kc' := mc) (ks' := ms) dX9_count_21 mt_X9_numberOf w_m_X9_275 w_in_X9_numberOf w_se_X9_numberOf rfl rfl (Nat.le_of_ble_eq_true rfl) (Nat.le_refl _) (by omega) (by omega) cl_X9.1 e1 hv (fun _ _ q9 => q9) ?_
      rintro _ h1 ⟨z2, rfl, hv⟩ -
      exact j_iret dX9_count_24 rfl hv
    · replace hv := hv.2 hc
      exact j_throw (text := "no such number") hl0 rfl xw_IOE w_cl_X9_109 (by decide +kernel) dX9_count_9 dX9_count_12 dX9_count_13 dX9_count_15 dX9_count_18 (by omega) (Nat.le_of_ble_eq_true rfl) (by omega) (by omega) hv
set_option maxRecDepth 20000 in
set_option maxHeartbeats 4000000 in
theorem v_X9_check {l : Launch} {d mc ms : Nat} {Q : Option Value → qH → Prop} {QX : String → qH → Prop} (x0 : Nat) {h : qH} (hv : qGR h x0 9 8 (fun r1 => qGI h r1 5 3 (fun z2 => qOB h x0 9 (qCI l (d + 6) mX9_doOnCopy [.ref x0, .int z2] h 0 0 (fun z4 h3 => qGR h3 x0 9 8 (fun r5 => qGI h3 r5 5 3 (fun z6 => qIF (z6 ≤ z4) (Q (some (.int (-1 : Int32))) h3) (Q (some (.int z4)) h3)))))))) : q_Ct l (d + 7) mX9_check [.ref x0] h mc ms Q QX := by
  refine q_body (by decide ) (by intro v hm; simp only [List.mem_cons, List.not_mem_nil, or_false] at hm; subst hm; rfl) (Nat.le_of_ble_eq_true rfl) ?_
  refine j_pad 1 rfl ?_
  refine j_aload_n dX9_check_0 rfl rfl ?_
  refine j_aload_n dX9_check_1 rfl rfl ?_
  obtain ⟨fs, r1, e1, e2, hv⟩ := hv
  refine j_getf (k := 8) cl_X9 (by decide) w_f_X9_70 dX9_check_2 e1 e2 ?_
  obtain ⟨fs, z2, e1, e2, hv⟩ := hv
  refine j_getfN (k := 3) cl_X5 (by decide) w_fn_X9_247 dX9_check_5 e1 e2 ?_
  obtain ⟨⟨fs, e1⟩, hv⟩ := hv
  refine j_virtual (avs := [.int z2]) (rest := []) (i := x0) (kc' := mc) (ks' := ms) dX9_check_8 mt_X9_doOnCopy w_m_X9_278 w_in_X9_doOnCopy w_se_X9_doOnCopy rfl rfl (Nat.le_of_ble_eq_true rfl) (Nat.le_refl _) (by omega) (by omega) cl_X9.1 e1 hv (fun _ _ q9 => q9) ?_
  rintro _ h3 ⟨z4, rfl, hv⟩ -
  refine j_istore_n dX9_check_11 rfl (by decide) rfl rfl ?_
  refine j_iload_n dX9_check_12 rfl rfl ?_
  refine j_aload_n dX9_check_13 rfl rfl ?_
  obtain ⟨fs, r5, e1, e2, hv⟩ := hv
  refine j_getf (k := 8) cl_X9 (by decide) w_f_X9_70 dX9_check_14 e1 e2 ?_
  obtain ⟨fs, z6, e1, e2, hv⟩ := hv
  refine j_getfN (k := 3) cl_X5 (by decide) w_fn_X9_247 dX9_check_17 e1 e2 ?_
  refine j_icmp_ge (tgt := 27) dX9_check_20 (by decide) (fun hc => ?_) (fun hc => ?_)
  · replace hv := hv.1 hc
    refine j_iconst (v := (-1 : Int32)) dX9_check_27 (by decide) ?_
    exact j_iret dX9_check_28 rfl hv
  · replace hv := hv.2 hc
    refine j_iload_n dX9_check_23 rfl rfl ?_
    refine j_goto (tgt := 28) dX9_check_24 (by decide) ?_
    exact j_iret dX9_check_28 rfl hv
set_option maxRecDepth 20000 in
set_option maxHeartbeats 4000000 in
theorem v_X9_foretell {l : Launch} {d mc ms : Nat} {Q : Option Value → qH → Prop} {QX : String → qH → Prop} (hl0 : l.stackTraces = false) (hkc : 1 ≤ mc) (hks : 6 ≤ ms) (x0 : Nat) (x1 : Int32) (x2 : Int32) {h : qH} (hv : qIF (x2 < 0) (QX "java/lang/IndexOutOfBoundsException" h) (qIF (x2 ≤ (9 : Int32)) (qIF (x1 < 0) (QX "java/lang/IllegalArgumentException" h) (qGR h x0 9 8 (fun r1 => qGI h r1 5 3 (fun z2 => qIF (x1 ≤ z2) (qOB h x0 9 (qCI l (d + 6) mX9_doOnCopy [.ref x0, .int x1] h 0 0 (fun z4 h3 => qIF (x1 ≤ z4) (qGR h3 x0 9 7 (fun r5 => qOB h3 r5 6 (qCI l (d + 6) mX6_tell [.ref r5, .int x2] h3 0 0 (fun z7 h6 => Q (some (.int z7)) h6)))) (QX "java/lang/IllegalStateException" h3)))) (QX "java/lang/IllegalArgumentException" h))))) (QX "java/lang/IndexOutOfBoundsException" h))) : q_Ct l (d + 7) mX9_foretell [.ref x0, .int x1, .int x2] h mc ms Q QX := by
  refine q_body (by decide ) (by intro v hm; simp only [List.mem_cons, List.not_mem_nil, or_false] at hm; rcases hm with rfl | rfl | rfl <;> rfl) (Nat.le_of_ble_eq_true rfl) ?_
  refine j_pad 0 rfl ?_
  refine j_iload_n dX9_foretell_0 rfl rfl ?_
  refine j_if_lt (tgt := 10) dX9_foretell_1 (by decide) (fun hc => ?_) (fun hc => ?_)
  · replace hv := hv.1 hc
    exact j_throw (text := "no such number") hl0 rfl xw_IOE w_cl_X9_109 (by decide +kernel) dX9_foretell_10 dX9_foretell_13 dX9_foretell_14 dX9_foretell_16 dX9_foretell_19 (by omega) (Nat.le_of_ble_eq_true rfl) (by omega) (by omega) hv
  · replace hv := hv.2 hc
    refine j_iload_n dX9_foretell_4 rfl rfl ?_
    refine j_bipush (v := (9 : Int32)) dX9_foretell_5 (by decide) ?_
    refine j_icmp_le (tgt := 20) dX9_foretell_7 (by decide) (fun hc => ?_) (fun hc => ?_)
    · replace hv := hv.1 hc
      refine j_iload_n dX9_foretell_20 rfl rfl ?_
      refine j_if_lt (tgt := 35) dX9_foretell_21 (by decide) (fun hc => ?_) (fun hc => ?_)
      · replace hv := hv.1 hc
        exact j_throwW (text := "not so many activities") hl0 rfl xw_IAE w_cl_X9_88 (by decide +kernel) dX9_foretell_35 dX9_foretell_38 dX9_foretell_39 dX9_foretell_42 dX9_foretell_45 (by omega) (Nat.le_of_ble_eq_true rfl) (by omega) (by omega) hv
      · replace hv := hv.2 hc
        refine j_iload_n dX9_foretell_24 rfl rfl ?_
        refine j_aload_n dX9_foretell_25 rfl rfl ?_
        obtain ⟨fs, r1, e1, e2, hv⟩ := hv
        refine j_getf (k := 8) cl_X9 (by decide) w_f_X9_70 dX9_foretell_26 e1 e2 ?_
        obtain ⟨fs, z2, e1, e2, hv⟩ := hv
        refine j_getfN (k := 3) cl_X5 (by decide) w_fn_X9_247 dX9_foretell_29 e1 e2 ?_
        refine j_icmp_le (tgt := 46) dX9_foretell_32 (by decide) (fun hc => ?_) (fun hc => ?_)
        · replace hv := hv.1 hc
          refine j_aload_n dX9_foretell_46 rfl rfl ?_
          refine j_iload_n dX9_foretell_47 rfl rfl ?_
          obtain ⟨⟨fs, e1⟩, hv⟩ := hv
          refine j_virtual (avs := [.int x1]) (rest := []) (i := x0) (kc' := mc) (ks' := ms) dX9_foretell_48 mt_X9_doOnCopy w_m_X9_278 w_in_X9_doOnCopy w_se_X9_doOnCopy rfl rfl (Nat.le_of_ble_eq_true rfl) (Nat.le_refl _) (by omega) (by omega) cl_X9.1 e1 hv (fun _ _ q9 => q9) ?_
          rintro _ h3 ⟨z4, rfl, hv⟩ -
          refine j_iload_n dX9_foretell_51 rfl rfl ?_
          refine j_icmp_ge (tgt := 66) dX9_foretell_52 (by decide) (fun hc => ?_) (fun hc => ?_)
          · replace hv := hv.1 hc
            refine j_aload_n dX9_foretell_66 rfl rfl ?_
            obtain ⟨fs, r5, e1, e2, hv⟩ := hv
            refine j_getf (k := 7) cl_X9 (by decide) w_f_X9_64 dX9_foretell_67 e1 e2 ?_
            refine j_iload_n dX9_foretell_70 rfl rfl ?_
            obtain ⟨⟨fs, e1⟩, hv⟩ := hv
            refine j_virtual (avs := [.int x2]) (rest := []) (i := r5) (kc' := mc) (ks' := ms) dX9_foretell_71 mt_X6_tell w_m_X9_225 w_in_X6_tell w_se_X6_tell rfl rfl (Nat.le_of_ble_eq_true rfl) (Nat.le_refl _) (by omega) (by omega) cl_X6.1 e1 hv (fun _ _ q9 => q9) ?_
            rintro _ h6 ⟨z7, rfl, hv⟩ -
            exact j_iret dX9_foretell_74 rfl hv
          · replace hv := hv.2 hc
            exact j_throwW (text := "one of them fails") hl0 rfl xw_ISE w_cl_X9_162 (by decide +kernel) dX9_foretell_55 dX9_foretell_58 dX9_foretell_59 dX9_foretell_62 dX9_foretell_65 (by omega) (Nat.le_of_ble_eq_true rfl) (by omega) (by omega) hv
        · replace hv := hv.2 hc
          exact j_throwW (text := "not so many activities") hl0 rfl xw_IAE w_cl_X9_88 (by decide +kernel) dX9_foretell_35 dX9_foretell_38 dX9_foretell_39 dX9_foretell_42 dX9_foretell_45 (by omega) (Nat.le_of_ble_eq_true rfl) (by omega) (by omega) hv
    · replace hv := hv.2 hc
      exact j_throw (text := "no such number") hl0 rfl xw_IOE w_cl_X9_109 (by decide +kernel) dX9_foretell_10 dX9_foretell_13 dX9_foretell_14 dX9_foretell_16 dX9_foretell_19 (by omega) (Nat.le_of_ble_eq_true rfl) (by omega) (by omega) hv
set_option maxRecDepth 20000 in
set_option maxHeartbeats 4000000 in
theorem v_X9_run_41 {l : Launch} {d mc ms n0 kc ks : Nat} {Q : Option Value → qH → Prop} {QX : String → qH → Prop} (x0 : Nat) (x1 : Int32) (x2 : Int32) (x3 : Int32) {h : qH} (hv : qIF (x2 ≤ x3) (Q (some (.int x2)) h) (qGR h x0 9 8 (fun r1 => qOB h r1 5 (qCV l (d + 5) mX5_takeOut [.ref r1, .int (0 : Int32)] h 0 0 (fun h2 => q_J l (d + 6) mX9_run mc ms Q QX n0 41 [some (.ref x0), some (.int x1), some (.int x2), some (.int (x3 + (1 : Int32)))] [] h2 kc ks))))) : q_J l (d + 6) mX9_run mc ms Q QX n0 41 [some (.ref x0), some (.int x1), some (.int x2), some (.int x3)] [] h kc ks := by
  refine j_iload_n dX9_run_41 rfl rfl ?_
  refine j_iload_n dX9_run_42 rfl rfl ?_
  refine j_icmp_ge (tgt := 60) dX9_run_43 (by decide) (fun hc => ?_) (fun hc => ?_)
  · replace hv := hv.1 hc
    refine j_iload_n dX9_run_60 rfl rfl ?_
    exact j_iret dX9_run_61 rfl hv
  · replace hv := hv.2 hc
    refine j_aload_n dX9_run_46 rfl rfl ?_
    obtain ⟨fs, r1, e1, e2, hv⟩ := hv
    refine j_getf (k := 8) cl_X9 (by decide) w_f_X9_70 dX9_run_47 e1 e2 ?_
    refine j_iconst (v := (0 : Int32)) dX9_run_50 (by decide) ?_
    obtain ⟨⟨fs, e1⟩, hv⟩ := hv
    refine j_virtual (avs := [.int (0 : Int32)]) (rest := []) (i := r1) (kc' := kc) (ks' := ks) dX9_run_51 mt_X5_takeOut w_m_X9_268 w_in_X5_takeOut w_se_X5_takeOut rfl rfl (Nat.le_of_ble_eq_true rfl) (Nat.le_refl _) (by omega) (by omega) cl_X5.1 e1 hv (fun _ _ q9 => q9) ?_
    rintro _ h2 ⟨rfl, hv⟩ -
    refine j_iinc (w := (x3 + (1 : Int32))) dX9_run_54 rfl (by rfl) (by decide) rfl rfl ?_
    refine j_goto (tgt := 41) dX9_run_57 (by decide) ?_
    exact hv
set_option maxRecDepth 20000 in
set_option maxHeartbeats 4000000 in
theorem v_X9_run {l : Launch} {d mc ms : Nat} {Q : Option Value → qH → Prop} {QX : String → qH → Prop} (hl0 : l.stackTraces = false) (hkc : 1 ≤ mc) (hks : 6 ≤ ms) (x0 : Nat) (x1 : Int32) {h : qH} (hv : qIF (x1 < (1 : Int32)) (QX "java/lang/IllegalArgumentException" h) (qIF (x1 ≤ (40 : Int32)) (qGR h x0 9 4 (fun r1 => qGR h x0 9 6 (fun r2 => qGR h x0 9 8 (fun r3 => qOB h r1 0 (qCI l (d + 5) mX0_performAll [.ref r1, .ref r2, .ref r3, .int x1] h 0 0 (fun z5 h4 => q_J l (d + 6) mX9_run mc ms Q QX h.2 41 [some (.ref x0), some (.int x1), some (.int z5), some (.int (0 : Int32))] [] h4 mc ms)))))) (QX "java/lang/IllegalArgumentException" h))) : q_Ct l (d + 6) mX9_run [.ref x0, .int x1] h mc ms Q QX := by
  refine q_body (by decide ) (by intro v hm; simp only [List.mem_cons, List.not_mem_nil, or_false] at hm; rcases hm with rfl | rfl <;> rfl) (Nat.le_of_ble_eq_true rfl) ?_
  refine j_pad 2 rfl ?_
  refine j_iload_n dX9_run_0 rfl rfl ?_
  refine j_iconst (v := (1 : Int32)) dX9_run_1 (by decide) ?_
  refine j_icmp_lt (tgt := 11) dX9_run_2 (by decide) (fun hc => ?_) (fun hc => ?_)
  · replace hv := hv.1 hc
    exact j_throwW (text := "not so many activities") hl0 rfl xw_IAE w_cl_X9_88 (by decide +kernel) dX9_run_11 dX9_run_14 dX9_run_15 dX9_run_18 dX9_run_21 (by omega) (Nat.le_of_ble_eq_true rfl) (by omega) (by omega) hv
  · replace hv := hv.2 hc
    refine j_iload_n dX9_run_5 rfl rfl ?_
    refine j_bipush (v := (40 : Int32)) dX9_run_6 (by decide) ?_
    refine j_icmp_le (tgt := 22) dX9_run_8 (by decide) (fun hc => ?_) (fun hc => ?_)
    · replace hv := hv.1 hc
      refine j_aload_n dX9_run_22 rfl rfl ?_
      obtain ⟨fs, r1, e1, e2, hv⟩ := hv
      refine j_getf (k := 4) cl_X9 (by decide) w_f_X9_44 dX9_run_23 e1 e2 ?_
      refine j_aload_n dX9_run_26 rfl rfl ?_
      obtain ⟨fs, r2, e1, e2, hv⟩ := hv
      refine j_getf (k := 6) cl_X9 (by decide) w_f_X9_60 dX9_run_27 e1 e2 ?_
      refine j_aload_n dX9_run_30 rfl rfl ?_
      obtain ⟨fs, r3, e1, e2, hv⟩ := hv
      refine j_getf (k := 8) cl_X9 (by decide) w_f_X9_70 dX9_run_31 e1 e2 ?_
      refine j_iload_n dX9_run_34 rfl rfl ?_
      obtain ⟨⟨fs, e1⟩, hv⟩ := hv
      refine j_virtual (avs := [.ref r2, .ref r3, .int x1]) (rest := []) (i := r1) (kc' := mc) (ks' := ms) dX9_run_35 mt_X0_performAll w_m_X9_288 w_in_X0_performAll w_se_X0_performAll rfl rfl (Nat.le_of_ble_eq_true rfl) (Nat.le_refl _) (by omega) (by omega) cl_X0.1 e1 hv (fun _ _ q9 => q9) ?_
      rintro _ h4 ⟨z5, rfl, hv⟩ -
      refine j_istore_n dX9_run_38 rfl (by decide) rfl rfl ?_
      refine j_iconst (v := (0 : Int32)) dX9_run_39 (by decide) ?_
      refine j_istore_n dX9_run_40 rfl (by decide) rfl rfl ?_
      exact hv
    · replace hv := hv.2 hc
      exact j_throwW (text := "not so many activities") hl0 rfl xw_IAE w_cl_X9_88 (by decide +kernel) dX9_run_11 dX9_run_14 dX9_run_15 dX9_run_18 dX9_run_21 (by omega) (Nat.le_of_ble_eq_true rfl) (by omega) (by omega) hv
set_option maxRecDepth 20000 in
set_option maxHeartbeats 4000000 in
theorem v_X9_make {l : Launch} {d mc ms : Nat} {Q : Option Value → qH → Prop} {QX : String → qH → Prop} (hl0 : l.stackTraces = false) (hkc : 1 ≤ mc) (hks : 6 ≤ ms) (x0 : Nat) (x1 : Int32) {h : qH} (hv : qIF (x1 < (1 : Int32)) (QX "java/lang/IllegalArgumentException" h) (qIF (x1 ≤ (2880 : Int32)) (qGR h x0 9 8 (fun r1 => qGI h r1 5 3 (fun z2 => qOB h x0 9 (qCI l (d + 6) mX9_doOnCopy [.ref x0, .int z2] h 0 0 (fun z4 h3 => qGR h3 x0 9 8 (fun r5 => qGI h3 r5 5 3 (fun z6 => qIF (z6 ≤ z4) (qGR h3 x0 9 5 (fun r7 => qGR h3 x0 9 8 (fun r8 => qGR h3 x0 9 7 (fun r9 => qOB h3 r7 2 (qCI l (d + 6) mX2_extend [.ref r7, .ref r8, .ref r9, .int x1] h3 0 0 (fun z11 h10 => Q (some (.int z11)) h10)))))) (Q (some (.int (0 : Int32))) h3)))))))) (QX "java/lang/IllegalArgumentException" h))) : q_Ct l (d + 7) mX9_make [.ref x0, .int x1] h mc ms Q QX := by
  refine q_body (by decide ) (by intro v hm; simp only [List.mem_cons, List.not_mem_nil, or_false] at hm; rcases hm with rfl | rfl <;> rfl) (Nat.le_of_ble_eq_true rfl) ?_
  refine j_pad 0 rfl ?_
  refine j_iload_n dX9_make_0 rfl rfl ?_
  refine j_iconst (v := (1 : Int32)) dX9_make_1 (by decide) ?_
  refine j_icmp_lt (tgt := 12) dX9_make_2 (by decide) (fun hc => ?_) (fun hc => ?_)
  · replace hv := hv.1 hc
    exact j_throwW (text := "not so many minutes") hl0 rfl xw_IAE w_cl_X9_88 (by decide +kernel) dX9_make_12 dX9_make_15 dX9_make_16 dX9_make_19 dX9_make_22 (by omega) (Nat.le_of_ble_eq_true rfl) (by omega) (by omega) hv
  · replace hv := hv.2 hc
    refine j_iload_n dX9_make_5 rfl rfl ?_
    refine j_sipush (v := (2880 : Int32)) dX9_make_6 (by decide) ?_
    refine j_icmp_le (tgt := 23) dX9_make_9 (by decide) (fun hc => ?_) (fun hc => ?_)
    · replace hv := hv.1 hc
      refine j_aload_n dX9_make_23 rfl rfl ?_
      refine j_aload_n dX9_make_24 rfl rfl ?_
      obtain ⟨fs, r1, e1, e2, hv⟩ := hv
      refine j_getf (k := 8) cl_X9 (by decide) w_f_X9_70 dX9_make_25 e1 e2 ?_
      obtain ⟨fs, z2, e1, e2, hv⟩ := hv
      refine j_getfN (k := 3) cl_X5 (by decide) w_fn_X9_247 dX9_make_28 e1 e2 ?_
      obtain ⟨⟨fs, e1⟩, hv⟩ := hv
      refine j_virtual (avs := [.int z2]) (rest := []) (i := x0) (kc' := mc) (ks' := ms) dX9_make_31 mt_X9_doOnCopy w_m_X9_278 w_in_X9_doOnCopy w_se_X9_doOnCopy rfl rfl (Nat.le_of_ble_eq_true rfl) (Nat.le_refl _) (by omega) (by omega) cl_X9.1 e1 hv (fun _ _ q9 => q9) ?_
      rintro _ h3 ⟨z4, rfl, hv⟩ -
      refine j_aload_n dX9_make_34 rfl rfl ?_
      obtain ⟨fs, r5, e1, e2, hv⟩ := hv
      refine j_getf (k := 8) cl_X9 (by decide) w_f_X9_70 dX9_make_35 e1 e2 ?_
      obtain ⟨fs, z6, e1, e2, hv⟩ := hv
      refine j_getfN (k := 3) cl_X5 (by decide) w_fn_X9_247 dX9_make_38 e1 e2 ?_
      refine j_icmp_ge (tgt := 46) dX9_make_41 (by decide) (fun hc => ?_) (fun hc => ?_)
      · replace hv := hv.1 hc
        refine j_aload_n dX9_make_46 rfl rfl ?_
        obtain ⟨fs, r7, e1, e2, hv⟩ := hv
        refine j_getf (k := 5) cl_X9 (by decide) w_f_X9_53 dX9_make_47 e1 e2 ?_
        refine j_aload_n dX9_make_50 rfl rfl ?_
        obtain ⟨fs, r8, e1, e2, hv⟩ := hv
        refine j_getf (k := 8) cl_X9 (by decide) w_f_X9_70 dX9_make_51 e1 e2 ?_
        refine j_aload_n dX9_make_54 rfl rfl ?_
        obtain ⟨fs, r9, e1, e2, hv⟩ := hv
        refine j_getf (k := 7) cl_X9 (by decide) w_f_X9_64 dX9_make_55 e1 e2 ?_
        refine j_iload_n dX9_make_58 rfl rfl ?_
        obtain ⟨⟨fs, e1⟩, hv⟩ := hv
        refine j_virtual (avs := [.ref r8, .ref r9, .int x1]) (rest := []) (i := r7) (kc' := mc) (ks' := ms) dX9_make_59 mt_X2_extend w_m_X9_294 w_in_X2_extend w_se_X2_extend rfl rfl (Nat.le_of_ble_eq_true rfl) (Nat.le_refl _) (by omega) (by omega) cl_X2.1 e1 hv (fun _ _ q9 => q9) ?_
        rintro _ h10 ⟨z11, rfl, hv⟩ -
        exact j_iret dX9_make_62 rfl hv
      · replace hv := hv.2 hc
        refine j_iconst (v := (0 : Int32)) dX9_make_44 (by decide) ?_
        exact j_iret dX9_make_45 rfl hv
    · replace hv := hv.2 hc
      exact j_throwW (text := "not so many minutes") hl0 rfl xw_IAE w_cl_X9_88 (by decide +kernel) dX9_make_12 dX9_make_15 dX9_make_16 dX9_make_19 dX9_make_22 (by omega) (Nat.le_of_ble_eq_true rfl) (by omega) (by omega) hv
set_option maxRecDepth 20000 in
set_option maxHeartbeats 4000000 in
theorem v_X9_nearest {l : Launch} {d mc ms : Nat} {Q : Option Value → qH → Prop} {QX : String → qH → Prop} (hl0 : l.stackTraces = false) (hkc : 1 ≤ mc) (hks : 6 ≤ ms) (x0 : Nat) (x1 : Int32) {h : qH} (hv : qGR h x0 9 2 (fun r1 => qOB h r1 7 (qCI l (d + 5) mX7_has [.ref r1, .int x1] h 0 0 (fun z3 h2 => qIF (z3 = 0) (QX "java/lang/IndexOutOfBoundsException" h2) (qGR h2 x0 9 1 (fun r4 => qGR h2 x0 9 6 (fun r5 => qGI h2 r5 6 1 (fun z6 => qGR h2 x0 9 6 (fun r7 => qGI h2 r7 6 2 (fun z8 => qCI l (d + 5) mX1_placeOf [.int z6, .int z8] h2 0 0 (fun z10 h9 => qOB h9 r4 8 (qCV l (d + 5) mX8_measureFrom [.ref r4, .int z10] h9 0 0 (fun h11 => qGR h11 x0 9 5 (fun r12 => qGR h11 x0 9 6 (fun r13 => qOB h11 r12 2 (qCI l (d + 5) mX2_nearestPlace [.ref r12, .ref r13, .int x1] h11 0 0 (fun z15 h14 => qIF (z15 = (-1 : Int32)) (Q (some (.int (-1 : Int32))) h14) (Q (some (.int (((100 : Int32) * (z15 - z15 / (24 : Int32) * (24 : Int32))) + (z15 / (24 : Int32))))) h14)))))))))))))))))) : q_Ct l (d + 6) mX9_nearest [.ref x0, .int x1] h mc ms Q QX := by
  refine q_body (by decide ) (by intro v hm; simp only [List.mem_cons, List.not_mem_nil, or_false] at hm; rcases hm with rfl | rfl <;> rfl) (Nat.le_of_ble_eq_true rfl) ?_
  refine j_pad 1 rfl ?_
  refine j_aload_n dX9_nearest_0 rfl rfl ?_
  obtain ⟨fs, r1, e1, e2, hv⟩ := hv
  refine j_getf (k := 2) cl_X9 (by decide) w_f_X9_28 dX9_nearest_1 e1 e2 ?_
  refine j_iload_n dX9_nearest_4 rfl rfl ?_
  obtain ⟨⟨fs, e1⟩, hv⟩ := hv
  refine j_virtual (avs := [.int x1]) (rest := []) (i := r1) (kc' := mc) (ks' := ms) dX9_nearest_5 mt_X7_has w_m_X9_171 w_in_X7_has w_se_X7_has rfl rfl (Nat.le_of_ble_eq_true rfl) (Nat.le_refl _) (by omega) (by omega) cl_X7.1 e1 hv (fun _ _ q9 => q9) ?_
  rintro _ h2 ⟨z3, rfl, hv⟩ -
  refine j_if_ne (tgt := 22) dX9_nearest_8 (by decide) (fun hc => ?_) (fun hc => ?_)
  · replace hv := hv.2 hc
    refine j_aload_n dX9_nearest_22 rfl rfl ?_
    obtain ⟨fs, r4, e1, e2, hv⟩ := hv
    refine j_getf (k := 1) cl_X9 (by decide) w_f_X9_21 dX9_nearest_23 e1 e2 ?_
    refine j_aload_n dX9_nearest_26 rfl rfl ?_
    obtain ⟨fs, r5, e1, e2, hv⟩ := hv
    refine j_getf (k := 6) cl_X9 (by decide) w_f_X9_60 dX9_nearest_27 e1 e2 ?_
    obtain ⟨fs, z6, e1, e2, hv⟩ := hv
    refine j_getfN (k := 1) cl_X6 (by decide) w_fn_X9_300 dX9_nearest_30 e1 e2 ?_
    refine j_aload_n dX9_nearest_33 rfl rfl ?_
    obtain ⟨fs, r7, e1, e2, hv⟩ := hv
    refine j_getf (k := 6) cl_X9 (by decide) w_f_X9_60 dX9_nearest_34 e1 e2 ?_
    obtain ⟨fs, z8, e1, e2, hv⟩ := hv
    refine j_getfN (k := 2) cl_X6 (by decide) w_fn_X9_303 dX9_nearest_37 e1 e2 ?_
    refine j_static (avs := [.int z6, .int z8]) (rest := [.ref r4]) (kc' := mc) (ks' := ms) dX9_nearest_40 mt_X1_placeOf w_m_X9_134 w_st_X1_placeOf rfl rfl (Nat.le_of_ble_eq_true rfl) (Nat.le_refl _) (by omega) (by omega) hv (fun _ _ q9 => q9) ?_
    rintro _ h9 ⟨z10, rfl, hv⟩ -
    obtain ⟨⟨fs, e1⟩, hv⟩ := hv
    refine j_virtual (avs := [.int z10]) (rest := []) (i := r4) (kc' := mc) (ks' := ms) dX9_nearest_43 mt_X8_measureFrom w_m_X9_306 w_in_X8_measureFrom w_se_X8_measureFrom rfl rfl (Nat.le_of_ble_eq_true rfl) (Nat.le_refl _) (by omega) (by omega) cl_X8.1 e1 hv (fun _ _ q9 => q9) ?_
    rintro _ h11 ⟨rfl, hv⟩ -
    refine j_aload_n dX9_nearest_46 rfl rfl ?_
    obtain ⟨fs, r12, e1, e2, hv⟩ := hv
    refine j_getf (k := 5) cl_X9 (by decide) w_f_X9_53 dX9_nearest_47 e1 e2 ?_
    refine j_aload_n dX9_nearest_50 rfl rfl ?_
    obtain ⟨fs, r13, e1, e2, hv⟩ := hv
    refine j_getf (k := 6) cl_X9 (by decide) w_f_X9_60 dX9_nearest_51 e1 e2 ?_
    refine j_iload_n dX9_nearest_54 rfl rfl ?_
    obtain ⟨⟨fs, e1⟩, hv⟩ := hv
    refine j_virtual (avs := [.ref r13, .int x1]) (rest := []) (i := r12) (kc' := mc) (ks' := ms) dX9_nearest_55 mt_X2_nearestPlace w_m_X9_309 w_in_X2_nearestPlace w_se_X2_nearestPlace rfl rfl (Nat.le_of_ble_eq_true rfl) (Nat.le_refl _) (by omega) (by omega) cl_X2.1 e1 hv (fun _ _ q9 => q9) ?_
    rintro _ h14 ⟨z15, rfl, hv⟩ -
    refine j_istore_n dX9_nearest_58 rfl (by decide) rfl rfl ?_
    refine j_iload_n dX9_nearest_59 rfl rfl ?_
    refine j_iconst (v := (-1 : Int32)) dX9_nearest_60 (by decide) ?_
    refine j_icmp_ne (tgt := 68) dX9_nearest_61 (by decide) (fun hc => ?_) (fun hc => ?_)
    · replace hv := hv.2 hc
      refine j_bipush (v := (100 : Int32)) dX9_nearest_68 (by decide) ?_
      refine j_iload_n dX9_nearest_70 rfl rfl ?_
      refine j_bipush (v := (24 : Int32)) dX9_nearest_71 (by decide) ?_
      refine j_irem dX9_nearest_73 (by decide) ?_
      refine j_imul dX9_nearest_74 ?_
      refine j_iload_n dX9_nearest_75 rfl rfl ?_
      refine j_bipush (v := (24 : Int32)) dX9_nearest_76 (by decide) ?_
      refine j_idiv dX9_nearest_78 (by decide) ?_
      refine j_iadd dX9_nearest_79 ?_
      exact j_iret dX9_nearest_80 rfl hv
    · replace hv := hv.1 hc
      refine j_iconst (v := (-1 : Int32)) dX9_nearest_64 (by decide) ?_
      refine j_goto (tgt := 80) dX9_nearest_65 (by decide) ?_
      exact j_iret dX9_nearest_80 rfl hv
  · replace hv := hv.1 hc
    exact j_throwW (text := "no such target") hl0 rfl xw_IOE w_cl_X9_109 (by decide +kernel) dX9_nearest_11 dX9_nearest_14 dX9_nearest_15 dX9_nearest_18 dX9_nearest_21 (by omega) (Nat.le_of_ble_eq_true rfl) (by omega) (by omega) hv
set_option maxRecDepth 20000 in
set_option maxHeartbeats 4000000 in
theorem v_X9_numberOf {l : Launch} {d mc ms : Nat} {Q : Option Value → qH → Prop} {QX : String → qH → Prop} (x0 : Nat) (x1 : Int32) {h : qH} (hv : qIF (x1 = (0 : Int32)) (qGR h x0 9 2 (fun r1 => qGI h r1 7 4 (fun z2 => Q (some (.int z2)) h))) (qIF (x1 = (1 : Int32)) (qGR h x0 9 3 (fun r3 => qGI h r3 4 3 (fun z4 => Q (some (.int z4)) h))) (qIF (x1 = (2 : Int32)) (qGR h x0 9 8 (fun r5 => qGI h r5 5 3 (fun z6 => Q (some (.int z6)) h))) (qGI h x0 9 10 (fun z7 => Q (some (.int z7)) h))))) : q_Ct l (d + 0) mX9_numberOf [.ref x0, .int x1] h mc ms Q QX := by
  refine q_body (by decide ) (by intro v hm; simp only [List.mem_cons, List.not_mem_nil, or_false] at hm; rcases hm with rfl | rfl <;> rfl) (Nat.le_of_ble_eq_true rfl) ?_
  refine j_pad 0 rfl ?_
  refine j_iload_n dX9_numberOf_0 rfl rfl ?_
  by_cases hc0 : x1 = (0 : Int32)
  · replace hv := hv.1 hc0
    refine j_tableIn (tgt := 28) (off := 27) dX9_numberOf_1 (by rw [hc0]; decide) (by rw [hc0]; decide) (by rw [hc0]; decide) (by decide) ?_
    refine j_aload_n dX9_numberOf_28 rfl rfl ?_
    obtain ⟨fs, r1, e1, e2, hv⟩ := hv
    refine j_getf (k := 2) cl_X9 (by decide) w_f_X9_28 dX9_numberOf_29 e1 e2 ?_
    obtain ⟨fs, z2, e1, e2, hv⟩ := hv
    refine j_getfN (k := 4) cl_X7 (by decide) w_fn_X9_235 dX9_numberOf_32 e1 e2 ?_
    exact j_iret dX9_numberOf_35 rfl hv
  · replace hv := hv.2 hc0
    by_cases hc1 : x1 = (1 : Int32)
    · replace hv := hv.1 hc1
      refine j_tableIn (tgt := 36) (off := 35) dX9_numberOf_1 (by rw [hc1]; decide) (by rw [hc1]; decide) (by rw [hc1]; decide) (by decide) ?_
      refine j_aload_n dX9_numberOf_36 rfl rfl ?_
      obtain ⟨fs, r3, e1, e2, hv⟩ := hv
      refine j_getf (k := 3) cl_X9 (by decide) w_f_X9_35 dX9_numberOf_37 e1 e2 ?_
      obtain ⟨fs, z4, e1, e2, hv⟩ := hv
      refine j_getfN (k := 3) cl_X4 (by decide) w_fn_X9_351 dX9_numberOf_40 e1 e2 ?_
      exact j_iret dX9_numberOf_43 rfl hv
    · replace hv := hv.2 hc1
      by_cases hc2 : x1 = (2 : Int32)
      · replace hv := hv.1 hc2
        refine j_tableIn (tgt := 44) (off := 43) dX9_numberOf_1 (by rw [hc2]; decide) (by rw [hc2]; decide) (by rw [hc2]; decide) (by decide) ?_
        refine j_aload_n dX9_numberOf_44 rfl rfl ?_
        obtain ⟨fs, r5, e1, e2, hv⟩ := hv
        refine j_getf (k := 8) cl_X9 (by decide) w_f_X9_70 dX9_numberOf_45 e1 e2 ?_
        obtain ⟨fs, z6, e1, e2, hv⟩ := hv
        refine j_getfN (k := 3) cl_X5 (by decide) w_fn_X9_247 dX9_numberOf_48 e1 e2 ?_
        exact j_iret dX9_numberOf_51 rfl hv
      · replace hv := hv.2 hc2
        refine j_tableOut (tgt := 52) dX9_numberOf_1 (q_tabO (by decide) (by decide) (fun j h1 => by match j, h1 with | 0, _ => exact hc0 | 1, _ => exact hc1 | 2, _ => exact hc2 | j + 3, h1 => exact absurd h1 (by omega))) (by decide) ?_
        refine j_aload_n dX9_numberOf_52 rfl rfl ?_
        obtain ⟨fs, z7, e1, e2, hv⟩ := hv
        refine j_getf (k := 10) cl_X9 (by decide) w_f_X9_313 dX9_numberOf_53 e1 e2 ?_
        exact j_iret dX9_numberOf_56 rfl hv
set_option maxRecDepth 20000 in
set_option maxHeartbeats 4000000 in
theorem v_X9_doOnCopy {l : Launch} {d mc ms : Nat} {Q : Option Value → qH → Prop} {QX : String → qH → Prop} (x0 : Nat) (x1 : Int32) {h : qH} (hv : qGR h x0 9 7 (fun r1 => qGR h x0 9 6 (fun r2 => qOB h r1 6 (qCV l (d + 5) mX6_copyFrom [.ref r1, .ref r2] h 0 0 (fun h3 => qGR h3 x0 9 4 (fun r4 => qGR h3 x0 9 7 (fun r5 => qGR h3 x0 9 8 (fun r6 => qOB h3 r4 0 (qCI l (d + 5) mX0_performAll [.ref r4, .ref r5, .ref r6, .int x1] h3 0 0 (fun z8 h7 => Q (some (.int z8)) h7)))))))))) : q_Ct l (d + 6) mX9_doOnCopy [.ref x0, .int x1] h mc ms Q QX := by
  refine q_body (by decide ) (by intro v hm; simp only [List.mem_cons, List.not_mem_nil, or_false] at hm; rcases hm with rfl | rfl <;> rfl) (Nat.le_of_ble_eq_true rfl) ?_
  refine j_pad 0 rfl ?_
  refine j_aload_n dX9_doOnCopy_0 rfl rfl ?_
  obtain ⟨fs, r1, e1, e2, hv⟩ := hv
  refine j_getf (k := 7) cl_X9 (by decide) w_f_X9_64 dX9_doOnCopy_1 e1 e2 ?_
  refine j_aload_n dX9_doOnCopy_4 rfl rfl ?_
  obtain ⟨fs, r2, e1, e2, hv⟩ := hv
  refine j_getf (k := 6) cl_X9 (by decide) w_f_X9_60 dX9_doOnCopy_5 e1 e2 ?_
  obtain ⟨⟨fs, e1⟩, hv⟩ := hv
  refine j_virtual (avs := [.ref r2]) (rest := []) (i := r1) (kc' := mc) (ks' := ms) dX9_doOnCopy_8 mt_X6_copyFrom w_m_X9_322 w_in_X6_copyFrom w_se_X6_copyFrom rfl rfl (Nat.le_of_ble_eq_true rfl) (Nat.le_refl _) (by omega) (by omega) cl_X6.1 e1 hv (fun _ _ q9 => q9) ?_
  rintro _ h3 ⟨rfl, hv⟩ -
  refine j_aload_n dX9_doOnCopy_11 rfl rfl ?_
  obtain ⟨fs, r4, e1, e2, hv⟩ := hv
  refine j_getf (k := 4) cl_X9 (by decide) w_f_X9_44 dX9_doOnCopy_12 e1 e2 ?_
  refine j_aload_n dX9_doOnCopy_15 rfl rfl ?_
  obtain ⟨fs, r5, e1, e2, hv⟩ := hv
  refine j_getf (k := 7) cl_X9 (by decide) w_f_X9_64 dX9_doOnCopy_16 e1 e2 ?_
  refine j_aload_n dX9_doOnCopy_19 rfl rfl ?_
  obtain ⟨fs, r6, e1, e2, hv⟩ := hv
  refine j_getf (k := 8) cl_X9 (by decide) w_f_X9_70 dX9_doOnCopy_20 e1 e2 ?_
  refine j_iload_n dX9_doOnCopy_23 rfl rfl ?_
  obtain ⟨⟨fs, e1⟩, hv⟩ := hv
  refine j_virtual (avs := [.ref r5, .ref r6, .int x1]) (rest := []) (i := r4) (kc' := mc) (ks' := ms) dX9_doOnCopy_24 mt_X0_performAll w_m_X9_288 w_in_X0_performAll w_se_X0_performAll rfl rfl (Nat.le_of_ble_eq_true rfl) (Nat.le_refl _) (by omega) (by omega) cl_X0.1 e1 hv (fun _ _ q9 => q9) ?_
  rintro _ h7 ⟨z8, rfl, hv⟩ -
  exact j_iret dX9_doOnCopy_27 rfl hv
