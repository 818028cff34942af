set_option maxRecDepth 20000 in
set_option maxHeartbeats 4000000 in
theorem v_L_raise {l : Launch} {d mc ms : Nat} {Q : Option Value → qH → Prop} {QX : String → qH → Prop} (hkc : 16 ≤ mc) (hks : 800 ≤ ms) (x0 : Nat) (x1 : Int32) (x2 : Int32) (x3 : Int32) (x4 : Int32) (x5 : Int32) (x6 : Nat) {h : qH} (hv : qOB h x0 9 (qTR l (d + 6) mX9_raise [.ref x0, .int x1, .int x2, .int x3, .int x4, .int x5] h 16 800 (fun z2 h1 => qLS h1 x6 (0 : Int32) (Int32.toInt64 z2) (fun h3 => Q (some (.int (0 : Int32))) h3)) (fun E h1 => (E = "java/lang/IllegalArgumentException" ∧ Q (some (.int (1 : Int32))) h1)))) : q_CtH xN [(0, 16, 19, 13)] l (d + 7) mL_raise [.ref x0, .int x1, .int x2, .int x3, .int x4, .int x5, .ref x6] h mc ms Q QX := by
  refine q_bodyH (by decide ) (by intro v hm; simp only [List.mem_cons, List.not_mem_nil, or_false] at hm; rcases hm with rfl | rfl | rfl | rfl | rfl | rfl | rfl <;> rfl) (Nat.le_of_ble_eq_true rfl) ?_
  refine hx_pad 1 rfl ?_
  refine hx_aload dL_raise_0 rfl ?_
  refine hx_iconst (v := (0 : Int32)) dL_raise_2 (by decide) ?_
  refine hx_aload_n dL_raise_3 rfl rfl ?_
  refine hx_iload_n dL_raise_4 rfl rfl ?_
  refine hx_iload_n dL_raise_5 rfl rfl ?_
  refine hx_iload_n dL_raise_6 rfl rfl ?_
  refine hx_iload dL_raise_7 rfl ?_
  refine hx_iload dL_raise_9 rfl ?_
  obtain ⟨⟨fs, e1⟩, hv⟩ := hv
  refine hx_virtualX (avs := [.int x1, .int x2, .int x3, .int x4, .int x5]) (rest := [.int (0 : Int32), .ref x6]) (i := x0) (kc' := (mc - 16)) (ks' := (ms - 800)) dL_raise_11 mt_X9_raise w_m_L_7 w_in_X9_raise w_se_X9_raise rfl rfl (Nat.le_of_ble_eq_true rfl) (Nat.le_refl _) (by omega) (by omega) cl_X9.1 e1 hv ?_ ?_
  · rintro _ h1 ⟨z2, rfl, hv⟩ -
    refine hx_i2l dL_raise_14 ?_
    obtain ⟨N, f, e1, e2, hv⟩ := hv
    refine hx_last dL_raise_15 e1 e2 ?_
    generalize q_set h1 x6 _ = h3 at hv ⊢
    refine hx_goto (tgt := 23) dL_raise_16 (by decide) ?_
    refine hx_iconst (v := (0 : Int32)) dL_raise_23 (by decide) ?_
    exact hx_iret dL_raise_24 rfl hv
  · rintro E h1 hx -
    obtain ⟨rfl, hv⟩ := hx
    refine hx_catch [] ⟨0, 16, 19, 13⟩ [] rfl (fun z hz => nomatch hz) (by decide) (by decide) w_cl_L_13 w_cast_IAE dL_raise_19 (by decide) rfl rfl ?_
    refine hx_iconst (v := (1 : Int32)) dL_raise_21 (by decide) ?_
    exact hx_iret dL_raise_22 rfl hv
set_option maxRecDepth 20000 in
set_option maxHeartbeats 4000000 in
theorem v_L_pave {l : Launch} {d mc ms : Nat} {Q : Option Value → qH → Prop} {QX : String → qH → Prop} (hkc : 16 ≤ mc) (hks : 800 ≤ ms) (x0 : Nat) (x1 : Int32) (x2 : Int32) (x3 : Int32) (x4 : Int32) (x5 : Int32) (x6 : Int32) (x7 : Nat) {h : qH} (hv : qOB h x0 9 (qTR l (d + 6) mX9_pave [.ref x0, .int x1, .int x2, .int x3, .int x4, .int x5, .int x6] h 16 800 (fun z2 h1 => qLS h1 x7 (0 : Int32) (Int32.toInt64 z2) (fun h3 => Q (some (.int (0 : Int32))) h3)) (fun E h1 => (E = "java/lang/IllegalArgumentException" ∧ Q (some (.int (1 : Int32))) h1)))) : q_CtH xN [(0, 18, 21, 13)] l (d + 7) mL_pave [.ref x0, .int x1, .int x2, .int x3, .int x4, .int x5, .int x6, .ref x7] h mc ms Q QX := by
  refine q_bodyH (by decide ) (by intro v hm; simp only [List.mem_cons, List.not_mem_nil, or_false] at hm; rcases hm with rfl | rfl | rfl | rfl | rfl | rfl | rfl | rfl <;> rfl) (Nat.le_of_ble_eq_true rfl) ?_
  refine hx_pad 1 rfl ?_
  refine hx_aload dL_pave_0 rfl ?_
  refine hx_iconst (v := (0 : Int32)) dL_pave_2 (by decide) ?_
  refine hx_aload_n dL_pave_3 rfl rfl ?_
  refine hx_iload_n dL_pave_4 rfl rfl ?_
  refine hx_iload_n dL_pave_5 rfl rfl ?_
  refine hx_iload_n dL_pave_6 rfl rfl ?_
  refine hx_iload dL_pave_7 rfl ?_
  refine hx_iload dL_pave_9 rfl ?_
  refine hx_iload dL_pave_11 rfl ?_
  obtain ⟨⟨fs, e1⟩, hv⟩ := hv
  refine hx_virtualX (avs := [.int x1, .int x2, .int x3, .int x4, .int x5, .int x6]) (rest := [.int (0 : Int32), .ref x7]) (i := x0) (kc' := (mc - 16)) (ks' := (ms - 800)) dL_pave_13 mt_X9_pave w_m_L_15 w_in_X9_pave w_se_X9_pave rfl rfl (Nat.le_of_ble_eq_true rfl) (Nat.le_refl _) (by omega) (by omega) cl_X9.1 e1 hv ?_ ?_
  · rintro _ h1 ⟨z2, rfl, hv⟩ -
    refine hx_i2l dL_pave_16 ?_
    obtain ⟨N, f, e1, e2, hv⟩ := hv
    refine hx_last dL_pave_17 e1 e2 ?_
    generalize q_set h1 x7 _ = h3 at hv ⊢
    refine hx_goto (tgt := 25) dL_pave_18 (by decide) ?_
    refine hx_iconst (v := (0 : Int32)) dL_pave_25 (by decide) ?_
    exact hx_iret dL_pave_26 rfl hv
  · rintro E h1 hx -
    obtain ⟨rfl, hv⟩ := hx
    refine hx_catch [] ⟨0, 18, 21, 13⟩ [] rfl (fun z hz => nomatch hz) (by decide) (by decide) w_cl_L_13 w_cast_IAE dL_pave_21 (by decide) rfl rfl ?_
    refine hx_iconst (v := (1 : Int32)) dL_pave_23 (by decide) ?_
    exact hx_iret dL_pave_24 rfl hv
set_option maxRecDepth 20000 in
set_option maxHeartbeats 4000000 in
theorem v_L_ground {l : Launch} {d mc ms : Nat} {Q : Option Value → qH → Prop} {QX : String → qH → Prop} (hkc : 16 ≤ mc) (hks : 800 ≤ ms) (x0 : Nat) (x1 : Int32) (x2 : Int32) (x3 : Int32) (x4 : Nat) {h : qH} (hv : qOB h x0 9 (qTR l (d + 6) mX9_ground [.ref x0, .int x1, .int x2, .int x3] h 16 800 (fun z2 h1 => qLS h1 x4 (0 : Int32) (Int32.toInt64 z2) (fun h3 => Q (some (.int (0 : Int32))) h3)) (fun E h1 => (E = "java/lang/IndexOutOfBoundsException" ∧ Q (some (.int (1 : Int32))) h1)))) : q_CtH xN [(0, 12, 15, 23)] l (d + 7) mL_ground [.ref x0, .int x1, .int x2, .int x3, .ref x4] h mc ms Q QX := by
  refine q_bodyH (by decide ) (by intro v hm; simp only [List.mem_cons, List.not_mem_nil, or_false] at hm; rcases hm with rfl | rfl | rfl | rfl | rfl <;> rfl) (Nat.le_of_ble_eq_true rfl) ?_
  refine hx_pad 1 rfl ?_
  refine hx_aload dL_ground_0 rfl ?_
  refine hx_iconst (v := (0 : Int32)) dL_ground_2 (by decide) ?_
  refine hx_aload_n dL_ground_3 rfl rfl ?_
  refine hx_iload_n dL_ground_4 rfl rfl ?_
  refine hx_iload_n dL_ground_5 rfl rfl ?_
  refine hx_iload_n dL_ground_6 rfl rfl ?_
  obtain ⟨⟨fs, e1⟩, hv⟩ := hv
  refine hx_virtualX (avs := [.int x1, .int x2, .int x3]) (rest := [.int (0 : Int32), .ref x4]) (i := x0) (kc' := (mc - 16)) (ks' := (ms - 800)) dL_ground_7 mt_X9_ground w_m_L_19 w_in_X9_ground w_se_X9_ground rfl rfl (Nat.le_of_ble_eq_true rfl) (Nat.le_refl _) (by omega) (by omega) cl_X9.1 e1 hv ?_ ?_
  · rintro _ h1 ⟨z2, rfl, hv⟩ -
    refine hx_i2l dL_ground_10 ?_
    obtain ⟨N, f, e1, e2, hv⟩ := hv
    refine hx_last dL_ground_11 e1 e2 ?_
    generalize q_set h1 x4 _ = h3 at hv ⊢
    refine hx_goto (tgt := 19) dL_ground_12 (by decide) ?_
    refine hx_iconst (v := (0 : Int32)) dL_ground_19 (by decide) ?_
    exact hx_iret dL_ground_20 rfl hv
  · rintro E h1 hx -
    obtain ⟨rfl, hv⟩ := hx
    refine hx_catch [] ⟨0, 12, 15, 23⟩ [] rfl (fun z hz => nomatch hz) (by decide) (by decide) w_cl_L_23 w_cast_IOE dL_ground_15 (by decide) rfl rfl ?_
    refine hx_iconst (v := (1 : Int32)) dL_ground_17 (by decide) ?_
    exact hx_iret dL_ground_18 rfl hv
set_option maxRecDepth 20000 in
set_option maxHeartbeats 4000000 in
theorem v_L_setSlope {l : Launch} {d mc ms : Nat} {Q : Option Value → qH → Prop} {QX : String → qH → Prop} (hkc : 16 ≤ mc) (hks : 800 ≤ ms) (x0 : Nat) (x1 : Int32) (x2 : Nat) {h : qH} (hv : qOB h x0 9 (qTR l (d + 6) mX9_setSlope [.ref x0, .int x1] h 16 800 (fun z2 h1 => qLS h1 x2 (0 : Int32) (Int32.toInt64 z2) (fun h3 => Q (some (.int (0 : Int32))) h3)) (fun E h1 => (E = "java/lang/IllegalArgumentException" ∧ Q (some (.int (1 : Int32))) h1)))) : q_CtH xN [(0, 9, 12, 13)] l (d + 7) mL_setSlope [.ref x0, .int x1, .ref x2] h mc ms Q QX := by
  refine q_bodyH (by decide ) (by intro v hm; simp only [List.mem_cons, List.not_mem_nil, or_false] at hm; rcases hm with rfl | rfl | rfl <;> rfl) (Nat.le_of_ble_eq_true rfl) ?_
  refine hx_pad 1 rfl ?_
  refine hx_aload_n dL_setSlope_0 rfl rfl ?_
  refine hx_iconst (v := (0 : Int32)) dL_setSlope_1 (by decide) ?_
  refine hx_aload_n dL_setSlope_2 rfl rfl ?_
  refine hx_iload_n dL_setSlope_3 rfl rfl ?_
  obtain ⟨⟨fs, e1⟩, hv⟩ := hv
  refine hx_virtualX (avs := [.int x1]) (rest := [.int (0 : Int32), .ref x2]) (i := x0) (kc' := (mc - 16)) (ks' := (ms - 800)) dL_setSlope_4 mt_X9_setSlope w_m_L_25 w_in_X9_setSlope w_se_X9_setSlope rfl rfl (Nat.le_of_ble_eq_true rfl) (Nat.le_refl _) (by omega) (by omega) cl_X9.1 e1 hv ?_ ?_
  · rintro _ h1 ⟨z2, rfl, hv⟩ -
    refine hx_i2l dL_setSlope_7 ?_
    obtain ⟨N, f, e1, e2, hv⟩ := hv
    refine hx_last dL_setSlope_8 e1 e2 ?_
    generalize q_set h1 x2 _ = h3 at hv ⊢
    refine hx_goto (tgt := 15) dL_setSlope_9 (by decide) ?_
    refine hx_iconst (v := (0 : Int32)) dL_setSlope_15 (by decide) ?_
    exact hx_iret dL_setSlope_16 rfl hv
  · rintro E h1 hx -
    obtain ⟨rfl, hv⟩ := hx
    refine hx_catch_n [] ⟨0, 9, 12, 13⟩ [] rfl (fun z hz => nomatch hz) (by decide) (by decide) w_cl_L_13 w_cast_IAE dL_setSlope_12 rfl (by decide) rfl rfl ?_
    refine hx_iconst (v := (1 : Int32)) dL_setSlope_13 (by decide) ?_
    exact hx_iret dL_setSlope_14 rfl hv
set_option maxRecDepth 20000 in
set_option maxHeartbeats 4000000 in
theorem v_L_way {l : Launch} {d mc ms : Nat} {Q : Option Value → qH → Prop} {QX : String → qH → Prop} (hkc : 16 ≤ mc) (hks : 800 ≤ ms) (x0 : Nat) (x1 : Int32) (x2 : Int32) (x3 : Int32) (x4 : Int32) (x5 : Int32) (x6 : Nat) {h : qH} (hv : qOB h x0 9 (qTR l (d + 6) mX9_way [.ref x0, .int x1, .int x2, .int x3, .int x4, .int x5] h 16 800 (fun z2 h1 => qLS h1 x6 (0 : Int32) (Int32.toInt64 z2) (fun h3 => Q (some (.int (0 : Int32))) h3)) (fun E h1 => (E = "java/lang/IndexOutOfBoundsException" ∧ Q (some (.int (1 : Int32))) h1)))) : q_CtH xN [(0, 16, 19, 23)] l (d + 7) mL_way [.ref x0, .int x1, .int x2, .int x3, .int x4, .int x5, .ref x6] h mc ms Q QX := by
  refine q_bodyH (by decide ) (by intro v hm; simp only [List.mem_cons, List.not_mem_nil, or_false] at hm; rcases hm with rfl | rfl | rfl | rfl | rfl | rfl | rfl <;> rfl) (Nat.le_of_ble_eq_true rfl) ?_
  refine hx_pad 1 rfl ?_
  refine hx_aload dL_way_0 rfl ?_
  refine hx_iconst (v := (0 : Int32)) dL_way_2 (by decide) ?_
  refine hx_aload_n dL_way_3 rfl rfl ?_
  refine hx_iload_n dL_way_4 rfl rfl ?_
  refine hx_iload_n dL_way_5 rfl rfl ?_
  refine hx_iload_n dL_way_6 rfl rfl ?_
  refine hx_iload dL_way_7 rfl ?_
  refine hx_iload dL_way_9 rfl ?_
  obtain ⟨⟨fs, e1⟩, hv⟩ := hv
  refine hx_virtualX (avs := [.int x1, .int x2, .int x3, .int x4, .int x5]) (rest := [.int (0 : Int32), .ref x6]) (i := x0) (kc' := (mc - 16)) (ks' := (ms - 800)) dL_way_11 mt_X9_way w_m_L_29 w_in_X9_way w_se_X9_way rfl rfl (Nat.le_of_ble_eq_true rfl) (Nat.le_refl _) (by omega) (by omega) cl_X9.1 e1 hv ?_ ?_
  · rintro _ h1 ⟨z2, rfl, hv⟩ -
    refine hx_i2l dL_way_14 ?_
    obtain ⟨N, f, e1, e2, hv⟩ := hv
    refine hx_last dL_way_15 e1 e2 ?_
    generalize q_set h1 x6 _ = h3 at hv ⊢
    refine hx_goto (tgt := 23) dL_way_16 (by decide) ?_
    refine hx_iconst (v := (0 : Int32)) dL_way_23 (by decide) ?_
    exact hx_iret dL_way_24 rfl hv
  · rintro E h1 hx -
    obtain ⟨rfl, hv⟩ := hx
    refine hx_catch [] ⟨0, 16, 19, 23⟩ [] rfl (fun z hz => nomatch hz) (by decide) (by decide) w_cl_L_23 w_cast_IOE dL_way_19 (by decide) rfl rfl ?_
    refine hx_iconst (v := (1 : Int32)) dL_way_21 (by decide) ?_
    exact hx_iret dL_way_22 rfl hv
set_option maxRecDepth 20000 in
set_option maxHeartbeats 4000000 in
theorem v_L_sees {l : Launch} {d mc ms : Nat} {Q : Option Value → qH → Prop} {QX : String → qH → Prop} (hkc : 16 ≤ mc) (hks : 800 ≤ ms) (x0 : Nat) (x1 : Int32) (x2 : Int32) (x3 : Int32) (x4 : Int32) (x5 : Nat) {h : qH} (hv : qOB h x0 9 (qTR l (d + 6) mX9_sees [.ref x0, .int x1, .int x2, .int x3, .int x4] h 16 800 (fun z2 h1 => qIF (z2 = 0) (qLS h1 x5 (0 : Int32) (0 : Int64) (fun h3 => Q (some (.int (0 : Int32))) h3)) (qLS h1 x5 (0 : Int32) (1 : Int64) (fun h4 => Q (some (.int (0 : Int32))) h4))) (fun E h1 => (E = "java/lang/IndexOutOfBoundsException" ∧ Q (some (.int (1 : Int32))) h1)))) : q_CtH xN [(0, 21, 24, 23)] l (d + 7) mL_sees [.ref x0, .int x1, .int x2, .int x3, .int x4, .ref x5] h mc ms Q QX := by
  refine q_bodyH (by decide ) (by intro v hm; simp only [List.mem_cons, List.not_mem_nil, or_false] at hm; rcases hm with rfl | rfl | rfl | rfl | rfl | rfl <;> rfl) (Nat.le_of_ble_eq_true rfl) ?_
  refine hx_pad 1 rfl ?_
  refine hx_aload dL_sees_0 rfl ?_
  refine hx_iconst (v := (0 : Int32)) dL_sees_2 (by decide) ?_
  refine hx_aload_n dL_sees_3 rfl rfl ?_
  refine hx_iload_n dL_sees_4 rfl rfl ?_
  refine hx_iload_n dL_sees_5 rfl rfl ?_
  refine hx_iload_n dL_sees_6 rfl rfl ?_
  refine hx_iload dL_sees_7 rfl ?_
  obtain ⟨⟨fs, e1⟩, hv⟩ := hv
  refine hx_virtualX (avs := [.int x1, .int x2, .int x3, .int x4]) (rest := [.int (0 : Int32), .ref x5]) (i := x0) (kc' := (mc - 16)) (ks' := (ms - 800)) dL_sees_9 mt_X9_sees w_m_L_32 w_in_X9_sees w_se_X9_sees rfl rfl (Nat.le_of_ble_eq_true rfl) (Nat.le_refl _) (by omega) (by omega) cl_X9.1 e1 hv ?_ ?_
  · rintro _ h1 ⟨z2, rfl, hv⟩ -
    refine hx_if_eq (tgt := 19) dL_sees_12 (by decide) (fun hc => ?_) (fun hc => ?_)
    · replace hv := hv.1 hc
      refine hx_lconst (v := (0 : Int64)) dL_sees_19 (by decide) ?_
      obtain ⟨N, f, e1, e2, hv⟩ := hv
      refine hx_last dL_sees_20 e1 e2 ?_
      generalize q_set h1 x5 _ = h3 at hv ⊢
      refine hx_goto (tgt := 28) dL_sees_21 (by decide) ?_
      refine hx_iconst (v := (0 : Int32)) dL_sees_28 (by decide) ?_
      exact hx_iret dL_sees_29 rfl hv
    · replace hv := hv.2 hc
      refine hx_lconst (v := (1 : Int64)) dL_sees_15 (by decide) ?_
      refine hx_goto (tgt := 20) dL_sees_16 (by decide) ?_
      obtain ⟨N, f, e1, e2, hv⟩ := hv
      refine hx_last dL_sees_20 e1 e2 ?_
      generalize q_set h1 x5 _ = h4 at hv ⊢
      refine hx_goto (tgt := 28) dL_sees_21 (by decide) ?_
      refine hx_iconst (v := (0 : Int32)) dL_sees_28 (by decide) ?_
      exact hx_iret dL_sees_29 rfl hv
  · rintro E h1 hx -
    obtain ⟨rfl, hv⟩ := hx
    refine hx_catch [] ⟨0, 21, 24, 23⟩ [] rfl (fun z hz => nomatch hz) (by decide) (by decide) w_cl_L_23 w_cast_IOE dL_sees_24 (by decide) rfl rfl ?_
    refine hx_iconst (v := (1 : Int32)) dL_sees_26 (by decide) ?_
    exact hx_iret dL_sees_27 rfl hv
set_option maxRecDepth 20000 in
set_option maxHeartbeats 4000000 in
theorem v_L_addTarget {l : Launch} {d mc ms : Nat} {Q : Option Value → qH → Prop} {QX : String → qH → Prop} (hkc : 16 ≤ mc) (hks : 800 ≤ ms) (x0 : Nat) (x1 : Int32) (x2 : Int32) (x3 : Int32) (x4 : Int32) (x5 : Nat) {h : qH} (hv : qOB h x0 9 (qTR l (d + 6) mX9_addTarget [.ref x0, .int x1, .int x2, .int x3, .int x4] h 16 800 (fun z2 h1 => qLS h1 x5 (0 : Int32) (Int32.toInt64 z2) (fun h3 => Q (some (.int (0 : Int32))) h3)) (fun E h1 => (E = "java/lang/IndexOutOfBoundsException" ∧ Q (some (.int (1 : Int32))) h1) ∨ (E = "java/lang/IllegalArgumentException" ∧ Q (some (.int (2 : Int32))) h1) ∨ (E = "java/lang/IllegalStateException" ∧ Q (some (.int (3 : Int32))) h1)))) : q_CtH xN [(0, 14, 17, 23), (0, 14, 21, 13), (0, 14, 25, 40)] l (d + 7) mL_addTarget [.ref x0, .int x1, .int x2, .int x3, .int x4, .ref x5] h mc ms Q QX := by
  refine q_bodyH (by decide ) (by intro v hm; simp only [List.mem_cons, List.not_mem_nil, or_false] at hm; rcases hm with rfl | rfl | rfl | rfl | rfl | rfl <;> rfl) (Nat.le_of_ble_eq_true rfl) ?_
  refine hx_pad 1 rfl ?_
  refine hx_aload dL_addTarget_0 rfl ?_
  refine hx_iconst (v := (0 : Int32)) dL_addTarget_2 (by decide) ?_
  refine hx_aload_n dL_addTarget_3 rfl rfl ?_
  refine hx_iload_n dL_addTarget_4 rfl rfl ?_
  refine hx_iload_n dL_addTarget_5 rfl rfl ?_
  refine hx_iload_n dL_addTarget_6 rfl rfl ?_
  refine hx_iload dL_addTarget_7 rfl ?_
  obtain ⟨⟨fs, e1⟩, hv⟩ := hv
  refine hx_virtualX (avs := [.int x1, .int x2, .int x3, .int x4]) (rest := [.int (0 : Int32), .ref x5]) (i := x0) (kc' := (mc - 16)) (ks' := (ms - 800)) dL_addTarget_9 mt_X9_addTarget w_m_L_36 w_in_X9_addTarget w_se_X9_addTarget rfl rfl (Nat.le_of_ble_eq_true rfl) (Nat.le_refl _) (by omega) (by omega) cl_X9.1 e1 hv ?_ ?_
  · rintro _ h1 ⟨z2, rfl, hv⟩ -
    refine hx_i2l dL_addTarget_12 ?_
    obtain ⟨N, f, e1, e2, hv⟩ := hv
    refine hx_last dL_addTarget_13 e1 e2 ?_
    generalize q_set h1 x5 _ = h3 at hv ⊢
    refine hx_goto (tgt := 29) dL_addTarget_14 (by decide) ?_
    refine hx_iconst (v := (0 : Int32)) dL_addTarget_29 (by decide) ?_
    exact hx_iret dL_addTarget_30 rfl hv
  · rintro E h1 hx -
    rcases hx with ⟨rfl, hv⟩ | ⟨rfl, hv⟩ | ⟨rfl, hv⟩
    · refine hx_catch [] ⟨0, 14, 17, 23⟩ [⟨0, 14, 21, 13⟩, ⟨0, 14, 25, 40⟩] rfl (fun z hz => nomatch hz) (by decide) (by decide) w_cl_L_23 w_cast_IOE dL_addTarget_17 (by decide) rfl rfl ?_
      refine hx_iconst (v := (1 : Int32)) dL_addTarget_19 (by decide) ?_
      exact hx_iret dL_addTarget_20 rfl hv
    · refine hx_catch [⟨0, 14, 17, 23⟩] ⟨0, 14, 21, 13⟩ [⟨0, 14, 25, 40⟩] rfl (List.forall_mem_cons.mpr ⟨⟨by decide, _, w_cl_L_23, fun g s q => q.1⟩, (fun z hz => nomatch hz)⟩) (by decide) (by decide) w_cl_L_13 w_cast_IAE dL_addTarget_21 (by decide) rfl rfl ?_
      refine hx_iconst (v := (2 : Int32)) dL_addTarget_23 (by decide) ?_
      exact hx_iret dL_addTarget_24 rfl hv
    · refine hx_catch [⟨0, 14, 17, 23⟩, ⟨0, 14, 21, 13⟩] ⟨0, 14, 25, 40⟩ [] rfl (List.forall_mem_cons.mpr ⟨⟨by decide, _, w_cl_L_23, fun g s q => q.2.1⟩, (List.forall_mem_cons.mpr ⟨⟨by decide, _, w_cl_L_13, fun g s q => q.2.2⟩, (fun z hz => nomatch hz)⟩)⟩) (by decide) (by decide) w_cl_L_40 w_cast_ISE dL_addTarget_25 (by decide) rfl rfl ?_
      refine hx_iconst (v := (3 : Int32)) dL_addTarget_27 (by decide) ?_
      exact hx_iret dL_addTarget_28 rfl hv
set_option maxRecDepth 20000 in
set_option maxHeartbeats 4000000 in
theorem v_L_target {l : Launch} {d mc ms : Nat} {Q : Option Value → qH → Prop} {QX : String → qH → Prop} (hkc : 16 ≤ mc) (hks : 800 ≤ ms) (x0 : Nat) (x1 : Int32) (x2 : Int32) (x3 : Nat) {h : qH} (hv : qOB h x0 9 (qTR l (d + 6) mX9_target [.ref x0, .int x1, .int x2] h 16 800 (fun z2 h1 => qLS h1 x3 (0 : Int32) (Int32.toInt64 z2) (fun h3 => Q (some (.int (0 : Int32))) h3)) (fun E h1 => (E = "java/lang/IndexOutOfBoundsException" ∧ Q (some (.int (1 : Int32))) h1)))) : q_CtH xN [(0, 10, 13, 23)] l (d + 7) mL_target [.ref x0, .int x1, .int x2, .ref x3] h mc ms Q QX := by
  refine q_bodyH (by decide ) (by intro v hm; simp only [List.mem_cons, List.not_mem_nil, or_false] at hm; rcases hm with rfl | rfl | rfl | rfl <;> rfl) (Nat.le_of_ble_eq_true rfl) ?_
  refine hx_pad 1 rfl ?_
  refine hx_aload_n dL_target_0 rfl rfl ?_
  refine hx_iconst (v := (0 : Int32)) dL_target_1 (by decide) ?_
  refine hx_aload_n dL_target_2 rfl rfl ?_
  refine hx_iload_n dL_target_3 rfl rfl ?_
  refine hx_iload_n dL_target_4 rfl rfl ?_
  obtain ⟨⟨fs, e1⟩, hv⟩ := hv
  refine hx_virtualX (avs := [.int x1, .int x2]) (rest := [.int (0 : Int32), .ref x3]) (i := x0) (kc' := (mc - 16)) (ks' := (ms - 800)) dL_target_5 mt_X9_target w_m_L_42 w_in_X9_target w_se_X9_target rfl rfl (Nat.le_of_ble_eq_true rfl) (Nat.le_refl _) (by omega) (by omega) cl_X9.1 e1 hv ?_ ?_
  · rintro _ h1 ⟨z2, rfl, hv⟩ -
    refine hx_i2l dL_target_8 ?_
    obtain ⟨N, f, e1, e2, hv⟩ := hv
    refine hx_last dL_target_9 e1 e2 ?_
    generalize q_set h1 x3 _ = h3 at hv ⊢
    refine hx_goto (tgt := 17) dL_target_10 (by decide) ?_
    refine hx_iconst (v := (0 : Int32)) dL_target_17 (by decide) ?_
    exact hx_iret dL_target_18 rfl hv
  · rintro E h1 hx -
    obtain ⟨rfl, hv⟩ := hx
    refine hx_catch [] ⟨0, 10, 13, 23⟩ [] rfl (fun z hz => nomatch hz) (by decide) (by decide) w_cl_L_23 w_cast_IOE dL_target_13 (by decide) rfl rfl ?_
    refine hx_iconst (v := (1 : Int32)) dL_target_15 (by decide) ?_
    exact hx_iret dL_target_16 rfl hv
set_option maxRecDepth 20000 in
set_option maxHeartbeats 4000000 in
theorem v_L_addPass {l : Launch} {d mc ms : Nat} {Q : Option Value → qH → Prop} {QX : String → qH → Prop} (hkc : 16 ≤ mc) (hks : 800 ≤ ms) (x0 : Nat) (x1 : Int32) (x2 : Int32) (x3 : Int32) (x4 : Nat) {h : qH} (hv : qOB h x0 9 (qTR l (d + 6) mX9_addPass [.ref x0, .int x1, .int x2, .int x3] h 16 800 (fun z2 h1 => qLS h1 x4 (0 : Int32) (Int32.toInt64 z2) (fun h3 => Q (some (.int (0 : Int32))) h3)) (fun E h1 => (E = "java/lang/IllegalArgumentException" ∧ Q (some (.int (1 : Int32))) h1) ∨ (E = "java/lang/IllegalStateException" ∧ Q (some (.int (2 : Int32))) h1)))) : q_CtH xN [(0, 12, 15, 13), (0, 12, 19, 40)] l (d + 7) mL_addPass [.ref x0, .int x1, .int x2, .int x3, .ref x4] h mc ms Q QX := by
  refine q_bodyH (by decide ) (by intro v hm; simp only [List.mem_cons, List.not_mem_nil, or_false] at hm; rcases hm with rfl | rfl | rfl | rfl | rfl <;> rfl) (Nat.le_of_ble_eq_true rfl) ?_
  refine hx_pad 1 rfl ?_
  refine hx_aload dL_addPass_0 rfl ?_
  refine hx_iconst (v := (0 : Int32)) dL_addPass_2 (by decide) ?_
  refine hx_aload_n dL_addPass_3 rfl rfl ?_
  refine hx_iload_n dL_addPass_4 rfl rfl ?_
  refine hx_iload_n dL_addPass_5 rfl rfl ?_
  refine hx_iload_n dL_addPass_6 rfl rfl ?_
  obtain ⟨⟨fs, e1⟩, hv⟩ := hv
  refine hx_virtualX (avs := [.int x1, .int x2, .int x3]) (rest := [.int (0 : Int32), .ref x4]) (i := x0) (kc' := (mc - 16)) (ks' := (ms - 800)) dL_addPass_7 mt_X9_addPass w_m_L_46 w_in_X9_addPass w_se_X9_addPass rfl rfl (Nat.le_of_ble_eq_true rfl) (Nat.le_refl _) (by omega) (by omega) cl_X9.1 e1 hv ?_ ?_
  · rintro _ h1 ⟨z2, rfl, hv⟩ -
    refine hx_i2l dL_addPass_10 ?_
    obtain ⟨N, f, e1, e2, hv⟩ := hv
    refine hx_last dL_addPass_11 e1 e2 ?_
    generalize q_set h1 x4 _ = h3 at hv ⊢
    refine hx_goto (tgt := 23) dL_addPass_12 (by decide) ?_
    refine hx_iconst (v := (0 : Int32)) dL_addPass_23 (by decide) ?_
    exact hx_iret dL_addPass_24 rfl hv
  · rintro E h1 hx -
    rcases hx with ⟨rfl, hv⟩ | ⟨rfl, hv⟩
    · refine hx_catch [] ⟨0, 12, 15, 13⟩ [⟨0, 12, 19, 40⟩] rfl (fun z hz => nomatch hz) (by decide) (by decide) w_cl_L_13 w_cast_IAE dL_addPass_15 (by decide) rfl rfl ?_
      refine hx_iconst (v := (1 : Int32)) dL_addPass_17 (by decide) ?_
      exact hx_iret dL_addPass_18 rfl hv
    · refine hx_catch [⟨0, 12, 15, 13⟩] ⟨0, 12, 19, 40⟩ [] rfl (List.forall_mem_cons.mpr ⟨⟨by decide, _, w_cl_L_13, fun g s q => q.2.2⟩, (fun z hz => nomatch hz)⟩) (by decide) (by decide) w_cl_L_40 w_cast_ISE dL_addPass_19 (by decide) rfl rfl ?_
      refine hx_iconst (v := (2 : Int32)) dL_addPass_21 (by decide) ?_
      exact hx_iret dL_addPass_22 rfl hv
set_option maxRecDepth 20000 in
set_option maxHeartbeats 4000000 in
theorem v_L_rate {l : Launch} {d mc ms : Nat} {Q : Option Value → qH → Prop} {QX : String → qH → Prop} (hkc : 16 ≤ mc) (hks : 800 ≤ ms) (x0 : Nat) (x1 : Int32) (x2 : Nat) {h : qH} (hv : qOB h x0 9 (qTR l (d + 6) mX9_rate [.ref x0, .int x1] h 16 800 (fun z2 h1 => qLS h1 x2 (0 : Int32) (Int32.toInt64 z2) (fun h3 => Q (some (.int (0 : Int32))) h3)) (fun E h1 => (E = "java/lang/IllegalArgumentException" ∧ Q (some (.int (1 : Int32))) h1)))) : q_CtH xN [(0, 9, 12, 13)] l (d + 7) mL_rate [.ref x0, .int x1, .ref x2] h mc ms Q QX := by
  refine q_bodyH (by decide ) (by intro v hm; simp only [List.mem_cons, List.not_mem_nil, or_false] at hm; rcases hm with rfl | rfl | rfl <;> rfl) (Nat.le_of_ble_eq_true rfl) ?_
  refine hx_pad 1 rfl ?_
  refine hx_aload_n dL_rate_0 rfl rfl ?_
  refine hx_iconst (v := (0 : Int32)) dL_rate_1 (by decide) ?_
  refine hx_aload_n dL_rate_2 rfl rfl ?_
  refine hx_iload_n dL_rate_3 rfl rfl ?_
  obtain ⟨⟨fs, e1⟩, hv⟩ := hv
  refine hx_virtualX (avs := [.int x1]) (rest := [.int (0 : Int32), .ref x2]) (i := x0) (kc' := (mc - 16)) (ks' := (ms - 800)) dL_rate_4 mt_X9_rate w_m_L_49 w_in_X9_rate w_se_X9_rate rfl rfl (Nat.le_of_ble_eq_true rfl) (Nat.le_refl _) (by omega) (by omega) cl_X9.1 e1 hv ?_ ?_
  · rintro _ h1 ⟨z2, rfl, hv⟩ -
    refine hx_i2l dL_rate_7 ?_
    obtain ⟨N, f, e1, e2, hv⟩ := hv
    refine hx_last dL_rate_8 e1 e2 ?_
    generalize q_set h1 x2 _ = h3 at hv ⊢
    refine hx_goto (tgt := 15) dL_rate_9 (by decide) ?_
    refine hx_iconst (v := (0 : Int32)) dL_rate_15 (by decide) ?_
    exact hx_iret dL_rate_16 rfl hv
  · rintro E h1 hx -
    obtain ⟨rfl, hv⟩ := hx
    refine hx_catch_n [] ⟨0, 9, 12, 13⟩ [] rfl (fun z hz => nomatch hz) (by decide) (by decide) w_cl_L_13 w_cast_IAE dL_rate_12 rfl (by decide) rfl rfl ?_
    refine hx_iconst (v := (1 : Int32)) dL_rate_13 (by decide) ?_
    exact hx_iret dL_rate_14 rfl hv
set_option maxRecDepth 20000 in
set_option maxHeartbeats 4000000 in
theorem v_L_sky {l : Launch} {d mc ms : Nat} {Q : Option Value → qH → Prop} {QX : String → qH → Prop} (hkc : 16 ≤ mc) (hks : 800 ≤ ms) (x0 : Nat) (x1 : Int32) (x2 : Int32) (x3 : Nat) {h : qH} (hv : qOB h x0 9 (qTR l (d + 6) mX9_sky [.ref x0, .int x1, .int x2] h 16 800 (fun z2 h1 => qLS h1 x3 (0 : Int32) (Int32.toInt64 z2) (fun h3 => Q (some (.int (0 : Int32))) h3)) (fun E h1 => (E = "java/lang/IllegalArgumentException" ∧ Q (some (.int (1 : Int32))) h1)))) : q_CtH xN [(0, 10, 13, 13)] l (d + 7) mL_sky [.ref x0, .int x1, .int x2, .ref x3] h mc ms Q QX := by
  refine q_bodyH (by decide ) (by intro v hm; simp only [List.mem_cons, List.not_mem_nil, or_false] at hm; rcases hm with rfl | rfl | rfl | rfl <;> rfl) (Nat.le_of_ble_eq_true rfl) ?_
  refine hx_pad 1 rfl ?_
  refine hx_aload_n dL_sky_0 rfl rfl ?_
  refine hx_iconst (v := (0 : Int32)) dL_sky_1 (by decide) ?_
  refine hx_aload_n dL_sky_2 rfl rfl ?_
  refine hx_iload_n dL_sky_3 rfl rfl ?_
  refine hx_iload_n dL_sky_4 rfl rfl ?_
  obtain ⟨⟨fs, e1⟩, hv⟩ := hv
  refine hx_virtualX (avs := [.int x1, .int x2]) (rest := [.int (0 : Int32), .ref x3]) (i := x0) (kc' := (mc - 16)) (ks' := (ms - 800)) dL_sky_5 mt_X9_sky w_m_L_52 w_in_X9_sky w_se_X9_sky rfl rfl (Nat.le_of_ble_eq_true rfl) (Nat.le_refl _) (by omega) (by omega) cl_X9.1 e1 hv ?_ ?_
  · rintro _ h1 ⟨z2, rfl, hv⟩ -
    refine hx_i2l dL_sky_8 ?_
    obtain ⟨N, f, e1, e2, hv⟩ := hv
    refine hx_last dL_sky_9 e1 e2 ?_
    generalize q_set h1 x3 _ = h3 at hv ⊢
    refine hx_goto (tgt := 17) dL_sky_10 (by decide) ?_
    refine hx_iconst (v := (0 : Int32)) dL_sky_17 (by decide) ?_
    exact hx_iret dL_sky_18 rfl hv
  · rintro E h1 hx -
    obtain ⟨rfl, hv⟩ := hx
    refine hx_catch [] ⟨0, 10, 13, 13⟩ [] rfl (fun z hz => nomatch hz) (by decide) (by decide) w_cl_L_13 w_cast_IAE dL_sky_13 (by decide) rfl rfl ?_
    refine hx_iconst (v := (1 : Int32)) dL_sky_15 (by decide) ?_
    exact hx_iret dL_sky_16 rfl hv
set_option maxRecDepth 20000 in
set_option maxHeartbeats 4000000 in
theorem v_L_setRover {l : Launch} {d mc ms : Nat} {Q : Option Value → qH → Prop} {QX : String → qH → Prop} (hkc : 16 ≤ mc) (hks : 800 ≤ ms) (x0 : Nat) (x1 : Int32) (x2 : Int32) (x3 : Nat) {h : qH} (hv : qOB h x0 9 (qTR l (d + 6) mX9_setRover [.ref x0, .int x1, .int x2] h 16 800 (fun z2 h1 => qLS h1 x3 (0 : Int32) (Int32.toInt64 z2) (fun h3 => Q (some (.int (0 : Int32))) h3)) (fun E h1 => (E = "java/lang/IllegalArgumentException" ∧ Q (some (.int (1 : Int32))) h1) ∨ (E = "java/lang/IllegalStateException" ∧ Q (some (.int (2 : Int32))) h1)))) : q_CtH xN [(0, 10, 13, 13), (0, 10, 17, 40)] l (d + 7) mL_setRover [.ref x0, .int x1, .int x2, .ref x3] h mc ms Q QX := by
  refine q_bodyH (by decide ) (by intro v hm; simp only [List.mem_cons, List.not_mem_nil, or_false] at hm; rcases hm with rfl | rfl | rfl | rfl <;> rfl) (Nat.le_of_ble_eq_true rfl) ?_
  refine hx_pad 1 rfl ?_
  refine hx_aload_n dL_setRover_0 rfl rfl ?_
  refine hx_iconst (v := (0 : Int32)) dL_setRover_1 (by decide) ?_
  refine hx_aload_n dL_setRover_2 rfl rfl ?_
  refine hx_iload_n dL_setRover_3 rfl rfl ?_
  refine hx_iload_n dL_setRover_4 rfl rfl ?_
  obtain ⟨⟨fs, e1⟩, hv⟩ := hv
  refine hx_virtualX (avs := [.int x1, .int x2]) (rest := [.int (0 : Int32), .ref x3]) (i := x0) (kc' := (mc - 16)) (ks' := (ms - 800)) dL_setRover_5 mt_X9_setRover w_m_L_56 w_in_X9_setRover w_se_X9_setRover rfl rfl (Nat.le_of_ble_eq_true rfl) (Nat.le_refl _) (by omega) (by omega) cl_X9.1 e1 hv ?_ ?_
  · rintro _ h1 ⟨z2, rfl, hv⟩ -
    refine hx_i2l dL_setRover_8 ?_
    obtain ⟨N, f, e1, e2, hv⟩ := hv
    refine hx_last dL_setRover_9 e1 e2 ?_
    generalize q_set h1 x3 _ = h3 at hv ⊢
    refine hx_goto (tgt := 21) dL_setRover_10 (by decide) ?_
    refine hx_iconst (v := (0 : Int32)) dL_setRover_21 (by decide) ?_
    exact hx_iret dL_setRover_22 rfl hv
  · rintro E h1 hx -
    rcases hx with ⟨rfl, hv⟩ | ⟨rfl, hv⟩
    · refine hx_catch [] ⟨0, 10, 13, 13⟩ [⟨0, 10, 17, 40⟩] rfl (fun z hz => nomatch hz) (by decide) (by decide) w_cl_L_13 w_cast_IAE dL_setRover_13 (by decide) rfl rfl ?_
      refine hx_iconst (v := (1 : Int32)) dL_setRover_15 (by decide) ?_
      exact hx_iret dL_setRover_16 rfl hv
    · refine hx_catch [⟨0, 10, 13, 13⟩] ⟨0, 10, 17, 40⟩ [] rfl (List.forall_mem_cons.mpr ⟨⟨by decide, _, w_cl_L_13, fun g s q => q.2.2⟩, (fun z hz => nomatch hz)⟩) (by decide) (by decide) w_cl_L_40 w_cast_ISE dL_setRover_17 (by decide) rfl rfl ?_
      refine hx_iconst (v := (2 : Int32)) dL_setRover_19 (by decide) ?_
      exact hx_iret dL_setRover_20 rfl hv
set_option maxRecDepth 20000 in
set_option maxHeartbeats 4000000 in
theorem v_L_rover {l : Launch} {d mc ms : Nat} {Q : Option Value → qH → Prop} {QX : String → qH → Prop} (hkc : 16 ≤ mc) (hks : 800 ≤ ms) (x0 : Nat) (x1 : Int32) (x2 : Nat) {h : qH} (hv : qOB h x0 9 (qTR l (d + 6) mX9_rover [.ref x0, .int x1] h 16 800 (fun z2 h1 => qLS h1 x2 (0 : Int32) (Int32.toInt64 z2) (fun h3 => Q (some (.int (0 : Int32))) h3)) (fun E h1 => (E = "java/lang/IndexOutOfBoundsException" ∧ Q (some (.int (1 : Int32))) h1)))) : q_CtH xN [(0, 9, 12, 23)] l (d + 7) mL_rover [.ref x0, .int x1, .ref x2] h mc ms Q QX := by
  refine q_bodyH (by decide ) (by intro v hm; simp only [List.mem_cons, List.not_mem_nil, or_false] at hm; rcases hm with rfl | rfl | rfl <;> rfl) (Nat.le_of_ble_eq_true rfl) ?_
  refine hx_pad 1 rfl ?_
  refine hx_aload_n dL_rover_0 rfl rfl ?_
  refine hx_iconst (v := (0 : Int32)) dL_rover_1 (by decide) ?_
  refine hx_aload_n dL_rover_2 rfl rfl ?_
  refine hx_iload_n dL_rover_3 rfl rfl ?_
  obtain ⟨⟨fs, e1⟩, hv⟩ := hv
  refine hx_virtualX (avs := [.int x1]) (rest := [.int (0 : Int32), .ref x2]) (i := x0) (kc' := (mc - 16)) (ks' := (ms - 800)) dL_rover_4 mt_X9_rover w_m_L_59 w_in_X9_rover w_se_X9_rover rfl rfl (Nat.le_of_ble_eq_true rfl) (Nat.le_refl _) (by omega) (by omega) cl_X9.1 e1 hv ?_ ?_
  · rintro _ h1 ⟨z2, rfl, hv⟩ -
    refine hx_i2l dL_rover_7 ?_
    obtain ⟨N, f, e1, e2, hv⟩ := hv
    refine hx_last dL_rover_8 e1 e2 ?_
    generalize q_set h1 x2 _ = h3 at hv ⊢
    refine hx_goto (tgt := 15) dL_rover_9 (by decide) ?_
    refine hx_iconst (v := (0 : Int32)) dL_rover_15 (by decide) ?_
    exact hx_iret dL_rover_16 rfl hv
  · rintro E h1 hx -
    obtain ⟨rfl, hv⟩ := hx
    refine hx_catch_n [] ⟨0, 9, 12, 23⟩ [] rfl (fun z hz => nomatch hz) (by decide) (by decide) w_cl_L_23 w_cast_IOE dL_rover_12 rfl (by decide) rfl rfl ?_
    refine hx_iconst (v := (1 : Int32)) dL_rover_13 (by decide) ?_
    exact hx_iret dL_rover_14 rfl hv
set_option maxRecDepth 20000 in
set_option maxHeartbeats 4000000 in
theorem v_L_piece {l : Launch} {d mc ms : Nat} {Q : Option Value → qH → Prop} {QX : String → qH → Prop} (hkc : 16 ≤ mc) (hks : 800 ≤ ms) (x0 : Nat) (x1 : Int32) (x2 : Int32) (x3 : Nat) {h : qH} (hv : qOB h x0 9 (qTR l (d + 6) mX9_piece [.ref x0, .int x1, .int x2] h 16 800 (fun z2 h1 => qLS h1 x3 (0 : Int32) (Int32.toInt64 z2) (fun h3 => Q (some (.int (0 : Int32))) h3)) (fun E h1 => (E = "java/lang/IndexOutOfBoundsException" ∧ Q (some (.int (1 : Int32))) h1)))) : q_CtH xN [(0, 10, 13, 23)] l (d + 7) mL_piece [.ref x0, .int x1, .int x2, .ref x3] h mc ms Q QX := by
  refine q_bodyH (by decide ) (by intro v hm; simp only [List.mem_cons, List.not_mem_nil, or_false] at hm; rcases hm with rfl | rfl | rfl | rfl <;> rfl) (Nat.le_of_ble_eq_true rfl) ?_
  refine hx_pad 1 rfl ?_
  refine hx_aload_n dL_piece_0 rfl rfl ?_
  refine hx_iconst (v := (0 : Int32)) dL_piece_1 (by decide) ?_
  refine hx_aload_n dL_piece_2 rfl rfl ?_
  refine hx_iload_n dL_piece_3 rfl rfl ?_
  refine hx_iload_n dL_piece_4 rfl rfl ?_
  obtain ⟨⟨fs, e1⟩, hv⟩ := hv
  refine hx_virtualX (avs := [.int x1, .int x2]) (rest := [.int (0 : Int32), .ref x3]) (i := x0) (kc' := (mc - 16)) (ks' := (ms - 800)) dL_piece_5 mt_X9_piece w_m_L_62 w_in_X9_piece w_se_X9_piece rfl rfl (Nat.le_of_ble_eq_true rfl) (Nat.le_refl _) (by omega) (by omega) cl_X9.1 e1 hv ?_ ?_
  · rintro _ h1 ⟨z2, rfl, hv⟩ -
    refine hx_i2l dL_piece_8 ?_
    obtain ⟨N, f, e1, e2, hv⟩ := hv
    refine hx_last dL_piece_9 e1 e2 ?_
    generalize q_set h1 x3 _ = h3 at hv ⊢
    refine hx_goto (tgt := 17) dL_piece_10 (by decide) ?_
    refine hx_iconst (v := (0 : Int32)) dL_piece_17 (by decide) ?_
    exact hx_iret dL_piece_18 rfl hv
  · rintro E h1 hx -
    obtain ⟨rfl, hv⟩ := hx
    refine hx_catch [] ⟨0, 10, 13, 23⟩ [] rfl (fun z hz => nomatch hz) (by decide) (by decide) w_cl_L_23 w_cast_IOE dL_piece_13 (by decide) rfl rfl ?_
    refine hx_iconst (v := (1 : Int32)) dL_piece_15 (by decide) ?_
    exact hx_iret dL_piece_16 rfl hv
set_option maxRecDepth 20000 in
set_option maxHeartbeats 4000000 in
theorem v_L_put {l : Launch} {d mc ms : Nat} {Q : Option Value → qH → Prop} {QX : String → qH → Prop} (hkc : 16 ≤ mc) (hks : 800 ≤ ms) (x0 : Nat) (x1 : Int32) (x2 : Int32) (x3 : Int32) (x4 : Int32) (x5 : Nat) {h : qH} (hv : qOB h x0 9 (qTR l (d + 6) mX9_put [.ref x0, .int x1, .int x2, .int x3, .int x4] h 16 800 (fun z2 h1 => qLS h1 x5 (0 : Int32) (Int32.toInt64 z2) (fun h3 => Q (some (.int (0 : Int32))) h3)) (fun E h1 => (E = "java/lang/IndexOutOfBoundsException" ∧ Q (some (.int (1 : Int32))) h1) ∨ (E = "java/lang/IllegalArgumentException" ∧ Q (some (.int (2 : Int32))) h1) ∨ (E = "java/lang/IllegalStateException" ∧ Q (some (.int (3 : Int32))) h1)))) : q_CtH xN [(0, 14, 17, 23), (0, 14, 21, 13), (0, 14, 25, 40)] l (d + 7) mL_put [.ref x0, .int x1, .int x2, .int x3, .int x4, .ref x5] h mc ms Q QX := by
  refine q_bodyH (by decide ) (by intro v hm; simp only [List.mem_cons, List.not_mem_nil, or_false] at hm; rcases hm with rfl | rfl | rfl | rfl | rfl | rfl <;> rfl) (Nat.le_of_ble_eq_true rfl) ?_
  refine hx_pad 1 rfl ?_
  refine hx_aload dL_put_0 rfl ?_
  refine hx_iconst (v := (0 : Int32)) dL_put_2 (by decide) ?_
  refine hx_aload_n dL_put_3 rfl rfl ?_
  refine hx_iload_n dL_put_4 rfl rfl ?_
  refine hx_iload_n dL_put_5 rfl rfl ?_
  refine hx_iload_n dL_put_6 rfl rfl ?_
  refine hx_iload dL_put_7 rfl ?_
  obtain ⟨⟨fs, e1⟩, hv⟩ := hv
  refine hx_virtualX (avs := [.int x1, .int x2, .int x3, .int x4]) (rest := [.int (0 : Int32), .ref x5]) (i := x0) (kc' := (mc - 16)) (ks' := (ms - 800)) dL_put_9 mt_X9_put w_m_L_65 w_in_X9_put w_se_X9_put rfl rfl (Nat.le_of_ble_eq_true rfl) (Nat.le_refl _) (by omega) (by omega) cl_X9.1 e1 hv ?_ ?_
  · rintro _ h1 ⟨z2, rfl, hv⟩ -
    refine hx_i2l dL_put_12 ?_
    obtain ⟨N, f, e1, e2, hv⟩ := hv
    refine hx_last dL_put_13 e1 e2 ?_
    generalize q_set h1 x5 _ = h3 at hv ⊢
    refine hx_goto (tgt := 29) dL_put_14 (by decide) ?_
    refine hx_iconst (v := (0 : Int32)) dL_put_29 (by decide) ?_
    exact hx_iret dL_put_30 rfl hv
  · rintro E h1 hx -
    rcases hx with ⟨rfl, hv⟩ | ⟨rfl, hv⟩ | ⟨rfl, hv⟩
    · refine hx_catch [] ⟨0, 14, 17, 23⟩ [⟨0, 14, 21, 13⟩, ⟨0, 14, 25, 40⟩] rfl (fun z hz => nomatch hz) (by decide) (by decide) w_cl_L_23 w_cast_IOE dL_put_17 (by decide) rfl rfl ?_
      refine hx_iconst (v := (1 : Int32)) dL_put_19 (by decide) ?_
      exact hx_iret dL_put_20 rfl hv
    · refine hx_catch [⟨0, 14, 17, 23⟩] ⟨0, 14, 21, 13⟩ [⟨0, 14, 25, 40⟩] rfl (List.forall_mem_cons.mpr ⟨⟨by decide, _, w_cl_L_23, fun g s q => q.1⟩, (fun z hz => nomatch hz)⟩) (by decide) (by decide) w_cl_L_13 w_cast_IAE dL_put_21 (by decide) rfl rfl ?_
      refine hx_iconst (v := (2 : Int32)) dL_put_23 (by decide) ?_
      exact hx_iret dL_put_24 rfl hv
    · refine hx_catch [⟨0, 14, 17, 23⟩, ⟨0, 14, 21, 13⟩] ⟨0, 14, 25, 40⟩ [] rfl (List.forall_mem_cons.mpr ⟨⟨by decide, _, w_cl_L_23, fun g s q => q.2.1⟩, (List.forall_mem_cons.mpr ⟨⟨by decide, _, w_cl_L_13, fun g s q => q.2.2⟩, (fun z hz => nomatch hz)⟩)⟩) (by decide) (by decide) w_cl_L_40 w_cast_ISE dL_put_25 (by decide) rfl rfl ?_
      refine hx_iconst (v := (3 : Int32)) dL_put_27 (by decide) ?_
      exact hx_iret dL_put_28 rfl hv
set_option maxRecDepth 20000 in
set_option maxHeartbeats 4000000 in
theorem v_L_remove {l : Launch} {d mc ms : Nat} {Q : Option Value → qH → Prop} {QX : String → qH → Prop} (hkc : 16 ≤ mc) (hks : 800 ≤ ms) (x0 : Nat) (x1 : Int32) (x2 : Nat) {h : qH} (hv : qOB h x0 9 (qTR l (d + 6) mX9_remove [.ref x0, .int x1] h 16 800 (fun z2 h1 => qLS h1 x2 (0 : Int32) (Int32.toInt64 z2) (fun h3 => Q (some (.int (0 : Int32))) h3)) (fun E h1 => (E = "java/lang/IndexOutOfBoundsException" ∧ Q (some (.int (1 : Int32))) h1)))) : q_CtH xN [(0, 9, 12, 23)] l (d + 7) mL_remove [.ref x0, .int x1, .ref x2] h mc ms Q QX := by
  refine q_bodyH (by decide ) (by intro v hm; simp only [List.mem_cons, List.not_mem_nil, or_false] at hm; rcases hm with rfl | rfl | rfl <;> rfl) (Nat.le_of_ble_eq_true rfl) ?_
  refine hx_pad 1 rfl ?_
  refine hx_aload_n dL_remove_0 rfl rfl ?_
  refine hx_iconst (v := (0 : Int32)) dL_remove_1 (by decide) ?_
  refine hx_aload_n dL_remove_2 rfl rfl ?_
  refine hx_iload_n dL_remove_3 rfl rfl ?_
  obtain ⟨⟨fs, e1⟩, hv⟩ := hv
  refine hx_virtualX (avs := [.int x1]) (rest := [.int (0 : Int32), .ref x2]) (i := x0) (kc' := (mc - 16)) (ks' := (ms - 800)) dL_remove_4 mt_X9_remove w_m_L_68 w_in_X9_remove w_se_X9_remove rfl rfl (Nat.le_of_ble_eq_true rfl) (Nat.le_refl _) (by omega) (by omega) cl_X9.1 e1 hv ?_ ?_
  · rintro _ h1 ⟨z2, rfl, hv⟩ -
    refine hx_i2l dL_remove_7 ?_
    obtain ⟨N, f, e1, e2, hv⟩ := hv
    refine hx_last dL_remove_8 e1 e2 ?_
    generalize q_set h1 x2 _ = h3 at hv ⊢
    refine hx_goto (tgt := 15) dL_remove_9 (by decide) ?_
    refine hx_iconst (v := (0 : Int32)) dL_remove_15 (by decide) ?_
    exact hx_iret dL_remove_16 rfl hv
  · rintro E h1 hx -
    obtain ⟨rfl, hv⟩ := hx
    refine hx_catch_n [] ⟨0, 9, 12, 23⟩ [] rfl (fun z hz => nomatch hz) (by decide) (by decide) w_cl_L_23 w_cast_IOE dL_remove_12 rfl (by decide) rfl rfl ?_
    refine hx_iconst (v := (1 : Int32)) dL_remove_13 (by decide) ?_
    exact hx_iret dL_remove_14 rfl hv
set_option maxRecDepth 20000 in
set_option maxHeartbeats 4000000 in
theorem v_L_move {l : Launch} {d mc ms : Nat} {Q : Option Value → qH → Prop} {QX : String → qH → Prop} (hkc : 16 ≤ mc) (hks : 800 ≤ ms) (x0 : Nat) (x1 : Int32) (x2 : Int32) (x3 : Nat) {h : qH} (hv : qOB h x0 9 (qTR l (d + 6) mX9_move [.ref x0, .int x1, .int x2] h 16 800 (fun z2 h1 => qLS h1 x3 (0 : Int32) (Int32.toInt64 z2) (fun h3 => Q (some (.int (0 : Int32))) h3)) (fun E h1 => (E = "java/lang/IndexOutOfBoundsException" ∧ Q (some (.int (1 : Int32))) h1)))) : q_CtH xN [(0, 10, 13, 23)] l (d + 7) mL_move [.ref x0, .int x1, .int x2, .ref x3] h mc ms Q QX := by
  refine q_bodyH (by decide ) (by intro v hm; simp only [List.mem_cons, List.not_mem_nil, or_false] at hm; rcases hm with rfl | rfl | rfl | rfl <;> rfl) (Nat.le_of_ble_eq_true rfl) ?_
  refine hx_pad 1 rfl ?_
  refine hx_aload_n dL_move_0 rfl rfl ?_
  refine hx_iconst (v := (0 : Int32)) dL_move_1 (by decide) ?_
  refine hx_aload_n dL_move_2 rfl rfl ?_
  refine hx_iload_n dL_move_3 rfl rfl ?_
  refine hx_iload_n dL_move_4 rfl rfl ?_
  obtain ⟨⟨fs, e1⟩, hv⟩ := hv
  refine hx_virtualX (avs := [.int x1, .int x2]) (rest := [.int (0 : Int32), .ref x3]) (i := x0) (kc' := (mc - 16)) (ks' := (ms - 800)) dL_move_5 mt_X9_move w_m_L_71 w_in_X9_move w_se_X9_move rfl rfl (Nat.le_of_ble_eq_true rfl) (Nat.le_refl _) (by omega) (by omega) cl_X9.1 e1 hv ?_ ?_
  · rintro _ h1 ⟨z2, rfl, hv⟩ -
    refine hx_i2l dL_move_8 ?_
    obtain ⟨N, f, e1, e2, hv⟩ := hv
    refine hx_last dL_move_9 e1 e2 ?_
    generalize q_set h1 x3 _ = h3 at hv ⊢
    refine hx_goto (tgt := 17) dL_move_10 (by decide) ?_
    refine hx_iconst (v := (0 : Int32)) dL_move_17 (by decide) ?_
    exact hx_iret dL_move_18 rfl hv
  · rintro E h1 hx -
    obtain ⟨rfl, hv⟩ := hx
    refine hx_catch [] ⟨0, 10, 13, 23⟩ [] rfl (fun z hz => nomatch hz) (by decide) (by decide) w_cl_L_23 w_cast_IOE dL_move_13 (by decide) rfl rfl ?_
    refine hx_iconst (v := (1 : Int32)) dL_move_15 (by decide) ?_
    exact hx_iret dL_move_16 rfl hv
set_option maxRecDepth 20000 in
set_option maxHeartbeats 4000000 in
theorem v_L_activity {l : Launch} {d mc ms : Nat} {Q : Option Value → qH → Prop} {QX : String → qH → Prop} (hkc : 16 ≤ mc) (hks : 800 ≤ ms) (x0 : Nat) (x1 : Int32) (x2 : Int32) (x3 : Nat) {h : qH} (hv : qOB h x0 9 (qTR l (d + 6) mX9_activity [.ref x0, .int x1, .int x2] h 16 800 (fun z2 h1 => qLS h1 x3 (0 : Int32) (Int32.toInt64 z2) (fun h3 => Q (some (.int (0 : Int32))) h3)) (fun E h1 => (E = "java/lang/IndexOutOfBoundsException" ∧ Q (some (.int (1 : Int32))) h1)))) : q_CtH xN [(0, 10, 13, 23)] l (d + 7) mL_activity [.ref x0, .int x1, .int x2, .ref x3] h mc ms Q QX := by
  refine q_bodyH (by decide ) (by intro v hm; simp only [List.mem_cons, List.not_mem_nil, or_false] at hm; rcases hm with rfl | rfl | rfl | rfl <;> rfl) (Nat.le_of_ble_eq_true rfl) ?_
  refine hx_pad 1 rfl ?_
  refine hx_aload_n dL_activity_0 rfl rfl ?_
  refine hx_iconst (v := (0 : Int32)) dL_activity_1 (by decide) ?_
  refine hx_aload_n dL_activity_2 rfl rfl ?_
  refine hx_iload_n dL_activity_3 rfl rfl ?_
  refine hx_iload_n dL_activity_4 rfl rfl ?_
  obtain ⟨⟨fs, e1⟩, hv⟩ := hv
  refine hx_virtualX (avs := [.int x1, .int x2]) (rest := [.int (0 : Int32), .ref x3]) (i := x0) (kc' := (mc - 16)) (ks' := (ms - 800)) dL_activity_5 mt_X9_activity w_m_L_74 w_in_X9_activity w_se_X9_activity rfl rfl (Nat.le_of_ble_eq_true rfl) (Nat.le_refl _) (by omega) (by omega) cl_X9.1 e1 hv ?_ ?_
  · rintro _ h1 ⟨z2, rfl, hv⟩ -
    refine hx_i2l dL_activity_8 ?_
    obtain ⟨N, f, e1, e2, hv⟩ := hv
    refine hx_last dL_activity_9 e1 e2 ?_
    generalize q_set h1 x3 _ = h3 at hv ⊢
    refine hx_goto (tgt := 17) dL_activity_10 (by decide) ?_
    refine hx_iconst (v := (0 : Int32)) dL_activity_17 (by decide) ?_
    exact hx_iret dL_activity_18 rfl hv
  · rintro E h1 hx -
    obtain ⟨rfl, hv⟩ := hx
    refine hx_catch [] ⟨0, 10, 13, 23⟩ [] rfl (fun z hz => nomatch hz) (by decide) (by decide) w_cl_L_23 w_cast_IOE dL_activity_13 (by decide) rfl rfl ?_
    refine hx_iconst (v := (1 : Int32)) dL_activity_15 (by decide) ?_
    exact hx_iret dL_activity_16 rfl hv
set_option maxRecDepth 20000 in
set_option maxHeartbeats 4000000 in
theorem v_L_count {l : Launch} {d mc ms : Nat} {Q : Option Value → qH → Prop} {QX : String → qH → Prop} (hkc : 16 ≤ mc) (hks : 800 ≤ ms) (x0 : Nat) (x1 : Int32) (x2 : Nat) {h : qH} (hv : qOB h x0 9 (qTR l (d + 6) mX9_count [.ref x0, .int x1] h 16 800 (fun z2 h1 => qLS h1 x2 (0 : Int32) (Int32.toInt64 z2) (fun h3 => Q (some (.int (0 : Int32))) h3)) (fun E h1 => (E = "java/lang/IndexOutOfBoundsException" ∧ Q (some (.int (1 : Int32))) h1)))) : q_CtH xN [(0, 9, 12, 23)] l (d + 7) mL_count [.ref x0, .int x1, .ref x2] h mc ms Q QX := by
  refine q_bodyH (by decide ) (by intro v hm; simp only [List.mem_cons, List.not_mem_nil, or_false] at hm; rcases hm with rfl | rfl | rfl <;> rfl) (Nat.le_of_ble_eq_true rfl) ?_
  refine hx_pad 1 rfl ?_
  refine hx_aload_n dL_count_0 rfl rfl ?_
  refine hx_iconst (v := (0 : Int32)) dL_count_1 (by decide) ?_
  refine hx_aload_n dL_count_2 rfl rfl ?_
  refine hx_iload_n dL_count_3 rfl rfl ?_
  obtain ⟨⟨fs, e1⟩, hv⟩ := hv
  refine hx_virtualX (avs := [.int x1]) (rest := [.int (0 : Int32), .ref x2]) (i := x0) (kc' := (mc - 16)) (ks' := (ms - 800)) dL_count_4 mt_X9_count w_m_L_77 w_in_X9_count w_se_X9_count rfl rfl (Nat.le_of_ble_eq_true rfl) (Nat.le_refl _) (by omega) (by omega) cl_X9.1 e1 hv ?_ ?_
  · rintro _ h1 ⟨z2, rfl, hv⟩ -
    refine hx_i2l dL_count_7 ?_
    obtain ⟨N, f, e1, e2, hv⟩ := hv
    refine hx_last dL_count_8 e1 e2 ?_
    generalize q_set h1 x2 _ = h3 at hv ⊢
    refine hx_goto (tgt := 15) dL_count_9 (by decide) ?_
    refine hx_iconst (v := (0 : Int32)) dL_count_15 (by decide) ?_
    exact hx_iret dL_count_16 rfl hv
  · rintro E h1 hx -
    obtain ⟨rfl, hv⟩ := hx
    refine hx_catch_n [] ⟨0, 9, 12, 23⟩ [] rfl (fun z hz => nomatch hz) (by decide) (by decide) w_cl_L_23 w_cast_IOE dL_count_12 rfl (by decide) rfl rfl ?_
    refine hx_iconst (v := (1 : Int32)) dL_count_13 (by decide) ?_
    exact hx_iret dL_count_14 rfl hv
set_option maxRecDepth 20000 in
set_option maxHeartbeats 4000000 in
theorem v_L_foretell {l : Launch} {d mc ms : Nat} {Q : Option Value → qH → Prop} {QX : String → qH → Prop} (hkc : 16 ≤ mc) (hks : 800 ≤ ms) (x0 : Nat) (x1 : Int32) (x2 : Int32) (x3 : Nat) {h : qH} (hv : qOB h x0 9 (qTR l (d + 7) mX9_foretell [.ref x0, .int x1, .int x2] h 16 800 (fun z2 h1 => qLS h1 x3 (0 : Int32) (Int32.toInt64 z2) (fun h3 => Q (some (.int (0 : Int32))) h3)) (fun E h1 => (E = "java/lang/IndexOutOfBoundsException" ∧ Q (some (.int (1 : Int32))) h1) ∨ (E = "java/lang/IllegalArgumentException" ∧ Q (some (.int (2 : Int32))) h1) ∨ (E = "java/lang/IllegalStateException" ∧ Q (some (.int (3 : Int32))) h1)))) : q_CtH xN [(0, 10, 13, 23), (0, 10, 17, 13), (0, 10, 21, 40)] l (d + 8) mL_foretell [.ref x0, .int x1, .int x2, .ref x3] h mc ms Q QX := by
  refine q_bodyH (by decide ) (by intro v hm; simp only [List.mem_cons, List.not_mem_nil, or_false] at hm; rcases hm with rfl | rfl | rfl | rfl <;> rfl) (Nat.le_of_ble_eq_true rfl) ?_
  refine hx_pad 1 rfl ?_
  refine hx_aload_n dL_foretell_0 rfl rfl ?_
  refine hx_iconst (v := (0 : Int32)) dL_foretell_1 (by decide) ?_
  refine hx_aload_n dL_foretell_2 rfl rfl ?_
  refine hx_iload_n dL_foretell_3 rfl rfl ?_
  refine hx_iload_n dL_foretell_4 rfl rfl ?_
  obtain ⟨⟨fs, e1⟩, hv⟩ := hv
  refine hx_virtualX (avs := [.int x1, .int x2]) (rest := [.int (0 : Int32), .ref x3]) (i := x0) (kc' := (mc - 16)) (ks' := (ms - 800)) dL_foretell_5 mt_X9_foretell w_m_L_80 w_in_X9_foretell w_se_X9_foretell rfl rfl (Nat.le_of_ble_eq_true rfl) (Nat.le_refl _) (by omega) (by omega) cl_X9.1 e1 hv ?_ ?_
  · rintro _ h1 ⟨z2, rfl, hv⟩ -
    refine hx_i2l dL_foretell_8 ?_
    obtain ⟨N, f, e1, e2, hv⟩ := hv
    refine hx_last dL_foretell_9 e1 e2 ?_
    generalize q_set h1 x3 _ = h3 at hv ⊢
    refine hx_goto (tgt := 25) dL_foretell_10 (by decide) ?_
    refine hx_iconst (v := (0 : Int32)) dL_foretell_25 (by decide) ?_
    exact hx_iret dL_foretell_26 rfl hv
  · rintro E h1 hx -
    rcases hx with ⟨rfl, hv⟩ | ⟨rfl, hv⟩ | ⟨rfl, hv⟩
    · refine hx_catch [] ⟨0, 10, 13, 23⟩ [⟨0, 10, 17, 13⟩, ⟨0, 10, 21, 40⟩] rfl (fun z hz => nomatch hz) (by decide) (by decide) w_cl_L_23 w_cast_IOE dL_foretell_13 (by decide) rfl rfl ?_
      refine hx_iconst (v := (1 : Int32)) dL_foretell_15 (by decide) ?_
      exact hx_iret dL_foretell_16 rfl hv
    · refine hx_catch [⟨0, 10, 13, 23⟩] ⟨0, 10, 17, 13⟩ [⟨0, 10, 21, 40⟩] rfl (List.forall_mem_cons.mpr ⟨⟨by decide, _, w_cl_L_23, fun g s q => q.1⟩, (fun z hz => nomatch hz)⟩) (by decide) (by decide) w_cl_L_13 w_cast_IAE dL_foretell_17 (by decide) rfl rfl ?_
      refine hx_iconst (v := (2 : Int32)) dL_foretell_19 (by decide) ?_
      exact hx_iret dL_foretell_20 rfl hv
    · refine hx_catch [⟨0, 10, 13, 23⟩, ⟨0, 10, 17, 13⟩] ⟨0, 10, 21, 40⟩ [] rfl (List.forall_mem_cons.mpr ⟨⟨by decide, _, w_cl_L_23, fun g s q => q.2.1⟩, (List.forall_mem_cons.mpr ⟨⟨by decide, _, w_cl_L_13, fun g s q => q.2.2⟩, (fun z hz => nomatch hz)⟩)⟩) (by decide) (by decide) w_cl_L_40 w_cast_ISE dL_foretell_21 (by decide) rfl rfl ?_
      refine hx_iconst (v := (3 : Int32)) dL_foretell_23 (by decide) ?_
      exact hx_iret dL_foretell_24 rfl hv
set_option maxRecDepth 20000 in
set_option maxHeartbeats 4000000 in
theorem v_L_run {l : Launch} {d mc ms : Nat} {Q : Option Value → qH → Prop} {QX : String → qH → Prop} (hkc : 16 ≤ mc) (hks : 800 ≤ ms) (x0 : Nat) (x1 : Int32) (x2 : Nat) {h : qH} (hv : qOB h x0 9 (qTR l (d + 6) mX9_run [.ref x0, .int x1] h 16 800 (fun z2 h1 => qLS h1 x2 (0 : Int32) (Int32.toInt64 z2) (fun h3 => Q (some (.int (0 : Int32))) h3)) (fun E h1 => (E = "java/lang/IllegalArgumentException" ∧ Q (some (.int (1 : Int32))) h1)))) : q_CtH xN [(0, 9, 12, 13)] l (d + 7) mL_run [.ref x0, .int x1, .ref x2] h mc ms Q QX := by
  refine q_bodyH (by decide ) (by intro v hm; simp only [List.mem_cons, List.not_mem_nil, or_false] at hm; rcases hm with rfl | rfl | rfl <;> rfl) (Nat.le_of_ble_eq_true rfl) ?_
  refine hx_pad 1 rfl ?_
  refine hx_aload_n dL_run_0 rfl rfl ?_
  refine hx_iconst (v := (0 : Int32)) dL_run_1 (by decide) ?_
  refine hx_aload_n dL_run_2 rfl rfl ?_
  refine hx_iload_n dL_run_3 rfl rfl ?_
  obtain ⟨⟨fs, e1⟩, hv⟩ := hv
  refine hx_virtualX (avs := [.int x1]) (rest := [.int (0 : Int32), .ref x2]) (i := x0) (kc' := (mc - 16)) (ks' := (ms - 800)) dL_run_4 mt_X9_run w_m_L_83 w_in_X9_run w_se_X9_run rfl rfl (Nat.le_of_ble_eq_true rfl) (Nat.le_refl _) (by omega) (by omega) cl_X9.1 e1 hv ?_ ?_
  · rintro _ h1 ⟨z2, rfl, hv⟩ -
    refine hx_i2l dL_run_7 ?_
    obtain ⟨N, f, e1, e2, hv⟩ := hv
    refine hx_last dL_run_8 e1 e2 ?_
    generalize q_set h1 x2 _ = h3 at hv ⊢
    refine hx_goto (tgt := 15) dL_run_9 (by decide) ?_
    refine hx_iconst (v := (0 : Int32)) dL_run_15 (by decide) ?_
    exact hx_iret dL_run_16 rfl hv
  · rintro E h1 hx -
    obtain ⟨rfl, hv⟩ := hx
    refine hx_catch_n [] ⟨0, 9, 12, 13⟩ [] rfl (fun z hz => nomatch hz) (by decide) (by decide) w_cl_L_13 w_cast_IAE dL_run_12 rfl (by decide) rfl rfl ?_
    refine hx_iconst (v := (1 : Int32)) dL_run_13 (by decide) ?_
    exact hx_iret dL_run_14 rfl hv
set_option maxRecDepth 20000 in
set_option maxHeartbeats 4000000 in
theorem v_L_make {l : Launch} {d mc ms : Nat} {Q : Option Value → qH → Prop} {QX : String → qH → Prop} (hkc : 16 ≤ mc) (hks : 800 ≤ ms) (x0 : Nat) (x1 : Int32) (x2 : Nat) {h : qH} (hv : qOB h x0 9 (qTR l (d + 7) mX9_make [.ref x0, .int x1] h 16 800 (fun z2 h1 => qLS h1 x2 (0 : Int32) (Int32.toInt64 z2) (fun h3 => Q (some (.int (0 : Int32))) h3)) (fun E h1 => (E = "java/lang/IllegalArgumentException" ∧ Q (some (.int (1 : Int32))) h1)))) : q_CtH xN [(0, 9, 12, 13)] l (d + 8) mL_make [.ref x0, .int x1, .ref x2] h mc ms Q QX := by
  refine q_bodyH (by decide ) (by intro v hm; simp only [List.mem_cons, List.not_mem_nil, or_false] at hm; rcases hm with rfl | rfl | rfl <;> rfl) (Nat.le_of_ble_eq_true rfl) ?_
  refine hx_pad 1 rfl ?_
  refine hx_aload_n dL_make_0 rfl rfl ?_
  refine hx_iconst (v := (0 : Int32)) dL_make_1 (by decide) ?_
  refine hx_aload_n dL_make_2 rfl rfl ?_
  refine hx_iload_n dL_make_3 rfl rfl ?_
  obtain ⟨⟨fs, e1⟩, hv⟩ := hv
  refine hx_virtualX (avs := [.int x1]) (rest := [.int (0 : Int32), .ref x2]) (i := x0) (kc' := (mc - 16)) (ks' := (ms - 800)) dL_make_4 mt_X9_make w_m_L_86 w_in_X9_make w_se_X9_make rfl rfl (Nat.le_of_ble_eq_true rfl) (Nat.le_refl _) (by omega) (by omega) cl_X9.1 e1 hv ?_ ?_
  · rintro _ h1 ⟨z2, rfl, hv⟩ -
    refine hx_i2l dL_make_7 ?_
    obtain ⟨N, f, e1, e2, hv⟩ := hv
    refine hx_last dL_make_8 e1 e2 ?_
    generalize q_set h1 x2 _ = h3 at hv ⊢
    refine hx_goto (tgt := 15) dL_make_9 (by decide) ?_
    refine hx_iconst (v := (0 : Int32)) dL_make_15 (by decide) ?_
    exact hx_iret dL_make_16 rfl hv
  · rintro E h1 hx -
    obtain ⟨rfl, hv⟩ := hx
    refine hx_catch_n [] ⟨0, 9, 12, 13⟩ [] rfl (fun z hz => nomatch hz) (by decide) (by decide) w_cl_L_13 w_cast_IAE dL_make_12 rfl (by decide) rfl rfl ?_
    refine hx_iconst (v := (1 : Int32)) dL_make_13 (by decide) ?_
    exact hx_iret dL_make_14 rfl hv
set_option maxRecDepth 20000 in
set_option maxHeartbeats 4000000 in
theorem v_L_nearest {l : Launch} {d mc ms : Nat} {Q : Option Value → qH → Prop} {QX : String → qH → Prop} (hkc : 16 ≤ mc) (hks : 800 ≤ ms) (x0 : Nat) (x1 : Int32) (x2 : Nat) {h : qH} (hv : qOB h x0 9 (qTR l (d + 6) mX9_nearest [.ref x0, .int x1] h 16 800 (fun z2 h1 => qLS h1 x2 (0 : Int32) (Int32.toInt64 z2) (fun h3 => Q (some (.int (0 : Int32))) h3)) (fun E h1 => (E = "java/lang/IndexOutOfBoundsException" ∧ Q (some (.int (1 : Int32))) h1)))) : q_CtH xN [(0, 9, 12, 23)] l (d + 7) mL_nearest [.ref x0, .int x1, .ref x2] h mc ms Q QX := by
  refine q_bodyH (by decide ) (by intro v hm; simp only [List.mem_cons, List.not_mem_nil, or_false] at hm; rcases hm with rfl | rfl | rfl <;> rfl) (Nat.le_of_ble_eq_true rfl) ?_
  refine hx_pad 1 rfl ?_
  refine hx_aload_n dL_nearest_0 rfl rfl ?_
  refine hx_iconst (v := (0 : Int32)) dL_nearest_1 (by decide) ?_
  refine hx_aload_n dL_nearest_2 rfl rfl ?_
  refine hx_iload_n dL_nearest_3 rfl rfl ?_
  obtain ⟨⟨fs, e1⟩, hv⟩ := hv
  refine hx_virtualX (avs := [.int x1]) (rest := [.int (0 : Int32), .ref x2]) (i := x0) (kc' := (mc - 16)) (ks' := (ms - 800)) dL_nearest_4 mt_X9_nearest w_m_L_89 w_in_X9_nearest w_se_X9_nearest rfl rfl (Nat.le_of_ble_eq_true rfl) (Nat.le_refl _) (by omega) (by omega) cl_X9.1 e1 hv ?_ ?_
  · rintro _ h1 ⟨z2, rfl, hv⟩ -
    refine hx_i2l dL_nearest_7 ?_
    obtain ⟨N, f, e1, e2, hv⟩ := hv
    refine hx_last dL_nearest_8 e1 e2 ?_
    generalize q_set h1 x2 _ = h3 at hv ⊢
    refine hx_goto (tgt := 15) dL_nearest_9 (by decide) ?_
    refine hx_iconst (v := (0 : Int32)) dL_nearest_15 (by decide) ?_
    exact hx_iret dL_nearest_16 rfl hv
  · rintro E h1 hx -
    obtain ⟨rfl, hv⟩ := hx
    refine hx_catch_n [] ⟨0, 9, 12, 23⟩ [] rfl (fun z hz => nomatch hz) (by decide) (by decide) w_cl_L_23 w_cast_IOE dL_nearest_12 rfl (by decide) rfl rfl ?_
    refine hx_iconst (v := (1 : Int32)) dL_nearest_13 (by decide) ?_
    exact hx_iret dL_nearest_14 rfl hv
set_option maxRecDepth 20000 in
set_option maxHeartbeats 4000000 in
theorem v_L_mark {l : Launch} {d mc ms : Nat} {Q : Option Value → qH → Prop} {QX : String → qH → Prop} (hkc : 16 ≤ mc) (hks : 800 ≤ ms) (x0 : Nat) (x1 : Nat) {h : qH} (hv : qOB h x0 9 (qTR l (d + 6) mX9_mark [.ref x0] h 16 800 (fun z2 h1 => qLS h1 x1 (0 : Int32) (Int32.toInt64 z2) (fun h3 => Q (some (.int (0 : Int32))) h3)) (fun E h1 => (E = "java/lang/IllegalStateException" ∧ Q (some (.int (1 : Int32))) h1)))) : q_CtH xN [(0, 8, 11, 40)] l (d + 7) mL_mark [.ref x0, .ref x1] h mc ms Q QX := by
  refine q_bodyH (by decide ) (by intro v hm; simp only [List.mem_cons, List.not_mem_nil, or_false] at hm; rcases hm with rfl | rfl <;> rfl) (Nat.le_of_ble_eq_true rfl) ?_
  refine hx_pad 1 rfl ?_
  refine hx_aload_n dL_mark_0 rfl rfl ?_
  refine hx_iconst (v := (0 : Int32)) dL_mark_1 (by decide) ?_
  refine hx_aload_n dL_mark_2 rfl rfl ?_
  obtain ⟨⟨fs, e1⟩, hv⟩ := hv
  refine hx_virtualX (avs := []) (rest := [.int (0 : Int32), .ref x1]) (i := x0) (kc' := (mc - 16)) (ks' := (ms - 800)) dL_mark_3 mt_X9_mark w_m_L_92 w_in_X9_mark w_se_X9_mark rfl rfl (Nat.le_of_ble_eq_true rfl) (Nat.le_refl _) (by omega) (by omega) cl_X9.1 e1 hv ?_ ?_
  · rintro _ h1 ⟨z2, rfl, hv⟩ -
    refine hx_i2l dL_mark_6 ?_
    obtain ⟨N, f, e1, e2, hv⟩ := hv
    refine hx_last dL_mark_7 e1 e2 ?_
    generalize q_set h1 x1 _ = h3 at hv ⊢
    refine hx_goto (tgt := 14) dL_mark_8 (by decide) ?_
    refine hx_iconst (v := (0 : Int32)) dL_mark_14 (by decide) ?_
    exact hx_iret dL_mark_15 rfl hv
  · rintro E h1 hx -
    obtain ⟨rfl, hv⟩ := hx
    refine hx_catch_n [] ⟨0, 8, 11, 40⟩ [] rfl (fun z hz => nomatch hz) (by decide) (by decide) w_cl_L_40 w_cast_ISE dL_mark_11 rfl (by decide) rfl rfl ?_
    refine hx_iconst (v := (1 : Int32)) dL_mark_12 (by decide) ?_
    exact hx_iret dL_mark_13 rfl hv
set_option maxRecDepth 20000 in
set_option maxHeartbeats 4000000 in
theorem v_L_back {l : Launch} {d mc ms : Nat} {Q : Option Value → qH → Prop} {QX : String → qH → Prop} (hkc : 16 ≤ mc) (hks : 800 ≤ ms) (x0 : Nat) (x1 : Int32) (x2 : Nat) {h : qH} (hv : qOB h x0 9 (qTR l (d + 6) mX9_back [.ref x0, .int x1] h 16 800 (fun z2 h1 => qLS h1 x2 (0 : Int32) (Int32.toInt64 z2) (fun h3 => Q (some (.int (0 : Int32))) h3)) (fun E h1 => (E = "java/lang/IndexOutOfBoundsException" ∧ Q (some (.int (1 : Int32))) h1)))) : q_CtH xN [(0, 9, 12, 23)] l (d + 7) mL_back [.ref x0, .int x1, .ref x2] h mc ms Q QX := by
  refine q_bodyH (by decide ) (by intro v hm; simp only [List.mem_cons, List.not_mem_nil, or_false] at hm; rcases hm with rfl | rfl | rfl <;> rfl) (Nat.le_of_ble_eq_true rfl) ?_
  refine hx_pad 1 rfl ?_
  refine hx_aload_n dL_back_0 rfl rfl ?_
  refine hx_iconst (v := (0 : Int32)) dL_back_1 (by decide) ?_
  refine hx_aload_n dL_back_2 rfl rfl ?_
  refine hx_iload_n dL_back_3 rfl rfl ?_
  obtain ⟨⟨fs, e1⟩, hv⟩ := hv
  refine hx_virtualX (avs := [.int x1]) (rest := [.int (0 : Int32), .ref x2]) (i := x0) (kc' := (mc - 16)) (ks' := (ms - 800)) dL_back_4 mt_X9_back w_m_L_96 w_in_X9_back w_se_X9_back rfl rfl (Nat.le_of_ble_eq_true rfl) (Nat.le_refl _) (by omega) (by omega) cl_X9.1 e1 hv ?_ ?_
  · rintro _ h1 ⟨z2, rfl, hv⟩ -
    refine hx_i2l dL_back_7 ?_
    obtain ⟨N, f, e1, e2, hv⟩ := hv
    refine hx_last dL_back_8 e1 e2 ?_
    generalize q_set h1 x2 _ = h3 at hv ⊢
    refine hx_goto (tgt := 15) dL_back_9 (by decide) ?_
    refine hx_iconst (v := (0 : Int32)) dL_back_15 (by decide) ?_
    exact hx_iret dL_back_16 rfl hv
  · rintro E h1 hx -
    obtain ⟨rfl, hv⟩ := hx
    refine hx_catch_n [] ⟨0, 9, 12, 23⟩ [] rfl (fun z hz => nomatch hz) (by decide) (by decide) w_cl_L_23 w_cast_IOE dL_back_12 rfl (by decide) rfl rfl ?_
    refine hx_iconst (v := (1 : Int32)) dL_back_13 (by decide) ?_
    exact hx_iret dL_back_14 rfl hv
