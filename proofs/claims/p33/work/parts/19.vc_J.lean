set_option maxRecDepth 20000 in
set_option maxHeartbeats 4000000 in
theorem v_J6_compare_7cf53 {l : Launch} {d mc ms : Nat} {Q : Option Value → qH → Prop} {QX : String → qH → Prop} (x0 : Int32) (x1 : Int32) {h : qH} (hv : qIF (x1 ≤ x0) (qIF (x0 = x1) (Q (some (.int (0 : Int32))) h) (Q (some (.int (1 : Int32))) h)) (Q (some (.int (-1 : Int32))) h)) : q_Ct l (d + 0) mJ6_compare_7cf53 [.int x0, .int x1] h mc ms Q QX := by
  refine q_bodyF (by decide +kernel) (by intro v hm; simp only [List.mem_cons, List.not_mem_nil, or_false] at hm; rcases hm with rfl | rfl <;> rfl) (Nat.le_of_ble_eq_true rfl) ?_
  refine j_pad 0 rfl ?_
  refine j_iload_n dJ6_compare_7cf53_0 rfl rfl ?_
  refine j_iload_n dJ6_compare_7cf53_1 rfl rfl ?_
  refine j_icmp_ge (tgt := 9) dJ6_compare_7cf53_2 (by decide) (fun hc => ?_) (fun hc => ?_)
  · replace hv := hv.1 hc
    refine j_iload_n dJ6_compare_7cf53_9 rfl rfl ?_
    refine j_iload_n dJ6_compare_7cf53_10 rfl rfl ?_
    refine j_icmp_ne (tgt := 18) dJ6_compare_7cf53_11 (by decide) (fun hc => ?_) (fun hc => ?_)
    · replace hv := hv.2 hc
      refine j_iconst (v := (1 : Int32)) dJ6_compare_7cf53_18 (by decide) ?_
      exact j_iret dJ6_compare_7cf53_19 rfl hv
    · replace hv := hv.1 hc
      refine j_iconst (v := (0 : Int32)) dJ6_compare_7cf53_14 (by decide) ?_
      refine j_goto (tgt := 19) dJ6_compare_7cf53_15 (by decide) ?_
      exact j_iret dJ6_compare_7cf53_19 rfl hv
  · replace hv := hv.2 hc
    refine j_iconst (v := (-1 : Int32)) dJ6_compare_7cf53_5 (by decide) ?_
    refine j_goto (tgt := 19) dJ6_compare_7cf53_6 (by decide) ?_
    exact j_iret dJ6_compare_7cf53_19 rfl hv
set_option maxRecDepth 20000 in
set_option maxHeartbeats 4000000 in
theorem v_J6_bitCount_0f7a4 {l : Launch} {d mc ms : Nat} {Q : Option Value → qH → Prop} {QX : String → qH → Prop} (x0 : Int32) {h : qH} (hv : Q (some (.int ((((((((x0 - ((x0.toUInt32 >>> ((1 : Int32).toUInt32 &&& Int32.toUInt32 31)).toInt32 &&& (1431655765 : Int32))) &&& (858993459 : Int32)) + (((x0 - ((x0.toUInt32 >>> ((1 : Int32).toUInt32 &&& Int32.toUInt32 31)).toInt32 &&& (1431655765 : Int32))).toUInt32 >>> ((2 : Int32).toUInt32 &&& Int32.toUInt32 31)).toInt32 &&& (858993459 : Int32))) + ((((x0 - ((x0.toUInt32 >>> ((1 : Int32).toUInt32 &&& Int32.toUInt32 31)).toInt32 &&& (1431655765 : Int32))) &&& (858993459 : Int32)) + (((x0 - ((x0.toUInt32 >>> ((1 : Int32).toUInt32 &&& Int32.toUInt32 31)).toInt32 &&& (1431655765 : Int32))).toUInt32 >>> ((2 : Int32).toUInt32 &&& Int32.toUInt32 31)).toInt32 &&& (858993459 : Int32))).toUInt32 >>> ((4 : Int32).toUInt32 &&& Int32.toUInt32 31)).toInt32) &&& (252645135 : Int32)) + ((((((x0 - ((x0.toUInt32 >>> ((1 : Int32).toUInt32 &&& Int32.toUInt32 31)).toInt32 &&& (1431655765 : Int32))) &&& (858993459 : Int32)) + (((x0 - ((x0.toUInt32 >>> ((1 : Int32).toUInt32 &&& Int32.toUInt32 31)).toInt32 &&& (1431655765 : Int32))).toUInt32 >>> ((2 : Int32).toUInt32 &&& Int32.toUInt32 31)).toInt32 &&& (858993459 : Int32))) + ((((x0 - ((x0.toUInt32 >>> ((1 : Int32).toUInt32 &&& Int32.toUInt32 31)).toInt32 &&& (1431655765 : Int32))) &&& (858993459 : Int32)) + (((x0 - ((x0.toUInt32 >>> ((1 : Int32).toUInt32 &&& Int32.toUInt32 31)).toInt32 &&& (1431655765 : Int32))).toUInt32 >>> ((2 : Int32).toUInt32 &&& Int32.toUInt32 31)).toInt32 &&& (858993459 : Int32))).toUInt32 >>> ((4 : Int32).toUInt32 &&& Int32.toUInt32 31)).toInt32) &&& (252645135 : Int32)).toUInt32 >>> ((8 : Int32).toUInt32 &&& Int32.toUInt32 31)).toInt32) + (((((((x0 - ((x0.toUInt32 >>> ((1 : Int32).toUInt32 &&& Int32.toUInt32 31)).toInt32 &&& (1431655765 : Int32))) &&& (858993459 : Int32)) + (((x0 - ((x0.toUInt32 >>> ((1 : Int32).toUInt32 &&& Int32.toUInt32 31)).toInt32 &&& (1431655765 : Int32))).toUInt32 >>> ((2 : Int32).toUInt32 &&& Int32.toUInt32 31)).toInt32 &&& (858993459 : Int32))) + ((((x0 - ((x0.toUInt32 >>> ((1 : Int32).toUInt32 &&& Int32.toUInt32 31)).toInt32 &&& (1431655765 : Int32))) &&& (858993459 : Int32)) + (((x0 - ((x0.toUInt32 >>> ((1 : Int32).toUInt32 &&& Int32.toUInt32 31)).toInt32 &&& (1431655765 : Int32))).toUInt32 >>> ((2 : Int32).toUInt32 &&& Int32.toUInt32 31)).toInt32 &&& (858993459 : Int32))).toUInt32 >>> ((4 : Int32).toUInt32 &&& Int32.toUInt32 31)).toInt32) &&& (252645135 : Int32)) + ((((((x0 - ((x0.toUInt32 >>> ((1 : Int32).toUInt32 &&& Int32.toUInt32 31)).toInt32 &&& (1431655765 : Int32))) &&& (858993459 : Int32)) + (((x0 - ((x0.toUInt32 >>> ((1 : Int32).toUInt32 &&& Int32.toUInt32 31)).toInt32 &&& (1431655765 : Int32))).toUInt32 >>> ((2 : Int32).toUInt32 &&& Int32.toUInt32 31)).toInt32 &&& (858993459 : Int32))) + ((((x0 - ((x0.toUInt32 >>> ((1 : Int32).toUInt32 &&& Int32.toUInt32 31)).toInt32 &&& (1431655765 : Int32))) &&& (858993459 : Int32)) + (((x0 - ((x0.toUInt32 >>> ((1 : Int32).toUInt32 &&& Int32.toUInt32 31)).toInt32 &&& (1431655765 : Int32))).toUInt32 >>> ((2 : Int32).toUInt32 &&& Int32.toUInt32 31)).toInt32 &&& (858993459 : Int32))).toUInt32 >>> ((4 : Int32).toUInt32 &&& Int32.toUInt32 31)).toInt32) &&& (252645135 : Int32)).toUInt32 >>> ((8 : Int32).toUInt32 &&& Int32.toUInt32 31)).toInt32).toUInt32 >>> ((16 : Int32).toUInt32 &&& Int32.toUInt32 31)).toInt32) &&& (63 : Int32)))) h) : q_Ct l (d + 0) mJ6_bitCount_0f7a4 [.int x0] h mc ms Q QX := by
  refine q_bodyF (by decide +kernel) (by intro v hm; simp only [List.mem_cons, List.not_mem_nil, or_false] at hm; subst hm; rfl) (Nat.le_of_ble_eq_true rfl) ?_
  refine j_pad 0 rfl ?_
  refine j_iload_n dJ6_bitCount_0f7a4_0 rfl rfl ?_
  refine j_iload_n dJ6_bitCount_0f7a4_1 rfl rfl ?_
  refine j_iconst (v := (1 : Int32)) dJ6_bitCount_0f7a4_2 (by decide) ?_
  refine j_iushr dJ6_bitCount_0f7a4_3 ?_
  refine j_ldcw (v := (1431655765 : Int32)) dJ6_bitCount_0f7a4_4 w_c_J6_265 ?_
  refine j_iand dJ6_bitCount_0f7a4_7 ?_
  refine j_isub dJ6_bitCount_0f7a4_8 ?_
  refine j_istore_n dJ6_bitCount_0f7a4_9 rfl (by decide) rfl rfl ?_
  refine j_iload_n dJ6_bitCount_0f7a4_10 rfl rfl ?_
  refine j_ldcw (v := (858993459 : Int32)) dJ6_bitCount_0f7a4_11 w_c_J6_266 ?_
  refine j_iand dJ6_bitCount_0f7a4_14 ?_
  refine j_iload_n dJ6_bitCount_0f7a4_15 rfl rfl ?_
  refine j_iconst (v := (2 : Int32)) dJ6_bitCount_0f7a4_16 (by decide) ?_
  refine j_iushr dJ6_bitCount_0f7a4_17 ?_
  refine j_ldcw (v := (858993459 : Int32)) dJ6_bitCount_0f7a4_18 w_c_J6_266 ?_
  refine j_iand dJ6_bitCount_0f7a4_21 ?_
  refine j_iadd dJ6_bitCount_0f7a4_22 ?_
  refine j_istore_n dJ6_bitCount_0f7a4_23 rfl (by decide) rfl rfl ?_
  refine j_iload_n dJ6_bitCount_0f7a4_24 rfl rfl ?_
  refine j_iload_n dJ6_bitCount_0f7a4_25 rfl rfl ?_
  refine j_iconst (v := (4 : Int32)) dJ6_bitCount_0f7a4_26 (by decide) ?_
  refine j_iushr dJ6_bitCount_0f7a4_27 ?_
  refine j_iadd dJ6_bitCount_0f7a4_28 ?_
  refine j_ldcw (v := (252645135 : Int32)) dJ6_bitCount_0f7a4_29 w_c_J6_267 ?_
  refine j_iand dJ6_bitCount_0f7a4_32 ?_
  refine j_istore_n dJ6_bitCount_0f7a4_33 rfl (by decide) rfl rfl ?_
  refine j_iload_n dJ6_bitCount_0f7a4_34 rfl rfl ?_
  refine j_iload_n dJ6_bitCount_0f7a4_35 rfl rfl ?_
  refine j_bipush (v := (8 : Int32)) dJ6_bitCount_0f7a4_36 (by decide) ?_
  refine j_iushr dJ6_bitCount_0f7a4_38 ?_
  refine j_iadd dJ6_bitCount_0f7a4_39 ?_
  refine j_istore_n dJ6_bitCount_0f7a4_40 rfl (by decide) rfl rfl ?_
  refine j_iload_n dJ6_bitCount_0f7a4_41 rfl rfl ?_
  refine j_iload_n dJ6_bitCount_0f7a4_42 rfl rfl ?_
  refine j_bipush (v := (16 : Int32)) dJ6_bitCount_0f7a4_43 (by decide) ?_
  refine j_iushr dJ6_bitCount_0f7a4_45 ?_
  refine j_iadd dJ6_bitCount_0f7a4_46 ?_
  refine j_istore_n dJ6_bitCount_0f7a4_47 rfl (by decide) rfl rfl ?_
  refine j_iload_n dJ6_bitCount_0f7a4_48 rfl rfl ?_
  refine j_bipush (v := (63 : Int32)) dJ6_bitCount_0f7a4_49 (by decide) ?_
  refine j_iand dJ6_bitCount_0f7a4_51 ?_
  exact j_iret dJ6_bitCount_0f7a4_52 rfl hv
set_option maxRecDepth 20000 in
set_option maxHeartbeats 4000000 in
theorem v_J9_floorDiv_7cf53 {l : Launch} {d mc ms : Nat} {Q : Option Value → qH → Prop} {QX : String → qH → Prop} (x0 : Int32) (x1 : Int32) {h : qH} (hv : qDV x1 (qIF (0 ≤ (x0 ^^^ x1)) (Q (some (.int (x0 / x1))) h) (qIF (((x0 / x1) * x1) = x0) (Q (some (.int (x0 / x1))) h) (Q (some (.int ((x0 / x1) - (1 : Int32)))) h)))) : q_Ct l (d + 0) mJ9_floorDiv_7cf53 [.int x0, .int x1] h mc ms Q QX := by
  refine q_bodyF (by decide +kernel) (by intro v hm; simp only [List.mem_cons, List.not_mem_nil, or_false] at hm; rcases hm with rfl | rfl <;> rfl) (Nat.le_of_ble_eq_true rfl) ?_
  refine j_pad 1 rfl ?_
  refine j_iload_n dJ9_floorDiv_7cf53_0 rfl rfl ?_
  refine j_iload_n dJ9_floorDiv_7cf53_1 rfl rfl ?_
  obtain ⟨hz, hv⟩ := hv
  refine j_idiv dJ9_floorDiv_7cf53_2 hz ?_
  refine j_istore_n dJ9_floorDiv_7cf53_3 rfl (by decide) rfl rfl ?_
  refine j_iload_n dJ9_floorDiv_7cf53_4 rfl rfl ?_
  refine j_iload_n dJ9_floorDiv_7cf53_5 rfl rfl ?_
  refine j_ixor dJ9_floorDiv_7cf53_6 ?_
  refine j_if_ge (tgt := 21) dJ9_floorDiv_7cf53_7 (by decide) (fun hc => ?_) (fun hc => ?_)
  · replace hv := hv.1 hc
    refine j_iload_n dJ9_floorDiv_7cf53_21 rfl rfl ?_
    exact j_iret dJ9_floorDiv_7cf53_22 rfl hv
  · replace hv := hv.2 hc
    refine j_iload_n dJ9_floorDiv_7cf53_10 rfl rfl ?_
    refine j_iload_n dJ9_floorDiv_7cf53_11 rfl rfl ?_
    refine j_imul dJ9_floorDiv_7cf53_12 ?_
    refine j_iload_n dJ9_floorDiv_7cf53_13 rfl rfl ?_
    refine j_icmp_eq (tgt := 21) dJ9_floorDiv_7cf53_14 (by decide) (fun hc => ?_) (fun hc => ?_)
    · replace hv := hv.1 hc
      refine j_iload_n dJ9_floorDiv_7cf53_21 rfl rfl ?_
      exact j_iret dJ9_floorDiv_7cf53_22 rfl hv
    · replace hv := hv.2 hc
      refine j_iload_n dJ9_floorDiv_7cf53_17 rfl rfl ?_
      refine j_iconst (v := (1 : Int32)) dJ9_floorDiv_7cf53_18 (by decide) ?_
      refine j_isub dJ9_floorDiv_7cf53_19 ?_
      exact j_iret dJ9_floorDiv_7cf53_20 rfl hv
set_option maxRecDepth 20000 in
set_option maxHeartbeats 4000000 in
theorem v_J9_floorMod_7cf53 {l : Launch} {d mc ms : Nat} {Q : Option Value → qH → Prop} {QX : String → qH → Prop} (x0 : Int32) (x1 : Int32) {h : qH} (hv : qDV x1 (qIF (0 ≤ (x0 ^^^ x1)) (Q (some (.int (x0 - x0 / x1 * x1))) h) (qIF ((x0 - x0 / x1 * x1) = 0) (Q (some (.int (x0 - x0 / x1 * x1))) h) (Q (some (.int ((x0 - x0 / x1 * x1) + x1))) h)))) : q_Ct l (d + 0) mJ9_floorMod_7cf53 [.int x0, .int x1] h mc ms Q QX := by
  refine q_bodyF (by decide +kernel) (by intro v hm; simp only [List.mem_cons, List.not_mem_nil, or_false] at hm; rcases hm with rfl | rfl <;> rfl) (Nat.le_of_ble_eq_true rfl) ?_
  refine j_pad 1 rfl ?_
  refine j_iload_n dJ9_floorMod_7cf53_0 rfl rfl ?_
  refine j_iload_n dJ9_floorMod_7cf53_1 rfl rfl ?_
  obtain ⟨hz, hv⟩ := hv
  refine j_irem dJ9_floorMod_7cf53_2 hz ?_
  refine j_istore_n dJ9_floorMod_7cf53_3 rfl (by decide) rfl rfl ?_
  refine j_iload_n dJ9_floorMod_7cf53_4 rfl rfl ?_
  refine j_iload_n dJ9_floorMod_7cf53_5 rfl rfl ?_
  refine j_ixor dJ9_floorMod_7cf53_6 ?_
  refine j_if_ge (tgt := 18) dJ9_floorMod_7cf53_7 (by decide) (fun hc => ?_) (fun hc => ?_)
  · replace hv := hv.1 hc
    refine j_iload_n dJ9_floorMod_7cf53_18 rfl rfl ?_
    exact j_iret dJ9_floorMod_7cf53_19 rfl hv
  · replace hv := hv.2 hc
    refine j_iload_n dJ9_floorMod_7cf53_10 rfl rfl ?_
    refine j_if_eq (tgt := 18) dJ9_floorMod_7cf53_11 (by decide) (fun hc => ?_) (fun hc => ?_)
    · replace hv := hv.1 hc
      refine j_iload_n dJ9_floorMod_7cf53_18 rfl rfl ?_
      exact j_iret dJ9_floorMod_7cf53_19 rfl hv
    · replace hv := hv.2 hc
      refine j_iload_n dJ9_floorMod_7cf53_14 rfl rfl ?_
      refine j_iload_n dJ9_floorMod_7cf53_15 rfl rfl ?_
      refine j_iadd dJ9_floorMod_7cf53_16 ?_
      exact j_iret dJ9_floorMod_7cf53_17 rfl hv
