set_option maxRecDepth 20000 in
set_option maxHeartbeats 4000000 in
theorem v_X1_isPlace {l : Launch} {d mc ms : Nat} {Q : Option Value → qH → Prop} {QX : String → qH → Prop} (x0 : Int32) (x1 : Int32) {h : qH} (hv : qIF (x0 < 0) (Q (some (.int (0 : Int32))) h) (qIF ((24 : Int32) ≤ x0) (Q (some (.int (0 : Int32))) h) (qIF (x1 < 0) (Q (some (.int (0 : Int32))) h) (qIF ((24 : Int32) ≤ x1) (Q (some (.int (0 : Int32))) h) (Q (some (.int (1 : Int32))) h))))) : q_Ct l (d + 0) mX1_isPlace [.int x0, .int x1] h mc ms Q QX := by
  refine q_body (by decide ) (by intro v hm; simp only [List.mem_cons, List.not_mem_nil, or_false] at hm; rcases hm with rfl | rfl <;> rfl) (Nat.le_of_ble_eq_true rfl) ?_
  refine j_pad 0 rfl ?_
  refine j_iload_n dX1_isPlace_0 rfl rfl ?_
  refine j_if_lt (tgt := 24) dX1_isPlace_1 (by decide) (fun hc => ?_) (fun hc => ?_)
  · replace hv := hv.1 hc
    refine j_iconst (v := (0 : Int32)) dX1_isPlace_24 (by decide) ?_
    exact j_zret dX1_isPlace_25 rfl (by decide) hv
  · replace hv := hv.2 hc
    refine j_iload_n dX1_isPlace_4 rfl rfl ?_
    refine j_bipush (v := (24 : Int32)) dX1_isPlace_5 (by decide) ?_
    refine j_icmp_ge (tgt := 24) dX1_isPlace_7 (by decide) (fun hc => ?_) (fun hc => ?_)
    · replace hv := hv.1 hc
      refine j_iconst (v := (0 : Int32)) dX1_isPlace_24 (by decide) ?_
      exact j_zret dX1_isPlace_25 rfl (by decide) hv
    · replace hv := hv.2 hc
      refine j_iload_n dX1_isPlace_10 rfl rfl ?_
      refine j_if_lt (tgt := 24) dX1_isPlace_11 (by decide) (fun hc => ?_) (fun hc => ?_)
      · replace hv := hv.1 hc
        refine j_iconst (v := (0 : Int32)) dX1_isPlace_24 (by decide) ?_
        exact j_zret dX1_isPlace_25 rfl (by decide) hv
      · replace hv := hv.2 hc
        refine j_iload_n dX1_isPlace_14 rfl rfl ?_
        refine j_bipush (v := (24 : Int32)) dX1_isPlace_15 (by decide) ?_
        refine j_icmp_ge (tgt := 24) dX1_isPlace_17 (by decide) (fun hc => ?_) (fun hc => ?_)
        · replace hv := hv.1 hc
          refine j_iconst (v := (0 : Int32)) dX1_isPlace_24 (by decide) ?_
          exact j_zret dX1_isPlace_25 rfl (by decide) hv
        · replace hv := hv.2 hc
          refine j_iconst (v := (1 : Int32)) dX1_isPlace_20 (by decide) ?_
          refine j_goto (tgt := 25) dX1_isPlace_21 (by decide) ?_
          exact j_zret dX1_isPlace_25 rfl (by decide) hv
set_option maxRecDepth 20000 in
set_option maxHeartbeats 4000000 in
theorem v_X1_isRectangle {l : Launch} {d mc ms : Nat} {Q : Option Value → qH → Prop} {QX : String → qH → Prop} (x0 : Int32) (x1 : Int32) (x2 : Int32) (x3 : Int32) {h : qH} (hv : qIF (x0 < 0) (Q (some (.int (0 : Int32))) h) (qIF (x1 < x0) (Q (some (.int (0 : Int32))) h) (qIF ((24 : Int32) ≤ x1) (Q (some (.int (0 : Int32))) h) (qIF (x2 < 0) (Q (some (.int (0 : Int32))) h) (qIF (x3 < x2) (Q (some (.int (0 : Int32))) h) (qIF ((24 : Int32) ≤ x3) (Q (some (.int (0 : Int32))) h) (Q (some (.int (1 : Int32))) h))))))) : q_Ct l (d + 0) mX1_isRectangle [.int x0, .int x1, .int x2, .int x3] h mc ms Q QX := by
  refine q_body (by decide ) (by intro v hm; simp only [List.mem_cons, List.not_mem_nil, or_false] at hm; rcases hm with rfl | rfl | rfl | rfl <;> rfl) (Nat.le_of_ble_eq_true rfl) ?_
  refine j_pad 0 rfl ?_
  refine j_iload_n dX1_isRectangle_0 rfl rfl ?_
  refine j_if_lt (tgt := 34) dX1_isRectangle_1 (by decide) (fun hc => ?_) (fun hc => ?_)
  · replace hv := hv.1 hc
    refine j_iconst (v := (0 : Int32)) dX1_isRectangle_34 (by decide) ?_
    exact j_zret dX1_isRectangle_35 rfl (by decide) hv
  · replace hv := hv.2 hc
    refine j_iload_n dX1_isRectangle_4 rfl rfl ?_
    refine j_iload_n dX1_isRectangle_5 rfl rfl ?_
    refine j_icmp_gt (tgt := 34) dX1_isRectangle_6 (by decide) (fun hc => ?_) (fun hc => ?_)
    · replace hv := hv.1 hc
      refine j_iconst (v := (0 : Int32)) dX1_isRectangle_34 (by decide) ?_
      exact j_zret dX1_isRectangle_35 rfl (by decide) hv
    · replace hv := hv.2 hc
      refine j_iload_n dX1_isRectangle_9 rfl rfl ?_
      refine j_bipush (v := (24 : Int32)) dX1_isRectangle_10 (by decide) ?_
      refine j_icmp_ge (tgt := 34) dX1_isRectangle_12 (by decide) (fun hc => ?_) (fun hc => ?_)
      · replace hv := hv.1 hc
        refine j_iconst (v := (0 : Int32)) dX1_isRectangle_34 (by decide) ?_
        exact j_zret dX1_isRectangle_35 rfl (by decide) hv
      · replace hv := hv.2 hc
        refine j_iload_n dX1_isRectangle_15 rfl rfl ?_
        refine j_if_lt (tgt := 34) dX1_isRectangle_16 (by decide) (fun hc => ?_) (fun hc => ?_)
        · replace hv := hv.1 hc
          refine j_iconst (v := (0 : Int32)) dX1_isRectangle_34 (by decide) ?_
          exact j_zret dX1_isRectangle_35 rfl (by decide) hv
        · replace hv := hv.2 hc
          refine j_iload_n dX1_isRectangle_19 rfl rfl ?_
          refine j_iload_n dX1_isRectangle_20 rfl rfl ?_
          refine j_icmp_gt (tgt := 34) dX1_isRectangle_21 (by decide) (fun hc => ?_) (fun hc => ?_)
          · replace hv := hv.1 hc
            refine j_iconst (v := (0 : Int32)) dX1_isRectangle_34 (by decide) ?_
            exact j_zret dX1_isRectangle_35 rfl (by decide) hv
          · replace hv := hv.2 hc
            refine j_iload_n dX1_isRectangle_24 rfl rfl ?_
            refine j_bipush (v := (24 : Int32)) dX1_isRectangle_25 (by decide) ?_
            refine j_icmp_ge (tgt := 34) dX1_isRectangle_27 (by decide) (fun hc => ?_) (fun hc => ?_)
            · replace hv := hv.1 hc
              refine j_iconst (v := (0 : Int32)) dX1_isRectangle_34 (by decide) ?_
              exact j_zret dX1_isRectangle_35 rfl (by decide) hv
            · replace hv := hv.2 hc
              refine j_iconst (v := (1 : Int32)) dX1_isRectangle_30 (by decide) ?_
              refine j_goto (tgt := 35) dX1_isRectangle_31 (by decide) ?_
              exact j_zret dX1_isRectangle_35 rfl (by decide) hv
set_option maxRecDepth 20000 in
set_option maxHeartbeats 4000000 in
theorem v_X1_placeOf {l : Launch} {d mc ms : Nat} {Q : Option Value → qH → Prop} {QX : String → qH → Prop} (x0 : Int32) (x1 : Int32) {h : qH} (hv : qCI l (d + 0) mX1_isPlace [.int x0, .int x1] h 0 0 (fun z2 h1 => qIF (z2 = 0) (Q (some (.int (-1 : Int32))) h1) (Q (some (.int ((x1 * (24 : Int32)) + x0))) h1))) : q_Ct l (d + 1) mX1_placeOf [.int x0, .int x1] h mc ms Q QX := by
  refine q_body (by decide ) (by intro v hm; simp only [List.mem_cons, List.not_mem_nil, or_false] at hm; rcases hm with rfl | rfl <;> rfl) (Nat.le_of_ble_eq_true rfl) ?_
  refine j_pad 0 rfl ?_
  refine j_iload_n dX1_placeOf_0 rfl rfl ?_
  refine j_iload_n dX1_placeOf_1 rfl rfl ?_
  refine j_static (avs := [.int x0, .int x1]) (rest := []) (kc' := mc) (ks' := ms) dX1_placeOf_2 mt_X1_isPlace w_m_X1_32 w_st_X1_isPlace rfl rfl (Nat.le_of_ble_eq_true rfl) (Nat.le_refl _) (by omega) (by omega) hv (fun _ _ q9 => q9) ?_
  rintro _ h1 ⟨z2, rfl, hv⟩ -
  refine j_if_eq (tgt := 17) dX1_placeOf_5 (by decide) (fun hc => ?_) (fun hc => ?_)
  · replace hv := hv.1 hc
    refine j_iconst (v := (-1 : Int32)) dX1_placeOf_17 (by decide) ?_
    exact j_iret dX1_placeOf_18 rfl hv
  · replace hv := hv.2 hc
    refine j_iload_n dX1_placeOf_8 rfl rfl ?_
    refine j_bipush (v := (24 : Int32)) dX1_placeOf_9 (by decide) ?_
    refine j_imul dX1_placeOf_11 ?_
    refine j_iload_n dX1_placeOf_12 rfl rfl ?_
    refine j_iadd dX1_placeOf_13 ?_
    refine j_goto (tgt := 18) dX1_placeOf_14 (by decide) ?_
    exact j_iret dX1_placeOf_18 rfl hv
set_option maxRecDepth 20000 in
set_option maxHeartbeats 4000000 in
theorem v_X1_neighbourOf {l : Launch} {d mc ms : Nat} {Q : Option Value → qH → Prop} {QX : String → qH → Prop} (x0 : Int32) (x1 : Int32) {h : qH} (hv : qIF (x0 < 0) (Q (some (.int (-1 : Int32))) h) (qIF ((576 : Int32) ≤ x0) (Q (some (.int (-1 : Int32))) h) (qIF (x1 < 0) (Q (some (.int (-1 : Int32))) h) (qIF (x1 < (8 : Int32)) (qSL 0 x1 (fun z1 => qSL 1 x1 (fun z2 => qCI l (d + 0) mX1_isPlace [.int ((x0 - x0 / (24 : Int32) * (24 : Int32)) + z1), .int ((x0 / (24 : Int32)) + z2)] h 0 0 (fun z4 h3 => qIF (z4 = 0) (Q (some (.int (-1 : Int32))) h3) (Q (some (.int ((((x0 / (24 : Int32)) + z2) * (24 : Int32)) + ((x0 - x0 / (24 : Int32) * (24 : Int32)) + z1)))) h3))))) (Q (some (.int (-1 : Int32))) h))))) : q_Ct l (d + 1) mX1_neighbourOf [.int x0, .int x1] h mc ms Q QX := by
  refine q_body (by decide ) (by intro v hm; simp only [List.mem_cons, List.not_mem_nil, or_false] at hm; rcases hm with rfl | rfl <;> rfl) (Nat.le_of_ble_eq_true rfl) ?_
  refine j_pad 2 rfl ?_
  refine j_iload_n dX1_neighbourOf_0 rfl rfl ?_
  refine j_if_lt (tgt := 21) dX1_neighbourOf_1 (by decide) (fun hc => ?_) (fun hc => ?_)
  · replace hv := hv.1 hc
    refine j_iconst (v := (-1 : Int32)) dX1_neighbourOf_21 (by decide) ?_
    exact j_iret dX1_neighbourOf_22 rfl hv
  · replace hv := hv.2 hc
    refine j_iload_n dX1_neighbourOf_4 rfl rfl ?_
    refine j_sipush (v := (576 : Int32)) dX1_neighbourOf_5 (by decide) ?_
    refine j_icmp_ge (tgt := 21) dX1_neighbourOf_8 (by decide) (fun hc => ?_) (fun hc => ?_)
    · replace hv := hv.1 hc
      refine j_iconst (v := (-1 : Int32)) dX1_neighbourOf_21 (by decide) ?_
      exact j_iret dX1_neighbourOf_22 rfl hv
    · replace hv := hv.2 hc
      refine j_iload_n dX1_neighbourOf_11 rfl rfl ?_
      refine j_if_lt (tgt := 21) dX1_neighbourOf_12 (by decide) (fun hc => ?_) (fun hc => ?_)
      · replace hv := hv.1 hc
        refine j_iconst (v := (-1 : Int32)) dX1_neighbourOf_21 (by decide) ?_
        exact j_iret dX1_neighbourOf_22 rfl hv
      · replace hv := hv.2 hc
        refine j_iload_n dX1_neighbourOf_15 rfl rfl ?_
        refine j_bipush (v := (8 : Int32)) dX1_neighbourOf_16 (by decide) ?_
        refine j_icmp_lt (tgt := 23) dX1_neighbourOf_18 (by decide) (fun hc => ?_) (fun hc => ?_)
        · replace hv := hv.1 hc
          refine j_iload_n dX1_neighbourOf_23 rfl rfl ?_
          refine j_bipush (v := (24 : Int32)) dX1_neighbourOf_24 (by decide) ?_
          refine j_irem dX1_neighbourOf_26 (by decide) ?_
          refine j_getsN (k := 0) (by decide) w_fn_X1_36 dX1_neighbourOf_27 ?_
          refine j_iload_n dX1_neighbourOf_30 rfl rfl ?_
          obtain ⟨e1, hv⟩ := hv
          refine j_sald (k := 0) (by decide) dX1_neighbourOf_31 e1 ?_
          generalize q_sF 0 _ = z1 at hv ⊢
          refine j_iadd dX1_neighbourOf_32 ?_
          refine j_istore_n dX1_neighbourOf_33 rfl (by decide) rfl rfl ?_
          refine j_iload_n dX1_neighbourOf_34 rfl rfl ?_
          refine j_bipush (v := (24 : Int32)) dX1_neighbourOf_35 (by decide) ?_
          refine j_idiv dX1_neighbourOf_37 (by decide) ?_
          refine j_getsN (k := 1) (by decide) w_fn_X1_39 dX1_neighbourOf_38 ?_
          refine j_iload_n dX1_neighbourOf_41 rfl rfl ?_
          obtain ⟨e1, hv⟩ := hv
          refine j_sald (k := 1) (by decide) dX1_neighbourOf_42 e1 ?_
          generalize q_sF 1 _ = z2 at hv ⊢
          refine j_iadd dX1_neighbourOf_43 ?_
          refine j_istore_n dX1_neighbourOf_44 rfl (by decide) rfl rfl ?_
          refine j_iload_n dX1_neighbourOf_45 rfl rfl ?_
          refine j_iload_n dX1_neighbourOf_46 rfl rfl ?_
          refine j_static (avs := [.int ((x0 - x0 / (24 : Int32) * (24 : Int32)) + z1), .int ((x0 / (24 : Int32)) + z2)]) (rest := []) (kc' := mc) (ks' := ms) dX1_neighbourOf_47 mt_X1_isPlace w_m_X1_32 w_st_X1_isPlace rfl rfl (Nat.le_of_ble_eq_true rfl) (Nat.le_refl _) (by omega) (by omega) hv (fun _ _ q9 => q9) ?_
          rintro _ h3 ⟨z4, rfl, hv⟩ -
          refine j_if_eq (tgt := 62) dX1_neighbourOf_50 (by decide) (fun hc => ?_) (fun hc => ?_)
          · replace hv := hv.1 hc
            refine j_iconst (v := (-1 : Int32)) dX1_neighbourOf_62 (by decide) ?_
            exact j_iret dX1_neighbourOf_63 rfl hv
          · replace hv := hv.2 hc
            refine j_iload_n dX1_neighbourOf_53 rfl rfl ?_
            refine j_bipush (v := (24 : Int32)) dX1_neighbourOf_54 (by decide) ?_
            refine j_imul dX1_neighbourOf_56 ?_
            refine j_iload_n dX1_neighbourOf_57 rfl rfl ?_
            refine j_iadd dX1_neighbourOf_58 ?_
            refine j_goto (tgt := 63) dX1_neighbourOf_59 (by decide) ?_
            exact j_iret dX1_neighbourOf_63 rfl hv
        · replace hv := hv.2 hc
          refine j_iconst (v := (-1 : Int32)) dX1_neighbourOf_21 (by decide) ?_
          exact j_iret dX1_neighbourOf_22 rfl hv
set_option maxRecDepth 20000 in
set_option maxHeartbeats 4000000 in
theorem v_X1_distance {l : Launch} {d mc ms : Nat} {Q : Option Value → qH → Prop} {QX : String → qH → Prop} (x0 : Int32) (x1 : Int32) (x2 : Int32) (x3 : Int32) {h : qH} (hv : Q (some (.int (if (if 0 ≤ (x2 - x0) then (x2 - x0) else 0 - (x2 - x0)) < (if 0 ≤ (x3 - x1) then (x3 - x1) else 0 - (x3 - x1)) then (if 0 ≤ (x3 - x1) then (x3 - x1) else 0 - (x3 - x1)) else (if 0 ≤ (x2 - x0) then (x2 - x0) else 0 - (x2 - x0))))) h) : q_Ct l (d + 1) mX1_distance [.int x0, .int x1, .int x2, .int x3] h mc ms Q QX := by
  refine q_body (by decide ) (by intro v hm; simp only [List.mem_cons, List.not_mem_nil, or_false] at hm; rcases hm with rfl | rfl | rfl | rfl <;> rfl) (Nat.le_of_ble_eq_true rfl) ?_
  refine j_pad 0 rfl ?_
  refine j_iload_n dX1_distance_0 rfl rfl ?_
  refine j_iload_n dX1_distance_1 rfl rfl ?_
  refine j_isub dX1_distance_2 ?_
  refine j_mabs dX1_distance_3 w_m_X1_42 w_st_abs w_ini_Math w_co_abs (Nat.le_of_ble_eq_true rfl) (by omega) ?_
  refine j_iload_n dX1_distance_6 rfl rfl ?_
  refine j_iload_n dX1_distance_7 rfl rfl ?_
  refine j_isub dX1_distance_8 ?_
  refine j_mabs dX1_distance_9 w_m_X1_42 w_st_abs w_ini_Math w_co_abs (Nat.le_of_ble_eq_true rfl) (by omega) ?_
  refine j_mmax dX1_distance_12 w_m_X1_48 w_st_max w_ini_Math w_co_max (Nat.le_of_ble_eq_true rfl) (by omega) ?_
  exact j_iret dX1_distance_15 rfl hv
set_option maxRecDepth 20000 in
set_option maxHeartbeats 4000000 in
theorem v_X1_octantOf_17 {l : Launch} {d mc ms n0 kc ks : Nat} {Q : Option Value → qH → Prop} {QX : String → qH → Prop} (x0 : Int32) (x1 : Int32) (x2 : Int32) (x3 : Int32) (x4 : Int32) (x5 : Int32) (x6 : Int32) {h : qH} (hv : qIF ((8 : Int32) ≤ x6) (Q (some (.int (8 : Int32))) h) (qSL 0 x6 (fun z1 => qIF (z1 = x4) (qSL 1 x6 (fun z2 => qIF (z2 = x5) (Q (some (.int x6)) h) (q_J l (d + 1) mX1_octantOf mc ms Q QX n0 17 [some (.int x0), some (.int x1), some (.int x2), some (.int x3), some (.int x4), some (.int x5), some (.int (x6 + (1 : Int32)))] [] h kc ks))) (q_J l (d + 1) mX1_octantOf mc ms Q QX n0 17 [some (.int x0), some (.int x1), some (.int x2), some (.int x3), some (.int x4), some (.int x5), some (.int (x6 + (1 : Int32)))] [] h kc ks)))) : q_J l (d + 1) mX1_octantOf mc ms Q QX n0 17 [some (.int x0), some (.int x1), some (.int x2), some (.int x3), some (.int x4), some (.int x5), some (.int x6)] [] h kc ks := by
  refine j_iload dX1_octantOf_17 rfl ?_
  refine j_bipush (v := (8 : Int32)) dX1_octantOf_19 (by decide) ?_
  refine j_icmp_ge (tgt := 55) dX1_octantOf_21 (by decide) (fun hc => ?_) (fun hc => ?_)
  · replace hv := hv.1 hc
    refine j_bipush (v := (8 : Int32)) dX1_octantOf_55 (by decide) ?_
    exact j_iret dX1_octantOf_57 rfl hv
  · replace hv := hv.2 hc
    refine j_getsN (k := 0) (by decide) w_fn_X1_36 dX1_octantOf_24 ?_
    refine j_iload dX1_octantOf_27 rfl ?_
    obtain ⟨e1, hv⟩ := hv
    refine j_sald (k := 0) (by decide) dX1_octantOf_29 e1 ?_
    generalize q_sF 0 _ = z1 at hv ⊢
    refine j_iload dX1_octantOf_30 rfl ?_
    refine j_icmp_ne (tgt := 49) dX1_octantOf_32 (by decide) (fun hc => ?_) (fun hc => ?_)
    · replace hv := hv.2 hc
      refine j_iinc (w := (x6 + (1 : Int32))) dX1_octantOf_49 rfl (by rfl) (by decide) rfl rfl ?_
      refine j_goto (tgt := 17) dX1_octantOf_52 (by decide) ?_
      exact hv
    · replace hv := hv.1 hc
      refine j_getsN (k := 1) (by decide) w_fn_X1_39 dX1_octantOf_35 ?_
      refine j_iload dX1_octantOf_38 rfl ?_
      obtain ⟨e1, hv⟩ := hv
      refine j_sald (k := 1) (by decide) dX1_octantOf_40 e1 ?_
      generalize q_sF 1 _ = z2 at hv ⊢
      refine j_iload dX1_octantOf_41 rfl ?_
      refine j_icmp_ne (tgt := 49) dX1_octantOf_43 (by decide) (fun hc => ?_) (fun hc => ?_)
      · replace hv := hv.2 hc
        refine j_iinc (w := (x6 + (1 : Int32))) dX1_octantOf_49 rfl (by rfl) (by decide) rfl rfl ?_
        refine j_goto (tgt := 17) dX1_octantOf_52 (by decide) ?_
        exact hv
      · replace hv := hv.1 hc
        refine j_iload dX1_octantOf_46 rfl ?_
        exact j_iret dX1_octantOf_48 rfl hv
set_option maxRecDepth 20000 in
set_option maxHeartbeats 4000000 in
theorem v_X1_octantOf {l : Launch} {d mc ms : Nat} {Q : Option Value → qH → Prop} {QX : String → qH → Prop} (x0 : Int32) (x1 : Int32) (x2 : Int32) (x3 : Int32) {h : qH} (hv : qCI l (d + 0) mJ6_compare_7cf53 [.int x0, .int x2] h 0 0 (fun z2 h1 => qCI l (d + 0) mJ6_compare_7cf53 [.int x1, .int x3] h1 0 0 (fun z4 h3 => q_J l (d + 1) mX1_octantOf mc ms Q QX h.2 17 [some (.int x0), some (.int x1), some (.int x2), some (.int x3), some (.int z2), some (.int z4), some (.int (0 : Int32))] [] h3 mc ms))) : q_Ct l (d + 1) mX1_octantOf [.int x0, .int x1, .int x2, .int x3] h mc ms Q QX := by
  refine q_body (by decide ) (by intro v hm; simp only [List.mem_cons, List.not_mem_nil, or_false] at hm; rcases hm with rfl | rfl | rfl | rfl <;> rfl) (Nat.le_of_ble_eq_true rfl) ?_
  refine j_pad 3 rfl ?_
  refine j_iload_n dX1_octantOf_0 rfl rfl ?_
  refine j_iload_n dX1_octantOf_1 rfl rfl ?_
  refine j_static (avs := [.int x0, .int x2]) (rest := []) (kc' := mc) (ks' := ms) dX1_octantOf_2 mt_J6_compare_7cf53 w_m_X1_52 w_st_J6_compare_7cf53 rfl rfl (Nat.le_of_ble_eq_true rfl) (Nat.le_refl _) (by omega) (by omega) hv (fun _ _ q9 => q9) ?_
  rintro _ h1 ⟨z2, rfl, hv⟩ -
  refine j_istore dX1_octantOf_5 (by decide) rfl rfl ?_
  refine j_iload_n dX1_octantOf_7 rfl rfl ?_
  refine j_iload_n dX1_octantOf_8 rfl rfl ?_
  refine j_static (avs := [.int x1, .int x3]) (rest := []) (kc' := mc) (ks' := ms) dX1_octantOf_9 mt_J6_compare_7cf53 w_m_X1_52 w_st_J6_compare_7cf53 rfl rfl (Nat.le_of_ble_eq_true rfl) (Nat.le_refl _) (by omega) (by omega) hv (fun _ _ q9 => q9) ?_
  rintro _ h3 ⟨z4, rfl, hv⟩ -
  refine j_istore dX1_octantOf_12 (by decide) rfl rfl ?_
  refine j_iconst (v := (0 : Int32)) dX1_octantOf_14 (by decide) ?_
  refine j_istore dX1_octantOf_15 (by decide) rfl rfl ?_
  exact hv
set_option maxRecDepth 20000 in
set_option maxHeartbeats 4000000 in
theorem v_X1_heightAt {l : Launch} {d mc ms : Nat} {Q : Option Value → qH → Prop} {QX : String → qH → Prop} (x0 : Nat) (x1 : Int32) (x2 : Int32) {h : qH} (hv : qCI l (d + 0) mX1_isPlace [.int x1, .int x2] h 0 0 (fun z2 h1 => qIF (z2 = 0) (Q (some (.int (0 : Int32))) h1) (qGR h1 x0 1 0 (fun r3 => qAL h1 r3 ((x2 * (24 : Int32)) + x1) (fun z4 => Q (some (.int z4)) h1))))) : q_Ct l (d + 1) mX1_heightAt [.ref x0, .int x1, .int x2] h mc ms Q QX := by
  refine q_body (by decide ) (by intro v hm; simp only [List.mem_cons, List.not_mem_nil, or_false] at hm; rcases hm with rfl | rfl | rfl <;> rfl) (Nat.le_of_ble_eq_true rfl) ?_
  refine j_pad 0 rfl ?_
  refine j_iload_n dX1_heightAt_0 rfl rfl ?_
  refine j_iload_n dX1_heightAt_1 rfl rfl ?_
  refine j_static (avs := [.int x1, .int x2]) (rest := []) (kc' := mc) (ks' := ms) dX1_heightAt_2 mt_X1_isPlace w_m_X1_32 w_st_X1_isPlace rfl rfl (Nat.le_of_ble_eq_true rfl) (Nat.le_refl _) (by omega) (by omega) hv (fun _ _ q9 => q9) ?_
  rintro _ h1 ⟨z2, rfl, hv⟩ -
  refine j_if_eq (tgt := 22) dX1_heightAt_5 (by decide) (fun hc => ?_) (fun hc => ?_)
  · replace hv := hv.1 hc
    refine j_iconst (v := (0 : Int32)) dX1_heightAt_22 (by decide) ?_
    exact j_iret dX1_heightAt_23 rfl hv
  · replace hv := hv.2 hc
    refine j_aload_n dX1_heightAt_8 rfl rfl ?_
    obtain ⟨fs, r3, e1, e2, hv⟩ := hv
    refine j_getf (k := 0) cl_X1 (by decide) w_f_X1_9 dX1_heightAt_9 e1 e2 ?_
    refine j_iload_n dX1_heightAt_12 rfl rfl ?_
    refine j_bipush (v := (24 : Int32)) dX1_heightAt_13 (by decide) ?_
    refine j_imul dX1_heightAt_15 ?_
    refine j_iload_n dX1_heightAt_16 rfl rfl ?_
    refine j_iadd dX1_heightAt_17 ?_
    obtain ⟨N, f, e1, e2, hv⟩ := hv
    refine j_iald dX1_heightAt_18 e1 e2 ?_
    generalize f _ = z4 at hv ⊢
    refine j_goto (tgt := 23) dX1_heightAt_19 (by decide) ?_
    exact j_iret dX1_heightAt_23 rfl hv
set_option maxRecDepth 20000 in
set_option maxHeartbeats 4000000 in
theorem v_X1_roughAt {l : Launch} {d mc ms : Nat} {Q : Option Value → qH → Prop} {QX : String → qH → Prop} (x0 : Nat) (x1 : Int32) (x2 : Int32) {h : qH} (hv : qCI l (d + 0) mX1_isPlace [.int x1, .int x2] h 0 0 (fun z2 h1 => qIF (z2 = 0) (Q (some (.int (0 : Int32))) h1) (qGR h1 x0 1 1 (fun r3 => qAL h1 r3 ((x2 * (24 : Int32)) + x1) (fun z4 => Q (some (.int z4)) h1))))) : q_Ct l (d + 1) mX1_roughAt [.ref x0, .int x1, .int x2] h mc ms Q QX := by
  refine q_body (by decide ) (by intro v hm; simp only [List.mem_cons, List.not_mem_nil, or_false] at hm; rcases hm with rfl | rfl | rfl <;> rfl) (Nat.le_of_ble_eq_true rfl) ?_
  refine j_pad 0 rfl ?_
  refine j_iload_n dX1_roughAt_0 rfl rfl ?_
  refine j_iload_n dX1_roughAt_1 rfl rfl ?_
  refine j_static (avs := [.int x1, .int x2]) (rest := []) (kc' := mc) (ks' := ms) dX1_roughAt_2 mt_X1_isPlace w_m_X1_32 w_st_X1_isPlace rfl rfl (Nat.le_of_ble_eq_true rfl) (Nat.le_refl _) (by omega) (by omega) hv (fun _ _ q9 => q9) ?_
  rintro _ h1 ⟨z2, rfl, hv⟩ -
  refine j_if_eq (tgt := 22) dX1_roughAt_5 (by decide) (fun hc => ?_) (fun hc => ?_)
  · replace hv := hv.1 hc
    refine j_iconst (v := (0 : Int32)) dX1_roughAt_22 (by decide) ?_
    exact j_iret dX1_roughAt_23 rfl hv
  · replace hv := hv.2 hc
    refine j_aload_n dX1_roughAt_8 rfl rfl ?_
    obtain ⟨fs, r3, e1, e2, hv⟩ := hv
    refine j_getf (k := 1) cl_X1 (by decide) w_f_X1_15 dX1_roughAt_9 e1 e2 ?_
    refine j_iload_n dX1_roughAt_12 rfl rfl ?_
    refine j_bipush (v := (24 : Int32)) dX1_roughAt_13 (by decide) ?_
    refine j_imul dX1_roughAt_15 ?_
    refine j_iload_n dX1_roughAt_16 rfl rfl ?_
    refine j_iadd dX1_roughAt_17 ?_
    obtain ⟨N, f, e1, e2, hv⟩ := hv
    refine j_iald dX1_roughAt_18 e1 e2 ?_
    generalize f _ = z4 at hv ⊢
    refine j_goto (tgt := 23) dX1_roughAt_19 (by decide) ?_
    exact j_iret dX1_roughAt_23 rfl hv
set_option maxRecDepth 20000 in
set_option maxHeartbeats 4000000 in
theorem v_X1_isHazardAt {l : Launch} {d mc ms : Nat} {Q : Option Value → qH → Prop} {QX : String → qH → Prop} (x0 : Nat) (x1 : Int32) (x2 : Int32) {h : qH} (hv : qCI l (d + 0) mX1_isPlace [.int x1, .int x2] h 0 0 (fun z2 h1 => qIF (z2 = 0) (Q (some (.int (0 : Int32))) h1) (qGR h1 x0 1 2 (fun r3 => qZL h1 r3 ((x2 * (24 : Int32)) + x1) (fun z4 => qIF (z4 = 0) (Q (some (.int (0 : Int32))) h1) (Q (some (.int (1 : Int32))) h1)))))) : q_Ct l (d + 1) mX1_isHazardAt [.ref x0, .int x1, .int x2] h mc ms Q QX := by
  refine q_body (by decide ) (by intro v hm; simp only [List.mem_cons, List.not_mem_nil, or_false] at hm; rcases hm with rfl | rfl | rfl <;> rfl) (Nat.le_of_ble_eq_true rfl) ?_
  refine j_pad 0 rfl ?_
  refine j_iload_n dX1_isHazardAt_0 rfl rfl ?_
  refine j_iload_n dX1_isHazardAt_1 rfl rfl ?_
  refine j_static (avs := [.int x1, .int x2]) (rest := []) (kc' := mc) (ks' := ms) dX1_isHazardAt_2 mt_X1_isPlace w_m_X1_32 w_st_X1_isPlace rfl rfl (Nat.le_of_ble_eq_true rfl) (Nat.le_refl _) (by omega) (by omega) hv (fun _ _ q9 => q9) ?_
  rintro _ h1 ⟨z2, rfl, hv⟩ -
  refine j_if_eq (tgt := 26) dX1_isHazardAt_5 (by decide) (fun hc => ?_) (fun hc => ?_)
  · replace hv := hv.1 hc
    refine j_iconst (v := (0 : Int32)) dX1_isHazardAt_26 (by decide) ?_
    exact j_zret dX1_isHazardAt_27 rfl (by decide) hv
  · replace hv := hv.2 hc
    refine j_aload_n dX1_isHazardAt_8 rfl rfl ?_
    obtain ⟨fs, r3, e1, e2, hv⟩ := hv
    refine j_getf (k := 2) cl_X1 (by decide) w_f_X1_18 dX1_isHazardAt_9 e1 e2 ?_
    refine j_iload_n dX1_isHazardAt_12 rfl rfl ?_
    refine j_bipush (v := (24 : Int32)) dX1_isHazardAt_13 (by decide) ?_
    refine j_imul dX1_isHazardAt_15 ?_
    refine j_iload_n dX1_isHazardAt_16 rfl rfl ?_
    refine j_iadd dX1_isHazardAt_17 ?_
    obtain ⟨N, f, e1, e2, hv⟩ := hv
    refine j_zald dX1_isHazardAt_18 e1 e2 ?_
    generalize f _ = z4 at hv ⊢
    refine j_if_eq (tgt := 26) dX1_isHazardAt_19 (by decide) (fun hc => ?_) (fun hc => ?_)
    · replace hv := hv.1 hc
      refine j_iconst (v := (0 : Int32)) dX1_isHazardAt_26 (by decide) ?_
      exact j_zret dX1_isHazardAt_27 rfl (by decide) hv
    · replace hv := hv.2 hc
      refine j_iconst (v := (1 : Int32)) dX1_isHazardAt_22 (by decide) ?_
      refine j_goto (tgt := 27) dX1_isHazardAt_23 (by decide) ?_
      exact j_zret dX1_isHazardAt_27 rfl (by decide) hv
set_option maxRecDepth 20000 in
set_option maxHeartbeats 4000000 in
theorem v_X1_canLift_31 {l : Launch} {d mc ms n0 kc ks : Nat} {Q : Option Value → qH → Prop} {QX : String → qH → Prop} (x0 : Nat) (x1 : Int32) (x2 : Int32) (x3 : Int32) (x4 : Int32) (x5 : Int32) (x6 : Int32) (x7 : Int32) {h : qH} (hv : qIF (x2 < x7) (q_J l (d + 2) mX1_canLift mc ms Q QX n0 21 [some (.ref x0), some (.int x1), some (.int x2), some (.int x3), some (.int x4), some (.int x5), some (.int (x6 + (1 : Int32))), none, none] [] h kc ks) (qOB h x0 1 (qCI l (d + 1) mX1_heightAt [.ref x0, .int x7, .int x6] h 0 0 (fun z2 h1 => qIF ((z2 + x5) < (-99 : Int32)) (Q (some (.int (0 : Int32))) h1) (qIF ((z2 + x5) ≤ (99 : Int32)) (q_J l (d + 2) mX1_canLift mc ms Q QX n0 31 [some (.ref x0), some (.int x1), some (.int x2), some (.int x3), some (.int x4), some (.int x5), some (.int x6), some (.int (x7 + (1 : Int32))), none] [] h1 kc ks) (Q (some (.int (0 : Int32))) h1)))))) : q_J l (d + 2) mX1_canLift mc ms Q QX n0 31 [some (.ref x0), some (.int x1), some (.int x2), some (.int x3), some (.int x4), some (.int x5), some (.int x6), some (.int x7), none] [] h kc ks := by
  refine j_iload dX1_canLift_31 rfl ?_
  refine j_iload_n dX1_canLift_33 rfl rfl ?_
  refine j_icmp_gt (tgt := 72) dX1_canLift_34 (by decide) (fun hc => ?_) (fun hc => ?_)
  · replace hv := hv.1 hc
    refine j_iinc (w := (x6 + (1 : Int32))) dX1_canLift_72 rfl (by rfl) (by decide) rfl rfl ?_
    refine j_goto (tgt := 21) dX1_canLift_75 (by decide) ?_
    refine j_mask [true, true, true, true, true, true, true, false, true] rfl ?_
    exact hv
  · replace hv := hv.2 hc
    refine j_aload_n dX1_canLift_37 rfl rfl ?_
    refine j_iload dX1_canLift_38 rfl ?_
    refine j_iload dX1_canLift_40 rfl ?_
    obtain ⟨⟨fs, e1⟩, hv⟩ := hv
    refine j_virtual (avs := [.int x7, .int x6]) (rest := []) (i := x0) (kc' := kc) (ks' := ks) dX1_canLift_42 mt_X1_heightAt w_m_X1_57 w_in_X1_heightAt w_se_X1_heightAt rfl rfl (Nat.le_of_ble_eq_true rfl) (Nat.le_refl _) (by omega) (by omega) cl_X1.1 e1 hv (fun _ _ q9 => q9) ?_
    rintro _ h1 ⟨z2, rfl, hv⟩ -
    refine j_iload dX1_canLift_45 rfl ?_
    refine j_iadd dX1_canLift_47 ?_
    refine j_istore dX1_canLift_48 (by decide) rfl rfl ?_
    refine j_iload dX1_canLift_50 rfl ?_
    refine j_bipush (v := (-99 : Int32)) dX1_canLift_52 (by decide) ?_
    refine j_icmp_lt (tgt := 64) dX1_canLift_54 (by decide) (fun hc => ?_) (fun hc => ?_)
    · replace hv := hv.1 hc
      refine j_iconst (v := (0 : Int32)) dX1_canLift_64 (by decide) ?_
      exact j_zret dX1_canLift_65 rfl (by decide) hv
    · replace hv := hv.2 hc
      refine j_iload dX1_canLift_57 rfl ?_
      refine j_bipush (v := (99 : Int32)) dX1_canLift_59 (by decide) ?_
      refine j_icmp_le (tgt := 66) dX1_canLift_61 (by decide) (fun hc => ?_) (fun hc => ?_)
      · replace hv := hv.1 hc
        refine j_iinc (w := (x7 + (1 : Int32))) dX1_canLift_66 rfl (by rfl) (by decide) rfl rfl ?_
        refine j_goto (tgt := 31) dX1_canLift_69 (by decide) ?_
        refine j_mask [true, true, true, true, true, true, true, true, false] rfl ?_
        exact hv
      · replace hv := hv.2 hc
        refine j_iconst (v := (0 : Int32)) dX1_canLift_64 (by decide) ?_
        exact j_zret dX1_canLift_65 rfl (by decide) hv
set_option maxRecDepth 20000 in
set_option maxHeartbeats 4000000 in
theorem v_X1_canLift_21 {l : Launch} {d mc ms n0 kc ks : Nat} {Q : Option Value → qH → Prop} {QX : String → qH → Prop} (x0 : Nat) (x1 : Int32) (x2 : Int32) (x3 : Int32) (x4 : Int32) (x5 : Int32) (x6 : Int32) {h : qH} (hv : qIF (x4 < x6) (Q (some (.int (1 : Int32))) h) (q_J l (d + 2) mX1_canLift mc ms Q QX n0 31 [some (.ref x0), some (.int x1), some (.int x2), some (.int x3), some (.int x4), some (.int x5), some (.int x6), some (.int x1), none] [] h kc ks)) : q_J l (d + 2) mX1_canLift mc ms Q QX n0 21 [some (.ref x0), some (.int x1), some (.int x2), some (.int x3), some (.int x4), some (.int x5), some (.int x6), none, none] [] h kc ks := by
  refine j_iload dX1_canLift_21 rfl ?_
  refine j_iload dX1_canLift_23 rfl ?_
  refine j_icmp_gt (tgt := 78) dX1_canLift_25 (by decide) (fun hc => ?_) (fun hc => ?_)
  · replace hv := hv.1 hc
    refine j_iconst (v := (1 : Int32)) dX1_canLift_78 (by decide) ?_
    exact j_zret dX1_canLift_79 rfl (by decide) hv
  · replace hv := hv.2 hc
    refine j_iload_n dX1_canLift_28 rfl rfl ?_
    refine j_istore dX1_canLift_29 (by decide) rfl rfl ?_
    exact hv
set_option maxRecDepth 20000 in
set_option maxHeartbeats 4000000 in
theorem v_X1_canLift {l : Launch} {d mc ms : Nat} {Q : Option Value → qH → Prop} {QX : String → qH → Prop} (x0 : Nat) (x1 : Int32) (x2 : Int32) (x3 : Int32) (x4 : Int32) (x5 : Int32) {h : qH} (hv : qIF (x5 < (-198 : Int32)) (Q (some (.int (0 : Int32))) h) (qIF (x5 ≤ (198 : Int32)) (q_J l (d + 2) mX1_canLift mc ms Q QX h.2 21 [some (.ref x0), some (.int x1), some (.int x2), some (.int x3), some (.int x4), some (.int x5), some (.int x3), none, none] [] h mc ms) (Q (some (.int (0 : Int32))) h))) : q_Ct l (d + 2) mX1_canLift [.ref x0, .int x1, .int x2, .int x3, .int x4, .int x5] h mc ms Q QX := by
  refine q_body (by decide ) (by intro v hm; simp only [List.mem_cons, List.not_mem_nil, or_false] at hm; rcases hm with rfl | rfl | rfl | rfl | rfl | rfl <;> rfl) (Nat.le_of_ble_eq_true rfl) ?_
  refine j_pad 3 rfl ?_
  refine j_iload dX1_canLift_0 rfl ?_
  refine j_sipush (v := (-198 : Int32)) dX1_canLift_2 (by decide) ?_
  refine j_icmp_lt (tgt := 16) dX1_canLift_5 (by decide) (fun hc => ?_) (fun hc => ?_)
  · replace hv := hv.1 hc
    refine j_iconst (v := (0 : Int32)) dX1_canLift_16 (by decide) ?_
    exact j_zret dX1_canLift_17 rfl (by decide) hv
  · replace hv := hv.2 hc
    refine j_iload dX1_canLift_8 rfl ?_
    refine j_sipush (v := (198 : Int32)) dX1_canLift_10 (by decide) ?_
    refine j_icmp_le (tgt := 18) dX1_canLift_13 (by decide) (fun hc => ?_) (fun hc => ?_)
    · replace hv := hv.1 hc
      refine j_iload_n dX1_canLift_18 rfl rfl ?_
      refine j_istore dX1_canLift_19 (by decide) rfl rfl ?_
      exact hv
    · replace hv := hv.2 hc
      refine j_iconst (v := (0 : Int32)) dX1_canLift_16 (by decide) ?_
      exact j_zret dX1_canLift_17 rfl (by decide) hv
set_option maxRecDepth 20000 in
set_option maxHeartbeats 4000000 in
theorem v_X1_lift_17 {l : Launch} {d mc ms n0 kc ks : Nat} {Q : Option Value → qH → Prop} {QX : String → qH → Prop} (x0 : Nat) (x1 : Int32) (x2 : Int32) (x3 : Int32) (x4 : Int32) (x5 : Int32) (x6 : Int32) (x7 : Int32) (x8 : Int32) {h : qH} (hv : qIF (x2 < x8) (q_J l (d + 4) mX1_lift mc ms Q QX n0 7 [some (.ref x0), some (.int x1), some (.int x2), some (.int x3), some (.int x4), some (.int x5), some (.int x6), some (.int (x7 + (1 : Int32))), none] [] h kc ks) (qCI l (d + 3) mX1_isPlace [.int x8, .int x7] h 0 0 (fun z2 h1 => qIF (z2 = 0) (q_J l (d + 4) mX1_lift mc ms Q QX n0 17 [some (.ref x0), some (.int x1), some (.int x2), some (.int x3), some (.int x4), some (.int x5), some (.int x6), some (.int x7), some (.int (x8 + (1 : Int32)))] [] h1 kc ks) (qGR h1 x0 1 0 (fun r3 => qAL h1 r3 ((x7 * (24 : Int32)) + x8) (fun z4 => qAS h1 r3 ((x7 * (24 : Int32)) + x8) (z4 + x5) (fun h5 => qGR h5 x0 1 0 (fun r6 => qAL h5 r6 ((x7 * (24 : Int32)) + x8) (fun z7 => q_J l (d + 4) mX1_lift mc ms Q QX n0 17 [some (.ref x0), some (.int x1), some (.int x2), some (.int x3), some (.int x4), some (.int x5), some (.int (if x6 < z7 then z7 else x6)), some (.int x7), some (.int (x8 + (1 : Int32)))] [] h5 kc ks))))))))) : q_J l (d + 4) mX1_lift mc ms Q QX n0 17 [some (.ref x0), some (.int x1), some (.int x2), some (.int x3), some (.int x4), some (.int x5), some (.int x6), some (.int x7), some (.int x8)] [] h kc ks := by
  refine j_iload dX1_lift_17 rfl ?_
  refine j_iload_n dX1_lift_19 rfl rfl ?_
  refine j_icmp_gt (tgt := 77) dX1_lift_20 (by decide) (fun hc => ?_) (fun hc => ?_)
  · replace hv := hv.1 hc
    refine j_iinc (w := (x7 + (1 : Int32))) dX1_lift_77 rfl (by rfl) (by decide) rfl rfl ?_
    refine j_goto (tgt := 7) dX1_lift_80 (by decide) ?_
    refine j_mask [true, true, true, true, true, true, true, true, false] rfl ?_
    exact hv
  · replace hv := hv.2 hc
    refine j_iload dX1_lift_23 rfl ?_
    refine j_iload dX1_lift_25 rfl ?_
    refine j_static (avs := [.int x8, .int x7]) (rest := []) (kc' := kc) (ks' := ks) dX1_lift_27 mt_X1_isPlace w_m_X1_32 w_st_X1_isPlace rfl rfl (Nat.le_of_ble_eq_true rfl) (Nat.le_refl _) (by omega) (by omega) hv (fun _ _ q9 => q9) ?_
    rintro _ h1 ⟨z2, rfl, hv⟩ -
    refine j_if_eq (tgt := 71) dX1_lift_30 (by decide) (fun hc => ?_) (fun hc => ?_)
    · replace hv := hv.1 hc
      refine j_iinc (w := (x8 + (1 : Int32))) dX1_lift_71 rfl (by rfl) (by decide) rfl rfl ?_
      refine j_goto (tgt := 17) dX1_lift_74 (by decide) ?_
      exact hv
    · replace hv := hv.2 hc
      refine j_aload_n dX1_lift_33 rfl rfl ?_
      obtain ⟨fs, r3, e1, e2, hv⟩ := hv
      refine j_getf (k := 0) cl_X1 (by decide) w_f_X1_9 dX1_lift_34 e1 e2 ?_
      refine j_iload dX1_lift_37 rfl ?_
      refine j_bipush (v := (24 : Int32)) dX1_lift_39 (by decide) ?_
      refine j_imul dX1_lift_41 ?_
      refine j_iload dX1_lift_42 rfl ?_
      refine j_iadd dX1_lift_44 ?_
      refine j_dup2 dX1_lift_45 rfl rfl ?_
      obtain ⟨N, f, e1, e2, hv⟩ := hv
      refine j_iald dX1_lift_46 e1 e2 ?_
      generalize f _ = z4 at hv ⊢
      refine j_iload dX1_lift_47 rfl ?_
      refine j_iadd dX1_lift_49 ?_
      obtain ⟨N, f, e1, e2, hv⟩ := hv
      refine j_iast dX1_lift_50 e1 e2 ?_
      generalize q_set h1 r3 _ = h5 at hv ⊢
      refine j_iload dX1_lift_51 rfl ?_
      refine j_aload_n dX1_lift_53 rfl rfl ?_
      obtain ⟨fs, r6, e1, e2, hv⟩ := hv
      refine j_getf (k := 0) cl_X1 (by decide) w_f_X1_9 dX1_lift_54 e1 e2 ?_
      refine j_iload dX1_lift_57 rfl ?_
      refine j_bipush (v := (24 : Int32)) dX1_lift_59 (by decide) ?_
      refine j_imul dX1_lift_61 ?_
      refine j_iload dX1_lift_62 rfl ?_
      refine j_iadd dX1_lift_64 ?_
      obtain ⟨N, f, e1, e2, hv⟩ := hv
      refine j_iald dX1_lift_65 e1 e2 ?_
      generalize f _ = z7 at hv ⊢
      refine j_mmax dX1_lift_66 w_m_X1_48 w_st_max w_ini_Math w_co_max (Nat.le_of_ble_eq_true rfl) (by omega) ?_
      refine j_istore dX1_lift_69 (by decide) rfl rfl ?_
      refine j_iinc (w := (x8 + (1 : Int32))) dX1_lift_71 rfl (by rfl) (by decide) rfl rfl ?_
      refine j_goto (tgt := 17) dX1_lift_74 (by decide) ?_
      exact hv
set_option maxRecDepth 20000 in
set_option maxHeartbeats 4000000 in
theorem v_X1_lift_7 {l : Launch} {d mc ms n0 kc ks : Nat} {Q : Option Value → qH → Prop} {QX : String → qH → Prop} (x0 : Nat) (x1 : Int32) (x2 : Int32) (x3 : Int32) (x4 : Int32) (x5 : Int32) (x6 : Int32) (x7 : Int32) {h : qH} (hv : qIF (x4 < x7) (qOB h x0 1 (qCV l (d + 3) mX1_measureSteps [.ref x0] h 0 0 (fun h1 => Q (some (.int x6)) h1))) (q_J l (d + 4) mX1_lift mc ms Q QX n0 17 [some (.ref x0), some (.int x1), some (.int x2), some (.int x3), some (.int x4), some (.int x5), some (.int x6), some (.int x7), some (.int x1)] [] h kc ks)) : q_J l (d + 4) mX1_lift mc ms Q QX n0 7 [some (.ref x0), some (.int x1), some (.int x2), some (.int x3), some (.int x4), some (.int x5), some (.int x6), some (.int x7), none] [] h kc ks := by
  refine j_iload dX1_lift_7 rfl ?_
  refine j_iload dX1_lift_9 rfl ?_
  refine j_icmp_gt (tgt := 83) dX1_lift_11 (by decide) (fun hc => ?_) (fun hc => ?_)
  · replace hv := hv.1 hc
    refine j_aload_n dX1_lift_83 rfl rfl ?_
    obtain ⟨⟨fs, e1⟩, hv⟩ := hv
    refine j_virtual (avs := []) (rest := []) (i := x0) (kc' := kc) (ks' := ks) dX1_lift_84 mt_X1_measureSteps w_m_X1_29 w_in_X1_measureSteps w_se_X1_measureSteps rfl rfl (Nat.le_of_ble_eq_true rfl) (Nat.le_refl _) (by omega) (by omega) cl_X1.1 e1 hv (fun _ _ q9 => q9) ?_
    rintro _ h1 ⟨rfl, hv⟩ -
    refine j_iload dX1_lift_87 rfl ?_
    exact j_iret dX1_lift_89 rfl hv
  · replace hv := hv.2 hc
    refine j_iload_n dX1_lift_14 rfl rfl ?_
    refine j_istore dX1_lift_15 (by decide) rfl rfl ?_
    exact hv
set_option maxRecDepth 20000 in
set_option maxHeartbeats 4000000 in
theorem v_X1_lift {l : Launch} {d mc ms : Nat} {Q : Option Value → qH → Prop} {QX : String → qH → Prop} (x0 : Nat) (x1 : Int32) (x2 : Int32) (x3 : Int32) (x4 : Int32) (x5 : Int32) {h : qH} (hv : q_J l (d + 4) mX1_lift mc ms Q QX h.2 7 [some (.ref x0), some (.int x1), some (.int x2), some (.int x3), some (.int x4), some (.int x5), some (.int (-99 : Int32)), some (.int x3), none] [] h mc ms) : q_Ct l (d + 4) mX1_lift [.ref x0, .int x1, .int x2, .int x3, .int x4, .int x5] h mc ms Q QX := by
  refine q_body (by decide ) (by intro v hm; simp only [List.mem_cons, List.not_mem_nil, or_false] at hm; rcases hm with rfl | rfl | rfl | rfl | rfl | rfl <;> rfl) (Nat.le_of_ble_eq_true rfl) ?_
  refine j_pad 3 rfl ?_
  refine j_bipush (v := (-99 : Int32)) dX1_lift_0 (by decide) ?_
  refine j_istore dX1_lift_2 (by decide) rfl rfl ?_
  refine j_iload_n dX1_lift_4 rfl rfl ?_
  refine j_istore dX1_lift_5 (by decide) rfl rfl ?_
  exact hv
set_option maxRecDepth 20000 in
set_option maxHeartbeats 4000000 in
theorem v_X1_cover_13 {l : Launch} {d mc ms n0 kc ks : Nat} {Q : Option Value → qH → Prop} {QX : String → qH → Prop} (x0 : Nat) (x1 : Int32) (x2 : Int32) (x3 : Int32) (x4 : Int32) (x5 : Int32) (x6 : Int32) (x7 : Int32) (x8 : Int32) {h : qH} (hv : qIF (x2 < x8) (q_J l (d + 4) mX1_cover mc ms Q QX n0 3 [some (.ref x0), some (.int x1), some (.int x2), some (.int x3), some (.int x4), some (.int x5), some (.int x6), some (.int (x7 + (1 : Int32))), none] [] h kc ks) (qCI l (d + 3) mX1_isPlace [.int x8, .int x7] h 0 0 (fun z2 h1 => qIF (z2 = 0) (q_J l (d + 4) mX1_cover mc ms Q QX n0 13 [some (.ref x0), some (.int x1), some (.int x2), some (.int x3), some (.int x4), some (.int x5), some (.int x6), some (.int x7), some (.int (x8 + (1 : Int32)))] [] h1 kc ks) (qGR h1 x0 1 1 (fun r3 => qAS h1 r3 ((x7 * (24 : Int32)) + x8) x5 (fun h4 => qGR h4 x0 1 2 (fun r5 => qZS h4 r5 ((x7 * (24 : Int32)) + x8) x6 (fun h6 => q_J l (d + 4) mX1_cover mc ms Q QX n0 13 [some (.ref x0), some (.int x1), some (.int x2), some (.int x3), some (.int x4), some (.int x5), some (.int x6), some (.int x7), some (.int (x8 + (1 : Int32)))] [] h6 kc ks)))))))) : q_J l (d + 4) mX1_cover mc ms Q QX n0 13 [some (.ref x0), some (.int x1), some (.int x2), some (.int x3), some (.int x4), some (.int x5), some (.int x6), some (.int x7), some (.int x8)] [] h kc ks := by
  refine j_iload dX1_cover_13 rfl ?_
  refine j_iload_n dX1_cover_15 rfl rfl ?_
  refine j_icmp_gt (tgt := 65) dX1_cover_16 (by decide) (fun hc => ?_) (fun hc => ?_)
  · replace hv := hv.1 hc
    refine j_iinc (w := (x7 + (1 : Int32))) dX1_cover_65 rfl (by rfl) (by decide) rfl rfl ?_
    refine j_goto (tgt := 3) dX1_cover_68 (by decide) ?_
    refine j_mask [true, true, true, true, true, true, true, true, false] rfl ?_
    exact hv
  · replace hv := hv.2 hc
    refine j_iload dX1_cover_19 rfl ?_
    refine j_iload dX1_cover_21 rfl ?_
    refine j_static (avs := [.int x8, .int x7]) (rest := []) (kc' := kc) (ks' := ks) dX1_cover_23 mt_X1_isPlace w_m_X1_32 w_st_X1_isPlace rfl rfl (Nat.le_of_ble_eq_true rfl) (Nat.le_refl _) (by omega) (by omega) hv (fun _ _ q9 => q9) ?_
    rintro _ h1 ⟨z2, rfl, hv⟩ -
    refine j_if_eq (tgt := 59) dX1_cover_26 (by decide) (fun hc => ?_) (fun hc => ?_)
    · replace hv := hv.1 hc
      refine j_iinc (w := (x8 + (1 : Int32))) dX1_cover_59 rfl (by rfl) (by decide) rfl rfl ?_
      refine j_goto (tgt := 13) dX1_cover_62 (by decide) ?_
      exact hv
    · replace hv := hv.2 hc
      refine j_aload_n dX1_cover_29 rfl rfl ?_
      obtain ⟨fs, r3, e1, e2, hv⟩ := hv
      refine j_getf (k := 1) cl_X1 (by decide) w_f_X1_15 dX1_cover_30 e1 e2 ?_
      refine j_iload dX1_cover_33 rfl ?_
      refine j_bipush (v := (24 : Int32)) dX1_cover_35 (by decide) ?_
      refine j_imul dX1_cover_37 ?_
      refine j_iload dX1_cover_38 rfl ?_
      refine j_iadd dX1_cover_40 ?_
      refine j_iload dX1_cover_41 rfl ?_
      obtain ⟨N, f, e1, e2, hv⟩ := hv
      refine j_iast dX1_cover_43 e1 e2 ?_
      generalize q_set h1 r3 _ = h4 at hv ⊢
      refine j_aload_n dX1_cover_44 rfl rfl ?_
      obtain ⟨fs, r5, e1, e2, hv⟩ := hv
      refine j_getf (k := 2) cl_X1 (by decide) w_f_X1_18 dX1_cover_45 e1 e2 ?_
      refine j_iload dX1_cover_48 rfl ?_
      refine j_bipush (v := (24 : Int32)) dX1_cover_50 (by decide) ?_
      refine j_imul dX1_cover_52 ?_
      refine j_iload dX1_cover_53 rfl ?_
      refine j_iadd dX1_cover_55 ?_
      refine j_iload dX1_cover_56 rfl ?_
      obtain ⟨hz, N, f, e1, e2, hv⟩ := hv
      refine j_zast dX1_cover_58 e1 e2 hz ?_
      generalize q_set h4 r5 _ = h6 at hv ⊢
      refine j_iinc (w := (x8 + (1 : Int32))) dX1_cover_59 rfl (by rfl) (by decide) rfl rfl ?_
      refine j_goto (tgt := 13) dX1_cover_62 (by decide) ?_
      exact hv
set_option maxRecDepth 20000 in
set_option maxHeartbeats 4000000 in
theorem v_X1_cover_3 {l : Launch} {d mc ms n0 kc ks : Nat} {Q : Option Value → qH → Prop} {QX : String → qH → Prop} (x0 : Nat) (x1 : Int32) (x2 : Int32) (x3 : Int32) (x4 : Int32) (x5 : Int32) (x6 : Int32) (x7 : Int32) {h : qH} (hv : qIF (x4 < x7) (qOB h x0 1 (qCV l (d + 3) mX1_measureSteps [.ref x0] h 0 0 (fun h1 => Q none h1))) (q_J l (d + 4) mX1_cover mc ms Q QX n0 13 [some (.ref x0), some (.int x1), some (.int x2), some (.int x3), some (.int x4), some (.int x5), some (.int x6), some (.int x7), some (.int x1)] [] h kc ks)) : q_J l (d + 4) mX1_cover mc ms Q QX n0 3 [some (.ref x0), some (.int x1), some (.int x2), some (.int x3), some (.int x4), some (.int x5), some (.int x6), some (.int x7), none] [] h kc ks := by
  refine j_iload dX1_cover_3 rfl ?_
  refine j_iload dX1_cover_5 rfl ?_
  refine j_icmp_gt (tgt := 71) dX1_cover_7 (by decide) (fun hc => ?_) (fun hc => ?_)
  · replace hv := hv.1 hc
    refine j_aload_n dX1_cover_71 rfl rfl ?_
    obtain ⟨⟨fs, e1⟩, hv⟩ := hv
    refine j_virtual (avs := []) (rest := []) (i := x0) (kc' := kc) (ks' := ks) dX1_cover_72 mt_X1_measureSteps w_m_X1_29 w_in_X1_measureSteps w_se_X1_measureSteps rfl rfl (Nat.le_of_ble_eq_true rfl) (Nat.le_refl _) (by omega) (by omega) cl_X1.1 e1 hv (fun _ _ q9 => q9) ?_
    rintro _ h1 ⟨rfl, hv⟩ -
    exact j_vret dX1_cover_75 rfl hv
  · replace hv := hv.2 hc
    refine j_iload_n dX1_cover_10 rfl rfl ?_
    refine j_istore dX1_cover_11 (by decide) rfl rfl ?_
    exact hv
set_option maxRecDepth 20000 in
set_option maxHeartbeats 4000000 in
theorem v_X1_cover {l : Launch} {d mc ms : Nat} {Q : Option Value → qH → Prop} {QX : String → qH → Prop} (x0 : Nat) (x1 : Int32) (x2 : Int32) (x3 : Int32) (x4 : Int32) (x5 : Int32) (x6 : Int32) {h : qH} (hv : q_J l (d + 4) mX1_cover mc ms Q QX h.2 3 [some (.ref x0), some (.int x1), some (.int x2), some (.int x3), some (.int x4), some (.int x5), some (.int x6), some (.int x3), none] [] h mc ms) : q_Ct l (d + 4) mX1_cover [.ref x0, .int x1, .int x2, .int x3, .int x4, .int x5, .int x6] h mc ms Q QX := by
  refine q_body (by decide ) (by intro v hm; simp only [List.mem_cons, List.not_mem_nil, or_false] at hm; rcases hm with rfl | rfl | rfl | rfl | rfl | rfl | rfl <;> rfl) (Nat.le_of_ble_eq_true rfl) ?_
  refine j_pad 2 rfl ?_
  refine j_iload_n dX1_cover_0 rfl rfl ?_
  refine j_istore dX1_cover_1 (by decide) rfl rfl ?_
  exact hv
set_option maxRecDepth 20000 in
set_option maxHeartbeats 4000000 in
theorem v_X1_limitSlope {l : Launch} {d mc ms : Nat} {Q : Option Value → qH → Prop} {QX : String → qH → Prop} (x0 : Nat) (x1 : Int32) {h : qH} (hv : qPI h x0 1 4 x1 (fun h1 => qOB h1 x0 1 (qCV l (d + 3) mX1_measureSteps [.ref x0] h1 0 0 (fun h2 => Q none h2)))) : q_Ct l (d + 4) mX1_limitSlope [.ref x0, .int x1] h mc ms Q QX := by
  refine q_body (by decide ) (by intro v hm; simp only [List.mem_cons, List.not_mem_nil, or_false] at hm; rcases hm with rfl | rfl <;> rfl) (Nat.le_of_ble_eq_true rfl) ?_
  refine j_pad 0 rfl ?_
  refine j_aload_n dX1_limitSlope_0 rfl rfl ?_
  refine j_iload_n dX1_limitSlope_1 rfl rfl ?_
  obtain ⟨fs, e1, e2, hv⟩ := hv
  refine j_put (k := 4) (ty0 := tyX1) cl_X1 (pf_X1_4) w_f_X1_25 dX1_limitSlope_2 (fun g ad => q_nI g ad _) e1 e2 ?_
  generalize q_set h x0 _ = h1 at hv ⊢
  refine j_aload_n dX1_limitSlope_5 rfl rfl ?_
  obtain ⟨⟨fs, e1⟩, hv⟩ := hv
  refine j_virtual (avs := []) (rest := []) (i := x0) (kc' := mc) (ks' := ms) dX1_limitSlope_6 mt_X1_measureSteps w_m_X1_29 w_in_X1_measureSteps w_se_X1_measureSteps rfl rfl (Nat.le_of_ble_eq_true rfl) (Nat.le_refl _) (by omega) (by omega) cl_X1.1 e1 hv (fun _ _ q9 => q9) ?_
  rintro _ h2 ⟨rfl, hv⟩ -
  exact j_vret dX1_limitSlope_9 rfl hv
set_option maxRecDepth 20000 in
set_option maxHeartbeats 4000000 in
theorem v_X1_measureSteps_11 {l : Launch} {d mc ms n0 kc ks : Nat} {Q : Option Value → qH → Prop} {QX : String → qH → Prop} (x0 : Nat) (x1 : Int32) (x2 : Int32) {h : qH} (hv : qIF ((8 : Int32) ≤ x2) (q_J l (d + 3) mX1_measureSteps mc ms Q QX n0 2 [some (.ref x0), some (.int (x1 + (1 : Int32))), none] [] h kc ks) (qGR h x0 1 3 (fun r1 => qOB h x0 1 (qCI l (d + 2) mX1_measureStep [.ref x0, .int (x1 - x1 / (24 : Int32) * (24 : Int32)), .int (x1 / (24 : Int32)), .int x2] h 0 0 (fun z3 h2 => qAS h2 r1 ((x1 * (8 : Int32)) + x2) z3 (fun h4 => q_J l (d + 3) mX1_measureSteps mc ms Q QX n0 11 [some (.ref x0), some (.int x1), some (.int (x2 + (1 : Int32)))] [] h4 kc ks)))))) : q_J l (d + 3) mX1_measureSteps mc ms Q QX n0 11 [some (.ref x0), some (.int x1), some (.int x2)] [] h kc ks := by
  refine j_iload_n dX1_measureSteps_11 rfl rfl ?_
  refine j_bipush (v := (8 : Int32)) dX1_measureSteps_12 (by decide) ?_
  refine j_icmp_ge (tgt := 47) dX1_measureSteps_14 (by decide) (fun hc => ?_) (fun hc => ?_)
  · replace hv := hv.1 hc
    refine j_iinc (w := (x1 + (1 : Int32))) dX1_measureSteps_47 rfl (by rfl) (by decide) rfl rfl ?_
    refine j_goto (tgt := 2) dX1_measureSteps_50 (by decide) ?_
    refine j_mask [true, true, false] rfl ?_
    exact hv
  · replace hv := hv.2 hc
    refine j_aload_n dX1_measureSteps_17 rfl rfl ?_
    obtain ⟨fs, r1, e1, e2, hv⟩ := hv
    refine j_getf (k := 3) cl_X1 (by decide) w_f_X1_22 dX1_measureSteps_18 e1 e2 ?_
    refine j_iload_n dX1_measureSteps_21 rfl rfl ?_
    refine j_bipush (v := (8 : Int32)) dX1_measureSteps_22 (by decide) ?_
    refine j_imul dX1_measureSteps_24 ?_
    refine j_iload_n dX1_measureSteps_25 rfl rfl ?_
    refine j_iadd dX1_measureSteps_26 ?_
    refine j_aload_n dX1_measureSteps_27 rfl rfl ?_
    refine j_iload_n dX1_measureSteps_28 rfl rfl ?_
    refine j_bipush (v := (24 : Int32)) dX1_measureSteps_29 (by decide) ?_
    refine j_irem dX1_measureSteps_31 (by decide) ?_
    refine j_iload_n dX1_measureSteps_32 rfl rfl ?_
    refine j_bipush (v := (24 : Int32)) dX1_measureSteps_33 (by decide) ?_
    refine j_idiv dX1_measureSteps_35 (by decide) ?_
    refine j_iload_n dX1_measureSteps_36 rfl rfl ?_
    obtain ⟨⟨fs, e1⟩, hv⟩ := hv
    refine j_virtual (avs := [.int (x1 - x1 / (24 : Int32) * (24 : Int32)), .int (x1 / (24 : Int32)), .int x2]) (rest := [.int ((x1 * (8 : Int32)) + x2), .ref r1]) (i := x0) (kc' := kc) (ks' := ks) dX1_measureSteps_37 mt_X1_measureStep w_m_X1_60 w_in_X1_measureStep w_se_X1_measureStep rfl rfl (Nat.le_of_ble_eq_true rfl) (Nat.le_refl _) (by omega) (by omega) cl_X1.1 e1 hv (fun _ _ q9 => q9) ?_
    rintro _ h2 ⟨z3, rfl, hv⟩ -
    obtain ⟨N, f, e1, e2, hv⟩ := hv
    refine j_iast dX1_measureSteps_40 e1 e2 ?_
    generalize q_set h2 r1 _ = h4 at hv ⊢
    refine j_iinc (w := (x2 + (1 : Int32))) dX1_measureSteps_41 rfl (by rfl) (by decide) rfl rfl ?_
    refine j_goto (tgt := 11) dX1_measureSteps_44 (by decide) ?_
    exact hv
set_option maxRecDepth 20000 in
set_option maxHeartbeats 4000000 in
theorem v_X1_measureSteps_2 {l : Launch} {d mc ms n0 kc ks : Nat} {Q : Option Value → qH → Prop} {QX : String → qH → Prop} (x0 : Nat) (x1 : Int32) {h : qH} (hv : qIF ((576 : Int32) ≤ x1) (Q none h) (q_J l (d + 3) mX1_measureSteps mc ms Q QX n0 11 [some (.ref x0), some (.int x1), some (.int (0 : Int32))] [] h kc ks)) : q_J l (d + 3) mX1_measureSteps mc ms Q QX n0 2 [some (.ref x0), some (.int x1), none] [] h kc ks := by
  refine j_iload_n dX1_measureSteps_2 rfl rfl ?_
  refine j_sipush (v := (576 : Int32)) dX1_measureSteps_3 (by decide) ?_
  refine j_icmp_ge (tgt := 53) dX1_measureSteps_6 (by decide) (fun hc => ?_) (fun hc => ?_)
  · replace hv := hv.1 hc
    exact j_vret dX1_measureSteps_53 rfl hv
  · replace hv := hv.2 hc
    refine j_iconst (v := (0 : Int32)) dX1_measureSteps_9 (by decide) ?_
    refine j_istore_n dX1_measureSteps_10 rfl (by decide) rfl rfl ?_
    exact hv
set_option maxRecDepth 20000 in
set_option maxHeartbeats 4000000 in
theorem v_X1_measureSteps {l : Launch} {d mc ms : Nat} {Q : Option Value → qH → Prop} {QX : String → qH → Prop} (x0 : Nat) {h : qH} (hv : q_J l (d + 3) mX1_measureSteps mc ms Q QX h.2 2 [some (.ref x0), some (.int (0 : Int32)), none] [] h mc ms) : q_Ct l (d + 3) mX1_measureSteps [.ref x0] h mc ms Q QX := by
  refine q_body (by decide ) (by intro v hm; simp only [List.mem_cons, List.not_mem_nil, or_false] at hm; subst hm; rfl) (Nat.le_of_ble_eq_true rfl) ?_
  refine j_pad 2 rfl ?_
  refine j_iconst (v := (0 : Int32)) dX1_measureSteps_0 (by decide) ?_
  refine j_istore_n dX1_measureSteps_1 rfl (by decide) rfl rfl ?_
  exact hv
set_option maxRecDepth 20000 in
set_option maxHeartbeats 4000000 in
theorem v_X1_measureStep_128 {l : Launch} {d mc ms n0 kc ks : Nat} {Q : Option Value → qH → Prop} {QX : String → qH → Prop} (x0 : Nat) (x1 : Int32) (x2 : Int32) (x3 : Int32) (x4 : Int32) (x5 : Int32) (x6 : Int32) (x7 : Int32) (y0 : Int32) {h : qH} (hv : qOB h x0 1 (qCI l (d + 1) mX1_roughAt [.ref x0, .int x4, .int x5] h 0 0 (fun z2 h1 => Q (some (.int ((y0 * ((2 : Int32) + z2)) + ((if (0 : Int32) < x6 then x6 else (0 : Int32)) / (3 : Int32))))) h1))) : q_J l (d + 2) mX1_measureStep mc ms Q QX n0 128 [some (.ref x0), some (.int x1), some (.int x2), some (.int x3), some (.int x4), some (.int x5), some (.int x6), some (.int x7)] [.int y0] h kc ks := by
  refine j_iconst (v := (2 : Int32)) dX1_measureStep_128 (by decide) ?_
  refine j_aload_n dX1_measureStep_129 rfl rfl ?_
  refine j_iload dX1_measureStep_130 rfl ?_
  refine j_iload dX1_measureStep_132 rfl ?_
  obtain ⟨⟨fs, e1⟩, hv⟩ := hv
  refine j_virtual (avs := [.int x4, .int x5]) (rest := [.int (2 : Int32), .int y0]) (i := x0) (kc' := kc) (ks' := ks) dX1_measureStep_134 mt_X1_roughAt w_m_X1_67 w_in_X1_roughAt w_se_X1_roughAt rfl rfl (Nat.le_of_ble_eq_true rfl) (Nat.le_refl _) (by omega) (by omega) cl_X1.1 e1 hv (fun _ _ q9 => q9) ?_
  rintro _ h1 ⟨z2, rfl, hv⟩ -
  refine j_iadd dX1_measureStep_137 ?_
  refine j_imul dX1_measureStep_138 ?_
  refine j_iconst (v := (0 : Int32)) dX1_measureStep_139 (by decide) ?_
  refine j_iload dX1_measureStep_140 rfl ?_
  refine j_mmax dX1_measureStep_142 w_m_X1_48 w_st_max w_ini_Math w_co_max (Nat.le_of_ble_eq_true rfl) (by omega) ?_
  refine j_iconst (v := (3 : Int32)) dX1_measureStep_145 (by decide) ?_
  refine j_idiv dX1_measureStep_146 (by decide) ?_
  refine j_iadd dX1_measureStep_147 ?_
  exact j_iret dX1_measureStep_148 rfl hv
set_option maxRecDepth 20000 in
set_option maxHeartbeats 4000000 in
theorem v_X1_measureStep_118 {l : Launch} {d mc ms n0 kc ks : Nat} {Q : Option Value → qH → Prop} {QX : String → qH → Prop} (x0 : Nat) (x1 : Int32) (x2 : Int32) (x3 : Int32) (x4 : Int32) (x5 : Int32) (x6 : Int32) (x7 : Int32) {h : qH} (hv : qIF (x7 = 0) (q_J l (d + 2) mX1_measureStep mc ms Q QX n0 128 [some (.ref x0), some (.int x1), some (.int x2), some (.int x3), some (.int x4), some (.int x5), some (.int x6), some (.int x7)] [.int (2 : Int32)] h kc ks) (q_J l (d + 2) mX1_measureStep mc ms Q QX n0 128 [some (.ref x0), some (.int x1), some (.int x2), some (.int x3), some (.int x4), some (.int x5), some (.int x6), some (.int x7)] [.int (3 : Int32)] h kc ks)) : q_J l (d + 2) mX1_measureStep mc ms Q QX n0 118 [some (.ref x0), some (.int x1), some (.int x2), some (.int x3), some (.int x4), some (.int x5), some (.int x6), some (.int x7)] [] h kc ks := by
  refine j_iload dX1_measureStep_118 rfl ?_
  refine j_if_eq (tgt := 127) dX1_measureStep_120 (by decide) (fun hc => ?_) (fun hc => ?_)
  · replace hv := hv.1 hc
    refine j_iconst (v := (2 : Int32)) dX1_measureStep_127 (by decide) ?_
    exact hv
  · replace hv := hv.2 hc
    refine j_iconst (v := (3 : Int32)) dX1_measureStep_123 (by decide) ?_
    refine j_goto (tgt := 128) dX1_measureStep_124 (by decide) ?_
    exact hv
set_option maxRecDepth 20000 in
set_option maxHeartbeats 4000000 in
theorem v_X1_measureStep_89 {l : Launch} {d mc ms n0 kc ks : Nat} {Q : Option Value → qH → Prop} {QX : String → qH → Prop} (x0 : Nat) (x1 : Int32) (x2 : Int32) (x3 : Int32) (x4 : Int32) (x5 : Int32) (x6 : Int32) (y0 : Int32) {h : qH} (hv : qIF (y0 = 0) (q_J l (d + 2) mX1_measureStep mc ms Q QX n0 118 [some (.ref x0), some (.int x1), some (.int x2), some (.int x3), some (.int x4), some (.int x5), some (.int x6), some (.int y0)] [] h kc ks) (qOB h x0 1 (qCI l (d + 1) mX1_isHazardAt [.ref x0, .int x4, .int x2] h 0 0 (fun z2 h1 => qIF (z2 = 0) (qOB h1 x0 1 (qCI l (d + 1) mX1_isHazardAt [.ref x0, .int x1, .int x5] h1 0 0 (fun z4 h3 => qIF (z4 = 0) (q_J l (d + 2) mX1_measureStep mc ms Q QX n0 118 [some (.ref x0), some (.int x1), some (.int x2), some (.int x3), some (.int x4), some (.int x5), some (.int x6), some (.int y0)] [] h3 kc ks) (Q (some (.int (-1 : Int32))) h3)))) (Q (some (.int (-1 : Int32))) h1))))) : q_J l (d + 2) mX1_measureStep mc ms Q QX n0 89 [some (.ref x0), some (.int x1), some (.int x2), some (.int x3), some (.int x4), some (.int x5), some (.int x6), none] [.int y0] h kc ks := by
  refine j_istore dX1_measureStep_89 (by decide) rfl rfl ?_
  refine j_iload dX1_measureStep_91 rfl ?_
  refine j_if_eq (tgt := 118) dX1_measureStep_93 (by decide) (fun hc => ?_) (fun hc => ?_)
  · replace hv := hv.1 hc
    exact hv
  · replace hv := hv.2 hc
    refine j_aload_n dX1_measureStep_96 rfl rfl ?_
    refine j_iload dX1_measureStep_97 rfl ?_
    refine j_iload_n dX1_measureStep_99 rfl rfl ?_
    obtain ⟨⟨fs, e1⟩, hv⟩ := hv
    refine j_virtual (avs := [.int x4, .int x2]) (rest := []) (i := x0) (kc' := kc) (ks' := ks) dX1_measureStep_100 mt_X1_isHazardAt w_m_X1_64 w_in_X1_isHazardAt w_se_X1_isHazardAt rfl rfl (Nat.le_of_ble_eq_true rfl) (Nat.le_refl _) (by omega) (by omega) cl_X1.1 e1 hv (fun _ _ q9 => q9) ?_
    rintro _ h1 ⟨z2, rfl, hv⟩ -
    refine j_if_ne (tgt := 116) dX1_measureStep_103 (by decide) (fun hc => ?_) (fun hc => ?_)
    · replace hv := hv.2 hc
      refine j_iconst (v := (-1 : Int32)) dX1_measureStep_116 (by decide) ?_
      exact j_iret dX1_measureStep_117 rfl hv
    · replace hv := hv.1 hc
      refine j_aload_n dX1_measureStep_106 rfl rfl ?_
      refine j_iload_n dX1_measureStep_107 rfl rfl ?_
      refine j_iload dX1_measureStep_108 rfl ?_
      obtain ⟨⟨fs, e1⟩, hv⟩ := hv
      refine j_virtual (avs := [.int x1, .int x5]) (rest := []) (i := x0) (kc' := kc) (ks' := ks) dX1_measureStep_110 mt_X1_isHazardAt w_m_X1_64 w_in_X1_isHazardAt w_se_X1_isHazardAt rfl rfl (Nat.le_of_ble_eq_true rfl) (Nat.le_refl _) (by omega) (by omega) cl_X1.1 e1 hv (fun _ _ q9 => q9) ?_
      rintro _ h3 ⟨z4, rfl, hv⟩ -
      refine j_if_eq (tgt := 118) dX1_measureStep_113 (by decide) (fun hc => ?_) (fun hc => ?_)
      · replace hv := hv.1 hc
        exact hv
      · replace hv := hv.2 hc
        refine j_iconst (v := (-1 : Int32)) dX1_measureStep_116 (by decide) ?_
        exact j_iret dX1_measureStep_117 rfl hv
set_option maxRecDepth 20000 in
set_option maxHeartbeats 4000000 in
theorem v_X1_measureStep_88 {l : Launch} {d mc ms n0 kc ks : Nat} {Q : Option Value → qH → Prop} {QX : String → qH → Prop} (x0 : Nat) (x1 : Int32) (x2 : Int32) (x3 : Int32) (x4 : Int32) (x5 : Int32) (x6 : Int32) {h : qH} (hv : q_J l (d + 2) mX1_measureStep mc ms Q QX n0 89 [some (.ref x0), some (.int x1), some (.int x2), some (.int x3), some (.int x4), some (.int x5), some (.int x6), none] [.int (0 : Int32)] h kc ks) : q_J l (d + 2) mX1_measureStep mc ms Q QX n0 88 [some (.ref x0), some (.int x1), some (.int x2), some (.int x3), some (.int x4), some (.int x5), some (.int x6), none] [] h kc ks := by
  refine j_iconst (v := (0 : Int32)) dX1_measureStep_88 (by decide) ?_
  exact hv
set_option maxRecDepth 20000 in
set_option maxHeartbeats 4000000 in
theorem v_X1_measureStep {l : Launch} {d mc ms : Nat} {Q : Option Value → qH → Prop} {QX : String → qH → Prop} (x0 : Nat) (x1 : Int32) (x2 : Int32) (x3 : Int32) {h : qH} (hv : qSL 0 x3 (fun z1 => qSL 1 x3 (fun z2 => qCI l (d + 1) mX1_isPlace [.int (x1 + z1), .int (x2 + z2)] h 0 0 (fun z4 h3 => qIF (z4 = 0) (Q (some (.int (-1 : Int32))) h3) (qOB h3 x0 1 (qCI l (d + 1) mX1_isHazardAt [.ref x0, .int (x1 + z1), .int (x2 + z2)] h3 0 0 (fun z6 h5 => qIF (z6 = 0) (qOB h5 x0 1 (qCI l (d + 1) mX1_heightAt [.ref x0, .int (x1 + z1), .int (x2 + z2)] h5 0 0 (fun z8 h7 => qOB h7 x0 1 (qCI l (d + 1) mX1_heightAt [.ref x0, .int x1, .int x2] h7 0 0 (fun z10 h9 => qGI h9 x0 1 4 (fun z12 => qIF ((if 0 ≤ (z8 - z10) then (z8 - z10) else 0 - (z8 - z10)) ≤ z12) (qIF ((x1 + z1) = x1) (q_J l (d + 2) mX1_measureStep mc ms Q QX h.2 88 [some (.ref x0), some (.int x1), some (.int x2), some (.int x3), some (.int (x1 + z1)), some (.int (x2 + z2)), some (.int (z8 - z10)), none] [] h9 mc ms) (qIF ((x2 + z2) = x2) (q_J l (d + 2) mX1_measureStep mc ms Q QX h.2 88 [some (.ref x0), some (.int x1), some (.int x2), some (.int x3), some (.int (x1 + z1)), some (.int (x2 + z2)), some (.int (z8 - z10)), none] [] h9 mc ms) (q_J l (d + 2) mX1_measureStep mc ms Q QX h.2 89 [some (.ref x0), some (.int x1), some (.int x2), some (.int x3), some (.int (x1 + z1)), some (.int (x2 + z2)), some (.int (z8 - z10)), none] [.int (1 : Int32)] h9 mc ms))) (Q (some (.int (-1 : Int32))) h9))))))) (Q (some (.int (-1 : Int32))) h5)))))))) : q_Ct l (d + 2) mX1_measureStep [.ref x0, .int x1, .int x2, .int x3] h mc ms Q QX := by
  refine q_body (by decide ) (by intro v hm; simp only [List.mem_cons, List.not_mem_nil, or_false] at hm; rcases hm with rfl | rfl | rfl | rfl <;> rfl) (Nat.le_of_ble_eq_true rfl) ?_
  refine j_pad 4 rfl ?_
  refine j_iload_n dX1_measureStep_0 rfl rfl ?_
  refine j_getsN (k := 0) (by decide) w_fn_X1_36 dX1_measureStep_1 ?_
  refine j_iload_n dX1_measureStep_4 rfl rfl ?_
  obtain ⟨e1, hv⟩ := hv
  refine j_sald (k := 0) (by decide) dX1_measureStep_5 e1 ?_
  generalize q_sF 0 _ = z1 at hv ⊢
  refine j_iadd dX1_measureStep_6 ?_
  refine j_istore dX1_measureStep_7 (by decide) rfl rfl ?_
  refine j_iload_n dX1_measureStep_9 rfl rfl ?_
  refine j_getsN (k := 1) (by decide) w_fn_X1_39 dX1_measureStep_10 ?_
  refine j_iload_n dX1_measureStep_13 rfl rfl ?_
  obtain ⟨e1, hv⟩ := hv
  refine j_sald (k := 1) (by decide) dX1_measureStep_14 e1 ?_
  generalize q_sF 1 _ = z2 at hv ⊢
  refine j_iadd dX1_measureStep_15 ?_
  refine j_istore dX1_measureStep_16 (by decide) rfl rfl ?_
  refine j_iload dX1_measureStep_18 rfl ?_
  refine j_iload dX1_measureStep_20 rfl ?_
  refine j_static (avs := [.int (x1 + z1), .int (x2 + z2)]) (rest := []) (kc' := mc) (ks' := ms) dX1_measureStep_22 mt_X1_isPlace w_m_X1_32 w_st_X1_isPlace rfl rfl (Nat.le_of_ble_eq_true rfl) (Nat.le_refl _) (by omega) (by omega) hv (fun _ _ q9 => q9) ?_
  rintro _ h3 ⟨z4, rfl, hv⟩ -
  refine j_if_eq (tgt := 39) dX1_measureStep_25 (by decide) (fun hc => ?_) (fun hc => ?_)
  · replace hv := hv.1 hc
    refine j_iconst (v := (-1 : Int32)) dX1_measureStep_39 (by decide) ?_
    exact j_iret dX1_measureStep_40 rfl hv
  · replace hv := hv.2 hc
    refine j_aload_n dX1_measureStep_28 rfl rfl ?_
    refine j_iload dX1_measureStep_29 rfl ?_
    refine j_iload dX1_measureStep_31 rfl ?_
    obtain ⟨⟨fs, e1⟩, hv⟩ := hv
    refine j_virtual (avs := [.int (x1 + z1), .int (x2 + z2)]) (rest := []) (i := x0) (kc' := mc) (ks' := ms) dX1_measureStep_33 mt_X1_isHazardAt w_m_X1_64 w_in_X1_isHazardAt w_se_X1_isHazardAt rfl rfl (Nat.le_of_ble_eq_true rfl) (Nat.le_refl _) (by omega) (by omega) cl_X1.1 e1 hv (fun _ _ q9 => q9) ?_
    rintro _ h5 ⟨z6, rfl, hv⟩ -
    refine j_if_eq (tgt := 41) dX1_measureStep_36 (by decide) (fun hc => ?_) (fun hc => ?_)
    · replace hv := hv.1 hc
      refine j_aload_n dX1_measureStep_41 rfl rfl ?_
      refine j_iload dX1_measureStep_42 rfl ?_
      refine j_iload dX1_measureStep_44 rfl ?_
      obtain ⟨⟨fs, e1⟩, hv⟩ := hv
      refine j_virtual (avs := [.int (x1 + z1), .int (x2 + z2)]) (rest := []) (i := x0) (kc' := mc) (ks' := ms) dX1_measureStep_46 mt_X1_heightAt w_m_X1_57 w_in_X1_heightAt w_se_X1_heightAt rfl rfl (Nat.le_of_ble_eq_true rfl) (Nat.le_refl _) (by omega) (by omega) cl_X1.1 e1 hv (fun _ _ q9 => q9) ?_
      rintro _ h7 ⟨z8, rfl, hv⟩ -
      refine j_aload_n dX1_measureStep_49 rfl rfl ?_
      refine j_iload_n dX1_measureStep_50 rfl rfl ?_
      refine j_iload_n dX1_measureStep_51 rfl rfl ?_
      obtain ⟨⟨fs, e1⟩, hv⟩ := hv
      refine j_virtual (avs := [.int x1, .int x2]) (rest := [.int z8]) (i := x0) (kc' := mc) (ks' := ms) dX1_measureStep_52 mt_X1_heightAt w_m_X1_57 w_in_X1_heightAt w_se_X1_heightAt rfl rfl (Nat.le_of_ble_eq_true rfl) (Nat.le_refl _) (by omega) (by omega) cl_X1.1 e1 hv (fun _ _ q9 => q9) ?_
      rintro _ h9 ⟨z10, rfl, hv⟩ -
      refine j_isub dX1_measureStep_55 ?_
      refine j_istore dX1_measureStep_56 (by decide) rfl rfl ?_
      refine j_iload dX1_measureStep_58 rfl ?_
      refine j_mabs dX1_measureStep_60 w_m_X1_42 w_st_abs w_ini_Math w_co_abs (Nat.le_of_ble_eq_true rfl) (by omega) ?_
      refine j_aload_n dX1_measureStep_63 rfl rfl ?_
      obtain ⟨fs, z12, e1, e2, hv⟩ := hv
      refine j_getf (k := 4) cl_X1 (by decide) w_f_X1_25 dX1_measureStep_64 e1 e2 ?_
      refine j_icmp_le (tgt := 72) dX1_measureStep_67 (by decide) (fun hc => ?_) (fun hc => ?_)
      · replace hv := hv.1 hc
        refine j_iload dX1_measureStep_72 rfl ?_
        refine j_iload_n dX1_measureStep_74 rfl rfl ?_
        refine j_icmp_eq (tgt := 88) dX1_measureStep_75 (by decide) (fun hc => ?_) (fun hc => ?_)
        · replace hv := hv.1 hc
          exact hv
        · replace hv := hv.2 hc
          refine j_iload dX1_measureStep_78 rfl ?_
          refine j_iload_n dX1_measureStep_80 rfl rfl ?_
          refine j_icmp_eq (tgt := 88) dX1_measureStep_81 (by decide) (fun hc => ?_) (fun hc => ?_)
          · replace hv := hv.1 hc
            exact hv
          · replace hv := hv.2 hc
            refine j_iconst (v := (1 : Int32)) dX1_measureStep_84 (by decide) ?_
            refine j_goto (tgt := 89) dX1_measureStep_85 (by decide) ?_
            exact hv
      · replace hv := hv.2 hc
        refine j_iconst (v := (-1 : Int32)) dX1_measureStep_70 (by decide) ?_
        exact j_iret dX1_measureStep_71 rfl hv
    · replace hv := hv.2 hc
      refine j_iconst (v := (-1 : Int32)) dX1_measureStep_39 (by decide) ?_
      exact j_iret dX1_measureStep_40 rfl hv
set_option maxRecDepth 20000 in
set_option maxHeartbeats 4000000 in
theorem v_X1_minutesOf {l : Launch} {d mc ms : Nat} {Q : Option Value → qH → Prop} {QX : String → qH → Prop} (x0 : Nat) (x1 : Int32) (x2 : Int32) {h : qH} (hv : qIF (x1 < 0) (Q (some (.int (-1 : Int32))) h) (qIF ((576 : Int32) ≤ x1) (Q (some (.int (-1 : Int32))) h) (qIF (x2 < 0) (Q (some (.int (-1 : Int32))) h) (qIF (x2 < (8 : Int32)) (qGR h x0 1 3 (fun r1 => qAL h r1 ((x1 * (8 : Int32)) + x2) (fun z2 => Q (some (.int z2)) h))) (Q (some (.int (-1 : Int32))) h))))) : q_Ct l (d + 0) mX1_minutesOf [.ref x0, .int x1, .int x2] h mc ms Q QX := by
  refine q_body (by decide ) (by intro v hm; simp only [List.mem_cons, List.not_mem_nil, or_false] at hm; rcases hm with rfl | rfl | rfl <;> rfl) (Nat.le_of_ble_eq_true rfl) ?_
  refine j_pad 0 rfl ?_
  refine j_iload_n dX1_minutesOf_0 rfl rfl ?_
  refine j_if_lt (tgt := 21) dX1_minutesOf_1 (by decide) (fun hc => ?_) (fun hc => ?_)
  · replace hv := hv.1 hc
    refine j_iconst (v := (-1 : Int32)) dX1_minutesOf_21 (by decide) ?_
    exact j_iret dX1_minutesOf_22 rfl hv
  · replace hv := hv.2 hc
    refine j_iload_n dX1_minutesOf_4 rfl rfl ?_
    refine j_sipush (v := (576 : Int32)) dX1_minutesOf_5 (by decide) ?_
    refine j_icmp_ge (tgt := 21) dX1_minutesOf_8 (by decide) (fun hc => ?_) (fun hc => ?_)
    · replace hv := hv.1 hc
      refine j_iconst (v := (-1 : Int32)) dX1_minutesOf_21 (by decide) ?_
      exact j_iret dX1_minutesOf_22 rfl hv
    · replace hv := hv.2 hc
      refine j_iload_n dX1_minutesOf_11 rfl rfl ?_
      refine j_if_lt (tgt := 21) dX1_minutesOf_12 (by decide) (fun hc => ?_) (fun hc => ?_)
      · replace hv := hv.1 hc
        refine j_iconst (v := (-1 : Int32)) dX1_minutesOf_21 (by decide) ?_
        exact j_iret dX1_minutesOf_22 rfl hv
      · replace hv := hv.2 hc
        refine j_iload_n dX1_minutesOf_15 rfl rfl ?_
        refine j_bipush (v := (8 : Int32)) dX1_minutesOf_16 (by decide) ?_
        refine j_icmp_lt (tgt := 23) dX1_minutesOf_18 (by decide) (fun hc => ?_) (fun hc => ?_)
        · replace hv := hv.1 hc
          refine j_aload_n dX1_minutesOf_23 rfl rfl ?_
          obtain ⟨fs, r1, e1, e2, hv⟩ := hv
          refine j_getf (k := 3) cl_X1 (by decide) w_f_X1_22 dX1_minutesOf_24 e1 e2 ?_
          refine j_iload_n dX1_minutesOf_27 rfl rfl ?_
          refine j_bipush (v := (8 : Int32)) dX1_minutesOf_28 (by decide) ?_
          refine j_imul dX1_minutesOf_30 ?_
          refine j_iload_n dX1_minutesOf_31 rfl rfl ?_
          refine j_iadd dX1_minutesOf_32 ?_
          obtain ⟨N, f, e1, e2, hv⟩ := hv
          refine j_iald dX1_minutesOf_33 e1 e2 ?_
          generalize f _ = z2 at hv ⊢
          exact j_iret dX1_minutesOf_34 rfl hv
        · replace hv := hv.2 hc
          refine j_iconst (v := (-1 : Int32)) dX1_minutesOf_21 (by decide) ?_
          exact j_iret dX1_minutesOf_22 rfl hv
set_option maxRecDepth 20000 in
set_option maxHeartbeats 4000000 in
theorem v_X1_energyOf_63 {l : Launch} {d mc ms n0 kc ks : Nat} {Q : Option Value → qH → Prop} {QX : String → qH → Prop} (x0 : Nat) (x1 : Int32) (x2 : Int32) (x3 : Int32) (x4 : Int32) (y0 : Int32) {h : qH} (hv : Q (some (.int (((4 : Int32) * x3) + ((2 : Int32) * (if (0 : Int32) < y0 then y0 else (0 : Int32)))))) h) : q_J l (d + 1) mX1_energyOf mc ms Q QX n0 63 [some (.ref x0), some (.int x1), some (.int x2), some (.int x3), some (.int x4), none] [.int y0] h kc ks := by
  refine j_istore dX1_energyOf_63 (by decide) rfl rfl ?_
  refine j_iconst (v := (4 : Int32)) dX1_energyOf_65 (by decide) ?_
  refine j_iload_n dX1_energyOf_66 rfl rfl ?_
  refine j_imul dX1_energyOf_67 ?_
  refine j_iconst (v := (2 : Int32)) dX1_energyOf_68 (by decide) ?_
  refine j_iconst (v := (0 : Int32)) dX1_energyOf_69 (by decide) ?_
  refine j_iload dX1_energyOf_70 rfl ?_
  refine j_mmax dX1_energyOf_72 w_m_X1_48 w_st_max w_ini_Math w_co_max (Nat.le_of_ble_eq_true rfl) (by omega) ?_
  refine j_imul dX1_energyOf_75 ?_
  refine j_iadd dX1_energyOf_76 ?_
  exact j_iret dX1_energyOf_77 rfl hv
set_option maxRecDepth 20000 in
set_option maxHeartbeats 4000000 in
theorem v_X1_energyOf_45 {l : Launch} {d mc ms n0 kc ks : Nat} {Q : Option Value → qH → Prop} {QX : String → qH → Prop} (x0 : Nat) (x1 : Int32) (x2 : Int32) (x3 : Int32) (x4 : Int32) {h : qH} (hv : q_J l (d + 1) mX1_energyOf mc ms Q QX n0 63 [some (.ref x0), some (.int x1), some (.int x2), some (.int x3), some (.int x4), none] [.int (0 : Int32)] h kc ks) : q_J l (d + 1) mX1_energyOf mc ms Q QX n0 45 [some (.ref x0), some (.int x1), some (.int x2), some (.int x3), some (.int x4), none] [] h kc ks := by
  refine j_iconst (v := (0 : Int32)) dX1_energyOf_45 (by decide) ?_
  refine j_goto (tgt := 63) dX1_energyOf_46 (by decide) ?_
  exact hv
set_option maxRecDepth 20000 in
set_option maxHeartbeats 4000000 in
theorem v_X1_energyOf {l : Launch} {d mc ms : Nat} {Q : Option Value → qH → Prop} {QX : String → qH → Prop} (x0 : Nat) (x1 : Int32) (x2 : Int32) {h : qH} (hv : qOB h x0 1 (qCI l (d + 0) mX1_minutesOf [.ref x0, .int x1, .int x2] h 0 0 (fun z2 h1 => qIF (z2 = (-1 : Int32)) (Q (some (.int (0 : Int32))) h1) (qSL 1 x2 (fun z3 => qSL 0 x2 (fun z4 => qIF (((x1 + (z3 * (24 : Int32))) + z4) < 0) (q_J l (d + 1) mX1_energyOf mc ms Q QX h.2 45 [some (.ref x0), some (.int x1), some (.int x2), some (.int z2), some (.int ((x1 + (z3 * (24 : Int32))) + z4)), none] [] h1 mc ms) (qIF (((x1 + (z3 * (24 : Int32))) + z4) < (576 : Int32)) (qGR h1 x0 1 0 (fun r5 => qAL h1 r5 ((x1 + (z3 * (24 : Int32))) + z4) (fun z6 => qGR h1 x0 1 0 (fun r7 => qAL h1 r7 x1 (fun z8 => q_J l (d + 1) mX1_energyOf mc ms Q QX h.2 63 [some (.ref x0), some (.int x1), some (.int x2), some (.int z2), some (.int ((x1 + (z3 * (24 : Int32))) + z4)), none] [.int (z6 - z8)] h1 mc ms))))) (q_J l (d + 1) mX1_energyOf mc ms Q QX h.2 45 [some (.ref x0), some (.int x1), some (.int x2), some (.int z2), some (.int ((x1 + (z3 * (24 : Int32))) + z4)), none] [] h1 mc ms)))))))) : q_Ct l (d + 1) mX1_energyOf [.ref x0, .int x1, .int x2] h mc ms Q QX := by
  refine q_body (by decide ) (by intro v hm; simp only [List.mem_cons, List.not_mem_nil, or_false] at hm; rcases hm with rfl | rfl | rfl <;> rfl) (Nat.le_of_ble_eq_true rfl) ?_
  refine j_pad 3 rfl ?_
  refine j_aload_n dX1_energyOf_0 rfl rfl ?_
  refine j_iload_n dX1_energyOf_1 rfl rfl ?_
  refine j_iload_n dX1_energyOf_2 rfl rfl ?_
  obtain ⟨⟨fs, e1⟩, hv⟩ := hv
  refine j_virtual (avs := [.int x1, .int x2]) (rest := []) (i := x0) (kc' := mc) (ks' := ms) dX1_energyOf_3 mt_X1_minutesOf w_m_X1_70 w_in_X1_minutesOf w_se_X1_minutesOf rfl rfl (Nat.le_of_ble_eq_true rfl) (Nat.le_refl _) (by omega) (by omega) cl_X1.1 e1 hv (fun _ _ q9 => q9) ?_
  rintro _ h1 ⟨z2, rfl, hv⟩ -
  refine j_istore_n dX1_energyOf_6 rfl (by decide) rfl rfl ?_
  refine j_iload_n dX1_energyOf_7 rfl rfl ?_
  refine j_iconst (v := (-1 : Int32)) dX1_energyOf_8 (by decide) ?_
  refine j_icmp_ne (tgt := 14) dX1_energyOf_9 (by decide) (fun hc => ?_) (fun hc => ?_)
  · replace hv := hv.2 hc
    refine j_iload_n dX1_energyOf_14 rfl rfl ?_
    refine j_getsN (k := 1) (by decide) w_fn_X1_39 dX1_energyOf_15 ?_
    refine j_iload_n dX1_energyOf_18 rfl rfl ?_
    obtain ⟨e1, hv⟩ := hv
    refine j_sald (k := 1) (by decide) dX1_energyOf_19 e1 ?_
    generalize q_sF 1 _ = z3 at hv ⊢
    refine j_bipush (v := (24 : Int32)) dX1_energyOf_20 (by decide) ?_
    refine j_imul dX1_energyOf_22 ?_
    refine j_iadd dX1_energyOf_23 ?_
    refine j_getsN (k := 0) (by decide) w_fn_X1_36 dX1_energyOf_24 ?_
    refine j_iload_n dX1_energyOf_27 rfl rfl ?_
    obtain ⟨e1, hv⟩ := hv
    refine j_sald (k := 0) (by decide) dX1_energyOf_28 e1 ?_
    generalize q_sF 0 _ = z4 at hv ⊢
    refine j_iadd dX1_energyOf_29 ?_
    refine j_istore dX1_energyOf_30 (by decide) rfl rfl ?_
    refine j_iload dX1_energyOf_32 rfl ?_
    refine j_if_lt (tgt := 45) dX1_energyOf_34 (by decide) (fun hc => ?_) (fun hc => ?_)
    · replace hv := hv.1 hc
      exact hv
    · replace hv := hv.2 hc
      refine j_iload dX1_energyOf_37 rfl ?_
      refine j_sipush (v := (576 : Int32)) dX1_energyOf_39 (by decide) ?_
      refine j_icmp_lt (tgt := 49) dX1_energyOf_42 (by decide) (fun hc => ?_) (fun hc => ?_)
      · replace hv := hv.1 hc
        refine j_aload_n dX1_energyOf_49 rfl rfl ?_
        obtain ⟨fs, r5, e1, e2, hv⟩ := hv
        refine j_getf (k := 0) cl_X1 (by decide) w_f_X1_9 dX1_energyOf_50 e1 e2 ?_
        refine j_iload dX1_energyOf_53 rfl ?_
        obtain ⟨N, f, e1, e2, hv⟩ := hv
        refine j_iald dX1_energyOf_55 e1 e2 ?_
        generalize f _ = z6 at hv ⊢
        refine j_aload_n dX1_energyOf_56 rfl rfl ?_
        obtain ⟨fs, r7, e1, e2, hv⟩ := hv
        refine j_getf (k := 0) cl_X1 (by decide) w_f_X1_9 dX1_energyOf_57 e1 e2 ?_
        refine j_iload_n dX1_energyOf_60 rfl rfl ?_
        obtain ⟨N, f, e1, e2, hv⟩ := hv
        refine j_iald dX1_energyOf_61 e1 e2 ?_
        generalize f _ = z8 at hv ⊢
        refine j_isub dX1_energyOf_62 ?_
        exact hv
      · replace hv := hv.2 hc
        exact hv
  · replace hv := hv.1 hc
    refine j_iconst (v := (0 : Int32)) dX1_energyOf_12 (by decide) ?_
    exact j_iret dX1_energyOf_13 rfl hv
set_option maxRecDepth 20000 in
set_option maxHeartbeats 4000000 in
theorem v_X1_isSeen_35 {l : Launch} {d mc ms n0 kc ks : Nat} {Q : Option Value → qH → Prop} {QX : String → qH → Prop} (x0 : Nat) (x1 : Int32) (x2 : Int32) (x3 : Int32) (x4 : Int32) (x5 : Int32) (x6 : Int32) (x7 : Int32) (x8 : Int32) {h : qH} (hv : qIF (x5 ≤ x8) (Q (some (.int (1 : Int32))) h) (qCI l (d + 1) mJ9_floorDiv_7cf53 [.int ((((2 : Int32) * x8) * (x3 - x1)) + x5), .int ((2 : Int32) * x5)] h 0 0 (fun z2 h1 => qCI l (d + 1) mJ9_floorDiv_7cf53 [.int ((((2 : Int32) * x8) * (x4 - x2)) + x5), .int ((2 : Int32) * x5)] h1 0 0 (fun z4 h3 => qOB h3 x0 1 (qCI l (d + 1) mX1_heightAt [.ref x0, .int (x1 + z2), .int (x2 + z4)] h3 0 0 (fun z6 h5 => qDV x5 (qIF (z6 ≤ (x6 + ((x7 * x8) / x5))) (q_J l (d + 2) mX1_isSeen mc ms Q QX n0 35 [some (.ref x0), some (.int x1), some (.int x2), some (.int x3), some (.int x4), some (.int x5), some (.int x6), some (.int x7), some (.int (x8 + (1 : Int32))), none, none] [] h5 kc ks) (Q (some (.int (0 : Int32))) h5)))))))) : q_J l (d + 2) mX1_isSeen mc ms Q QX n0 35 [some (.ref x0), some (.int x1), some (.int x2), some (.int x3), some (.int x4), some (.int x5), some (.int x6), some (.int x7), some (.int x8), none, none] [] h kc ks := by
  refine j_iload dX1_isSeen_35 rfl ?_
  refine j_iload dX1_isSeen_37 rfl ?_
  refine j_icmp_ge (tgt := 117) dX1_isSeen_39 (by decide) (fun hc => ?_) (fun hc => ?_)
  · replace hv := hv.1 hc
    refine j_iconst (v := (1 : Int32)) dX1_isSeen_117 (by decide) ?_
    exact j_zret dX1_isSeen_118 rfl (by decide) hv
  · replace hv := hv.2 hc
    refine j_iload_n dX1_isSeen_42 rfl rfl ?_
    refine j_iconst (v := (2 : Int32)) dX1_isSeen_43 (by decide) ?_
    refine j_iload dX1_isSeen_44 rfl ?_
    refine j_imul dX1_isSeen_46 ?_
    refine j_iload_n dX1_isSeen_47 rfl rfl ?_
    refine j_iload_n dX1_isSeen_48 rfl rfl ?_
    refine j_isub dX1_isSeen_49 ?_
    refine j_imul dX1_isSeen_50 ?_
    refine j_iload dX1_isSeen_51 rfl ?_
    refine j_iadd dX1_isSeen_53 ?_
    refine j_iconst (v := (2 : Int32)) dX1_isSeen_54 (by decide) ?_
    refine j_iload dX1_isSeen_55 rfl ?_
    refine j_imul dX1_isSeen_57 ?_
    refine j_static (avs := [.int ((((2 : Int32) * x8) * (x3 - x1)) + x5), .int ((2 : Int32) * x5)]) (rest := [.int x1]) (kc' := kc) (ks' := ks) dX1_isSeen_58 mt_J9_floorDiv_7cf53 w_m_X1_77 w_st_J9_floorDiv_7cf53 rfl rfl (Nat.le_of_ble_eq_true rfl) (Nat.le_refl _) (by omega) (by omega) hv (fun _ _ q9 => q9) ?_
    rintro _ h1 ⟨z2, rfl, hv⟩ -
    refine j_iadd dX1_isSeen_61 ?_
    refine j_istore dX1_isSeen_62 (by decide) rfl rfl ?_
    refine j_iload_n dX1_isSeen_64 rfl rfl ?_
    refine j_iconst (v := (2 : Int32)) dX1_isSeen_65 (by decide) ?_
    refine j_iload dX1_isSeen_66 rfl ?_
    refine j_imul dX1_isSeen_68 ?_
    refine j_iload dX1_isSeen_69 rfl ?_
    refine j_iload_n dX1_isSeen_71 rfl rfl ?_
    refine j_isub dX1_isSeen_72 ?_
    refine j_imul dX1_isSeen_73 ?_
    refine j_iload dX1_isSeen_74 rfl ?_
    refine j_iadd dX1_isSeen_76 ?_
    refine j_iconst (v := (2 : Int32)) dX1_isSeen_77 (by decide) ?_
    refine j_iload dX1_isSeen_78 rfl ?_
    refine j_imul dX1_isSeen_80 ?_
    refine j_static (avs := [.int ((((2 : Int32) * x8) * (x4 - x2)) + x5), .int ((2 : Int32) * x5)]) (rest := [.int x2]) (kc' := kc) (ks' := ks) dX1_isSeen_81 mt_J9_floorDiv_7cf53 w_m_X1_77 w_st_J9_floorDiv_7cf53 rfl rfl (Nat.le_of_ble_eq_true rfl) (Nat.le_refl _) (by omega) (by omega) hv (fun _ _ q9 => q9) ?_
    rintro _ h3 ⟨z4, rfl, hv⟩ -
    refine j_iadd dX1_isSeen_84 ?_
    refine j_istore dX1_isSeen_85 (by decide) rfl rfl ?_
    refine j_aload_n dX1_isSeen_87 rfl rfl ?_
    refine j_iload dX1_isSeen_88 rfl ?_
    refine j_iload dX1_isSeen_90 rfl ?_
    obtain ⟨⟨fs, e1⟩, hv⟩ := hv
    refine j_virtual (avs := [.int (x1 + z2), .int (x2 + z4)]) (rest := []) (i := x0) (kc' := kc) (ks' := ks) dX1_isSeen_92 mt_X1_heightAt w_m_X1_57 w_in_X1_heightAt w_se_X1_heightAt rfl rfl (Nat.le_of_ble_eq_true rfl) (Nat.le_refl _) (by omega) (by omega) cl_X1.1 e1 hv (fun _ _ q9 => q9) ?_
    rintro _ h5 ⟨z6, rfl, hv⟩ -
    refine j_iload dX1_isSeen_95 rfl ?_
    refine j_iload dX1_isSeen_97 rfl ?_
    refine j_iload dX1_isSeen_99 rfl ?_
    refine j_imul dX1_isSeen_101 ?_
    refine j_iload dX1_isSeen_102 rfl ?_
    obtain ⟨hz, hv⟩ := hv
    refine j_idiv dX1_isSeen_104 hz ?_
    refine j_iadd dX1_isSeen_105 ?_
    refine j_icmp_le (tgt := 111) dX1_isSeen_106 (by decide) (fun hc => ?_) (fun hc => ?_)
    · replace hv := hv.1 hc
      refine j_iinc (w := (x8 + (1 : Int32))) dX1_isSeen_111 rfl (by rfl) (by decide) rfl rfl ?_
      refine j_goto (tgt := 35) dX1_isSeen_114 (by decide) ?_
      refine j_mask [true, true, true, true, true, true, true, true, true, false, false] rfl ?_
      exact hv
    · replace hv := hv.2 hc
      refine j_iconst (v := (0 : Int32)) dX1_isSeen_109 (by decide) ?_
      exact j_zret dX1_isSeen_110 rfl (by decide) hv
set_option maxRecDepth 20000 in
set_option maxHeartbeats 4000000 in
theorem v_X1_isSeen {l : Launch} {d mc ms : Nat} {Q : Option Value → qH → Prop} {QX : String → qH → Prop} (x0 : Nat) (x1 : Int32) (x2 : Int32) (x3 : Int32) (x4 : Int32) {h : qH} (hv : qCI l (d + 1) mX1_distance [.int x1, .int x2, .int x3, .int x4] h 0 0 (fun z2 h1 => qOB h1 x0 1 (qCI l (d + 1) mX1_heightAt [.ref x0, .int x1, .int x2] h1 0 0 (fun z4 h3 => qOB h3 x0 1 (qCI l (d + 1) mX1_heightAt [.ref x0, .int x3, .int x4] h3 0 0 (fun z6 h5 => q_J l (d + 2) mX1_isSeen mc ms Q QX h.2 35 [some (.ref x0), some (.int x1), some (.int x2), some (.int x3), some (.int x4), some (.int z2), some (.int (z4 + (3 : Int32))), some (.int (z6 - (z4 + (3 : Int32)))), some (.int (1 : Int32)), none, none] [] h5 mc ms)))))) : q_Ct l (d + 2) mX1_isSeen [.ref x0, .int x1, .int x2, .int x3, .int x4] h mc ms Q QX := by
  refine q_body (by decide ) (by intro v hm; simp only [List.mem_cons, List.not_mem_nil, or_false] at hm; rcases hm with rfl | rfl | rfl | rfl | rfl <;> rfl) (Nat.le_of_ble_eq_true rfl) ?_
  refine j_pad 6 rfl ?_
  refine j_iload_n dX1_isSeen_0 rfl rfl ?_
  refine j_iload_n dX1_isSeen_1 rfl rfl ?_
  refine j_iload_n dX1_isSeen_2 rfl rfl ?_
  refine j_iload dX1_isSeen_3 rfl ?_
  refine j_static (avs := [.int x1, .int x2, .int x3, .int x4]) (rest := []) (kc' := mc) (ks' := ms) dX1_isSeen_5 mt_X1_distance w_m_X1_73 w_st_X1_distance rfl rfl (Nat.le_of_ble_eq_true rfl) (Nat.le_refl _) (by omega) (by omega) hv (fun _ _ q9 => q9) ?_
  rintro _ h1 ⟨z2, rfl, hv⟩ -
  refine j_istore dX1_isSeen_8 (by decide) rfl rfl ?_
  refine j_aload_n dX1_isSeen_10 rfl rfl ?_
  refine j_iload_n dX1_isSeen_11 rfl rfl ?_
  refine j_iload_n dX1_isSeen_12 rfl rfl ?_
  obtain ⟨⟨fs, e1⟩, hv⟩ := hv
  refine j_virtual (avs := [.int x1, .int x2]) (rest := []) (i := x0) (kc' := mc) (ks' := ms) dX1_isSeen_13 mt_X1_heightAt w_m_X1_57 w_in_X1_heightAt w_se_X1_heightAt rfl rfl (Nat.le_of_ble_eq_true rfl) (Nat.le_refl _) (by omega) (by omega) cl_X1.1 e1 hv (fun _ _ q9 => q9) ?_
  rintro _ h3 ⟨z4, rfl, hv⟩ -
  refine j_iconst (v := (3 : Int32)) dX1_isSeen_16 (by decide) ?_
  refine j_iadd dX1_isSeen_17 ?_
  refine j_istore dX1_isSeen_18 (by decide) rfl rfl ?_
  refine j_aload_n dX1_isSeen_20 rfl rfl ?_
  refine j_iload_n dX1_isSeen_21 rfl rfl ?_
  refine j_iload dX1_isSeen_22 rfl ?_
  obtain ⟨⟨fs, e1⟩, hv⟩ := hv
  refine j_virtual (avs := [.int x3, .int x4]) (rest := []) (i := x0) (kc' := mc) (ks' := ms) dX1_isSeen_24 mt_X1_heightAt w_m_X1_57 w_in_X1_heightAt w_se_X1_heightAt rfl rfl (Nat.le_of_ble_eq_true rfl) (Nat.le_refl _) (by omega) (by omega) cl_X1.1 e1 hv (fun _ _ q9 => q9) ?_
  rintro _ h5 ⟨z6, rfl, hv⟩ -
  refine j_iload dX1_isSeen_27 rfl ?_
  refine j_isub dX1_isSeen_29 ?_
  refine j_istore dX1_isSeen_30 (by decide) rfl rfl ?_
  refine j_iconst (v := (1 : Int32)) dX1_isSeen_32 (by decide) ?_
  refine j_istore dX1_isSeen_33 (by decide) rfl rfl ?_
  exact hv
