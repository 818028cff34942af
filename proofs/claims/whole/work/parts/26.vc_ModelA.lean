set_option maxRecDepth 20000 in
set_option maxHeartbeats 4000000 in
theorem v_X10_thrown {l : Launch} {d mc ms : Nat} {Q : Option Value → qH → Prop} {QX : String → qH → Prop} (x0 : Nat) {h : qH} (hv : qGI h x0 10 0 (fun z1 => Q (some (.int z1)) h)) : q_Ct l (d + 0) mX10_thrown [.ref x0] h mc ms Q QX := by
  refine q_body (by decide ) (by intro v hm; simp only [List.mem_cons, List.not_mem_nil, or_false] at hm; subst hm; rfl) (Nat.le_of_ble_eq_true rfl) ?_
  refine j_pad 0 rfl ?_
  refine j_aload_n dX10_thrown_0 rfl rfl ?_
  obtain ⟨fs, z1, e1, e2, hv⟩ := hv
  refine j_getf (k := 0) cl_X10 (by decide) w_f_X10_71 dX10_thrown_1 e1 e2 ?_
  exact j_iret dX10_thrown_4 rfl hv
set_option maxRecDepth 20000 in
set_option maxHeartbeats 4000000 in
theorem v_X10_fail {l : Launch} {d mc ms : Nat} {Q : Option Value → qH → Prop} {QX : String → qH → Prop} (x0 : Nat) (x1 : Int32) {h : qH} (hv : qPI h x0 10 0 x1 (fun h1 => Q (some (.int (0 : Int32))) h1)) : q_Ct l (d + 0) mX10_fail [.ref x0, .int x1] h mc ms Q QX := by
  refine q_body (by decide ) (by intro v hm; simp only [List.mem_cons, List.not_mem_nil, or_false] at hm; rcases hm with rfl | rfl <;> rfl) (Nat.le_of_ble_eq_true rfl) ?_
  refine j_pad 0 rfl ?_
  refine j_aload_n dX10_fail_0 rfl rfl ?_
  refine j_iload_n dX10_fail_1 rfl rfl ?_
  obtain ⟨fs, e1, e2, hv⟩ := hv
  refine j_put (k := 0) (ty0 := tyX10) cl_X10 (pf_X10_0) w_f_X10_71 dX10_fail_2 (fun g ad => q_nI g ad _) e1 e2 ?_
  generalize q_set h x0 _ = h1 at hv ⊢
  refine j_iconst (v := (0 : Int32)) dX10_fail_5 (by decide) ?_
  exact j_iret dX10_fail_6 rfl hv
set_option maxRecDepth 20000 in
set_option maxHeartbeats 4000000 in
theorem v_X10_isIn {l : Launch} {d mc ms : Nat} {Q : Option Value → qH → Prop} {QX : String → qH → Prop} (x0 : Int32) (x1 : Int32) (x2 : Int32) {h : qH} (hv : qIF (x0 < x1) (Q (some (.int (0 : Int32))) h) (qIF (x2 < x0) (Q (some (.int (0 : Int32))) h) (Q (some (.int (1 : Int32))) h))) : q_Ct l (d + 0) mX10_isIn [.int x0, .int x1, .int x2] h mc ms Q QX := by
  refine q_body (by decide ) (by intro v hm; simp only [List.mem_cons, List.not_mem_nil, or_false] at hm; rcases hm with rfl | rfl | rfl <;> rfl) (Nat.le_of_ble_eq_true rfl) ?_
  refine j_pad 0 rfl ?_
  refine j_iload_n dX10_isIn_0 rfl rfl ?_
  refine j_iload_n dX10_isIn_1 rfl rfl ?_
  refine j_icmp_lt (tgt := 14) dX10_isIn_2 (by decide) (fun hc => ?_) (fun hc => ?_)
  · replace hv := hv.1 hc
    refine j_iconst (v := (0 : Int32)) dX10_isIn_14 (by decide) ?_
    exact j_zret dX10_isIn_15 rfl (by decide) hv
  · replace hv := hv.2 hc
    refine j_iload_n dX10_isIn_5 rfl rfl ?_
    refine j_iload_n dX10_isIn_6 rfl rfl ?_
    refine j_icmp_gt (tgt := 14) dX10_isIn_7 (by decide) (fun hc => ?_) (fun hc => ?_)
    · replace hv := hv.1 hc
      refine j_iconst (v := (0 : Int32)) dX10_isIn_14 (by decide) ?_
      exact j_zret dX10_isIn_15 rfl (by decide) hv
    · replace hv := hv.2 hc
      refine j_iconst (v := (1 : Int32)) dX10_isIn_10 (by decide) ?_
      refine j_goto (tgt := 15) dX10_isIn_11 (by decide) ?_
      exact j_zret dX10_isIn_15 rfl (by decide) hv
set_option maxRecDepth 20000 in
set_option maxHeartbeats 4000000 in
theorem v_X10_isPlace {l : Launch} {d mc ms : Nat} {Q : Option Value → qH → Prop} {QX : String → qH → Prop} (x0 : Int32) (x1 : Int32) {h : qH} (hv : qCI l (d + 0) mX10_isIn [.int x0, .int (0 : Int32), .int (23 : Int32)] h 0 0 (fun z2 h1 => qIF (z2 = 0) (Q (some (.int (0 : Int32))) h1) (qCI l (d + 0) mX10_isIn [.int x1, .int (0 : Int32), .int (23 : Int32)] h1 0 0 (fun z4 h3 => qIF (z4 = 0) (Q (some (.int (0 : Int32))) h3) (Q (some (.int (1 : Int32))) h3))))) : q_Ct l (d + 1) mX10_isPlace [.int x0, .int x1] h mc ms Q QX := by
  refine q_body (by decide ) (by intro v hm; simp only [List.mem_cons, List.not_mem_nil, or_false] at hm; rcases hm with rfl | rfl <;> rfl) (Nat.le_of_ble_eq_true rfl) ?_
  refine j_pad 0 rfl ?_
  refine j_iload_n dX10_isPlace_0 rfl rfl ?_
  refine j_iconst (v := (0 : Int32)) dX10_isPlace_1 (by decide) ?_
  refine j_bipush (v := (23 : Int32)) dX10_isPlace_2 (by decide) ?_
  refine j_static (avs := [.int x0, .int (0 : Int32), .int (23 : Int32)]) (rest := []) (kc' := mc) (ks' := ms) dX10_isPlace_4 mt_X10_isIn w_m_X10_74 w_st_X10_isIn rfl rfl (Nat.le_of_ble_eq_true rfl) (Nat.le_refl _) (by omega) (by omega) hv (fun _ _ q9 => q9) ?_
  rintro _ h1 ⟨z2, rfl, hv⟩ -
  refine j_if_eq (tgt := 24) dX10_isPlace_7 (by decide) (fun hc => ?_) (fun hc => ?_)
  · replace hv := hv.1 hc
    refine j_iconst (v := (0 : Int32)) dX10_isPlace_24 (by decide) ?_
    exact j_zret dX10_isPlace_25 rfl (by decide) hv
  · replace hv := hv.2 hc
    refine j_iload_n dX10_isPlace_10 rfl rfl ?_
    refine j_iconst (v := (0 : Int32)) dX10_isPlace_11 (by decide) ?_
    refine j_bipush (v := (23 : Int32)) dX10_isPlace_12 (by decide) ?_
    refine j_static (avs := [.int x1, .int (0 : Int32), .int (23 : Int32)]) (rest := []) (kc' := mc) (ks' := ms) dX10_isPlace_14 mt_X10_isIn w_m_X10_74 w_st_X10_isIn rfl rfl (Nat.le_of_ble_eq_true rfl) (Nat.le_refl _) (by omega) (by omega) hv (fun _ _ q9 => q9) ?_
    rintro _ h3 ⟨z4, rfl, hv⟩ -
    refine j_if_eq (tgt := 24) dX10_isPlace_17 (by decide) (fun hc => ?_) (fun hc => ?_)
    · replace hv := hv.1 hc
      refine j_iconst (v := (0 : Int32)) dX10_isPlace_24 (by decide) ?_
      exact j_zret dX10_isPlace_25 rfl (by decide) hv
    · replace hv := hv.2 hc
      refine j_iconst (v := (1 : Int32)) dX10_isPlace_20 (by decide) ?_
      refine j_goto (tgt := 25) dX10_isPlace_21 (by decide) ?_
      exact j_zret dX10_isPlace_25 rfl (by decide) hv
set_option maxRecDepth 20000 in
set_option maxHeartbeats 4000000 in
theorem v_X10_at {l : Launch} {d mc ms : Nat} {Q : Option Value → qH → Prop} {QX : String → qH → Prop} (x0 : Int32) (x1 : Int32) {h : qH} (hv : Q (some (.int (((24 : Int32) * x1) + x0))) h) : q_Ct l (d + 0) mX10_at [.int x0, .int x1] h mc ms Q QX := by
  refine q_body (by decide ) (by intro v hm; simp only [List.mem_cons, List.not_mem_nil, or_false] at hm; rcases hm with rfl | rfl <;> rfl) (Nat.le_of_ble_eq_true rfl) ?_
  refine j_pad 0 rfl ?_
  refine j_bipush (v := (24 : Int32)) dX10_at_0 (by decide) ?_
  refine j_iload_n dX10_at_2 rfl rfl ?_
  refine j_imul dX10_at_3 ?_
  refine j_iload_n dX10_at_4 rfl rfl ?_
  refine j_iadd dX10_at_5 ?_
  exact j_iret dX10_at_6 rfl hv
set_option maxRecDepth 20000 in
set_option maxHeartbeats 4000000 in
theorem v_X10_isTarget {l : Launch} {d mc ms : Nat} {Q : Option Value → qH → Prop} {QX : String → qH → Prop} (x0 : Nat) (x1 : Int32) {h : qH} (hv : qGI h x0 10 5 (fun z1 => qCI l (d + 0) mX10_isIn [.int x1, .int (0 : Int32), .int (z1 - (1 : Int32))] h 0 0 (fun z3 h2 => qB z3 (Q (some (.int z3)) h2)))) : q_Ct l (d + 1) mX10_isTarget [.ref x0, .int x1] h mc ms Q QX := by
  refine q_body (by decide ) (by intro v hm; simp only [List.mem_cons, List.not_mem_nil, or_false] at hm; rcases hm with rfl | rfl <;> rfl) (Nat.le_of_ble_eq_true rfl) ?_
  refine j_pad 0 rfl ?_
  refine j_iload_n dX10_isTarget_0 rfl rfl ?_
  refine j_iconst (v := (0 : Int32)) dX10_isTarget_1 (by decide) ?_
  refine j_aload_n dX10_isTarget_2 rfl rfl ?_
  obtain ⟨fs, z1, e1, e2, hv⟩ := hv
  refine j_getf (k := 5) cl_X10 (by decide) w_f_X10_78 dX10_isTarget_3 e1 e2 ?_
  refine j_iconst (v := (1 : Int32)) dX10_isTarget_6 (by decide) ?_
  refine j_isub dX10_isTarget_7 ?_
  refine j_static (avs := [.int x1, .int (0 : Int32), .int (z1 - (1 : Int32))]) (rest := []) (kc' := mc) (ks' := ms) dX10_isTarget_8 mt_X10_isIn w_m_X10_74 w_st_X10_isIn rfl rfl (Nat.le_of_ble_eq_true rfl) (Nat.le_refl _) (by omega) (by omega) hv (fun _ _ q9 => q9) ?_
  rintro _ h2 ⟨z3, rfl, hv⟩ -
  exact j_zret dX10_isTarget_11 rfl hv.1 hv.2
set_option maxRecDepth 20000 in
set_option maxHeartbeats 4000000 in
theorem v_X10_isRectangle {l : Launch} {d mc ms : Nat} {Q : Option Value → qH → Prop} {QX : String → qH → Prop} (x0 : Int32) (x1 : Int32) (x2 : Int32) (x3 : Int32) {h : qH} (hv : qCI l (d + 1) mX10_isPlace [.int x0, .int x2] h 0 0 (fun z2 h1 => qIF (z2 = 0) (Q (some (.int (0 : Int32))) h1) (qCI l (d + 1) mX10_isPlace [.int x1, .int x3] h1 0 0 (fun z4 h3 => qIF (z4 = 0) (Q (some (.int (0 : Int32))) h3) (qIF (x1 < x0) (Q (some (.int (0 : Int32))) h3) (qIF (x3 < x2) (Q (some (.int (0 : Int32))) h3) (Q (some (.int (1 : Int32))) h3))))))) : q_Ct l (d + 2) mX10_isRectangle [.int x0, .int x1, .int x2, .int x3] h mc ms Q QX := by
  refine q_body (by decide ) (by intro v hm; simp only [List.mem_cons, List.not_mem_nil, or_false] at hm; rcases hm with rfl | rfl | rfl | rfl <;> rfl) (Nat.le_of_ble_eq_true rfl) ?_
  refine j_pad 0 rfl ?_
  refine j_iload_n dX10_isRectangle_0 rfl rfl ?_
  refine j_iload_n dX10_isRectangle_1 rfl rfl ?_
  refine j_static (avs := [.int x0, .int x2]) (rest := []) (kc' := mc) (ks' := ms) dX10_isRectangle_2 mt_X10_isPlace w_m_X10_81 w_st_X10_isPlace rfl rfl (Nat.le_of_ble_eq_true rfl) (Nat.le_refl _) (by omega) (by omega) hv (fun _ _ q9 => q9) ?_
  rintro _ h1 ⟨z2, rfl, hv⟩ -
  refine j_if_eq (tgt := 30) dX10_isRectangle_5 (by decide) (fun hc => ?_) (fun hc => ?_)
  · replace hv := hv.1 hc
    refine j_iconst (v := (0 : Int32)) dX10_isRectangle_30 (by decide) ?_
    exact j_zret dX10_isRectangle_31 rfl (by decide) hv
  · replace hv := hv.2 hc
    refine j_iload_n dX10_isRectangle_8 rfl rfl ?_
    refine j_iload_n dX10_isRectangle_9 rfl rfl ?_
    refine j_static (avs := [.int x1, .int x3]) (rest := []) (kc' := mc) (ks' := ms) dX10_isRectangle_10 mt_X10_isPlace w_m_X10_81 w_st_X10_isPlace rfl rfl (Nat.le_of_ble_eq_true rfl) (Nat.le_refl _) (by omega) (by omega) hv (fun _ _ q9 => q9) ?_
    rintro _ h3 ⟨z4, rfl, hv⟩ -
    refine j_if_eq (tgt := 30) dX10_isRectangle_13 (by decide) (fun hc => ?_) (fun hc => ?_)
    · replace hv := hv.1 hc
      refine j_iconst (v := (0 : Int32)) dX10_isRectangle_30 (by decide) ?_
      exact j_zret dX10_isRectangle_31 rfl (by decide) hv
    · replace hv := hv.2 hc
      refine j_iload_n dX10_isRectangle_16 rfl rfl ?_
      refine j_iload_n dX10_isRectangle_17 rfl rfl ?_
      refine j_icmp_gt (tgt := 30) dX10_isRectangle_18 (by decide) (fun hc => ?_) (fun hc => ?_)
      · replace hv := hv.1 hc
        refine j_iconst (v := (0 : Int32)) dX10_isRectangle_30 (by decide) ?_
        exact j_zret dX10_isRectangle_31 rfl (by decide) hv
      · replace hv := hv.2 hc
        refine j_iload_n dX10_isRectangle_21 rfl rfl ?_
        refine j_iload_n dX10_isRectangle_22 rfl rfl ?_
        refine j_icmp_gt (tgt := 30) dX10_isRectangle_23 (by decide) (fun hc => ?_) (fun hc => ?_)
        · replace hv := hv.1 hc
          refine j_iconst (v := (0 : Int32)) dX10_isRectangle_30 (by decide) ?_
          exact j_zret dX10_isRectangle_31 rfl (by decide) hv
        · replace hv := hv.2 hc
          refine j_iconst (v := (1 : Int32)) dX10_isRectangle_26 (by decide) ?_
          refine j_goto (tgt := 31) dX10_isRectangle_27 (by decide) ?_
          exact j_zret dX10_isRectangle_31 rfl (by decide) hv
set_option maxRecDepth 20000 in
set_option maxHeartbeats 4000000 in
theorem v_X10_raise_123 {l : Launch} {d mc ms n0 kc ks : Nat} {Q : Option Value → qH → Prop} {QX : String → qH → Prop} (x0 : Nat) (x1 : Int32) (x2 : Int32) (x3 : Int32) (x4 : Int32) (x5 : Int32) (x6 : Int32) (x7 : Int32) (x8 : Int32) {h : qH} (hv : qIF (x2 < x8) (q_J l (d + 3) mX10_raise mc ms Q QX n0 113 [some (.ref x0), some (.int x1), some (.int x2), some (.int x3), some (.int x4), some (.int x5), some (.int x6), some (.int (x7 + (1 : Int32))), none, none, none] [] h kc ks) (qGR h x0 10 1 (fun r1 => qCI l (d + 2) mX10_at [.int x8, .int x7] h 0 0 (fun z3 h2 => qAL h2 r1 z3 (fun z4 => qAS h2 r1 z3 (z4 + x5) (fun h5 => q_J l (d + 3) mX10_raise mc ms Q QX n0 123 [some (.ref x0), some (.int x1), some (.int x2), some (.int x3), some (.int x4), some (.int x5), some (.int x6), some (.int x7), some (.int (x8 + (1 : Int32))), none, none] [] h5 kc ks)))))) : q_J l (d + 3) mX10_raise mc ms Q QX n0 123 [some (.ref x0), some (.int x1), some (.int x2), some (.int x3), some (.int x4), some (.int x5), some (.int x6), some (.int x7), some (.int x8), none, none] [] h kc ks := by
  refine j_iload dX10_raise_123 rfl ?_
  refine j_iload_n dX10_raise_125 rfl rfl ?_
  refine j_icmp_gt (tgt := 152) dX10_raise_126 (by decide) (fun hc => ?_) (fun hc => ?_)
  · replace hv := hv.1 hc
    refine j_iinc (w := (x7 + (1 : Int32))) dX10_raise_152 rfl (by rfl) (by decide) rfl rfl ?_
    refine j_goto (tgt := 113) dX10_raise_155 (by decide) ?_
    refine j_mask [true, true, true, true, true, true, true, true, false, true, true] rfl ?_
    exact hv
  · replace hv := hv.2 hc
    refine j_aload_n dX10_raise_129 rfl rfl ?_
    obtain ⟨fs, r1, e1, e2, hv⟩ := hv
    refine j_getf (k := 1) cl_X10 (by decide) w_f_X10_9 dX10_raise_130 e1 e2 ?_
    refine j_iload dX10_raise_133 rfl ?_
    refine j_iload dX10_raise_135 rfl ?_
    refine j_static (avs := [.int x8, .int x7]) (rest := [.ref r1]) (kc' := kc) (ks' := ks) dX10_raise_137 mt_X10_at w_m_X10_93 w_st_X10_at rfl rfl (Nat.le_of_ble_eq_true rfl) (Nat.le_refl _) (by omega) (by omega) hv (fun _ _ q9 => q9) ?_
    rintro _ h2 ⟨z3, rfl, hv⟩ -
    refine j_dup2 dX10_raise_140 rfl rfl ?_
    obtain ⟨N, f, e1, e2, hv⟩ := hv
    refine j_iald dX10_raise_141 e1 e2 ?_
    generalize f _ = z4 at hv ⊢
    refine j_iload dX10_raise_142 rfl ?_
    refine j_iadd dX10_raise_144 ?_
    obtain ⟨N, f, e1, e2, hv⟩ := hv
    refine j_iast dX10_raise_145 e1 e2 ?_
    generalize q_set h2 r1 _ = h5 at hv ⊢
    refine j_iinc (w := (x8 + (1 : Int32))) dX10_raise_146 rfl (by rfl) (by decide) rfl rfl ?_
    refine j_goto (tgt := 123) dX10_raise_149 (by decide) ?_
    exact hv
set_option maxRecDepth 20000 in
set_option maxHeartbeats 4000000 in
theorem v_X10_raise_113 {l : Launch} {d mc ms n0 kc ks : Nat} {Q : Option Value → qH → Prop} {QX : String → qH → Prop} (x0 : Nat) (x1 : Int32) (x2 : Int32) (x3 : Int32) (x4 : Int32) (x5 : Int32) (x6 : Int32) (x7 : Int32) {h : qH} (hv : qIF (x4 < x7) (Q (some (.int x6)) h) (q_J l (d + 3) mX10_raise mc ms Q QX n0 123 [some (.ref x0), some (.int x1), some (.int x2), some (.int x3), some (.int x4), some (.int x5), some (.int x6), some (.int x7), some (.int x1), none, none] [] h kc ks)) : q_J l (d + 3) mX10_raise mc ms Q QX n0 113 [some (.ref x0), some (.int x1), some (.int x2), some (.int x3), some (.int x4), some (.int x5), some (.int x6), some (.int x7), none, none, none] [] h kc ks := by
  refine j_iload dX10_raise_113 rfl ?_
  refine j_iload dX10_raise_115 rfl ?_
  refine j_icmp_gt (tgt := 158) dX10_raise_117 (by decide) (fun hc => ?_) (fun hc => ?_)
  · replace hv := hv.1 hc
    refine j_iload dX10_raise_158 rfl ?_
    exact j_iret dX10_raise_160 rfl hv
  · replace hv := hv.2 hc
    refine j_iload_n dX10_raise_120 rfl rfl ?_
    refine j_istore dX10_raise_121 (by decide) rfl rfl ?_
    exact hv
set_option maxRecDepth 20000 in
set_option maxHeartbeats 4000000 in
theorem v_X10_raise_39 {l : Launch} {d mc ms n0 kc ks : Nat} {Q : Option Value → qH → Prop} {QX : String → qH → Prop} (x0 : Nat) (x1 : Int32) (x2 : Int32) (x3 : Int32) (x4 : Int32) (x5 : Int32) (x6 : Int32) (x7 : Int32) (x8 : Int32) {h : qH} (hv : qIF (x2 < x8) (q_J l (d + 3) mX10_raise mc ms Q QX n0 29 [some (.ref x0), some (.int x1), some (.int x2), some (.int x3), some (.int x4), some (.int x5), some (.int x6), some (.int (x7 + (1 : Int32))), none, none, none] [] h kc ks) (qGR h x0 10 1 (fun r1 => qCI l (d + 2) mX10_at [.int x8, .int x7] h 0 0 (fun z3 h2 => qAL h2 r1 z3 (fun z4 => qIF ((lg_cmp ((Int32.toInt64 z4) + (Int32.toInt64 x5)) (-99 : Int64)) < 0) (qOB h2 x0 10 (qCI l (d + 2) mX10_fail [.ref x0, .int (1 : Int32)] h2 0 0 (fun z6 h5 => Q (some (.int z6)) h5))) (qIF ((lg_cmp ((Int32.toInt64 z4) + (Int32.toInt64 x5)) (99 : Int64)) ≤ 0) (q_J l (d + 3) mX10_raise mc ms Q QX n0 39 [some (.ref x0), some (.int x1), some (.int x2), some (.int x3), some (.int x4), some (.int x5), some (.int (if x6 < (Int64.toInt32 ((Int32.toInt64 z4) + (Int32.toInt64 x5))) then (Int64.toInt32 ((Int32.toInt64 z4) + (Int32.toInt64 x5))) else x6)), some (.int x7), some (.int (x8 + (1 : Int32))), none, none] [] h2 kc ks) (qOB h2 x0 10 (qCI l (d + 2) mX10_fail [.ref x0, .int (1 : Int32)] h2 0 0 (fun z9 h8 => Q (some (.int z9)) h8))))))))) : q_J l (d + 3) mX10_raise mc ms Q QX n0 39 [some (.ref x0), some (.int x1), some (.int x2), some (.int x3), some (.int x4), some (.int x5), some (.int x6), some (.int x7), some (.int x8), none, none] [] h kc ks := by
  refine j_iload dX10_raise_39 rfl ?_
  refine j_iload_n dX10_raise_41 rfl rfl ?_
  refine j_icmp_gt (tgt := 104) dX10_raise_42 (by decide) (fun hc => ?_) (fun hc => ?_)
  · replace hv := hv.1 hc
    refine j_iinc (w := (x7 + (1 : Int32))) dX10_raise_104 rfl (by rfl) (by decide) rfl rfl ?_
    refine j_goto (tgt := 29) dX10_raise_107 (by decide) ?_
    refine j_mask [true, true, true, true, true, true, true, true, false, true, true] rfl ?_
    exact hv
  · replace hv := hv.2 hc
    refine j_aload_n dX10_raise_45 rfl rfl ?_
    obtain ⟨fs, r1, e1, e2, hv⟩ := hv
    refine j_getf (k := 1) cl_X10 (by decide) w_f_X10_9 dX10_raise_46 e1 e2 ?_
    refine j_iload dX10_raise_49 rfl ?_
    refine j_iload dX10_raise_51 rfl ?_
    refine j_static (avs := [.int x8, .int x7]) (rest := [.ref r1]) (kc' := kc) (ks' := ks) dX10_raise_53 mt_X10_at w_m_X10_93 w_st_X10_at rfl rfl (Nat.le_of_ble_eq_true rfl) (Nat.le_refl _) (by omega) (by omega) hv (fun _ _ q9 => q9) ?_
    rintro _ h2 ⟨z3, rfl, hv⟩ -
    obtain ⟨N, f, e1, e2, hv⟩ := hv
    refine j_iald dX10_raise_56 e1 e2 ?_
    generalize f _ = z4 at hv ⊢
    refine j_i2l dX10_raise_57 ?_
    refine j_iload dX10_raise_58 rfl ?_
    refine j_i2l dX10_raise_60 ?_
    refine j_ladd dX10_raise_61 ?_
    refine j_lstore dX10_raise_62 (by decide) rfl rfl ?_
    refine j_lload dX10_raise_64 rfl ?_
    refine j_ldc2 (v := (-99 : Int64)) dX10_raise_66 w_cL_X10_97 ?_
    refine j_lcmp dX10_raise_69 ?_
    refine j_if_lt (tgt := 82) dX10_raise_70 (by decide) (fun hc => ?_) (fun hc => ?_)
    · replace hv := hv.1 hc
      refine j_aload_n dX10_raise_82 rfl rfl ?_
      refine j_iconst (v := (1 : Int32)) dX10_raise_83 (by decide) ?_
      obtain ⟨⟨fs, e1⟩, hv⟩ := hv
      refine j_virtual (avs := [.int (1 : Int32)]) (rest := []) (i := x0) (kc' := kc) (ks' := ks) dX10_raise_84 mt_X10_fail w_m_X10_89 w_in_X10_fail w_se_X10_fail rfl rfl (Nat.le_of_ble_eq_true rfl) (Nat.le_refl _) (by omega) (by omega) cl_X10.1 e1 hv (fun _ _ q9 => q9) ?_
      rintro _ h5 ⟨z6, rfl, hv⟩ -
      exact j_iret dX10_raise_87 rfl hv
    · replace hv := hv.2 hc
      refine j_lload dX10_raise_73 rfl ?_
      refine j_ldc2 (v := (99 : Int64)) dX10_raise_75 w_cL_X10_99 ?_
      refine j_lcmp dX10_raise_78 ?_
      refine j_if_le (tgt := 88) dX10_raise_79 (by decide) (fun hc => ?_) (fun hc => ?_)
      · replace hv := hv.1 hc
        refine j_iload dX10_raise_88 rfl ?_
        refine j_lload dX10_raise_90 rfl ?_
        refine j_l2i dX10_raise_92 ?_
        refine j_mmax dX10_raise_93 w_m_X10_101 w_st_max w_ini_Math w_co_max (Nat.le_of_ble_eq_true rfl) (by omega) ?_
        refine j_istore dX10_raise_96 (by decide) rfl rfl ?_
        refine j_iinc (w := (x8 + (1 : Int32))) dX10_raise_98 rfl (by rfl) (by decide) rfl rfl ?_
        refine j_goto (tgt := 39) dX10_raise_101 (by decide) ?_
        refine j_mask [true, true, true, true, true, true, true, true, true, false, true] rfl ?_
        exact hv
      · replace hv := hv.2 hc
        refine j_aload_n dX10_raise_82 rfl rfl ?_
        refine j_iconst (v := (1 : Int32)) dX10_raise_83 (by decide) ?_
        obtain ⟨⟨fs, e1⟩, hv⟩ := hv
        refine j_virtual (avs := [.int (1 : Int32)]) (rest := []) (i := x0) (kc' := kc) (ks' := ks) dX10_raise_84 mt_X10_fail w_m_X10_89 w_in_X10_fail w_se_X10_fail rfl rfl (Nat.le_of_ble_eq_true rfl) (Nat.le_refl _) (by omega) (by omega) cl_X10.1 e1 hv (fun _ _ q9 => q9) ?_
        rintro _ h8 ⟨z9, rfl, hv⟩ -
        exact j_iret dX10_raise_87 rfl hv
set_option maxRecDepth 20000 in
set_option maxHeartbeats 4000000 in
theorem v_X10_raise_29 {l : Launch} {d mc ms n0 kc ks : Nat} {Q : Option Value → qH → Prop} {QX : String → qH → Prop} (x0 : Nat) (x1 : Int32) (x2 : Int32) (x3 : Int32) (x4 : Int32) (x5 : Int32) (x6 : Int32) (x7 : Int32) {h : qH} (hv : qIF (x4 < x7) (q_J l (d + 3) mX10_raise mc ms Q QX n0 113 [some (.ref x0), some (.int x1), some (.int x2), some (.int x3), some (.int x4), some (.int x5), some (.int x6), some (.int x3), none, none, none] [] h kc ks) (q_J l (d + 3) mX10_raise mc ms Q QX n0 39 [some (.ref x0), some (.int x1), some (.int x2), some (.int x3), some (.int x4), some (.int x5), some (.int x6), some (.int x7), some (.int x1), none, none] [] h kc ks)) : q_J l (d + 3) mX10_raise mc ms Q QX n0 29 [some (.ref x0), some (.int x1), some (.int x2), some (.int x3), some (.int x4), some (.int x5), some (.int x6), some (.int x7), none, none, none] [] h kc ks := by
  refine j_iload dX10_raise_29 rfl ?_
  refine j_iload dX10_raise_31 rfl ?_
  refine j_icmp_gt (tgt := 110) dX10_raise_33 (by decide) (fun hc => ?_) (fun hc => ?_)
  · replace hv := hv.1 hc
    refine j_iload_n dX10_raise_110 rfl rfl ?_
    refine j_istore dX10_raise_111 (by decide) rfl rfl ?_
    exact hv
  · replace hv := hv.2 hc
    refine j_iload_n dX10_raise_36 rfl rfl ?_
    refine j_istore dX10_raise_37 (by decide) rfl rfl ?_
    exact hv
set_option maxRecDepth 20000 in
set_option maxHeartbeats 4000000 in
theorem v_X10_raise {l : Launch} {d mc ms : Nat} {Q : Option Value → qH → Prop} {QX : String → qH → Prop} (x0 : Nat) (x1 : Int32) (x2 : Int32) (x3 : Int32) (x4 : Int32) (x5 : Int32) {h : qH} (hv : qPI h x0 10 0 (0 : Int32) (fun h1 => qCI l (d + 2) mX10_isRectangle [.int x1, .int x2, .int x3, .int x4] h1 0 0 (fun z3 h2 => qIF (z3 = 0) (qOB h2 x0 10 (qCI l (d + 2) mX10_fail [.ref x0, .int (1 : Int32)] h2 0 0 (fun z5 h4 => Q (some (.int z5)) h4))) (q_J l (d + 3) mX10_raise mc ms Q QX h.2 29 [some (.ref x0), some (.int x1), some (.int x2), some (.int x3), some (.int x4), some (.int x5), some (.int (-100 : Int32)), some (.int x3), none, none, none] [] h2 mc ms)))) : q_Ct l (d + 3) mX10_raise [.ref x0, .int x1, .int x2, .int x3, .int x4, .int x5] h mc ms Q QX := by
  refine q_body (by decide ) (by intro v hm; simp only [List.mem_cons, List.not_mem_nil, or_false] at hm; rcases hm with rfl | rfl | rfl | rfl | rfl | rfl <;> rfl) (Nat.le_of_ble_eq_true rfl) ?_
  refine j_pad 5 rfl ?_
  refine j_aload_n dX10_raise_0 rfl rfl ?_
  refine j_iconst (v := (0 : Int32)) dX10_raise_1 (by decide) ?_
  obtain ⟨fs, e1, e2, hv⟩ := hv
  refine j_put (k := 0) (ty0 := tyX10) cl_X10 (pf_X10_0) w_f_X10_71 dX10_raise_2 (fun g ad => q_nI g ad _) e1 e2 ?_
  generalize q_set h x0 _ = h1 at hv ⊢
  refine j_iload_n dX10_raise_5 rfl rfl ?_
  refine j_iload_n dX10_raise_6 rfl rfl ?_
  refine j_iload_n dX10_raise_7 rfl rfl ?_
  refine j_iload dX10_raise_8 rfl ?_
  refine j_static (avs := [.int x1, .int x2, .int x3, .int x4]) (rest := []) (kc' := mc) (ks' := ms) dX10_raise_10 mt_X10_isRectangle w_m_X10_85 w_st_X10_isRectangle rfl rfl (Nat.le_of_ble_eq_true rfl) (Nat.le_refl _) (by omega) (by omega) hv (fun _ _ q9 => q9) ?_
  rintro _ h2 ⟨z3, rfl, hv⟩ -
  refine j_if_ne (tgt := 22) dX10_raise_13 (by decide) (fun hc => ?_) (fun hc => ?_)
  · replace hv := hv.2 hc
    refine j_bipush (v := (-100 : Int32)) dX10_raise_22 (by decide) ?_
    refine j_istore dX10_raise_24 (by decide) rfl rfl ?_
    refine j_iload_n dX10_raise_26 rfl rfl ?_
    refine j_istore dX10_raise_27 (by decide) rfl rfl ?_
    exact hv
  · replace hv := hv.1 hc
    refine j_aload_n dX10_raise_16 rfl rfl ?_
    refine j_iconst (v := (1 : Int32)) dX10_raise_17 (by decide) ?_
    obtain ⟨⟨fs, e1⟩, hv⟩ := hv
    refine j_virtual (avs := [.int (1 : Int32)]) (rest := []) (i := x0) (kc' := mc) (ks' := ms) dX10_raise_18 mt_X10_fail w_m_X10_89 w_in_X10_fail w_se_X10_fail rfl rfl (Nat.le_of_ble_eq_true rfl) (Nat.le_refl _) (by omega) (by omega) cl_X10.1 e1 hv (fun _ _ q9 => q9) ?_
    rintro _ h4 ⟨z5, rfl, hv⟩ -
    exact j_iret dX10_raise_21 rfl hv
set_option maxRecDepth 20000 in
set_option maxHeartbeats 4000000 in
theorem v_X10_pave_45 {l : Launch} {d mc ms n0 kc ks : Nat} {Q : Option Value → qH → Prop} {QX : String → qH → Prop} (x0 : Nat) (x1 : Int32) (x2 : Int32) (x3 : Int32) (x4 : Int32) (x5 : Int32) (x6 : Int32) (x7 : Int32) (x8 : Int32) {h : qH} (hv : qIF (x2 < x8) (q_J l (d + 3) mX10_pave mc ms Q QX n0 35 [some (.ref x0), some (.int x1), some (.int x2), some (.int x3), some (.int x4), some (.int x5), some (.int x6), some (.int (x7 + (1 : Int32))), none] [] h kc ks) (qGR h x0 10 2 (fun r1 => qCI l (d + 2) mX10_at [.int x8, .int x7] h 0 0 (fun z3 h2 => qAS h2 r1 z3 x5 (fun h4 => qGR h4 x0 10 3 (fun r5 => qCI l (d + 2) mX10_at [.int x8, .int x7] h4 0 0 (fun z7 h6 => qZS h6 r5 z7 x6 (fun h8 => q_J l (d + 3) mX10_pave mc ms Q QX n0 45 [some (.ref x0), some (.int x1), some (.int x2), some (.int x3), some (.int x4), some (.int x5), some (.int x6), some (.int x7), some (.int (x8 + (1 : Int32)))] [] h8 kc ks)))))))) : q_J l (d + 3) mX10_pave mc ms Q QX n0 45 [some (.ref x0), some (.int x1), some (.int x2), some (.int x3), some (.int x4), some (.int x5), some (.int x6), some (.int x7), some (.int x8)] [] h kc ks := by
  refine j_iload dX10_pave_45 rfl ?_
  refine j_iload_n dX10_pave_47 rfl rfl ?_
  refine j_icmp_gt (tgt := 85) dX10_pave_48 (by decide) (fun hc => ?_) (fun hc => ?_)
  · replace hv := hv.1 hc
    refine j_iinc (w := (x7 + (1 : Int32))) dX10_pave_85 rfl (by rfl) (by decide) rfl rfl ?_
    refine j_goto (tgt := 35) dX10_pave_88 (by decide) ?_
    refine j_mask [true, true, true, true, true, true, true, true, false] rfl ?_
    exact hv
  · replace hv := hv.2 hc
    refine j_aload_n dX10_pave_51 rfl rfl ?_
    obtain ⟨fs, r1, e1, e2, hv⟩ := hv
    refine j_getf (k := 2) cl_X10 (by decide) w_f_X10_13 dX10_pave_52 e1 e2 ?_
    refine j_iload dX10_pave_55 rfl ?_
    refine j_iload dX10_pave_57 rfl ?_
    refine j_static (avs := [.int x8, .int x7]) (rest := [.ref r1]) (kc' := kc) (ks' := ks) dX10_pave_59 mt_X10_at w_m_X10_93 w_st_X10_at rfl rfl (Nat.le_of_ble_eq_true rfl) (Nat.le_refl _) (by omega) (by omega) hv (fun _ _ q9 => q9) ?_
    rintro _ h2 ⟨z3, rfl, hv⟩ -
    refine j_iload dX10_pave_62 rfl ?_
    obtain ⟨N, f, e1, e2, hv⟩ := hv
    refine j_iast dX10_pave_64 e1 e2 ?_
    generalize q_set h2 r1 _ = h4 at hv ⊢
    refine j_aload_n dX10_pave_65 rfl rfl ?_
    obtain ⟨fs, r5, e1, e2, hv⟩ := hv
    refine j_getf (k := 3) cl_X10 (by decide) w_f_X10_16 dX10_pave_66 e1 e2 ?_
    refine j_iload dX10_pave_69 rfl ?_
    refine j_iload dX10_pave_71 rfl ?_
    refine j_static (avs := [.int x8, .int x7]) (rest := [.ref r5]) (kc' := kc) (ks' := ks) dX10_pave_73 mt_X10_at w_m_X10_93 w_st_X10_at rfl rfl (Nat.le_of_ble_eq_true rfl) (Nat.le_refl _) (by omega) (by omega) hv (fun _ _ q9 => q9) ?_
    rintro _ h6 ⟨z7, rfl, hv⟩ -
    refine j_iload dX10_pave_76 rfl ?_
    obtain ⟨hz, N, f, e1, e2, hv⟩ := hv
    refine j_zast dX10_pave_78 e1 e2 hz ?_
    generalize q_set h6 r5 _ = h8 at hv ⊢
    refine j_iinc (w := (x8 + (1 : Int32))) dX10_pave_79 rfl (by rfl) (by decide) rfl rfl ?_
    refine j_goto (tgt := 45) dX10_pave_82 (by decide) ?_
    exact hv
set_option maxRecDepth 20000 in
set_option maxHeartbeats 4000000 in
theorem v_X10_pave_35 {l : Launch} {d mc ms n0 kc ks : Nat} {Q : Option Value → qH → Prop} {QX : String → qH → Prop} (x0 : Nat) (x1 : Int32) (x2 : Int32) (x3 : Int32) (x4 : Int32) (x5 : Int32) (x6 : Int32) (x7 : Int32) {h : qH} (hv : qIF (x4 < x7) (Q (some (.int (((x2 - x1) + (1 : Int32)) * ((x4 - x3) + (1 : Int32))))) h) (q_J l (d + 3) mX10_pave mc ms Q QX n0 45 [some (.ref x0), some (.int x1), some (.int x2), some (.int x3), some (.int x4), some (.int x5), some (.int x6), some (.int x7), some (.int x1)] [] h kc ks)) : q_J l (d + 3) mX10_pave mc ms Q QX n0 35 [some (.ref x0), some (.int x1), some (.int x2), some (.int x3), some (.int x4), some (.int x5), some (.int x6), some (.int x7), none] [] h kc ks := by
  refine j_iload dX10_pave_35 rfl ?_
  refine j_iload dX10_pave_37 rfl ?_
  refine j_icmp_gt (tgt := 91) dX10_pave_39 (by decide) (fun hc => ?_) (fun hc => ?_)
  · replace hv := hv.1 hc
    refine j_iload_n dX10_pave_91 rfl rfl ?_
    refine j_iload_n dX10_pave_92 rfl rfl ?_
    refine j_isub dX10_pave_93 ?_
    refine j_iconst (v := (1 : Int32)) dX10_pave_94 (by decide) ?_
    refine j_iadd dX10_pave_95 ?_
    refine j_iload dX10_pave_96 rfl ?_
    refine j_iload_n dX10_pave_98 rfl rfl ?_
    refine j_isub dX10_pave_99 ?_
    refine j_iconst (v := (1 : Int32)) dX10_pave_100 (by decide) ?_
    refine j_iadd dX10_pave_101 ?_
    refine j_imul dX10_pave_102 ?_
    exact j_iret dX10_pave_103 rfl hv
  · replace hv := hv.2 hc
    refine j_iload_n dX10_pave_42 rfl rfl ?_
    refine j_istore dX10_pave_43 (by decide) rfl rfl ?_
    exact hv
set_option maxRecDepth 20000 in
set_option maxHeartbeats 4000000 in
theorem v_X10_pave {l : Launch} {d mc ms : Nat} {Q : Option Value → qH → Prop} {QX : String → qH → Prop} (x0 : Nat) (x1 : Int32) (x2 : Int32) (x3 : Int32) (x4 : Int32) (x5 : Int32) (x6 : Int32) {h : qH} (hv : qPI h x0 10 0 (0 : Int32) (fun h1 => qCI l (d + 2) mX10_isRectangle [.int x1, .int x2, .int x3, .int x4] h1 0 0 (fun z3 h2 => qIF (z3 = 0) (qOB h2 x0 10 (qCI l (d + 2) mX10_fail [.ref x0, .int (1 : Int32)] h2 0 0 (fun z5 h4 => Q (some (.int z5)) h4))) (qCI l (d + 2) mX10_isIn [.int x5, .int (0 : Int32), .int (3 : Int32)] h2 0 0 (fun z7 h6 => qIF (z7 = 0) (qOB h6 x0 10 (qCI l (d + 2) mX10_fail [.ref x0, .int (1 : Int32)] h6 0 0 (fun z9 h8 => Q (some (.int z9)) h8))) (q_J l (d + 3) mX10_pave mc ms Q QX h.2 35 [some (.ref x0), some (.int x1), some (.int x2), some (.int x3), some (.int x4), some (.int x5), some (.int x6), some (.int x3), none] [] h6 mc ms)))))) : q_Ct l (d + 3) mX10_pave [.ref x0, .int x1, .int x2, .int x3, .int x4, .int x5, .int x6] h mc ms Q QX := by
  refine q_body (by decide ) (by intro v hm; simp only [List.mem_cons, List.not_mem_nil, or_false] at hm; rcases hm with rfl | rfl | rfl | rfl | rfl | rfl | rfl <;> rfl) (Nat.le_of_ble_eq_true rfl) ?_
  refine j_pad 2 rfl ?_
  refine j_aload_n dX10_pave_0 rfl rfl ?_
  refine j_iconst (v := (0 : Int32)) dX10_pave_1 (by decide) ?_
  obtain ⟨fs, e1, e2, hv⟩ := hv
  refine j_put (k := 0) (ty0 := tyX10) cl_X10 (pf_X10_0) w_f_X10_71 dX10_pave_2 (fun g ad => q_nI g ad _) e1 e2 ?_
  generalize q_set h x0 _ = h1 at hv ⊢
  refine j_iload_n dX10_pave_5 rfl rfl ?_
  refine j_iload_n dX10_pave_6 rfl rfl ?_
  refine j_iload_n dX10_pave_7 rfl rfl ?_
  refine j_iload dX10_pave_8 rfl ?_
  refine j_static (avs := [.int x1, .int x2, .int x3, .int x4]) (rest := []) (kc' := mc) (ks' := ms) dX10_pave_10 mt_X10_isRectangle w_m_X10_85 w_st_X10_isRectangle rfl rfl (Nat.le_of_ble_eq_true rfl) (Nat.le_refl _) (by omega) (by omega) hv (fun _ _ q9 => q9) ?_
  rintro _ h2 ⟨z3, rfl, hv⟩ -
  refine j_if_eq (tgt := 26) dX10_pave_13 (by decide) (fun hc => ?_) (fun hc => ?_)
  · replace hv := hv.1 hc
    refine j_aload_n dX10_pave_26 rfl rfl ?_
    refine j_iconst (v := (1 : Int32)) dX10_pave_27 (by decide) ?_
    obtain ⟨⟨fs, e1⟩, hv⟩ := hv
    refine j_virtual (avs := [.int (1 : Int32)]) (rest := []) (i := x0) (kc' := mc) (ks' := ms) dX10_pave_28 mt_X10_fail w_m_X10_89 w_in_X10_fail w_se_X10_fail rfl rfl (Nat.le_of_ble_eq_true rfl) (Nat.le_refl _) (by omega) (by omega) cl_X10.1 e1 hv (fun _ _ q9 => q9) ?_
    rintro _ h4 ⟨z5, rfl, hv⟩ -
    exact j_iret dX10_pave_31 rfl hv
  · replace hv := hv.2 hc
    refine j_iload dX10_pave_16 rfl ?_
    refine j_iconst (v := (0 : Int32)) dX10_pave_18 (by decide) ?_
    refine j_iconst (v := (3 : Int32)) dX10_pave_19 (by decide) ?_
    refine j_static (avs := [.int x5, .int (0 : Int32), .int (3 : Int32)]) (rest := []) (kc' := mc) (ks' := ms) dX10_pave_20 mt_X10_isIn w_m_X10_74 w_st_X10_isIn rfl rfl (Nat.le_of_ble_eq_true rfl) (Nat.le_refl _) (by omega) (by omega) hv (fun _ _ q9 => q9) ?_
    rintro _ h6 ⟨z7, rfl, hv⟩ -
    refine j_if_ne (tgt := 32) dX10_pave_23 (by decide) (fun hc => ?_) (fun hc => ?_)
    · replace hv := hv.2 hc
      refine j_iload_n dX10_pave_32 rfl rfl ?_
      refine j_istore dX10_pave_33 (by decide) rfl rfl ?_
      exact hv
    · replace hv := hv.1 hc
      refine j_aload_n dX10_pave_26 rfl rfl ?_
      refine j_iconst (v := (1 : Int32)) dX10_pave_27 (by decide) ?_
      obtain ⟨⟨fs, e1⟩, hv⟩ := hv
      refine j_virtual (avs := [.int (1 : Int32)]) (rest := []) (i := x0) (kc' := mc) (ks' := ms) dX10_pave_28 mt_X10_fail w_m_X10_89 w_in_X10_fail w_se_X10_fail rfl rfl (Nat.le_of_ble_eq_true rfl) (Nat.le_refl _) (by omega) (by omega) cl_X10.1 e1 hv (fun _ _ q9 => q9) ?_
      rintro _ h8 ⟨z9, rfl, hv⟩ -
      exact j_iret dX10_pave_31 rfl hv
set_option maxRecDepth 20000 in
set_option maxHeartbeats 4000000 in
theorem v_X10_ground {l : Launch} {d mc ms : Nat} {Q : Option Value → qH → Prop} {QX : String → qH → Prop} (x0 : Nat) (x1 : Int32) (x2 : Int32) (x3 : Int32) {h : qH} (hv : qPI h x0 10 0 (0 : Int32) (fun h1 => qCI l (d + 1) mX10_isPlace [.int x1, .int x2] h1 0 0 (fun z3 h2 => qIF (z3 = 0) (qOB h2 x0 10 (qCI l (d + 1) mX10_fail [.ref x0, .int (1 : Int32)] h2 0 0 (fun z5 h4 => Q (some (.int z5)) h4))) (qCI l (d + 1) mX10_isIn [.int x3, .int (0 : Int32), .int (2 : Int32)] h2 0 0 (fun z7 h6 => qIF (z7 = 0) (qOB h6 x0 10 (qCI l (d + 1) mX10_fail [.ref x0, .int (1 : Int32)] h6 0 0 (fun z17 h16 => Q (some (.int z17)) h16))) (qCI l (d + 1) mX10_at [.int x1, .int x2] h6 0 0 (fun z9 h8 => qIF (x3 = 0) (qGR h8 x0 10 1 (fun r14 => qAL h8 r14 z9 (fun z15 => Q (some (.int z15)) h8))) (qIF (x3 = (1 : Int32)) (qGR h8 x0 10 2 (fun r12 => qAL h8 r12 z9 (fun z13 => Q (some (.int z13)) h8))) (qGR h8 x0 10 3 (fun r10 => qZL h8 r10 z9 (fun z11 => qIF (z11 = 0) (Q (some (.int (0 : Int32))) h8) (Q (some (.int (1 : Int32))) h8)))))))))))) : q_Ct l (d + 2) mX10_ground [.ref x0, .int x1, .int x2, .int x3] h mc ms Q QX := by
  refine q_body (by decide ) (by intro v hm; simp only [List.mem_cons, List.not_mem_nil, or_false] at hm; rcases hm with rfl | rfl | rfl | rfl <;> rfl) (Nat.le_of_ble_eq_true rfl) ?_
  refine j_pad 1 rfl ?_
  refine j_aload_n dX10_ground_0 rfl rfl ?_
  refine j_iconst (v := (0 : Int32)) dX10_ground_1 (by decide) ?_
  obtain ⟨fs, e1, e2, hv⟩ := hv
  refine j_put (k := 0) (ty0 := tyX10) cl_X10 (pf_X10_0) w_f_X10_71 dX10_ground_2 (fun g ad => q_nI g ad _) e1 e2 ?_
  generalize q_set h x0 _ = h1 at hv ⊢
  refine j_iload_n dX10_ground_5 rfl rfl ?_
  refine j_iload_n dX10_ground_6 rfl rfl ?_
  refine j_static (avs := [.int x1, .int x2]) (rest := []) (kc' := mc) (ks' := ms) dX10_ground_7 mt_X10_isPlace w_m_X10_81 w_st_X10_isPlace rfl rfl (Nat.le_of_ble_eq_true rfl) (Nat.le_refl _) (by omega) (by omega) hv (fun _ _ q9 => q9) ?_
  rintro _ h2 ⟨z3, rfl, hv⟩ -
  refine j_if_eq (tgt := 22) dX10_ground_10 (by decide) (fun hc => ?_) (fun hc => ?_)
  · replace hv := hv.1 hc
    refine j_aload_n dX10_ground_22 rfl rfl ?_
    refine j_iconst (v := (1 : Int32)) dX10_ground_23 (by decide) ?_
    obtain ⟨⟨fs, e1⟩, hv⟩ := hv
    refine j_virtual (avs := [.int (1 : Int32)]) (rest := []) (i := x0) (kc' := mc) (ks' := ms) dX10_ground_24 mt_X10_fail w_m_X10_89 w_in_X10_fail w_se_X10_fail rfl rfl (Nat.le_of_ble_eq_true rfl) (Nat.le_refl _) (by omega) (by omega) cl_X10.1 e1 hv (fun _ _ q9 => q9) ?_
    rintro _ h4 ⟨z5, rfl, hv⟩ -
    exact j_iret dX10_ground_27 rfl hv
  · replace hv := hv.2 hc
    refine j_iload_n dX10_ground_13 rfl rfl ?_
    refine j_iconst (v := (0 : Int32)) dX10_ground_14 (by decide) ?_
    refine j_iconst (v := (2 : Int32)) dX10_ground_15 (by decide) ?_
    refine j_static (avs := [.int x3, .int (0 : Int32), .int (2 : Int32)]) (rest := []) (kc' := mc) (ks' := ms) dX10_ground_16 mt_X10_isIn w_m_X10_74 w_st_X10_isIn rfl rfl (Nat.le_of_ble_eq_true rfl) (Nat.le_refl _) (by omega) (by omega) hv (fun _ _ q9 => q9) ?_
    rintro _ h6 ⟨z7, rfl, hv⟩ -
    refine j_if_ne (tgt := 28) dX10_ground_19 (by decide) (fun hc => ?_) (fun hc => ?_)
    · replace hv := hv.2 hc
      refine j_iload_n dX10_ground_28 rfl rfl ?_
      refine j_iload_n dX10_ground_29 rfl rfl ?_
      refine j_static (avs := [.int x1, .int x2]) (rest := []) (kc' := mc) (ks' := ms) dX10_ground_30 mt_X10_at w_m_X10_93 w_st_X10_at rfl rfl (Nat.le_of_ble_eq_true rfl) (Nat.le_refl _) (by omega) (by omega) hv (fun _ _ q9 => q9) ?_
      rintro _ h8 ⟨z9, rfl, hv⟩ -
      refine j_istore dX10_ground_33 (by decide) rfl rfl ?_
      refine j_iload_n dX10_ground_35 rfl rfl ?_
      refine j_if_ne (tgt := 49) dX10_ground_36 (by decide) (fun hc => ?_) (fun hc => ?_)
      · replace hv := hv.2 hc
        refine j_iload_n dX10_ground_49 rfl rfl ?_
        refine j_iconst (v := (1 : Int32)) dX10_ground_50 (by decide) ?_
        refine j_icmp_ne (tgt := 64) dX10_ground_51 (by decide) (fun hc => ?_) (fun hc => ?_)
        · replace hv := hv.2 hc
          refine j_aload_n dX10_ground_64 rfl rfl ?_
          obtain ⟨fs, r10, e1, e2, hv⟩ := hv
          refine j_getf (k := 3) cl_X10 (by decide) w_f_X10_16 dX10_ground_65 e1 e2 ?_
          refine j_iload dX10_ground_68 rfl ?_
          obtain ⟨N, f, e1, e2, hv⟩ := hv
          refine j_zald dX10_ground_70 e1 e2 ?_
          generalize f _ = z11 at hv ⊢
          refine j_if_eq (tgt := 78) dX10_ground_71 (by decide) (fun hc => ?_) (fun hc => ?_)
          · replace hv := hv.1 hc
            refine j_iconst (v := (0 : Int32)) dX10_ground_78 (by decide) ?_
            exact j_iret dX10_ground_79 rfl hv
          · replace hv := hv.2 hc
            refine j_iconst (v := (1 : Int32)) dX10_ground_74 (by decide) ?_
            refine j_goto (tgt := 79) dX10_ground_75 (by decide) ?_
            exact j_iret dX10_ground_79 rfl hv
        · replace hv := hv.1 hc
          refine j_aload_n dX10_ground_54 rfl rfl ?_
          obtain ⟨fs, r12, e1, e2, hv⟩ := hv
          refine j_getf (k := 2) cl_X10 (by decide) w_f_X10_13 dX10_ground_55 e1 e2 ?_
          refine j_iload dX10_ground_58 rfl ?_
          obtain ⟨N, f, e1, e2, hv⟩ := hv
          refine j_iald dX10_ground_60 e1 e2 ?_
          generalize f _ = z13 at hv ⊢
          refine j_goto (tgt := 79) dX10_ground_61 (by decide) ?_
          exact j_iret dX10_ground_79 rfl hv
      · replace hv := hv.1 hc
        refine j_aload_n dX10_ground_39 rfl rfl ?_
        obtain ⟨fs, r14, e1, e2, hv⟩ := hv
        refine j_getf (k := 1) cl_X10 (by decide) w_f_X10_9 dX10_ground_40 e1 e2 ?_
        refine j_iload dX10_ground_43 rfl ?_
        obtain ⟨N, f, e1, e2, hv⟩ := hv
        refine j_iald dX10_ground_45 e1 e2 ?_
        generalize f _ = z15 at hv ⊢
        refine j_goto (tgt := 79) dX10_ground_46 (by decide) ?_
        exact j_iret dX10_ground_79 rfl hv
    · replace hv := hv.1 hc
      refine j_aload_n dX10_ground_22 rfl rfl ?_
      refine j_iconst (v := (1 : Int32)) dX10_ground_23 (by decide) ?_
      obtain ⟨⟨fs, e1⟩, hv⟩ := hv
      refine j_virtual (avs := [.int (1 : Int32)]) (rest := []) (i := x0) (kc' := mc) (ks' := ms) dX10_ground_24 mt_X10_fail w_m_X10_89 w_in_X10_fail w_se_X10_fail rfl rfl (Nat.le_of_ble_eq_true rfl) (Nat.le_refl _) (by omega) (by omega) cl_X10.1 e1 hv (fun _ _ q9 => q9) ?_
      rintro _ h16 ⟨z17, rfl, hv⟩ -
      exact j_iret dX10_ground_27 rfl hv
set_option maxRecDepth 20000 in
set_option maxHeartbeats 4000000 in
theorem v_X10_setSlope {l : Launch} {d mc ms : Nat} {Q : Option Value → qH → Prop} {QX : String → qH → Prop} (x0 : Nat) (x1 : Int32) {h : qH} (hv : qPI h x0 10 0 (0 : Int32) (fun h1 => qCI l (d + 0) mX10_isIn [.int x1, .int (0 : Int32), .int (99 : Int32)] h1 0 0 (fun z3 h2 => qIF (z3 = 0) (qOB h2 x0 10 (qCI l (d + 0) mX10_fail [.ref x0, .int (1 : Int32)] h2 0 0 (fun z7 h6 => Q (some (.int z7)) h6))) (qGI h2 x0 10 4 (fun z4 => qPI h2 x0 10 4 x1 (fun h5 => Q (some (.int z4)) h5)))))) : q_Ct l (d + 1) mX10_setSlope [.ref x0, .int x1] h mc ms Q QX := by
  refine q_body (by decide ) (by intro v hm; simp only [List.mem_cons, List.not_mem_nil, or_false] at hm; rcases hm with rfl | rfl <;> rfl) (Nat.le_of_ble_eq_true rfl) ?_
  refine j_pad 1 rfl ?_
  refine j_aload_n dX10_setSlope_0 rfl rfl ?_
  refine j_iconst (v := (0 : Int32)) dX10_setSlope_1 (by decide) ?_
  obtain ⟨fs, e1, e2, hv⟩ := hv
  refine j_put (k := 0) (ty0 := tyX10) cl_X10 (pf_X10_0) w_f_X10_71 dX10_setSlope_2 (fun g ad => q_nI g ad _) e1 e2 ?_
  generalize q_set h x0 _ = h1 at hv ⊢
  refine j_iload_n dX10_setSlope_5 rfl rfl ?_
  refine j_iconst (v := (0 : Int32)) dX10_setSlope_6 (by decide) ?_
  refine j_bipush (v := (99 : Int32)) dX10_setSlope_7 (by decide) ?_
  refine j_static (avs := [.int x1, .int (0 : Int32), .int (99 : Int32)]) (rest := []) (kc' := mc) (ks' := ms) dX10_setSlope_9 mt_X10_isIn w_m_X10_74 w_st_X10_isIn rfl rfl (Nat.le_of_ble_eq_true rfl) (Nat.le_refl _) (by omega) (by omega) hv (fun _ _ q9 => q9) ?_
  rintro _ h2 ⟨z3, rfl, hv⟩ -
  refine j_if_ne (tgt := 21) dX10_setSlope_12 (by decide) (fun hc => ?_) (fun hc => ?_)
  · replace hv := hv.2 hc
    refine j_aload_n dX10_setSlope_21 rfl rfl ?_
    obtain ⟨fs, z4, e1, e2, hv⟩ := hv
    refine j_getf (k := 4) cl_X10 (by decide) w_f_X10_20 dX10_setSlope_22 e1 e2 ?_
    refine j_istore_n dX10_setSlope_25 rfl (by decide) rfl rfl ?_
    refine j_aload_n dX10_setSlope_26 rfl rfl ?_
    refine j_iload_n dX10_setSlope_27 rfl rfl ?_
    obtain ⟨fs, e1, e2, hv⟩ := hv
    refine j_put (k := 4) (ty0 := tyX10) cl_X10 (pf_X10_4) w_f_X10_20 dX10_setSlope_28 (fun g ad => q_nI g ad _) e1 e2 ?_
    generalize q_set h2 x0 _ = h5 at hv ⊢
    refine j_iload_n dX10_setSlope_31 rfl rfl ?_
    exact j_iret dX10_setSlope_32 rfl hv
  · replace hv := hv.1 hc
    refine j_aload_n dX10_setSlope_15 rfl rfl ?_
    refine j_iconst (v := (1 : Int32)) dX10_setSlope_16 (by decide) ?_
    obtain ⟨⟨fs, e1⟩, hv⟩ := hv
    refine j_virtual (avs := [.int (1 : Int32)]) (rest := []) (i := x0) (kc' := mc) (ks' := ms) dX10_setSlope_17 mt_X10_fail w_m_X10_89 w_in_X10_fail w_se_X10_fail rfl rfl (Nat.le_of_ble_eq_true rfl) (Nat.le_refl _) (by omega) (by omega) cl_X10.1 e1 hv (fun _ _ q9 => q9) ?_
    rintro _ h6 ⟨z7, rfl, hv⟩ -
    exact j_iret dX10_setSlope_20 rfl hv
set_option maxRecDepth 20000 in
set_option maxHeartbeats 4000000 in
theorem v_X10_canStep {l : Launch} {d mc ms : Nat} {Q : Option Value → qH → Prop} {QX : String → qH → Prop} (x0 : Nat) (x1 : Int32) (x2 : Int32) (x3 : Int32) {h : qH} (hv : qSL 2 x3 (fun z1 => qSL 3 x3 (fun z2 => qCI l (d + 1) mX10_isPlace [.int x1, .int x2] h 0 0 (fun z4 h3 => qIF (z4 = 0) (Q (some (.int (0 : Int32))) h3) (qCI l (d + 1) mX10_isPlace [.int (x1 + z1), .int (x2 + z2)] h3 0 0 (fun z6 h5 => qIF (z6 = 0) (Q (some (.int (0 : Int32))) h5) (qGR h5 x0 10 3 (fun r7 => qCI l (d + 1) mX10_at [.int (x1 + z1), .int (x2 + z2)] h5 0 0 (fun z9 h8 => qZL h8 r7 z9 (fun z10 => qIF (z10 = 0) (qGR h8 x0 10 1 (fun r11 => qCI l (d + 1) mX10_at [.int (x1 + z1), .int (x2 + z2)] h8 0 0 (fun z13 h12 => qAL h12 r11 z13 (fun z14 => qGR h12 x0 10 1 (fun r15 => qCI l (d + 1) mX10_at [.int x1, .int x2] h12 0 0 (fun z17 h16 => qAL h16 r15 z17 (fun z18 => qGI h16 x0 10 4 (fun z20 => qIF ((if 0 ≤ (z14 - z18) then (z14 - z18) else 0 - (z14 - z18)) ≤ z20) (qIF ((x3 - x3 / (2 : Int32) * (2 : Int32)) = 0) (Q (some (.int (1 : Int32))) h16) (qGR h16 x0 10 3 (fun r21 => qCI l (d + 1) mX10_at [.int (x1 + z1), .int x2] h16 0 0 (fun z23 h22 => qZL h22 r21 z23 (fun z24 => qIF (z24 = 0) (qGR h22 x0 10 3 (fun r25 => qCI l (d + 1) mX10_at [.int x1, .int (x2 + z2)] h22 0 0 (fun z27 h26 => qZL h26 r25 z27 (fun z28 => qIF (z28 = 0) (Q (some (.int (1 : Int32))) h26) (Q (some (.int (0 : Int32))) h26))))) (Q (some (.int (0 : Int32))) h22)))))) (Q (some (.int (0 : Int32))) h16))))))))) (Q (some (.int (0 : Int32))) h8))))))))))) : q_Ct l (d + 2) mX10_canStep [.ref x0, .int x1, .int x2, .int x3] h mc ms Q QX := by
  refine q_body (by decide ) (by intro v hm; simp only [List.mem_cons, List.not_mem_nil, or_false] at hm; rcases hm with rfl | rfl | rfl | rfl <;> rfl) (Nat.le_of_ble_eq_true rfl) ?_
  refine j_pad 2 rfl ?_
  refine j_iload_n dX10_canStep_0 rfl rfl ?_
  refine j_gets (k := 2) (by decide) w_f_X10_106 dX10_canStep_1 ?_
  refine j_iload_n dX10_canStep_4 rfl rfl ?_
  obtain ⟨e1, hv⟩ := hv
  refine j_sald (k := 2) (by decide) dX10_canStep_5 e1 ?_
  generalize q_sF 2 _ = z1 at hv ⊢
  refine j_iadd dX10_canStep_6 ?_
  refine j_istore dX10_canStep_7 (by decide) rfl rfl ?_
  refine j_iload_n dX10_canStep_9 rfl rfl ?_
  refine j_gets (k := 3) (by decide) w_f_X10_109 dX10_canStep_10 ?_
  refine j_iload_n dX10_canStep_13 rfl rfl ?_
  obtain ⟨e1, hv⟩ := hv
  refine j_sald (k := 3) (by decide) dX10_canStep_14 e1 ?_
  generalize q_sF 3 _ = z2 at hv ⊢
  refine j_iadd dX10_canStep_15 ?_
  refine j_istore dX10_canStep_16 (by decide) rfl rfl ?_
  refine j_iload_n dX10_canStep_18 rfl rfl ?_
  refine j_iload_n dX10_canStep_19 rfl rfl ?_
  refine j_static (avs := [.int x1, .int x2]) (rest := []) (kc' := mc) (ks' := ms) dX10_canStep_20 mt_X10_isPlace w_m_X10_81 w_st_X10_isPlace rfl rfl (Nat.le_of_ble_eq_true rfl) (Nat.le_refl _) (by omega) (by omega) hv (fun _ _ q9 => q9) ?_
  rintro _ h3 ⟨z4, rfl, hv⟩ -
  refine j_if_eq (tgt := 84) dX10_canStep_23 (by decide) (fun hc => ?_) (fun hc => ?_)
  · replace hv := hv.1 hc
    refine j_iconst (v := (0 : Int32)) dX10_canStep_84 (by decide) ?_
    exact j_zret dX10_canStep_85 rfl (by decide) hv
  · replace hv := hv.2 hc
    refine j_iload dX10_canStep_26 rfl ?_
    refine j_iload dX10_canStep_28 rfl ?_
    refine j_static (avs := [.int (x1 + z1), .int (x2 + z2)]) (rest := []) (kc' := mc) (ks' := ms) dX10_canStep_30 mt_X10_isPlace w_m_X10_81 w_st_X10_isPlace rfl rfl (Nat.le_of_ble_eq_true rfl) (Nat.le_refl _) (by omega) (by omega) hv (fun _ _ q9 => q9) ?_
    rintro _ h5 ⟨z6, rfl, hv⟩ -
    refine j_if_eq (tgt := 84) dX10_canStep_33 (by decide) (fun hc => ?_) (fun hc => ?_)
    · replace hv := hv.1 hc
      refine j_iconst (v := (0 : Int32)) dX10_canStep_84 (by decide) ?_
      exact j_zret dX10_canStep_85 rfl (by decide) hv
    · replace hv := hv.2 hc
      refine j_aload_n dX10_canStep_36 rfl rfl ?_
      obtain ⟨fs, r7, e1, e2, hv⟩ := hv
      refine j_getf (k := 3) cl_X10 (by decide) w_f_X10_16 dX10_canStep_37 e1 e2 ?_
      refine j_iload dX10_canStep_40 rfl ?_
      refine j_iload dX10_canStep_42 rfl ?_
      refine j_static (avs := [.int (x1 + z1), .int (x2 + z2)]) (rest := [.ref r7]) (kc' := mc) (ks' := ms) dX10_canStep_44 mt_X10_at w_m_X10_93 w_st_X10_at rfl rfl (Nat.le_of_ble_eq_true rfl) (Nat.le_refl _) (by omega) (by omega) hv (fun _ _ q9 => q9) ?_
      rintro _ h8 ⟨z9, rfl, hv⟩ -
      obtain ⟨N, f, e1, e2, hv⟩ := hv
      refine j_zald dX10_canStep_47 e1 e2 ?_
      generalize f _ = z10 at hv ⊢
      refine j_if_ne (tgt := 84) dX10_canStep_48 (by decide) (fun hc => ?_) (fun hc => ?_)
      · replace hv := hv.2 hc
        refine j_iconst (v := (0 : Int32)) dX10_canStep_84 (by decide) ?_
        exact j_zret dX10_canStep_85 rfl (by decide) hv
      · replace hv := hv.1 hc
        refine j_aload_n dX10_canStep_51 rfl rfl ?_
        obtain ⟨fs, r11, e1, e2, hv⟩ := hv
        refine j_getf (k := 1) cl_X10 (by decide) w_f_X10_9 dX10_canStep_52 e1 e2 ?_
        refine j_iload dX10_canStep_55 rfl ?_
        refine j_iload dX10_canStep_57 rfl ?_
        refine j_static (avs := [.int (x1 + z1), .int (x2 + z2)]) (rest := [.ref r11]) (kc' := mc) (ks' := ms) dX10_canStep_59 mt_X10_at w_m_X10_93 w_st_X10_at rfl rfl (Nat.le_of_ble_eq_true rfl) (Nat.le_refl _) (by omega) (by omega) hv (fun _ _ q9 => q9) ?_
        rintro _ h12 ⟨z13, rfl, hv⟩ -
        obtain ⟨N, f, e1, e2, hv⟩ := hv
        refine j_iald dX10_canStep_62 e1 e2 ?_
        generalize f _ = z14 at hv ⊢
        refine j_aload_n dX10_canStep_63 rfl rfl ?_
        obtain ⟨fs, r15, e1, e2, hv⟩ := hv
        refine j_getf (k := 1) cl_X10 (by decide) w_f_X10_9 dX10_canStep_64 e1 e2 ?_
        refine j_iload_n dX10_canStep_67 rfl rfl ?_
        refine j_iload_n dX10_canStep_68 rfl rfl ?_
        refine j_static (avs := [.int x1, .int x2]) (rest := [.ref r15, .int z14]) (kc' := mc) (ks' := ms) dX10_canStep_69 mt_X10_at w_m_X10_93 w_st_X10_at rfl rfl (Nat.le_of_ble_eq_true rfl) (Nat.le_refl _) (by omega) (by omega) hv (fun _ _ q9 => q9) ?_
        rintro _ h16 ⟨z17, rfl, hv⟩ -
        obtain ⟨N, f, e1, e2, hv⟩ := hv
        refine j_iald dX10_canStep_72 e1 e2 ?_
        generalize f _ = z18 at hv ⊢
        refine j_isub dX10_canStep_73 ?_
        refine j_mabs dX10_canStep_74 w_m_X10_112 w_st_abs w_ini_Math w_co_abs (Nat.le_of_ble_eq_true rfl) (by omega) ?_
        refine j_aload_n dX10_canStep_77 rfl rfl ?_
        obtain ⟨fs, z20, e1, e2, hv⟩ := hv
        refine j_getf (k := 4) cl_X10 (by decide) w_f_X10_20 dX10_canStep_78 e1 e2 ?_
        refine j_icmp_le (tgt := 86) dX10_canStep_81 (by decide) (fun hc => ?_) (fun hc => ?_)
        · replace hv := hv.1 hc
          refine j_iload_n dX10_canStep_86 rfl rfl ?_
          refine j_iconst (v := (2 : Int32)) dX10_canStep_87 (by decide) ?_
          refine j_irem dX10_canStep_88 (by decide) ?_
          refine j_if_eq (tgt := 120) dX10_canStep_89 (by decide) (fun hc => ?_) (fun hc => ?_)
          · replace hv := hv.1 hc
            refine j_iconst (v := (1 : Int32)) dX10_canStep_120 (by decide) ?_
            refine j_goto (tgt := 125) dX10_canStep_121 (by decide) ?_
            exact j_zret dX10_canStep_125 rfl (by decide) hv
          · replace hv := hv.2 hc
            refine j_aload_n dX10_canStep_92 rfl rfl ?_
            obtain ⟨fs, r21, e1, e2, hv⟩ := hv
            refine j_getf (k := 3) cl_X10 (by decide) w_f_X10_16 dX10_canStep_93 e1 e2 ?_
            refine j_iload dX10_canStep_96 rfl ?_
            refine j_iload_n dX10_canStep_98 rfl rfl ?_
            refine j_static (avs := [.int (x1 + z1), .int x2]) (rest := [.ref r21]) (kc' := mc) (ks' := ms) dX10_canStep_99 mt_X10_at w_m_X10_93 w_st_X10_at rfl rfl (Nat.le_of_ble_eq_true rfl) (Nat.le_refl _) (by omega) (by omega) hv (fun _ _ q9 => q9) ?_
            rintro _ h22 ⟨z23, rfl, hv⟩ -
            obtain ⟨N, f, e1, e2, hv⟩ := hv
            refine j_zald dX10_canStep_102 e1 e2 ?_
            generalize f _ = z24 at hv ⊢
            refine j_if_ne (tgt := 124) dX10_canStep_103 (by decide) (fun hc => ?_) (fun hc => ?_)
            · replace hv := hv.2 hc
              refine j_iconst (v := (0 : Int32)) dX10_canStep_124 (by decide) ?_
              exact j_zret dX10_canStep_125 rfl (by decide) hv
            · replace hv := hv.1 hc
              refine j_aload_n dX10_canStep_106 rfl rfl ?_
              obtain ⟨fs, r25, e1, e2, hv⟩ := hv
              refine j_getf (k := 3) cl_X10 (by decide) w_f_X10_16 dX10_canStep_107 e1 e2 ?_
              refine j_iload_n dX10_canStep_110 rfl rfl ?_
              refine j_iload dX10_canStep_111 rfl ?_
              refine j_static (avs := [.int x1, .int (x2 + z2)]) (rest := [.ref r25]) (kc' := mc) (ks' := ms) dX10_canStep_113 mt_X10_at w_m_X10_93 w_st_X10_at rfl rfl (Nat.le_of_ble_eq_true rfl) (Nat.le_refl _) (by omega) (by omega) hv (fun _ _ q9 => q9) ?_
              rintro _ h26 ⟨z27, rfl, hv⟩ -
              obtain ⟨N, f, e1, e2, hv⟩ := hv
              refine j_zald dX10_canStep_116 e1 e2 ?_
              generalize f _ = z28 at hv ⊢
              refine j_if_ne (tgt := 124) dX10_canStep_117 (by decide) (fun hc => ?_) (fun hc => ?_)
              · replace hv := hv.2 hc
                refine j_iconst (v := (0 : Int32)) dX10_canStep_124 (by decide) ?_
                exact j_zret dX10_canStep_125 rfl (by decide) hv
              · replace hv := hv.1 hc
                refine j_iconst (v := (1 : Int32)) dX10_canStep_120 (by decide) ?_
                refine j_goto (tgt := 125) dX10_canStep_121 (by decide) ?_
                exact j_zret dX10_canStep_125 rfl (by decide) hv
        · replace hv := hv.2 hc
          refine j_iconst (v := (0 : Int32)) dX10_canStep_84 (by decide) ?_
          exact j_zret dX10_canStep_85 rfl (by decide) hv
set_option maxRecDepth 20000 in
set_option maxHeartbeats 4000000 in
theorem v_X10_climb {l : Launch} {d mc ms : Nat} {Q : Option Value → qH → Prop} {QX : String → qH → Prop} (x0 : Nat) (x1 : Int32) (x2 : Int32) (x3 : Int32) {h : qH} (hv : qGR h x0 10 1 (fun r1 => qSL 2 x3 (fun z2 => qSL 3 x3 (fun z3 => qCI l (d + 0) mX10_at [.int (x1 + z2), .int (x2 + z3)] h 0 0 (fun z5 h4 => qAL h4 r1 z5 (fun z6 => qGR h4 x0 10 1 (fun r7 => qCI l (d + 0) mX10_at [.int x1, .int x2] h4 0 0 (fun z9 h8 => qAL h8 r7 z9 (fun z10 => Q (some (.int (if (0 : Int32) < (z6 - z10) then (z6 - z10) else (0 : Int32)))) h8))))))))) : q_Ct l (d + 1) mX10_climb [.ref x0, .int x1, .int x2, .int x3] h mc ms Q QX := by
  refine q_body (by decide ) (by intro v hm; simp only [List.mem_cons, List.not_mem_nil, or_false] at hm; rcases hm with rfl | rfl | rfl | rfl <;> rfl) (Nat.le_of_ble_eq_true rfl) ?_
  refine j_pad 0 rfl ?_
  refine j_iconst (v := (0 : Int32)) dX10_climb_0 (by decide) ?_
  refine j_aload_n dX10_climb_1 rfl rfl ?_
  obtain ⟨fs, r1, e1, e2, hv⟩ := hv
  refine j_getf (k := 1) cl_X10 (by decide) w_f_X10_9 dX10_climb_2 e1 e2 ?_
  refine j_iload_n dX10_climb_5 rfl rfl ?_
  refine j_gets (k := 2) (by decide) w_f_X10_106 dX10_climb_6 ?_
  refine j_iload_n dX10_climb_9 rfl rfl ?_
  obtain ⟨e1, hv⟩ := hv
  refine j_sald (k := 2) (by decide) dX10_climb_10 e1 ?_
  generalize q_sF 2 _ = z2 at hv ⊢
  refine j_iadd dX10_climb_11 ?_
  refine j_iload_n dX10_climb_12 rfl rfl ?_
  refine j_gets (k := 3) (by decide) w_f_X10_109 dX10_climb_13 ?_
  refine j_iload_n dX10_climb_16 rfl rfl ?_
  obtain ⟨e1, hv⟩ := hv
  refine j_sald (k := 3) (by decide) dX10_climb_17 e1 ?_
  generalize q_sF 3 _ = z3 at hv ⊢
  refine j_iadd dX10_climb_18 ?_
  refine j_static (avs := [.int (x1 + z2), .int (x2 + z3)]) (rest := [.ref r1, .int (0 : Int32)]) (kc' := mc) (ks' := ms) dX10_climb_19 mt_X10_at w_m_X10_93 w_st_X10_at rfl rfl (Nat.le_of_ble_eq_true rfl) (Nat.le_refl _) (by omega) (by omega) hv (fun _ _ q9 => q9) ?_
  rintro _ h4 ⟨z5, rfl, hv⟩ -
  obtain ⟨N, f, e1, e2, hv⟩ := hv
  refine j_iald dX10_climb_22 e1 e2 ?_
  generalize f _ = z6 at hv ⊢
  refine j_aload_n dX10_climb_23 rfl rfl ?_
  obtain ⟨fs, r7, e1, e2, hv⟩ := hv
  refine j_getf (k := 1) cl_X10 (by decide) w_f_X10_9 dX10_climb_24 e1 e2 ?_
  refine j_iload_n dX10_climb_27 rfl rfl ?_
  refine j_iload_n dX10_climb_28 rfl rfl ?_
  refine j_static (avs := [.int x1, .int x2]) (rest := [.ref r7, .int z6, .int (0 : Int32)]) (kc' := mc) (ks' := ms) dX10_climb_29 mt_X10_at w_m_X10_93 w_st_X10_at rfl rfl (Nat.le_of_ble_eq_true rfl) (Nat.le_refl _) (by omega) (by omega) hv (fun _ _ q9 => q9) ?_
  rintro _ h8 ⟨z9, rfl, hv⟩ -
  obtain ⟨N, f, e1, e2, hv⟩ := hv
  refine j_iald dX10_climb_32 e1 e2 ?_
  generalize f _ = z10 at hv ⊢
  refine j_isub dX10_climb_33 ?_
  refine j_mmax dX10_climb_34 w_m_X10_101 w_st_max w_ini_Math w_co_max (Nat.le_of_ble_eq_true rfl) (by omega) ?_
  exact j_iret dX10_climb_37 rfl hv
set_option maxRecDepth 20000 in
set_option maxHeartbeats 4000000 in
theorem v_X10_minutes_11 {l : Launch} {d mc ms n0 kc ks : Nat} {Q : Option Value → qH → Prop} {QX : String → qH → Prop} (x0 : Nat) (x1 : Int32) (x2 : Int32) (x3 : Int32) (y0 : Int32) {h : qH} (hv : qGR h x0 10 2 (fun r1 => qSL 2 x3 (fun z2 => qSL 3 x3 (fun z3 => qCI l (d + 1) mX10_at [.int (x1 + z2), .int (x2 + z3)] h 0 0 (fun z5 h4 => qAL h4 r1 z5 (fun z6 => qOB h4 x0 10 (qCI l (d + 1) mX10_climb [.ref x0, .int x1, .int x2, .int x3] h4 0 0 (fun z8 h7 => Q (some (.int ((y0 * ((2 : Int32) + z6)) + (z8 / (3 : Int32))))) h7)))))))) : q_J l (d + 2) mX10_minutes mc ms Q QX n0 11 [some (.ref x0), some (.int x1), some (.int x2), some (.int x3)] [.int y0] h kc ks := by
  refine j_iconst (v := (2 : Int32)) dX10_minutes_11 (by decide) ?_
  refine j_aload_n dX10_minutes_12 rfl rfl ?_
  obtain ⟨fs, r1, e1, e2, hv⟩ := hv
  refine j_getf (k := 2) cl_X10 (by decide) w_f_X10_13 dX10_minutes_13 e1 e2 ?_
  refine j_iload_n dX10_minutes_16 rfl rfl ?_
  refine j_gets (k := 2) (by decide) w_f_X10_106 dX10_minutes_17 ?_
  refine j_iload_n dX10_minutes_20 rfl rfl ?_
  obtain ⟨e1, hv⟩ := hv
  refine j_sald (k := 2) (by decide) dX10_minutes_21 e1 ?_
  generalize q_sF 2 _ = z2 at hv ⊢
  refine j_iadd dX10_minutes_22 ?_
  refine j_iload_n dX10_minutes_23 rfl rfl ?_
  refine j_gets (k := 3) (by decide) w_f_X10_109 dX10_minutes_24 ?_
  refine j_iload_n dX10_minutes_27 rfl rfl ?_
  obtain ⟨e1, hv⟩ := hv
  refine j_sald (k := 3) (by decide) dX10_minutes_28 e1 ?_
  generalize q_sF 3 _ = z3 at hv ⊢
  refine j_iadd dX10_minutes_29 ?_
  refine j_static (avs := [.int (x1 + z2), .int (x2 + z3)]) (rest := [.ref r1, .int (2 : Int32), .int y0]) (kc' := kc) (ks' := ks) dX10_minutes_30 mt_X10_at w_m_X10_93 w_st_X10_at rfl rfl (Nat.le_of_ble_eq_true rfl) (Nat.le_refl _) (by omega) (by omega) hv (fun _ _ q9 => q9) ?_
  rintro _ h4 ⟨z5, rfl, hv⟩ -
  obtain ⟨N, f, e1, e2, hv⟩ := hv
  refine j_iald dX10_minutes_33 e1 e2 ?_
  generalize f _ = z6 at hv ⊢
  refine j_iadd dX10_minutes_34 ?_
  refine j_imul dX10_minutes_35 ?_
  refine j_aload_n dX10_minutes_36 rfl rfl ?_
  refine j_iload_n dX10_minutes_37 rfl rfl ?_
  refine j_iload_n dX10_minutes_38 rfl rfl ?_
  refine j_iload_n dX10_minutes_39 rfl rfl ?_
  obtain ⟨⟨fs, e1⟩, hv⟩ := hv
  refine j_virtual (avs := [.int x1, .int x2, .int x3]) (rest := [.int (y0 * ((2 : Int32) + z6))]) (i := x0) (kc' := kc) (ks' := ks) dX10_minutes_40 mt_X10_climb w_m_X10_115 w_in_X10_climb w_se_X10_climb rfl rfl (Nat.le_of_ble_eq_true rfl) (Nat.le_refl _) (by omega) (by omega) cl_X10.1 e1 hv (fun _ _ q9 => q9) ?_
  rintro _ h7 ⟨z8, rfl, hv⟩ -
  refine j_iconst (v := (3 : Int32)) dX10_minutes_43 (by decide) ?_
  refine j_idiv dX10_minutes_44 (by decide) ?_
  refine j_iadd dX10_minutes_45 ?_
  exact j_iret dX10_minutes_46 rfl hv
set_option maxRecDepth 20000 in
set_option maxHeartbeats 4000000 in
theorem v_X10_minutes {l : Launch} {d mc ms : Nat} {Q : Option Value → qH → Prop} {QX : String → qH → Prop} (x0 : Nat) (x1 : Int32) (x2 : Int32) (x3 : Int32) {h : qH} (hv : qIF ((x3 - x3 / (2 : Int32) * (2 : Int32)) = 0) (q_J l (d + 2) mX10_minutes mc ms Q QX h.2 11 [some (.ref x0), some (.int x1), some (.int x2), some (.int x3)] [.int (2 : Int32)] h mc ms) (q_J l (d + 2) mX10_minutes mc ms Q QX h.2 11 [some (.ref x0), some (.int x1), some (.int x2), some (.int x3)] [.int (3 : Int32)] h mc ms)) : q_Ct l (d + 2) mX10_minutes [.ref x0, .int x1, .int x2, .int x3] h mc ms Q QX := by
  refine q_body (by decide ) (by intro v hm; simp only [List.mem_cons, List.not_mem_nil, or_false] at hm; rcases hm with rfl | rfl | rfl | rfl <;> rfl) (Nat.le_of_ble_eq_true rfl) ?_
  refine j_pad 0 rfl ?_
  refine j_iload_n dX10_minutes_0 rfl rfl ?_
  refine j_iconst (v := (2 : Int32)) dX10_minutes_1 (by decide) ?_
  refine j_irem dX10_minutes_2 (by decide) ?_
  refine j_if_ne (tgt := 10) dX10_minutes_3 (by decide) (fun hc => ?_) (fun hc => ?_)
  · replace hv := hv.2 hc
    refine j_iconst (v := (3 : Int32)) dX10_minutes_10 (by decide) ?_
    exact hv
  · replace hv := hv.1 hc
    refine j_iconst (v := (2 : Int32)) dX10_minutes_6 (by decide) ?_
    refine j_goto (tgt := 11) dX10_minutes_7 (by decide) ?_
    exact hv
set_option maxRecDepth 20000 in
set_option maxHeartbeats 4000000 in
theorem v_X10_energy {l : Launch} {d mc ms : Nat} {Q : Option Value → qH → Prop} {QX : String → qH → Prop} (x0 : Nat) (x1 : Int32) (x2 : Int32) (x3 : Int32) {h : qH} (hv : qOB h x0 10 (qCI l (d + 2) mX10_minutes [.ref x0, .int x1, .int x2, .int x3] h 0 0 (fun z2 h1 => qOB h1 x0 10 (qCI l (d + 2) mX10_climb [.ref x0, .int x1, .int x2, .int x3] h1 0 0 (fun z4 h3 => Q (some (.int (((4 : Int32) * z2) + ((2 : Int32) * z4)))) h3))))) : q_Ct l (d + 3) mX10_energy [.ref x0, .int x1, .int x2, .int x3] h mc ms Q QX := by
  refine q_body (by decide ) (by intro v hm; simp only [List.mem_cons, List.not_mem_nil, or_false] at hm; rcases hm with rfl | rfl | rfl | rfl <;> rfl) (Nat.le_of_ble_eq_true rfl) ?_
  refine j_pad 0 rfl ?_
  refine j_iconst (v := (4 : Int32)) dX10_energy_0 (by decide) ?_
  refine j_aload_n dX10_energy_1 rfl rfl ?_
  refine j_iload_n dX10_energy_2 rfl rfl ?_
  refine j_iload_n dX10_energy_3 rfl rfl ?_
  refine j_iload_n dX10_energy_4 rfl rfl ?_
  obtain ⟨⟨fs, e1⟩, hv⟩ := hv
  refine j_virtual (avs := [.int x1, .int x2, .int x3]) (rest := [.int (4 : Int32)]) (i := x0) (kc' := mc) (ks' := ms) dX10_energy_5 mt_X10_minutes w_m_X10_119 w_in_X10_minutes w_se_X10_minutes rfl rfl (Nat.le_of_ble_eq_true rfl) (Nat.le_refl _) (by omega) (by omega) cl_X10.1 e1 hv (fun _ _ q9 => q9) ?_
  rintro _ h1 ⟨z2, rfl, hv⟩ -
  refine j_imul dX10_energy_8 ?_
  refine j_iconst (v := (2 : Int32)) dX10_energy_9 (by decide) ?_
  refine j_aload_n dX10_energy_10 rfl rfl ?_
  refine j_iload_n dX10_energy_11 rfl rfl ?_
  refine j_iload_n dX10_energy_12 rfl rfl ?_
  refine j_iload_n dX10_energy_13 rfl rfl ?_
  obtain ⟨⟨fs, e1⟩, hv⟩ := hv
  refine j_virtual (avs := [.int x1, .int x2, .int x3]) (rest := [.int (2 : Int32), .int ((4 : Int32) * z2)]) (i := x0) (kc' := mc) (ks' := ms) dX10_energy_14 mt_X10_climb w_m_X10_115 w_in_X10_climb w_se_X10_climb rfl rfl (Nat.le_of_ble_eq_true rfl) (Nat.le_refl _) (by omega) (by omega) cl_X10.1 e1 hv (fun _ _ q9 => q9) ?_
  rintro _ h3 ⟨z4, rfl, hv⟩ -
  refine j_imul dX10_energy_17 ?_
  refine j_iadd dX10_energy_18 ?_
  exact j_iret dX10_energy_19 rfl hv
set_option maxRecDepth 20000 in
set_option maxHeartbeats 4000000 in
theorem v_X10_reckonCosts_198 {l : Launch} {d mc ms n0 kc ks : Nat} {Q : Option Value → qH → Prop} {QX : String → qH → Prop} (x0 : Nat) (x1 : Int32) (x2 : Int32) (x3 : Int32) (x4 : Int32) (x5 : Int32) (x6 : Int32) (x7 : Int32) (x8 : Int32) (x9 : Int32) (x10 : Int32) (y0 : Int32) {h : qH} (hv : qOB h x0 10 (qCI l (d + 2) mX10_canStep [.ref x0, .int x10, .int y0, .int x7] h 0 0 (fun z2 h1 => qIF (z2 = 0) (q_J l (d + 3) mX10_reckonCosts mc ms Q QX n0 92 [some (.ref x0), some (.int x1), some (.int x2), some (.int x3), some (.int x4), some (.int x5), some (.int x6), some (.int (x7 + (1 : Int32))), none, none, none, none, none, none] [] h1 kc ks) (qGR h1 x0 10 19 (fun r3 => qAL h1 r3 x6 (fun z4 => qOB h1 x0 10 (qCI l (d + 2) mX10_minutes [.ref x0, .int x10, .int y0, .int x7] h1 0 0 (fun z6 h5 => qCI l (d + 2) mX10_at [.int x8, .int x9] h5 0 0 (fun z8 h7 => qGR h7 x0 10 19 (fun r9 => qAL h7 r9 z8 (fun z10 => qIF ((z4 + z6) < z10) (qGR h7 x0 10 19 (fun r11 => qAS h7 r11 z8 (z4 + z6) (fun h12 => qGR h12 x0 10 21 (fun r13 => qZL h12 r13 z8 (fun z14 => qIF (z14 = 0) (qGR h12 x0 10 21 (fun r15 => qZS h12 r15 z8 (1 : Int32) (fun h16 => qGR h16 x0 10 20 (fun r17 => qAS h16 r17 ((x4 + x5) - (x4 + x5) / (576 : Int32) * (576 : Int32)) z8 (fun h18 => q_J l (d + 3) mX10_reckonCosts mc ms Q QX n0 92 [some (.ref x0), some (.int x1), some (.int x2), some (.int x3), some (.int x4), some (.int (x5 + (1 : Int32))), some (.int x6), some (.int (x7 + (1 : Int32))), none, none, none, none, none, none] [] h18 kc ks))))) (q_J l (d + 3) mX10_reckonCosts mc ms Q QX n0 92 [some (.ref x0), some (.int x1), some (.int x2), some (.int x3), some (.int x4), some (.int x5), some (.int x6), some (.int (x7 + (1 : Int32))), none, none, none, none, none, none] [] h12 kc ks)))))) (q_J l (d + 3) mX10_reckonCosts mc ms Q QX n0 92 [some (.ref x0), some (.int x1), some (.int x2), some (.int x3), some (.int x4), some (.int x5), some (.int x6), some (.int (x7 + (1 : Int32))), none, none, none, none, none, none] [] h7 kc ks)))))))))))) : q_J l (d + 3) mX10_reckonCosts mc ms Q QX n0 198 [some (.ref x0), some (.int x1), some (.int x2), some (.int x3), some (.int x4), some (.int x5), some (.int x6), some (.int x7), some (.int x8), some (.int x9), some (.int x10), none, none, none] [.int y0] h kc ks := by
  refine j_istore dX10_reckonCosts_198 (by decide) rfl rfl ?_
  refine j_aload_n dX10_reckonCosts_200 rfl rfl ?_
  refine j_iload dX10_reckonCosts_201 rfl ?_
  refine j_iload dX10_reckonCosts_203 rfl ?_
  refine j_iload dX10_reckonCosts_205 rfl ?_
  obtain ⟨⟨fs, e1⟩, hv⟩ := hv
  refine j_virtual (avs := [.int x10, .int y0, .int x7]) (rest := []) (i := x0) (kc' := kc) (ks' := ks) dX10_reckonCosts_207 mt_X10_canStep w_m_X10_123 w_in_X10_canStep w_se_X10_canStep rfl rfl (Nat.le_of_ble_eq_true rfl) (Nat.le_refl _) (by omega) (by omega) cl_X10.1 e1 hv (fun _ _ q9 => q9) ?_
  rintro _ h1 ⟨z2, rfl, hv⟩ -
  refine j_if_ne (tgt := 216) dX10_reckonCosts_210 (by decide) (fun hc => ?_) (fun hc => ?_)
  · replace hv := hv.2 hc
    refine j_aload_n dX10_reckonCosts_216 rfl rfl ?_
    obtain ⟨fs, r3, e1, e2, hv⟩ := hv
    refine j_getf (k := 19) cl_X10 (by decide) w_f_X10_56 dX10_reckonCosts_217 e1 e2 ?_
    refine j_iload dX10_reckonCosts_220 rfl ?_
    obtain ⟨N, f, e1, e2, hv⟩ := hv
    refine j_iald dX10_reckonCosts_222 e1 e2 ?_
    generalize f _ = z4 at hv ⊢
    refine j_aload_n dX10_reckonCosts_223 rfl rfl ?_
    refine j_iload dX10_reckonCosts_224 rfl ?_
    refine j_iload dX10_reckonCosts_226 rfl ?_
    refine j_iload dX10_reckonCosts_228 rfl ?_
    obtain ⟨⟨fs, e1⟩, hv⟩ := hv
    refine j_virtual (avs := [.int x10, .int y0, .int x7]) (rest := [.int z4]) (i := x0) (kc' := kc) (ks' := ks) dX10_reckonCosts_230 mt_X10_minutes w_m_X10_119 w_in_X10_minutes w_se_X10_minutes rfl rfl (Nat.le_of_ble_eq_true rfl) (Nat.le_refl _) (by omega) (by omega) cl_X10.1 e1 hv (fun _ _ q9 => q9) ?_
    rintro _ h5 ⟨z6, rfl, hv⟩ -
    refine j_iadd dX10_reckonCosts_233 ?_
    refine j_istore dX10_reckonCosts_234 (by decide) rfl rfl ?_
    refine j_iload dX10_reckonCosts_236 rfl ?_
    refine j_iload dX10_reckonCosts_238 rfl ?_
    refine j_static (avs := [.int x8, .int x9]) (rest := []) (kc' := kc) (ks' := ks) dX10_reckonCosts_240 mt_X10_at w_m_X10_93 w_st_X10_at rfl rfl (Nat.le_of_ble_eq_true rfl) (Nat.le_refl _) (by omega) (by omega) hv (fun _ _ q9 => q9) ?_
    rintro _ h7 ⟨z8, rfl, hv⟩ -
    refine j_istore dX10_reckonCosts_243 (by decide) rfl rfl ?_
    refine j_iload dX10_reckonCosts_245 rfl ?_
    refine j_aload_n dX10_reckonCosts_247 rfl rfl ?_
    obtain ⟨fs, r9, e1, e2, hv⟩ := hv
    refine j_getf (k := 19) cl_X10 (by decide) w_f_X10_56 dX10_reckonCosts_248 e1 e2 ?_
    refine j_iload dX10_reckonCosts_251 rfl ?_
    obtain ⟨N, f, e1, e2, hv⟩ := hv
    refine j_iald dX10_reckonCosts_253 e1 e2 ?_
    generalize f _ = z10 at hv ⊢
    refine j_icmp_lt (tgt := 260) dX10_reckonCosts_254 (by decide) (fun hc => ?_) (fun hc => ?_)
    · replace hv := hv.1 hc
      refine j_aload_n dX10_reckonCosts_260 rfl rfl ?_
      obtain ⟨fs, r11, e1, e2, hv⟩ := hv
      refine j_getf (k := 19) cl_X10 (by decide) w_f_X10_56 dX10_reckonCosts_261 e1 e2 ?_
      refine j_iload dX10_reckonCosts_264 rfl ?_
      refine j_iload dX10_reckonCosts_266 rfl ?_
      obtain ⟨N, f, e1, e2, hv⟩ := hv
      refine j_iast dX10_reckonCosts_268 e1 e2 ?_
      generalize q_set h7 r11 _ = h12 at hv ⊢
      refine j_aload_n dX10_reckonCosts_269 rfl rfl ?_
      obtain ⟨fs, r13, e1, e2, hv⟩ := hv
      refine j_getf (k := 21) cl_X10 (by decide) w_f_X10_62 dX10_reckonCosts_270 e1 e2 ?_
      refine j_iload dX10_reckonCosts_273 rfl ?_
      obtain ⟨N, f, e1, e2, hv⟩ := hv
      refine j_zald dX10_reckonCosts_275 e1 e2 ?_
      generalize f _ = z14 at hv ⊢
      refine j_if_eq (tgt := 282) dX10_reckonCosts_276 (by decide) (fun hc => ?_) (fun hc => ?_)
      · replace hv := hv.1 hc
        refine j_aload_n dX10_reckonCosts_282 rfl rfl ?_
        obtain ⟨fs, r15, e1, e2, hv⟩ := hv
        refine j_getf (k := 21) cl_X10 (by decide) w_f_X10_62 dX10_reckonCosts_283 e1 e2 ?_
        refine j_iload dX10_reckonCosts_286 rfl ?_
        refine j_iconst (v := (1 : Int32)) dX10_reckonCosts_288 (by decide) ?_
        obtain ⟨hz, N, f, e1, e2, hv⟩ := hv
        refine j_zast dX10_reckonCosts_289 e1 e2 hz ?_
        generalize q_set h12 r15 _ = h16 at hv ⊢
        refine j_aload_n dX10_reckonCosts_290 rfl rfl ?_
        obtain ⟨fs, r17, e1, e2, hv⟩ := hv
        refine j_getf (k := 20) cl_X10 (by decide) w_f_X10_59 dX10_reckonCosts_291 e1 e2 ?_
        refine j_iload dX10_reckonCosts_294 rfl ?_
        refine j_iload dX10_reckonCosts_296 rfl ?_
        refine j_iadd dX10_reckonCosts_298 ?_
        refine j_sipush (v := (576 : Int32)) dX10_reckonCosts_299 (by decide) ?_
        refine j_irem dX10_reckonCosts_302 (by decide) ?_
        refine j_iload dX10_reckonCosts_303 rfl ?_
        obtain ⟨N, f, e1, e2, hv⟩ := hv
        refine j_iast dX10_reckonCosts_305 e1 e2 ?_
        generalize q_set h16 r17 _ = h18 at hv ⊢
        refine j_iinc (w := (x5 + (1 : Int32))) dX10_reckonCosts_306 rfl (by rfl) (by decide) rfl rfl ?_
        refine j_iinc (w := (x7 + (1 : Int32))) dX10_reckonCosts_309 rfl (by rfl) (by decide) rfl rfl ?_
        refine j_goto (tgt := 92) dX10_reckonCosts_312 (by decide) ?_
        refine j_mask [true, true, true, true, true, true, true, true, false, false, false, false, false, false] rfl ?_
        exact hv
      · replace hv := hv.2 hc
        refine j_goto (tgt := 309) dX10_reckonCosts_279 (by decide) ?_
        refine j_iinc (w := (x7 + (1 : Int32))) dX10_reckonCosts_309 rfl (by rfl) (by decide) rfl rfl ?_
        refine j_goto (tgt := 92) dX10_reckonCosts_312 (by decide) ?_
        refine j_mask [true, true, true, true, true, true, true, true, false, false, false, false, false, false] rfl ?_
        exact hv
    · replace hv := hv.2 hc
      refine j_goto (tgt := 309) dX10_reckonCosts_257 (by decide) ?_
      refine j_iinc (w := (x7 + (1 : Int32))) dX10_reckonCosts_309 rfl (by rfl) (by decide) rfl rfl ?_
      refine j_goto (tgt := 92) dX10_reckonCosts_312 (by decide) ?_
      refine j_mask [true, true, true, true, true, true, true, true, false, false, false, false, false, false] rfl ?_
      exact hv
  · replace hv := hv.1 hc
    refine j_goto (tgt := 309) dX10_reckonCosts_213 (by decide) ?_
    refine j_iinc (w := (x7 + (1 : Int32))) dX10_reckonCosts_309 rfl (by rfl) (by decide) rfl rfl ?_
    refine j_goto (tgt := 92) dX10_reckonCosts_312 (by decide) ?_
    refine j_mask [true, true, true, true, true, true, true, true, false, false, false, false, true, true] rfl ?_
    exact hv
set_option maxRecDepth 20000 in
set_option maxHeartbeats 4000000 in
theorem v_X10_reckonCosts_182 {l : Launch} {d mc ms n0 kc ks : Nat} {Q : Option Value → qH → Prop} {QX : String → qH → Prop} (x0 : Nat) (x1 : Int32) (x2 : Int32) (x3 : Int32) (x4 : Int32) (x5 : Int32) (x6 : Int32) (x7 : Int32) (x8 : Int32) (x9 : Int32) (y0 : Int32) {h : qH} (hv : qIF (x3 = 0) (q_J l (d + 3) mX10_reckonCosts mc ms Q QX n0 198 [some (.ref x0), some (.int x1), some (.int x2), some (.int x3), some (.int x4), some (.int x5), some (.int x6), some (.int x7), some (.int x8), some (.int x9), some (.int y0), none, none, none] [.int (x6 / (24 : Int32))] h kc ks) (q_J l (d + 3) mX10_reckonCosts mc ms Q QX n0 198 [some (.ref x0), some (.int x1), some (.int x2), some (.int x3), some (.int x4), some (.int x5), some (.int x6), some (.int x7), some (.int x8), some (.int x9), some (.int y0), none, none, none] [.int x9] h kc ks)) : q_J l (d + 3) mX10_reckonCosts mc ms Q QX n0 182 [some (.ref x0), some (.int x1), some (.int x2), some (.int x3), some (.int x4), some (.int x5), some (.int x6), some (.int x7), some (.int x8), some (.int x9), none, none, none, none] [.int y0] h kc ks := by
  refine j_istore dX10_reckonCosts_182 (by decide) rfl rfl ?_
  refine j_iload_n dX10_reckonCosts_184 rfl rfl ?_
  refine j_if_eq (tgt := 193) dX10_reckonCosts_185 (by decide) (fun hc => ?_) (fun hc => ?_)
  · replace hv := hv.1 hc
    refine j_iload dX10_reckonCosts_193 rfl ?_
    refine j_bipush (v := (24 : Int32)) dX10_reckonCosts_195 (by decide) ?_
    refine j_idiv dX10_reckonCosts_197 (by decide) ?_
    exact hv
  · replace hv := hv.2 hc
    refine j_iload dX10_reckonCosts_188 rfl ?_
    refine j_goto (tgt := 198) dX10_reckonCosts_190 (by decide) ?_
    exact hv
set_option maxRecDepth 20000 in
set_option maxHeartbeats 4000000 in
theorem v_X10_reckonCosts_152 {l : Launch} {d mc ms n0 kc ks : Nat} {Q : Option Value → qH → Prop} {QX : String → qH → Prop} (x0 : Nat) (x1 : Int32) (x2 : Int32) (x3 : Int32) (x4 : Int32) (x5 : Int32) (x6 : Int32) (x7 : Int32) (x8 : Int32) (y0 : Int32) (y1 : Int32) {h : qH} (hv : qCI l (d + 2) mX10_isPlace [.int x8, .int (y0 + y1)] h 0 0 (fun z2 h1 => qIF (z2 = 0) (q_J l (d + 3) mX10_reckonCosts mc ms Q QX n0 92 [some (.ref x0), some (.int x1), some (.int x2), some (.int x3), some (.int x4), some (.int x5), some (.int x6), some (.int (x7 + (1 : Int32))), none, none, none, none, none, none] [] h1 kc ks) (qIF (x3 = 0) (q_J l (d + 3) mX10_reckonCosts mc ms Q QX n0 182 [some (.ref x0), some (.int x1), some (.int x2), some (.int x3), some (.int x4), some (.int x5), some (.int x6), some (.int x7), some (.int x8), some (.int (y0 + y1)), none, none, none, none] [.int (x6 - x6 / (24 : Int32) * (24 : Int32))] h1 kc ks) (q_J l (d + 3) mX10_reckonCosts mc ms Q QX n0 182 [some (.ref x0), some (.int x1), some (.int x2), some (.int x3), some (.int x4), some (.int x5), some (.int x6), some (.int x7), some (.int x8), some (.int (y0 + y1)), none, none, none, none] [.int x8] h1 kc ks)))) : q_J l (d + 3) mX10_reckonCosts mc ms Q QX n0 152 [some (.ref x0), some (.int x1), some (.int x2), some (.int x3), some (.int x4), some (.int x5), some (.int x6), some (.int x7), some (.int x8), none, none, none, none, none] [.int y1, .int y0] h kc ks := by
  refine j_iadd dX10_reckonCosts_152 ?_
  refine j_istore dX10_reckonCosts_153 (by decide) rfl rfl ?_
  refine j_iload dX10_reckonCosts_155 rfl ?_
  refine j_iload dX10_reckonCosts_157 rfl ?_
  refine j_static (avs := [.int x8, .int (y0 + y1)]) (rest := []) (kc' := kc) (ks' := ks) dX10_reckonCosts_159 mt_X10_isPlace w_m_X10_81 w_st_X10_isPlace rfl rfl (Nat.le_of_ble_eq_true rfl) (Nat.le_refl _) (by omega) (by omega) hv (fun _ _ q9 => q9) ?_
  rintro _ h1 ⟨z2, rfl, hv⟩ -
  refine j_if_ne (tgt := 168) dX10_reckonCosts_162 (by decide) (fun hc => ?_) (fun hc => ?_)
  · replace hv := hv.2 hc
    refine j_iload_n dX10_reckonCosts_168 rfl rfl ?_
    refine j_if_eq (tgt := 177) dX10_reckonCosts_169 (by decide) (fun hc => ?_) (fun hc => ?_)
    · replace hv := hv.1 hc
      refine j_iload dX10_reckonCosts_177 rfl ?_
      refine j_bipush (v := (24 : Int32)) dX10_reckonCosts_179 (by decide) ?_
      refine j_irem dX10_reckonCosts_181 (by decide) ?_
      exact hv
    · replace hv := hv.2 hc
      refine j_iload dX10_reckonCosts_172 rfl ?_
      refine j_goto (tgt := 182) dX10_reckonCosts_174 (by decide) ?_
      exact hv
  · replace hv := hv.1 hc
    refine j_goto (tgt := 309) dX10_reckonCosts_165 (by decide) ?_
    refine j_iinc (w := (x7 + (1 : Int32))) dX10_reckonCosts_309 rfl (by rfl) (by decide) rfl rfl ?_
    refine j_goto (tgt := 92) dX10_reckonCosts_312 (by decide) ?_
    refine j_mask [true, true, true, true, true, true, true, true, false, false, true, true, true, true] rfl ?_
    exact hv
set_option maxRecDepth 20000 in
set_option maxHeartbeats 4000000 in
theorem v_X10_reckonCosts_124 {l : Launch} {d mc ms n0 kc ks : Nat} {Q : Option Value → qH → Prop} {QX : String → qH → Prop} (x0 : Nat) (x1 : Int32) (x2 : Int32) (x3 : Int32) (x4 : Int32) (x5 : Int32) (x6 : Int32) (x7 : Int32) (y0 : Int32) (y1 : Int32) {h : qH} (hv : qIF (x3 = 0) (qSL 3 x7 (fun z1 => q_J l (d + 3) mX10_reckonCosts mc ms Q QX n0 152 [some (.ref x0), some (.int x1), some (.int x2), some (.int x3), some (.int x4), some (.int x5), some (.int x6), some (.int x7), some (.int (y0 + y1)), none, none, none, none, none] [.int z1, .int (x6 / (24 : Int32))] h kc ks)) (qSL 3 x7 (fun z2 => q_J l (d + 3) mX10_reckonCosts mc ms Q QX n0 152 [some (.ref x0), some (.int x1), some (.int x2), some (.int x3), some (.int x4), some (.int x5), some (.int x6), some (.int x7), some (.int (y0 + y1)), none, none, none, none, none] [.int (-z2), .int (x6 / (24 : Int32))] h kc ks))) : q_J l (d + 3) mX10_reckonCosts mc ms Q QX n0 124 [some (.ref x0), some (.int x1), some (.int x2), some (.int x3), some (.int x4), some (.int x5), some (.int x6), some (.int x7), none, none, none, none, none, none] [.int y1, .int y0] h kc ks := by
  refine j_iadd dX10_reckonCosts_124 ?_
  refine j_istore dX10_reckonCosts_125 (by decide) rfl rfl ?_
  refine j_iload dX10_reckonCosts_127 rfl ?_
  refine j_bipush (v := (24 : Int32)) dX10_reckonCosts_129 (by decide) ?_
  refine j_idiv dX10_reckonCosts_131 (by decide) ?_
  refine j_iload_n dX10_reckonCosts_132 rfl rfl ?_
  refine j_if_eq (tgt := 146) dX10_reckonCosts_133 (by decide) (fun hc => ?_) (fun hc => ?_)
  · replace hv := hv.1 hc
    refine j_gets (k := 3) (by decide) w_f_X10_109 dX10_reckonCosts_146 ?_
    refine j_iload dX10_reckonCosts_149 rfl ?_
    obtain ⟨e1, hv⟩ := hv
    refine j_sald (k := 3) (by decide) dX10_reckonCosts_151 e1 ?_
    generalize q_sF 3 _ = z1 at hv ⊢
    exact hv
  · replace hv := hv.2 hc
    refine j_gets (k := 3) (by decide) w_f_X10_109 dX10_reckonCosts_136 ?_
    refine j_iload dX10_reckonCosts_139 rfl ?_
    obtain ⟨e1, hv⟩ := hv
    refine j_sald (k := 3) (by decide) dX10_reckonCosts_141 e1 ?_
    generalize q_sF 3 _ = z2 at hv ⊢
    refine j_ineg dX10_reckonCosts_142 ?_
    refine j_goto (tgt := 152) dX10_reckonCosts_143 (by decide) ?_
    exact hv
set_option maxRecDepth 20000 in
set_option maxHeartbeats 4000000 in
theorem v_X10_reckonCosts_92 {l : Launch} {d mc ms n0 kc ks : Nat} {Q : Option Value → qH → Prop} {QX : String → qH → Prop} (x0 : Nat) (x1 : Int32) (x2 : Int32) (x3 : Int32) (x4 : Int32) (x5 : Int32) (x6 : Int32) (x7 : Int32) {h : qH} (hv : qIF ((8 : Int32) ≤ x7) (q_J l (d + 3) mX10_reckonCosts mc ms Q QX n0 54 [some (.ref x0), some (.int x1), some (.int x2), some (.int x3), some (.int x4), some (.int x5), none, none, none, none, none, none, none, none] [] h kc ks) (qIF (x3 = 0) (qSL 2 x7 (fun z1 => q_J l (d + 3) mX10_reckonCosts mc ms Q QX n0 124 [some (.ref x0), some (.int x1), some (.int x2), some (.int x3), some (.int x4), some (.int x5), some (.int x6), some (.int x7), none, none, none, none, none, none] [.int z1, .int (x6 - x6 / (24 : Int32) * (24 : Int32))] h kc ks)) (qSL 2 x7 (fun z2 => q_J l (d + 3) mX10_reckonCosts mc ms Q QX n0 124 [some (.ref x0), some (.int x1), some (.int x2), some (.int x3), some (.int x4), some (.int x5), some (.int x6), some (.int x7), none, none, none, none, none, none] [.int (-z2), .int (x6 - x6 / (24 : Int32) * (24 : Int32))] h kc ks)))) : q_J l (d + 3) mX10_reckonCosts mc ms Q QX n0 92 [some (.ref x0), some (.int x1), some (.int x2), some (.int x3), some (.int x4), some (.int x5), some (.int x6), some (.int x7), none, none, none, none, none, none] [] h kc ks := by
  refine j_iload dX10_reckonCosts_92 rfl ?_
  refine j_bipush (v := (8 : Int32)) dX10_reckonCosts_94 (by decide) ?_
  refine j_icmp_ge (tgt := 315) dX10_reckonCosts_96 (by decide) (fun hc => ?_) (fun hc => ?_)
  · replace hv := hv.1 hc
    refine j_goto (tgt := 54) dX10_reckonCosts_315 (by decide) ?_
    refine j_mask [true, true, true, true, true, true, false, false, true, true, true, true, true, true] rfl ?_
    exact hv
  · replace hv := hv.2 hc
    refine j_iload dX10_reckonCosts_99 rfl ?_
    refine j_bipush (v := (24 : Int32)) dX10_reckonCosts_101 (by decide) ?_
    refine j_irem dX10_reckonCosts_103 (by decide) ?_
    refine j_iload_n dX10_reckonCosts_104 rfl rfl ?_
    refine j_if_eq (tgt := 118) dX10_reckonCosts_105 (by decide) (fun hc => ?_) (fun hc => ?_)
    · replace hv := hv.1 hc
      refine j_gets (k := 2) (by decide) w_f_X10_106 dX10_reckonCosts_118 ?_
      refine j_iload dX10_reckonCosts_121 rfl ?_
      obtain ⟨e1, hv⟩ := hv
      refine j_sald (k := 2) (by decide) dX10_reckonCosts_123 e1 ?_
      generalize q_sF 2 _ = z1 at hv ⊢
      exact hv
    · replace hv := hv.2 hc
      refine j_gets (k := 2) (by decide) w_f_X10_106 dX10_reckonCosts_108 ?_
      refine j_iload dX10_reckonCosts_111 rfl ?_
      obtain ⟨e1, hv⟩ := hv
      refine j_sald (k := 2) (by decide) dX10_reckonCosts_113 e1 ?_
      generalize q_sF 2 _ = z2 at hv ⊢
      refine j_ineg dX10_reckonCosts_114 ?_
      refine j_goto (tgt := 124) dX10_reckonCosts_115 (by decide) ?_
      exact hv
set_option maxRecDepth 20000 in
set_option maxHeartbeats 4000000 in
theorem v_X10_reckonCosts_54 {l : Launch} {d mc ms n0 kc ks : Nat} {Q : Option Value → qH → Prop} {QX : String → qH → Prop} (x0 : Nat) (x1 : Int32) (x2 : Int32) (x3 : Int32) (x4 : Int32) (x5 : Int32) {h : qH} (hv : qIF (x5 ≤ 0) (Q none h) (qGR h x0 10 20 (fun r1 => qAL h r1 x4 (fun z2 => qGR h x0 10 21 (fun r3 => qZS h r3 z2 (0 : Int32) (fun h4 => q_J l (d + 3) mX10_reckonCosts mc ms Q QX n0 92 [some (.ref x0), some (.int x1), some (.int x2), some (.int x3), some (.int ((x4 + (1 : Int32)) - (x4 + (1 : Int32)) / (576 : Int32) * (576 : Int32))), some (.int (x5 + (-1 : Int32))), some (.int z2), some (.int (0 : Int32)), none, none, none, none, none, none] [] h4 kc ks)))))) : q_J l (d + 3) mX10_reckonCosts mc ms Q QX n0 54 [some (.ref x0), some (.int x1), some (.int x2), some (.int x3), some (.int x4), some (.int x5), none, none, none, none, none, none, none, none] [] h kc ks := by
  refine j_iload dX10_reckonCosts_54 rfl ?_
  refine j_if_le (tgt := 318) dX10_reckonCosts_56 (by decide) (fun hc => ?_) (fun hc => ?_)
  · replace hv := hv.1 hc
    exact j_vret dX10_reckonCosts_318 rfl hv
  · replace hv := hv.2 hc
    refine j_aload_n dX10_reckonCosts_59 rfl rfl ?_
    obtain ⟨fs, r1, e1, e2, hv⟩ := hv
    refine j_getf (k := 20) cl_X10 (by decide) w_f_X10_59 dX10_reckonCosts_60 e1 e2 ?_
    refine j_iload dX10_reckonCosts_63 rfl ?_
    obtain ⟨N, f, e1, e2, hv⟩ := hv
    refine j_iald dX10_reckonCosts_65 e1 e2 ?_
    generalize f _ = z2 at hv ⊢
    refine j_istore dX10_reckonCosts_66 (by decide) rfl rfl ?_
    refine j_iload dX10_reckonCosts_68 rfl ?_
    refine j_iconst (v := (1 : Int32)) dX10_reckonCosts_70 (by decide) ?_
    refine j_iadd dX10_reckonCosts_71 ?_
    refine j_sipush (v := (576 : Int32)) dX10_reckonCosts_72 (by decide) ?_
    refine j_irem dX10_reckonCosts_75 (by decide) ?_
    refine j_istore dX10_reckonCosts_76 (by decide) rfl rfl ?_
    refine j_iinc (w := (x5 + (-1 : Int32))) dX10_reckonCosts_78 rfl (by rfl) (by decide) rfl rfl ?_
    refine j_aload_n dX10_reckonCosts_81 rfl rfl ?_
    obtain ⟨fs, r3, e1, e2, hv⟩ := hv
    refine j_getf (k := 21) cl_X10 (by decide) w_f_X10_62 dX10_reckonCosts_82 e1 e2 ?_
    refine j_iload dX10_reckonCosts_85 rfl ?_
    refine j_iconst (v := (0 : Int32)) dX10_reckonCosts_87 (by decide) ?_
    obtain ⟨hz, N, f, e1, e2, hv⟩ := hv
    refine j_zast dX10_reckonCosts_88 e1 e2 hz ?_
    generalize q_set h r3 _ = h4 at hv ⊢
    refine j_iconst (v := (0 : Int32)) dX10_reckonCosts_89 (by decide) ?_
    refine j_istore dX10_reckonCosts_90 (by decide) rfl rfl ?_
    exact hv
set_option maxRecDepth 20000 in
set_option maxHeartbeats 4000000 in
theorem v_X10_reckonCosts_3 {l : Launch} {d mc ms n0 kc ks : Nat} {Q : Option Value → qH → Prop} {QX : String → qH → Prop} (x0 : Nat) (x1 : Int32) (x2 : Int32) (x3 : Int32) (x4 : Int32) {h : qH} (hv : qIF ((576 : Int32) ≤ x4) (qGR h x0 10 19 (fun r1 => qCI l (d + 2) mX10_at [.int x1, .int x2] h 0 0 (fun z3 h2 => qAS h2 r1 z3 (0 : Int32) (fun h4 => qGR h4 x0 10 20 (fun r5 => qCI l (d + 2) mX10_at [.int x1, .int x2] h4 0 0 (fun z7 h6 => qAS h6 r5 (0 : Int32) z7 (fun h8 => q_J l (d + 3) mX10_reckonCosts mc ms Q QX n0 54 [some (.ref x0), some (.int x1), some (.int x2), some (.int x3), some (.int (0 : Int32)), some (.int (1 : Int32)), none, none, none, none, none, none, none, none] [] h8 kc ks))))))) (qGR h x0 10 19 (fun r9 => qAS h r9 x4 (1000000 : Int32) (fun h10 => q_J l (d + 3) mX10_reckonCosts mc ms Q QX n0 3 [some (.ref x0), some (.int x1), some (.int x2), some (.int x3), some (.int (x4 + (1 : Int32))), none, none, none, none, none, none, none, none, none] [] h10 kc ks)))) : q_J l (d + 3) mX10_reckonCosts mc ms Q QX n0 3 [some (.ref x0), some (.int x1), some (.int x2), some (.int x3), some (.int x4), none, none, none, none, none, none, none, none, none] [] h kc ks := by
  refine j_iload dX10_reckonCosts_3 rfl ?_
  refine j_sipush (v := (576 : Int32)) dX10_reckonCosts_5 (by decide) ?_
  refine j_icmp_ge (tgt := 26) dX10_reckonCosts_8 (by decide) (fun hc => ?_) (fun hc => ?_)
  · replace hv := hv.1 hc
    refine j_aload_n dX10_reckonCosts_26 rfl rfl ?_
    obtain ⟨fs, r1, e1, e2, hv⟩ := hv
    refine j_getf (k := 19) cl_X10 (by decide) w_f_X10_56 dX10_reckonCosts_27 e1 e2 ?_
    refine j_iload_n dX10_reckonCosts_30 rfl rfl ?_
    refine j_iload_n dX10_reckonCosts_31 rfl rfl ?_
    refine j_static (avs := [.int x1, .int x2]) (rest := [.ref r1]) (kc' := kc) (ks' := ks) dX10_reckonCosts_32 mt_X10_at w_m_X10_93 w_st_X10_at rfl rfl (Nat.le_of_ble_eq_true rfl) (Nat.le_refl _) (by omega) (by omega) hv (fun _ _ q9 => q9) ?_
    rintro _ h2 ⟨z3, rfl, hv⟩ -
    refine j_iconst (v := (0 : Int32)) dX10_reckonCosts_35 (by decide) ?_
    obtain ⟨N, f, e1, e2, hv⟩ := hv
    refine j_iast dX10_reckonCosts_36 e1 e2 ?_
    generalize q_set h2 r1 _ = h4 at hv ⊢
    refine j_iconst (v := (0 : Int32)) dX10_reckonCosts_37 (by decide) ?_
    refine j_istore dX10_reckonCosts_38 (by decide) rfl rfl ?_
    refine j_iconst (v := (1 : Int32)) dX10_reckonCosts_40 (by decide) ?_
    refine j_istore dX10_reckonCosts_41 (by decide) rfl rfl ?_
    refine j_aload_n dX10_reckonCosts_43 rfl rfl ?_
    obtain ⟨fs, r5, e1, e2, hv⟩ := hv
    refine j_getf (k := 20) cl_X10 (by decide) w_f_X10_59 dX10_reckonCosts_44 e1 e2 ?_
    refine j_iconst (v := (0 : Int32)) dX10_reckonCosts_47 (by decide) ?_
    refine j_iload_n dX10_reckonCosts_48 rfl rfl ?_
    refine j_iload_n dX10_reckonCosts_49 rfl rfl ?_
    refine j_static (avs := [.int x1, .int x2]) (rest := [.int (0 : Int32), .ref r5]) (kc' := kc) (ks' := ks) dX10_reckonCosts_50 mt_X10_at w_m_X10_93 w_st_X10_at rfl rfl (Nat.le_of_ble_eq_true rfl) (Nat.le_refl _) (by omega) (by omega) hv (fun _ _ q9 => q9) ?_
    rintro _ h6 ⟨z7, rfl, hv⟩ -
    obtain ⟨N, f, e1, e2, hv⟩ := hv
    refine j_iast dX10_reckonCosts_53 e1 e2 ?_
    generalize q_set h6 r5 _ = h8 at hv ⊢
    exact hv
  · replace hv := hv.2 hc
    refine j_aload_n dX10_reckonCosts_11 rfl rfl ?_
    obtain ⟨fs, r9, e1, e2, hv⟩ := hv
    refine j_getf (k := 19) cl_X10 (by decide) w_f_X10_56 dX10_reckonCosts_12 e1 e2 ?_
    refine j_iload dX10_reckonCosts_15 rfl ?_
    refine j_ldc (v := (1000000 : Int32)) dX10_reckonCosts_17 w_c_X10_122 ?_
    obtain ⟨N, f, e1, e2, hv⟩ := hv
    refine j_iast dX10_reckonCosts_19 e1 e2 ?_
    generalize q_set h r9 _ = h10 at hv ⊢
    refine j_iinc (w := (x4 + (1 : Int32))) dX10_reckonCosts_20 rfl (by rfl) (by decide) rfl rfl ?_
    refine j_goto (tgt := 3) dX10_reckonCosts_23 (by decide) ?_
    exact hv
set_option maxRecDepth 20000 in
set_option maxHeartbeats 4000000 in
theorem v_X10_reckonCosts {l : Launch} {d mc ms : Nat} {Q : Option Value → qH → Prop} {QX : String → qH → Prop} (x0 : Nat) (x1 : Int32) (x2 : Int32) (x3 : Int32) {h : qH} (hv : q_J l (d + 3) mX10_reckonCosts mc ms Q QX h.2 3 [some (.ref x0), some (.int x1), some (.int x2), some (.int x3), some (.int (0 : Int32)), none, none, none, none, none, none, none, none, none] [] h mc ms) : q_Ct l (d + 3) mX10_reckonCosts [.ref x0, .int x1, .int x2, .int x3] h mc ms Q QX := by
  refine q_body (by decide ) (by intro v hm; simp only [List.mem_cons, List.not_mem_nil, or_false] at hm; rcases hm with rfl | rfl | rfl | rfl <;> rfl) (Nat.le_of_ble_eq_true rfl) ?_
  refine j_pad 10 rfl ?_
  refine j_iconst (v := (0 : Int32)) dX10_reckonCosts_0 (by decide) ?_
  refine j_istore dX10_reckonCosts_1 (by decide) rfl rfl ?_
  exact hv
set_option maxRecDepth 20000 in
set_option maxHeartbeats 4000000 in
theorem v_X10_direction_2 {l : Launch} {d mc ms n0 kc ks : Nat} {Q : Option Value → qH → Prop} {QX : String → qH → Prop} (x0 : Nat) (x1 : Int32) (x2 : Int32) (x3 : Int32) {h : qH} (hv : qIF ((8 : Int32) ≤ x3) (Q (some (.int (-1 : Int32))) h) (qOB h x0 10 (qCI l (d + 2) mX10_canStep [.ref x0, .int x1, .int x2, .int x3] h 0 0 (fun z2 h1 => qIF (z2 = 0) (q_J l (d + 3) mX10_direction mc ms Q QX n0 2 [some (.ref x0), some (.int x1), some (.int x2), some (.int (x3 + (1 : Int32)))] [] h1 kc ks) (qGR h1 x0 10 19 (fun r3 => qCI l (d + 2) mX10_at [.int x1, .int x2] h1 0 0 (fun z5 h4 => qAL h4 r3 z5 (fun z6 => qOB h4 x0 10 (qCI l (d + 2) mX10_minutes [.ref x0, .int x1, .int x2, .int x3] h4 0 0 (fun z8 h7 => qGR h7 x0 10 19 (fun r9 => qSL 2 x3 (fun z10 => qSL 3 x3 (fun z11 => qCI l (d + 2) mX10_at [.int (x1 + z10), .int (x2 + z11)] h7 0 0 (fun z13 h12 => qAL h12 r9 z13 (fun z14 => qIF (z6 = (z8 + z14)) (Q (some (.int x3)) h12) (q_J l (d + 3) mX10_direction mc ms Q QX n0 2 [some (.ref x0), some (.int x1), some (.int x2), some (.int (x3 + (1 : Int32)))] [] h12 kc ks)))))))))))))))) : q_J l (d + 3) mX10_direction mc ms Q QX n0 2 [some (.ref x0), some (.int x1), some (.int x2), some (.int x3)] [] h kc ks := by
  refine j_iload_n dX10_direction_2 rfl rfl ?_
  refine j_bipush (v := (8 : Int32)) dX10_direction_3 (by decide) ?_
  refine j_icmp_ge (tgt := 69) dX10_direction_5 (by decide) (fun hc => ?_) (fun hc => ?_)
  · replace hv := hv.1 hc
    refine j_iconst (v := (-1 : Int32)) dX10_direction_69 (by decide) ?_
    exact j_iret dX10_direction_70 rfl hv
  · replace hv := hv.2 hc
    refine j_aload_n dX10_direction_8 rfl rfl ?_
    refine j_iload_n dX10_direction_9 rfl rfl ?_
    refine j_iload_n dX10_direction_10 rfl rfl ?_
    refine j_iload_n dX10_direction_11 rfl rfl ?_
    obtain ⟨⟨fs, e1⟩, hv⟩ := hv
    refine j_virtual (avs := [.int x1, .int x2, .int x3]) (rest := []) (i := x0) (kc' := kc) (ks' := ks) dX10_direction_12 mt_X10_canStep w_m_X10_123 w_in_X10_canStep w_se_X10_canStep rfl rfl (Nat.le_of_ble_eq_true rfl) (Nat.le_refl _) (by omega) (by omega) cl_X10.1 e1 hv (fun _ _ q9 => q9) ?_
    rintro _ h1 ⟨z2, rfl, hv⟩ -
    refine j_if_eq (tgt := 63) dX10_direction_15 (by decide) (fun hc => ?_) (fun hc => ?_)
    · replace hv := hv.1 hc
      refine j_iinc (w := (x3 + (1 : Int32))) dX10_direction_63 rfl (by rfl) (by decide) rfl rfl ?_
      refine j_goto (tgt := 2) dX10_direction_66 (by decide) ?_
      exact hv
    · replace hv := hv.2 hc
      refine j_aload_n dX10_direction_18 rfl rfl ?_
      obtain ⟨fs, r3, e1, e2, hv⟩ := hv
      refine j_getf (k := 19) cl_X10 (by decide) w_f_X10_56 dX10_direction_19 e1 e2 ?_
      refine j_iload_n dX10_direction_22 rfl rfl ?_
      refine j_iload_n dX10_direction_23 rfl rfl ?_
      refine j_static (avs := [.int x1, .int x2]) (rest := [.ref r3]) (kc' := kc) (ks' := ks) dX10_direction_24 mt_X10_at w_m_X10_93 w_st_X10_at rfl rfl (Nat.le_of_ble_eq_true rfl) (Nat.le_refl _) (by omega) (by omega) hv (fun _ _ q9 => q9) ?_
      rintro _ h4 ⟨z5, rfl, hv⟩ -
      obtain ⟨N, f, e1, e2, hv⟩ := hv
      refine j_iald dX10_direction_27 e1 e2 ?_
      generalize f _ = z6 at hv ⊢
      refine j_aload_n dX10_direction_28 rfl rfl ?_
      refine j_iload_n dX10_direction_29 rfl rfl ?_
      refine j_iload_n dX10_direction_30 rfl rfl ?_
      refine j_iload_n dX10_direction_31 rfl rfl ?_
      obtain ⟨⟨fs, e1⟩, hv⟩ := hv
      refine j_virtual (avs := [.int x1, .int x2, .int x3]) (rest := [.int z6]) (i := x0) (kc' := kc) (ks' := ks) dX10_direction_32 mt_X10_minutes w_m_X10_119 w_in_X10_minutes w_se_X10_minutes rfl rfl (Nat.le_of_ble_eq_true rfl) (Nat.le_refl _) (by omega) (by omega) cl_X10.1 e1 hv (fun _ _ q9 => q9) ?_
      rintro _ h7 ⟨z8, rfl, hv⟩ -
      refine j_aload_n dX10_direction_35 rfl rfl ?_
      obtain ⟨fs, r9, e1, e2, hv⟩ := hv
      refine j_getf (k := 19) cl_X10 (by decide) w_f_X10_56 dX10_direction_36 e1 e2 ?_
      refine j_iload_n dX10_direction_39 rfl rfl ?_
      refine j_gets (k := 2) (by decide) w_f_X10_106 dX10_direction_40 ?_
      refine j_iload_n dX10_direction_43 rfl rfl ?_
      obtain ⟨e1, hv⟩ := hv
      refine j_sald (k := 2) (by decide) dX10_direction_44 e1 ?_
      generalize q_sF 2 _ = z10 at hv ⊢
      refine j_iadd dX10_direction_45 ?_
      refine j_iload_n dX10_direction_46 rfl rfl ?_
      refine j_gets (k := 3) (by decide) w_f_X10_109 dX10_direction_47 ?_
      refine j_iload_n dX10_direction_50 rfl rfl ?_
      obtain ⟨e1, hv⟩ := hv
      refine j_sald (k := 3) (by decide) dX10_direction_51 e1 ?_
      generalize q_sF 3 _ = z11 at hv ⊢
      refine j_iadd dX10_direction_52 ?_
      refine j_static (avs := [.int (x1 + z10), .int (x2 + z11)]) (rest := [.ref r9, .int z8, .int z6]) (kc' := kc) (ks' := ks) dX10_direction_53 mt_X10_at w_m_X10_93 w_st_X10_at rfl rfl (Nat.le_of_ble_eq_true rfl) (Nat.le_refl _) (by omega) (by omega) hv (fun _ _ q9 => q9) ?_
      rintro _ h12 ⟨z13, rfl, hv⟩ -
      obtain ⟨N, f, e1, e2, hv⟩ := hv
      refine j_iald dX10_direction_56 e1 e2 ?_
      generalize f _ = z14 at hv ⊢
      refine j_iadd dX10_direction_57 ?_
      refine j_icmp_ne (tgt := 63) dX10_direction_58 (by decide) (fun hc => ?_) (fun hc => ?_)
      · replace hv := hv.2 hc
        refine j_iinc (w := (x3 + (1 : Int32))) dX10_direction_63 rfl (by rfl) (by decide) rfl rfl ?_
        refine j_goto (tgt := 2) dX10_direction_66 (by decide) ?_
        exact hv
      · replace hv := hv.1 hc
        refine j_iload_n dX10_direction_61 rfl rfl ?_
        exact j_iret dX10_direction_62 rfl hv
set_option maxRecDepth 20000 in
set_option maxHeartbeats 4000000 in
theorem v_X10_direction {l : Launch} {d mc ms : Nat} {Q : Option Value → qH → Prop} {QX : String → qH → Prop} (x0 : Nat) (x1 : Int32) (x2 : Int32) {h : qH} (hv : q_J l (d + 3) mX10_direction mc ms Q QX h.2 2 [some (.ref x0), some (.int x1), some (.int x2), some (.int (0 : Int32))] [] h mc ms) : q_Ct l (d + 3) mX10_direction [.ref x0, .int x1, .int x2] h mc ms Q QX := by
  refine q_body (by decide ) (by intro v hm; simp only [List.mem_cons, List.not_mem_nil, or_false] at hm; rcases hm with rfl | rfl | rfl <;> rfl) (Nat.le_of_ble_eq_true rfl) ?_
  refine j_pad 1 rfl ?_
  refine j_iconst (v := (0 : Int32)) dX10_direction_0 (by decide) ?_
  refine j_istore_n dX10_direction_1 rfl (by decide) rfl rfl ?_
  exact hv
set_option maxRecDepth 20000 in
set_option maxHeartbeats 4000000 in
theorem v_X10_way_135 {l : Launch} {d mc ms n0 kc ks : Nat} {Q : Option Value → qH → Prop} {QX : String → qH → Prop} (x0 : Nat) (x1 : Int32) (x2 : Int32) (x3 : Int32) (x4 : Int32) (x5 : Int32) (x6 : Nat) (x7 : Int32) (x8 : Int32) (x9 : Int32) {h : qH} (hv : qAL h x6 (1 : Int32) (fun z1 => qOB h x0 10 (qCI l (d + 3) mX10_energy [.ref x0, .int x7, .int x8, .int x9] h 0 0 (fun z3 h2 => qAS h2 x6 (1 : Int32) (z1 + z3) (fun h4 => qAL h4 x6 (2 : Int32) (fun z5 => qAS h4 x6 (2 : Int32) (z5 + (1 : Int32)) (fun h6 => qSL 2 x9 (fun z7 => qSL 3 x9 (fun z8 => q_J l (d + 4) mX10_way mc ms Q QX n0 99 [some (.ref x0), some (.int x1), some (.int x2), some (.int x3), some (.int x4), some (.int x5), some (.ref x6), some (.int (x7 + z7)), some (.int (x8 + z8)), none] [] h6 kc ks))))))))) : q_J l (d + 4) mX10_way mc ms Q QX n0 135 [some (.ref x0), some (.int x1), some (.int x2), some (.int x3), some (.int x4), some (.int x5), some (.ref x6), some (.int x7), some (.int x8), some (.int x9)] [] h kc ks := by
  refine j_aload dX10_way_135 rfl ?_
  refine j_iconst (v := (1 : Int32)) dX10_way_137 (by decide) ?_
  refine j_dup2 dX10_way_138 rfl rfl ?_
  obtain ⟨N, f, e1, e2, hv⟩ := hv
  refine j_iald dX10_way_139 e1 e2 ?_
  generalize f _ = z1 at hv ⊢
  refine j_aload_n dX10_way_140 rfl rfl ?_
  refine j_iload dX10_way_141 rfl ?_
  refine j_iload dX10_way_143 rfl ?_
  refine j_iload dX10_way_145 rfl ?_
  obtain ⟨⟨fs, e1⟩, hv⟩ := hv
  refine j_virtual (avs := [.int x7, .int x8, .int x9]) (rest := [.int z1, .int (1 : Int32), .ref x6]) (i := x0) (kc' := kc) (ks' := ks) dX10_way_147 mt_X10_energy w_m_X10_133 w_in_X10_energy w_se_X10_energy rfl rfl (Nat.le_of_ble_eq_true rfl) (Nat.le_refl _) (by omega) (by omega) cl_X10.1 e1 hv (fun _ _ q9 => q9) ?_
  rintro _ h2 ⟨z3, rfl, hv⟩ -
  refine j_iadd dX10_way_150 ?_
  obtain ⟨N, f, e1, e2, hv⟩ := hv
  refine j_iast dX10_way_151 e1 e2 ?_
  generalize q_set h2 x6 _ = h4 at hv ⊢
  refine j_aload dX10_way_152 rfl ?_
  refine j_iconst (v := (2 : Int32)) dX10_way_154 (by decide) ?_
  refine j_dup2 dX10_way_155 rfl rfl ?_
  obtain ⟨N, f, e1, e2, hv⟩ := hv
  refine j_iald dX10_way_156 e1 e2 ?_
  generalize f _ = z5 at hv ⊢
  refine j_iconst (v := (1 : Int32)) dX10_way_157 (by decide) ?_
  refine j_iadd dX10_way_158 ?_
  obtain ⟨N, f, e1, e2, hv⟩ := hv
  refine j_iast dX10_way_159 e1 e2 ?_
  generalize q_set h4 x6 _ = h6 at hv ⊢
  refine j_iload dX10_way_160 rfl ?_
  refine j_gets (k := 2) (by decide) w_f_X10_106 dX10_way_162 ?_
  refine j_iload dX10_way_165 rfl ?_
  obtain ⟨e1, hv⟩ := hv
  refine j_sald (k := 2) (by decide) dX10_way_167 e1 ?_
  generalize q_sF 2 _ = z7 at hv ⊢
  refine j_iadd dX10_way_168 ?_
  refine j_istore dX10_way_169 (by decide) rfl rfl ?_
  refine j_iload dX10_way_171 rfl ?_
  refine j_gets (k := 3) (by decide) w_f_X10_109 dX10_way_173 ?_
  refine j_iload dX10_way_176 rfl ?_
  obtain ⟨e1, hv⟩ := hv
  refine j_sald (k := 3) (by decide) dX10_way_178 e1 ?_
  generalize q_sF 3 _ = z8 at hv ⊢
  refine j_iadd dX10_way_179 ?_
  refine j_istore dX10_way_180 (by decide) rfl rfl ?_
  refine j_goto (tgt := 99) dX10_way_182 (by decide) ?_
  refine j_mask [true, true, true, true, true, true, true, true, true, false] rfl ?_
  exact hv
set_option maxRecDepth 20000 in
set_option maxHeartbeats 4000000 in
theorem v_X10_way_112 {l : Launch} {d mc ms n0 kc ks : Nat} {Q : Option Value → qH → Prop} {QX : String → qH → Prop} (x0 : Nat) (x1 : Int32) (x2 : Int32) (x3 : Int32) (x4 : Int32) (x5 : Int32) (x6 : Nat) (x7 : Int32) (x8 : Int32) {h : qH} (hv : qOB h x0 10 (qCI l (d + 3) mX10_direction [.ref x0, .int x7, .int x8] h 0 0 (fun z2 h1 => qAL h1 x6 (2 : Int32) (fun z3 => qIF (z3 = 0) (qAS h1 x6 (3 : Int32) z2 (fun h4 => q_J l (d + 4) mX10_way mc ms Q QX n0 135 [some (.ref x0), some (.int x1), some (.int x2), some (.int x3), some (.int x4), some (.int x5), some (.ref x6), some (.int x7), some (.int x8), some (.int z2)] [] h4 kc ks)) (q_J l (d + 4) mX10_way mc ms Q QX n0 135 [some (.ref x0), some (.int x1), some (.int x2), some (.int x3), some (.int x4), some (.int x5), some (.ref x6), some (.int x7), some (.int x8), some (.int z2)] [] h1 kc ks))))) : q_J l (d + 4) mX10_way mc ms Q QX n0 112 [some (.ref x0), some (.int x1), some (.int x2), some (.int x3), some (.int x4), some (.int x5), some (.ref x6), some (.int x7), some (.int x8), none] [] h kc ks := by
  refine j_aload_n dX10_way_112 rfl rfl ?_
  refine j_iload dX10_way_113 rfl ?_
  refine j_iload dX10_way_115 rfl ?_
  obtain ⟨⟨fs, e1⟩, hv⟩ := hv
  refine j_virtual (avs := [.int x7, .int x8]) (rest := []) (i := x0) (kc' := kc) (ks' := ks) dX10_way_117 mt_X10_direction w_m_X10_130 w_in_X10_direction w_se_X10_direction rfl rfl (Nat.le_of_ble_eq_true rfl) (Nat.le_refl _) (by omega) (by omega) cl_X10.1 e1 hv (fun _ _ q9 => q9) ?_
  rintro _ h1 ⟨z2, rfl, hv⟩ -
  refine j_istore dX10_way_120 (by decide) rfl rfl ?_
  refine j_aload dX10_way_122 rfl ?_
  refine j_iconst (v := (2 : Int32)) dX10_way_124 (by decide) ?_
  obtain ⟨N, f, e1, e2, hv⟩ := hv
  refine j_iald dX10_way_125 e1 e2 ?_
  generalize f _ = z3 at hv ⊢
  refine j_if_ne (tgt := 135) dX10_way_126 (by decide) (fun hc => ?_) (fun hc => ?_)
  · replace hv := hv.2 hc
    exact hv
  · replace hv := hv.1 hc
    refine j_aload dX10_way_129 rfl ?_
    refine j_iconst (v := (3 : Int32)) dX10_way_131 (by decide) ?_
    refine j_iload dX10_way_132 rfl ?_
    obtain ⟨N, f, e1, e2, hv⟩ := hv
    refine j_iast dX10_way_134 e1 e2 ?_
    generalize q_set h1 x6 _ = h4 at hv ⊢
    exact hv
set_option maxRecDepth 20000 in
set_option maxHeartbeats 4000000 in
theorem v_X10_way_99 {l : Launch} {d mc ms n0 kc ks : Nat} {Q : Option Value → qH → Prop} {QX : String → qH → Prop} (x0 : Nat) (x1 : Int32) (x2 : Int32) (x3 : Int32) (x4 : Int32) (x5 : Int32) (x6 : Nat) (x7 : Int32) (x8 : Int32) {h : qH} (hv : qIF (x7 = x3) (qIF (x8 = x4) (qAL h x6 x5 (fun z1 => Q (some (.int z1)) h)) (q_J l (d + 4) mX10_way mc ms Q QX n0 112 [some (.ref x0), some (.int x1), some (.int x2), some (.int x3), some (.int x4), some (.int x5), some (.ref x6), some (.int x7), some (.int x8), none] [] h kc ks)) (q_J l (d + 4) mX10_way mc ms Q QX n0 112 [some (.ref x0), some (.int x1), some (.int x2), some (.int x3), some (.int x4), some (.int x5), some (.ref x6), some (.int x7), some (.int x8), none] [] h kc ks)) : q_J l (d + 4) mX10_way mc ms Q QX n0 99 [some (.ref x0), some (.int x1), some (.int x2), some (.int x3), some (.int x4), some (.int x5), some (.ref x6), some (.int x7), some (.int x8), none] [] h kc ks := by
  refine j_iload dX10_way_99 rfl ?_
  refine j_iload_n dX10_way_101 rfl rfl ?_
  refine j_icmp_ne (tgt := 112) dX10_way_102 (by decide) (fun hc => ?_) (fun hc => ?_)
  · replace hv := hv.2 hc
    exact hv
  · replace hv := hv.1 hc
    refine j_iload dX10_way_105 rfl ?_
    refine j_iload dX10_way_107 rfl ?_
    refine j_icmp_eq (tgt := 185) dX10_way_109 (by decide) (fun hc => ?_) (fun hc => ?_)
    · replace hv := hv.1 hc
      refine j_aload dX10_way_185 rfl ?_
      refine j_iload dX10_way_187 rfl ?_
      obtain ⟨N, f, e1, e2, hv⟩ := hv
      refine j_iald dX10_way_189 e1 e2 ?_
      generalize f _ = z1 at hv ⊢
      exact j_iret dX10_way_190 rfl hv
    · replace hv := hv.2 hc
      exact hv
set_option maxRecDepth 20000 in
set_option maxHeartbeats 4000000 in
theorem v_X10_way {l : Launch} {d mc ms : Nat} {Q : Option Value → qH → Prop} {QX : String → qH → Prop} (hkc : 1 ≤ mc) (hks : 4 ≤ ms) (x0 : Nat) (x1 : Int32) (x2 : Int32) (x3 : Int32) (x4 : Int32) (x5 : Int32) {h : qH} (hv : qPI h x0 10 0 (0 : Int32) (fun h1 => qCI l (d + 3) mX10_isPlace [.int x1, .int x2] h1 0 0 (fun z3 h2 => qIF (z3 = 0) (qOB h2 x0 10 (qCI l (d + 3) mX10_fail [.ref x0, .int (1 : Int32)] h2 0 0 (fun z5 h4 => Q (some (.int z5)) h4))) (qCI l (d + 3) mX10_isPlace [.int x3, .int x4] h2 0 0 (fun z7 h6 => qIF (z7 = 0) (qOB h6 x0 10 (qCI l (d + 3) mX10_fail [.ref x0, .int (1 : Int32)] h6 0 0 (fun z9 h8 => Q (some (.int z9)) h8))) (qCI l (d + 3) mX10_isIn [.int x5, .int (0 : Int32), .int (3 : Int32)] h6 0 0 (fun z11 h10 => qIF (z11 = 0) (qOB h10 x0 10 (qCI l (d + 3) mX10_fail [.ref x0, .int (1 : Int32)] h10 0 0 (fun z28 h27 => Q (some (.int z28)) h27))) (qOB h10 x0 10 (qCV l (d + 3) mX10_reckonCosts [.ref x0, .int x3, .int x4, .int (1 : Int32)] h10 0 0 (fun h12 => qGR h12 x0 10 19 (fun r13 => qCI l (d + 3) mX10_at [.int x1, .int x2] h12 0 0 (fun z15 h14 => qAL h14 r13 z15 (fun z16 => qIF (z16 = (1000000 : Int32)) (Q (some (.int (-1 : Int32))) h14) (qNI h14 4 (fun r17 h18 => qGR h18 x0 10 19 (fun r19 => qCI l (d + 3) mX10_at [.int x1, .int x2] h18 0 0 (fun z21 h20 => qAL h20 r19 z21 (fun z22 => qAS h20 r17 (0 : Int32) z22 (fun h23 => qAS h23 r17 (1 : Int32) (0 : Int32) (fun h24 => qAS h24 r17 (2 : Int32) (0 : Int32) (fun h25 => qAS h25 r17 (3 : Int32) (-1 : Int32) (fun h26 => q_J l (d + 4) mX10_way mc ms Q QX h.2 99 [some (.ref x0), some (.int x1), some (.int x2), some (.int x3), some (.int x4), some (.int x5), some (.ref r17), some (.int x1), some (.int x2), none] [] h26 (mc - 1) (ms - 4))))))))))))))))))))))) : q_Ct l (d + 4) mX10_way [.ref x0, .int x1, .int x2, .int x3, .int x4, .int x5] h mc ms Q QX := by
  refine q_body (by decide ) (by intro v hm; simp only [List.mem_cons, List.not_mem_nil, or_false] at hm; rcases hm with rfl | rfl | rfl | rfl | rfl | rfl <;> rfl) (Nat.le_of_ble_eq_true rfl) ?_
  refine j_pad 4 rfl ?_
  refine j_aload_n dX10_way_0 rfl rfl ?_
  refine j_iconst (v := (0 : Int32)) dX10_way_1 (by decide) ?_
  obtain ⟨fs, e1, e2, hv⟩ := hv
  refine j_put (k := 0) (ty0 := tyX10) cl_X10 (pf_X10_0) w_f_X10_71 dX10_way_2 (fun g ad => q_nI g ad _) e1 e2 ?_
  generalize q_set h x0 _ = h1 at hv ⊢
  refine j_iload_n dX10_way_5 rfl rfl ?_
  refine j_iload_n dX10_way_6 rfl rfl ?_
  refine j_static (avs := [.int x1, .int x2]) (rest := []) (kc' := mc) (ks' := ms) dX10_way_7 mt_X10_isPlace w_m_X10_81 w_st_X10_isPlace rfl rfl (Nat.le_of_ble_eq_true rfl) (Nat.le_refl _) (by omega) (by omega) hv (fun _ _ q9 => q9) ?_
  rintro _ h2 ⟨z3, rfl, hv⟩ -
  refine j_if_eq (tgt := 32) dX10_way_10 (by decide) (fun hc => ?_) (fun hc => ?_)
  · replace hv := hv.1 hc
    refine j_aload_n dX10_way_32 rfl rfl ?_
    refine j_iconst (v := (1 : Int32)) dX10_way_33 (by decide) ?_
    obtain ⟨⟨fs, e1⟩, hv⟩ := hv
    refine j_virtual (avs := [.int (1 : Int32)]) (rest := []) (i := x0) (kc' := mc) (ks' := ms) dX10_way_34 mt_X10_fail w_m_X10_89 w_in_X10_fail w_se_X10_fail rfl rfl (Nat.le_of_ble_eq_true rfl) (Nat.le_refl _) (by omega) (by omega) cl_X10.1 e1 hv (fun _ _ q9 => q9) ?_
    rintro _ h4 ⟨z5, rfl, hv⟩ -
    exact j_iret dX10_way_37 rfl hv
  · replace hv := hv.2 hc
    refine j_iload_n dX10_way_13 rfl rfl ?_
    refine j_iload dX10_way_14 rfl ?_
    refine j_static (avs := [.int x3, .int x4]) (rest := []) (kc' := mc) (ks' := ms) dX10_way_16 mt_X10_isPlace w_m_X10_81 w_st_X10_isPlace rfl rfl (Nat.le_of_ble_eq_true rfl) (Nat.le_refl _) (by omega) (by omega) hv (fun _ _ q9 => q9) ?_
    rintro _ h6 ⟨z7, rfl, hv⟩ -
    refine j_if_eq (tgt := 32) dX10_way_19 (by decide) (fun hc => ?_) (fun hc => ?_)
    · replace hv := hv.1 hc
      refine j_aload_n dX10_way_32 rfl rfl ?_
      refine j_iconst (v := (1 : Int32)) dX10_way_33 (by decide) ?_
      obtain ⟨⟨fs, e1⟩, hv⟩ := hv
      refine j_virtual (avs := [.int (1 : Int32)]) (rest := []) (i := x0) (kc' := mc) (ks' := ms) dX10_way_34 mt_X10_fail w_m_X10_89 w_in_X10_fail w_se_X10_fail rfl rfl (Nat.le_of_ble_eq_true rfl) (Nat.le_refl _) (by omega) (by omega) cl_X10.1 e1 hv (fun _ _ q9 => q9) ?_
      rintro _ h8 ⟨z9, rfl, hv⟩ -
      exact j_iret dX10_way_37 rfl hv
    · replace hv := hv.2 hc
      refine j_iload dX10_way_22 rfl ?_
      refine j_iconst (v := (0 : Int32)) dX10_way_24 (by decide) ?_
      refine j_iconst (v := (3 : Int32)) dX10_way_25 (by decide) ?_
      refine j_static (avs := [.int x5, .int (0 : Int32), .int (3 : Int32)]) (rest := []) (kc' := mc) (ks' := ms) dX10_way_26 mt_X10_isIn w_m_X10_74 w_st_X10_isIn rfl rfl (Nat.le_of_ble_eq_true rfl) (Nat.le_refl _) (by omega) (by omega) hv (fun _ _ q9 => q9) ?_
      rintro _ h10 ⟨z11, rfl, hv⟩ -
      refine j_if_ne (tgt := 38) dX10_way_29 (by decide) (fun hc => ?_) (fun hc => ?_)
      · replace hv := hv.2 hc
        refine j_aload_n dX10_way_38 rfl rfl ?_
        refine j_iload_n dX10_way_39 rfl rfl ?_
        refine j_iload dX10_way_40 rfl ?_
        refine j_iconst (v := (1 : Int32)) dX10_way_42 (by decide) ?_
        obtain ⟨⟨fs, e1⟩, hv⟩ := hv
        refine j_virtual (avs := [.int x3, .int x4, .int (1 : Int32)]) (rest := []) (i := x0) (kc' := mc) (ks' := ms) dX10_way_43 mt_X10_reckonCosts w_m_X10_126 w_in_X10_reckonCosts w_se_X10_reckonCosts rfl rfl (Nat.le_of_ble_eq_true rfl) (Nat.le_refl _) (by omega) (by omega) cl_X10.1 e1 hv (fun _ _ q9 => q9) ?_
        rintro _ h12 ⟨rfl, hv⟩ -
        refine j_aload_n dX10_way_46 rfl rfl ?_
        obtain ⟨fs, r13, e1, e2, hv⟩ := hv
        refine j_getf (k := 19) cl_X10 (by decide) w_f_X10_56 dX10_way_47 e1 e2 ?_
        refine j_iload_n dX10_way_50 rfl rfl ?_
        refine j_iload_n dX10_way_51 rfl rfl ?_
        refine j_static (avs := [.int x1, .int x2]) (rest := [.ref r13]) (kc' := mc) (ks' := ms) dX10_way_52 mt_X10_at w_m_X10_93 w_st_X10_at rfl rfl (Nat.le_of_ble_eq_true rfl) (Nat.le_refl _) (by omega) (by omega) hv (fun _ _ q9 => q9) ?_
        rintro _ h14 ⟨z15, rfl, hv⟩ -
        obtain ⟨N, f, e1, e2, hv⟩ := hv
        refine j_iald dX10_way_55 e1 e2 ?_
        generalize f _ = z16 at hv ⊢
        refine j_ldc (v := (1000000 : Int32)) dX10_way_56 w_c_X10_122 ?_
        refine j_icmp_ne (tgt := 63) dX10_way_58 (by decide) (fun hc => ?_) (fun hc => ?_)
        · replace hv := hv.2 hc
          refine j_iconst (v := (4 : Int32)) dX10_way_63 (by decide) ?_
          unfold qNI at hv
          refine j_newI (N := 4) w_ar_int dX10_way_64 (by decide) (by decide) (by decide) (kc' := (mc - 1)) (ks' := (ms - 4)) (by omega) (by omega) ?_
          generalize q_push h14 _ = h18 at hv ⊢
          generalize (h14).2 = r17 at hv ⊢
          refine j_dup dX10_way_66 rfl ?_
          refine j_iconst (v := (0 : Int32)) dX10_way_67 (by decide) ?_
          refine j_aload_n dX10_way_68 rfl rfl ?_
          obtain ⟨fs, r19, e1, e2, hv⟩ := hv
          refine j_getf (k := 19) cl_X10 (by decide) w_f_X10_56 dX10_way_69 e1 e2 ?_
          refine j_iload_n dX10_way_72 rfl rfl ?_
          refine j_iload_n dX10_way_73 rfl rfl ?_
          refine j_static (avs := [.int x1, .int x2]) (rest := [.ref r19, .int (0 : Int32), .ref r17, .ref r17]) (kc' := (mc - 1)) (ks' := (ms - 4)) dX10_way_74 mt_X10_at w_m_X10_93 w_st_X10_at rfl rfl (Nat.le_of_ble_eq_true rfl) (Nat.le_refl _) (by omega) (by omega) hv (fun _ _ q9 => q9) ?_
          rintro _ h20 ⟨z21, rfl, hv⟩ -
          obtain ⟨N, f, e1, e2, hv⟩ := hv
          refine j_iald dX10_way_77 e1 e2 ?_
          generalize f _ = z22 at hv ⊢
          obtain ⟨N, f, e1, e2, hv⟩ := hv
          refine j_iast dX10_way_78 e1 e2 ?_
          generalize q_set h20 r17 _ = h23 at hv ⊢
          refine j_dup dX10_way_79 rfl ?_
          refine j_iconst (v := (1 : Int32)) dX10_way_80 (by decide) ?_
          refine j_iconst (v := (0 : Int32)) dX10_way_81 (by decide) ?_
          obtain ⟨N, f, e1, e2, hv⟩ := hv
          refine j_iast dX10_way_82 e1 e2 ?_
          generalize q_set h23 r17 _ = h24 at hv ⊢
          refine j_dup dX10_way_83 rfl ?_
          refine j_iconst (v := (2 : Int32)) dX10_way_84 (by decide) ?_
          refine j_iconst (v := (0 : Int32)) dX10_way_85 (by decide) ?_
          obtain ⟨N, f, e1, e2, hv⟩ := hv
          refine j_iast dX10_way_86 e1 e2 ?_
          generalize q_set h24 r17 _ = h25 at hv ⊢
          refine j_dup dX10_way_87 rfl ?_
          refine j_iconst (v := (3 : Int32)) dX10_way_88 (by decide) ?_
          refine j_iconst (v := (-1 : Int32)) dX10_way_89 (by decide) ?_
          obtain ⟨N, f, e1, e2, hv⟩ := hv
          refine j_iast dX10_way_90 e1 e2 ?_
          generalize q_set h25 r17 _ = h26 at hv ⊢
          refine j_astore dX10_way_91 (by decide) rfl rfl ?_
          refine j_iload_n dX10_way_93 rfl rfl ?_
          refine j_istore dX10_way_94 (by decide) rfl rfl ?_
          refine j_iload_n dX10_way_96 rfl rfl ?_
          refine j_istore dX10_way_97 (by decide) rfl rfl ?_
          exact hv
        · replace hv := hv.1 hc
          refine j_iconst (v := (-1 : Int32)) dX10_way_61 (by decide) ?_
          exact j_iret dX10_way_62 rfl hv
      · replace hv := hv.1 hc
        refine j_aload_n dX10_way_32 rfl rfl ?_
        refine j_iconst (v := (1 : Int32)) dX10_way_33 (by decide) ?_
        obtain ⟨⟨fs, e1⟩, hv⟩ := hv
        refine j_virtual (avs := [.int (1 : Int32)]) (rest := []) (i := x0) (kc' := mc) (ks' := ms) dX10_way_34 mt_X10_fail w_m_X10_89 w_in_X10_fail w_se_X10_fail rfl rfl (Nat.le_of_ble_eq_true rfl) (Nat.le_refl _) (by omega) (by omega) cl_X10.1 e1 hv (fun _ _ q9 => q9) ?_
        rintro _ h27 ⟨z28, rfl, hv⟩ -
        exact j_iret dX10_way_37 rfl hv
set_option maxRecDepth 20000 in
set_option maxHeartbeats 4000000 in
theorem v_X10_isSeen_46 {l : Launch} {d mc ms n0 kc ks : Nat} {Q : Option Value → qH → Prop} {QX : String → qH → Prop} (x0 : Nat) (x1 : Int32) (x2 : Int32) (x3 : Int32) (x4 : Int32) (x5 : Int32) (x6 : Int32) (x7 : Int32) (x8 : Int32) (x9 : Int32) {h : qH} (hv : qIF (x5 ≤ x9) (qB x8 (Q (some (.int x8)) h)) (qIF (x8 = 0) (qB x8 (Q (some (.int x8)) h)) (qCI l (d + 1) mJ9_floorDiv_7cf53 [.int ((((2 : Int32) * x9) * (x3 - x1)) + x5), .int ((2 : Int32) * x5)] h 0 0 (fun z2 h1 => qCI l (d + 1) mJ9_floorDiv_7cf53 [.int ((((2 : Int32) * x9) * (x4 - x2)) + x5), .int ((2 : Int32) * x5)] h1 0 0 (fun z4 h3 => qGR h3 x0 10 1 (fun r5 => qCI l (d + 1) mX10_at [.int (x1 + z2), .int (x2 + z4)] h3 0 0 (fun z7 h6 => qAL h6 r5 z7 (fun z8 => qDV x5 (qIF ((x6 + ((x7 * x9) / x5)) < z8) (q_J l (d + 2) mX10_isSeen mc ms Q QX n0 46 [some (.ref x0), some (.int x1), some (.int x2), some (.int x3), some (.int x4), some (.int x5), some (.int x6), some (.int x7), some (.int (0 : Int32)), some (.int (x9 + (1 : Int32))), none, none] [] h6 kc ks) (q_J l (d + 2) mX10_isSeen mc ms Q QX n0 46 [some (.ref x0), some (.int x1), some (.int x2), some (.int x3), some (.int x4), some (.int x5), some (.int x6), some (.int x7), some (.int (1 : Int32)), some (.int (x9 + (1 : Int32))), none, none] [] h6 kc ks)))))))))) : q_J l (d + 2) mX10_isSeen mc ms Q QX n0 46 [some (.ref x0), some (.int x1), some (.int x2), some (.int x3), some (.int x4), some (.int x5), some (.int x6), some (.int x7), some (.int x8), some (.int x9), none, none] [] h kc ks := by
  refine j_iload dX10_isSeen_46 rfl ?_
  refine j_iload dX10_isSeen_48 rfl ?_
  refine j_icmp_ge (tgt := 142) dX10_isSeen_50 (by decide) (fun hc => ?_) (fun hc => ?_)
  · replace hv := hv.1 hc
    refine j_iload dX10_isSeen_142 rfl ?_
    exact j_zret dX10_isSeen_144 rfl hv.1 hv.2
  · replace hv := hv.2 hc
    refine j_iload dX10_isSeen_53 rfl ?_
    refine j_if_eq (tgt := 142) dX10_isSeen_55 (by decide) (fun hc => ?_) (fun hc => ?_)
    · replace hv := hv.1 hc
      refine j_iload dX10_isSeen_142 rfl ?_
      exact j_zret dX10_isSeen_144 rfl hv.1 hv.2
    · replace hv := hv.2 hc
      refine j_iload_n dX10_isSeen_58 rfl rfl ?_
      refine j_iconst (v := (2 : Int32)) dX10_isSeen_59 (by decide) ?_
      refine j_iload dX10_isSeen_60 rfl ?_
      refine j_imul dX10_isSeen_62 ?_
      refine j_iload_n dX10_isSeen_63 rfl rfl ?_
      refine j_iload_n dX10_isSeen_64 rfl rfl ?_
      refine j_isub dX10_isSeen_65 ?_
      refine j_imul dX10_isSeen_66 ?_
      refine j_iload dX10_isSeen_67 rfl ?_
      refine j_iadd dX10_isSeen_69 ?_
      refine j_iconst (v := (2 : Int32)) dX10_isSeen_70 (by decide) ?_
      refine j_iload dX10_isSeen_71 rfl ?_
      refine j_imul dX10_isSeen_73 ?_
      refine j_static (avs := [.int ((((2 : Int32) * x9) * (x3 - x1)) + x5), .int ((2 : Int32) * x5)]) (rest := [.int x1]) (kc' := kc) (ks' := ks) dX10_isSeen_74 mt_J9_floorDiv_7cf53 w_m_X10_140 w_st_J9_floorDiv_7cf53 rfl rfl (Nat.le_of_ble_eq_true rfl) (Nat.le_refl _) (by omega) (by omega) hv (fun _ _ q9 => q9) ?_
      rintro _ h1 ⟨z2, rfl, hv⟩ -
      refine j_iadd dX10_isSeen_77 ?_
      refine j_istore dX10_isSeen_78 (by decide) rfl rfl ?_
      refine j_iload_n dX10_isSeen_80 rfl rfl ?_
      refine j_iconst (v := (2 : Int32)) dX10_isSeen_81 (by decide) ?_
      refine j_iload dX10_isSeen_82 rfl ?_
      refine j_imul dX10_isSeen_84 ?_
      refine j_iload dX10_isSeen_85 rfl ?_
      refine j_iload_n dX10_isSeen_87 rfl rfl ?_
      refine j_isub dX10_isSeen_88 ?_
      refine j_imul dX10_isSeen_89 ?_
      refine j_iload dX10_isSeen_90 rfl ?_
      refine j_iadd dX10_isSeen_92 ?_
      refine j_iconst (v := (2 : Int32)) dX10_isSeen_93 (by decide) ?_
      refine j_iload dX10_isSeen_94 rfl ?_
      refine j_imul dX10_isSeen_96 ?_
      refine j_static (avs := [.int ((((2 : Int32) * x9) * (x4 - x2)) + x5), .int ((2 : Int32) * x5)]) (rest := [.int x2]) (kc' := kc) (ks' := ks) dX10_isSeen_97 mt_J9_floorDiv_7cf53 w_m_X10_140 w_st_J9_floorDiv_7cf53 rfl rfl (Nat.le_of_ble_eq_true rfl) (Nat.le_refl _) (by omega) (by omega) hv (fun _ _ q9 => q9) ?_
      rintro _ h3 ⟨z4, rfl, hv⟩ -
      refine j_iadd dX10_isSeen_100 ?_
      refine j_istore dX10_isSeen_101 (by decide) rfl rfl ?_
      refine j_aload_n dX10_isSeen_103 rfl rfl ?_
      obtain ⟨fs, r5, e1, e2, hv⟩ := hv
      refine j_getf (k := 1) cl_X10 (by decide) w_f_X10_9 dX10_isSeen_104 e1 e2 ?_
      refine j_iload dX10_isSeen_107 rfl ?_
      refine j_iload dX10_isSeen_109 rfl ?_
      refine j_static (avs := [.int (x1 + z2), .int (x2 + z4)]) (rest := [.ref r5]) (kc' := kc) (ks' := ks) dX10_isSeen_111 mt_X10_at w_m_X10_93 w_st_X10_at rfl rfl (Nat.le_of_ble_eq_true rfl) (Nat.le_refl _) (by omega) (by omega) hv (fun _ _ q9 => q9) ?_
      rintro _ h6 ⟨z7, rfl, hv⟩ -
      obtain ⟨N, f, e1, e2, hv⟩ := hv
      refine j_iald dX10_isSeen_114 e1 e2 ?_
      generalize f _ = z8 at hv ⊢
      refine j_iload dX10_isSeen_115 rfl ?_
      refine j_iload dX10_isSeen_117 rfl ?_
      refine j_iload dX10_isSeen_119 rfl ?_
      refine j_imul dX10_isSeen_121 ?_
      refine j_iload dX10_isSeen_122 rfl ?_
      obtain ⟨hz, hv⟩ := hv
      refine j_idiv dX10_isSeen_124 hz ?_
      refine j_iadd dX10_isSeen_125 ?_
      refine j_icmp_gt (tgt := 133) dX10_isSeen_126 (by decide) (fun hc => ?_) (fun hc => ?_)
      · replace hv := hv.1 hc
        refine j_iconst (v := (0 : Int32)) dX10_isSeen_133 (by decide) ?_
        refine j_istore dX10_isSeen_134 (by decide) rfl rfl ?_
        refine j_iinc (w := (x9 + (1 : Int32))) dX10_isSeen_136 rfl (by rfl) (by decide) rfl rfl ?_
        refine j_goto (tgt := 46) dX10_isSeen_139 (by decide) ?_
        refine j_mask [true, true, true, true, true, true, true, true, true, true, false, false] rfl ?_
        exact hv
      · replace hv := hv.2 hc
        refine j_iconst (v := (1 : Int32)) dX10_isSeen_129 (by decide) ?_
        refine j_goto (tgt := 134) dX10_isSeen_130 (by decide) ?_
        refine j_istore dX10_isSeen_134 (by decide) rfl rfl ?_
        refine j_iinc (w := (x9 + (1 : Int32))) dX10_isSeen_136 rfl (by rfl) (by decide) rfl rfl ?_
        refine j_goto (tgt := 46) dX10_isSeen_139 (by decide) ?_
        refine j_mask [true, true, true, true, true, true, true, true, true, true, false, false] rfl ?_
        exact hv
set_option maxRecDepth 20000 in
set_option maxHeartbeats 4000000 in
theorem v_X10_isSeen {l : Launch} {d mc ms : Nat} {Q : Option Value → qH → Prop} {QX : String → qH → Prop} (x0 : Nat) (x1 : Int32) (x2 : Int32) (x3 : Int32) (x4 : Int32) {h : qH} (hv : qCI l (d + 1) mX10_distance [.int x1, .int x2, .int x3, .int x4] h 0 0 (fun z2 h1 => qGR h1 x0 10 1 (fun r3 => qCI l (d + 1) mX10_at [.int x1, .int x2] h1 0 0 (fun z5 h4 => qAL h4 r3 z5 (fun z6 => qGR h4 x0 10 1 (fun r7 => qCI l (d + 1) mX10_at [.int x3, .int x4] h4 0 0 (fun z9 h8 => qAL h8 r7 z9 (fun z10 => q_J l (d + 2) mX10_isSeen mc ms Q QX h.2 46 [some (.ref x0), some (.int x1), some (.int x2), some (.int x3), some (.int x4), some (.int z2), some (.int (z6 + (3 : Int32))), some (.int (z10 - (z6 + (3 : Int32)))), some (.int (1 : Int32)), some (.int (1 : Int32)), none, none] [] h8 mc ms)))))))) : q_Ct l (d + 2) mX10_isSeen [.ref x0, .int x1, .int x2, .int x3, .int x4] h mc ms Q QX := by
  refine q_body (by decide ) (by intro v hm; simp only [List.mem_cons, List.not_mem_nil, or_false] at hm; rcases hm with rfl | rfl | rfl | rfl | rfl <;> rfl) (Nat.le_of_ble_eq_true rfl) ?_
  refine j_pad 7 rfl ?_
  refine j_iload_n dX10_isSeen_0 rfl rfl ?_
  refine j_iload_n dX10_isSeen_1 rfl rfl ?_
  refine j_iload_n dX10_isSeen_2 rfl rfl ?_
  refine j_iload dX10_isSeen_3 rfl ?_
  refine j_static (avs := [.int x1, .int x2, .int x3, .int x4]) (rest := []) (kc' := mc) (ks' := ms) dX10_isSeen_5 mt_X10_distance w_m_X10_136 w_st_X10_distance rfl rfl (Nat.le_of_ble_eq_true rfl) (Nat.le_refl _) (by omega) (by omega) hv (fun _ _ q9 => q9) ?_
  rintro _ h1 ⟨z2, rfl, hv⟩ -
  refine j_istore dX10_isSeen_8 (by decide) rfl rfl ?_
  refine j_aload_n dX10_isSeen_10 rfl rfl ?_
  obtain ⟨fs, r3, e1, e2, hv⟩ := hv
  refine j_getf (k := 1) cl_X10 (by decide) w_f_X10_9 dX10_isSeen_11 e1 e2 ?_
  refine j_iload_n dX10_isSeen_14 rfl rfl ?_
  refine j_iload_n dX10_isSeen_15 rfl rfl ?_
  refine j_static (avs := [.int x1, .int x2]) (rest := [.ref r3]) (kc' := mc) (ks' := ms) dX10_isSeen_16 mt_X10_at w_m_X10_93 w_st_X10_at rfl rfl (Nat.le_of_ble_eq_true rfl) (Nat.le_refl _) (by omega) (by omega) hv (fun _ _ q9 => q9) ?_
  rintro _ h4 ⟨z5, rfl, hv⟩ -
  obtain ⟨N, f, e1, e2, hv⟩ := hv
  refine j_iald dX10_isSeen_19 e1 e2 ?_
  generalize f _ = z6 at hv ⊢
  refine j_iconst (v := (3 : Int32)) dX10_isSeen_20 (by decide) ?_
  refine j_iadd dX10_isSeen_21 ?_
  refine j_istore dX10_isSeen_22 (by decide) rfl rfl ?_
  refine j_aload_n dX10_isSeen_24 rfl rfl ?_
  obtain ⟨fs, r7, e1, e2, hv⟩ := hv
  refine j_getf (k := 1) cl_X10 (by decide) w_f_X10_9 dX10_isSeen_25 e1 e2 ?_
  refine j_iload_n dX10_isSeen_28 rfl rfl ?_
  refine j_iload dX10_isSeen_29 rfl ?_
  refine j_static (avs := [.int x3, .int x4]) (rest := [.ref r7]) (kc' := mc) (ks' := ms) dX10_isSeen_31 mt_X10_at w_m_X10_93 w_st_X10_at rfl rfl (Nat.le_of_ble_eq_true rfl) (Nat.le_refl _) (by omega) (by omega) hv (fun _ _ q9 => q9) ?_
  rintro _ h8 ⟨z9, rfl, hv⟩ -
  obtain ⟨N, f, e1, e2, hv⟩ := hv
  refine j_iald dX10_isSeen_34 e1 e2 ?_
  generalize f _ = z10 at hv ⊢
  refine j_iload dX10_isSeen_35 rfl ?_
  refine j_isub dX10_isSeen_37 ?_
  refine j_istore dX10_isSeen_38 (by decide) rfl rfl ?_
  refine j_iconst (v := (1 : Int32)) dX10_isSeen_40 (by decide) ?_
  refine j_istore dX10_isSeen_41 (by decide) rfl rfl ?_
  refine j_iconst (v := (1 : Int32)) dX10_isSeen_43 (by decide) ?_
  refine j_istore dX10_isSeen_44 (by decide) rfl rfl ?_
  exact hv
set_option maxRecDepth 20000 in
set_option maxHeartbeats 4000000 in
theorem v_X10_distance {l : Launch} {d mc ms : Nat} {Q : Option Value → qH → Prop} {QX : String → qH → Prop} (x0 : Int32) (x1 : Int32) (x2 : Int32) (x3 : Int32) {h : qH} (hv : Q (some (.int (if (if 0 ≤ (x0 - x2) then (x0 - x2) else 0 - (x0 - x2)) < (if 0 ≤ (x1 - x3) then (x1 - x3) else 0 - (x1 - x3)) then (if 0 ≤ (x1 - x3) then (x1 - x3) else 0 - (x1 - x3)) else (if 0 ≤ (x0 - x2) then (x0 - x2) else 0 - (x0 - x2))))) h) : q_Ct l (d + 1) mX10_distance [.int x0, .int x1, .int x2, .int x3] h mc ms Q QX := by
  refine q_body (by decide ) (by intro v hm; simp only [List.mem_cons, List.not_mem_nil, or_false] at hm; rcases hm with rfl | rfl | rfl | rfl <;> rfl) (Nat.le_of_ble_eq_true rfl) ?_
  refine j_pad 0 rfl ?_
  refine j_iload_n dX10_distance_0 rfl rfl ?_
  refine j_iload_n dX10_distance_1 rfl rfl ?_
  refine j_isub dX10_distance_2 ?_
  refine j_mabs dX10_distance_3 w_m_X10_112 w_st_abs w_ini_Math w_co_abs (Nat.le_of_ble_eq_true rfl) (by omega) ?_
  refine j_iload_n dX10_distance_6 rfl rfl ?_
  refine j_iload_n dX10_distance_7 rfl rfl ?_
  refine j_isub dX10_distance_8 ?_
  refine j_mabs dX10_distance_9 w_m_X10_112 w_st_abs w_ini_Math w_co_abs (Nat.le_of_ble_eq_true rfl) (by omega) ?_
  refine j_mmax dX10_distance_12 w_m_X10_101 w_st_max w_ini_Math w_co_max (Nat.le_of_ble_eq_true rfl) (by omega) ?_
  exact j_iret dX10_distance_15 rfl hv
set_option maxRecDepth 20000 in
set_option maxHeartbeats 4000000 in
theorem v_X10_octant_3 {l : Launch} {d mc ms n0 kc ks : Nat} {Q : Option Value → qH → Prop} {QX : String → qH → Prop} (x0 : Int32) (x1 : Int32) (x2 : Int32) (x3 : Int32) (x4 : Int32) {h : qH} (hv : qIF ((8 : Int32) ≤ x4) (Q (some (.int (8 : Int32))) h) (qSL 2 x4 (fun z1 => qCI l (d + 0) mJ6_signum_0f7a4 [.int (x0 - x2)] h 0 0 (fun z3 h2 => qIF (z1 = z3) (qSL 3 x4 (fun z4 => qCI l (d + 0) mJ6_signum_0f7a4 [.int (x1 - x3)] h2 0 0 (fun z6 h5 => qIF (z4 = z6) (Q (some (.int x4)) h5) (q_J l (d + 1) mX10_octant mc ms Q QX n0 3 [some (.int x0), some (.int x1), some (.int x2), some (.int x3), some (.int (x4 + (1 : Int32)))] [] h5 kc ks)))) (q_J l (d + 1) mX10_octant mc ms Q QX n0 3 [some (.int x0), some (.int x1), some (.int x2), some (.int x3), some (.int (x4 + (1 : Int32)))] [] h2 kc ks))))) : q_J l (d + 1) mX10_octant mc ms Q QX n0 3 [some (.int x0), some (.int x1), some (.int x2), some (.int x3), some (.int x4)] [] h kc ks := by
  refine j_iload dX10_octant_3 rfl ?_
  refine j_bipush (v := (8 : Int32)) dX10_octant_5 (by decide) ?_
  refine j_icmp_ge (tgt := 49) dX10_octant_7 (by decide) (fun hc => ?_) (fun hc => ?_)
  · replace hv := hv.1 hc
    refine j_bipush (v := (8 : Int32)) dX10_octant_49 (by decide) ?_
    exact j_iret dX10_octant_51 rfl hv
  · replace hv := hv.2 hc
    refine j_gets (k := 2) (by decide) w_f_X10_106 dX10_octant_10 ?_
    refine j_iload dX10_octant_13 rfl ?_
    obtain ⟨e1, hv⟩ := hv
    refine j_sald (k := 2) (by decide) dX10_octant_15 e1 ?_
    generalize q_sF 2 _ = z1 at hv ⊢
    refine j_iload_n dX10_octant_16 rfl rfl ?_
    refine j_iload_n dX10_octant_17 rfl rfl ?_
    refine j_isub dX10_octant_18 ?_
    refine j_static (avs := [.int (x0 - x2)]) (rest := [.int z1]) (kc' := kc) (ks' := ks) dX10_octant_19 mt_J6_signum_0f7a4 w_m_X10_143 w_st_J6_signum_0f7a4 rfl rfl (Nat.le_of_ble_eq_true rfl) (Nat.le_refl _) (by omega) (by omega) hv (fun _ _ q9 => q9) ?_
    rintro _ h2 ⟨z3, rfl, hv⟩ -
    refine j_icmp_ne (tgt := 43) dX10_octant_22 (by decide) (fun hc => ?_) (fun hc => ?_)
    · replace hv := hv.2 hc
      refine j_iinc (w := (x4 + (1 : Int32))) dX10_octant_43 rfl (by rfl) (by decide) rfl rfl ?_
      refine j_goto (tgt := 3) dX10_octant_46 (by decide) ?_
      exact hv
    · replace hv := hv.1 hc
      refine j_gets (k := 3) (by decide) w_f_X10_109 dX10_octant_25 ?_
      refine j_iload dX10_octant_28 rfl ?_
      obtain ⟨e1, hv⟩ := hv
      refine j_sald (k := 3) (by decide) dX10_octant_30 e1 ?_
      generalize q_sF 3 _ = z4 at hv ⊢
      refine j_iload_n dX10_octant_31 rfl rfl ?_
      refine j_iload_n dX10_octant_32 rfl rfl ?_
      refine j_isub dX10_octant_33 ?_
      refine j_static (avs := [.int (x1 - x3)]) (rest := [.int z4]) (kc' := kc) (ks' := ks) dX10_octant_34 mt_J6_signum_0f7a4 w_m_X10_143 w_st_J6_signum_0f7a4 rfl rfl (Nat.le_of_ble_eq_true rfl) (Nat.le_refl _) (by omega) (by omega) hv (fun _ _ q9 => q9) ?_
      rintro _ h5 ⟨z6, rfl, hv⟩ -
      refine j_icmp_ne (tgt := 43) dX10_octant_37 (by decide) (fun hc => ?_) (fun hc => ?_)
      · replace hv := hv.2 hc
        refine j_iinc (w := (x4 + (1 : Int32))) dX10_octant_43 rfl (by rfl) (by decide) rfl rfl ?_
        refine j_goto (tgt := 3) dX10_octant_46 (by decide) ?_
        exact hv
      · replace hv := hv.1 hc
        refine j_iload dX10_octant_40 rfl ?_
        exact j_iret dX10_octant_42 rfl hv
set_option maxRecDepth 20000 in
set_option maxHeartbeats 4000000 in
theorem v_X10_octant {l : Launch} {d mc ms : Nat} {Q : Option Value → qH → Prop} {QX : String → qH → Prop} (x0 : Int32) (x1 : Int32) (x2 : Int32) (x3 : Int32) {h : qH} (hv : q_J l (d + 1) mX10_octant mc ms Q QX h.2 3 [some (.int x0), some (.int x1), some (.int x2), some (.int x3), some (.int (0 : Int32))] [] h mc ms) : q_Ct l (d + 1) mX10_octant [.int x0, .int x1, .int x2, .int x3] h mc ms Q QX := by
  refine q_body (by decide ) (by intro v hm; simp only [List.mem_cons, List.not_mem_nil, or_false] at hm; rcases hm with rfl | rfl | rfl | rfl <;> rfl) (Nat.le_of_ble_eq_true rfl) ?_
  refine j_pad 1 rfl ?_
  refine j_iconst (v := (0 : Int32)) dX10_octant_0 (by decide) ?_
  refine j_istore dX10_octant_1 (by decide) rfl rfl ?_
  exact hv
set_option maxRecDepth 20000 in
set_option maxHeartbeats 4000000 in
theorem v_X10_sees_23 {l : Launch} {d mc ms n0 kc ks : Nat} {Q : Option Value → qH → Prop} {QX : String → qH → Prop} (x0 : Nat) (x1 : Int32) (x2 : Int32) (x3 : Int32) (x4 : Int32) (y0 : Nat) (y1 : Int32) {h : qH} (hv : qPI h y0 10 0 y1 (fun h1 => qGI h1 x0 10 0 (fun z2 => qIF (z2 = 0) (qOB h1 x0 10 (qCI l (d + 2) mX10_isSeen [.ref x0, .int x1, .int x2, .int x3, .int x4] h1 0 0 (fun z4 h3 => qIF (z4 = 0) (Q (some (.int (0 : Int32))) h3) (Q (some (.int (1 : Int32))) h3)))) (Q (some (.int (0 : Int32))) h1)))) : q_J l (d + 3) mX10_sees mc ms Q QX n0 23 [some (.ref x0), some (.int x1), some (.int x2), some (.int x3), some (.int x4)] [.int y1, .ref y0] h kc ks := by
  obtain ⟨fs, e1, e2, hv⟩ := hv
  refine j_put (k := 0) (ty0 := tyX10) cl_X10 (pf_X10_0) w_f_X10_71 dX10_sees_23 (fun g ad => q_nI g ad _) e1 e2 ?_
  generalize q_set h y0 _ = h1 at hv ⊢
  refine j_aload_n dX10_sees_26 rfl rfl ?_
  obtain ⟨fs, z2, e1, e2, hv⟩ := hv
  refine j_getf (k := 0) cl_X10 (by decide) w_f_X10_71 dX10_sees_27 e1 e2 ?_
  refine j_if_ne (tgt := 49) dX10_sees_30 (by decide) (fun hc => ?_) (fun hc => ?_)
  · replace hv := hv.2 hc
    refine j_iconst (v := (0 : Int32)) dX10_sees_49 (by decide) ?_
    exact j_zret dX10_sees_50 rfl (by decide) hv
  · replace hv := hv.1 hc
    refine j_aload_n dX10_sees_33 rfl rfl ?_
    refine j_iload_n dX10_sees_34 rfl rfl ?_
    refine j_iload_n dX10_sees_35 rfl rfl ?_
    refine j_iload_n dX10_sees_36 rfl rfl ?_
    refine j_iload dX10_sees_37 rfl ?_
    obtain ⟨⟨fs, e1⟩, hv⟩ := hv
    refine j_virtual (avs := [.int x1, .int x2, .int x3, .int x4]) (rest := []) (i := x0) (kc' := kc) (ks' := ks) dX10_sees_39 mt_X10_isSeen w_m_X10_148 w_in_X10_isSeen w_se_X10_isSeen rfl rfl (Nat.le_of_ble_eq_true rfl) (Nat.le_refl _) (by omega) (by omega) cl_X10.1 e1 hv (fun _ _ q9 => q9) ?_
    rintro _ h3 ⟨z4, rfl, hv⟩ -
    refine j_if_eq (tgt := 49) dX10_sees_42 (by decide) (fun hc => ?_) (fun hc => ?_)
    · replace hv := hv.1 hc
      refine j_iconst (v := (0 : Int32)) dX10_sees_49 (by decide) ?_
      exact j_zret dX10_sees_50 rfl (by decide) hv
    · replace hv := hv.2 hc
      refine j_iconst (v := (1 : Int32)) dX10_sees_45 (by decide) ?_
      refine j_goto (tgt := 50) dX10_sees_46 (by decide) ?_
      exact j_zret dX10_sees_50 rfl (by decide) hv
set_option maxRecDepth 20000 in
set_option maxHeartbeats 4000000 in
theorem v_X10_sees_22 {l : Launch} {d mc ms n0 kc ks : Nat} {Q : Option Value → qH → Prop} {QX : String → qH → Prop} (x0 : Nat) (x1 : Int32) (x2 : Int32) (x3 : Int32) (x4 : Int32) (y0 : Nat) {h : qH} (hv : q_J l (d + 3) mX10_sees mc ms Q QX n0 23 [some (.ref x0), some (.int x1), some (.int x2), some (.int x3), some (.int x4)] [.int (1 : Int32), .ref y0] h kc ks) : q_J l (d + 3) mX10_sees mc ms Q QX n0 22 [some (.ref x0), some (.int x1), some (.int x2), some (.int x3), some (.int x4)] [.ref y0] h kc ks := by
  refine j_iconst (v := (1 : Int32)) dX10_sees_22 (by decide) ?_
  exact hv
set_option maxRecDepth 20000 in
set_option maxHeartbeats 4000000 in
theorem v_X10_sees {l : Launch} {d mc ms : Nat} {Q : Option Value → qH → Prop} {QX : String → qH → Prop} (x0 : Nat) (x1 : Int32) (x2 : Int32) (x3 : Int32) (x4 : Int32) {h : qH} (hv : qCI l (d + 2) mX10_isPlace [.int x1, .int x2] h 0 0 (fun z2 h1 => qIF (z2 = 0) (q_J l (d + 3) mX10_sees mc ms Q QX h.2 22 [some (.ref x0), some (.int x1), some (.int x2), some (.int x3), some (.int x4)] [.ref x0] h1 mc ms) (qCI l (d + 2) mX10_isPlace [.int x3, .int x4] h1 0 0 (fun z4 h3 => qIF (z4 = 0) (q_J l (d + 3) mX10_sees mc ms Q QX h.2 22 [some (.ref x0), some (.int x1), some (.int x2), some (.int x3), some (.int x4)] [.ref x0] h3 mc ms) (q_J l (d + 3) mX10_sees mc ms Q QX h.2 23 [some (.ref x0), some (.int x1), some (.int x2), some (.int x3), some (.int x4)] [.int (0 : Int32), .ref x0] h3 mc ms))))) : q_Ct l (d + 3) mX10_sees [.ref x0, .int x1, .int x2, .int x3, .int x4] h mc ms Q QX := by
  refine q_body (by decide ) (by intro v hm; simp only [List.mem_cons, List.not_mem_nil, or_false] at hm; rcases hm with rfl | rfl | rfl | rfl | rfl <;> rfl) (Nat.le_of_ble_eq_true rfl) ?_
  refine j_pad 0 rfl ?_
  refine j_aload_n dX10_sees_0 rfl rfl ?_
  refine j_iload_n dX10_sees_1 rfl rfl ?_
  refine j_iload_n dX10_sees_2 rfl rfl ?_
  refine j_static (avs := [.int x1, .int x2]) (rest := [.ref x0]) (kc' := mc) (ks' := ms) dX10_sees_3 mt_X10_isPlace w_m_X10_81 w_st_X10_isPlace rfl rfl (Nat.le_of_ble_eq_true rfl) (Nat.le_refl _) (by omega) (by omega) hv (fun _ _ q9 => q9) ?_
  rintro _ h1 ⟨z2, rfl, hv⟩ -
  refine j_if_eq (tgt := 22) dX10_sees_6 (by decide) (fun hc => ?_) (fun hc => ?_)
  · replace hv := hv.1 hc
    exact hv
  · replace hv := hv.2 hc
    refine j_iload_n dX10_sees_9 rfl rfl ?_
    refine j_iload dX10_sees_10 rfl ?_
    refine j_static (avs := [.int x3, .int x4]) (rest := [.ref x0]) (kc' := mc) (ks' := ms) dX10_sees_12 mt_X10_isPlace w_m_X10_81 w_st_X10_isPlace rfl rfl (Nat.le_of_ble_eq_true rfl) (Nat.le_refl _) (by omega) (by omega) hv (fun _ _ q9 => q9) ?_
    rintro _ h3 ⟨z4, rfl, hv⟩ -
    refine j_if_eq (tgt := 22) dX10_sees_15 (by decide) (fun hc => ?_) (fun hc => ?_)
    · replace hv := hv.1 hc
      exact hv
    · replace hv := hv.2 hc
      refine j_iconst (v := (0 : Int32)) dX10_sees_18 (by decide) ?_
      refine j_goto (tgt := 23) dX10_sees_19 (by decide) ?_
      exact hv
set_option maxRecDepth 20000 in
set_option maxHeartbeats 4000000 in
theorem v_X10_addTarget {l : Launch} {d mc ms : Nat} {Q : Option Value → qH → Prop} {QX : String → qH → Prop} (hkc : 1 ≤ mc) (hks : 4 ≤ ms) (x0 : Nat) (x1 : Int32) (x2 : Int32) (x3 : Int32) (x4 : Int32) {h : qH} (hv : qPI h x0 10 0 (0 : Int32) (fun h1 => qCI l (d + 1) mX10_isPlace [.int x1, .int x2] h1 0 0 (fun z3 h2 => qIF (z3 = 0) (qOB h2 x0 10 (qCI l (d + 1) mX10_fail [.ref x0, .int (1 : Int32)] h2 0 0 (fun z28 h27 => Q (some (.int z28)) h27))) (qCI l (d + 1) mX10_isIn [.int x3, .int (1 : Int32), .int (100 : Int32)] h2 0 0 (fun z5 h4 => qIF (z5 = 0) (qOB h4 x0 10 (qCI l (d + 1) mX10_fail [.ref x0, .int (2 : Int32)] h4 0 0 (fun z7 h6 => Q (some (.int z7)) h6))) (qCI l (d + 1) mX10_isIn [.int x4, .int (1 : Int32), .int (4 : Int32)] h4 0 0 (fun z9 h8 => qIF (z9 = 0) (qOB h8 x0 10 (qCI l (d + 1) mX10_fail [.ref x0, .int (2 : Int32)] h8 0 0 (fun z26 h25 => Q (some (.int z26)) h25))) (qGI h8 x0 10 5 (fun z10 => qIF (z10 = (12 : Int32)) (qOB h8 x0 10 (qCI l (d + 1) mX10_fail [.ref x0, .int (3 : Int32)] h8 0 0 (fun z24 h23 => Q (some (.int z24)) h23))) (qNI h8 4 (fun r11 h12 => qAS h12 r11 (0 : Int32) x1 (fun h13 => qAS h13 r11 (1 : Int32) x2 (fun h14 => qAS h14 r11 (2 : Int32) x3 (fun h15 => qAS h15 r11 (3 : Int32) x4 (fun h16 => qGR h16 x0 10 6 (fun r17 => qGI h16 x0 10 5 (fun z18 => qCP h16 r11 (0 : Int32) r17 ((4 : Int32) * z18) (4 : Int32) (fun h19 => qGI h19 x0 10 5 (fun z20 => qPI h19 x0 10 5 (z20 + (1 : Int32)) (fun h21 => qGI h21 x0 10 5 (fun z22 => Q (some (.int (z22 - (1 : Int32)))) h21))))))))))))))))))))) : q_Ct l (d + 2) mX10_addTarget [.ref x0, .int x1, .int x2, .int x3, .int x4] h mc ms Q QX := by
  refine q_body (by decide ) (by intro v hm; simp only [List.mem_cons, List.not_mem_nil, or_false] at hm; rcases hm with rfl | rfl | rfl | rfl | rfl <;> rfl) (Nat.le_of_ble_eq_true rfl) ?_
  refine j_pad 1 rfl ?_
  refine j_aload_n dX10_addTarget_0 rfl rfl ?_
  refine j_iconst (v := (0 : Int32)) dX10_addTarget_1 (by decide) ?_
  obtain ⟨fs, e1, e2, hv⟩ := hv
  refine j_put (k := 0) (ty0 := tyX10) cl_X10 (pf_X10_0) w_f_X10_71 dX10_addTarget_2 (fun g ad => q_nI g ad _) e1 e2 ?_
  generalize q_set h x0 _ = h1 at hv ⊢
  refine j_iload_n dX10_addTarget_5 rfl rfl ?_
  refine j_iload_n dX10_addTarget_6 rfl rfl ?_
  refine j_static (avs := [.int x1, .int x2]) (rest := []) (kc' := mc) (ks' := ms) dX10_addTarget_7 mt_X10_isPlace w_m_X10_81 w_st_X10_isPlace rfl rfl (Nat.le_of_ble_eq_true rfl) (Nat.le_refl _) (by omega) (by omega) hv (fun _ _ q9 => q9) ?_
  rintro _ h2 ⟨z3, rfl, hv⟩ -
  refine j_if_ne (tgt := 19) dX10_addTarget_10 (by decide) (fun hc => ?_) (fun hc => ?_)
  · replace hv := hv.2 hc
    refine j_iload_n dX10_addTarget_19 rfl rfl ?_
    refine j_iconst (v := (1 : Int32)) dX10_addTarget_20 (by decide) ?_
    refine j_bipush (v := (100 : Int32)) dX10_addTarget_21 (by decide) ?_
    refine j_static (avs := [.int x3, .int (1 : Int32), .int (100 : Int32)]) (rest := []) (kc' := mc) (ks' := ms) dX10_addTarget_23 mt_X10_isIn w_m_X10_74 w_st_X10_isIn rfl rfl (Nat.le_of_ble_eq_true rfl) (Nat.le_refl _) (by omega) (by omega) hv (fun _ _ q9 => q9) ?_
    rintro _ h4 ⟨z5, rfl, hv⟩ -
    refine j_if_eq (tgt := 39) dX10_addTarget_26 (by decide) (fun hc => ?_) (fun hc => ?_)
    · replace hv := hv.1 hc
      refine j_aload_n dX10_addTarget_39 rfl rfl ?_
      refine j_iconst (v := (2 : Int32)) dX10_addTarget_40 (by decide) ?_
      obtain ⟨⟨fs, e1⟩, hv⟩ := hv
      refine j_virtual (avs := [.int (2 : Int32)]) (rest := []) (i := x0) (kc' := mc) (ks' := ms) dX10_addTarget_41 mt_X10_fail w_m_X10_89 w_in_X10_fail w_se_X10_fail rfl rfl (Nat.le_of_ble_eq_true rfl) (Nat.le_refl _) (by omega) (by omega) cl_X10.1 e1 hv (fun _ _ q9 => q9) ?_
      rintro _ h6 ⟨z7, rfl, hv⟩ -
      exact j_iret dX10_addTarget_44 rfl hv
    · replace hv := hv.2 hc
      refine j_iload dX10_addTarget_29 rfl ?_
      refine j_iconst (v := (1 : Int32)) dX10_addTarget_31 (by decide) ?_
      refine j_iconst (v := (4 : Int32)) dX10_addTarget_32 (by decide) ?_
      refine j_static (avs := [.int x4, .int (1 : Int32), .int (4 : Int32)]) (rest := []) (kc' := mc) (ks' := ms) dX10_addTarget_33 mt_X10_isIn w_m_X10_74 w_st_X10_isIn rfl rfl (Nat.le_of_ble_eq_true rfl) (Nat.le_refl _) (by omega) (by omega) hv (fun _ _ q9 => q9) ?_
      rintro _ h8 ⟨z9, rfl, hv⟩ -
      refine j_if_ne (tgt := 45) dX10_addTarget_36 (by decide) (fun hc => ?_) (fun hc => ?_)
      · replace hv := hv.2 hc
        refine j_aload_n dX10_addTarget_45 rfl rfl ?_
        obtain ⟨fs, z10, e1, e2, hv⟩ := hv
        refine j_getf (k := 5) cl_X10 (by decide) w_f_X10_78 dX10_addTarget_46 e1 e2 ?_
        refine j_bipush (v := (12 : Int32)) dX10_addTarget_49 (by decide) ?_
        refine j_icmp_ne (tgt := 60) dX10_addTarget_51 (by decide) (fun hc => ?_) (fun hc => ?_)
        · replace hv := hv.2 hc
          refine j_iconst (v := (4 : Int32)) dX10_addTarget_60 (by decide) ?_
          unfold qNI at hv
          refine j_newI (N := 4) w_ar_int dX10_addTarget_61 (by decide) (by decide) (by decide) (kc' := (mc - 1)) (ks' := (ms - 4)) (by omega) (by omega) ?_
          generalize q_push h8 _ = h12 at hv ⊢
          generalize (h8).2 = r11 at hv ⊢
          refine j_dup dX10_addTarget_63 rfl ?_
          refine j_iconst (v := (0 : Int32)) dX10_addTarget_64 (by decide) ?_
          refine j_iload_n dX10_addTarget_65 rfl rfl ?_
          obtain ⟨N, f, e1, e2, hv⟩ := hv
          refine j_iast dX10_addTarget_66 e1 e2 ?_
          generalize q_set h12 r11 _ = h13 at hv ⊢
          refine j_dup dX10_addTarget_67 rfl ?_
          refine j_iconst (v := (1 : Int32)) dX10_addTarget_68 (by decide) ?_
          refine j_iload_n dX10_addTarget_69 rfl rfl ?_
          obtain ⟨N, f, e1, e2, hv⟩ := hv
          refine j_iast dX10_addTarget_70 e1 e2 ?_
          generalize q_set h13 r11 _ = h14 at hv ⊢
          refine j_dup dX10_addTarget_71 rfl ?_
          refine j_iconst (v := (2 : Int32)) dX10_addTarget_72 (by decide) ?_
          refine j_iload_n dX10_addTarget_73 rfl rfl ?_
          obtain ⟨N, f, e1, e2, hv⟩ := hv
          refine j_iast dX10_addTarget_74 e1 e2 ?_
          generalize q_set h14 r11 _ = h15 at hv ⊢
          refine j_dup dX10_addTarget_75 rfl ?_
          refine j_iconst (v := (3 : Int32)) dX10_addTarget_76 (by decide) ?_
          refine j_iload dX10_addTarget_77 rfl ?_
          obtain ⟨N, f, e1, e2, hv⟩ := hv
          refine j_iast dX10_addTarget_79 e1 e2 ?_
          generalize q_set h15 r11 _ = h16 at hv ⊢
          refine j_astore dX10_addTarget_80 (by decide) rfl rfl ?_
          refine j_aload dX10_addTarget_82 rfl ?_
          refine j_iconst (v := (0 : Int32)) dX10_addTarget_84 (by decide) ?_
          refine j_aload_n dX10_addTarget_85 rfl rfl ?_
          obtain ⟨fs, r17, e1, e2, hv⟩ := hv
          refine j_getf (k := 6) cl_X10 (by decide) w_f_X10_24 dX10_addTarget_86 e1 e2 ?_
          refine j_iconst (v := (4 : Int32)) dX10_addTarget_89 (by decide) ?_
          refine j_aload_n dX10_addTarget_90 rfl rfl ?_
          obtain ⟨fs, z18, e1, e2, hv⟩ := hv
          refine j_getf (k := 5) cl_X10 (by decide) w_f_X10_78 dX10_addTarget_91 e1 e2 ?_
          refine j_imul dX10_addTarget_94 ?_
          refine j_iconst (v := (4 : Int32)) dX10_addTarget_95 (by decide) ?_
          obtain ⟨N0, N1, f0, f1, e1, e2, q1, q2, q3, q4, q5, hv⟩ := hv
          refine j_copy dX10_addTarget_96 w_m_X10_151 w_na_copy w_st_copy w_ini_System (Nat.le_of_ble_eq_true rfl) (by omega) e1 e2 q1 q2 q3 q4 q5 ?_
          generalize q_set h16 r17 _ = h19 at hv ⊢
          refine j_aload_n dX10_addTarget_99 rfl rfl ?_
          refine j_dup dX10_addTarget_100 rfl ?_
          obtain ⟨fs, z20, e1, e2, hv⟩ := hv
          refine j_getf (k := 5) cl_X10 (by decide) w_f_X10_78 dX10_addTarget_101 e1 e2 ?_
          refine j_iconst (v := (1 : Int32)) dX10_addTarget_104 (by decide) ?_
          refine j_iadd dX10_addTarget_105 ?_
          obtain ⟨fs, e1, e2, hv⟩ := hv
          refine j_put (k := 5) (ty0 := tyX10) cl_X10 (pf_X10_5) w_f_X10_78 dX10_addTarget_106 (fun g ad => q_nI g ad _) e1 e2 ?_
          generalize q_set h19 x0 _ = h21 at hv ⊢
          refine j_aload_n dX10_addTarget_109 rfl rfl ?_
          obtain ⟨fs, z22, e1, e2, hv⟩ := hv
          refine j_getf (k := 5) cl_X10 (by decide) w_f_X10_78 dX10_addTarget_110 e1 e2 ?_
          refine j_iconst (v := (1 : Int32)) dX10_addTarget_113 (by decide) ?_
          refine j_isub dX10_addTarget_114 ?_
          exact j_iret dX10_addTarget_115 rfl hv
        · replace hv := hv.1 hc
          refine j_aload_n dX10_addTarget_54 rfl rfl ?_
          refine j_iconst (v := (3 : Int32)) dX10_addTarget_55 (by decide) ?_
          obtain ⟨⟨fs, e1⟩, hv⟩ := hv
          refine j_virtual (avs := [.int (3 : Int32)]) (rest := []) (i := x0) (kc' := mc) (ks' := ms) dX10_addTarget_56 mt_X10_fail w_m_X10_89 w_in_X10_fail w_se_X10_fail rfl rfl (Nat.le_of_ble_eq_true rfl) (Nat.le_refl _) (by omega) (by omega) cl_X10.1 e1 hv (fun _ _ q9 => q9) ?_
          rintro _ h23 ⟨z24, rfl, hv⟩ -
          exact j_iret dX10_addTarget_59 rfl hv
      · replace hv := hv.1 hc
        refine j_aload_n dX10_addTarget_39 rfl rfl ?_
        refine j_iconst (v := (2 : Int32)) dX10_addTarget_40 (by decide) ?_
        obtain ⟨⟨fs, e1⟩, hv⟩ := hv
        refine j_virtual (avs := [.int (2 : Int32)]) (rest := []) (i := x0) (kc' := mc) (ks' := ms) dX10_addTarget_41 mt_X10_fail w_m_X10_89 w_in_X10_fail w_se_X10_fail rfl rfl (Nat.le_of_ble_eq_true rfl) (Nat.le_refl _) (by omega) (by omega) cl_X10.1 e1 hv (fun _ _ q9 => q9) ?_
        rintro _ h25 ⟨z26, rfl, hv⟩ -
        exact j_iret dX10_addTarget_44 rfl hv
  · replace hv := hv.1 hc
    refine j_aload_n dX10_addTarget_13 rfl rfl ?_
    refine j_iconst (v := (1 : Int32)) dX10_addTarget_14 (by decide) ?_
    obtain ⟨⟨fs, e1⟩, hv⟩ := hv
    refine j_virtual (avs := [.int (1 : Int32)]) (rest := []) (i := x0) (kc' := mc) (ks' := ms) dX10_addTarget_15 mt_X10_fail w_m_X10_89 w_in_X10_fail w_se_X10_fail rfl rfl (Nat.le_of_ble_eq_true rfl) (Nat.le_refl _) (by omega) (by omega) cl_X10.1 e1 hv (fun _ _ q9 => q9) ?_
    rintro _ h27 ⟨z28, rfl, hv⟩ -
    exact j_iret dX10_addTarget_18 rfl hv
set_option maxRecDepth 20000 in
set_option maxHeartbeats 4000000 in
theorem v_X10_value {l : Launch} {d mc ms : Nat} {Q : Option Value → qH → Prop} {QX : String → qH → Prop} (x0 : Nat) (x1 : Int32) {h : qH} (hv : qGR h x0 10 6 (fun r1 => qAL h r1 (((4 : Int32) * x1) + (2 : Int32)) (fun z2 => Q (some (.int z2)) h))) : q_Ct l (d + 0) mX10_value [.ref x0, .int x1] h mc ms Q QX := by
  refine q_body (by decide ) (by intro v hm; simp only [List.mem_cons, List.not_mem_nil, or_false] at hm; rcases hm with rfl | rfl <;> rfl) (Nat.le_of_ble_eq_true rfl) ?_
  refine j_pad 0 rfl ?_
  refine j_aload_n dX10_value_0 rfl rfl ?_
  obtain ⟨fs, r1, e1, e2, hv⟩ := hv
  refine j_getf (k := 6) cl_X10 (by decide) w_f_X10_24 dX10_value_1 e1 e2 ?_
  refine j_iconst (v := (4 : Int32)) dX10_value_4 (by decide) ?_
  refine j_iload_n dX10_value_5 rfl rfl ?_
  refine j_imul dX10_value_6 ?_
  refine j_iconst (v := (2 : Int32)) dX10_value_7 (by decide) ?_
  refine j_iadd dX10_value_8 ?_
  obtain ⟨N, f, e1, e2, hv⟩ := hv
  refine j_iald dX10_value_9 e1 e2 ?_
  generalize f _ = z2 at hv ⊢
  exact j_iret dX10_value_10 rfl hv
set_option maxRecDepth 20000 in
set_option maxHeartbeats 4000000 in
theorem v_X10_need {l : Launch} {d mc ms : Nat} {Q : Option Value → qH → Prop} {QX : String → qH → Prop} (x0 : Nat) (x1 : Int32) {h : qH} (hv : qGR h x0 10 6 (fun r1 => qAL h r1 (((4 : Int32) * x1) + (3 : Int32)) (fun z2 => Q (some (.int z2)) h))) : q_Ct l (d + 0) mX10_need [.ref x0, .int x1] h mc ms Q QX := by
  refine q_body (by decide ) (by intro v hm; simp only [List.mem_cons, List.not_mem_nil, or_false] at hm; rcases hm with rfl | rfl <;> rfl) (Nat.le_of_ble_eq_true rfl) ?_
  refine j_pad 0 rfl ?_
  refine j_aload_n dX10_need_0 rfl rfl ?_
  obtain ⟨fs, r1, e1, e2, hv⟩ := hv
  refine j_getf (k := 6) cl_X10 (by decide) w_f_X10_24 dX10_need_1 e1 e2 ?_
  refine j_iconst (v := (4 : Int32)) dX10_need_4 (by decide) ?_
  refine j_iload_n dX10_need_5 rfl rfl ?_
  refine j_imul dX10_need_6 ?_
  refine j_iconst (v := (3 : Int32)) dX10_need_7 (by decide) ?_
  refine j_iadd dX10_need_8 ?_
  obtain ⟨N, f, e1, e2, hv⟩ := hv
  refine j_iald dX10_need_9 e1 e2 ?_
  generalize f _ = z2 at hv ⊢
  exact j_iret dX10_need_10 rfl hv
set_option maxRecDepth 20000 in
set_option maxHeartbeats 4000000 in
theorem v_X10_allOctants_9 {l : Launch} {d mc ms n0 kc ks : Nat} {Q : Option Value → qH → Prop} {QX : String → qH → Prop} (x0 : Nat) (x1 : Int32) (x2 : Int32) (x3 : Int32) {h : qH} (hv : qAL h x0 (9 : Int32) (fun z1 => qIF (z1 ≤ x3) (Q (some (.int x2)) h) (qAL h x0 ((34 : Int32) + ((4 : Int32) * x3)) (fun z2 => qIF (z2 = x1) (qAL h x0 (((34 : Int32) + ((4 : Int32) * x3)) + (3 : Int32)) (fun z3 => qIF ((9 : Int32) ≤ z3) (q_J l (d + 0) mX10_allOctants mc ms Q QX n0 9 [some (.ref x0), some (.int x1), some (.int x2), some (.int (x3 + (1 : Int32)))] [] h kc ks) (qAL h x0 (((34 : Int32) + ((4 : Int32) * x3)) + (3 : Int32)) (fun z4 => q_J l (d + 0) mX10_allOctants mc ms Q QX n0 9 [some (.ref x0), some (.int x1), some (.int (x2 ||| ((1 : Int32) <<< (z4 &&& 31)))), some (.int (x3 + (1 : Int32)))] [] h kc ks)))) (q_J l (d + 0) mX10_allOctants mc ms Q QX n0 9 [some (.ref x0), some (.int x1), some (.int x2), some (.int (x3 + (1 : Int32)))] [] h kc ks))))) : q_J l (d + 0) mX10_allOctants mc ms Q QX n0 9 [some (.ref x0), some (.int x1), some (.int x2), some (.int x3)] [] h kc ks := by
  refine j_iload_n dX10_allOctants_9 rfl rfl ?_
  refine j_aload_n dX10_allOctants_10 rfl rfl ?_
  refine j_bipush (v := (9 : Int32)) dX10_allOctants_11 (by decide) ?_
  obtain ⟨N, f, e1, e2, hv⟩ := hv
  refine j_iald dX10_allOctants_13 e1 e2 ?_
  generalize f _ = z1 at hv ⊢
  refine j_icmp_ge (tgt := 65) dX10_allOctants_14 (by decide) (fun hc => ?_) (fun hc => ?_)
  · replace hv := hv.1 hc
    refine j_iload_n dX10_allOctants_65 rfl rfl ?_
    exact j_iret dX10_allOctants_66 rfl hv
  · replace hv := hv.2 hc
    refine j_aload_n dX10_allOctants_17 rfl rfl ?_
    refine j_bipush (v := (34 : Int32)) dX10_allOctants_18 (by decide) ?_
    refine j_iconst (v := (4 : Int32)) dX10_allOctants_20 (by decide) ?_
    refine j_iload_n dX10_allOctants_21 rfl rfl ?_
    refine j_imul dX10_allOctants_22 ?_
    refine j_iadd dX10_allOctants_23 ?_
    obtain ⟨N, f, e1, e2, hv⟩ := hv
    refine j_iald dX10_allOctants_24 e1 e2 ?_
    generalize f _ = z2 at hv ⊢
    refine j_iload_n dX10_allOctants_25 rfl rfl ?_
    refine j_icmp_ne (tgt := 59) dX10_allOctants_26 (by decide) (fun hc => ?_) (fun hc => ?_)
    · replace hv := hv.2 hc
      refine j_iinc (w := (x3 + (1 : Int32))) dX10_allOctants_59 rfl (by rfl) (by decide) rfl rfl ?_
      refine j_goto (tgt := 9) dX10_allOctants_62 (by decide) ?_
      exact hv
    · replace hv := hv.1 hc
      refine j_aload_n dX10_allOctants_29 rfl rfl ?_
      refine j_bipush (v := (34 : Int32)) dX10_allOctants_30 (by decide) ?_
      refine j_iconst (v := (4 : Int32)) dX10_allOctants_32 (by decide) ?_
      refine j_iload_n dX10_allOctants_33 rfl rfl ?_
      refine j_imul dX10_allOctants_34 ?_
      refine j_iadd dX10_allOctants_35 ?_
      refine j_iconst (v := (3 : Int32)) dX10_allOctants_36 (by decide) ?_
      refine j_iadd dX10_allOctants_37 ?_
      obtain ⟨N, f, e1, e2, hv⟩ := hv
      refine j_iald dX10_allOctants_38 e1 e2 ?_
      generalize f _ = z3 at hv ⊢
      refine j_bipush (v := (9 : Int32)) dX10_allOctants_39 (by decide) ?_
      refine j_icmp_ge (tgt := 59) dX10_allOctants_41 (by decide) (fun hc => ?_) (fun hc => ?_)
      · replace hv := hv.1 hc
        refine j_iinc (w := (x3 + (1 : Int32))) dX10_allOctants_59 rfl (by rfl) (by decide) rfl rfl ?_
        refine j_goto (tgt := 9) dX10_allOctants_62 (by decide) ?_
        exact hv
      · replace hv := hv.2 hc
        refine j_iload_n dX10_allOctants_44 rfl rfl ?_
        refine j_iconst (v := (1 : Int32)) dX10_allOctants_45 (by decide) ?_
        refine j_aload_n dX10_allOctants_46 rfl rfl ?_
        refine j_bipush (v := (34 : Int32)) dX10_allOctants_47 (by decide) ?_
        refine j_iconst (v := (4 : Int32)) dX10_allOctants_49 (by decide) ?_
        refine j_iload_n dX10_allOctants_50 rfl rfl ?_
        refine j_imul dX10_allOctants_51 ?_
        refine j_iadd dX10_allOctants_52 ?_
        refine j_iconst (v := (3 : Int32)) dX10_allOctants_53 (by decide) ?_
        refine j_iadd dX10_allOctants_54 ?_
        obtain ⟨N, f, e1, e2, hv⟩ := hv
        refine j_iald dX10_allOctants_55 e1 e2 ?_
        generalize f _ = z4 at hv ⊢
        refine j_ishl dX10_allOctants_56 ?_
        refine j_ior dX10_allOctants_57 ?_
        refine j_istore_n dX10_allOctants_58 rfl (by decide) rfl rfl ?_
        refine j_iinc (w := (x3 + (1 : Int32))) dX10_allOctants_59 rfl (by rfl) (by decide) rfl rfl ?_
        refine j_goto (tgt := 9) dX10_allOctants_62 (by decide) ?_
        exact hv
set_option maxRecDepth 20000 in
set_option maxHeartbeats 4000000 in
theorem v_X10_allOctants {l : Launch} {d mc ms : Nat} {Q : Option Value → qH → Prop} {QX : String → qH → Prop} (x0 : Nat) (x1 : Int32) {h : qH} (hv : qAL h x0 ((10 : Int32) + x1) (fun z1 => q_J l (d + 0) mX10_allOctants mc ms Q QX h.2 9 [some (.ref x0), some (.int x1), some (.int z1), some (.int (0 : Int32))] [] h mc ms)) : q_Ct l (d + 0) mX10_allOctants [.ref x0, .int x1] h mc ms Q QX := by
  refine q_body (by decide ) (by intro v hm; simp only [List.mem_cons, List.not_mem_nil, or_false] at hm; rcases hm with rfl | rfl <;> rfl) (Nat.le_of_ble_eq_true rfl) ?_
  refine j_pad 2 rfl ?_
  refine j_aload_n dX10_allOctants_0 rfl rfl ?_
  refine j_bipush (v := (10 : Int32)) dX10_allOctants_1 (by decide) ?_
  refine j_iload_n dX10_allOctants_3 rfl rfl ?_
  refine j_iadd dX10_allOctants_4 ?_
  obtain ⟨N, f, e1, e2, hv⟩ := hv
  refine j_iald dX10_allOctants_5 e1 e2 ?_
  generalize f _ = z1 at hv ⊢
  refine j_istore_n dX10_allOctants_6 rfl (by decide) rfl rfl ?_
  refine j_iconst (v := (0 : Int32)) dX10_allOctants_7 (by decide) ?_
  refine j_istore_n dX10_allOctants_8 rfl (by decide) rfl rfl ?_
  exact hv
set_option maxRecDepth 20000 in
set_option maxHeartbeats 4000000 in
theorem v_X10_hasTouch_18 {l : Launch} {d mc ms n0 kc ks : Nat} {Q : Option Value → qH → Prop} {QX : String → qH → Prop} (x0 : Nat) (x1 : Int32) (x2 : Int32) (x3 : Int32) {h : qH} (hv : qAL h x0 (9 : Int32) (fun z1 => qIF (z1 ≤ x3) (qB x2 (Q (some (.int x2)) h)) (qIF (x2 = 0) (qAL h x0 ((34 : Int32) + ((4 : Int32) * x3)) (fun z2 => qIF (z2 = x1) (qAL h x0 (((34 : Int32) + ((4 : Int32) * x3)) + (3 : Int32)) (fun z3 => qIF (z3 = (9 : Int32)) (q_J l (d + 0) mX10_hasTouch mc ms Q QX n0 18 [some (.ref x0), some (.int x1), some (.int (1 : Int32)), some (.int (x3 + (1 : Int32)))] [] h kc ks) (q_J l (d + 0) mX10_hasTouch mc ms Q QX n0 18 [some (.ref x0), some (.int x1), some (.int (0 : Int32)), some (.int (x3 + (1 : Int32)))] [] h kc ks))) (q_J l (d + 0) mX10_hasTouch mc ms Q QX n0 18 [some (.ref x0), some (.int x1), some (.int (0 : Int32)), some (.int (x3 + (1 : Int32)))] [] h kc ks))) (q_J l (d + 0) mX10_hasTouch mc ms Q QX n0 18 [some (.ref x0), some (.int x1), some (.int (1 : Int32)), some (.int (x3 + (1 : Int32)))] [] h kc ks)))) : q_J l (d + 0) mX10_hasTouch mc ms Q QX n0 18 [some (.ref x0), some (.int x1), some (.int x2), some (.int x3)] [] h kc ks := by
  refine j_iload_n dX10_hasTouch_18 rfl rfl ?_
  refine j_aload_n dX10_hasTouch_19 rfl rfl ?_
  refine j_bipush (v := (9 : Int32)) dX10_hasTouch_20 (by decide) ?_
  obtain ⟨N, f, e1, e2, hv⟩ := hv
  refine j_iald dX10_hasTouch_22 e1 e2 ?_
  generalize f _ = z1 at hv ⊢
  refine j_icmp_ge (tgt := 69) dX10_hasTouch_23 (by decide) (fun hc => ?_) (fun hc => ?_)
  · replace hv := hv.1 hc
    refine j_iload_n dX10_hasTouch_69 rfl rfl ?_
    exact j_zret dX10_hasTouch_70 rfl hv.1 hv.2
  · replace hv := hv.2 hc
    refine j_iload_n dX10_hasTouch_26 rfl rfl ?_
    refine j_if_ne (tgt := 57) dX10_hasTouch_27 (by decide) (fun hc => ?_) (fun hc => ?_)
    · replace hv := hv.2 hc
      refine j_iconst (v := (1 : Int32)) dX10_hasTouch_57 (by decide) ?_
      refine j_goto (tgt := 62) dX10_hasTouch_58 (by decide) ?_
      refine j_istore_n dX10_hasTouch_62 rfl (by decide) rfl rfl ?_
      refine j_iinc (w := (x3 + (1 : Int32))) dX10_hasTouch_63 rfl (by rfl) (by decide) rfl rfl ?_
      refine j_goto (tgt := 18) dX10_hasTouch_66 (by decide) ?_
      exact hv
    · replace hv := hv.1 hc
      refine j_aload_n dX10_hasTouch_30 rfl rfl ?_
      refine j_bipush (v := (34 : Int32)) dX10_hasTouch_31 (by decide) ?_
      refine j_iconst (v := (4 : Int32)) dX10_hasTouch_33 (by decide) ?_
      refine j_iload_n dX10_hasTouch_34 rfl rfl ?_
      refine j_imul dX10_hasTouch_35 ?_
      refine j_iadd dX10_hasTouch_36 ?_
      obtain ⟨N, f, e1, e2, hv⟩ := hv
      refine j_iald dX10_hasTouch_37 e1 e2 ?_
      generalize f _ = z2 at hv ⊢
      refine j_iload_n dX10_hasTouch_38 rfl rfl ?_
      refine j_icmp_ne (tgt := 61) dX10_hasTouch_39 (by decide) (fun hc => ?_) (fun hc => ?_)
      · replace hv := hv.2 hc
        refine j_iconst (v := (0 : Int32)) dX10_hasTouch_61 (by decide) ?_
        refine j_istore_n dX10_hasTouch_62 rfl (by decide) rfl rfl ?_
        refine j_iinc (w := (x3 + (1 : Int32))) dX10_hasTouch_63 rfl (by rfl) (by decide) rfl rfl ?_
        refine j_goto (tgt := 18) dX10_hasTouch_66 (by decide) ?_
        exact hv
      · replace hv := hv.1 hc
        refine j_aload_n dX10_hasTouch_42 rfl rfl ?_
        refine j_bipush (v := (34 : Int32)) dX10_hasTouch_43 (by decide) ?_
        refine j_iconst (v := (4 : Int32)) dX10_hasTouch_45 (by decide) ?_
        refine j_iload_n dX10_hasTouch_46 rfl rfl ?_
        refine j_imul dX10_hasTouch_47 ?_
        refine j_iadd dX10_hasTouch_48 ?_
        refine j_iconst (v := (3 : Int32)) dX10_hasTouch_49 (by decide) ?_
        refine j_iadd dX10_hasTouch_50 ?_
        obtain ⟨N, f, e1, e2, hv⟩ := hv
        refine j_iald dX10_hasTouch_51 e1 e2 ?_
        generalize f _ = z3 at hv ⊢
        refine j_bipush (v := (9 : Int32)) dX10_hasTouch_52 (by decide) ?_
        refine j_icmp_ne (tgt := 61) dX10_hasTouch_54 (by decide) (fun hc => ?_) (fun hc => ?_)
        · replace hv := hv.2 hc
          refine j_iconst (v := (0 : Int32)) dX10_hasTouch_61 (by decide) ?_
          refine j_istore_n dX10_hasTouch_62 rfl (by decide) rfl rfl ?_
          refine j_iinc (w := (x3 + (1 : Int32))) dX10_hasTouch_63 rfl (by rfl) (by decide) rfl rfl ?_
          refine j_goto (tgt := 18) dX10_hasTouch_66 (by decide) ?_
          exact hv
        · replace hv := hv.1 hc
          refine j_iconst (v := (1 : Int32)) dX10_hasTouch_57 (by decide) ?_
          refine j_goto (tgt := 62) dX10_hasTouch_58 (by decide) ?_
          refine j_istore_n dX10_hasTouch_62 rfl (by decide) rfl rfl ?_
          refine j_iinc (w := (x3 + (1 : Int32))) dX10_hasTouch_63 rfl (by rfl) (by decide) rfl rfl ?_
          refine j_goto (tgt := 18) dX10_hasTouch_66 (by decide) ?_
          exact hv
set_option maxRecDepth 20000 in
set_option maxHeartbeats 4000000 in
theorem v_X10_hasTouch {l : Launch} {d mc ms : Nat} {Q : Option Value → qH → Prop} {QX : String → qH → Prop} (x0 : Nat) (x1 : Int32) {h : qH} (hv : qAL h x0 ((22 : Int32) + x1) (fun z1 => qIF (z1 = (1 : Int32)) (q_J l (d + 0) mX10_hasTouch mc ms Q QX h.2 18 [some (.ref x0), some (.int x1), some (.int (1 : Int32)), some (.int (0 : Int32))] [] h mc ms) (q_J l (d + 0) mX10_hasTouch mc ms Q QX h.2 18 [some (.ref x0), some (.int x1), some (.int (0 : Int32)), some (.int (0 : Int32))] [] h mc ms))) : q_Ct l (d + 0) mX10_hasTouch [.ref x0, .int x1] h mc ms Q QX := by
  refine q_body (by decide ) (by intro v hm; simp only [List.mem_cons, List.not_mem_nil, or_false] at hm; rcases hm with rfl | rfl <;> rfl) (Nat.le_of_ble_eq_true rfl) ?_
  refine j_pad 2 rfl ?_
  refine j_aload_n dX10_hasTouch_0 rfl rfl ?_
  refine j_bipush (v := (22 : Int32)) dX10_hasTouch_1 (by decide) ?_
  refine j_iload_n dX10_hasTouch_3 rfl rfl ?_
  refine j_iadd dX10_hasTouch_4 ?_
  obtain ⟨N, f, e1, e2, hv⟩ := hv
  refine j_iald dX10_hasTouch_5 e1 e2 ?_
  generalize f _ = z1 at hv ⊢
  refine j_iconst (v := (1 : Int32)) dX10_hasTouch_6 (by decide) ?_
  refine j_icmp_ne (tgt := 14) dX10_hasTouch_7 (by decide) (fun hc => ?_) (fun hc => ?_)
  · replace hv := hv.2 hc
    refine j_iconst (v := (0 : Int32)) dX10_hasTouch_14 (by decide) ?_
    refine j_istore_n dX10_hasTouch_15 rfl (by decide) rfl rfl ?_
    refine j_iconst (v := (0 : Int32)) dX10_hasTouch_16 (by decide) ?_
    refine j_istore_n dX10_hasTouch_17 rfl (by decide) rfl rfl ?_
    exact hv
  · replace hv := hv.1 hc
    refine j_iconst (v := (1 : Int32)) dX10_hasTouch_10 (by decide) ?_
    refine j_goto (tgt := 15) dX10_hasTouch_11 (by decide) ?_
    refine j_istore_n dX10_hasTouch_15 rfl (by decide) rfl rfl ?_
    refine j_iconst (v := (0 : Int32)) dX10_hasTouch_16 (by decide) ?_
    refine j_istore_n dX10_hasTouch_17 rfl (by decide) rfl rfl ?_
    exact hv
set_option maxRecDepth 20000 in
set_option maxHeartbeats 4000000 in
theorem v_X10_isMet_55 {l : Launch} {d mc ms n0 kc ks : Nat} {Q : Option Value → qH → Prop} {QX : String → qH → Prop} (x0 : Nat) (x1 : Nat) (x2 : Int32) (x3 : Int32) (y0 : Int32) {h : qH} (hv : qCI l (d + 0) mJ6_bitCount_0f7a4 [.int y0] h 0 0 (fun z2 h1 => qOB h1 x0 10 (qCI l (d + 0) mX10_need [.ref x0, .int x2] h1 0 0 (fun z4 h3 => qIF (z2 < z4) (Q (some (.int (0 : Int32))) h3) (Q (some (.int (1 : Int32))) h3))))) : q_J l (d + 1) mX10_isMet mc ms Q QX n0 55 [some (.ref x0), some (.ref x1), some (.int x2), some (.int x3)] [.int y0] h kc ks := by
  refine j_static (avs := [.int y0]) (rest := []) (kc' := kc) (ks' := ks) dX10_isMet_55 mt_J6_bitCount_0f7a4 w_m_X10_168 w_st_J6_bitCount_0f7a4 rfl rfl (Nat.le_of_ble_eq_true rfl) (Nat.le_refl _) (by omega) (by omega) hv (fun _ _ q9 => q9) ?_
  rintro _ h1 ⟨z2, rfl, hv⟩ -
  refine j_aload_n dX10_isMet_58 rfl rfl ?_
  refine j_iload_n dX10_isMet_59 rfl rfl ?_
  obtain ⟨⟨fs, e1⟩, hv⟩ := hv
  refine j_virtual (avs := [.int x2]) (rest := [.int z2]) (i := x0) (kc' := kc) (ks' := ks) dX10_isMet_60 mt_X10_need w_m_X10_157 w_in_X10_need w_se_X10_need rfl rfl (Nat.le_of_ble_eq_true rfl) (Nat.le_refl _) (by omega) (by omega) cl_X10.1 e1 hv (fun _ _ q9 => q9) ?_
  rintro _ h3 ⟨z4, rfl, hv⟩ -
  refine j_icmp_lt (tgt := 70) dX10_isMet_63 (by decide) (fun hc => ?_) (fun hc => ?_)
  · replace hv := hv.1 hc
    refine j_iconst (v := (0 : Int32)) dX10_isMet_70 (by decide) ?_
    exact j_zret dX10_isMet_71 rfl (by decide) hv
  · replace hv := hv.2 hc
    refine j_iconst (v := (1 : Int32)) dX10_isMet_66 (by decide) ?_
    refine j_goto (tgt := 71) dX10_isMet_67 (by decide) ?_
    exact j_zret dX10_isMet_71 rfl (by decide) hv
set_option maxRecDepth 20000 in
set_option maxHeartbeats 4000000 in
theorem v_X10_isMet {l : Launch} {d mc ms : Nat} {Q : Option Value → qH → Prop} {QX : String → qH → Prop} (x0 : Nat) (x1 : Nat) (x2 : Int32) (x3 : Int32) {h : qH} (hv : qOB h x0 10 (qCI l (d + 0) mX10_need [.ref x0, .int x2] h 0 0 (fun z2 h1 => qIF (z2 = (4 : Int32)) (qIF (x3 = 0) (qCI l (d + 0) mX10_hasTouch [.ref x1, .int x2] h1 0 0 (fun z7 h6 => qB z7 (Q (some (.int z7)) h6))) (qAL h1 x1 ((22 : Int32) + x2) (fun z8 => qIF (z8 = (1 : Int32)) (Q (some (.int (1 : Int32))) h1) (Q (some (.int (0 : Int32))) h1)))) (qIF (x3 = 0) (qCI l (d + 0) mX10_allOctants [.ref x1, .int x2] h1 0 0 (fun z4 h3 => q_J l (d + 1) mX10_isMet mc ms Q QX h.2 55 [some (.ref x0), some (.ref x1), some (.int x2), some (.int x3)] [.int z4] h3 mc ms)) (qAL h1 x1 ((10 : Int32) + x2) (fun z5 => q_J l (d + 1) mX10_isMet mc ms Q QX h.2 55 [some (.ref x0), some (.ref x1), some (.int x2), some (.int x3)] [.int z5] h1 mc ms)))))) : q_Ct l (d + 1) mX10_isMet [.ref x0, .ref x1, .int x2, .int x3] h mc ms Q QX := by
  refine q_body (by decide ) (by intro v hm; simp only [List.mem_cons, List.not_mem_nil, or_false] at hm; rcases hm with rfl | rfl | rfl | rfl <;> rfl) (Nat.le_of_ble_eq_true rfl) ?_
  refine j_pad 0 rfl ?_
  refine j_aload_n dX10_isMet_0 rfl rfl ?_
  refine j_iload_n dX10_isMet_1 rfl rfl ?_
  obtain ⟨⟨fs, e1⟩, hv⟩ := hv
  refine j_virtual (avs := [.int x2]) (rest := []) (i := x0) (kc' := mc) (ks' := ms) dX10_isMet_2 mt_X10_need w_m_X10_157 w_in_X10_need w_se_X10_need rfl rfl (Nat.le_of_ble_eq_true rfl) (Nat.le_refl _) (by omega) (by omega) cl_X10.1 e1 hv (fun _ _ q9 => q9) ?_
  rintro _ h1 ⟨z2, rfl, hv⟩ -
  refine j_iconst (v := (4 : Int32)) dX10_isMet_5 (by decide) ?_
  refine j_icmp_ne (tgt := 37) dX10_isMet_6 (by decide) (fun hc => ?_) (fun hc => ?_)
  · replace hv := hv.2 hc
    refine j_iload_n dX10_isMet_37 rfl rfl ?_
    refine j_if_eq (tgt := 50) dX10_isMet_38 (by decide) (fun hc => ?_) (fun hc => ?_)
    · replace hv := hv.1 hc
      refine j_aload_n dX10_isMet_50 rfl rfl ?_
      refine j_iload_n dX10_isMet_51 rfl rfl ?_
      refine j_static (avs := [.ref x1, .int x2]) (rest := []) (kc' := mc) (ks' := ms) dX10_isMet_52 mt_X10_allOctants w_m_X10_164 w_st_X10_allOctants rfl rfl (Nat.le_of_ble_eq_true rfl) (Nat.le_refl _) (by omega) (by omega) hv (fun _ _ q9 => q9) ?_
      rintro _ h3 ⟨z4, rfl, hv⟩ -
      exact hv
    · replace hv := hv.2 hc
      refine j_aload_n dX10_isMet_41 rfl rfl ?_
      refine j_bipush (v := (10 : Int32)) dX10_isMet_42 (by decide) ?_
      refine j_iload_n dX10_isMet_44 rfl rfl ?_
      refine j_iadd dX10_isMet_45 ?_
      obtain ⟨N, f, e1, e2, hv⟩ := hv
      refine j_iald dX10_isMet_46 e1 e2 ?_
      generalize f _ = z5 at hv ⊢
      refine j_goto (tgt := 55) dX10_isMet_47 (by decide) ?_
      exact hv
  · replace hv := hv.1 hc
    refine j_iload_n dX10_isMet_9 rfl rfl ?_
    refine j_if_eq (tgt := 31) dX10_isMet_10 (by decide) (fun hc => ?_) (fun hc => ?_)
    · replace hv := hv.1 hc
      refine j_aload_n dX10_isMet_31 rfl rfl ?_
      refine j_iload_n dX10_isMet_32 rfl rfl ?_
      refine j_static (avs := [.ref x1, .int x2]) (rest := []) (kc' := mc) (ks' := ms) dX10_isMet_33 mt_X10_hasTouch w_m_X10_160 w_st_X10_hasTouch rfl rfl (Nat.le_of_ble_eq_true rfl) (Nat.le_refl _) (by omega) (by omega) hv (fun _ _ q9 => q9) ?_
      rintro _ h6 ⟨z7, rfl, hv⟩ -
      exact j_zret dX10_isMet_36 rfl hv.1 hv.2
    · replace hv := hv.2 hc
      refine j_aload_n dX10_isMet_13 rfl rfl ?_
      refine j_bipush (v := (22 : Int32)) dX10_isMet_14 (by decide) ?_
      refine j_iload_n dX10_isMet_16 rfl rfl ?_
      refine j_iadd dX10_isMet_17 ?_
      obtain ⟨N, f, e1, e2, hv⟩ := hv
      refine j_iald dX10_isMet_18 e1 e2 ?_
      generalize f _ = z8 at hv ⊢
      refine j_iconst (v := (1 : Int32)) dX10_isMet_19 (by decide) ?_
      refine j_icmp_ne (tgt := 27) dX10_isMet_20 (by decide) (fun hc => ?_) (fun hc => ?_)
      · replace hv := hv.2 hc
        refine j_iconst (v := (0 : Int32)) dX10_isMet_27 (by decide) ?_
        refine j_goto (tgt := 36) dX10_isMet_28 (by decide) ?_
        exact j_zret dX10_isMet_36 rfl (by decide) hv
      · replace hv := hv.1 hc
        refine j_iconst (v := (1 : Int32)) dX10_isMet_23 (by decide) ?_
        refine j_goto (tgt := 36) dX10_isMet_24 (by decide) ?_
        exact j_zret dX10_isMet_36 rfl (by decide) hv
set_option maxRecDepth 20000 in
set_option maxHeartbeats 4000000 in
theorem v_X10_targetTold {l : Launch} {d mc ms : Nat} {Q : Option Value → qH → Prop} {QX : String → qH → Prop} (x0 : Nat) (x1 : Int32) (x2 : Int32) {h : qH} (hv : qIF (x2 = (0 : Int32)) (qOB h x0 10 (qCI l (d + 1) mX10_value [.ref x0, .int x1] h 0 0 (fun z2 h1 => Q (some (.int z2)) h1))) (qIF (x2 = (1 : Int32)) (qOB h x0 10 (qCI l (d + 1) mX10_need [.ref x0, .int x1] h 0 0 (fun z4 h3 => Q (some (.int z4)) h3))) (qIF (x2 = (2 : Int32)) (qGR h x0 10 11 (fun r5 => qAL h r5 ((10 : Int32) + x1) (fun z6 => qCI l (d + 1) mJ6_bitCount_0f7a4 [.int z6] h 0 0 (fun z8 h7 => Q (some (.int z8)) h7)))) (qIF (x2 = (3 : Int32)) (qGR h x0 10 11 (fun r9 => qCI l (d + 1) mX10_allOctants [.ref r9, .int x1] h 0 0 (fun z11 h10 => qCI l (d + 1) mJ6_bitCount_0f7a4 [.int z11] h10 0 0 (fun z13 h12 => Q (some (.int z13)) h12)))) (qIF (x2 = (4 : Int32)) (qGR h x0 10 11 (fun r14 => qAL h r14 ((22 : Int32) + x1) (fun z15 => Q (some (.int z15)) h))) (qGR h x0 10 11 (fun r16 => qOB h x0 10 (qCI l (d + 1) mX10_isMet [.ref x0, .ref r16, .int x1, .int (1 : Int32)] h 0 0 (fun z18 h17 => qIF (z18 = 0) (Q (some (.int (0 : Int32))) h17) (Q (some (.int (1 : Int32))) h17)))))))))) : q_Ct l (d + 2) mX10_targetTold [.ref x0, .int x1, .int x2] h mc ms Q QX := by
  refine q_body (by decide ) (by intro v hm; simp only [List.mem_cons, List.not_mem_nil, or_false] at hm; rcases hm with rfl | rfl | rfl <;> rfl) (Nat.le_of_ble_eq_true rfl) ?_
  refine j_pad 0 rfl ?_
  refine j_iload_n dX10_targetTold_0 rfl rfl ?_
  by_cases hc0 : x2 = (0 : Int32)
  · replace hv := hv.1 hc0
    refine j_tableIn (tgt := 36) (off := 35) dX10_targetTold_1 (by rw [hc0]; decide) (by rw [hc0]; decide) (by rw [hc0]; decide) (by decide) ?_
    refine j_aload_n dX10_targetTold_36 rfl rfl ?_
    refine j_iload_n dX10_targetTold_37 rfl rfl ?_
    obtain ⟨⟨fs, e1⟩, hv⟩ := hv
    refine j_virtual (avs := [.int x1]) (rest := []) (i := x0) (kc' := mc) (ks' := ms) dX10_targetTold_38 mt_X10_value w_m_X10_171 w_in_X10_value w_se_X10_value rfl rfl (Nat.le_of_ble_eq_true rfl) (Nat.le_refl _) (by omega) (by omega) cl_X10.1 e1 hv (fun _ _ q9 => q9) ?_
    rintro _ h1 ⟨z2, rfl, hv⟩ -
    exact j_iret dX10_targetTold_41 rfl hv
  · replace hv := hv.2 hc0
    by_cases hc1 : x2 = (1 : Int32)
    · replace hv := hv.1 hc1
      refine j_tableIn (tgt := 42) (off := 41) dX10_targetTold_1 (by rw [hc1]; decide) (by rw [hc1]; decide) (by rw [hc1]; decide) (by decide) ?_
      refine j_aload_n dX10_targetTold_42 rfl rfl ?_
      refine j_iload_n dX10_targetTold_43 rfl rfl ?_
      obtain ⟨⟨fs, e1⟩, hv⟩ := hv
      refine j_virtual (avs := [.int x1]) (rest := []) (i := x0) (kc' := mc) (ks' := ms) dX10_targetTold_44 mt_X10_need w_m_X10_157 w_in_X10_need w_se_X10_need rfl rfl (Nat.le_of_ble_eq_true rfl) (Nat.le_refl _) (by omega) (by omega) cl_X10.1 e1 hv (fun _ _ q9 => q9) ?_
      rintro _ h3 ⟨z4, rfl, hv⟩ -
      exact j_iret dX10_targetTold_47 rfl hv
    · replace hv := hv.2 hc1
      by_cases hc2 : x2 = (2 : Int32)
      · replace hv := hv.1 hc2
        refine j_tableIn (tgt := 48) (off := 47) dX10_targetTold_1 (by rw [hc2]; decide) (by rw [hc2]; decide) (by rw [hc2]; decide) (by decide) ?_
        refine j_aload_n dX10_targetTold_48 rfl rfl ?_
        obtain ⟨fs, r5, e1, e2, hv⟩ := hv
        refine j_getf (k := 11) cl_X10 (by decide) w_f_X10_36 dX10_targetTold_49 e1 e2 ?_
        refine j_bipush (v := (10 : Int32)) dX10_targetTold_52 (by decide) ?_
        refine j_iload_n dX10_targetTold_54 rfl rfl ?_
        refine j_iadd dX10_targetTold_55 ?_
        obtain ⟨N, f, e1, e2, hv⟩ := hv
        refine j_iald dX10_targetTold_56 e1 e2 ?_
        generalize f _ = z6 at hv ⊢
        refine j_static (avs := [.int z6]) (rest := []) (kc' := mc) (ks' := ms) dX10_targetTold_57 mt_J6_bitCount_0f7a4 w_m_X10_168 w_st_J6_bitCount_0f7a4 rfl rfl (Nat.le_of_ble_eq_true rfl) (Nat.le_refl _) (by omega) (by omega) hv (fun _ _ q9 => q9) ?_
        rintro _ h7 ⟨z8, rfl, hv⟩ -
        exact j_iret dX10_targetTold_60 rfl hv
      · replace hv := hv.2 hc2
        by_cases hc3 : x2 = (3 : Int32)
        · replace hv := hv.1 hc3
          refine j_tableIn (tgt := 61) (off := 60) dX10_targetTold_1 (by rw [hc3]; decide) (by rw [hc3]; decide) (by rw [hc3]; decide) (by decide) ?_
          refine j_aload_n dX10_targetTold_61 rfl rfl ?_
          obtain ⟨fs, r9, e1, e2, hv⟩ := hv
          refine j_getf (k := 11) cl_X10 (by decide) w_f_X10_36 dX10_targetTold_62 e1 e2 ?_
          refine j_iload_n dX10_targetTold_65 rfl rfl ?_
          refine j_static (avs := [.ref r9, .int x1]) (rest := []) (kc' := mc) (ks' := ms) dX10_targetTold_66 mt_X10_allOctants w_m_X10_164 w_st_X10_allOctants rfl rfl (Nat.le_of_ble_eq_true rfl) (Nat.le_refl _) (by omega) (by omega) hv (fun _ _ q9 => q9) ?_
          rintro _ h10 ⟨z11, rfl, hv⟩ -
          refine j_static (avs := [.int z11]) (rest := []) (kc' := mc) (ks' := ms) dX10_targetTold_69 mt_J6_bitCount_0f7a4 w_m_X10_168 w_st_J6_bitCount_0f7a4 rfl rfl (Nat.le_of_ble_eq_true rfl) (Nat.le_refl _) (by omega) (by omega) hv (fun _ _ q9 => q9) ?_
          rintro _ h12 ⟨z13, rfl, hv⟩ -
          exact j_iret dX10_targetTold_72 rfl hv
        · replace hv := hv.2 hc3
          by_cases hc4 : x2 = (4 : Int32)
          · replace hv := hv.1 hc4
            refine j_tableIn (tgt := 73) (off := 72) dX10_targetTold_1 (by rw [hc4]; decide) (by rw [hc4]; decide) (by rw [hc4]; decide) (by decide) ?_
            refine j_aload_n dX10_targetTold_73 rfl rfl ?_
            obtain ⟨fs, r14, e1, e2, hv⟩ := hv
            refine j_getf (k := 11) cl_X10 (by decide) w_f_X10_36 dX10_targetTold_74 e1 e2 ?_
            refine j_bipush (v := (22 : Int32)) dX10_targetTold_77 (by decide) ?_
            refine j_iload_n dX10_targetTold_79 rfl rfl ?_
            refine j_iadd dX10_targetTold_80 ?_
            obtain ⟨N, f, e1, e2, hv⟩ := hv
            refine j_iald dX10_targetTold_81 e1 e2 ?_
            generalize f _ = z15 at hv ⊢
            exact j_iret dX10_targetTold_82 rfl hv
          · replace hv := hv.2 hc4
            refine j_tableOut (tgt := 83) dX10_targetTold_1 (q_tabO (by decide) (by decide) (fun j h1 => by match j, h1 with | 0, _ => exact hc0 | 1, _ => exact hc1 | 2, _ => exact hc2 | 3, _ => exact hc3 | 4, _ => exact hc4 | j + 5, h1 => exact absurd h1 (by omega))) (by decide) ?_
            refine j_aload_n dX10_targetTold_83 rfl rfl ?_
            refine j_aload_n dX10_targetTold_84 rfl rfl ?_
            obtain ⟨fs, r16, e1, e2, hv⟩ := hv
            refine j_getf (k := 11) cl_X10 (by decide) w_f_X10_36 dX10_targetTold_85 e1 e2 ?_
            refine j_iload_n dX10_targetTold_88 rfl rfl ?_
            refine j_iconst (v := (1 : Int32)) dX10_targetTold_89 (by decide) ?_
            obtain ⟨⟨fs, e1⟩, hv⟩ := hv
            refine j_virtual (avs := [.ref r16, .int x1, .int (1 : Int32)]) (rest := []) (i := x0) (kc' := mc) (ks' := ms) dX10_targetTold_90 mt_X10_isMet w_m_X10_174 w_in_X10_isMet w_se_X10_isMet rfl rfl (Nat.le_of_ble_eq_true rfl) (Nat.le_refl _) (by omega) (by omega) cl_X10.1 e1 hv (fun _ _ q9 => q9) ?_
            rintro _ h17 ⟨z18, rfl, hv⟩ -
            refine j_if_eq (tgt := 100) dX10_targetTold_93 (by decide) (fun hc => ?_) (fun hc => ?_)
            · replace hv := hv.1 hc
              refine j_iconst (v := (0 : Int32)) dX10_targetTold_100 (by decide) ?_
              exact j_iret dX10_targetTold_101 rfl hv
            · replace hv := hv.2 hc
              refine j_iconst (v := (1 : Int32)) dX10_targetTold_96 (by decide) ?_
              refine j_goto (tgt := 101) dX10_targetTold_97 (by decide) ?_
              exact j_iret dX10_targetTold_101 rfl hv
set_option maxRecDepth 20000 in
set_option maxHeartbeats 4000000 in
theorem v_X10_target {l : Launch} {d mc ms : Nat} {Q : Option Value → qH → Prop} {QX : String → qH → Prop} (x0 : Nat) (x1 : Int32) (x2 : Int32) {h : qH} (hv : qPI h x0 10 0 (0 : Int32) (fun h1 => qOB h1 x0 10 (qCI l (d + 2) mX10_isTarget [.ref x0, .int x1] h1 0 0 (fun z3 h2 => qIF (z3 = 0) (qOB h2 x0 10 (qCI l (d + 2) mX10_fail [.ref x0, .int (1 : Int32)] h2 0 0 (fun z5 h4 => Q (some (.int z5)) h4))) (qCI l (d + 2) mX10_isIn [.int x2, .int (0 : Int32), .int (5 : Int32)] h2 0 0 (fun z7 h6 => qIF (z7 = 0) (qOB h6 x0 10 (qCI l (d + 2) mX10_fail [.ref x0, .int (1 : Int32)] h6 0 0 (fun z9 h8 => Q (some (.int z9)) h8))) (qOB h6 x0 10 (qCI l (d + 2) mX10_targetTold [.ref x0, .int x1, .int x2] h6 0 0 (fun z11 h10 => Q (some (.int z11)) h10))))))))) : q_Ct l (d + 3) mX10_target [.ref x0, .int x1, .int x2] h mc ms Q QX := by
  refine q_body (by decide ) (by intro v hm; simp only [List.mem_cons, List.not_mem_nil, or_false] at hm; rcases hm with rfl | rfl | rfl <;> rfl) (Nat.le_of_ble_eq_true rfl) ?_
  refine j_pad 0 rfl ?_
  refine j_aload_n dX10_target_0 rfl rfl ?_
  refine j_iconst (v := (0 : Int32)) dX10_target_1 (by decide) ?_
  obtain ⟨fs, e1, e2, hv⟩ := hv
  refine j_put (k := 0) (ty0 := tyX10) cl_X10 (pf_X10_0) w_f_X10_71 dX10_target_2 (fun g ad => q_nI g ad _) e1 e2 ?_
  generalize q_set h x0 _ = h1 at hv ⊢
  refine j_aload_n dX10_target_5 rfl rfl ?_
  refine j_iload_n dX10_target_6 rfl rfl ?_
  obtain ⟨⟨fs, e1⟩, hv⟩ := hv
  refine j_virtual (avs := [.int x1]) (rest := []) (i := x0) (kc' := mc) (ks' := ms) dX10_target_7 mt_X10_isTarget w_m_X10_178 w_in_X10_isTarget w_se_X10_isTarget rfl rfl (Nat.le_of_ble_eq_true rfl) (Nat.le_refl _) (by omega) (by omega) cl_X10.1 e1 hv (fun _ _ q9 => q9) ?_
  rintro _ h2 ⟨z3, rfl, hv⟩ -
  refine j_if_eq (tgt := 31) dX10_target_10 (by decide) (fun hc => ?_) (fun hc => ?_)
  · replace hv := hv.1 hc
    refine j_aload_n dX10_target_31 rfl rfl ?_
    refine j_iconst (v := (1 : Int32)) dX10_target_32 (by decide) ?_
    obtain ⟨⟨fs, e1⟩, hv⟩ := hv
    refine j_virtual (avs := [.int (1 : Int32)]) (rest := []) (i := x0) (kc' := mc) (ks' := ms) dX10_target_33 mt_X10_fail w_m_X10_89 w_in_X10_fail w_se_X10_fail rfl rfl (Nat.le_of_ble_eq_true rfl) (Nat.le_refl _) (by omega) (by omega) cl_X10.1 e1 hv (fun _ _ q9 => q9) ?_
    rintro _ h4 ⟨z5, rfl, hv⟩ -
    exact j_iret dX10_target_36 rfl hv
  · replace hv := hv.2 hc
    refine j_iload_n dX10_target_13 rfl rfl ?_
    refine j_iconst (v := (0 : Int32)) dX10_target_14 (by decide) ?_
    refine j_iconst (v := (5 : Int32)) dX10_target_15 (by decide) ?_
    refine j_static (avs := [.int x2, .int (0 : Int32), .int (5 : Int32)]) (rest := []) (kc' := mc) (ks' := ms) dX10_target_16 mt_X10_isIn w_m_X10_74 w_st_X10_isIn rfl rfl (Nat.le_of_ble_eq_true rfl) (Nat.le_refl _) (by omega) (by omega) hv (fun _ _ q9 => q9) ?_
    rintro _ h6 ⟨z7, rfl, hv⟩ -
    refine j_if_eq (tgt := 31) dX10_target_19 (by decide) (fun hc => ?_) (fun hc => ?_)
    · replace hv := hv.1 hc
      refine j_aload_n dX10_target_31 rfl rfl ?_
      refine j_iconst (v := (1 : Int32)) dX10_target_32 (by decide) ?_
      obtain ⟨⟨fs, e1⟩, hv⟩ := hv
      refine j_virtual (avs := [.int (1 : Int32)]) (rest := []) (i := x0) (kc' := mc) (ks' := ms) dX10_target_33 mt_X10_fail w_m_X10_89 w_in_X10_fail w_se_X10_fail rfl rfl (Nat.le_of_ble_eq_true rfl) (Nat.le_refl _) (by omega) (by omega) cl_X10.1 e1 hv (fun _ _ q9 => q9) ?_
      rintro _ h8 ⟨z9, rfl, hv⟩ -
      exact j_iret dX10_target_36 rfl hv
    · replace hv := hv.2 hc
      refine j_aload_n dX10_target_22 rfl rfl ?_
      refine j_iload_n dX10_target_23 rfl rfl ?_
      refine j_iload_n dX10_target_24 rfl rfl ?_
      obtain ⟨⟨fs, e1⟩, hv⟩ := hv
      refine j_virtual (avs := [.int x1, .int x2]) (rest := []) (i := x0) (kc' := mc) (ks' := ms) dX10_target_25 mt_X10_targetTold w_m_X10_182 w_in_X10_targetTold w_se_X10_targetTold rfl rfl (Nat.le_of_ble_eq_true rfl) (Nat.le_refl _) (by omega) (by omega) cl_X10.1 e1 hv (fun _ _ q9 => q9) ?_
      rintro _ h10 ⟨z11, rfl, hv⟩ -
      refine j_goto (tgt := 36) dX10_target_28 (by decide) ?_
      exact j_iret dX10_target_36 rfl hv
set_option maxRecDepth 20000 in
set_option maxHeartbeats 4000000 in
theorem v_X10_addPass {l : Launch} {d mc ms : Nat} {Q : Option Value → qH → Prop} {QX : String → qH → Prop} (hkc : 1 ≤ mc) (hks : 3 ≤ ms) (x0 : Nat) (x1 : Int32) (x2 : Int32) (x3 : Int32) {h : qH} (hv : qPI h x0 10 0 (0 : Int32) (fun h1 => qCI l (d + 0) mX10_isIn [.int x1, .int (0 : Int32), .int (1439 : Int32)] h1 0 0 (fun z3 h2 => qIF (z3 = 0) (qOB h2 x0 10 (qCI l (d + 0) mX10_fail [.ref x0, .int (1 : Int32)] h2 0 0 (fun z5 h4 => Q (some (.int z5)) h4))) (qCI l (d + 0) mX10_isIn [.int x2, .int (x1 + (1 : Int32)), .int (1440 : Int32)] h2 0 0 (fun z7 h6 => qIF (z7 = 0) (qOB h6 x0 10 (qCI l (d + 0) mX10_fail [.ref x0, .int (1 : Int32)] h6 0 0 (fun z9 h8 => Q (some (.int z9)) h8))) (qCI l (d + 0) mX10_isIn [.int x3, .int (1 : Int32), .int (20 : Int32)] h6 0 0 (fun z11 h10 => qIF (z11 = 0) (qOB h10 x0 10 (qCI l (d + 0) mX10_fail [.ref x0, .int (1 : Int32)] h10 0 0 (fun z27 h26 => Q (some (.int z27)) h26))) (qGI h10 x0 10 7 (fun z12 => qIF (z12 = (6 : Int32)) (qOB h10 x0 10 (qCI l (d + 0) mX10_fail [.ref x0, .int (2 : Int32)] h10 0 0 (fun z25 h24 => Q (some (.int z25)) h24))) (qNI h10 3 (fun r13 h14 => qAS h14 r13 (0 : Int32) x1 (fun h15 => qAS h15 r13 (1 : Int32) x2 (fun h16 => qAS h16 r13 (2 : Int32) x3 (fun h17 => qGR h17 x0 10 8 (fun r18 => qGI h17 x0 10 7 (fun z19 => qCP h17 r13 (0 : Int32) r18 ((3 : Int32) * z19) (3 : Int32) (fun h20 => qGI h20 x0 10 7 (fun z21 => qPI h20 x0 10 7 (z21 + (1 : Int32)) (fun h22 => qGI h22 x0 10 7 (fun z23 => Q (some (.int z23)) h22)))))))))))))))))))) : q_Ct l (d + 1) mX10_addPass [.ref x0, .int x1, .int x2, .int x3] h mc ms Q QX := by
  refine q_body (by decide ) (by intro v hm; simp only [List.mem_cons, List.not_mem_nil, or_false] at hm; rcases hm with rfl | rfl | rfl | rfl <;> rfl) (Nat.le_of_ble_eq_true rfl) ?_
  refine j_pad 1 rfl ?_
  refine j_aload_n dX10_addPass_0 rfl rfl ?_
  refine j_iconst (v := (0 : Int32)) dX10_addPass_1 (by decide) ?_
  obtain ⟨fs, e1, e2, hv⟩ := hv
  refine j_put (k := 0) (ty0 := tyX10) cl_X10 (pf_X10_0) w_f_X10_71 dX10_addPass_2 (fun g ad => q_nI g ad _) e1 e2 ?_
  generalize q_set h x0 _ = h1 at hv ⊢
  refine j_iload_n dX10_addPass_5 rfl rfl ?_
  refine j_iconst (v := (0 : Int32)) dX10_addPass_6 (by decide) ?_
  refine j_sipush (v := (1439 : Int32)) dX10_addPass_7 (by decide) ?_
  refine j_static (avs := [.int x1, .int (0 : Int32), .int (1439 : Int32)]) (rest := []) (kc' := mc) (ks' := ms) dX10_addPass_10 mt_X10_isIn w_m_X10_74 w_st_X10_isIn rfl rfl (Nat.le_of_ble_eq_true rfl) (Nat.le_refl _) (by omega) (by omega) hv (fun _ _ q9 => q9) ?_
  rintro _ h2 ⟨z3, rfl, hv⟩ -
  refine j_if_eq (tgt := 39) dX10_addPass_13 (by decide) (fun hc => ?_) (fun hc => ?_)
  · replace hv := hv.1 hc
    refine j_aload_n dX10_addPass_39 rfl rfl ?_
    refine j_iconst (v := (1 : Int32)) dX10_addPass_40 (by decide) ?_
    obtain ⟨⟨fs, e1⟩, hv⟩ := hv
    refine j_virtual (avs := [.int (1 : Int32)]) (rest := []) (i := x0) (kc' := mc) (ks' := ms) dX10_addPass_41 mt_X10_fail w_m_X10_89 w_in_X10_fail w_se_X10_fail rfl rfl (Nat.le_of_ble_eq_true rfl) (Nat.le_refl _) (by omega) (by omega) cl_X10.1 e1 hv (fun _ _ q9 => q9) ?_
    rintro _ h4 ⟨z5, rfl, hv⟩ -
    exact j_iret dX10_addPass_44 rfl hv
  · replace hv := hv.2 hc
    refine j_iload_n dX10_addPass_16 rfl rfl ?_
    refine j_iload_n dX10_addPass_17 rfl rfl ?_
    refine j_iconst (v := (1 : Int32)) dX10_addPass_18 (by decide) ?_
    refine j_iadd dX10_addPass_19 ?_
    refine j_sipush (v := (1440 : Int32)) dX10_addPass_20 (by decide) ?_
    refine j_static (avs := [.int x2, .int (x1 + (1 : Int32)), .int (1440 : Int32)]) (rest := []) (kc' := mc) (ks' := ms) dX10_addPass_23 mt_X10_isIn w_m_X10_74 w_st_X10_isIn rfl rfl (Nat.le_of_ble_eq_true rfl) (Nat.le_refl _) (by omega) (by omega) hv (fun _ _ q9 => q9) ?_
    rintro _ h6 ⟨z7, rfl, hv⟩ -
    refine j_if_eq (tgt := 39) dX10_addPass_26 (by decide) (fun hc => ?_) (fun hc => ?_)
    · replace hv := hv.1 hc
      refine j_aload_n dX10_addPass_39 rfl rfl ?_
      refine j_iconst (v := (1 : Int32)) dX10_addPass_40 (by decide) ?_
      obtain ⟨⟨fs, e1⟩, hv⟩ := hv
      refine j_virtual (avs := [.int (1 : Int32)]) (rest := []) (i := x0) (kc' := mc) (ks' := ms) dX10_addPass_41 mt_X10_fail w_m_X10_89 w_in_X10_fail w_se_X10_fail rfl rfl (Nat.le_of_ble_eq_true rfl) (Nat.le_refl _) (by omega) (by omega) cl_X10.1 e1 hv (fun _ _ q9 => q9) ?_
      rintro _ h8 ⟨z9, rfl, hv⟩ -
      exact j_iret dX10_addPass_44 rfl hv
    · replace hv := hv.2 hc
      refine j_iload_n dX10_addPass_29 rfl rfl ?_
      refine j_iconst (v := (1 : Int32)) dX10_addPass_30 (by decide) ?_
      refine j_bipush (v := (20 : Int32)) dX10_addPass_31 (by decide) ?_
      refine j_static (avs := [.int x3, .int (1 : Int32), .int (20 : Int32)]) (rest := []) (kc' := mc) (ks' := ms) dX10_addPass_33 mt_X10_isIn w_m_X10_74 w_st_X10_isIn rfl rfl (Nat.le_of_ble_eq_true rfl) (Nat.le_refl _) (by omega) (by omega) hv (fun _ _ q9 => q9) ?_
      rintro _ h10 ⟨z11, rfl, hv⟩ -
      refine j_if_ne (tgt := 45) dX10_addPass_36 (by decide) (fun hc => ?_) (fun hc => ?_)
      · replace hv := hv.2 hc
        refine j_aload_n dX10_addPass_45 rfl rfl ?_
        obtain ⟨fs, z12, e1, e2, hv⟩ := hv
        refine j_getf (k := 7) cl_X10 (by decide) w_f_X10_185 dX10_addPass_46 e1 e2 ?_
        refine j_bipush (v := (6 : Int32)) dX10_addPass_49 (by decide) ?_
        refine j_icmp_ne (tgt := 60) dX10_addPass_51 (by decide) (fun hc => ?_) (fun hc => ?_)
        · replace hv := hv.2 hc
          refine j_iconst (v := (3 : Int32)) dX10_addPass_60 (by decide) ?_
          unfold qNI at hv
          refine j_newI (N := 3) w_ar_int dX10_addPass_61 (by decide) (by decide) (by decide) (kc' := (mc - 1)) (ks' := (ms - 3)) (by omega) (by omega) ?_
          generalize q_push h10 _ = h14 at hv ⊢
          generalize (h10).2 = r13 at hv ⊢
          refine j_dup dX10_addPass_63 rfl ?_
          refine j_iconst (v := (0 : Int32)) dX10_addPass_64 (by decide) ?_
          refine j_iload_n dX10_addPass_65 rfl rfl ?_
          obtain ⟨N, f, e1, e2, hv⟩ := hv
          refine j_iast dX10_addPass_66 e1 e2 ?_
          generalize q_set h14 r13 _ = h15 at hv ⊢
          refine j_dup dX10_addPass_67 rfl ?_
          refine j_iconst (v := (1 : Int32)) dX10_addPass_68 (by decide) ?_
          refine j_iload_n dX10_addPass_69 rfl rfl ?_
          obtain ⟨N, f, e1, e2, hv⟩ := hv
          refine j_iast dX10_addPass_70 e1 e2 ?_
          generalize q_set h15 r13 _ = h16 at hv ⊢
          refine j_dup dX10_addPass_71 rfl ?_
          refine j_iconst (v := (2 : Int32)) dX10_addPass_72 (by decide) ?_
          refine j_iload_n dX10_addPass_73 rfl rfl ?_
          obtain ⟨N, f, e1, e2, hv⟩ := hv
          refine j_iast dX10_addPass_74 e1 e2 ?_
          generalize q_set h16 r13 _ = h17 at hv ⊢
          refine j_astore dX10_addPass_75 (by decide) rfl rfl ?_
          refine j_aload dX10_addPass_77 rfl ?_
          refine j_iconst (v := (0 : Int32)) dX10_addPass_79 (by decide) ?_
          refine j_aload_n dX10_addPass_80 rfl rfl ?_
          obtain ⟨fs, r18, e1, e2, hv⟩ := hv
          refine j_getf (k := 8) cl_X10 (by decide) w_f_X10_27 dX10_addPass_81 e1 e2 ?_
          refine j_iconst (v := (3 : Int32)) dX10_addPass_84 (by decide) ?_
          refine j_aload_n dX10_addPass_85 rfl rfl ?_
          obtain ⟨fs, z19, e1, e2, hv⟩ := hv
          refine j_getf (k := 7) cl_X10 (by decide) w_f_X10_185 dX10_addPass_86 e1 e2 ?_
          refine j_imul dX10_addPass_89 ?_
          refine j_iconst (v := (3 : Int32)) dX10_addPass_90 (by decide) ?_
          obtain ⟨N0, N1, f0, f1, e1, e2, q1, q2, q3, q4, q5, hv⟩ := hv
          refine j_copy dX10_addPass_91 w_m_X10_151 w_na_copy w_st_copy w_ini_System (Nat.le_of_ble_eq_true rfl) (by omega) e1 e2 q1 q2 q3 q4 q5 ?_
          generalize q_set h17 r18 _ = h20 at hv ⊢
          refine j_aload_n dX10_addPass_94 rfl rfl ?_
          refine j_dup dX10_addPass_95 rfl ?_
          obtain ⟨fs, z21, e1, e2, hv⟩ := hv
          refine j_getf (k := 7) cl_X10 (by decide) w_f_X10_185 dX10_addPass_96 e1 e2 ?_
          refine j_iconst (v := (1 : Int32)) dX10_addPass_99 (by decide) ?_
          refine j_iadd dX10_addPass_100 ?_
          obtain ⟨fs, e1, e2, hv⟩ := hv
          refine j_put (k := 7) (ty0 := tyX10) cl_X10 (pf_X10_7) w_f_X10_185 dX10_addPass_101 (fun g ad => q_nI g ad _) e1 e2 ?_
          generalize q_set h20 x0 _ = h22 at hv ⊢
          refine j_aload_n dX10_addPass_104 rfl rfl ?_
          obtain ⟨fs, z23, e1, e2, hv⟩ := hv
          refine j_getf (k := 7) cl_X10 (by decide) w_f_X10_185 dX10_addPass_105 e1 e2 ?_
          exact j_iret dX10_addPass_108 rfl hv
        · replace hv := hv.1 hc
          refine j_aload_n dX10_addPass_54 rfl rfl ?_
          refine j_iconst (v := (2 : Int32)) dX10_addPass_55 (by decide) ?_
          obtain ⟨⟨fs, e1⟩, hv⟩ := hv
          refine j_virtual (avs := [.int (2 : Int32)]) (rest := []) (i := x0) (kc' := mc) (ks' := ms) dX10_addPass_56 mt_X10_fail w_m_X10_89 w_in_X10_fail w_se_X10_fail rfl rfl (Nat.le_of_ble_eq_true rfl) (Nat.le_refl _) (by omega) (by omega) cl_X10.1 e1 hv (fun _ _ q9 => q9) ?_
          rintro _ h24 ⟨z25, rfl, hv⟩ -
          exact j_iret dX10_addPass_59 rfl hv
      · replace hv := hv.1 hc
        refine j_aload_n dX10_addPass_39 rfl rfl ?_
        refine j_iconst (v := (1 : Int32)) dX10_addPass_40 (by decide) ?_
        obtain ⟨⟨fs, e1⟩, hv⟩ := hv
        refine j_virtual (avs := [.int (1 : Int32)]) (rest := []) (i := x0) (kc' := mc) (ks' := ms) dX10_addPass_41 mt_X10_fail w_m_X10_89 w_in_X10_fail w_se_X10_fail rfl rfl (Nat.le_of_ble_eq_true rfl) (Nat.le_refl _) (by omega) (by omega) cl_X10.1 e1 hv (fun _ _ q9 => q9) ?_
        rintro _ h26 ⟨z27, rfl, hv⟩ -
        exact j_iret dX10_addPass_44 rfl hv
set_option maxRecDepth 20000 in
set_option maxHeartbeats 4000000 in
theorem v_X10_rateAt_4 {l : Launch} {d mc ms n0 kc ks : Nat} {Q : Option Value → qH → Prop} {QX : String → qH → Prop} (x0 : Nat) (x1 : Int32) (x2 : Int32) (x3 : Int32) {h : qH} (hv : qGI h x0 10 7 (fun z1 => qIF (z1 ≤ x3) (Q (some (.int x2)) h) (qGR h x0 10 8 (fun r2 => qAL h r2 ((3 : Int32) * x3) (fun z3 => qGR h x0 10 8 (fun r4 => qAL h r4 (((3 : Int32) * x3) + (1 : Int32)) (fun z5 => qCI l (d + 0) mX10_isIn [.int x1, .int z3, .int (z5 - (1 : Int32))] h 0 0 (fun z7 h6 => qIF (z7 = 0) (q_J l (d + 1) mX10_rateAt mc ms Q QX n0 4 [some (.ref x0), some (.int x1), some (.int x2), some (.int (x3 + (1 : Int32)))] [] h6 kc ks) (qGR h6 x0 10 8 (fun r8 => qAL h6 r8 (((3 : Int32) * x3) + (2 : Int32)) (fun z9 => q_J l (d + 1) mX10_rateAt mc ms Q QX n0 4 [some (.ref x0), some (.int x1), some (.int (if x2 < z9 then z9 else x2)), some (.int (x3 + (1 : Int32)))] [] h6 kc ks))))))))))) : q_J l (d + 1) mX10_rateAt mc ms Q QX n0 4 [some (.ref x0), some (.int x1), some (.int x2), some (.int x3)] [] h kc ks := by
  refine j_iload_n dX10_rateAt_4 rfl rfl ?_
  refine j_aload_n dX10_rateAt_5 rfl rfl ?_
  obtain ⟨fs, z1, e1, e2, hv⟩ := hv
  refine j_getf (k := 7) cl_X10 (by decide) w_f_X10_185 dX10_rateAt_6 e1 e2 ?_
  refine j_icmp_ge (tgt := 60) dX10_rateAt_9 (by decide) (fun hc => ?_) (fun hc => ?_)
  · replace hv := hv.1 hc
    refine j_iload_n dX10_rateAt_60 rfl rfl ?_
    exact j_iret dX10_rateAt_61 rfl hv
  · replace hv := hv.2 hc
    refine j_iload_n dX10_rateAt_12 rfl rfl ?_
    refine j_aload_n dX10_rateAt_13 rfl rfl ?_
    obtain ⟨fs, r2, e1, e2, hv⟩ := hv
    refine j_getf (k := 8) cl_X10 (by decide) w_f_X10_27 dX10_rateAt_14 e1 e2 ?_
    refine j_iconst (v := (3 : Int32)) dX10_rateAt_17 (by decide) ?_
    refine j_iload_n dX10_rateAt_18 rfl rfl ?_
    refine j_imul dX10_rateAt_19 ?_
    obtain ⟨N, f, e1, e2, hv⟩ := hv
    refine j_iald dX10_rateAt_20 e1 e2 ?_
    generalize f _ = z3 at hv ⊢
    refine j_aload_n dX10_rateAt_21 rfl rfl ?_
    obtain ⟨fs, r4, e1, e2, hv⟩ := hv
    refine j_getf (k := 8) cl_X10 (by decide) w_f_X10_27 dX10_rateAt_22 e1 e2 ?_
    refine j_iconst (v := (3 : Int32)) dX10_rateAt_25 (by decide) ?_
    refine j_iload_n dX10_rateAt_26 rfl rfl ?_
    refine j_imul dX10_rateAt_27 ?_
    refine j_iconst (v := (1 : Int32)) dX10_rateAt_28 (by decide) ?_
    refine j_iadd dX10_rateAt_29 ?_
    obtain ⟨N, f, e1, e2, hv⟩ := hv
    refine j_iald dX10_rateAt_30 e1 e2 ?_
    generalize f _ = z5 at hv ⊢
    refine j_iconst (v := (1 : Int32)) dX10_rateAt_31 (by decide) ?_
    refine j_isub dX10_rateAt_32 ?_
    refine j_static (avs := [.int x1, .int z3, .int (z5 - (1 : Int32))]) (rest := []) (kc' := kc) (ks' := ks) dX10_rateAt_33 mt_X10_isIn w_m_X10_74 w_st_X10_isIn rfl rfl (Nat.le_of_ble_eq_true rfl) (Nat.le_refl _) (by omega) (by omega) hv (fun _ _ q9 => q9) ?_
    rintro _ h6 ⟨z7, rfl, hv⟩ -
    refine j_if_eq (tgt := 54) dX10_rateAt_36 (by decide) (fun hc => ?_) (fun hc => ?_)
    · replace hv := hv.1 hc
      refine j_iinc (w := (x3 + (1 : Int32))) dX10_rateAt_54 rfl (by rfl) (by decide) rfl rfl ?_
      refine j_goto (tgt := 4) dX10_rateAt_57 (by decide) ?_
      exact hv
    · replace hv := hv.2 hc
      refine j_iload_n dX10_rateAt_39 rfl rfl ?_
      refine j_aload_n dX10_rateAt_40 rfl rfl ?_
      obtain ⟨fs, r8, e1, e2, hv⟩ := hv
      refine j_getf (k := 8) cl_X10 (by decide) w_f_X10_27 dX10_rateAt_41 e1 e2 ?_
      refine j_iconst (v := (3 : Int32)) dX10_rateAt_44 (by decide) ?_
      refine j_iload_n dX10_rateAt_45 rfl rfl ?_
      refine j_imul dX10_rateAt_46 ?_
      refine j_iconst (v := (2 : Int32)) dX10_rateAt_47 (by decide) ?_
      refine j_iadd dX10_rateAt_48 ?_
      obtain ⟨N, f, e1, e2, hv⟩ := hv
      refine j_iald dX10_rateAt_49 e1 e2 ?_
      generalize f _ = z9 at hv ⊢
      refine j_mmax dX10_rateAt_50 w_m_X10_101 w_st_max w_ini_Math w_co_max (Nat.le_of_ble_eq_true rfl) (by omega) ?_
      refine j_istore_n dX10_rateAt_53 rfl (by decide) rfl rfl ?_
      refine j_iinc (w := (x3 + (1 : Int32))) dX10_rateAt_54 rfl (by rfl) (by decide) rfl rfl ?_
      refine j_goto (tgt := 4) dX10_rateAt_57 (by decide) ?_
      exact hv
set_option maxRecDepth 20000 in
set_option maxHeartbeats 4000000 in
theorem v_X10_rateAt {l : Launch} {d mc ms : Nat} {Q : Option Value → qH → Prop} {QX : String → qH → Prop} (x0 : Nat) (x1 : Int32) {h : qH} (hv : q_J l (d + 1) mX10_rateAt mc ms Q QX h.2 4 [some (.ref x0), some (.int x1), some (.int (0 : Int32)), some (.int (0 : Int32))] [] h mc ms) : q_Ct l (d + 1) mX10_rateAt [.ref x0, .int x1] h mc ms Q QX := by
  refine q_body (by decide ) (by intro v hm; simp only [List.mem_cons, List.not_mem_nil, or_false] at hm; rcases hm with rfl | rfl <;> rfl) (Nat.le_of_ble_eq_true rfl) ?_
  refine j_pad 2 rfl ?_
  refine j_iconst (v := (0 : Int32)) dX10_rateAt_0 (by decide) ?_
  refine j_istore_n dX10_rateAt_1 rfl (by decide) rfl rfl ?_
  refine j_iconst (v := (0 : Int32)) dX10_rateAt_2 (by decide) ?_
  refine j_istore_n dX10_rateAt_3 rfl (by decide) rfl rfl ?_
  exact hv
set_option maxRecDepth 20000 in
set_option maxHeartbeats 4000000 in
theorem v_X10_rate {l : Launch} {d mc ms : Nat} {Q : Option Value → qH → Prop} {QX : String → qH → Prop} (x0 : Nat) (x1 : Int32) {h : qH} (hv : qPI h x0 10 0 (0 : Int32) (fun h1 => qCI l (d + 1) mX10_isIn [.int x1, .int (0 : Int32), .int (1439 : Int32)] h1 0 0 (fun z3 h2 => qIF (z3 = 0) (qOB h2 x0 10 (qCI l (d + 1) mX10_fail [.ref x0, .int (1 : Int32)] h2 0 0 (fun z5 h4 => Q (some (.int z5)) h4))) (qOB h2 x0 10 (qCI l (d + 1) mX10_rateAt [.ref x0, .int x1] h2 0 0 (fun z7 h6 => Q (some (.int z7)) h6)))))) : q_Ct l (d + 2) mX10_rate [.ref x0, .int x1] h mc ms Q QX := by
  refine q_body (by decide ) (by intro v hm; simp only [List.mem_cons, List.not_mem_nil, or_false] at hm; rcases hm with rfl | rfl <;> rfl) (Nat.le_of_ble_eq_true rfl) ?_
  refine j_pad 0 rfl ?_
  refine j_aload_n dX10_rate_0 rfl rfl ?_
  refine j_iconst (v := (0 : Int32)) dX10_rate_1 (by decide) ?_
  obtain ⟨fs, e1, e2, hv⟩ := hv
  refine j_put (k := 0) (ty0 := tyX10) cl_X10 (pf_X10_0) w_f_X10_71 dX10_rate_2 (fun g ad => q_nI g ad _) e1 e2 ?_
  generalize q_set h x0 _ = h1 at hv ⊢
  refine j_iload_n dX10_rate_5 rfl rfl ?_
  refine j_iconst (v := (0 : Int32)) dX10_rate_6 (by decide) ?_
  refine j_sipush (v := (1439 : Int32)) dX10_rate_7 (by decide) ?_
  refine j_static (avs := [.int x1, .int (0 : Int32), .int (1439 : Int32)]) (rest := []) (kc' := mc) (ks' := ms) dX10_rate_10 mt_X10_isIn w_m_X10_74 w_st_X10_isIn rfl rfl (Nat.le_of_ble_eq_true rfl) (Nat.le_refl _) (by omega) (by omega) hv (fun _ _ q9 => q9) ?_
  rintro _ h2 ⟨z3, rfl, hv⟩ -
  refine j_if_eq (tgt := 24) dX10_rate_13 (by decide) (fun hc => ?_) (fun hc => ?_)
  · replace hv := hv.1 hc
    refine j_aload_n dX10_rate_24 rfl rfl ?_
    refine j_iconst (v := (1 : Int32)) dX10_rate_25 (by decide) ?_
    obtain ⟨⟨fs, e1⟩, hv⟩ := hv
    refine j_virtual (avs := [.int (1 : Int32)]) (rest := []) (i := x0) (kc' := mc) (ks' := ms) dX10_rate_26 mt_X10_fail w_m_X10_89 w_in_X10_fail w_se_X10_fail rfl rfl (Nat.le_of_ble_eq_true rfl) (Nat.le_refl _) (by omega) (by omega) cl_X10.1 e1 hv (fun _ _ q9 => q9) ?_
    rintro _ h4 ⟨z5, rfl, hv⟩ -
    exact j_iret dX10_rate_29 rfl hv
  · replace hv := hv.2 hc
    refine j_aload_n dX10_rate_16 rfl rfl ?_
    refine j_iload_n dX10_rate_17 rfl rfl ?_
    obtain ⟨⟨fs, e1⟩, hv⟩ := hv
    refine j_virtual (avs := [.int x1]) (rest := []) (i := x0) (kc' := mc) (ks' := ms) dX10_rate_18 mt_X10_rateAt w_m_X10_188 w_in_X10_rateAt w_se_X10_rateAt rfl rfl (Nat.le_of_ble_eq_true rfl) (Nat.le_refl _) (by omega) (by omega) cl_X10.1 e1 hv (fun _ _ q9 => q9) ?_
    rintro _ h6 ⟨z7, rfl, hv⟩ -
    refine j_goto (tgt := 29) dX10_rate_21 (by decide) ?_
    exact j_iret dX10_rate_29 rfl hv
set_option maxRecDepth 20000 in
set_option maxHeartbeats 4000000 in
theorem v_X10_light {l : Launch} {d mc ms : Nat} {Q : Option Value → qH → Prop} {QX : String → qH → Prop} (x0 : Int32) {h : qH} (hv : qCI l (d + 0) mX10_isIn [.int x0, .int (360 : Int32), .int (1079 : Int32)] h 0 0 (fun z2 h1 => qIF (z2 = 0) (Q (some (.int (0 : Int32))) h1) (Q (some (.int ((360 : Int32) - (if 0 ≤ (x0 - (720 : Int32)) then (x0 - (720 : Int32)) else 0 - (x0 - (720 : Int32)))))) h1))) : q_Ct l (d + 1) mX10_light [.int x0] h mc ms Q QX := by
  refine q_body (by decide ) (by intro v hm; simp only [List.mem_cons, List.not_mem_nil, or_false] at hm; subst hm; rfl) (Nat.le_of_ble_eq_true rfl) ?_
  refine j_pad 0 rfl ?_
  refine j_iload_n dX10_light_0 rfl rfl ?_
  refine j_sipush (v := (360 : Int32)) dX10_light_1 (by decide) ?_
  refine j_sipush (v := (1079 : Int32)) dX10_light_4 (by decide) ?_
  refine j_static (avs := [.int x0, .int (360 : Int32), .int (1079 : Int32)]) (rest := []) (kc' := mc) (ks' := ms) dX10_light_7 mt_X10_isIn w_m_X10_74 w_st_X10_isIn rfl rfl (Nat.le_of_ble_eq_true rfl) (Nat.le_refl _) (by omega) (by omega) hv (fun _ _ q9 => q9) ?_
  rintro _ h1 ⟨z2, rfl, hv⟩ -
  refine j_if_eq (tgt := 28) dX10_light_10 (by decide) (fun hc => ?_) (fun hc => ?_)
  · replace hv := hv.1 hc
    refine j_iconst (v := (0 : Int32)) dX10_light_28 (by decide) ?_
    exact j_iret dX10_light_29 rfl hv
  · replace hv := hv.2 hc
    refine j_sipush (v := (360 : Int32)) dX10_light_13 (by decide) ?_
    refine j_iload_n dX10_light_16 rfl rfl ?_
    refine j_sipush (v := (720 : Int32)) dX10_light_17 (by decide) ?_
    refine j_isub dX10_light_20 ?_
    refine j_mabs dX10_light_21 w_m_X10_112 w_st_abs w_ini_Math w_co_abs (Nat.le_of_ble_eq_true rfl) (by omega) ?_
    refine j_isub dX10_light_24 ?_
    refine j_goto (tgt := 29) dX10_light_25 (by decide) ?_
    exact j_iret dX10_light_29 rfl hv
set_option maxRecDepth 20000 in
set_option maxHeartbeats 4000000 in
theorem v_X10_air {l : Launch} {d mc ms : Nat} {Q : Option Value → qH → Prop} {QX : String → qH → Prop} (x0 : Int32) {h : qH} (hv : qCI l (d + 1) mX10_light [.int x0] h 0 0 (fun z2 h1 => Q (some (.int ((-70 : Int32) + (z2 / (6 : Int32))))) h1)) : q_Ct l (d + 2) mX10_air [.int x0] h mc ms Q QX := by
  refine q_body (by decide ) (by intro v hm; simp only [List.mem_cons, List.not_mem_nil, or_false] at hm; subst hm; rfl) (Nat.le_of_ble_eq_true rfl) ?_
  refine j_pad 0 rfl ?_
  refine j_bipush (v := (-70 : Int32)) dX10_air_0 (by decide) ?_
  refine j_iload_n dX10_air_2 rfl rfl ?_
  refine j_static (avs := [.int x0]) (rest := [.int (-70 : Int32)]) (kc' := mc) (ks' := ms) dX10_air_3 mt_X10_light w_m_X10_191 w_st_X10_light rfl rfl (Nat.le_of_ble_eq_true rfl) (Nat.le_refl _) (by omega) (by omega) hv (fun _ _ q9 => q9) ?_
  rintro _ h1 ⟨z2, rfl, hv⟩ -
  refine j_bipush (v := (6 : Int32)) dX10_air_6 (by decide) ?_
  refine j_idiv dX10_air_8 (by decide) ?_
  refine j_iadd dX10_air_9 ?_
  exact j_iret dX10_air_10 rfl hv
set_option maxRecDepth 20000 in
set_option maxHeartbeats 4000000 in
theorem v_X10_power {l : Launch} {d mc ms : Nat} {Q : Option Value → qH → Prop} {QX : String → qH → Prop} (x0 : Int32) (x1 : Int32) {h : qH} (hv : qCI l (d + 1) mX10_light [.int x0] h 0 0 (fun z2 h1 => Q (some (.int ((z2 * x1) / (3600 : Int32)))) h1)) : q_Ct l (d + 2) mX10_power [.int x0, .int x1] h mc ms Q QX := by
  refine q_body (by decide ) (by intro v hm; simp only [List.mem_cons, List.not_mem_nil, or_false] at hm; rcases hm with rfl | rfl <;> rfl) (Nat.le_of_ble_eq_true rfl) ?_
  refine j_pad 0 rfl ?_
  refine j_iload_n dX10_power_0 rfl rfl ?_
  refine j_static (avs := [.int x0]) (rest := []) (kc' := mc) (ks' := ms) dX10_power_1 mt_X10_light w_m_X10_191 w_st_X10_light rfl rfl (Nat.le_of_ble_eq_true rfl) (Nat.le_refl _) (by omega) (by omega) hv (fun _ _ q9 => q9) ?_
  rintro _ h1 ⟨z2, rfl, hv⟩ -
  refine j_iload_n dX10_power_4 rfl rfl ?_
  refine j_imul dX10_power_5 ?_
  refine j_sipush (v := (3600 : Int32)) dX10_power_6 (by decide) ?_
  refine j_idiv dX10_power_9 (by decide) ?_
  exact j_iret dX10_power_10 rfl hv
set_option maxRecDepth 20000 in
set_option maxHeartbeats 4000000 in
theorem v_X10_sky {l : Launch} {d mc ms : Nat} {Q : Option Value → qH → Prop} {QX : String → qH → Prop} (x0 : Nat) (x1 : Int32) (x2 : Int32) {h : qH} (hv : qPI h x0 10 0 (0 : Int32) (fun h1 => qCI l (d + 2) mX10_isIn [.int x1, .int (0 : Int32), .int (1439 : Int32)] h1 0 0 (fun z3 h2 => qIF (z3 = 0) (qOB h2 x0 10 (qCI l (d + 2) mX10_fail [.ref x0, .int (1 : Int32)] h2 0 0 (fun z11 h10 => Q (some (.int z11)) h10))) (qIF (x2 = 0) (qGR h2 x0 10 11 (fun r4 => qAL h2 r4 (6 : Int32) (fun z5 => qCI l (d + 2) mX10_power [.int x1, .int z5] h2 0 0 (fun z7 h6 => Q (some (.int z7)) h6)))) (qCI l (d + 2) mX10_air [.int x1] h2 0 0 (fun z9 h8 => Q (some (.int z9)) h8)))))) : q_Ct l (d + 3) mX10_sky [.ref x0, .int x1, .int x2] h mc ms Q QX := by
  refine q_body (by decide ) (by intro v hm; simp only [List.mem_cons, List.not_mem_nil, or_false] at hm; rcases hm with rfl | rfl | rfl <;> rfl) (Nat.le_of_ble_eq_true rfl) ?_
  refine j_pad 0 rfl ?_
  refine j_aload_n dX10_sky_0 rfl rfl ?_
  refine j_iconst (v := (0 : Int32)) dX10_sky_1 (by decide) ?_
  obtain ⟨fs, e1, e2, hv⟩ := hv
  refine j_put (k := 0) (ty0 := tyX10) cl_X10 (pf_X10_0) w_f_X10_71 dX10_sky_2 (fun g ad => q_nI g ad _) e1 e2 ?_
  generalize q_set h x0 _ = h1 at hv ⊢
  refine j_iload_n dX10_sky_5 rfl rfl ?_
  refine j_iconst (v := (0 : Int32)) dX10_sky_6 (by decide) ?_
  refine j_sipush (v := (1439 : Int32)) dX10_sky_7 (by decide) ?_
  refine j_static (avs := [.int x1, .int (0 : Int32), .int (1439 : Int32)]) (rest := []) (kc' := mc) (ks' := ms) dX10_sky_10 mt_X10_isIn w_m_X10_74 w_st_X10_isIn rfl rfl (Nat.le_of_ble_eq_true rfl) (Nat.le_refl _) (by omega) (by omega) hv (fun _ _ q9 => q9) ?_
  rintro _ h2 ⟨z3, rfl, hv⟩ -
  refine j_if_ne (tgt := 22) dX10_sky_13 (by decide) (fun hc => ?_) (fun hc => ?_)
  · replace hv := hv.2 hc
    refine j_iload_n dX10_sky_22 rfl rfl ?_
    refine j_if_eq (tgt := 33) dX10_sky_23 (by decide) (fun hc => ?_) (fun hc => ?_)
    · replace hv := hv.1 hc
      refine j_iload_n dX10_sky_33 rfl rfl ?_
      refine j_aload_n dX10_sky_34 rfl rfl ?_
      obtain ⟨fs, r4, e1, e2, hv⟩ := hv
      refine j_getf (k := 11) cl_X10 (by decide) w_f_X10_36 dX10_sky_35 e1 e2 ?_
      refine j_bipush (v := (6 : Int32)) dX10_sky_38 (by decide) ?_
      obtain ⟨N, f, e1, e2, hv⟩ := hv
      refine j_iald dX10_sky_40 e1 e2 ?_
      generalize f _ = z5 at hv ⊢
      refine j_static (avs := [.int x1, .int z5]) (rest := []) (kc' := mc) (ks' := ms) dX10_sky_41 mt_X10_power w_m_X10_197 w_st_X10_power rfl rfl (Nat.le_of_ble_eq_true rfl) (Nat.le_refl _) (by omega) (by omega) hv (fun _ _ q9 => q9) ?_
      rintro _ h6 ⟨z7, rfl, hv⟩ -
      exact j_iret dX10_sky_44 rfl hv
    · replace hv := hv.2 hc
      refine j_iload_n dX10_sky_26 rfl rfl ?_
      refine j_static (avs := [.int x1]) (rest := []) (kc' := mc) (ks' := ms) dX10_sky_27 mt_X10_air w_m_X10_194 w_st_X10_air rfl rfl (Nat.le_of_ble_eq_true rfl) (Nat.le_refl _) (by omega) (by omega) hv (fun _ _ q9 => q9) ?_
      rintro _ h8 ⟨z9, rfl, hv⟩ -
      refine j_goto (tgt := 44) dX10_sky_30 (by decide) ?_
      exact j_iret dX10_sky_44 rfl hv
  · replace hv := hv.1 hc
    refine j_aload_n dX10_sky_16 rfl rfl ?_
    refine j_iconst (v := (1 : Int32)) dX10_sky_17 (by decide) ?_
    obtain ⟨⟨fs, e1⟩, hv⟩ := hv
    refine j_virtual (avs := [.int (1 : Int32)]) (rest := []) (i := x0) (kc' := mc) (ks' := ms) dX10_sky_18 mt_X10_fail w_m_X10_89 w_in_X10_fail w_se_X10_fail rfl rfl (Nat.le_of_ble_eq_true rfl) (Nat.le_refl _) (by omega) (by omega) cl_X10.1 e1 hv (fun _ _ q9 => q9) ?_
    rintro _ h10 ⟨z11, rfl, hv⟩ -
    exact j_iret dX10_sky_21 rfl hv
set_option maxRecDepth 20000 in
set_option maxHeartbeats 4000000 in
theorem v_X10_units_4 {l : Launch} {d mc ms n0 kc ks : Nat} {Q : Option Value → qH → Prop} {QX : String → qH → Prop} (x0 : Nat) (x1 : Int32) (x2 : Int32) {h : qH} (hv : qAL h x0 (9 : Int32) (fun z1 => qIF (z1 ≤ x2) (Q (some (.int x1)) h) (qAL h x0 (((34 : Int32) + ((4 : Int32) * x2)) + (1 : Int32)) (fun z2 => q_J l (d + 0) mX10_units mc ms Q QX n0 4 [some (.ref x0), some (.int (x1 + z2)), some (.int (x2 + (1 : Int32)))] [] h kc ks)))) : q_J l (d + 0) mX10_units mc ms Q QX n0 4 [some (.ref x0), some (.int x1), some (.int x2)] [] h kc ks := by
  refine j_iload_n dX10_units_4 rfl rfl ?_
  refine j_aload_n dX10_units_5 rfl rfl ?_
  refine j_bipush (v := (9 : Int32)) dX10_units_6 (by decide) ?_
  obtain ⟨N, f, e1, e2, hv⟩ := hv
  refine j_iald dX10_units_8 e1 e2 ?_
  generalize f _ = z1 at hv ⊢
  refine j_icmp_ge (tgt := 31) dX10_units_9 (by decide) (fun hc => ?_) (fun hc => ?_)
  · replace hv := hv.1 hc
    refine j_iload_n dX10_units_31 rfl rfl ?_
    exact j_iret dX10_units_32 rfl hv
  · replace hv := hv.2 hc
    refine j_iload_n dX10_units_12 rfl rfl ?_
    refine j_aload_n dX10_units_13 rfl rfl ?_
    refine j_bipush (v := (34 : Int32)) dX10_units_14 (by decide) ?_
    refine j_iconst (v := (4 : Int32)) dX10_units_16 (by decide) ?_
    refine j_iload_n dX10_units_17 rfl rfl ?_
    refine j_imul dX10_units_18 ?_
    refine j_iadd dX10_units_19 ?_
    refine j_iconst (v := (1 : Int32)) dX10_units_20 (by decide) ?_
    refine j_iadd dX10_units_21 ?_
    obtain ⟨N, f, e1, e2, hv⟩ := hv
    refine j_iald dX10_units_22 e1 e2 ?_
    generalize f _ = z2 at hv ⊢
    refine j_iadd dX10_units_23 ?_
    refine j_istore_n dX10_units_24 rfl (by decide) rfl rfl ?_
    refine j_iinc (w := (x2 + (1 : Int32))) dX10_units_25 rfl (by rfl) (by decide) rfl rfl ?_
    refine j_goto (tgt := 4) dX10_units_28 (by decide) ?_
    exact hv
set_option maxRecDepth 20000 in
set_option maxHeartbeats 4000000 in
theorem v_X10_units {l : Launch} {d mc ms : Nat} {Q : Option Value → qH → Prop} {QX : String → qH → Prop} (x0 : Nat) {h : qH} (hv : q_J l (d + 0) mX10_units mc ms Q QX h.2 4 [some (.ref x0), some (.int (0 : Int32)), some (.int (0 : Int32))] [] h mc ms) : q_Ct l (d + 0) mX10_units [.ref x0] h mc ms Q QX := by
  refine q_body (by decide ) (by intro v hm; simp only [List.mem_cons, List.not_mem_nil, or_false] at hm; subst hm; rfl) (Nat.le_of_ble_eq_true rfl) ?_
  refine j_pad 2 rfl ?_
  refine j_iconst (v := (0 : Int32)) dX10_units_0 (by decide) ?_
  refine j_istore_n dX10_units_1 rfl (by decide) rfl rfl ?_
  refine j_iconst (v := (0 : Int32)) dX10_units_2 (by decide) ?_
  refine j_istore_n dX10_units_3 rfl (by decide) rfl rfl ?_
  exact hv
set_option maxRecDepth 20000 in
set_option maxHeartbeats 4000000 in
theorem v_X10_setRover {l : Launch} {d mc ms : Nat} {Q : Option Value → qH → Prop} {QX : String → qH → Prop} (x0 : Nat) (x1 : Int32) (x2 : Int32) {h : qH} (hv : qPI h x0 10 0 (0 : Int32) (fun h1 => qCI l (d + 0) mX10_isIn [.int x1, .int (100 : Int32), .int (20000 : Int32)] h1 0 0 (fun z3 h2 => qIF (z3 = 0) (qOB h2 x0 10 (qCI l (d + 0) mX10_fail [.ref x0, .int (1 : Int32)] h2 0 0 (fun z5 h4 => Q (some (.int z5)) h4))) (qCI l (d + 0) mX10_isIn [.int x2, .int (40 : Int32), .int (5000 : Int32)] h2 0 0 (fun z7 h6 => qIF (z7 = 0) (qOB h6 x0 10 (qCI l (d + 0) mX10_fail [.ref x0, .int (1 : Int32)] h6 0 0 (fun z23 h22 => Q (some (.int z23)) h22))) (qGR h6 x0 10 11 (fun r8 => qCI l (d + 0) mX10_units [.ref r8] h6 0 0 (fun z10 h9 => qIF (z10 ≤ x2) (qGI h9 x0 10 9 (fun z11 => qPI h9 x0 10 9 x1 (fun h12 => qPI h12 x0 10 10 x2 (fun h13 => qGR h13 x0 10 11 (fun r14 => qGR h13 x0 10 11 (fun r15 => qAL h13 r15 (3 : Int32) (fun z16 => qGI h13 x0 10 9 (fun z17 => qAS h13 r14 (3 : Int32) (if z17 < z16 then z17 else z16) (fun h19 => Q (some (.int z11)) h19))))))))) (qOB h9 x0 10 (qCI l (d + 0) mX10_fail [.ref x0, .int (2 : Int32)] h9 0 0 (fun z21 h20 => Q (some (.int z21)) h20))))))))))) : q_Ct l (d + 1) mX10_setRover [.ref x0, .int x1, .int x2] h mc ms Q QX := by
  refine q_body (by decide ) (by intro v hm; simp only [List.mem_cons, List.not_mem_nil, or_false] at hm; rcases hm with rfl | rfl | rfl <;> rfl) (Nat.le_of_ble_eq_true rfl) ?_
  refine j_pad 1 rfl ?_
  refine j_aload_n dX10_setRover_0 rfl rfl ?_
  refine j_iconst (v := (0 : Int32)) dX10_setRover_1 (by decide) ?_
  obtain ⟨fs, e1, e2, hv⟩ := hv
  refine j_put (k := 0) (ty0 := tyX10) cl_X10 (pf_X10_0) w_f_X10_71 dX10_setRover_2 (fun g ad => q_nI g ad _) e1 e2 ?_
  generalize q_set h x0 _ = h1 at hv ⊢
  refine j_iload_n dX10_setRover_5 rfl rfl ?_
  refine j_bipush (v := (100 : Int32)) dX10_setRover_6 (by decide) ?_
  refine j_sipush (v := (20000 : Int32)) dX10_setRover_8 (by decide) ?_
  refine j_static (avs := [.int x1, .int (100 : Int32), .int (20000 : Int32)]) (rest := []) (kc' := mc) (ks' := ms) dX10_setRover_11 mt_X10_isIn w_m_X10_74 w_st_X10_isIn rfl rfl (Nat.le_of_ble_eq_true rfl) (Nat.le_refl _) (by omega) (by omega) hv (fun _ _ q9 => q9) ?_
  rintro _ h2 ⟨z3, rfl, hv⟩ -
  refine j_if_eq (tgt := 29) dX10_setRover_14 (by decide) (fun hc => ?_) (fun hc => ?_)
  · replace hv := hv.1 hc
    refine j_aload_n dX10_setRover_29 rfl rfl ?_
    refine j_iconst (v := (1 : Int32)) dX10_setRover_30 (by decide) ?_
    obtain ⟨⟨fs, e1⟩, hv⟩ := hv
    refine j_virtual (avs := [.int (1 : Int32)]) (rest := []) (i := x0) (kc' := mc) (ks' := ms) dX10_setRover_31 mt_X10_fail w_m_X10_89 w_in_X10_fail w_se_X10_fail rfl rfl (Nat.le_of_ble_eq_true rfl) (Nat.le_refl _) (by omega) (by omega) cl_X10.1 e1 hv (fun _ _ q9 => q9) ?_
    rintro _ h4 ⟨z5, rfl, hv⟩ -
    exact j_iret dX10_setRover_34 rfl hv
  · replace hv := hv.2 hc
    refine j_iload_n dX10_setRover_17 rfl rfl ?_
    refine j_bipush (v := (40 : Int32)) dX10_setRover_18 (by decide) ?_
    refine j_sipush (v := (5000 : Int32)) dX10_setRover_20 (by decide) ?_
    refine j_static (avs := [.int x2, .int (40 : Int32), .int (5000 : Int32)]) (rest := []) (kc' := mc) (ks' := ms) dX10_setRover_23 mt_X10_isIn w_m_X10_74 w_st_X10_isIn rfl rfl (Nat.le_of_ble_eq_true rfl) (Nat.le_refl _) (by omega) (by omega) hv (fun _ _ q9 => q9) ?_
    rintro _ h6 ⟨z7, rfl, hv⟩ -
    refine j_if_ne (tgt := 35) dX10_setRover_26 (by decide) (fun hc => ?_) (fun hc => ?_)
    · replace hv := hv.2 hc
      refine j_aload_n dX10_setRover_35 rfl rfl ?_
      obtain ⟨fs, r8, e1, e2, hv⟩ := hv
      refine j_getf (k := 11) cl_X10 (by decide) w_f_X10_36 dX10_setRover_36 e1 e2 ?_
      refine j_static (avs := [.ref r8]) (rest := []) (kc' := mc) (ks' := ms) dX10_setRover_39 mt_X10_units w_m_X10_200 w_st_X10_units rfl rfl (Nat.le_of_ble_eq_true rfl) (Nat.le_refl _) (by omega) (by omega) hv (fun _ _ q9 => q9) ?_
      rintro _ h9 ⟨z10, rfl, hv⟩ -
      refine j_iload_n dX10_setRover_42 rfl rfl ?_
      refine j_icmp_le (tgt := 52) dX10_setRover_43 (by decide) (fun hc => ?_) (fun hc => ?_)
      · replace hv := hv.1 hc
        refine j_aload_n dX10_setRover_52 rfl rfl ?_
        obtain ⟨fs, z11, e1, e2, hv⟩ := hv
        refine j_getf (k := 9) cl_X10 (by decide) w_f_X10_30 dX10_setRover_53 e1 e2 ?_
        refine j_istore_n dX10_setRover_56 rfl (by decide) rfl rfl ?_
        refine j_aload_n dX10_setRover_57 rfl rfl ?_
        refine j_iload_n dX10_setRover_58 rfl rfl ?_
        obtain ⟨fs, e1, e2, hv⟩ := hv
        refine j_put (k := 9) (ty0 := tyX10) cl_X10 (pf_X10_9) w_f_X10_30 dX10_setRover_59 (fun g ad => q_nI g ad _) e1 e2 ?_
        generalize q_set h9 x0 _ = h12 at hv ⊢
        refine j_aload_n dX10_setRover_62 rfl rfl ?_
        refine j_iload_n dX10_setRover_63 rfl rfl ?_
        obtain ⟨fs, e1, e2, hv⟩ := hv
        refine j_put (k := 10) (ty0 := tyX10) cl_X10 (pf_X10_10) w_f_X10_33 dX10_setRover_64 (fun g ad => q_nI g ad _) e1 e2 ?_
        generalize q_set h12 x0 _ = h13 at hv ⊢
        refine j_aload_n dX10_setRover_67 rfl rfl ?_
        obtain ⟨fs, r14, e1, e2, hv⟩ := hv
        refine j_getf (k := 11) cl_X10 (by decide) w_f_X10_36 dX10_setRover_68 e1 e2 ?_
        refine j_iconst (v := (3 : Int32)) dX10_setRover_71 (by decide) ?_
        refine j_aload_n dX10_setRover_72 rfl rfl ?_
        obtain ⟨fs, r15, e1, e2, hv⟩ := hv
        refine j_getf (k := 11) cl_X10 (by decide) w_f_X10_36 dX10_setRover_73 e1 e2 ?_
        refine j_iconst (v := (3 : Int32)) dX10_setRover_76 (by decide) ?_
        obtain ⟨N, f, e1, e2, hv⟩ := hv
        refine j_iald dX10_setRover_77 e1 e2 ?_
        generalize f _ = z16 at hv ⊢
        refine j_aload_n dX10_setRover_78 rfl rfl ?_
        obtain ⟨fs, z17, e1, e2, hv⟩ := hv
        refine j_getf (k := 9) cl_X10 (by decide) w_f_X10_30 dX10_setRover_79 e1 e2 ?_
        refine j_mmin dX10_setRover_82 w_m_X10_204 w_st_min w_ini_Math w_co_min (Nat.le_of_ble_eq_true rfl) (by omega) ?_
        obtain ⟨N, f, e1, e2, hv⟩ := hv
        refine j_iast dX10_setRover_85 e1 e2 ?_
        generalize q_set h13 r14 _ = h19 at hv ⊢
        refine j_iload_n dX10_setRover_86 rfl rfl ?_
        exact j_iret dX10_setRover_87 rfl hv
      · replace hv := hv.2 hc
        refine j_aload_n dX10_setRover_46 rfl rfl ?_
        refine j_iconst (v := (2 : Int32)) dX10_setRover_47 (by decide) ?_
        obtain ⟨⟨fs, e1⟩, hv⟩ := hv
        refine j_virtual (avs := [.int (2 : Int32)]) (rest := []) (i := x0) (kc' := mc) (ks' := ms) dX10_setRover_48 mt_X10_fail w_m_X10_89 w_in_X10_fail w_se_X10_fail rfl rfl (Nat.le_of_ble_eq_true rfl) (Nat.le_refl _) (by omega) (by omega) cl_X10.1 e1 hv (fun _ _ q9 => q9) ?_
        rintro _ h20 ⟨z21, rfl, hv⟩ -
        exact j_iret dX10_setRover_51 rfl hv
    · replace hv := hv.1 hc
      refine j_aload_n dX10_setRover_29 rfl rfl ?_
      refine j_iconst (v := (1 : Int32)) dX10_setRover_30 (by decide) ?_
      obtain ⟨⟨fs, e1⟩, hv⟩ := hv
      refine j_virtual (avs := [.int (1 : Int32)]) (rest := []) (i := x0) (kc' := mc) (ks' := ms) dX10_setRover_31 mt_X10_fail w_m_X10_89 w_in_X10_fail w_se_X10_fail rfl rfl (Nat.le_of_ble_eq_true rfl) (Nat.le_refl _) (by omega) (by omega) cl_X10.1 e1 hv (fun _ _ q9 => q9) ?_
      rintro _ h22 ⟨z23, rfl, hv⟩ -
      exact j_iret dX10_setRover_34 rfl hv
set_option maxRecDepth 20000 in
set_option maxHeartbeats 4000000 in
theorem v_X10_roverTold {l : Launch} {d mc ms : Nat} {Q : Option Value → qH → Prop} {QX : String → qH → Prop} (x0 : Nat) (x1 : Int32) {h : qH} (hv : qIF ((7 : Int32) ≤ x1) (qIF (x1 = (7 : Int32)) (qCI l (d + 0) mX10_units [.ref x0] h 0 0 (fun z4 h3 => Q (some (.int z4)) h3)) (qIF (x1 = (8 : Int32)) (qAL h x0 (9 : Int32) (fun z2 => Q (some (.int z2)) h)) (qAL h x0 (7 : Int32) (fun z1 => Q (some (.int z1)) h)))) (qAL h x0 x1 (fun z5 => Q (some (.int z5)) h))) : q_Ct l (d + 1) mX10_roverTold [.ref x0, .int x1] h mc ms Q QX := by
  refine q_body (by decide ) (by intro v hm; simp only [List.mem_cons, List.not_mem_nil, or_false] at hm; rcases hm with rfl | rfl <;> rfl) (Nat.le_of_ble_eq_true rfl) ?_
  refine j_pad 0 rfl ?_
  refine j_iload_n dX10_roverTold_0 rfl rfl ?_
  refine j_bipush (v := (7 : Int32)) dX10_roverTold_1 (by decide) ?_
  refine j_icmp_ge (tgt := 10) dX10_roverTold_3 (by decide) (fun hc => ?_) (fun hc => ?_)
  · replace hv := hv.1 hc
    refine j_iload_n dX10_roverTold_10 rfl rfl ?_
    refine j_bipush (v := (7 : Int32)) dX10_roverTold_11 (by decide) ?_
    refine j_icmp_ne (tgt := 23) dX10_roverTold_13 (by decide) (fun hc => ?_) (fun hc => ?_)
    · replace hv := hv.2 hc
      refine j_iload_n dX10_roverTold_23 rfl rfl ?_
      refine j_bipush (v := (8 : Int32)) dX10_roverTold_24 (by decide) ?_
      refine j_icmp_ne (tgt := 36) dX10_roverTold_26 (by decide) (fun hc => ?_) (fun hc => ?_)
      · replace hv := hv.2 hc
        refine j_aload_n dX10_roverTold_36 rfl rfl ?_
        refine j_bipush (v := (7 : Int32)) dX10_roverTold_37 (by decide) ?_
        obtain ⟨N, f, e1, e2, hv⟩ := hv
        refine j_iald dX10_roverTold_39 e1 e2 ?_
        generalize f _ = z1 at hv ⊢
        exact j_iret dX10_roverTold_40 rfl hv
      · replace hv := hv.1 hc
        refine j_aload_n dX10_roverTold_29 rfl rfl ?_
        refine j_bipush (v := (9 : Int32)) dX10_roverTold_30 (by decide) ?_
        obtain ⟨N, f, e1, e2, hv⟩ := hv
        refine j_iald dX10_roverTold_32 e1 e2 ?_
        generalize f _ = z2 at hv ⊢
        refine j_goto (tgt := 40) dX10_roverTold_33 (by decide) ?_
        exact j_iret dX10_roverTold_40 rfl hv
    · replace hv := hv.1 hc
      refine j_aload_n dX10_roverTold_16 rfl rfl ?_
      refine j_static (avs := [.ref x0]) (rest := []) (kc' := mc) (ks' := ms) dX10_roverTold_17 mt_X10_units w_m_X10_200 w_st_X10_units rfl rfl (Nat.le_of_ble_eq_true rfl) (Nat.le_refl _) (by omega) (by omega) hv (fun _ _ q9 => q9) ?_
      rintro _ h3 ⟨z4, rfl, hv⟩ -
      refine j_goto (tgt := 40) dX10_roverTold_20 (by decide) ?_
      exact j_iret dX10_roverTold_40 rfl hv
  · replace hv := hv.2 hc
    refine j_aload_n dX10_roverTold_6 rfl rfl ?_
    refine j_iload_n dX10_roverTold_7 rfl rfl ?_
    obtain ⟨N, f, e1, e2, hv⟩ := hv
    refine j_iald dX10_roverTold_8 e1 e2 ?_
    generalize f _ = z5 at hv ⊢
    exact j_iret dX10_roverTold_9 rfl hv
set_option maxRecDepth 20000 in
set_option maxHeartbeats 4000000 in
theorem v_X10_rover {l : Launch} {d mc ms : Nat} {Q : Option Value → qH → Prop} {QX : String → qH → Prop} (x0 : Nat) (x1 : Int32) {h : qH} (hv : qPI h x0 10 0 (0 : Int32) (fun h1 => qCI l (d + 1) mX10_isIn [.int x1, .int (0 : Int32), .int (9 : Int32)] h1 0 0 (fun z3 h2 => qIF (z3 = 0) (qOB h2 x0 10 (qCI l (d + 1) mX10_fail [.ref x0, .int (1 : Int32)] h2 0 0 (fun z5 h4 => Q (some (.int z5)) h4))) (qGR h2 x0 10 11 (fun r6 => qCI l (d + 1) mX10_roverTold [.ref r6, .int x1] h2 0 0 (fun z8 h7 => Q (some (.int z8)) h7)))))) : q_Ct l (d + 2) mX10_rover [.ref x0, .int x1] h mc ms Q QX := by
  refine q_body (by decide ) (by intro v hm; simp only [List.mem_cons, List.not_mem_nil, or_false] at hm; rcases hm with rfl | rfl <;> rfl) (Nat.le_of_ble_eq_true rfl) ?_
  refine j_pad 0 rfl ?_
  refine j_aload_n dX10_rover_0 rfl rfl ?_
  refine j_iconst (v := (0 : Int32)) dX10_rover_1 (by decide) ?_
  obtain ⟨fs, e1, e2, hv⟩ := hv
  refine j_put (k := 0) (ty0 := tyX10) cl_X10 (pf_X10_0) w_f_X10_71 dX10_rover_2 (fun g ad => q_nI g ad _) e1 e2 ?_
  generalize q_set h x0 _ = h1 at hv ⊢
  refine j_iload_n dX10_rover_5 rfl rfl ?_
  refine j_iconst (v := (0 : Int32)) dX10_rover_6 (by decide) ?_
  refine j_bipush (v := (9 : Int32)) dX10_rover_7 (by decide) ?_
  refine j_static (avs := [.int x1, .int (0 : Int32), .int (9 : Int32)]) (rest := []) (kc' := mc) (ks' := ms) dX10_rover_9 mt_X10_isIn w_m_X10_74 w_st_X10_isIn rfl rfl (Nat.le_of_ble_eq_true rfl) (Nat.le_refl _) (by omega) (by omega) hv (fun _ _ q9 => q9) ?_
  rintro _ h2 ⟨z3, rfl, hv⟩ -
  refine j_if_eq (tgt := 26) dX10_rover_12 (by decide) (fun hc => ?_) (fun hc => ?_)
  · replace hv := hv.1 hc
    refine j_aload_n dX10_rover_26 rfl rfl ?_
    refine j_iconst (v := (1 : Int32)) dX10_rover_27 (by decide) ?_
    obtain ⟨⟨fs, e1⟩, hv⟩ := hv
    refine j_virtual (avs := [.int (1 : Int32)]) (rest := []) (i := x0) (kc' := mc) (ks' := ms) dX10_rover_28 mt_X10_fail w_m_X10_89 w_in_X10_fail w_se_X10_fail rfl rfl (Nat.le_of_ble_eq_true rfl) (Nat.le_refl _) (by omega) (by omega) cl_X10.1 e1 hv (fun _ _ q9 => q9) ?_
    rintro _ h4 ⟨z5, rfl, hv⟩ -
    exact j_iret dX10_rover_31 rfl hv
  · replace hv := hv.2 hc
    refine j_aload_n dX10_rover_15 rfl rfl ?_
    obtain ⟨fs, r6, e1, e2, hv⟩ := hv
    refine j_getf (k := 11) cl_X10 (by decide) w_f_X10_36 dX10_rover_16 e1 e2 ?_
    refine j_iload_n dX10_rover_19 rfl rfl ?_
    refine j_static (avs := [.ref r6, .int x1]) (rest := []) (kc' := mc) (ks' := ms) dX10_rover_20 mt_X10_roverTold w_m_X10_207 w_st_X10_roverTold rfl rfl (Nat.le_of_ble_eq_true rfl) (Nat.le_refl _) (by omega) (by omega) hv (fun _ _ q9 => q9) ?_
    rintro _ h7 ⟨z8, rfl, hv⟩ -
    refine j_goto (tgt := 31) dX10_rover_23 (by decide) ?_
    exact j_iret dX10_rover_31 rfl hv
set_option maxRecDepth 20000 in
set_option maxHeartbeats 4000000 in
theorem v_X10_piece {l : Launch} {d mc ms : Nat} {Q : Option Value → qH → Prop} {QX : String → qH → Prop} (x0 : Nat) (x1 : Int32) (x2 : Int32) {h : qH} (hv : qPI h x0 10 0 (0 : Int32) (fun h1 => qGR h1 x0 10 11 (fun r2 => qAL h1 r2 (9 : Int32) (fun z3 => qCI l (d + 0) mX10_isIn [.int x1, .int (0 : Int32), .int (z3 - (1 : Int32))] h1 0 0 (fun z5 h4 => qIF (z5 = 0) (qOB h4 x0 10 (qCI l (d + 0) mX10_fail [.ref x0, .int (1 : Int32)] h4 0 0 (fun z7 h6 => Q (some (.int z7)) h6))) (qCI l (d + 0) mX10_isIn [.int x2, .int (0 : Int32), .int (3 : Int32)] h4 0 0 (fun z9 h8 => qIF (z9 = 0) (qOB h8 x0 10 (qCI l (d + 0) mX10_fail [.ref x0, .int (1 : Int32)] h8 0 0 (fun z11 h10 => Q (some (.int z11)) h10))) (qGR h8 x0 10 11 (fun r12 => qAL h8 r12 (((34 : Int32) + ((4 : Int32) * x1)) + x2) (fun z13 => Q (some (.int z13)) h8)))))))))) : q_Ct l (d + 1) mX10_piece [.ref x0, .int x1, .int x2] h mc ms Q QX := by
  refine q_body (by decide ) (by intro v hm; simp only [List.mem_cons, List.not_mem_nil, or_false] at hm; rcases hm with rfl | rfl | rfl <;> rfl) (Nat.le_of_ble_eq_true rfl) ?_
  refine j_pad 0 rfl ?_
  refine j_aload_n dX10_piece_0 rfl rfl ?_
  refine j_iconst (v := (0 : Int32)) dX10_piece_1 (by decide) ?_
  obtain ⟨fs, e1, e2, hv⟩ := hv
  refine j_put (k := 0) (ty0 := tyX10) cl_X10 (pf_X10_0) w_f_X10_71 dX10_piece_2 (fun g ad => q_nI g ad _) e1 e2 ?_
  generalize q_set h x0 _ = h1 at hv ⊢
  refine j_iload_n dX10_piece_5 rfl rfl ?_
  refine j_iconst (v := (0 : Int32)) dX10_piece_6 (by decide) ?_
  refine j_aload_n dX10_piece_7 rfl rfl ?_
  obtain ⟨fs, r2, e1, e2, hv⟩ := hv
  refine j_getf (k := 11) cl_X10 (by decide) w_f_X10_36 dX10_piece_8 e1 e2 ?_
  refine j_bipush (v := (9 : Int32)) dX10_piece_11 (by decide) ?_
  obtain ⟨N, f, e1, e2, hv⟩ := hv
  refine j_iald dX10_piece_13 e1 e2 ?_
  generalize f _ = z3 at hv ⊢
  refine j_iconst (v := (1 : Int32)) dX10_piece_14 (by decide) ?_
  refine j_isub dX10_piece_15 ?_
  refine j_static (avs := [.int x1, .int (0 : Int32), .int (z3 - (1 : Int32))]) (rest := []) (kc' := mc) (ks' := ms) dX10_piece_16 mt_X10_isIn w_m_X10_74 w_st_X10_isIn rfl rfl (Nat.le_of_ble_eq_true rfl) (Nat.le_refl _) (by omega) (by omega) hv (fun _ _ q9 => q9) ?_
  rintro _ h4 ⟨z5, rfl, hv⟩ -
  refine j_if_eq (tgt := 47) dX10_piece_19 (by decide) (fun hc => ?_) (fun hc => ?_)
  · replace hv := hv.1 hc
    refine j_aload_n dX10_piece_47 rfl rfl ?_
    refine j_iconst (v := (1 : Int32)) dX10_piece_48 (by decide) ?_
    obtain ⟨⟨fs, e1⟩, hv⟩ := hv
    refine j_virtual (avs := [.int (1 : Int32)]) (rest := []) (i := x0) (kc' := mc) (ks' := ms) dX10_piece_49 mt_X10_fail w_m_X10_89 w_in_X10_fail w_se_X10_fail rfl rfl (Nat.le_of_ble_eq_true rfl) (Nat.le_refl _) (by omega) (by omega) cl_X10.1 e1 hv (fun _ _ q9 => q9) ?_
    rintro _ h6 ⟨z7, rfl, hv⟩ -
    exact j_iret dX10_piece_52 rfl hv
  · replace hv := hv.2 hc
    refine j_iload_n dX10_piece_22 rfl rfl ?_
    refine j_iconst (v := (0 : Int32)) dX10_piece_23 (by decide) ?_
    refine j_iconst (v := (3 : Int32)) dX10_piece_24 (by decide) ?_
    refine j_static (avs := [.int x2, .int (0 : Int32), .int (3 : Int32)]) (rest := []) (kc' := mc) (ks' := ms) dX10_piece_25 mt_X10_isIn w_m_X10_74 w_st_X10_isIn rfl rfl (Nat.le_of_ble_eq_true rfl) (Nat.le_refl _) (by omega) (by omega) hv (fun _ _ q9 => q9) ?_
    rintro _ h8 ⟨z9, rfl, hv⟩ -
    refine j_if_eq (tgt := 47) dX10_piece_28 (by decide) (fun hc => ?_) (fun hc => ?_)
    · replace hv := hv.1 hc
      refine j_aload_n dX10_piece_47 rfl rfl ?_
      refine j_iconst (v := (1 : Int32)) dX10_piece_48 (by decide) ?_
      obtain ⟨⟨fs, e1⟩, hv⟩ := hv
      refine j_virtual (avs := [.int (1 : Int32)]) (rest := []) (i := x0) (kc' := mc) (ks' := ms) dX10_piece_49 mt_X10_fail w_m_X10_89 w_in_X10_fail w_se_X10_fail rfl rfl (Nat.le_of_ble_eq_true rfl) (Nat.le_refl _) (by omega) (by omega) cl_X10.1 e1 hv (fun _ _ q9 => q9) ?_
      rintro _ h10 ⟨z11, rfl, hv⟩ -
      exact j_iret dX10_piece_52 rfl hv
    · replace hv := hv.2 hc
      refine j_aload_n dX10_piece_31 rfl rfl ?_
      obtain ⟨fs, r12, e1, e2, hv⟩ := hv
      refine j_getf (k := 11) cl_X10 (by decide) w_f_X10_36 dX10_piece_32 e1 e2 ?_
      refine j_bipush (v := (34 : Int32)) dX10_piece_35 (by decide) ?_
      refine j_iconst (v := (4 : Int32)) dX10_piece_37 (by decide) ?_
      refine j_iload_n dX10_piece_38 rfl rfl ?_
      refine j_imul dX10_piece_39 ?_
      refine j_iadd dX10_piece_40 ?_
      refine j_iload_n dX10_piece_41 rfl rfl ?_
      refine j_iadd dX10_piece_42 ?_
      obtain ⟨N, f, e1, e2, hv⟩ := hv
      refine j_iald dX10_piece_43 e1 e2 ?_
      generalize f _ = z13 at hv ⊢
      refine j_goto (tgt := 52) dX10_piece_44 (by decide) ?_
      exact j_iret dX10_piece_52 rfl hv
set_option maxRecDepth 20000 in
set_option maxHeartbeats 4000000 in
theorem v_X10_scoreOf_4 {l : Launch} {d mc ms n0 kc ks : Nat} {Q : Option Value → qH → Prop} {QX : String → qH → Prop} (x0 : Nat) (x1 : Int32) (x2 : Int32) {h : qH} (hv : qGI h x0 10 5 (fun z1 => qIF (z1 ≤ x2) (Q (some (.int x1)) h) (qGR h x0 10 11 (fun r2 => qOB h x0 10 (qCI l (d + 1) mX10_isMet [.ref x0, .ref r2, .int x2, .int (1 : Int32)] h 0 0 (fun z4 h3 => qIF (z4 = 0) (q_J l (d + 2) mX10_scoreOf mc ms Q QX n0 4 [some (.ref x0), some (.int (x1 + (0 : Int32))), some (.int (x2 + (1 : Int32)))] [] h3 kc ks) (qOB h3 x0 10 (qCI l (d + 1) mX10_value [.ref x0, .int x2] h3 0 0 (fun z6 h5 => q_J l (d + 2) mX10_scoreOf mc ms Q QX n0 4 [some (.ref x0), some (.int (x1 + z6)), some (.int (x2 + (1 : Int32)))] [] h5 kc ks))))))))) : q_J l (d + 2) mX10_scoreOf mc ms Q QX n0 4 [some (.ref x0), some (.int x1), some (.int x2)] [] h kc ks := by
  refine j_iload_n dX10_scoreOf_4 rfl rfl ?_
  refine j_aload_n dX10_scoreOf_5 rfl rfl ?_
  obtain ⟨fs, z1, e1, e2, hv⟩ := hv
  refine j_getf (k := 5) cl_X10 (by decide) w_f_X10_78 dX10_scoreOf_6 e1 e2 ?_
  refine j_icmp_ge (tgt := 43) dX10_scoreOf_9 (by decide) (fun hc => ?_) (fun hc => ?_)
  · replace hv := hv.1 hc
    refine j_iload_n dX10_scoreOf_43 rfl rfl ?_
    exact j_iret dX10_scoreOf_44 rfl hv
  · replace hv := hv.2 hc
    refine j_iload_n dX10_scoreOf_12 rfl rfl ?_
    refine j_aload_n dX10_scoreOf_13 rfl rfl ?_
    refine j_aload_n dX10_scoreOf_14 rfl rfl ?_
    obtain ⟨fs, r2, e1, e2, hv⟩ := hv
    refine j_getf (k := 11) cl_X10 (by decide) w_f_X10_36 dX10_scoreOf_15 e1 e2 ?_
    refine j_iload_n dX10_scoreOf_18 rfl rfl ?_
    refine j_iconst (v := (1 : Int32)) dX10_scoreOf_19 (by decide) ?_
    obtain ⟨⟨fs, e1⟩, hv⟩ := hv
    refine j_virtual (avs := [.ref r2, .int x2, .int (1 : Int32)]) (rest := [.int x1]) (i := x0) (kc' := kc) (ks' := ks) dX10_scoreOf_20 mt_X10_isMet w_m_X10_174 w_in_X10_isMet w_se_X10_isMet rfl rfl (Nat.le_of_ble_eq_true rfl) (Nat.le_refl _) (by omega) (by omega) cl_X10.1 e1 hv (fun _ _ q9 => q9) ?_
    rintro _ h3 ⟨z4, rfl, hv⟩ -
    refine j_if_eq (tgt := 34) dX10_scoreOf_23 (by decide) (fun hc => ?_) (fun hc => ?_)
    · replace hv := hv.1 hc
      refine j_iconst (v := (0 : Int32)) dX10_scoreOf_34 (by decide) ?_
      refine j_iadd dX10_scoreOf_35 ?_
      refine j_istore_n dX10_scoreOf_36 rfl (by decide) rfl rfl ?_
      refine j_iinc (w := (x2 + (1 : Int32))) dX10_scoreOf_37 rfl (by rfl) (by decide) rfl rfl ?_
      refine j_goto (tgt := 4) dX10_scoreOf_40 (by decide) ?_
      exact hv
    · replace hv := hv.2 hc
      refine j_aload_n dX10_scoreOf_26 rfl rfl ?_
      refine j_iload_n dX10_scoreOf_27 rfl rfl ?_
      obtain ⟨⟨fs, e1⟩, hv⟩ := hv
      refine j_virtual (avs := [.int x2]) (rest := [.int x1]) (i := x0) (kc' := kc) (ks' := ks) dX10_scoreOf_28 mt_X10_value w_m_X10_171 w_in_X10_value w_se_X10_value rfl rfl (Nat.le_of_ble_eq_true rfl) (Nat.le_refl _) (by omega) (by omega) cl_X10.1 e1 hv (fun _ _ q9 => q9) ?_
      rintro _ h5 ⟨z6, rfl, hv⟩ -
      refine j_goto (tgt := 35) dX10_scoreOf_31 (by decide) ?_
      refine j_iadd dX10_scoreOf_35 ?_
      refine j_istore_n dX10_scoreOf_36 rfl (by decide) rfl rfl ?_
      refine j_iinc (w := (x2 + (1 : Int32))) dX10_scoreOf_37 rfl (by rfl) (by decide) rfl rfl ?_
      refine j_goto (tgt := 4) dX10_scoreOf_40 (by decide) ?_
      exact hv
set_option maxRecDepth 20000 in
set_option maxHeartbeats 4000000 in
theorem v_X10_scoreOf {l : Launch} {d mc ms : Nat} {Q : Option Value → qH → Prop} {QX : String → qH → Prop} (x0 : Nat) {h : qH} (hv : q_J l (d + 2) mX10_scoreOf mc ms Q QX h.2 4 [some (.ref x0), some (.int (0 : Int32)), some (.int (0 : Int32))] [] h mc ms) : q_Ct l (d + 2) mX10_scoreOf [.ref x0] h mc ms Q QX := by
  refine q_body (by decide ) (by intro v hm; simp only [List.mem_cons, List.not_mem_nil, or_false] at hm; subst hm; rfl) (Nat.le_of_ble_eq_true rfl) ?_
  refine j_pad 2 rfl ?_
  refine j_iconst (v := (0 : Int32)) dX10_scoreOf_0 (by decide) ?_
  refine j_istore_n dX10_scoreOf_1 rfl (by decide) rfl rfl ?_
  refine j_iconst (v := (0 : Int32)) dX10_scoreOf_2 (by decide) ?_
  refine j_istore_n dX10_scoreOf_3 rfl (by decide) rfl rfl ?_
  exact hv
set_option maxRecDepth 20000 in
set_option maxHeartbeats 4000000 in
theorem v_X10_score {l : Launch} {d mc ms : Nat} {Q : Option Value → qH → Prop} {QX : String → qH → Prop} (x0 : Nat) {h : qH} (hv : qPI h x0 10 0 (0 : Int32) (fun h1 => qOB h1 x0 10 (qCI l (d + 2) mX10_scoreOf [.ref x0] h1 0 0 (fun z3 h2 => Q (some (.int z3)) h2)))) : q_Ct l (d + 3) mX10_score [.ref x0] h mc ms Q QX := by
  refine q_body (by decide ) (by intro v hm; simp only [List.mem_cons, List.not_mem_nil, or_false] at hm; subst hm; rfl) (Nat.le_of_ble_eq_true rfl) ?_
  refine j_pad 0 rfl ?_
  refine j_aload_n dX10_score_0 rfl rfl ?_
  refine j_iconst (v := (0 : Int32)) dX10_score_1 (by decide) ?_
  obtain ⟨fs, e1, e2, hv⟩ := hv
  refine j_put (k := 0) (ty0 := tyX10) cl_X10 (pf_X10_0) w_f_X10_71 dX10_score_2 (fun g ad => q_nI g ad _) e1 e2 ?_
  generalize q_set h x0 _ = h1 at hv ⊢
  refine j_aload_n dX10_score_5 rfl rfl ?_
  obtain ⟨⟨fs, e1⟩, hv⟩ := hv
  refine j_virtual (avs := []) (rest := []) (i := x0) (kc' := mc) (ks' := ms) dX10_score_6 mt_X10_scoreOf w_m_X10_210 w_in_X10_scoreOf w_se_X10_scoreOf rfl rfl (Nat.le_of_ble_eq_true rfl) (Nat.le_refl _) (by omega) (by omega) cl_X10.1 e1 hv (fun _ _ q9 => q9) ?_
  rintro _ h2 ⟨z3, rfl, hv⟩ -
  exact j_iret dX10_score_9 rfl hv
set_option maxRecDepth 20000 in
set_option maxHeartbeats 4000000 in
theorem v_X10_pass_104 {l : Launch} {d mc ms n0 kc ks : Nat} {Q : Option Value → qH → Prop} {QX : String → qH → Prop} (x0 : Nat) (x1 : Nat) (x2 : Int32) (x3 : Int32) (x4 : Int32) (x5 : Int32) (y0 : Nat) (y1 : Int32) (y2 : Int32) (y3 : Int32) (y4 : Int32) {h : qH} (hv : qAS h y0 y1 (y2 + (y3 + y4)) (fun h1 => qAL h1 x1 (0 : Int32) (fun z2 => qAS h1 x1 (0 : Int32) (z2 + (1 : Int32)) (fun h3 => qAL h3 x1 (0 : Int32) (fun z4 => qIF ((z4 - z4 / (1440 : Int32) * (1440 : Int32)) = 0) (qAL h3 x1 (6 : Int32) (fun z5 => qAS h3 x1 (6 : Int32) (if (20 : Int32) < (z5 - (1 : Int32)) then (z5 - (1 : Int32)) else (20 : Int32)) (fun h7 => Q (some (.int (0 : Int32))) h7))) (Q (some (.int (0 : Int32))) h3)))))) : q_J l (d + 3) mX10_pass mc ms Q QX n0 104 [some (.ref x0), some (.ref x1), some (.int x2), some (.int x3), some (.int x4), some (.int x5)] [.int y4, .int y3, .int y2, .int y1, .ref y0] h kc ks := by
  refine j_iadd dX10_pass_104 ?_
  refine j_iadd dX10_pass_105 ?_
  obtain ⟨N, f, e1, e2, hv⟩ := hv
  refine j_iast dX10_pass_106 e1 e2 ?_
  generalize q_set h y0 _ = h1 at hv ⊢
  refine j_aload_n dX10_pass_107 rfl rfl ?_
  refine j_iconst (v := (0 : Int32)) dX10_pass_108 (by decide) ?_
  refine j_dup2 dX10_pass_109 rfl rfl ?_
  obtain ⟨N, f, e1, e2, hv⟩ := hv
  refine j_iald dX10_pass_110 e1 e2 ?_
  generalize f _ = z2 at hv ⊢
  refine j_iconst (v := (1 : Int32)) dX10_pass_111 (by decide) ?_
  refine j_iadd dX10_pass_112 ?_
  obtain ⟨N, f, e1, e2, hv⟩ := hv
  refine j_iast dX10_pass_113 e1 e2 ?_
  generalize q_set h1 x1 _ = h3 at hv ⊢
  refine j_aload_n dX10_pass_114 rfl rfl ?_
  refine j_iconst (v := (0 : Int32)) dX10_pass_115 (by decide) ?_
  obtain ⟨N, f, e1, e2, hv⟩ := hv
  refine j_iald dX10_pass_116 e1 e2 ?_
  generalize f _ = z4 at hv ⊢
  refine j_sipush (v := (1440 : Int32)) dX10_pass_117 (by decide) ?_
  refine j_irem dX10_pass_120 (by decide) ?_
  refine j_if_ne (tgt := 139) dX10_pass_121 (by decide) (fun hc => ?_) (fun hc => ?_)
  · replace hv := hv.2 hc
    refine j_iconst (v := (0 : Int32)) dX10_pass_139 (by decide) ?_
    exact j_iret dX10_pass_140 rfl hv
  · replace hv := hv.1 hc
    refine j_aload_n dX10_pass_124 rfl rfl ?_
    refine j_bipush (v := (6 : Int32)) dX10_pass_125 (by decide) ?_
    refine j_bipush (v := (20 : Int32)) dX10_pass_127 (by decide) ?_
    refine j_aload_n dX10_pass_129 rfl rfl ?_
    refine j_bipush (v := (6 : Int32)) dX10_pass_130 (by decide) ?_
    obtain ⟨N, f, e1, e2, hv⟩ := hv
    refine j_iald dX10_pass_132 e1 e2 ?_
    generalize f _ = z5 at hv ⊢
    refine j_iconst (v := (1 : Int32)) dX10_pass_133 (by decide) ?_
    refine j_isub dX10_pass_134 ?_
    refine j_mmax dX10_pass_135 w_m_X10_101 w_st_max w_ini_Math w_co_max (Nat.le_of_ble_eq_true rfl) (by omega) ?_
    obtain ⟨N, f, e1, e2, hv⟩ := hv
    refine j_iast dX10_pass_138 e1 e2 ?_
    generalize q_set h3 x1 _ = h7 at hv ⊢
    refine j_iconst (v := (0 : Int32)) dX10_pass_139 (by decide) ?_
    exact j_iret dX10_pass_140 rfl hv
set_option maxRecDepth 20000 in
set_option maxHeartbeats 4000000 in
theorem v_X10_pass_43 {l : Launch} {d mc ms n0 kc ks : Nat} {Q : Option Value → qH → Prop} {QX : String → qH → Prop} (x0 : Nat) (x1 : Nat) (x2 : Int32) (x3 : Int32) (x4 : Int32) (y0 : Int32) (y1 : Int32) {h : qH} (hv : qAL h x1 (5 : Int32) (fun z1 => qGI h x0 10 9 (fun z2 => qAS h x1 (3 : Int32) (if (((y0 - y1) - ((3 : Int32) * z1)) - x2) < z2 then (((y0 - y1) - ((3 : Int32) * z1)) - x2) else z2) (fun h4 => qIF (0 ≤ (((y0 - y1) - ((3 : Int32) * z1)) - x2)) (qAL h4 x1 (4 : Int32) (fun z5 => qCI l (d + 2) mX10_air [.int x4] h4 0 0 (fun z7 h6 => qAL h6 x1 (4 : Int32) (fun z8 => qAL h6 x1 (5 : Int32) (fun z9 => qIF (x3 = 0) (q_J l (d + 3) mX10_pass mc ms Q QX n0 104 [some (.ref x0), some (.ref x1), some (.int x2), some (.int x3), some (.int x4), some (.int (((y0 - y1) - ((3 : Int32) * z1)) - x2))] [.int (0 : Int32), .int (((z7 - z8) / (20 : Int32)) + ((2 : Int32) * z9)), .int z5, .int (4 : Int32), .ref x1] h6 kc ks) (q_J l (d + 3) mX10_pass mc ms Q QX n0 104 [some (.ref x0), some (.ref x1), some (.int x2), some (.int x3), some (.int x4), some (.int (((y0 - y1) - ((3 : Int32) * z1)) - x2))] [.int (1 : Int32), .int (((z7 - z8) / (20 : Int32)) + ((2 : Int32) * z9)), .int z5, .int (4 : Int32), .ref x1] h6 kc ks)))))) (Q (some (.int (2 : Int32))) h4))))) : q_J l (d + 3) mX10_pass mc ms Q QX n0 43 [some (.ref x0), some (.ref x1), some (.int x2), some (.int x3), some (.int x4), none] [.int y1, .int y0] h kc ks := by
  refine j_isub dX10_pass_43 ?_
  refine j_iconst (v := (3 : Int32)) dX10_pass_44 (by decide) ?_
  refine j_aload_n dX10_pass_45 rfl rfl ?_
  refine j_iconst (v := (5 : Int32)) dX10_pass_46 (by decide) ?_
  obtain ⟨N, f, e1, e2, hv⟩ := hv
  refine j_iald dX10_pass_47 e1 e2 ?_
  generalize f _ = z1 at hv ⊢
  refine j_imul dX10_pass_48 ?_
  refine j_isub dX10_pass_49 ?_
  refine j_iload_n dX10_pass_50 rfl rfl ?_
  refine j_isub dX10_pass_51 ?_
  refine j_istore dX10_pass_52 (by decide) rfl rfl ?_
  refine j_aload_n dX10_pass_54 rfl rfl ?_
  refine j_iconst (v := (3 : Int32)) dX10_pass_55 (by decide) ?_
  refine j_aload_n dX10_pass_56 rfl rfl ?_
  obtain ⟨fs, z2, e1, e2, hv⟩ := hv
  refine j_getf (k := 9) cl_X10 (by decide) w_f_X10_30 dX10_pass_57 e1 e2 ?_
  refine j_iload dX10_pass_60 rfl ?_
  refine j_mmin dX10_pass_62 w_m_X10_204 w_st_min w_ini_Math w_co_min (Nat.le_of_ble_eq_true rfl) (by omega) ?_
  obtain ⟨N, f, e1, e2, hv⟩ := hv
  refine j_iast dX10_pass_65 e1 e2 ?_
  generalize q_set h x1 _ = h4 at hv ⊢
  refine j_iload dX10_pass_66 rfl ?_
  refine j_if_ge (tgt := 73) dX10_pass_68 (by decide) (fun hc => ?_) (fun hc => ?_)
  · replace hv := hv.1 hc
    refine j_aload_n dX10_pass_73 rfl rfl ?_
    refine j_iconst (v := (4 : Int32)) dX10_pass_74 (by decide) ?_
    refine j_dup2 dX10_pass_75 rfl rfl ?_
    obtain ⟨N, f, e1, e2, hv⟩ := hv
    refine j_iald dX10_pass_76 e1 e2 ?_
    generalize f _ = z5 at hv ⊢
    refine j_iload dX10_pass_77 rfl ?_
    refine j_static (avs := [.int x4]) (rest := [.int z5, .int (4 : Int32), .ref x1]) (kc' := kc) (ks' := ks) dX10_pass_79 mt_X10_air w_m_X10_194 w_st_X10_air rfl rfl (Nat.le_of_ble_eq_true rfl) (Nat.le_refl _) (by omega) (by omega) hv (fun _ _ q9 => q9) ?_
    rintro _ h6 ⟨z7, rfl, hv⟩ -
    refine j_aload_n dX10_pass_82 rfl rfl ?_
    refine j_iconst (v := (4 : Int32)) dX10_pass_83 (by decide) ?_
    obtain ⟨N, f, e1, e2, hv⟩ := hv
    refine j_iald dX10_pass_84 e1 e2 ?_
    generalize f _ = z8 at hv ⊢
    refine j_isub dX10_pass_85 ?_
    refine j_bipush (v := (20 : Int32)) dX10_pass_86 (by decide) ?_
    refine j_idiv dX10_pass_88 (by decide) ?_
    refine j_iconst (v := (2 : Int32)) dX10_pass_89 (by decide) ?_
    refine j_aload_n dX10_pass_90 rfl rfl ?_
    refine j_iconst (v := (5 : Int32)) dX10_pass_91 (by decide) ?_
    obtain ⟨N, f, e1, e2, hv⟩ := hv
    refine j_iald dX10_pass_92 e1 e2 ?_
    generalize f _ = z9 at hv ⊢
    refine j_imul dX10_pass_93 ?_
    refine j_iadd dX10_pass_94 ?_
    refine j_iload_n dX10_pass_95 rfl rfl ?_
    refine j_if_eq (tgt := 103) dX10_pass_96 (by decide) (fun hc => ?_) (fun hc => ?_)
    · replace hv := hv.1 hc
      refine j_iconst (v := (0 : Int32)) dX10_pass_103 (by decide) ?_
      exact hv
    · replace hv := hv.2 hc
      refine j_iconst (v := (1 : Int32)) dX10_pass_99 (by decide) ?_
      refine j_goto (tgt := 104) dX10_pass_100 (by decide) ?_
      exact hv
  · replace hv := hv.2 hc
    refine j_iconst (v := (2 : Int32)) dX10_pass_71 (by decide) ?_
    exact j_iret dX10_pass_72 rfl hv
set_option maxRecDepth 20000 in
set_option maxHeartbeats 4000000 in
theorem v_X10_pass {l : Launch} {d mc ms : Nat} {Q : Option Value → qH → Prop} {QX : String → qH → Prop} (x0 : Nat) (x1 : Nat) (x2 : Int32) (x3 : Int32) {h : qH} (hv : qAL h x1 (0 : Int32) (fun z1 => qIF (z1 = (14400 : Int32)) (Q (some (.int (7 : Int32))) h) (qAL h x1 (0 : Int32) (fun z2 => qAL h x1 (3 : Int32) (fun z3 => qAL h x1 (6 : Int32) (fun z4 => qCI l (d + 2) mX10_power [.int (z2 - z2 / (1440 : Int32) * (1440 : Int32)), .int z4] h 0 0 (fun z6 h5 => qIF (x3 = 0) (q_J l (d + 3) mX10_pass mc ms Q QX h.2 43 [some (.ref x0), some (.ref x1), some (.int x2), some (.int x3), some (.int (z2 - z2 / (1440 : Int32) * (1440 : Int32))), none] [.int (1 : Int32), .int (z3 + z6)] h5 mc ms) (q_J l (d + 3) mX10_pass mc ms Q QX h.2 43 [some (.ref x0), some (.ref x1), some (.int x2), some (.int x3), some (.int (z2 - z2 / (1440 : Int32) * (1440 : Int32))), none] [.int (2 : Int32), .int (z3 + z6)] h5 mc ms)))))))) : q_Ct l (d + 3) mX10_pass [.ref x0, .ref x1, .int x2, .int x3] h mc ms Q QX := by
  refine q_body (by decide ) (by intro v hm; simp only [List.mem_cons, List.not_mem_nil, or_false] at hm; rcases hm with rfl | rfl | rfl | rfl <;> rfl) (Nat.le_of_ble_eq_true rfl) ?_
  refine j_pad 2 rfl ?_
  refine j_aload_n dX10_pass_0 rfl rfl ?_
  refine j_iconst (v := (0 : Int32)) dX10_pass_1 (by decide) ?_
  obtain ⟨N, f, e1, e2, hv⟩ := hv
  refine j_iald dX10_pass_2 e1 e2 ?_
  generalize f _ = z1 at hv ⊢
  refine j_sipush (v := (14400 : Int32)) dX10_pass_3 (by decide) ?_
  refine j_icmp_ne (tgt := 12) dX10_pass_6 (by decide) (fun hc => ?_) (fun hc => ?_)
  · replace hv := hv.2 hc
    refine j_aload_n dX10_pass_12 rfl rfl ?_
    refine j_iconst (v := (0 : Int32)) dX10_pass_13 (by decide) ?_
    obtain ⟨N, f, e1, e2, hv⟩ := hv
    refine j_iald dX10_pass_14 e1 e2 ?_
    generalize f _ = z2 at hv ⊢
    refine j_sipush (v := (1440 : Int32)) dX10_pass_15 (by decide) ?_
    refine j_irem dX10_pass_18 (by decide) ?_
    refine j_istore dX10_pass_19 (by decide) rfl rfl ?_
    refine j_aload_n dX10_pass_21 rfl rfl ?_
    refine j_iconst (v := (3 : Int32)) dX10_pass_22 (by decide) ?_
    obtain ⟨N, f, e1, e2, hv⟩ := hv
    refine j_iald dX10_pass_23 e1 e2 ?_
    generalize f _ = z3 at hv ⊢
    refine j_iload dX10_pass_24 rfl ?_
    refine j_aload_n dX10_pass_26 rfl rfl ?_
    refine j_bipush (v := (6 : Int32)) dX10_pass_27 (by decide) ?_
    obtain ⟨N, f, e1, e2, hv⟩ := hv
    refine j_iald dX10_pass_29 e1 e2 ?_
    generalize f _ = z4 at hv ⊢
    refine j_static (avs := [.int (z2 - z2 / (1440 : Int32) * (1440 : Int32)), .int z4]) (rest := [.int z3]) (kc' := mc) (ks' := ms) dX10_pass_30 mt_X10_power w_m_X10_197 w_st_X10_power rfl rfl (Nat.le_of_ble_eq_true rfl) (Nat.le_refl _) (by omega) (by omega) hv (fun _ _ q9 => q9) ?_
    rintro _ h5 ⟨z6, rfl, hv⟩ -
    refine j_iadd dX10_pass_33 ?_
    refine j_iload_n dX10_pass_34 rfl rfl ?_
    refine j_if_eq (tgt := 42) dX10_pass_35 (by decide) (fun hc => ?_) (fun hc => ?_)
    · replace hv := hv.1 hc
      refine j_iconst (v := (1 : Int32)) dX10_pass_42 (by decide) ?_
      exact hv
    · replace hv := hv.2 hc
      refine j_iconst (v := (2 : Int32)) dX10_pass_38 (by decide) ?_
      refine j_goto (tgt := 43) dX10_pass_39 (by decide) ?_
      exact hv
  · replace hv := hv.1 hc
    refine j_bipush (v := (7 : Int32)) dX10_pass_9 (by decide) ?_
    exact j_iret dX10_pass_11 rfl hv
