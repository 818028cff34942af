set_option maxRecDepth 20000 in
set_option maxHeartbeats 4000000 in
theorem v_X4_isFull {l : Launch} {d mc ms : Nat} {Q : Option Value → qH → Prop} {QX : String → qH → Prop} (x0 : Nat) {h : qH} (hv : qGI h x0 4 3 (fun z1 => qIF (z1 < (6 : Int32)) (Q (some (.int (0 : Int32))) h) (Q (some (.int (1 : Int32))) h))) : q_Ct l (d + 0) mX4_isFull [.ref x0] h mc ms Q QX := by
  refine q_body (by decide ) (by intro v hm; simp only [List.mem_cons, List.not_mem_nil, or_false] at hm; subst hm; rfl) (Nat.le_of_ble_eq_true rfl) ?_
  refine j_pad 0 rfl ?_
  refine j_aload_n dX4_isFull_0 rfl rfl ?_
  obtain ⟨fs, z1, e1, e2, hv⟩ := hv
  refine j_getf (k := 3) cl_X4 (by decide) w_f_X4_21 dX4_isFull_1 e1 e2 ?_
  refine j_bipush (v := (6 : Int32)) dX4_isFull_4 (by decide) ?_
  refine j_icmp_lt (tgt := 13) dX4_isFull_6 (by decide) (fun hc => ?_) (fun hc => ?_)
  · replace hv := hv.1 hc
    refine j_iconst (v := (0 : Int32)) dX4_isFull_13 (by decide) ?_
    exact j_zret dX4_isFull_14 rfl (by decide) hv
  · replace hv := hv.2 hc
    refine j_iconst (v := (1 : Int32)) dX4_isFull_9 (by decide) ?_
    refine j_goto (tgt := 14) dX4_isFull_10 (by decide) ?_
    exact j_zret dX4_isFull_14 rfl (by decide) hv
set_option maxRecDepth 20000 in
set_option maxHeartbeats 4000000 in
theorem v_X4_append {l : Launch} {d mc ms : Nat} {Q : Option Value → qH → Prop} {QX : String → qH → Prop} (x0 : Nat) (x1 : Int32) (x2 : Int32) (x3 : Int32) {h : qH} (hv : qOB h x0 4 (qCI l (d + 0) mX4_isFull [.ref x0] h 0 0 (fun z2 h1 => qIF (z2 = 0) (qGI h1 x0 4 3 (fun z4 => qIF (z4 < 0) (qGI h1 x0 4 3 (fun z5 => Q (some (.int z5)) h1)) (qGR h1 x0 4 0 (fun r6 => qGI h1 x0 4 3 (fun z7 => qAS h1 r6 z7 x1 (fun h8 => qGR h8 x0 4 1 (fun r9 => qGI h8 x0 4 3 (fun z10 => qAS h8 r9 z10 x2 (fun h11 => qGR h11 x0 4 2 (fun r12 => qGI h11 x0 4 3 (fun z13 => qAS h11 r12 z13 x3 (fun h14 => qGI h14 x0 4 3 (fun z15 => qPI h14 x0 4 3 (z15 + (1 : Int32)) (fun h16 => qGI h16 x0 4 3 (fun z17 => Q (some (.int z17)) h16))))))))))))))) (qGI h1 x0 4 3 (fun z3 => Q (some (.int z3)) h1))))) : q_Ct l (d + 1) mX4_append [.ref x0, .int x1, .int x2, .int x3] h mc ms Q QX := by
  refine q_body (by decide ) (by intro v hm; simp only [List.mem_cons, List.not_mem_nil, or_false] at hm; rcases hm with rfl | rfl | rfl | rfl <;> rfl) (Nat.le_of_ble_eq_true rfl) ?_
  refine j_pad 0 rfl ?_
  refine j_aload_n dX4_append_0 rfl rfl ?_
  obtain ⟨⟨fs, e1⟩, hv⟩ := hv
  refine j_virtual (avs := []) (rest := []) (i := x0) (kc' := mc) (ks' := ms) dX4_append_1 mt_X4_isFull w_m_X4_25 w_in_X4_isFull w_se_X4_isFull rfl rfl (Nat.le_of_ble_eq_true rfl) (Nat.le_refl _) (by omega) (by omega) cl_X4.1 e1 hv (fun _ _ q9 => q9) ?_
  rintro _ h1 ⟨z2, rfl, hv⟩ -
  refine j_if_ne (tgt := 54) dX4_append_4 (by decide) (fun hc => ?_) (fun hc => ?_)
  · replace hv := hv.2 hc
    refine j_aload_n dX4_append_54 rfl rfl ?_
    obtain ⟨fs, z3, e1, e2, hv⟩ := hv
    refine j_getf (k := 3) cl_X4 (by decide) w_f_X4_21 dX4_append_55 e1 e2 ?_
    exact j_iret dX4_append_58 rfl hv
  · replace hv := hv.1 hc
    refine j_aload_n dX4_append_7 rfl rfl ?_
    obtain ⟨fs, z4, e1, e2, hv⟩ := hv
    refine j_getf (k := 3) cl_X4 (by decide) w_f_X4_21 dX4_append_8 e1 e2 ?_
    refine j_if_lt (tgt := 54) dX4_append_11 (by decide) (fun hc => ?_) (fun hc => ?_)
    · replace hv := hv.1 hc
      refine j_aload_n dX4_append_54 rfl rfl ?_
      obtain ⟨fs, z5, e1, e2, hv⟩ := hv
      refine j_getf (k := 3) cl_X4 (by decide) w_f_X4_21 dX4_append_55 e1 e2 ?_
      exact j_iret dX4_append_58 rfl hv
    · replace hv := hv.2 hc
      refine j_aload_n dX4_append_14 rfl rfl ?_
      obtain ⟨fs, r6, e1, e2, hv⟩ := hv
      refine j_getf (k := 0) cl_X4 (by decide) w_f_X4_9 dX4_append_15 e1 e2 ?_
      refine j_aload_n dX4_append_18 rfl rfl ?_
      obtain ⟨fs, z7, e1, e2, hv⟩ := hv
      refine j_getf (k := 3) cl_X4 (by decide) w_f_X4_21 dX4_append_19 e1 e2 ?_
      refine j_iload_n dX4_append_22 rfl rfl ?_
      obtain ⟨N, f, e1, e2, hv⟩ := hv
      refine j_iast dX4_append_23 e1 e2 ?_
      generalize q_set h1 r6 _ = h8 at hv ⊢
      refine j_aload_n dX4_append_24 rfl rfl ?_
      obtain ⟨fs, r9, e1, e2, hv⟩ := hv
      refine j_getf (k := 1) cl_X4 (by decide) w_f_X4_15 dX4_append_25 e1 e2 ?_
      refine j_aload_n dX4_append_28 rfl rfl ?_
      obtain ⟨fs, z10, e1, e2, hv⟩ := hv
      refine j_getf (k := 3) cl_X4 (by decide) w_f_X4_21 dX4_append_29 e1 e2 ?_
      refine j_iload_n dX4_append_32 rfl rfl ?_
      obtain ⟨N, f, e1, e2, hv⟩ := hv
      refine j_iast dX4_append_33 e1 e2 ?_
      generalize q_set h8 r9 _ = h11 at hv ⊢
      refine j_aload_n dX4_append_34 rfl rfl ?_
      obtain ⟨fs, r12, e1, e2, hv⟩ := hv
      refine j_getf (k := 2) cl_X4 (by decide) w_f_X4_18 dX4_append_35 e1 e2 ?_
      refine j_aload_n dX4_append_38 rfl rfl ?_
      obtain ⟨fs, z13, e1, e2, hv⟩ := hv
      refine j_getf (k := 3) cl_X4 (by decide) w_f_X4_21 dX4_append_39 e1 e2 ?_
      refine j_iload_n dX4_append_42 rfl rfl ?_
      obtain ⟨N, f, e1, e2, hv⟩ := hv
      refine j_iast dX4_append_43 e1 e2 ?_
      generalize q_set h11 r12 _ = h14 at hv ⊢
      refine j_aload_n dX4_append_44 rfl rfl ?_
      refine j_dup dX4_append_45 rfl ?_
      obtain ⟨fs, z15, e1, e2, hv⟩ := hv
      refine j_getf (k := 3) cl_X4 (by decide) w_f_X4_21 dX4_append_46 e1 e2 ?_
      refine j_iconst (v := (1 : Int32)) dX4_append_49 (by decide) ?_
      refine j_iadd dX4_append_50 ?_
      obtain ⟨fs, e1, e2, hv⟩ := hv
      refine j_put (k := 3) (ty0 := tyX4) cl_X4 (pf_X4_3) w_f_X4_21 dX4_append_51 (fun g ad => q_nI g ad _) e1 e2 ?_
      generalize q_set h14 x0 _ = h16 at hv ⊢
      refine j_aload_n dX4_append_54 rfl rfl ?_
      obtain ⟨fs, z17, e1, e2, hv⟩ := hv
      refine j_getf (k := 3) cl_X4 (by decide) w_f_X4_21 dX4_append_55 e1 e2 ?_
      exact j_iret dX4_append_58 rfl hv
set_option maxRecDepth 20000 in
set_option maxHeartbeats 4000000 in
theorem v_X4_rateAt_4 {l : Launch} {d mc ms n0 kc ks : Nat} {Q : Option Value → qH → Prop} {QX : String → qH → Prop} (x0 : Nat) (x1 : Int32) (x2 : Int32) (x3 : Int32) {h : qH} (hv : qGI h x0 4 3 (fun z1 => qIF (z1 ≤ x3) (Q (some (.int x2)) h) (qIF ((6 : Int32) ≤ x3) (Q (some (.int x2)) h) (qGR h x0 4 0 (fun r2 => qAL h r2 x3 (fun z3 => qIF (x1 < z3) (q_J l (d + 1) mX4_rateAt mc ms Q QX n0 4 [some (.ref x0), some (.int x1), some (.int x2), some (.int (x3 + (1 : Int32)))] [] h kc ks) (qGR h x0 4 1 (fun r4 => qAL h r4 x3 (fun z5 => qIF (z5 ≤ x1) (q_J l (d + 1) mX4_rateAt mc ms Q QX n0 4 [some (.ref x0), some (.int x1), some (.int x2), some (.int (x3 + (1 : Int32)))] [] h kc ks) (qGR h x0 4 2 (fun r6 => qAL h r6 x3 (fun z7 => q_J l (d + 1) mX4_rateAt mc ms Q QX n0 4 [some (.ref x0), some (.int x1), some (.int (if x2 < z7 then z7 else x2)), some (.int (x3 + (1 : Int32)))] [] h kc ks)))))))))))) : q_J l (d + 1) mX4_rateAt mc ms Q QX n0 4 [some (.ref x0), some (.int x1), some (.int x2), some (.int x3)] [] h kc ks := by
  refine j_iload_n dX4_rateAt_4 rfl rfl ?_
  refine j_aload_n dX4_rateAt_5 rfl rfl ?_
  obtain ⟨fs, z1, e1, e2, hv⟩ := hv
  refine j_getf (k := 3) cl_X4 (by decide) w_f_X4_21 dX4_rateAt_6 e1 e2 ?_
  refine j_icmp_ge (tgt := 55) dX4_rateAt_9 (by decide) (fun hc => ?_) (fun hc => ?_)
  · replace hv := hv.1 hc
    refine j_iload_n dX4_rateAt_55 rfl rfl ?_
    exact j_iret dX4_rateAt_56 rfl hv
  · replace hv := hv.2 hc
    refine j_iload_n dX4_rateAt_12 rfl rfl ?_
    refine j_bipush (v := (6 : Int32)) dX4_rateAt_13 (by decide) ?_
    refine j_icmp_ge (tgt := 55) dX4_rateAt_15 (by decide) (fun hc => ?_) (fun hc => ?_)
    · replace hv := hv.1 hc
      refine j_iload_n dX4_rateAt_55 rfl rfl ?_
      exact j_iret dX4_rateAt_56 rfl hv
    · replace hv := hv.2 hc
      refine j_aload_n dX4_rateAt_18 rfl rfl ?_
      obtain ⟨fs, r2, e1, e2, hv⟩ := hv
      refine j_getf (k := 0) cl_X4 (by decide) w_f_X4_9 dX4_rateAt_19 e1 e2 ?_
      refine j_iload_n dX4_rateAt_22 rfl rfl ?_
      obtain ⟨N, f, e1, e2, hv⟩ := hv
      refine j_iald dX4_rateAt_23 e1 e2 ?_
      generalize f _ = z3 at hv ⊢
      refine j_iload_n dX4_rateAt_24 rfl rfl ?_
      refine j_icmp_gt (tgt := 49) dX4_rateAt_25 (by decide) (fun hc => ?_) (fun hc => ?_)
      · replace hv := hv.1 hc
        refine j_iinc (w := (x3 + (1 : Int32))) dX4_rateAt_49 rfl (by rfl) (by decide) rfl rfl ?_
        refine j_goto (tgt := 4) dX4_rateAt_52 (by decide) ?_
        exact hv
      · replace hv := hv.2 hc
        refine j_iload_n dX4_rateAt_28 rfl rfl ?_
        refine j_aload_n dX4_rateAt_29 rfl rfl ?_
        obtain ⟨fs, r4, e1, e2, hv⟩ := hv
        refine j_getf (k := 1) cl_X4 (by decide) w_f_X4_15 dX4_rateAt_30 e1 e2 ?_
        refine j_iload_n dX4_rateAt_33 rfl rfl ?_
        obtain ⟨N, f, e1, e2, hv⟩ := hv
        refine j_iald dX4_rateAt_34 e1 e2 ?_
        generalize f _ = z5 at hv ⊢
        refine j_icmp_ge (tgt := 49) dX4_rateAt_35 (by decide) (fun hc => ?_) (fun hc => ?_)
        · replace hv := hv.1 hc
          refine j_iinc (w := (x3 + (1 : Int32))) dX4_rateAt_49 rfl (by rfl) (by decide) rfl rfl ?_
          refine j_goto (tgt := 4) dX4_rateAt_52 (by decide) ?_
          exact hv
        · replace hv := hv.2 hc
          refine j_iload_n dX4_rateAt_38 rfl rfl ?_
          refine j_aload_n dX4_rateAt_39 rfl rfl ?_
          obtain ⟨fs, r6, e1, e2, hv⟩ := hv
          refine j_getf (k := 2) cl_X4 (by decide) w_f_X4_18 dX4_rateAt_40 e1 e2 ?_
          refine j_iload_n dX4_rateAt_43 rfl rfl ?_
          obtain ⟨N, f, e1, e2, hv⟩ := hv
          refine j_iald dX4_rateAt_44 e1 e2 ?_
          generalize f _ = z7 at hv ⊢
          refine j_mmax dX4_rateAt_45 w_m_X4_29 w_st_max w_ini_Math w_co_max (Nat.le_of_ble_eq_true rfl) (by omega) ?_
          refine j_istore_n dX4_rateAt_48 rfl (by decide) rfl rfl ?_
          refine j_iinc (w := (x3 + (1 : Int32))) dX4_rateAt_49 rfl (by rfl) (by decide) rfl rfl ?_
          refine j_goto (tgt := 4) dX4_rateAt_52 (by decide) ?_
          exact hv
set_option maxRecDepth 20000 in
set_option maxHeartbeats 4000000 in
theorem v_X4_rateAt {l : Launch} {d mc ms : Nat} {Q : Option Value → qH → Prop} {QX : String → qH → Prop} (x0 : Nat) (x1 : Int32) {h : qH} (hv : q_J l (d + 1) mX4_rateAt mc ms Q QX h.2 4 [some (.ref x0), some (.int x1), some (.int (0 : Int32)), some (.int (0 : Int32))] [] h mc ms) : q_Ct l (d + 1) mX4_rateAt [.ref x0, .int x1] h mc ms Q QX := by
  refine q_body (by decide ) (by intro v hm; simp only [List.mem_cons, List.not_mem_nil, or_false] at hm; rcases hm with rfl | rfl <;> rfl) (Nat.le_of_ble_eq_true rfl) ?_
  refine j_pad 2 rfl ?_
  refine j_iconst (v := (0 : Int32)) dX4_rateAt_0 (by decide) ?_
  refine j_istore_n dX4_rateAt_1 rfl (by decide) rfl rfl ?_
  refine j_iconst (v := (0 : Int32)) dX4_rateAt_2 (by decide) ?_
  refine j_istore_n dX4_rateAt_3 rfl (by decide) rfl rfl ?_
  exact hv
set_option maxRecDepth 20000 in
set_option maxHeartbeats 4000000 in
theorem v_X5_has {l : Launch} {d mc ms : Nat} {Q : Option Value → qH → Prop} {QX : String → qH → Prop} (x0 : Nat) (x1 : Int32) {h : qH} (hv : qIF (x1 < 0) (Q (some (.int (0 : Int32))) h) (qGI h x0 5 3 (fun z1 => qIF (z1 ≤ x1) (Q (some (.int (0 : Int32))) h) (qIF ((40 : Int32) ≤ x1) (Q (some (.int (0 : Int32))) h) (Q (some (.int (1 : Int32))) h))))) : q_Ct l (d + 0) mX5_has [.ref x0, .int x1] h mc ms Q QX := by
  refine q_body (by decide ) (by intro v hm; simp only [List.mem_cons, List.not_mem_nil, or_false] at hm; rcases hm with rfl | rfl <;> rfl) (Nat.le_of_ble_eq_true rfl) ?_
  refine j_pad 0 rfl ?_
  refine j_iload_n dX5_has_0 rfl rfl ?_
  refine j_if_lt (tgt := 22) dX5_has_1 (by decide) (fun hc => ?_) (fun hc => ?_)
  · replace hv := hv.1 hc
    refine j_iconst (v := (0 : Int32)) dX5_has_22 (by decide) ?_
    exact j_zret dX5_has_23 rfl (by decide) hv
  · replace hv := hv.2 hc
    refine j_iload_n dX5_has_4 rfl rfl ?_
    refine j_aload_n dX5_has_5 rfl rfl ?_
    obtain ⟨fs, z1, e1, e2, hv⟩ := hv
    refine j_getf (k := 3) cl_X5 (by decide) w_f_X5_21 dX5_has_6 e1 e2 ?_
    refine j_icmp_ge (tgt := 22) dX5_has_9 (by decide) (fun hc => ?_) (fun hc => ?_)
    · replace hv := hv.1 hc
      refine j_iconst (v := (0 : Int32)) dX5_has_22 (by decide) ?_
      exact j_zret dX5_has_23 rfl (by decide) hv
    · replace hv := hv.2 hc
      refine j_iload_n dX5_has_12 rfl rfl ?_
      refine j_bipush (v := (40 : Int32)) dX5_has_13 (by decide) ?_
      refine j_icmp_ge (tgt := 22) dX5_has_15 (by decide) (fun hc => ?_) (fun hc => ?_)
      · replace hv := hv.1 hc
        refine j_iconst (v := (0 : Int32)) dX5_has_22 (by decide) ?_
        exact j_zret dX5_has_23 rfl (by decide) hv
      · replace hv := hv.2 hc
        refine j_iconst (v := (1 : Int32)) dX5_has_18 (by decide) ?_
        refine j_goto (tgt := 23) dX5_has_19 (by decide) ?_
        exact j_zret dX5_has_23 rfl (by decide) hv
set_option maxRecDepth 20000 in
set_option maxHeartbeats 4000000 in
theorem v_X5_hasRoom {l : Launch} {d mc ms : Nat} {Q : Option Value → qH → Prop} {QX : String → qH → Prop} (x0 : Nat) (x1 : Int32) {h : qH} (hv : qGI h x0 5 3 (fun z1 => qIF ((40 : Int32) < (z1 + x1)) (Q (some (.int (0 : Int32))) h) (Q (some (.int (1 : Int32))) h))) : q_Ct l (d + 0) mX5_hasRoom [.ref x0, .int x1] h mc ms Q QX := by
  refine q_body (by decide ) (by intro v hm; simp only [List.mem_cons, List.not_mem_nil, or_false] at hm; rcases hm with rfl | rfl <;> rfl) (Nat.le_of_ble_eq_true rfl) ?_
  refine j_pad 0 rfl ?_
  refine j_aload_n dX5_hasRoom_0 rfl rfl ?_
  obtain ⟨fs, z1, e1, e2, hv⟩ := hv
  refine j_getf (k := 3) cl_X5 (by decide) w_f_X5_21 dX5_hasRoom_1 e1 e2 ?_
  refine j_iload_n dX5_hasRoom_4 rfl rfl ?_
  refine j_iadd dX5_hasRoom_5 ?_
  refine j_bipush (v := (40 : Int32)) dX5_hasRoom_6 (by decide) ?_
  refine j_icmp_gt (tgt := 15) dX5_hasRoom_8 (by decide) (fun hc => ?_) (fun hc => ?_)
  · replace hv := hv.1 hc
    refine j_iconst (v := (0 : Int32)) dX5_hasRoom_15 (by decide) ?_
    exact j_zret dX5_hasRoom_16 rfl (by decide) hv
  · replace hv := hv.2 hc
    refine j_iconst (v := (1 : Int32)) dX5_hasRoom_11 (by decide) ?_
    refine j_goto (tgt := 16) dX5_hasRoom_12 (by decide) ?_
    exact j_zret dX5_hasRoom_16 rfl (by decide) hv
set_option maxRecDepth 20000 in
set_option maxHeartbeats 4000000 in
theorem v_X5_insert_27 {l : Launch} {d mc ms n0 kc ks : Nat} {Q : Option Value → qH → Prop} {QX : String → qH → Prop} (x0 : Nat) (x1 : Int32) (x2 : Int32) (x3 : Int32) (x4 : Int32) (x5 : Int32) {h : qH} (hv : qIF (x5 ≤ x1) (qGR h x0 5 0 (fun r1 => qAS h r1 x1 x2 (fun h2 => qGR h2 x0 5 1 (fun r3 => qAS h2 r3 x1 x3 (fun h4 => qGR h4 x0 5 2 (fun r5 => qAS h4 r5 x1 x4 (fun h6 => qGI h6 x0 5 3 (fun z7 => qPI h6 x0 5 3 (z7 + (1 : Int32)) (fun h8 => Q none h8))))))))) (qGR h x0 5 0 (fun r9 => qGR h x0 5 0 (fun r10 => qAL h r10 (x5 - (1 : Int32)) (fun z11 => qAS h r9 x5 z11 (fun h12 => qGR h12 x0 5 1 (fun r13 => qGR h12 x0 5 1 (fun r14 => qAL h12 r14 (x5 - (1 : Int32)) (fun z15 => qAS h12 r13 x5 z15 (fun h16 => qGR h16 x0 5 2 (fun r17 => qGR h16 x0 5 2 (fun r18 => qAL h16 r18 (x5 - (1 : Int32)) (fun z19 => qAS h16 r17 x5 z19 (fun h20 => q_J l (d + 1) mX5_insert mc ms Q QX n0 27 [some (.ref x0), some (.int x1), some (.int x2), some (.int x3), some (.int x4), some (.int (x5 + (-1 : Int32)))] [] h20 kc ks)))))))))))))) : q_J l (d + 1) mX5_insert mc ms Q QX n0 27 [some (.ref x0), some (.int x1), some (.int x2), some (.int x3), some (.int x4), some (.int x5)] [] h kc ks := by
  refine j_iload dX5_insert_27 rfl ?_
  refine j_iload_n dX5_insert_29 rfl rfl ?_
  refine j_icmp_le (tgt := 87) dX5_insert_30 (by decide) (fun hc => ?_) (fun hc => ?_)
  · replace hv := hv.1 hc
    refine j_aload_n dX5_insert_87 rfl rfl ?_
    obtain ⟨fs, r1, e1, e2, hv⟩ := hv
    refine j_getf (k := 0) cl_X5 (by decide) w_f_X5_9 dX5_insert_88 e1 e2 ?_
    refine j_iload_n dX5_insert_91 rfl rfl ?_
    refine j_iload_n dX5_insert_92 rfl rfl ?_
    obtain ⟨N, f, e1, e2, hv⟩ := hv
    refine j_iast dX5_insert_93 e1 e2 ?_
    generalize q_set h r1 _ = h2 at hv ⊢
    refine j_aload_n dX5_insert_94 rfl rfl ?_
    obtain ⟨fs, r3, e1, e2, hv⟩ := hv
    refine j_getf (k := 1) cl_X5 (by decide) w_f_X5_15 dX5_insert_95 e1 e2 ?_
    refine j_iload_n dX5_insert_98 rfl rfl ?_
    refine j_iload_n dX5_insert_99 rfl rfl ?_
    obtain ⟨N, f, e1, e2, hv⟩ := hv
    refine j_iast dX5_insert_100 e1 e2 ?_
    generalize q_set h2 r3 _ = h4 at hv ⊢
    refine j_aload_n dX5_insert_101 rfl rfl ?_
    obtain ⟨fs, r5, e1, e2, hv⟩ := hv
    refine j_getf (k := 2) cl_X5 (by decide) w_f_X5_18 dX5_insert_102 e1 e2 ?_
    refine j_iload_n dX5_insert_105 rfl rfl ?_
    refine j_iload dX5_insert_106 rfl ?_
    obtain ⟨N, f, e1, e2, hv⟩ := hv
    refine j_iast dX5_insert_108 e1 e2 ?_
    generalize q_set h4 r5 _ = h6 at hv ⊢
    refine j_aload_n dX5_insert_109 rfl rfl ?_
    refine j_dup dX5_insert_110 rfl ?_
    obtain ⟨fs, z7, e1, e2, hv⟩ := hv
    refine j_getf (k := 3) cl_X5 (by decide) w_f_X5_21 dX5_insert_111 e1 e2 ?_
    refine j_iconst (v := (1 : Int32)) dX5_insert_114 (by decide) ?_
    refine j_iadd dX5_insert_115 ?_
    obtain ⟨fs, e1, e2, hv⟩ := hv
    refine j_put (k := 3) (ty0 := tyX5) cl_X5 (pf_X5_3) w_f_X5_21 dX5_insert_116 (fun g ad => q_nI g ad _) e1 e2 ?_
    generalize q_set h6 x0 _ = h8 at hv ⊢
    exact j_vret dX5_insert_119 rfl hv
  · replace hv := hv.2 hc
    refine j_aload_n dX5_insert_33 rfl rfl ?_
    obtain ⟨fs, r9, e1, e2, hv⟩ := hv
    refine j_getf (k := 0) cl_X5 (by decide) w_f_X5_9 dX5_insert_34 e1 e2 ?_
    refine j_iload dX5_insert_37 rfl ?_
    refine j_aload_n dX5_insert_39 rfl rfl ?_
    obtain ⟨fs, r10, e1, e2, hv⟩ := hv
    refine j_getf (k := 0) cl_X5 (by decide) w_f_X5_9 dX5_insert_40 e1 e2 ?_
    refine j_iload dX5_insert_43 rfl ?_
    refine j_iconst (v := (1 : Int32)) dX5_insert_45 (by decide) ?_
    refine j_isub dX5_insert_46 ?_
    obtain ⟨N, f, e1, e2, hv⟩ := hv
    refine j_iald dX5_insert_47 e1 e2 ?_
    generalize f _ = z11 at hv ⊢
    obtain ⟨N, f, e1, e2, hv⟩ := hv
    refine j_iast dX5_insert_48 e1 e2 ?_
    generalize q_set h r9 _ = h12 at hv ⊢
    refine j_aload_n dX5_insert_49 rfl rfl ?_
    obtain ⟨fs, r13, e1, e2, hv⟩ := hv
    refine j_getf (k := 1) cl_X5 (by decide) w_f_X5_15 dX5_insert_50 e1 e2 ?_
    refine j_iload dX5_insert_53 rfl ?_
    refine j_aload_n dX5_insert_55 rfl rfl ?_
    obtain ⟨fs, r14, e1, e2, hv⟩ := hv
    refine j_getf (k := 1) cl_X5 (by decide) w_f_X5_15 dX5_insert_56 e1 e2 ?_
    refine j_iload dX5_insert_59 rfl ?_
    refine j_iconst (v := (1 : Int32)) dX5_insert_61 (by decide) ?_
    refine j_isub dX5_insert_62 ?_
    obtain ⟨N, f, e1, e2, hv⟩ := hv
    refine j_iald dX5_insert_63 e1 e2 ?_
    generalize f _ = z15 at hv ⊢
    obtain ⟨N, f, e1, e2, hv⟩ := hv
    refine j_iast dX5_insert_64 e1 e2 ?_
    generalize q_set h12 r13 _ = h16 at hv ⊢
    refine j_aload_n dX5_insert_65 rfl rfl ?_
    obtain ⟨fs, r17, e1, e2, hv⟩ := hv
    refine j_getf (k := 2) cl_X5 (by decide) w_f_X5_18 dX5_insert_66 e1 e2 ?_
    refine j_iload dX5_insert_69 rfl ?_
    refine j_aload_n dX5_insert_71 rfl rfl ?_
    obtain ⟨fs, r18, e1, e2, hv⟩ := hv
    refine j_getf (k := 2) cl_X5 (by decide) w_f_X5_18 dX5_insert_72 e1 e2 ?_
    refine j_iload dX5_insert_75 rfl ?_
    refine j_iconst (v := (1 : Int32)) dX5_insert_77 (by decide) ?_
    refine j_isub dX5_insert_78 ?_
    obtain ⟨N, f, e1, e2, hv⟩ := hv
    refine j_iald dX5_insert_79 e1 e2 ?_
    generalize f _ = z19 at hv ⊢
    obtain ⟨N, f, e1, e2, hv⟩ := hv
    refine j_iast dX5_insert_80 e1 e2 ?_
    generalize q_set h16 r17 _ = h20 at hv ⊢
    refine j_iinc (w := (x5 + (-1 : Int32))) dX5_insert_81 rfl (by rfl) (by decide) rfl rfl ?_
    refine j_goto (tgt := 27) dX5_insert_84 (by decide) ?_
    exact hv
set_option maxRecDepth 20000 in
set_option maxHeartbeats 4000000 in
theorem v_X5_insert {l : Launch} {d mc ms : Nat} {Q : Option Value → qH → Prop} {QX : String → qH → Prop} (x0 : Nat) (x1 : Int32) (x2 : Int32) (x3 : Int32) (x4 : Int32) {h : qH} (hv : qIF (x1 < 0) (Q none h) (qGI h x0 5 3 (fun z1 => qIF (z1 < x1) (Q none h) (qOB h x0 5 (qCI l (d + 0) mX5_hasRoom [.ref x0, .int (1 : Int32)] h 0 0 (fun z3 h2 => qIF (z3 = 0) (Q none h2) (qGI h2 x0 5 3 (fun z4 => q_J l (d + 1) mX5_insert mc ms Q QX h.2 27 [some (.ref x0), some (.int x1), some (.int x2), some (.int x3), some (.int x4), some (.int z4)] [] h2 mc ms)))))))) : q_Ct l (d + 1) mX5_insert [.ref x0, .int x1, .int x2, .int x3, .int x4] h mc ms Q QX := by
  refine q_body (by decide ) (by intro v hm; simp only [List.mem_cons, List.not_mem_nil, or_false] at hm; rcases hm with rfl | rfl | rfl | rfl | rfl <;> rfl) (Nat.le_of_ble_eq_true rfl) ?_
  refine j_pad 1 rfl ?_
  refine j_iload_n dX5_insert_0 rfl rfl ?_
  refine j_if_lt (tgt := 20) dX5_insert_1 (by decide) (fun hc => ?_) (fun hc => ?_)
  · replace hv := hv.1 hc
    exact j_vret dX5_insert_20 rfl hv
  · replace hv := hv.2 hc
    refine j_iload_n dX5_insert_4 rfl rfl ?_
    refine j_aload_n dX5_insert_5 rfl rfl ?_
    obtain ⟨fs, z1, e1, e2, hv⟩ := hv
    refine j_getf (k := 3) cl_X5 (by decide) w_f_X5_21 dX5_insert_6 e1 e2 ?_
    refine j_icmp_gt (tgt := 20) dX5_insert_9 (by decide) (fun hc => ?_) (fun hc => ?_)
    · replace hv := hv.1 hc
      exact j_vret dX5_insert_20 rfl hv
    · replace hv := hv.2 hc
      refine j_aload_n dX5_insert_12 rfl rfl ?_
      refine j_iconst (v := (1 : Int32)) dX5_insert_13 (by decide) ?_
      obtain ⟨⟨fs, e1⟩, hv⟩ := hv
      refine j_virtual (avs := [.int (1 : Int32)]) (rest := []) (i := x0) (kc' := mc) (ks' := ms) dX5_insert_14 mt_X5_hasRoom w_m_X5_25 w_in_X5_hasRoom w_se_X5_hasRoom rfl rfl (Nat.le_of_ble_eq_true rfl) (Nat.le_refl _) (by omega) (by omega) cl_X5.1 e1 hv (fun _ _ q9 => q9) ?_
      rintro _ h2 ⟨z3, rfl, hv⟩ -
      refine j_if_ne (tgt := 21) dX5_insert_17 (by decide) (fun hc => ?_) (fun hc => ?_)
      · replace hv := hv.2 hc
        refine j_aload_n dX5_insert_21 rfl rfl ?_
        obtain ⟨fs, z4, e1, e2, hv⟩ := hv
        refine j_getf (k := 3) cl_X5 (by decide) w_f_X5_21 dX5_insert_22 e1 e2 ?_
        refine j_istore dX5_insert_25 (by decide) rfl rfl ?_
        exact hv
      · replace hv := hv.1 hc
        exact j_vret dX5_insert_20 rfl hv
set_option maxRecDepth 20000 in
set_option maxHeartbeats 4000000 in
theorem v_X5_takeOut_11 {l : Launch} {d mc ms n0 kc ks : Nat} {Q : Option Value → qH → Prop} {QX : String → qH → Prop} (x0 : Nat) (x1 : Int32) (x2 : Int32) {h : qH} (hv : qGI h x0 5 3 (fun z1 => qIF (z1 ≤ (x2 + (1 : Int32))) (qGI h x0 5 3 (fun z2 => qPI h x0 5 3 (z2 - (1 : Int32)) (fun h3 => Q none h3))) (qIF ((40 : Int32) ≤ (x2 + (1 : Int32))) (qGI h x0 5 3 (fun z4 => qPI h x0 5 3 (z4 - (1 : Int32)) (fun h5 => Q none h5))) (qGR h x0 5 0 (fun r6 => qGR h x0 5 0 (fun r7 => qAL h r7 (x2 + (1 : Int32)) (fun z8 => qAS h r6 x2 z8 (fun h9 => qGR h9 x0 5 1 (fun r10 => qGR h9 x0 5 1 (fun r11 => qAL h9 r11 (x2 + (1 : Int32)) (fun z12 => qAS h9 r10 x2 z12 (fun h13 => qGR h13 x0 5 2 (fun r14 => qGR h13 x0 5 2 (fun r15 => qAL h13 r15 (x2 + (1 : Int32)) (fun z16 => qAS h13 r14 x2 z16 (fun h17 => q_J l (d + 1) mX5_takeOut mc ms Q QX n0 11 [some (.ref x0), some (.int x1), some (.int (x2 + (1 : Int32)))] [] h17 kc ks)))))))))))))))) : q_J l (d + 1) mX5_takeOut mc ms Q QX n0 11 [some (.ref x0), some (.int x1), some (.int x2)] [] h kc ks := by
  refine j_iload_n dX5_takeOut_11 rfl rfl ?_
  refine j_iconst (v := (1 : Int32)) dX5_takeOut_12 (by decide) ?_
  refine j_iadd dX5_takeOut_13 ?_
  refine j_aload_n dX5_takeOut_14 rfl rfl ?_
  obtain ⟨fs, z1, e1, e2, hv⟩ := hv
  refine j_getf (k := 3) cl_X5 (by decide) w_f_X5_21 dX5_takeOut_15 e1 e2 ?_
  refine j_icmp_ge (tgt := 77) dX5_takeOut_18 (by decide) (fun hc => ?_) (fun hc => ?_)
  · replace hv := hv.1 hc
    refine j_aload_n dX5_takeOut_77 rfl rfl ?_
    refine j_dup dX5_takeOut_78 rfl ?_
    obtain ⟨fs, z2, e1, e2, hv⟩ := hv
    refine j_getf (k := 3) cl_X5 (by decide) w_f_X5_21 dX5_takeOut_79 e1 e2 ?_
    refine j_iconst (v := (1 : Int32)) dX5_takeOut_82 (by decide) ?_
    refine j_isub dX5_takeOut_83 ?_
    obtain ⟨fs, e1, e2, hv⟩ := hv
    refine j_put (k := 3) (ty0 := tyX5) cl_X5 (pf_X5_3) w_f_X5_21 dX5_takeOut_84 (fun g ad => q_nI g ad _) e1 e2 ?_
    generalize q_set h x0 _ = h3 at hv ⊢
    exact j_vret dX5_takeOut_87 rfl hv
  · replace hv := hv.2 hc
    refine j_iload_n dX5_takeOut_21 rfl rfl ?_
    refine j_iconst (v := (1 : Int32)) dX5_takeOut_22 (by decide) ?_
    refine j_iadd dX5_takeOut_23 ?_
    refine j_bipush (v := (40 : Int32)) dX5_takeOut_24 (by decide) ?_
    refine j_icmp_ge (tgt := 77) dX5_takeOut_26 (by decide) (fun hc => ?_) (fun hc => ?_)
    · replace hv := hv.1 hc
      refine j_aload_n dX5_takeOut_77 rfl rfl ?_
      refine j_dup dX5_takeOut_78 rfl ?_
      obtain ⟨fs, z4, e1, e2, hv⟩ := hv
      refine j_getf (k := 3) cl_X5 (by decide) w_f_X5_21 dX5_takeOut_79 e1 e2 ?_
      refine j_iconst (v := (1 : Int32)) dX5_takeOut_82 (by decide) ?_
      refine j_isub dX5_takeOut_83 ?_
      obtain ⟨fs, e1, e2, hv⟩ := hv
      refine j_put (k := 3) (ty0 := tyX5) cl_X5 (pf_X5_3) w_f_X5_21 dX5_takeOut_84 (fun g ad => q_nI g ad _) e1 e2 ?_
      generalize q_set h x0 _ = h5 at hv ⊢
      exact j_vret dX5_takeOut_87 rfl hv
    · replace hv := hv.2 hc
      refine j_aload_n dX5_takeOut_29 rfl rfl ?_
      obtain ⟨fs, r6, e1, e2, hv⟩ := hv
      refine j_getf (k := 0) cl_X5 (by decide) w_f_X5_9 dX5_takeOut_30 e1 e2 ?_
      refine j_iload_n dX5_takeOut_33 rfl rfl ?_
      refine j_aload_n dX5_takeOut_34 rfl rfl ?_
      obtain ⟨fs, r7, e1, e2, hv⟩ := hv
      refine j_getf (k := 0) cl_X5 (by decide) w_f_X5_9 dX5_takeOut_35 e1 e2 ?_
      refine j_iload_n dX5_takeOut_38 rfl rfl ?_
      refine j_iconst (v := (1 : Int32)) dX5_takeOut_39 (by decide) ?_
      refine j_iadd dX5_takeOut_40 ?_
      obtain ⟨N, f, e1, e2, hv⟩ := hv
      refine j_iald dX5_takeOut_41 e1 e2 ?_
      generalize f _ = z8 at hv ⊢
      obtain ⟨N, f, e1, e2, hv⟩ := hv
      refine j_iast dX5_takeOut_42 e1 e2 ?_
      generalize q_set h r6 _ = h9 at hv ⊢
      refine j_aload_n dX5_takeOut_43 rfl rfl ?_
      obtain ⟨fs, r10, e1, e2, hv⟩ := hv
      refine j_getf (k := 1) cl_X5 (by decide) w_f_X5_15 dX5_takeOut_44 e1 e2 ?_
      refine j_iload_n dX5_takeOut_47 rfl rfl ?_
      refine j_aload_n dX5_takeOut_48 rfl rfl ?_
      obtain ⟨fs, r11, e1, e2, hv⟩ := hv
      refine j_getf (k := 1) cl_X5 (by decide) w_f_X5_15 dX5_takeOut_49 e1 e2 ?_
      refine j_iload_n dX5_takeOut_52 rfl rfl ?_
      refine j_iconst (v := (1 : Int32)) dX5_takeOut_53 (by decide) ?_
      refine j_iadd dX5_takeOut_54 ?_
      obtain ⟨N, f, e1, e2, hv⟩ := hv
      refine j_iald dX5_takeOut_55 e1 e2 ?_
      generalize f _ = z12 at hv ⊢
      obtain ⟨N, f, e1, e2, hv⟩ := hv
      refine j_iast dX5_takeOut_56 e1 e2 ?_
      generalize q_set h9 r10 _ = h13 at hv ⊢
      refine j_aload_n dX5_takeOut_57 rfl rfl ?_
      obtain ⟨fs, r14, e1, e2, hv⟩ := hv
      refine j_getf (k := 2) cl_X5 (by decide) w_f_X5_18 dX5_takeOut_58 e1 e2 ?_
      refine j_iload_n dX5_takeOut_61 rfl rfl ?_
      refine j_aload_n dX5_takeOut_62 rfl rfl ?_
      obtain ⟨fs, r15, e1, e2, hv⟩ := hv
      refine j_getf (k := 2) cl_X5 (by decide) w_f_X5_18 dX5_takeOut_63 e1 e2 ?_
      refine j_iload_n dX5_takeOut_66 rfl rfl ?_
      refine j_iconst (v := (1 : Int32)) dX5_takeOut_67 (by decide) ?_
      refine j_iadd dX5_takeOut_68 ?_
      obtain ⟨N, f, e1, e2, hv⟩ := hv
      refine j_iald dX5_takeOut_69 e1 e2 ?_
      generalize f _ = z16 at hv ⊢
      obtain ⟨N, f, e1, e2, hv⟩ := hv
      refine j_iast dX5_takeOut_70 e1 e2 ?_
      generalize q_set h13 r14 _ = h17 at hv ⊢
      refine j_iinc (w := (x2 + (1 : Int32))) dX5_takeOut_71 rfl (by rfl) (by decide) rfl rfl ?_
      refine j_goto (tgt := 11) dX5_takeOut_74 (by decide) ?_
      exact hv
set_option maxRecDepth 20000 in
set_option maxHeartbeats 4000000 in
theorem v_X5_takeOut {l : Launch} {d mc ms : Nat} {Q : Option Value → qH → Prop} {QX : String → qH → Prop} (x0 : Nat) (x1 : Int32) {h : qH} (hv : qOB h x0 5 (qCI l (d + 0) mX5_has [.ref x0, .int x1] h 0 0 (fun z2 h1 => qIF (z2 = 0) (Q none h1) (q_J l (d + 1) mX5_takeOut mc ms Q QX h.2 11 [some (.ref x0), some (.int x1), some (.int x1)] [] h1 mc ms)))) : q_Ct l (d + 1) mX5_takeOut [.ref x0, .int x1] h mc ms Q QX := by
  refine q_body (by decide ) (by intro v hm; simp only [List.mem_cons, List.not_mem_nil, or_false] at hm; rcases hm with rfl | rfl <;> rfl) (Nat.le_of_ble_eq_true rfl) ?_
  refine j_pad 1 rfl ?_
  refine j_aload_n dX5_takeOut_0 rfl rfl ?_
  refine j_iload_n dX5_takeOut_1 rfl rfl ?_
  obtain ⟨⟨fs, e1⟩, hv⟩ := hv
  refine j_virtual (avs := [.int x1]) (rest := []) (i := x0) (kc' := mc) (ks' := ms) dX5_takeOut_2 mt_X5_has w_m_X5_29 w_in_X5_has w_se_X5_has rfl rfl (Nat.le_of_ble_eq_true rfl) (Nat.le_refl _) (by omega) (by omega) cl_X5.1 e1 hv (fun _ _ q9 => q9) ?_
  rintro _ h1 ⟨z2, rfl, hv⟩ -
  refine j_if_ne (tgt := 9) dX5_takeOut_5 (by decide) (fun hc => ?_) (fun hc => ?_)
  · replace hv := hv.2 hc
    refine j_iload_n dX5_takeOut_9 rfl rfl ?_
    refine j_istore_n dX5_takeOut_10 rfl (by decide) rfl rfl ?_
    exact hv
  · replace hv := hv.1 hc
    exact j_vret dX5_takeOut_8 rfl hv
set_option maxRecDepth 20000 in
set_option maxHeartbeats 4000000 in
theorem v_X5_tell {l : Launch} {d mc ms : Nat} {Q : Option Value → qH → Prop} {QX : String → qH → Prop} (x0 : Nat) (x1 : Int32) (x2 : Int32) {h : qH} (hv : qOB h x0 5 (qCI l (d + 0) mX5_has [.ref x0, .int x1] h 0 0 (fun z2 h1 => qIF (z2 = 0) (Q (some (.int (-1 : Int32))) h1) (qIF (x2 = (0 : Int32)) (qGR h1 x0 5 0 (fun r3 => qAL h1 r3 x1 (fun z4 => Q (some (.int z4)) h1))) (qIF (x2 = (1 : Int32)) (qGR h1 x0 5 1 (fun r5 => qAL h1 r5 x1 (fun z6 => Q (some (.int z6)) h1))) (qGR h1 x0 5 2 (fun r7 => qAL h1 r7 x1 (fun z8 => Q (some (.int z8)) h1)))))))) : q_Ct l (d + 1) mX5_tell [.ref x0, .int x1, .int x2] h mc ms Q QX := by
  refine q_body (by decide ) (by intro v hm; simp only [List.mem_cons, List.not_mem_nil, or_false] at hm; rcases hm with rfl | rfl | rfl <;> rfl) (Nat.le_of_ble_eq_true rfl) ?_
  refine j_pad 0 rfl ?_
  refine j_aload_n dX5_tell_0 rfl rfl ?_
  refine j_iload_n dX5_tell_1 rfl rfl ?_
  obtain ⟨⟨fs, e1⟩, hv⟩ := hv
  refine j_virtual (avs := [.int x1]) (rest := []) (i := x0) (kc' := mc) (ks' := ms) dX5_tell_2 mt_X5_has w_m_X5_29 w_in_X5_has w_se_X5_has rfl rfl (Nat.le_of_ble_eq_true rfl) (Nat.le_refl _) (by omega) (by omega) cl_X5.1 e1 hv (fun _ _ q9 => q9) ?_
  rintro _ h1 ⟨z2, rfl, hv⟩ -
  refine j_if_ne (tgt := 10) dX5_tell_5 (by decide) (fun hc => ?_) (fun hc => ?_)
  · replace hv := hv.2 hc
    refine j_iload_n dX5_tell_10 rfl rfl ?_
    by_cases hc0 : x2 = (0 : Int32)
    · replace hv := hv.1 hc0
      refine j_lookup (tgt := 36) (off := 25) dX5_tell_11 (by decide) (by rw [hc0]; decide) (by decide) ?_
      refine j_aload_n dX5_tell_36 rfl rfl ?_
      obtain ⟨fs, r3, e1, e2, hv⟩ := hv
      refine j_getf (k := 0) cl_X5 (by decide) w_f_X5_9 dX5_tell_37 e1 e2 ?_
      refine j_iload_n dX5_tell_40 rfl rfl ?_
      obtain ⟨N, f, e1, e2, hv⟩ := hv
      refine j_iald dX5_tell_41 e1 e2 ?_
      generalize f _ = z4 at hv ⊢
      exact j_iret dX5_tell_42 rfl hv
    · replace hv := hv.2 hc0
      by_cases hc1 : x2 = (1 : Int32)
      · replace hv := hv.1 hc1
        refine j_lookup (tgt := 43) (off := 32) dX5_tell_11 (by decide) (by rw [hc1]; decide) (by decide) ?_
        refine j_aload_n dX5_tell_43 rfl rfl ?_
        obtain ⟨fs, r5, e1, e2, hv⟩ := hv
        refine j_getf (k := 1) cl_X5 (by decide) w_f_X5_15 dX5_tell_44 e1 e2 ?_
        refine j_iload_n dX5_tell_47 rfl rfl ?_
        obtain ⟨N, f, e1, e2, hv⟩ := hv
        refine j_iald dX5_tell_48 e1 e2 ?_
        generalize f _ = z6 at hv ⊢
        exact j_iret dX5_tell_49 rfl hv
      · replace hv := hv.2 hc1
        refine j_lookup (tgt := 50) (off := 39) dX5_tell_11 (by decide) ((q_lkN hc0 (by decide)).trans ((q_lkN hc1 (by decide)).trans rfl)) (by decide) ?_
        refine j_aload_n dX5_tell_50 rfl rfl ?_
        obtain ⟨fs, r7, e1, e2, hv⟩ := hv
        refine j_getf (k := 2) cl_X5 (by decide) w_f_X5_18 dX5_tell_51 e1 e2 ?_
        refine j_iload_n dX5_tell_54 rfl rfl ?_
        obtain ⟨N, f, e1, e2, hv⟩ := hv
        refine j_iald dX5_tell_55 e1 e2 ?_
        generalize f _ = z8 at hv ⊢
        exact j_iret dX5_tell_56 rfl hv
  · replace hv := hv.1 hc
    refine j_iconst (v := (-1 : Int32)) dX5_tell_8 (by decide) ?_
    exact j_iret dX5_tell_9 rfl hv
set_option maxRecDepth 20000 in
set_option maxHeartbeats 4000000 in
theorem v_X6_copyFrom_158 {l : Launch} {d mc ms n0 kc ks : Nat} {Q : Option Value → qH → Prop} {QX : String → qH → Prop} (x0 : Nat) (x1 : Nat) (x2 : Int32) {h : qH} (hv : qIF ((12 : Int32) ≤ x2) (Q none h) (qGR h x0 6 14 (fun r1 => qGR h x1 6 14 (fun r2 => qAL h r2 x2 (fun z3 => qAS h r1 x2 z3 (fun h4 => q_J l (d + 0) mX6_copyFrom mc ms Q QX n0 158 [some (.ref x0), some (.ref x1), some (.int (x2 + (1 : Int32)))] [] h4 kc ks)))))) : q_J l (d + 0) mX6_copyFrom mc ms Q QX n0 158 [some (.ref x0), some (.ref x1), some (.int x2)] [] h kc ks := by
  refine j_iload_n dX6_copyFrom_158 rfl rfl ?_
  refine j_bipush (v := (12 : Int32)) dX6_copyFrom_159 (by decide) ?_
  refine j_icmp_ge (tgt := 182) dX6_copyFrom_161 (by decide) (fun hc => ?_) (fun hc => ?_)
  · replace hv := hv.1 hc
    exact j_vret dX6_copyFrom_182 rfl hv
  · replace hv := hv.2 hc
    refine j_aload_n dX6_copyFrom_164 rfl rfl ?_
    obtain ⟨fs, r1, e1, e2, hv⟩ := hv
    refine j_getf (k := 14) cl_X6 (by decide) w_f_X6_34 dX6_copyFrom_165 e1 e2 ?_
    refine j_iload_n dX6_copyFrom_168 rfl rfl ?_
    refine j_aload_n dX6_copyFrom_169 rfl rfl ?_
    obtain ⟨fs, r2, e1, e2, hv⟩ := hv
    refine j_getf (k := 14) cl_X6 (by decide) w_f_X6_34 dX6_copyFrom_170 e1 e2 ?_
    refine j_iload_n dX6_copyFrom_173 rfl rfl ?_
    obtain ⟨N, f, e1, e2, hv⟩ := hv
    refine j_iald dX6_copyFrom_174 e1 e2 ?_
    generalize f _ = z3 at hv ⊢
    obtain ⟨N, f, e1, e2, hv⟩ := hv
    refine j_iast dX6_copyFrom_175 e1 e2 ?_
    generalize q_set h r1 _ = h4 at hv ⊢
    refine j_iinc (w := (x2 + (1 : Int32))) dX6_copyFrom_176 rfl (by rfl) (by decide) rfl rfl ?_
    refine j_goto (tgt := 158) dX6_copyFrom_179 (by decide) ?_
    exact hv
set_option maxRecDepth 20000 in
set_option maxHeartbeats 4000000 in
theorem v_X6_copyFrom_87 {l : Launch} {d mc ms n0 kc ks : Nat} {Q : Option Value → qH → Prop} {QX : String → qH → Prop} (x0 : Nat) (x1 : Nat) (x2 : Int32) {h : qH} (hv : qGI h x0 6 9 (fun z1 => qIF (z1 ≤ x2) (q_J l (d + 0) mX6_copyFrom mc ms Q QX n0 158 [some (.ref x0), some (.ref x1), some (.int (0 : Int32))] [] h kc ks) (qIF ((133 : Int32) ≤ x2) (q_J l (d + 0) mX6_copyFrom mc ms Q QX n0 158 [some (.ref x0), some (.ref x1), some (.int (0 : Int32))] [] h kc ks) (qGR h x0 6 10 (fun r2 => qGR h x1 6 10 (fun r3 => qAL h r3 x2 (fun z4 => qAS h r2 x2 z4 (fun h5 => qGR h5 x0 6 11 (fun r6 => qGR h5 x1 6 11 (fun r7 => qAL h5 r7 x2 (fun z8 => qAS h5 r6 x2 z8 (fun h9 => qGR h9 x0 6 12 (fun r10 => qGR h9 x1 6 12 (fun r11 => qAL h9 r11 x2 (fun z12 => qAS h9 r10 x2 z12 (fun h13 => qGR h13 x0 6 13 (fun r14 => qGR h13 x1 6 13 (fun r15 => qAL h13 r15 x2 (fun z16 => qAS h13 r14 x2 z16 (fun h17 => q_J l (d + 0) mX6_copyFrom mc ms Q QX n0 87 [some (.ref x0), some (.ref x1), some (.int (x2 + (1 : Int32)))] [] h17 kc ks)))))))))))))))))))) : q_J l (d + 0) mX6_copyFrom mc ms Q QX n0 87 [some (.ref x0), some (.ref x1), some (.int x2)] [] h kc ks := by
  refine j_iload_n dX6_copyFrom_87 rfl rfl ?_
  refine j_aload_n dX6_copyFrom_88 rfl rfl ?_
  obtain ⟨fs, z1, e1, e2, hv⟩ := hv
  refine j_getf (k := 9) cl_X6 (by decide) w_f_X6_56 dX6_copyFrom_89 e1 e2 ?_
  refine j_icmp_ge (tgt := 156) dX6_copyFrom_92 (by decide) (fun hc => ?_) (fun hc => ?_)
  · replace hv := hv.1 hc
    refine j_iconst (v := (0 : Int32)) dX6_copyFrom_156 (by decide) ?_
    refine j_istore_n dX6_copyFrom_157 rfl (by decide) rfl rfl ?_
    exact hv
  · replace hv := hv.2 hc
    refine j_iload_n dX6_copyFrom_95 rfl rfl ?_
    refine j_sipush (v := (133 : Int32)) dX6_copyFrom_96 (by decide) ?_
    refine j_icmp_ge (tgt := 156) dX6_copyFrom_99 (by decide) (fun hc => ?_) (fun hc => ?_)
    · replace hv := hv.1 hc
      refine j_iconst (v := (0 : Int32)) dX6_copyFrom_156 (by decide) ?_
      refine j_istore_n dX6_copyFrom_157 rfl (by decide) rfl rfl ?_
      exact hv
    · replace hv := hv.2 hc
      refine j_aload_n dX6_copyFrom_102 rfl rfl ?_
      obtain ⟨fs, r2, e1, e2, hv⟩ := hv
      refine j_getf (k := 10) cl_X6 (by decide) w_f_X6_21 dX6_copyFrom_103 e1 e2 ?_
      refine j_iload_n dX6_copyFrom_106 rfl rfl ?_
      refine j_aload_n dX6_copyFrom_107 rfl rfl ?_
      obtain ⟨fs, r3, e1, e2, hv⟩ := hv
      refine j_getf (k := 10) cl_X6 (by decide) w_f_X6_21 dX6_copyFrom_108 e1 e2 ?_
      refine j_iload_n dX6_copyFrom_111 rfl rfl ?_
      obtain ⟨N, f, e1, e2, hv⟩ := hv
      refine j_iald dX6_copyFrom_112 e1 e2 ?_
      generalize f _ = z4 at hv ⊢
      obtain ⟨N, f, e1, e2, hv⟩ := hv
      refine j_iast dX6_copyFrom_113 e1 e2 ?_
      generalize q_set h r2 _ = h5 at hv ⊢
      refine j_aload_n dX6_copyFrom_114 rfl rfl ?_
      obtain ⟨fs, r6, e1, e2, hv⟩ := hv
      refine j_getf (k := 11) cl_X6 (by decide) w_f_X6_25 dX6_copyFrom_115 e1 e2 ?_
      refine j_iload_n dX6_copyFrom_118 rfl rfl ?_
      refine j_aload_n dX6_copyFrom_119 rfl rfl ?_
      obtain ⟨fs, r7, e1, e2, hv⟩ := hv
      refine j_getf (k := 11) cl_X6 (by decide) w_f_X6_25 dX6_copyFrom_120 e1 e2 ?_
      refine j_iload_n dX6_copyFrom_123 rfl rfl ?_
      obtain ⟨N, f, e1, e2, hv⟩ := hv
      refine j_iald dX6_copyFrom_124 e1 e2 ?_
      generalize f _ = z8 at hv ⊢
      obtain ⟨N, f, e1, e2, hv⟩ := hv
      refine j_iast dX6_copyFrom_125 e1 e2 ?_
      generalize q_set h5 r6 _ = h9 at hv ⊢
      refine j_aload_n dX6_copyFrom_126 rfl rfl ?_
      obtain ⟨fs, r10, e1, e2, hv⟩ := hv
      refine j_getf (k := 12) cl_X6 (by decide) w_f_X6_28 dX6_copyFrom_127 e1 e2 ?_
      refine j_iload_n dX6_copyFrom_130 rfl rfl ?_
      refine j_aload_n dX6_copyFrom_131 rfl rfl ?_
      obtain ⟨fs, r11, e1, e2, hv⟩ := hv
      refine j_getf (k := 12) cl_X6 (by decide) w_f_X6_28 dX6_copyFrom_132 e1 e2 ?_
      refine j_iload_n dX6_copyFrom_135 rfl rfl ?_
      obtain ⟨N, f, e1, e2, hv⟩ := hv
      refine j_iald dX6_copyFrom_136 e1 e2 ?_
      generalize f _ = z12 at hv ⊢
      obtain ⟨N, f, e1, e2, hv⟩ := hv
      refine j_iast dX6_copyFrom_137 e1 e2 ?_
      generalize q_set h9 r10 _ = h13 at hv ⊢
      refine j_aload_n dX6_copyFrom_138 rfl rfl ?_
      obtain ⟨fs, r14, e1, e2, hv⟩ := hv
      refine j_getf (k := 13) cl_X6 (by decide) w_f_X6_31 dX6_copyFrom_139 e1 e2 ?_
      refine j_iload_n dX6_copyFrom_142 rfl rfl ?_
      refine j_aload_n dX6_copyFrom_143 rfl rfl ?_
      obtain ⟨fs, r15, e1, e2, hv⟩ := hv
      refine j_getf (k := 13) cl_X6 (by decide) w_f_X6_31 dX6_copyFrom_144 e1 e2 ?_
      refine j_iload_n dX6_copyFrom_147 rfl rfl ?_
      obtain ⟨N, f, e1, e2, hv⟩ := hv
      refine j_iald dX6_copyFrom_148 e1 e2 ?_
      generalize f _ = z16 at hv ⊢
      obtain ⟨N, f, e1, e2, hv⟩ := hv
      refine j_iast dX6_copyFrom_149 e1 e2 ?_
      generalize q_set h13 r14 _ = h17 at hv ⊢
      refine j_iinc (w := (x2 + (1 : Int32))) dX6_copyFrom_150 rfl (by rfl) (by decide) rfl rfl ?_
      refine j_goto (tgt := 87) dX6_copyFrom_153 (by decide) ?_
      exact hv
set_option maxRecDepth 20000 in
set_option maxHeartbeats 4000000 in
theorem v_X6_copyFrom {l : Launch} {d mc ms : Nat} {Q : Option Value → qH → Prop} {QX : String → qH → Prop} (x0 : Nat) (x1 : Nat) {h : qH} (hv : qGI h x1 6 0 (fun z1 => qPI h x0 6 0 z1 (fun h2 => qGI h2 x1 6 1 (fun z3 => qPI h2 x0 6 1 z3 (fun h4 => qGI h4 x1 6 2 (fun z5 => qPI h4 x0 6 2 z5 (fun h6 => qGI h6 x1 6 3 (fun z7 => qPI h6 x0 6 3 z7 (fun h8 => qGI h8 x1 6 4 (fun z9 => qPI h8 x0 6 4 z9 (fun h10 => qGI h10 x1 6 5 (fun z11 => qPI h10 x0 6 5 z11 (fun h12 => qGI h12 x1 6 6 (fun z13 => qPZ h12 x0 6 6 z13 (fun h14 => qGI h14 x1 6 7 (fun z15 => qPI h14 x0 6 7 z15 (fun h16 => qGI h16 x1 6 8 (fun z17 => qPI h16 x0 6 8 z17 (fun h18 => qGI h18 x1 6 9 (fun z19 => qPI h18 x0 6 9 z19 (fun h20 => q_J l (d + 0) mX6_copyFrom mc ms Q QX h.2 87 [some (.ref x0), some (.ref x1), some (.int (0 : Int32))] [] h20 mc ms))))))))))))))))))))) : q_Ct l (d + 0) mX6_copyFrom [.ref x0, .ref x1] h mc ms Q QX := by
  refine q_body (by decide ) (by intro v hm; simp only [List.mem_cons, List.not_mem_nil, or_false] at hm; rcases hm with rfl | rfl <;> rfl) (Nat.le_of_ble_eq_true rfl) ?_
  refine j_pad 1 rfl ?_
  refine j_aload_n dX6_copyFrom_0 rfl rfl ?_
  refine j_ifnonnull (tgt := 5) dX6_copyFrom_1 (by decide) ?_
  refine j_aload_n dX6_copyFrom_5 rfl rfl ?_
  refine j_aload_n dX6_copyFrom_6 rfl rfl ?_
  obtain ⟨fs, z1, e1, e2, hv⟩ := hv
  refine j_getf (k := 0) cl_X6 (by decide) w_f_X6_37 dX6_copyFrom_7 e1 e2 ?_
  obtain ⟨fs, e1, e2, hv⟩ := hv
  refine j_put (k := 0) (ty0 := tyX6) cl_X6 (pf_X6_0) w_f_X6_37 dX6_copyFrom_10 (fun g ad => q_nI g ad _) e1 e2 ?_
  generalize q_set h x0 _ = h2 at hv ⊢
  refine j_aload_n dX6_copyFrom_13 rfl rfl ?_
  refine j_aload_n dX6_copyFrom_14 rfl rfl ?_
  obtain ⟨fs, z3, e1, e2, hv⟩ := hv
  refine j_getf (k := 1) cl_X6 (by decide) w_f_X6_40 dX6_copyFrom_15 e1 e2 ?_
  obtain ⟨fs, e1, e2, hv⟩ := hv
  refine j_put (k := 1) (ty0 := tyX6) cl_X6 (pf_X6_1) w_f_X6_40 dX6_copyFrom_18 (fun g ad => q_nI g ad _) e1 e2 ?_
  generalize q_set h2 x0 _ = h4 at hv ⊢
  refine j_aload_n dX6_copyFrom_21 rfl rfl ?_
  refine j_aload_n dX6_copyFrom_22 rfl rfl ?_
  obtain ⟨fs, z5, e1, e2, hv⟩ := hv
  refine j_getf (k := 2) cl_X6 (by decide) w_f_X6_43 dX6_copyFrom_23 e1 e2 ?_
  obtain ⟨fs, e1, e2, hv⟩ := hv
  refine j_put (k := 2) (ty0 := tyX6) cl_X6 (pf_X6_2) w_f_X6_43 dX6_copyFrom_26 (fun g ad => q_nI g ad _) e1 e2 ?_
  generalize q_set h4 x0 _ = h6 at hv ⊢
  refine j_aload_n dX6_copyFrom_29 rfl rfl ?_
  refine j_aload_n dX6_copyFrom_30 rfl rfl ?_
  obtain ⟨fs, z7, e1, e2, hv⟩ := hv
  refine j_getf (k := 3) cl_X6 (by decide) w_f_X6_9 dX6_copyFrom_31 e1 e2 ?_
  obtain ⟨fs, e1, e2, hv⟩ := hv
  refine j_put (k := 3) (ty0 := tyX6) cl_X6 (pf_X6_3) w_f_X6_9 dX6_copyFrom_34 (fun g ad => q_nI g ad _) e1 e2 ?_
  generalize q_set h6 x0 _ = h8 at hv ⊢
  refine j_aload_n dX6_copyFrom_37 rfl rfl ?_
  refine j_aload_n dX6_copyFrom_38 rfl rfl ?_
  obtain ⟨fs, z9, e1, e2, hv⟩ := hv
  refine j_getf (k := 4) cl_X6 (by decide) w_f_X6_15 dX6_copyFrom_39 e1 e2 ?_
  obtain ⟨fs, e1, e2, hv⟩ := hv
  refine j_put (k := 4) (ty0 := tyX6) cl_X6 (pf_X6_4) w_f_X6_15 dX6_copyFrom_42 (fun g ad => q_nI g ad _) e1 e2 ?_
  generalize q_set h8 x0 _ = h10 at hv ⊢
  refine j_aload_n dX6_copyFrom_45 rfl rfl ?_
  refine j_aload_n dX6_copyFrom_46 rfl rfl ?_
  obtain ⟨fs, z11, e1, e2, hv⟩ := hv
  refine j_getf (k := 5) cl_X6 (by decide) w_f_X6_18 dX6_copyFrom_47 e1 e2 ?_
  obtain ⟨fs, e1, e2, hv⟩ := hv
  refine j_put (k := 5) (ty0 := tyX6) cl_X6 (pf_X6_5) w_f_X6_18 dX6_copyFrom_50 (fun g ad => q_nI g ad _) e1 e2 ?_
  generalize q_set h10 x0 _ = h12 at hv ⊢
  refine j_aload_n dX6_copyFrom_53 rfl rfl ?_
  refine j_aload_n dX6_copyFrom_54 rfl rfl ?_
  obtain ⟨fs, z13, e1, e2, hv⟩ := hv
  refine j_getf (k := 6) cl_X6 (by decide) w_f_X6_46 dX6_copyFrom_55 e1 e2 ?_
  obtain ⟨hz, fs, e1, e2, hv⟩ := hv
  refine j_put (k := 6) (ty0 := tyX6) cl_X6 (pf_X6_6) w_f_X6_46 dX6_copyFrom_58 (fun g ad => q_nZ g ad hz) e1 e2 ?_
  generalize q_set h12 x0 _ = h14 at hv ⊢
  refine j_aload_n dX6_copyFrom_61 rfl rfl ?_
  refine j_aload_n dX6_copyFrom_62 rfl rfl ?_
  obtain ⟨fs, z15, e1, e2, hv⟩ := hv
  refine j_getf (k := 7) cl_X6 (by decide) w_f_X6_50 dX6_copyFrom_63 e1 e2 ?_
  obtain ⟨fs, e1, e2, hv⟩ := hv
  refine j_put (k := 7) (ty0 := tyX6) cl_X6 (pf_X6_7) w_f_X6_50 dX6_copyFrom_66 (fun g ad => q_nI g ad _) e1 e2 ?_
  generalize q_set h14 x0 _ = h16 at hv ⊢
  refine j_aload_n dX6_copyFrom_69 rfl rfl ?_
  refine j_aload_n dX6_copyFrom_70 rfl rfl ?_
  obtain ⟨fs, z17, e1, e2, hv⟩ := hv
  refine j_getf (k := 8) cl_X6 (by decide) w_f_X6_53 dX6_copyFrom_71 e1 e2 ?_
  obtain ⟨fs, e1, e2, hv⟩ := hv
  refine j_put (k := 8) (ty0 := tyX6) cl_X6 (pf_X6_8) w_f_X6_53 dX6_copyFrom_74 (fun g ad => q_nI g ad _) e1 e2 ?_
  generalize q_set h16 x0 _ = h18 at hv ⊢
  refine j_aload_n dX6_copyFrom_77 rfl rfl ?_
  refine j_aload_n dX6_copyFrom_78 rfl rfl ?_
  obtain ⟨fs, z19, e1, e2, hv⟩ := hv
  refine j_getf (k := 9) cl_X6 (by decide) w_f_X6_56 dX6_copyFrom_79 e1 e2 ?_
  obtain ⟨fs, e1, e2, hv⟩ := hv
  refine j_put (k := 9) (ty0 := tyX6) cl_X6 (pf_X6_9) w_f_X6_56 dX6_copyFrom_82 (fun g ad => q_nI g ad _) e1 e2 ?_
  generalize q_set h18 x0 _ = h20 at hv ⊢
  refine j_iconst (v := (0 : Int32)) dX6_copyFrom_85 (by decide) ?_
  refine j_istore_n dX6_copyFrom_86 rfl (by decide) rfl rfl ?_
  exact hv
set_option maxRecDepth 20000 in
set_option maxHeartbeats 4000000 in
theorem v_X6_limitBattery {l : Launch} {d mc ms : Nat} {Q : Option Value → qH → Prop} {QX : String → qH → Prop} (x0 : Nat) (x1 : Int32) {h : qH} (hv : qGI h x0 6 3 (fun z1 => qPI h x0 6 3 (if x1 < z1 then x1 else z1) (fun h3 => Q none h3))) : q_Ct l (d + 1) mX6_limitBattery [.ref x0, .int x1] h mc ms Q QX := by
  refine q_body (by decide ) (by intro v hm; simp only [List.mem_cons, List.not_mem_nil, or_false] at hm; rcases hm with rfl | rfl <;> rfl) (Nat.le_of_ble_eq_true rfl) ?_
  refine j_pad 0 rfl ?_
  refine j_aload_n dX6_limitBattery_0 rfl rfl ?_
  refine j_aload_n dX6_limitBattery_1 rfl rfl ?_
  obtain ⟨fs, z1, e1, e2, hv⟩ := hv
  refine j_getf (k := 3) cl_X6 (by decide) w_f_X6_9 dX6_limitBattery_2 e1 e2 ?_
  refine j_iload_n dX6_limitBattery_5 rfl rfl ?_
  refine j_mmin dX6_limitBattery_6 w_m_X6_59 w_st_min w_ini_Math w_co_min (Nat.le_of_ble_eq_true rfl) (by omega) ?_
  obtain ⟨fs, e1, e2, hv⟩ := hv
  refine j_put (k := 3) (ty0 := tyX6) cl_X6 (pf_X6_3) w_f_X6_9 dX6_limitBattery_9 (fun g ad => q_nI g ad _) e1 e2 ?_
  generalize q_set h x0 _ = h3 at hv ⊢
  exact j_vret dX6_limitBattery_12 rfl hv
set_option maxRecDepth 20000 in
set_option maxHeartbeats 4000000 in
theorem v_X6_hasPiece {l : Launch} {d mc ms : Nat} {Q : Option Value → qH → Prop} {QX : String → qH → Prop} (x0 : Nat) (x1 : Int32) {h : qH} (hv : qIF (x1 < 0) (Q (some (.int (0 : Int32))) h) (qGI h x0 6 9 (fun z1 => qIF (z1 ≤ x1) (Q (some (.int (0 : Int32))) h) (qIF ((133 : Int32) ≤ x1) (Q (some (.int (0 : Int32))) h) (Q (some (.int (1 : Int32))) h))))) : q_Ct l (d + 0) mX6_hasPiece [.ref x0, .int x1] h mc ms Q QX := by
  refine q_body (by decide ) (by intro v hm; simp only [List.mem_cons, List.not_mem_nil, or_false] at hm; rcases hm with rfl | rfl <;> rfl) (Nat.le_of_ble_eq_true rfl) ?_
  refine j_pad 0 rfl ?_
  refine j_iload_n dX6_hasPiece_0 rfl rfl ?_
  refine j_if_lt (tgt := 23) dX6_hasPiece_1 (by decide) (fun hc => ?_) (fun hc => ?_)
  · replace hv := hv.1 hc
    refine j_iconst (v := (0 : Int32)) dX6_hasPiece_23 (by decide) ?_
    exact j_zret dX6_hasPiece_24 rfl (by decide) hv
  · replace hv := hv.2 hc
    refine j_iload_n dX6_hasPiece_4 rfl rfl ?_
    refine j_aload_n dX6_hasPiece_5 rfl rfl ?_
    obtain ⟨fs, z1, e1, e2, hv⟩ := hv
    refine j_getf (k := 9) cl_X6 (by decide) w_f_X6_56 dX6_hasPiece_6 e1 e2 ?_
    refine j_icmp_ge (tgt := 23) dX6_hasPiece_9 (by decide) (fun hc => ?_) (fun hc => ?_)
    · replace hv := hv.1 hc
      refine j_iconst (v := (0 : Int32)) dX6_hasPiece_23 (by decide) ?_
      exact j_zret dX6_hasPiece_24 rfl (by decide) hv
    · replace hv := hv.2 hc
      refine j_iload_n dX6_hasPiece_12 rfl rfl ?_
      refine j_sipush (v := (133 : Int32)) dX6_hasPiece_13 (by decide) ?_
      refine j_icmp_ge (tgt := 23) dX6_hasPiece_16 (by decide) (fun hc => ?_) (fun hc => ?_)
      · replace hv := hv.1 hc
        refine j_iconst (v := (0 : Int32)) dX6_hasPiece_23 (by decide) ?_
        exact j_zret dX6_hasPiece_24 rfl (by decide) hv
      · replace hv := hv.2 hc
        refine j_iconst (v := (1 : Int32)) dX6_hasPiece_19 (by decide) ?_
        refine j_goto (tgt := 24) dX6_hasPiece_20 (by decide) ?_
        exact j_zret dX6_hasPiece_24 rfl (by decide) hv
set_option maxRecDepth 20000 in
set_option maxHeartbeats 4000000 in
theorem v_X6_unitsKept_4 {l : Launch} {d mc ms n0 kc ks : Nat} {Q : Option Value → qH → Prop} {QX : String → qH → Prop} (x0 : Nat) (x1 : Int32) (x2 : Int32) {h : qH} (hv : qGI h x0 6 9 (fun z1 => qIF (z1 ≤ x2) (Q (some (.int x1)) h) (qIF ((133 : Int32) ≤ x2) (Q (some (.int x1)) h) (qGR h x0 6 11 (fun r2 => qAL h r2 x2 (fun z3 => q_J l (d + 0) mX6_unitsKept mc ms Q QX n0 4 [some (.ref x0), some (.int (x1 + z3)), some (.int (x2 + (1 : Int32)))] [] h kc ks)))))) : q_J l (d + 0) mX6_unitsKept mc ms Q QX n0 4 [some (.ref x0), some (.int x1), some (.int x2)] [] h kc ks := by
  refine j_iload_n dX6_unitsKept_4 rfl rfl ?_
  refine j_aload_n dX6_unitsKept_5 rfl rfl ?_
  obtain ⟨fs, z1, e1, e2, hv⟩ := hv
  refine j_getf (k := 9) cl_X6 (by decide) w_f_X6_56 dX6_unitsKept_6 e1 e2 ?_
  refine j_icmp_ge (tgt := 34) dX6_unitsKept_9 (by decide) (fun hc => ?_) (fun hc => ?_)
  · replace hv := hv.1 hc
    refine j_iload_n dX6_unitsKept_34 rfl rfl ?_
    exact j_iret dX6_unitsKept_35 rfl hv
  · replace hv := hv.2 hc
    refine j_iload_n dX6_unitsKept_12 rfl rfl ?_
    refine j_sipush (v := (133 : Int32)) dX6_unitsKept_13 (by decide) ?_
    refine j_icmp_ge (tgt := 34) dX6_unitsKept_16 (by decide) (fun hc => ?_) (fun hc => ?_)
    · replace hv := hv.1 hc
      refine j_iload_n dX6_unitsKept_34 rfl rfl ?_
      exact j_iret dX6_unitsKept_35 rfl hv
    · replace hv := hv.2 hc
      refine j_iload_n dX6_unitsKept_19 rfl rfl ?_
      refine j_aload_n dX6_unitsKept_20 rfl rfl ?_
      obtain ⟨fs, r2, e1, e2, hv⟩ := hv
      refine j_getf (k := 11) cl_X6 (by decide) w_f_X6_25 dX6_unitsKept_21 e1 e2 ?_
      refine j_iload_n dX6_unitsKept_24 rfl rfl ?_
      obtain ⟨N, f, e1, e2, hv⟩ := hv
      refine j_iald dX6_unitsKept_25 e1 e2 ?_
      generalize f _ = z3 at hv ⊢
      refine j_iadd dX6_unitsKept_26 ?_
      refine j_istore_n dX6_unitsKept_27 rfl (by decide) rfl rfl ?_
      refine j_iinc (w := (x2 + (1 : Int32))) dX6_unitsKept_28 rfl (by rfl) (by decide) rfl rfl ?_
      refine j_goto (tgt := 4) dX6_unitsKept_31 (by decide) ?_
      exact hv
set_option maxRecDepth 20000 in
set_option maxHeartbeats 4000000 in
theorem v_X6_unitsKept {l : Launch} {d mc ms : Nat} {Q : Option Value → qH → Prop} {QX : String → qH → Prop} (x0 : Nat) {h : qH} (hv : q_J l (d + 0) mX6_unitsKept mc ms Q QX h.2 4 [some (.ref x0), some (.int (0 : Int32)), some (.int (0 : Int32))] [] h mc ms) : q_Ct l (d + 0) mX6_unitsKept [.ref x0] h mc ms Q QX := by
  refine q_body (by decide ) (by intro v hm; simp only [List.mem_cons, List.not_mem_nil, or_false] at hm; subst hm; rfl) (Nat.le_of_ble_eq_true rfl) ?_
  refine j_pad 2 rfl ?_
  refine j_iconst (v := (0 : Int32)) dX6_unitsKept_0 (by decide) ?_
  refine j_istore_n dX6_unitsKept_1 rfl (by decide) rfl rfl ?_
  refine j_iconst (v := (0 : Int32)) dX6_unitsKept_2 (by decide) ?_
  refine j_istore_n dX6_unitsKept_3 rfl (by decide) rfl rfl ?_
  exact hv
set_option maxRecDepth 20000 in
set_option maxHeartbeats 4000000 in
theorem v_X6_tell {l : Launch} {d mc ms : Nat} {Q : Option Value → qH → Prop} {QX : String → qH → Prop} (x0 : Nat) (x1 : Int32) {h : qH} (hv : qIF (x1 = (0 : Int32)) (qGI h x0 6 0 (fun z1 => Q (some (.int z1)) h)) (qIF (x1 = (1 : Int32)) (qGI h x0 6 1 (fun z2 => Q (some (.int z2)) h)) (qIF (x1 = (2 : Int32)) (qGI h x0 6 2 (fun z3 => Q (some (.int z3)) h)) (qIF (x1 = (3 : Int32)) (qGI h x0 6 3 (fun z4 => Q (some (.int z4)) h)) (qIF (x1 = (4 : Int32)) (qGI h x0 6 4 (fun z5 => Q (some (.int z5)) h)) (qIF (x1 = (5 : Int32)) (qGI h x0 6 6 (fun z6 => qIF (z6 = 0) (Q (some (.int (0 : Int32))) h) (Q (some (.int (1 : Int32))) h))) (qIF (x1 = (6 : Int32)) (qGI h x0 6 5 (fun z7 => Q (some (.int z7)) h)) (qIF (x1 = (7 : Int32)) (qOB h x0 6 (qCI l (d + 0) mX6_unitsKept [.ref x0] h 0 0 (fun z9 h8 => Q (some (.int z9)) h8))) (qIF (x1 = (8 : Int32)) (qGI h x0 6 9 (fun z10 => Q (some (.int z10)) h)) (qGI h x0 6 7 (fun z11 => Q (some (.int z11)) h))))))))))) : q_Ct l (d + 1) mX6_tell [.ref x0, .int x1] h mc ms Q QX := by
  refine q_body (by decide ) (by intro v hm; simp only [List.mem_cons, List.not_mem_nil, or_false] at hm; rcases hm with rfl | rfl <;> rfl) (Nat.le_of_ble_eq_true rfl) ?_
  refine j_pad 0 rfl ?_
  refine j_iload_n dX6_tell_0 rfl rfl ?_
  by_cases hc0 : x1 = (0 : Int32)
  · replace hv := hv.1 hc0
    refine j_tableIn (tgt := 52) (off := 51) dX6_tell_1 (by rw [hc0]; decide) (by rw [hc0]; decide) (by rw [hc0]; decide) (by decide) ?_
    refine j_aload_n dX6_tell_52 rfl rfl ?_
    obtain ⟨fs, z1, e1, e2, hv⟩ := hv
    refine j_getf (k := 0) cl_X6 (by decide) w_f_X6_37 dX6_tell_53 e1 e2 ?_
    exact j_iret dX6_tell_56 rfl hv
  · replace hv := hv.2 hc0
    by_cases hc1 : x1 = (1 : Int32)
    · replace hv := hv.1 hc1
      refine j_tableIn (tgt := 57) (off := 56) dX6_tell_1 (by rw [hc1]; decide) (by rw [hc1]; decide) (by rw [hc1]; decide) (by decide) ?_
      refine j_aload_n dX6_tell_57 rfl rfl ?_
      obtain ⟨fs, z2, e1, e2, hv⟩ := hv
      refine j_getf (k := 1) cl_X6 (by decide) w_f_X6_40 dX6_tell_58 e1 e2 ?_
      exact j_iret dX6_tell_61 rfl hv
    · replace hv := hv.2 hc1
      by_cases hc2 : x1 = (2 : Int32)
      · replace hv := hv.1 hc2
        refine j_tableIn (tgt := 62) (off := 61) dX6_tell_1 (by rw [hc2]; decide) (by rw [hc2]; decide) (by rw [hc2]; decide) (by decide) ?_
        refine j_aload_n dX6_tell_62 rfl rfl ?_
        obtain ⟨fs, z3, e1, e2, hv⟩ := hv
        refine j_getf (k := 2) cl_X6 (by decide) w_f_X6_43 dX6_tell_63 e1 e2 ?_
        exact j_iret dX6_tell_66 rfl hv
      · replace hv := hv.2 hc2
        by_cases hc3 : x1 = (3 : Int32)
        · replace hv := hv.1 hc3
          refine j_tableIn (tgt := 67) (off := 66) dX6_tell_1 (by rw [hc3]; decide) (by rw [hc3]; decide) (by rw [hc3]; decide) (by decide) ?_
          refine j_aload_n dX6_tell_67 rfl rfl ?_
          obtain ⟨fs, z4, e1, e2, hv⟩ := hv
          refine j_getf (k := 3) cl_X6 (by decide) w_f_X6_9 dX6_tell_68 e1 e2 ?_
          exact j_iret dX6_tell_71 rfl hv
        · replace hv := hv.2 hc3
          by_cases hc4 : x1 = (4 : Int32)
          · replace hv := hv.1 hc4
            refine j_tableIn (tgt := 72) (off := 71) dX6_tell_1 (by rw [hc4]; decide) (by rw [hc4]; decide) (by rw [hc4]; decide) (by decide) ?_
            refine j_aload_n dX6_tell_72 rfl rfl ?_
            obtain ⟨fs, z5, e1, e2, hv⟩ := hv
            refine j_getf (k := 4) cl_X6 (by decide) w_f_X6_15 dX6_tell_73 e1 e2 ?_
            exact j_iret dX6_tell_76 rfl hv
          · replace hv := hv.2 hc4
            by_cases hc5 : x1 = (5 : Int32)
            · replace hv := hv.1 hc5
              refine j_tableIn (tgt := 77) (off := 76) dX6_tell_1 (by rw [hc5]; decide) (by rw [hc5]; decide) (by rw [hc5]; decide) (by decide) ?_
              refine j_aload_n dX6_tell_77 rfl rfl ?_
              obtain ⟨fs, z6, e1, e2, hv⟩ := hv
              refine j_getf (k := 6) cl_X6 (by decide) w_f_X6_46 dX6_tell_78 e1 e2 ?_
              refine j_if_eq (tgt := 88) dX6_tell_81 (by decide) (fun hc => ?_) (fun hc => ?_)
              · replace hv := hv.1 hc
                refine j_iconst (v := (0 : Int32)) dX6_tell_88 (by decide) ?_
                exact j_iret dX6_tell_89 rfl hv
              · replace hv := hv.2 hc
                refine j_iconst (v := (1 : Int32)) dX6_tell_84 (by decide) ?_
                refine j_goto (tgt := 89) dX6_tell_85 (by decide) ?_
                exact j_iret dX6_tell_89 rfl hv
            · replace hv := hv.2 hc5
              by_cases hc6 : x1 = (6 : Int32)
              · replace hv := hv.1 hc6
                refine j_tableIn (tgt := 90) (off := 89) dX6_tell_1 (by rw [hc6]; decide) (by rw [hc6]; decide) (by rw [hc6]; decide) (by decide) ?_
                refine j_aload_n dX6_tell_90 rfl rfl ?_
                obtain ⟨fs, z7, e1, e2, hv⟩ := hv
                refine j_getf (k := 5) cl_X6 (by decide) w_f_X6_18 dX6_tell_91 e1 e2 ?_
                exact j_iret dX6_tell_94 rfl hv
              · replace hv := hv.2 hc6
                by_cases hc7 : x1 = (7 : Int32)
                · replace hv := hv.1 hc7
                  refine j_tableIn (tgt := 95) (off := 94) dX6_tell_1 (by rw [hc7]; decide) (by rw [hc7]; decide) (by rw [hc7]; decide) (by decide) ?_
                  refine j_aload_n dX6_tell_95 rfl rfl ?_
                  obtain ⟨⟨fs, e1⟩, hv⟩ := hv
                  refine j_virtual (avs := []) (rest := []) (i := x0) (kc' := mc) (ks' := ms) dX6_tell_96 mt_X6_unitsKept w_m_X6_65 w_in_X6_unitsKept w_se_X6_unitsKept rfl rfl (Nat.le_of_ble_eq_true rfl) (Nat.le_refl _) (by omega) (by omega) cl_X6.1 e1 hv (fun _ _ q9 => q9) ?_
                  rintro _ h8 ⟨z9, rfl, hv⟩ -
                  exact j_iret dX6_tell_99 rfl hv
                · replace hv := hv.2 hc7
                  by_cases hc8 : x1 = (8 : Int32)
                  · replace hv := hv.1 hc8
                    refine j_tableIn (tgt := 100) (off := 99) dX6_tell_1 (by rw [hc8]; decide) (by rw [hc8]; decide) (by rw [hc8]; decide) (by decide) ?_
                    refine j_aload_n dX6_tell_100 rfl rfl ?_
                    obtain ⟨fs, z10, e1, e2, hv⟩ := hv
                    refine j_getf (k := 9) cl_X6 (by decide) w_f_X6_56 dX6_tell_101 e1 e2 ?_
                    exact j_iret dX6_tell_104 rfl hv
                  · replace hv := hv.2 hc8
                    refine j_tableOut (tgt := 105) dX6_tell_1 (q_tabO (by decide) (by decide) (fun j h1 => by match j, h1 with | 0, _ => exact hc0 | 1, _ => exact hc1 | 2, _ => exact hc2 | 3, _ => exact hc3 | 4, _ => exact hc4 | 5, _ => exact hc5 | 6, _ => exact hc6 | 7, _ => exact hc7 | 8, _ => exact hc8 | j + 9, h1 => exact absurd h1 (by omega))) (by decide) ?_
                    refine j_aload_n dX6_tell_105 rfl rfl ?_
                    obtain ⟨fs, z11, e1, e2, hv⟩ := hv
                    refine j_getf (k := 7) cl_X6 (by decide) w_f_X6_50 dX6_tell_106 e1 e2 ?_
                    exact j_iret dX6_tell_109 rfl hv
set_option maxRecDepth 20000 in
set_option maxHeartbeats 4000000 in
theorem v_X6_tellPiece {l : Launch} {d mc ms : Nat} {Q : Option Value → qH → Prop} {QX : String → qH → Prop} (x0 : Nat) (x1 : Int32) (x2 : Int32) {h : qH} (hv : qOB h x0 6 (qCI l (d + 0) mX6_hasPiece [.ref x0, .int x1] h 0 0 (fun z2 h1 => qIF (z2 = 0) (Q (some (.int (-1 : Int32))) h1) (qIF (x2 = (0 : Int32)) (qGR h1 x0 6 10 (fun r3 => qAL h1 r3 x1 (fun z4 => Q (some (.int z4)) h1))) (qIF (x2 = (1 : Int32)) (qGR h1 x0 6 11 (fun r5 => qAL h1 r5 x1 (fun z6 => Q (some (.int z6)) h1))) (qIF (x2 = (2 : Int32)) (qGR h1 x0 6 12 (fun r7 => qAL h1 r7 x1 (fun z8 => Q (some (.int z8)) h1))) (qGR h1 x0 6 13 (fun r9 => qAL h1 r9 x1 (fun z10 => Q (some (.int z10)) h1))))))))) : q_Ct l (d + 1) mX6_tellPiece [.ref x0, .int x1, .int x2] h mc ms Q QX := by
  refine q_body (by decide ) (by intro v hm; simp only [List.mem_cons, List.not_mem_nil, or_false] at hm; rcases hm with rfl | rfl | rfl <;> rfl) (Nat.le_of_ble_eq_true rfl) ?_
  refine j_pad 0 rfl ?_
  refine j_aload_n dX6_tellPiece_0 rfl rfl ?_
  refine j_iload_n dX6_tellPiece_1 rfl rfl ?_
  obtain ⟨⟨fs, e1⟩, hv⟩ := hv
  refine j_virtual (avs := [.int x1]) (rest := []) (i := x0) (kc' := mc) (ks' := ms) dX6_tellPiece_2 mt_X6_hasPiece w_m_X6_69 w_in_X6_hasPiece w_se_X6_hasPiece rfl rfl (Nat.le_of_ble_eq_true rfl) (Nat.le_refl _) (by omega) (by omega) cl_X6.1 e1 hv (fun _ _ q9 => q9) ?_
  rintro _ h1 ⟨z2, rfl, hv⟩ -
  refine j_if_ne (tgt := 10) dX6_tellPiece_5 (by decide) (fun hc => ?_) (fun hc => ?_)
  · replace hv := hv.2 hc
    refine j_iload_n dX6_tellPiece_10 rfl rfl ?_
    by_cases hc0 : x2 = (0 : Int32)
    · replace hv := hv.1 hc0
      refine j_tableIn (tgt := 36) (off := 25) dX6_tellPiece_11 (by rw [hc0]; decide) (by rw [hc0]; decide) (by rw [hc0]; decide) (by decide) ?_
      refine j_aload_n dX6_tellPiece_36 rfl rfl ?_
      obtain ⟨fs, r3, e1, e2, hv⟩ := hv
      refine j_getf (k := 10) cl_X6 (by decide) w_f_X6_21 dX6_tellPiece_37 e1 e2 ?_
      refine j_iload_n dX6_tellPiece_40 rfl rfl ?_
      obtain ⟨N, f, e1, e2, hv⟩ := hv
      refine j_iald dX6_tellPiece_41 e1 e2 ?_
      generalize f _ = z4 at hv ⊢
      exact j_iret dX6_tellPiece_42 rfl hv
    · replace hv := hv.2 hc0
      by_cases hc1 : x2 = (1 : Int32)
      · replace hv := hv.1 hc1
        refine j_tableIn (tgt := 43) (off := 32) dX6_tellPiece_11 (by rw [hc1]; decide) (by rw [hc1]; decide) (by rw [hc1]; decide) (by decide) ?_
        refine j_aload_n dX6_tellPiece_43 rfl rfl ?_
        obtain ⟨fs, r5, e1, e2, hv⟩ := hv
        refine j_getf (k := 11) cl_X6 (by decide) w_f_X6_25 dX6_tellPiece_44 e1 e2 ?_
        refine j_iload_n dX6_tellPiece_47 rfl rfl ?_
        obtain ⟨N, f, e1, e2, hv⟩ := hv
        refine j_iald dX6_tellPiece_48 e1 e2 ?_
        generalize f _ = z6 at hv ⊢
        exact j_iret dX6_tellPiece_49 rfl hv
      · replace hv := hv.2 hc1
        by_cases hc2 : x2 = (2 : Int32)
        · replace hv := hv.1 hc2
          refine j_tableIn (tgt := 50) (off := 39) dX6_tellPiece_11 (by rw [hc2]; decide) (by rw [hc2]; decide) (by rw [hc2]; decide) (by decide) ?_
          refine j_aload_n dX6_tellPiece_50 rfl rfl ?_
          obtain ⟨fs, r7, e1, e2, hv⟩ := hv
          refine j_getf (k := 12) cl_X6 (by decide) w_f_X6_28 dX6_tellPiece_51 e1 e2 ?_
          refine j_iload_n dX6_tellPiece_54 rfl rfl ?_
          obtain ⟨N, f, e1, e2, hv⟩ := hv
          refine j_iald dX6_tellPiece_55 e1 e2 ?_
          generalize f _ = z8 at hv ⊢
          exact j_iret dX6_tellPiece_56 rfl hv
        · replace hv := hv.2 hc2
          refine j_tableOut (tgt := 57) dX6_tellPiece_11 (q_tabO (by decide) (by decide) (fun j h1 => by match j, h1 with | 0, _ => exact hc0 | 1, _ => exact hc1 | 2, _ => exact hc2 | j + 3, h1 => exact absurd h1 (by omega))) (by decide) ?_
          refine j_aload_n dX6_tellPiece_57 rfl rfl ?_
          obtain ⟨fs, r9, e1, e2, hv⟩ := hv
          refine j_getf (k := 13) cl_X6 (by decide) w_f_X6_31 dX6_tellPiece_58 e1 e2 ?_
          refine j_iload_n dX6_tellPiece_61 rfl rfl ?_
          obtain ⟨N, f, e1, e2, hv⟩ := hv
          refine j_iald dX6_tellPiece_62 e1 e2 ?_
          generalize f _ = z10 at hv ⊢
          exact j_iret dX6_tellPiece_63 rfl hv
  · replace hv := hv.1 hc
    refine j_iconst (v := (-1 : Int32)) dX6_tellPiece_8 (by decide) ?_
    exact j_iret dX6_tellPiece_9 rfl hv
set_option maxRecDepth 20000 in
set_option maxHeartbeats 4000000 in
theorem v_X6_signsSent {l : Launch} {d mc ms : Nat} {Q : Option Value → qH → Prop} {QX : String → qH → Prop} (x0 : Nat) (x1 : Int32) {h : qH} (hv : qIF (x1 < 0) (Q (some (.int (0 : Int32))) h) (qIF (x1 < (12 : Int32)) (qGR h x0 6 14 (fun r1 => qAL h r1 x1 (fun z2 => Q (some (.int z2)) h))) (Q (some (.int (0 : Int32))) h))) : q_Ct l (d + 0) mX6_signsSent [.ref x0, .int x1] h mc ms Q QX := by
  refine q_body (by decide ) (by intro v hm; simp only [List.mem_cons, List.not_mem_nil, or_false] at hm; rcases hm with rfl | rfl <;> rfl) (Nat.le_of_ble_eq_true rfl) ?_
  refine j_pad 0 rfl ?_
  refine j_iload_n dX6_signsSent_0 rfl rfl ?_
  refine j_if_lt (tgt := 10) dX6_signsSent_1 (by decide) (fun hc => ?_) (fun hc => ?_)
  · replace hv := hv.1 hc
    refine j_iconst (v := (0 : Int32)) dX6_signsSent_10 (by decide) ?_
    refine j_goto (tgt := 20) dX6_signsSent_11 (by decide) ?_
    exact j_iret dX6_signsSent_20 rfl hv
  · replace hv := hv.2 hc
    refine j_iload_n dX6_signsSent_4 rfl rfl ?_
    refine j_bipush (v := (12 : Int32)) dX6_signsSent_5 (by decide) ?_
    refine j_icmp_lt (tgt := 14) dX6_signsSent_7 (by decide) (fun hc => ?_) (fun hc => ?_)
    · replace hv := hv.1 hc
      refine j_aload_n dX6_signsSent_14 rfl rfl ?_
      obtain ⟨fs, r1, e1, e2, hv⟩ := hv
      refine j_getf (k := 14) cl_X6 (by decide) w_f_X6_34 dX6_signsSent_15 e1 e2 ?_
      refine j_iload_n dX6_signsSent_18 rfl rfl ?_
      obtain ⟨N, f, e1, e2, hv⟩ := hv
      refine j_iald dX6_signsSent_19 e1 e2 ?_
      generalize f _ = z2 at hv ⊢
      exact j_iret dX6_signsSent_20 rfl hv
    · replace hv := hv.2 hc
      refine j_iconst (v := (0 : Int32)) dX6_signsSent_10 (by decide) ?_
      refine j_goto (tgt := 20) dX6_signsSent_11 (by decide) ?_
      exact j_iret dX6_signsSent_20 rfl hv
set_option maxRecDepth 20000 in
set_option maxHeartbeats 4000000 in
theorem v_X6_signsOfAll_8 {l : Launch} {d mc ms n0 kc ks : Nat} {Q : Option Value → qH → Prop} {QX : String → qH → Prop} (x0 : Nat) (x1 : Int32) (x2 : Int32) (x3 : Int32) {h : qH} (hv : qGI h x0 6 9 (fun z1 => qIF (z1 ≤ x3) (Q (some (.int x2)) h) (qIF ((133 : Int32) ≤ x3) (Q (some (.int x2)) h) (qGR h x0 6 10 (fun r2 => qAL h r2 x3 (fun z3 => qIF (z3 = x1) (qGR h x0 6 13 (fun r4 => qAL h r4 x3 (fun z5 => q_J l (d + 1) mX6_signsOfAll mc ms Q QX n0 8 [some (.ref x0), some (.int x1), some (.int (x2 ||| ((1 : Int32) <<< (z5 &&& 31)))), some (.int (x3 + (1 : Int32)))] [] h kc ks))) (q_J l (d + 1) mX6_signsOfAll mc ms Q QX n0 8 [some (.ref x0), some (.int x1), some (.int x2), some (.int (x3 + (1 : Int32)))] [] h kc ks))))))) : q_J l (d + 1) mX6_signsOfAll mc ms Q QX n0 8 [some (.ref x0), some (.int x1), some (.int x2), some (.int x3)] [] h kc ks := by
  refine j_iload_n dX6_signsOfAll_8 rfl rfl ?_
  refine j_aload_n dX6_signsOfAll_9 rfl rfl ?_
  obtain ⟨fs, z1, e1, e2, hv⟩ := hv
  refine j_getf (k := 9) cl_X6 (by decide) w_f_X6_56 dX6_signsOfAll_10 e1 e2 ?_
  refine j_icmp_ge (tgt := 50) dX6_signsOfAll_13 (by decide) (fun hc => ?_) (fun hc => ?_)
  · replace hv := hv.1 hc
    refine j_iload_n dX6_signsOfAll_50 rfl rfl ?_
    exact j_iret dX6_signsOfAll_51 rfl hv
  · replace hv := hv.2 hc
    refine j_iload_n dX6_signsOfAll_16 rfl rfl ?_
    refine j_sipush (v := (133 : Int32)) dX6_signsOfAll_17 (by decide) ?_
    refine j_icmp_ge (tgt := 50) dX6_signsOfAll_20 (by decide) (fun hc => ?_) (fun hc => ?_)
    · replace hv := hv.1 hc
      refine j_iload_n dX6_signsOfAll_50 rfl rfl ?_
      exact j_iret dX6_signsOfAll_51 rfl hv
    · replace hv := hv.2 hc
      refine j_aload_n dX6_signsOfAll_23 rfl rfl ?_
      obtain ⟨fs, r2, e1, e2, hv⟩ := hv
      refine j_getf (k := 10) cl_X6 (by decide) w_f_X6_21 dX6_signsOfAll_24 e1 e2 ?_
      refine j_iload_n dX6_signsOfAll_27 rfl rfl ?_
      obtain ⟨N, f, e1, e2, hv⟩ := hv
      refine j_iald dX6_signsOfAll_28 e1 e2 ?_
      generalize f _ = z3 at hv ⊢
      refine j_iload_n dX6_signsOfAll_29 rfl rfl ?_
      refine j_icmp_ne (tgt := 44) dX6_signsOfAll_30 (by decide) (fun hc => ?_) (fun hc => ?_)
      · replace hv := hv.2 hc
        refine j_iinc (w := (x3 + (1 : Int32))) dX6_signsOfAll_44 rfl (by rfl) (by decide) rfl rfl ?_
        refine j_goto (tgt := 8) dX6_signsOfAll_47 (by decide) ?_
        exact hv
      · replace hv := hv.1 hc
        refine j_iload_n dX6_signsOfAll_33 rfl rfl ?_
        refine j_iconst (v := (1 : Int32)) dX6_signsOfAll_34 (by decide) ?_
        refine j_aload_n dX6_signsOfAll_35 rfl rfl ?_
        obtain ⟨fs, r4, e1, e2, hv⟩ := hv
        refine j_getf (k := 13) cl_X6 (by decide) w_f_X6_31 dX6_signsOfAll_36 e1 e2 ?_
        refine j_iload_n dX6_signsOfAll_39 rfl rfl ?_
        obtain ⟨N, f, e1, e2, hv⟩ := hv
        refine j_iald dX6_signsOfAll_40 e1 e2 ?_
        generalize f _ = z5 at hv ⊢
        refine j_ishl dX6_signsOfAll_41 ?_
        refine j_ior dX6_signsOfAll_42 ?_
        refine j_istore_n dX6_signsOfAll_43 rfl (by decide) rfl rfl ?_
        refine j_iinc (w := (x3 + (1 : Int32))) dX6_signsOfAll_44 rfl (by rfl) (by decide) rfl rfl ?_
        refine j_goto (tgt := 8) dX6_signsOfAll_47 (by decide) ?_
        exact hv
set_option maxRecDepth 20000 in
set_option maxHeartbeats 4000000 in
theorem v_X6_signsOfAll {l : Launch} {d mc ms : Nat} {Q : Option Value → qH → Prop} {QX : String → qH → Prop} (x0 : Nat) (x1 : Int32) {h : qH} (hv : qOB h x0 6 (qCI l (d + 0) mX6_signsSent [.ref x0, .int x1] h 0 0 (fun z2 h1 => q_J l (d + 1) mX6_signsOfAll mc ms Q QX h.2 8 [some (.ref x0), some (.int x1), some (.int z2), some (.int (0 : Int32))] [] h1 mc ms))) : q_Ct l (d + 1) mX6_signsOfAll [.ref x0, .int x1] h mc ms Q QX := by
  refine q_body (by decide ) (by intro v hm; simp only [List.mem_cons, List.not_mem_nil, or_false] at hm; rcases hm with rfl | rfl <;> rfl) (Nat.le_of_ble_eq_true rfl) ?_
  refine j_pad 2 rfl ?_
  refine j_aload_n dX6_signsOfAll_0 rfl rfl ?_
  refine j_iload_n dX6_signsOfAll_1 rfl rfl ?_
  obtain ⟨⟨fs, e1⟩, hv⟩ := hv
  refine j_virtual (avs := [.int x1]) (rest := []) (i := x0) (kc' := mc) (ks' := ms) dX6_signsOfAll_2 mt_X6_signsSent w_m_X6_73 w_in_X6_signsSent w_se_X6_signsSent rfl rfl (Nat.le_of_ble_eq_true rfl) (Nat.le_refl _) (by omega) (by omega) cl_X6.1 e1 hv (fun _ _ q9 => q9) ?_
  rintro _ h1 ⟨z2, rfl, hv⟩ -
  refine j_istore_n dX6_signsOfAll_5 rfl (by decide) rfl rfl ?_
  refine j_iconst (v := (0 : Int32)) dX6_signsOfAll_6 (by decide) ?_
  refine j_istore_n dX6_signsOfAll_7 rfl (by decide) rfl rfl ?_
  exact hv
set_option maxRecDepth 20000 in
set_option maxHeartbeats 4000000 in
theorem v_X6_isFull {l : Launch} {d mc ms : Nat} {Q : Option Value → qH → Prop} {QX : String → qH → Prop} (x0 : Nat) {h : qH} (hv : qGI h x0 6 9 (fun z1 => qIF (z1 < 0) (Q (some (.int (1 : Int32))) h) (qGI h x0 6 9 (fun z2 => qIF (z2 < (133 : Int32)) (Q (some (.int (0 : Int32))) h) (Q (some (.int (1 : Int32))) h))))) : q_Ct l (d + 0) mX6_isFull [.ref x0] h mc ms Q QX := by
  refine q_body (by decide ) (by intro v hm; simp only [List.mem_cons, List.not_mem_nil, or_false] at hm; subst hm; rfl) (Nat.le_of_ble_eq_true rfl) ?_
  refine j_pad 0 rfl ?_
  refine j_aload_n dX6_isFull_0 rfl rfl ?_
  obtain ⟨fs, z1, e1, e2, hv⟩ := hv
  refine j_getf (k := 9) cl_X6 (by decide) w_f_X6_56 dX6_isFull_1 e1 e2 ?_
  refine j_if_lt (tgt := 17) dX6_isFull_4 (by decide) (fun hc => ?_) (fun hc => ?_)
  · replace hv := hv.1 hc
    refine j_iconst (v := (1 : Int32)) dX6_isFull_17 (by decide) ?_
    refine j_goto (tgt := 22) dX6_isFull_18 (by decide) ?_
    exact j_zret dX6_isFull_22 rfl (by decide) hv
  · replace hv := hv.2 hc
    refine j_aload_n dX6_isFull_7 rfl rfl ?_
    obtain ⟨fs, z2, e1, e2, hv⟩ := hv
    refine j_getf (k := 9) cl_X6 (by decide) w_f_X6_56 dX6_isFull_8 e1 e2 ?_
    refine j_sipush (v := (133 : Int32)) dX6_isFull_11 (by decide) ?_
    refine j_icmp_lt (tgt := 21) dX6_isFull_14 (by decide) (fun hc => ?_) (fun hc => ?_)
    · replace hv := hv.1 hc
      refine j_iconst (v := (0 : Int32)) dX6_isFull_21 (by decide) ?_
      exact j_zret dX6_isFull_22 rfl (by decide) hv
    · replace hv := hv.2 hc
      refine j_iconst (v := (1 : Int32)) dX6_isFull_17 (by decide) ?_
      refine j_goto (tgt := 22) dX6_isFull_18 (by decide) ?_
      exact j_zret dX6_isFull_22 rfl (by decide) hv
set_option maxRecDepth 20000 in
set_option maxHeartbeats 4000000 in
theorem v_X6_keep {l : Launch} {d mc ms : Nat} {Q : Option Value → qH → Prop} {QX : String → qH → Prop} (x0 : Nat) (x1 : Int32) (x2 : Int32) (x3 : Int32) (x4 : Int32) {h : qH} (hv : qOB h x0 6 (qCI l (d + 0) mX6_isFull [.ref x0] h 0 0 (fun z2 h1 => qIF (z2 = 0) (qGR h1 x0 6 10 (fun r3 => qGI h1 x0 6 9 (fun z4 => qAS h1 r3 z4 x1 (fun h5 => qGR h5 x0 6 11 (fun r6 => qGI h5 x0 6 9 (fun z7 => qAS h5 r6 z7 x2 (fun h8 => qGR h8 x0 6 12 (fun r9 => qGI h8 x0 6 9 (fun z10 => qAS h8 r9 z10 x3 (fun h11 => qGR h11 x0 6 13 (fun r12 => qGI h11 x0 6 9 (fun z13 => qAS h11 r12 z13 x4 (fun h14 => qGI h14 x0 6 9 (fun z15 => qPI h14 x0 6 9 (z15 + (1 : Int32)) (fun h16 => qGI h16 x0 6 8 (fun z17 => qPI h16 x0 6 8 (z17 + x2) (fun h18 => Q none h18))))))))))))))))) (Q none h1)))) : q_Ct l (d + 1) mX6_keep [.ref x0, .int x1, .int x2, .int x3, .int x4] h mc ms Q QX := by
  refine q_body (by decide ) (by intro v hm; simp only [List.mem_cons, List.not_mem_nil, or_false] at hm; rcases hm with rfl | rfl | rfl | rfl | rfl <;> rfl) (Nat.le_of_ble_eq_true rfl) ?_
  refine j_pad 0 rfl ?_
  refine j_aload_n dX6_keep_0 rfl rfl ?_
  obtain ⟨⟨fs, e1⟩, hv⟩ := hv
  refine j_virtual (avs := []) (rest := []) (i := x0) (kc' := mc) (ks' := ms) dX6_keep_1 mt_X6_isFull w_m_X6_77 w_in_X6_isFull w_se_X6_isFull rfl rfl (Nat.le_of_ble_eq_true rfl) (Nat.le_refl _) (by omega) (by omega) cl_X6.1 e1 hv (fun _ _ q9 => q9) ?_
  rintro _ h1 ⟨z2, rfl, hv⟩ -
  refine j_if_eq (tgt := 8) dX6_keep_4 (by decide) (fun hc => ?_) (fun hc => ?_)
  · replace hv := hv.1 hc
    refine j_aload_n dX6_keep_8 rfl rfl ?_
    obtain ⟨fs, r3, e1, e2, hv⟩ := hv
    refine j_getf (k := 10) cl_X6 (by decide) w_f_X6_21 dX6_keep_9 e1 e2 ?_
    refine j_aload_n dX6_keep_12 rfl rfl ?_
    obtain ⟨fs, z4, e1, e2, hv⟩ := hv
    refine j_getf (k := 9) cl_X6 (by decide) w_f_X6_56 dX6_keep_13 e1 e2 ?_
    refine j_iload_n dX6_keep_16 rfl rfl ?_
    obtain ⟨N, f, e1, e2, hv⟩ := hv
    refine j_iast dX6_keep_17 e1 e2 ?_
    generalize q_set h1 r3 _ = h5 at hv ⊢
    refine j_aload_n dX6_keep_18 rfl rfl ?_
    obtain ⟨fs, r6, e1, e2, hv⟩ := hv
    refine j_getf (k := 11) cl_X6 (by decide) w_f_X6_25 dX6_keep_19 e1 e2 ?_
    refine j_aload_n dX6_keep_22 rfl rfl ?_
    obtain ⟨fs, z7, e1, e2, hv⟩ := hv
    refine j_getf (k := 9) cl_X6 (by decide) w_f_X6_56 dX6_keep_23 e1 e2 ?_
    refine j_iload_n dX6_keep_26 rfl rfl ?_
    obtain ⟨N, f, e1, e2, hv⟩ := hv
    refine j_iast dX6_keep_27 e1 e2 ?_
    generalize q_set h5 r6 _ = h8 at hv ⊢
    refine j_aload_n dX6_keep_28 rfl rfl ?_
    obtain ⟨fs, r9, e1, e2, hv⟩ := hv
    refine j_getf (k := 12) cl_X6 (by decide) w_f_X6_28 dX6_keep_29 e1 e2 ?_
    refine j_aload_n dX6_keep_32 rfl rfl ?_
    obtain ⟨fs, z10, e1, e2, hv⟩ := hv
    refine j_getf (k := 9) cl_X6 (by decide) w_f_X6_56 dX6_keep_33 e1 e2 ?_
    refine j_iload_n dX6_keep_36 rfl rfl ?_
    obtain ⟨N, f, e1, e2, hv⟩ := hv
    refine j_iast dX6_keep_37 e1 e2 ?_
    generalize q_set h8 r9 _ = h11 at hv ⊢
    refine j_aload_n dX6_keep_38 rfl rfl ?_
    obtain ⟨fs, r12, e1, e2, hv⟩ := hv
    refine j_getf (k := 13) cl_X6 (by decide) w_f_X6_31 dX6_keep_39 e1 e2 ?_
    refine j_aload_n dX6_keep_42 rfl rfl ?_
    obtain ⟨fs, z13, e1, e2, hv⟩ := hv
    refine j_getf (k := 9) cl_X6 (by decide) w_f_X6_56 dX6_keep_43 e1 e2 ?_
    refine j_iload dX6_keep_46 rfl ?_
    obtain ⟨N, f, e1, e2, hv⟩ := hv
    refine j_iast dX6_keep_48 e1 e2 ?_
    generalize q_set h11 r12 _ = h14 at hv ⊢
    refine j_aload_n dX6_keep_49 rfl rfl ?_
    refine j_dup dX6_keep_50 rfl ?_
    obtain ⟨fs, z15, e1, e2, hv⟩ := hv
    refine j_getf (k := 9) cl_X6 (by decide) w_f_X6_56 dX6_keep_51 e1 e2 ?_
    refine j_iconst (v := (1 : Int32)) dX6_keep_54 (by decide) ?_
    refine j_iadd dX6_keep_55 ?_
    obtain ⟨fs, e1, e2, hv⟩ := hv
    refine j_put (k := 9) (ty0 := tyX6) cl_X6 (pf_X6_9) w_f_X6_56 dX6_keep_56 (fun g ad => q_nI g ad _) e1 e2 ?_
    generalize q_set h14 x0 _ = h16 at hv ⊢
    refine j_aload_n dX6_keep_59 rfl rfl ?_
    refine j_dup dX6_keep_60 rfl ?_
    obtain ⟨fs, z17, e1, e2, hv⟩ := hv
    refine j_getf (k := 8) cl_X6 (by decide) w_f_X6_53 dX6_keep_61 e1 e2 ?_
    refine j_iload_n dX6_keep_64 rfl rfl ?_
    refine j_iadd dX6_keep_65 ?_
    obtain ⟨fs, e1, e2, hv⟩ := hv
    refine j_put (k := 8) (ty0 := tyX6) cl_X6 (pf_X6_8) w_f_X6_53 dX6_keep_66 (fun g ad => q_nI g ad _) e1 e2 ?_
    generalize q_set h16 x0 _ = h18 at hv ⊢
    exact j_vret dX6_keep_69 rfl hv
  · replace hv := hv.2 hc
    exact j_vret dX6_keep_7 rfl hv
set_option maxRecDepth 20000 in
set_option maxHeartbeats 4000000 in
theorem v_X6_sendUnits_4 {l : Launch} {d mc ms n0 kc ks : Nat} {Q : Option Value → qH → Prop} {QX : String → qH → Prop} (x0 : Nat) (x1 : Int32) (x2 : Int32) (x3 : Int32) {h : qH} (hv : qIF ((133 : Int32) ≤ x3) (Q none h) (qIF (x2 ≤ 0) (Q none h) (qOB h x0 6 (qCI l (d + 1) mX6_hasPiece [.ref x0, .int (0 : Int32)] h 0 0 (fun z2 h1 => qIF (z2 = 0) (Q none h1) (qOB h1 x0 6 (qCI l (d + 1) mX6_mostUrgent [.ref x0] h1 0 0 (fun z4 h3 => qGR h3 x0 6 11 (fun r5 => qAL h3 r5 z4 (fun z6 => qGI h3 x0 6 7 (fun z8 => qPI h3 x0 6 7 (z8 + (if z6 < x2 then z6 else x2)) (fun h9 => qGR h9 x0 6 11 (fun r10 => qAL h9 r10 z4 (fun z11 => qAS h9 r10 z4 (z11 - (if z6 < x2 then z6 else x2)) (fun h12 => qGR h12 x0 6 11 (fun r13 => qAL h12 r13 z4 (fun z14 => qIF (z14 = 0) (qOB h12 x0 6 (qCV l (d + 1) mX6_finishPiece [.ref x0, .int z4] h12 0 0 (fun h15 => q_J l (d + 2) mX6_sendUnits mc ms Q QX n0 4 [some (.ref x0), some (.int x1), some (.int (x2 - (if z6 < x2 then z6 else x2))), some (.int (x3 + (1 : Int32))), none, none] [] h15 kc ks))) (q_J l (d + 2) mX6_sendUnits mc ms Q QX n0 4 [some (.ref x0), some (.int x1), some (.int (x2 - (if z6 < x2 then z6 else x2))), some (.int (x3 + (1 : Int32))), none, none] [] h12 kc ks)))))))))))))))))) : q_J l (d + 2) mX6_sendUnits mc ms Q QX n0 4 [some (.ref x0), some (.int x1), some (.int x2), some (.int x3), none, none] [] h kc ks := by
  refine j_iload_n dX6_sendUnits_4 rfl rfl ?_
  refine j_sipush (v := (133 : Int32)) dX6_sendUnits_5 (by decide) ?_
  refine j_icmp_ge (tgt := 92) dX6_sendUnits_8 (by decide) (fun hc => ?_) (fun hc => ?_)
  · replace hv := hv.1 hc
    exact j_vret dX6_sendUnits_92 rfl hv
  · replace hv := hv.2 hc
    refine j_iload_n dX6_sendUnits_11 rfl rfl ?_
    refine j_if_le (tgt := 92) dX6_sendUnits_12 (by decide) (fun hc => ?_) (fun hc => ?_)
    · replace hv := hv.1 hc
      exact j_vret dX6_sendUnits_92 rfl hv
    · replace hv := hv.2 hc
      refine j_aload_n dX6_sendUnits_15 rfl rfl ?_
      refine j_iconst (v := (0 : Int32)) dX6_sendUnits_16 (by decide) ?_
      obtain ⟨⟨fs, e1⟩, hv⟩ := hv
      refine j_virtual (avs := [.int (0 : Int32)]) (rest := []) (i := x0) (kc' := kc) (ks' := ks) dX6_sendUnits_17 mt_X6_hasPiece w_m_X6_69 w_in_X6_hasPiece w_se_X6_hasPiece rfl rfl (Nat.le_of_ble_eq_true rfl) (Nat.le_refl _) (by omega) (by omega) cl_X6.1 e1 hv (fun _ _ q9 => q9) ?_
      rintro _ h1 ⟨z2, rfl, hv⟩ -
      refine j_if_eq (tgt := 92) dX6_sendUnits_20 (by decide) (fun hc => ?_) (fun hc => ?_)
      · replace hv := hv.1 hc
        exact j_vret dX6_sendUnits_92 rfl hv
      · replace hv := hv.2 hc
        refine j_aload_n dX6_sendUnits_23 rfl rfl ?_
        obtain ⟨⟨fs, e1⟩, hv⟩ := hv
        refine j_virtual (avs := []) (rest := []) (i := x0) (kc' := kc) (ks' := ks) dX6_sendUnits_24 mt_X6_mostUrgent w_m_X6_81 w_in_X6_mostUrgent w_se_X6_mostUrgent rfl rfl (Nat.le_of_ble_eq_true rfl) (Nat.le_refl _) (by omega) (by omega) cl_X6.1 e1 hv (fun _ _ q9 => q9) ?_
        rintro _ h3 ⟨z4, rfl, hv⟩ -
        refine j_istore dX6_sendUnits_27 (by decide) rfl rfl ?_
        refine j_iload_n dX6_sendUnits_29 rfl rfl ?_
        refine j_aload_n dX6_sendUnits_30 rfl rfl ?_
        obtain ⟨fs, r5, e1, e2, hv⟩ := hv
        refine j_getf (k := 11) cl_X6 (by decide) w_f_X6_25 dX6_sendUnits_31 e1 e2 ?_
        refine j_iload dX6_sendUnits_34 rfl ?_
        obtain ⟨N, f, e1, e2, hv⟩ := hv
        refine j_iald dX6_sendUnits_36 e1 e2 ?_
        generalize f _ = z6 at hv ⊢
        refine j_mmin dX6_sendUnits_37 w_m_X6_59 w_st_min w_ini_Math w_co_min (Nat.le_of_ble_eq_true rfl) (by omega) ?_
        refine j_istore dX6_sendUnits_40 (by decide) rfl rfl ?_
        refine j_iload_n dX6_sendUnits_42 rfl rfl ?_
        refine j_iload dX6_sendUnits_43 rfl ?_
        refine j_isub dX6_sendUnits_45 ?_
        refine j_istore_n dX6_sendUnits_46 rfl (by decide) rfl rfl ?_
        refine j_aload_n dX6_sendUnits_47 rfl rfl ?_
        refine j_dup dX6_sendUnits_48 rfl ?_
        obtain ⟨fs, z8, e1, e2, hv⟩ := hv
        refine j_getf (k := 7) cl_X6 (by decide) w_f_X6_50 dX6_sendUnits_49 e1 e2 ?_
        refine j_iload dX6_sendUnits_52 rfl ?_
        refine j_iadd dX6_sendUnits_54 ?_
        obtain ⟨fs, e1, e2, hv⟩ := hv
        refine j_put (k := 7) (ty0 := tyX6) cl_X6 (pf_X6_7) w_f_X6_50 dX6_sendUnits_55 (fun g ad => q_nI g ad _) e1 e2 ?_
        generalize q_set h3 x0 _ = h9 at hv ⊢
        refine j_aload_n dX6_sendUnits_58 rfl rfl ?_
        obtain ⟨fs, r10, e1, e2, hv⟩ := hv
        refine j_getf (k := 11) cl_X6 (by decide) w_f_X6_25 dX6_sendUnits_59 e1 e2 ?_
        refine j_iload dX6_sendUnits_62 rfl ?_
        refine j_dup2 dX6_sendUnits_64 rfl rfl ?_
        obtain ⟨N, f, e1, e2, hv⟩ := hv
        refine j_iald dX6_sendUnits_65 e1 e2 ?_
        generalize f _ = z11 at hv ⊢
        refine j_iload dX6_sendUnits_66 rfl ?_
        refine j_isub dX6_sendUnits_68 ?_
        obtain ⟨N, f, e1, e2, hv⟩ := hv
        refine j_iast dX6_sendUnits_69 e1 e2 ?_
        generalize q_set h9 r10 _ = h12 at hv ⊢
        refine j_aload_n dX6_sendUnits_70 rfl rfl ?_
        obtain ⟨fs, r13, e1, e2, hv⟩ := hv
        refine j_getf (k := 11) cl_X6 (by decide) w_f_X6_25 dX6_sendUnits_71 e1 e2 ?_
        refine j_iload dX6_sendUnits_74 rfl ?_
        obtain ⟨N, f, e1, e2, hv⟩ := hv
        refine j_iald dX6_sendUnits_76 e1 e2 ?_
        generalize f _ = z14 at hv ⊢
        refine j_if_ne (tgt := 86) dX6_sendUnits_77 (by decide) (fun hc => ?_) (fun hc => ?_)
        · replace hv := hv.2 hc
          refine j_iinc (w := (x3 + (1 : Int32))) dX6_sendUnits_86 rfl (by rfl) (by decide) rfl rfl ?_
          refine j_goto (tgt := 4) dX6_sendUnits_89 (by decide) ?_
          refine j_mask [true, true, true, true, false, false] rfl ?_
          exact hv
        · replace hv := hv.1 hc
          refine j_aload_n dX6_sendUnits_80 rfl rfl ?_
          refine j_iload dX6_sendUnits_81 rfl ?_
          obtain ⟨⟨fs, e1⟩, hv⟩ := hv
          refine j_virtual (avs := [.int z4]) (rest := []) (i := x0) (kc' := kc) (ks' := ks) dX6_sendUnits_83 mt_X6_finishPiece w_m_X6_84 w_in_X6_finishPiece w_se_X6_finishPiece rfl rfl (Nat.le_of_ble_eq_true rfl) (Nat.le_refl _) (by omega) (by omega) cl_X6.1 e1 hv (fun _ _ q9 => q9) ?_
          rintro _ h15 ⟨rfl, hv⟩ -
          refine j_iinc (w := (x3 + (1 : Int32))) dX6_sendUnits_86 rfl (by rfl) (by decide) rfl rfl ?_
          refine j_goto (tgt := 4) dX6_sendUnits_89 (by decide) ?_
          refine j_mask [true, true, true, true, false, false] rfl ?_
          exact hv
set_option maxRecDepth 20000 in
set_option maxHeartbeats 4000000 in
theorem v_X6_sendUnits {l : Launch} {d mc ms : Nat} {Q : Option Value → qH → Prop} {QX : String → qH → Prop} (x0 : Nat) (x1 : Int32) {h : qH} (hv : q_J l (d + 2) mX6_sendUnits mc ms Q QX h.2 4 [some (.ref x0), some (.int x1), some (.int x1), some (.int (0 : Int32)), none, none] [] h mc ms) : q_Ct l (d + 2) mX6_sendUnits [.ref x0, .int x1] h mc ms Q QX := by
  refine q_body (by decide ) (by intro v hm; simp only [List.mem_cons, List.not_mem_nil, or_false] at hm; rcases hm with rfl | rfl <;> rfl) (Nat.le_of_ble_eq_true rfl) ?_
  refine j_pad 4 rfl ?_
  refine j_iload_n dX6_sendUnits_0 rfl rfl ?_
  refine j_istore_n dX6_sendUnits_1 rfl (by decide) rfl rfl ?_
  refine j_iconst (v := (0 : Int32)) dX6_sendUnits_2 (by decide) ?_
  refine j_istore_n dX6_sendUnits_3 rfl (by decide) rfl rfl ?_
  exact hv
set_option maxRecDepth 20000 in
set_option maxHeartbeats 4000000 in
theorem v_X6_mostUrgent_4 {l : Launch} {d mc ms n0 kc ks : Nat} {Q : Option Value → qH → Prop} {QX : String → qH → Prop} (x0 : Nat) (x1 : Int32) (x2 : Int32) {h : qH} (hv : qGI h x0 6 9 (fun z1 => qIF (z1 ≤ x2) (Q (some (.int x1)) h) (qIF ((133 : Int32) ≤ x2) (Q (some (.int x1)) h) (qGR h x0 6 12 (fun r2 => qAL h r2 x2 (fun z3 => qGR h x0 6 12 (fun r4 => qAL h r4 x1 (fun z5 => qIF (z3 ≤ z5) (q_J l (d + 0) mX6_mostUrgent mc ms Q QX n0 4 [some (.ref x0), some (.int x1), some (.int (x2 + (1 : Int32)))] [] h kc ks) (q_J l (d + 0) mX6_mostUrgent mc ms Q QX n0 4 [some (.ref x0), some (.int x2), some (.int (x2 + (1 : Int32)))] [] h kc ks))))))))) : q_J l (d + 0) mX6_mostUrgent mc ms Q QX n0 4 [some (.ref x0), some (.int x1), some (.int x2)] [] h kc ks := by
  refine j_iload_n dX6_mostUrgent_4 rfl rfl ?_
  refine j_aload_n dX6_mostUrgent_5 rfl rfl ?_
  obtain ⟨fs, z1, e1, e2, hv⟩ := hv
  refine j_getf (k := 9) cl_X6 (by decide) w_f_X6_56 dX6_mostUrgent_6 e1 e2 ?_
  refine j_icmp_ge (tgt := 42) dX6_mostUrgent_9 (by decide) (fun hc => ?_) (fun hc => ?_)
  · replace hv := hv.1 hc
    refine j_iload_n dX6_mostUrgent_42 rfl rfl ?_
    exact j_iret dX6_mostUrgent_43 rfl hv
  · replace hv := hv.2 hc
    refine j_iload_n dX6_mostUrgent_12 rfl rfl ?_
    refine j_sipush (v := (133 : Int32)) dX6_mostUrgent_13 (by decide) ?_
    refine j_icmp_ge (tgt := 42) dX6_mostUrgent_16 (by decide) (fun hc => ?_) (fun hc => ?_)
    · replace hv := hv.1 hc
      refine j_iload_n dX6_mostUrgent_42 rfl rfl ?_
      exact j_iret dX6_mostUrgent_43 rfl hv
    · replace hv := hv.2 hc
      refine j_aload_n dX6_mostUrgent_19 rfl rfl ?_
      obtain ⟨fs, r2, e1, e2, hv⟩ := hv
      refine j_getf (k := 12) cl_X6 (by decide) w_f_X6_28 dX6_mostUrgent_20 e1 e2 ?_
      refine j_iload_n dX6_mostUrgent_23 rfl rfl ?_
      obtain ⟨N, f, e1, e2, hv⟩ := hv
      refine j_iald dX6_mostUrgent_24 e1 e2 ?_
      generalize f _ = z3 at hv ⊢
      refine j_aload_n dX6_mostUrgent_25 rfl rfl ?_
      obtain ⟨fs, r4, e1, e2, hv⟩ := hv
      refine j_getf (k := 12) cl_X6 (by decide) w_f_X6_28 dX6_mostUrgent_26 e1 e2 ?_
      refine j_iload_n dX6_mostUrgent_29 rfl rfl ?_
      obtain ⟨N, f, e1, e2, hv⟩ := hv
      refine j_iald dX6_mostUrgent_30 e1 e2 ?_
      generalize f _ = z5 at hv ⊢
      refine j_icmp_le (tgt := 36) dX6_mostUrgent_31 (by decide) (fun hc => ?_) (fun hc => ?_)
      · replace hv := hv.1 hc
        refine j_iinc (w := (x2 + (1 : Int32))) dX6_mostUrgent_36 rfl (by rfl) (by decide) rfl rfl ?_
        refine j_goto (tgt := 4) dX6_mostUrgent_39 (by decide) ?_
        exact hv
      · replace hv := hv.2 hc
        refine j_iload_n dX6_mostUrgent_34 rfl rfl ?_
        refine j_istore_n dX6_mostUrgent_35 rfl (by decide) rfl rfl ?_
        refine j_iinc (w := (x2 + (1 : Int32))) dX6_mostUrgent_36 rfl (by rfl) (by decide) rfl rfl ?_
        refine j_goto (tgt := 4) dX6_mostUrgent_39 (by decide) ?_
        exact hv
set_option maxRecDepth 20000 in
set_option maxHeartbeats 4000000 in
theorem v_X6_mostUrgent {l : Launch} {d mc ms : Nat} {Q : Option Value → qH → Prop} {QX : String → qH → Prop} (x0 : Nat) {h : qH} (hv : q_J l (d + 0) mX6_mostUrgent mc ms Q QX h.2 4 [some (.ref x0), some (.int (0 : Int32)), some (.int (1 : Int32))] [] h mc ms) : q_Ct l (d + 0) mX6_mostUrgent [.ref x0] h mc ms Q QX := by
  refine q_body (by decide ) (by intro v hm; simp only [List.mem_cons, List.not_mem_nil, or_false] at hm; subst hm; rfl) (Nat.le_of_ble_eq_true rfl) ?_
  refine j_pad 2 rfl ?_
  refine j_iconst (v := (0 : Int32)) dX6_mostUrgent_0 (by decide) ?_
  refine j_istore_n dX6_mostUrgent_1 rfl (by decide) rfl rfl ?_
  refine j_iconst (v := (1 : Int32)) dX6_mostUrgent_2 (by decide) ?_
  refine j_istore_n dX6_mostUrgent_3 rfl (by decide) rfl rfl ?_
  exact hv
set_option maxRecDepth 20000 in
set_option maxHeartbeats 4000000 in
theorem v_X6_finishPiece_45 {l : Launch} {d mc ms n0 kc ks : Nat} {Q : Option Value → qH → Prop} {QX : String → qH → Prop} (x0 : Nat) (x1 : Int32) (x2 : Int32) (x3 : Int32) {h : qH} (hv : qGI h x0 6 9 (fun z1 => qIF (z1 ≤ (x3 + (1 : Int32))) (qGI h x0 6 9 (fun z2 => qPI h x0 6 9 (z2 - (1 : Int32)) (fun h3 => Q none h3))) (qIF ((133 : Int32) ≤ (x3 + (1 : Int32))) (qGI h x0 6 9 (fun z4 => qPI h x0 6 9 (z4 - (1 : Int32)) (fun h5 => Q none h5))) (qGR h x0 6 10 (fun r6 => qGR h x0 6 10 (fun r7 => qAL h r7 (x3 + (1 : Int32)) (fun z8 => qAS h r6 x3 z8 (fun h9 => qGR h9 x0 6 11 (fun r10 => qGR h9 x0 6 11 (fun r11 => qAL h9 r11 (x3 + (1 : Int32)) (fun z12 => qAS h9 r10 x3 z12 (fun h13 => qGR h13 x0 6 12 (fun r14 => qGR h13 x0 6 12 (fun r15 => qAL h13 r15 (x3 + (1 : Int32)) (fun z16 => qAS h13 r14 x3 z16 (fun h17 => qGR h17 x0 6 13 (fun r18 => qGR h17 x0 6 13 (fun r19 => qAL h17 r19 (x3 + (1 : Int32)) (fun z20 => qAS h17 r18 x3 z20 (fun h21 => q_J l (d + 1) mX6_finishPiece mc ms Q QX n0 45 [some (.ref x0), some (.int x1), some (.int x2), some (.int (x3 + (1 : Int32)))] [] h21 kc ks)))))))))))))))))))) : q_J l (d + 1) mX6_finishPiece mc ms Q QX n0 45 [some (.ref x0), some (.int x1), some (.int x2), some (.int x3)] [] h kc ks := by
  refine j_iload_n dX6_finishPiece_45 rfl rfl ?_
  refine j_iconst (v := (1 : Int32)) dX6_finishPiece_46 (by decide) ?_
  refine j_iadd dX6_finishPiece_47 ?_
  refine j_aload_n dX6_finishPiece_48 rfl rfl ?_
  obtain ⟨fs, z1, e1, e2, hv⟩ := hv
  refine j_getf (k := 9) cl_X6 (by decide) w_f_X6_56 dX6_finishPiece_49 e1 e2 ?_
  refine j_icmp_ge (tgt := 126) dX6_finishPiece_52 (by decide) (fun hc => ?_) (fun hc => ?_)
  · replace hv := hv.1 hc
    refine j_aload_n dX6_finishPiece_126 rfl rfl ?_
    refine j_dup dX6_finishPiece_127 rfl ?_
    obtain ⟨fs, z2, e1, e2, hv⟩ := hv
    refine j_getf (k := 9) cl_X6 (by decide) w_f_X6_56 dX6_finishPiece_128 e1 e2 ?_
    refine j_iconst (v := (1 : Int32)) dX6_finishPiece_131 (by decide) ?_
    refine j_isub dX6_finishPiece_132 ?_
    obtain ⟨fs, e1, e2, hv⟩ := hv
    refine j_put (k := 9) (ty0 := tyX6) cl_X6 (pf_X6_9) w_f_X6_56 dX6_finishPiece_133 (fun g ad => q_nI g ad _) e1 e2 ?_
    generalize q_set h x0 _ = h3 at hv ⊢
    exact j_vret dX6_finishPiece_136 rfl hv
  · replace hv := hv.2 hc
    refine j_iload_n dX6_finishPiece_55 rfl rfl ?_
    refine j_iconst (v := (1 : Int32)) dX6_finishPiece_56 (by decide) ?_
    refine j_iadd dX6_finishPiece_57 ?_
    refine j_sipush (v := (133 : Int32)) dX6_finishPiece_58 (by decide) ?_
    refine j_icmp_ge (tgt := 126) dX6_finishPiece_61 (by decide) (fun hc => ?_) (fun hc => ?_)
    · replace hv := hv.1 hc
      refine j_aload_n dX6_finishPiece_126 rfl rfl ?_
      refine j_dup dX6_finishPiece_127 rfl ?_
      obtain ⟨fs, z4, e1, e2, hv⟩ := hv
      refine j_getf (k := 9) cl_X6 (by decide) w_f_X6_56 dX6_finishPiece_128 e1 e2 ?_
      refine j_iconst (v := (1 : Int32)) dX6_finishPiece_131 (by decide) ?_
      refine j_isub dX6_finishPiece_132 ?_
      obtain ⟨fs, e1, e2, hv⟩ := hv
      refine j_put (k := 9) (ty0 := tyX6) cl_X6 (pf_X6_9) w_f_X6_56 dX6_finishPiece_133 (fun g ad => q_nI g ad _) e1 e2 ?_
      generalize q_set h x0 _ = h5 at hv ⊢
      exact j_vret dX6_finishPiece_136 rfl hv
    · replace hv := hv.2 hc
      refine j_aload_n dX6_finishPiece_64 rfl rfl ?_
      obtain ⟨fs, r6, e1, e2, hv⟩ := hv
      refine j_getf (k := 10) cl_X6 (by decide) w_f_X6_21 dX6_finishPiece_65 e1 e2 ?_
      refine j_iload_n dX6_finishPiece_68 rfl rfl ?_
      refine j_aload_n dX6_finishPiece_69 rfl rfl ?_
      obtain ⟨fs, r7, e1, e2, hv⟩ := hv
      refine j_getf (k := 10) cl_X6 (by decide) w_f_X6_21 dX6_finishPiece_70 e1 e2 ?_
      refine j_iload_n dX6_finishPiece_73 rfl rfl ?_
      refine j_iconst (v := (1 : Int32)) dX6_finishPiece_74 (by decide) ?_
      refine j_iadd dX6_finishPiece_75 ?_
      obtain ⟨N, f, e1, e2, hv⟩ := hv
      refine j_iald dX6_finishPiece_76 e1 e2 ?_
      generalize f _ = z8 at hv ⊢
      obtain ⟨N, f, e1, e2, hv⟩ := hv
      refine j_iast dX6_finishPiece_77 e1 e2 ?_
      generalize q_set h r6 _ = h9 at hv ⊢
      refine j_aload_n dX6_finishPiece_78 rfl rfl ?_
      obtain ⟨fs, r10, e1, e2, hv⟩ := hv
      refine j_getf (k := 11) cl_X6 (by decide) w_f_X6_25 dX6_finishPiece_79 e1 e2 ?_
      refine j_iload_n dX6_finishPiece_82 rfl rfl ?_
      refine j_aload_n dX6_finishPiece_83 rfl rfl ?_
      obtain ⟨fs, r11, e1, e2, hv⟩ := hv
      refine j_getf (k := 11) cl_X6 (by decide) w_f_X6_25 dX6_finishPiece_84 e1 e2 ?_
      refine j_iload_n dX6_finishPiece_87 rfl rfl ?_
      refine j_iconst (v := (1 : Int32)) dX6_finishPiece_88 (by decide) ?_
      refine j_iadd dX6_finishPiece_89 ?_
      obtain ⟨N, f, e1, e2, hv⟩ := hv
      refine j_iald dX6_finishPiece_90 e1 e2 ?_
      generalize f _ = z12 at hv ⊢
      obtain ⟨N, f, e1, e2, hv⟩ := hv
      refine j_iast dX6_finishPiece_91 e1 e2 ?_
      generalize q_set h9 r10 _ = h13 at hv ⊢
      refine j_aload_n dX6_finishPiece_92 rfl rfl ?_
      obtain ⟨fs, r14, e1, e2, hv⟩ := hv
      refine j_getf (k := 12) cl_X6 (by decide) w_f_X6_28 dX6_finishPiece_93 e1 e2 ?_
      refine j_iload_n dX6_finishPiece_96 rfl rfl ?_
      refine j_aload_n dX6_finishPiece_97 rfl rfl ?_
      obtain ⟨fs, r15, e1, e2, hv⟩ := hv
      refine j_getf (k := 12) cl_X6 (by decide) w_f_X6_28 dX6_finishPiece_98 e1 e2 ?_
      refine j_iload_n dX6_finishPiece_101 rfl rfl ?_
      refine j_iconst (v := (1 : Int32)) dX6_finishPiece_102 (by decide) ?_
      refine j_iadd dX6_finishPiece_103 ?_
      obtain ⟨N, f, e1, e2, hv⟩ := hv
      refine j_iald dX6_finishPiece_104 e1 e2 ?_
      generalize f _ = z16 at hv ⊢
      obtain ⟨N, f, e1, e2, hv⟩ := hv
      refine j_iast dX6_finishPiece_105 e1 e2 ?_
      generalize q_set h13 r14 _ = h17 at hv ⊢
      refine j_aload_n dX6_finishPiece_106 rfl rfl ?_
      obtain ⟨fs, r18, e1, e2, hv⟩ := hv
      refine j_getf (k := 13) cl_X6 (by decide) w_f_X6_31 dX6_finishPiece_107 e1 e2 ?_
      refine j_iload_n dX6_finishPiece_110 rfl rfl ?_
      refine j_aload_n dX6_finishPiece_111 rfl rfl ?_
      obtain ⟨fs, r19, e1, e2, hv⟩ := hv
      refine j_getf (k := 13) cl_X6 (by decide) w_f_X6_31 dX6_finishPiece_112 e1 e2 ?_
      refine j_iload_n dX6_finishPiece_115 rfl rfl ?_
      refine j_iconst (v := (1 : Int32)) dX6_finishPiece_116 (by decide) ?_
      refine j_iadd dX6_finishPiece_117 ?_
      obtain ⟨N, f, e1, e2, hv⟩ := hv
      refine j_iald dX6_finishPiece_118 e1 e2 ?_
      generalize f _ = z20 at hv ⊢
      obtain ⟨N, f, e1, e2, hv⟩ := hv
      refine j_iast dX6_finishPiece_119 e1 e2 ?_
      generalize q_set h17 r18 _ = h21 at hv ⊢
      refine j_iinc (w := (x3 + (1 : Int32))) dX6_finishPiece_120 rfl (by rfl) (by decide) rfl rfl ?_
      refine j_goto (tgt := 45) dX6_finishPiece_123 (by decide) ?_
      exact hv
set_option maxRecDepth 20000 in
set_option maxHeartbeats 4000000 in
theorem v_X6_finishPiece {l : Launch} {d mc ms : Nat} {Q : Option Value → qH → Prop} {QX : String → qH → Prop} (x0 : Nat) (x1 : Int32) {h : qH} (hv : qOB h x0 6 (qCI l (d + 0) mX6_hasPiece [.ref x0, .int x1] h 0 0 (fun z2 h1 => qIF (z2 = 0) (Q none h1) (qGR h1 x0 6 10 (fun r3 => qAL h1 r3 x1 (fun z4 => qIF (z4 < 0) (q_J l (d + 1) mX6_finishPiece mc ms Q QX h.2 45 [some (.ref x0), some (.int x1), some (.int z4), some (.int x1)] [] h1 mc ms) (qIF ((12 : Int32) ≤ z4) (q_J l (d + 1) mX6_finishPiece mc ms Q QX h.2 45 [some (.ref x0), some (.int x1), some (.int z4), some (.int x1)] [] h1 mc ms) (qGR h1 x0 6 14 (fun r5 => qAL h1 r5 z4 (fun z6 => qGR h1 x0 6 13 (fun r7 => qAL h1 r7 x1 (fun z8 => qAS h1 r5 z4 (z6 ||| ((1 : Int32) <<< (z8 &&& 31))) (fun h9 => q_J l (d + 1) mX6_finishPiece mc ms Q QX h.2 45 [some (.ref x0), some (.int x1), some (.int z4), some (.int x1)] [] h9 mc ms))))))))))))) : q_Ct l (d + 1) mX6_finishPiece [.ref x0, .int x1] h mc ms Q QX := by
  refine q_body (by decide ) (by intro v hm; simp only [List.mem_cons, List.not_mem_nil, or_false] at hm; rcases hm with rfl | rfl <;> rfl) (Nat.le_of_ble_eq_true rfl) ?_
  refine j_pad 2 rfl ?_
  refine j_aload_n dX6_finishPiece_0 rfl rfl ?_
  refine j_iload_n dX6_finishPiece_1 rfl rfl ?_
  obtain ⟨⟨fs, e1⟩, hv⟩ := hv
  refine j_virtual (avs := [.int x1]) (rest := []) (i := x0) (kc' := mc) (ks' := ms) dX6_finishPiece_2 mt_X6_hasPiece w_m_X6_69 w_in_X6_hasPiece w_se_X6_hasPiece rfl rfl (Nat.le_of_ble_eq_true rfl) (Nat.le_refl _) (by omega) (by omega) cl_X6.1 e1 hv (fun _ _ q9 => q9) ?_
  rintro _ h1 ⟨z2, rfl, hv⟩ -
  refine j_if_ne (tgt := 9) dX6_finishPiece_5 (by decide) (fun hc => ?_) (fun hc => ?_)
  · replace hv := hv.2 hc
    refine j_aload_n dX6_finishPiece_9 rfl rfl ?_
    obtain ⟨fs, r3, e1, e2, hv⟩ := hv
    refine j_getf (k := 10) cl_X6 (by decide) w_f_X6_21 dX6_finishPiece_10 e1 e2 ?_
    refine j_iload_n dX6_finishPiece_13 rfl rfl ?_
    obtain ⟨N, f, e1, e2, hv⟩ := hv
    refine j_iald dX6_finishPiece_14 e1 e2 ?_
    generalize f _ = z4 at hv ⊢
    refine j_istore_n dX6_finishPiece_15 rfl (by decide) rfl rfl ?_
    refine j_iload_n dX6_finishPiece_16 rfl rfl ?_
    refine j_if_lt (tgt := 43) dX6_finishPiece_17 (by decide) (fun hc => ?_) (fun hc => ?_)
    · replace hv := hv.1 hc
      refine j_iload_n dX6_finishPiece_43 rfl rfl ?_
      refine j_istore_n dX6_finishPiece_44 rfl (by decide) rfl rfl ?_
      exact hv
    · replace hv := hv.2 hc
      refine j_iload_n dX6_finishPiece_20 rfl rfl ?_
      refine j_bipush (v := (12 : Int32)) dX6_finishPiece_21 (by decide) ?_
      refine j_icmp_ge (tgt := 43) dX6_finishPiece_23 (by decide) (fun hc => ?_) (fun hc => ?_)
      · replace hv := hv.1 hc
        refine j_iload_n dX6_finishPiece_43 rfl rfl ?_
        refine j_istore_n dX6_finishPiece_44 rfl (by decide) rfl rfl ?_
        exact hv
      · replace hv := hv.2 hc
        refine j_aload_n dX6_finishPiece_26 rfl rfl ?_
        obtain ⟨fs, r5, e1, e2, hv⟩ := hv
        refine j_getf (k := 14) cl_X6 (by decide) w_f_X6_34 dX6_finishPiece_27 e1 e2 ?_
        refine j_iload_n dX6_finishPiece_30 rfl rfl ?_
        refine j_dup2 dX6_finishPiece_31 rfl rfl ?_
        obtain ⟨N, f, e1, e2, hv⟩ := hv
        refine j_iald dX6_finishPiece_32 e1 e2 ?_
        generalize f _ = z6 at hv ⊢
        refine j_iconst (v := (1 : Int32)) dX6_finishPiece_33 (by decide) ?_
        refine j_aload_n dX6_finishPiece_34 rfl rfl ?_
        obtain ⟨fs, r7, e1, e2, hv⟩ := hv
        refine j_getf (k := 13) cl_X6 (by decide) w_f_X6_31 dX6_finishPiece_35 e1 e2 ?_
        refine j_iload_n dX6_finishPiece_38 rfl rfl ?_
        obtain ⟨N, f, e1, e2, hv⟩ := hv
        refine j_iald dX6_finishPiece_39 e1 e2 ?_
        generalize f _ = z8 at hv ⊢
        refine j_ishl dX6_finishPiece_40 ?_
        refine j_ior dX6_finishPiece_41 ?_
        obtain ⟨N, f, e1, e2, hv⟩ := hv
        refine j_iast dX6_finishPiece_42 e1 e2 ?_
        generalize q_set h1 r5 _ = h9 at hv ⊢
        refine j_iload_n dX6_finishPiece_43 rfl rfl ?_
        refine j_istore_n dX6_finishPiece_44 rfl (by decide) rfl rfl ?_
        exact hv
  · replace hv := hv.1 hc
    exact j_vret dX6_finishPiece_8 rfl hv
set_option maxRecDepth 20000 in
set_option maxHeartbeats 4000000 in
theorem v_X7_isFull {l : Launch} {d mc ms : Nat} {Q : Option Value → qH → Prop} {QX : String → qH → Prop} (x0 : Nat) {h : qH} (hv : qGI h x0 7 4 (fun z1 => qIF (z1 < (12 : Int32)) (Q (some (.int (0 : Int32))) h) (Q (some (.int (1 : Int32))) h))) : q_Ct l (d + 0) mX7_isFull [.ref x0] h mc ms Q QX := by
  refine q_body (by decide ) (by intro v hm; simp only [List.mem_cons, List.not_mem_nil, or_false] at hm; subst hm; rfl) (Nat.le_of_ble_eq_true rfl) ?_
  refine j_pad 0 rfl ?_
  refine j_aload_n dX7_isFull_0 rfl rfl ?_
  obtain ⟨fs, z1, e1, e2, hv⟩ := hv
  refine j_getf (k := 4) cl_X7 (by decide) w_f_X7_24 dX7_isFull_1 e1 e2 ?_
  refine j_bipush (v := (12 : Int32)) dX7_isFull_4 (by decide) ?_
  refine j_icmp_lt (tgt := 13) dX7_isFull_6 (by decide) (fun hc => ?_) (fun hc => ?_)
  · replace hv := hv.1 hc
    refine j_iconst (v := (0 : Int32)) dX7_isFull_13 (by decide) ?_
    exact j_zret dX7_isFull_14 rfl (by decide) hv
  · replace hv := hv.2 hc
    refine j_iconst (v := (1 : Int32)) dX7_isFull_9 (by decide) ?_
    refine j_goto (tgt := 14) dX7_isFull_10 (by decide) ?_
    exact j_zret dX7_isFull_14 rfl (by decide) hv
set_option maxRecDepth 20000 in
set_option maxHeartbeats 4000000 in
theorem v_X7_has {l : Launch} {d mc ms : Nat} {Q : Option Value → qH → Prop} {QX : String → qH → Prop} (x0 : Nat) (x1 : Int32) {h : qH} (hv : qIF (x1 < 0) (Q (some (.int (0 : Int32))) h) (qGI h x0 7 4 (fun z1 => qIF (z1 ≤ x1) (Q (some (.int (0 : Int32))) h) (qIF ((12 : Int32) ≤ x1) (Q (some (.int (0 : Int32))) h) (Q (some (.int (1 : Int32))) h))))) : q_Ct l (d + 0) mX7_has [.ref x0, .int x1] h mc ms Q QX := by
  refine q_body (by decide ) (by intro v hm; simp only [List.mem_cons, List.not_mem_nil, or_false] at hm; rcases hm with rfl | rfl <;> rfl) (Nat.le_of_ble_eq_true rfl) ?_
  refine j_pad 0 rfl ?_
  refine j_iload_n dX7_has_0 rfl rfl ?_
  refine j_if_lt (tgt := 22) dX7_has_1 (by decide) (fun hc => ?_) (fun hc => ?_)
  · replace hv := hv.1 hc
    refine j_iconst (v := (0 : Int32)) dX7_has_22 (by decide) ?_
    exact j_zret dX7_has_23 rfl (by decide) hv
  · replace hv := hv.2 hc
    refine j_iload_n dX7_has_4 rfl rfl ?_
    refine j_aload_n dX7_has_5 rfl rfl ?_
    obtain ⟨fs, z1, e1, e2, hv⟩ := hv
    refine j_getf (k := 4) cl_X7 (by decide) w_f_X7_24 dX7_has_6 e1 e2 ?_
    refine j_icmp_ge (tgt := 22) dX7_has_9 (by decide) (fun hc => ?_) (fun hc => ?_)
    · replace hv := hv.1 hc
      refine j_iconst (v := (0 : Int32)) dX7_has_22 (by decide) ?_
      exact j_zret dX7_has_23 rfl (by decide) hv
    · replace hv := hv.2 hc
      refine j_iload_n dX7_has_12 rfl rfl ?_
      refine j_bipush (v := (12 : Int32)) dX7_has_13 (by decide) ?_
      refine j_icmp_ge (tgt := 22) dX7_has_15 (by decide) (fun hc => ?_) (fun hc => ?_)
      · replace hv := hv.1 hc
        refine j_iconst (v := (0 : Int32)) dX7_has_22 (by decide) ?_
        exact j_zret dX7_has_23 rfl (by decide) hv
      · replace hv := hv.2 hc
        refine j_iconst (v := (1 : Int32)) dX7_has_18 (by decide) ?_
        refine j_goto (tgt := 23) dX7_has_19 (by decide) ?_
        exact j_zret dX7_has_23 rfl (by decide) hv
set_option maxRecDepth 20000 in
set_option maxHeartbeats 4000000 in
theorem v_X7_append {l : Launch} {d mc ms : Nat} {Q : Option Value → qH → Prop} {QX : String → qH → Prop} (x0 : Nat) (x1 : Int32) (x2 : Int32) (x3 : Int32) (x4 : Int32) {h : qH} (hv : qOB h x0 7 (qCI l (d + 0) mX7_isFull [.ref x0] h 0 0 (fun z2 h1 => qIF (z2 = 0) (qGI h1 x0 7 4 (fun z3 => qIF (0 ≤ z3) (qGR h1 x0 7 0 (fun r4 => qGI h1 x0 7 4 (fun z5 => qAS h1 r4 z5 x1 (fun h6 => qGR h6 x0 7 1 (fun r7 => qGI h6 x0 7 4 (fun z8 => qAS h6 r7 z8 x2 (fun h9 => qGR h9 x0 7 2 (fun r10 => qGI h9 x0 7 4 (fun z11 => qAS h9 r10 z11 x3 (fun h12 => qGR h12 x0 7 3 (fun r13 => qGI h12 x0 7 4 (fun z14 => qAS h12 r13 z14 x4 (fun h15 => qGI h15 x0 7 4 (fun z16 => qPI h15 x0 7 4 (z16 + (1 : Int32)) (fun h17 => qGI h17 x0 7 4 (fun z18 => Q (some (.int (z18 - (1 : Int32)))) h17)))))))))))))))) (Q (some (.int (-1 : Int32))) h1))) (Q (some (.int (-1 : Int32))) h1)))) : q_Ct l (d + 1) mX7_append [.ref x0, .int x1, .int x2, .int x3, .int x4] h mc ms Q QX := by
  refine q_body (by decide ) (by intro v hm; simp only [List.mem_cons, List.not_mem_nil, or_false] at hm; rcases hm with rfl | rfl | rfl | rfl | rfl <;> rfl) (Nat.le_of_ble_eq_true rfl) ?_
  refine j_pad 0 rfl ?_
  refine j_aload_n dX7_append_0 rfl rfl ?_
  obtain ⟨⟨fs, e1⟩, hv⟩ := hv
  refine j_virtual (avs := []) (rest := []) (i := x0) (kc' := mc) (ks' := ms) dX7_append_1 mt_X7_isFull w_m_X7_28 w_in_X7_isFull w_se_X7_isFull rfl rfl (Nat.le_of_ble_eq_true rfl) (Nat.le_refl _) (by omega) (by omega) cl_X7.1 e1 hv (fun _ _ q9 => q9) ?_
  rintro _ h1 ⟨z2, rfl, hv⟩ -
  refine j_if_ne (tgt := 14) dX7_append_4 (by decide) (fun hc => ?_) (fun hc => ?_)
  · replace hv := hv.2 hc
    refine j_iconst (v := (-1 : Int32)) dX7_append_14 (by decide) ?_
    exact j_iret dX7_append_15 rfl hv
  · replace hv := hv.1 hc
    refine j_aload_n dX7_append_7 rfl rfl ?_
    obtain ⟨fs, z3, e1, e2, hv⟩ := hv
    refine j_getf (k := 4) cl_X7 (by decide) w_f_X7_24 dX7_append_8 e1 e2 ?_
    refine j_if_ge (tgt := 16) dX7_append_11 (by decide) (fun hc => ?_) (fun hc => ?_)
    · replace hv := hv.1 hc
      refine j_aload_n dX7_append_16 rfl rfl ?_
      obtain ⟨fs, r4, e1, e2, hv⟩ := hv
      refine j_getf (k := 0) cl_X7 (by decide) w_f_X7_9 dX7_append_17 e1 e2 ?_
      refine j_aload_n dX7_append_20 rfl rfl ?_
      obtain ⟨fs, z5, e1, e2, hv⟩ := hv
      refine j_getf (k := 4) cl_X7 (by decide) w_f_X7_24 dX7_append_21 e1 e2 ?_
      refine j_iload_n dX7_append_24 rfl rfl ?_
      obtain ⟨N, f, e1, e2, hv⟩ := hv
      refine j_iast dX7_append_25 e1 e2 ?_
      generalize q_set h1 r4 _ = h6 at hv ⊢
      refine j_aload_n dX7_append_26 rfl rfl ?_
      obtain ⟨fs, r7, e1, e2, hv⟩ := hv
      refine j_getf (k := 1) cl_X7 (by decide) w_f_X7_15 dX7_append_27 e1 e2 ?_
      refine j_aload_n dX7_append_30 rfl rfl ?_
      obtain ⟨fs, z8, e1, e2, hv⟩ := hv
      refine j_getf (k := 4) cl_X7 (by decide) w_f_X7_24 dX7_append_31 e1 e2 ?_
      refine j_iload_n dX7_append_34 rfl rfl ?_
      obtain ⟨N, f, e1, e2, hv⟩ := hv
      refine j_iast dX7_append_35 e1 e2 ?_
      generalize q_set h6 r7 _ = h9 at hv ⊢
      refine j_aload_n dX7_append_36 rfl rfl ?_
      obtain ⟨fs, r10, e1, e2, hv⟩ := hv
      refine j_getf (k := 2) cl_X7 (by decide) w_f_X7_18 dX7_append_37 e1 e2 ?_
      refine j_aload_n dX7_append_40 rfl rfl ?_
      obtain ⟨fs, z11, e1, e2, hv⟩ := hv
      refine j_getf (k := 4) cl_X7 (by decide) w_f_X7_24 dX7_append_41 e1 e2 ?_
      refine j_iload_n dX7_append_44 rfl rfl ?_
      obtain ⟨N, f, e1, e2, hv⟩ := hv
      refine j_iast dX7_append_45 e1 e2 ?_
      generalize q_set h9 r10 _ = h12 at hv ⊢
      refine j_aload_n dX7_append_46 rfl rfl ?_
      obtain ⟨fs, r13, e1, e2, hv⟩ := hv
      refine j_getf (k := 3) cl_X7 (by decide) w_f_X7_21 dX7_append_47 e1 e2 ?_
      refine j_aload_n dX7_append_50 rfl rfl ?_
      obtain ⟨fs, z14, e1, e2, hv⟩ := hv
      refine j_getf (k := 4) cl_X7 (by decide) w_f_X7_24 dX7_append_51 e1 e2 ?_
      refine j_iload dX7_append_54 rfl ?_
      obtain ⟨N, f, e1, e2, hv⟩ := hv
      refine j_iast dX7_append_56 e1 e2 ?_
      generalize q_set h12 r13 _ = h15 at hv ⊢
      refine j_aload_n dX7_append_57 rfl rfl ?_
      refine j_dup dX7_append_58 rfl ?_
      obtain ⟨fs, z16, e1, e2, hv⟩ := hv
      refine j_getf (k := 4) cl_X7 (by decide) w_f_X7_24 dX7_append_59 e1 e2 ?_
      refine j_iconst (v := (1 : Int32)) dX7_append_62 (by decide) ?_
      refine j_iadd dX7_append_63 ?_
      obtain ⟨fs, e1, e2, hv⟩ := hv
      refine j_put (k := 4) (ty0 := tyX7) cl_X7 (pf_X7_4) w_f_X7_24 dX7_append_64 (fun g ad => q_nI g ad _) e1 e2 ?_
      generalize q_set h15 x0 _ = h17 at hv ⊢
      refine j_aload_n dX7_append_67 rfl rfl ?_
      obtain ⟨fs, z18, e1, e2, hv⟩ := hv
      refine j_getf (k := 4) cl_X7 (by decide) w_f_X7_24 dX7_append_68 e1 e2 ?_
      refine j_iconst (v := (1 : Int32)) dX7_append_71 (by decide) ?_
      refine j_isub dX7_append_72 ?_
      exact j_iret dX7_append_73 rfl hv
    · replace hv := hv.2 hc
      refine j_iconst (v := (-1 : Int32)) dX7_append_14 (by decide) ?_
      exact j_iret dX7_append_15 rfl hv
set_option maxRecDepth 20000 in
set_option maxHeartbeats 4000000 in
theorem v_X7_xOf {l : Launch} {d mc ms : Nat} {Q : Option Value → qH → Prop} {QX : String → qH → Prop} (x0 : Nat) (x1 : Int32) {h : qH} (hv : qOB h x0 7 (qCI l (d + 0) mX7_has [.ref x0, .int x1] h 0 0 (fun z2 h1 => qIF (z2 = 0) (Q (some (.int (-1 : Int32))) h1) (qGR h1 x0 7 0 (fun r3 => qAL h1 r3 x1 (fun z4 => Q (some (.int z4)) h1)))))) : q_Ct l (d + 1) mX7_xOf [.ref x0, .int x1] h mc ms Q QX := by
  refine q_body (by decide ) (by intro v hm; simp only [List.mem_cons, List.not_mem_nil, or_false] at hm; rcases hm with rfl | rfl <;> rfl) (Nat.le_of_ble_eq_true rfl) ?_
  refine j_pad 0 rfl ?_
  refine j_aload_n dX7_xOf_0 rfl rfl ?_
  refine j_iload_n dX7_xOf_1 rfl rfl ?_
  obtain ⟨⟨fs, e1⟩, hv⟩ := hv
  refine j_virtual (avs := [.int x1]) (rest := []) (i := x0) (kc' := mc) (ks' := ms) dX7_xOf_2 mt_X7_has w_m_X7_32 w_in_X7_has w_se_X7_has rfl rfl (Nat.le_of_ble_eq_true rfl) (Nat.le_refl _) (by omega) (by omega) cl_X7.1 e1 hv (fun _ _ q9 => q9) ?_
  rintro _ h1 ⟨z2, rfl, hv⟩ -
  refine j_if_eq (tgt := 17) dX7_xOf_5 (by decide) (fun hc => ?_) (fun hc => ?_)
  · replace hv := hv.1 hc
    refine j_iconst (v := (-1 : Int32)) dX7_xOf_17 (by decide) ?_
    exact j_iret dX7_xOf_18 rfl hv
  · replace hv := hv.2 hc
    refine j_aload_n dX7_xOf_8 rfl rfl ?_
    obtain ⟨fs, r3, e1, e2, hv⟩ := hv
    refine j_getf (k := 0) cl_X7 (by decide) w_f_X7_9 dX7_xOf_9 e1 e2 ?_
    refine j_iload_n dX7_xOf_12 rfl rfl ?_
    obtain ⟨N, f, e1, e2, hv⟩ := hv
    refine j_iald dX7_xOf_13 e1 e2 ?_
    generalize f _ = z4 at hv ⊢
    refine j_goto (tgt := 18) dX7_xOf_14 (by decide) ?_
    exact j_iret dX7_xOf_18 rfl hv
set_option maxRecDepth 20000 in
set_option maxHeartbeats 4000000 in
theorem v_X7_yOf {l : Launch} {d mc ms : Nat} {Q : Option Value → qH → Prop} {QX : String → qH → Prop} (x0 : Nat) (x1 : Int32) {h : qH} (hv : qOB h x0 7 (qCI l (d + 0) mX7_has [.ref x0, .int x1] h 0 0 (fun z2 h1 => qIF (z2 = 0) (Q (some (.int (-1 : Int32))) h1) (qGR h1 x0 7 1 (fun r3 => qAL h1 r3 x1 (fun z4 => Q (some (.int z4)) h1)))))) : q_Ct l (d + 1) mX7_yOf [.ref x0, .int x1] h mc ms Q QX := by
  refine q_body (by decide ) (by intro v hm; simp only [List.mem_cons, List.not_mem_nil, or_false] at hm; rcases hm with rfl | rfl <;> rfl) (Nat.le_of_ble_eq_true rfl) ?_
  refine j_pad 0 rfl ?_
  refine j_aload_n dX7_yOf_0 rfl rfl ?_
  refine j_iload_n dX7_yOf_1 rfl rfl ?_
  obtain ⟨⟨fs, e1⟩, hv⟩ := hv
  refine j_virtual (avs := [.int x1]) (rest := []) (i := x0) (kc' := mc) (ks' := ms) dX7_yOf_2 mt_X7_has w_m_X7_32 w_in_X7_has w_se_X7_has rfl rfl (Nat.le_of_ble_eq_true rfl) (Nat.le_refl _) (by omega) (by omega) cl_X7.1 e1 hv (fun _ _ q9 => q9) ?_
  rintro _ h1 ⟨z2, rfl, hv⟩ -
  refine j_if_eq (tgt := 17) dX7_yOf_5 (by decide) (fun hc => ?_) (fun hc => ?_)
  · replace hv := hv.1 hc
    refine j_iconst (v := (-1 : Int32)) dX7_yOf_17 (by decide) ?_
    exact j_iret dX7_yOf_18 rfl hv
  · replace hv := hv.2 hc
    refine j_aload_n dX7_yOf_8 rfl rfl ?_
    obtain ⟨fs, r3, e1, e2, hv⟩ := hv
    refine j_getf (k := 1) cl_X7 (by decide) w_f_X7_15 dX7_yOf_9 e1 e2 ?_
    refine j_iload_n dX7_yOf_12 rfl rfl ?_
    obtain ⟨N, f, e1, e2, hv⟩ := hv
    refine j_iald dX7_yOf_13 e1 e2 ?_
    generalize f _ = z4 at hv ⊢
    refine j_goto (tgt := 18) dX7_yOf_14 (by decide) ?_
    exact j_iret dX7_yOf_18 rfl hv
set_option maxRecDepth 20000 in
set_option maxHeartbeats 4000000 in
theorem v_X7_valueOf {l : Launch} {d mc ms : Nat} {Q : Option Value → qH → Prop} {QX : String → qH → Prop} (x0 : Nat) (x1 : Int32) {h : qH} (hv : qOB h x0 7 (qCI l (d + 0) mX7_has [.ref x0, .int x1] h 0 0 (fun z2 h1 => qIF (z2 = 0) (Q (some (.int (0 : Int32))) h1) (qGR h1 x0 7 2 (fun r3 => qAL h1 r3 x1 (fun z4 => Q (some (.int z4)) h1)))))) : q_Ct l (d + 1) mX7_valueOf [.ref x0, .int x1] h mc ms Q QX := by
  refine q_body (by decide ) (by intro v hm; simp only [List.mem_cons, List.not_mem_nil, or_false] at hm; rcases hm with rfl | rfl <;> rfl) (Nat.le_of_ble_eq_true rfl) ?_
  refine j_pad 0 rfl ?_
  refine j_aload_n dX7_valueOf_0 rfl rfl ?_
  refine j_iload_n dX7_valueOf_1 rfl rfl ?_
  obtain ⟨⟨fs, e1⟩, hv⟩ := hv
  refine j_virtual (avs := [.int x1]) (rest := []) (i := x0) (kc' := mc) (ks' := ms) dX7_valueOf_2 mt_X7_has w_m_X7_32 w_in_X7_has w_se_X7_has rfl rfl (Nat.le_of_ble_eq_true rfl) (Nat.le_refl _) (by omega) (by omega) cl_X7.1 e1 hv (fun _ _ q9 => q9) ?_
  rintro _ h1 ⟨z2, rfl, hv⟩ -
  refine j_if_eq (tgt := 17) dX7_valueOf_5 (by decide) (fun hc => ?_) (fun hc => ?_)
  · replace hv := hv.1 hc
    refine j_iconst (v := (0 : Int32)) dX7_valueOf_17 (by decide) ?_
    exact j_iret dX7_valueOf_18 rfl hv
  · replace hv := hv.2 hc
    refine j_aload_n dX7_valueOf_8 rfl rfl ?_
    obtain ⟨fs, r3, e1, e2, hv⟩ := hv
    refine j_getf (k := 2) cl_X7 (by decide) w_f_X7_18 dX7_valueOf_9 e1 e2 ?_
    refine j_iload_n dX7_valueOf_12 rfl rfl ?_
    obtain ⟨N, f, e1, e2, hv⟩ := hv
    refine j_iald dX7_valueOf_13 e1 e2 ?_
    generalize f _ = z4 at hv ⊢
    refine j_goto (tgt := 18) dX7_valueOf_14 (by decide) ?_
    exact j_iret dX7_valueOf_18 rfl hv
set_option maxRecDepth 20000 in
set_option maxHeartbeats 4000000 in
theorem v_X7_needOf {l : Launch} {d mc ms : Nat} {Q : Option Value → qH → Prop} {QX : String → qH → Prop} (x0 : Nat) (x1 : Int32) {h : qH} (hv : qOB h x0 7 (qCI l (d + 0) mX7_has [.ref x0, .int x1] h 0 0 (fun z2 h1 => qIF (z2 = 0) (Q (some (.int (0 : Int32))) h1) (qGR h1 x0 7 3 (fun r3 => qAL h1 r3 x1 (fun z4 => Q (some (.int z4)) h1)))))) : q_Ct l (d + 1) mX7_needOf [.ref x0, .int x1] h mc ms Q QX := by
  refine q_body (by decide ) (by intro v hm; simp only [List.mem_cons, List.not_mem_nil, or_false] at hm; rcases hm with rfl | rfl <;> rfl) (Nat.le_of_ble_eq_true rfl) ?_
  refine j_pad 0 rfl ?_
  refine j_aload_n dX7_needOf_0 rfl rfl ?_
  refine j_iload_n dX7_needOf_1 rfl rfl ?_
  obtain ⟨⟨fs, e1⟩, hv⟩ := hv
  refine j_virtual (avs := [.int x1]) (rest := []) (i := x0) (kc' := mc) (ks' := ms) dX7_needOf_2 mt_X7_has w_m_X7_32 w_in_X7_has w_se_X7_has rfl rfl (Nat.le_of_ble_eq_true rfl) (Nat.le_refl _) (by omega) (by omega) cl_X7.1 e1 hv (fun _ _ q9 => q9) ?_
  rintro _ h1 ⟨z2, rfl, hv⟩ -
  refine j_if_eq (tgt := 17) dX7_needOf_5 (by decide) (fun hc => ?_) (fun hc => ?_)
  · replace hv := hv.1 hc
    refine j_iconst (v := (0 : Int32)) dX7_needOf_17 (by decide) ?_
    exact j_iret dX7_needOf_18 rfl hv
  · replace hv := hv.2 hc
    refine j_aload_n dX7_needOf_8 rfl rfl ?_
    obtain ⟨fs, r3, e1, e2, hv⟩ := hv
    refine j_getf (k := 3) cl_X7 (by decide) w_f_X7_21 dX7_needOf_9 e1 e2 ?_
    refine j_iload_n dX7_needOf_12 rfl rfl ?_
    obtain ⟨N, f, e1, e2, hv⟩ := hv
    refine j_iald dX7_needOf_13 e1 e2 ?_
    generalize f _ = z4 at hv ⊢
    refine j_goto (tgt := 18) dX7_needOf_14 (by decide) ?_
    exact j_iret dX7_needOf_18 rfl hv
set_option maxRecDepth 20000 in
set_option maxHeartbeats 4000000 in
theorem v_X7_isMet {l : Launch} {d mc ms : Nat} {Q : Option Value → qH → Prop} {QX : String → qH → Prop} (x0 : Nat) (x1 : Int32) (x2 : Int32) {h : qH} (hv : qOB h x0 7 (qCI l (d + 1) mX7_needOf [.ref x0, .int x1] h 0 0 (fun z2 h1 => qIF (z2 = (4 : Int32)) (qCI l (d + 1) mX7_hasTouch [.int x2] h1 0 0 (fun z6 h5 => qB z6 (Q (some (.int z6)) h5))) (qCI l (d + 1) mX7_octantsOf [.int x2] h1 0 0 (fun z4 h3 => qIF (z4 < z2) (Q (some (.int (0 : Int32))) h3) (Q (some (.int (1 : Int32))) h3)))))) : q_Ct l (d + 2) mX7_isMet [.ref x0, .int x1, .int x2] h mc ms Q QX := by
  refine q_body (by decide ) (by intro v hm; simp only [List.mem_cons, List.not_mem_nil, or_false] at hm; rcases hm with rfl | rfl | rfl <;> rfl) (Nat.le_of_ble_eq_true rfl) ?_
  refine j_pad 1 rfl ?_
  refine j_aload_n dX7_isMet_0 rfl rfl ?_
  refine j_iload_n dX7_isMet_1 rfl rfl ?_
  obtain ⟨⟨fs, e1⟩, hv⟩ := hv
  refine j_virtual (avs := [.int x1]) (rest := []) (i := x0) (kc' := mc) (ks' := ms) dX7_isMet_2 mt_X7_needOf w_m_X7_36 w_in_X7_needOf w_se_X7_needOf rfl rfl (Nat.le_of_ble_eq_true rfl) (Nat.le_refl _) (by omega) (by omega) cl_X7.1 e1 hv (fun _ _ q9 => q9) ?_
  rintro _ h1 ⟨z2, rfl, hv⟩ -
  refine j_istore_n dX7_isMet_5 rfl (by decide) rfl rfl ?_
  refine j_iload_n dX7_isMet_6 rfl rfl ?_
  refine j_iconst (v := (4 : Int32)) dX7_isMet_7 (by decide) ?_
  refine j_icmp_ne (tgt := 18) dX7_isMet_8 (by decide) (fun hc => ?_) (fun hc => ?_)
  · replace hv := hv.2 hc
    refine j_iload_n dX7_isMet_18 rfl rfl ?_
    refine j_static (avs := [.int x2]) (rest := []) (kc' := mc) (ks' := ms) dX7_isMet_19 mt_X7_octantsOf w_m_X7_43 w_st_X7_octantsOf rfl rfl (Nat.le_of_ble_eq_true rfl) (Nat.le_refl _) (by omega) (by omega) hv (fun _ _ q9 => q9) ?_
    rintro _ h3 ⟨z4, rfl, hv⟩ -
    refine j_iload_n dX7_isMet_22 rfl rfl ?_
    refine j_icmp_lt (tgt := 30) dX7_isMet_23 (by decide) (fun hc => ?_) (fun hc => ?_)
    · replace hv := hv.1 hc
      refine j_iconst (v := (0 : Int32)) dX7_isMet_30 (by decide) ?_
      exact j_zret dX7_isMet_31 rfl (by decide) hv
    · replace hv := hv.2 hc
      refine j_iconst (v := (1 : Int32)) dX7_isMet_26 (by decide) ?_
      refine j_goto (tgt := 31) dX7_isMet_27 (by decide) ?_
      exact j_zret dX7_isMet_31 rfl (by decide) hv
  · replace hv := hv.1 hc
    refine j_iload_n dX7_isMet_11 rfl rfl ?_
    refine j_static (avs := [.int x2]) (rest := []) (kc' := mc) (ks' := ms) dX7_isMet_12 mt_X7_hasTouch w_m_X7_40 w_st_X7_hasTouch rfl rfl (Nat.le_of_ble_eq_true rfl) (Nat.le_refl _) (by omega) (by omega) hv (fun _ _ q9 => q9) ?_
    rintro _ h5 ⟨z6, rfl, hv⟩ -
    refine j_goto (tgt := 31) dX7_isMet_15 (by decide) ?_
    exact j_zret dX7_isMet_31 rfl hv.1 hv.2
set_option maxRecDepth 20000 in
set_option maxHeartbeats 4000000 in
theorem v_X7_tell {l : Launch} {d mc ms : Nat} {Q : Option Value → qH → Prop} {QX : String → qH → Prop} (x0 : Nat) (x1 : Int32) (x2 : Int32) (x3 : Nat) {h : qH} (hv : qOB h x3 6 (qCI l (d + 2) mX6_signsSent [.ref x3, .int x1] h 0 0 (fun z2 h1 => qIF (x2 = (0 : Int32)) (qOB h1 x0 7 (qCI l (d + 2) mX7_valueOf [.ref x0, .int x1] h1 0 0 (fun z4 h3 => Q (some (.int z4)) h3))) (qIF (x2 = (1 : Int32)) (qOB h1 x0 7 (qCI l (d + 2) mX7_needOf [.ref x0, .int x1] h1 0 0 (fun z6 h5 => Q (some (.int z6)) h5))) (qIF (x2 = (2 : Int32)) (qCI l (d + 2) mX7_octantsOf [.int z2] h1 0 0 (fun z8 h7 => Q (some (.int z8)) h7)) (qIF (x2 = (3 : Int32)) (qOB h1 x3 6 (qCI l (d + 2) mX6_signsOfAll [.ref x3, .int x1] h1 0 0 (fun z10 h9 => qCI l (d + 2) mX7_octantsOf [.int z10] h9 0 0 (fun z12 h11 => Q (some (.int z12)) h11)))) (qIF (x2 = (4 : Int32)) (qCI l (d + 2) mX7_hasTouch [.int z2] h1 0 0 (fun z14 h13 => qIF (z14 = 0) (Q (some (.int (0 : Int32))) h13) (Q (some (.int (1 : Int32))) h13))) (qOB h1 x0 7 (qCI l (d + 2) mX7_isMet [.ref x0, .int x1, .int z2] h1 0 0 (fun z16 h15 => qIF (z16 = 0) (Q (some (.int (0 : Int32))) h15) (Q (some (.int (1 : Int32))) h15))))))))))) : q_Ct l (d + 3) mX7_tell [.ref x0, .int x1, .int x2, .ref x3] h mc ms Q QX := by
  refine q_body (by decide ) (by intro v hm; simp only [List.mem_cons, List.not_mem_nil, or_false] at hm; rcases hm with rfl | rfl | rfl | rfl <;> rfl) (Nat.le_of_ble_eq_true rfl) ?_
  refine j_pad 1 rfl ?_
  refine j_aload_n dX7_tell_0 rfl rfl ?_
  refine j_iload_n dX7_tell_1 rfl rfl ?_
  obtain ⟨⟨fs, e1⟩, hv⟩ := hv
  refine j_virtual (avs := [.int x1]) (rest := []) (i := x3) (kc' := mc) (ks' := ms) dX7_tell_2 mt_X6_signsSent w_m_X7_46 w_in_X6_signsSent w_se_X6_signsSent rfl rfl (Nat.le_of_ble_eq_true rfl) (Nat.le_refl _) (by omega) (by omega) cl_X6.1 e1 hv (fun _ _ q9 => q9) ?_
  rintro _ h1 ⟨z2, rfl, hv⟩ -
  refine j_istore dX7_tell_5 (by decide) rfl rfl ?_
  refine j_iload_n dX7_tell_7 rfl rfl ?_
  by_cases hc0 : x2 = (0 : Int32)
  · replace hv := hv.1 hc0
    refine j_tableIn (tgt := 44) (off := 36) dX7_tell_8 (by rw [hc0]; decide) (by rw [hc0]; decide) (by rw [hc0]; decide) (by decide) ?_
    refine j_aload_n dX7_tell_44 rfl rfl ?_
    refine j_iload_n dX7_tell_45 rfl rfl ?_
    obtain ⟨⟨fs, e1⟩, hv⟩ := hv
    refine j_virtual (avs := [.int x1]) (rest := []) (i := x0) (kc' := mc) (ks' := ms) dX7_tell_46 mt_X7_valueOf w_m_X7_51 w_in_X7_valueOf w_se_X7_valueOf rfl rfl (Nat.le_of_ble_eq_true rfl) (Nat.le_refl _) (by omega) (by omega) cl_X7.1 e1 hv (fun _ _ q9 => q9) ?_
    rintro _ h3 ⟨z4, rfl, hv⟩ -
    exact j_iret dX7_tell_49 rfl hv
  · replace hv := hv.2 hc0
    by_cases hc1 : x2 = (1 : Int32)
    · replace hv := hv.1 hc1
      refine j_tableIn (tgt := 50) (off := 42) dX7_tell_8 (by rw [hc1]; decide) (by rw [hc1]; decide) (by rw [hc1]; decide) (by decide) ?_
      refine j_aload_n dX7_tell_50 rfl rfl ?_
      refine j_iload_n dX7_tell_51 rfl rfl ?_
      obtain ⟨⟨fs, e1⟩, hv⟩ := hv
      refine j_virtual (avs := [.int x1]) (rest := []) (i := x0) (kc' := mc) (ks' := ms) dX7_tell_52 mt_X7_needOf w_m_X7_36 w_in_X7_needOf w_se_X7_needOf rfl rfl (Nat.le_of_ble_eq_true rfl) (Nat.le_refl _) (by omega) (by omega) cl_X7.1 e1 hv (fun _ _ q9 => q9) ?_
      rintro _ h5 ⟨z6, rfl, hv⟩ -
      exact j_iret dX7_tell_55 rfl hv
    · replace hv := hv.2 hc1
      by_cases hc2 : x2 = (2 : Int32)
      · replace hv := hv.1 hc2
        refine j_tableIn (tgt := 56) (off := 48) dX7_tell_8 (by rw [hc2]; decide) (by rw [hc2]; decide) (by rw [hc2]; decide) (by decide) ?_
        refine j_iload dX7_tell_56 rfl ?_
        refine j_static (avs := [.int z2]) (rest := []) (kc' := mc) (ks' := ms) dX7_tell_58 mt_X7_octantsOf w_m_X7_43 w_st_X7_octantsOf rfl rfl (Nat.le_of_ble_eq_true rfl) (Nat.le_refl _) (by omega) (by omega) hv (fun _ _ q9 => q9) ?_
        rintro _ h7 ⟨z8, rfl, hv⟩ -
        exact j_iret dX7_tell_61 rfl hv
      · replace hv := hv.2 hc2
        by_cases hc3 : x2 = (3 : Int32)
        · replace hv := hv.1 hc3
          refine j_tableIn (tgt := 62) (off := 54) dX7_tell_8 (by rw [hc3]; decide) (by rw [hc3]; decide) (by rw [hc3]; decide) (by decide) ?_
          refine j_aload_n dX7_tell_62 rfl rfl ?_
          refine j_iload_n dX7_tell_63 rfl rfl ?_
          obtain ⟨⟨fs, e1⟩, hv⟩ := hv
          refine j_virtual (avs := [.int x1]) (rest := []) (i := x3) (kc' := mc) (ks' := ms) dX7_tell_64 mt_X6_signsOfAll w_m_X7_54 w_in_X6_signsOfAll w_se_X6_signsOfAll rfl rfl (Nat.le_of_ble_eq_true rfl) (Nat.le_refl _) (by omega) (by omega) cl_X6.1 e1 hv (fun _ _ q9 => q9) ?_
          rintro _ h9 ⟨z10, rfl, hv⟩ -
          refine j_static (avs := [.int z10]) (rest := []) (kc' := mc) (ks' := ms) dX7_tell_67 mt_X7_octantsOf w_m_X7_43 w_st_X7_octantsOf rfl rfl (Nat.le_of_ble_eq_true rfl) (Nat.le_refl _) (by omega) (by omega) hv (fun _ _ q9 => q9) ?_
          rintro _ h11 ⟨z12, rfl, hv⟩ -
          exact j_iret dX7_tell_70 rfl hv
        · replace hv := hv.2 hc3
          by_cases hc4 : x2 = (4 : Int32)
          · replace hv := hv.1 hc4
            refine j_tableIn (tgt := 71) (off := 63) dX7_tell_8 (by rw [hc4]; decide) (by rw [hc4]; decide) (by rw [hc4]; decide) (by decide) ?_
            refine j_iload dX7_tell_71 rfl ?_
            refine j_static (avs := [.int z2]) (rest := []) (kc' := mc) (ks' := ms) dX7_tell_73 mt_X7_hasTouch w_m_X7_40 w_st_X7_hasTouch rfl rfl (Nat.le_of_ble_eq_true rfl) (Nat.le_refl _) (by omega) (by omega) hv (fun _ _ q9 => q9) ?_
            rintro _ h13 ⟨z14, rfl, hv⟩ -
            refine j_if_eq (tgt := 83) dX7_tell_76 (by decide) (fun hc => ?_) (fun hc => ?_)
            · replace hv := hv.1 hc
              refine j_iconst (v := (0 : Int32)) dX7_tell_83 (by decide) ?_
              exact j_iret dX7_tell_84 rfl hv
            · replace hv := hv.2 hc
              refine j_iconst (v := (1 : Int32)) dX7_tell_79 (by decide) ?_
              refine j_goto (tgt := 84) dX7_tell_80 (by decide) ?_
              exact j_iret dX7_tell_84 rfl hv
          · replace hv := hv.2 hc4
            refine j_tableOut (tgt := 85) dX7_tell_8 (q_tabO (by decide) (by decide) (fun j h1 => by match j, h1 with | 0, _ => exact hc0 | 1, _ => exact hc1 | 2, _ => exact hc2 | 3, _ => exact hc3 | 4, _ => exact hc4 | j + 5, h1 => exact absurd h1 (by omega))) (by decide) ?_
            refine j_aload_n dX7_tell_85 rfl rfl ?_
            refine j_iload_n dX7_tell_86 rfl rfl ?_
            refine j_iload dX7_tell_87 rfl ?_
            obtain ⟨⟨fs, e1⟩, hv⟩ := hv
            refine j_virtual (avs := [.int x1, .int z2]) (rest := []) (i := x0) (kc' := mc) (ks' := ms) dX7_tell_89 mt_X7_isMet w_m_X7_57 w_in_X7_isMet w_se_X7_isMet rfl rfl (Nat.le_of_ble_eq_true rfl) (Nat.le_refl _) (by omega) (by omega) cl_X7.1 e1 hv (fun _ _ q9 => q9) ?_
            rintro _ h15 ⟨z16, rfl, hv⟩ -
            refine j_if_eq (tgt := 99) dX7_tell_92 (by decide) (fun hc => ?_) (fun hc => ?_)
            · replace hv := hv.1 hc
              refine j_iconst (v := (0 : Int32)) dX7_tell_99 (by decide) ?_
              exact j_iret dX7_tell_100 rfl hv
            · replace hv := hv.2 hc
              refine j_iconst (v := (1 : Int32)) dX7_tell_95 (by decide) ?_
              refine j_goto (tgt := 100) dX7_tell_96 (by decide) ?_
              exact j_iret dX7_tell_100 rfl hv
set_option maxRecDepth 20000 in
set_option maxHeartbeats 4000000 in
theorem v_X7_octantsOf {l : Launch} {d mc ms : Nat} {Q : Option Value → qH → Prop} {QX : String → qH → Prop} (x0 : Int32) {h : qH} (hv : qCI l (d + 0) mJ6_bitCount_0f7a4 [.int (x0 &&& (-513 : Int32))] h 0 0 (fun z2 h1 => Q (some (.int z2)) h1)) : q_Ct l (d + 1) mX7_octantsOf [.int x0] h mc ms Q QX := by
  refine q_body (by decide ) (by intro v hm; simp only [List.mem_cons, List.not_mem_nil, or_false] at hm; subst hm; rfl) (Nat.le_of_ble_eq_true rfl) ?_
  refine j_pad 0 rfl ?_
  refine j_iload_n dX7_octantsOf_0 rfl rfl ?_
  refine j_sipush (v := (-513 : Int32)) dX7_octantsOf_1 (by decide) ?_
  refine j_iand dX7_octantsOf_4 ?_
  refine j_static (avs := [.int (x0 &&& (-513 : Int32))]) (rest := []) (kc' := mc) (ks' := ms) dX7_octantsOf_5 mt_J6_bitCount_0f7a4 w_m_X7_61 w_st_J6_bitCount_0f7a4 rfl rfl (Nat.le_of_ble_eq_true rfl) (Nat.le_refl _) (by omega) (by omega) hv (fun _ _ q9 => q9) ?_
  rintro _ h1 ⟨z2, rfl, hv⟩ -
  exact j_iret dX7_octantsOf_8 rfl hv
set_option maxRecDepth 20000 in
set_option maxHeartbeats 4000000 in
theorem v_X7_hasTouch {l : Launch} {d mc ms : Nat} {Q : Option Value → qH → Prop} {QX : String → qH → Prop} (x0 : Int32) {h : qH} (hv : qIF ((x0 &&& (512 : Int32)) = 0) (Q (some (.int (0 : Int32))) h) (Q (some (.int (1 : Int32))) h)) : q_Ct l (d + 0) mX7_hasTouch [.int x0] h mc ms Q QX := by
  refine q_body (by decide ) (by intro v hm; simp only [List.mem_cons, List.not_mem_nil, or_false] at hm; subst hm; rfl) (Nat.le_of_ble_eq_true rfl) ?_
  refine j_pad 0 rfl ?_
  refine j_iload_n dX7_hasTouch_0 rfl rfl ?_
  refine j_sipush (v := (512 : Int32)) dX7_hasTouch_1 (by decide) ?_
  refine j_iand dX7_hasTouch_4 ?_
  refine j_if_eq (tgt := 12) dX7_hasTouch_5 (by decide) (fun hc => ?_) (fun hc => ?_)
  · replace hv := hv.1 hc
    refine j_iconst (v := (0 : Int32)) dX7_hasTouch_12 (by decide) ?_
    exact j_zret dX7_hasTouch_13 rfl (by decide) hv
  · replace hv := hv.2 hc
    refine j_iconst (v := (1 : Int32)) dX7_hasTouch_8 (by decide) ?_
    refine j_goto (tgt := 13) dX7_hasTouch_9 (by decide) ?_
    exact j_zret dX7_hasTouch_13 rfl (by decide) hv
