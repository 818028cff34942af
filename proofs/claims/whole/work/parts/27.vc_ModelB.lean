set_option maxRecDepth 20000 in
set_option maxHeartbeats 4000000 in
theorem v_X10_passMany_6 {l : Launch} {d mc ms n0 kc ks : Nat} {Q : Option Value → qH → Prop} {QX : String → qH → Prop} (x0 : Nat) (x1 : Nat) (x2 : Int32) (x3 : Int32) (x4 : Int32) (x5 : Int32) (x6 : Int32) {h : qH} (hv : qIF (x2 ≤ x6) (Q (some (.int x5)) h) (qIF (x5 = 0) (qOB h x0 10 (qCI l (d + 3) mX10_pass [.ref x0, .ref x1, .int x3, .int x4] h 0 0 (fun z2 h1 => q_J l (d + 4) mX10_passMany mc ms Q QX n0 6 [some (.ref x0), some (.ref x1), some (.int x2), some (.int x3), some (.int x4), some (.int z2), some (.int (x6 + (1 : Int32)))] [] h1 kc ks))) (Q (some (.int x5)) h))) : q_J l (d + 4) mX10_passMany mc ms Q QX n0 6 [some (.ref x0), some (.ref x1), some (.int x2), some (.int x3), some (.int x4), some (.int x5), some (.int x6)] [] h kc ks := by
  refine j_iload dX10_passMany_6 rfl ?_
  refine j_iload_n dX10_passMany_8 rfl rfl ?_
  refine j_icmp_ge (tgt := 33) dX10_passMany_9 (by decide) (fun hc => ?_) (fun hc => ?_)
  · replace hv := hv.1 hc
    refine j_iload dX10_passMany_33 rfl ?_
    exact j_iret dX10_passMany_35 rfl hv
  · replace hv := hv.2 hc
    refine j_iload dX10_passMany_12 rfl ?_
    refine j_if_ne (tgt := 33) dX10_passMany_14 (by decide) (fun hc => ?_) (fun hc => ?_)
    · replace hv := hv.2 hc
      refine j_iload dX10_passMany_33 rfl ?_
      exact j_iret dX10_passMany_35 rfl hv
    · replace hv := hv.1 hc
      refine j_aload_n dX10_passMany_17 rfl rfl ?_
      refine j_aload_n dX10_passMany_18 rfl rfl ?_
      refine j_iload_n dX10_passMany_19 rfl rfl ?_
      refine j_iload dX10_passMany_20 rfl ?_
      obtain ⟨⟨fs, e1⟩, hv⟩ := hv
      refine j_virtual (avs := [.ref x1, .int x3, .int x4]) (rest := []) (i := x0) (kc' := kc) (ks' := ks) dX10_passMany_22 mt_X10_pass w_m_X10_214 w_in_X10_pass w_se_X10_pass rfl rfl (Nat.le_of_ble_eq_true rfl) (Nat.le_refl _) (by omega) (by omega) cl_X10.1 e1 hv (fun _ _ q9 => q9) ?_
      rintro _ h1 ⟨z2, rfl, hv⟩ -
      refine j_istore dX10_passMany_25 (by decide) rfl rfl ?_
      refine j_iinc (w := (x6 + (1 : Int32))) dX10_passMany_27 rfl (by rfl) (by decide) rfl rfl ?_
      refine j_goto (tgt := 6) dX10_passMany_30 (by decide) ?_
      exact hv
set_option maxRecDepth 20000 in
set_option maxHeartbeats 4000000 in
theorem v_X10_passMany {l : Launch} {d mc ms : Nat} {Q : Option Value → qH → Prop} {QX : String → qH → Prop} (x0 : Nat) (x1 : Nat) (x2 : Int32) (x3 : Int32) (x4 : Int32) {h : qH} (hv : q_J l (d + 4) mX10_passMany mc ms Q QX h.2 6 [some (.ref x0), some (.ref x1), some (.int x2), some (.int x3), some (.int x4), some (.int (0 : Int32)), some (.int (0 : Int32))] [] h mc ms) : q_Ct l (d + 4) mX10_passMany [.ref x0, .ref x1, .int x2, .int x3, .int x4] h mc ms Q QX := by
  refine q_body (by decide ) (by intro v hm; simp only [List.mem_cons, List.not_mem_nil, or_false] at hm; rcases hm with rfl | rfl | rfl | rfl | rfl <;> rfl) (Nat.le_of_ble_eq_true rfl) ?_
  refine j_pad 2 rfl ?_
  refine j_iconst (v := (0 : Int32)) dX10_passMany_0 (by decide) ?_
  refine j_istore dX10_passMany_1 (by decide) rfl rfl ?_
  refine j_iconst (v := (0 : Int32)) dX10_passMany_3 (by decide) ?_
  refine j_istore dX10_passMany_4 (by decide) rfl rfl ?_
  exact hv
set_option maxRecDepth 20000 in
set_option maxHeartbeats 4000000 in
theorem v_X10_drive_120 {l : Launch} {d mc ms n0 kc ks : Nat} {Q : Option Value → qH → Prop} {QX : String → qH → Prop} (x0 : Nat) (x1 : Nat) (x2 : Int32) (x3 : Int32) (x4 : Int32) (x5 : Int32) {h : qH} (hv : qAL h x1 (1 : Int32) (fun z1 => qSL 2 x5 (fun z2 => qAS h x1 (1 : Int32) (z1 + z2) (fun h3 => qAL h3 x1 (2 : Int32) (fun z4 => qSL 3 x5 (fun z5 => qAS h3 x1 (2 : Int32) (z4 + z5) (fun h6 => q_J l (d + 5) mX10_drive mc ms Q QX n0 31 [some (.ref x0), some (.ref x1), some (.int x2), some (.int x3), some (.int x4), none] [] h6 kc ks))))))) : q_J l (d + 5) mX10_drive mc ms Q QX n0 120 [some (.ref x0), some (.ref x1), some (.int x2), some (.int x3), some (.int x4), some (.int x5)] [] h kc ks := by
  refine j_aload_n dX10_drive_120 rfl rfl ?_
  refine j_iconst (v := (1 : Int32)) dX10_drive_121 (by decide) ?_
  refine j_dup2 dX10_drive_122 rfl rfl ?_
  obtain ⟨N, f, e1, e2, hv⟩ := hv
  refine j_iald dX10_drive_123 e1 e2 ?_
  generalize f _ = z1 at hv ⊢
  refine j_gets (k := 2) (by decide) w_f_X10_106 dX10_drive_124 ?_
  refine j_iload dX10_drive_127 rfl ?_
  obtain ⟨e1, hv⟩ := hv
  refine j_sald (k := 2) (by decide) dX10_drive_129 e1 ?_
  generalize q_sF 2 _ = z2 at hv ⊢
  refine j_iadd dX10_drive_130 ?_
  obtain ⟨N, f, e1, e2, hv⟩ := hv
  refine j_iast dX10_drive_131 e1 e2 ?_
  generalize q_set h x1 _ = h3 at hv ⊢
  refine j_aload_n dX10_drive_132 rfl rfl ?_
  refine j_iconst (v := (2 : Int32)) dX10_drive_133 (by decide) ?_
  refine j_dup2 dX10_drive_134 rfl rfl ?_
  obtain ⟨N, f, e1, e2, hv⟩ := hv
  refine j_iald dX10_drive_135 e1 e2 ?_
  generalize f _ = z4 at hv ⊢
  refine j_gets (k := 3) (by decide) w_f_X10_109 dX10_drive_136 ?_
  refine j_iload dX10_drive_139 rfl ?_
  obtain ⟨e1, hv⟩ := hv
  refine j_sald (k := 3) (by decide) dX10_drive_141 e1 ?_
  generalize q_sF 3 _ = z5 at hv ⊢
  refine j_iadd dX10_drive_142 ?_
  obtain ⟨N, f, e1, e2, hv⟩ := hv
  refine j_iast dX10_drive_143 e1 e2 ?_
  generalize q_set h3 x1 _ = h6 at hv ⊢
  refine j_goto (tgt := 31) dX10_drive_144 (by decide) ?_
  refine j_mask [true, true, true, true, true, false] rfl ?_
  exact hv
set_option maxRecDepth 20000 in
set_option maxHeartbeats 4000000 in
theorem v_X10_drive_50 {l : Launch} {d mc ms n0 kc ks : Nat} {Q : Option Value → qH → Prop} {QX : String → qH → Prop} (x0 : Nat) (x1 : Nat) (x2 : Int32) (x3 : Int32) (x4 : Int32) {h : qH} (hv : qAL h x1 (4 : Int32) (fun z1 => qIF ((-50 : Int32) ≤ z1) (qAL h x1 (1 : Int32) (fun z2 => qAL h x1 (2 : Int32) (fun z3 => qOB h x0 10 (qCI l (d + 4) mX10_direction [.ref x0, .int z2, .int z3] h 0 0 (fun z5 h4 => qAL h4 x1 (1 : Int32) (fun z6 => qAL h4 x1 (2 : Int32) (fun z7 => qOB h4 x0 10 (qCI l (d + 4) mX10_minutes [.ref x0, .int z6, .int z7, .int z5] h4 0 0 (fun z9 h8 => qOB h8 x0 10 (qCI l (d + 4) mX10_passMany [.ref x0, .ref x1, .int (z9 - (1 : Int32)), .int (0 : Int32), .int (1 : Int32)] h8 0 0 (fun z11 h10 => qIF (z11 = 0) (qAL h10 x1 (1 : Int32) (fun z12 => qAL h10 x1 (2 : Int32) (fun z13 => qOB h10 x0 10 (qCI l (d + 4) mX10_energy [.ref x0, .int z12, .int z13, .int z5] h10 0 0 (fun z15 h14 => qOB h14 x0 10 (qCI l (d + 4) mX10_pass [.ref x0, .ref x1, .int z15, .int (1 : Int32)] h14 0 0 (fun z17 h16 => q_J l (d + 5) mX10_drive mc ms Q QX n0 120 [some (.ref x0), some (.ref x1), some (.int x2), some (.int x3), some (.int z17), some (.int z5)] [] h16 kc ks))))))) (q_J l (d + 5) mX10_drive mc ms Q QX n0 120 [some (.ref x0), some (.ref x1), some (.int x2), some (.int x3), some (.int z11), some (.int z5)] [] h10 kc ks)))))))))))) (Q (some (.int (3 : Int32))) h))) : q_J l (d + 5) mX10_drive mc ms Q QX n0 50 [some (.ref x0), some (.ref x1), some (.int x2), some (.int x3), some (.int x4), none] [] h kc ks := by
  refine j_aload_n dX10_drive_50 rfl rfl ?_
  refine j_iconst (v := (4 : Int32)) dX10_drive_51 (by decide) ?_
  obtain ⟨N, f, e1, e2, hv⟩ := hv
  refine j_iald dX10_drive_52 e1 e2 ?_
  generalize f _ = z1 at hv ⊢
  refine j_bipush (v := (-50 : Int32)) dX10_drive_53 (by decide) ?_
  refine j_icmp_ge (tgt := 60) dX10_drive_55 (by decide) (fun hc => ?_) (fun hc => ?_)
  · replace hv := hv.1 hc
    refine j_aload_n dX10_drive_60 rfl rfl ?_
    refine j_aload_n dX10_drive_61 rfl rfl ?_
    refine j_iconst (v := (1 : Int32)) dX10_drive_62 (by decide) ?_
    obtain ⟨N, f, e1, e2, hv⟩ := hv
    refine j_iald dX10_drive_63 e1 e2 ?_
    generalize f _ = z2 at hv ⊢
    refine j_aload_n dX10_drive_64 rfl rfl ?_
    refine j_iconst (v := (2 : Int32)) dX10_drive_65 (by decide) ?_
    obtain ⟨N, f, e1, e2, hv⟩ := hv
    refine j_iald dX10_drive_66 e1 e2 ?_
    generalize f _ = z3 at hv ⊢
    obtain ⟨⟨fs, e1⟩, hv⟩ := hv
    refine j_virtual (avs := [.int z2, .int z3]) (rest := []) (i := x0) (kc' := kc) (ks' := ks) dX10_drive_67 mt_X10_direction w_m_X10_130 w_in_X10_direction w_se_X10_direction rfl rfl (Nat.le_of_ble_eq_true rfl) (Nat.le_refl _) (by omega) (by omega) cl_X10.1 e1 hv (fun _ _ q9 => q9) ?_
    rintro _ h4 ⟨z5, rfl, hv⟩ -
    refine j_istore dX10_drive_70 (by decide) rfl rfl ?_
    refine j_aload_n dX10_drive_72 rfl rfl ?_
    refine j_aload_n dX10_drive_73 rfl rfl ?_
    refine j_aload_n dX10_drive_74 rfl rfl ?_
    refine j_aload_n dX10_drive_75 rfl rfl ?_
    refine j_iconst (v := (1 : Int32)) dX10_drive_76 (by decide) ?_
    obtain ⟨N, f, e1, e2, hv⟩ := hv
    refine j_iald dX10_drive_77 e1 e2 ?_
    generalize f _ = z6 at hv ⊢
    refine j_aload_n dX10_drive_78 rfl rfl ?_
    refine j_iconst (v := (2 : Int32)) dX10_drive_79 (by decide) ?_
    obtain ⟨N, f, e1, e2, hv⟩ := hv
    refine j_iald dX10_drive_80 e1 e2 ?_
    generalize f _ = z7 at hv ⊢
    refine j_iload dX10_drive_81 rfl ?_
    obtain ⟨⟨fs, e1⟩, hv⟩ := hv
    refine j_virtual (avs := [.int z6, .int z7, .int z5]) (rest := [.ref x1, .ref x0]) (i := x0) (kc' := kc) (ks' := ks) dX10_drive_83 mt_X10_minutes w_m_X10_119 w_in_X10_minutes w_se_X10_minutes rfl rfl (Nat.le_of_ble_eq_true rfl) (Nat.le_refl _) (by omega) (by omega) cl_X10.1 e1 hv (fun _ _ q9 => q9) ?_
    rintro _ h8 ⟨z9, rfl, hv⟩ -
    refine j_iconst (v := (1 : Int32)) dX10_drive_86 (by decide) ?_
    refine j_isub dX10_drive_87 ?_
    refine j_iconst (v := (0 : Int32)) dX10_drive_88 (by decide) ?_
    refine j_iconst (v := (1 : Int32)) dX10_drive_89 (by decide) ?_
    obtain ⟨⟨fs, e1⟩, hv⟩ := hv
    refine j_virtual (avs := [.ref x1, .int (z9 - (1 : Int32)), .int (0 : Int32), .int (1 : Int32)]) (rest := []) (i := x0) (kc' := kc) (ks' := ks) dX10_drive_90 mt_X10_passMany w_m_X10_218 w_in_X10_passMany w_se_X10_passMany rfl rfl (Nat.le_of_ble_eq_true rfl) (Nat.le_refl _) (by omega) (by omega) cl_X10.1 e1 hv (fun _ _ q9 => q9) ?_
    rintro _ h10 ⟨z11, rfl, hv⟩ -
    refine j_istore dX10_drive_93 (by decide) rfl rfl ?_
    refine j_iload dX10_drive_95 rfl ?_
    refine j_if_ne (tgt := 120) dX10_drive_97 (by decide) (fun hc => ?_) (fun hc => ?_)
    · replace hv := hv.2 hc
      exact hv
    · replace hv := hv.1 hc
      refine j_aload_n dX10_drive_100 rfl rfl ?_
      refine j_aload_n dX10_drive_101 rfl rfl ?_
      refine j_aload_n dX10_drive_102 rfl rfl ?_
      refine j_aload_n dX10_drive_103 rfl rfl ?_
      refine j_iconst (v := (1 : Int32)) dX10_drive_104 (by decide) ?_
      obtain ⟨N, f, e1, e2, hv⟩ := hv
      refine j_iald dX10_drive_105 e1 e2 ?_
      generalize f _ = z12 at hv ⊢
      refine j_aload_n dX10_drive_106 rfl rfl ?_
      refine j_iconst (v := (2 : Int32)) dX10_drive_107 (by decide) ?_
      obtain ⟨N, f, e1, e2, hv⟩ := hv
      refine j_iald dX10_drive_108 e1 e2 ?_
      generalize f _ = z13 at hv ⊢
      refine j_iload dX10_drive_109 rfl ?_
      obtain ⟨⟨fs, e1⟩, hv⟩ := hv
      refine j_virtual (avs := [.int z12, .int z13, .int z5]) (rest := [.ref x1, .ref x0]) (i := x0) (kc' := kc) (ks' := ks) dX10_drive_111 mt_X10_energy w_m_X10_133 w_in_X10_energy w_se_X10_energy rfl rfl (Nat.le_of_ble_eq_true rfl) (Nat.le_refl _) (by omega) (by omega) cl_X10.1 e1 hv (fun _ _ q9 => q9) ?_
      rintro _ h14 ⟨z15, rfl, hv⟩ -
      refine j_iconst (v := (1 : Int32)) dX10_drive_114 (by decide) ?_
      obtain ⟨⟨fs, e1⟩, hv⟩ := hv
      refine j_virtual (avs := [.ref x1, .int z15, .int (1 : Int32)]) (rest := []) (i := x0) (kc' := kc) (ks' := ks) dX10_drive_115 mt_X10_pass w_m_X10_214 w_in_X10_pass w_se_X10_pass rfl rfl (Nat.le_of_ble_eq_true rfl) (Nat.le_refl _) (by omega) (by omega) cl_X10.1 e1 hv (fun _ _ q9 => q9) ?_
      rintro _ h16 ⟨z17, rfl, hv⟩ -
      refine j_istore dX10_drive_118 (by decide) rfl rfl ?_
      exact hv
  · replace hv := hv.2 hc
    refine j_iconst (v := (3 : Int32)) dX10_drive_58 (by decide) ?_
    exact j_iret dX10_drive_59 rfl hv
set_option maxRecDepth 20000 in
set_option maxHeartbeats 4000000 in
theorem v_X10_drive_31 {l : Launch} {d mc ms n0 kc ks : Nat} {Q : Option Value → qH → Prop} {QX : String → qH → Prop} (x0 : Nat) (x1 : Nat) (x2 : Int32) (x3 : Int32) (x4 : Int32) {h : qH} (hv : qIF (x4 = 0) (qAL h x1 (1 : Int32) (fun z1 => qIF (z1 = x2) (qAL h x1 (2 : Int32) (fun z2 => qIF (z2 = x3) (Q (some (.int x4)) h) (q_J l (d + 5) mX10_drive mc ms Q QX n0 50 [some (.ref x0), some (.ref x1), some (.int x2), some (.int x3), some (.int x4), none] [] h kc ks))) (q_J l (d + 5) mX10_drive mc ms Q QX n0 50 [some (.ref x0), some (.ref x1), some (.int x2), some (.int x3), some (.int x4), none] [] h kc ks))) (Q (some (.int x4)) h)) : q_J l (d + 5) mX10_drive mc ms Q QX n0 31 [some (.ref x0), some (.ref x1), some (.int x2), some (.int x3), some (.int x4), none] [] h kc ks := by
  refine j_iload dX10_drive_31 rfl ?_
  refine j_if_ne (tgt := 147) dX10_drive_33 (by decide) (fun hc => ?_) (fun hc => ?_)
  · replace hv := hv.2 hc
    refine j_iload dX10_drive_147 rfl ?_
    exact j_iret dX10_drive_149 rfl hv
  · replace hv := hv.1 hc
    refine j_aload_n dX10_drive_36 rfl rfl ?_
    refine j_iconst (v := (1 : Int32)) dX10_drive_37 (by decide) ?_
    obtain ⟨N, f, e1, e2, hv⟩ := hv
    refine j_iald dX10_drive_38 e1 e2 ?_
    generalize f _ = z1 at hv ⊢
    refine j_iload_n dX10_drive_39 rfl rfl ?_
    refine j_icmp_ne (tgt := 50) dX10_drive_40 (by decide) (fun hc => ?_) (fun hc => ?_)
    · replace hv := hv.2 hc
      exact hv
    · replace hv := hv.1 hc
      refine j_aload_n dX10_drive_43 rfl rfl ?_
      refine j_iconst (v := (2 : Int32)) dX10_drive_44 (by decide) ?_
      obtain ⟨N, f, e1, e2, hv⟩ := hv
      refine j_iald dX10_drive_45 e1 e2 ?_
      generalize f _ = z2 at hv ⊢
      refine j_iload_n dX10_drive_46 rfl rfl ?_
      refine j_icmp_eq (tgt := 147) dX10_drive_47 (by decide) (fun hc => ?_) (fun hc => ?_)
      · replace hv := hv.1 hc
        refine j_iload dX10_drive_147 rfl ?_
        exact j_iret dX10_drive_149 rfl hv
      · replace hv := hv.2 hc
        exact hv
set_option maxRecDepth 20000 in
set_option maxHeartbeats 4000000 in
theorem v_X10_drive {l : Launch} {d mc ms : Nat} {Q : Option Value → qH → Prop} {QX : String → qH → Prop} (x0 : Nat) (x1 : Nat) (x2 : Int32) (x3 : Int32) {h : qH} (hv : qOB h x0 10 (qCV l (d + 4) mX10_reckonCosts [.ref x0, .int x2, .int x3, .int (1 : Int32)] h 0 0 (fun h1 => qGR h1 x0 10 19 (fun r2 => qAL h1 x1 (1 : Int32) (fun z3 => qAL h1 x1 (2 : Int32) (fun z4 => qCI l (d + 4) mX10_at [.int z3, .int z4] h1 0 0 (fun z6 h5 => qAL h5 r2 z6 (fun z7 => qIF (z7 = (1000000 : Int32)) (Q (some (.int (1 : Int32))) h5) (q_J l (d + 5) mX10_drive mc ms Q QX h.2 31 [some (.ref x0), some (.ref x1), some (.int x2), some (.int x3), some (.int (0 : Int32)), none] [] h5 mc ms))))))))) : q_Ct l (d + 5) mX10_drive [.ref x0, .ref x1, .int x2, .int x3] h mc ms Q QX := by
  refine q_body (by decide ) (by intro v hm; simp only [List.mem_cons, List.not_mem_nil, or_false] at hm; rcases hm with rfl | rfl | rfl | rfl <;> rfl) (Nat.le_of_ble_eq_true rfl) ?_
  refine j_pad 2 rfl ?_
  refine j_aload_n dX10_drive_0 rfl rfl ?_
  refine j_iload_n dX10_drive_1 rfl rfl ?_
  refine j_iload_n dX10_drive_2 rfl rfl ?_
  refine j_iconst (v := (1 : Int32)) dX10_drive_3 (by decide) ?_
  obtain ⟨⟨fs, e1⟩, hv⟩ := hv
  refine j_virtual (avs := [.int x2, .int x3, .int (1 : Int32)]) (rest := []) (i := x0) (kc' := mc) (ks' := ms) dX10_drive_4 mt_X10_reckonCosts w_m_X10_126 w_in_X10_reckonCosts w_se_X10_reckonCosts rfl rfl (Nat.le_of_ble_eq_true rfl) (Nat.le_refl _) (by omega) (by omega) cl_X10.1 e1 hv (fun _ _ q9 => q9) ?_
  rintro _ h1 ⟨rfl, hv⟩ -
  refine j_aload_n dX10_drive_7 rfl rfl ?_
  obtain ⟨fs, r2, e1, e2, hv⟩ := hv
  refine j_getf (k := 19) cl_X10 (by decide) w_f_X10_56 dX10_drive_8 e1 e2 ?_
  refine j_aload_n dX10_drive_11 rfl rfl ?_
  refine j_iconst (v := (1 : Int32)) dX10_drive_12 (by decide) ?_
  obtain ⟨N, f, e1, e2, hv⟩ := hv
  refine j_iald dX10_drive_13 e1 e2 ?_
  generalize f _ = z3 at hv ⊢
  refine j_aload_n dX10_drive_14 rfl rfl ?_
  refine j_iconst (v := (2 : Int32)) dX10_drive_15 (by decide) ?_
  obtain ⟨N, f, e1, e2, hv⟩ := hv
  refine j_iald dX10_drive_16 e1 e2 ?_
  generalize f _ = z4 at hv ⊢
  refine j_static (avs := [.int z3, .int z4]) (rest := [.ref r2]) (kc' := mc) (ks' := ms) dX10_drive_17 mt_X10_at w_m_X10_93 w_st_X10_at rfl rfl (Nat.le_of_ble_eq_true rfl) (Nat.le_refl _) (by omega) (by omega) hv (fun _ _ q9 => q9) ?_
  rintro _ h5 ⟨z6, rfl, hv⟩ -
  obtain ⟨N, f, e1, e2, hv⟩ := hv
  refine j_iald dX10_drive_20 e1 e2 ?_
  generalize f _ = z7 at hv ⊢
  refine j_ldc (v := (1000000 : Int32)) dX10_drive_21 w_c_X10_122 ?_
  refine j_icmp_ne (tgt := 28) dX10_drive_23 (by decide) (fun hc => ?_) (fun hc => ?_)
  · replace hv := hv.2 hc
    refine j_iconst (v := (0 : Int32)) dX10_drive_28 (by decide) ?_
    refine j_istore dX10_drive_29 (by decide) rfl rfl ?_
    exact hv
  · replace hv := hv.1 hc
    refine j_iconst (v := (1 : Int32)) dX10_drive_26 (by decide) ?_
    exact j_iret dX10_drive_27 rfl hv
set_option maxRecDepth 20000 in
set_option maxHeartbeats 4000000 in
theorem v_X10_take_191 {l : Launch} {d mc ms n0 kc ks : Nat} {Q : Option Value → qH → Prop} {QX : String → qH → Prop} (x0 : Nat) (x1 : Nat) (x2 : Int32) (x3 : Int32) (x4 : Int32) (x5 : Int32) (x6 : Int32) (x7 : Int32) (x8 : Int32) (x9 : Int32) (y0 : Nat) (y1 : Nat) (y2 : Int32) (y3 : Int32) {h : qH} (hv : qAS h y1 y2 y3 (fun h1 => qAL h1 x1 (9 : Int32) (fun z2 => qCP h1 y0 (0 : Int32) x1 ((34 : Int32) + ((4 : Int32) * z2)) (4 : Int32) (fun h3 => qAL h3 x1 (9 : Int32) (fun z4 => qAS h3 x1 (9 : Int32) (z4 + (1 : Int32)) (fun h5 => qAL h5 x1 (8 : Int32) (fun z6 => qAS h5 x1 (8 : Int32) (z6 + x8) (fun h7 => Q (some (.int (0 : Int32))) h7)))))))) : q_J l (d + 5) mX10_take mc ms Q QX n0 191 [some (.ref x0), some (.ref x1), some (.int x2), some (.int x3), some (.int x4), some (.int x5), some (.int x6), some (.int x7), some (.int x8), some (.int x9), none] [.int y3, .int y2, .ref y1, .ref y0] h kc ks := by
  obtain ⟨N, f, e1, e2, hv⟩ := hv
  refine j_iast dX10_take_191 e1 e2 ?_
  generalize q_set h y1 _ = h1 at hv ⊢
  refine j_astore dX10_take_192 (by decide) rfl rfl ?_
  refine j_aload dX10_take_194 rfl ?_
  refine j_iconst (v := (0 : Int32)) dX10_take_196 (by decide) ?_
  refine j_aload_n dX10_take_197 rfl rfl ?_
  refine j_bipush (v := (34 : Int32)) dX10_take_198 (by decide) ?_
  refine j_iconst (v := (4 : Int32)) dX10_take_200 (by decide) ?_
  refine j_aload_n dX10_take_201 rfl rfl ?_
  refine j_bipush (v := (9 : Int32)) dX10_take_202 (by decide) ?_
  obtain ⟨N, f, e1, e2, hv⟩ := hv
  refine j_iald dX10_take_204 e1 e2 ?_
  generalize f _ = z2 at hv ⊢
  refine j_imul dX10_take_205 ?_
  refine j_iadd dX10_take_206 ?_
  refine j_iconst (v := (4 : Int32)) dX10_take_207 (by decide) ?_
  obtain ⟨N0, N1, f0, f1, e1, e2, q1, q2, q3, q4, q5, hv⟩ := hv
  refine j_copy dX10_take_208 w_m_X10_151 w_na_copy w_st_copy w_ini_System (Nat.le_of_ble_eq_true rfl) (by omega) e1 e2 q1 q2 q3 q4 q5 ?_
  generalize q_set h1 x1 _ = h3 at hv ⊢
  refine j_aload_n dX10_take_211 rfl rfl ?_
  refine j_bipush (v := (9 : Int32)) dX10_take_212 (by decide) ?_
  refine j_dup2 dX10_take_214 rfl rfl ?_
  obtain ⟨N, f, e1, e2, hv⟩ := hv
  refine j_iald dX10_take_215 e1 e2 ?_
  generalize f _ = z4 at hv ⊢
  refine j_iconst (v := (1 : Int32)) dX10_take_216 (by decide) ?_
  refine j_iadd dX10_take_217 ?_
  obtain ⟨N, f, e1, e2, hv⟩ := hv
  refine j_iast dX10_take_218 e1 e2 ?_
  generalize q_set h3 x1 _ = h5 at hv ⊢
  refine j_aload_n dX10_take_219 rfl rfl ?_
  refine j_bipush (v := (8 : Int32)) dX10_take_220 (by decide) ?_
  refine j_dup2 dX10_take_222 rfl rfl ?_
  obtain ⟨N, f, e1, e2, hv⟩ := hv
  refine j_iald dX10_take_223 e1 e2 ?_
  generalize f _ = z6 at hv ⊢
  refine j_iload dX10_take_224 rfl ?_
  refine j_iadd dX10_take_226 ?_
  obtain ⟨N, f, e1, e2, hv⟩ := hv
  refine j_iast dX10_take_227 e1 e2 ?_
  generalize q_set h5 x1 _ = h7 at hv ⊢
  refine j_iconst (v := (0 : Int32)) dX10_take_228 (by decide) ?_
  exact j_iret dX10_take_229 rfl hv
set_option maxRecDepth 20000 in
set_option maxHeartbeats 4000000 in
theorem v_X10_take_140 {l : Launch} {d mc ms n0 kc ks : Nat} {Q : Option Value → qH → Prop} {QX : String → qH → Prop} (hkc : 1 ≤ kc) (hks : 4 ≤ ks) (x0 : Nat) (x1 : Nat) (x2 : Int32) (x3 : Int32) (x4 : Int32) (x5 : Int32) (x6 : Int32) (x7 : Int32) (x8 : Int32) (y0 : Int32) {h : qH} (hv : qIF (y0 = 0) (qNI h 4 (fun r1 h2 => qAS h2 r1 (0 : Int32) x3 (fun h3 => qAS h3 r1 (1 : Int32) x8 (fun h4 => qAS h4 r1 (2 : Int32) x4 (fun h5 => qIF (x2 = 0) (qAL h5 x1 (1 : Int32) (fun z6 => qAL h5 x1 (2 : Int32) (fun z7 => qCI l (d + 4) mX10_octant [.int z6, .int z7, .int x5, .int x6] h5 0 0 (fun z9 h8 => q_J l (d + 5) mX10_take mc ms Q QX n0 191 [some (.ref x0), some (.ref x1), some (.int x2), some (.int x3), some (.int x4), some (.int x5), some (.int x6), some (.int x7), some (.int x8), some (.int y0), none] [.int z9, .int (3 : Int32), .ref r1, .ref r1] h8 (kc - 1) (ks - 4))))) (q_J l (d + 5) mX10_take mc ms Q QX n0 191 [some (.ref x0), some (.ref x1), some (.int x2), some (.int x3), some (.int x4), some (.int x5), some (.int x6), some (.int x7), some (.int x8), some (.int y0), none] [.int (9 : Int32), .int (3 : Int32), .ref r1, .ref r1] h5 (kc - 1) (ks - 4))))))) (Q (some (.int y0)) h)) : q_J l (d + 5) mX10_take mc ms Q QX n0 140 [some (.ref x0), some (.ref x1), some (.int x2), some (.int x3), some (.int x4), some (.int x5), some (.int x6), some (.int x7), some (.int x8), none, none] [.int y0] h kc ks := by
  refine j_istore dX10_take_140 (by decide) rfl rfl ?_
  refine j_iload dX10_take_142 rfl ?_
  refine j_if_eq (tgt := 150) dX10_take_144 (by decide) (fun hc => ?_) (fun hc => ?_)
  · replace hv := hv.1 hc
    refine j_iconst (v := (4 : Int32)) dX10_take_150 (by decide) ?_
    unfold qNI at hv
    refine j_newI (N := 4) w_ar_int dX10_take_151 (by decide) (by decide) (by decide) (kc' := (kc - 1)) (ks' := (ks - 4)) (by omega) (by omega) ?_
    generalize q_push h _ = h2 at hv ⊢
    generalize (h).2 = r1 at hv ⊢
    refine j_dup dX10_take_153 rfl ?_
    refine j_iconst (v := (0 : Int32)) dX10_take_154 (by decide) ?_
    refine j_iload_n dX10_take_155 rfl rfl ?_
    obtain ⟨N, f, e1, e2, hv⟩ := hv
    refine j_iast dX10_take_156 e1 e2 ?_
    generalize q_set h2 r1 _ = h3 at hv ⊢
    refine j_dup dX10_take_157 rfl ?_
    refine j_iconst (v := (1 : Int32)) dX10_take_158 (by decide) ?_
    refine j_iload dX10_take_159 rfl ?_
    obtain ⟨N, f, e1, e2, hv⟩ := hv
    refine j_iast dX10_take_161 e1 e2 ?_
    generalize q_set h3 r1 _ = h4 at hv ⊢
    refine j_dup dX10_take_162 rfl ?_
    refine j_iconst (v := (2 : Int32)) dX10_take_163 (by decide) ?_
    refine j_iload dX10_take_164 rfl ?_
    obtain ⟨N, f, e1, e2, hv⟩ := hv
    refine j_iast dX10_take_166 e1 e2 ?_
    generalize q_set h4 r1 _ = h5 at hv ⊢
    refine j_dup dX10_take_167 rfl ?_
    refine j_iconst (v := (3 : Int32)) dX10_take_168 (by decide) ?_
    refine j_iload_n dX10_take_169 rfl rfl ?_
    refine j_if_eq (tgt := 178) dX10_take_170 (by decide) (fun hc => ?_) (fun hc => ?_)
    · replace hv := hv.1 hc
      refine j_aload_n dX10_take_178 rfl rfl ?_
      refine j_iconst (v := (1 : Int32)) dX10_take_179 (by decide) ?_
      obtain ⟨N, f, e1, e2, hv⟩ := hv
      refine j_iald dX10_take_180 e1 e2 ?_
      generalize f _ = z6 at hv ⊢
      refine j_aload_n dX10_take_181 rfl rfl ?_
      refine j_iconst (v := (2 : Int32)) dX10_take_182 (by decide) ?_
      obtain ⟨N, f, e1, e2, hv⟩ := hv
      refine j_iald dX10_take_183 e1 e2 ?_
      generalize f _ = z7 at hv ⊢
      refine j_iload dX10_take_184 rfl ?_
      refine j_iload dX10_take_186 rfl ?_
      refine j_static (avs := [.int z6, .int z7, .int x5, .int x6]) (rest := [.int (3 : Int32), .ref r1, .ref r1]) (kc' := (kc - 1)) (ks' := (ks - 4)) dX10_take_188 mt_X10_octant w_m_X10_222 w_st_X10_octant rfl rfl (Nat.le_of_ble_eq_true rfl) (Nat.le_refl _) (by omega) (by omega) hv (fun _ _ q9 => q9) ?_
      rintro _ h8 ⟨z9, rfl, hv⟩ -
      exact hv
    · replace hv := hv.2 hc
      refine j_bipush (v := (9 : Int32)) dX10_take_173 (by decide) ?_
      refine j_goto (tgt := 191) dX10_take_175 (by decide) ?_
      exact hv
  · replace hv := hv.2 hc
    refine j_iload dX10_take_147 rfl ?_
    exact j_iret dX10_take_149 rfl hv
set_option maxRecDepth 20000 in
set_option maxHeartbeats 4000000 in
theorem v_X10_take_97 {l : Launch} {d mc ms n0 kc ks : Nat} {Q : Option Value → qH → Prop} {QX : String → qH → Prop} (x0 : Nat) (x1 : Nat) (x2 : Int32) (x3 : Int32) (x4 : Int32) (x5 : Int32) (x6 : Int32) (x7 : Int32) (y0 : Int32) {h : qH} (hv : qCI l (d + 4) mX10_units [.ref x1] h 0 0 (fun z2 h1 => qGI h1 x0 10 10 (fun z3 => qIF ((z2 + y0) ≤ z3) (qIF (x2 = 0) (qOB h1 x0 10 (qCI l (d + 4) mX10_passMany [.ref x0, .ref x1, .int (6 : Int32), .int (3 : Int32), .int (1 : Int32)] h1 0 0 (fun z5 h4 => q_J l (d + 5) mX10_take mc ms Q QX n0 140 [some (.ref x0), some (.ref x1), some (.int x2), some (.int x3), some (.int x4), some (.int x5), some (.int x6), some (.int x7), some (.int y0), none, none] [.int z5] h4 kc ks))) (qOB h1 x0 10 (qCI l (d + 4) mX10_passMany [.ref x0, .ref x1, .int (25 : Int32), .int (5 : Int32), .int (1 : Int32)] h1 0 0 (fun z7 h6 => q_J l (d + 5) mX10_take mc ms Q QX n0 140 [some (.ref x0), some (.ref x1), some (.int x2), some (.int x3), some (.int x4), some (.int x5), some (.int x6), some (.int x7), some (.int y0), none, none] [.int z7] h6 kc ks)))) (Q (some (.int (4 : Int32))) h1)))) : q_J l (d + 5) mX10_take mc ms Q QX n0 97 [some (.ref x0), some (.ref x1), some (.int x2), some (.int x3), some (.int x4), some (.int x5), some (.int x6), some (.int x7), none, none, none] [.int y0] h kc ks := by
  refine j_istore dX10_take_97 (by decide) rfl rfl ?_
  refine j_aload_n dX10_take_99 rfl rfl ?_
  refine j_static (avs := [.ref x1]) (rest := []) (kc' := kc) (ks' := ks) dX10_take_100 mt_X10_units w_m_X10_200 w_st_X10_units rfl rfl (Nat.le_of_ble_eq_true rfl) (Nat.le_refl _) (by omega) (by omega) hv (fun _ _ q9 => q9) ?_
  rintro _ h1 ⟨z2, rfl, hv⟩ -
  refine j_iload dX10_take_103 rfl ?_
  refine j_iadd dX10_take_105 ?_
  refine j_aload_n dX10_take_106 rfl rfl ?_
  obtain ⟨fs, z3, e1, e2, hv⟩ := hv
  refine j_getf (k := 10) cl_X10 (by decide) w_f_X10_33 dX10_take_107 e1 e2 ?_
  refine j_icmp_le (tgt := 115) dX10_take_110 (by decide) (fun hc => ?_) (fun hc => ?_)
  · replace hv := hv.1 hc
    refine j_iload_n dX10_take_115 rfl rfl ?_
    refine j_if_eq (tgt := 131) dX10_take_116 (by decide) (fun hc => ?_) (fun hc => ?_)
    · replace hv := hv.1 hc
      refine j_aload_n dX10_take_131 rfl rfl ?_
      refine j_aload_n dX10_take_132 rfl rfl ?_
      refine j_bipush (v := (6 : Int32)) dX10_take_133 (by decide) ?_
      refine j_iconst (v := (3 : Int32)) dX10_take_135 (by decide) ?_
      refine j_iconst (v := (1 : Int32)) dX10_take_136 (by decide) ?_
      obtain ⟨⟨fs, e1⟩, hv⟩ := hv
      refine j_virtual (avs := [.ref x1, .int (6 : Int32), .int (3 : Int32), .int (1 : Int32)]) (rest := []) (i := x0) (kc' := kc) (ks' := ks) dX10_take_137 mt_X10_passMany w_m_X10_218 w_in_X10_passMany w_se_X10_passMany rfl rfl (Nat.le_of_ble_eq_true rfl) (Nat.le_refl _) (by omega) (by omega) cl_X10.1 e1 hv (fun _ _ q9 => q9) ?_
      rintro _ h4 ⟨z5, rfl, hv⟩ -
      exact hv
    · replace hv := hv.2 hc
      refine j_aload_n dX10_take_119 rfl rfl ?_
      refine j_aload_n dX10_take_120 rfl rfl ?_
      refine j_bipush (v := (25 : Int32)) dX10_take_121 (by decide) ?_
      refine j_iconst (v := (5 : Int32)) dX10_take_123 (by decide) ?_
      refine j_iconst (v := (1 : Int32)) dX10_take_124 (by decide) ?_
      obtain ⟨⟨fs, e1⟩, hv⟩ := hv
      refine j_virtual (avs := [.ref x1, .int (25 : Int32), .int (5 : Int32), .int (1 : Int32)]) (rest := []) (i := x0) (kc' := kc) (ks' := ks) dX10_take_125 mt_X10_passMany w_m_X10_218 w_in_X10_passMany w_se_X10_passMany rfl rfl (Nat.le_of_ble_eq_true rfl) (Nat.le_refl _) (by omega) (by omega) cl_X10.1 e1 hv (fun _ _ q9 => q9) ?_
      rintro _ h6 ⟨z7, rfl, hv⟩ -
      refine j_goto (tgt := 140) dX10_take_128 (by decide) ?_
      exact hv
  · replace hv := hv.2 hc
    refine j_iconst (v := (4 : Int32)) dX10_take_113 (by decide) ?_
    exact j_iret dX10_take_114 rfl hv
set_option maxRecDepth 20000 in
set_option maxHeartbeats 4000000 in
theorem v_X10_take_76 {l : Launch} {d mc ms n0 kc ks : Nat} {Q : Option Value → qH → Prop} {QX : String → qH → Prop} (x0 : Nat) (x1 : Nat) (x2 : Int32) (x3 : Int32) (x4 : Int32) (x5 : Int32) (x6 : Int32) (x7 : Int32) {h : qH} (hv : qAL h x1 (4 : Int32) (fun z1 => qIF ((-40 : Int32) ≤ z1) (qIF (x2 = 0) (q_J l (d + 5) mX10_take mc ms Q QX n0 97 [some (.ref x0), some (.ref x1), some (.int x2), some (.int x3), some (.int x4), some (.int x5), some (.int x6), some (.int x7), none, none, none] [.int (40 : Int32)] h kc ks) (q_J l (d + 5) mX10_take mc ms Q QX n0 97 [some (.ref x0), some (.ref x1), some (.int x2), some (.int x3), some (.int x4), some (.int x5), some (.int x6), some (.int x7), none, none, none] [.int (90 : Int32)] h kc ks)) (Q (some (.int (3 : Int32))) h))) : q_J l (d + 5) mX10_take mc ms Q QX n0 76 [some (.ref x0), some (.ref x1), some (.int x2), some (.int x3), some (.int x4), some (.int x5), some (.int x6), some (.int x7), none, none, none] [] h kc ks := by
  refine j_aload_n dX10_take_76 rfl rfl ?_
  refine j_iconst (v := (4 : Int32)) dX10_take_77 (by decide) ?_
  obtain ⟨N, f, e1, e2, hv⟩ := hv
  refine j_iald dX10_take_78 e1 e2 ?_
  generalize f _ = z1 at hv ⊢
  refine j_bipush (v := (-40 : Int32)) dX10_take_79 (by decide) ?_
  refine j_icmp_ge (tgt := 86) dX10_take_81 (by decide) (fun hc => ?_) (fun hc => ?_)
  · replace hv := hv.1 hc
    refine j_iload_n dX10_take_86 rfl rfl ?_
    refine j_if_eq (tgt := 95) dX10_take_87 (by decide) (fun hc => ?_) (fun hc => ?_)
    · replace hv := hv.1 hc
      refine j_bipush (v := (40 : Int32)) dX10_take_95 (by decide) ?_
      exact hv
    · replace hv := hv.2 hc
      refine j_bipush (v := (90 : Int32)) dX10_take_90 (by decide) ?_
      refine j_goto (tgt := 97) dX10_take_92 (by decide) ?_
      exact hv
  · replace hv := hv.2 hc
    refine j_iconst (v := (3 : Int32)) dX10_take_84 (by decide) ?_
    exact j_iret dX10_take_85 rfl hv
set_option maxRecDepth 20000 in
set_option maxHeartbeats 4000000 in
theorem v_X10_take {l : Launch} {d mc ms : Nat} {Q : Option Value → qH → Prop} {QX : String → qH → Prop} (x0 : Nat) (x1 : Nat) (x2 : Int32) (x3 : Int32) (x4 : Int32) {h : qH} (hv : qGR h x0 10 6 (fun r1 => qAL h r1 ((4 : Int32) * x3) (fun z2 => qGR h x0 10 6 (fun r3 => qAL h r3 (((4 : Int32) * x3) + (1 : Int32)) (fun z4 => qAL h x1 (1 : Int32) (fun z5 => qAL h x1 (2 : Int32) (fun z6 => qCI l (d + 4) mX10_distance [.int z5, .int z6, .int z2, .int z4] h 0 0 (fun z8 h7 => qIF (x2 = 0) (qIF ((6 : Int32) < z8) (Q (some (.int (5 : Int32))) h7) (qAL h7 x1 (1 : Int32) (fun z9 => qAL h7 x1 (2 : Int32) (fun z10 => qOB h7 x0 10 (qCI l (d + 4) mX10_isSeen [.ref x0, .int z9, .int z10, .int z2, .int z4] h7 0 0 (fun z12 h11 => qIF (z12 = 0) (Q (some (.int (5 : Int32))) h11) (q_J l (d + 5) mX10_take mc ms Q QX h.2 76 [some (.ref x0), some (.ref x1), some (.int x2), some (.int x3), some (.int x4), some (.int z2), some (.int z4), some (.int z8), none, none, none] [] h11 mc ms))))))) (qIF (z8 ≤ (1 : Int32)) (q_J l (d + 5) mX10_take mc ms Q QX h.2 76 [some (.ref x0), some (.ref x1), some (.int x2), some (.int x3), some (.int x4), some (.int z2), some (.int z4), some (.int z8), none, none, none] [] h7 mc ms) (Q (some (.int (5 : Int32))) h7)))))))))) : q_Ct l (d + 5) mX10_take [.ref x0, .ref x1, .int x2, .int x3, .int x4] h mc ms Q QX := by
  refine q_body (by decide ) (by intro v hm; simp only [List.mem_cons, List.not_mem_nil, or_false] at hm; rcases hm with rfl | rfl | rfl | rfl | rfl <;> rfl) (Nat.le_of_ble_eq_true rfl) ?_
  refine j_pad 6 rfl ?_
  refine j_aload_n dX10_take_0 rfl rfl ?_
  obtain ⟨fs, r1, e1, e2, hv⟩ := hv
  refine j_getf (k := 6) cl_X10 (by decide) w_f_X10_24 dX10_take_1 e1 e2 ?_
  refine j_iconst (v := (4 : Int32)) dX10_take_4 (by decide) ?_
  refine j_iload_n dX10_take_5 rfl rfl ?_
  refine j_imul dX10_take_6 ?_
  obtain ⟨N, f, e1, e2, hv⟩ := hv
  refine j_iald dX10_take_7 e1 e2 ?_
  generalize f _ = z2 at hv ⊢
  refine j_istore dX10_take_8 (by decide) rfl rfl ?_
  refine j_aload_n dX10_take_10 rfl rfl ?_
  obtain ⟨fs, r3, e1, e2, hv⟩ := hv
  refine j_getf (k := 6) cl_X10 (by decide) w_f_X10_24 dX10_take_11 e1 e2 ?_
  refine j_iconst (v := (4 : Int32)) dX10_take_14 (by decide) ?_
  refine j_iload_n dX10_take_15 rfl rfl ?_
  refine j_imul dX10_take_16 ?_
  refine j_iconst (v := (1 : Int32)) dX10_take_17 (by decide) ?_
  refine j_iadd dX10_take_18 ?_
  obtain ⟨N, f, e1, e2, hv⟩ := hv
  refine j_iald dX10_take_19 e1 e2 ?_
  generalize f _ = z4 at hv ⊢
  refine j_istore dX10_take_20 (by decide) rfl rfl ?_
  refine j_aload_n dX10_take_22 rfl rfl ?_
  refine j_iconst (v := (1 : Int32)) dX10_take_23 (by decide) ?_
  obtain ⟨N, f, e1, e2, hv⟩ := hv
  refine j_iald dX10_take_24 e1 e2 ?_
  generalize f _ = z5 at hv ⊢
  refine j_aload_n dX10_take_25 rfl rfl ?_
  refine j_iconst (v := (2 : Int32)) dX10_take_26 (by decide) ?_
  obtain ⟨N, f, e1, e2, hv⟩ := hv
  refine j_iald dX10_take_27 e1 e2 ?_
  generalize f _ = z6 at hv ⊢
  refine j_iload dX10_take_28 rfl ?_
  refine j_iload dX10_take_30 rfl ?_
  refine j_static (avs := [.int z5, .int z6, .int z2, .int z4]) (rest := []) (kc' := mc) (ks' := ms) dX10_take_32 mt_X10_distance w_m_X10_136 w_st_X10_distance rfl rfl (Nat.le_of_ble_eq_true rfl) (Nat.le_refl _) (by omega) (by omega) hv (fun _ _ q9 => q9) ?_
  rintro _ h7 ⟨z8, rfl, hv⟩ -
  refine j_istore dX10_take_35 (by decide) rfl rfl ?_
  refine j_iload_n dX10_take_37 rfl rfl ?_
  refine j_if_eq (tgt := 50) dX10_take_38 (by decide) (fun hc => ?_) (fun hc => ?_)
  · replace hv := hv.1 hc
    refine j_iload dX10_take_50 rfl ?_
    refine j_bipush (v := (6 : Int32)) dX10_take_52 (by decide) ?_
    refine j_icmp_gt (tgt := 74) dX10_take_54 (by decide) (fun hc => ?_) (fun hc => ?_)
    · replace hv := hv.1 hc
      refine j_iconst (v := (5 : Int32)) dX10_take_74 (by decide) ?_
      exact j_iret dX10_take_75 rfl hv
    · replace hv := hv.2 hc
      refine j_aload_n dX10_take_57 rfl rfl ?_
      refine j_aload_n dX10_take_58 rfl rfl ?_
      refine j_iconst (v := (1 : Int32)) dX10_take_59 (by decide) ?_
      obtain ⟨N, f, e1, e2, hv⟩ := hv
      refine j_iald dX10_take_60 e1 e2 ?_
      generalize f _ = z9 at hv ⊢
      refine j_aload_n dX10_take_61 rfl rfl ?_
      refine j_iconst (v := (2 : Int32)) dX10_take_62 (by decide) ?_
      obtain ⟨N, f, e1, e2, hv⟩ := hv
      refine j_iald dX10_take_63 e1 e2 ?_
      generalize f _ = z10 at hv ⊢
      refine j_iload dX10_take_64 rfl ?_
      refine j_iload dX10_take_66 rfl ?_
      obtain ⟨⟨fs, e1⟩, hv⟩ := hv
      refine j_virtual (avs := [.int z9, .int z10, .int z2, .int z4]) (rest := []) (i := x0) (kc' := mc) (ks' := ms) dX10_take_68 mt_X10_isSeen w_m_X10_148 w_in_X10_isSeen w_se_X10_isSeen rfl rfl (Nat.le_of_ble_eq_true rfl) (Nat.le_refl _) (by omega) (by omega) cl_X10.1 e1 hv (fun _ _ q9 => q9) ?_
      rintro _ h11 ⟨z12, rfl, hv⟩ -
      refine j_if_ne (tgt := 76) dX10_take_71 (by decide) (fun hc => ?_) (fun hc => ?_)
      · replace hv := hv.2 hc
        exact hv
      · replace hv := hv.1 hc
        refine j_iconst (v := (5 : Int32)) dX10_take_74 (by decide) ?_
        exact j_iret dX10_take_75 rfl hv
  · replace hv := hv.2 hc
    refine j_iload dX10_take_41 rfl ?_
    refine j_iconst (v := (1 : Int32)) dX10_take_43 (by decide) ?_
    refine j_icmp_le (tgt := 76) dX10_take_44 (by decide) (fun hc => ?_) (fun hc => ?_)
    · replace hv := hv.1 hc
      exact hv
    · replace hv := hv.2 hc
      refine j_goto (tgt := 74) dX10_take_47 (by decide) ?_
      refine j_iconst (v := (5 : Int32)) dX10_take_74 (by decide) ?_
      exact j_iret dX10_take_75 rfl hv
set_option maxRecDepth 20000 in
set_option maxHeartbeats 4000000 in
theorem v_X10_nextPiece_4 {l : Launch} {d mc ms n0 kc ks : Nat} {Q : Option Value → qH → Prop} {QX : String → qH → Prop} (x0 : Nat) (x1 : Int32) (x2 : Int32) {h : qH} (hv : qAL h x0 (9 : Int32) (fun z1 => qIF (z1 ≤ x2) (Q (some (.int x1)) h) (qIF (x1 = (-1 : Int32)) (q_J l (d + 0) mX10_nextPiece mc ms Q QX n0 4 [some (.ref x0), some (.int x2), some (.int (x2 + (1 : Int32)))] [] h kc ks) (qAL h x0 (((34 : Int32) + ((4 : Int32) * x2)) + (2 : Int32)) (fun z2 => qAL h x0 (((34 : Int32) + ((4 : Int32) * x1)) + (2 : Int32)) (fun z3 => qIF (z2 ≤ z3) (q_J l (d + 0) mX10_nextPiece mc ms Q QX n0 4 [some (.ref x0), some (.int x1), some (.int (x2 + (1 : Int32)))] [] h kc ks) (q_J l (d + 0) mX10_nextPiece mc ms Q QX n0 4 [some (.ref x0), some (.int x2), some (.int (x2 + (1 : Int32)))] [] h kc ks))))))) : q_J l (d + 0) mX10_nextPiece mc ms Q QX n0 4 [some (.ref x0), some (.int x1), some (.int x2)] [] h kc ks := by
  refine j_iload_n dX10_nextPiece_4 rfl rfl ?_
  refine j_aload_n dX10_nextPiece_5 rfl rfl ?_
  refine j_bipush (v := (9 : Int32)) dX10_nextPiece_6 (by decide) ?_
  obtain ⟨N, f, e1, e2, hv⟩ := hv
  refine j_iald dX10_nextPiece_8 e1 e2 ?_
  generalize f _ = z1 at hv ⊢
  refine j_icmp_ge (tgt := 48) dX10_nextPiece_9 (by decide) (fun hc => ?_) (fun hc => ?_)
  · replace hv := hv.1 hc
    refine j_iload_n dX10_nextPiece_48 rfl rfl ?_
    exact j_iret dX10_nextPiece_49 rfl hv
  · replace hv := hv.2 hc
    refine j_iload_n dX10_nextPiece_12 rfl rfl ?_
    refine j_iconst (v := (-1 : Int32)) dX10_nextPiece_13 (by decide) ?_
    refine j_icmp_eq (tgt := 40) dX10_nextPiece_14 (by decide) (fun hc => ?_) (fun hc => ?_)
    · replace hv := hv.1 hc
      refine j_iload_n dX10_nextPiece_40 rfl rfl ?_
      refine j_istore_n dX10_nextPiece_41 rfl (by decide) rfl rfl ?_
      refine j_iinc (w := (x2 + (1 : Int32))) dX10_nextPiece_42 rfl (by rfl) (by decide) rfl rfl ?_
      refine j_goto (tgt := 4) dX10_nextPiece_45 (by decide) ?_
      exact hv
    · replace hv := hv.2 hc
      refine j_aload_n dX10_nextPiece_17 rfl rfl ?_
      refine j_bipush (v := (34 : Int32)) dX10_nextPiece_18 (by decide) ?_
      refine j_iconst (v := (4 : Int32)) dX10_nextPiece_20 (by decide) ?_
      refine j_iload_n dX10_nextPiece_21 rfl rfl ?_
      refine j_imul dX10_nextPiece_22 ?_
      refine j_iadd dX10_nextPiece_23 ?_
      refine j_iconst (v := (2 : Int32)) dX10_nextPiece_24 (by decide) ?_
      refine j_iadd dX10_nextPiece_25 ?_
      obtain ⟨N, f, e1, e2, hv⟩ := hv
      refine j_iald dX10_nextPiece_26 e1 e2 ?_
      generalize f _ = z2 at hv ⊢
      refine j_aload_n dX10_nextPiece_27 rfl rfl ?_
      refine j_bipush (v := (34 : Int32)) dX10_nextPiece_28 (by decide) ?_
      refine j_iconst (v := (4 : Int32)) dX10_nextPiece_30 (by decide) ?_
      refine j_iload_n dX10_nextPiece_31 rfl rfl ?_
      refine j_imul dX10_nextPiece_32 ?_
      refine j_iadd dX10_nextPiece_33 ?_
      refine j_iconst (v := (2 : Int32)) dX10_nextPiece_34 (by decide) ?_
      refine j_iadd dX10_nextPiece_35 ?_
      obtain ⟨N, f, e1, e2, hv⟩ := hv
      refine j_iald dX10_nextPiece_36 e1 e2 ?_
      generalize f _ = z3 at hv ⊢
      refine j_icmp_le (tgt := 42) dX10_nextPiece_37 (by decide) (fun hc => ?_) (fun hc => ?_)
      · replace hv := hv.1 hc
        refine j_iinc (w := (x2 + (1 : Int32))) dX10_nextPiece_42 rfl (by rfl) (by decide) rfl rfl ?_
        refine j_goto (tgt := 4) dX10_nextPiece_45 (by decide) ?_
        exact hv
      · replace hv := hv.2 hc
        refine j_iload_n dX10_nextPiece_40 rfl rfl ?_
        refine j_istore_n dX10_nextPiece_41 rfl (by decide) rfl rfl ?_
        refine j_iinc (w := (x2 + (1 : Int32))) dX10_nextPiece_42 rfl (by rfl) (by decide) rfl rfl ?_
        refine j_goto (tgt := 4) dX10_nextPiece_45 (by decide) ?_
        exact hv
set_option maxRecDepth 20000 in
set_option maxHeartbeats 4000000 in
theorem v_X10_nextPiece {l : Launch} {d mc ms : Nat} {Q : Option Value → qH → Prop} {QX : String → qH → Prop} (x0 : Nat) {h : qH} (hv : q_J l (d + 0) mX10_nextPiece mc ms Q QX h.2 4 [some (.ref x0), some (.int (-1 : Int32)), some (.int (0 : Int32))] [] h mc ms) : q_Ct l (d + 0) mX10_nextPiece [.ref x0] h mc ms Q QX := by
  refine q_body (by decide ) (by intro v hm; simp only [List.mem_cons, List.not_mem_nil, or_false] at hm; subst hm; rfl) (Nat.le_of_ble_eq_true rfl) ?_
  refine j_pad 2 rfl ?_
  refine j_iconst (v := (-1 : Int32)) dX10_nextPiece_0 (by decide) ?_
  refine j_istore_n dX10_nextPiece_1 rfl (by decide) rfl rfl ?_
  refine j_iconst (v := (0 : Int32)) dX10_nextPiece_2 (by decide) ?_
  refine j_istore_n dX10_nextPiece_3 rfl (by decide) rfl rfl ?_
  exact hv
set_option maxRecDepth 20000 in
set_option maxHeartbeats 4000000 in
theorem v_X10_isGone_48 {l : Launch} {d mc ms n0 kc ks : Nat} {Q : Option Value → qH → Prop} {QX : String → qH → Prop} (x0 : Nat) (x1 : Int32) (x2 : Int32) (x3 : Int32) {h : qH} (hv : qAL h x0 (9 : Int32) (fun z1 => qAS h x0 (9 : Int32) (z1 - (1 : Int32)) (fun h2 => qAL h2 x0 (9 : Int32) (fun z3 => qCP h2 x0 ((34 : Int32) + ((4 : Int32) * (x1 + (1 : Int32)))) x0 ((34 : Int32) + ((4 : Int32) * x1)) ((4 : Int32) * (z3 - x1)) (fun h4 => Q none h4))))) : q_J l (d + 1) mX10_isGone mc ms Q QX n0 48 [some (.ref x0), some (.int x1), some (.int x2), some (.int x3)] [] h kc ks := by
  refine j_aload_n dX10_isGone_48 rfl rfl ?_
  refine j_bipush (v := (9 : Int32)) dX10_isGone_49 (by decide) ?_
  refine j_dup2 dX10_isGone_51 rfl rfl ?_
  obtain ⟨N, f, e1, e2, hv⟩ := hv
  refine j_iald dX10_isGone_52 e1 e2 ?_
  generalize f _ = z1 at hv ⊢
  refine j_iconst (v := (1 : Int32)) dX10_isGone_53 (by decide) ?_
  refine j_isub dX10_isGone_54 ?_
  obtain ⟨N, f, e1, e2, hv⟩ := hv
  refine j_iast dX10_isGone_55 e1 e2 ?_
  generalize q_set h x0 _ = h2 at hv ⊢
  refine j_aload_n dX10_isGone_56 rfl rfl ?_
  refine j_bipush (v := (34 : Int32)) dX10_isGone_57 (by decide) ?_
  refine j_iconst (v := (4 : Int32)) dX10_isGone_59 (by decide) ?_
  refine j_iload_n dX10_isGone_60 rfl rfl ?_
  refine j_iconst (v := (1 : Int32)) dX10_isGone_61 (by decide) ?_
  refine j_iadd dX10_isGone_62 ?_
  refine j_imul dX10_isGone_63 ?_
  refine j_iadd dX10_isGone_64 ?_
  refine j_aload_n dX10_isGone_65 rfl rfl ?_
  refine j_bipush (v := (34 : Int32)) dX10_isGone_66 (by decide) ?_
  refine j_iconst (v := (4 : Int32)) dX10_isGone_68 (by decide) ?_
  refine j_iload_n dX10_isGone_69 rfl rfl ?_
  refine j_imul dX10_isGone_70 ?_
  refine j_iadd dX10_isGone_71 ?_
  refine j_iconst (v := (4 : Int32)) dX10_isGone_72 (by decide) ?_
  refine j_aload_n dX10_isGone_73 rfl rfl ?_
  refine j_bipush (v := (9 : Int32)) dX10_isGone_74 (by decide) ?_
  obtain ⟨N, f, e1, e2, hv⟩ := hv
  refine j_iald dX10_isGone_76 e1 e2 ?_
  generalize f _ = z3 at hv ⊢
  refine j_iload_n dX10_isGone_77 rfl rfl ?_
  refine j_isub dX10_isGone_78 ?_
  refine j_imul dX10_isGone_79 ?_
  obtain ⟨N0, N1, f0, f1, e1, e2, q1, q2, q3, q4, q5, hv⟩ := hv
  refine j_copy dX10_isGone_80 w_m_X10_151 w_na_copy w_st_copy w_ini_System (Nat.le_of_ble_eq_true rfl) (by omega) e1 e2 q1 q2 q3 q4 q5 ?_
  generalize q_set h2 x0 _ = h4 at hv ⊢
  exact j_vret dX10_isGone_83 rfl hv
set_option maxRecDepth 20000 in
set_option maxHeartbeats 4000000 in
theorem v_X10_isGone {l : Launch} {d mc ms : Nat} {Q : Option Value → qH → Prop} {QX : String → qH → Prop} (x0 : Nat) (x1 : Int32) {h : qH} (hv : qAL h x0 ((34 : Int32) + ((4 : Int32) * x1)) (fun z1 => qAL h x0 (((34 : Int32) + ((4 : Int32) * x1)) + (3 : Int32)) (fun z2 => qIF (z2 = (9 : Int32)) (qAS h x0 ((22 : Int32) + z1) (1 : Int32) (fun h5 => q_J l (d + 1) mX10_isGone mc ms Q QX h.2 48 [some (.ref x0), some (.int x1), some (.int z1), some (.int z2)] [] h5 mc ms)) (qAL h x0 ((10 : Int32) + z1) (fun z3 => qAS h x0 ((10 : Int32) + z1) (z3 ||| ((1 : Int32) <<< (z2 &&& 31))) (fun h4 => q_J l (d + 1) mX10_isGone mc ms Q QX h.2 48 [some (.ref x0), some (.int x1), some (.int z1), some (.int z2)] [] h4 mc ms)))))) : q_Ct l (d + 1) mX10_isGone [.ref x0, .int x1] h mc ms Q QX := by
  refine q_body (by decide ) (by intro v hm; simp only [List.mem_cons, List.not_mem_nil, or_false] at hm; rcases hm with rfl | rfl <;> rfl) (Nat.le_of_ble_eq_true rfl) ?_
  refine j_pad 2 rfl ?_
  refine j_aload_n dX10_isGone_0 rfl rfl ?_
  refine j_bipush (v := (34 : Int32)) dX10_isGone_1 (by decide) ?_
  refine j_iconst (v := (4 : Int32)) dX10_isGone_3 (by decide) ?_
  refine j_iload_n dX10_isGone_4 rfl rfl ?_
  refine j_imul dX10_isGone_5 ?_
  refine j_iadd dX10_isGone_6 ?_
  obtain ⟨N, f, e1, e2, hv⟩ := hv
  refine j_iald dX10_isGone_7 e1 e2 ?_
  generalize f _ = z1 at hv ⊢
  refine j_istore_n dX10_isGone_8 rfl (by decide) rfl rfl ?_
  refine j_aload_n dX10_isGone_9 rfl rfl ?_
  refine j_bipush (v := (34 : Int32)) dX10_isGone_10 (by decide) ?_
  refine j_iconst (v := (4 : Int32)) dX10_isGone_12 (by decide) ?_
  refine j_iload_n dX10_isGone_13 rfl rfl ?_
  refine j_imul dX10_isGone_14 ?_
  refine j_iadd dX10_isGone_15 ?_
  refine j_iconst (v := (3 : Int32)) dX10_isGone_16 (by decide) ?_
  refine j_iadd dX10_isGone_17 ?_
  obtain ⟨N, f, e1, e2, hv⟩ := hv
  refine j_iald dX10_isGone_18 e1 e2 ?_
  generalize f _ = z2 at hv ⊢
  refine j_istore_n dX10_isGone_19 rfl (by decide) rfl rfl ?_
  refine j_iload_n dX10_isGone_20 rfl rfl ?_
  refine j_bipush (v := (9 : Int32)) dX10_isGone_21 (by decide) ?_
  refine j_icmp_ne (tgt := 36) dX10_isGone_23 (by decide) (fun hc => ?_) (fun hc => ?_)
  · replace hv := hv.2 hc
    refine j_aload_n dX10_isGone_36 rfl rfl ?_
    refine j_bipush (v := (10 : Int32)) dX10_isGone_37 (by decide) ?_
    refine j_iload_n dX10_isGone_39 rfl rfl ?_
    refine j_iadd dX10_isGone_40 ?_
    refine j_dup2 dX10_isGone_41 rfl rfl ?_
    obtain ⟨N, f, e1, e2, hv⟩ := hv
    refine j_iald dX10_isGone_42 e1 e2 ?_
    generalize f _ = z3 at hv ⊢
    refine j_iconst (v := (1 : Int32)) dX10_isGone_43 (by decide) ?_
    refine j_iload_n dX10_isGone_44 rfl rfl ?_
    refine j_ishl dX10_isGone_45 ?_
    refine j_ior dX10_isGone_46 ?_
    obtain ⟨N, f, e1, e2, hv⟩ := hv
    refine j_iast dX10_isGone_47 e1 e2 ?_
    generalize q_set h x0 _ = h4 at hv ⊢
    exact hv
  · replace hv := hv.1 hc
    refine j_aload_n dX10_isGone_26 rfl rfl ?_
    refine j_bipush (v := (22 : Int32)) dX10_isGone_27 (by decide) ?_
    refine j_iload_n dX10_isGone_29 rfl rfl ?_
    refine j_iadd dX10_isGone_30 ?_
    refine j_iconst (v := (1 : Int32)) dX10_isGone_31 (by decide) ?_
    obtain ⟨N, f, e1, e2, hv⟩ := hv
    refine j_iast dX10_isGone_32 e1 e2 ?_
    generalize q_set h x0 _ = h5 at hv ⊢
    refine j_goto (tgt := 48) dX10_isGone_33 (by decide) ?_
    exact hv
set_option maxRecDepth 20000 in
set_option maxHeartbeats 4000000 in
theorem v_X10_send_60 {l : Launch} {d mc ms n0 kc ks : Nat} {Q : Option Value → qH → Prop} {QX : String → qH → Prop} (x0 : Nat) (x1 : Nat) (x2 : Int32) (x3 : Int32) (x4 : Int32) (x5 : Int32) {h : qH} (hv : qIF (x5 ≤ 0) (q_J l (d + 4) mX10_send mc ms Q QX n0 22 [some (.ref x0), some (.ref x1), some (.int x2), some (.int x3), some (.int (x4 + (1 : Int32))), none, none, none] [] h kc ks) (qAL h x1 (9 : Int32) (fun z1 => qIF (z1 ≤ 0) (q_J l (d + 4) mX10_send mc ms Q QX n0 22 [some (.ref x0), some (.ref x1), some (.int x2), some (.int x3), some (.int (x4 + (1 : Int32))), none, none, none] [] h kc ks) (qCI l (d + 3) mX10_nextPiece [.ref x1] h 0 0 (fun z3 h2 => qAL h2 x1 (((34 : Int32) + ((4 : Int32) * z3)) + (1 : Int32)) (fun z4 => qAL h2 x1 (((34 : Int32) + ((4 : Int32) * z3)) + (1 : Int32)) (fun z6 => qAS h2 x1 (((34 : Int32) + ((4 : Int32) * z3)) + (1 : Int32)) (z6 - (if z4 < x5 then z4 else x5)) (fun h7 => qAL h7 x1 (7 : Int32) (fun z8 => qAS h7 x1 (7 : Int32) (z8 + (if z4 < x5 then z4 else x5)) (fun h9 => qAL h9 x1 (((34 : Int32) + ((4 : Int32) * z3)) + (1 : Int32)) (fun z10 => qIF (z10 = 0) (qCV l (d + 3) mX10_isGone [.ref x1, .int z3] h9 0 0 (fun h11 => q_J l (d + 4) mX10_send mc ms Q QX n0 60 [some (.ref x0), some (.ref x1), some (.int x2), some (.int x3), some (.int x4), some (.int (x5 - (if z4 < x5 then z4 else x5))), none, none] [] h11 kc ks)) (q_J l (d + 4) mX10_send mc ms Q QX n0 60 [some (.ref x0), some (.ref x1), some (.int x2), some (.int x3), some (.int x4), some (.int (x5 - (if z4 < x5 then z4 else x5))), none, none] [] h9 kc ks)))))))))))) : q_J l (d + 4) mX10_send mc ms Q QX n0 60 [some (.ref x0), some (.ref x1), some (.int x2), some (.int x3), some (.int x4), some (.int x5), none, none] [] h kc ks := by
  refine j_iload dX10_send_60 rfl ?_
  refine j_if_le (tgt := 151) dX10_send_62 (by decide) (fun hc => ?_) (fun hc => ?_)
  · replace hv := hv.1 hc
    refine j_iinc (w := (x4 + (1 : Int32))) dX10_send_151 rfl (by rfl) (by decide) rfl rfl ?_
    refine j_goto (tgt := 22) dX10_send_154 (by decide) ?_
    refine j_mask [true, true, true, true, true, false, true, true] rfl ?_
    exact hv
  · replace hv := hv.2 hc
    refine j_aload_n dX10_send_65 rfl rfl ?_
    refine j_bipush (v := (9 : Int32)) dX10_send_66 (by decide) ?_
    obtain ⟨N, f, e1, e2, hv⟩ := hv
    refine j_iald dX10_send_68 e1 e2 ?_
    generalize f _ = z1 at hv ⊢
    refine j_if_le (tgt := 151) dX10_send_69 (by decide) (fun hc => ?_) (fun hc => ?_)
    · replace hv := hv.1 hc
      refine j_iinc (w := (x4 + (1 : Int32))) dX10_send_151 rfl (by rfl) (by decide) rfl rfl ?_
      refine j_goto (tgt := 22) dX10_send_154 (by decide) ?_
      refine j_mask [true, true, true, true, true, false, true, true] rfl ?_
      exact hv
    · replace hv := hv.2 hc
      refine j_aload_n dX10_send_72 rfl rfl ?_
      refine j_static (avs := [.ref x1]) (rest := []) (kc' := kc) (ks' := ks) dX10_send_73 mt_X10_nextPiece w_m_X10_225 w_st_X10_nextPiece rfl rfl (Nat.le_of_ble_eq_true rfl) (Nat.le_refl _) (by omega) (by omega) hv (fun _ _ q9 => q9) ?_
      rintro _ h2 ⟨z3, rfl, hv⟩ -
      refine j_istore dX10_send_76 (by decide) rfl rfl ?_
      refine j_iload dX10_send_78 rfl ?_
      refine j_aload_n dX10_send_80 rfl rfl ?_
      refine j_bipush (v := (34 : Int32)) dX10_send_81 (by decide) ?_
      refine j_iconst (v := (4 : Int32)) dX10_send_83 (by decide) ?_
      refine j_iload dX10_send_84 rfl ?_
      refine j_imul dX10_send_86 ?_
      refine j_iadd dX10_send_87 ?_
      refine j_iconst (v := (1 : Int32)) dX10_send_88 (by decide) ?_
      refine j_iadd dX10_send_89 ?_
      obtain ⟨N, f, e1, e2, hv⟩ := hv
      refine j_iald dX10_send_90 e1 e2 ?_
      generalize f _ = z4 at hv ⊢
      refine j_mmin dX10_send_91 w_m_X10_204 w_st_min w_ini_Math w_co_min (Nat.le_of_ble_eq_true rfl) (by omega) ?_
      refine j_istore dX10_send_94 (by decide) rfl rfl ?_
      refine j_aload_n dX10_send_96 rfl rfl ?_
      refine j_bipush (v := (34 : Int32)) dX10_send_97 (by decide) ?_
      refine j_iconst (v := (4 : Int32)) dX10_send_99 (by decide) ?_
      refine j_iload dX10_send_100 rfl ?_
      refine j_imul dX10_send_102 ?_
      refine j_iadd dX10_send_103 ?_
      refine j_iconst (v := (1 : Int32)) dX10_send_104 (by decide) ?_
      refine j_iadd dX10_send_105 ?_
      refine j_dup2 dX10_send_106 rfl rfl ?_
      obtain ⟨N, f, e1, e2, hv⟩ := hv
      refine j_iald dX10_send_107 e1 e2 ?_
      generalize f _ = z6 at hv ⊢
      refine j_iload dX10_send_108 rfl ?_
      refine j_isub dX10_send_110 ?_
      obtain ⟨N, f, e1, e2, hv⟩ := hv
      refine j_iast dX10_send_111 e1 e2 ?_
      generalize q_set h2 x1 _ = h7 at hv ⊢
      refine j_aload_n dX10_send_112 rfl rfl ?_
      refine j_bipush (v := (7 : Int32)) dX10_send_113 (by decide) ?_
      refine j_dup2 dX10_send_115 rfl rfl ?_
      obtain ⟨N, f, e1, e2, hv⟩ := hv
      refine j_iald dX10_send_116 e1 e2 ?_
      generalize f _ = z8 at hv ⊢
      refine j_iload dX10_send_117 rfl ?_
      refine j_iadd dX10_send_119 ?_
      obtain ⟨N, f, e1, e2, hv⟩ := hv
      refine j_iast dX10_send_120 e1 e2 ?_
      generalize q_set h7 x1 _ = h9 at hv ⊢
      refine j_iload dX10_send_121 rfl ?_
      refine j_iload dX10_send_123 rfl ?_
      refine j_isub dX10_send_125 ?_
      refine j_istore dX10_send_126 (by decide) rfl rfl ?_
      refine j_aload_n dX10_send_128 rfl rfl ?_
      refine j_bipush (v := (34 : Int32)) dX10_send_129 (by decide) ?_
      refine j_iconst (v := (4 : Int32)) dX10_send_131 (by decide) ?_
      refine j_iload dX10_send_132 rfl ?_
      refine j_imul dX10_send_134 ?_
      refine j_iadd dX10_send_135 ?_
      refine j_iconst (v := (1 : Int32)) dX10_send_136 (by decide) ?_
      refine j_iadd dX10_send_137 ?_
      obtain ⟨N, f, e1, e2, hv⟩ := hv
      refine j_iald dX10_send_138 e1 e2 ?_
      generalize f _ = z10 at hv ⊢
      refine j_if_ne (tgt := 148) dX10_send_139 (by decide) (fun hc => ?_) (fun hc => ?_)
      · replace hv := hv.2 hc
        refine j_goto (tgt := 60) dX10_send_148 (by decide) ?_
        refine j_mask [true, true, true, true, true, true, false, false] rfl ?_
        exact hv
      · replace hv := hv.1 hc
        refine j_aload_n dX10_send_142 rfl rfl ?_
        refine j_iload dX10_send_143 rfl ?_
        refine j_static (avs := [.ref x1, .int z3]) (rest := []) (kc' := kc) (ks' := ks) dX10_send_145 mt_X10_isGone w_m_X10_228 w_st_X10_isGone rfl rfl (Nat.le_of_ble_eq_true rfl) (Nat.le_refl _) (by omega) (by omega) hv (fun _ _ q9 => q9) ?_
        rintro _ h11 ⟨rfl, hv⟩ -
        refine j_goto (tgt := 60) dX10_send_148 (by decide) ?_
        refine j_mask [true, true, true, true, true, true, false, false] rfl ?_
        exact hv
set_option maxRecDepth 20000 in
set_option maxHeartbeats 4000000 in
theorem v_X10_send_22 {l : Launch} {d mc ms n0 kc ks : Nat} {Q : Option Value → qH → Prop} {QX : String → qH → Prop} (x0 : Nat) (x1 : Nat) (x2 : Int32) (x3 : Int32) (x4 : Int32) {h : qH} (hv : qIF (x2 ≤ x4) (Q (some (.int x3)) h) (qIF (x3 = 0) (qAL h x1 (9 : Int32) (fun z1 => qIF (z1 ≤ 0) (Q (some (.int x3)) h) (qAL h x1 (0 : Int32) (fun z2 => qOB h x0 10 (qCI l (d + 3) mX10_rateAt [.ref x0, .int (z2 - z2 / (1440 : Int32) * (1440 : Int32))] h 0 0 (fun z4 h3 => qOB h3 x0 10 (qCI l (d + 3) mX10_pass [.ref x0, .ref x1, .int (4 : Int32), .int (1 : Int32)] h3 0 0 (fun z6 h5 => q_J l (d + 4) mX10_send mc ms Q QX n0 60 [some (.ref x0), some (.ref x1), some (.int x2), some (.int z6), some (.int x4), some (.int z4), none, none] [] h5 kc ks)))))))) (Q (some (.int x3)) h))) : q_J l (d + 4) mX10_send mc ms Q QX n0 22 [some (.ref x0), some (.ref x1), some (.int x2), some (.int x3), some (.int x4), none, none, none] [] h kc ks := by
  refine j_iload dX10_send_22 rfl ?_
  refine j_iload_n dX10_send_24 rfl rfl ?_
  refine j_icmp_ge (tgt := 157) dX10_send_25 (by decide) (fun hc => ?_) (fun hc => ?_)
  · replace hv := hv.1 hc
    refine j_iload_n dX10_send_157 rfl rfl ?_
    exact j_iret dX10_send_158 rfl hv
  · replace hv := hv.2 hc
    refine j_iload_n dX10_send_28 rfl rfl ?_
    refine j_if_ne (tgt := 157) dX10_send_29 (by decide) (fun hc => ?_) (fun hc => ?_)
    · replace hv := hv.2 hc
      refine j_iload_n dX10_send_157 rfl rfl ?_
      exact j_iret dX10_send_158 rfl hv
    · replace hv := hv.1 hc
      refine j_aload_n dX10_send_32 rfl rfl ?_
      refine j_bipush (v := (9 : Int32)) dX10_send_33 (by decide) ?_
      obtain ⟨N, f, e1, e2, hv⟩ := hv
      refine j_iald dX10_send_35 e1 e2 ?_
      generalize f _ = z1 at hv ⊢
      refine j_if_le (tgt := 157) dX10_send_36 (by decide) (fun hc => ?_) (fun hc => ?_)
      · replace hv := hv.1 hc
        refine j_iload_n dX10_send_157 rfl rfl ?_
        exact j_iret dX10_send_158 rfl hv
      · replace hv := hv.2 hc
        refine j_aload_n dX10_send_39 rfl rfl ?_
        refine j_aload_n dX10_send_40 rfl rfl ?_
        refine j_iconst (v := (0 : Int32)) dX10_send_41 (by decide) ?_
        obtain ⟨N, f, e1, e2, hv⟩ := hv
        refine j_iald dX10_send_42 e1 e2 ?_
        generalize f _ = z2 at hv ⊢
        refine j_sipush (v := (1440 : Int32)) dX10_send_43 (by decide) ?_
        refine j_irem dX10_send_46 (by decide) ?_
        obtain ⟨⟨fs, e1⟩, hv⟩ := hv
        refine j_virtual (avs := [.int (z2 - z2 / (1440 : Int32) * (1440 : Int32))]) (rest := []) (i := x0) (kc' := kc) (ks' := ks) dX10_send_47 mt_X10_rateAt w_m_X10_188 w_in_X10_rateAt w_se_X10_rateAt rfl rfl (Nat.le_of_ble_eq_true rfl) (Nat.le_refl _) (by omega) (by omega) cl_X10.1 e1 hv (fun _ _ q9 => q9) ?_
        rintro _ h3 ⟨z4, rfl, hv⟩ -
        refine j_istore dX10_send_50 (by decide) rfl rfl ?_
        refine j_aload_n dX10_send_52 rfl rfl ?_
        refine j_aload_n dX10_send_53 rfl rfl ?_
        refine j_iconst (v := (4 : Int32)) dX10_send_54 (by decide) ?_
        refine j_iconst (v := (1 : Int32)) dX10_send_55 (by decide) ?_
        obtain ⟨⟨fs, e1⟩, hv⟩ := hv
        refine j_virtual (avs := [.ref x1, .int (4 : Int32), .int (1 : Int32)]) (rest := []) (i := x0) (kc' := kc) (ks' := ks) dX10_send_56 mt_X10_pass w_m_X10_214 w_in_X10_pass w_se_X10_pass rfl rfl (Nat.le_of_ble_eq_true rfl) (Nat.le_refl _) (by omega) (by omega) cl_X10.1 e1 hv (fun _ _ q9 => q9) ?_
        rintro _ h5 ⟨z6, rfl, hv⟩ -
        refine j_istore_n dX10_send_59 rfl (by decide) rfl rfl ?_
        exact hv
set_option maxRecDepth 20000 in
set_option maxHeartbeats 4000000 in
theorem v_X10_send {l : Launch} {d mc ms : Nat} {Q : Option Value → qH → Prop} {QX : String → qH → Prop} (x0 : Nat) (x1 : Nat) (x2 : Int32) {h : qH} (hv : qAL h x1 (0 : Int32) (fun z1 => qOB h x0 10 (qCI l (d + 3) mX10_rateAt [.ref x0, .int (z1 - z1 / (1440 : Int32) * (1440 : Int32))] h 0 0 (fun z3 h2 => qIF (z3 = 0) (Q (some (.int (6 : Int32))) h2) (q_J l (d + 4) mX10_send mc ms Q QX h.2 22 [some (.ref x0), some (.ref x1), some (.int x2), some (.int (0 : Int32)), some (.int (0 : Int32)), none, none, none] [] h2 mc ms))))) : q_Ct l (d + 4) mX10_send [.ref x0, .ref x1, .int x2] h mc ms Q QX := by
  refine q_body (by decide ) (by intro v hm; simp only [List.mem_cons, List.not_mem_nil, or_false] at hm; rcases hm with rfl | rfl | rfl <;> rfl) (Nat.le_of_ble_eq_true rfl) ?_
  refine j_pad 5 rfl ?_
  refine j_aload_n dX10_send_0 rfl rfl ?_
  refine j_aload_n dX10_send_1 rfl rfl ?_
  refine j_iconst (v := (0 : Int32)) dX10_send_2 (by decide) ?_
  obtain ⟨N, f, e1, e2, hv⟩ := hv
  refine j_iald dX10_send_3 e1 e2 ?_
  generalize f _ = z1 at hv ⊢
  refine j_sipush (v := (1440 : Int32)) dX10_send_4 (by decide) ?_
  refine j_irem dX10_send_7 (by decide) ?_
  obtain ⟨⟨fs, e1⟩, hv⟩ := hv
  refine j_virtual (avs := [.int (z1 - z1 / (1440 : Int32) * (1440 : Int32))]) (rest := []) (i := x0) (kc' := mc) (ks' := ms) dX10_send_8 mt_X10_rateAt w_m_X10_188 w_in_X10_rateAt w_se_X10_rateAt rfl rfl (Nat.le_of_ble_eq_true rfl) (Nat.le_refl _) (by omega) (by omega) cl_X10.1 e1 hv (fun _ _ q9 => q9) ?_
  rintro _ h2 ⟨z3, rfl, hv⟩ -
  refine j_if_ne (tgt := 17) dX10_send_11 (by decide) (fun hc => ?_) (fun hc => ?_)
  · replace hv := hv.2 hc
    refine j_iconst (v := (0 : Int32)) dX10_send_17 (by decide) ?_
    refine j_istore_n dX10_send_18 rfl (by decide) rfl rfl ?_
    refine j_iconst (v := (0 : Int32)) dX10_send_19 (by decide) ?_
    refine j_istore dX10_send_20 (by decide) rfl rfl ?_
    exact hv
  · replace hv := hv.1 hc
    refine j_bipush (v := (6 : Int32)) dX10_send_14 (by decide) ?_
    exact j_iret dX10_send_16 rfl hv
set_option maxRecDepth 20000 in
set_option maxHeartbeats 4000000 in
theorem v_X10_rest_9 {l : Launch} {d mc ms n0 kc ks : Nat} {Q : Option Value → qH → Prop} {QX : String → qH → Prop} (x0 : Nat) (x1 : Nat) (x2 : Int32) (x3 : Int32) (x4 : Int32) {h : qH} (hv : qIF (x4 = 0) (qAL h x1 (0 : Int32) (fun z1 => qIF ((z1 - z1 / (1440 : Int32) * (1440 : Int32)) = x2) (Q (some (.int x4)) h) (qOB h x0 10 (qCI l (d + 3) mX10_pass [.ref x0, .ref x1, .int (0 : Int32), .int x3] h 0 0 (fun z3 h2 => q_J l (d + 4) mX10_rest mc ms Q QX n0 9 [some (.ref x0), some (.ref x1), some (.int x2), some (.int x3), some (.int z3)] [] h2 kc ks))))) (Q (some (.int x4)) h)) : q_J l (d + 4) mX10_rest mc ms Q QX n0 9 [some (.ref x0), some (.ref x1), some (.int x2), some (.int x3), some (.int x4)] [] h kc ks := by
  refine j_iload dX10_rest_9 rfl ?_
  refine j_if_ne (tgt := 37) dX10_rest_11 (by decide) (fun hc => ?_) (fun hc => ?_)
  · replace hv := hv.2 hc
    refine j_iload dX10_rest_37 rfl ?_
    exact j_iret dX10_rest_39 rfl hv
  · replace hv := hv.1 hc
    refine j_aload_n dX10_rest_14 rfl rfl ?_
    refine j_iconst (v := (0 : Int32)) dX10_rest_15 (by decide) ?_
    obtain ⟨N, f, e1, e2, hv⟩ := hv
    refine j_iald dX10_rest_16 e1 e2 ?_
    generalize f _ = z1 at hv ⊢
    refine j_sipush (v := (1440 : Int32)) dX10_rest_17 (by decide) ?_
    refine j_irem dX10_rest_20 (by decide) ?_
    refine j_iload_n dX10_rest_21 rfl rfl ?_
    refine j_icmp_eq (tgt := 37) dX10_rest_22 (by decide) (fun hc => ?_) (fun hc => ?_)
    · replace hv := hv.1 hc
      refine j_iload dX10_rest_37 rfl ?_
      exact j_iret dX10_rest_39 rfl hv
    · replace hv := hv.2 hc
      refine j_aload_n dX10_rest_25 rfl rfl ?_
      refine j_aload_n dX10_rest_26 rfl rfl ?_
      refine j_iconst (v := (0 : Int32)) dX10_rest_27 (by decide) ?_
      refine j_iload_n dX10_rest_28 rfl rfl ?_
      obtain ⟨⟨fs, e1⟩, hv⟩ := hv
      refine j_virtual (avs := [.ref x1, .int (0 : Int32), .int x3]) (rest := []) (i := x0) (kc' := kc) (ks' := ks) dX10_rest_29 mt_X10_pass w_m_X10_214 w_in_X10_pass w_se_X10_pass rfl rfl (Nat.le_of_ble_eq_true rfl) (Nat.le_refl _) (by omega) (by omega) cl_X10.1 e1 hv (fun _ _ q9 => q9) ?_
      rintro _ h2 ⟨z3, rfl, hv⟩ -
      refine j_istore dX10_rest_32 (by decide) rfl rfl ?_
      refine j_goto (tgt := 9) dX10_rest_34 (by decide) ?_
      exact hv
set_option maxRecDepth 20000 in
set_option maxHeartbeats 4000000 in
theorem v_X10_rest {l : Launch} {d mc ms : Nat} {Q : Option Value → qH → Prop} {QX : String → qH → Prop} (x0 : Nat) (x1 : Nat) (x2 : Int32) (x3 : Int32) {h : qH} (hv : qOB h x0 10 (qCI l (d + 3) mX10_pass [.ref x0, .ref x1, .int (0 : Int32), .int x3] h 0 0 (fun z2 h1 => q_J l (d + 4) mX10_rest mc ms Q QX h.2 9 [some (.ref x0), some (.ref x1), some (.int x2), some (.int x3), some (.int z2)] [] h1 mc ms))) : q_Ct l (d + 4) mX10_rest [.ref x0, .ref x1, .int x2, .int x3] h mc ms Q QX := by
  refine q_body (by decide ) (by intro v hm; simp only [List.mem_cons, List.not_mem_nil, or_false] at hm; rcases hm with rfl | rfl | rfl | rfl <;> rfl) (Nat.le_of_ble_eq_true rfl) ?_
  refine j_pad 1 rfl ?_
  refine j_aload_n dX10_rest_0 rfl rfl ?_
  refine j_aload_n dX10_rest_1 rfl rfl ?_
  refine j_iconst (v := (0 : Int32)) dX10_rest_2 (by decide) ?_
  refine j_iload_n dX10_rest_3 rfl rfl ?_
  obtain ⟨⟨fs, e1⟩, hv⟩ := hv
  refine j_virtual (avs := [.ref x1, .int (0 : Int32), .int x3]) (rest := []) (i := x0) (kc' := mc) (ks' := ms) dX10_rest_4 mt_X10_pass w_m_X10_214 w_in_X10_pass w_se_X10_pass rfl rfl (Nat.le_of_ble_eq_true rfl) (Nat.le_refl _) (by omega) (by omega) cl_X10.1 e1 hv (fun _ _ q9 => q9) ?_
  rintro _ h1 ⟨z2, rfl, hv⟩ -
  refine j_istore dX10_rest_7 (by decide) rfl rfl ?_
  exact hv
set_option maxRecDepth 20000 in
set_option maxHeartbeats 4000000 in
theorem v_X10_clean {l : Launch} {d mc ms : Nat} {Q : Option Value → qH → Prop} {QX : String → qH → Prop} (x0 : Nat) (x1 : Nat) {h : qH} (hv : qOB h x0 10 (qCI l (d + 4) mX10_passMany [.ref x0, .ref x1, .int (15 : Int32), .int (6 : Int32), .int (1 : Int32)] h 0 0 (fun z2 h1 => qAL h1 x1 (6 : Int32) (fun z3 => qAS h1 x1 (6 : Int32) (if (z3 + (10 : Int32)) < (100 : Int32) then (z3 + (10 : Int32)) else (100 : Int32)) (fun h5 => Q (some (.int z2)) h5))))) : q_Ct l (d + 5) mX10_clean [.ref x0, .ref x1] h mc ms Q QX := by
  refine q_body (by decide ) (by intro v hm; simp only [List.mem_cons, List.not_mem_nil, or_false] at hm; rcases hm with rfl | rfl <;> rfl) (Nat.le_of_ble_eq_true rfl) ?_
  refine j_pad 1 rfl ?_
  refine j_aload_n dX10_clean_0 rfl rfl ?_
  refine j_aload_n dX10_clean_1 rfl rfl ?_
  refine j_bipush (v := (15 : Int32)) dX10_clean_2 (by decide) ?_
  refine j_bipush (v := (6 : Int32)) dX10_clean_4 (by decide) ?_
  refine j_iconst (v := (1 : Int32)) dX10_clean_6 (by decide) ?_
  obtain ⟨⟨fs, e1⟩, hv⟩ := hv
  refine j_virtual (avs := [.ref x1, .int (15 : Int32), .int (6 : Int32), .int (1 : Int32)]) (rest := []) (i := x0) (kc' := mc) (ks' := ms) dX10_clean_7 mt_X10_passMany w_m_X10_218 w_in_X10_passMany w_se_X10_passMany rfl rfl (Nat.le_of_ble_eq_true rfl) (Nat.le_refl _) (by omega) (by omega) cl_X10.1 e1 hv (fun _ _ q9 => q9) ?_
  rintro _ h1 ⟨z2, rfl, hv⟩ -
  refine j_istore_n dX10_clean_10 rfl (by decide) rfl rfl ?_
  refine j_aload_n dX10_clean_11 rfl rfl ?_
  refine j_bipush (v := (6 : Int32)) dX10_clean_12 (by decide) ?_
  refine j_bipush (v := (100 : Int32)) dX10_clean_14 (by decide) ?_
  refine j_aload_n dX10_clean_16 rfl rfl ?_
  refine j_bipush (v := (6 : Int32)) dX10_clean_17 (by decide) ?_
  obtain ⟨N, f, e1, e2, hv⟩ := hv
  refine j_iald dX10_clean_19 e1 e2 ?_
  generalize f _ = z3 at hv ⊢
  refine j_bipush (v := (10 : Int32)) dX10_clean_20 (by decide) ?_
  refine j_iadd dX10_clean_22 ?_
  refine j_mmin dX10_clean_23 w_m_X10_204 w_st_min w_ini_Math w_co_min (Nat.le_of_ble_eq_true rfl) (by omega) ?_
  obtain ⟨N, f, e1, e2, hv⟩ := hv
  refine j_iast dX10_clean_26 e1 e2 ?_
  generalize q_set h1 x1 _ = h5 at hv ⊢
  refine j_iload_n dX10_clean_27 rfl rfl ?_
  exact j_iret dX10_clean_28 rfl hv
set_option maxRecDepth 20000 in
set_option maxHeartbeats 4000000 in
theorem v_X10_act_142 {l : Launch} {d mc ms n0 kc ks : Nat} {Q : Option Value → qH → Prop} {QX : String → qH → Prop} (x0 : Nat) (x1 : Nat) (x2 : Int32) (x3 : Int32) (x4 : Int32) (x5 : Int32) {h : qH} (hv : qIF (x5 = 0) (Q (some (.int x5)) h) (qGR h x0 10 22 (fun r1 => qCP h r1 (0 : Int32) x1 (0 : Int32) (594 : Int32) (fun h2 => Q (some (.int x5)) h2)))) : q_J l (d + 6) mX10_act mc ms Q QX n0 142 [some (.ref x0), some (.ref x1), some (.int x2), some (.int x3), some (.int x4), some (.int x5)] [] h kc ks := by
  refine j_iload dX10_act_142 rfl ?_
  refine j_if_eq (tgt := 160) dX10_act_144 (by decide) (fun hc => ?_) (fun hc => ?_)
  · replace hv := hv.1 hc
    refine j_iload dX10_act_160 rfl ?_
    exact j_iret dX10_act_162 rfl hv
  · replace hv := hv.2 hc
    refine j_aload_n dX10_act_147 rfl rfl ?_
    obtain ⟨fs, r1, e1, e2, hv⟩ := hv
    refine j_getf (k := 22) cl_X10 (by decide) w_f_X10_65 dX10_act_148 e1 e2 ?_
    refine j_iconst (v := (0 : Int32)) dX10_act_151 (by decide) ?_
    refine j_aload_n dX10_act_152 rfl rfl ?_
    refine j_iconst (v := (0 : Int32)) dX10_act_153 (by decide) ?_
    refine j_sipush (v := (594 : Int32)) dX10_act_154 (by decide) ?_
    obtain ⟨N0, N1, f0, f1, e1, e2, q1, q2, q3, q4, q5, hv⟩ := hv
    refine j_copy dX10_act_157 w_m_X10_151 w_na_copy w_st_copy w_ini_System (Nat.le_of_ble_eq_true rfl) (by omega) e1 e2 q1 q2 q3 q4 q5 ?_
    generalize q_set h x1 _ = h2 at hv ⊢
    refine j_iload dX10_act_160 rfl ?_
    exact j_iret dX10_act_162 rfl hv
set_option maxRecDepth 20000 in
set_option maxHeartbeats 4000000 in
theorem v_X10_act_120 {l : Launch} {d mc ms n0 kc ks : Nat} {Q : Option Value → qH → Prop} {QX : String → qH → Prop} (x0 : Nat) (x1 : Nat) (x2 : Int32) (x3 : Int32) (x4 : Int32) (x5 : Int32) (y0 : Nat) (y1 : Nat) (y2 : Int32) (y3 : Int32) {h : qH} (hv : qOB h y0 10 (qCI l (d + 5) mX10_rest [.ref y0, .ref y1, .int y2, .int y3] h 0 0 (fun z2 h1 => q_J l (d + 6) mX10_act mc ms Q QX n0 142 [some (.ref x0), some (.ref x1), some (.int x2), some (.int x3), some (.int x4), some (.int z2)] [] h1 kc ks))) : q_J l (d + 6) mX10_act mc ms Q QX n0 120 [some (.ref x0), some (.ref x1), some (.int x2), some (.int x3), some (.int x4), some (.int x5)] [.int y3, .int y2, .ref y1, .ref y0] h kc ks := by
  obtain ⟨⟨fs, e1⟩, hv⟩ := hv
  refine j_virtual (avs := [.ref y1, .int y2, .int y3]) (rest := []) (i := y0) (kc' := kc) (ks' := ks) dX10_act_120 mt_X10_rest w_m_X10_243 w_in_X10_rest w_se_X10_rest rfl rfl (Nat.le_of_ble_eq_true rfl) (Nat.le_refl _) (by omega) (by omega) cl_X10.1 e1 hv (fun _ _ q9 => q9) ?_
  rintro _ h1 ⟨z2, rfl, hv⟩ -
  refine j_istore dX10_act_123 (by decide) rfl rfl ?_
  refine j_goto (tgt := 142) dX10_act_125 (by decide) ?_
  exact hv
set_option maxRecDepth 20000 in
set_option maxHeartbeats 4000000 in
theorem v_X10_act_85 {l : Launch} {d mc ms n0 kc ks : Nat} {Q : Option Value → qH → Prop} {QX : String → qH → Prop} (hkc : 1 ≤ kc) (hks : 4 ≤ ks) (x0 : Nat) (x1 : Nat) (x2 : Int32) (x3 : Int32) (x4 : Int32) (x5 : Int32) (y0 : Nat) (y1 : Nat) (y2 : Int32) {h : qH} (hv : qOB h y0 10 (qCI l (d + 5) mX10_take [.ref y0, .ref y1, .int y2, .int x3, .int x4] h 1 4 (fun z2 h1 => q_J l (d + 6) mX10_act mc ms Q QX n0 142 [some (.ref x0), some (.ref x1), some (.int x2), some (.int x3), some (.int x4), some (.int z2)] [] h1 (kc - 1) (ks - 4)))) : q_J l (d + 6) mX10_act mc ms Q QX n0 85 [some (.ref x0), some (.ref x1), some (.int x2), some (.int x3), some (.int x4), some (.int x5)] [.int y2, .ref y1, .ref y0] h kc ks := by
  refine j_iload_n dX10_act_85 rfl rfl ?_
  refine j_iload dX10_act_86 rfl ?_
  obtain ⟨⟨fs, e1⟩, hv⟩ := hv
  refine j_virtual (avs := [.ref y1, .int y2, .int x3, .int x4]) (rest := []) (i := y0) (kc' := (kc - 1)) (ks' := (ks - 4)) dX10_act_88 mt_X10_take w_m_X10_236 w_in_X10_take w_se_X10_take rfl rfl (Nat.le_of_ble_eq_true rfl) (Nat.le_refl _) (by omega) (by omega) cl_X10.1 e1 hv (fun _ _ q9 => q9) ?_
  rintro _ h1 ⟨z2, rfl, hv⟩ -
  refine j_istore dX10_act_91 (by decide) rfl rfl ?_
  refine j_goto (tgt := 142) dX10_act_93 (by decide) ?_
  exact hv
set_option maxRecDepth 20000 in
set_option maxHeartbeats 4000000 in
theorem v_X10_act {l : Launch} {d mc ms : Nat} {Q : Option Value → qH → Prop} {QX : String → qH → Prop} (x0 : Nat) (x1 : Nat) (x2 : Int32) (x3 : Int32) (x4 : Int32) {h : qH} (hv : qGR h x0 10 22 (fun r1 => qCP h x1 (0 : Int32) r1 (0 : Int32) (594 : Int32) (fun h2 => qIF (x2 = (0 : Int32)) (qOB h2 x0 10 (qCI l (d + 5) mX10_drive [.ref x0, .ref x1, .int x3, .int x4] h2 0 0 (fun z4 h3 => q_J l (d + 6) mX10_act mc ms Q QX h.2 142 [some (.ref x0), some (.ref x1), some (.int x2), some (.int x3), some (.int x4), some (.int z4)] [] h3 mc ms))) (qIF (x2 = (1 : Int32)) (qIF (x2 = (2 : Int32)) (q_J l (d + 6) mX10_act mc ms Q QX h.2 85 [some (.ref x0), some (.ref x1), some (.int x2), some (.int x3), some (.int x4), some (.int (0 : Int32))] [.int (1 : Int32), .ref x1, .ref x0] h2 mc ms) (q_J l (d + 6) mX10_act mc ms Q QX h.2 85 [some (.ref x0), some (.ref x1), some (.int x2), some (.int x3), some (.int x4), some (.int (0 : Int32))] [.int (0 : Int32), .ref x1, .ref x0] h2 mc ms)) (qIF (x2 = (2 : Int32)) (qIF (x2 = (2 : Int32)) (q_J l (d + 6) mX10_act mc ms Q QX h.2 85 [some (.ref x0), some (.ref x1), some (.int x2), some (.int x3), some (.int x4), some (.int (0 : Int32))] [.int (1 : Int32), .ref x1, .ref x0] h2 mc ms) (q_J l (d + 6) mX10_act mc ms Q QX h.2 85 [some (.ref x0), some (.ref x1), some (.int x2), some (.int x3), some (.int x4), some (.int (0 : Int32))] [.int (0 : Int32), .ref x1, .ref x0] h2 mc ms)) (qIF (x2 = (3 : Int32)) (qOB h2 x0 10 (qCI l (d + 5) mX10_send [.ref x0, .ref x1, .int x3] h2 0 0 (fun z6 h5 => q_J l (d + 6) mX10_act mc ms Q QX h.2 142 [some (.ref x0), some (.ref x1), some (.int x2), some (.int x3), some (.int x4), some (.int z6)] [] h5 mc ms))) (qIF (x2 = (4 : Int32)) (qIF (x2 = (4 : Int32)) (q_J l (d + 6) mX10_act mc ms Q QX h.2 120 [some (.ref x0), some (.ref x1), some (.int x2), some (.int x3), some (.int x4), some (.int (0 : Int32))] [.int (1 : Int32), .int x3, .ref x1, .ref x0] h2 mc ms) (q_J l (d + 6) mX10_act mc ms Q QX h.2 120 [some (.ref x0), some (.ref x1), some (.int x2), some (.int x3), some (.int x4), some (.int (0 : Int32))] [.int (0 : Int32), .int x3, .ref x1, .ref x0] h2 mc ms)) (qIF (x2 = (5 : Int32)) (qIF (x2 = (4 : Int32)) (q_J l (d + 6) mX10_act mc ms Q QX h.2 120 [some (.ref x0), some (.ref x1), some (.int x2), some (.int x3), some (.int x4), some (.int (0 : Int32))] [.int (1 : Int32), .int x3, .ref x1, .ref x0] h2 mc ms) (q_J l (d + 6) mX10_act mc ms Q QX h.2 120 [some (.ref x0), some (.ref x1), some (.int x2), some (.int x3), some (.int x4), some (.int (0 : Int32))] [.int (0 : Int32), .int x3, .ref x1, .ref x0] h2 mc ms)) (qIF (x2 = (6 : Int32)) (qAS h2 x1 (5 : Int32) x3 (fun h7 => q_J l (d + 6) mX10_act mc ms Q QX h.2 142 [some (.ref x0), some (.ref x1), some (.int x2), some (.int x3), some (.int x4), some (.int (0 : Int32))] [] h7 mc ms)) (qOB h2 x0 10 (qCI l (d + 5) mX10_clean [.ref x0, .ref x1] h2 0 0 (fun z9 h8 => q_J l (d + 6) mX10_act mc ms Q QX h.2 142 [some (.ref x0), some (.ref x1), some (.int x2), some (.int x3), some (.int x4), some (.int z9)] [] h8 mc ms)))))))))))) : q_Ct l (d + 6) mX10_act [.ref x0, .ref x1, .int x2, .int x3, .int x4] h mc ms Q QX := by
  refine q_body (by decide ) (by intro v hm; simp only [List.mem_cons, List.not_mem_nil, or_false] at hm; rcases hm with rfl | rfl | rfl | rfl | rfl <;> rfl) (Nat.le_of_ble_eq_true rfl) ?_
  refine j_pad 1 rfl ?_
  refine j_aload_n dX10_act_0 rfl rfl ?_
  refine j_iconst (v := (0 : Int32)) dX10_act_1 (by decide) ?_
  refine j_aload_n dX10_act_2 rfl rfl ?_
  obtain ⟨fs, r1, e1, e2, hv⟩ := hv
  refine j_getf (k := 22) cl_X10 (by decide) w_f_X10_65 dX10_act_3 e1 e2 ?_
  refine j_iconst (v := (0 : Int32)) dX10_act_6 (by decide) ?_
  refine j_sipush (v := (594 : Int32)) dX10_act_7 (by decide) ?_
  obtain ⟨N0, N1, f0, f1, e1, e2, q1, q2, q3, q4, q5, hv⟩ := hv
  refine j_copy dX10_act_10 w_m_X10_151 w_na_copy w_st_copy w_ini_System (Nat.le_of_ble_eq_true rfl) (by omega) e1 e2 q1 q2 q3 q4 q5 ?_
  generalize q_set h r1 _ = h2 at hv ⊢
  refine j_iconst (v := (0 : Int32)) dX10_act_13 (by decide) ?_
  refine j_istore dX10_act_14 (by decide) rfl rfl ?_
  refine j_iload_n dX10_act_16 rfl rfl ?_
  by_cases hc0 : x2 = (0 : Int32)
  · replace hv := hv.1 hc0
    refine j_tableIn (tgt := 60) (off := 43) dX10_act_17 (by rw [hc0]; decide) (by rw [hc0]; decide) (by rw [hc0]; decide) (by decide) ?_
    refine j_aload_n dX10_act_60 rfl rfl ?_
    refine j_aload_n dX10_act_61 rfl rfl ?_
    refine j_iload_n dX10_act_62 rfl rfl ?_
    refine j_iload dX10_act_63 rfl ?_
    obtain ⟨⟨fs, e1⟩, hv⟩ := hv
    refine j_virtual (avs := [.ref x1, .int x3, .int x4]) (rest := []) (i := x0) (kc' := mc) (ks' := ms) dX10_act_65 mt_X10_drive w_m_X10_232 w_in_X10_drive w_se_X10_drive rfl rfl (Nat.le_of_ble_eq_true rfl) (Nat.le_refl _) (by omega) (by omega) cl_X10.1 e1 hv (fun _ _ q9 => q9) ?_
    rintro _ h3 ⟨z4, rfl, hv⟩ -
    refine j_istore dX10_act_68 (by decide) rfl rfl ?_
    refine j_goto (tgt := 142) dX10_act_70 (by decide) ?_
    exact hv
  · replace hv := hv.2 hc0
    by_cases hc1 : x2 = (1 : Int32)
    · replace hv := hv.1 hc1
      refine j_tableIn (tgt := 73) (off := 56) dX10_act_17 (by rw [hc1]; decide) (by rw [hc1]; decide) (by rw [hc1]; decide) (by decide) ?_
      refine j_aload_n dX10_act_73 rfl rfl ?_
      refine j_aload_n dX10_act_74 rfl rfl ?_
      refine j_iload_n dX10_act_75 rfl rfl ?_
      refine j_iconst (v := (2 : Int32)) dX10_act_76 (by decide) ?_
      refine j_icmp_ne (tgt := 84) dX10_act_77 (by decide) (fun hc => ?_) (fun hc => ?_)
      · replace hv := hv.2 hc
        refine j_iconst (v := (0 : Int32)) dX10_act_84 (by decide) ?_
        exact hv
      · replace hv := hv.1 hc
        refine j_iconst (v := (1 : Int32)) dX10_act_80 (by decide) ?_
        refine j_goto (tgt := 85) dX10_act_81 (by decide) ?_
        exact hv
    · replace hv := hv.2 hc1
      by_cases hc2 : x2 = (2 : Int32)
      · replace hv := hv.1 hc2
        refine j_tableIn (tgt := 73) (off := 56) dX10_act_17 (by rw [hc2]; decide) (by rw [hc2]; decide) (by rw [hc2]; decide) (by decide) ?_
        refine j_aload_n dX10_act_73 rfl rfl ?_
        refine j_aload_n dX10_act_74 rfl rfl ?_
        refine j_iload_n dX10_act_75 rfl rfl ?_
        refine j_iconst (v := (2 : Int32)) dX10_act_76 (by decide) ?_
        refine j_icmp_ne (tgt := 84) dX10_act_77 (by decide) (fun hc => ?_) (fun hc => ?_)
        · replace hv := hv.2 hc
          refine j_iconst (v := (0 : Int32)) dX10_act_84 (by decide) ?_
          exact hv
        · replace hv := hv.1 hc
          refine j_iconst (v := (1 : Int32)) dX10_act_80 (by decide) ?_
          refine j_goto (tgt := 85) dX10_act_81 (by decide) ?_
          exact hv
      · replace hv := hv.2 hc2
        by_cases hc3 : x2 = (3 : Int32)
        · replace hv := hv.1 hc3
          refine j_tableIn (tgt := 96) (off := 79) dX10_act_17 (by rw [hc3]; decide) (by rw [hc3]; decide) (by rw [hc3]; decide) (by decide) ?_
          refine j_aload_n dX10_act_96 rfl rfl ?_
          refine j_aload_n dX10_act_97 rfl rfl ?_
          refine j_iload_n dX10_act_98 rfl rfl ?_
          obtain ⟨⟨fs, e1⟩, hv⟩ := hv
          refine j_virtual (avs := [.ref x1, .int x3]) (rest := []) (i := x0) (kc' := mc) (ks' := ms) dX10_act_99 mt_X10_send w_m_X10_240 w_in_X10_send w_se_X10_send rfl rfl (Nat.le_of_ble_eq_true rfl) (Nat.le_refl _) (by omega) (by omega) cl_X10.1 e1 hv (fun _ _ q9 => q9) ?_
          rintro _ h5 ⟨z6, rfl, hv⟩ -
          refine j_istore dX10_act_102 (by decide) rfl rfl ?_
          refine j_goto (tgt := 142) dX10_act_104 (by decide) ?_
          exact hv
        · replace hv := hv.2 hc3
          by_cases hc4 : x2 = (4 : Int32)
          · replace hv := hv.1 hc4
            refine j_tableIn (tgt := 107) (off := 90) dX10_act_17 (by rw [hc4]; decide) (by rw [hc4]; decide) (by rw [hc4]; decide) (by decide) ?_
            refine j_aload_n dX10_act_107 rfl rfl ?_
            refine j_aload_n dX10_act_108 rfl rfl ?_
            refine j_iload_n dX10_act_109 rfl rfl ?_
            refine j_iload_n dX10_act_110 rfl rfl ?_
            refine j_iconst (v := (4 : Int32)) dX10_act_111 (by decide) ?_
            refine j_icmp_ne (tgt := 119) dX10_act_112 (by decide) (fun hc => ?_) (fun hc => ?_)
            · replace hv := hv.2 hc
              refine j_iconst (v := (0 : Int32)) dX10_act_119 (by decide) ?_
              exact hv
            · replace hv := hv.1 hc
              refine j_iconst (v := (1 : Int32)) dX10_act_115 (by decide) ?_
              refine j_goto (tgt := 120) dX10_act_116 (by decide) ?_
              exact hv
          · replace hv := hv.2 hc4
            by_cases hc5 : x2 = (5 : Int32)
            · replace hv := hv.1 hc5
              refine j_tableIn (tgt := 107) (off := 90) dX10_act_17 (by rw [hc5]; decide) (by rw [hc5]; decide) (by rw [hc5]; decide) (by decide) ?_
              refine j_aload_n dX10_act_107 rfl rfl ?_
              refine j_aload_n dX10_act_108 rfl rfl ?_
              refine j_iload_n dX10_act_109 rfl rfl ?_
              refine j_iload_n dX10_act_110 rfl rfl ?_
              refine j_iconst (v := (4 : Int32)) dX10_act_111 (by decide) ?_
              refine j_icmp_ne (tgt := 119) dX10_act_112 (by decide) (fun hc => ?_) (fun hc => ?_)
              · replace hv := hv.2 hc
                refine j_iconst (v := (0 : Int32)) dX10_act_119 (by decide) ?_
                exact hv
              · replace hv := hv.1 hc
                refine j_iconst (v := (1 : Int32)) dX10_act_115 (by decide) ?_
                refine j_goto (tgt := 120) dX10_act_116 (by decide) ?_
                exact hv
            · replace hv := hv.2 hc5
              by_cases hc6 : x2 = (6 : Int32)
              · replace hv := hv.1 hc6
                refine j_tableIn (tgt := 128) (off := 111) dX10_act_17 (by rw [hc6]; decide) (by rw [hc6]; decide) (by rw [hc6]; decide) (by decide) ?_
                refine j_aload_n dX10_act_128 rfl rfl ?_
                refine j_iconst (v := (5 : Int32)) dX10_act_129 (by decide) ?_
                refine j_iload_n dX10_act_130 rfl rfl ?_
                obtain ⟨N, f, e1, e2, hv⟩ := hv
                refine j_iast dX10_act_131 e1 e2 ?_
                generalize q_set h2 x1 _ = h7 at hv ⊢
                refine j_goto (tgt := 142) dX10_act_132 (by decide) ?_
                exact hv
              · replace hv := hv.2 hc6
                refine j_tableOut (tgt := 135) dX10_act_17 (q_tabO (by decide) (by decide) (fun j h1 => by match j, h1 with | 0, _ => exact hc0 | 1, _ => exact hc1 | 2, _ => exact hc2 | 3, _ => exact hc3 | 4, _ => exact hc4 | 5, _ => exact hc5 | 6, _ => exact hc6 | j + 7, h1 => exact absurd h1 (by omega))) (by decide) ?_
                refine j_aload_n dX10_act_135 rfl rfl ?_
                refine j_aload_n dX10_act_136 rfl rfl ?_
                obtain ⟨⟨fs, e1⟩, hv⟩ := hv
                refine j_virtual (avs := [.ref x1]) (rest := []) (i := x0) (kc' := mc) (ks' := ms) dX10_act_137 mt_X10_clean w_m_X10_246 w_in_X10_clean w_se_X10_clean rfl rfl (Nat.le_of_ble_eq_true rfl) (Nat.le_refl _) (by omega) (by omega) cl_X10.1 e1 hv (fun _ _ q9 => q9) ?_
                rintro _ h8 ⟨z9, rfl, hv⟩ -
                refine j_istore dX10_act_140 (by decide) rfl rfl ?_
                exact hv
set_option maxRecDepth 20000 in
set_option maxHeartbeats 4000000 in
theorem v_X10_isKind {l : Launch} {d mc ms : Nat} {Q : Option Value → qH → Prop} {QX : String → qH → Prop} (x0 : Int32) {h : qH} (hv : qCI l (d + 0) mX10_isIn [.int x0, .int (0 : Int32), .int (7 : Int32)] h 0 0 (fun z2 h1 => qB z2 (Q (some (.int z2)) h1))) : q_Ct l (d + 1) mX10_isKind [.int x0] h mc ms Q QX := by
  refine q_body (by decide ) (by intro v hm; simp only [List.mem_cons, List.not_mem_nil, or_false] at hm; subst hm; rfl) (Nat.le_of_ble_eq_true rfl) ?_
  refine j_pad 0 rfl ?_
  refine j_iload_n dX10_isKind_0 rfl rfl ?_
  refine j_iconst (v := (0 : Int32)) dX10_isKind_1 (by decide) ?_
  refine j_bipush (v := (7 : Int32)) dX10_isKind_2 (by decide) ?_
  refine j_static (avs := [.int x0, .int (0 : Int32), .int (7 : Int32)]) (rest := []) (kc' := mc) (ks' := ms) dX10_isKind_4 mt_X10_isIn w_m_X10_74 w_st_X10_isIn rfl rfl (Nat.le_of_ble_eq_true rfl) (Nat.le_refl _) (by omega) (by omega) hv (fun _ _ q9 => q9) ?_
  rintro _ h1 ⟨z2, rfl, hv⟩ -
  exact j_zret dX10_isKind_7 rfl hv.1 hv.2
set_option maxRecDepth 20000 in
set_option maxHeartbeats 4000000 in
theorem v_X10_isRight_94 {l : Launch} {d mc ms n0 kc ks : Nat} {Q : Option Value → qH → Prop} {QX : String → qH → Prop} (x0 : Nat) (x1 : Int32) (x2 : Int32) (x3 : Int32) (x4 : Int32) (y0 : Int32) {h : qH} (hv : qCI l (d + 1) mX10_isIn [.int x2, .int x4, .int y0] h 0 0 (fun z2 h1 => qIF (z2 = 0) (Q (some (.int (0 : Int32))) h1) (qIF (x3 = 0) (Q (some (.int (1 : Int32))) h1) (Q (some (.int (0 : Int32))) h1)))) : q_J l (d + 2) mX10_isRight mc ms Q QX n0 94 [some (.ref x0), some (.int x1), some (.int x2), some (.int x3), some (.int x4), none] [.int y0] h kc ks := by
  refine j_istore dX10_isRight_94 (by decide) rfl rfl ?_
  refine j_iload_n dX10_isRight_96 rfl rfl ?_
  refine j_iload dX10_isRight_97 rfl ?_
  refine j_iload dX10_isRight_99 rfl ?_
  refine j_static (avs := [.int x2, .int x4, .int y0]) (rest := []) (kc' := kc) (ks' := ks) dX10_isRight_101 mt_X10_isIn w_m_X10_74 w_st_X10_isIn rfl rfl (Nat.le_of_ble_eq_true rfl) (Nat.le_refl _) (by omega) (by omega) hv (fun _ _ q9 => q9) ?_
  rintro _ h1 ⟨z2, rfl, hv⟩ -
  refine j_if_eq (tgt := 115) dX10_isRight_104 (by decide) (fun hc => ?_) (fun hc => ?_)
  · replace hv := hv.1 hc
    refine j_iconst (v := (0 : Int32)) dX10_isRight_115 (by decide) ?_
    exact j_zret dX10_isRight_116 rfl (by decide) hv
  · replace hv := hv.2 hc
    refine j_iload_n dX10_isRight_107 rfl rfl ?_
    refine j_if_ne (tgt := 115) dX10_isRight_108 (by decide) (fun hc => ?_) (fun hc => ?_)
    · replace hv := hv.2 hc
      refine j_iconst (v := (0 : Int32)) dX10_isRight_115 (by decide) ?_
      exact j_zret dX10_isRight_116 rfl (by decide) hv
    · replace hv := hv.1 hc
      refine j_iconst (v := (1 : Int32)) dX10_isRight_111 (by decide) ?_
      refine j_goto (tgt := 116) dX10_isRight_112 (by decide) ?_
      exact j_zret dX10_isRight_116 rfl (by decide) hv
set_option maxRecDepth 20000 in
set_option maxHeartbeats 4000000 in
theorem v_X10_isRight_77 {l : Launch} {d mc ms n0 kc ks : Nat} {Q : Option Value → qH → Prop} {QX : String → qH → Prop} (x0 : Nat) (x1 : Int32) (x2 : Int32) (x3 : Int32) (x4 : Int32) {h : qH} (hv : q_J l (d + 2) mX10_isRight mc ms Q QX n0 94 [some (.ref x0), some (.int x1), some (.int x2), some (.int x3), some (.int x4), none] [.int (1439 : Int32)] h kc ks) : q_J l (d + 2) mX10_isRight mc ms Q QX n0 77 [some (.ref x0), some (.int x1), some (.int x2), some (.int x3), some (.int x4), none] [] h kc ks := by
  refine j_sipush (v := (1439 : Int32)) dX10_isRight_77 (by decide) ?_
  refine j_goto (tgt := 94) dX10_isRight_80 (by decide) ?_
  exact hv
set_option maxRecDepth 20000 in
set_option maxHeartbeats 4000000 in
theorem v_X10_isRight_54 {l : Launch} {d mc ms n0 kc ks : Nat} {Q : Option Value → qH → Prop} {QX : String → qH → Prop} (x0 : Nat) (x1 : Int32) (x2 : Int32) (x3 : Int32) (y0 : Int32) {h : qH} (hv : qIF (x1 = (3 : Int32)) (q_J l (d + 2) mX10_isRight mc ms Q QX n0 94 [some (.ref x0), some (.int x1), some (.int x2), some (.int x3), some (.int y0), none] [.int (600 : Int32)] h kc ks) (qIF (x1 = (4 : Int32)) (q_J l (d + 2) mX10_isRight mc ms Q QX n0 77 [some (.ref x0), some (.int x1), some (.int x2), some (.int x3), some (.int y0), none] [] h kc ks) (qIF (x1 = (5 : Int32)) (q_J l (d + 2) mX10_isRight mc ms Q QX n0 77 [some (.ref x0), some (.int x1), some (.int x2), some (.int x3), some (.int y0), none] [] h kc ks) (qIF (x1 = (6 : Int32)) (q_J l (d + 2) mX10_isRight mc ms Q QX n0 94 [some (.ref x0), some (.int x1), some (.int x2), some (.int x3), some (.int y0), none] [.int (1 : Int32)] h kc ks) (q_J l (d + 2) mX10_isRight mc ms Q QX n0 94 [some (.ref x0), some (.int x1), some (.int x2), some (.int x3), some (.int y0), none] [.int (0 : Int32)] h kc ks))))) : q_J l (d + 2) mX10_isRight mc ms Q QX n0 54 [some (.ref x0), some (.int x1), some (.int x2), some (.int x3), none, none] [.int y0] h kc ks := by
  refine j_istore dX10_isRight_54 (by decide) rfl rfl ?_
  refine j_iload_n dX10_isRight_56 rfl rfl ?_
  refine j_iconst (v := (3 : Int32)) dX10_isRight_57 (by decide) ?_
  refine j_icmp_ne (tgt := 67) dX10_isRight_58 (by decide) (fun hc => ?_) (fun hc => ?_)
  · replace hv := hv.2 hc
    refine j_iload_n dX10_isRight_67 rfl rfl ?_
    refine j_iconst (v := (4 : Int32)) dX10_isRight_68 (by decide) ?_
    refine j_icmp_eq (tgt := 77) dX10_isRight_69 (by decide) (fun hc => ?_) (fun hc => ?_)
    · replace hv := hv.1 hc
      exact hv
    · replace hv := hv.2 hc
      refine j_iload_n dX10_isRight_72 rfl rfl ?_
      refine j_iconst (v := (5 : Int32)) dX10_isRight_73 (by decide) ?_
      refine j_icmp_ne (tgt := 83) dX10_isRight_74 (by decide) (fun hc => ?_) (fun hc => ?_)
      · replace hv := hv.2 hc
        refine j_iload_n dX10_isRight_83 rfl rfl ?_
        refine j_bipush (v := (6 : Int32)) dX10_isRight_84 (by decide) ?_
        refine j_icmp_ne (tgt := 93) dX10_isRight_86 (by decide) (fun hc => ?_) (fun hc => ?_)
        · replace hv := hv.2 hc
          refine j_iconst (v := (0 : Int32)) dX10_isRight_93 (by decide) ?_
          exact hv
        · replace hv := hv.1 hc
          refine j_iconst (v := (1 : Int32)) dX10_isRight_89 (by decide) ?_
          refine j_goto (tgt := 94) dX10_isRight_90 (by decide) ?_
          exact hv
      · replace hv := hv.1 hc
        exact hv
  · replace hv := hv.1 hc
    refine j_sipush (v := (600 : Int32)) dX10_isRight_61 (by decide) ?_
    refine j_goto (tgt := 94) dX10_isRight_64 (by decide) ?_
    exact hv
set_option maxRecDepth 20000 in
set_option maxHeartbeats 4000000 in
theorem v_X10_isRight_20 {l : Launch} {d mc ms n0 kc ks : Nat} {Q : Option Value → qH → Prop} {QX : String → qH → Prop} (x0 : Nat) (x1 : Int32) (x2 : Int32) (x3 : Int32) {h : qH} (hv : qOB h x0 10 (qCI l (d + 1) mX10_isTarget [.ref x0, .int x2] h 0 0 (fun z2 h1 => qIF (z2 = 0) (Q (some (.int (0 : Int32))) h1) (qCI l (d + 1) mX10_isIn [.int x3, .int (1 : Int32), .int (9 : Int32)] h1 0 0 (fun z4 h3 => qIF (z4 = 0) (Q (some (.int (0 : Int32))) h3) (Q (some (.int (1 : Int32))) h3)))))) : q_J l (d + 2) mX10_isRight mc ms Q QX n0 20 [some (.ref x0), some (.int x1), some (.int x2), some (.int x3), none, none] [] h kc ks := by
  refine j_aload_n dX10_isRight_20 rfl rfl ?_
  refine j_iload_n dX10_isRight_21 rfl rfl ?_
  obtain ⟨⟨fs, e1⟩, hv⟩ := hv
  refine j_virtual (avs := [.int x2]) (rest := []) (i := x0) (kc' := kc) (ks' := ks) dX10_isRight_22 mt_X10_isTarget w_m_X10_178 w_in_X10_isTarget w_se_X10_isTarget rfl rfl (Nat.le_of_ble_eq_true rfl) (Nat.le_refl _) (by omega) (by omega) cl_X10.1 e1 hv (fun _ _ q9 => q9) ?_
  rintro _ h1 ⟨z2, rfl, hv⟩ -
  refine j_if_eq (tgt := 42) dX10_isRight_25 (by decide) (fun hc => ?_) (fun hc => ?_)
  · replace hv := hv.1 hc
    refine j_iconst (v := (0 : Int32)) dX10_isRight_42 (by decide) ?_
    exact j_zret dX10_isRight_43 rfl (by decide) hv
  · replace hv := hv.2 hc
    refine j_iload_n dX10_isRight_28 rfl rfl ?_
    refine j_iconst (v := (1 : Int32)) dX10_isRight_29 (by decide) ?_
    refine j_bipush (v := (9 : Int32)) dX10_isRight_30 (by decide) ?_
    refine j_static (avs := [.int x3, .int (1 : Int32), .int (9 : Int32)]) (rest := []) (kc' := kc) (ks' := ks) dX10_isRight_32 mt_X10_isIn w_m_X10_74 w_st_X10_isIn rfl rfl (Nat.le_of_ble_eq_true rfl) (Nat.le_refl _) (by omega) (by omega) hv (fun _ _ q9 => q9) ?_
    rintro _ h3 ⟨z4, rfl, hv⟩ -
    refine j_if_eq (tgt := 42) dX10_isRight_35 (by decide) (fun hc => ?_) (fun hc => ?_)
    · replace hv := hv.1 hc
      refine j_iconst (v := (0 : Int32)) dX10_isRight_42 (by decide) ?_
      exact j_zret dX10_isRight_43 rfl (by decide) hv
    · replace hv := hv.2 hc
      refine j_iconst (v := (1 : Int32)) dX10_isRight_38 (by decide) ?_
      refine j_goto (tgt := 43) dX10_isRight_39 (by decide) ?_
      exact j_zret dX10_isRight_43 rfl (by decide) hv
set_option maxRecDepth 20000 in
set_option maxHeartbeats 4000000 in
theorem v_X10_isRight {l : Launch} {d mc ms : Nat} {Q : Option Value → qH → Prop} {QX : String → qH → Prop} (x0 : Nat) (x1 : Int32) (x2 : Int32) (x3 : Int32) {h : qH} (hv : qIF (x1 = 0) (qCI l (d + 1) mX10_isPlace [.int x2, .int x3] h 0 0 (fun z2 h1 => qB z2 (Q (some (.int z2)) h1))) (qIF (x1 = (1 : Int32)) (q_J l (d + 2) mX10_isRight mc ms Q QX h.2 20 [some (.ref x0), some (.int x1), some (.int x2), some (.int x3), none, none] [] h mc ms) (qIF (x1 = (2 : Int32)) (q_J l (d + 2) mX10_isRight mc ms Q QX h.2 20 [some (.ref x0), some (.int x1), some (.int x2), some (.int x3), none, none] [] h mc ms) (qIF (x1 = (3 : Int32)) (q_J l (d + 2) mX10_isRight mc ms Q QX h.2 54 [some (.ref x0), some (.int x1), some (.int x2), some (.int x3), none, none] [.int (1 : Int32)] h mc ms) (q_J l (d + 2) mX10_isRight mc ms Q QX h.2 54 [some (.ref x0), some (.int x1), some (.int x2), some (.int x3), none, none] [.int (0 : Int32)] h mc ms))))) : q_Ct l (d + 2) mX10_isRight [.ref x0, .int x1, .int x2, .int x3] h mc ms Q QX := by
  refine q_body (by decide ) (by intro v hm; simp only [List.mem_cons, List.not_mem_nil, or_false] at hm; rcases hm with rfl | rfl | rfl | rfl <;> rfl) (Nat.le_of_ble_eq_true rfl) ?_
  refine j_pad 2 rfl ?_
  refine j_iload_n dX10_isRight_0 rfl rfl ?_
  refine j_if_ne (tgt := 10) dX10_isRight_1 (by decide) (fun hc => ?_) (fun hc => ?_)
  · replace hv := hv.2 hc
    refine j_iload_n dX10_isRight_10 rfl rfl ?_
    refine j_iconst (v := (1 : Int32)) dX10_isRight_11 (by decide) ?_
    refine j_icmp_eq (tgt := 20) dX10_isRight_12 (by decide) (fun hc => ?_) (fun hc => ?_)
    · replace hv := hv.1 hc
      exact hv
    · replace hv := hv.2 hc
      refine j_iload_n dX10_isRight_15 rfl rfl ?_
      refine j_iconst (v := (2 : Int32)) dX10_isRight_16 (by decide) ?_
      refine j_icmp_ne (tgt := 44) dX10_isRight_17 (by decide) (fun hc => ?_) (fun hc => ?_)
      · replace hv := hv.2 hc
        refine j_iload_n dX10_isRight_44 rfl rfl ?_
        refine j_iconst (v := (3 : Int32)) dX10_isRight_45 (by decide) ?_
        refine j_icmp_ne (tgt := 53) dX10_isRight_46 (by decide) (fun hc => ?_) (fun hc => ?_)
        · replace hv := hv.2 hc
          refine j_iconst (v := (0 : Int32)) dX10_isRight_53 (by decide) ?_
          exact hv
        · replace hv := hv.1 hc
          refine j_iconst (v := (1 : Int32)) dX10_isRight_49 (by decide) ?_
          refine j_goto (tgt := 54) dX10_isRight_50 (by decide) ?_
          exact hv
      · replace hv := hv.1 hc
        exact hv
  · replace hv := hv.1 hc
    refine j_iload_n dX10_isRight_4 rfl rfl ?_
    refine j_iload_n dX10_isRight_5 rfl rfl ?_
    refine j_static (avs := [.int x2, .int x3]) (rest := []) (kc' := mc) (ks' := ms) dX10_isRight_6 mt_X10_isPlace w_m_X10_81 w_st_X10_isPlace rfl rfl (Nat.le_of_ble_eq_true rfl) (Nat.le_refl _) (by omega) (by omega) hv (fun _ _ q9 => q9) ?_
    rintro _ h1 ⟨z2, rfl, hv⟩ -
    exact j_zret dX10_isRight_9 rfl hv.1 hv.2
set_option maxRecDepth 20000 in
set_option maxHeartbeats 4000000 in
theorem v_X10_isPlanned {l : Launch} {d mc ms : Nat} {Q : Option Value → qH → Prop} {QX : String → qH → Prop} (x0 : Nat) (x1 : Int32) {h : qH} (hv : qGI h x0 10 13 (fun z1 => qCI l (d + 0) mX10_isIn [.int x1, .int (0 : Int32), .int (z1 - (1 : Int32))] h 0 0 (fun z3 h2 => qB z3 (Q (some (.int z3)) h2)))) : q_Ct l (d + 1) mX10_isPlanned [.ref x0, .int x1] h mc ms Q QX := by
  refine q_body (by decide ) (by intro v hm; simp only [List.mem_cons, List.not_mem_nil, or_false] at hm; rcases hm with rfl | rfl <;> rfl) (Nat.le_of_ble_eq_true rfl) ?_
  refine j_pad 0 rfl ?_
  refine j_iload_n dX10_isPlanned_0 rfl rfl ?_
  refine j_iconst (v := (0 : Int32)) dX10_isPlanned_1 (by decide) ?_
  refine j_aload_n dX10_isPlanned_2 rfl rfl ?_
  obtain ⟨fs, z1, e1, e2, hv⟩ := hv
  refine j_getf (k := 13) cl_X10 (by decide) w_f_X10_249 dX10_isPlanned_3 e1 e2 ?_
  refine j_iconst (v := (1 : Int32)) dX10_isPlanned_6 (by decide) ?_
  refine j_isub dX10_isPlanned_7 ?_
  refine j_static (avs := [.int x1, .int (0 : Int32), .int (z1 - (1 : Int32))]) (rest := []) (kc' := mc) (ks' := ms) dX10_isPlanned_8 mt_X10_isIn w_m_X10_74 w_st_X10_isIn rfl rfl (Nat.le_of_ble_eq_true rfl) (Nat.le_refl _) (by omega) (by omega) hv (fun _ _ q9 => q9) ?_
  rintro _ h2 ⟨z3, rfl, hv⟩ -
  exact j_zret dX10_isPlanned_11 rfl hv.1 hv.2
set_option maxRecDepth 20000 in
set_option maxHeartbeats 4000000 in
theorem v_X10_insert {l : Launch} {d mc ms : Nat} {Q : Option Value → qH → Prop} {QX : String → qH → Prop} (x0 : Nat) (x1 : Int32) (x2 : Int32) (x3 : Int32) (x4 : Int32) {h : qH} (hv : qGR h x0 10 14 (fun r1 => qGR h x0 10 14 (fun r2 => qGI h x0 10 13 (fun z3 => qCP h r1 ((3 : Int32) * x1) r2 ((3 : Int32) * (x1 + (1 : Int32))) ((3 : Int32) * (z3 - x1)) (fun h4 => qGR h4 x0 10 14 (fun r5 => qAS h4 r5 ((3 : Int32) * x1) x2 (fun h6 => qGR h6 x0 10 14 (fun r7 => qAS h6 r7 (((3 : Int32) * x1) + (1 : Int32)) x3 (fun h8 => qGR h8 x0 10 14 (fun r9 => qAS h8 r9 (((3 : Int32) * x1) + (2 : Int32)) x4 (fun h10 => qGI h10 x0 10 13 (fun z11 => qPI h10 x0 10 13 (z11 + (1 : Int32)) (fun h12 => Q none h12))))))))))))) : q_Ct l (d + 1) mX10_insert [.ref x0, .int x1, .int x2, .int x3, .int x4] h mc ms Q QX := by
  refine q_body (by decide ) (by intro v hm; simp only [List.mem_cons, List.not_mem_nil, or_false] at hm; rcases hm with rfl | rfl | rfl | rfl | rfl <;> rfl) (Nat.le_of_ble_eq_true rfl) ?_
  refine j_pad 0 rfl ?_
  refine j_aload_n dX10_insert_0 rfl rfl ?_
  obtain ⟨fs, r1, e1, e2, hv⟩ := hv
  refine j_getf (k := 14) cl_X10 (by decide) w_f_X10_42 dX10_insert_1 e1 e2 ?_
  refine j_iconst (v := (3 : Int32)) dX10_insert_4 (by decide) ?_
  refine j_iload_n dX10_insert_5 rfl rfl ?_
  refine j_imul dX10_insert_6 ?_
  refine j_aload_n dX10_insert_7 rfl rfl ?_
  obtain ⟨fs, r2, e1, e2, hv⟩ := hv
  refine j_getf (k := 14) cl_X10 (by decide) w_f_X10_42 dX10_insert_8 e1 e2 ?_
  refine j_iconst (v := (3 : Int32)) dX10_insert_11 (by decide) ?_
  refine j_iload_n dX10_insert_12 rfl rfl ?_
  refine j_iconst (v := (1 : Int32)) dX10_insert_13 (by decide) ?_
  refine j_iadd dX10_insert_14 ?_
  refine j_imul dX10_insert_15 ?_
  refine j_iconst (v := (3 : Int32)) dX10_insert_16 (by decide) ?_
  refine j_aload_n dX10_insert_17 rfl rfl ?_
  obtain ⟨fs, z3, e1, e2, hv⟩ := hv
  refine j_getf (k := 13) cl_X10 (by decide) w_f_X10_249 dX10_insert_18 e1 e2 ?_
  refine j_iload_n dX10_insert_21 rfl rfl ?_
  refine j_isub dX10_insert_22 ?_
  refine j_imul dX10_insert_23 ?_
  obtain ⟨N0, N1, f0, f1, e1, e2, q1, q2, q3, q4, q5, hv⟩ := hv
  refine j_copy dX10_insert_24 w_m_X10_151 w_na_copy w_st_copy w_ini_System (Nat.le_of_ble_eq_true rfl) (by omega) e1 e2 q1 q2 q3 q4 q5 ?_
  generalize q_set h r2 _ = h4 at hv ⊢
  refine j_aload_n dX10_insert_27 rfl rfl ?_
  obtain ⟨fs, r5, e1, e2, hv⟩ := hv
  refine j_getf (k := 14) cl_X10 (by decide) w_f_X10_42 dX10_insert_28 e1 e2 ?_
  refine j_iconst (v := (3 : Int32)) dX10_insert_31 (by decide) ?_
  refine j_iload_n dX10_insert_32 rfl rfl ?_
  refine j_imul dX10_insert_33 ?_
  refine j_iload_n dX10_insert_34 rfl rfl ?_
  obtain ⟨N, f, e1, e2, hv⟩ := hv
  refine j_iast dX10_insert_35 e1 e2 ?_
  generalize q_set h4 r5 _ = h6 at hv ⊢
  refine j_aload_n dX10_insert_36 rfl rfl ?_
  obtain ⟨fs, r7, e1, e2, hv⟩ := hv
  refine j_getf (k := 14) cl_X10 (by decide) w_f_X10_42 dX10_insert_37 e1 e2 ?_
  refine j_iconst (v := (3 : Int32)) dX10_insert_40 (by decide) ?_
  refine j_iload_n dX10_insert_41 rfl rfl ?_
  refine j_imul dX10_insert_42 ?_
  refine j_iconst (v := (1 : Int32)) dX10_insert_43 (by decide) ?_
  refine j_iadd dX10_insert_44 ?_
  refine j_iload_n dX10_insert_45 rfl rfl ?_
  obtain ⟨N, f, e1, e2, hv⟩ := hv
  refine j_iast dX10_insert_46 e1 e2 ?_
  generalize q_set h6 r7 _ = h8 at hv ⊢
  refine j_aload_n dX10_insert_47 rfl rfl ?_
  obtain ⟨fs, r9, e1, e2, hv⟩ := hv
  refine j_getf (k := 14) cl_X10 (by decide) w_f_X10_42 dX10_insert_48 e1 e2 ?_
  refine j_iconst (v := (3 : Int32)) dX10_insert_51 (by decide) ?_
  refine j_iload_n dX10_insert_52 rfl rfl ?_
  refine j_imul dX10_insert_53 ?_
  refine j_iconst (v := (2 : Int32)) dX10_insert_54 (by decide) ?_
  refine j_iadd dX10_insert_55 ?_
  refine j_iload dX10_insert_56 rfl ?_
  obtain ⟨N, f, e1, e2, hv⟩ := hv
  refine j_iast dX10_insert_58 e1 e2 ?_
  generalize q_set h8 r9 _ = h10 at hv ⊢
  refine j_aload_n dX10_insert_59 rfl rfl ?_
  refine j_dup dX10_insert_60 rfl ?_
  obtain ⟨fs, z11, e1, e2, hv⟩ := hv
  refine j_getf (k := 13) cl_X10 (by decide) w_f_X10_249 dX10_insert_61 e1 e2 ?_
  refine j_iconst (v := (1 : Int32)) dX10_insert_64 (by decide) ?_
  refine j_iadd dX10_insert_65 ?_
  obtain ⟨fs, e1, e2, hv⟩ := hv
  refine j_put (k := 13) (ty0 := tyX10) cl_X10 (pf_X10_13) w_f_X10_249 dX10_insert_66 (fun g ad => q_nI g ad _) e1 e2 ?_
  generalize q_set h10 x0 _ = h12 at hv ⊢
  exact j_vret dX10_insert_69 rfl hv
set_option maxRecDepth 20000 in
set_option maxHeartbeats 4000000 in
theorem v_X10_takeOut {l : Launch} {d mc ms : Nat} {Q : Option Value → qH → Prop} {QX : String → qH → Prop} (x0 : Nat) (x1 : Int32) {h : qH} (hv : qGI h x0 10 13 (fun z1 => qPI h x0 10 13 (z1 - (1 : Int32)) (fun h2 => qGR h2 x0 10 14 (fun r3 => qGR h2 x0 10 14 (fun r4 => qGI h2 x0 10 13 (fun z5 => qCP h2 r3 ((3 : Int32) * (x1 + (1 : Int32))) r4 ((3 : Int32) * x1) ((3 : Int32) * (z5 - x1)) (fun h6 => Q none h6))))))) : q_Ct l (d + 1) mX10_takeOut [.ref x0, .int x1] h mc ms Q QX := by
  refine q_body (by decide ) (by intro v hm; simp only [List.mem_cons, List.not_mem_nil, or_false] at hm; rcases hm with rfl | rfl <;> rfl) (Nat.le_of_ble_eq_true rfl) ?_
  refine j_pad 0 rfl ?_
  refine j_aload_n dX10_takeOut_0 rfl rfl ?_
  refine j_dup dX10_takeOut_1 rfl ?_
  obtain ⟨fs, z1, e1, e2, hv⟩ := hv
  refine j_getf (k := 13) cl_X10 (by decide) w_f_X10_249 dX10_takeOut_2 e1 e2 ?_
  refine j_iconst (v := (1 : Int32)) dX10_takeOut_5 (by decide) ?_
  refine j_isub dX10_takeOut_6 ?_
  obtain ⟨fs, e1, e2, hv⟩ := hv
  refine j_put (k := 13) (ty0 := tyX10) cl_X10 (pf_X10_13) w_f_X10_249 dX10_takeOut_7 (fun g ad => q_nI g ad _) e1 e2 ?_
  generalize q_set h x0 _ = h2 at hv ⊢
  refine j_aload_n dX10_takeOut_10 rfl rfl ?_
  obtain ⟨fs, r3, e1, e2, hv⟩ := hv
  refine j_getf (k := 14) cl_X10 (by decide) w_f_X10_42 dX10_takeOut_11 e1 e2 ?_
  refine j_iconst (v := (3 : Int32)) dX10_takeOut_14 (by decide) ?_
  refine j_iload_n dX10_takeOut_15 rfl rfl ?_
  refine j_iconst (v := (1 : Int32)) dX10_takeOut_16 (by decide) ?_
  refine j_iadd dX10_takeOut_17 ?_
  refine j_imul dX10_takeOut_18 ?_
  refine j_aload_n dX10_takeOut_19 rfl rfl ?_
  obtain ⟨fs, r4, e1, e2, hv⟩ := hv
  refine j_getf (k := 14) cl_X10 (by decide) w_f_X10_42 dX10_takeOut_20 e1 e2 ?_
  refine j_iconst (v := (3 : Int32)) dX10_takeOut_23 (by decide) ?_
  refine j_iload_n dX10_takeOut_24 rfl rfl ?_
  refine j_imul dX10_takeOut_25 ?_
  refine j_iconst (v := (3 : Int32)) dX10_takeOut_26 (by decide) ?_
  refine j_aload_n dX10_takeOut_27 rfl rfl ?_
  obtain ⟨fs, z5, e1, e2, hv⟩ := hv
  refine j_getf (k := 13) cl_X10 (by decide) w_f_X10_249 dX10_takeOut_28 e1 e2 ?_
  refine j_iload_n dX10_takeOut_31 rfl rfl ?_
  refine j_isub dX10_takeOut_32 ?_
  refine j_imul dX10_takeOut_33 ?_
  obtain ⟨N0, N1, f0, f1, e1, e2, q1, q2, q3, q4, q5, hv⟩ := hv
  refine j_copy dX10_takeOut_34 w_m_X10_151 w_na_copy w_st_copy w_ini_System (Nat.le_of_ble_eq_true rfl) (by omega) e1 e2 q1 q2 q3 q4 q5 ?_
  generalize q_set h2 r4 _ = h6 at hv ⊢
  exact j_vret dX10_takeOut_37 rfl hv
set_option maxRecDepth 20000 in
set_option maxHeartbeats 4000000 in
theorem v_X10_put {l : Launch} {d mc ms : Nat} {Q : Option Value → qH → Prop} {QX : String → qH → Prop} (x0 : Nat) (x1 : Int32) (x2 : Int32) (x3 : Int32) (x4 : Int32) {h : qH} (hv : qPI h x0 10 0 (0 : Int32) (fun h1 => qGI h1 x0 10 13 (fun z2 => qCI l (d + 2) mX10_isIn [.int x1, .int (0 : Int32), .int z2] h1 0 0 (fun z4 h3 => qIF (z4 = 0) (qOB h3 x0 10 (qCI l (d + 2) mX10_fail [.ref x0, .int (1 : Int32)] h3 0 0 (fun z19 h18 => Q (some (.int z19)) h18))) (qCI l (d + 2) mX10_isKind [.int x2] h3 0 0 (fun z6 h5 => qIF (z6 = 0) (qOB h5 x0 10 (qCI l (d + 2) mX10_fail [.ref x0, .int (2 : Int32)] h5 0 0 (fun z8 h7 => Q (some (.int z8)) h7))) (qOB h5 x0 10 (qCI l (d + 2) mX10_isRight [.ref x0, .int x2, .int x3, .int x4] h5 0 0 (fun z10 h9 => qIF (z10 = 0) (qOB h9 x0 10 (qCI l (d + 2) mX10_fail [.ref x0, .int (2 : Int32)] h9 0 0 (fun z17 h16 => Q (some (.int z17)) h16))) (qGI h9 x0 10 13 (fun z11 => qIF (z11 = (40 : Int32)) (qOB h9 x0 10 (qCI l (d + 2) mX10_fail [.ref x0, .int (3 : Int32)] h9 0 0 (fun z15 h14 => Q (some (.int z15)) h14))) (qOB h9 x0 10 (qCV l (d + 2) mX10_insert [.ref x0, .int x1, .int x2, .int x3, .int x4] h9 0 0 (fun h12 => qGI h12 x0 10 13 (fun z13 => Q (some (.int z13)) h12))))))))))))))) : q_Ct l (d + 3) mX10_put [.ref x0, .int x1, .int x2, .int x3, .int x4] h mc ms Q QX := by
  refine q_body (by decide ) (by intro v hm; simp only [List.mem_cons, List.not_mem_nil, or_false] at hm; rcases hm with rfl | rfl | rfl | rfl | rfl <;> rfl) (Nat.le_of_ble_eq_true rfl) ?_
  refine j_pad 0 rfl ?_
  refine j_aload_n dX10_put_0 rfl rfl ?_
  refine j_iconst (v := (0 : Int32)) dX10_put_1 (by decide) ?_
  obtain ⟨fs, e1, e2, hv⟩ := hv
  refine j_put (k := 0) (ty0 := tyX10) cl_X10 (pf_X10_0) w_f_X10_71 dX10_put_2 (fun g ad => q_nI g ad _) e1 e2 ?_
  generalize q_set h x0 _ = h1 at hv ⊢
  refine j_iload_n dX10_put_5 rfl rfl ?_
  refine j_iconst (v := (0 : Int32)) dX10_put_6 (by decide) ?_
  refine j_aload_n dX10_put_7 rfl rfl ?_
  obtain ⟨fs, z2, e1, e2, hv⟩ := hv
  refine j_getf (k := 13) cl_X10 (by decide) w_f_X10_249 dX10_put_8 e1 e2 ?_
  refine j_static (avs := [.int x1, .int (0 : Int32), .int z2]) (rest := []) (kc' := mc) (ks' := ms) dX10_put_11 mt_X10_isIn w_m_X10_74 w_st_X10_isIn rfl rfl (Nat.le_of_ble_eq_true rfl) (Nat.le_refl _) (by omega) (by omega) hv (fun _ _ q9 => q9) ?_
  rintro _ h3 ⟨z4, rfl, hv⟩ -
  refine j_if_ne (tgt := 23) dX10_put_14 (by decide) (fun hc => ?_) (fun hc => ?_)
  · replace hv := hv.2 hc
    refine j_iload_n dX10_put_23 rfl rfl ?_
    refine j_static (avs := [.int x2]) (rest := []) (kc' := mc) (ks' := ms) dX10_put_24 mt_X10_isKind w_m_X10_252 w_st_X10_isKind rfl rfl (Nat.le_of_ble_eq_true rfl) (Nat.le_refl _) (by omega) (by omega) hv (fun _ _ q9 => q9) ?_
    rintro _ h5 ⟨z6, rfl, hv⟩ -
    refine j_if_eq (tgt := 41) dX10_put_27 (by decide) (fun hc => ?_) (fun hc => ?_)
    · replace hv := hv.1 hc
      refine j_aload_n dX10_put_41 rfl rfl ?_
      refine j_iconst (v := (2 : Int32)) dX10_put_42 (by decide) ?_
      obtain ⟨⟨fs, e1⟩, hv⟩ := hv
      refine j_virtual (avs := [.int (2 : Int32)]) (rest := []) (i := x0) (kc' := mc) (ks' := ms) dX10_put_43 mt_X10_fail w_m_X10_89 w_in_X10_fail w_se_X10_fail rfl rfl (Nat.le_of_ble_eq_true rfl) (Nat.le_refl _) (by omega) (by omega) cl_X10.1 e1 hv (fun _ _ q9 => q9) ?_
      rintro _ h7 ⟨z8, rfl, hv⟩ -
      exact j_iret dX10_put_46 rfl hv
    · replace hv := hv.2 hc
      refine j_aload_n dX10_put_30 rfl rfl ?_
      refine j_iload_n dX10_put_31 rfl rfl ?_
      refine j_iload_n dX10_put_32 rfl rfl ?_
      refine j_iload dX10_put_33 rfl ?_
      obtain ⟨⟨fs, e1⟩, hv⟩ := hv
      refine j_virtual (avs := [.int x2, .int x3, .int x4]) (rest := []) (i := x0) (kc' := mc) (ks' := ms) dX10_put_35 mt_X10_isRight w_m_X10_255 w_in_X10_isRight w_se_X10_isRight rfl rfl (Nat.le_of_ble_eq_true rfl) (Nat.le_refl _) (by omega) (by omega) cl_X10.1 e1 hv (fun _ _ q9 => q9) ?_
      rintro _ h9 ⟨z10, rfl, hv⟩ -
      refine j_if_ne (tgt := 47) dX10_put_38 (by decide) (fun hc => ?_) (fun hc => ?_)
      · replace hv := hv.2 hc
        refine j_aload_n dX10_put_47 rfl rfl ?_
        obtain ⟨fs, z11, e1, e2, hv⟩ := hv
        refine j_getf (k := 13) cl_X10 (by decide) w_f_X10_249 dX10_put_48 e1 e2 ?_
        refine j_bipush (v := (40 : Int32)) dX10_put_51 (by decide) ?_
        refine j_icmp_ne (tgt := 62) dX10_put_53 (by decide) (fun hc => ?_) (fun hc => ?_)
        · replace hv := hv.2 hc
          refine j_aload_n dX10_put_62 rfl rfl ?_
          refine j_iload_n dX10_put_63 rfl rfl ?_
          refine j_iload_n dX10_put_64 rfl rfl ?_
          refine j_iload_n dX10_put_65 rfl rfl ?_
          refine j_iload dX10_put_66 rfl ?_
          obtain ⟨⟨fs, e1⟩, hv⟩ := hv
          refine j_virtual (avs := [.int x1, .int x2, .int x3, .int x4]) (rest := []) (i := x0) (kc' := mc) (ks' := ms) dX10_put_68 mt_X10_insert w_m_X10_258 w_in_X10_insert w_se_X10_insert rfl rfl (Nat.le_of_ble_eq_true rfl) (Nat.le_refl _) (by omega) (by omega) cl_X10.1 e1 hv (fun _ _ q9 => q9) ?_
          rintro _ h12 ⟨rfl, hv⟩ -
          refine j_aload_n dX10_put_71 rfl rfl ?_
          obtain ⟨fs, z13, e1, e2, hv⟩ := hv
          refine j_getf (k := 13) cl_X10 (by decide) w_f_X10_249 dX10_put_72 e1 e2 ?_
          exact j_iret dX10_put_75 rfl hv
        · replace hv := hv.1 hc
          refine j_aload_n dX10_put_56 rfl rfl ?_
          refine j_iconst (v := (3 : Int32)) dX10_put_57 (by decide) ?_
          obtain ⟨⟨fs, e1⟩, hv⟩ := hv
          refine j_virtual (avs := [.int (3 : Int32)]) (rest := []) (i := x0) (kc' := mc) (ks' := ms) dX10_put_58 mt_X10_fail w_m_X10_89 w_in_X10_fail w_se_X10_fail rfl rfl (Nat.le_of_ble_eq_true rfl) (Nat.le_refl _) (by omega) (by omega) cl_X10.1 e1 hv (fun _ _ q9 => q9) ?_
          rintro _ h14 ⟨z15, rfl, hv⟩ -
          exact j_iret dX10_put_61 rfl hv
      · replace hv := hv.1 hc
        refine j_aload_n dX10_put_41 rfl rfl ?_
        refine j_iconst (v := (2 : Int32)) dX10_put_42 (by decide) ?_
        obtain ⟨⟨fs, e1⟩, hv⟩ := hv
        refine j_virtual (avs := [.int (2 : Int32)]) (rest := []) (i := x0) (kc' := mc) (ks' := ms) dX10_put_43 mt_X10_fail w_m_X10_89 w_in_X10_fail w_se_X10_fail rfl rfl (Nat.le_of_ble_eq_true rfl) (Nat.le_refl _) (by omega) (by omega) cl_X10.1 e1 hv (fun _ _ q9 => q9) ?_
        rintro _ h16 ⟨z17, rfl, hv⟩ -
        exact j_iret dX10_put_46 rfl hv
  · replace hv := hv.1 hc
    refine j_aload_n dX10_put_17 rfl rfl ?_
    refine j_iconst (v := (1 : Int32)) dX10_put_18 (by decide) ?_
    obtain ⟨⟨fs, e1⟩, hv⟩ := hv
    refine j_virtual (avs := [.int (1 : Int32)]) (rest := []) (i := x0) (kc' := mc) (ks' := ms) dX10_put_19 mt_X10_fail w_m_X10_89 w_in_X10_fail w_se_X10_fail rfl rfl (Nat.le_of_ble_eq_true rfl) (Nat.le_refl _) (by omega) (by omega) cl_X10.1 e1 hv (fun _ _ q9 => q9) ?_
    rintro _ h18 ⟨z19, rfl, hv⟩ -
    exact j_iret dX10_put_22 rfl hv
set_option maxRecDepth 20000 in
set_option maxHeartbeats 4000000 in
theorem v_X10_remove {l : Launch} {d mc ms : Nat} {Q : Option Value → qH → Prop} {QX : String → qH → Prop} (x0 : Nat) (x1 : Int32) {h : qH} (hv : qPI h x0 10 0 (0 : Int32) (fun h1 => qOB h1 x0 10 (qCI l (d + 1) mX10_isPlanned [.ref x0, .int x1] h1 0 0 (fun z3 h2 => qIF (z3 = 0) (qOB h2 x0 10 (qCI l (d + 1) mX10_fail [.ref x0, .int (1 : Int32)] h2 0 0 (fun z8 h7 => Q (some (.int z8)) h7))) (qGR h2 x0 10 14 (fun r4 => qAL h2 r4 ((3 : Int32) * x1) (fun z5 => qOB h2 x0 10 (qCV l (d + 1) mX10_takeOut [.ref x0, .int x1] h2 0 0 (fun h6 => Q (some (.int z5)) h6))))))))) : q_Ct l (d + 2) mX10_remove [.ref x0, .int x1] h mc ms Q QX := by
  refine q_body (by decide ) (by intro v hm; simp only [List.mem_cons, List.not_mem_nil, or_false] at hm; rcases hm with rfl | rfl <;> rfl) (Nat.le_of_ble_eq_true rfl) ?_
  refine j_pad 1 rfl ?_
  refine j_aload_n dX10_remove_0 rfl rfl ?_
  refine j_iconst (v := (0 : Int32)) dX10_remove_1 (by decide) ?_
  obtain ⟨fs, e1, e2, hv⟩ := hv
  refine j_put (k := 0) (ty0 := tyX10) cl_X10 (pf_X10_0) w_f_X10_71 dX10_remove_2 (fun g ad => q_nI g ad _) e1 e2 ?_
  generalize q_set h x0 _ = h1 at hv ⊢
  refine j_aload_n dX10_remove_5 rfl rfl ?_
  refine j_iload_n dX10_remove_6 rfl rfl ?_
  obtain ⟨⟨fs, e1⟩, hv⟩ := hv
  refine j_virtual (avs := [.int x1]) (rest := []) (i := x0) (kc' := mc) (ks' := ms) dX10_remove_7 mt_X10_isPlanned w_m_X10_262 w_in_X10_isPlanned w_se_X10_isPlanned rfl rfl (Nat.le_of_ble_eq_true rfl) (Nat.le_refl _) (by omega) (by omega) cl_X10.1 e1 hv (fun _ _ q9 => q9) ?_
  rintro _ h2 ⟨z3, rfl, hv⟩ -
  refine j_if_ne (tgt := 19) dX10_remove_10 (by decide) (fun hc => ?_) (fun hc => ?_)
  · replace hv := hv.2 hc
    refine j_aload_n dX10_remove_19 rfl rfl ?_
    obtain ⟨fs, r4, e1, e2, hv⟩ := hv
    refine j_getf (k := 14) cl_X10 (by decide) w_f_X10_42 dX10_remove_20 e1 e2 ?_
    refine j_iconst (v := (3 : Int32)) dX10_remove_23 (by decide) ?_
    refine j_iload_n dX10_remove_24 rfl rfl ?_
    refine j_imul dX10_remove_25 ?_
    obtain ⟨N, f, e1, e2, hv⟩ := hv
    refine j_iald dX10_remove_26 e1 e2 ?_
    generalize f _ = z5 at hv ⊢
    refine j_istore_n dX10_remove_27 rfl (by decide) rfl rfl ?_
    refine j_aload_n dX10_remove_28 rfl rfl ?_
    refine j_iload_n dX10_remove_29 rfl rfl ?_
    obtain ⟨⟨fs, e1⟩, hv⟩ := hv
    refine j_virtual (avs := [.int x1]) (rest := []) (i := x0) (kc' := mc) (ks' := ms) dX10_remove_30 mt_X10_takeOut w_m_X10_265 w_in_X10_takeOut w_se_X10_takeOut rfl rfl (Nat.le_of_ble_eq_true rfl) (Nat.le_refl _) (by omega) (by omega) cl_X10.1 e1 hv (fun _ _ q9 => q9) ?_
    rintro _ h6 ⟨rfl, hv⟩ -
    refine j_iload_n dX10_remove_33 rfl rfl ?_
    exact j_iret dX10_remove_34 rfl hv
  · replace hv := hv.1 hc
    refine j_aload_n dX10_remove_13 rfl rfl ?_
    refine j_iconst (v := (1 : Int32)) dX10_remove_14 (by decide) ?_
    obtain ⟨⟨fs, e1⟩, hv⟩ := hv
    refine j_virtual (avs := [.int (1 : Int32)]) (rest := []) (i := x0) (kc' := mc) (ks' := ms) dX10_remove_15 mt_X10_fail w_m_X10_89 w_in_X10_fail w_se_X10_fail rfl rfl (Nat.le_of_ble_eq_true rfl) (Nat.le_refl _) (by omega) (by omega) cl_X10.1 e1 hv (fun _ _ q9 => q9) ?_
    rintro _ h7 ⟨z8, rfl, hv⟩ -
    exact j_iret dX10_remove_18 rfl hv
set_option maxRecDepth 20000 in
set_option maxHeartbeats 4000000 in
theorem v_X10_move {l : Launch} {d mc ms : Nat} {Q : Option Value → qH → Prop} {QX : String → qH → Prop} (x0 : Nat) (x1 : Int32) (x2 : Int32) {h : qH} (hv : qPI h x0 10 0 (0 : Int32) (fun h1 => qOB h1 x0 10 (qCI l (d + 1) mX10_isPlanned [.ref x0, .int x1] h1 0 0 (fun z3 h2 => qIF (z3 = 0) (qOB h2 x0 10 (qCI l (d + 1) mX10_fail [.ref x0, .int (1 : Int32)] h2 0 0 (fun z5 h4 => Q (some (.int z5)) h4))) (qOB h2 x0 10 (qCI l (d + 1) mX10_isPlanned [.ref x0, .int x2] h2 0 0 (fun z7 h6 => qIF (z7 = 0) (qOB h6 x0 10 (qCI l (d + 1) mX10_fail [.ref x0, .int (1 : Int32)] h6 0 0 (fun z17 h16 => Q (some (.int z17)) h16))) (qGR h6 x0 10 14 (fun r8 => qAL h6 r8 ((3 : Int32) * x1) (fun z9 => qGR h6 x0 10 14 (fun r10 => qAL h6 r10 (((3 : Int32) * x1) + (1 : Int32)) (fun z11 => qGR h6 x0 10 14 (fun r12 => qAL h6 r12 (((3 : Int32) * x1) + (2 : Int32)) (fun z13 => qOB h6 x0 10 (qCV l (d + 1) mX10_takeOut [.ref x0, .int x1] h6 0 0 (fun h14 => qOB h14 x0 10 (qCV l (d + 1) mX10_insert [.ref x0, .int x2, .int z9, .int z11, .int z13] h14 0 0 (fun h15 => Q (some (.int z9)) h15)))))))))))))))))) : q_Ct l (d + 2) mX10_move [.ref x0, .int x1, .int x2] h mc ms Q QX := by
  refine q_body (by decide ) (by intro v hm; simp only [List.mem_cons, List.not_mem_nil, or_false] at hm; rcases hm with rfl | rfl | rfl <;> rfl) (Nat.le_of_ble_eq_true rfl) ?_
  refine j_pad 3 rfl ?_
  refine j_aload_n dX10_move_0 rfl rfl ?_
  refine j_iconst (v := (0 : Int32)) dX10_move_1 (by decide) ?_
  obtain ⟨fs, e1, e2, hv⟩ := hv
  refine j_put (k := 0) (ty0 := tyX10) cl_X10 (pf_X10_0) w_f_X10_71 dX10_move_2 (fun g ad => q_nI g ad _) e1 e2 ?_
  generalize q_set h x0 _ = h1 at hv ⊢
  refine j_aload_n dX10_move_5 rfl rfl ?_
  refine j_iload_n dX10_move_6 rfl rfl ?_
  obtain ⟨⟨fs, e1⟩, hv⟩ := hv
  refine j_virtual (avs := [.int x1]) (rest := []) (i := x0) (kc' := mc) (ks' := ms) dX10_move_7 mt_X10_isPlanned w_m_X10_262 w_in_X10_isPlanned w_se_X10_isPlanned rfl rfl (Nat.le_of_ble_eq_true rfl) (Nat.le_refl _) (by omega) (by omega) cl_X10.1 e1 hv (fun _ _ q9 => q9) ?_
  rintro _ h2 ⟨z3, rfl, hv⟩ -
  refine j_if_eq (tgt := 21) dX10_move_10 (by decide) (fun hc => ?_) (fun hc => ?_)
  · replace hv := hv.1 hc
    refine j_aload_n dX10_move_21 rfl rfl ?_
    refine j_iconst (v := (1 : Int32)) dX10_move_22 (by decide) ?_
    obtain ⟨⟨fs, e1⟩, hv⟩ := hv
    refine j_virtual (avs := [.int (1 : Int32)]) (rest := []) (i := x0) (kc' := mc) (ks' := ms) dX10_move_23 mt_X10_fail w_m_X10_89 w_in_X10_fail w_se_X10_fail rfl rfl (Nat.le_of_ble_eq_true rfl) (Nat.le_refl _) (by omega) (by omega) cl_X10.1 e1 hv (fun _ _ q9 => q9) ?_
    rintro _ h4 ⟨z5, rfl, hv⟩ -
    exact j_iret dX10_move_26 rfl hv
  · replace hv := hv.2 hc
    refine j_aload_n dX10_move_13 rfl rfl ?_
    refine j_iload_n dX10_move_14 rfl rfl ?_
    obtain ⟨⟨fs, e1⟩, hv⟩ := hv
    refine j_virtual (avs := [.int x2]) (rest := []) (i := x0) (kc' := mc) (ks' := ms) dX10_move_15 mt_X10_isPlanned w_m_X10_262 w_in_X10_isPlanned w_se_X10_isPlanned rfl rfl (Nat.le_of_ble_eq_true rfl) (Nat.le_refl _) (by omega) (by omega) cl_X10.1 e1 hv (fun _ _ q9 => q9) ?_
    rintro _ h6 ⟨z7, rfl, hv⟩ -
    refine j_if_ne (tgt := 27) dX10_move_18 (by decide) (fun hc => ?_) (fun hc => ?_)
    · replace hv := hv.2 hc
      refine j_aload_n dX10_move_27 rfl rfl ?_
      obtain ⟨fs, r8, e1, e2, hv⟩ := hv
      refine j_getf (k := 14) cl_X10 (by decide) w_f_X10_42 dX10_move_28 e1 e2 ?_
      refine j_iconst (v := (3 : Int32)) dX10_move_31 (by decide) ?_
      refine j_iload_n dX10_move_32 rfl rfl ?_
      refine j_imul dX10_move_33 ?_
      obtain ⟨N, f, e1, e2, hv⟩ := hv
      refine j_iald dX10_move_34 e1 e2 ?_
      generalize f _ = z9 at hv ⊢
      refine j_istore_n dX10_move_35 rfl (by decide) rfl rfl ?_
      refine j_aload_n dX10_move_36 rfl rfl ?_
      obtain ⟨fs, r10, e1, e2, hv⟩ := hv
      refine j_getf (k := 14) cl_X10 (by decide) w_f_X10_42 dX10_move_37 e1 e2 ?_
      refine j_iconst (v := (3 : Int32)) dX10_move_40 (by decide) ?_
      refine j_iload_n dX10_move_41 rfl rfl ?_
      refine j_imul dX10_move_42 ?_
      refine j_iconst (v := (1 : Int32)) dX10_move_43 (by decide) ?_
      refine j_iadd dX10_move_44 ?_
      obtain ⟨N, f, e1, e2, hv⟩ := hv
      refine j_iald dX10_move_45 e1 e2 ?_
      generalize f _ = z11 at hv ⊢
      refine j_istore dX10_move_46 (by decide) rfl rfl ?_
      refine j_aload_n dX10_move_48 rfl rfl ?_
      obtain ⟨fs, r12, e1, e2, hv⟩ := hv
      refine j_getf (k := 14) cl_X10 (by decide) w_f_X10_42 dX10_move_49 e1 e2 ?_
      refine j_iconst (v := (3 : Int32)) dX10_move_52 (by decide) ?_
      refine j_iload_n dX10_move_53 rfl rfl ?_
      refine j_imul dX10_move_54 ?_
      refine j_iconst (v := (2 : Int32)) dX10_move_55 (by decide) ?_
      refine j_iadd dX10_move_56 ?_
      obtain ⟨N, f, e1, e2, hv⟩ := hv
      refine j_iald dX10_move_57 e1 e2 ?_
      generalize f _ = z13 at hv ⊢
      refine j_istore dX10_move_58 (by decide) rfl rfl ?_
      refine j_aload_n dX10_move_60 rfl rfl ?_
      refine j_iload_n dX10_move_61 rfl rfl ?_
      obtain ⟨⟨fs, e1⟩, hv⟩ := hv
      refine j_virtual (avs := [.int x1]) (rest := []) (i := x0) (kc' := mc) (ks' := ms) dX10_move_62 mt_X10_takeOut w_m_X10_265 w_in_X10_takeOut w_se_X10_takeOut rfl rfl (Nat.le_of_ble_eq_true rfl) (Nat.le_refl _) (by omega) (by omega) cl_X10.1 e1 hv (fun _ _ q9 => q9) ?_
      rintro _ h14 ⟨rfl, hv⟩ -
      refine j_aload_n dX10_move_65 rfl rfl ?_
      refine j_iload_n dX10_move_66 rfl rfl ?_
      refine j_iload_n dX10_move_67 rfl rfl ?_
      refine j_iload dX10_move_68 rfl ?_
      refine j_iload dX10_move_70 rfl ?_
      obtain ⟨⟨fs, e1⟩, hv⟩ := hv
      refine j_virtual (avs := [.int x2, .int z9, .int z11, .int z13]) (rest := []) (i := x0) (kc' := mc) (ks' := ms) dX10_move_72 mt_X10_insert w_m_X10_258 w_in_X10_insert w_se_X10_insert rfl rfl (Nat.le_of_ble_eq_true rfl) (Nat.le_refl _) (by omega) (by omega) cl_X10.1 e1 hv (fun _ _ q9 => q9) ?_
      rintro _ h15 ⟨rfl, hv⟩ -
      refine j_iload_n dX10_move_75 rfl rfl ?_
      exact j_iret dX10_move_76 rfl hv
    · replace hv := hv.1 hc
      refine j_aload_n dX10_move_21 rfl rfl ?_
      refine j_iconst (v := (1 : Int32)) dX10_move_22 (by decide) ?_
      obtain ⟨⟨fs, e1⟩, hv⟩ := hv
      refine j_virtual (avs := [.int (1 : Int32)]) (rest := []) (i := x0) (kc' := mc) (ks' := ms) dX10_move_23 mt_X10_fail w_m_X10_89 w_in_X10_fail w_se_X10_fail rfl rfl (Nat.le_of_ble_eq_true rfl) (Nat.le_refl _) (by omega) (by omega) cl_X10.1 e1 hv (fun _ _ q9 => q9) ?_
      rintro _ h16 ⟨z17, rfl, hv⟩ -
      exact j_iret dX10_move_26 rfl hv
set_option maxRecDepth 20000 in
set_option maxHeartbeats 4000000 in
theorem v_X10_activity {l : Launch} {d mc ms : Nat} {Q : Option Value → qH → Prop} {QX : String → qH → Prop} (x0 : Nat) (x1 : Int32) (x2 : Int32) {h : qH} (hv : qPI h x0 10 0 (0 : Int32) (fun h1 => qOB h1 x0 10 (qCI l (d + 1) mX10_isPlanned [.ref x0, .int x1] h1 0 0 (fun z3 h2 => qIF (z3 = 0) (qOB h2 x0 10 (qCI l (d + 1) mX10_fail [.ref x0, .int (1 : Int32)] h2 0 0 (fun z5 h4 => Q (some (.int z5)) h4))) (qCI l (d + 1) mX10_isIn [.int x2, .int (0 : Int32), .int (2 : Int32)] h2 0 0 (fun z7 h6 => qIF (z7 = 0) (qOB h6 x0 10 (qCI l (d + 1) mX10_fail [.ref x0, .int (1 : Int32)] h6 0 0 (fun z9 h8 => Q (some (.int z9)) h8))) (qGR h6 x0 10 14 (fun r10 => qAL h6 r10 (((3 : Int32) * x1) + x2) (fun z11 => Q (some (.int z11)) h6))))))))) : q_Ct l (d + 2) mX10_activity [.ref x0, .int x1, .int x2] h mc ms Q QX := by
  refine q_body (by decide ) (by intro v hm; simp only [List.mem_cons, List.not_mem_nil, or_false] at hm; rcases hm with rfl | rfl | rfl <;> rfl) (Nat.le_of_ble_eq_true rfl) ?_
  refine j_pad 0 rfl ?_
  refine j_aload_n dX10_activity_0 rfl rfl ?_
  refine j_iconst (v := (0 : Int32)) dX10_activity_1 (by decide) ?_
  obtain ⟨fs, e1, e2, hv⟩ := hv
  refine j_put (k := 0) (ty0 := tyX10) cl_X10 (pf_X10_0) w_f_X10_71 dX10_activity_2 (fun g ad => q_nI g ad _) e1 e2 ?_
  generalize q_set h x0 _ = h1 at hv ⊢
  refine j_aload_n dX10_activity_5 rfl rfl ?_
  refine j_iload_n dX10_activity_6 rfl rfl ?_
  obtain ⟨⟨fs, e1⟩, hv⟩ := hv
  refine j_virtual (avs := [.int x1]) (rest := []) (i := x0) (kc' := mc) (ks' := ms) dX10_activity_7 mt_X10_isPlanned w_m_X10_262 w_in_X10_isPlanned w_se_X10_isPlanned rfl rfl (Nat.le_of_ble_eq_true rfl) (Nat.le_refl _) (by omega) (by omega) cl_X10.1 e1 hv (fun _ _ q9 => q9) ?_
  rintro _ h2 ⟨z3, rfl, hv⟩ -
  refine j_if_eq (tgt := 35) dX10_activity_10 (by decide) (fun hc => ?_) (fun hc => ?_)
  · replace hv := hv.1 hc
    refine j_aload_n dX10_activity_35 rfl rfl ?_
    refine j_iconst (v := (1 : Int32)) dX10_activity_36 (by decide) ?_
    obtain ⟨⟨fs, e1⟩, hv⟩ := hv
    refine j_virtual (avs := [.int (1 : Int32)]) (rest := []) (i := x0) (kc' := mc) (ks' := ms) dX10_activity_37 mt_X10_fail w_m_X10_89 w_in_X10_fail w_se_X10_fail rfl rfl (Nat.le_of_ble_eq_true rfl) (Nat.le_refl _) (by omega) (by omega) cl_X10.1 e1 hv (fun _ _ q9 => q9) ?_
    rintro _ h4 ⟨z5, rfl, hv⟩ -
    exact j_iret dX10_activity_40 rfl hv
  · replace hv := hv.2 hc
    refine j_iload_n dX10_activity_13 rfl rfl ?_
    refine j_iconst (v := (0 : Int32)) dX10_activity_14 (by decide) ?_
    refine j_iconst (v := (2 : Int32)) dX10_activity_15 (by decide) ?_
    refine j_static (avs := [.int x2, .int (0 : Int32), .int (2 : Int32)]) (rest := []) (kc' := mc) (ks' := ms) dX10_activity_16 mt_X10_isIn w_m_X10_74 w_st_X10_isIn rfl rfl (Nat.le_of_ble_eq_true rfl) (Nat.le_refl _) (by omega) (by omega) hv (fun _ _ q9 => q9) ?_
    rintro _ h6 ⟨z7, rfl, hv⟩ -
    refine j_if_eq (tgt := 35) dX10_activity_19 (by decide) (fun hc => ?_) (fun hc => ?_)
    · replace hv := hv.1 hc
      refine j_aload_n dX10_activity_35 rfl rfl ?_
      refine j_iconst (v := (1 : Int32)) dX10_activity_36 (by decide) ?_
      obtain ⟨⟨fs, e1⟩, hv⟩ := hv
      refine j_virtual (avs := [.int (1 : Int32)]) (rest := []) (i := x0) (kc' := mc) (ks' := ms) dX10_activity_37 mt_X10_fail w_m_X10_89 w_in_X10_fail w_se_X10_fail rfl rfl (Nat.le_of_ble_eq_true rfl) (Nat.le_refl _) (by omega) (by omega) cl_X10.1 e1 hv (fun _ _ q9 => q9) ?_
      rintro _ h8 ⟨z9, rfl, hv⟩ -
      exact j_iret dX10_activity_40 rfl hv
    · replace hv := hv.2 hc
      refine j_aload_n dX10_activity_22 rfl rfl ?_
      obtain ⟨fs, r10, e1, e2, hv⟩ := hv
      refine j_getf (k := 14) cl_X10 (by decide) w_f_X10_42 dX10_activity_23 e1 e2 ?_
      refine j_iconst (v := (3 : Int32)) dX10_activity_26 (by decide) ?_
      refine j_iload_n dX10_activity_27 rfl rfl ?_
      refine j_imul dX10_activity_28 ?_
      refine j_iload_n dX10_activity_29 rfl rfl ?_
      refine j_iadd dX10_activity_30 ?_
      obtain ⟨N, f, e1, e2, hv⟩ := hv
      refine j_iald dX10_activity_31 e1 e2 ?_
      generalize f _ = z11 at hv ⊢
      refine j_goto (tgt := 40) dX10_activity_32 (by decide) ?_
      exact j_iret dX10_activity_40 rfl hv
set_option maxRecDepth 20000 in
set_option maxHeartbeats 4000000 in
theorem v_X10_counted {l : Launch} {d mc ms : Nat} {Q : Option Value → qH → Prop} {QX : String → qH → Prop} (x0 : Nat) (x1 : Int32) {h : qH} (hv : qIF (x1 = 0) (qGI h x0 10 5 (fun z4 => Q (some (.int z4)) h)) (qIF (x1 = (1 : Int32)) (qGI h x0 10 7 (fun z3 => Q (some (.int z3)) h)) (qIF (x1 = (2 : Int32)) (qGI h x0 10 13 (fun z2 => Q (some (.int z2)) h)) (qGI h x0 10 15 (fun z1 => Q (some (.int z1)) h))))) : q_Ct l (d + 0) mX10_counted [.ref x0, .int x1] h mc ms Q QX := by
  refine q_body (by decide ) (by intro v hm; simp only [List.mem_cons, List.not_mem_nil, or_false] at hm; rcases hm with rfl | rfl <;> rfl) (Nat.le_of_ble_eq_true rfl) ?_
  refine j_pad 0 rfl ?_
  refine j_iload_n dX10_counted_0 rfl rfl ?_
  refine j_if_ne (tgt := 11) dX10_counted_1 (by decide) (fun hc => ?_) (fun hc => ?_)
  · replace hv := hv.2 hc
    refine j_iload_n dX10_counted_11 rfl rfl ?_
    refine j_iconst (v := (1 : Int32)) dX10_counted_12 (by decide) ?_
    refine j_icmp_ne (tgt := 23) dX10_counted_13 (by decide) (fun hc => ?_) (fun hc => ?_)
    · replace hv := hv.2 hc
      refine j_iload_n dX10_counted_23 rfl rfl ?_
      refine j_iconst (v := (2 : Int32)) dX10_counted_24 (by decide) ?_
      refine j_icmp_ne (tgt := 35) dX10_counted_25 (by decide) (fun hc => ?_) (fun hc => ?_)
      · replace hv := hv.2 hc
        refine j_aload_n dX10_counted_35 rfl rfl ?_
        obtain ⟨fs, z1, e1, e2, hv⟩ := hv
        refine j_getf (k := 15) cl_X10 (by decide) w_f_X10_269 dX10_counted_36 e1 e2 ?_
        exact j_iret dX10_counted_39 rfl hv
      · replace hv := hv.1 hc
        refine j_aload_n dX10_counted_28 rfl rfl ?_
        obtain ⟨fs, z2, e1, e2, hv⟩ := hv
        refine j_getf (k := 13) cl_X10 (by decide) w_f_X10_249 dX10_counted_29 e1 e2 ?_
        refine j_goto (tgt := 39) dX10_counted_32 (by decide) ?_
        exact j_iret dX10_counted_39 rfl hv
    · replace hv := hv.1 hc
      refine j_aload_n dX10_counted_16 rfl rfl ?_
      obtain ⟨fs, z3, e1, e2, hv⟩ := hv
      refine j_getf (k := 7) cl_X10 (by decide) w_f_X10_185 dX10_counted_17 e1 e2 ?_
      refine j_goto (tgt := 39) dX10_counted_20 (by decide) ?_
      exact j_iret dX10_counted_39 rfl hv
  · replace hv := hv.1 hc
    refine j_aload_n dX10_counted_4 rfl rfl ?_
    obtain ⟨fs, z4, e1, e2, hv⟩ := hv
    refine j_getf (k := 5) cl_X10 (by decide) w_f_X10_78 dX10_counted_5 e1 e2 ?_
    refine j_goto (tgt := 39) dX10_counted_8 (by decide) ?_
    exact j_iret dX10_counted_39 rfl hv
set_option maxRecDepth 20000 in
set_option maxHeartbeats 4000000 in
theorem v_X10_count {l : Launch} {d mc ms : Nat} {Q : Option Value → qH → Prop} {QX : String → qH → Prop} (x0 : Nat) (x1 : Int32) {h : qH} (hv : qPI h x0 10 0 (0 : Int32) (fun h1 => qCI l (d + 0) mX10_isIn [.int x1, .int (0 : Int32), .int (3 : Int32)] h1 0 0 (fun z3 h2 => qIF (z3 = 0) (qOB h2 x0 10 (qCI l (d + 0) mX10_fail [.ref x0, .int (1 : Int32)] h2 0 0 (fun z5 h4 => Q (some (.int z5)) h4))) (qOB h2 x0 10 (qCI l (d + 0) mX10_counted [.ref x0, .int x1] h2 0 0 (fun z7 h6 => Q (some (.int z7)) h6)))))) : q_Ct l (d + 1) mX10_count [.ref x0, .int x1] h mc ms Q QX := by
  refine q_body (by decide ) (by intro v hm; simp only [List.mem_cons, List.not_mem_nil, or_false] at hm; rcases hm with rfl | rfl <;> rfl) (Nat.le_of_ble_eq_true rfl) ?_
  refine j_pad 0 rfl ?_
  refine j_aload_n dX10_count_0 rfl rfl ?_
  refine j_iconst (v := (0 : Int32)) dX10_count_1 (by decide) ?_
  obtain ⟨fs, e1, e2, hv⟩ := hv
  refine j_put (k := 0) (ty0 := tyX10) cl_X10 (pf_X10_0) w_f_X10_71 dX10_count_2 (fun g ad => q_nI g ad _) e1 e2 ?_
  generalize q_set h x0 _ = h1 at hv ⊢
  refine j_iload_n dX10_count_5 rfl rfl ?_
  refine j_iconst (v := (0 : Int32)) dX10_count_6 (by decide) ?_
  refine j_iconst (v := (3 : Int32)) dX10_count_7 (by decide) ?_
  refine j_static (avs := [.int x1, .int (0 : Int32), .int (3 : Int32)]) (rest := []) (kc' := mc) (ks' := ms) dX10_count_8 mt_X10_isIn w_m_X10_74 w_st_X10_isIn rfl rfl (Nat.le_of_ble_eq_true rfl) (Nat.le_refl _) (by omega) (by omega) hv (fun _ _ q9 => q9) ?_
  rintro _ h2 ⟨z3, rfl, hv⟩ -
  refine j_if_eq (tgt := 22) dX10_count_11 (by decide) (fun hc => ?_) (fun hc => ?_)
  · replace hv := hv.1 hc
    refine j_aload_n dX10_count_22 rfl rfl ?_
    refine j_iconst (v := (1 : Int32)) dX10_count_23 (by decide) ?_
    obtain ⟨⟨fs, e1⟩, hv⟩ := hv
    refine j_virtual (avs := [.int (1 : Int32)]) (rest := []) (i := x0) (kc' := mc) (ks' := ms) dX10_count_24 mt_X10_fail w_m_X10_89 w_in_X10_fail w_se_X10_fail rfl rfl (Nat.le_of_ble_eq_true rfl) (Nat.le_refl _) (by omega) (by omega) cl_X10.1 e1 hv (fun _ _ q9 => q9) ?_
    rintro _ h4 ⟨z5, rfl, hv⟩ -
    exact j_iret dX10_count_27 rfl hv
  · replace hv := hv.2 hc
    refine j_aload_n dX10_count_14 rfl rfl ?_
    refine j_iload_n dX10_count_15 rfl rfl ?_
    obtain ⟨⟨fs, e1⟩, hv⟩ := hv
    refine j_virtual (avs := [.int x1]) (rest := []) (i := x0) (kc' := mc) (ks' := ms) dX10_count_16 mt_X10_counted w_m_X10_272 w_in_X10_counted w_se_X10_counted rfl rfl (Nat.le_of_ble_eq_true rfl) (Nat.le_refl _) (by omega) (by omega) cl_X10.1 e1 hv (fun _ _ q9 => q9) ?_
    rintro _ h6 ⟨z7, rfl, hv⟩ -
    refine j_goto (tgt := 27) dX10_count_19 (by decide) ?_
    exact j_iret dX10_count_27 rfl hv
set_option maxRecDepth 20000 in
set_option maxHeartbeats 4000000 in
theorem v_X10_tryOut_23 {l : Launch} {d mc ms n0 kc ks : Nat} {Q : Option Value → qH → Prop} {QX : String → qH → Prop} (hkc : 1 ≤ kc) (hks : 4 ≤ ks) (x0 : Nat) (x1 : Int32) (x2 : Int32) {h : qH} (hv : qIF (x1 ≤ x2) (Q (some (.int (-1 : Int32))) h) (qGR h x0 10 12 (fun r1 => qGR h x0 10 14 (fun r2 => qAL h r2 ((3 : Int32) * x2) (fun z3 => qGR h x0 10 14 (fun r4 => qAL h r4 (((3 : Int32) * x2) + (1 : Int32)) (fun z5 => qGR h x0 10 14 (fun r6 => qAL h r6 (((3 : Int32) * x2) + (2 : Int32)) (fun z7 => qOB h x0 10 (qCI l (d + 6) mX10_act [.ref x0, .ref r1, .int z3, .int z5, .int z7] h 1 4 (fun z9 h8 => qPI h8 x0 10 23 z9 (fun h10 => qGI h10 x0 10 23 (fun z11 => qIF (z11 = 0) (q_J l (d + 7) mX10_tryOut mc ms Q QX n0 23 [some (.ref x0), some (.int x1), some (.int (x2 + (1 : Int32)))] [] h10 (kc - 1) (ks - 4)) (Q (some (.int x2)) h10)))))))))))))) : q_J l (d + 7) mX10_tryOut mc ms Q QX n0 23 [some (.ref x0), some (.int x1), some (.int x2)] [] h kc ks := by
  refine j_iload_n dX10_tryOut_23 rfl rfl ?_
  refine j_iload_n dX10_tryOut_24 rfl rfl ?_
  refine j_icmp_ge (tgt := 83) dX10_tryOut_25 (by decide) (fun hc => ?_) (fun hc => ?_)
  · replace hv := hv.1 hc
    refine j_iconst (v := (-1 : Int32)) dX10_tryOut_83 (by decide) ?_
    exact j_iret dX10_tryOut_84 rfl hv
  · replace hv := hv.2 hc
    refine j_aload_n dX10_tryOut_28 rfl rfl ?_
    refine j_aload_n dX10_tryOut_29 rfl rfl ?_
    refine j_aload_n dX10_tryOut_30 rfl rfl ?_
    obtain ⟨fs, r1, e1, e2, hv⟩ := hv
    refine j_getf (k := 12) cl_X10 (by decide) w_f_X10_39 dX10_tryOut_31 e1 e2 ?_
    refine j_aload_n dX10_tryOut_34 rfl rfl ?_
    obtain ⟨fs, r2, e1, e2, hv⟩ := hv
    refine j_getf (k := 14) cl_X10 (by decide) w_f_X10_42 dX10_tryOut_35 e1 e2 ?_
    refine j_iconst (v := (3 : Int32)) dX10_tryOut_38 (by decide) ?_
    refine j_iload_n dX10_tryOut_39 rfl rfl ?_
    refine j_imul dX10_tryOut_40 ?_
    obtain ⟨N, f, e1, e2, hv⟩ := hv
    refine j_iald dX10_tryOut_41 e1 e2 ?_
    generalize f _ = z3 at hv ⊢
    refine j_aload_n dX10_tryOut_42 rfl rfl ?_
    obtain ⟨fs, r4, e1, e2, hv⟩ := hv
    refine j_getf (k := 14) cl_X10 (by decide) w_f_X10_42 dX10_tryOut_43 e1 e2 ?_
    refine j_iconst (v := (3 : Int32)) dX10_tryOut_46 (by decide) ?_
    refine j_iload_n dX10_tryOut_47 rfl rfl ?_
    refine j_imul dX10_tryOut_48 ?_
    refine j_iconst (v := (1 : Int32)) dX10_tryOut_49 (by decide) ?_
    refine j_iadd dX10_tryOut_50 ?_
    obtain ⟨N, f, e1, e2, hv⟩ := hv
    refine j_iald dX10_tryOut_51 e1 e2 ?_
    generalize f _ = z5 at hv ⊢
    refine j_aload_n dX10_tryOut_52 rfl rfl ?_
    obtain ⟨fs, r6, e1, e2, hv⟩ := hv
    refine j_getf (k := 14) cl_X10 (by decide) w_f_X10_42 dX10_tryOut_53 e1 e2 ?_
    refine j_iconst (v := (3 : Int32)) dX10_tryOut_56 (by decide) ?_
    refine j_iload_n dX10_tryOut_57 rfl rfl ?_
    refine j_imul dX10_tryOut_58 ?_
    refine j_iconst (v := (2 : Int32)) dX10_tryOut_59 (by decide) ?_
    refine j_iadd dX10_tryOut_60 ?_
    obtain ⟨N, f, e1, e2, hv⟩ := hv
    refine j_iald dX10_tryOut_61 e1 e2 ?_
    generalize f _ = z7 at hv ⊢
    obtain ⟨⟨fs, e1⟩, hv⟩ := hv
    refine j_virtual (avs := [.ref r1, .int z3, .int z5, .int z7]) (rest := [.ref x0]) (i := x0) (kc' := (kc - 1)) (ks' := (ks - 4)) dX10_tryOut_62 mt_X10_act w_m_X10_278 w_in_X10_act w_se_X10_act rfl rfl (Nat.le_of_ble_eq_true rfl) (Nat.le_refl _) (by omega) (by omega) cl_X10.1 e1 hv (fun _ _ q9 => q9) ?_
    rintro _ h8 ⟨z9, rfl, hv⟩ -
    obtain ⟨fs, e1, e2, hv⟩ := hv
    refine j_put (k := 23) (ty0 := tyX10) cl_X10 (pf_X10_23) w_f_X10_275 dX10_tryOut_65 (fun g ad => q_nI g ad _) e1 e2 ?_
    generalize q_set h8 x0 _ = h10 at hv ⊢
    refine j_aload_n dX10_tryOut_68 rfl rfl ?_
    obtain ⟨fs, z11, e1, e2, hv⟩ := hv
    refine j_getf (k := 23) cl_X10 (by decide) w_f_X10_275 dX10_tryOut_69 e1 e2 ?_
    refine j_if_eq (tgt := 77) dX10_tryOut_72 (by decide) (fun hc => ?_) (fun hc => ?_)
    · replace hv := hv.1 hc
      refine j_iinc (w := (x2 + (1 : Int32))) dX10_tryOut_77 rfl (by rfl) (by decide) rfl rfl ?_
      refine j_goto (tgt := 23) dX10_tryOut_80 (by decide) ?_
      exact hv
    · replace hv := hv.2 hc
      refine j_iload_n dX10_tryOut_75 rfl rfl ?_
      exact j_iret dX10_tryOut_76 rfl hv
set_option maxRecDepth 20000 in
set_option maxHeartbeats 4000000 in
theorem v_X10_tryOut {l : Launch} {d mc ms : Nat} {Q : Option Value → qH → Prop} {QX : String → qH → Prop} (x0 : Nat) (x1 : Int32) {h : qH} (hv : qGR h x0 10 11 (fun r1 => qGR h x0 10 12 (fun r2 => qCP h r1 (0 : Int32) r2 (0 : Int32) (594 : Int32) (fun h3 => qPI h3 x0 10 23 (0 : Int32) (fun h4 => q_J l (d + 7) mX10_tryOut mc ms Q QX h.2 23 [some (.ref x0), some (.int x1), some (.int (0 : Int32))] [] h4 mc ms))))) : q_Ct l (d + 7) mX10_tryOut [.ref x0, .int x1] h mc ms Q QX := by
  refine q_body (by decide ) (by intro v hm; simp only [List.mem_cons, List.not_mem_nil, or_false] at hm; rcases hm with rfl | rfl <;> rfl) (Nat.le_of_ble_eq_true rfl) ?_
  refine j_pad 1 rfl ?_
  refine j_aload_n dX10_tryOut_0 rfl rfl ?_
  obtain ⟨fs, r1, e1, e2, hv⟩ := hv
  refine j_getf (k := 11) cl_X10 (by decide) w_f_X10_36 dX10_tryOut_1 e1 e2 ?_
  refine j_iconst (v := (0 : Int32)) dX10_tryOut_4 (by decide) ?_
  refine j_aload_n dX10_tryOut_5 rfl rfl ?_
  obtain ⟨fs, r2, e1, e2, hv⟩ := hv
  refine j_getf (k := 12) cl_X10 (by decide) w_f_X10_39 dX10_tryOut_6 e1 e2 ?_
  refine j_iconst (v := (0 : Int32)) dX10_tryOut_9 (by decide) ?_
  refine j_sipush (v := (594 : Int32)) dX10_tryOut_10 (by decide) ?_
  obtain ⟨N0, N1, f0, f1, e1, e2, q1, q2, q3, q4, q5, hv⟩ := hv
  refine j_copy dX10_tryOut_13 w_m_X10_151 w_na_copy w_st_copy w_ini_System (Nat.le_of_ble_eq_true rfl) (by omega) e1 e2 q1 q2 q3 q4 q5 ?_
  generalize q_set h r2 _ = h3 at hv ⊢
  refine j_aload_n dX10_tryOut_16 rfl rfl ?_
  refine j_iconst (v := (0 : Int32)) dX10_tryOut_17 (by decide) ?_
  obtain ⟨fs, e1, e2, hv⟩ := hv
  refine j_put (k := 23) (ty0 := tyX10) cl_X10 (pf_X10_23) w_f_X10_275 dX10_tryOut_18 (fun g ad => q_nI g ad _) e1 e2 ?_
  generalize q_set h3 x0 _ = h4 at hv ⊢
  refine j_iconst (v := (0 : Int32)) dX10_tryOut_21 (by decide) ?_
  refine j_istore_n dX10_tryOut_22 rfl (by decide) rfl rfl ?_
  exact hv
set_option maxRecDepth 20000 in
set_option maxHeartbeats 4000000 in
theorem v_X10_check {l : Launch} {d mc ms : Nat} {Q : Option Value → qH → Prop} {QX : String → qH → Prop} (hkc : 41 ≤ mc) (hks : 164 ≤ ms) (x0 : Nat) {h : qH} (hv : qPI h x0 10 0 (0 : Int32) (fun h1 => qGI h1 x0 10 13 (fun z2 => qOB h1 x0 10 (qCI l (d + 7) mX10_tryOut [.ref x0, .int z2] h1 41 164 (fun z4 h3 => Q (some (.int z4)) h3))))) : q_Ct l (d + 8) mX10_check [.ref x0] h mc ms Q QX := by
  refine q_body (by decide ) (by intro v hm; simp only [List.mem_cons, List.not_mem_nil, or_false] at hm; subst hm; rfl) (Nat.le_of_ble_eq_true rfl) ?_
  refine j_pad 0 rfl ?_
  refine j_aload_n dX10_check_0 rfl rfl ?_
  refine j_iconst (v := (0 : Int32)) dX10_check_1 (by decide) ?_
  obtain ⟨fs, e1, e2, hv⟩ := hv
  refine j_put (k := 0) (ty0 := tyX10) cl_X10 (pf_X10_0) w_f_X10_71 dX10_check_2 (fun g ad => q_nI g ad _) e1 e2 ?_
  generalize q_set h x0 _ = h1 at hv ⊢
  refine j_aload_n dX10_check_5 rfl rfl ?_
  refine j_aload_n dX10_check_6 rfl rfl ?_
  obtain ⟨fs, z2, e1, e2, hv⟩ := hv
  refine j_getf (k := 13) cl_X10 (by decide) w_f_X10_249 dX10_check_7 e1 e2 ?_
  obtain ⟨⟨fs, e1⟩, hv⟩ := hv
  refine j_virtual (avs := [.int z2]) (rest := []) (i := x0) (kc' := (mc - 41)) (ks' := (ms - 164)) dX10_check_10 mt_X10_tryOut w_m_X10_282 w_in_X10_tryOut w_se_X10_tryOut rfl rfl (Nat.le_of_ble_eq_true rfl) (Nat.le_refl _) (by omega) (by omega) cl_X10.1 e1 hv (fun _ _ q9 => q9) ?_
  rintro _ h3 ⟨z4, rfl, hv⟩ -
  exact j_iret dX10_check_13 rfl hv
set_option maxRecDepth 20000 in
set_option maxHeartbeats 4000000 in
theorem v_X10_reason {l : Launch} {d mc ms : Nat} {Q : Option Value → qH → Prop} {QX : String → qH → Prop} (hkc : 41 ≤ mc) (hks : 164 ≤ ms) (x0 : Nat) {h : qH} (hv : qPI h x0 10 0 (0 : Int32) (fun h1 => qGI h1 x0 10 13 (fun z2 => qOB h1 x0 10 (qCI l (d + 7) mX10_tryOut [.ref x0, .int z2] h1 41 164 (fun z4 h3 => qIF (z4 = (-1 : Int32)) (Q (some (.int (0 : Int32))) h3) (qGI h3 x0 10 23 (fun z5 => Q (some (.int z5)) h3))))))) : q_Ct l (d + 8) mX10_reason [.ref x0] h mc ms Q QX := by
  refine q_body (by decide ) (by intro v hm; simp only [List.mem_cons, List.not_mem_nil, or_false] at hm; subst hm; rfl) (Nat.le_of_ble_eq_true rfl) ?_
  refine j_pad 1 rfl ?_
  refine j_aload_n dX10_reason_0 rfl rfl ?_
  refine j_iconst (v := (0 : Int32)) dX10_reason_1 (by decide) ?_
  obtain ⟨fs, e1, e2, hv⟩ := hv
  refine j_put (k := 0) (ty0 := tyX10) cl_X10 (pf_X10_0) w_f_X10_71 dX10_reason_2 (fun g ad => q_nI g ad _) e1 e2 ?_
  generalize q_set h x0 _ = h1 at hv ⊢
  refine j_aload_n dX10_reason_5 rfl rfl ?_
  refine j_aload_n dX10_reason_6 rfl rfl ?_
  obtain ⟨fs, z2, e1, e2, hv⟩ := hv
  refine j_getf (k := 13) cl_X10 (by decide) w_f_X10_249 dX10_reason_7 e1 e2 ?_
  obtain ⟨⟨fs, e1⟩, hv⟩ := hv
  refine j_virtual (avs := [.int z2]) (rest := []) (i := x0) (kc' := (mc - 41)) (ks' := (ms - 164)) dX10_reason_10 mt_X10_tryOut w_m_X10_282 w_in_X10_tryOut w_se_X10_tryOut rfl rfl (Nat.le_of_ble_eq_true rfl) (Nat.le_refl _) (by omega) (by omega) cl_X10.1 e1 hv (fun _ _ q9 => q9) ?_
  rintro _ h3 ⟨z4, rfl, hv⟩ -
  refine j_istore_n dX10_reason_13 rfl (by decide) rfl rfl ?_
  refine j_iload_n dX10_reason_14 rfl rfl ?_
  refine j_iconst (v := (-1 : Int32)) dX10_reason_15 (by decide) ?_
  refine j_icmp_ne (tgt := 23) dX10_reason_16 (by decide) (fun hc => ?_) (fun hc => ?_)
  · replace hv := hv.2 hc
    refine j_aload_n dX10_reason_23 rfl rfl ?_
    obtain ⟨fs, z5, e1, e2, hv⟩ := hv
    refine j_getf (k := 23) cl_X10 (by decide) w_f_X10_275 dX10_reason_24 e1 e2 ?_
    exact j_iret dX10_reason_27 rfl hv
  · replace hv := hv.1 hc
    refine j_iconst (v := (0 : Int32)) dX10_reason_19 (by decide) ?_
    refine j_goto (tgt := 27) dX10_reason_20 (by decide) ?_
    exact j_iret dX10_reason_27 rfl hv
set_option maxRecDepth 20000 in
set_option maxHeartbeats 4000000 in
theorem v_X10_foretell {l : Launch} {d mc ms : Nat} {Q : Option Value → qH → Prop} {QX : String → qH → Prop} (hkc : 41 ≤ mc) (hks : 164 ≤ ms) (x0 : Nat) (x1 : Int32) (x2 : Int32) {h : qH} (hv : qPI h x0 10 0 (0 : Int32) (fun h1 => qCI l (d + 7) mX10_isIn [.int x2, .int (0 : Int32), .int (9 : Int32)] h1 0 0 (fun z3 h2 => qIF (z3 = 0) (qOB h2 x0 10 (qCI l (d + 7) mX10_fail [.ref x0, .int (1 : Int32)] h2 0 0 (fun z17 h16 => Q (some (.int z17)) h16))) (qGI h2 x0 10 13 (fun z4 => qCI l (d + 7) mX10_isIn [.int x1, .int (0 : Int32), .int z4] h2 0 0 (fun z6 h5 => qIF (z6 = 0) (qOB h5 x0 10 (qCI l (d + 7) mX10_fail [.ref x0, .int (2 : Int32)] h5 0 0 (fun z15 h14 => Q (some (.int z15)) h14))) (qOB h5 x0 10 (qCI l (d + 7) mX10_tryOut [.ref x0, .int x1] h5 41 164 (fun z8 h7 => qIF (z8 = (-1 : Int32)) (qGR h7 x0 10 12 (fun r11 => qCI l (d + 7) mX10_roverTold [.ref r11, .int x2] h7 0 0 (fun z13 h12 => Q (some (.int z13)) h12))) (qOB h7 x0 10 (qCI l (d + 7) mX10_fail [.ref x0, .int (3 : Int32)] h7 0 0 (fun z10 h9 => Q (some (.int z10)) h9)))))))))))) : q_Ct l (d + 8) mX10_foretell [.ref x0, .int x1, .int x2] h mc ms Q QX := by
  refine q_body (by decide ) (by intro v hm; simp only [List.mem_cons, List.not_mem_nil, or_false] at hm; rcases hm with rfl | rfl | rfl <;> rfl) (Nat.le_of_ble_eq_true rfl) ?_
  refine j_pad 0 rfl ?_
  refine j_aload_n dX10_foretell_0 rfl rfl ?_
  refine j_iconst (v := (0 : Int32)) dX10_foretell_1 (by decide) ?_
  obtain ⟨fs, e1, e2, hv⟩ := hv
  refine j_put (k := 0) (ty0 := tyX10) cl_X10 (pf_X10_0) w_f_X10_71 dX10_foretell_2 (fun g ad => q_nI g ad _) e1 e2 ?_
  generalize q_set h x0 _ = h1 at hv ⊢
  refine j_iload_n dX10_foretell_5 rfl rfl ?_
  refine j_iconst (v := (0 : Int32)) dX10_foretell_6 (by decide) ?_
  refine j_bipush (v := (9 : Int32)) dX10_foretell_7 (by decide) ?_
  refine j_static (avs := [.int x2, .int (0 : Int32), .int (9 : Int32)]) (rest := []) (kc' := mc) (ks' := ms) dX10_foretell_9 mt_X10_isIn w_m_X10_74 w_st_X10_isIn rfl rfl (Nat.le_of_ble_eq_true rfl) (Nat.le_refl _) (by omega) (by omega) hv (fun _ _ q9 => q9) ?_
  rintro _ h2 ⟨z3, rfl, hv⟩ -
  refine j_if_ne (tgt := 21) dX10_foretell_12 (by decide) (fun hc => ?_) (fun hc => ?_)
  · replace hv := hv.2 hc
    refine j_iload_n dX10_foretell_21 rfl rfl ?_
    refine j_iconst (v := (0 : Int32)) dX10_foretell_22 (by decide) ?_
    refine j_aload_n dX10_foretell_23 rfl rfl ?_
    obtain ⟨fs, z4, e1, e2, hv⟩ := hv
    refine j_getf (k := 13) cl_X10 (by decide) w_f_X10_249 dX10_foretell_24 e1 e2 ?_
    refine j_static (avs := [.int x1, .int (0 : Int32), .int z4]) (rest := []) (kc' := mc) (ks' := ms) dX10_foretell_27 mt_X10_isIn w_m_X10_74 w_st_X10_isIn rfl rfl (Nat.le_of_ble_eq_true rfl) (Nat.le_refl _) (by omega) (by omega) hv (fun _ _ q9 => q9) ?_
    rintro _ h5 ⟨z6, rfl, hv⟩ -
    refine j_if_ne (tgt := 39) dX10_foretell_30 (by decide) (fun hc => ?_) (fun hc => ?_)
    · replace hv := hv.2 hc
      refine j_aload_n dX10_foretell_39 rfl rfl ?_
      refine j_iload_n dX10_foretell_40 rfl rfl ?_
      obtain ⟨⟨fs, e1⟩, hv⟩ := hv
      refine j_virtual (avs := [.int x1]) (rest := []) (i := x0) (kc' := (mc - 41)) (ks' := (ms - 164)) dX10_foretell_41 mt_X10_tryOut w_m_X10_282 w_in_X10_tryOut w_se_X10_tryOut rfl rfl (Nat.le_of_ble_eq_true rfl) (Nat.le_refl _) (by omega) (by omega) cl_X10.1 e1 hv (fun _ _ q9 => q9) ?_
      rintro _ h7 ⟨z8, rfl, hv⟩ -
      refine j_iconst (v := (-1 : Int32)) dX10_foretell_44 (by decide) ?_
      refine j_icmp_ne (tgt := 59) dX10_foretell_45 (by decide) (fun hc => ?_) (fun hc => ?_)
      · replace hv := hv.2 hc
        refine j_aload_n dX10_foretell_59 rfl rfl ?_
        refine j_iconst (v := (3 : Int32)) dX10_foretell_60 (by decide) ?_
        obtain ⟨⟨fs, e1⟩, hv⟩ := hv
        refine j_virtual (avs := [.int (3 : Int32)]) (rest := []) (i := x0) (kc' := (mc - 41)) (ks' := (ms - 164)) dX10_foretell_61 mt_X10_fail w_m_X10_89 w_in_X10_fail w_se_X10_fail rfl rfl (Nat.le_of_ble_eq_true rfl) (Nat.le_refl _) (by omega) (by omega) cl_X10.1 e1 hv (fun _ _ q9 => q9) ?_
        rintro _ h9 ⟨z10, rfl, hv⟩ -
        exact j_iret dX10_foretell_64 rfl hv
      · replace hv := hv.1 hc
        refine j_aload_n dX10_foretell_48 rfl rfl ?_
        obtain ⟨fs, r11, e1, e2, hv⟩ := hv
        refine j_getf (k := 12) cl_X10 (by decide) w_f_X10_39 dX10_foretell_49 e1 e2 ?_
        refine j_iload_n dX10_foretell_52 rfl rfl ?_
        refine j_static (avs := [.ref r11, .int x2]) (rest := []) (kc' := (mc - 41)) (ks' := (ms - 164)) dX10_foretell_53 mt_X10_roverTold w_m_X10_207 w_st_X10_roverTold rfl rfl (Nat.le_of_ble_eq_true rfl) (Nat.le_refl _) (by omega) (by omega) hv (fun _ _ q9 => q9) ?_
        rintro _ h12 ⟨z13, rfl, hv⟩ -
        refine j_goto (tgt := 64) dX10_foretell_56 (by decide) ?_
        exact j_iret dX10_foretell_64 rfl hv
    · replace hv := hv.1 hc
      refine j_aload_n dX10_foretell_33 rfl rfl ?_
      refine j_iconst (v := (2 : Int32)) dX10_foretell_34 (by decide) ?_
      obtain ⟨⟨fs, e1⟩, hv⟩ := hv
      refine j_virtual (avs := [.int (2 : Int32)]) (rest := []) (i := x0) (kc' := mc) (ks' := ms) dX10_foretell_35 mt_X10_fail w_m_X10_89 w_in_X10_fail w_se_X10_fail rfl rfl (Nat.le_of_ble_eq_true rfl) (Nat.le_refl _) (by omega) (by omega) cl_X10.1 e1 hv (fun _ _ q9 => q9) ?_
      rintro _ h14 ⟨z15, rfl, hv⟩ -
      exact j_iret dX10_foretell_38 rfl hv
  · replace hv := hv.1 hc
    refine j_aload_n dX10_foretell_15 rfl rfl ?_
    refine j_iconst (v := (1 : Int32)) dX10_foretell_16 (by decide) ?_
    obtain ⟨⟨fs, e1⟩, hv⟩ := hv
    refine j_virtual (avs := [.int (1 : Int32)]) (rest := []) (i := x0) (kc' := mc) (ks' := ms) dX10_foretell_17 mt_X10_fail w_m_X10_89 w_in_X10_fail w_se_X10_fail rfl rfl (Nat.le_of_ble_eq_true rfl) (Nat.le_refl _) (by omega) (by omega) cl_X10.1 e1 hv (fun _ _ q9 => q9) ?_
    rintro _ h16 ⟨z17, rfl, hv⟩ -
    exact j_iret dX10_foretell_20 rfl hv
set_option maxRecDepth 20000 in
set_option maxHeartbeats 4000000 in
theorem v_X10_run_23 {l : Launch} {d mc ms n0 kc ks : Nat} {Q : Option Value → qH → Prop} {QX : String → qH → Prop} (hkc : 1 ≤ kc) (hks : 4 ≤ ks) (x0 : Nat) (x1 : Int32) (x2 : Int32) {h : qH} (hv : qIF (x1 ≤ x2) (Q (some (.int x2)) h) (qGI h x0 10 13 (fun z1 => qIF (z1 ≤ 0) (Q (some (.int x2)) h) (qGR h x0 10 11 (fun r2 => qGR h x0 10 14 (fun r3 => qAL h r3 (0 : Int32) (fun z4 => qGR h x0 10 14 (fun r5 => qAL h r5 (1 : Int32) (fun z6 => qGR h x0 10 14 (fun r7 => qAL h r7 (2 : Int32) (fun z8 => qOB h x0 10 (qCI l (d + 6) mX10_act [.ref x0, .ref r2, .int z4, .int z6, .int z8] h 1 4 (fun z10 h9 => qIF (z10 = 0) (qOB h9 x0 10 (qCV l (d + 6) mX10_takeOut [.ref x0, .int (0 : Int32)] h9 0 0 (fun h11 => q_J l (d + 7) mX10_run mc ms Q QX n0 23 [some (.ref x0), some (.int x1), some (.int (x2 + (1 : Int32)))] [] h11 (kc - 1) (ks - 4)))) (Q (some (.int x2)) h9)))))))))))))) : q_J l (d + 7) mX10_run mc ms Q QX n0 23 [some (.ref x0), some (.int x1), some (.int x2)] [] h kc ks := by
  refine j_iload_n dX10_run_23 rfl rfl ?_
  refine j_iload_n dX10_run_24 rfl rfl ?_
  refine j_icmp_ge (tgt := 75) dX10_run_25 (by decide) (fun hc => ?_) (fun hc => ?_)
  · replace hv := hv.1 hc
    refine j_iload_n dX10_run_75 rfl rfl ?_
    exact j_iret dX10_run_76 rfl hv
  · replace hv := hv.2 hc
    refine j_aload_n dX10_run_28 rfl rfl ?_
    obtain ⟨fs, z1, e1, e2, hv⟩ := hv
    refine j_getf (k := 13) cl_X10 (by decide) w_f_X10_249 dX10_run_29 e1 e2 ?_
    refine j_if_le (tgt := 75) dX10_run_32 (by decide) (fun hc => ?_) (fun hc => ?_)
    · replace hv := hv.1 hc
      refine j_iload_n dX10_run_75 rfl rfl ?_
      exact j_iret dX10_run_76 rfl hv
    · replace hv := hv.2 hc
      refine j_aload_n dX10_run_35 rfl rfl ?_
      refine j_aload_n dX10_run_36 rfl rfl ?_
      obtain ⟨fs, r2, e1, e2, hv⟩ := hv
      refine j_getf (k := 11) cl_X10 (by decide) w_f_X10_36 dX10_run_37 e1 e2 ?_
      refine j_aload_n dX10_run_40 rfl rfl ?_
      obtain ⟨fs, r3, e1, e2, hv⟩ := hv
      refine j_getf (k := 14) cl_X10 (by decide) w_f_X10_42 dX10_run_41 e1 e2 ?_
      refine j_iconst (v := (0 : Int32)) dX10_run_44 (by decide) ?_
      obtain ⟨N, f, e1, e2, hv⟩ := hv
      refine j_iald dX10_run_45 e1 e2 ?_
      generalize f _ = z4 at hv ⊢
      refine j_aload_n dX10_run_46 rfl rfl ?_
      obtain ⟨fs, r5, e1, e2, hv⟩ := hv
      refine j_getf (k := 14) cl_X10 (by decide) w_f_X10_42 dX10_run_47 e1 e2 ?_
      refine j_iconst (v := (1 : Int32)) dX10_run_50 (by decide) ?_
      obtain ⟨N, f, e1, e2, hv⟩ := hv
      refine j_iald dX10_run_51 e1 e2 ?_
      generalize f _ = z6 at hv ⊢
      refine j_aload_n dX10_run_52 rfl rfl ?_
      obtain ⟨fs, r7, e1, e2, hv⟩ := hv
      refine j_getf (k := 14) cl_X10 (by decide) w_f_X10_42 dX10_run_53 e1 e2 ?_
      refine j_iconst (v := (2 : Int32)) dX10_run_56 (by decide) ?_
      obtain ⟨N, f, e1, e2, hv⟩ := hv
      refine j_iald dX10_run_57 e1 e2 ?_
      generalize f _ = z8 at hv ⊢
      obtain ⟨⟨fs, e1⟩, hv⟩ := hv
      refine j_virtual (avs := [.ref r2, .int z4, .int z6, .int z8]) (rest := []) (i := x0) (kc' := (kc - 1)) (ks' := (ks - 4)) dX10_run_58 mt_X10_act w_m_X10_278 w_in_X10_act w_se_X10_act rfl rfl (Nat.le_of_ble_eq_true rfl) (Nat.le_refl _) (by omega) (by omega) cl_X10.1 e1 hv (fun _ _ q9 => q9) ?_
      rintro _ h9 ⟨z10, rfl, hv⟩ -
      refine j_if_ne (tgt := 75) dX10_run_61 (by decide) (fun hc => ?_) (fun hc => ?_)
      · replace hv := hv.2 hc
        refine j_iload_n dX10_run_75 rfl rfl ?_
        exact j_iret dX10_run_76 rfl hv
      · replace hv := hv.1 hc
        refine j_aload_n dX10_run_64 rfl rfl ?_
        refine j_iconst (v := (0 : Int32)) dX10_run_65 (by decide) ?_
        obtain ⟨⟨fs, e1⟩, hv⟩ := hv
        refine j_virtual (avs := [.int (0 : Int32)]) (rest := []) (i := x0) (kc' := (kc - 1)) (ks' := (ks - 4)) dX10_run_66 mt_X10_takeOut w_m_X10_265 w_in_X10_takeOut w_se_X10_takeOut rfl rfl (Nat.le_of_ble_eq_true rfl) (Nat.le_refl _) (by omega) (by omega) cl_X10.1 e1 hv (fun _ _ q9 => q9) ?_
        rintro _ h11 ⟨rfl, hv⟩ -
        refine j_iinc (w := (x2 + (1 : Int32))) dX10_run_69 rfl (by rfl) (by decide) rfl rfl ?_
        refine j_goto (tgt := 23) dX10_run_72 (by decide) ?_
        exact hv
set_option maxRecDepth 20000 in
set_option maxHeartbeats 4000000 in
theorem v_X10_run {l : Launch} {d mc ms : Nat} {Q : Option Value → qH → Prop} {QX : String → qH → Prop} (x0 : Nat) (x1 : Int32) {h : qH} (hv : qPI h x0 10 0 (0 : Int32) (fun h1 => qCI l (d + 6) mX10_isIn [.int x1, .int (1 : Int32), .int (40 : Int32)] h1 0 0 (fun z3 h2 => qIF (z3 = 0) (qOB h2 x0 10 (qCI l (d + 6) mX10_fail [.ref x0, .int (1 : Int32)] h2 0 0 (fun z5 h4 => Q (some (.int z5)) h4))) (q_J l (d + 7) mX10_run mc ms Q QX h.2 23 [some (.ref x0), some (.int x1), some (.int (0 : Int32))] [] h2 mc ms)))) : q_Ct l (d + 7) mX10_run [.ref x0, .int x1] h mc ms Q QX := by
  refine q_body (by decide ) (by intro v hm; simp only [List.mem_cons, List.not_mem_nil, or_false] at hm; rcases hm with rfl | rfl <;> rfl) (Nat.le_of_ble_eq_true rfl) ?_
  refine j_pad 1 rfl ?_
  refine j_aload_n dX10_run_0 rfl rfl ?_
  refine j_iconst (v := (0 : Int32)) dX10_run_1 (by decide) ?_
  obtain ⟨fs, e1, e2, hv⟩ := hv
  refine j_put (k := 0) (ty0 := tyX10) cl_X10 (pf_X10_0) w_f_X10_71 dX10_run_2 (fun g ad => q_nI g ad _) e1 e2 ?_
  generalize q_set h x0 _ = h1 at hv ⊢
  refine j_iload_n dX10_run_5 rfl rfl ?_
  refine j_iconst (v := (1 : Int32)) dX10_run_6 (by decide) ?_
  refine j_bipush (v := (40 : Int32)) dX10_run_7 (by decide) ?_
  refine j_static (avs := [.int x1, .int (1 : Int32), .int (40 : Int32)]) (rest := []) (kc' := mc) (ks' := ms) dX10_run_9 mt_X10_isIn w_m_X10_74 w_st_X10_isIn rfl rfl (Nat.le_of_ble_eq_true rfl) (Nat.le_refl _) (by omega) (by omega) hv (fun _ _ q9 => q9) ?_
  rintro _ h2 ⟨z3, rfl, hv⟩ -
  refine j_if_ne (tgt := 21) dX10_run_12 (by decide) (fun hc => ?_) (fun hc => ?_)
  · replace hv := hv.2 hc
    refine j_iconst (v := (0 : Int32)) dX10_run_21 (by decide) ?_
    refine j_istore_n dX10_run_22 rfl (by decide) rfl rfl ?_
    exact hv
  · replace hv := hv.1 hc
    refine j_aload_n dX10_run_15 rfl rfl ?_
    refine j_iconst (v := (1 : Int32)) dX10_run_16 (by decide) ?_
    obtain ⟨⟨fs, e1⟩, hv⟩ := hv
    refine j_virtual (avs := [.int (1 : Int32)]) (rest := []) (i := x0) (kc' := mc) (ks' := ms) dX10_run_17 mt_X10_fail w_m_X10_89 w_in_X10_fail w_se_X10_fail rfl rfl (Nat.le_of_ble_eq_true rfl) (Nat.le_refl _) (by omega) (by omega) cl_X10.1 e1 hv (fun _ _ q9 => q9) ?_
    rintro _ h4 ⟨z5, rfl, hv⟩ -
    exact j_iret dX10_run_20 rfl hv
set_option maxRecDepth 20000 in
set_option maxHeartbeats 4000000 in
theorem v_X10_serves {l : Launch} {d mc ms : Nat} {Q : Option Value → qH → Prop} {QX : String → qH → Prop} (x0 : Nat) (x1 : Nat) (x2 : Int32) (x3 : Int32) (x4 : Int32) {h : qH} (hv : qGR h x0 10 6 (fun r1 => qAL h r1 ((4 : Int32) * x2) (fun z2 => qGR h x0 10 6 (fun r3 => qAL h r3 (((4 : Int32) * x2) + (1 : Int32)) (fun z4 => qOB h x0 10 (qCI l (d + 2) mX10_need [.ref x0, .int x2] h 0 0 (fun z6 h5 => qIF (z6 = (4 : Int32)) (qCI l (d + 2) mX10_distance [.int x3, .int x4, .int z2, .int z4] h5 0 0 (fun z16 h15 => qIF ((2 : Int32) ≤ z16) (Q (some (.int (0 : Int32))) h15) (Q (some (.int (1 : Int32))) h15))) (qCI l (d + 2) mX10_distance [.int x3, .int x4, .int z2, .int z4] h5 0 0 (fun z8 h7 => qIF ((7 : Int32) ≤ z8) (Q (some (.int (0 : Int32))) h7) (qCI l (d + 2) mX10_allOctants [.ref x1, .int x2] h7 0 0 (fun z10 h9 => qCI l (d + 2) mX10_octant [.int x3, .int x4, .int z2, .int z4] h9 0 0 (fun z12 h11 => qIF (((z10 >>> (z12 &&& 31)) &&& (1 : Int32)) = 0) (qOB h11 x0 10 (qCI l (d + 2) mX10_isSeen [.ref x0, .int x3, .int x4, .int z2, .int z4] h11 0 0 (fun z14 h13 => qIF (z14 = 0) (Q (some (.int (0 : Int32))) h13) (Q (some (.int (1 : Int32))) h13)))) (Q (some (.int (0 : Int32))) h11))))))))))))) : q_Ct l (d + 3) mX10_serves [.ref x0, .ref x1, .int x2, .int x3, .int x4] h mc ms Q QX := by
  refine q_body (by decide ) (by intro v hm; simp only [List.mem_cons, List.not_mem_nil, or_false] at hm; rcases hm with rfl | rfl | rfl | rfl | rfl <;> rfl) (Nat.le_of_ble_eq_true rfl) ?_
  refine j_pad 2 rfl ?_
  refine j_aload_n dX10_serves_0 rfl rfl ?_
  obtain ⟨fs, r1, e1, e2, hv⟩ := hv
  refine j_getf (k := 6) cl_X10 (by decide) w_f_X10_24 dX10_serves_1 e1 e2 ?_
  refine j_iconst (v := (4 : Int32)) dX10_serves_4 (by decide) ?_
  refine j_iload_n dX10_serves_5 rfl rfl ?_
  refine j_imul dX10_serves_6 ?_
  obtain ⟨N, f, e1, e2, hv⟩ := hv
  refine j_iald dX10_serves_7 e1 e2 ?_
  generalize f _ = z2 at hv ⊢
  refine j_istore dX10_serves_8 (by decide) rfl rfl ?_
  refine j_aload_n dX10_serves_10 rfl rfl ?_
  obtain ⟨fs, r3, e1, e2, hv⟩ := hv
  refine j_getf (k := 6) cl_X10 (by decide) w_f_X10_24 dX10_serves_11 e1 e2 ?_
  refine j_iconst (v := (4 : Int32)) dX10_serves_14 (by decide) ?_
  refine j_iload_n dX10_serves_15 rfl rfl ?_
  refine j_imul dX10_serves_16 ?_
  refine j_iconst (v := (1 : Int32)) dX10_serves_17 (by decide) ?_
  refine j_iadd dX10_serves_18 ?_
  obtain ⟨N, f, e1, e2, hv⟩ := hv
  refine j_iald dX10_serves_19 e1 e2 ?_
  generalize f _ = z4 at hv ⊢
  refine j_istore dX10_serves_20 (by decide) rfl rfl ?_
  refine j_aload_n dX10_serves_22 rfl rfl ?_
  refine j_iload_n dX10_serves_23 rfl rfl ?_
  obtain ⟨⟨fs, e1⟩, hv⟩ := hv
  refine j_virtual (avs := [.int x2]) (rest := []) (i := x0) (kc' := mc) (ks' := ms) dX10_serves_24 mt_X10_need w_m_X10_157 w_in_X10_need w_se_X10_need rfl rfl (Nat.le_of_ble_eq_true rfl) (Nat.le_refl _) (by omega) (by omega) cl_X10.1 e1 hv (fun _ _ q9 => q9) ?_
  rintro _ h5 ⟨z6, rfl, hv⟩ -
  refine j_iconst (v := (4 : Int32)) dX10_serves_27 (by decide) ?_
  refine j_icmp_ne (tgt := 51) dX10_serves_28 (by decide) (fun hc => ?_) (fun hc => ?_)
  · replace hv := hv.2 hc
    refine j_iload_n dX10_serves_51 rfl rfl ?_
    refine j_iload dX10_serves_52 rfl ?_
    refine j_iload dX10_serves_54 rfl ?_
    refine j_iload dX10_serves_56 rfl ?_
    refine j_static (avs := [.int x3, .int x4, .int z2, .int z4]) (rest := []) (kc' := mc) (ks' := ms) dX10_serves_58 mt_X10_distance w_m_X10_136 w_st_X10_distance rfl rfl (Nat.le_of_ble_eq_true rfl) (Nat.le_refl _) (by omega) (by omega) hv (fun _ _ q9 => q9) ?_
    rintro _ h7 ⟨z8, rfl, hv⟩ -
    refine j_bipush (v := (7 : Int32)) dX10_serves_61 (by decide) ?_
    refine j_icmp_ge (tgt := 105) dX10_serves_63 (by decide) (fun hc => ?_) (fun hc => ?_)
    · replace hv := hv.1 hc
      refine j_iconst (v := (0 : Int32)) dX10_serves_105 (by decide) ?_
      exact j_zret dX10_serves_106 rfl (by decide) hv
    · replace hv := hv.2 hc
      refine j_aload_n dX10_serves_66 rfl rfl ?_
      refine j_iload_n dX10_serves_67 rfl rfl ?_
      refine j_static (avs := [.ref x1, .int x2]) (rest := []) (kc' := mc) (ks' := ms) dX10_serves_68 mt_X10_allOctants w_m_X10_164 w_st_X10_allOctants rfl rfl (Nat.le_of_ble_eq_true rfl) (Nat.le_refl _) (by omega) (by omega) hv (fun _ _ q9 => q9) ?_
      rintro _ h9 ⟨z10, rfl, hv⟩ -
      refine j_iload_n dX10_serves_71 rfl rfl ?_
      refine j_iload dX10_serves_72 rfl ?_
      refine j_iload dX10_serves_74 rfl ?_
      refine j_iload dX10_serves_76 rfl ?_
      refine j_static (avs := [.int x3, .int x4, .int z2, .int z4]) (rest := [.int z10]) (kc' := mc) (ks' := ms) dX10_serves_78 mt_X10_octant w_m_X10_222 w_st_X10_octant rfl rfl (Nat.le_of_ble_eq_true rfl) (Nat.le_refl _) (by omega) (by omega) hv (fun _ _ q9 => q9) ?_
      rintro _ h11 ⟨z12, rfl, hv⟩ -
      refine j_ishr dX10_serves_81 ?_
      refine j_iconst (v := (1 : Int32)) dX10_serves_82 (by decide) ?_
      refine j_iand dX10_serves_83 ?_
      refine j_if_ne (tgt := 105) dX10_serves_84 (by decide) (fun hc => ?_) (fun hc => ?_)
      · replace hv := hv.2 hc
        refine j_iconst (v := (0 : Int32)) dX10_serves_105 (by decide) ?_
        exact j_zret dX10_serves_106 rfl (by decide) hv
      · replace hv := hv.1 hc
        refine j_aload_n dX10_serves_87 rfl rfl ?_
        refine j_iload_n dX10_serves_88 rfl rfl ?_
        refine j_iload dX10_serves_89 rfl ?_
        refine j_iload dX10_serves_91 rfl ?_
        refine j_iload dX10_serves_93 rfl ?_
        obtain ⟨⟨fs, e1⟩, hv⟩ := hv
        refine j_virtual (avs := [.int x3, .int x4, .int z2, .int z4]) (rest := []) (i := x0) (kc' := mc) (ks' := ms) dX10_serves_95 mt_X10_isSeen w_m_X10_148 w_in_X10_isSeen w_se_X10_isSeen rfl rfl (Nat.le_of_ble_eq_true rfl) (Nat.le_refl _) (by omega) (by omega) cl_X10.1 e1 hv (fun _ _ q9 => q9) ?_
        rintro _ h13 ⟨z14, rfl, hv⟩ -
        refine j_if_eq (tgt := 105) dX10_serves_98 (by decide) (fun hc => ?_) (fun hc => ?_)
        · replace hv := hv.1 hc
          refine j_iconst (v := (0 : Int32)) dX10_serves_105 (by decide) ?_
          exact j_zret dX10_serves_106 rfl (by decide) hv
        · replace hv := hv.2 hc
          refine j_iconst (v := (1 : Int32)) dX10_serves_101 (by decide) ?_
          refine j_goto (tgt := 106) dX10_serves_102 (by decide) ?_
          exact j_zret dX10_serves_106 rfl (by decide) hv
  · replace hv := hv.1 hc
    refine j_iload_n dX10_serves_31 rfl rfl ?_
    refine j_iload dX10_serves_32 rfl ?_
    refine j_iload dX10_serves_34 rfl ?_
    refine j_iload dX10_serves_36 rfl ?_
    refine j_static (avs := [.int x3, .int x4, .int z2, .int z4]) (rest := []) (kc' := mc) (ks' := ms) dX10_serves_38 mt_X10_distance w_m_X10_136 w_st_X10_distance rfl rfl (Nat.le_of_ble_eq_true rfl) (Nat.le_refl _) (by omega) (by omega) hv (fun _ _ q9 => q9) ?_
    rintro _ h15 ⟨z16, rfl, hv⟩ -
    refine j_iconst (v := (2 : Int32)) dX10_serves_41 (by decide) ?_
    refine j_icmp_ge (tgt := 49) dX10_serves_42 (by decide) (fun hc => ?_) (fun hc => ?_)
    · replace hv := hv.1 hc
      refine j_iconst (v := (0 : Int32)) dX10_serves_49 (by decide) ?_
      exact j_zret dX10_serves_50 rfl (by decide) hv
    · replace hv := hv.2 hc
      refine j_iconst (v := (1 : Int32)) dX10_serves_45 (by decide) ?_
      refine j_goto (tgt := 50) dX10_serves_46 (by decide) ?_
      exact j_zret dX10_serves_50 rfl (by decide) hv
set_option maxRecDepth 20000 in
set_option maxHeartbeats 4000000 in
theorem v_X10_nearestFor_58 {l : Launch} {d mc ms n0 kc ks : Nat} {Q : Option Value → qH → Prop} {QX : String → qH → Prop} (x0 : Nat) (x1 : Nat) (x2 : Int32) (x3 : Int32) (x4 : Int32) {h : qH} (hv : qOB h x0 10 (qCI l (d + 3) mX10_serves [.ref x0, .ref x1, .int x2, .int (x4 - x4 / (24 : Int32) * (24 : Int32)), .int (x4 / (24 : Int32))] h 0 0 (fun z2 h1 => qIF (z2 = 0) (q_J l (d + 4) mX10_nearestFor mc ms Q QX n0 17 [some (.ref x0), some (.ref x1), some (.int x2), some (.int x3), some (.int (x4 + (1 : Int32)))] [] h1 kc ks) (q_J l (d + 4) mX10_nearestFor mc ms Q QX n0 17 [some (.ref x0), some (.ref x1), some (.int x2), some (.int x4), some (.int (x4 + (1 : Int32)))] [] h1 kc ks)))) : q_J l (d + 4) mX10_nearestFor mc ms Q QX n0 58 [some (.ref x0), some (.ref x1), some (.int x2), some (.int x3), some (.int x4)] [] h kc ks := by
  refine j_aload_n dX10_nearestFor_58 rfl rfl ?_
  refine j_aload_n dX10_nearestFor_59 rfl rfl ?_
  refine j_iload_n dX10_nearestFor_60 rfl rfl ?_
  refine j_iload dX10_nearestFor_61 rfl ?_
  refine j_bipush (v := (24 : Int32)) dX10_nearestFor_63 (by decide) ?_
  refine j_irem dX10_nearestFor_65 (by decide) ?_
  refine j_iload dX10_nearestFor_66 rfl ?_
  refine j_bipush (v := (24 : Int32)) dX10_nearestFor_68 (by decide) ?_
  refine j_idiv dX10_nearestFor_70 (by decide) ?_
  obtain ⟨⟨fs, e1⟩, hv⟩ := hv
  refine j_virtual (avs := [.ref x1, .int x2, .int (x4 - x4 / (24 : Int32) * (24 : Int32)), .int (x4 / (24 : Int32))]) (rest := []) (i := x0) (kc' := kc) (ks' := ks) dX10_nearestFor_71 mt_X10_serves w_m_X10_285 w_in_X10_serves w_se_X10_serves rfl rfl (Nat.le_of_ble_eq_true rfl) (Nat.le_refl _) (by omega) (by omega) cl_X10.1 e1 hv (fun _ _ q9 => q9) ?_
  rintro _ h1 ⟨z2, rfl, hv⟩ -
  refine j_if_eq (tgt := 80) dX10_nearestFor_74 (by decide) (fun hc => ?_) (fun hc => ?_)
  · replace hv := hv.1 hc
    refine j_iinc (w := (x4 + (1 : Int32))) dX10_nearestFor_80 rfl (by rfl) (by decide) rfl rfl ?_
    refine j_goto (tgt := 17) dX10_nearestFor_83 (by decide) ?_
    exact hv
  · replace hv := hv.2 hc
    refine j_iload dX10_nearestFor_77 rfl ?_
    refine j_istore_n dX10_nearestFor_79 rfl (by decide) rfl rfl ?_
    refine j_iinc (w := (x4 + (1 : Int32))) dX10_nearestFor_80 rfl (by rfl) (by decide) rfl rfl ?_
    refine j_goto (tgt := 17) dX10_nearestFor_83 (by decide) ?_
    exact hv
set_option maxRecDepth 20000 in
set_option maxHeartbeats 4000000 in
theorem v_X10_nearestFor_17 {l : Launch} {d mc ms n0 kc ks : Nat} {Q : Option Value → qH → Prop} {QX : String → qH → Prop} (x0 : Nat) (x1 : Nat) (x2 : Int32) (x3 : Int32) (x4 : Int32) {h : qH} (hv : qIF ((576 : Int32) ≤ x4) (Q (some (.int x3)) h) (qGR h x0 10 19 (fun r1 => qAL h r1 x4 (fun z2 => qIF ((1000000 : Int32) ≤ z2) (q_J l (d + 4) mX10_nearestFor mc ms Q QX n0 17 [some (.ref x0), some (.ref x1), some (.int x2), some (.int x3), some (.int (x4 + (1 : Int32)))] [] h kc ks) (qIF (x3 = (-1 : Int32)) (q_J l (d + 4) mX10_nearestFor mc ms Q QX n0 58 [some (.ref x0), some (.ref x1), some (.int x2), some (.int x3), some (.int x4)] [] h kc ks) (qGR h x0 10 19 (fun r3 => qAL h r3 x4 (fun z4 => qGR h x0 10 19 (fun r5 => qAL h r5 x3 (fun z6 => qIF (z6 ≤ z4) (q_J l (d + 4) mX10_nearestFor mc ms Q QX n0 17 [some (.ref x0), some (.ref x1), some (.int x2), some (.int x3), some (.int (x4 + (1 : Int32)))] [] h kc ks) (q_J l (d + 4) mX10_nearestFor mc ms Q QX n0 58 [some (.ref x0), some (.ref x1), some (.int x2), some (.int x3), some (.int x4)] [] h kc ks))))))))))) : q_J l (d + 4) mX10_nearestFor mc ms Q QX n0 17 [some (.ref x0), some (.ref x1), some (.int x2), some (.int x3), some (.int x4)] [] h kc ks := by
  refine j_iload dX10_nearestFor_17 rfl ?_
  refine j_sipush (v := (576 : Int32)) dX10_nearestFor_19 (by decide) ?_
  refine j_icmp_ge (tgt := 86) dX10_nearestFor_22 (by decide) (fun hc => ?_) (fun hc => ?_)
  · replace hv := hv.1 hc
    refine j_iload_n dX10_nearestFor_86 rfl rfl ?_
    exact j_iret dX10_nearestFor_87 rfl hv
  · replace hv := hv.2 hc
    refine j_aload_n dX10_nearestFor_25 rfl rfl ?_
    obtain ⟨fs, r1, e1, e2, hv⟩ := hv
    refine j_getf (k := 19) cl_X10 (by decide) w_f_X10_56 dX10_nearestFor_26 e1 e2 ?_
    refine j_iload dX10_nearestFor_29 rfl ?_
    obtain ⟨N, f, e1, e2, hv⟩ := hv
    refine j_iald dX10_nearestFor_31 e1 e2 ?_
    generalize f _ = z2 at hv ⊢
    refine j_ldc (v := (1000000 : Int32)) dX10_nearestFor_32 w_c_X10_122 ?_
    refine j_icmp_ge (tgt := 80) dX10_nearestFor_34 (by decide) (fun hc => ?_) (fun hc => ?_)
    · replace hv := hv.1 hc
      refine j_iinc (w := (x4 + (1 : Int32))) dX10_nearestFor_80 rfl (by rfl) (by decide) rfl rfl ?_
      refine j_goto (tgt := 17) dX10_nearestFor_83 (by decide) ?_
      exact hv
    · replace hv := hv.2 hc
      refine j_iload_n dX10_nearestFor_37 rfl rfl ?_
      refine j_iconst (v := (-1 : Int32)) dX10_nearestFor_38 (by decide) ?_
      refine j_icmp_eq (tgt := 58) dX10_nearestFor_39 (by decide) (fun hc => ?_) (fun hc => ?_)
      · replace hv := hv.1 hc
        exact hv
      · replace hv := hv.2 hc
        refine j_aload_n dX10_nearestFor_42 rfl rfl ?_
        obtain ⟨fs, r3, e1, e2, hv⟩ := hv
        refine j_getf (k := 19) cl_X10 (by decide) w_f_X10_56 dX10_nearestFor_43 e1 e2 ?_
        refine j_iload dX10_nearestFor_46 rfl ?_
        obtain ⟨N, f, e1, e2, hv⟩ := hv
        refine j_iald dX10_nearestFor_48 e1 e2 ?_
        generalize f _ = z4 at hv ⊢
        refine j_aload_n dX10_nearestFor_49 rfl rfl ?_
        obtain ⟨fs, r5, e1, e2, hv⟩ := hv
        refine j_getf (k := 19) cl_X10 (by decide) w_f_X10_56 dX10_nearestFor_50 e1 e2 ?_
        refine j_iload_n dX10_nearestFor_53 rfl rfl ?_
        obtain ⟨N, f, e1, e2, hv⟩ := hv
        refine j_iald dX10_nearestFor_54 e1 e2 ?_
        generalize f _ = z6 at hv ⊢
        refine j_icmp_ge (tgt := 80) dX10_nearestFor_55 (by decide) (fun hc => ?_) (fun hc => ?_)
        · replace hv := hv.1 hc
          refine j_iinc (w := (x4 + (1 : Int32))) dX10_nearestFor_80 rfl (by rfl) (by decide) rfl rfl ?_
          refine j_goto (tgt := 17) dX10_nearestFor_83 (by decide) ?_
          exact hv
        · replace hv := hv.2 hc
          exact hv
set_option maxRecDepth 20000 in
set_option maxHeartbeats 4000000 in
theorem v_X10_nearestFor {l : Launch} {d mc ms : Nat} {Q : Option Value → qH → Prop} {QX : String → qH → Prop} (x0 : Nat) (x1 : Nat) (x2 : Int32) {h : qH} (hv : qOB h x0 10 (qCI l (d + 3) mX10_isMet [.ref x0, .ref x1, .int x2, .int (0 : Int32)] h 0 0 (fun z2 h1 => qIF (z2 = 0) (q_J l (d + 4) mX10_nearestFor mc ms Q QX h.2 17 [some (.ref x0), some (.ref x1), some (.int x2), some (.int (-1 : Int32)), some (.int (0 : Int32))] [] h1 mc ms) (Q (some (.int (-1 : Int32))) h1)))) : q_Ct l (d + 4) mX10_nearestFor [.ref x0, .ref x1, .int x2] h mc ms Q QX := by
  refine q_body (by decide ) (by intro v hm; simp only [List.mem_cons, List.not_mem_nil, or_false] at hm; rcases hm with rfl | rfl | rfl <;> rfl) (Nat.le_of_ble_eq_true rfl) ?_
  refine j_pad 2 rfl ?_
  refine j_aload_n dX10_nearestFor_0 rfl rfl ?_
  refine j_aload_n dX10_nearestFor_1 rfl rfl ?_
  refine j_iload_n dX10_nearestFor_2 rfl rfl ?_
  refine j_iconst (v := (0 : Int32)) dX10_nearestFor_3 (by decide) ?_
  obtain ⟨⟨fs, e1⟩, hv⟩ := hv
  refine j_virtual (avs := [.ref x1, .int x2, .int (0 : Int32)]) (rest := []) (i := x0) (kc' := mc) (ks' := ms) dX10_nearestFor_4 mt_X10_isMet w_m_X10_174 w_in_X10_isMet w_se_X10_isMet rfl rfl (Nat.le_of_ble_eq_true rfl) (Nat.le_refl _) (by omega) (by omega) cl_X10.1 e1 hv (fun _ _ q9 => q9) ?_
  rintro _ h1 ⟨z2, rfl, hv⟩ -
  refine j_if_eq (tgt := 12) dX10_nearestFor_7 (by decide) (fun hc => ?_) (fun hc => ?_)
  · replace hv := hv.1 hc
    refine j_iconst (v := (-1 : Int32)) dX10_nearestFor_12 (by decide) ?_
    refine j_istore_n dX10_nearestFor_13 rfl (by decide) rfl rfl ?_
    refine j_iconst (v := (0 : Int32)) dX10_nearestFor_14 (by decide) ?_
    refine j_istore dX10_nearestFor_15 (by decide) rfl rfl ?_
    exact hv
  · replace hv := hv.2 hc
    refine j_iconst (v := (-1 : Int32)) dX10_nearestFor_10 (by decide) ?_
    exact j_iret dX10_nearestFor_11 rfl hv
set_option maxRecDepth 20000 in
set_option maxHeartbeats 4000000 in
theorem v_X10_makeOne_238 {l : Launch} {d mc ms n0 kc ks : Nat} {Q : Option Value → qH → Prop} {QX : String → qH → Prop} (x0 : Nat) (x1 : Int32) (x2 : Int32) (x3 : Nat) (x4 : Int32) (x5 : Int32) (x6 : Int32) (x7 : Int32) (x8 : Int32) {h : qH} (hv : qGR h x0 10 24 (fun r1 => qGR h x0 10 12 (fun r2 => qCP h r1 (0 : Int32) r2 (0 : Int32) (594 : Int32) (fun h3 => qZS h3 x3 x4 (1 : Int32) (fun h4 => Q (some (.int (1 : Int32))) h4))))) : q_J l (d + 7) mX10_makeOne mc ms Q QX n0 238 [some (.ref x0), some (.int x1), some (.int x2), some (.ref x3), some (.int x4), some (.int x5), some (.int x6), some (.int x7), some (.int x8), none] [] h kc ks := by
  refine j_aload_n dX10_makeOne_238 rfl rfl ?_
  obtain ⟨fs, r1, e1, e2, hv⟩ := hv
  refine j_getf (k := 24) cl_X10 (by decide) w_f_X10_68 dX10_makeOne_239 e1 e2 ?_
  refine j_iconst (v := (0 : Int32)) dX10_makeOne_242 (by decide) ?_
  refine j_aload_n dX10_makeOne_243 rfl rfl ?_
  obtain ⟨fs, r2, e1, e2, hv⟩ := hv
  refine j_getf (k := 12) cl_X10 (by decide) w_f_X10_39 dX10_makeOne_244 e1 e2 ?_
  refine j_iconst (v := (0 : Int32)) dX10_makeOne_247 (by decide) ?_
  refine j_sipush (v := (594 : Int32)) dX10_makeOne_248 (by decide) ?_
  obtain ⟨N0, N1, f0, f1, e1, e2, q1, q2, q3, q4, q5, hv⟩ := hv
  refine j_copy dX10_makeOne_251 w_m_X10_151 w_na_copy w_st_copy w_ini_System (Nat.le_of_ble_eq_true rfl) (by omega) e1 e2 q1 q2 q3 q4 q5 ?_
  generalize q_set h r2 _ = h3 at hv ⊢
  refine j_aload_n dX10_makeOne_254 rfl rfl ?_
  refine j_iload dX10_makeOne_255 rfl ?_
  refine j_iconst (v := (1 : Int32)) dX10_makeOne_257 (by decide) ?_
  obtain ⟨hz, N, f, e1, e2, hv⟩ := hv
  refine j_zast dX10_makeOne_258 e1 e2 hz ?_
  generalize q_set h3 x3 _ = h4 at hv ⊢
  refine j_iconst (v := (1 : Int32)) dX10_makeOne_259 (by decide) ?_
  exact j_zret dX10_makeOne_260 rfl (by decide) hv
set_option maxRecDepth 20000 in
set_option maxHeartbeats 4000000 in
theorem v_X10_makeOne_221 {l : Launch} {d mc ms n0 kc ks : Nat} {Q : Option Value → qH → Prop} {QX : String → qH → Prop} (x0 : Nat) (x1 : Int32) (x2 : Int32) (x3 : Nat) (x4 : Int32) (x5 : Int32) (x6 : Int32) (x7 : Int32) (x8 : Int32) {h : qH} (hv : qIF (x8 = 0) (qGR h x0 10 12 (fun r1 => qAL h r1 (0 : Int32) (fun z2 => qIF ((z2 - x1) ≤ x2) (qGI h x0 10 13 (fun z3 => qOB h x0 10 (qCV l (d + 6) mX10_insert [.ref x0, .int z3, .int (0 : Int32), .int (x5 - x5 / (24 : Int32) * (24 : Int32)), .int (x5 / (24 : Int32))] h 0 0 (fun h4 => qGI h4 x0 10 13 (fun z5 => qOB h4 x0 10 (qCV l (d + 6) mX10_insert [.ref x0, .int z5, .int x7, .int x4, .int (5 : Int32)] h4 0 0 (fun h6 => Q (some (.int (1 : Int32))) h6))))))) (q_J l (d + 7) mX10_makeOne mc ms Q QX n0 238 [some (.ref x0), some (.int x1), some (.int x2), some (.ref x3), some (.int x4), some (.int x5), some (.int x6), some (.int x7), some (.int x8), none] [] h kc ks)))) (q_J l (d + 7) mX10_makeOne mc ms Q QX n0 238 [some (.ref x0), some (.int x1), some (.int x2), some (.ref x3), some (.int x4), some (.int x5), some (.int x6), some (.int x7), some (.int x8), none] [] h kc ks)) : q_J l (d + 7) mX10_makeOne mc ms Q QX n0 221 [some (.ref x0), some (.int x1), some (.int x2), some (.ref x3), some (.int x4), some (.int x5), some (.int x6), some (.int x7), some (.int x8), none] [] h kc ks := by
  refine j_iload dX10_makeOne_221 rfl ?_
  refine j_if_ne (tgt := 238) dX10_makeOne_223 (by decide) (fun hc => ?_) (fun hc => ?_)
  · replace hv := hv.2 hc
    exact hv
  · replace hv := hv.1 hc
    refine j_aload_n dX10_makeOne_226 rfl rfl ?_
    obtain ⟨fs, r1, e1, e2, hv⟩ := hv
    refine j_getf (k := 12) cl_X10 (by decide) w_f_X10_39 dX10_makeOne_227 e1 e2 ?_
    refine j_iconst (v := (0 : Int32)) dX10_makeOne_230 (by decide) ?_
    obtain ⟨N, f, e1, e2, hv⟩ := hv
    refine j_iald dX10_makeOne_231 e1 e2 ?_
    generalize f _ = z2 at hv ⊢
    refine j_iload_n dX10_makeOne_232 rfl rfl ?_
    refine j_isub dX10_makeOne_233 ?_
    refine j_iload_n dX10_makeOne_234 rfl rfl ?_
    refine j_icmp_le (tgt := 261) dX10_makeOne_235 (by decide) (fun hc => ?_) (fun hc => ?_)
    · replace hv := hv.1 hc
      refine j_aload_n dX10_makeOne_261 rfl rfl ?_
      refine j_aload_n dX10_makeOne_262 rfl rfl ?_
      obtain ⟨fs, z3, e1, e2, hv⟩ := hv
      refine j_getf (k := 13) cl_X10 (by decide) w_f_X10_249 dX10_makeOne_263 e1 e2 ?_
      refine j_iconst (v := (0 : Int32)) dX10_makeOne_266 (by decide) ?_
      refine j_iload dX10_makeOne_267 rfl ?_
      refine j_bipush (v := (24 : Int32)) dX10_makeOne_269 (by decide) ?_
      refine j_irem dX10_makeOne_271 (by decide) ?_
      refine j_iload dX10_makeOne_272 rfl ?_
      refine j_bipush (v := (24 : Int32)) dX10_makeOne_274 (by decide) ?_
      refine j_idiv dX10_makeOne_276 (by decide) ?_
      obtain ⟨⟨fs, e1⟩, hv⟩ := hv
      refine j_virtual (avs := [.int z3, .int (0 : Int32), .int (x5 - x5 / (24 : Int32) * (24 : Int32)), .int (x5 / (24 : Int32))]) (rest := []) (i := x0) (kc' := kc) (ks' := ks) dX10_makeOne_277 mt_X10_insert w_m_X10_258 w_in_X10_insert w_se_X10_insert rfl rfl (Nat.le_of_ble_eq_true rfl) (Nat.le_refl _) (by omega) (by omega) cl_X10.1 e1 hv (fun _ _ q9 => q9) ?_
      rintro _ h4 ⟨rfl, hv⟩ -
      refine j_aload_n dX10_makeOne_280 rfl rfl ?_
      refine j_aload_n dX10_makeOne_281 rfl rfl ?_
      obtain ⟨fs, z5, e1, e2, hv⟩ := hv
      refine j_getf (k := 13) cl_X10 (by decide) w_f_X10_249 dX10_makeOne_282 e1 e2 ?_
      refine j_iload dX10_makeOne_285 rfl ?_
      refine j_iload dX10_makeOne_287 rfl ?_
      refine j_iconst (v := (5 : Int32)) dX10_makeOne_289 (by decide) ?_
      obtain ⟨⟨fs, e1⟩, hv⟩ := hv
      refine j_virtual (avs := [.int z5, .int x7, .int x4, .int (5 : Int32)]) (rest := []) (i := x0) (kc' := kc) (ks' := ks) dX10_makeOne_290 mt_X10_insert w_m_X10_258 w_in_X10_insert w_se_X10_insert rfl rfl (Nat.le_of_ble_eq_true rfl) (Nat.le_refl _) (by omega) (by omega) cl_X10.1 e1 hv (fun _ _ q9 => q9) ?_
      rintro _ h6 ⟨rfl, hv⟩ -
      refine j_iconst (v := (1 : Int32)) dX10_makeOne_293 (by decide) ?_
      exact j_zret dX10_makeOne_294 rfl (by decide) hv
    · replace hv := hv.2 hc
      exact hv
set_option maxRecDepth 20000 in
set_option maxHeartbeats 4000000 in
theorem v_X10_makeOne_178 {l : Launch} {d mc ms n0 kc ks : Nat} {Q : Option Value → qH → Prop} {QX : String → qH → Prop} (hkc : 2 ≤ kc) (hks : 8 ≤ ks) (x0 : Nat) (x1 : Int32) (x2 : Int32) (x3 : Nat) (x4 : Int32) (x5 : Int32) (x6 : Int32) (x7 : Int32) (y0 : Int32) {h : qH} (hv : qGR h x0 10 12 (fun r1 => qOB h x0 10 (qCI l (d + 6) mX10_act [.ref x0, .ref r1, .int (0 : Int32), .int (x5 - x5 / (24 : Int32) * (24 : Int32)), .int (x5 / (24 : Int32))] h 1 4 (fun z3 h2 => qIF (z3 = 0) (qGR h2 x0 10 12 (fun r4 => qOB h2 x0 10 (qCI l (d + 6) mX10_act [.ref x0, .ref r4, .int y0, .int x4, .int (5 : Int32)] h2 1 4 (fun z6 h5 => q_J l (d + 7) mX10_makeOne mc ms Q QX n0 221 [some (.ref x0), some (.int x1), some (.int x2), some (.ref x3), some (.int x4), some (.int x5), some (.int x6), some (.int y0), some (.int z6), none] [] h5 (kc - 2) (ks - 8))))) (q_J l (d + 7) mX10_makeOne mc ms Q QX n0 221 [some (.ref x0), some (.int x1), some (.int x2), some (.ref x3), some (.int x4), some (.int x5), some (.int x6), some (.int y0), some (.int z3), none] [] h2 (kc - 1) (ks - 4)))))) : q_J l (d + 7) mX10_makeOne mc ms Q QX n0 178 [some (.ref x0), some (.int x1), some (.int x2), some (.ref x3), some (.int x4), some (.int x5), some (.int x6), some (.int x7), none, none] [.int y0] h kc ks := by
  refine j_istore dX10_makeOne_178 (by decide) rfl rfl ?_
  refine j_aload_n dX10_makeOne_180 rfl rfl ?_
  refine j_aload_n dX10_makeOne_181 rfl rfl ?_
  obtain ⟨fs, r1, e1, e2, hv⟩ := hv
  refine j_getf (k := 12) cl_X10 (by decide) w_f_X10_39 dX10_makeOne_182 e1 e2 ?_
  refine j_iconst (v := (0 : Int32)) dX10_makeOne_185 (by decide) ?_
  refine j_iload dX10_makeOne_186 rfl ?_
  refine j_bipush (v := (24 : Int32)) dX10_makeOne_188 (by decide) ?_
  refine j_irem dX10_makeOne_190 (by decide) ?_
  refine j_iload dX10_makeOne_191 rfl ?_
  refine j_bipush (v := (24 : Int32)) dX10_makeOne_193 (by decide) ?_
  refine j_idiv dX10_makeOne_195 (by decide) ?_
  obtain ⟨⟨fs, e1⟩, hv⟩ := hv
  refine j_virtual (avs := [.ref r1, .int (0 : Int32), .int (x5 - x5 / (24 : Int32) * (24 : Int32)), .int (x5 / (24 : Int32))]) (rest := []) (i := x0) (kc' := (kc - 1)) (ks' := (ks - 4)) dX10_makeOne_196 mt_X10_act w_m_X10_278 w_in_X10_act w_se_X10_act rfl rfl (Nat.le_of_ble_eq_true rfl) (Nat.le_refl _) (by omega) (by omega) cl_X10.1 e1 hv (fun _ _ q9 => q9) ?_
  rintro _ h2 ⟨z3, rfl, hv⟩ -
  refine j_istore dX10_makeOne_199 (by decide) rfl rfl ?_
  refine j_iload dX10_makeOne_201 rfl ?_
  refine j_if_ne (tgt := 221) dX10_makeOne_203 (by decide) (fun hc => ?_) (fun hc => ?_)
  · replace hv := hv.2 hc
    exact hv
  · replace hv := hv.1 hc
    refine j_aload_n dX10_makeOne_206 rfl rfl ?_
    refine j_aload_n dX10_makeOne_207 rfl rfl ?_
    obtain ⟨fs, r4, e1, e2, hv⟩ := hv
    refine j_getf (k := 12) cl_X10 (by decide) w_f_X10_39 dX10_makeOne_208 e1 e2 ?_
    refine j_iload dX10_makeOne_211 rfl ?_
    refine j_iload dX10_makeOne_213 rfl ?_
    refine j_iconst (v := (5 : Int32)) dX10_makeOne_215 (by decide) ?_
    obtain ⟨⟨fs, e1⟩, hv⟩ := hv
    refine j_virtual (avs := [.ref r4, .int y0, .int x4, .int (5 : Int32)]) (rest := []) (i := x0) (kc' := (kc - 2)) (ks' := (ks - 8)) dX10_makeOne_216 mt_X10_act w_m_X10_278 w_in_X10_act w_se_X10_act rfl rfl (Nat.le_of_ble_eq_true rfl) (Nat.le_refl _) (by omega) (by omega) cl_X10.1 e1 hv (fun _ _ q9 => q9) ?_
    rintro _ h5 ⟨z6, rfl, hv⟩ -
    refine j_istore dX10_makeOne_219 (by decide) rfl rfl ?_
    exact hv
set_option maxRecDepth 20000 in
set_option maxHeartbeats 4000000 in
theorem v_X10_makeOne_72 {l : Launch} {d mc ms n0 kc ks : Nat} {Q : Option Value → qH → Prop} {QX : String → qH → Prop} (x0 : Nat) (x1 : Int32) (x2 : Int32) (x3 : Nat) (x4 : Int32) (x5 : Int32) (x6 : Int32) (x7 : Int32) (y0 : Int32) {h : qH} (hv : qIF (y0 = (-1 : Int32)) (q_J l (d + 7) mX10_makeOne mc ms Q QX n0 42 [some (.ref x0), some (.int x1), some (.int x2), some (.ref x3), some (.int x4), some (.int x5), some (.int x6), some (.int (x7 + (1 : Int32))), none, none] [] h kc ks) (qOB h x0 10 (qCI l (d + 6) mX10_value [.ref x0, .int x7] h 0 0 (fun z2 h1 => qGR h1 x0 10 19 (fun r3 => qAL h1 r3 y0 (fun z4 => qDV ((1 : Int32) + z4) (qIF (x4 = (-1 : Int32)) (q_J l (d + 7) mX10_makeOne mc ms Q QX n0 42 [some (.ref x0), some (.int x1), some (.int x2), some (.ref x3), some (.int x7), some (.int y0), some (.int (((1000 : Int32) * z2) / ((1 : Int32) + z4))), some (.int (x7 + (1 : Int32))), none, none] [] h1 kc ks) (qIF (x6 < (((1000 : Int32) * z2) / ((1 : Int32) + z4))) (q_J l (d + 7) mX10_makeOne mc ms Q QX n0 42 [some (.ref x0), some (.int x1), some (.int x2), some (.ref x3), some (.int x7), some (.int y0), some (.int (((1000 : Int32) * z2) / ((1 : Int32) + z4))), some (.int (x7 + (1 : Int32))), none, none] [] h1 kc ks) (q_J l (d + 7) mX10_makeOne mc ms Q QX n0 42 [some (.ref x0), some (.int x1), some (.int x2), some (.ref x3), some (.int x4), some (.int x5), some (.int x6), some (.int (x7 + (1 : Int32))), none, none] [] h1 kc ks))))))))) : q_J l (d + 7) mX10_makeOne mc ms Q QX n0 72 [some (.ref x0), some (.int x1), some (.int x2), some (.ref x3), some (.int x4), some (.int x5), some (.int x6), some (.int x7), none, none] [.int y0] h kc ks := by
  refine j_istore dX10_makeOne_72 (by decide) rfl rfl ?_
  refine j_iload dX10_makeOne_74 rfl ?_
  refine j_iconst (v := (-1 : Int32)) dX10_makeOne_76 (by decide) ?_
  refine j_icmp_ne (tgt := 83) dX10_makeOne_77 (by decide) (fun hc => ?_) (fun hc => ?_)
  · replace hv := hv.2 hc
    refine j_sipush (v := (1000 : Int32)) dX10_makeOne_83 (by decide) ?_
    refine j_aload_n dX10_makeOne_86 rfl rfl ?_
    refine j_iload dX10_makeOne_87 rfl ?_
    obtain ⟨⟨fs, e1⟩, hv⟩ := hv
    refine j_virtual (avs := [.int x7]) (rest := [.int (1000 : Int32)]) (i := x0) (kc' := kc) (ks' := ks) dX10_makeOne_89 mt_X10_value w_m_X10_171 w_in_X10_value w_se_X10_value rfl rfl (Nat.le_of_ble_eq_true rfl) (Nat.le_refl _) (by omega) (by omega) cl_X10.1 e1 hv (fun _ _ q9 => q9) ?_
    rintro _ h1 ⟨z2, rfl, hv⟩ -
    refine j_imul dX10_makeOne_92 ?_
    refine j_iconst (v := (1 : Int32)) dX10_makeOne_93 (by decide) ?_
    refine j_aload_n dX10_makeOne_94 rfl rfl ?_
    obtain ⟨fs, r3, e1, e2, hv⟩ := hv
    refine j_getf (k := 19) cl_X10 (by decide) w_f_X10_56 dX10_makeOne_95 e1 e2 ?_
    refine j_iload dX10_makeOne_98 rfl ?_
    obtain ⟨N, f, e1, e2, hv⟩ := hv
    refine j_iald dX10_makeOne_100 e1 e2 ?_
    generalize f _ = z4 at hv ⊢
    refine j_iadd dX10_makeOne_101 ?_
    obtain ⟨hz, hv⟩ := hv
    refine j_idiv dX10_makeOne_102 hz ?_
    refine j_istore dX10_makeOne_103 (by decide) rfl rfl ?_
    refine j_iload dX10_makeOne_105 rfl ?_
    refine j_iconst (v := (-1 : Int32)) dX10_makeOne_107 (by decide) ?_
    refine j_icmp_eq (tgt := 121) dX10_makeOne_108 (by decide) (fun hc => ?_) (fun hc => ?_)
    · replace hv := hv.1 hc
      refine j_iload dX10_makeOne_121 rfl ?_
      refine j_istore dX10_makeOne_123 (by decide) rfl rfl ?_
      refine j_iload dX10_makeOne_125 rfl ?_
      refine j_istore dX10_makeOne_127 (by decide) rfl rfl ?_
      refine j_iload dX10_makeOne_129 rfl ?_
      refine j_istore dX10_makeOne_131 (by decide) rfl rfl ?_
      refine j_iinc (w := (x7 + (1 : Int32))) dX10_makeOne_133 rfl (by rfl) (by decide) rfl rfl ?_
      refine j_goto (tgt := 42) dX10_makeOne_136 (by decide) ?_
      refine j_mask [true, true, true, true, true, true, true, true, false, false] rfl ?_
      exact hv
    · replace hv := hv.2 hc
      refine j_iload dX10_makeOne_111 rfl ?_
      refine j_iload dX10_makeOne_113 rfl ?_
      refine j_icmp_gt (tgt := 121) dX10_makeOne_115 (by decide) (fun hc => ?_) (fun hc => ?_)
      · replace hv := hv.1 hc
        refine j_iload dX10_makeOne_121 rfl ?_
        refine j_istore dX10_makeOne_123 (by decide) rfl rfl ?_
        refine j_iload dX10_makeOne_125 rfl ?_
        refine j_istore dX10_makeOne_127 (by decide) rfl rfl ?_
        refine j_iload dX10_makeOne_129 rfl ?_
        refine j_istore dX10_makeOne_131 (by decide) rfl rfl ?_
        refine j_iinc (w := (x7 + (1 : Int32))) dX10_makeOne_133 rfl (by rfl) (by decide) rfl rfl ?_
        refine j_goto (tgt := 42) dX10_makeOne_136 (by decide) ?_
        refine j_mask [true, true, true, true, true, true, true, true, false, false] rfl ?_
        exact hv
      · replace hv := hv.2 hc
        refine j_goto (tgt := 133) dX10_makeOne_118 (by decide) ?_
        refine j_iinc (w := (x7 + (1 : Int32))) dX10_makeOne_133 rfl (by rfl) (by decide) rfl rfl ?_
        refine j_goto (tgt := 42) dX10_makeOne_136 (by decide) ?_
        refine j_mask [true, true, true, true, true, true, true, true, false, false] rfl ?_
        exact hv
  · replace hv := hv.1 hc
    refine j_goto (tgt := 133) dX10_makeOne_80 (by decide) ?_
    refine j_iinc (w := (x7 + (1 : Int32))) dX10_makeOne_133 rfl (by rfl) (by decide) rfl rfl ?_
    refine j_goto (tgt := 42) dX10_makeOne_136 (by decide) ?_
    refine j_mask [true, true, true, true, true, true, true, true, false, true] rfl ?_
    exact hv
set_option maxRecDepth 20000 in
set_option maxHeartbeats 4000000 in
theorem v_X10_makeOne_42 {l : Launch} {d mc ms n0 kc ks : Nat} {Q : Option Value → qH → Prop} {QX : String → qH → Prop} (x0 : Nat) (x1 : Int32) (x2 : Int32) (x3 : Nat) (x4 : Int32) (x5 : Int32) (x6 : Int32) (x7 : Int32) {h : qH} (hv : qGI h x0 10 5 (fun z1 => qIF (z1 ≤ x7) (qIF (x4 = (-1 : Int32)) (Q (some (.int (0 : Int32))) h) (qGR h x0 10 12 (fun r2 => qGR h x0 10 24 (fun r3 => qCP h r2 (0 : Int32) r3 (0 : Int32) (594 : Int32) (fun h4 => qOB h4 x0 10 (qCI l (d + 6) mX10_need [.ref x0, .int x4] h4 0 0 (fun z6 h5 => qIF (z6 = (4 : Int32)) (q_J l (d + 7) mX10_makeOne mc ms Q QX n0 178 [some (.ref x0), some (.int x1), some (.int x2), some (.ref x3), some (.int x4), some (.int x5), some (.int x6), some (.int x7), none, none] [.int (2 : Int32)] h5 kc ks) (q_J l (d + 7) mX10_makeOne mc ms Q QX n0 178 [some (.ref x0), some (.int x1), some (.int x2), some (.ref x3), some (.int x4), some (.int x5), some (.int x6), some (.int x7), none, none] [.int (1 : Int32)] h5 kc ks)))))))) (qZL h x3 x7 (fun z7 => qIF (z7 = 0) (qGR h x0 10 12 (fun r8 => qOB h x0 10 (qCI l (d + 6) mX10_nearestFor [.ref x0, .ref r8, .int x7] h 0 0 (fun z10 h9 => q_J l (d + 7) mX10_makeOne mc ms Q QX n0 72 [some (.ref x0), some (.int x1), some (.int x2), some (.ref x3), some (.int x4), some (.int x5), some (.int x6), some (.int x7), none, none] [.int z10] h9 kc ks)))) (q_J l (d + 7) mX10_makeOne mc ms Q QX n0 72 [some (.ref x0), some (.int x1), some (.int x2), some (.ref x3), some (.int x4), some (.int x5), some (.int x6), some (.int x7), none, none] [.int (-1 : Int32)] h kc ks))))) : q_J l (d + 7) mX10_makeOne mc ms Q QX n0 42 [some (.ref x0), some (.int x1), some (.int x2), some (.ref x3), some (.int x4), some (.int x5), some (.int x6), some (.int x7), none, none] [] h kc ks := by
  refine j_iload dX10_makeOne_42 rfl ?_
  refine j_aload_n dX10_makeOne_44 rfl rfl ?_
  obtain ⟨fs, z1, e1, e2, hv⟩ := hv
  refine j_getf (k := 5) cl_X10 (by decide) w_f_X10_78 dX10_makeOne_45 e1 e2 ?_
  refine j_icmp_ge (tgt := 139) dX10_makeOne_48 (by decide) (fun hc => ?_) (fun hc => ?_)
  · replace hv := hv.1 hc
    refine j_iload dX10_makeOne_139 rfl ?_
    refine j_iconst (v := (-1 : Int32)) dX10_makeOne_141 (by decide) ?_
    refine j_icmp_ne (tgt := 147) dX10_makeOne_142 (by decide) (fun hc => ?_) (fun hc => ?_)
    · replace hv := hv.2 hc
      refine j_aload_n dX10_makeOne_147 rfl rfl ?_
      obtain ⟨fs, r2, e1, e2, hv⟩ := hv
      refine j_getf (k := 12) cl_X10 (by decide) w_f_X10_39 dX10_makeOne_148 e1 e2 ?_
      refine j_iconst (v := (0 : Int32)) dX10_makeOne_151 (by decide) ?_
      refine j_aload_n dX10_makeOne_152 rfl rfl ?_
      obtain ⟨fs, r3, e1, e2, hv⟩ := hv
      refine j_getf (k := 24) cl_X10 (by decide) w_f_X10_68 dX10_makeOne_153 e1 e2 ?_
      refine j_iconst (v := (0 : Int32)) dX10_makeOne_156 (by decide) ?_
      refine j_sipush (v := (594 : Int32)) dX10_makeOne_157 (by decide) ?_
      obtain ⟨N0, N1, f0, f1, e1, e2, q1, q2, q3, q4, q5, hv⟩ := hv
      refine j_copy dX10_makeOne_160 w_m_X10_151 w_na_copy w_st_copy w_ini_System (Nat.le_of_ble_eq_true rfl) (by omega) e1 e2 q1 q2 q3 q4 q5 ?_
      generalize q_set h r3 _ = h4 at hv ⊢
      refine j_aload_n dX10_makeOne_163 rfl rfl ?_
      refine j_iload dX10_makeOne_164 rfl ?_
      obtain ⟨⟨fs, e1⟩, hv⟩ := hv
      refine j_virtual (avs := [.int x4]) (rest := []) (i := x0) (kc' := kc) (ks' := ks) dX10_makeOne_166 mt_X10_need w_m_X10_157 w_in_X10_need w_se_X10_need rfl rfl (Nat.le_of_ble_eq_true rfl) (Nat.le_refl _) (by omega) (by omega) cl_X10.1 e1 hv (fun _ _ q9 => q9) ?_
      rintro _ h5 ⟨z6, rfl, hv⟩ -
      refine j_iconst (v := (4 : Int32)) dX10_makeOne_169 (by decide) ?_
      refine j_icmp_ne (tgt := 177) dX10_makeOne_170 (by decide) (fun hc => ?_) (fun hc => ?_)
      · replace hv := hv.2 hc
        refine j_iconst (v := (1 : Int32)) dX10_makeOne_177 (by decide) ?_
        exact hv
      · replace hv := hv.1 hc
        refine j_iconst (v := (2 : Int32)) dX10_makeOne_173 (by decide) ?_
        refine j_goto (tgt := 178) dX10_makeOne_174 (by decide) ?_
        exact hv
    · replace hv := hv.1 hc
      refine j_iconst (v := (0 : Int32)) dX10_makeOne_145 (by decide) ?_
      exact j_zret dX10_makeOne_146 rfl (by decide) hv
  · replace hv := hv.2 hc
    refine j_aload_n dX10_makeOne_51 rfl rfl ?_
    refine j_iload dX10_makeOne_52 rfl ?_
    obtain ⟨N, f, e1, e2, hv⟩ := hv
    refine j_zald dX10_makeOne_54 e1 e2 ?_
    generalize f _ = z7 at hv ⊢
    refine j_if_eq (tgt := 62) dX10_makeOne_55 (by decide) (fun hc => ?_) (fun hc => ?_)
    · replace hv := hv.1 hc
      refine j_aload_n dX10_makeOne_62 rfl rfl ?_
      refine j_aload_n dX10_makeOne_63 rfl rfl ?_
      obtain ⟨fs, r8, e1, e2, hv⟩ := hv
      refine j_getf (k := 12) cl_X10 (by decide) w_f_X10_39 dX10_makeOne_64 e1 e2 ?_
      refine j_iload dX10_makeOne_67 rfl ?_
      obtain ⟨⟨fs, e1⟩, hv⟩ := hv
      refine j_virtual (avs := [.ref r8, .int x7]) (rest := []) (i := x0) (kc' := kc) (ks' := ks) dX10_makeOne_69 mt_X10_nearestFor w_m_X10_289 w_in_X10_nearestFor w_se_X10_nearestFor rfl rfl (Nat.le_of_ble_eq_true rfl) (Nat.le_refl _) (by omega) (by omega) cl_X10.1 e1 hv (fun _ _ q9 => q9) ?_
      rintro _ h9 ⟨z10, rfl, hv⟩ -
      exact hv
    · replace hv := hv.2 hc
      refine j_iconst (v := (-1 : Int32)) dX10_makeOne_58 (by decide) ?_
      refine j_goto (tgt := 72) dX10_makeOne_59 (by decide) ?_
      exact hv
set_option maxRecDepth 20000 in
set_option maxHeartbeats 4000000 in
theorem v_X10_makeOne {l : Launch} {d mc ms : Nat} {Q : Option Value → qH → Prop} {QX : String → qH → Prop} (x0 : Nat) (x1 : Int32) (x2 : Int32) (x3 : Nat) {h : qH} (hv : qGI h x0 10 13 (fun z1 => qIF ((z1 + (2 : Int32)) ≤ (40 : Int32)) (qGR h x0 10 12 (fun r2 => qAL h r2 (1 : Int32) (fun z3 => qGR h x0 10 12 (fun r4 => qAL h r4 (2 : Int32) (fun z5 => qOB h x0 10 (qCV l (d + 6) mX10_reckonCosts [.ref x0, .int z3, .int z5, .int (0 : Int32)] h 0 0 (fun h6 => q_J l (d + 7) mX10_makeOne mc ms Q QX h.2 42 [some (.ref x0), some (.int x1), some (.int x2), some (.ref x3), some (.int (-1 : Int32)), some (.int (-1 : Int32)), some (.int (0 : Int32)), some (.int (0 : Int32)), none, none] [] h6 mc ms))))))) (Q (some (.int (0 : Int32))) h))) : q_Ct l (d + 7) mX10_makeOne [.ref x0, .int x1, .int x2, .ref x3] h mc ms Q QX := by
  refine q_body (by decide ) (by intro v hm; simp only [List.mem_cons, List.not_mem_nil, or_false] at hm; rcases hm with rfl | rfl | rfl | rfl <;> rfl) (Nat.le_of_ble_eq_true rfl) ?_
  refine j_pad 6 rfl ?_
  refine j_aload_n dX10_makeOne_0 rfl rfl ?_
  obtain ⟨fs, z1, e1, e2, hv⟩ := hv
  refine j_getf (k := 13) cl_X10 (by decide) w_f_X10_249 dX10_makeOne_1 e1 e2 ?_
  refine j_iconst (v := (2 : Int32)) dX10_makeOne_4 (by decide) ?_
  refine j_iadd dX10_makeOne_5 ?_
  refine j_bipush (v := (40 : Int32)) dX10_makeOne_6 (by decide) ?_
  refine j_icmp_le (tgt := 13) dX10_makeOne_8 (by decide) (fun hc => ?_) (fun hc => ?_)
  · replace hv := hv.1 hc
    refine j_aload_n dX10_makeOne_13 rfl rfl ?_
    refine j_aload_n dX10_makeOne_14 rfl rfl ?_
    obtain ⟨fs, r2, e1, e2, hv⟩ := hv
    refine j_getf (k := 12) cl_X10 (by decide) w_f_X10_39 dX10_makeOne_15 e1 e2 ?_
    refine j_iconst (v := (1 : Int32)) dX10_makeOne_18 (by decide) ?_
    obtain ⟨N, f, e1, e2, hv⟩ := hv
    refine j_iald dX10_makeOne_19 e1 e2 ?_
    generalize f _ = z3 at hv ⊢
    refine j_aload_n dX10_makeOne_20 rfl rfl ?_
    obtain ⟨fs, r4, e1, e2, hv⟩ := hv
    refine j_getf (k := 12) cl_X10 (by decide) w_f_X10_39 dX10_makeOne_21 e1 e2 ?_
    refine j_iconst (v := (2 : Int32)) dX10_makeOne_24 (by decide) ?_
    obtain ⟨N, f, e1, e2, hv⟩ := hv
    refine j_iald dX10_makeOne_25 e1 e2 ?_
    generalize f _ = z5 at hv ⊢
    refine j_iconst (v := (0 : Int32)) dX10_makeOne_26 (by decide) ?_
    obtain ⟨⟨fs, e1⟩, hv⟩ := hv
    refine j_virtual (avs := [.int z3, .int z5, .int (0 : Int32)]) (rest := []) (i := x0) (kc' := mc) (ks' := ms) dX10_makeOne_27 mt_X10_reckonCosts w_m_X10_126 w_in_X10_reckonCosts w_se_X10_reckonCosts rfl rfl (Nat.le_of_ble_eq_true rfl) (Nat.le_refl _) (by omega) (by omega) cl_X10.1 e1 hv (fun _ _ q9 => q9) ?_
    rintro _ h6 ⟨rfl, hv⟩ -
    refine j_iconst (v := (-1 : Int32)) dX10_makeOne_30 (by decide) ?_
    refine j_istore dX10_makeOne_31 (by decide) rfl rfl ?_
    refine j_iconst (v := (-1 : Int32)) dX10_makeOne_33 (by decide) ?_
    refine j_istore dX10_makeOne_34 (by decide) rfl rfl ?_
    refine j_iconst (v := (0 : Int32)) dX10_makeOne_36 (by decide) ?_
    refine j_istore dX10_makeOne_37 (by decide) rfl rfl ?_
    refine j_iconst (v := (0 : Int32)) dX10_makeOne_39 (by decide) ?_
    refine j_istore dX10_makeOne_40 (by decide) rfl rfl ?_
    exact hv
  · replace hv := hv.2 hc
    refine j_iconst (v := (0 : Int32)) dX10_makeOne_11 (by decide) ?_
    exact j_zret dX10_makeOne_12 rfl (by decide) hv
set_option maxRecDepth 20000 in
set_option maxHeartbeats 4000000 in
theorem v_X10_make_57 {l : Launch} {d mc ms n0 kc ks : Nat} {Q : Option Value → qH → Prop} {QX : String → qH → Prop} (hkc : 2 ≤ kc) (hks : 8 ≤ ks) (x0 : Nat) (x1 : Int32) (x2 : Int32) (x3 : Int32) (x4 : Nat) (x5 : Int32) {h : qH} (hv : qIF (x5 = 0) (qGI h x0 10 13 (fun z1 => Q (some (.int (z1 - x2))) h)) (qOB h x0 10 (qCI l (d + 7) mX10_makeOne [.ref x0, .int x3, .int x1, .ref x4] h 2 8 (fun z3 h2 => q_J l (d + 8) mX10_make mc ms Q QX n0 57 [some (.ref x0), some (.int x1), some (.int x2), some (.int x3), some (.ref x4), some (.int z3)] [] h2 (kc - 2) (ks - 8))))) : q_J l (d + 8) mX10_make mc ms Q QX n0 57 [some (.ref x0), some (.int x1), some (.int x2), some (.int x3), some (.ref x4), some (.int x5)] [] h kc ks := by
  refine j_iload dX10_make_57 rfl ?_
  refine j_if_eq (tgt := 75) dX10_make_59 (by decide) (fun hc => ?_) (fun hc => ?_)
  · replace hv := hv.1 hc
    refine j_aload_n dX10_make_75 rfl rfl ?_
    obtain ⟨fs, z1, e1, e2, hv⟩ := hv
    refine j_getf (k := 13) cl_X10 (by decide) w_f_X10_249 dX10_make_76 e1 e2 ?_
    refine j_iload_n dX10_make_79 rfl rfl ?_
    refine j_isub dX10_make_80 ?_
    exact j_iret dX10_make_81 rfl hv
  · replace hv := hv.2 hc
    refine j_aload_n dX10_make_62 rfl rfl ?_
    refine j_iload_n dX10_make_63 rfl rfl ?_
    refine j_iload_n dX10_make_64 rfl rfl ?_
    refine j_aload dX10_make_65 rfl ?_
    obtain ⟨⟨fs, e1⟩, hv⟩ := hv
    refine j_virtual (avs := [.int x3, .int x1, .ref x4]) (rest := []) (i := x0) (kc' := (kc - 2)) (ks' := (ks - 8)) dX10_make_67 mt_X10_makeOne w_m_X10_292 w_in_X10_makeOne w_se_X10_makeOne rfl rfl (Nat.le_of_ble_eq_true rfl) (Nat.le_refl _) (by omega) (by omega) cl_X10.1 e1 hv (fun _ _ q9 => q9) ?_
    rintro _ h2 ⟨z3, rfl, hv⟩ -
    refine j_istore dX10_make_70 (by decide) rfl rfl ?_
    refine j_goto (tgt := 57) dX10_make_72 (by decide) ?_
    exact hv
set_option maxRecDepth 20000 in
set_option maxHeartbeats 4000000 in
theorem v_X10_make {l : Launch} {d mc ms : Nat} {Q : Option Value → qH → Prop} {QX : String → qH → Prop} (hkc : 42 ≤ mc) (hks : 176 ≤ ms) (x0 : Nat) (x1 : Int32) {h : qH} (hv : qPI h x0 10 0 (0 : Int32) (fun h1 => qCI l (d + 7) mX10_isIn [.int x1, .int (1 : Int32), .int (2880 : Int32)] h1 0 0 (fun z3 h2 => qIF (z3 = 0) (qOB h2 x0 10 (qCI l (d + 7) mX10_fail [.ref x0, .int (1 : Int32)] h2 0 0 (fun z13 h12 => Q (some (.int z13)) h12))) (qGI h2 x0 10 13 (fun z4 => qGI h2 x0 10 13 (fun z5 => qOB h2 x0 10 (qCI l (d + 7) mX10_tryOut [.ref x0, .int z5] h2 41 164 (fun z7 h6 => qIF (z7 = (-1 : Int32)) (qGR h6 x0 10 12 (fun r8 => qAL h6 r8 (0 : Int32) (fun z9 => qNZ h6 12 (fun r10 h11 => q_J l (d + 8) mX10_make mc ms Q QX h.2 57 [some (.ref x0), some (.int x1), some (.int z4), some (.int z9), some (.ref r10), some (.int (1 : Int32))] [] h11 (mc - 42) (ms - 176))))) (Q (some (.int (0 : Int32))) h6))))))))) : q_Ct l (d + 8) mX10_make [.ref x0, .int x1] h mc ms Q QX := by
  refine q_body (by decide ) (by intro v hm; simp only [List.mem_cons, List.not_mem_nil, or_false] at hm; rcases hm with rfl | rfl <;> rfl) (Nat.le_of_ble_eq_true rfl) ?_
  refine j_pad 4 rfl ?_
  refine j_aload_n dX10_make_0 rfl rfl ?_
  refine j_iconst (v := (0 : Int32)) dX10_make_1 (by decide) ?_
  obtain ⟨fs, e1, e2, hv⟩ := hv
  refine j_put (k := 0) (ty0 := tyX10) cl_X10 (pf_X10_0) w_f_X10_71 dX10_make_2 (fun g ad => q_nI g ad _) e1 e2 ?_
  generalize q_set h x0 _ = h1 at hv ⊢
  refine j_iload_n dX10_make_5 rfl rfl ?_
  refine j_iconst (v := (1 : Int32)) dX10_make_6 (by decide) ?_
  refine j_sipush (v := (2880 : Int32)) dX10_make_7 (by decide) ?_
  refine j_static (avs := [.int x1, .int (1 : Int32), .int (2880 : Int32)]) (rest := []) (kc' := mc) (ks' := ms) dX10_make_10 mt_X10_isIn w_m_X10_74 w_st_X10_isIn rfl rfl (Nat.le_of_ble_eq_true rfl) (Nat.le_refl _) (by omega) (by omega) hv (fun _ _ q9 => q9) ?_
  rintro _ h2 ⟨z3, rfl, hv⟩ -
  refine j_if_ne (tgt := 22) dX10_make_13 (by decide) (fun hc => ?_) (fun hc => ?_)
  · replace hv := hv.2 hc
    refine j_aload_n dX10_make_22 rfl rfl ?_
    obtain ⟨fs, z4, e1, e2, hv⟩ := hv
    refine j_getf (k := 13) cl_X10 (by decide) w_f_X10_249 dX10_make_23 e1 e2 ?_
    refine j_istore_n dX10_make_26 rfl (by decide) rfl rfl ?_
    refine j_aload_n dX10_make_27 rfl rfl ?_
    refine j_aload_n dX10_make_28 rfl rfl ?_
    obtain ⟨fs, z5, e1, e2, hv⟩ := hv
    refine j_getf (k := 13) cl_X10 (by decide) w_f_X10_249 dX10_make_29 e1 e2 ?_
    obtain ⟨⟨fs, e1⟩, hv⟩ := hv
    refine j_virtual (avs := [.int z5]) (rest := []) (i := x0) (kc' := (mc - 41)) (ks' := (ms - 164)) dX10_make_32 mt_X10_tryOut w_m_X10_282 w_in_X10_tryOut w_se_X10_tryOut rfl rfl (Nat.le_of_ble_eq_true rfl) (Nat.le_refl _) (by omega) (by omega) cl_X10.1 e1 hv (fun _ _ q9 => q9) ?_
    rintro _ h6 ⟨z7, rfl, hv⟩ -
    refine j_iconst (v := (-1 : Int32)) dX10_make_35 (by decide) ?_
    refine j_icmp_eq (tgt := 41) dX10_make_36 (by decide) (fun hc => ?_) (fun hc => ?_)
    · replace hv := hv.1 hc
      refine j_aload_n dX10_make_41 rfl rfl ?_
      obtain ⟨fs, r8, e1, e2, hv⟩ := hv
      refine j_getf (k := 12) cl_X10 (by decide) w_f_X10_39 dX10_make_42 e1 e2 ?_
      refine j_iconst (v := (0 : Int32)) dX10_make_45 (by decide) ?_
      obtain ⟨N, f, e1, e2, hv⟩ := hv
      refine j_iald dX10_make_46 e1 e2 ?_
      generalize f _ = z9 at hv ⊢
      refine j_istore_n dX10_make_47 rfl (by decide) rfl rfl ?_
      refine j_bipush (v := (12 : Int32)) dX10_make_48 (by decide) ?_
      unfold qNZ at hv
      refine j_newZ (N := 12) w_ar_boolean dX10_make_50 (by decide) (by decide) (by decide) (kc' := (mc - 42)) (ks' := (ms - 176)) (by omega) (by omega) ?_
      generalize q_push h6 _ = h11 at hv ⊢
      generalize (h6).2 = r10 at hv ⊢
      refine j_astore dX10_make_52 (by decide) rfl rfl ?_
      refine j_iconst (v := (1 : Int32)) dX10_make_54 (by decide) ?_
      refine j_istore dX10_make_55 (by decide) rfl rfl ?_
      exact hv
    · replace hv := hv.2 hc
      refine j_iconst (v := (0 : Int32)) dX10_make_39 (by decide) ?_
      exact j_iret dX10_make_40 rfl hv
  · replace hv := hv.1 hc
    refine j_aload_n dX10_make_16 rfl rfl ?_
    refine j_iconst (v := (1 : Int32)) dX10_make_17 (by decide) ?_
    obtain ⟨⟨fs, e1⟩, hv⟩ := hv
    refine j_virtual (avs := [.int (1 : Int32)]) (rest := []) (i := x0) (kc' := mc) (ks' := ms) dX10_make_18 mt_X10_fail w_m_X10_89 w_in_X10_fail w_se_X10_fail rfl rfl (Nat.le_of_ble_eq_true rfl) (Nat.le_refl _) (by omega) (by omega) cl_X10.1 e1 hv (fun _ _ q9 => q9) ?_
    rintro _ h12 ⟨z13, rfl, hv⟩ -
    exact j_iret dX10_make_21 rfl hv
set_option maxRecDepth 20000 in
set_option maxHeartbeats 4000000 in
theorem v_X10_nearest {l : Launch} {d mc ms : Nat} {Q : Option Value → qH → Prop} {QX : String → qH → Prop} (x0 : Nat) (x1 : Int32) {h : qH} (hv : qPI h x0 10 0 (0 : Int32) (fun h1 => qOB h1 x0 10 (qCI l (d + 4) mX10_isTarget [.ref x0, .int x1] h1 0 0 (fun z3 h2 => qIF (z3 = 0) (qOB h2 x0 10 (qCI l (d + 4) mX10_fail [.ref x0, .int (1 : Int32)] h2 0 0 (fun z13 h12 => Q (some (.int z13)) h12))) (qGR h2 x0 10 11 (fun r4 => qAL h2 r4 (1 : Int32) (fun z5 => qGR h2 x0 10 11 (fun r6 => qAL h2 r6 (2 : Int32) (fun z7 => qOB h2 x0 10 (qCV l (d + 4) mX10_reckonCosts [.ref x0, .int z5, .int z7, .int (0 : Int32)] h2 0 0 (fun h8 => qGR h8 x0 10 11 (fun r9 => qOB h8 x0 10 (qCI l (d + 4) mX10_nearestFor [.ref x0, .ref r9, .int x1] h8 0 0 (fun z11 h10 => qIF (z11 = (-1 : Int32)) (Q (some (.int (-1 : Int32))) h10) (Q (some (.int (((100 : Int32) * (z11 - z11 / (24 : Int32) * (24 : Int32))) + (z11 / (24 : Int32))))) h10))))))))))))))) : q_Ct l (d + 5) mX10_nearest [.ref x0, .int x1] h mc ms Q QX := by
  refine q_body (by decide ) (by intro v hm; simp only [List.mem_cons, List.not_mem_nil, or_false] at hm; rcases hm with rfl | rfl <;> rfl) (Nat.le_of_ble_eq_true rfl) ?_
  refine j_pad 1 rfl ?_
  refine j_aload_n dX10_nearest_0 rfl rfl ?_
  refine j_iconst (v := (0 : Int32)) dX10_nearest_1 (by decide) ?_
  obtain ⟨fs, e1, e2, hv⟩ := hv
  refine j_put (k := 0) (ty0 := tyX10) cl_X10 (pf_X10_0) w_f_X10_71 dX10_nearest_2 (fun g ad => q_nI g ad _) e1 e2 ?_
  generalize q_set h x0 _ = h1 at hv ⊢
  refine j_aload_n dX10_nearest_5 rfl rfl ?_
  refine j_iload_n dX10_nearest_6 rfl rfl ?_
  obtain ⟨⟨fs, e1⟩, hv⟩ := hv
  refine j_virtual (avs := [.int x1]) (rest := []) (i := x0) (kc' := mc) (ks' := ms) dX10_nearest_7 mt_X10_isTarget w_m_X10_178 w_in_X10_isTarget w_se_X10_isTarget rfl rfl (Nat.le_of_ble_eq_true rfl) (Nat.le_refl _) (by omega) (by omega) cl_X10.1 e1 hv (fun _ _ q9 => q9) ?_
  rintro _ h2 ⟨z3, rfl, hv⟩ -
  refine j_if_ne (tgt := 19) dX10_nearest_10 (by decide) (fun hc => ?_) (fun hc => ?_)
  · replace hv := hv.2 hc
    refine j_aload_n dX10_nearest_19 rfl rfl ?_
    refine j_aload_n dX10_nearest_20 rfl rfl ?_
    obtain ⟨fs, r4, e1, e2, hv⟩ := hv
    refine j_getf (k := 11) cl_X10 (by decide) w_f_X10_36 dX10_nearest_21 e1 e2 ?_
    refine j_iconst (v := (1 : Int32)) dX10_nearest_24 (by decide) ?_
    obtain ⟨N, f, e1, e2, hv⟩ := hv
    refine j_iald dX10_nearest_25 e1 e2 ?_
    generalize f _ = z5 at hv ⊢
    refine j_aload_n dX10_nearest_26 rfl rfl ?_
    obtain ⟨fs, r6, e1, e2, hv⟩ := hv
    refine j_getf (k := 11) cl_X10 (by decide) w_f_X10_36 dX10_nearest_27 e1 e2 ?_
    refine j_iconst (v := (2 : Int32)) dX10_nearest_30 (by decide) ?_
    obtain ⟨N, f, e1, e2, hv⟩ := hv
    refine j_iald dX10_nearest_31 e1 e2 ?_
    generalize f _ = z7 at hv ⊢
    refine j_iconst (v := (0 : Int32)) dX10_nearest_32 (by decide) ?_
    obtain ⟨⟨fs, e1⟩, hv⟩ := hv
    refine j_virtual (avs := [.int z5, .int z7, .int (0 : Int32)]) (rest := []) (i := x0) (kc' := mc) (ks' := ms) dX10_nearest_33 mt_X10_reckonCosts w_m_X10_126 w_in_X10_reckonCosts w_se_X10_reckonCosts rfl rfl (Nat.le_of_ble_eq_true rfl) (Nat.le_refl _) (by omega) (by omega) cl_X10.1 e1 hv (fun _ _ q9 => q9) ?_
    rintro _ h8 ⟨rfl, hv⟩ -
    refine j_aload_n dX10_nearest_36 rfl rfl ?_
    refine j_aload_n dX10_nearest_37 rfl rfl ?_
    obtain ⟨fs, r9, e1, e2, hv⟩ := hv
    refine j_getf (k := 11) cl_X10 (by decide) w_f_X10_36 dX10_nearest_38 e1 e2 ?_
    refine j_iload_n dX10_nearest_41 rfl rfl ?_
    obtain ⟨⟨fs, e1⟩, hv⟩ := hv
    refine j_virtual (avs := [.ref r9, .int x1]) (rest := []) (i := x0) (kc' := mc) (ks' := ms) dX10_nearest_42 mt_X10_nearestFor w_m_X10_289 w_in_X10_nearestFor w_se_X10_nearestFor rfl rfl (Nat.le_of_ble_eq_true rfl) (Nat.le_refl _) (by omega) (by omega) cl_X10.1 e1 hv (fun _ _ q9 => q9) ?_
    rintro _ h10 ⟨z11, rfl, hv⟩ -
    refine j_istore_n dX10_nearest_45 rfl (by decide) rfl rfl ?_
    refine j_iload_n dX10_nearest_46 rfl rfl ?_
    refine j_iconst (v := (-1 : Int32)) dX10_nearest_47 (by decide) ?_
    refine j_icmp_ne (tgt := 55) dX10_nearest_48 (by decide) (fun hc => ?_) (fun hc => ?_)
    · replace hv := hv.2 hc
      refine j_bipush (v := (100 : Int32)) dX10_nearest_55 (by decide) ?_
      refine j_iload_n dX10_nearest_57 rfl rfl ?_
      refine j_bipush (v := (24 : Int32)) dX10_nearest_58 (by decide) ?_
      refine j_irem dX10_nearest_60 (by decide) ?_
      refine j_imul dX10_nearest_61 ?_
      refine j_iload_n dX10_nearest_62 rfl rfl ?_
      refine j_bipush (v := (24 : Int32)) dX10_nearest_63 (by decide) ?_
      refine j_idiv dX10_nearest_65 (by decide) ?_
      refine j_iadd dX10_nearest_66 ?_
      exact j_iret dX10_nearest_67 rfl hv
    · replace hv := hv.1 hc
      refine j_iconst (v := (-1 : Int32)) dX10_nearest_51 (by decide) ?_
      refine j_goto (tgt := 67) dX10_nearest_52 (by decide) ?_
      exact j_iret dX10_nearest_67 rfl hv
  · replace hv := hv.1 hc
    refine j_aload_n dX10_nearest_13 rfl rfl ?_
    refine j_iconst (v := (1 : Int32)) dX10_nearest_14 (by decide) ?_
    obtain ⟨⟨fs, e1⟩, hv⟩ := hv
    refine j_virtual (avs := [.int (1 : Int32)]) (rest := []) (i := x0) (kc' := mc) (ks' := ms) dX10_nearest_15 mt_X10_fail w_m_X10_89 w_in_X10_fail w_se_X10_fail rfl rfl (Nat.le_of_ble_eq_true rfl) (Nat.le_refl _) (by omega) (by omega) cl_X10.1 e1 hv (fun _ _ q9 => q9) ?_
    rintro _ h12 ⟨z13, rfl, hv⟩ -
    exact j_iret dX10_nearest_18 rfl hv
set_option maxRecDepth 20000 in
set_option maxHeartbeats 4000000 in
theorem v_X10_mark {l : Launch} {d mc ms : Nat} {Q : Option Value → qH → Prop} {QX : String → qH → Prop} (x0 : Nat) {h : qH} (hv : qPI h x0 10 0 (0 : Int32) (fun h1 => qGI h1 x0 10 15 (fun z2 => qIF (z2 = (8 : Int32)) (qOB h1 x0 10 (qCI l (d + 0) mX10_fail [.ref x0, .int (1 : Int32)] h1 0 0 (fun z23 h22 => Q (some (.int z23)) h22))) (qGR h1 x0 10 11 (fun r3 => qGR h1 x0 10 16 (fun r4 => qGI h1 x0 10 15 (fun z5 => qO4 h1 r4 z5 (fun r6 => qCP h1 r3 (0 : Int32) r6 (0 : Int32) (594 : Int32) (fun h7 => qGR h7 x0 10 14 (fun r8 => qGR h7 x0 10 17 (fun r9 => qGI h7 x0 10 15 (fun z10 => qO4 h7 r9 z10 (fun r11 => qGR h7 x0 10 14 (fun r12 => qLN h7 r12 (fun z13 => qCP h7 r8 (0 : Int32) r11 (0 : Int32) z13 (fun h14 => qGR h14 x0 10 18 (fun r15 => qGI h14 x0 10 15 (fun z16 => qGI h14 x0 10 13 (fun z17 => qAS h14 r15 z16 z17 (fun h18 => qGI h18 x0 10 15 (fun z19 => qPI h18 x0 10 15 (z19 + (1 : Int32)) (fun h20 => qGI h20 x0 10 15 (fun z21 => Q (some (.int (z21 - (1 : Int32)))) h20))))))))))))))))))))))) : q_Ct l (d + 1) mX10_mark [.ref x0] h mc ms Q QX := by
  refine q_body (by decide ) (by intro v hm; simp only [List.mem_cons, List.not_mem_nil, or_false] at hm; subst hm; rfl) (Nat.le_of_ble_eq_true rfl) ?_
  refine j_pad 0 rfl ?_
  refine j_aload_n dX10_mark_0 rfl rfl ?_
  refine j_iconst (v := (0 : Int32)) dX10_mark_1 (by decide) ?_
  obtain ⟨fs, e1, e2, hv⟩ := hv
  refine j_put (k := 0) (ty0 := tyX10) cl_X10 (pf_X10_0) w_f_X10_71 dX10_mark_2 (fun g ad => q_nI g ad _) e1 e2 ?_
  generalize q_set h x0 _ = h1 at hv ⊢
  refine j_aload_n dX10_mark_5 rfl rfl ?_
  obtain ⟨fs, z2, e1, e2, hv⟩ := hv
  refine j_getf (k := 15) cl_X10 (by decide) w_f_X10_269 dX10_mark_6 e1 e2 ?_
  refine j_bipush (v := (8 : Int32)) dX10_mark_9 (by decide) ?_
  refine j_icmp_ne (tgt := 20) dX10_mark_11 (by decide) (fun hc => ?_) (fun hc => ?_)
  · replace hv := hv.2 hc
    refine j_aload_n dX10_mark_20 rfl rfl ?_
    obtain ⟨fs, r3, e1, e2, hv⟩ := hv
    refine j_getf (k := 11) cl_X10 (by decide) w_f_X10_36 dX10_mark_21 e1 e2 ?_
    refine j_iconst (v := (0 : Int32)) dX10_mark_24 (by decide) ?_
    refine j_aload_n dX10_mark_25 rfl rfl ?_
    obtain ⟨fs, r4, e1, e2, hv⟩ := hv
    refine j_getf (k := 16) cl_X10 (by decide) w_f_X10_47 dX10_mark_26 e1 e2 ?_
    refine j_aload_n dX10_mark_29 rfl rfl ?_
    obtain ⟨fs, z5, e1, e2, hv⟩ := hv
    refine j_getf (k := 15) cl_X10 (by decide) w_f_X10_269 dX10_mark_30 e1 e2 ?_
    obtain ⟨N, f, r6, e1, e2, e3, hv⟩ := hv
    refine j_aaldA dX10_mark_33 e1 e2 e3 ?_
    refine j_iconst (v := (0 : Int32)) dX10_mark_34 (by decide) ?_
    refine j_sipush (v := (594 : Int32)) dX10_mark_35 (by decide) ?_
    obtain ⟨N0, N1, f0, f1, e1, e2, q1, q2, q3, q4, q5, hv⟩ := hv
    refine j_copy dX10_mark_38 w_m_X10_151 w_na_copy w_st_copy w_ini_System (Nat.le_of_ble_eq_true rfl) (by omega) e1 e2 q1 q2 q3 q4 q5 ?_
    generalize q_set h1 r6 _ = h7 at hv ⊢
    refine j_aload_n dX10_mark_41 rfl rfl ?_
    obtain ⟨fs, r8, e1, e2, hv⟩ := hv
    refine j_getf (k := 14) cl_X10 (by decide) w_f_X10_42 dX10_mark_42 e1 e2 ?_
    refine j_iconst (v := (0 : Int32)) dX10_mark_45 (by decide) ?_
    refine j_aload_n dX10_mark_46 rfl rfl ?_
    obtain ⟨fs, r9, e1, e2, hv⟩ := hv
    refine j_getf (k := 17) cl_X10 (by decide) w_f_X10_50 dX10_mark_47 e1 e2 ?_
    refine j_aload_n dX10_mark_50 rfl rfl ?_
    obtain ⟨fs, z10, e1, e2, hv⟩ := hv
    refine j_getf (k := 15) cl_X10 (by decide) w_f_X10_269 dX10_mark_51 e1 e2 ?_
    obtain ⟨N, f, r11, e1, e2, e3, hv⟩ := hv
    refine j_aaldA dX10_mark_54 e1 e2 e3 ?_
    refine j_iconst (v := (0 : Int32)) dX10_mark_55 (by decide) ?_
    refine j_aload_n dX10_mark_56 rfl rfl ?_
    obtain ⟨fs, r12, e1, e2, hv⟩ := hv
    refine j_getf (k := 14) cl_X10 (by decide) w_f_X10_42 dX10_mark_57 e1 e2 ?_
    obtain ⟨t9, x9, e1, e2, hv⟩ := hv
    generalize hz9 : Int32.ofNat x9.1 = z13 at hv
    refine j_alen (N := 0) dX10_mark_60 e1 e2 hz9 ?_
    obtain ⟨N0, N1, f0, f1, e1, e2, q1, q2, q3, q4, q5, hv⟩ := hv
    refine j_copy dX10_mark_61 w_m_X10_151 w_na_copy w_st_copy w_ini_System (Nat.le_of_ble_eq_true rfl) (by omega) e1 e2 q1 q2 q3 q4 q5 ?_
    generalize q_set h7 r11 _ = h14 at hv ⊢
    refine j_aload_n dX10_mark_64 rfl rfl ?_
    obtain ⟨fs, r15, e1, e2, hv⟩ := hv
    refine j_getf (k := 18) cl_X10 (by decide) w_f_X10_53 dX10_mark_65 e1 e2 ?_
    refine j_aload_n dX10_mark_68 rfl rfl ?_
    obtain ⟨fs, z16, e1, e2, hv⟩ := hv
    refine j_getf (k := 15) cl_X10 (by decide) w_f_X10_269 dX10_mark_69 e1 e2 ?_
    refine j_aload_n dX10_mark_72 rfl rfl ?_
    obtain ⟨fs, z17, e1, e2, hv⟩ := hv
    refine j_getf (k := 13) cl_X10 (by decide) w_f_X10_249 dX10_mark_73 e1 e2 ?_
    obtain ⟨N, f, e1, e2, hv⟩ := hv
    refine j_iast dX10_mark_76 e1 e2 ?_
    generalize q_set h14 r15 _ = h18 at hv ⊢
    refine j_aload_n dX10_mark_77 rfl rfl ?_
    refine j_dup dX10_mark_78 rfl ?_
    obtain ⟨fs, z19, e1, e2, hv⟩ := hv
    refine j_getf (k := 15) cl_X10 (by decide) w_f_X10_269 dX10_mark_79 e1 e2 ?_
    refine j_iconst (v := (1 : Int32)) dX10_mark_82 (by decide) ?_
    refine j_iadd dX10_mark_83 ?_
    obtain ⟨fs, e1, e2, hv⟩ := hv
    refine j_put (k := 15) (ty0 := tyX10) cl_X10 (pf_X10_15) w_f_X10_269 dX10_mark_84 (fun g ad => q_nI g ad _) e1 e2 ?_
    generalize q_set h18 x0 _ = h20 at hv ⊢
    refine j_aload_n dX10_mark_87 rfl rfl ?_
    obtain ⟨fs, z21, e1, e2, hv⟩ := hv
    refine j_getf (k := 15) cl_X10 (by decide) w_f_X10_269 dX10_mark_88 e1 e2 ?_
    refine j_iconst (v := (1 : Int32)) dX10_mark_91 (by decide) ?_
    refine j_isub dX10_mark_92 ?_
    exact j_iret dX10_mark_93 rfl hv
  · replace hv := hv.1 hc
    refine j_aload_n dX10_mark_14 rfl rfl ?_
    refine j_iconst (v := (1 : Int32)) dX10_mark_15 (by decide) ?_
    obtain ⟨⟨fs, e1⟩, hv⟩ := hv
    refine j_virtual (avs := [.int (1 : Int32)]) (rest := []) (i := x0) (kc' := mc) (ks' := ms) dX10_mark_16 mt_X10_fail w_m_X10_89 w_in_X10_fail w_se_X10_fail rfl rfl (Nat.le_of_ble_eq_true rfl) (Nat.le_refl _) (by omega) (by omega) cl_X10.1 e1 hv (fun _ _ q9 => q9) ?_
    rintro _ h22 ⟨z23, rfl, hv⟩ -
    exact j_iret dX10_mark_19 rfl hv
set_option maxRecDepth 20000 in
set_option maxHeartbeats 4000000 in
theorem v_X10_back {l : Launch} {d mc ms : Nat} {Q : Option Value → qH → Prop} {QX : String → qH → Prop} (x0 : Nat) (x1 : Int32) {h : qH} (hv : qPI h x0 10 0 (0 : Int32) (fun h1 => qGI h1 x0 10 15 (fun z2 => qCI l (d + 0) mX10_isIn [.int x1, .int (0 : Int32), .int (z2 - (1 : Int32))] h1 0 0 (fun z4 h3 => qIF (z4 = 0) (qOB h3 x0 10 (qCI l (d + 0) mX10_fail [.ref x0, .int (1 : Int32)] h3 0 0 (fun z28 h27 => Q (some (.int z28)) h27))) (qGR h3 x0 10 16 (fun r5 => qO4 h3 r5 x1 (fun r6 => qGR h3 x0 10 11 (fun r7 => qCP h3 r6 (0 : Int32) r7 (0 : Int32) (594 : Int32) (fun h8 => qGR h8 x0 10 17 (fun r9 => qO4 h8 r9 x1 (fun r10 => qGR h8 x0 10 14 (fun r11 => qGR h8 x0 10 14 (fun r12 => qLN h8 r12 (fun z13 => qCP h8 r10 (0 : Int32) r11 (0 : Int32) z13 (fun h14 => qGR h14 x0 10 18 (fun r15 => qAL h14 r15 x1 (fun z16 => qPI h14 x0 10 13 z16 (fun h17 => qPI h17 x0 10 15 (x1 + (1 : Int32)) (fun h18 => qGR h18 x0 10 11 (fun r19 => qGR h18 x0 10 11 (fun r20 => qAL h18 r20 (3 : Int32) (fun z21 => qGI h18 x0 10 9 (fun z22 => qAS h18 r19 (3 : Int32) (if z22 < z21 then z22 else z21) (fun h24 => qGR h24 x0 10 11 (fun r25 => qAL h24 r25 (0 : Int32) (fun z26 => Q (some (.int z26)) h24)))))))))))))))))))))))))) : q_Ct l (d + 1) mX10_back [.ref x0, .int x1] h mc ms Q QX := by
  refine q_body (by decide ) (by intro v hm; simp only [List.mem_cons, List.not_mem_nil, or_false] at hm; rcases hm with rfl | rfl <;> rfl) (Nat.le_of_ble_eq_true rfl) ?_
  refine j_pad 0 rfl ?_
  refine j_aload_n dX10_back_0 rfl rfl ?_
  refine j_iconst (v := (0 : Int32)) dX10_back_1 (by decide) ?_
  obtain ⟨fs, e1, e2, hv⟩ := hv
  refine j_put (k := 0) (ty0 := tyX10) cl_X10 (pf_X10_0) w_f_X10_71 dX10_back_2 (fun g ad => q_nI g ad _) e1 e2 ?_
  generalize q_set h x0 _ = h1 at hv ⊢
  refine j_iload_n dX10_back_5 rfl rfl ?_
  refine j_iconst (v := (0 : Int32)) dX10_back_6 (by decide) ?_
  refine j_aload_n dX10_back_7 rfl rfl ?_
  obtain ⟨fs, z2, e1, e2, hv⟩ := hv
  refine j_getf (k := 15) cl_X10 (by decide) w_f_X10_269 dX10_back_8 e1 e2 ?_
  refine j_iconst (v := (1 : Int32)) dX10_back_11 (by decide) ?_
  refine j_isub dX10_back_12 ?_
  refine j_static (avs := [.int x1, .int (0 : Int32), .int (z2 - (1 : Int32))]) (rest := []) (kc' := mc) (ks' := ms) dX10_back_13 mt_X10_isIn w_m_X10_74 w_st_X10_isIn rfl rfl (Nat.le_of_ble_eq_true rfl) (Nat.le_refl _) (by omega) (by omega) hv (fun _ _ q9 => q9) ?_
  rintro _ h3 ⟨z4, rfl, hv⟩ -
  refine j_if_ne (tgt := 25) dX10_back_16 (by decide) (fun hc => ?_) (fun hc => ?_)
  · replace hv := hv.2 hc
    refine j_aload_n dX10_back_25 rfl rfl ?_
    obtain ⟨fs, r5, e1, e2, hv⟩ := hv
    refine j_getf (k := 16) cl_X10 (by decide) w_f_X10_47 dX10_back_26 e1 e2 ?_
    refine j_iload_n dX10_back_29 rfl rfl ?_
    obtain ⟨N, f, r6, e1, e2, e3, hv⟩ := hv
    refine j_aaldA dX10_back_30 e1 e2 e3 ?_
    refine j_iconst (v := (0 : Int32)) dX10_back_31 (by decide) ?_
    refine j_aload_n dX10_back_32 rfl rfl ?_
    obtain ⟨fs, r7, e1, e2, hv⟩ := hv
    refine j_getf (k := 11) cl_X10 (by decide) w_f_X10_36 dX10_back_33 e1 e2 ?_
    refine j_iconst (v := (0 : Int32)) dX10_back_36 (by decide) ?_
    refine j_sipush (v := (594 : Int32)) dX10_back_37 (by decide) ?_
    obtain ⟨N0, N1, f0, f1, e1, e2, q1, q2, q3, q4, q5, hv⟩ := hv
    refine j_copy dX10_back_40 w_m_X10_151 w_na_copy w_st_copy w_ini_System (Nat.le_of_ble_eq_true rfl) (by omega) e1 e2 q1 q2 q3 q4 q5 ?_
    generalize q_set h3 r7 _ = h8 at hv ⊢
    refine j_aload_n dX10_back_43 rfl rfl ?_
    obtain ⟨fs, r9, e1, e2, hv⟩ := hv
    refine j_getf (k := 17) cl_X10 (by decide) w_f_X10_50 dX10_back_44 e1 e2 ?_
    refine j_iload_n dX10_back_47 rfl rfl ?_
    obtain ⟨N, f, r10, e1, e2, e3, hv⟩ := hv
    refine j_aaldA dX10_back_48 e1 e2 e3 ?_
    refine j_iconst (v := (0 : Int32)) dX10_back_49 (by decide) ?_
    refine j_aload_n dX10_back_50 rfl rfl ?_
    obtain ⟨fs, r11, e1, e2, hv⟩ := hv
    refine j_getf (k := 14) cl_X10 (by decide) w_f_X10_42 dX10_back_51 e1 e2 ?_
    refine j_iconst (v := (0 : Int32)) dX10_back_54 (by decide) ?_
    refine j_aload_n dX10_back_55 rfl rfl ?_
    obtain ⟨fs, r12, e1, e2, hv⟩ := hv
    refine j_getf (k := 14) cl_X10 (by decide) w_f_X10_42 dX10_back_56 e1 e2 ?_
    obtain ⟨t9, x9, e1, e2, hv⟩ := hv
    generalize hz9 : Int32.ofNat x9.1 = z13 at hv
    refine j_alen (N := 0) dX10_back_59 e1 e2 hz9 ?_
    obtain ⟨N0, N1, f0, f1, e1, e2, q1, q2, q3, q4, q5, hv⟩ := hv
    refine j_copy dX10_back_60 w_m_X10_151 w_na_copy w_st_copy w_ini_System (Nat.le_of_ble_eq_true rfl) (by omega) e1 e2 q1 q2 q3 q4 q5 ?_
    generalize q_set h8 r11 _ = h14 at hv ⊢
    refine j_aload_n dX10_back_63 rfl rfl ?_
    refine j_aload_n dX10_back_64 rfl rfl ?_
    obtain ⟨fs, r15, e1, e2, hv⟩ := hv
    refine j_getf (k := 18) cl_X10 (by decide) w_f_X10_53 dX10_back_65 e1 e2 ?_
    refine j_iload_n dX10_back_68 rfl rfl ?_
    obtain ⟨N, f, e1, e2, hv⟩ := hv
    refine j_iald dX10_back_69 e1 e2 ?_
    generalize f _ = z16 at hv ⊢
    obtain ⟨fs, e1, e2, hv⟩ := hv
    refine j_put (k := 13) (ty0 := tyX10) cl_X10 (pf_X10_13) w_f_X10_249 dX10_back_70 (fun g ad => q_nI g ad _) e1 e2 ?_
    generalize q_set h14 x0 _ = h17 at hv ⊢
    refine j_aload_n dX10_back_73 rfl rfl ?_
    refine j_iload_n dX10_back_74 rfl rfl ?_
    refine j_iconst (v := (1 : Int32)) dX10_back_75 (by decide) ?_
    refine j_iadd dX10_back_76 ?_
    obtain ⟨fs, e1, e2, hv⟩ := hv
    refine j_put (k := 15) (ty0 := tyX10) cl_X10 (pf_X10_15) w_f_X10_269 dX10_back_77 (fun g ad => q_nI g ad _) e1 e2 ?_
    generalize q_set h17 x0 _ = h18 at hv ⊢
    refine j_aload_n dX10_back_80 rfl rfl ?_
    obtain ⟨fs, r19, e1, e2, hv⟩ := hv
    refine j_getf (k := 11) cl_X10 (by decide) w_f_X10_36 dX10_back_81 e1 e2 ?_
    refine j_iconst (v := (3 : Int32)) dX10_back_84 (by decide) ?_
    refine j_aload_n dX10_back_85 rfl rfl ?_
    obtain ⟨fs, r20, e1, e2, hv⟩ := hv
    refine j_getf (k := 11) cl_X10 (by decide) w_f_X10_36 dX10_back_86 e1 e2 ?_
    refine j_iconst (v := (3 : Int32)) dX10_back_89 (by decide) ?_
    obtain ⟨N, f, e1, e2, hv⟩ := hv
    refine j_iald dX10_back_90 e1 e2 ?_
    generalize f _ = z21 at hv ⊢
    refine j_aload_n dX10_back_91 rfl rfl ?_
    obtain ⟨fs, z22, e1, e2, hv⟩ := hv
    refine j_getf (k := 9) cl_X10 (by decide) w_f_X10_30 dX10_back_92 e1 e2 ?_
    refine j_mmin dX10_back_95 w_m_X10_204 w_st_min w_ini_Math w_co_min (Nat.le_of_ble_eq_true rfl) (by omega) ?_
    obtain ⟨N, f, e1, e2, hv⟩ := hv
    refine j_iast dX10_back_98 e1 e2 ?_
    generalize q_set h18 r19 _ = h24 at hv ⊢
    refine j_aload_n dX10_back_99 rfl rfl ?_
    obtain ⟨fs, r25, e1, e2, hv⟩ := hv
    refine j_getf (k := 11) cl_X10 (by decide) w_f_X10_36 dX10_back_100 e1 e2 ?_
    refine j_iconst (v := (0 : Int32)) dX10_back_103 (by decide) ?_
    obtain ⟨N, f, e1, e2, hv⟩ := hv
    refine j_iald dX10_back_104 e1 e2 ?_
    generalize f _ = z26 at hv ⊢
    exact j_iret dX10_back_105 rfl hv
  · replace hv := hv.1 hc
    refine j_aload_n dX10_back_19 rfl rfl ?_
    refine j_iconst (v := (1 : Int32)) dX10_back_20 (by decide) ?_
    obtain ⟨⟨fs, e1⟩, hv⟩ := hv
    refine j_virtual (avs := [.int (1 : Int32)]) (rest := []) (i := x0) (kc' := mc) (ks' := ms) dX10_back_21 mt_X10_fail w_m_X10_89 w_in_X10_fail w_se_X10_fail rfl rfl (Nat.le_of_ble_eq_true rfl) (Nat.le_refl _) (by omega) (by omega) cl_X10.1 e1 hv (fun _ _ q9 => q9) ?_
    rintro _ h27 ⟨z28, rfl, hv⟩ -
    exact j_iret dX10_back_24 rfl hv
set_option maxRecDepth 20000 in
set_option maxHeartbeats 4000000 in
theorem v_X10_digest_158 {l : Launch} {d mc ms n0 kc ks : Nat} {Q : Option Value → qH → Prop} {QX : String → qH → Prop} (x0 : Nat) (x1 : Int64) (x3 : Int32) {h : qH} (hv : qIF ((4 : Int32) ≤ x3) (qOB h x0 10 (qCI l (d + 2) mX10_scoreOf [.ref x0] h 0 0 (fun z2 h1 => Q (some (.long ((x1 * (31 : Int64)) + (Int32.toInt64 z2)))) h1))) (qOB h x0 10 (qCI l (d + 2) mX10_counted [.ref x0, .int x3] h 0 0 (fun z4 h3 => q_J l (d + 3) mX10_digest mc ms Q QX n0 158 [some (.ref x0), some (.long ((x1 * (31 : Int64)) + (Int32.toInt64 z4))), none, some (.int (x3 + (1 : Int32))), none] [] h3 kc ks)))) : q_J l (d + 3) mX10_digest mc ms Q QX n0 158 [some (.ref x0), some (.long x1), none, some (.int x3), none] [] h kc ks := by
  refine j_iload_n dX10_digest_158 rfl rfl ?_
  refine j_iconst (v := (4 : Int32)) dX10_digest_159 (by decide) ?_
  refine j_icmp_ge (tgt := 182) dX10_digest_160 (by decide) (fun hc => ?_) (fun hc => ?_)
  · replace hv := hv.1 hc
    refine j_lload_n dX10_digest_182 rfl rfl ?_
    refine j_ldc2 (v := (31 : Int64)) dX10_digest_183 w_cL_X10_298 ?_
    refine j_lmul dX10_digest_186 ?_
    refine j_aload_n dX10_digest_187 rfl rfl ?_
    obtain ⟨⟨fs, e1⟩, hv⟩ := hv
    refine j_virtual (avs := []) (rest := [.long (x1 * (31 : Int64))]) (i := x0) (kc' := kc) (ks' := ks) dX10_digest_188 mt_X10_scoreOf w_m_X10_210 w_in_X10_scoreOf w_se_X10_scoreOf rfl rfl (Nat.le_of_ble_eq_true rfl) (Nat.le_refl _) (by omega) (by omega) cl_X10.1 e1 hv (fun _ _ q9 => q9) ?_
    rintro _ h1 ⟨z2, rfl, hv⟩ -
    refine j_i2l dX10_digest_191 ?_
    refine j_ladd dX10_digest_192 ?_
    exact j_lret dX10_digest_193 rfl hv
  · replace hv := hv.2 hc
    refine j_lload_n dX10_digest_163 rfl rfl ?_
    refine j_ldc2 (v := (31 : Int64)) dX10_digest_164 w_cL_X10_298 ?_
    refine j_lmul dX10_digest_167 ?_
    refine j_aload_n dX10_digest_168 rfl rfl ?_
    refine j_iload_n dX10_digest_169 rfl rfl ?_
    obtain ⟨⟨fs, e1⟩, hv⟩ := hv
    refine j_virtual (avs := [.int x3]) (rest := [.long (x1 * (31 : Int64))]) (i := x0) (kc' := kc) (ks' := ks) dX10_digest_170 mt_X10_counted w_m_X10_272 w_in_X10_counted w_se_X10_counted rfl rfl (Nat.le_of_ble_eq_true rfl) (Nat.le_refl _) (by omega) (by omega) cl_X10.1 e1 hv (fun _ _ q9 => q9) ?_
    rintro _ h3 ⟨z4, rfl, hv⟩ -
    refine j_i2l dX10_digest_173 ?_
    refine j_ladd dX10_digest_174 ?_
    refine j_lstore_n dX10_digest_175 rfl (by decide) rfl rfl ?_
    refine j_iinc (w := (x3 + (1 : Int32))) dX10_digest_176 rfl (by rfl) (by decide) rfl rfl ?_
    refine j_goto (tgt := 158) dX10_digest_179 (by decide) ?_
    exact hv
set_option maxRecDepth 20000 in
set_option maxHeartbeats 4000000 in
theorem v_X10_digest_126 {l : Launch} {d mc ms n0 kc ks : Nat} {Q : Option Value → qH → Prop} {QX : String → qH → Prop} (x0 : Nat) (x1 : Int64) (x3 : Int32) {h : qH} (hv : qGI h x0 10 13 (fun z1 => qIF (((3 : Int32) * z1) ≤ x3) (q_J l (d + 3) mX10_digest mc ms Q QX n0 158 [some (.ref x0), some (.long x1), none, some (.int (0 : Int32)), none] [] h kc ks) (qGR h x0 10 14 (fun r2 => qAL h r2 x3 (fun z3 => q_J l (d + 3) mX10_digest mc ms Q QX n0 126 [some (.ref x0), some (.long ((x1 * (31 : Int64)) + (Int32.toInt64 z3))), none, some (.int (x3 + (1 : Int32))), none] [] h kc ks))))) : q_J l (d + 3) mX10_digest mc ms Q QX n0 126 [some (.ref x0), some (.long x1), none, some (.int x3), none] [] h kc ks := by
  refine j_iload_n dX10_digest_126 rfl rfl ?_
  refine j_iconst (v := (3 : Int32)) dX10_digest_127 (by decide) ?_
  refine j_aload_n dX10_digest_128 rfl rfl ?_
  obtain ⟨fs, z1, e1, e2, hv⟩ := hv
  refine j_getf (k := 13) cl_X10 (by decide) w_f_X10_249 dX10_digest_129 e1 e2 ?_
  refine j_imul dX10_digest_132 ?_
  refine j_icmp_ge (tgt := 156) dX10_digest_133 (by decide) (fun hc => ?_) (fun hc => ?_)
  · replace hv := hv.1 hc
    refine j_iconst (v := (0 : Int32)) dX10_digest_156 (by decide) ?_
    refine j_istore_n dX10_digest_157 rfl (by decide) rfl rfl ?_
    exact hv
  · replace hv := hv.2 hc
    refine j_lload_n dX10_digest_136 rfl rfl ?_
    refine j_ldc2 (v := (31 : Int64)) dX10_digest_137 w_cL_X10_298 ?_
    refine j_lmul dX10_digest_140 ?_
    refine j_aload_n dX10_digest_141 rfl rfl ?_
    obtain ⟨fs, r2, e1, e2, hv⟩ := hv
    refine j_getf (k := 14) cl_X10 (by decide) w_f_X10_42 dX10_digest_142 e1 e2 ?_
    refine j_iload_n dX10_digest_145 rfl rfl ?_
    obtain ⟨N, f, e1, e2, hv⟩ := hv
    refine j_iald dX10_digest_146 e1 e2 ?_
    generalize f _ = z3 at hv ⊢
    refine j_i2l dX10_digest_147 ?_
    refine j_ladd dX10_digest_148 ?_
    refine j_lstore_n dX10_digest_149 rfl (by decide) rfl rfl ?_
    refine j_iinc (w := (x3 + (1 : Int32))) dX10_digest_150 rfl (by rfl) (by decide) rfl rfl ?_
    refine j_goto (tgt := 126) dX10_digest_153 (by decide) ?_
    exact hv
set_option maxRecDepth 20000 in
set_option maxHeartbeats 4000000 in
theorem v_X10_digest_90 {l : Launch} {d mc ms n0 kc ks : Nat} {Q : Option Value → qH → Prop} {QX : String → qH → Prop} (x0 : Nat) (x1 : Int64) (x3 : Int32) (x4 : Int32) {h : qH} (hv : qIF ((6 : Int32) ≤ x4) (q_J l (d + 3) mX10_digest mc ms Q QX n0 79 [some (.ref x0), some (.long x1), none, some (.int (x3 + (1 : Int32))), none] [] h kc ks) (qOB h x0 10 (qCI l (d + 2) mX10_targetTold [.ref x0, .int x3, .int x4] h 0 0 (fun z2 h1 => q_J l (d + 3) mX10_digest mc ms Q QX n0 90 [some (.ref x0), some (.long ((x1 * (31 : Int64)) + (Int32.toInt64 z2))), none, some (.int x3), some (.int (x4 + (1 : Int32)))] [] h1 kc ks)))) : q_J l (d + 3) mX10_digest mc ms Q QX n0 90 [some (.ref x0), some (.long x1), none, some (.int x3), some (.int x4)] [] h kc ks := by
  refine j_iload dX10_digest_90 rfl ?_
  refine j_bipush (v := (6 : Int32)) dX10_digest_92 (by decide) ?_
  refine j_icmp_ge (tgt := 118) dX10_digest_94 (by decide) (fun hc => ?_) (fun hc => ?_)
  · replace hv := hv.1 hc
    refine j_iinc (w := (x3 + (1 : Int32))) dX10_digest_118 rfl (by rfl) (by decide) rfl rfl ?_
    refine j_goto (tgt := 79) dX10_digest_121 (by decide) ?_
    refine j_mask [true, true, true, true, false] rfl ?_
    exact hv
  · replace hv := hv.2 hc
    refine j_lload_n dX10_digest_97 rfl rfl ?_
    refine j_ldc2 (v := (31 : Int64)) dX10_digest_98 w_cL_X10_298 ?_
    refine j_lmul dX10_digest_101 ?_
    refine j_aload_n dX10_digest_102 rfl rfl ?_
    refine j_iload_n dX10_digest_103 rfl rfl ?_
    refine j_iload dX10_digest_104 rfl ?_
    obtain ⟨⟨fs, e1⟩, hv⟩ := hv
    refine j_virtual (avs := [.int x3, .int x4]) (rest := [.long (x1 * (31 : Int64))]) (i := x0) (kc' := kc) (ks' := ks) dX10_digest_106 mt_X10_targetTold w_m_X10_182 w_in_X10_targetTold w_se_X10_targetTold rfl rfl (Nat.le_of_ble_eq_true rfl) (Nat.le_refl _) (by omega) (by omega) cl_X10.1 e1 hv (fun _ _ q9 => q9) ?_
    rintro _ h1 ⟨z2, rfl, hv⟩ -
    refine j_i2l dX10_digest_109 ?_
    refine j_ladd dX10_digest_110 ?_
    refine j_lstore_n dX10_digest_111 rfl (by decide) rfl rfl ?_
    refine j_iinc (w := (x4 + (1 : Int32))) dX10_digest_112 rfl (by rfl) (by decide) rfl rfl ?_
    refine j_goto (tgt := 90) dX10_digest_115 (by decide) ?_
    exact hv
set_option maxRecDepth 20000 in
set_option maxHeartbeats 4000000 in
theorem v_X10_digest_79 {l : Launch} {d mc ms n0 kc ks : Nat} {Q : Option Value → qH → Prop} {QX : String → qH → Prop} (x0 : Nat) (x1 : Int64) (x3 : Int32) {h : qH} (hv : qGI h x0 10 5 (fun z1 => qIF (z1 ≤ x3) (q_J l (d + 3) mX10_digest mc ms Q QX n0 126 [some (.ref x0), some (.long x1), none, some (.int (0 : Int32)), none] [] h kc ks) (q_J l (d + 3) mX10_digest mc ms Q QX n0 90 [some (.ref x0), some (.long x1), none, some (.int x3), some (.int (0 : Int32))] [] h kc ks))) : q_J l (d + 3) mX10_digest mc ms Q QX n0 79 [some (.ref x0), some (.long x1), none, some (.int x3), none] [] h kc ks := by
  refine j_iload_n dX10_digest_79 rfl rfl ?_
  refine j_aload_n dX10_digest_80 rfl rfl ?_
  obtain ⟨fs, z1, e1, e2, hv⟩ := hv
  refine j_getf (k := 5) cl_X10 (by decide) w_f_X10_78 dX10_digest_81 e1 e2 ?_
  refine j_icmp_ge (tgt := 124) dX10_digest_84 (by decide) (fun hc => ?_) (fun hc => ?_)
  · replace hv := hv.1 hc
    refine j_iconst (v := (0 : Int32)) dX10_digest_124 (by decide) ?_
    refine j_istore_n dX10_digest_125 rfl (by decide) rfl rfl ?_
    exact hv
  · replace hv := hv.2 hc
    refine j_iconst (v := (0 : Int32)) dX10_digest_87 (by decide) ?_
    refine j_istore dX10_digest_88 (by decide) rfl rfl ?_
    exact hv
set_option maxRecDepth 20000 in
set_option maxHeartbeats 4000000 in
theorem v_X10_digest_41 {l : Launch} {d mc ms n0 kc ks : Nat} {Q : Option Value → qH → Prop} {QX : String → qH → Prop} (x0 : Nat) (x1 : Int64) (x3 : Int32) {h : qH} (hv : qGR h x0 10 11 (fun r1 => qAL h r1 (9 : Int32) (fun z2 => qIF (((4 : Int32) * z2) ≤ x3) (q_J l (d + 3) mX10_digest mc ms Q QX n0 79 [some (.ref x0), some (.long x1), none, some (.int (0 : Int32)), none] [] h kc ks) (qGR h x0 10 11 (fun r3 => qAL h r3 ((34 : Int32) + x3) (fun z4 => q_J l (d + 3) mX10_digest mc ms Q QX n0 41 [some (.ref x0), some (.long ((x1 * (31 : Int64)) + (Int32.toInt64 z4))), none, some (.int (x3 + (1 : Int32))), none] [] h kc ks)))))) : q_J l (d + 3) mX10_digest mc ms Q QX n0 41 [some (.ref x0), some (.long x1), none, some (.int x3), none] [] h kc ks := by
  refine j_iload_n dX10_digest_41 rfl rfl ?_
  refine j_iconst (v := (4 : Int32)) dX10_digest_42 (by decide) ?_
  refine j_aload_n dX10_digest_43 rfl rfl ?_
  obtain ⟨fs, r1, e1, e2, hv⟩ := hv
  refine j_getf (k := 11) cl_X10 (by decide) w_f_X10_36 dX10_digest_44 e1 e2 ?_
  refine j_bipush (v := (9 : Int32)) dX10_digest_47 (by decide) ?_
  obtain ⟨N, f, e1, e2, hv⟩ := hv
  refine j_iald dX10_digest_49 e1 e2 ?_
  generalize f _ = z2 at hv ⊢
  refine j_imul dX10_digest_50 ?_
  refine j_icmp_ge (tgt := 77) dX10_digest_51 (by decide) (fun hc => ?_) (fun hc => ?_)
  · replace hv := hv.1 hc
    refine j_iconst (v := (0 : Int32)) dX10_digest_77 (by decide) ?_
    refine j_istore_n dX10_digest_78 rfl (by decide) rfl rfl ?_
    exact hv
  · replace hv := hv.2 hc
    refine j_lload_n dX10_digest_54 rfl rfl ?_
    refine j_ldc2 (v := (31 : Int64)) dX10_digest_55 w_cL_X10_298 ?_
    refine j_lmul dX10_digest_58 ?_
    refine j_aload_n dX10_digest_59 rfl rfl ?_
    obtain ⟨fs, r3, e1, e2, hv⟩ := hv
    refine j_getf (k := 11) cl_X10 (by decide) w_f_X10_36 dX10_digest_60 e1 e2 ?_
    refine j_bipush (v := (34 : Int32)) dX10_digest_63 (by decide) ?_
    refine j_iload_n dX10_digest_65 rfl rfl ?_
    refine j_iadd dX10_digest_66 ?_
    obtain ⟨N, f, e1, e2, hv⟩ := hv
    refine j_iald dX10_digest_67 e1 e2 ?_
    generalize f _ = z4 at hv ⊢
    refine j_i2l dX10_digest_68 ?_
    refine j_ladd dX10_digest_69 ?_
    refine j_lstore_n dX10_digest_70 rfl (by decide) rfl rfl ?_
    refine j_iinc (w := (x3 + (1 : Int32))) dX10_digest_71 rfl (by rfl) (by decide) rfl rfl ?_
    refine j_goto (tgt := 41) dX10_digest_74 (by decide) ?_
    exact hv
set_option maxRecDepth 20000 in
set_option maxHeartbeats 4000000 in
theorem v_X10_digest_11 {l : Launch} {d mc ms n0 kc ks : Nat} {Q : Option Value → qH → Prop} {QX : String → qH → Prop} (x0 : Nat) (x1 : Int64) (x3 : Int32) {h : qH} (hv : qIF ((10 : Int32) ≤ x3) (q_J l (d + 3) mX10_digest mc ms Q QX n0 41 [some (.ref x0), some (.long x1), none, some (.int (0 : Int32)), none] [] h kc ks) (qGR h x0 10 11 (fun r1 => qCI l (d + 2) mX10_roverTold [.ref r1, .int x3] h 0 0 (fun z3 h2 => q_J l (d + 3) mX10_digest mc ms Q QX n0 11 [some (.ref x0), some (.long ((x1 * (31 : Int64)) + (Int32.toInt64 z3))), none, some (.int (x3 + (1 : Int32))), none] [] h2 kc ks)))) : q_J l (d + 3) mX10_digest mc ms Q QX n0 11 [some (.ref x0), some (.long x1), none, some (.int x3), none] [] h kc ks := by
  refine j_iload_n dX10_digest_11 rfl rfl ?_
  refine j_bipush (v := (10 : Int32)) dX10_digest_12 (by decide) ?_
  refine j_icmp_ge (tgt := 39) dX10_digest_14 (by decide) (fun hc => ?_) (fun hc => ?_)
  · replace hv := hv.1 hc
    refine j_iconst (v := (0 : Int32)) dX10_digest_39 (by decide) ?_
    refine j_istore_n dX10_digest_40 rfl (by decide) rfl rfl ?_
    exact hv
  · replace hv := hv.2 hc
    refine j_lload_n dX10_digest_17 rfl rfl ?_
    refine j_ldc2 (v := (31 : Int64)) dX10_digest_18 w_cL_X10_298 ?_
    refine j_lmul dX10_digest_21 ?_
    refine j_aload_n dX10_digest_22 rfl rfl ?_
    obtain ⟨fs, r1, e1, e2, hv⟩ := hv
    refine j_getf (k := 11) cl_X10 (by decide) w_f_X10_36 dX10_digest_23 e1 e2 ?_
    refine j_iload_n dX10_digest_26 rfl rfl ?_
    refine j_static (avs := [.ref r1, .int x3]) (rest := [.long (x1 * (31 : Int64))]) (kc' := kc) (ks' := ks) dX10_digest_27 mt_X10_roverTold w_m_X10_207 w_st_X10_roverTold rfl rfl (Nat.le_of_ble_eq_true rfl) (Nat.le_refl _) (by omega) (by omega) hv (fun _ _ q9 => q9) ?_
    rintro _ h2 ⟨z3, rfl, hv⟩ -
    refine j_i2l dX10_digest_30 ?_
    refine j_ladd dX10_digest_31 ?_
    refine j_lstore_n dX10_digest_32 rfl (by decide) rfl rfl ?_
    refine j_iinc (w := (x3 + (1 : Int32))) dX10_digest_33 rfl (by rfl) (by decide) rfl rfl ?_
    refine j_goto (tgt := 11) dX10_digest_36 (by decide) ?_
    exact hv
set_option maxRecDepth 20000 in
set_option maxHeartbeats 4000000 in
theorem v_X10_digest {l : Launch} {d mc ms : Nat} {Q : Option Value → qH → Prop} {QX : String → qH → Prop} (x0 : Nat) {h : qH} (hv : qPI h x0 10 0 (0 : Int32) (fun h1 => q_J l (d + 3) mX10_digest mc ms Q QX h.2 11 [some (.ref x0), some (.long (337 : Int64)), none, some (.int (0 : Int32)), none] [] h1 mc ms)) : q_Ct l (d + 3) mX10_digest [.ref x0] h mc ms Q QX := by
  refine q_body (by decide ) (by intro v hm; simp only [List.mem_cons, List.not_mem_nil, or_false] at hm; subst hm; rfl) (Nat.le_of_ble_eq_true rfl) ?_
  refine j_pad 4 rfl ?_
  refine j_aload_n dX10_digest_0 rfl rfl ?_
  refine j_iconst (v := (0 : Int32)) dX10_digest_1 (by decide) ?_
  obtain ⟨fs, e1, e2, hv⟩ := hv
  refine j_put (k := 0) (ty0 := tyX10) cl_X10 (pf_X10_0) w_f_X10_71 dX10_digest_2 (fun g ad => q_nI g ad _) e1 e2 ?_
  generalize q_set h x0 _ = h1 at hv ⊢
  refine j_ldc2 (v := (337 : Int64)) dX10_digest_5 w_cL_X10_296 ?_
  refine j_lstore_n dX10_digest_8 rfl (by decide) rfl rfl ?_
  refine j_iconst (v := (0 : Int32)) dX10_digest_9 (by decide) ?_
  refine j_istore_n dX10_digest_10 rfl (by decide) rfl rfl ?_
  exact hv
