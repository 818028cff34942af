set_option maxRecDepth 20000 in
set_option maxHeartbeats 4000000 in
theorem v_L_law_447 {l : Launch} {d mc ms n0 kc ks : Nat} {Q : Option Value → qH → Prop} {QX : String → qH → Prop} (hkc : 201 ≤ kc) (hks : 1206 ≤ ks) (x1 : Nat) (x2 : Nat) (x3 : Int32) (x4 : Int32) (x5 : Nat) (x6 : Int32) (x7 : Int32) (x8 : Int32) (x9 : Int32) (x10 : Int32) {h : qH} (hv : qOB h x1 9 (qCI l (d + 8) mX9_run [.ref x1, .int (2 : Int32)] h 1 6 (fun z2 h1 => qIF (z2 = (2 : Int32)) (qOB h1 x2 10 (qCI l (d + 8) mX10_isSame [.ref x2, .ref x1] h1 200 1200 (fun z4 h3 => qIF (z4 = 0) (Q (some (.int (0 : Int32))) h3) (q_J l (d + 9) mL_law mc ms Q QX n0 147 [some (.float 4), some (.ref x1), some (.ref x2), some (.int x3), some (.int x4), some (.ref x5), some (.int (x6 + (2 : Int32))), none, none, none, none, none, none] [] h3 (kc - 201) (ks - 1206))))) (Q (some (.int (0 : Int32))) h1)))) : q_J l (d + 9) mL_law mc ms Q QX n0 447 [some (.float 4), some (.ref x1), some (.ref x2), some (.int x3), some (.int x4), some (.ref x5), some (.int x6), some (.int x7), some (.int x8), some (.int x9), some (.int x10), none, none] [] h kc ks := by
  refine j_aload_n dL_law_447 rfl rfl ?_
  refine j_iconst (v := (2 : Int32)) dL_law_448 (by decide) ?_
  obtain ⟨⟨fs, e1⟩, hv⟩ := hv
  refine j_virtual (avs := [.int (2 : Int32)]) (rest := []) (i := x1) (kc' := (kc - 1)) (ks' := (ks - 6)) dL_law_449 mt_X9_run w_m_L_133 w_in_X9_run w_se_X9_run rfl rfl (Nat.le_of_ble_eq_true rfl) (Nat.le_refl _) (by omega) (by omega) cl_X9.1 e1 hv (fun _ _ q9 => q9) ?_
  rintro _ h1 ⟨z2, rfl, hv⟩ -
  refine j_iconst (v := (2 : Int32)) dL_law_452 (by decide) ?_
  refine j_icmp_ne (tgt := 464) dL_law_453 (by decide) (fun hc => ?_) (fun hc => ?_)
  · replace hv := hv.2 hc
    refine j_iconst (v := (0 : Int32)) dL_law_464 (by decide) ?_
    exact j_zret dL_law_465 rfl (by decide) hv
  · replace hv := hv.1 hc
    refine j_aload_n dL_law_456 rfl rfl ?_
    refine j_aload_n dL_law_457 rfl rfl ?_
    obtain ⟨⟨fs, e1⟩, hv⟩ := hv
    refine j_virtual (avs := [.ref x1]) (rest := []) (i := x2) (kc' := (kc - 201)) (ks' := (ks - 1206)) dL_law_458 mt_X10_isSame w_m_L_136 w_in_X10_isSame w_se_X10_isSame rfl rfl (Nat.le_of_ble_eq_true rfl) (Nat.le_refl _) (by omega) (by omega) cl_X10.1 e1 hv (fun _ _ q9 => q9) ?_
    rintro _ h3 ⟨z4, rfl, hv⟩ -
    refine j_if_ne (tgt := 466) dL_law_461 (by decide) (fun hc => ?_) (fun hc => ?_)
    · replace hv := hv.2 hc
      refine j_iinc (w := (x6 + (2 : Int32))) dL_law_466 rfl (by rfl) (by decide) rfl rfl ?_
      refine j_goto (tgt := 147) dL_law_469 (by decide) ?_
      refine j_mask [true, true, true, true, true, true, true, false, false, false, false, true, true] rfl ?_
      exact hv
    · replace hv := hv.1 hc
      refine j_iconst (v := (0 : Int32)) dL_law_464 (by decide) ?_
      exact j_zret dL_law_465 rfl (by decide) hv
set_option maxRecDepth 20000 in
set_option maxHeartbeats 4000000 in
theorem v_L_law_404 {l : Launch} {d mc ms n0 kc ks : Nat} {Q : Option Value → qH → Prop} {QX : String → qH → Prop} (hkc : 2 ≤ kc) (hks : 620 ≤ ks) (x1 : Nat) (x2 : Nat) (x3 : Int32) (x4 : Int32) (x5 : Nat) (x6 : Int32) (x7 : Int32) (x8 : Int32) (x9 : Int32) (x10 : Int32) (y0 : Nat) (y1 : Int32) {h : qH} (hv : qOB h y0 10 (qCI l (d + 8) mX10_act [.ref y0, .int y1, .int x7, .int (5 : Int32)] h 2 620 (fun z2 h1 => qIF (z2 = 0) (qGR h1 x2 10 0 (fun r3 => qAL h1 r3 (0 : Int32) (fun z4 => qIF (z4 ≤ x3) (qIF ((4 : Int32) ≤ x8) (q_J l (d + 9) mL_law mc ms Q QX n0 447 [some (.float 4), some (.ref x1), some (.ref x2), some (.int x3), some (.int x4), some (.ref x5), some (.int x6), some (.int x7), some (.int x8), some (.int x9), some (.int x10), none, none] [] h1 (kc - 2) (ks - 620)) (qOB h1 x2 10 (qCI l (d + 8) mX10_images [.ref x2, .int x7] h1 0 0 (fun z6 h5 => qCI l (d + 8) mJ6_bitCount_0f7a4 [.int z6] h5 0 0 (fun z8 h7 => qIF (z8 = (x10 + (1 : Int32))) (q_J l (d + 9) mL_law mc ms Q QX n0 447 [some (.float 4), some (.ref x1), some (.ref x2), some (.int x3), some (.int x4), some (.ref x5), some (.int x6), some (.int x7), some (.int x8), some (.int x9), some (.int x10), none, none] [] h7 (kc - 2) (ks - 620)) (Q (some (.int (0 : Int32))) h7)))))) (Q (some (.int (0 : Int32))) h1)))) (Q (some (.int (0 : Int32))) h1)))) : q_J l (d + 9) mL_law mc ms Q QX n0 404 [some (.float 4), some (.ref x1), some (.ref x2), some (.int x3), some (.int x4), some (.ref x5), some (.int x6), some (.int x7), some (.int x8), some (.int x9), some (.int x10), none, none] [.int y1, .ref y0] h kc ks := by
  refine j_iload dL_law_404 rfl ?_
  refine j_iconst (v := (5 : Int32)) dL_law_406 (by decide) ?_
  obtain ⟨⟨fs, e1⟩, hv⟩ := hv
  refine j_virtual (avs := [.int y1, .int x7, .int (5 : Int32)]) (rest := []) (i := y0) (kc' := (kc - 2)) (ks' := (ks - 620)) dL_law_407 mt_X10_act w_m_L_130 w_in_X10_act w_se_X10_act rfl rfl (Nat.le_of_ble_eq_true rfl) (Nat.le_refl _) (by omega) (by omega) cl_X10.1 e1 hv (fun _ _ q9 => q9) ?_
  rintro _ h1 ⟨z2, rfl, hv⟩ -
  refine j_if_ne (tgt := 423) dL_law_410 (by decide) (fun hc => ?_) (fun hc => ?_)
  · replace hv := hv.2 hc
    refine j_iconst (v := (0 : Int32)) dL_law_423 (by decide) ?_
    exact j_zret dL_law_424 rfl (by decide) hv
  · replace hv := hv.1 hc
    refine j_aload_n dL_law_413 rfl rfl ?_
    obtain ⟨fs, r3, e1, e2, hv⟩ := hv
    refine j_getf (k := 0) cl_X10 (by decide) w_f_L_80 dL_law_414 e1 e2 ?_
    refine j_iconst (v := (0 : Int32)) dL_law_417 (by decide) ?_
    obtain ⟨N, f, e1, e2, hv⟩ := hv
    refine j_iald dL_law_418 e1 e2 ?_
    generalize f _ = z4 at hv ⊢
    refine j_iload_n dL_law_419 rfl rfl ?_
    refine j_icmp_le (tgt := 425) dL_law_420 (by decide) (fun hc => ?_) (fun hc => ?_)
    · replace hv := hv.1 hc
      refine j_iload dL_law_425 rfl ?_
      refine j_iconst (v := (4 : Int32)) dL_law_427 (by decide) ?_
      refine j_icmp_ge (tgt := 447) dL_law_428 (by decide) (fun hc => ?_) (fun hc => ?_)
      · replace hv := hv.1 hc
        exact hv
      · replace hv := hv.2 hc
        refine j_aload_n dL_law_431 rfl rfl ?_
        refine j_iload dL_law_432 rfl ?_
        obtain ⟨⟨fs, e1⟩, hv⟩ := hv
        refine j_virtual (avs := [.int x7]) (rest := []) (i := x2) (kc' := (kc - 2)) (ks' := (ks - 620)) dL_law_434 mt_X10_images w_m_L_122 w_in_X10_images w_se_X10_images rfl rfl (Nat.le_of_ble_eq_true rfl) (Nat.le_refl _) (by omega) (by omega) cl_X10.1 e1 hv (fun _ _ q9 => q9) ?_
        rintro _ h5 ⟨z6, rfl, hv⟩ -
        refine j_static (avs := [.int z6]) (rest := []) (kc' := (kc - 2)) (ks' := (ks - 620)) dL_law_437 mt_J6_bitCount_0f7a4 w_m_L_125 w_st_J6_bitCount_0f7a4 rfl rfl (Nat.le_of_ble_eq_true rfl) (Nat.le_refl _) (by omega) (by omega) hv (fun _ _ q9 => q9) ?_
        rintro _ h7 ⟨z8, rfl, hv⟩ -
        refine j_iload dL_law_440 rfl ?_
        refine j_iconst (v := (1 : Int32)) dL_law_442 (by decide) ?_
        refine j_iadd dL_law_443 ?_
        refine j_icmp_ne (tgt := 464) dL_law_444 (by decide) (fun hc => ?_) (fun hc => ?_)
        · replace hv := hv.2 hc
          refine j_iconst (v := (0 : Int32)) dL_law_464 (by decide) ?_
          exact j_zret dL_law_465 rfl (by decide) hv
        · replace hv := hv.1 hc
          exact hv
    · replace hv := hv.2 hc
      refine j_iconst (v := (0 : Int32)) dL_law_423 (by decide) ?_
      exact j_zret dL_law_424 rfl (by decide) hv
set_option maxRecDepth 20000 in
set_option maxHeartbeats 4000000 in
theorem v_L_law_359 {l : Launch} {d mc ms n0 kc ks : Nat} {Q : Option Value → qH → Prop} {QX : String → qH → Prop} (hkc : 2 ≤ kc) (hks : 620 ≤ ks) (x1 : Nat) (x2 : Nat) (x3 : Int32) (x4 : Int32) (x5 : Nat) (x6 : Int32) (x7 : Int32) (x8 : Int32) (x9 : Int32) (x10 : Int32) {h : qH} (hv : qOB h x2 10 (qCI l (d + 8) mX10_images [.ref x2, .int x7] h 0 0 (fun z2 h1 => qCI l (d + 8) mJ6_bitCount_0f7a4 [.int z2] h1 0 0 (fun z4 h3 => qO4 h3 x5 x6 (fun r5 => qAL h3 r5 (1 : Int32) (fun z6 => qO4 h3 x5 x6 (fun r7 => qAL h3 r7 (2 : Int32) (fun z8 => qOB h3 x2 10 (qCI l (d + 8) mX10_act [.ref x2, .int (0 : Int32), .int z6, .int z8] h3 2 620 (fun z10 h9 => qIF (z10 = 0) (qIF (x8 = (4 : Int32)) (q_J l (d + 9) mL_law mc ms Q QX n0 404 [some (.float 4), some (.ref x1), some (.ref x2), some (.int x3), some (.int x4), some (.ref x5), some (.int x6), some (.int x7), some (.int x8), some (.int x9), some (.int z4), none, none] [.int (2 : Int32), .ref x2] h9 (kc - 2) (ks - 620)) (q_J l (d + 9) mL_law mc ms Q QX n0 404 [some (.float 4), some (.ref x1), some (.ref x2), some (.int x3), some (.int x4), some (.ref x5), some (.int x6), some (.int x7), some (.int x8), some (.int x9), some (.int z4), none, none] [.int (1 : Int32), .ref x2] h9 (kc - 2) (ks - 620))) (Q (some (.int (0 : Int32))) h9))))))))))) : q_J l (d + 9) mL_law mc ms Q QX n0 359 [some (.float 4), some (.ref x1), some (.ref x2), some (.int x3), some (.int x4), some (.ref x5), some (.int x6), some (.int x7), some (.int x8), some (.int x9), some (.int x10), none, none] [] h kc ks := by
  refine j_aload_n dL_law_359 rfl rfl ?_
  refine j_iload dL_law_360 rfl ?_
  obtain ⟨⟨fs, e1⟩, hv⟩ := hv
  refine j_virtual (avs := [.int x7]) (rest := []) (i := x2) (kc' := kc) (ks' := ks) dL_law_362 mt_X10_images w_m_L_122 w_in_X10_images w_se_X10_images rfl rfl (Nat.le_of_ble_eq_true rfl) (Nat.le_refl _) (by omega) (by omega) cl_X10.1 e1 hv (fun _ _ q9 => q9) ?_
  rintro _ h1 ⟨z2, rfl, hv⟩ -
  refine j_static (avs := [.int z2]) (rest := []) (kc' := kc) (ks' := ks) dL_law_365 mt_J6_bitCount_0f7a4 w_m_L_125 w_st_J6_bitCount_0f7a4 rfl rfl (Nat.le_of_ble_eq_true rfl) (Nat.le_refl _) (by omega) (by omega) hv (fun _ _ q9 => q9) ?_
  rintro _ h3 ⟨z4, rfl, hv⟩ -
  refine j_istore dL_law_368 (by decide) rfl rfl ?_
  refine j_aload_n dL_law_370 rfl rfl ?_
  refine j_iconst (v := (0 : Int32)) dL_law_371 (by decide) ?_
  refine j_aload dL_law_372 rfl ?_
  refine j_iload dL_law_374 rfl ?_
  obtain ⟨N, f, r5, e1, e2, e3, hv⟩ := hv
  refine j_aaldA dL_law_376 e1 e2 e3 ?_
  refine j_iconst (v := (1 : Int32)) dL_law_377 (by decide) ?_
  obtain ⟨N, f, e1, e2, hv⟩ := hv
  refine j_iald dL_law_378 e1 e2 ?_
  generalize f _ = z6 at hv ⊢
  refine j_aload dL_law_379 rfl ?_
  refine j_iload dL_law_381 rfl ?_
  obtain ⟨N, f, r7, e1, e2, e3, hv⟩ := hv
  refine j_aaldA dL_law_383 e1 e2 e3 ?_
  refine j_iconst (v := (2 : Int32)) dL_law_384 (by decide) ?_
  obtain ⟨N, f, e1, e2, hv⟩ := hv
  refine j_iald dL_law_385 e1 e2 ?_
  generalize f _ = z8 at hv ⊢
  obtain ⟨⟨fs, e1⟩, hv⟩ := hv
  refine j_virtual (avs := [.int (0 : Int32), .int z6, .int z8]) (rest := []) (i := x2) (kc' := (kc - 2)) (ks' := (ks - 620)) dL_law_386 mt_X10_act w_m_L_130 w_in_X10_act w_se_X10_act rfl rfl (Nat.le_of_ble_eq_true rfl) (Nat.le_refl _) (by omega) (by omega) cl_X10.1 e1 hv (fun _ _ q9 => q9) ?_
  rintro _ h9 ⟨z10, rfl, hv⟩ -
  refine j_if_ne (tgt := 423) dL_law_389 (by decide) (fun hc => ?_) (fun hc => ?_)
  · replace hv := hv.2 hc
    refine j_iconst (v := (0 : Int32)) dL_law_423 (by decide) ?_
    exact j_zret dL_law_424 rfl (by decide) hv
  · replace hv := hv.1 hc
    refine j_aload_n dL_law_392 rfl rfl ?_
    refine j_iload dL_law_393 rfl ?_
    refine j_iconst (v := (4 : Int32)) dL_law_395 (by decide) ?_
    refine j_icmp_ne (tgt := 403) dL_law_396 (by decide) (fun hc => ?_) (fun hc => ?_)
    · replace hv := hv.2 hc
      refine j_iconst (v := (1 : Int32)) dL_law_403 (by decide) ?_
      exact hv
    · replace hv := hv.1 hc
      refine j_iconst (v := (2 : Int32)) dL_law_399 (by decide) ?_
      refine j_goto (tgt := 404) dL_law_400 (by decide) ?_
      exact hv
set_option maxRecDepth 20000 in
set_option maxHeartbeats 4000000 in
theorem v_L_law_324 {l : Launch} {d mc ms n0 kc ks : Nat} {Q : Option Value → qH → Prop} {QX : String → qH → Prop} (x1 : Nat) (x2 : Nat) (x3 : Int32) (x4 : Int32) (x5 : Nat) (x6 : Int32) (x7 : Int32) (x8 : Int32) (x9 : Int32) (x10 : Int32) (x11 : Int32) (x12 : Int32) {h : qH} (hv : qIF (x4 ≤ x12) (q_J l (d + 9) mL_law mc ms Q QX n0 270 [some (.float 4), some (.ref x1), some (.ref x2), some (.int x3), some (.int x4), some (.ref x5), some (.int x6), some (.int x7), some (.int x8), some (.int x9), some (.int (x10 + (1 : Int32))), none, none] [] h kc ks) (qO4 h x5 (x12 + (1 : Int32)) (fun r1 => qAL h r1 (1 : Int32) (fun z2 => qIF (z2 = x10) (Q (some (.int (0 : Int32))) h) (q_J l (d + 9) mL_law mc ms Q QX n0 324 [some (.float 4), some (.ref x1), some (.ref x2), some (.int x3), some (.int x4), some (.ref x5), some (.int x6), some (.int x7), some (.int x8), some (.int x9), some (.int x10), some (.int x11), some (.int (x12 + (2 : Int32)))] [] h kc ks))))) : q_J l (d + 9) mL_law mc ms Q QX n0 324 [some (.float 4), some (.ref x1), some (.ref x2), some (.int x3), some (.int x4), some (.ref x5), some (.int x6), some (.int x7), some (.int x8), some (.int x9), some (.int x10), some (.int x11), some (.int x12)] [] h kc ks := by
  refine j_iload dL_law_324 rfl ?_
  refine j_iload dL_law_326 rfl ?_
  refine j_icmp_ge (tgt := 353) dL_law_328 (by decide) (fun hc => ?_) (fun hc => ?_)
  · replace hv := hv.1 hc
    refine j_iinc (w := (x10 + (1 : Int32))) dL_law_353 rfl (by rfl) (by decide) rfl rfl ?_
    refine j_goto (tgt := 270) dL_law_356 (by decide) ?_
    refine j_mask [true, true, true, true, true, true, true, true, true, true, true, false, false] rfl ?_
    exact hv
  · replace hv := hv.2 hc
    refine j_aload dL_law_331 rfl ?_
    refine j_iload dL_law_333 rfl ?_
    refine j_iconst (v := (1 : Int32)) dL_law_335 (by decide) ?_
    refine j_iadd dL_law_336 ?_
    obtain ⟨N, f, r1, e1, e2, e3, hv⟩ := hv
    refine j_aaldA dL_law_337 e1 e2 e3 ?_
    refine j_iconst (v := (1 : Int32)) dL_law_338 (by decide) ?_
    obtain ⟨N, f, e1, e2, hv⟩ := hv
    refine j_iald dL_law_339 e1 e2 ?_
    generalize f _ = z2 at hv ⊢
    refine j_iload dL_law_340 rfl ?_
    refine j_icmp_ne (tgt := 347) dL_law_342 (by decide) (fun hc => ?_) (fun hc => ?_)
    · replace hv := hv.2 hc
      refine j_iinc (w := (x12 + (2 : Int32))) dL_law_347 rfl (by rfl) (by decide) rfl rfl ?_
      refine j_goto (tgt := 324) dL_law_350 (by decide) ?_
      exact hv
    · replace hv := hv.1 hc
      refine j_iconst (v := (0 : Int32)) dL_law_345 (by decide) ?_
      exact j_zret dL_law_346 rfl (by decide) hv
set_option maxRecDepth 20000 in
set_option maxHeartbeats 4000000 in
theorem v_L_law_270 {l : Launch} {d mc ms n0 kc ks : Nat} {Q : Option Value → qH → Prop} {QX : String → qH → Prop} (hkc : 2 ≤ kc) (hks : 12 ≤ ks) (x1 : Nat) (x2 : Nat) (x3 : Int32) (x4 : Int32) (x5 : Nat) (x6 : Int32) (x7 : Int32) (x8 : Int32) (x9 : Int32) (x10 : Int32) {h : qH} (hv : qIF ((12 : Int32) ≤ x10) (q_J l (d + 9) mL_law mc ms Q QX n0 359 [some (.float 4), some (.ref x1), some (.ref x2), some (.int x3), some (.int x4), some (.ref x5), some (.int x6), some (.int x7), some (.int x8), some (.int x9), some (.int x10), none, none] [] h kc ks) (qGR h x2 10 8 (fun r1 => qO4n h r1 x10 (fun r2 => qCI l (d + 8) mL_worth [.ref x1, .ref x2, .int x10] h 2 12 (fun z4 h3 => qIF (z4 < x9) (q_J l (d + 9) mL_law mc ms Q QX n0 270 [some (.float 4), some (.ref x1), some (.ref x2), some (.int x3), some (.int x4), some (.ref x5), some (.int x6), some (.int x7), some (.int x8), some (.int x9), some (.int (x10 + (1 : Int32))), none, none] [] h3 (kc - 2) (ks - 12)) (qIF (z4 = x9) (qIF (x10 < x7) (q_J l (d + 9) mL_law mc ms Q QX n0 324 [some (.float 4), some (.ref x1), some (.ref x2), some (.int x3), some (.int x4), some (.ref x5), some (.int x6), some (.int x7), some (.int x8), some (.int x9), some (.int x10), some (.int z4), some (.int x6)] [] h3 (kc - 2) (ks - 12)) (q_J l (d + 9) mL_law mc ms Q QX n0 270 [some (.float 4), some (.ref x1), some (.ref x2), some (.int x3), some (.int x4), some (.ref x5), some (.int x6), some (.int x7), some (.int x8), some (.int x9), some (.int (x10 + (1 : Int32))), none, none] [] h3 (kc - 2) (ks - 12))) (q_J l (d + 9) mL_law mc ms Q QX n0 324 [some (.float 4), some (.ref x1), some (.ref x2), some (.int x3), some (.int x4), some (.ref x5), some (.int x6), some (.int x7), some (.int x8), some (.int x9), some (.int x10), some (.int z4), some (.int x6)] [] h3 (kc - 2) (ks - 12))))) (q_J l (d + 9) mL_law mc ms Q QX n0 359 [some (.float 4), some (.ref x1), some (.ref x2), some (.int x3), some (.int x4), some (.ref x5), some (.int x6), some (.int x7), some (.int x8), some (.int x9), some (.int x10), none, none] [] h kc ks)))) : q_J l (d + 9) mL_law mc ms Q QX n0 270 [some (.float 4), some (.ref x1), some (.ref x2), some (.int x3), some (.int x4), some (.ref x5), some (.int x6), some (.int x7), some (.int x8), some (.int x9), some (.int x10), none, none] [] h kc ks := by
  refine j_iload dL_law_270 rfl ?_
  refine j_bipush (v := (12 : Int32)) dL_law_272 (by decide) ?_
  refine j_icmp_ge (tgt := 359) dL_law_274 (by decide) (fun hc => ?_) (fun hc => ?_)
  · replace hv := hv.1 hc
    exact hv
  · replace hv := hv.2 hc
    refine j_aload_n dL_law_277 rfl rfl ?_
    obtain ⟨fs, r1, e1, e2, hv⟩ := hv
    refine j_getf (k := 8) cl_X10 (by decide) w_f_L_65 dL_law_278 e1 e2 ?_
    refine j_iload dL_law_281 rfl ?_
    obtain ⟨N, f, e1, e2, hA, hB⟩ := hv
    rcases hf : f (Int32.toNatClampNeg x10) with _ | r2
    · replace hv := hB hf
      refine j_aald4 (v := .null) dL_law_283 e1 e2 (by rw [hf]) ?_
      refine j_ifnullN (tgt := 359) dL_law_284 (by decide) ?_
      exact hv
    · replace hv := hA _ hf
      refine j_aald4 (v := .ref r2) dL_law_283 e1 e2 (by rw [hf]) ?_
      refine j_ifnull dL_law_284 ?_
      refine j_aload_n dL_law_287 rfl rfl ?_
      refine j_aload_n dL_law_288 rfl rfl ?_
      refine j_iload dL_law_289 rfl ?_
      refine j_static (avs := [.ref x1, .ref x2, .int x10]) (rest := []) (kc' := (kc - 2)) (ks' := (ks - 12)) dL_law_291 mt_L_worth w_m_L_115 w_st_L_worth rfl rfl (Nat.le_of_ble_eq_true rfl) (Nat.le_refl _) (by omega) (by omega) hv (fun _ _ q9 => q9) ?_
      rintro _ h3 ⟨z4, rfl, hv⟩ -
      refine j_istore dL_law_294 (by decide) rfl rfl ?_
      refine j_iload dL_law_296 rfl ?_
      refine j_iload dL_law_298 rfl ?_
      refine j_icmp_lt (tgt := 353) dL_law_300 (by decide) (fun hc => ?_) (fun hc => ?_)
      · replace hv := hv.1 hc
        refine j_iinc (w := (x10 + (1 : Int32))) dL_law_353 rfl (by rfl) (by decide) rfl rfl ?_
        refine j_goto (tgt := 270) dL_law_356 (by decide) ?_
        refine j_mask [true, true, true, true, true, true, true, true, true, true, true, false, true] rfl ?_
        exact hv
      · replace hv := hv.2 hc
        refine j_iload dL_law_303 rfl ?_
        refine j_iload dL_law_305 rfl ?_
        refine j_icmp_ne (tgt := 320) dL_law_307 (by decide) (fun hc => ?_) (fun hc => ?_)
        · replace hv := hv.2 hc
          refine j_iload dL_law_320 rfl ?_
          refine j_istore dL_law_322 (by decide) rfl rfl ?_
          exact hv
        · replace hv := hv.1 hc
          refine j_iload dL_law_310 rfl ?_
          refine j_iload dL_law_312 rfl ?_
          refine j_icmp_lt (tgt := 320) dL_law_314 (by decide) (fun hc => ?_) (fun hc => ?_)
          · replace hv := hv.1 hc
            refine j_iload dL_law_320 rfl ?_
            refine j_istore dL_law_322 (by decide) rfl rfl ?_
            exact hv
          · replace hv := hv.2 hc
            refine j_goto (tgt := 353) dL_law_317 (by decide) ?_
            refine j_iinc (w := (x10 + (1 : Int32))) dL_law_353 rfl (by rfl) (by decide) rfl rfl ?_
            refine j_goto (tgt := 270) dL_law_356 (by decide) ?_
            refine j_mask [true, true, true, true, true, true, true, true, true, true, true, false, true] rfl ?_
            exact hv
set_option maxRecDepth 20000 in
set_option maxHeartbeats 4000000 in
theorem v_L_law_206 {l : Launch} {d mc ms n0 kc ks : Nat} {Q : Option Value → qH → Prop} {QX : String → qH → Prop} (hkc : 3 ≤ kc) (hks : 18 ≤ ks) (x1 : Nat) (x2 : Nat) (x3 : Int32) (x4 : Int32) (x5 : Nat) (x6 : Int32) (x7 : Int32) (x8 : Int32) (y0 : Int32) (y1 : Int32) {h : qH} (hv : qIF (y0 = y1) (qO4 h x5 (x6 + (1 : Int32)) (fun r1 => qAL h r1 (2 : Int32) (fun z2 => qIF (z2 = (5 : Int32)) (qCI l (d + 8) mL_worth [.ref x1, .ref x2, .int x7] h 2 12 (fun z4 h3 => qIF (z4 < 0) (Q (some (.int (0 : Int32))) h3) (qOB h3 x1 9 (qCI l (d + 8) mX9_nearest [.ref x1, .int x7] h3 1 6 (fun z6 h5 => qO4 h5 x5 x6 (fun r7 => qAL h5 r7 (1 : Int32) (fun z8 => qO4 h5 x5 x6 (fun r9 => qAL h5 r9 (2 : Int32) (fun z10 => qIF (z6 = (((100 : Int32) * z8) + z10)) (q_J l (d + 9) mL_law mc ms Q QX n0 270 [some (.float 4), some (.ref x1), some (.ref x2), some (.int x3), some (.int x4), some (.ref x5), some (.int x6), some (.int x7), some (.int x8), some (.int z4), some (.int (0 : Int32)), none, none] [] h5 (kc - 3) (ks - 18)) (Q (some (.int (0 : Int32))) h5)))))))))) (Q (some (.int (0 : Int32))) h)))) (Q (some (.int (0 : Int32))) h)) : q_J l (d + 9) mL_law mc ms Q QX n0 206 [some (.float 4), some (.ref x1), some (.ref x2), some (.int x3), some (.int x4), some (.ref x5), some (.int x6), some (.int x7), some (.int x8), none, none, none, none] [.int y1, .int y0] h kc ks := by
  refine j_icmp_ne (tgt := 222) dL_law_206 (by decide) (fun hc => ?_) (fun hc => ?_)
  · replace hv := hv.2 hc
    refine j_iconst (v := (0 : Int32)) dL_law_222 (by decide) ?_
    exact j_zret dL_law_223 rfl (by decide) hv
  · replace hv := hv.1 hc
    refine j_aload dL_law_209 rfl ?_
    refine j_iload dL_law_211 rfl ?_
    refine j_iconst (v := (1 : Int32)) dL_law_213 (by decide) ?_
    refine j_iadd dL_law_214 ?_
    obtain ⟨N, f, r1, e1, e2, e3, hv⟩ := hv
    refine j_aaldA dL_law_215 e1 e2 e3 ?_
    refine j_iconst (v := (2 : Int32)) dL_law_216 (by decide) ?_
    obtain ⟨N, f, e1, e2, hv⟩ := hv
    refine j_iald dL_law_217 e1 e2 ?_
    generalize f _ = z2 at hv ⊢
    refine j_iconst (v := (5 : Int32)) dL_law_218 (by decide) ?_
    refine j_icmp_eq (tgt := 224) dL_law_219 (by decide) (fun hc => ?_) (fun hc => ?_)
    · replace hv := hv.1 hc
      refine j_aload_n dL_law_224 rfl rfl ?_
      refine j_aload_n dL_law_225 rfl rfl ?_
      refine j_iload dL_law_226 rfl ?_
      refine j_static (avs := [.ref x1, .ref x2, .int x7]) (rest := []) (kc' := (kc - 2)) (ks' := (ks - 12)) dL_law_228 mt_L_worth w_m_L_115 w_st_L_worth rfl rfl (Nat.le_of_ble_eq_true rfl) (Nat.le_refl _) (by omega) (by omega) hv (fun _ _ q9 => q9) ?_
      rintro _ h3 ⟨z4, rfl, hv⟩ -
      refine j_istore dL_law_231 (by decide) rfl rfl ?_
      refine j_iload dL_law_233 rfl ?_
      refine j_if_lt (tgt := 265) dL_law_235 (by decide) (fun hc => ?_) (fun hc => ?_)
      · replace hv := hv.1 hc
        refine j_iconst (v := (0 : Int32)) dL_law_265 (by decide) ?_
        exact j_zret dL_law_266 rfl (by decide) hv
      · replace hv := hv.2 hc
        refine j_aload_n dL_law_238 rfl rfl ?_
        refine j_iload dL_law_239 rfl ?_
        obtain ⟨⟨fs, e1⟩, hv⟩ := hv
        refine j_virtual (avs := [.int x7]) (rest := []) (i := x1) (kc' := (kc - 3)) (ks' := (ks - 18)) dL_law_241 mt_X9_nearest w_m_L_119 w_in_X9_nearest w_se_X9_nearest rfl rfl (Nat.le_of_ble_eq_true rfl) (Nat.le_refl _) (by omega) (by omega) cl_X9.1 e1 hv (fun _ _ q9 => q9) ?_
        rintro _ h5 ⟨z6, rfl, hv⟩ -
        refine j_bipush (v := (100 : Int32)) dL_law_244 (by decide) ?_
        refine j_aload dL_law_246 rfl ?_
        refine j_iload dL_law_248 rfl ?_
        obtain ⟨N, f, r7, e1, e2, e3, hv⟩ := hv
        refine j_aaldA dL_law_250 e1 e2 e3 ?_
        refine j_iconst (v := (1 : Int32)) dL_law_251 (by decide) ?_
        obtain ⟨N, f, e1, e2, hv⟩ := hv
        refine j_iald dL_law_252 e1 e2 ?_
        generalize f _ = z8 at hv ⊢
        refine j_imul dL_law_253 ?_
        refine j_aload dL_law_254 rfl ?_
        refine j_iload dL_law_256 rfl ?_
        obtain ⟨N, f, r9, e1, e2, e3, hv⟩ := hv
        refine j_aaldA dL_law_258 e1 e2 e3 ?_
        refine j_iconst (v := (2 : Int32)) dL_law_259 (by decide) ?_
        obtain ⟨N, f, e1, e2, hv⟩ := hv
        refine j_iald dL_law_260 e1 e2 ?_
        generalize f _ = z10 at hv ⊢
        refine j_iadd dL_law_261 ?_
        refine j_icmp_eq (tgt := 267) dL_law_262 (by decide) (fun hc => ?_) (fun hc => ?_)
        · replace hv := hv.1 hc
          refine j_iconst (v := (0 : Int32)) dL_law_267 (by decide) ?_
          refine j_istore dL_law_268 (by decide) rfl rfl ?_
          exact hv
        · replace hv := hv.2 hc
          refine j_iconst (v := (0 : Int32)) dL_law_265 (by decide) ?_
          exact j_zret dL_law_266 rfl (by decide) hv
    · replace hv := hv.2 hc
      refine j_iconst (v := (0 : Int32)) dL_law_222 (by decide) ?_
      exact j_zret dL_law_223 rfl (by decide) hv
set_option maxRecDepth 20000 in
set_option maxHeartbeats 4000000 in
theorem v_L_law_147 {l : Launch} {d mc ms n0 kc ks : Nat} {Q : Option Value → qH → Prop} {QX : String → qH → Prop} (hkc : 1 ≤ kc) (hks : 6 ≤ ks) (x1 : Nat) (x2 : Nat) (x3 : Int32) (x4 : Int32) (x5 : Nat) (x6 : Int32) {h : qH} (hv : qIF (x4 ≤ x6) (qOB h x1 9 (qCI l (d + 8) mX9_count [.ref x1, .int (2 : Int32)] h 1 6 (fun z2 h1 => qIF (z2 = 0) (Q (some (.int (1 : Int32))) h1) (Q (some (.int (0 : Int32))) h1)))) (qO4 h x5 (x6 + (1 : Int32)) (fun r3 => qAL h r3 (1 : Int32) (fun z4 => qGR h x2 10 8 (fun r5 => qO4 h r5 z4 (fun r6 => qAL h r6 (3 : Int32) (fun z7 => qO4 h x5 x6 (fun r8 => qAL h r8 (0 : Int32) (fun z9 => qIF (z9 = 0) (qO4 h x5 (x6 + (1 : Int32)) (fun r10 => qAL h r10 (0 : Int32) (fun z11 => qIF (z7 = (4 : Int32)) (q_J l (d + 9) mL_law mc ms Q QX n0 206 [some (.float 4), some (.ref x1), some (.ref x2), some (.int x3), some (.int x4), some (.ref x5), some (.int x6), some (.int z4), some (.int z7), none, none, none, none] [.int (2 : Int32), .int z11] h kc ks) (q_J l (d + 9) mL_law mc ms Q QX n0 206 [some (.float 4), some (.ref x1), some (.ref x2), some (.int x3), some (.int x4), some (.ref x5), some (.int x6), some (.int z4), some (.int z7), none, none, none, none] [.int (1 : Int32), .int z11] h kc ks)))) (Q (some (.int (0 : Int32))) h)))))))))) : q_J l (d + 9) mL_law mc ms Q QX n0 147 [some (.float 4), some (.ref x1), some (.ref x2), some (.int x3), some (.int x4), some (.ref x5), some (.int x6), none, none, none, none, none, none] [] h kc ks := by
  refine j_iload dL_law_147 rfl ?_
  refine j_iload dL_law_149 rfl ?_
  refine j_icmp_ge (tgt := 472) dL_law_151 (by decide) (fun hc => ?_) (fun hc => ?_)
  · replace hv := hv.1 hc
    refine j_aload_n dL_law_472 rfl rfl ?_
    refine j_iconst (v := (2 : Int32)) dL_law_473 (by decide) ?_
    obtain ⟨⟨fs, e1⟩, hv⟩ := hv
    refine j_virtual (avs := [.int (2 : Int32)]) (rest := []) (i := x1) (kc' := (kc - 1)) (ks' := (ks - 6)) dL_law_474 mt_X9_count w_m_L_98 w_in_X9_count w_se_X9_count rfl rfl (Nat.le_of_ble_eq_true rfl) (Nat.le_refl _) (by omega) (by omega) cl_X9.1 e1 hv (fun _ _ q9 => q9) ?_
    rintro _ h1 ⟨z2, rfl, hv⟩ -
    refine j_if_ne (tgt := 484) dL_law_477 (by decide) (fun hc => ?_) (fun hc => ?_)
    · replace hv := hv.2 hc
      refine j_iconst (v := (0 : Int32)) dL_law_484 (by decide) ?_
      exact j_zret dL_law_485 rfl (by decide) hv
    · replace hv := hv.1 hc
      refine j_iconst (v := (1 : Int32)) dL_law_480 (by decide) ?_
      refine j_goto (tgt := 485) dL_law_481 (by decide) ?_
      exact j_zret dL_law_485 rfl (by decide) hv
  · replace hv := hv.2 hc
    refine j_aload dL_law_154 rfl ?_
    refine j_iload dL_law_156 rfl ?_
    refine j_iconst (v := (1 : Int32)) dL_law_158 (by decide) ?_
    refine j_iadd dL_law_159 ?_
    obtain ⟨N, f, r3, e1, e2, e3, hv⟩ := hv
    refine j_aaldA dL_law_160 e1 e2 e3 ?_
    refine j_iconst (v := (1 : Int32)) dL_law_161 (by decide) ?_
    obtain ⟨N, f, e1, e2, hv⟩ := hv
    refine j_iald dL_law_162 e1 e2 ?_
    generalize f _ = z4 at hv ⊢
    refine j_istore dL_law_163 (by decide) rfl rfl ?_
    refine j_aload_n dL_law_165 rfl rfl ?_
    obtain ⟨fs, r5, e1, e2, hv⟩ := hv
    refine j_getf (k := 8) cl_X10 (by decide) w_f_L_65 dL_law_166 e1 e2 ?_
    refine j_iload dL_law_169 rfl ?_
    obtain ⟨N, f, r6, e1, e2, e3, hv⟩ := hv
    refine j_aaldA dL_law_171 e1 e2 e3 ?_
    refine j_iconst (v := (3 : Int32)) dL_law_172 (by decide) ?_
    obtain ⟨N, f, e1, e2, hv⟩ := hv
    refine j_iald dL_law_173 e1 e2 ?_
    generalize f _ = z7 at hv ⊢
    refine j_istore dL_law_174 (by decide) rfl rfl ?_
    refine j_aload dL_law_176 rfl ?_
    refine j_iload dL_law_178 rfl ?_
    obtain ⟨N, f, r8, e1, e2, e3, hv⟩ := hv
    refine j_aaldA dL_law_180 e1 e2 e3 ?_
    refine j_iconst (v := (0 : Int32)) dL_law_181 (by decide) ?_
    obtain ⟨N, f, e1, e2, hv⟩ := hv
    refine j_iald dL_law_182 e1 e2 ?_
    generalize f _ = z9 at hv ⊢
    refine j_if_ne (tgt := 222) dL_law_183 (by decide) (fun hc => ?_) (fun hc => ?_)
    · replace hv := hv.2 hc
      refine j_iconst (v := (0 : Int32)) dL_law_222 (by decide) ?_
      exact j_zret dL_law_223 rfl (by decide) hv
    · replace hv := hv.1 hc
      refine j_aload dL_law_186 rfl ?_
      refine j_iload dL_law_188 rfl ?_
      refine j_iconst (v := (1 : Int32)) dL_law_190 (by decide) ?_
      refine j_iadd dL_law_191 ?_
      obtain ⟨N, f, r10, e1, e2, e3, hv⟩ := hv
      refine j_aaldA dL_law_192 e1 e2 e3 ?_
      refine j_iconst (v := (0 : Int32)) dL_law_193 (by decide) ?_
      obtain ⟨N, f, e1, e2, hv⟩ := hv
      refine j_iald dL_law_194 e1 e2 ?_
      generalize f _ = z11 at hv ⊢
      refine j_iload dL_law_195 rfl ?_
      refine j_iconst (v := (4 : Int32)) dL_law_197 (by decide) ?_
      refine j_icmp_ne (tgt := 205) dL_law_198 (by decide) (fun hc => ?_) (fun hc => ?_)
      · replace hv := hv.2 hc
        refine j_iconst (v := (1 : Int32)) dL_law_205 (by decide) ?_
        exact hv
      · replace hv := hv.1 hc
        refine j_iconst (v := (2 : Int32)) dL_law_201 (by decide) ?_
        refine j_goto (tgt := 206) dL_law_202 (by decide) ?_
        exact hv
set_option maxRecDepth 20000 in
set_option maxHeartbeats 4000000 in
theorem v_L_law_110 {l : Launch} {d mc ms n0 kc ks : Nat} {Q : Option Value → qH → Prop} {QX : String → qH → Prop} (hkc : 1 ≤ kc) (hks : 6 ≤ ks) (x1 : Nat) (x2 : Nat) (x3 : Int32) (x4 : Int32) (x5 : Nat) (x6 : Int32) (x7 : Int32) {h : qH} (hv : qIF ((3 : Int32) ≤ x7) (q_J l (d + 9) mL_law mc ms Q QX n0 100 [some (.float 4), some (.ref x1), some (.ref x2), some (.int x3), some (.int x4), some (.ref x5), some (.int (x6 + (1 : Int32))), none, none, none, none, none, none] [] h kc ks) (qO4 h x5 x6 (fun r1 => qOB h x1 9 (qCI l (d + 8) mX9_activity [.ref x1, .int x6, .int x7] h 1 6 (fun z3 h2 => qAS h2 r1 x7 z3 (fun h4 => q_J l (d + 9) mL_law mc ms Q QX n0 110 [some (.float 4), some (.ref x1), some (.ref x2), some (.int x3), some (.int x4), some (.ref x5), some (.int x6), some (.int (x7 + (1 : Int32))), none, none, none, none, none] [] h4 (kc - 1) (ks - 6))))))) : q_J l (d + 9) mL_law mc ms Q QX n0 110 [some (.float 4), some (.ref x1), some (.ref x2), some (.int x3), some (.int x4), some (.ref x5), some (.int x6), some (.int x7), none, none, none, none, none] [] h kc ks := by
  refine j_iload dL_law_110 rfl ?_
  refine j_iconst (v := (3 : Int32)) dL_law_112 (by decide) ?_
  refine j_icmp_ge (tgt := 138) dL_law_113 (by decide) (fun hc => ?_) (fun hc => ?_)
  · replace hv := hv.1 hc
    refine j_iinc (w := (x6 + (1 : Int32))) dL_law_138 rfl (by rfl) (by decide) rfl rfl ?_
    refine j_goto (tgt := 100) dL_law_141 (by decide) ?_
    refine j_mask [true, true, true, true, true, true, true, false, true, true, true, true, true] rfl ?_
    exact hv
  · replace hv := hv.2 hc
    refine j_aload dL_law_116 rfl ?_
    refine j_iload dL_law_118 rfl ?_
    obtain ⟨N, f, r1, e1, e2, e3, hv⟩ := hv
    refine j_aaldA dL_law_120 e1 e2 e3 ?_
    refine j_iload dL_law_121 rfl ?_
    refine j_aload_n dL_law_123 rfl rfl ?_
    refine j_iload dL_law_124 rfl ?_
    refine j_iload dL_law_126 rfl ?_
    obtain ⟨⟨fs, e1⟩, hv⟩ := hv
    refine j_virtual (avs := [.int x6, .int x7]) (rest := [.int x7, .ref r1]) (i := x1) (kc' := (kc - 1)) (ks' := (ks - 6)) dL_law_128 mt_X9_activity w_m_L_112 w_in_X9_activity w_se_X9_activity rfl rfl (Nat.le_of_ble_eq_true rfl) (Nat.le_refl _) (by omega) (by omega) cl_X9.1 e1 hv (fun _ _ q9 => q9) ?_
    rintro _ h2 ⟨z3, rfl, hv⟩ -
    obtain ⟨N, f, e1, e2, hv⟩ := hv
    refine j_iast dL_law_131 e1 e2 ?_
    generalize q_set h2 r1 _ = h4 at hv ⊢
    refine j_iinc (w := (x7 + (1 : Int32))) dL_law_132 rfl (by rfl) (by decide) rfl rfl ?_
    refine j_goto (tgt := 110) dL_law_135 (by decide) ?_
    exact hv
set_option maxRecDepth 20000 in
set_option maxHeartbeats 4000000 in
theorem v_L_law_100 {l : Launch} {d mc ms n0 kc ks : Nat} {Q : Option Value → qH → Prop} {QX : String → qH → Prop} (x1 : Nat) (x2 : Nat) (x3 : Int32) (x4 : Int32) (x5 : Nat) (x6 : Int32) {h : qH} (hv : qIF (x4 ≤ x6) (q_J l (d + 9) mL_law mc ms Q QX n0 147 [some (.float 4), some (.ref x1), some (.ref x2), some (.int x3), some (.int x4), some (.ref x5), some (.int (0 : Int32)), none, none, none, none, none, none] [] h kc ks) (q_J l (d + 9) mL_law mc ms Q QX n0 110 [some (.float 4), some (.ref x1), some (.ref x2), some (.int x3), some (.int x4), some (.ref x5), some (.int x6), some (.int (0 : Int32)), none, none, none, none, none] [] h kc ks)) : q_J l (d + 9) mL_law mc ms Q QX n0 100 [some (.float 4), some (.ref x1), some (.ref x2), some (.int x3), some (.int x4), some (.ref x5), some (.int x6), none, none, none, none, none, none] [] h kc ks := by
  refine j_iload dL_law_100 rfl ?_
  refine j_iload dL_law_102 rfl ?_
  refine j_icmp_ge (tgt := 144) dL_law_104 (by decide) (fun hc => ?_) (fun hc => ?_)
  · replace hv := hv.1 hc
    refine j_iconst (v := (0 : Int32)) dL_law_144 (by decide) ?_
    refine j_istore dL_law_145 (by decide) rfl rfl ?_
    exact hv
  · replace hv := hv.2 hc
    refine j_iconst (v := (0 : Int32)) dL_law_107 (by decide) ?_
    refine j_istore dL_law_108 (by decide) rfl rfl ?_
    exact hv
set_option maxRecDepth 20000 in
set_option maxHeartbeats 4000000 in
theorem v_L_law_0 {l : Launch} {d mc ms n0 kc ks : Nat} {Q : Option Value → qH → Prop} {QX : String → qH → Prop} (hkc : 155 ≤ kc) (hks : 15154 ≤ ks)  {h : qH} (hv : qNW h 9 dfX9 (fun r1 h2 => qCV l (d + 8) mX9_init [.ref r1] h2 48 9953 (fun h3 => qCR l (d + 8) mL_build [.ref r1, .float 4] h3 60 5000 (fun z5 h4 => qCI l (d + 8) mL_cell [.float 4, .int (14 : Int32)] h4 0 0 (fun z7 h6 => qCI l (d + 8) mL_below [.int z7, .int (600 : Int32)] h6 0 0 (fun z9 h8 => qOB h8 r1 9 (qCI l (d + 8) mX9_make [.ref r1, .int ((1 : Int32) + z9)] h8 1 6 (fun z11 h10 => qIF ((z11 - z11 / (2 : Int32) * (2 : Int32)) = 0) (qOB h10 r1 9 (qCI l (d + 8) mX9_count [.ref r1, .int (2 : Int32)] h10 1 6 (fun z13 h12 => qIF (z11 = z13) (qOB h12 r1 9 (qCI l (d + 8) mX9_check [.ref r1] h12 1 6 (fun z15 h14 => qIF (z15 = (-1 : Int32)) (qOB h14 r1 9 (qCI l (d + 8) mX9_foretell [.ref r1, .int z11, .int (0 : Int32)] h14 1 6 (fun z17 h16 => qIF (((1 : Int32) + z9) < z17) (Q (some (.int (0 : Int32))) h16) (qOB h16 r1 9 (qCI l (d + 8) mX9_rover [.ref r1, .int (0 : Int32)] h16 1 6 (fun z19 h18 => qIF (z19 = 0) (qMN h18 z11 3 40 (fun r20 h21 => q_J l (d + 9) mL_law mc ms Q QX n0 100 [some (.float 4), some (.ref r1), some (.ref z5), some (.int ((1 : Int32) + z9)), some (.int z11), some (.ref r20), some (.int (0 : Int32)), none, none, none, none, none, none] [] h21 (kc - 155) (ks - 15154))) (Q (some (.int (0 : Int32))) h18))))))) (Q (some (.int (0 : Int32))) h14)))) (Q (some (.int (0 : Int32))) h12)))) (Q (some (.int (0 : Int32))) h10))))))))) : q_J l (d + 9) mL_law mc ms Q QX n0 0 [some (.float 4), none, none, none, none, none, none, none, none, none, none, none, none] [] h kc ks := by
  refine jj_new (fs := dfX9) cl_X9 tyX9_ok w_cl_L_28 w_iq_X9 w_in9_X9 dL_law_0 nfX9 (q_pl_wf rfl) (kc' := (kc - 1)) (ks' := (ks - 11)) (by omega) (by omega) hv (fun r1 h2 hv => ?_)
  refine j_dup dL_law_3 rfl ?_
  refine j_special (avs := []) (rest := [.ref r1]) (i := r1) (kc' := (kc - 49)) (ks' := (ks - 9964)) dL_law_4 mt_X9_init rfl rfl w_m_L_90 w_in_X9_init rfl rfl (Nat.le_of_ble_eq_true rfl) (Nat.le_refl _) (by omega) (by omega) hv (fun _ _ q9 => q9) ?_
  rintro _ h3 ⟨rfl, hv⟩ -
  refine j_astore_n dL_law_7 rfl (by decide) rfl rfl ?_
  refine j_aload_n dL_law_8 rfl rfl ?_
  refine j_aload_nF dL_law_9 rfl rfl ?_
  refine j_static (avs := [.ref r1, .float 4]) (rest := []) (kc' := (kc - 109)) (ks' := (ks - 14964)) dL_law_10 mt_L_build w_m_L_91 w_st_L_build rfl rfl (Nat.le_of_ble_eq_true rfl) (Nat.le_refl _) (by omega) (by omega) hv (fun _ _ q9 => q9) ?_
  rintro _ h4 ⟨z5, rfl, hv⟩ -
  refine j_astore_n dL_law_13 rfl (by decide) rfl rfl ?_
  refine j_aload_n dL_law_14 rfl rfl ?_
  refine j_ifnonnull (tgt := 20) dL_law_15 (by decide) ?_
  refine j_iconst (v := (1 : Int32)) dL_law_20 (by decide) ?_
  refine j_aload_nF dL_law_21 rfl rfl ?_
  refine j_bipush (v := (14 : Int32)) dL_law_22 (by decide) ?_
  refine j_static (avs := [.float 4, .int (14 : Int32)]) (rest := [.int (1 : Int32)]) (kc' := (kc - 109)) (ks' := (ks - 14964)) dL_law_24 mt_L_cell w_m_L_9 w_st_L_cell rfl rfl (Nat.le_of_ble_eq_true rfl) (Nat.le_refl _) (by omega) (by omega) hv (fun _ _ q9 => q9) ?_
  rintro _ h6 ⟨z7, rfl, hv⟩ -
  refine j_sipush (v := (600 : Int32)) dL_law_27 (by decide) ?_
  refine j_static (avs := [.int z7, .int (600 : Int32)]) (rest := [.int (1 : Int32)]) (kc' := (kc - 109)) (ks' := (ks - 14964)) dL_law_30 mt_L_below w_m_L_15 w_st_L_below rfl rfl (Nat.le_of_ble_eq_true rfl) (Nat.le_refl _) (by omega) (by omega) hv (fun _ _ q9 => q9) ?_
  rintro _ h8 ⟨z9, rfl, hv⟩ -
  refine j_iadd dL_law_33 ?_
  refine j_istore_n dL_law_34 rfl (by decide) rfl rfl ?_
  refine j_aload_n dL_law_35 rfl rfl ?_
  refine j_iload_n dL_law_36 rfl rfl ?_
  obtain ⟨⟨fs, e1⟩, hv⟩ := hv
  refine j_virtual (avs := [.int ((1 : Int32) + z9)]) (rest := []) (i := r1) (kc' := (kc - 110)) (ks' := (ks - 14970)) dL_law_37 mt_X9_make w_m_L_95 w_in_X9_make w_se_X9_make rfl rfl (Nat.le_of_ble_eq_true rfl) (Nat.le_refl _) (by omega) (by omega) cl_X9.1 e1 hv (fun _ _ q9 => q9) ?_
  rintro _ h10 ⟨z11, rfl, hv⟩ -
  refine j_istore dL_law_40 (by decide) rfl rfl ?_
  refine j_iload dL_law_42 rfl ?_
  refine j_iconst (v := (2 : Int32)) dL_law_44 (by decide) ?_
  refine j_irem dL_law_45 (by decide) ?_
  refine j_if_ne (tgt := 86) dL_law_46 (by decide) (fun hc => ?_) (fun hc => ?_)
  · replace hv := hv.2 hc
    refine j_iconst (v := (0 : Int32)) dL_law_86 (by decide) ?_
    exact j_zret dL_law_87 rfl (by decide) hv
  · replace hv := hv.1 hc
    refine j_iload dL_law_49 rfl ?_
    refine j_aload_n dL_law_51 rfl rfl ?_
    refine j_iconst (v := (2 : Int32)) dL_law_52 (by decide) ?_
    obtain ⟨⟨fs, e1⟩, hv⟩ := hv
    refine j_virtual (avs := [.int (2 : Int32)]) (rest := [.int z11]) (i := r1) (kc' := (kc - 111)) (ks' := (ks - 14976)) dL_law_53 mt_X9_count w_m_L_98 w_in_X9_count w_se_X9_count rfl rfl (Nat.le_of_ble_eq_true rfl) (Nat.le_refl _) (by omega) (by omega) cl_X9.1 e1 hv (fun _ _ q9 => q9) ?_
    rintro _ h12 ⟨z13, rfl, hv⟩ -
    refine j_icmp_ne (tgt := 86) dL_law_56 (by decide) (fun hc => ?_) (fun hc => ?_)
    · replace hv := hv.2 hc
      refine j_iconst (v := (0 : Int32)) dL_law_86 (by decide) ?_
      exact j_zret dL_law_87 rfl (by decide) hv
    · replace hv := hv.1 hc
      refine j_aload_n dL_law_59 rfl rfl ?_
      obtain ⟨⟨fs, e1⟩, hv⟩ := hv
      refine j_virtual (avs := []) (rest := []) (i := r1) (kc' := (kc - 112)) (ks' := (ks - 14982)) dL_law_60 mt_X9_check w_m_L_101 w_in_X9_check w_se_X9_check rfl rfl (Nat.le_of_ble_eq_true rfl) (Nat.le_refl _) (by omega) (by omega) cl_X9.1 e1 hv (fun _ _ q9 => q9) ?_
      rintro _ h14 ⟨z15, rfl, hv⟩ -
      refine j_iconst (v := (-1 : Int32)) dL_law_63 (by decide) ?_
      refine j_icmp_ne (tgt := 86) dL_law_64 (by decide) (fun hc => ?_) (fun hc => ?_)
      · replace hv := hv.2 hc
        refine j_iconst (v := (0 : Int32)) dL_law_86 (by decide) ?_
        exact j_zret dL_law_87 rfl (by decide) hv
      · replace hv := hv.1 hc
        refine j_aload_n dL_law_67 rfl rfl ?_
        refine j_iload dL_law_68 rfl ?_
        refine j_iconst (v := (0 : Int32)) dL_law_70 (by decide) ?_
        obtain ⟨⟨fs, e1⟩, hv⟩ := hv
        refine j_virtual (avs := [.int z11, .int (0 : Int32)]) (rest := []) (i := r1) (kc' := (kc - 113)) (ks' := (ks - 14988)) dL_law_71 mt_X9_foretell w_m_L_105 w_in_X9_foretell w_se_X9_foretell rfl rfl (Nat.le_of_ble_eq_true rfl) (Nat.le_refl _) (by omega) (by omega) cl_X9.1 e1 hv (fun _ _ q9 => q9) ?_
        rintro _ h16 ⟨z17, rfl, hv⟩ -
        refine j_iload_n dL_law_74 rfl rfl ?_
        refine j_icmp_gt (tgt := 86) dL_law_75 (by decide) (fun hc => ?_) (fun hc => ?_)
        · replace hv := hv.1 hc
          refine j_iconst (v := (0 : Int32)) dL_law_86 (by decide) ?_
          exact j_zret dL_law_87 rfl (by decide) hv
        · replace hv := hv.2 hc
          refine j_aload_n dL_law_78 rfl rfl ?_
          refine j_iconst (v := (0 : Int32)) dL_law_79 (by decide) ?_
          obtain ⟨⟨fs, e1⟩, hv⟩ := hv
          refine j_virtual (avs := [.int (0 : Int32)]) (rest := []) (i := r1) (kc' := (kc - 114)) (ks' := (ks - 14994)) dL_law_80 mt_X9_rover w_m_L_108 w_in_X9_rover w_se_X9_rover rfl rfl (Nat.le_of_ble_eq_true rfl) (Nat.le_refl _) (by omega) (by omega) cl_X9.1 e1 hv (fun _ _ q9 => q9) ?_
          rintro _ h18 ⟨z19, rfl, hv⟩ -
          refine j_if_eq (tgt := 88) dL_law_83 (by decide) (fun hc => ?_) (fun hc => ?_)
          · replace hv := hv.1 hc
            refine j_iload dL_law_88 rfl ?_
            refine j_iconst (v := (3 : Int32)) dL_law_90 (by decide) ?_
            refine jj_mna (K := 3) w_cl_L_111 w_ar_int dL_law_91 (by decide) (by decide) (by decide) (by decide) (kc' := (kc - 155)) (ks' := (ks - 15154)) (by omega) (by omega) hv (fun r20 h21 hv => ?_)
            refine j_astore dL_law_95 (by decide) rfl rfl ?_
            refine j_iconst (v := (0 : Int32)) dL_law_97 (by decide) ?_
            refine j_istore dL_law_98 (by decide) rfl rfl ?_
            exact hv
          · replace hv := hv.2 hc
            refine j_iconst (v := (0 : Int32)) dL_law_86 (by decide) ?_
            exact j_zret dL_law_87 rfl (by decide) hv
