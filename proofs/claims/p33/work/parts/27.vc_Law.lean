set_option maxRecDepth 20000 in
set_option maxHeartbeats 4000000 in
theorem v_L_below {l : Launch} {d mc ms : Nat} {Q : Option Value → qH → Prop} {QX : String → qH → Prop} (x0 : Int32) (x1 : Int32) {h : qH} (hv : qDV x1 (Q (some (.int ((x0 &&& (2147483647 : Int32)) - (x0 &&& (2147483647 : Int32)) / x1 * x1))) h)) : q_Ct l (d + 0) mL_below [.int x0, .int x1] h mc ms Q QX := by
  refine q_body (by decide ) (by intro v hm; simp only [List.mem_cons, List.not_mem_nil, or_false] at hm; rcases hm with rfl | rfl <;> rfl) (Nat.le_of_ble_eq_true rfl) ?_
  refine j_pad 0 rfl ?_
  refine j_iload_n dL_below_0 rfl rfl ?_
  refine j_ldc (v := (2147483647 : Int32)) dL_below_1 w_c_L_7 ?_
  refine j_iand dL_below_3 ?_
  refine j_iload_n dL_below_4 rfl rfl ?_
  obtain ⟨hz, hv⟩ := hv
  refine j_irem dL_below_5 hz ?_
  exact j_iret dL_below_6 rfl hv
set_option maxRecDepth 20000 in
set_option maxHeartbeats 4000000 in
theorem v_L_ground_264 {l : Launch} {d mc ms n0 kc ks : Nat} {Q : Option Value → qH → Prop} {QX : String → qH → Prop} (x0 : Nat) (x2 : Int32) (x3 : Nat) (x4 : Int32) (x5 : Int32) (x6 : Int32) (x7 : Int32) (x8 : Int32) (x9 : Int32) (x10 : Int32) (x11 : Int32) (x12 : Int32) (x13 : Int32) {h : qH} (hv : qIF (x7 < x13) (q_J l (d + 7) mL_ground mc ms Q QX n0 253 [some (.ref x0), some (.float 4), some (.int x2), some (.ref x3), some (.int x4), some (.int x5), some (.int x6), some (.int x7), some (.int x8), some (.int x9), some (.int x10), some (.int x11), some (.int (x12 + (1 : Int32))), none] [] h kc ks) (qAS h x3 (((576 : Int32) + ((24 : Int32) * x12)) + x13) x10 (fun h1 => qIF (x11 = 0) (qAS h1 x3 (((1152 : Int32) + ((24 : Int32) * x12)) + x13) (0 : Int32) (fun h2 => q_J l (d + 7) mL_ground mc ms Q QX n0 264 [some (.ref x0), some (.float 4), some (.int x2), some (.ref x3), some (.int x4), some (.int x5), some (.int x6), some (.int x7), some (.int x8), some (.int x9), some (.int x10), some (.int x11), some (.int x12), some (.int (x13 + (1 : Int32)))] [] h2 kc ks)) (qAS h1 x3 (((1152 : Int32) + ((24 : Int32) * x12)) + x13) (1 : Int32) (fun h3 => q_J l (d + 7) mL_ground mc ms Q QX n0 264 [some (.ref x0), some (.float 4), some (.int x2), some (.ref x3), some (.int x4), some (.int x5), some (.int x6), some (.int x7), some (.int x8), some (.int x9), some (.int x10), some (.int x11), some (.int x12), some (.int (x13 + (1 : Int32)))] [] h3 kc ks))))) : q_J l (d + 7) mL_ground mc ms Q QX n0 264 [some (.ref x0), some (.float 4), some (.int x2), some (.ref x3), some (.int x4), some (.int x5), some (.int x6), some (.int x7), some (.int x8), some (.int x9), some (.int x10), some (.int x11), some (.int x12), some (.int x13)] [] h kc ks := by
  refine j_iload dL_ground_264 rfl ?_
  refine j_iload dL_ground_266 rfl ?_
  refine j_icmp_gt (tgt := 317) dL_ground_268 (by decide) (fun hc => ?_) (fun hc => ?_)
  · replace hv := hv.1 hc
    refine j_iinc (w := (x12 + (1 : Int32))) dL_ground_317 rfl (by rfl) (by decide) rfl rfl ?_
    refine j_goto (tgt := 253) dL_ground_320 (by decide) ?_
    refine j_mask [true, true, true, true, true, true, true, true, true, true, true, true, true, false] rfl ?_
    exact hv
  · replace hv := hv.2 hc
    refine j_aload_n dL_ground_271 rfl rfl ?_
    refine j_sipush (v := (576 : Int32)) dL_ground_272 (by decide) ?_
    refine j_bipush (v := (24 : Int32)) dL_ground_275 (by decide) ?_
    refine j_iload dL_ground_277 rfl ?_
    refine j_imul dL_ground_279 ?_
    refine j_iadd dL_ground_280 ?_
    refine j_iload dL_ground_281 rfl ?_
    refine j_iadd dL_ground_283 ?_
    refine j_iload dL_ground_284 rfl ?_
    obtain ⟨N, f, e1, e2, hv⟩ := hv
    refine j_iast dL_ground_286 e1 e2 ?_
    generalize q_set h x3 _ = h1 at hv ⊢
    refine j_aload_n dL_ground_287 rfl rfl ?_
    refine j_sipush (v := (1152 : Int32)) dL_ground_288 (by decide) ?_
    refine j_bipush (v := (24 : Int32)) dL_ground_291 (by decide) ?_
    refine j_iload dL_ground_293 rfl ?_
    refine j_imul dL_ground_295 ?_
    refine j_iadd dL_ground_296 ?_
    refine j_iload dL_ground_297 rfl ?_
    refine j_iadd dL_ground_299 ?_
    refine j_iload dL_ground_300 rfl ?_
    refine j_if_eq (tgt := 309) dL_ground_302 (by decide) (fun hc => ?_) (fun hc => ?_)
    · replace hv := hv.1 hc
      refine j_iconst (v := (0 : Int32)) dL_ground_309 (by decide) ?_
      obtain ⟨N, f, e1, e2, hv⟩ := hv
      refine j_iast dL_ground_310 e1 e2 ?_
      generalize q_set h1 x3 _ = h2 at hv ⊢
      refine j_iinc (w := (x13 + (1 : Int32))) dL_ground_311 rfl (by rfl) (by decide) rfl rfl ?_
      refine j_goto (tgt := 264) dL_ground_314 (by decide) ?_
      exact hv
    · replace hv := hv.2 hc
      refine j_iconst (v := (1 : Int32)) dL_ground_305 (by decide) ?_
      refine j_goto (tgt := 310) dL_ground_306 (by decide) ?_
      obtain ⟨N, f, e1, e2, hv⟩ := hv
      refine j_iast dL_ground_310 e1 e2 ?_
      generalize q_set h1 x3 _ = h3 at hv ⊢
      refine j_iinc (w := (x13 + (1 : Int32))) dL_ground_311 rfl (by rfl) (by decide) rfl rfl ?_
      refine j_goto (tgt := 264) dL_ground_314 (by decide) ?_
      exact hv
set_option maxRecDepth 20000 in
set_option maxHeartbeats 4000000 in
theorem v_L_ground_253 {l : Launch} {d mc ms n0 kc ks : Nat} {Q : Option Value → qH → Prop} {QX : String → qH → Prop} (hkc : 1 ≤ kc) (hks : 6 ≤ ks) (x0 : Nat) (x2 : Int32) (x3 : Nat) (x4 : Int32) (x5 : Int32) (x6 : Int32) (x7 : Int32) (x8 : Int32) (x9 : Int32) (x10 : Int32) (x11 : Int32) (x12 : Int32) {h : qH} (hv : qIF (x9 < x12) (qOB h x0 9 (qCI l (d + 6) mX9_pave [.ref x0, .int x6, .int x7, .int x8, .int x9, .int x10, .int x11] h 1 6 (fun z2 h1 => qIF (z2 = (((x7 - x6) + (1 : Int32)) * ((x9 - x8) + (1 : Int32)))) (q_J l (d + 7) mL_ground mc ms Q QX n0 16 [some (.ref x0), some (.float 4), some (.int x2), some (.ref x3), some (.int (x4 + (1 : Int32))), none, none, none, none, none, none, none, none, none] [] h1 (kc - 1) (ks - 6)) (False)))) (q_J l (d + 7) mL_ground mc ms Q QX n0 264 [some (.ref x0), some (.float 4), some (.int x2), some (.ref x3), some (.int x4), some (.int x5), some (.int x6), some (.int x7), some (.int x8), some (.int x9), some (.int x10), some (.int x11), some (.int x12), some (.int x6)] [] h kc ks)) : q_J l (d + 7) mL_ground mc ms Q QX n0 253 [some (.ref x0), some (.float 4), some (.int x2), some (.ref x3), some (.int x4), some (.int x5), some (.int x6), some (.int x7), some (.int x8), some (.int x9), some (.int x10), some (.int x11), some (.int x12), none] [] h kc ks := by
  refine j_iload dL_ground_253 rfl ?_
  refine j_iload dL_ground_255 rfl ?_
  refine j_icmp_gt (tgt := 323) dL_ground_257 (by decide) (fun hc => ?_) (fun hc => ?_)
  · replace hv := hv.1 hc
    refine j_aload_n dL_ground_323 rfl rfl ?_
    refine j_iload dL_ground_324 rfl ?_
    refine j_iload dL_ground_326 rfl ?_
    refine j_iload dL_ground_328 rfl ?_
    refine j_iload dL_ground_330 rfl ?_
    refine j_iload dL_ground_332 rfl ?_
    refine j_iload dL_ground_334 rfl ?_
    obtain ⟨⟨fs, e1⟩, hv⟩ := hv
    refine j_virtual (avs := [.int x6, .int x7, .int x8, .int x9, .int x10, .int x11]) (rest := []) (i := x0) (kc' := (kc - 1)) (ks' := (ks - 6)) dL_ground_336 mt_X9_pave w_m_L_33 w_in_X9_pave w_se_X9_pave rfl rfl (Nat.le_of_ble_eq_true rfl) (Nat.le_refl _) (by omega) (by omega) cl_X9.1 e1 hv (fun _ _ q9 => q9) ?_
    rintro _ h1 ⟨z2, rfl, hv⟩ -
    refine j_iload dL_ground_339 rfl ?_
    refine j_iload dL_ground_341 rfl ?_
    refine j_isub dL_ground_343 ?_
    refine j_iconst (v := (1 : Int32)) dL_ground_344 (by decide) ?_
    refine j_iadd dL_ground_345 ?_
    refine j_iload dL_ground_346 rfl ?_
    refine j_iload dL_ground_348 rfl ?_
    refine j_isub dL_ground_350 ?_
    refine j_iconst (v := (1 : Int32)) dL_ground_351 (by decide) ?_
    refine j_iadd dL_ground_352 ?_
    refine j_imul dL_ground_353 ?_
    refine j_icmp_eq (tgt := 359) dL_ground_354 (by decide) (fun hc => ?_) (fun hc => ?_)
    · replace hv := hv.1 hc
      refine j_iinc (w := (x4 + (1 : Int32))) dL_ground_359 rfl (by rfl) (by decide) rfl rfl ?_
      refine j_goto (tgt := 16) dL_ground_362 (by decide) ?_
      refine j_mask [true, true, true, true, true, false, false, false, false, false, false, false, false, true] rfl ?_
      exact hv
    · replace hv := hv.2 hc
      refine j_null dL_ground_357 ?_
      exact hv.elim
  · replace hv := hv.2 hc
    refine j_iload dL_ground_260 rfl ?_
    refine j_istore dL_ground_262 (by decide) rfl rfl ?_
    exact hv
set_option maxRecDepth 20000 in
set_option maxHeartbeats 4000000 in
theorem v_L_ground_145 {l : Launch} {d mc ms n0 kc ks : Nat} {Q : Option Value → qH → Prop} {QX : String → qH → Prop} (x0 : Nat) (x2 : Int32) (x3 : Nat) (x4 : Int32) (x5 : Int32) (x6 : Int32) (x7 : Int32) (x8 : Int32) (x9 : Int32) (x10 : Int32) (x11 : Int32) (x12 : Int32) (x13 : Int32) {h : qH} (hv : qIF (x7 < x13) (q_J l (d + 7) mL_ground mc ms Q QX n0 134 [some (.ref x0), some (.float 4), some (.int x2), some (.ref x3), some (.int x4), some (.int x5), some (.int x6), some (.int x7), some (.int x8), some (.int x9), some (.int x10), some (.int x11), some (.int (x12 + (1 : Int32))), none] [] h kc ks) (qAL h x3 (((24 : Int32) * x12) + x13) (fun z1 => qAS h x3 (((24 : Int32) * x12) + x13) (z1 + x10) (fun h2 => qAL h2 x3 (((24 : Int32) * x12) + x13) (fun z3 => q_J l (d + 7) mL_ground mc ms Q QX n0 145 [some (.ref x0), some (.float 4), some (.int x2), some (.ref x3), some (.int x4), some (.int x5), some (.int x6), some (.int x7), some (.int x8), some (.int x9), some (.int x10), some (.int (if x11 < z3 then z3 else x11)), some (.int x12), some (.int (x13 + (1 : Int32)))] [] h2 kc ks))))) : q_J l (d + 7) mL_ground mc ms Q QX n0 145 [some (.ref x0), some (.float 4), some (.int x2), some (.ref x3), some (.int x4), some (.int x5), some (.int x6), some (.int x7), some (.int x8), some (.int x9), some (.int x10), some (.int x11), some (.int x12), some (.int x13)] [] h kc ks := by
  refine j_iload dL_ground_145 rfl ?_
  refine j_iload dL_ground_147 rfl ?_
  refine j_icmp_gt (tgt := 190) dL_ground_149 (by decide) (fun hc => ?_) (fun hc => ?_)
  · replace hv := hv.1 hc
    refine j_iinc (w := (x12 + (1 : Int32))) dL_ground_190 rfl (by rfl) (by decide) rfl rfl ?_
    refine j_goto (tgt := 134) dL_ground_193 (by decide) ?_
    refine j_mask [true, true, true, true, true, true, true, true, true, true, true, true, true, false] rfl ?_
    exact hv
  · replace hv := hv.2 hc
    refine j_aload_n dL_ground_152 rfl rfl ?_
    refine j_bipush (v := (24 : Int32)) dL_ground_153 (by decide) ?_
    refine j_iload dL_ground_155 rfl ?_
    refine j_imul dL_ground_157 ?_
    refine j_iload dL_ground_158 rfl ?_
    refine j_iadd dL_ground_160 ?_
    refine j_dup2 dL_ground_161 rfl rfl ?_
    obtain ⟨N, f, e1, e2, hv⟩ := hv
    refine j_iald dL_ground_162 e1 e2 ?_
    generalize f _ = z1 at hv ⊢
    refine j_iload dL_ground_163 rfl ?_
    refine j_iadd dL_ground_165 ?_
    obtain ⟨N, f, e1, e2, hv⟩ := hv
    refine j_iast dL_ground_166 e1 e2 ?_
    generalize q_set h x3 _ = h2 at hv ⊢
    refine j_iload dL_ground_167 rfl ?_
    refine j_aload_n dL_ground_169 rfl rfl ?_
    refine j_bipush (v := (24 : Int32)) dL_ground_170 (by decide) ?_
    refine j_iload dL_ground_172 rfl ?_
    refine j_imul dL_ground_174 ?_
    refine j_iload dL_ground_175 rfl ?_
    refine j_iadd dL_ground_177 ?_
    obtain ⟨N, f, e1, e2, hv⟩ := hv
    refine j_iald dL_ground_178 e1 e2 ?_
    generalize f _ = z3 at hv ⊢
    refine j_mmax dL_ground_179 w_m_L_24 w_st_max w_ini_Math w_co_max (Nat.le_of_ble_eq_true rfl) (by omega) ?_
    refine j_istore dL_ground_182 (by decide) rfl rfl ?_
    refine j_iinc (w := (x13 + (1 : Int32))) dL_ground_184 rfl (by rfl) (by decide) rfl rfl ?_
    refine j_goto (tgt := 145) dL_ground_187 (by decide) ?_
    exact hv
set_option maxRecDepth 20000 in
set_option maxHeartbeats 4000000 in
theorem v_L_ground_134 {l : Launch} {d mc ms n0 kc ks : Nat} {Q : Option Value → qH → Prop} {QX : String → qH → Prop} (hkc : 1 ≤ kc) (hks : 6 ≤ ks) (x0 : Nat) (x2 : Int32) (x3 : Nat) (x4 : Int32) (x5 : Int32) (x6 : Int32) (x7 : Int32) (x8 : Int32) (x9 : Int32) (x10 : Int32) (x11 : Int32) (x12 : Int32) {h : qH} (hv : qIF (x9 < x12) (qOB h x0 9 (qCI l (d + 6) mX9_raise [.ref x0, .int x6, .int x7, .int x8, .int x9, .int x10] h 1 6 (fun z2 h1 => qIF (z2 = x11) (q_J l (d + 7) mL_ground mc ms Q QX n0 16 [some (.ref x0), some (.float 4), some (.int x2), some (.ref x3), some (.int (x4 + (1 : Int32))), none, none, none, none, none, none, none, none, none] [] h1 (kc - 1) (ks - 6)) (False)))) (q_J l (d + 7) mL_ground mc ms Q QX n0 145 [some (.ref x0), some (.float 4), some (.int x2), some (.ref x3), some (.int x4), some (.int x5), some (.int x6), some (.int x7), some (.int x8), some (.int x9), some (.int x10), some (.int x11), some (.int x12), some (.int x6)] [] h kc ks)) : q_J l (d + 7) mL_ground mc ms Q QX n0 134 [some (.ref x0), some (.float 4), some (.int x2), some (.ref x3), some (.int x4), some (.int x5), some (.int x6), some (.int x7), some (.int x8), some (.int x9), some (.int x10), some (.int x11), some (.int x12), none] [] h kc ks := by
  refine j_iload dL_ground_134 rfl ?_
  refine j_iload dL_ground_136 rfl ?_
  refine j_icmp_gt (tgt := 196) dL_ground_138 (by decide) (fun hc => ?_) (fun hc => ?_)
  · replace hv := hv.1 hc
    refine j_aload_n dL_ground_196 rfl rfl ?_
    refine j_iload dL_ground_197 rfl ?_
    refine j_iload dL_ground_199 rfl ?_
    refine j_iload dL_ground_201 rfl ?_
    refine j_iload dL_ground_203 rfl ?_
    refine j_iload dL_ground_205 rfl ?_
    obtain ⟨⟨fs, e1⟩, hv⟩ := hv
    refine j_virtual (avs := [.int x6, .int x7, .int x8, .int x9, .int x10]) (rest := []) (i := x0) (kc' := (kc - 1)) (ks' := (ks - 6)) dL_ground_207 mt_X9_raise w_m_L_27 w_in_X9_raise w_se_X9_raise rfl rfl (Nat.le_of_ble_eq_true rfl) (Nat.le_refl _) (by omega) (by omega) cl_X9.1 e1 hv (fun _ _ q9 => q9) ?_
    rintro _ h1 ⟨z2, rfl, hv⟩ -
    refine j_iload dL_ground_210 rfl ?_
    refine j_icmp_eq (tgt := 217) dL_ground_212 (by decide) (fun hc => ?_) (fun hc => ?_)
    · replace hv := hv.1 hc
      refine j_goto (tgt := 359) dL_ground_217 (by decide) ?_
      refine j_iinc (w := (x4 + (1 : Int32))) dL_ground_359 rfl (by rfl) (by decide) rfl rfl ?_
      refine j_goto (tgt := 16) dL_ground_362 (by decide) ?_
      refine j_mask [true, true, true, true, true, false, false, false, false, false, false, false, false, true] rfl ?_
      exact hv
    · replace hv := hv.2 hc
      refine j_null dL_ground_215 ?_
      exact hv.elim
  · replace hv := hv.2 hc
    refine j_iload dL_ground_141 rfl ?_
    refine j_istore dL_ground_143 (by decide) rfl rfl ?_
    exact hv
set_option maxRecDepth 20000 in
set_option maxHeartbeats 4000000 in
theorem v_L_ground_16 {l : Launch} {d mc ms n0 kc ks : Nat} {Q : Option Value → qH → Prop} {QX : String → qH → Prop} (hkc : 1 ≤ kc) (hks : 6 ≤ ks) (x0 : Nat) (x2 : Int32) (x3 : Nat) (x4 : Int32) {h : qH} (hv : qIF ((10 : Int32) ≤ x4) (qCI l (d + 6) mL_cell [.float 4, .int x2] h 0 0 (fun z2 h1 => qCI l (d + 6) mL_below [.int z2, .int (3 : Int32)] h1 0 0 (fun z4 h3 => qIF (z4 = 0) (qCI l (d + 6) mL_cell [.float 4, .int x2] h3 0 0 (fun z6 h5 => qCI l (d + 6) mL_below [.int (z6 >>> ((4 : Int32) &&& 31)), .int (15 : Int32)] h5 0 0 (fun z8 h7 => qAS h7 x3 (1728 : Int32) z8 (fun h9 => qAL h9 x3 (1728 : Int32) (fun z10 => qOB h9 x0 9 (qCI l (d + 6) mX9_setSlope [.ref x0, .int z10] h9 1 6 (fun z12 h11 => qIF (z12 = (12 : Int32)) (Q (some (.ref x3)) h11) (False)))))))) (Q (some (.ref x3)) h3)))) (qCI l (d + 6) mL_cell [.float 4, .int (x2 + (x4 - x4 / (8 : Int32) * (8 : Int32)))] h 0 0 (fun z14 h13 => qCI l (d + 6) mL_below [.int (z14 >>> (((x4 / (8 : Int32)) * (9 : Int32)) &&& 31)), .int (24 : Int32)] h13 0 0 (fun z16 h15 => qCI l (d + 6) mL_below [.int ((z14 >>> (((x4 / (8 : Int32)) * (9 : Int32)) &&& 31)) >>> ((3 : Int32) &&& 31)), .int (9 : Int32)] h15 0 0 (fun z18 h17 => qCI l (d + 6) mL_below [.int ((z14 >>> (((x4 / (8 : Int32)) * (9 : Int32)) &&& 31)) >>> ((5 : Int32) &&& 31)), .int (24 : Int32)] h17 0 0 (fun z21 h20 => qCI l (d + 6) mL_below [.int ((z14 >>> (((x4 / (8 : Int32)) * (9 : Int32)) &&& 31)) >>> ((7 : Int32) &&& 31)), .int (9 : Int32)] h20 0 0 (fun z23 h22 => qIF ((6 : Int32) ≤ x4) (qCI l (d + 6) mL_below [.int ((z14 >>> (((x4 / (8 : Int32)) * (9 : Int32)) &&& 31)) >>> ((2 : Int32) &&& 31)), .int (4 : Int32)] h22 0 0 (fun z26 h25 => qCI l (d + 6) mL_below [.int ((z14 >>> (((x4 / (8 : Int32)) * (9 : Int32)) &&& 31)) >>> ((6 : Int32) &&& 31)), .int (3 : Int32)] h25 0 0 (fun z28 h27 => qIF (z28 = 0) (q_J l (d + 7) mL_ground mc ms Q QX n0 253 [some (.ref x0), some (.float 4), some (.int x2), some (.ref x3), some (.int x4), some (.int (z14 >>> (((x4 / (8 : Int32)) * (9 : Int32)) &&& 31))), some (.int z16), some (.int (if (z16 + z18) < (23 : Int32) then (z16 + z18) else (23 : Int32))), some (.int z21), some (.int (if (z21 + z23) < (23 : Int32) then (z21 + z23) else (23 : Int32))), some (.int z26), some (.int (1 : Int32)), some (.int z21), none] [] h27 kc ks) (q_J l (d + 7) mL_ground mc ms Q QX n0 253 [some (.ref x0), some (.float 4), some (.int x2), some (.ref x3), some (.int x4), some (.int (z14 >>> (((x4 / (8 : Int32)) * (9 : Int32)) &&& 31))), some (.int z16), some (.int (if (z16 + z18) < (23 : Int32) then (z16 + z18) else (23 : Int32))), some (.int z21), some (.int (if (z21 + z23) < (23 : Int32) then (z21 + z23) else (23 : Int32))), some (.int z26), some (.int (0 : Int32)), some (.int z21), none] [] h27 kc ks)))) (qCI l (d + 6) mL_below [.int ((z14 >>> (((x4 / (8 : Int32)) * (9 : Int32)) &&& 31)) >>> ((4 : Int32) &&& 31)), .int (17 : Int32)] h22 0 0 (fun z30 h29 => q_J l (d + 7) mL_ground mc ms Q QX n0 134 [some (.ref x0), some (.float 4), some (.int x2), some (.ref x3), some (.int x4), some (.int (z14 >>> (((x4 / (8 : Int32)) * (9 : Int32)) &&& 31))), some (.int z16), some (.int (if (z16 + z18) < (23 : Int32) then (z16 + z18) else (23 : Int32))), some (.int z21), some (.int (if (z21 + z23) < (23 : Int32) then (z21 + z23) else (23 : Int32))), some (.int (z30 - (7 : Int32))), some (.int (-999 : Int32)), some (.int z21), none] [] h29 kc ks))))))))) : q_J l (d + 7) mL_ground mc ms Q QX n0 16 [some (.ref x0), some (.float 4), some (.int x2), some (.ref x3), some (.int x4), none, none, none, none, none, none, none, none, none] [] h kc ks := by
  refine j_iload dL_ground_16 rfl ?_
  refine j_bipush (v := (10 : Int32)) dL_ground_18 (by decide) ?_
  refine j_icmp_ge (tgt := 365) dL_ground_20 (by decide) (fun hc => ?_) (fun hc => ?_)
  · replace hv := hv.1 hc
    refine j_aload_nF dL_ground_365 rfl rfl ?_
    refine j_iload_n dL_ground_366 rfl rfl ?_
    refine j_static (avs := [.float 4, .int x2]) (rest := []) (kc' := kc) (ks' := ks) dL_ground_367 mt_L_cell w_m_L_9 w_st_L_cell rfl rfl (Nat.le_of_ble_eq_true rfl) (Nat.le_refl _) (by omega) (by omega) hv (fun _ _ q9 => q9) ?_
    rintro _ h1 ⟨z2, rfl, hv⟩ -
    refine j_iconst (v := (3 : Int32)) dL_ground_370 (by decide) ?_
    refine j_static (avs := [.int z2, .int (3 : Int32)]) (rest := []) (kc' := kc) (ks' := ks) dL_ground_371 mt_L_below w_m_L_15 w_st_L_below rfl rfl (Nat.le_of_ble_eq_true rfl) (Nat.le_refl _) (by omega) (by omega) hv (fun _ _ q9 => q9) ?_
    rintro _ h3 ⟨z4, rfl, hv⟩ -
    refine j_if_ne (tgt := 410) dL_ground_374 (by decide) (fun hc => ?_) (fun hc => ?_)
    · replace hv := hv.2 hc
      refine j_aload_n dL_ground_410 rfl rfl ?_
      exact j_aret dL_ground_411 rfl (Or.inr ⟨_, rfl⟩) hv
    · replace hv := hv.1 hc
      refine j_aload_n dL_ground_377 rfl rfl ?_
      refine j_sipush (v := (1728 : Int32)) dL_ground_378 (by decide) ?_
      refine j_aload_nF dL_ground_381 rfl rfl ?_
      refine j_iload_n dL_ground_382 rfl rfl ?_
      refine j_static (avs := [.float 4, .int x2]) (rest := [.int (1728 : Int32), .ref x3]) (kc' := kc) (ks' := ks) dL_ground_383 mt_L_cell w_m_L_9 w_st_L_cell rfl rfl (Nat.le_of_ble_eq_true rfl) (Nat.le_refl _) (by omega) (by omega) hv (fun _ _ q9 => q9) ?_
      rintro _ h5 ⟨z6, rfl, hv⟩ -
      refine j_iconst (v := (4 : Int32)) dL_ground_386 (by decide) ?_
      refine j_ishr dL_ground_387 ?_
      refine j_bipush (v := (15 : Int32)) dL_ground_388 (by decide) ?_
      refine j_static (avs := [.int (z6 >>> ((4 : Int32) &&& 31)), .int (15 : Int32)]) (rest := [.int (1728 : Int32), .ref x3]) (kc' := kc) (ks' := ks) dL_ground_390 mt_L_below w_m_L_15 w_st_L_below rfl rfl (Nat.le_of_ble_eq_true rfl) (Nat.le_refl _) (by omega) (by omega) hv (fun _ _ q9 => q9) ?_
      rintro _ h7 ⟨z8, rfl, hv⟩ -
      obtain ⟨N, f, e1, e2, hv⟩ := hv
      refine j_iast dL_ground_393 e1 e2 ?_
      generalize q_set h7 x3 _ = h9 at hv ⊢
      refine j_aload_n dL_ground_394 rfl rfl ?_
      refine j_aload_n dL_ground_395 rfl rfl ?_
      refine j_sipush (v := (1728 : Int32)) dL_ground_396 (by decide) ?_
      obtain ⟨N, f, e1, e2, hv⟩ := hv
      refine j_iald dL_ground_399 e1 e2 ?_
      generalize f _ = z10 at hv ⊢
      obtain ⟨⟨fs, e1⟩, hv⟩ := hv
      refine j_virtual (avs := [.int z10]) (rest := []) (i := x0) (kc' := (kc - 1)) (ks' := (ks - 6)) dL_ground_400 mt_X9_setSlope w_m_L_37 w_in_X9_setSlope w_se_X9_setSlope rfl rfl (Nat.le_of_ble_eq_true rfl) (Nat.le_refl _) (by omega) (by omega) cl_X9.1 e1 hv (fun _ _ q9 => q9) ?_
      rintro _ h11 ⟨z12, rfl, hv⟩ -
      refine j_bipush (v := (12 : Int32)) dL_ground_403 (by decide) ?_
      refine j_icmp_eq (tgt := 410) dL_ground_405 (by decide) (fun hc => ?_) (fun hc => ?_)
      · replace hv := hv.1 hc
        refine j_aload_n dL_ground_410 rfl rfl ?_
        exact j_aret dL_ground_411 rfl (Or.inr ⟨_, rfl⟩) hv
      · replace hv := hv.2 hc
        refine j_null dL_ground_408 ?_
        exact hv.elim
  · replace hv := hv.2 hc
    refine j_aload_nF dL_ground_23 rfl rfl ?_
    refine j_iload_n dL_ground_24 rfl rfl ?_
    refine j_iload dL_ground_25 rfl ?_
    refine j_bipush (v := (8 : Int32)) dL_ground_27 (by decide) ?_
    refine j_irem dL_ground_29 (by decide) ?_
    refine j_iadd dL_ground_30 ?_
    refine j_static (avs := [.float 4, .int (x2 + (x4 - x4 / (8 : Int32) * (8 : Int32)))]) (rest := []) (kc' := kc) (ks' := ks) dL_ground_31 mt_L_cell w_m_L_9 w_st_L_cell rfl rfl (Nat.le_of_ble_eq_true rfl) (Nat.le_refl _) (by omega) (by omega) hv (fun _ _ q9 => q9) ?_
    rintro _ h13 ⟨z14, rfl, hv⟩ -
    refine j_iload dL_ground_34 rfl ?_
    refine j_bipush (v := (8 : Int32)) dL_ground_36 (by decide) ?_
    refine j_idiv dL_ground_38 (by decide) ?_
    refine j_bipush (v := (9 : Int32)) dL_ground_39 (by decide) ?_
    refine j_imul dL_ground_41 ?_
    refine j_ishr dL_ground_42 ?_
    refine j_istore dL_ground_43 (by decide) rfl rfl ?_
    refine j_iload dL_ground_45 rfl ?_
    refine j_bipush (v := (24 : Int32)) dL_ground_47 (by decide) ?_
    refine j_static (avs := [.int (z14 >>> (((x4 / (8 : Int32)) * (9 : Int32)) &&& 31)), .int (24 : Int32)]) (rest := []) (kc' := kc) (ks' := ks) dL_ground_49 mt_L_below w_m_L_15 w_st_L_below rfl rfl (Nat.le_of_ble_eq_true rfl) (Nat.le_refl _) (by omega) (by omega) hv (fun _ _ q9 => q9) ?_
    rintro _ h15 ⟨z16, rfl, hv⟩ -
    refine j_istore dL_ground_52 (by decide) rfl rfl ?_
    refine j_bipush (v := (23 : Int32)) dL_ground_54 (by decide) ?_
    refine j_iload dL_ground_56 rfl ?_
    refine j_iload dL_ground_58 rfl ?_
    refine j_iconst (v := (3 : Int32)) dL_ground_60 (by decide) ?_
    refine j_ishr dL_ground_61 ?_
    refine j_bipush (v := (9 : Int32)) dL_ground_62 (by decide) ?_
    refine j_static (avs := [.int ((z14 >>> (((x4 / (8 : Int32)) * (9 : Int32)) &&& 31)) >>> ((3 : Int32) &&& 31)), .int (9 : Int32)]) (rest := [.int z16, .int (23 : Int32)]) (kc' := kc) (ks' := ks) dL_ground_64 mt_L_below w_m_L_15 w_st_L_below rfl rfl (Nat.le_of_ble_eq_true rfl) (Nat.le_refl _) (by omega) (by omega) hv (fun _ _ q9 => q9) ?_
    rintro _ h17 ⟨z18, rfl, hv⟩ -
    refine j_iadd dL_ground_67 ?_
    refine j_mmin dL_ground_68 w_m_L_19 w_st_min w_ini_Math w_co_min (Nat.le_of_ble_eq_true rfl) (by omega) ?_
    refine j_istore dL_ground_71 (by decide) rfl rfl ?_
    refine j_iload dL_ground_73 rfl ?_
    refine j_iconst (v := (5 : Int32)) dL_ground_75 (by decide) ?_
    refine j_ishr dL_ground_76 ?_
    refine j_bipush (v := (24 : Int32)) dL_ground_77 (by decide) ?_
    refine j_static (avs := [.int ((z14 >>> (((x4 / (8 : Int32)) * (9 : Int32)) &&& 31)) >>> ((5 : Int32) &&& 31)), .int (24 : Int32)]) (rest := []) (kc' := kc) (ks' := ks) dL_ground_79 mt_L_below w_m_L_15 w_st_L_below rfl rfl (Nat.le_of_ble_eq_true rfl) (Nat.le_refl _) (by omega) (by omega) hv (fun _ _ q9 => q9) ?_
    rintro _ h20 ⟨z21, rfl, hv⟩ -
    refine j_istore dL_ground_82 (by decide) rfl rfl ?_
    refine j_bipush (v := (23 : Int32)) dL_ground_84 (by decide) ?_
    refine j_iload dL_ground_86 rfl ?_
    refine j_iload dL_ground_88 rfl ?_
    refine j_bipush (v := (7 : Int32)) dL_ground_90 (by decide) ?_
    refine j_ishr dL_ground_92 ?_
    refine j_bipush (v := (9 : Int32)) dL_ground_93 (by decide) ?_
    refine j_static (avs := [.int ((z14 >>> (((x4 / (8 : Int32)) * (9 : Int32)) &&& 31)) >>> ((7 : Int32) &&& 31)), .int (9 : Int32)]) (rest := [.int z21, .int (23 : Int32)]) (kc' := kc) (ks' := ks) dL_ground_95 mt_L_below w_m_L_15 w_st_L_below rfl rfl (Nat.le_of_ble_eq_true rfl) (Nat.le_refl _) (by omega) (by omega) hv (fun _ _ q9 => q9) ?_
    rintro _ h22 ⟨z23, rfl, hv⟩ -
    refine j_iadd dL_ground_98 ?_
    refine j_mmin dL_ground_99 w_m_L_19 w_st_min w_ini_Math w_co_min (Nat.le_of_ble_eq_true rfl) (by omega) ?_
    refine j_istore dL_ground_102 (by decide) rfl rfl ?_
    refine j_iload dL_ground_104 rfl ?_
    refine j_bipush (v := (6 : Int32)) dL_ground_106 (by decide) ?_
    refine j_icmp_ge (tgt := 220) dL_ground_108 (by decide) (fun hc => ?_) (fun hc => ?_)
    · replace hv := hv.1 hc
      refine j_iload dL_ground_220 rfl ?_
      refine j_iconst (v := (2 : Int32)) dL_ground_222 (by decide) ?_
      refine j_ishr dL_ground_223 ?_
      refine j_iconst (v := (4 : Int32)) dL_ground_224 (by decide) ?_
      refine j_static (avs := [.int ((z14 >>> (((x4 / (8 : Int32)) * (9 : Int32)) &&& 31)) >>> ((2 : Int32) &&& 31)), .int (4 : Int32)]) (rest := []) (kc' := kc) (ks' := ks) dL_ground_225 mt_L_below w_m_L_15 w_st_L_below rfl rfl (Nat.le_of_ble_eq_true rfl) (Nat.le_refl _) (by omega) (by omega) hv (fun _ _ q9 => q9) ?_
      rintro _ h25 ⟨z26, rfl, hv⟩ -
      refine j_istore dL_ground_228 (by decide) rfl rfl ?_
      refine j_iload dL_ground_230 rfl ?_
      refine j_bipush (v := (6 : Int32)) dL_ground_232 (by decide) ?_
      refine j_ishr dL_ground_234 ?_
      refine j_iconst (v := (3 : Int32)) dL_ground_235 (by decide) ?_
      refine j_static (avs := [.int ((z14 >>> (((x4 / (8 : Int32)) * (9 : Int32)) &&& 31)) >>> ((6 : Int32) &&& 31)), .int (3 : Int32)]) (rest := []) (kc' := kc) (ks' := ks) dL_ground_236 mt_L_below w_m_L_15 w_st_L_below rfl rfl (Nat.le_of_ble_eq_true rfl) (Nat.le_refl _) (by omega) (by omega) hv (fun _ _ q9 => q9) ?_
      rintro _ h27 ⟨z28, rfl, hv⟩ -
      refine j_if_ne (tgt := 246) dL_ground_239 (by decide) (fun hc => ?_) (fun hc => ?_)
      · replace hv := hv.2 hc
        refine j_iconst (v := (0 : Int32)) dL_ground_246 (by decide) ?_
        refine j_istore dL_ground_247 (by decide) rfl rfl ?_
        refine j_iload dL_ground_249 rfl ?_
        refine j_istore dL_ground_251 (by decide) rfl rfl ?_
        exact hv
      · replace hv := hv.1 hc
        refine j_iconst (v := (1 : Int32)) dL_ground_242 (by decide) ?_
        refine j_goto (tgt := 247) dL_ground_243 (by decide) ?_
        refine j_istore dL_ground_247 (by decide) rfl rfl ?_
        refine j_iload dL_ground_249 rfl ?_
        refine j_istore dL_ground_251 (by decide) rfl rfl ?_
        exact hv
    · replace hv := hv.2 hc
      refine j_iload dL_ground_111 rfl ?_
      refine j_iconst (v := (4 : Int32)) dL_ground_113 (by decide) ?_
      refine j_ishr dL_ground_114 ?_
      refine j_bipush (v := (17 : Int32)) dL_ground_115 (by decide) ?_
      refine j_static (avs := [.int ((z14 >>> (((x4 / (8 : Int32)) * (9 : Int32)) &&& 31)) >>> ((4 : Int32) &&& 31)), .int (17 : Int32)]) (rest := []) (kc' := kc) (ks' := ks) dL_ground_117 mt_L_below w_m_L_15 w_st_L_below rfl rfl (Nat.le_of_ble_eq_true rfl) (Nat.le_refl _) (by omega) (by omega) hv (fun _ _ q9 => q9) ?_
      rintro _ h29 ⟨z30, rfl, hv⟩ -
      refine j_bipush (v := (7 : Int32)) dL_ground_120 (by decide) ?_
      refine j_isub dL_ground_122 ?_
      refine j_istore dL_ground_123 (by decide) rfl rfl ?_
      refine j_sipush (v := (-999 : Int32)) dL_ground_125 (by decide) ?_
      refine j_istore dL_ground_128 (by decide) rfl rfl ?_
      refine j_iload dL_ground_130 rfl ?_
      refine j_istore dL_ground_132 (by decide) rfl rfl ?_
      exact hv
set_option maxRecDepth 20000 in
set_option maxHeartbeats 4000000 in
theorem v_L_ground {l : Launch} {d mc ms : Nat} {Q : Option Value → qH → Prop} {QX : String → qH → Prop} (hkc : 1 ≤ mc) (hks : 1729 ≤ ms) (x0 : Nat) (x2 : Int32) {h : qH} (hv : qNI h 1729 (fun r1 h2 => qAS h2 r1 (1728 : Int32) (12 : Int32) (fun h3 => q_J l (d + 7) mL_ground mc ms Q QX h.2 16 [some (.ref x0), some (.float 4), some (.int x2), some (.ref r1), some (.int (0 : Int32)), none, none, none, none, none, none, none, none, none] [] h3 (mc - 1) (ms - 1729)))) : q_Ct l (d + 7) mL_ground [.ref x0, .float 4, .int x2] h mc ms Q QX := by
  refine q_body (by decide ) (by intro v hm; simp only [List.mem_cons, List.not_mem_nil, or_false] at hm; rcases hm with rfl | rfl | rfl <;> rfl) (Nat.le_of_ble_eq_true rfl) ?_
  refine j_pad 11 rfl ?_
  refine j_sipush (v := (1729 : Int32)) dL_ground_0 (by decide) ?_
  refine jj_newI (N := 1729) w_ar_int dL_ground_3 (by decide) (by decide) (by decide) (kc' := (mc - 1)) (ks' := (ms - 1729)) (by omega) (by omega) hv (fun r1 h2 hv => ?_)
  refine j_astore_n dL_ground_5 rfl (by decide) rfl rfl ?_
  refine j_aload_n dL_ground_6 rfl rfl ?_
  refine j_sipush (v := (1728 : Int32)) dL_ground_7 (by decide) ?_
  refine j_bipush (v := (12 : Int32)) dL_ground_10 (by decide) ?_
  obtain ⟨N, f, e1, e2, hv⟩ := hv
  refine j_iast dL_ground_12 e1 e2 ?_
  generalize q_set h2 r1 _ = h3 at hv ⊢
  refine j_iconst (v := (0 : Int32)) dL_ground_13 (by decide) ?_
  refine j_istore dL_ground_14 (by decide) rfl rfl ?_
  exact hv
set_option maxRecDepth 20000 in
set_option maxHeartbeats 4000000 in
theorem v_L_step_179 {l : Launch} {d mc ms n0 kc ks : Nat} {Q : Option Value → qH → Prop} {QX : String → qH → Prop} (x0 : Nat) (x1 : Int32) (x2 : Int32) (x3 : Int32) (x4 : Int32) (x5 : Int32) (x6 : Int32) (y0 : Int32) {h : qH} (hv : qAL h x0 (((576 : Int32) + ((24 : Int32) * x5)) + x4) (fun z1 => qIF (x6 ≤ 0) (Q (some (.int ((y0 * ((2 : Int32) + z1)) + (0 : Int32)))) h) (Q (some (.int ((y0 * ((2 : Int32) + z1)) + (x6 / (3 : Int32))))) h))) : q_J l (d + 0) mL_step mc ms Q QX n0 179 [some (.ref x0), some (.int x1), some (.int x2), some (.int x3), some (.int x4), some (.int x5), some (.int x6)] [.int y0] h kc ks := by
  refine j_iconst (v := (2 : Int32)) dL_step_179 (by decide) ?_
  refine j_aload_n dL_step_180 rfl rfl ?_
  refine j_sipush (v := (576 : Int32)) dL_step_181 (by decide) ?_
  refine j_bipush (v := (24 : Int32)) dL_step_184 (by decide) ?_
  refine j_iload dL_step_186 rfl ?_
  refine j_imul dL_step_188 ?_
  refine j_iadd dL_step_189 ?_
  refine j_iload dL_step_190 rfl ?_
  refine j_iadd dL_step_192 ?_
  obtain ⟨N, f, e1, e2, hv⟩ := hv
  refine j_iald dL_step_193 e1 e2 ?_
  generalize f _ = z1 at hv ⊢
  refine j_iadd dL_step_194 ?_
  refine j_imul dL_step_195 ?_
  refine j_iload dL_step_196 rfl ?_
  refine j_if_le (tgt := 208) dL_step_198 (by decide) (fun hc => ?_) (fun hc => ?_)
  · replace hv := hv.1 hc
    refine j_iconst (v := (0 : Int32)) dL_step_208 (by decide) ?_
    refine j_iadd dL_step_209 ?_
    exact j_iret dL_step_210 rfl hv
  · replace hv := hv.2 hc
    refine j_iload dL_step_201 rfl ?_
    refine j_iconst (v := (3 : Int32)) dL_step_203 (by decide) ?_
    refine j_idiv dL_step_204 (by decide) ?_
    refine j_goto (tgt := 209) dL_step_205 (by decide) ?_
    refine j_iadd dL_step_209 ?_
    exact j_iret dL_step_210 rfl hv
set_option maxRecDepth 20000 in
set_option maxHeartbeats 4000000 in
theorem v_L_step_178 {l : Launch} {d mc ms n0 kc ks : Nat} {Q : Option Value → qH → Prop} {QX : String → qH → Prop} (x0 : Nat) (x1 : Int32) (x2 : Int32) (x3 : Int32) (x4 : Int32) (x5 : Int32) (x6 : Int32) {h : qH} (hv : q_J l (d + 0) mL_step mc ms Q QX n0 179 [some (.ref x0), some (.int x1), some (.int x2), some (.int x3), some (.int x4), some (.int x5), some (.int x6)] [.int (2 : Int32)] h kc ks) : q_J l (d + 0) mL_step mc ms Q QX n0 178 [some (.ref x0), some (.int x1), some (.int x2), some (.int x3), some (.int x4), some (.int x5), some (.int x6)] [] h kc ks := by
  refine j_iconst (v := (2 : Int32)) dL_step_178 (by decide) ?_
  exact hv
set_option maxRecDepth 20000 in
set_option maxHeartbeats 4000000 in
theorem v_L_step_114 {l : Launch} {d mc ms n0 kc ks : Nat} {Q : Option Value → qH → Prop} {QX : String → qH → Prop} (x0 : Nat) (x1 : Int32) (x2 : Int32) (x3 : Int32) (x4 : Int32) (x5 : Int32) {h : qH} (hv : qAL h x0 (((24 : Int32) * x5) + x4) (fun z1 => qAL h x0 (((24 : Int32) * x2) + x1) (fun z2 => qAL h x0 (1728 : Int32) (fun z3 => qIF (z3 < (z1 - z2)) (Q (some (.int (0 : Int32))) h) (qAL h x0 (1728 : Int32) (fun z4 => qIF ((-(z1 - z2)) ≤ z4) (qSL 2 x3 (fun z5 => qIF (z5 = 0) (q_J l (d + 0) mL_step mc ms Q QX n0 178 [some (.ref x0), some (.int x1), some (.int x2), some (.int x3), some (.int x4), some (.int x5), some (.int (z1 - z2))] [] h kc ks) (qSL 3 x3 (fun z6 => qIF (z6 = 0) (q_J l (d + 0) mL_step mc ms Q QX n0 178 [some (.ref x0), some (.int x1), some (.int x2), some (.int x3), some (.int x4), some (.int x5), some (.int (z1 - z2))] [] h kc ks) (q_J l (d + 0) mL_step mc ms Q QX n0 179 [some (.ref x0), some (.int x1), some (.int x2), some (.int x3), some (.int x4), some (.int x5), some (.int (z1 - z2))] [.int (3 : Int32)] h kc ks))))) (Q (some (.int (0 : Int32))) h))))))) : q_J l (d + 0) mL_step mc ms Q QX n0 114 [some (.ref x0), some (.int x1), some (.int x2), some (.int x3), some (.int x4), some (.int x5), none] [] h kc ks := by
  refine j_aload_n dL_step_114 rfl rfl ?_
  refine j_bipush (v := (24 : Int32)) dL_step_115 (by decide) ?_
  refine j_iload dL_step_117 rfl ?_
  refine j_imul dL_step_119 ?_
  refine j_iload dL_step_120 rfl ?_
  refine j_iadd dL_step_122 ?_
  obtain ⟨N, f, e1, e2, hv⟩ := hv
  refine j_iald dL_step_123 e1 e2 ?_
  generalize f _ = z1 at hv ⊢
  refine j_aload_n dL_step_124 rfl rfl ?_
  refine j_bipush (v := (24 : Int32)) dL_step_125 (by decide) ?_
  refine j_iload_n dL_step_127 rfl rfl ?_
  refine j_imul dL_step_128 ?_
  refine j_iload_n dL_step_129 rfl rfl ?_
  refine j_iadd dL_step_130 ?_
  obtain ⟨N, f, e1, e2, hv⟩ := hv
  refine j_iald dL_step_131 e1 e2 ?_
  generalize f _ = z2 at hv ⊢
  refine j_isub dL_step_132 ?_
  refine j_istore dL_step_133 (by decide) rfl rfl ?_
  refine j_iload dL_step_135 rfl ?_
  refine j_aload_n dL_step_137 rfl rfl ?_
  refine j_sipush (v := (1728 : Int32)) dL_step_138 (by decide) ?_
  obtain ⟨N, f, e1, e2, hv⟩ := hv
  refine j_iald dL_step_141 e1 e2 ?_
  generalize f _ = z3 at hv ⊢
  refine j_icmp_gt (tgt := 156) dL_step_142 (by decide) (fun hc => ?_) (fun hc => ?_)
  · replace hv := hv.1 hc
    refine j_iconst (v := (0 : Int32)) dL_step_156 (by decide) ?_
    exact j_iret dL_step_157 rfl hv
  · replace hv := hv.2 hc
    refine j_iload dL_step_145 rfl ?_
    refine j_ineg dL_step_147 ?_
    refine j_aload_n dL_step_148 rfl rfl ?_
    refine j_sipush (v := (1728 : Int32)) dL_step_149 (by decide) ?_
    obtain ⟨N, f, e1, e2, hv⟩ := hv
    refine j_iald dL_step_152 e1 e2 ?_
    generalize f _ = z4 at hv ⊢
    refine j_icmp_le (tgt := 158) dL_step_153 (by decide) (fun hc => ?_) (fun hc => ?_)
    · replace hv := hv.1 hc
      refine j_gets (k := 2) (by decide) w_f_L_41 dL_step_158 ?_
      refine j_iload_n dL_step_161 rfl rfl ?_
      obtain ⟨e1, hv⟩ := hv
      refine j_sald (k := 2) (by decide) dL_step_162 e1 ?_
      generalize q_sF 2 _ = z5 at hv ⊢
      refine j_if_eq (tgt := 178) dL_step_163 (by decide) (fun hc => ?_) (fun hc => ?_)
      · replace hv := hv.1 hc
        exact hv
      · replace hv := hv.2 hc
        refine j_gets (k := 3) (by decide) w_f_L_45 dL_step_166 ?_
        refine j_iload_n dL_step_169 rfl rfl ?_
        obtain ⟨e1, hv⟩ := hv
        refine j_sald (k := 3) (by decide) dL_step_170 e1 ?_
        generalize q_sF 3 _ = z6 at hv ⊢
        refine j_if_eq (tgt := 178) dL_step_171 (by decide) (fun hc => ?_) (fun hc => ?_)
        · replace hv := hv.1 hc
          exact hv
        · replace hv := hv.2 hc
          refine j_iconst (v := (3 : Int32)) dL_step_174 (by decide) ?_
          refine j_goto (tgt := 179) dL_step_175 (by decide) ?_
          exact hv
    · replace hv := hv.2 hc
      refine j_iconst (v := (0 : Int32)) dL_step_156 (by decide) ?_
      exact j_iret dL_step_157 rfl hv
set_option maxRecDepth 20000 in
set_option maxHeartbeats 4000000 in
theorem v_L_step {l : Launch} {d mc ms : Nat} {Q : Option Value → qH → Prop} {QX : String → qH → Prop} (x0 : Nat) (x1 : Int32) (x2 : Int32) (x3 : Int32) {h : qH} (hv : qSL 2 x3 (fun z1 => qSL 3 x3 (fun z2 => qIF ((x1 + z1) < 0) (Q (some (.int (0 : Int32))) h) (qIF ((23 : Int32) < (x1 + z1)) (Q (some (.int (0 : Int32))) h) (qIF ((x2 + z2) < 0) (Q (some (.int (0 : Int32))) h) (qIF ((23 : Int32) < (x2 + z2)) (Q (some (.int (0 : Int32))) h) (qAL h x0 (((1152 : Int32) + ((24 : Int32) * (x2 + z2))) + (x1 + z1)) (fun z3 => qIF (z3 = (1 : Int32)) (Q (some (.int (0 : Int32))) h) (qSL 2 x3 (fun z4 => qIF (z4 = 0) (q_J l (d + 0) mL_step mc ms Q QX h.2 114 [some (.ref x0), some (.int x1), some (.int x2), some (.int x3), some (.int (x1 + z1)), some (.int (x2 + z2)), none] [] h mc ms) (qSL 3 x3 (fun z5 => qIF (z5 = 0) (q_J l (d + 0) mL_step mc ms Q QX h.2 114 [some (.ref x0), some (.int x1), some (.int x2), some (.int x3), some (.int (x1 + z1)), some (.int (x2 + z2)), none] [] h mc ms) (qAL h x0 (((1152 : Int32) + ((24 : Int32) * x2)) + (x1 + z1)) (fun z6 => qIF (z6 = (1 : Int32)) (Q (some (.int (0 : Int32))) h) (qAL h x0 (((1152 : Int32) + ((24 : Int32) * (x2 + z2))) + x1) (fun z7 => qIF (z7 = (1 : Int32)) (Q (some (.int (0 : Int32))) h) (q_J l (d + 0) mL_step mc ms Q QX h.2 114 [some (.ref x0), some (.int x1), some (.int x2), some (.int x3), some (.int (x1 + z1)), some (.int (x2 + z2)), none] [] h mc ms))))))))))))))))) : q_Ct l (d + 0) mL_step [.ref x0, .int x1, .int x2, .int x3] h mc ms Q QX := by
  refine q_body (by decide ) (by intro v hm; simp only [List.mem_cons, List.not_mem_nil, or_false] at hm; rcases hm with rfl | rfl | rfl | rfl <;> rfl) (Nat.le_of_ble_eq_true rfl) ?_
  refine j_pad 3 rfl ?_
  refine j_iload_n dL_step_0 rfl rfl ?_
  refine j_gets (k := 2) (by decide) w_f_L_41 dL_step_1 ?_
  refine j_iload_n dL_step_4 rfl rfl ?_
  obtain ⟨e1, hv⟩ := hv
  refine j_sald (k := 2) (by decide) dL_step_5 e1 ?_
  generalize q_sF 2 _ = z1 at hv ⊢
  refine j_iadd dL_step_6 ?_
  refine j_istore dL_step_7 (by decide) rfl rfl ?_
  refine j_iload_n dL_step_9 rfl rfl ?_
  refine j_gets (k := 3) (by decide) w_f_L_45 dL_step_10 ?_
  refine j_iload_n dL_step_13 rfl rfl ?_
  obtain ⟨e1, hv⟩ := hv
  refine j_sald (k := 3) (by decide) dL_step_14 e1 ?_
  generalize q_sF 3 _ = z2 at hv ⊢
  refine j_iadd dL_step_15 ?_
  refine j_istore dL_step_16 (by decide) rfl rfl ?_
  refine j_iload dL_step_18 rfl ?_
  refine j_if_lt (tgt := 60) dL_step_20 (by decide) (fun hc => ?_) (fun hc => ?_)
  · replace hv := hv.1 hc
    refine j_iconst (v := (0 : Int32)) dL_step_60 (by decide) ?_
    exact j_iret dL_step_61 rfl hv
  · replace hv := hv.2 hc
    refine j_iload dL_step_23 rfl ?_
    refine j_bipush (v := (23 : Int32)) dL_step_25 (by decide) ?_
    refine j_icmp_gt (tgt := 60) dL_step_27 (by decide) (fun hc => ?_) (fun hc => ?_)
    · replace hv := hv.1 hc
      refine j_iconst (v := (0 : Int32)) dL_step_60 (by decide) ?_
      exact j_iret dL_step_61 rfl hv
    · replace hv := hv.2 hc
      refine j_iload dL_step_30 rfl ?_
      refine j_if_lt (tgt := 60) dL_step_32 (by decide) (fun hc => ?_) (fun hc => ?_)
      · replace hv := hv.1 hc
        refine j_iconst (v := (0 : Int32)) dL_step_60 (by decide) ?_
        exact j_iret dL_step_61 rfl hv
      · replace hv := hv.2 hc
        refine j_iload dL_step_35 rfl ?_
        refine j_bipush (v := (23 : Int32)) dL_step_37 (by decide) ?_
        refine j_icmp_gt (tgt := 60) dL_step_39 (by decide) (fun hc => ?_) (fun hc => ?_)
        · replace hv := hv.1 hc
          refine j_iconst (v := (0 : Int32)) dL_step_60 (by decide) ?_
          exact j_iret dL_step_61 rfl hv
        · replace hv := hv.2 hc
          refine j_aload_n dL_step_42 rfl rfl ?_
          refine j_sipush (v := (1152 : Int32)) dL_step_43 (by decide) ?_
          refine j_bipush (v := (24 : Int32)) dL_step_46 (by decide) ?_
          refine j_iload dL_step_48 rfl ?_
          refine j_imul dL_step_50 ?_
          refine j_iadd dL_step_51 ?_
          refine j_iload dL_step_52 rfl ?_
          refine j_iadd dL_step_54 ?_
          obtain ⟨N, f, e1, e2, hv⟩ := hv
          refine j_iald dL_step_55 e1 e2 ?_
          generalize f _ = z3 at hv ⊢
          refine j_iconst (v := (1 : Int32)) dL_step_56 (by decide) ?_
          refine j_icmp_ne (tgt := 62) dL_step_57 (by decide) (fun hc => ?_) (fun hc => ?_)
          · replace hv := hv.2 hc
            refine j_gets (k := 2) (by decide) w_f_L_41 dL_step_62 ?_
            refine j_iload_n dL_step_65 rfl rfl ?_
            obtain ⟨e1, hv⟩ := hv
            refine j_sald (k := 2) (by decide) dL_step_66 e1 ?_
            generalize q_sF 2 _ = z4 at hv ⊢
            refine j_if_eq (tgt := 114) dL_step_67 (by decide) (fun hc => ?_) (fun hc => ?_)
            · replace hv := hv.1 hc
              exact hv
            · replace hv := hv.2 hc
              refine j_gets (k := 3) (by decide) w_f_L_45 dL_step_70 ?_
              refine j_iload_n dL_step_73 rfl rfl ?_
              obtain ⟨e1, hv⟩ := hv
              refine j_sald (k := 3) (by decide) dL_step_74 e1 ?_
              generalize q_sF 3 _ = z5 at hv ⊢
              refine j_if_eq (tgt := 114) dL_step_75 (by decide) (fun hc => ?_) (fun hc => ?_)
              · replace hv := hv.1 hc
                exact hv
              · replace hv := hv.2 hc
                refine j_aload_n dL_step_78 rfl rfl ?_
                refine j_sipush (v := (1152 : Int32)) dL_step_79 (by decide) ?_
                refine j_bipush (v := (24 : Int32)) dL_step_82 (by decide) ?_
                refine j_iload_n dL_step_84 rfl rfl ?_
                refine j_imul dL_step_85 ?_
                refine j_iadd dL_step_86 ?_
                refine j_iload dL_step_87 rfl ?_
                refine j_iadd dL_step_89 ?_
                obtain ⟨N, f, e1, e2, hv⟩ := hv
                refine j_iald dL_step_90 e1 e2 ?_
                generalize f _ = z6 at hv ⊢
                refine j_iconst (v := (1 : Int32)) dL_step_91 (by decide) ?_
                refine j_icmp_eq (tgt := 112) dL_step_92 (by decide) (fun hc => ?_) (fun hc => ?_)
                · replace hv := hv.1 hc
                  refine j_iconst (v := (0 : Int32)) dL_step_112 (by decide) ?_
                  exact j_iret dL_step_113 rfl hv
                · replace hv := hv.2 hc
                  refine j_aload_n dL_step_95 rfl rfl ?_
                  refine j_sipush (v := (1152 : Int32)) dL_step_96 (by decide) ?_
                  refine j_bipush (v := (24 : Int32)) dL_step_99 (by decide) ?_
                  refine j_iload dL_step_101 rfl ?_
                  refine j_imul dL_step_103 ?_
                  refine j_iadd dL_step_104 ?_
                  refine j_iload_n dL_step_105 rfl rfl ?_
                  refine j_iadd dL_step_106 ?_
                  obtain ⟨N, f, e1, e2, hv⟩ := hv
                  refine j_iald dL_step_107 e1 e2 ?_
                  generalize f _ = z7 at hv ⊢
                  refine j_iconst (v := (1 : Int32)) dL_step_108 (by decide) ?_
                  refine j_icmp_ne (tgt := 114) dL_step_109 (by decide) (fun hc => ?_) (fun hc => ?_)
                  · replace hv := hv.2 hc
                    exact hv
                  · replace hv := hv.1 hc
                    refine j_iconst (v := (0 : Int32)) dL_step_112 (by decide) ?_
                    exact j_iret dL_step_113 rfl hv
          · replace hv := hv.1 hc
            refine j_iconst (v := (0 : Int32)) dL_step_60 (by decide) ?_
            exact j_iret dL_step_61 rfl hv
set_option maxRecDepth 20000 in
set_option maxHeartbeats 4000000 in
theorem v_L_costs_62 {l : Launch} {d mc ms n0 kc ks : Nat} {Q : Option Value → qH → Prop} {QX : String → qH → Prop} (x0 : Nat) (x1 : Int32) (x2 : Int32) (x3 : Nat) (x4 : Int32) (x5 : Int32) (x6 : Int32) {h : qH} (hv : qIF ((8 : Int32) ≤ x6) (q_J l (d + 1) mL_costs mc ms Q QX n0 51 [some (.ref x0), some (.int x1), some (.int x2), some (.ref x3), some (.int x4), some (.int (x5 + (1 : Int32))), none, none, none] [] h kc ks) (qCI l (d + 0) mL_step [.ref x0, .int (x5 - x5 / (24 : Int32) * (24 : Int32)), .int (x5 / (24 : Int32)), .int x6] h 0 0 (fun z2 h1 => qIF (z2 = 0) (q_J l (d + 1) mL_costs mc ms Q QX n0 62 [some (.ref x0), some (.int x1), some (.int x2), some (.ref x3), some (.int x4), some (.int x5), some (.int (x6 + (1 : Int32))), none, none] [] h1 kc ks) (qSL 2 x6 (fun z3 => qSL 3 x6 (fun z4 => qAL h1 x3 ((x5 + z3) + ((24 : Int32) * z4)) (fun z5 => qIF (z5 < 0) (q_J l (d + 1) mL_costs mc ms Q QX n0 62 [some (.ref x0), some (.int x1), some (.int x2), some (.ref x3), some (.int x4), some (.int x5), some (.int (x6 + (1 : Int32))), none, none] [] h1 kc ks) (qAL h1 x3 x5 (fun z6 => qIF (z6 < 0) (qAS h1 x3 x5 (z5 + z2) (fun h7 => q_J l (d + 1) mL_costs mc ms Q QX n0 62 [some (.ref x0), some (.int x1), some (.int x2), some (.ref x3), some (.int (1 : Int32)), some (.int x5), some (.int (x6 + (1 : Int32))), none, none] [] h7 kc ks)) (qAL h1 x3 x5 (fun z8 => qIF ((z5 + z2) < z8) (qAS h1 x3 x5 (z5 + z2) (fun h9 => q_J l (d + 1) mL_costs mc ms Q QX n0 62 [some (.ref x0), some (.int x1), some (.int x2), some (.ref x3), some (.int (1 : Int32)), some (.int x5), some (.int (x6 + (1 : Int32))), none, none] [] h9 kc ks)) (q_J l (d + 1) mL_costs mc ms Q QX n0 62 [some (.ref x0), some (.int x1), some (.int x2), some (.ref x3), some (.int x4), some (.int x5), some (.int (x6 + (1 : Int32))), none, none] [] h1 kc ks)))))))))))) : q_J l (d + 1) mL_costs mc ms Q QX n0 62 [some (.ref x0), some (.int x1), some (.int x2), some (.ref x3), some (.int x4), some (.int x5), some (.int x6), none, none] [] h kc ks := by
  refine j_iload dL_costs_62 rfl ?_
  refine j_bipush (v := (8 : Int32)) dL_costs_64 (by decide) ?_
  refine j_icmp_ge (tgt := 163) dL_costs_66 (by decide) (fun hc => ?_) (fun hc => ?_)
  · replace hv := hv.1 hc
    refine j_iinc (w := (x5 + (1 : Int32))) dL_costs_163 rfl (by rfl) (by decide) rfl rfl ?_
    refine j_goto (tgt := 51) dL_costs_166 (by decide) ?_
    refine j_mask [true, true, true, true, true, true, false, true, true] rfl ?_
    exact hv
  · replace hv := hv.2 hc
    refine j_aload_n dL_costs_69 rfl rfl ?_
    refine j_iload dL_costs_70 rfl ?_
    refine j_bipush (v := (24 : Int32)) dL_costs_72 (by decide) ?_
    refine j_irem dL_costs_74 (by decide) ?_
    refine j_iload dL_costs_75 rfl ?_
    refine j_bipush (v := (24 : Int32)) dL_costs_77 (by decide) ?_
    refine j_idiv dL_costs_79 (by decide) ?_
    refine j_iload dL_costs_80 rfl ?_
    refine j_static (avs := [.ref x0, .int (x5 - x5 / (24 : Int32) * (24 : Int32)), .int (x5 / (24 : Int32)), .int x6]) (rest := []) (kc' := kc) (ks' := ks) dL_costs_82 mt_L_step w_m_L_48 w_st_L_step rfl rfl (Nat.le_of_ble_eq_true rfl) (Nat.le_refl _) (by omega) (by omega) hv (fun _ _ q9 => q9) ?_
    rintro _ h1 ⟨z2, rfl, hv⟩ -
    refine j_istore dL_costs_85 (by decide) rfl rfl ?_
    refine j_iload dL_costs_87 rfl ?_
    refine j_if_ne (tgt := 95) dL_costs_89 (by decide) (fun hc => ?_) (fun hc => ?_)
    · replace hv := hv.2 hc
      refine j_aload_n dL_costs_95 rfl rfl ?_
      refine j_iload dL_costs_96 rfl ?_
      refine j_gets (k := 2) (by decide) w_f_L_41 dL_costs_98 ?_
      refine j_iload dL_costs_101 rfl ?_
      obtain ⟨e1, hv⟩ := hv
      refine j_sald (k := 2) (by decide) dL_costs_103 e1 ?_
      generalize q_sF 2 _ = z3 at hv ⊢
      refine j_iadd dL_costs_104 ?_
      refine j_bipush (v := (24 : Int32)) dL_costs_105 (by decide) ?_
      refine j_gets (k := 3) (by decide) w_f_L_45 dL_costs_107 ?_
      refine j_iload dL_costs_110 rfl ?_
      obtain ⟨e1, hv⟩ := hv
      refine j_sald (k := 3) (by decide) dL_costs_112 e1 ?_
      generalize q_sF 3 _ = z4 at hv ⊢
      refine j_imul dL_costs_113 ?_
      refine j_iadd dL_costs_114 ?_
      obtain ⟨N, f, e1, e2, hv⟩ := hv
      refine j_iald dL_costs_115 e1 e2 ?_
      generalize f _ = z5 at hv ⊢
      refine j_istore dL_costs_116 (by decide) rfl rfl ?_
      refine j_iload dL_costs_118 rfl ?_
      refine j_if_lt (tgt := 157) dL_costs_120 (by decide) (fun hc => ?_) (fun hc => ?_)
      · replace hv := hv.1 hc
        refine j_iinc (w := (x6 + (1 : Int32))) dL_costs_157 rfl (by rfl) (by decide) rfl rfl ?_
        refine j_goto (tgt := 62) dL_costs_160 (by decide) ?_
        refine j_mask [true, true, true, true, true, true, true, false, false] rfl ?_
        exact hv
      · replace hv := hv.2 hc
        refine j_aload_n dL_costs_123 rfl rfl ?_
        refine j_iload dL_costs_124 rfl ?_
        obtain ⟨N, f, e1, e2, hv⟩ := hv
        refine j_iald dL_costs_126 e1 e2 ?_
        generalize f _ = z6 at hv ⊢
        refine j_if_lt (tgt := 145) dL_costs_127 (by decide) (fun hc => ?_) (fun hc => ?_)
        · replace hv := hv.1 hc
          refine j_aload_n dL_costs_145 rfl rfl ?_
          refine j_iload dL_costs_146 rfl ?_
          refine j_iload dL_costs_148 rfl ?_
          refine j_iload dL_costs_150 rfl ?_
          refine j_iadd dL_costs_152 ?_
          obtain ⟨N, f, e1, e2, hv⟩ := hv
          refine j_iast dL_costs_153 e1 e2 ?_
          generalize q_set h1 x3 _ = h7 at hv ⊢
          refine j_iconst (v := (1 : Int32)) dL_costs_154 (by decide) ?_
          refine j_istore dL_costs_155 (by decide) rfl rfl ?_
          refine j_iinc (w := (x6 + (1 : Int32))) dL_costs_157 rfl (by rfl) (by decide) rfl rfl ?_
          refine j_goto (tgt := 62) dL_costs_160 (by decide) ?_
          refine j_mask [true, true, true, true, true, true, true, false, false] rfl ?_
          exact hv
        · replace hv := hv.2 hc
          refine j_aload_n dL_costs_130 rfl rfl ?_
          refine j_iload dL_costs_131 rfl ?_
          obtain ⟨N, f, e1, e2, hv⟩ := hv
          refine j_iald dL_costs_133 e1 e2 ?_
          generalize f _ = z8 at hv ⊢
          refine j_iload dL_costs_134 rfl ?_
          refine j_iload dL_costs_136 rfl ?_
          refine j_iadd dL_costs_138 ?_
          refine j_icmp_gt (tgt := 145) dL_costs_139 (by decide) (fun hc => ?_) (fun hc => ?_)
          · replace hv := hv.1 hc
            refine j_aload_n dL_costs_145 rfl rfl ?_
            refine j_iload dL_costs_146 rfl ?_
            refine j_iload dL_costs_148 rfl ?_
            refine j_iload dL_costs_150 rfl ?_
            refine j_iadd dL_costs_152 ?_
            obtain ⟨N, f, e1, e2, hv⟩ := hv
            refine j_iast dL_costs_153 e1 e2 ?_
            generalize q_set h1 x3 _ = h9 at hv ⊢
            refine j_iconst (v := (1 : Int32)) dL_costs_154 (by decide) ?_
            refine j_istore dL_costs_155 (by decide) rfl rfl ?_
            refine j_iinc (w := (x6 + (1 : Int32))) dL_costs_157 rfl (by rfl) (by decide) rfl rfl ?_
            refine j_goto (tgt := 62) dL_costs_160 (by decide) ?_
            refine j_mask [true, true, true, true, true, true, true, false, false] rfl ?_
            exact hv
          · replace hv := hv.2 hc
            refine j_goto (tgt := 157) dL_costs_142 (by decide) ?_
            refine j_iinc (w := (x6 + (1 : Int32))) dL_costs_157 rfl (by rfl) (by decide) rfl rfl ?_
            refine j_goto (tgt := 62) dL_costs_160 (by decide) ?_
            refine j_mask [true, true, true, true, true, true, true, false, false] rfl ?_
            exact hv
    · replace hv := hv.1 hc
      refine j_goto (tgt := 157) dL_costs_92 (by decide) ?_
      refine j_iinc (w := (x6 + (1 : Int32))) dL_costs_157 rfl (by rfl) (by decide) rfl rfl ?_
      refine j_goto (tgt := 62) dL_costs_160 (by decide) ?_
      refine j_mask [true, true, true, true, true, true, true, false, true] rfl ?_
      exact hv
set_option maxRecDepth 20000 in
set_option maxHeartbeats 4000000 in
theorem v_L_costs_51 {l : Launch} {d mc ms n0 kc ks : Nat} {Q : Option Value → qH → Prop} {QX : String → qH → Prop} (x0 : Nat) (x1 : Int32) (x2 : Int32) (x3 : Nat) (x4 : Int32) (x5 : Int32) {h : qH} (hv : qIF ((576 : Int32) ≤ x5) (q_J l (d + 1) mL_costs mc ms Q QX n0 40 [some (.ref x0), some (.int x1), some (.int x2), some (.ref x3), some (.int x4), none, none, none, none] [] h kc ks) (q_J l (d + 1) mL_costs mc ms Q QX n0 62 [some (.ref x0), some (.int x1), some (.int x2), some (.ref x3), some (.int x4), some (.int x5), some (.int (0 : Int32)), none, none] [] h kc ks)) : q_J l (d + 1) mL_costs mc ms Q QX n0 51 [some (.ref x0), some (.int x1), some (.int x2), some (.ref x3), some (.int x4), some (.int x5), none, none, none] [] h kc ks := by
  refine j_iload dL_costs_51 rfl ?_
  refine j_sipush (v := (576 : Int32)) dL_costs_53 (by decide) ?_
  refine j_icmp_ge (tgt := 169) dL_costs_56 (by decide) (fun hc => ?_) (fun hc => ?_)
  · replace hv := hv.1 hc
    refine j_goto (tgt := 40) dL_costs_169 (by decide) ?_
    refine j_mask [true, true, true, true, true, false, true, true, true] rfl ?_
    exact hv
  · replace hv := hv.2 hc
    refine j_iconst (v := (0 : Int32)) dL_costs_59 (by decide) ?_
    refine j_istore dL_costs_60 (by decide) rfl rfl ?_
    exact hv
set_option maxRecDepth 20000 in
set_option maxHeartbeats 4000000 in
theorem v_L_costs_40 {l : Launch} {d mc ms n0 kc ks : Nat} {Q : Option Value → qH → Prop} {QX : String → qH → Prop} (x0 : Nat) (x1 : Int32) (x2 : Int32) (x3 : Nat) (x4 : Int32) {h : qH} (hv : qIF (x4 = 0) (Q (some (.ref x3)) h) (q_J l (d + 1) mL_costs mc ms Q QX n0 51 [some (.ref x0), some (.int x1), some (.int x2), some (.ref x3), some (.int (0 : Int32)), some (.int (0 : Int32)), none, none, none] [] h kc ks)) : q_J l (d + 1) mL_costs mc ms Q QX n0 40 [some (.ref x0), some (.int x1), some (.int x2), some (.ref x3), some (.int x4), none, none, none, none] [] h kc ks := by
  refine j_iload dL_costs_40 rfl ?_
  refine j_if_eq (tgt := 172) dL_costs_42 (by decide) (fun hc => ?_) (fun hc => ?_)
  · replace hv := hv.1 hc
    refine j_aload_n dL_costs_172 rfl rfl ?_
    exact j_aret dL_costs_173 rfl (Or.inr ⟨_, rfl⟩) hv
  · replace hv := hv.2 hc
    refine j_iconst (v := (0 : Int32)) dL_costs_45 (by decide) ?_
    refine j_istore dL_costs_46 (by decide) rfl rfl ?_
    refine j_iconst (v := (0 : Int32)) dL_costs_48 (by decide) ?_
    refine j_istore dL_costs_49 (by decide) rfl rfl ?_
    exact hv
set_option maxRecDepth 20000 in
set_option maxHeartbeats 4000000 in
theorem v_L_costs_9 {l : Launch} {d mc ms n0 kc ks : Nat} {Q : Option Value → qH → Prop} {QX : String → qH → Prop} (x0 : Nat) (x1 : Int32) (x2 : Int32) (x3 : Nat) (x4 : Int32) {h : qH} (hv : qIF ((576 : Int32) ≤ x4) (qAS h x3 (((24 : Int32) * x2) + x1) (0 : Int32) (fun h1 => q_J l (d + 1) mL_costs mc ms Q QX n0 40 [some (.ref x0), some (.int x1), some (.int x2), some (.ref x3), some (.int (1 : Int32)), none, none, none, none] [] h1 kc ks)) (qAS h x3 x4 (-1 : Int32) (fun h2 => q_J l (d + 1) mL_costs mc ms Q QX n0 9 [some (.ref x0), some (.int x1), some (.int x2), some (.ref x3), some (.int (x4 + (1 : Int32))), none, none, none, none] [] h2 kc ks))) : q_J l (d + 1) mL_costs mc ms Q QX n0 9 [some (.ref x0), some (.int x1), some (.int x2), some (.ref x3), some (.int x4), none, none, none, none] [] h kc ks := by
  refine j_iload dL_costs_9 rfl ?_
  refine j_sipush (v := (576 : Int32)) dL_costs_11 (by decide) ?_
  refine j_icmp_ge (tgt := 28) dL_costs_14 (by decide) (fun hc => ?_) (fun hc => ?_)
  · replace hv := hv.1 hc
    refine j_aload_n dL_costs_28 rfl rfl ?_
    refine j_bipush (v := (24 : Int32)) dL_costs_29 (by decide) ?_
    refine j_iload_n dL_costs_31 rfl rfl ?_
    refine j_imul dL_costs_32 ?_
    refine j_iload_n dL_costs_33 rfl rfl ?_
    refine j_iadd dL_costs_34 ?_
    refine j_iconst (v := (0 : Int32)) dL_costs_35 (by decide) ?_
    obtain ⟨N, f, e1, e2, hv⟩ := hv
    refine j_iast dL_costs_36 e1 e2 ?_
    generalize q_set h x3 _ = h1 at hv ⊢
    refine j_iconst (v := (1 : Int32)) dL_costs_37 (by decide) ?_
    refine j_istore dL_costs_38 (by decide) rfl rfl ?_
    exact hv
  · replace hv := hv.2 hc
    refine j_aload_n dL_costs_17 rfl rfl ?_
    refine j_iload dL_costs_18 rfl ?_
    refine j_iconst (v := (-1 : Int32)) dL_costs_20 (by decide) ?_
    obtain ⟨N, f, e1, e2, hv⟩ := hv
    refine j_iast dL_costs_21 e1 e2 ?_
    generalize q_set h x3 _ = h2 at hv ⊢
    refine j_iinc (w := (x4 + (1 : Int32))) dL_costs_22 rfl (by rfl) (by decide) rfl rfl ?_
    refine j_goto (tgt := 9) dL_costs_25 (by decide) ?_
    exact hv
set_option maxRecDepth 20000 in
set_option maxHeartbeats 4000000 in
theorem v_L_costs {l : Launch} {d mc ms : Nat} {Q : Option Value → qH → Prop} {QX : String → qH → Prop} (hkc : 1 ≤ mc) (hks : 576 ≤ ms) (x0 : Nat) (x1 : Int32) (x2 : Int32) {h : qH} (hv : qNI h 576 (fun r1 h2 => q_J l (d + 1) mL_costs mc ms Q QX h.2 9 [some (.ref x0), some (.int x1), some (.int x2), some (.ref r1), some (.int (0 : Int32)), none, none, none, none] [] h2 (mc - 1) (ms - 576))) : q_Ct l (d + 1) mL_costs [.ref x0, .int x1, .int x2] h mc ms Q QX := by
  refine q_body (by decide ) (by intro v hm; simp only [List.mem_cons, List.not_mem_nil, or_false] at hm; rcases hm with rfl | rfl | rfl <;> rfl) (Nat.le_of_ble_eq_true rfl) ?_
  refine j_pad 6 rfl ?_
  refine j_sipush (v := (576 : Int32)) dL_costs_0 (by decide) ?_
  refine jj_newI (N := 576) w_ar_int dL_costs_3 (by decide) (by decide) (by decide) (kc' := (mc - 1)) (ks' := (ms - 576)) (by omega) (by omega) hv (fun r1 h2 hv => ?_)
  refine j_astore_n dL_costs_5 rfl (by decide) rfl rfl ?_
  refine j_iconst (v := (0 : Int32)) dL_costs_6 (by decide) ?_
  refine j_istore dL_costs_7 (by decide) rfl rfl ?_
  exact hv
set_option maxRecDepth 20000 in
set_option maxHeartbeats 4000000 in
theorem v_L_next_3 {l : Launch} {d mc ms n0 kc ks : Nat} {Q : Option Value → qH → Prop} {QX : String → qH → Prop} (x0 : Nat) (x1 : Nat) (x2 : Int32) (x3 : Int32) (x4 : Int32) {h : qH} (hv : qIF ((8 : Int32) ≤ x4) (Q (some (.int (-1 : Int32))) h) (qCI l (d + 0) mL_step [.ref x0, .int x2, .int x3, .int x4] h 0 0 (fun z2 h1 => qIF (z2 ≤ 0) (q_J l (d + 1) mL_next mc ms Q QX n0 3 [some (.ref x0), some (.ref x1), some (.int x2), some (.int x3), some (.int (x4 + (1 : Int32))), none] [] h1 kc ks) (qSL 3 x4 (fun z3 => qSL 2 x4 (fun z4 => qAL h1 x1 ((((24 : Int32) * (x3 + z3)) + x2) + z4) (fun z5 => qIF (z5 < 0) (q_J l (d + 1) mL_next mc ms Q QX n0 3 [some (.ref x0), some (.ref x1), some (.int x2), some (.int x3), some (.int (x4 + (1 : Int32))), none] [] h1 kc ks) (qSL 3 x4 (fun z6 => qSL 2 x4 (fun z7 => qAL h1 x1 ((((24 : Int32) * (x3 + z6)) + x2) + z7) (fun z8 => qAL h1 x1 (((24 : Int32) * x3) + x2) (fun z9 => qIF ((z8 + z2) = z9) (Q (some (.int x4)) h1) (q_J l (d + 1) mL_next mc ms Q QX n0 3 [some (.ref x0), some (.ref x1), some (.int x2), some (.int x3), some (.int (x4 + (1 : Int32))), none] [] h1 kc ks))))))))))))) : q_J l (d + 1) mL_next mc ms Q QX n0 3 [some (.ref x0), some (.ref x1), some (.int x2), some (.int x3), some (.int x4), none] [] h kc ks := by
  refine j_iload dL_next_3 rfl ?_
  refine j_bipush (v := (8 : Int32)) dL_next_5 (by decide) ?_
  refine j_icmp_ge (tgt := 95) dL_next_7 (by decide) (fun hc => ?_) (fun hc => ?_)
  · replace hv := hv.1 hc
    refine j_iconst (v := (-1 : Int32)) dL_next_95 (by decide) ?_
    exact j_iret dL_next_96 rfl hv
  · replace hv := hv.2 hc
    refine j_aload_n dL_next_10 rfl rfl ?_
    refine j_iload_n dL_next_11 rfl rfl ?_
    refine j_iload_n dL_next_12 rfl rfl ?_
    refine j_iload dL_next_13 rfl ?_
    refine j_static (avs := [.ref x0, .int x2, .int x3, .int x4]) (rest := []) (kc' := kc) (ks' := ks) dL_next_15 mt_L_step w_m_L_48 w_st_L_step rfl rfl (Nat.le_of_ble_eq_true rfl) (Nat.le_refl _) (by omega) (by omega) hv (fun _ _ q9 => q9) ?_
    rintro _ h1 ⟨z2, rfl, hv⟩ -
    refine j_istore dL_next_18 (by decide) rfl rfl ?_
    refine j_iload dL_next_20 rfl ?_
    refine j_if_le (tgt := 89) dL_next_22 (by decide) (fun hc => ?_) (fun hc => ?_)
    · replace hv := hv.1 hc
      refine j_iinc (w := (x4 + (1 : Int32))) dL_next_89 rfl (by rfl) (by decide) rfl rfl ?_
      refine j_goto (tgt := 3) dL_next_92 (by decide) ?_
      refine j_mask [true, true, true, true, true, false] rfl ?_
      exact hv
    · replace hv := hv.2 hc
      refine j_aload_n dL_next_25 rfl rfl ?_
      refine j_bipush (v := (24 : Int32)) dL_next_26 (by decide) ?_
      refine j_iload_n dL_next_28 rfl rfl ?_
      refine j_gets (k := 3) (by decide) w_f_L_45 dL_next_29 ?_
      refine j_iload dL_next_32 rfl ?_
      obtain ⟨e1, hv⟩ := hv
      refine j_sald (k := 3) (by decide) dL_next_34 e1 ?_
      generalize q_sF 3 _ = z3 at hv ⊢
      refine j_iadd dL_next_35 ?_
      refine j_imul dL_next_36 ?_
      refine j_iload_n dL_next_37 rfl rfl ?_
      refine j_iadd dL_next_38 ?_
      refine j_gets (k := 2) (by decide) w_f_L_41 dL_next_39 ?_
      refine j_iload dL_next_42 rfl ?_
      obtain ⟨e1, hv⟩ := hv
      refine j_sald (k := 2) (by decide) dL_next_44 e1 ?_
      generalize q_sF 2 _ = z4 at hv ⊢
      refine j_iadd dL_next_45 ?_
      obtain ⟨N, f, e1, e2, hv⟩ := hv
      refine j_iald dL_next_46 e1 e2 ?_
      generalize f _ = z5 at hv ⊢
      refine j_if_lt (tgt := 89) dL_next_47 (by decide) (fun hc => ?_) (fun hc => ?_)
      · replace hv := hv.1 hc
        refine j_iinc (w := (x4 + (1 : Int32))) dL_next_89 rfl (by rfl) (by decide) rfl rfl ?_
        refine j_goto (tgt := 3) dL_next_92 (by decide) ?_
        refine j_mask [true, true, true, true, true, false] rfl ?_
        exact hv
      · replace hv := hv.2 hc
        refine j_aload_n dL_next_50 rfl rfl ?_
        refine j_bipush (v := (24 : Int32)) dL_next_51 (by decide) ?_
        refine j_iload_n dL_next_53 rfl rfl ?_
        refine j_gets (k := 3) (by decide) w_f_L_45 dL_next_54 ?_
        refine j_iload dL_next_57 rfl ?_
        obtain ⟨e1, hv⟩ := hv
        refine j_sald (k := 3) (by decide) dL_next_59 e1 ?_
        generalize q_sF 3 _ = z6 at hv ⊢
        refine j_iadd dL_next_60 ?_
        refine j_imul dL_next_61 ?_
        refine j_iload_n dL_next_62 rfl rfl ?_
        refine j_iadd dL_next_63 ?_
        refine j_gets (k := 2) (by decide) w_f_L_41 dL_next_64 ?_
        refine j_iload dL_next_67 rfl ?_
        obtain ⟨e1, hv⟩ := hv
        refine j_sald (k := 2) (by decide) dL_next_69 e1 ?_
        generalize q_sF 2 _ = z7 at hv ⊢
        refine j_iadd dL_next_70 ?_
        obtain ⟨N, f, e1, e2, hv⟩ := hv
        refine j_iald dL_next_71 e1 e2 ?_
        generalize f _ = z8 at hv ⊢
        refine j_iload dL_next_72 rfl ?_
        refine j_iadd dL_next_74 ?_
        refine j_aload_n dL_next_75 rfl rfl ?_
        refine j_bipush (v := (24 : Int32)) dL_next_76 (by decide) ?_
        refine j_iload_n dL_next_78 rfl rfl ?_
        refine j_imul dL_next_79 ?_
        refine j_iload_n dL_next_80 rfl rfl ?_
        refine j_iadd dL_next_81 ?_
        obtain ⟨N, f, e1, e2, hv⟩ := hv
        refine j_iald dL_next_82 e1 e2 ?_
        generalize f _ = z9 at hv ⊢
        refine j_icmp_ne (tgt := 89) dL_next_83 (by decide) (fun hc => ?_) (fun hc => ?_)
        · replace hv := hv.2 hc
          refine j_iinc (w := (x4 + (1 : Int32))) dL_next_89 rfl (by rfl) (by decide) rfl rfl ?_
          refine j_goto (tgt := 3) dL_next_92 (by decide) ?_
          refine j_mask [true, true, true, true, true, false] rfl ?_
          exact hv
        · replace hv := hv.1 hc
          refine j_iload dL_next_86 rfl ?_
          exact j_iret dL_next_88 rfl hv
set_option maxRecDepth 20000 in
set_option maxHeartbeats 4000000 in
theorem v_L_next {l : Launch} {d mc ms : Nat} {Q : Option Value → qH → Prop} {QX : String → qH → Prop} (x0 : Nat) (x1 : Nat) (x2 : Int32) (x3 : Int32) {h : qH} (hv : q_J l (d + 1) mL_next mc ms Q QX h.2 3 [some (.ref x0), some (.ref x1), some (.int x2), some (.int x3), some (.int (0 : Int32)), none] [] h mc ms) : q_Ct l (d + 1) mL_next [.ref x0, .ref x1, .int x2, .int x3] h mc ms Q QX := by
  refine q_body (by decide ) (by intro v hm; simp only [List.mem_cons, List.not_mem_nil, or_false] at hm; rcases hm with rfl | rfl | rfl | rfl <;> rfl) (Nat.le_of_ble_eq_true rfl) ?_
  refine j_pad 2 rfl ?_
  refine j_iconst (v := (0 : Int32)) dL_next_0 (by decide) ?_
  refine j_istore dL_next_1 (by decide) rfl rfl ?_
  exact hv
set_option maxRecDepth 20000 in
set_option maxHeartbeats 4000000 in
theorem v_L_energy {l : Launch} {d mc ms : Nat} {Q : Option Value → qH → Prop} {QX : String → qH → Prop} (x0 : Nat) (x1 : Int32) (x2 : Int32) (x3 : Int32) {h : qH} (hv : qCI l (d + 0) mL_step [.ref x0, .int x1, .int x2, .int x3] h 0 0 (fun z2 h1 => qSL 3 x3 (fun z3 => qSL 2 x3 (fun z4 => qAL h1 x0 ((((24 : Int32) * (x2 + z3)) + x1) + z4) (fun z5 => qAL h1 x0 (((24 : Int32) * x2) + x1) (fun z6 => Q (some (.int (((4 : Int32) * z2) + ((2 : Int32) * (if (0 : Int32) < (z5 - z6) then (z5 - z6) else (0 : Int32)))))) h1)))))) : q_Ct l (d + 1) mL_energy [.ref x0, .int x1, .int x2, .int x3] h mc ms Q QX := by
  refine q_body (by decide ) (by intro v hm; simp only [List.mem_cons, List.not_mem_nil, or_false] at hm; rcases hm with rfl | rfl | rfl | rfl <;> rfl) (Nat.le_of_ble_eq_true rfl) ?_
  refine j_pad 0 rfl ?_
  refine j_iconst (v := (4 : Int32)) dL_energy_0 (by decide) ?_
  refine j_aload_n dL_energy_1 rfl rfl ?_
  refine j_iload_n dL_energy_2 rfl rfl ?_
  refine j_iload_n dL_energy_3 rfl rfl ?_
  refine j_iload_n dL_energy_4 rfl rfl ?_
  refine j_static (avs := [.ref x0, .int x1, .int x2, .int x3]) (rest := [.int (4 : Int32)]) (kc' := mc) (ks' := ms) dL_energy_5 mt_L_step w_m_L_48 w_st_L_step rfl rfl (Nat.le_of_ble_eq_true rfl) (Nat.le_refl _) (by omega) (by omega) hv (fun _ _ q9 => q9) ?_
  rintro _ h1 ⟨z2, rfl, hv⟩ -
  refine j_imul dL_energy_8 ?_
  refine j_iconst (v := (2 : Int32)) dL_energy_9 (by decide) ?_
  refine j_iconst (v := (0 : Int32)) dL_energy_10 (by decide) ?_
  refine j_aload_n dL_energy_11 rfl rfl ?_
  refine j_bipush (v := (24 : Int32)) dL_energy_12 (by decide) ?_
  refine j_iload_n dL_energy_14 rfl rfl ?_
  refine j_gets (k := 3) (by decide) w_f_L_45 dL_energy_15 ?_
  refine j_iload_n dL_energy_18 rfl rfl ?_
  obtain ⟨e1, hv⟩ := hv
  refine j_sald (k := 3) (by decide) dL_energy_19 e1 ?_
  generalize q_sF 3 _ = z3 at hv ⊢
  refine j_iadd dL_energy_20 ?_
  refine j_imul dL_energy_21 ?_
  refine j_iload_n dL_energy_22 rfl rfl ?_
  refine j_iadd dL_energy_23 ?_
  refine j_gets (k := 2) (by decide) w_f_L_41 dL_energy_24 ?_
  refine j_iload_n dL_energy_27 rfl rfl ?_
  obtain ⟨e1, hv⟩ := hv
  refine j_sald (k := 2) (by decide) dL_energy_28 e1 ?_
  generalize q_sF 2 _ = z4 at hv ⊢
  refine j_iadd dL_energy_29 ?_
  obtain ⟨N, f, e1, e2, hv⟩ := hv
  refine j_iald dL_energy_30 e1 e2 ?_
  generalize f _ = z5 at hv ⊢
  refine j_aload_n dL_energy_31 rfl rfl ?_
  refine j_bipush (v := (24 : Int32)) dL_energy_32 (by decide) ?_
  refine j_iload_n dL_energy_34 rfl rfl ?_
  refine j_imul dL_energy_35 ?_
  refine j_iload_n dL_energy_36 rfl rfl ?_
  refine j_iadd dL_energy_37 ?_
  obtain ⟨N, f, e1, e2, hv⟩ := hv
  refine j_iald dL_energy_38 e1 e2 ?_
  generalize f _ = z6 at hv ⊢
  refine j_isub dL_energy_39 ?_
  refine j_mmax dL_energy_40 w_m_L_24 w_st_max w_ini_Math w_co_max (Nat.le_of_ble_eq_true rfl) (by omega) ?_
  refine j_imul dL_energy_43 ?_
  refine j_iadd dL_energy_44 ?_
  exact j_iret dL_energy_45 rfl hv
set_option maxRecDepth 20000 in
set_option maxHeartbeats 4000000 in
theorem v_L_sees_126 {l : Launch} {d mc ms n0 kc ks : Nat} {Q : Option Value → qH → Prop} {QX : String → qH → Prop} (x0 : Nat) (x1 : Int32) (x2 : Int32) (x3 : Int32) (x4 : Int32) (x5 : Int32) (x6 : Int32) (x7 : Int32) (x8 : Int32) {h : qH} (hv : qIF ((((2 : Int32) * x5) * (x8 - x2)) ≤ ((((2 : Int32) * x6) * (x4 - x2)) + x5)) (qAL h x0 (((24 : Int32) * x2) + x1) (fun z1 => qAL h x0 (((24 : Int32) * x4) + x3) (fun z2 => qAL h x0 (((24 : Int32) * x2) + x1) (fun z3 => qDV x5 (qAL h x0 (((24 : Int32) * x8) + x7) (fun z4 => qIF (z4 ≤ ((z1 + (3 : Int32)) + ((((z2 - z3) - (3 : Int32)) * x6) / x5))) (q_J l (d + 1) mL_sees mc ms Q QX n0 21 [some (.ref x0), some (.int x1), some (.int x2), some (.int x3), some (.int x4), some (.int x5), some (.int (x6 + (1 : Int32))), none, none, none] [] h kc ks) (Q (some (.int (0 : Int32))) h))))))) (q_J l (d + 1) mL_sees mc ms Q QX n0 126 [some (.ref x0), some (.int x1), some (.int x2), some (.int x3), some (.int x4), some (.int x5), some (.int x6), some (.int x7), some (.int (x8 + (-1 : Int32))), none] [] h kc ks)) : q_J l (d + 1) mL_sees mc ms Q QX n0 126 [some (.ref x0), some (.int x1), some (.int x2), some (.int x3), some (.int x4), some (.int x5), some (.int x6), some (.int x7), some (.int x8), none] [] h kc ks := by
  refine j_iconst (v := (2 : Int32)) dL_sees_126 (by decide) ?_
  refine j_iload dL_sees_127 rfl ?_
  refine j_imul dL_sees_129 ?_
  refine j_iload dL_sees_130 rfl ?_
  refine j_iload_n dL_sees_132 rfl rfl ?_
  refine j_isub dL_sees_133 ?_
  refine j_imul dL_sees_134 ?_
  refine j_iconst (v := (2 : Int32)) dL_sees_135 (by decide) ?_
  refine j_iload dL_sees_136 rfl ?_
  refine j_imul dL_sees_138 ?_
  refine j_iload dL_sees_139 rfl ?_
  refine j_iload_n dL_sees_141 rfl rfl ?_
  refine j_isub dL_sees_142 ?_
  refine j_imul dL_sees_143 ?_
  refine j_iload dL_sees_144 rfl ?_
  refine j_iadd dL_sees_146 ?_
  refine j_icmp_le (tgt := 156) dL_sees_147 (by decide) (fun hc => ?_) (fun hc => ?_)
  · replace hv := hv.1 hc
    refine j_aload_n dL_sees_156 rfl rfl ?_
    refine j_bipush (v := (24 : Int32)) dL_sees_157 (by decide) ?_
    refine j_iload_n dL_sees_159 rfl rfl ?_
    refine j_imul dL_sees_160 ?_
    refine j_iload_n dL_sees_161 rfl rfl ?_
    refine j_iadd dL_sees_162 ?_
    obtain ⟨N, f, e1, e2, hv⟩ := hv
    refine j_iald dL_sees_163 e1 e2 ?_
    generalize f _ = z1 at hv ⊢
    refine j_iconst (v := (3 : Int32)) dL_sees_164 (by decide) ?_
    refine j_iadd dL_sees_165 ?_
    refine j_aload_n dL_sees_166 rfl rfl ?_
    refine j_bipush (v := (24 : Int32)) dL_sees_167 (by decide) ?_
    refine j_iload dL_sees_169 rfl ?_
    refine j_imul dL_sees_171 ?_
    refine j_iload_n dL_sees_172 rfl rfl ?_
    refine j_iadd dL_sees_173 ?_
    obtain ⟨N, f, e1, e2, hv⟩ := hv
    refine j_iald dL_sees_174 e1 e2 ?_
    generalize f _ = z2 at hv ⊢
    refine j_aload_n dL_sees_175 rfl rfl ?_
    refine j_bipush (v := (24 : Int32)) dL_sees_176 (by decide) ?_
    refine j_iload_n dL_sees_178 rfl rfl ?_
    refine j_imul dL_sees_179 ?_
    refine j_iload_n dL_sees_180 rfl rfl ?_
    refine j_iadd dL_sees_181 ?_
    obtain ⟨N, f, e1, e2, hv⟩ := hv
    refine j_iald dL_sees_182 e1 e2 ?_
    generalize f _ = z3 at hv ⊢
    refine j_isub dL_sees_183 ?_
    refine j_iconst (v := (3 : Int32)) dL_sees_184 (by decide) ?_
    refine j_isub dL_sees_185 ?_
    refine j_iload dL_sees_186 rfl ?_
    refine j_imul dL_sees_188 ?_
    refine j_iload dL_sees_189 rfl ?_
    obtain ⟨hz, hv⟩ := hv
    refine j_idiv dL_sees_191 hz ?_
    refine j_iadd dL_sees_192 ?_
    refine j_istore dL_sees_193 (by decide) rfl rfl ?_
    refine j_aload_n dL_sees_195 rfl rfl ?_
    refine j_bipush (v := (24 : Int32)) dL_sees_196 (by decide) ?_
    refine j_iload dL_sees_198 rfl ?_
    refine j_imul dL_sees_200 ?_
    refine j_iload dL_sees_201 rfl ?_
    refine j_iadd dL_sees_203 ?_
    obtain ⟨N, f, e1, e2, hv⟩ := hv
    refine j_iald dL_sees_204 e1 e2 ?_
    generalize f _ = z4 at hv ⊢
    refine j_iload dL_sees_205 rfl ?_
    refine j_icmp_le (tgt := 212) dL_sees_207 (by decide) (fun hc => ?_) (fun hc => ?_)
    · replace hv := hv.1 hc
      refine j_iinc (w := (x6 + (1 : Int32))) dL_sees_212 rfl (by rfl) (by decide) rfl rfl ?_
      refine j_goto (tgt := 21) dL_sees_215 (by decide) ?_
      refine j_mask [true, true, true, true, true, true, true, false, false, false] rfl ?_
      exact hv
    · replace hv := hv.2 hc
      refine j_iconst (v := (0 : Int32)) dL_sees_210 (by decide) ?_
      exact j_zret dL_sees_211 rfl (by decide) hv
  · replace hv := hv.2 hc
    refine j_iinc (w := (x8 + (-1 : Int32))) dL_sees_150 rfl (by rfl) (by decide) rfl rfl ?_
    refine j_goto (tgt := 126) dL_sees_153 (by decide) ?_
    exact hv
set_option maxRecDepth 20000 in
set_option maxHeartbeats 4000000 in
theorem v_L_sees_94 {l : Launch} {d mc ms n0 kc ks : Nat} {Q : Option Value → qH → Prop} {QX : String → qH → Prop} (x0 : Nat) (x1 : Int32) (x2 : Int32) (x3 : Int32) (x4 : Int32) (x5 : Int32) (x6 : Int32) (x7 : Int32) (x8 : Int32) {h : qH} (hv : qIF (((((2 : Int32) * x6) * (x4 - x2)) + x5) < (((2 : Int32) * x5) * ((x8 + (1 : Int32)) - x2))) (q_J l (d + 1) mL_sees mc ms Q QX n0 126 [some (.ref x0), some (.int x1), some (.int x2), some (.int x3), some (.int x4), some (.int x5), some (.int x6), some (.int x7), some (.int x8), none] [] h kc ks) (q_J l (d + 1) mL_sees mc ms Q QX n0 94 [some (.ref x0), some (.int x1), some (.int x2), some (.int x3), some (.int x4), some (.int x5), some (.int x6), some (.int x7), some (.int (x8 + (1 : Int32))), none] [] h kc ks)) : q_J l (d + 1) mL_sees mc ms Q QX n0 94 [some (.ref x0), some (.int x1), some (.int x2), some (.int x3), some (.int x4), some (.int x5), some (.int x6), some (.int x7), some (.int x8), none] [] h kc ks := by
  refine j_iconst (v := (2 : Int32)) dL_sees_94 (by decide) ?_
  refine j_iload dL_sees_95 rfl ?_
  refine j_imul dL_sees_97 ?_
  refine j_iload dL_sees_98 rfl ?_
  refine j_iconst (v := (1 : Int32)) dL_sees_100 (by decide) ?_
  refine j_iadd dL_sees_101 ?_
  refine j_iload_n dL_sees_102 rfl rfl ?_
  refine j_isub dL_sees_103 ?_
  refine j_imul dL_sees_104 ?_
  refine j_iconst (v := (2 : Int32)) dL_sees_105 (by decide) ?_
  refine j_iload dL_sees_106 rfl ?_
  refine j_imul dL_sees_108 ?_
  refine j_iload dL_sees_109 rfl ?_
  refine j_iload_n dL_sees_111 rfl rfl ?_
  refine j_isub dL_sees_112 ?_
  refine j_imul dL_sees_113 ?_
  refine j_iload dL_sees_114 rfl ?_
  refine j_iadd dL_sees_116 ?_
  refine j_icmp_gt (tgt := 126) dL_sees_117 (by decide) (fun hc => ?_) (fun hc => ?_)
  · replace hv := hv.1 hc
    exact hv
  · replace hv := hv.2 hc
    refine j_iinc (w := (x8 + (1 : Int32))) dL_sees_120 rfl (by rfl) (by decide) rfl rfl ?_
    refine j_goto (tgt := 94) dL_sees_123 (by decide) ?_
    exact hv
set_option maxRecDepth 20000 in
set_option maxHeartbeats 4000000 in
theorem v_L_sees_62 {l : Launch} {d mc ms n0 kc ks : Nat} {Q : Option Value → qH → Prop} {QX : String → qH → Prop} (x0 : Nat) (x1 : Int32) (x2 : Int32) (x3 : Int32) (x4 : Int32) (x5 : Int32) (x6 : Int32) (x7 : Int32) {h : qH} (hv : qIF ((((2 : Int32) * x5) * (x7 - x1)) ≤ ((((2 : Int32) * x6) * (x3 - x1)) + x5)) (q_J l (d + 1) mL_sees mc ms Q QX n0 94 [some (.ref x0), some (.int x1), some (.int x2), some (.int x3), some (.int x4), some (.int x5), some (.int x6), some (.int x7), some (.int x2), none] [] h kc ks) (q_J l (d + 1) mL_sees mc ms Q QX n0 62 [some (.ref x0), some (.int x1), some (.int x2), some (.int x3), some (.int x4), some (.int x5), some (.int x6), some (.int (x7 + (-1 : Int32))), none, none] [] h kc ks)) : q_J l (d + 1) mL_sees mc ms Q QX n0 62 [some (.ref x0), some (.int x1), some (.int x2), some (.int x3), some (.int x4), some (.int x5), some (.int x6), some (.int x7), none, none] [] h kc ks := by
  refine j_iconst (v := (2 : Int32)) dL_sees_62 (by decide) ?_
  refine j_iload dL_sees_63 rfl ?_
  refine j_imul dL_sees_65 ?_
  refine j_iload dL_sees_66 rfl ?_
  refine j_iload_n dL_sees_68 rfl rfl ?_
  refine j_isub dL_sees_69 ?_
  refine j_imul dL_sees_70 ?_
  refine j_iconst (v := (2 : Int32)) dL_sees_71 (by decide) ?_
  refine j_iload dL_sees_72 rfl ?_
  refine j_imul dL_sees_74 ?_
  refine j_iload_n dL_sees_75 rfl rfl ?_
  refine j_iload_n dL_sees_76 rfl rfl ?_
  refine j_isub dL_sees_77 ?_
  refine j_imul dL_sees_78 ?_
  refine j_iload dL_sees_79 rfl ?_
  refine j_iadd dL_sees_81 ?_
  refine j_icmp_le (tgt := 91) dL_sees_82 (by decide) (fun hc => ?_) (fun hc => ?_)
  · replace hv := hv.1 hc
    refine j_iload_n dL_sees_91 rfl rfl ?_
    refine j_istore dL_sees_92 (by decide) rfl rfl ?_
    exact hv
  · replace hv := hv.2 hc
    refine j_iinc (w := (x7 + (-1 : Int32))) dL_sees_85 rfl (by rfl) (by decide) rfl rfl ?_
    refine j_goto (tgt := 62) dL_sees_88 (by decide) ?_
    exact hv
set_option maxRecDepth 20000 in
set_option maxHeartbeats 4000000 in
theorem v_L_sees_31 {l : Launch} {d mc ms n0 kc ks : Nat} {Q : Option Value → qH → Prop} {QX : String → qH → Prop} (x0 : Nat) (x1 : Int32) (x2 : Int32) (x3 : Int32) (x4 : Int32) (x5 : Int32) (x6 : Int32) (x7 : Int32) {h : qH} (hv : qIF (((((2 : Int32) * x6) * (x3 - x1)) + x5) < (((2 : Int32) * x5) * ((x7 + (1 : Int32)) - x1))) (q_J l (d + 1) mL_sees mc ms Q QX n0 62 [some (.ref x0), some (.int x1), some (.int x2), some (.int x3), some (.int x4), some (.int x5), some (.int x6), some (.int x7), none, none] [] h kc ks) (q_J l (d + 1) mL_sees mc ms Q QX n0 31 [some (.ref x0), some (.int x1), some (.int x2), some (.int x3), some (.int x4), some (.int x5), some (.int x6), some (.int (x7 + (1 : Int32))), none, none] [] h kc ks)) : q_J l (d + 1) mL_sees mc ms Q QX n0 31 [some (.ref x0), some (.int x1), some (.int x2), some (.int x3), some (.int x4), some (.int x5), some (.int x6), some (.int x7), none, none] [] h kc ks := by
  refine j_iconst (v := (2 : Int32)) dL_sees_31 (by decide) ?_
  refine j_iload dL_sees_32 rfl ?_
  refine j_imul dL_sees_34 ?_
  refine j_iload dL_sees_35 rfl ?_
  refine j_iconst (v := (1 : Int32)) dL_sees_37 (by decide) ?_
  refine j_iadd dL_sees_38 ?_
  refine j_iload_n dL_sees_39 rfl rfl ?_
  refine j_isub dL_sees_40 ?_
  refine j_imul dL_sees_41 ?_
  refine j_iconst (v := (2 : Int32)) dL_sees_42 (by decide) ?_
  refine j_iload dL_sees_43 rfl ?_
  refine j_imul dL_sees_45 ?_
  refine j_iload_n dL_sees_46 rfl rfl ?_
  refine j_iload_n dL_sees_47 rfl rfl ?_
  refine j_isub dL_sees_48 ?_
  refine j_imul dL_sees_49 ?_
  refine j_iload dL_sees_50 rfl ?_
  refine j_iadd dL_sees_52 ?_
  refine j_icmp_gt (tgt := 62) dL_sees_53 (by decide) (fun hc => ?_) (fun hc => ?_)
  · replace hv := hv.1 hc
    exact hv
  · replace hv := hv.2 hc
    refine j_iinc (w := (x7 + (1 : Int32))) dL_sees_56 rfl (by rfl) (by decide) rfl rfl ?_
    refine j_goto (tgt := 31) dL_sees_59 (by decide) ?_
    exact hv
set_option maxRecDepth 20000 in
set_option maxHeartbeats 4000000 in
theorem v_L_sees_21 {l : Launch} {d mc ms n0 kc ks : Nat} {Q : Option Value → qH → Prop} {QX : String → qH → Prop} (x0 : Nat) (x1 : Int32) (x2 : Int32) (x3 : Int32) (x4 : Int32) (x5 : Int32) (x6 : Int32) {h : qH} (hv : qIF (x5 ≤ x6) (Q (some (.int (1 : Int32))) h) (q_J l (d + 1) mL_sees mc ms Q QX n0 31 [some (.ref x0), some (.int x1), some (.int x2), some (.int x3), some (.int x4), some (.int x5), some (.int x6), some (.int x1), none, none] [] h kc ks)) : q_J l (d + 1) mL_sees mc ms Q QX n0 21 [some (.ref x0), some (.int x1), some (.int x2), some (.int x3), some (.int x4), some (.int x5), some (.int x6), none, none, none] [] h kc ks := by
  refine j_iload dL_sees_21 rfl ?_
  refine j_iload dL_sees_23 rfl ?_
  refine j_icmp_ge (tgt := 218) dL_sees_25 (by decide) (fun hc => ?_) (fun hc => ?_)
  · replace hv := hv.1 hc
    refine j_iconst (v := (1 : Int32)) dL_sees_218 (by decide) ?_
    exact j_zret dL_sees_219 rfl (by decide) hv
  · replace hv := hv.2 hc
    refine j_iload_n dL_sees_28 rfl rfl ?_
    refine j_istore dL_sees_29 (by decide) rfl rfl ?_
    exact hv
set_option maxRecDepth 20000 in
set_option maxHeartbeats 4000000 in
theorem v_L_sees {l : Launch} {d mc ms : Nat} {Q : Option Value → qH → Prop} {QX : String → qH → Prop} (x0 : Nat) (x1 : Int32) (x2 : Int32) (x3 : Int32) (x4 : Int32) {h : qH} (hv : q_J l (d + 1) mL_sees mc ms Q QX h.2 21 [some (.ref x0), some (.int x1), some (.int x2), some (.int x3), some (.int x4), some (.int (if (if 0 ≤ (x3 - x1) then (x3 - x1) else 0 - (x3 - x1)) < (if 0 ≤ (x4 - x2) then (x4 - x2) else 0 - (x4 - x2)) then (if 0 ≤ (x4 - x2) then (x4 - x2) else 0 - (x4 - x2)) else (if 0 ≤ (x3 - x1) then (x3 - x1) else 0 - (x3 - x1)))), some (.int (1 : Int32)), none, none, none] [] h mc ms) : q_Ct l (d + 1) mL_sees [.ref x0, .int x1, .int x2, .int x3, .int x4] h mc ms Q QX := by
  refine q_body (by decide ) (by intro v hm; simp only [List.mem_cons, List.not_mem_nil, or_false] at hm; rcases hm with rfl | rfl | rfl | rfl | rfl <;> rfl) (Nat.le_of_ble_eq_true rfl) ?_
  refine j_pad 5 rfl ?_
  refine j_iload_n dL_sees_0 rfl rfl ?_
  refine j_iload_n dL_sees_1 rfl rfl ?_
  refine j_isub dL_sees_2 ?_
  refine j_mabs dL_sees_3 w_m_L_52 w_st_abs w_ini_Math w_co_abs (Nat.le_of_ble_eq_true rfl) (by omega) ?_
  refine j_iload dL_sees_6 rfl ?_
  refine j_iload_n dL_sees_8 rfl rfl ?_
  refine j_isub dL_sees_9 ?_
  refine j_mabs dL_sees_10 w_m_L_52 w_st_abs w_ini_Math w_co_abs (Nat.le_of_ble_eq_true rfl) (by omega) ?_
  refine j_mmax dL_sees_13 w_m_L_24 w_st_max w_ini_Math w_co_max (Nat.le_of_ble_eq_true rfl) (by omega) ?_
  refine j_istore dL_sees_16 (by decide) rfl rfl ?_
  refine j_iconst (v := (1 : Int32)) dL_sees_18 (by decide) ?_
  refine j_istore dL_sees_19 (by decide) rfl rfl ?_
  exact hv
set_option maxRecDepth 20000 in
set_option maxHeartbeats 4000000 in
theorem v_L_build_287 {l : Launch} {d mc ms n0 kc ks : Nat} {Q : Option Value → qH → Prop} {QX : String → qH → Prop} (x0 : Nat) (x2 : Nat) (x3 : Int32) (x4 : Int32) (x5 : Int32) (x6 : Int32) (x7 : Int32) (x8 : Int32) (x9 : Int32) (x10 : Int32) {h : qH} (hv : qIF (x8 ≤ x10) (q_J l (d + 8) mL_build mc ms Q QX n0 200 [some (.ref x0), some (.float 4), some (.ref x2), some (.int x3), some (.int x4), some (.int (x5 + (1 : Int32))), none, none, none, none, none] [] h kc ks) (qGR h x2 10 6 (fun r1 => qGR h x2 10 6 (fun r2 => qAL h r2 x10 (fun z3 => qAS h r1 x10 (if z3 < x9 then x9 else z3) (fun h5 => q_J l (d + 8) mL_build mc ms Q QX n0 287 [some (.ref x0), some (.float 4), some (.ref x2), some (.int x3), some (.int x4), some (.int x5), some (.int x6), some (.int x7), some (.int x8), some (.int x9), some (.int (x10 + (1 : Int32)))] [] h5 kc ks)))))) : q_J l (d + 8) mL_build mc ms Q QX n0 287 [some (.ref x0), some (.float 4), some (.ref x2), some (.int x3), some (.int x4), some (.int x5), some (.int x6), some (.int x7), some (.int x8), some (.int x9), some (.int x10)] [] h kc ks := by
  refine j_iload dL_build_287 rfl ?_
  refine j_iload dL_build_289 rfl ?_
  refine j_icmp_ge (tgt := 319) dL_build_291 (by decide) (fun hc => ?_) (fun hc => ?_)
  · replace hv := hv.1 hc
    refine j_iinc (w := (x5 + (1 : Int32))) dL_build_319 rfl (by rfl) (by decide) rfl rfl ?_
    refine j_goto (tgt := 200) dL_build_322 (by decide) ?_
    refine j_mask [true, true, true, true, true, true, false, false, false, false, false] rfl ?_
    exact hv
  · replace hv := hv.2 hc
    refine j_aload_n dL_build_294 rfl rfl ?_
    obtain ⟨fs, r1, e1, e2, hv⟩ := hv
    refine j_getf (k := 6) cl_X10 (by decide) w_f_L_77 dL_build_295 e1 e2 ?_
    refine j_iload dL_build_298 rfl ?_
    refine j_aload_n dL_build_300 rfl rfl ?_
    obtain ⟨fs, r2, e1, e2, hv⟩ := hv
    refine j_getf (k := 6) cl_X10 (by decide) w_f_L_77 dL_build_301 e1 e2 ?_
    refine j_iload dL_build_304 rfl ?_
    obtain ⟨N, f, e1, e2, hv⟩ := hv
    refine j_iald dL_build_306 e1 e2 ?_
    generalize f _ = z3 at hv ⊢
    refine j_iload dL_build_307 rfl ?_
    refine j_mmax dL_build_309 w_m_L_24 w_st_max w_ini_Math w_co_max (Nat.le_of_ble_eq_true rfl) (by omega) ?_
    obtain ⟨N, f, e1, e2, hv⟩ := hv
    refine j_iast dL_build_312 e1 e2 ?_
    generalize q_set h r1 _ = h5 at hv ⊢
    refine j_iinc (w := (x10 + (1 : Int32))) dL_build_313 rfl (by rfl) (by decide) rfl rfl ?_
    refine j_goto (tgt := 287) dL_build_316 (by decide) ?_
    exact hv
set_option maxRecDepth 20000 in
set_option maxHeartbeats 4000000 in
theorem v_L_build_200 {l : Launch} {d mc ms n0 kc ks : Nat} {Q : Option Value → qH → Prop} {QX : String → qH → Prop} (hkc : 1 ≤ kc) (hks : 6 ≤ ks) (x0 : Nat) (x2 : Nat) (x3 : Int32) (x4 : Int32) (x5 : Int32) {h : qH} (hv : qIF (x4 ≤ x5) (qCI l (d + 7) mL_cell [.float 4, .int (8 : Int32)] h 0 0 (fun z2 h1 => qCI l (d + 7) mL_below [.int (z2 >>> ((7 : Int32) &&& 31)), .int (3 : Int32)] h1 0 0 (fun z4 h3 => qIF (z4 = 0) (qGR h3 x2 10 0 (fun r5 => qCI l (d + 7) mL_cell [.float 4, .int (13 : Int32)] h3 0 0 (fun z7 h6 => qCI l (d + 7) mL_below [.int z7, .int (3000 : Int32)] h6 0 0 (fun z9 h8 => qAS h8 r5 (8 : Int32) ((100 : Int32) + z9) (fun h10 => qCI l (d + 7) mL_cell [.float 4, .int (13 : Int32)] h10 0 0 (fun z12 h11 => qCI l (d + 7) mL_below [.int (z12 >>> ((5 : Int32) &&& 31)), .int (400 : Int32)] h11 0 0 (fun z14 h13 => qPI h13 x2 10 5 ((40 : Int32) + z14) (fun h15 => qGR h15 x2 10 0 (fun r16 => qGR h15 x2 10 0 (fun r17 => qAL h15 r17 (8 : Int32) (fun z18 => qAS h15 r16 (3 : Int32) (if z18 < (3000 : Int32) then z18 else (3000 : Int32)) (fun h20 => qGR h20 x2 10 0 (fun r21 => qAL h20 r21 (8 : Int32) (fun z22 => qGI h20 x2 10 5 (fun z23 => qOB h20 x0 9 (qCI l (d + 7) mX9_setRover [.ref x0, .int z22, .int z23] h20 1 6 (fun z25 h24 => qIF (z25 = (4000 : Int32)) (Q (some (.ref x2)) h24) (False)))))))))))))))))) (Q (some (.ref x2)) h3)))) (qCI l (d + 7) mL_cell [.float 4, .int (12 : Int32)] h 0 0 (fun z27 h26 => qCI l (d + 7) mL_below [.int (z27 >>> (((5 : Int32) * x5) &&& 31)), .int (1400 : Int32)] h26 0 0 (fun z29 h28 => qCI l (d + 7) mL_below [.int ((z27 >>> (((5 : Int32) * x5) &&& 31)) >>> ((3 : Int32) &&& 31)), .int ((1440 : Int32) - z29)] h28 0 0 (fun z31 h30 => qCI l (d + 7) mL_below [.int ((z27 >>> (((5 : Int32) * x5) &&& 31)) >>> ((7 : Int32) &&& 31)), .int (20 : Int32)] h30 0 0 (fun z33 h32 => qOB h32 x0 9 (qCI l (d + 7) mX9_addPass [.ref x0, .int z29, .int ((z29 + (1 : Int32)) + z31), .int ((1 : Int32) + z33)] h32 1 6 (fun z35 h34 => qIF (z35 = (x5 + (1 : Int32))) (q_J l (d + 8) mL_build mc ms Q QX n0 287 [some (.ref x0), some (.float 4), some (.ref x2), some (.int x3), some (.int x4), some (.int x5), some (.int (z27 >>> (((5 : Int32) * x5) &&& 31))), some (.int z29), some (.int ((z29 + (1 : Int32)) + z31)), some (.int ((1 : Int32) + z33)), some (.int z29)] [] h34 (kc - 1) (ks - 6)) (False))))))))) : q_J l (d + 8) mL_build mc ms Q QX n0 200 [some (.ref x0), some (.float 4), some (.ref x2), some (.int x3), some (.int x4), some (.int x5), none, none, none, none, none] [] h kc ks := by
  refine j_iload dL_build_200 rfl ?_
  refine j_iload dL_build_202 rfl ?_
  refine j_icmp_ge (tgt := 325) dL_build_204 (by decide) (fun hc => ?_) (fun hc => ?_)
  · replace hv := hv.1 hc
    refine j_aload_nF dL_build_325 rfl rfl ?_
    refine j_bipush (v := (8 : Int32)) dL_build_326 (by decide) ?_
    refine j_static (avs := [.float 4, .int (8 : Int32)]) (rest := []) (kc' := kc) (ks' := ks) dL_build_328 mt_L_cell w_m_L_9 w_st_L_cell rfl rfl (Nat.le_of_ble_eq_true rfl) (Nat.le_refl _) (by omega) (by omega) hv (fun _ _ q9 => q9) ?_
    rintro _ h1 ⟨z2, rfl, hv⟩ -
    refine j_bipush (v := (7 : Int32)) dL_build_331 (by decide) ?_
    refine j_ishr dL_build_333 ?_
    refine j_iconst (v := (3 : Int32)) dL_build_334 (by decide) ?_
    refine j_static (avs := [.int (z2 >>> ((7 : Int32) &&& 31)), .int (3 : Int32)]) (rest := []) (kc' := kc) (ks' := ks) dL_build_335 mt_L_below w_m_L_15 w_st_L_below rfl rfl (Nat.le_of_ble_eq_true rfl) (Nat.le_refl _) (by omega) (by omega) hv (fun _ _ q9 => q9) ?_
    rintro _ h3 ⟨z4, rfl, hv⟩ -
    refine j_if_ne (tgt := 426) dL_build_338 (by decide) (fun hc => ?_) (fun hc => ?_)
    · replace hv := hv.2 hc
      refine j_aload_n dL_build_426 rfl rfl ?_
      exact j_aret dL_build_427 rfl (Or.inl ⟨_, rfl⟩) hv
    · replace hv := hv.1 hc
      refine j_aload_n dL_build_341 rfl rfl ?_
      obtain ⟨fs, r5, e1, e2, hv⟩ := hv
      refine j_getf (k := 0) cl_X10 (by decide) w_f_L_80 dL_build_342 e1 e2 ?_
      refine j_bipush (v := (8 : Int32)) dL_build_345 (by decide) ?_
      refine j_bipush (v := (100 : Int32)) dL_build_347 (by decide) ?_
      refine j_aload_nF dL_build_349 rfl rfl ?_
      refine j_bipush (v := (13 : Int32)) dL_build_350 (by decide) ?_
      refine j_static (avs := [.float 4, .int (13 : Int32)]) (rest := [.int (100 : Int32), .int (8 : Int32), .ref r5]) (kc' := kc) (ks' := ks) dL_build_352 mt_L_cell w_m_L_9 w_st_L_cell rfl rfl (Nat.le_of_ble_eq_true rfl) (Nat.le_refl _) (by omega) (by omega) hv (fun _ _ q9 => q9) ?_
      rintro _ h6 ⟨z7, rfl, hv⟩ -
      refine j_sipush (v := (3000 : Int32)) dL_build_355 (by decide) ?_
      refine j_static (avs := [.int z7, .int (3000 : Int32)]) (rest := [.int (100 : Int32), .int (8 : Int32), .ref r5]) (kc' := kc) (ks' := ks) dL_build_358 mt_L_below w_m_L_15 w_st_L_below rfl rfl (Nat.le_of_ble_eq_true rfl) (Nat.le_refl _) (by omega) (by omega) hv (fun _ _ q9 => q9) ?_
      rintro _ h8 ⟨z9, rfl, hv⟩ -
      refine j_iadd dL_build_361 ?_
      obtain ⟨N, f, e1, e2, hv⟩ := hv
      refine j_iast dL_build_362 e1 e2 ?_
      generalize q_set h8 r5 _ = h10 at hv ⊢
      refine j_aload_n dL_build_363 rfl rfl ?_
      refine j_bipush (v := (40 : Int32)) dL_build_364 (by decide) ?_
      refine j_aload_nF dL_build_366 rfl rfl ?_
      refine j_bipush (v := (13 : Int32)) dL_build_367 (by decide) ?_
      refine j_static (avs := [.float 4, .int (13 : Int32)]) (rest := [.int (40 : Int32), .ref x2]) (kc' := kc) (ks' := ks) dL_build_369 mt_L_cell w_m_L_9 w_st_L_cell rfl rfl (Nat.le_of_ble_eq_true rfl) (Nat.le_refl _) (by omega) (by omega) hv (fun _ _ q9 => q9) ?_
      rintro _ h11 ⟨z12, rfl, hv⟩ -
      refine j_iconst (v := (5 : Int32)) dL_build_372 (by decide) ?_
      refine j_ishr dL_build_373 ?_
      refine j_sipush (v := (400 : Int32)) dL_build_374 (by decide) ?_
      refine j_static (avs := [.int (z12 >>> ((5 : Int32) &&& 31)), .int (400 : Int32)]) (rest := [.int (40 : Int32), .ref x2]) (kc' := kc) (ks' := ks) dL_build_377 mt_L_below w_m_L_15 w_st_L_below rfl rfl (Nat.le_of_ble_eq_true rfl) (Nat.le_refl _) (by omega) (by omega) hv (fun _ _ q9 => q9) ?_
      rintro _ h13 ⟨z14, rfl, hv⟩ -
      refine j_iadd dL_build_380 ?_
      obtain ⟨fs, e1, e2, hv⟩ := hv
      refine j_put (k := 5) (ty0 := tyX10) cl_X10 (pf_X10_5) w_f_L_83 dL_build_381 (fun g ad => q_nI g ad _) e1 e2 ?_
      generalize q_set h13 x2 _ = h15 at hv ⊢
      refine j_aload_n dL_build_384 rfl rfl ?_
      obtain ⟨fs, r16, e1, e2, hv⟩ := hv
      refine j_getf (k := 0) cl_X10 (by decide) w_f_L_80 dL_build_385 e1 e2 ?_
      refine j_iconst (v := (3 : Int32)) dL_build_388 (by decide) ?_
      refine j_sipush (v := (3000 : Int32)) dL_build_389 (by decide) ?_
      refine j_aload_n dL_build_392 rfl rfl ?_
      obtain ⟨fs, r17, e1, e2, hv⟩ := hv
      refine j_getf (k := 0) cl_X10 (by decide) w_f_L_80 dL_build_393 e1 e2 ?_
      refine j_bipush (v := (8 : Int32)) dL_build_396 (by decide) ?_
      obtain ⟨N, f, e1, e2, hv⟩ := hv
      refine j_iald dL_build_398 e1 e2 ?_
      generalize f _ = z18 at hv ⊢
      refine j_mmin dL_build_399 w_m_L_19 w_st_min w_ini_Math w_co_min (Nat.le_of_ble_eq_true rfl) (by omega) ?_
      obtain ⟨N, f, e1, e2, hv⟩ := hv
      refine j_iast dL_build_402 e1 e2 ?_
      generalize q_set h15 r16 _ = h20 at hv ⊢
      refine j_aload_n dL_build_403 rfl rfl ?_
      refine j_aload_n dL_build_404 rfl rfl ?_
      obtain ⟨fs, r21, e1, e2, hv⟩ := hv
      refine j_getf (k := 0) cl_X10 (by decide) w_f_L_80 dL_build_405 e1 e2 ?_
      refine j_bipush (v := (8 : Int32)) dL_build_408 (by decide) ?_
      obtain ⟨N, f, e1, e2, hv⟩ := hv
      refine j_iald dL_build_410 e1 e2 ?_
      generalize f _ = z22 at hv ⊢
      refine j_aload_n dL_build_411 rfl rfl ?_
      obtain ⟨fs, z23, e1, e2, hv⟩ := hv
      refine j_getf (k := 5) cl_X10 (by decide) w_f_L_83 dL_build_412 e1 e2 ?_
      obtain ⟨⟨fs, e1⟩, hv⟩ := hv
      refine j_virtual (avs := [.int z22, .int z23]) (rest := []) (i := x0) (kc' := (kc - 1)) (ks' := (ks - 6)) dL_build_415 mt_X9_setRover w_m_L_87 w_in_X9_setRover w_se_X9_setRover rfl rfl (Nat.le_of_ble_eq_true rfl) (Nat.le_refl _) (by omega) (by omega) cl_X9.1 e1 hv (fun _ _ q9 => q9) ?_
      rintro _ h24 ⟨z25, rfl, hv⟩ -
      refine j_sipush (v := (4000 : Int32)) dL_build_418 (by decide) ?_
      refine j_icmp_eq (tgt := 426) dL_build_421 (by decide) (fun hc => ?_) (fun hc => ?_)
      · replace hv := hv.1 hc
        refine j_aload_n dL_build_426 rfl rfl ?_
        exact j_aret dL_build_427 rfl (Or.inl ⟨_, rfl⟩) hv
      · replace hv := hv.2 hc
        refine j_null dL_build_424 ?_
        exact hv.elim
  · replace hv := hv.2 hc
    refine j_aload_nF dL_build_207 rfl rfl ?_
    refine j_bipush (v := (12 : Int32)) dL_build_208 (by decide) ?_
    refine j_static (avs := [.float 4, .int (12 : Int32)]) (rest := []) (kc' := kc) (ks' := ks) dL_build_210 mt_L_cell w_m_L_9 w_st_L_cell rfl rfl (Nat.le_of_ble_eq_true rfl) (Nat.le_refl _) (by omega) (by omega) hv (fun _ _ q9 => q9) ?_
    rintro _ h26 ⟨z27, rfl, hv⟩ -
    refine j_iconst (v := (5 : Int32)) dL_build_213 (by decide) ?_
    refine j_iload dL_build_214 rfl ?_
    refine j_imul dL_build_216 ?_
    refine j_ishr dL_build_217 ?_
    refine j_istore dL_build_218 (by decide) rfl rfl ?_
    refine j_iload dL_build_220 rfl ?_
    refine j_sipush (v := (1400 : Int32)) dL_build_222 (by decide) ?_
    refine j_static (avs := [.int (z27 >>> (((5 : Int32) * x5) &&& 31)), .int (1400 : Int32)]) (rest := []) (kc' := kc) (ks' := ks) dL_build_225 mt_L_below w_m_L_15 w_st_L_below rfl rfl (Nat.le_of_ble_eq_true rfl) (Nat.le_refl _) (by omega) (by omega) hv (fun _ _ q9 => q9) ?_
    rintro _ h28 ⟨z29, rfl, hv⟩ -
    refine j_istore dL_build_228 (by decide) rfl rfl ?_
    refine j_iload dL_build_230 rfl ?_
    refine j_iconst (v := (1 : Int32)) dL_build_232 (by decide) ?_
    refine j_iadd dL_build_233 ?_
    refine j_iload dL_build_234 rfl ?_
    refine j_iconst (v := (3 : Int32)) dL_build_236 (by decide) ?_
    refine j_ishr dL_build_237 ?_
    refine j_sipush (v := (1440 : Int32)) dL_build_238 (by decide) ?_
    refine j_iload dL_build_241 rfl ?_
    refine j_isub dL_build_243 ?_
    refine j_static (avs := [.int ((z27 >>> (((5 : Int32) * x5) &&& 31)) >>> ((3 : Int32) &&& 31)), .int ((1440 : Int32) - z29)]) (rest := [.int (z29 + (1 : Int32))]) (kc' := kc) (ks' := ks) dL_build_244 mt_L_below w_m_L_15 w_st_L_below rfl rfl (Nat.le_of_ble_eq_true rfl) (Nat.le_refl _) (by omega) (by omega) hv (fun _ _ q9 => q9) ?_
    rintro _ h30 ⟨z31, rfl, hv⟩ -
    refine j_iadd dL_build_247 ?_
    refine j_istore dL_build_248 (by decide) rfl rfl ?_
    refine j_iconst (v := (1 : Int32)) dL_build_250 (by decide) ?_
    refine j_iload dL_build_251 rfl ?_
    refine j_bipush (v := (7 : Int32)) dL_build_253 (by decide) ?_
    refine j_ishr dL_build_255 ?_
    refine j_bipush (v := (20 : Int32)) dL_build_256 (by decide) ?_
    refine j_static (avs := [.int ((z27 >>> (((5 : Int32) * x5) &&& 31)) >>> ((7 : Int32) &&& 31)), .int (20 : Int32)]) (rest := [.int (1 : Int32)]) (kc' := kc) (ks' := ks) dL_build_258 mt_L_below w_m_L_15 w_st_L_below rfl rfl (Nat.le_of_ble_eq_true rfl) (Nat.le_refl _) (by omega) (by omega) hv (fun _ _ q9 => q9) ?_
    rintro _ h32 ⟨z33, rfl, hv⟩ -
    refine j_iadd dL_build_261 ?_
    refine j_istore dL_build_262 (by decide) rfl rfl ?_
    refine j_aload_n dL_build_264 rfl rfl ?_
    refine j_iload dL_build_265 rfl ?_
    refine j_iload dL_build_267 rfl ?_
    refine j_iload dL_build_269 rfl ?_
    obtain ⟨⟨fs, e1⟩, hv⟩ := hv
    refine j_virtual (avs := [.int z29, .int ((z29 + (1 : Int32)) + z31), .int ((1 : Int32) + z33)]) (rest := []) (i := x0) (kc' := (kc - 1)) (ks' := (ks - 6)) dL_build_271 mt_X9_addPass w_m_L_73 w_in_X9_addPass w_se_X9_addPass rfl rfl (Nat.le_of_ble_eq_true rfl) (Nat.le_refl _) (by omega) (by omega) cl_X9.1 e1 hv (fun _ _ q9 => q9) ?_
    rintro _ h34 ⟨z35, rfl, hv⟩ -
    refine j_iload dL_build_274 rfl ?_
    refine j_iconst (v := (1 : Int32)) dL_build_276 (by decide) ?_
    refine j_iadd dL_build_277 ?_
    refine j_icmp_eq (tgt := 283) dL_build_278 (by decide) (fun hc => ?_) (fun hc => ?_)
    · replace hv := hv.1 hc
      refine j_iload dL_build_283 rfl ?_
      refine j_istore dL_build_285 (by decide) rfl rfl ?_
      exact hv
    · replace hv := hv.2 hc
      refine j_null dL_build_281 ?_
      exact hv.elim
set_option maxRecDepth 20000 in
set_option maxHeartbeats 4000000 in
theorem v_L_build_43 {l : Launch} {d mc ms n0 kc ks : Nat} {Q : Option Value → qH → Prop} {QX : String → qH → Prop} (hkc : 2 ≤ kc) (hks : 10 ≤ ks) (x0 : Nat) (x2 : Nat) (x3 : Int32) (x4 : Int32) {h : qH} (hv : qIF (x3 ≤ x4) (qCI l (d + 7) mL_cell [.float 4, .int (8 : Int32)] h 0 0 (fun z2 h1 => qCI l (d + 7) mL_below [.int (z2 >>> ((4 : Int32) &&& 31)), .int (4 : Int32)] h1 0 0 (fun z4 h3 => q_J l (d + 8) mL_build mc ms Q QX n0 200 [some (.ref x0), some (.float 4), some (.ref x2), some (.int x3), some (.int z4), some (.int (0 : Int32)), none, none, none, none, none] [] h3 kc ks))) (qCI l (d + 7) mL_cell [.float 4, .int ((9 : Int32) + (x4 - x4 / (3 : Int32) * (3 : Int32)))] h 0 0 (fun z6 h5 => qGR h5 x2 10 8 (fun r7 => qNI h5 4 (fun r8 h9 => qCI l (d + 7) mL_below [.int (z6 >>> (((x4 / (3 : Int32)) * (9 : Int32)) &&& 31)), .int (9 : Int32)] h9 0 0 (fun z11 h10 => qAS h10 r8 (0 : Int32) z11 (fun h12 => qCI l (d + 7) mL_below [.int ((z6 >>> (((x4 / (3 : Int32)) * (9 : Int32)) &&& 31)) >>> ((3 : Int32) &&& 31)), .int (9 : Int32)] h12 0 0 (fun z14 h13 => qAS h13 r8 (1 : Int32) z14 (fun h15 => qCI l (d + 7) mL_below [.int ((z6 >>> (((x4 / (3 : Int32)) * (9 : Int32)) &&& 31)) >>> ((5 : Int32) &&& 31)), .int (100 : Int32)] h15 0 0 (fun z17 h16 => qAS h16 r8 (2 : Int32) ((1 : Int32) + z17) (fun h18 => qCI l (d + 7) mL_below [.int ((z6 >>> (((x4 / (3 : Int32)) * (9 : Int32)) &&& 31)) >>> ((7 : Int32) &&& 31)), .int (4 : Int32)] h18 0 0 (fun z20 h19 => qAS h19 r8 (3 : Int32) ((1 : Int32) + z20) (fun h21 => qA4 h21 r7 x4 r8 (fun h22 => qGR h22 x2 10 8 (fun r23 => qO4 h22 r23 x4 (fun r24 => qAL h22 r24 (0 : Int32) (fun z25 => qGR h22 x2 10 8 (fun r26 => qO4 h22 r26 x4 (fun r27 => qAL h22 r27 (1 : Int32) (fun z28 => qGR h22 x2 10 8 (fun r29 => qO4 h22 r29 x4 (fun r30 => qAL h22 r30 (2 : Int32) (fun z31 => qGR h22 x2 10 8 (fun r32 => qO4 h22 r32 x4 (fun r33 => qAL h22 r33 (3 : Int32) (fun z34 => qOB h22 x0 9 (qCI l (d + 7) mX9_addTarget [.ref x0, .int z25, .int z28, .int z31, .int z34] h22 1 6 (fun z36 h35 => qIF (z36 = x4) (q_J l (d + 8) mL_build mc ms Q QX n0 43 [some (.ref x0), some (.float 4), some (.ref x2), some (.int x3), some (.int (x4 + (1 : Int32))), none, none, none, none, none, none] [] h35 (kc - 2) (ks - 10)) (False))))))))))))))))))))))))))))) : q_J l (d + 8) mL_build mc ms Q QX n0 43 [some (.ref x0), some (.float 4), some (.ref x2), some (.int x3), some (.int x4), none, none, none, none, none, none] [] h kc ks := by
  refine j_iload dL_build_43 rfl ?_
  refine j_iload_n dL_build_45 rfl rfl ?_
  refine j_icmp_ge (tgt := 183) dL_build_46 (by decide) (fun hc => ?_) (fun hc => ?_)
  · replace hv := hv.1 hc
    refine j_aload_nF dL_build_183 rfl rfl ?_
    refine j_bipush (v := (8 : Int32)) dL_build_184 (by decide) ?_
    refine j_static (avs := [.float 4, .int (8 : Int32)]) (rest := []) (kc' := kc) (ks' := ks) dL_build_186 mt_L_cell w_m_L_9 w_st_L_cell rfl rfl (Nat.le_of_ble_eq_true rfl) (Nat.le_refl _) (by omega) (by omega) hv (fun _ _ q9 => q9) ?_
    rintro _ h1 ⟨z2, rfl, hv⟩ -
    refine j_iconst (v := (4 : Int32)) dL_build_189 (by decide) ?_
    refine j_ishr dL_build_190 ?_
    refine j_iconst (v := (4 : Int32)) dL_build_191 (by decide) ?_
    refine j_static (avs := [.int (z2 >>> ((4 : Int32) &&& 31)), .int (4 : Int32)]) (rest := []) (kc' := kc) (ks' := ks) dL_build_192 mt_L_below w_m_L_15 w_st_L_below rfl rfl (Nat.le_of_ble_eq_true rfl) (Nat.le_refl _) (by omega) (by omega) hv (fun _ _ q9 => q9) ?_
    rintro _ h3 ⟨z4, rfl, hv⟩ -
    refine j_istore dL_build_195 (by decide) rfl rfl ?_
    refine j_iconst (v := (0 : Int32)) dL_build_197 (by decide) ?_
    refine j_istore dL_build_198 (by decide) rfl rfl ?_
    exact hv
  · replace hv := hv.2 hc
    refine j_aload_nF dL_build_49 rfl rfl ?_
    refine j_bipush (v := (9 : Int32)) dL_build_50 (by decide) ?_
    refine j_iload dL_build_52 rfl ?_
    refine j_iconst (v := (3 : Int32)) dL_build_54 (by decide) ?_
    refine j_irem dL_build_55 (by decide) ?_
    refine j_iadd dL_build_56 ?_
    refine j_static (avs := [.float 4, .int ((9 : Int32) + (x4 - x4 / (3 : Int32) * (3 : Int32)))]) (rest := []) (kc' := kc) (ks' := ks) dL_build_57 mt_L_cell w_m_L_9 w_st_L_cell rfl rfl (Nat.le_of_ble_eq_true rfl) (Nat.le_refl _) (by omega) (by omega) hv (fun _ _ q9 => q9) ?_
    rintro _ h5 ⟨z6, rfl, hv⟩ -
    refine j_iload dL_build_60 rfl ?_
    refine j_iconst (v := (3 : Int32)) dL_build_62 (by decide) ?_
    refine j_idiv dL_build_63 (by decide) ?_
    refine j_bipush (v := (9 : Int32)) dL_build_64 (by decide) ?_
    refine j_imul dL_build_66 ?_
    refine j_ishr dL_build_67 ?_
    refine j_istore dL_build_68 (by decide) rfl rfl ?_
    refine j_aload_n dL_build_70 rfl rfl ?_
    obtain ⟨fs, r7, e1, e2, hv⟩ := hv
    refine j_getf (k := 8) cl_X10 (by decide) w_f_L_65 dL_build_71 e1 e2 ?_
    refine j_iload dL_build_74 rfl ?_
    refine j_iconst (v := (4 : Int32)) dL_build_76 (by decide) ?_
    refine jj_newI (N := 4) w_ar_int dL_build_77 (by decide) (by decide) (by decide) (kc' := (kc - 1)) (ks' := (ks - 4)) (by omega) (by omega) hv (fun r8 h9 hv => ?_)
    refine j_dup dL_build_79 rfl ?_
    refine j_iconst (v := (0 : Int32)) dL_build_80 (by decide) ?_
    refine j_iload dL_build_81 rfl ?_
    refine j_bipush (v := (9 : Int32)) dL_build_83 (by decide) ?_
    refine j_static (avs := [.int (z6 >>> (((x4 / (3 : Int32)) * (9 : Int32)) &&& 31)), .int (9 : Int32)]) (rest := [.int (0 : Int32), .ref r8, .ref r8, .int x4, .ref r7]) (kc' := (kc - 1)) (ks' := (ks - 4)) dL_build_85 mt_L_below w_m_L_15 w_st_L_below rfl rfl (Nat.le_of_ble_eq_true rfl) (Nat.le_refl _) (by omega) (by omega) hv (fun _ _ q9 => q9) ?_
    rintro _ h10 ⟨z11, rfl, hv⟩ -
    obtain ⟨N, f, e1, e2, hv⟩ := hv
    refine j_iast dL_build_88 e1 e2 ?_
    generalize q_set h10 r8 _ = h12 at hv ⊢
    refine j_dup dL_build_89 rfl ?_
    refine j_iconst (v := (1 : Int32)) dL_build_90 (by decide) ?_
    refine j_iload dL_build_91 rfl ?_
    refine j_iconst (v := (3 : Int32)) dL_build_93 (by decide) ?_
    refine j_ishr dL_build_94 ?_
    refine j_bipush (v := (9 : Int32)) dL_build_95 (by decide) ?_
    refine j_static (avs := [.int ((z6 >>> (((x4 / (3 : Int32)) * (9 : Int32)) &&& 31)) >>> ((3 : Int32) &&& 31)), .int (9 : Int32)]) (rest := [.int (1 : Int32), .ref r8, .ref r8, .int x4, .ref r7]) (kc' := (kc - 1)) (ks' := (ks - 4)) dL_build_97 mt_L_below w_m_L_15 w_st_L_below rfl rfl (Nat.le_of_ble_eq_true rfl) (Nat.le_refl _) (by omega) (by omega) hv (fun _ _ q9 => q9) ?_
    rintro _ h13 ⟨z14, rfl, hv⟩ -
    obtain ⟨N, f, e1, e2, hv⟩ := hv
    refine j_iast dL_build_100 e1 e2 ?_
    generalize q_set h13 r8 _ = h15 at hv ⊢
    refine j_dup dL_build_101 rfl ?_
    refine j_iconst (v := (2 : Int32)) dL_build_102 (by decide) ?_
    refine j_iconst (v := (1 : Int32)) dL_build_103 (by decide) ?_
    refine j_iload dL_build_104 rfl ?_
    refine j_iconst (v := (5 : Int32)) dL_build_106 (by decide) ?_
    refine j_ishr dL_build_107 ?_
    refine j_bipush (v := (100 : Int32)) dL_build_108 (by decide) ?_
    refine j_static (avs := [.int ((z6 >>> (((x4 / (3 : Int32)) * (9 : Int32)) &&& 31)) >>> ((5 : Int32) &&& 31)), .int (100 : Int32)]) (rest := [.int (1 : Int32), .int (2 : Int32), .ref r8, .ref r8, .int x4, .ref r7]) (kc' := (kc - 1)) (ks' := (ks - 4)) dL_build_110 mt_L_below w_m_L_15 w_st_L_below rfl rfl (Nat.le_of_ble_eq_true rfl) (Nat.le_refl _) (by omega) (by omega) hv (fun _ _ q9 => q9) ?_
    rintro _ h16 ⟨z17, rfl, hv⟩ -
    refine j_iadd dL_build_113 ?_
    obtain ⟨N, f, e1, e2, hv⟩ := hv
    refine j_iast dL_build_114 e1 e2 ?_
    generalize q_set h16 r8 _ = h18 at hv ⊢
    refine j_dup dL_build_115 rfl ?_
    refine j_iconst (v := (3 : Int32)) dL_build_116 (by decide) ?_
    refine j_iconst (v := (1 : Int32)) dL_build_117 (by decide) ?_
    refine j_iload dL_build_118 rfl ?_
    refine j_bipush (v := (7 : Int32)) dL_build_120 (by decide) ?_
    refine j_ishr dL_build_122 ?_
    refine j_iconst (v := (4 : Int32)) dL_build_123 (by decide) ?_
    refine j_static (avs := [.int ((z6 >>> (((x4 / (3 : Int32)) * (9 : Int32)) &&& 31)) >>> ((7 : Int32) &&& 31)), .int (4 : Int32)]) (rest := [.int (1 : Int32), .int (3 : Int32), .ref r8, .ref r8, .int x4, .ref r7]) (kc' := (kc - 1)) (ks' := (ks - 4)) dL_build_124 mt_L_below w_m_L_15 w_st_L_below rfl rfl (Nat.le_of_ble_eq_true rfl) (Nat.le_refl _) (by omega) (by omega) hv (fun _ _ q9 => q9) ?_
    rintro _ h19 ⟨z20, rfl, hv⟩ -
    refine j_iadd dL_build_127 ?_
    obtain ⟨N, f, e1, e2, hv⟩ := hv
    refine j_iast dL_build_128 e1 e2 ?_
    generalize q_set h19 r8 _ = h21 at hv ⊢
    obtain ⟨N, f, M, F, e1, e2, e3, hv⟩ := hv
    refine j_aast4 dL_build_129 e1 e2 e3 ?_
    generalize q_set h21 r7 _ = h22 at hv ⊢
    refine j_aload_n dL_build_130 rfl rfl ?_
    refine j_aload_n dL_build_131 rfl rfl ?_
    obtain ⟨fs, r23, e1, e2, hv⟩ := hv
    refine j_getf (k := 8) cl_X10 (by decide) w_f_L_65 dL_build_132 e1 e2 ?_
    refine j_iload dL_build_135 rfl ?_
    obtain ⟨N, f, r24, e1, e2, e3, hv⟩ := hv
    refine j_aaldA dL_build_137 e1 e2 e3 ?_
    refine j_iconst (v := (0 : Int32)) dL_build_138 (by decide) ?_
    obtain ⟨N, f, e1, e2, hv⟩ := hv
    refine j_iald dL_build_139 e1 e2 ?_
    generalize f _ = z25 at hv ⊢
    refine j_aload_n dL_build_140 rfl rfl ?_
    obtain ⟨fs, r26, e1, e2, hv⟩ := hv
    refine j_getf (k := 8) cl_X10 (by decide) w_f_L_65 dL_build_141 e1 e2 ?_
    refine j_iload dL_build_144 rfl ?_
    obtain ⟨N, f, r27, e1, e2, e3, hv⟩ := hv
    refine j_aaldA dL_build_146 e1 e2 e3 ?_
    refine j_iconst (v := (1 : Int32)) dL_build_147 (by decide) ?_
    obtain ⟨N, f, e1, e2, hv⟩ := hv
    refine j_iald dL_build_148 e1 e2 ?_
    generalize f _ = z28 at hv ⊢
    refine j_aload_n dL_build_149 rfl rfl ?_
    obtain ⟨fs, r29, e1, e2, hv⟩ := hv
    refine j_getf (k := 8) cl_X10 (by decide) w_f_L_65 dL_build_150 e1 e2 ?_
    refine j_iload dL_build_153 rfl ?_
    obtain ⟨N, f, r30, e1, e2, e3, hv⟩ := hv
    refine j_aaldA dL_build_155 e1 e2 e3 ?_
    refine j_iconst (v := (2 : Int32)) dL_build_156 (by decide) ?_
    obtain ⟨N, f, e1, e2, hv⟩ := hv
    refine j_iald dL_build_157 e1 e2 ?_
    generalize f _ = z31 at hv ⊢
    refine j_aload_n dL_build_158 rfl rfl ?_
    obtain ⟨fs, r32, e1, e2, hv⟩ := hv
    refine j_getf (k := 8) cl_X10 (by decide) w_f_L_65 dL_build_159 e1 e2 ?_
    refine j_iload dL_build_162 rfl ?_
    obtain ⟨N, f, r33, e1, e2, e3, hv⟩ := hv
    refine j_aaldA dL_build_164 e1 e2 e3 ?_
    refine j_iconst (v := (3 : Int32)) dL_build_165 (by decide) ?_
    obtain ⟨N, f, e1, e2, hv⟩ := hv
    refine j_iald dL_build_166 e1 e2 ?_
    generalize f _ = z34 at hv ⊢
    obtain ⟨⟨fs, e1⟩, hv⟩ := hv
    refine j_virtual (avs := [.int z25, .int z28, .int z31, .int z34]) (rest := []) (i := x0) (kc' := (kc - 2)) (ks' := (ks - 10)) dL_build_167 mt_X9_addTarget w_m_L_69 w_in_X9_addTarget w_se_X9_addTarget rfl rfl (Nat.le_of_ble_eq_true rfl) (Nat.le_refl _) (by omega) (by omega) cl_X9.1 e1 hv (fun _ _ q9 => q9) ?_
    rintro _ h35 ⟨z36, rfl, hv⟩ -
    refine j_iload dL_build_170 rfl ?_
    refine j_icmp_eq (tgt := 177) dL_build_172 (by decide) (fun hc => ?_) (fun hc => ?_)
    · replace hv := hv.1 hc
      refine j_iinc (w := (x4 + (1 : Int32))) dL_build_177 rfl (by rfl) (by decide) rfl rfl ?_
      refine j_goto (tgt := 43) dL_build_180 (by decide) ?_
      refine j_mask [true, true, true, true, true, false, true, true, true, true, true] rfl ?_
      exact hv
    · replace hv := hv.2 hc
      refine j_null dL_build_175 ?_
      exact hv.elim
set_option maxRecDepth 20000 in
set_option maxHeartbeats 4000000 in
theorem v_L_build {l : Launch} {d mc ms : Nat} {Q : Option Value → qH → Prop} {QX : String → qH → Prop} (hkc : 29 ≤ mc) (hks : 4009 ≤ ms) (x0 : Nat) {h : qH} (hv : qNW h 10 dfX10 (fun r1 h2 => qCV l (d + 7) mX10_init [.ref r1] h2 8 2000 (fun h3 => qCR l (d + 7) mL_ground [.ref x0, .float 4, .int (0 : Int32)] h3 20 2000 (fun z5 h4 => qPR h4 r1 10 7 z5 (fun h6 => qGR h6 r1 10 7 (fun r7 => qCI l (d + 7) mL_cell [.float 4, .int (8 : Int32)] h6 0 0 (fun z9 h8 => qCI l (d + 7) mL_below [.int z9, .int (4 : Int32)] h8 0 0 (fun z11 h10 => q_J l (d + 8) mL_build mc ms Q QX h.2 43 [some (.ref x0), some (.float 4), some (.ref r1), some (.int ((1 : Int32) + z11)), some (.int (0 : Int32)), none, none, none, none, none, none] [] h10 (mc - 29) (ms - 4009))))))))) : q_Ct l (d + 8) mL_build [.ref x0, .float 4] h mc ms Q QX := by
  refine q_body (by decide ) (by intro v hm; simp only [List.mem_cons, List.not_mem_nil, or_false] at hm; rcases hm with rfl | rfl <;> rfl) (Nat.le_of_ble_eq_true rfl) ?_
  refine j_pad 9 rfl ?_
  refine jj_new (fs := dfX10) cl_X10 tyX10_ok w_cl_L_55 w_iq_X10 w_in9_X10 dL_build_0 nfX10 (q_pl_wf rfl) (kc' := (mc - 1)) (ks' := (ms - 9)) (by omega) (by omega) hv (fun r1 h2 hv => ?_)
  refine j_dup dL_build_3 rfl ?_
  refine j_specialN (avs := []) (rest := [.ref r1]) (i := r1) (kc' := (mc - 9)) (ks' := (ms - 2009)) dL_build_4 mt_X10_init rfl rfl w_mn_L_57 w_in_X10_init rfl rfl (Nat.le_of_ble_eq_true rfl) (Nat.le_refl _) (by omega) (by omega) hv (fun _ _ q9 => q9) ?_
  rintro _ h3 ⟨rfl, hv⟩ -
  refine j_astore_n dL_build_7 rfl (by decide) rfl rfl ?_
  refine j_aload_n dL_build_8 rfl rfl ?_
  refine j_aload_n dL_build_9 rfl rfl ?_
  refine j_aload_nF dL_build_10 rfl rfl ?_
  refine j_iconst (v := (0 : Int32)) dL_build_11 (by decide) ?_
  refine j_static (avs := [.ref x0, .float 4, .int (0 : Int32)]) (rest := [.ref r1]) (kc' := (mc - 29)) (ks' := (ms - 4009)) dL_build_12 mt_L_ground w_m_L_58 w_st_L_ground rfl rfl (Nat.le_of_ble_eq_true rfl) (Nat.le_refl _) (by omega) (by omega) hv (fun _ _ q9 => q9) ?_
  rintro _ h4 ⟨z5, rfl, hv⟩ -
  obtain ⟨fs, e1, e2, hv⟩ := hv
  refine j_put (k := 7) (ty0 := tyX10) cl_X10 (pf_X10_7) w_f_L_62 dL_build_15 (fun g ad => q_nRa g ad _ _) e1 e2 ?_
  generalize q_set h4 r1 _ = h6 at hv ⊢
  refine j_aload_n dL_build_18 rfl rfl ?_
  obtain ⟨fs, r7, e1, e2, hv⟩ := hv
  refine j_getf (k := 7) cl_X10 (by decide) w_f_L_62 dL_build_19 e1 e2 ?_
  refine j_ifnonnull (tgt := 27) dL_build_22 (by decide) ?_
  refine j_iconst (v := (1 : Int32)) dL_build_27 (by decide) ?_
  refine j_aload_nF dL_build_28 rfl rfl ?_
  refine j_bipush (v := (8 : Int32)) dL_build_29 (by decide) ?_
  refine j_static (avs := [.float 4, .int (8 : Int32)]) (rest := [.int (1 : Int32)]) (kc' := (mc - 29)) (ks' := (ms - 4009)) dL_build_31 mt_L_cell w_m_L_9 w_st_L_cell rfl rfl (Nat.le_of_ble_eq_true rfl) (Nat.le_refl _) (by omega) (by omega) hv (fun _ _ q9 => q9) ?_
  rintro _ h8 ⟨z9, rfl, hv⟩ -
  refine j_iconst (v := (4 : Int32)) dL_build_34 (by decide) ?_
  refine j_static (avs := [.int z9, .int (4 : Int32)]) (rest := [.int (1 : Int32)]) (kc' := (mc - 29)) (ks' := (ms - 4009)) dL_build_35 mt_L_below w_m_L_15 w_st_L_below rfl rfl (Nat.le_of_ble_eq_true rfl) (Nat.le_refl _) (by omega) (by omega) hv (fun _ _ q9 => q9) ?_
  rintro _ h10 ⟨z11, rfl, hv⟩ -
  refine j_iadd dL_build_38 ?_
  refine j_istore_n dL_build_39 rfl (by decide) rfl rfl ?_
  refine j_iconst (v := (0 : Int32)) dL_build_40 (by decide) ?_
  refine j_istore dL_build_41 (by decide) rfl rfl ?_
  exact hv
set_option maxRecDepth 20000 in
set_option maxHeartbeats 4000000 in
theorem v_L_worth {l : Launch} {d mc ms : Nat} {Q : Option Value → qH → Prop} {QX : String → qH → Prop} (hkc : 2 ≤ mc) (hks : 12 ≤ ms) (x0 : Nat) (x1 : Nat) (x2 : Int32) {h : qH} (hv : qOB h x0 9 (qCI l (d + 6) mX9_nearest [.ref x0, .int x2] h 1 6 (fun z2 h1 => qIF (0 ≤ z2) (qGR h1 x1 10 8 (fun r3 => qO4 h1 r3 x2 (fun r4 => qAL h1 r4 (2 : Int32) (fun z5 => qGR h1 x1 10 0 (fun r6 => qAL h1 r6 (1 : Int32) (fun z7 => qGR h1 x1 10 0 (fun r8 => qAL h1 r8 (2 : Int32) (fun z9 => qOB h1 x0 9 (qCI l (d + 6) mX9_way [.ref x0, .int z7, .int z9, .int (z2 / (100 : Int32)), .int (z2 - z2 / (100 : Int32) * (100 : Int32)), .int (0 : Int32)] h1 1 6 (fun z11 h10 => qDV ((1 : Int32) + z11) (Q (some (.int (((1000 : Int32) * z5) / ((1 : Int32) + z11)))) h10))))))))))) (Q (some (.int (-1 : Int32))) h1)))) : q_Ct l (d + 7) mL_worth [.ref x0, .ref x1, .int x2] h mc ms Q QX := by
  refine q_body (by decide ) (by intro v hm; simp only [List.mem_cons, List.not_mem_nil, or_false] at hm; rcases hm with rfl | rfl | rfl <;> rfl) (Nat.le_of_ble_eq_true rfl) ?_
  refine j_pad 1 rfl ?_
  refine j_aload_n dL_worth_0 rfl rfl ?_
  refine j_iload_n dL_worth_1 rfl rfl ?_
  obtain ⟨⟨fs, e1⟩, hv⟩ := hv
  refine j_virtual (avs := [.int x2]) (rest := []) (i := x0) (kc' := (mc - 1)) (ks' := (ms - 6)) dL_worth_2 mt_X9_nearest w_m_L_119 w_in_X9_nearest w_se_X9_nearest rfl rfl (Nat.le_of_ble_eq_true rfl) (Nat.le_refl _) (by omega) (by omega) cl_X9.1 e1 hv (fun _ _ q9 => q9) ?_
  rintro _ h1 ⟨z2, rfl, hv⟩ -
  refine j_istore_n dL_worth_5 rfl (by decide) rfl rfl ?_
  refine j_iload_n dL_worth_6 rfl rfl ?_
  refine j_if_ge (tgt := 12) dL_worth_7 (by decide) (fun hc => ?_) (fun hc => ?_)
  · replace hv := hv.1 hc
    refine j_sipush (v := (1000 : Int32)) dL_worth_12 (by decide) ?_
    refine j_aload_n dL_worth_15 rfl rfl ?_
    obtain ⟨fs, r3, e1, e2, hv⟩ := hv
    refine j_getf (k := 8) cl_X10 (by decide) w_f_L_65 dL_worth_16 e1 e2 ?_
    refine j_iload_n dL_worth_19 rfl rfl ?_
    obtain ⟨N, f, r4, e1, e2, e3, hv⟩ := hv
    refine j_aaldA dL_worth_20 e1 e2 e3 ?_
    refine j_iconst (v := (2 : Int32)) dL_worth_21 (by decide) ?_
    obtain ⟨N, f, e1, e2, hv⟩ := hv
    refine j_iald dL_worth_22 e1 e2 ?_
    generalize f _ = z5 at hv ⊢
    refine j_imul dL_worth_23 ?_
    refine j_iconst (v := (1 : Int32)) dL_worth_24 (by decide) ?_
    refine j_aload_n dL_worth_25 rfl rfl ?_
    refine j_aload_n dL_worth_26 rfl rfl ?_
    obtain ⟨fs, r6, e1, e2, hv⟩ := hv
    refine j_getf (k := 0) cl_X10 (by decide) w_f_L_80 dL_worth_27 e1 e2 ?_
    refine j_iconst (v := (1 : Int32)) dL_worth_30 (by decide) ?_
    obtain ⟨N, f, e1, e2, hv⟩ := hv
    refine j_iald dL_worth_31 e1 e2 ?_
    generalize f _ = z7 at hv ⊢
    refine j_aload_n dL_worth_32 rfl rfl ?_
    obtain ⟨fs, r8, e1, e2, hv⟩ := hv
    refine j_getf (k := 0) cl_X10 (by decide) w_f_L_80 dL_worth_33 e1 e2 ?_
    refine j_iconst (v := (2 : Int32)) dL_worth_36 (by decide) ?_
    obtain ⟨N, f, e1, e2, hv⟩ := hv
    refine j_iald dL_worth_37 e1 e2 ?_
    generalize f _ = z9 at hv ⊢
    refine j_iload_n dL_worth_38 rfl rfl ?_
    refine j_bipush (v := (100 : Int32)) dL_worth_39 (by decide) ?_
    refine j_idiv dL_worth_41 (by decide) ?_
    refine j_iload_n dL_worth_42 rfl rfl ?_
    refine j_bipush (v := (100 : Int32)) dL_worth_43 (by decide) ?_
    refine j_irem dL_worth_45 (by decide) ?_
    refine j_iconst (v := (0 : Int32)) dL_worth_46 (by decide) ?_
    obtain ⟨⟨fs, e1⟩, hv⟩ := hv
    refine j_virtual (avs := [.int z7, .int z9, .int (z2 / (100 : Int32)), .int (z2 - z2 / (100 : Int32) * (100 : Int32)), .int (0 : Int32)]) (rest := [.int (1 : Int32), .int ((1000 : Int32) * z5)]) (i := x0) (kc' := (mc - 2)) (ks' := (ms - 12)) dL_worth_47 mt_X9_way w_m_L_140 w_in_X9_way w_se_X9_way rfl rfl (Nat.le_of_ble_eq_true rfl) (Nat.le_refl _) (by omega) (by omega) cl_X9.1 e1 hv (fun _ _ q9 => q9) ?_
    rintro _ h10 ⟨z11, rfl, hv⟩ -
    refine j_iadd dL_worth_50 ?_
    obtain ⟨hz, hv⟩ := hv
    refine j_idiv dL_worth_51 hz ?_
    exact j_iret dL_worth_52 rfl hv
  · replace hv := hv.2 hc
    refine j_iconst (v := (-1 : Int32)) dL_worth_10 (by decide) ?_
    exact j_iret dL_worth_11 rfl hv
