/-! the law's cases (printed by wip/whole/gen4.py) -/
abbrev mL_law : qM := (yL_law, cL_law, 9, some .boolean)
abbrev loL (i : Int32) : List (Option Value) := [some (.float 4), some (.ref 0), some (.ref 49), some (.ref 82), some (.int i), none, none, none, none]
section LAWC
variable {b L : Nat} {xs : Nat → Int32} {l : Launch} {mc ms : Nat} {Q : Option Value → qH → Prop} {QX : String → qH → Prop} {n0 : Nat} {h : qH} {kc ks : Nat} {i th : Int32} {A : ST} {y : Nat → Int32}
theorem lg_cmp_z (a b : Int64) : lg_cmp a b = 0 ↔ a = b := lg_cmp_eq a b
theorem law_thrown {R : Nat × Int32 × ST} {pc : Nat} {lo : List (Option Value)} (d0 : decode cL_law pc = .ok (.invokevirtual 109, 3)) (s : MSt h R.2.2 (nI R.1)) (k : q_K (xL b L xs) l 11 mL_law mc ms Q QX n0 (pc + 3) lo [.int (nI R.1)] h kc ks) : q_K (xL b L xs) l 11 mL_law mc ms Q QX n0 pc lo [.ref 49] h kc ks := by
  obtain ⟨wy, bb⟩ := s.2.1
  refine k_virtual (QZ := fun v h' => v = some (.int (nI R.1)) ∧ h' = h) (QXZ := fun _ _ => False) (avs := []) (rest := []) (i := 49) (d' := 5) (mc' := 0) (ms' := 0) (kc' := kc) (ks' := ks) d0 mt_X10_thrown w_m_L_109 w_in_X10_thrown w_se_X10_thrown rfl rfl (Nat.zero_le _) (by decide) (by omega) (by omega) cl_X10.1 bb.1.2 (m_thrown s ⟨rfl, rfl⟩) (fun _ _ q => q) ?_
  rintro _ h1 ⟨rfl, rfl⟩ -
  exact k
theorem law_tail {R : Nat × Int32 × ST} {P tg : Nat} {off : Int} (d0 : decode cL_law P = .ok (.istore 6, 2)) (d1 : decode cL_law (P + 2) = .ok (.aload_n 2, 1)) (d2 : decode cL_law (P + 3) = .ok (.invokevirtual 109, 3)) (d3 : decode cL_law (P + 6) = .ok (.iload 5, 2)) (d4 : decode cL_law (P + 8) = .ok (.if_icmp .eq 5, 3)) (_ : decode cL_law (P + 11) = .ok (.iconst 0, 1)) (_ : decode cL_law (P + 12) = .ok (.ireturn, 1))
    (d5 : decode cL_law (P + 13) = .ok (.iload 5, 2)) (d6 : decode cL_law (P + 15) = .ok (.ifCond .ne 15, 3)) (d7 : decode cL_law (P + 18) = .ok (.aload_n 3, 1)) (d8 : decode cL_law (P + 19) = .ok (.iconst 0, 1)) (d9 : decode cL_law (P + 20) = .ok (.laload, 1)) (d10 : decode cL_law (P + 21) = .ok (.iload 6, 2)) (d11 : decode cL_law (P + 23) = .ok (.i2l, 1)) (d12 : decode cL_law (P + 24) = .ok (.lcmp, 1)) (d13 : decode cL_law (P + 25) = .ok (.ifCond .eq 5, 3)) (_ : decode cL_law (P + 28) = .ok (.iconst 0, 1)) (_ : decode cL_law (P + 29) = .ok (.ireturn, 1)) (d14 : decode cL_law (P + 30) = .ok (.goto off, 3)) (ht : ((P + 30 : Nat) : Int) + off = ((2095 : Nat) : Int))
    (hb : R.1 ≤ 3) (_ : CS h 83 R.2.2) (s : MSt h R.2.2 (nI R.1)) (o : olv h R) (k : q_K (xL b L xs) l 11 mL_law mc ms Q QX n0 2095 (loL i) [] h kc ks) : q_K (xL b L xs) l 11 mL_law mc ms Q QX n0 P [some (.float 4), some (.ref 0), some (.ref 49), some (.ref 82), some (.int i), some (.int (nI R.1)), none, none, none] [.int R.2.1] h kc ks := by
  have k9 : q_K (xL b L xs) l 11 mL_law mc ms Q QX n0 (P + 30) [some (.float 4), some (.ref 0), some (.ref 49), some (.ref 82), some (.int i), some (.int (nI R.1)), some (.int R.2.1), none, none] [] h kc ks :=
    k_goto (tgt := 2095) d14 ht (k_mask [true, true, true, true, true, false, false, false, false] rfl k)
  refine k_istore d0 (by decide) rfl rfl (k_aload_n d1 rfl rfl (law_thrown d2 s (k_iload d3 rfl (k_icmp_eq (tgt := P + 13) d4 (by omega) (fun _ => ?_) (fun e => absurd rfl e)))))
  refine k_iload d5 rfl (k_if_ne (tgt := P + 30) d6 (by omega) (fun _ => k9) (fun e => ?_))
  obtain ⟨o1, f, o2, o3⟩ := o
  refine k_aload_n d7 rfl rfl (k_iconst (v := 0) d8 (by decide) (k_lald d9 o2 (show vp_in (nI 0) 1 from vp_in_nI (Nat.zero_lt_one) (by decide)) (k_iload d10 rfl (k_i2l d11 (k_lcmp d12 (k_if_eq (tgt := P + 30) d13 (by omega) (fun _ => k9) (fun w => ?_)))))))
  refine absurd ((lg_cmp_z _ _).mpr ?_) w
  exact o3 ((nI_eq (b := 0) (by omega) (by decide)).mp e)
theorem law_tailZ {R : Nat × Int32 × ST} {P tg : Nat} {off : Int} (d0 : decode cL_law P = .ok (.istore 6, 2)) (d1 : decode cL_law (P + 2) = .ok (.aload_n 2, 1)) (d2 : decode cL_law (P + 3) = .ok (.invokevirtual 109, 3)) (d3 : decode cL_law (P + 6) = .ok (.iload 5, 2)) (d4 : decode cL_law (P + 8) = .ok (.if_icmp .eq 5, 3)) (_ : decode cL_law (P + 11) = .ok (.iconst 0, 1)) (_ : decode cL_law (P + 12) = .ok (.ireturn, 1))
    (d5 : decode cL_law (P + 13) = .ok (.iload 5, 2)) (d6 : decode cL_law (P + 15) = .ok (.ifCond .ne 22, 3)) (d7 : decode cL_law (P + 18) = .ok (.aload_n 3, 1)) (d8 : decode cL_law (P + 19) = .ok (.iconst 0, 1)) (d9 : decode cL_law (P + 20) = .ok (.laload, 1)) (d10 : decode cL_law (P + 21) = .ok (.iload 6, 2)) (d11 : decode cL_law (P + 23) = .ok (.ifCond .eq 7, 3)) (d12 : decode cL_law (P + 26) = .ok (.lconst 1, 1)) (d13 : decode cL_law (P + 27) = .ok (.goto 4, 3)) (d15 : decode cL_law (P + 30) = .ok (.lconst 0, 1)) (d16 : decode cL_law (P + 31) = .ok (.lcmp, 1)) (d17 : decode cL_law (P + 32) = .ok (.ifCond .eq 5, 3)) (_ : decode cL_law (P + 35) = .ok (.iconst 0, 1)) (_ : decode cL_law (P + 36) = .ok (.ireturn, 1)) (d14 : decode cL_law (P + 37) = .ok (.goto off, 3)) (ht : ((P + 37 : Nat) : Int) + off = ((2095 : Nat) : Int))
    (hb : R.1 ≤ 3) (_ : CS h 83 R.2.2) (s : MSt h R.2.2 (nI R.1)) (o : olv h R) (h01 : R.2.1 = 0 ∨ R.2.1 = 1) (k : q_K (xL b L xs) l 11 mL_law mc ms Q QX n0 2095 (loL i) [] h kc ks) : q_K (xL b L xs) l 11 mL_law mc ms Q QX n0 P [some (.float 4), some (.ref 0), some (.ref 49), some (.ref 82), some (.int i), some (.int (nI R.1)), none, none, none] [.int R.2.1] h kc ks := by
  have k9 : q_K (xL b L xs) l 11 mL_law mc ms Q QX n0 (P + 37) [some (.float 4), some (.ref 0), some (.ref 49), some (.ref 82), some (.int i), some (.int (nI R.1)), some (.int R.2.1), none, none] [] h kc ks :=
    k_goto (tgt := 2095) d14 ht (k_mask [true, true, true, true, true, false, false, false, false] rfl k)
  refine k_istore d0 (by decide) rfl rfl (k_aload_n d1 rfl rfl (law_thrown d2 s (k_iload d3 rfl (k_icmp_eq (tgt := P + 13) d4 (by omega) (fun _ => ?_) (fun e => absurd rfl e)))))
  refine k_iload d5 rfl (k_if_ne (tgt := P + 37) d6 (by omega) (fun _ => k9) (fun e => ?_))
  obtain ⟨o1, f, o2, o3⟩ := o
  have o4 := o3 ((nI_eq (b := 0) (by omega) (by decide)).mp e)
  refine k_aload_n d7 rfl rfl (k_iconst (v := 0) d8 (by decide) (k_lald d9 o2 (show vp_in (nI 0) 1 from vp_in_nI (Nat.zero_lt_one) (by decide)) (k_iload d10 rfl (k_if_eq (tgt := P + 30) d11 (by omega) (fun w => ?_) (fun w => ?_)))))
  · refine k_lconst (v := 0) d15 (by decide) (k_lcmp d16 (k_if_eq (tgt := P + 37) d17 (by omega) (fun _ => k9) (fun w2 => absurd ((lg_cmp_z _ _).mpr ?_) w2)))
    refine o4.trans ?_
    rw [w]; rfl
  · refine k_lconst (v := 1) d12 (by decide) (k_goto (tgt := P + 31) d13 (by omega) (k_lcmp d16 (k_if_eq (tgt := P + 37) d17 (by omega) (fun _ => k9) (fun w2 => absurd ((lg_cmp_z _ _).mpr ?_) w2))))
    refine o4.trans ?_
    rw [h01.resolve_left w]; rfl
set_option maxHeartbeats 1000000 in
theorem law_0 (hl0 : l.stackTraces = false) (hkc : 216 ≤ kc) (hks : 1600 ≤ ks) (hy : ∀ k : Nat, k < 7 → vp_in (i + nI k) L ∧ xs (i + nI k).toNatClampNeg = y k) (c : CS h 83 A) (s : MSt h A th) (ok : aOk A) (o : ol h) (k : ∀ h' A' th', CS h' 83 A' → MSt h' A' th' → aOk A' → ol h' → q_K (xL b L xs) l 11 mL_law mc ms Q QX n0 2095 (loL i) [] h' (kc - 216) (ks - 1600)) : q_K (xL b L xs) l 11 mL_law mc ms Q QX n0 176 (loL i) [] h kc ks := by
  have hR : aOk (R_raise A (y 1) (y 2) (y 3) (y 4) (y 5)).2.2 := a_raise ok _ _ _ _ _
  have hb : (R_raise A (y 1) (y 2) (y 3) (y 4) (y 5)).1 ≤ 3 := by unfold R_raise; repeat (first | exact Nat.le_of_ble_eq_true rfl | apply pif1)
  obtain ⟨R, eR⟩ : ∃ R, (R_raise A (y 1) (y 2) (y 3) (y 4) (y 5)) = R := ⟨_, rfl⟩
  rw [eR] at hR hb
  refine k_aload_n dL_law_176 rfl rfl ?_
  refine k_rd dL_law_177 dL_law_178 dL_law_180 (by decide) dL_law_181 dL_law_182 rfl rfl (hy 1 (by decide)) ?_
  refine k_rd dL_law_183 dL_law_184 dL_law_186 (by decide) dL_law_187 dL_law_188 rfl rfl (hy 2 (by decide)) ?_
  refine k_rd dL_law_189 dL_law_190 dL_law_192 (by decide) dL_law_193 dL_law_194 rfl rfl (hy 3 (by decide)) ?_
  refine k_rd dL_law_195 dL_law_196 dL_law_198 (by decide) dL_law_199 dL_law_200 rfl rfl (hy 4 (by decide)) ?_
  refine k_rd dL_law_201 dL_law_202 dL_law_204 (by decide) dL_law_205 dL_law_206 rfl rfl (hy 5 (by decide)) ?_
  refine k_aload_n dL_law_207 rfl rfl ?_
  refine k_staticH (QZ := fun v h' => v = some (.int (nI R.1)) ∧ CS h' 83 R.2.2 ∧ MSt h' A th ∧ olv h' R) (QXZ := fun _ _ => False) (avs := [.ref 0, .int (y 1), .int (y 2), .int (y 3), .int (y 4), .int (y 5), .ref 82]) (rest := []) (d' := 10) (mc' := 16) (ms' := 800) (kc' := kc - 16) (ks' := ks - 800) dL_law_208 mh_raise w_m_L_103 w_st_L_raise rfl rfl (Nat.zero_le _) (by decide) (by omega) (by omega) (h_raise (d := 3) hl0 c s ok o (fun h' a b c => by rw [eR] at a c; exact ⟨by rw [eR], a, b, c⟩)) (fun _ _ q => q) ?_
  rintro _ h1 ⟨rfl, c1, s1, o1⟩ -
  refine k_istore dL_law_211 (by decide) rfl rfl ?_
  refine k_aload_n dL_law_213 rfl rfl ?_
  refine k_rd dL_law_214 dL_law_215 dL_law_217 (by decide) dL_law_218 dL_law_219 rfl rfl (hy 1 (by decide)) ?_
  refine k_rd dL_law_220 dL_law_221 dL_law_223 (by decide) dL_law_224 dL_law_225 rfl rfl (hy 2 (by decide)) ?_
  refine k_rd dL_law_226 dL_law_227 dL_law_229 (by decide) dL_law_230 dL_law_231 rfl rfl (hy 3 (by decide)) ?_
  refine k_rd dL_law_232 dL_law_233 dL_law_235 (by decide) dL_law_236 dL_law_237 rfl rfl (hy 4 (by decide)) ?_
  refine k_rd dL_law_238 dL_law_239 dL_law_241 (by decide) dL_law_242 dL_law_243 rfl rfl (hy 5 (by decide)) ?_
  obtain ⟨wy, bb⟩ := s1.2.1
  refine k_virtual (QZ := fun v h' => v = some (.int R.2.1) ∧ q_fr mS h1 h' ∧ MSt h' R.2.2 (nI R.1)) (QXZ := fun _ _ => False) (avs := [.int (y 1), .int (y 2), .int (y 3), .int (y 4), .int (y 5)]) (rest := []) (i := 49) (d' := 10) (mc' := 200) (ms' := 800) (kc' := kc - 216) (ks' := ks - 1600) dL_law_244 mt_X10_raise w_m_L_108 w_in_X10_raise w_se_X10_raise rfl rfl (Nat.zero_le _) (by decide) (by omega) (by omega) cl_X10.1 bb.1.2 (m_raise (d := 7) s1 ok (fun h' f s' => by rw [eR] at s'; exact ⟨by rw [eR], f, s'⟩)) (fun _ _ q => q) ?_
  rintro _ h2 ⟨rfl, f2, s2⟩ -
  exact law_tail (tg := 0) dL_law_247 dL_law_249 dL_law_250 dL_law_253 dL_law_255 dL_law_258 dL_law_259 dL_law_260 dL_law_262 dL_law_265 dL_law_266 dL_law_267 dL_law_268 dL_law_270 dL_law_271 dL_law_272 dL_law_275 dL_law_276 dL_law_277 (by decide) hb (CS_fr c1 f2 (fun i q => by unfold mS at q; omega)) s2 (o1.fr f2 (by unfold mS; omega)) (k h2 _ _ (CS_fr c1 f2 (fun i q => by unfold mS at q; omega)) s2 hR (o1.o.fr f2 (by unfold mS; omega)))
set_option maxHeartbeats 1000000 in
theorem law_1 (hl0 : l.stackTraces = false) (hkc : 216 ≤ kc) (hks : 1600 ≤ ks) (hy : ∀ k : Nat, k < 7 → vp_in (i + nI k) L ∧ xs (i + nI k).toNatClampNeg = y k) (c : CS h 83 A) (s : MSt h A th) (ok : aOk A) (o : ol h) (k : ∀ h' A' th', CS h' 83 A' → MSt h' A' th' → aOk A' → ol h' → q_K (xL b L xs) l 11 mL_law mc ms Q QX n0 2095 (loL i) [] h' (kc - 216) (ks - 1600)) : q_K (xL b L xs) l 11 mL_law mc ms Q QX n0 280 (loL i) [] h kc ks := by
  have hR : aOk (R_pave A (y 1) (y 2) (y 3) (y 4) (y 5) (neZ (y 6))).2.2 := a_pave ok _ _ _ _ _ _
  have hb : (R_pave A (y 1) (y 2) (y 3) (y 4) (y 5) (neZ (y 6))).1 ≤ 3 := by unfold R_pave; repeat (first | exact Nat.le_of_ble_eq_true rfl | apply pif1)
  obtain ⟨R, eR⟩ : ∃ R, (R_pave A (y 1) (y 2) (y 3) (y 4) (y 5) (neZ (y 6))) = R := ⟨_, rfl⟩
  rw [eR] at hR hb
  refine k_aload_n dL_law_280 rfl rfl ?_
  refine k_rd dL_law_281 dL_law_282 dL_law_284 (by decide) dL_law_285 dL_law_286 rfl rfl (hy 1 (by decide)) ?_
  refine k_rd dL_law_287 dL_law_288 dL_law_290 (by decide) dL_law_291 dL_law_292 rfl rfl (hy 2 (by decide)) ?_
  refine k_rd dL_law_293 dL_law_294 dL_law_296 (by decide) dL_law_297 dL_law_298 rfl rfl (hy 3 (by decide)) ?_
  refine k_rd dL_law_299 dL_law_300 dL_law_302 (by decide) dL_law_303 dL_law_304 rfl rfl (hy 4 (by decide)) ?_
  refine k_rd dL_law_305 dL_law_306 dL_law_308 (by decide) dL_law_309 dL_law_310 rfl rfl (hy 5 (by decide)) ?_
  refine k_rd6 dL_law_311 dL_law_312 dL_law_314 (by decide) dL_law_316 dL_law_317 rfl rfl (hy 6 (by decide)) ?_
  refine k_bool dL_law_318 dL_law_321 dL_law_322 dL_law_325 ?_
  refine k_aload_n dL_law_326 rfl rfl ?_
  refine k_staticH (QZ := fun v h' => v = some (.int (nI R.1)) ∧ CS h' 83 R.2.2 ∧ MSt h' A th ∧ olv h' R) (QXZ := fun _ _ => False) (avs := [.ref 0, .int (y 1), .int (y 2), .int (y 3), .int (y 4), .int (y 5), .int (neZ (y 6)), .ref 82]) (rest := []) (d' := 10) (mc' := 16) (ms' := 800) (kc' := kc - 16) (ks' := ks - 800) dL_law_327 mh_pave w_m_L_112 w_st_L_pave rfl rfl (Nat.zero_le _) (by decide) (by omega) (by omega) (h_pave (d := 3) hl0 (neZ_01 _) c s ok o (fun h' a b c => by rw [eR] at a c; exact ⟨by rw [eR], a, b, c⟩)) (fun _ _ q => q) ?_
  rintro _ h1 ⟨rfl, c1, s1, o1⟩ -
  refine k_istore dL_law_330 (by decide) rfl rfl ?_
  refine k_aload_n dL_law_332 rfl rfl ?_
  refine k_rd dL_law_333 dL_law_334 dL_law_336 (by decide) dL_law_337 dL_law_338 rfl rfl (hy 1 (by decide)) ?_
  refine k_rd dL_law_339 dL_law_340 dL_law_342 (by decide) dL_law_343 dL_law_344 rfl rfl (hy 2 (by decide)) ?_
  refine k_rd dL_law_345 dL_law_346 dL_law_348 (by decide) dL_law_349 dL_law_350 rfl rfl (hy 3 (by decide)) ?_
  refine k_rd dL_law_351 dL_law_352 dL_law_354 (by decide) dL_law_355 dL_law_356 rfl rfl (hy 4 (by decide)) ?_
  refine k_rd dL_law_357 dL_law_358 dL_law_360 (by decide) dL_law_361 dL_law_362 rfl rfl (hy 5 (by decide)) ?_
  refine k_rd6 dL_law_363 dL_law_364 dL_law_366 (by decide) dL_law_368 dL_law_369 rfl rfl (hy 6 (by decide)) ?_
  refine k_bool dL_law_370 dL_law_373 dL_law_374 dL_law_377 ?_
  obtain ⟨wy, bb⟩ := s1.2.1
  refine k_virtual (QZ := fun v h' => v = some (.int R.2.1) ∧ q_fr mS h1 h' ∧ MSt h' R.2.2 (nI R.1)) (QXZ := fun _ _ => False) (avs := [.int (y 1), .int (y 2), .int (y 3), .int (y 4), .int (y 5), .int (neZ (y 6))]) (rest := []) (i := 49) (d' := 10) (mc' := 200) (ms' := 800) (kc' := kc - 216) (ks' := ks - 1600) dL_law_378 mt_X10_pave w_m_L_115 w_in_X10_pave w_se_X10_pave rfl rfl (Nat.zero_le _) (by decide) (by omega) (by omega) cl_X10.1 bb.1.2 (m_pave (d := 7) s1 ok (neZ_01 _) (fun h' f s' => by rw [eR] at s'; exact ⟨by rw [eR], f, s'⟩)) (fun _ _ q => q) ?_
  rintro _ h2 ⟨rfl, f2, s2⟩ -
  exact law_tail (tg := 0) dL_law_381 dL_law_383 dL_law_384 dL_law_387 dL_law_389 dL_law_392 dL_law_393 dL_law_394 dL_law_396 dL_law_399 dL_law_400 dL_law_401 dL_law_402 dL_law_404 dL_law_405 dL_law_406 dL_law_409 dL_law_410 dL_law_411 (by decide) hb (CS_fr c1 f2 (fun i q => by unfold mS at q; omega)) s2 (o1.fr f2 (by unfold mS; omega)) (k h2 _ _ (CS_fr c1 f2 (fun i q => by unfold mS at q; omega)) s2 hR (o1.o.fr f2 (by unfold mS; omega)))
set_option maxHeartbeats 1000000 in
theorem law_2 (hl0 : l.stackTraces = false) (hkc : 216 ≤ kc) (hks : 1600 ≤ ks) (hy : ∀ k : Nat, k < 7 → vp_in (i + nI k) L ∧ xs (i + nI k).toNatClampNeg = y k) (c : CS h 83 A) (s : MSt h A th) (ok : aOk A) (o : ol h) (k : ∀ h' A' th', CS h' 83 A' → MSt h' A' th' → aOk A' → ol h' → q_K (xL b L xs) l 11 mL_law mc ms Q QX n0 2095 (loL i) [] h' (kc - 216) (ks - 1600)) : q_K (xL b L xs) l 11 mL_law mc ms Q QX n0 414 (loL i) [] h kc ks := by
  have hR : aOk (R_ground A (y 1) (y 2) (y 3)).2.2 := by unfold R_ground; repeat (first | exact ok | exact aR_p (fun _ => ok) (fun _ => ok) | refine aR_p (fun _ => ?_) (fun _ => ?_))
  have hb : (R_ground A (y 1) (y 2) (y 3)).1 ≤ 3 := by unfold R_ground; repeat (first | exact Nat.le_of_ble_eq_true rfl | apply pif1)
  obtain ⟨R, eR⟩ : ∃ R, (R_ground A (y 1) (y 2) (y 3)) = R := ⟨_, rfl⟩
  rw [eR] at hR hb
  refine k_aload_n dL_law_414 rfl rfl ?_
  refine k_rd dL_law_415 dL_law_416 dL_law_418 (by decide) dL_law_419 dL_law_420 rfl rfl (hy 1 (by decide)) ?_
  refine k_rd dL_law_421 dL_law_422 dL_law_424 (by decide) dL_law_425 dL_law_426 rfl rfl (hy 2 (by decide)) ?_
  refine k_rd dL_law_427 dL_law_428 dL_law_430 (by decide) dL_law_431 dL_law_432 rfl rfl (hy 3 (by decide)) ?_
  refine k_aload_n dL_law_433 rfl rfl ?_
  refine k_staticH (QZ := fun v h' => v = some (.int (nI R.1)) ∧ CS h' 83 R.2.2 ∧ MSt h' A th ∧ olv h' R) (QXZ := fun _ _ => False) (avs := [.ref 0, .int (y 1), .int (y 2), .int (y 3), .ref 82]) (rest := []) (d' := 10) (mc' := 16) (ms' := 800) (kc' := kc - 16) (ks' := ks - 800) dL_law_434 mh_ground w_m_L_116 w_st_L_ground rfl rfl (Nat.zero_le _) (by decide) (by omega) (by omega) (h_ground (d := 3) hl0 c s ok o (fun h' a b c => by rw [eR] at a c; exact ⟨by rw [eR], a, b, c⟩)) (fun _ _ q => q) ?_
  rintro _ h1 ⟨rfl, c1, s1, o1⟩ -
  refine k_istore dL_law_437 (by decide) rfl rfl ?_
  refine k_aload_n dL_law_439 rfl rfl ?_
  refine k_rd dL_law_440 dL_law_441 dL_law_443 (by decide) dL_law_444 dL_law_445 rfl rfl (hy 1 (by decide)) ?_
  refine k_rd dL_law_446 dL_law_447 dL_law_449 (by decide) dL_law_450 dL_law_451 rfl rfl (hy 2 (by decide)) ?_
  refine k_rd dL_law_452 dL_law_453 dL_law_455 (by decide) dL_law_456 dL_law_457 rfl rfl (hy 3 (by decide)) ?_
  obtain ⟨wy, bb⟩ := s1.2.1
  refine k_virtual (QZ := fun v h' => v = some (.int R.2.1) ∧ q_fr mS h1 h' ∧ MSt h' R.2.2 (nI R.1)) (QXZ := fun _ _ => False) (avs := [.int (y 1), .int (y 2), .int (y 3)]) (rest := []) (i := 49) (d' := 10) (mc' := 200) (ms' := 800) (kc' := kc - 216) (ks' := ks - 1600) dL_law_458 mt_X10_ground w_m_L_119 w_in_X10_ground w_se_X10_ground rfl rfl (Nat.zero_le _) (by decide) (by omega) (by omega) cl_X10.1 bb.1.2 (m_ground (d := 8) s1 (fun h' f s' => by rw [eR] at s'; exact ⟨by rw [eR], f, s'⟩)) (fun _ _ q => q) ?_
  rintro _ h2 ⟨rfl, f2, s2⟩ -
  exact law_tail (tg := 0) dL_law_461 dL_law_463 dL_law_464 dL_law_467 dL_law_469 dL_law_472 dL_law_473 dL_law_474 dL_law_476 dL_law_479 dL_law_480 dL_law_481 dL_law_482 dL_law_484 dL_law_485 dL_law_486 dL_law_489 dL_law_490 dL_law_491 (by decide) hb (CS_fr c1 f2 (fun i q => by unfold mS at q; omega)) s2 (o1.fr f2 (by unfold mS; omega)) (k h2 _ _ (CS_fr c1 f2 (fun i q => by unfold mS at q; omega)) s2 hR (o1.o.fr f2 (by unfold mS; omega)))
set_option maxHeartbeats 1000000 in
theorem law_3 (hl0 : l.stackTraces = false) (hkc : 216 ≤ kc) (hks : 1600 ≤ ks) (hy : ∀ k : Nat, k < 7 → vp_in (i + nI k) L ∧ xs (i + nI k).toNatClampNeg = y k) (c : CS h 83 A) (s : MSt h A th) (ok : aOk A) (o : ol h) (k : ∀ h' A' th', CS h' 83 A' → MSt h' A' th' → aOk A' → ol h' → q_K (xL b L xs) l 11 mL_law mc ms Q QX n0 2095 (loL i) [] h' (kc - 216) (ks - 1600)) : q_K (xL b L xs) l 11 mL_law mc ms Q QX n0 494 (loL i) [] h kc ks := by
  have hR : aOk (R_setSlope A (y 1)).2.2 := a_setSlope ok _
  have hb : (R_setSlope A (y 1)).1 ≤ 3 := by unfold R_setSlope; repeat (first | exact Nat.le_of_ble_eq_true rfl | apply pif1)
  obtain ⟨R, eR⟩ : ∃ R, (R_setSlope A (y 1)) = R := ⟨_, rfl⟩
  rw [eR] at hR hb
  refine k_aload_n dL_law_494 rfl rfl ?_
  refine k_rd dL_law_495 dL_law_496 dL_law_498 (by decide) dL_law_499 dL_law_500 rfl rfl (hy 1 (by decide)) ?_
  refine k_aload_n dL_law_501 rfl rfl ?_
  refine k_staticH (QZ := fun v h' => v = some (.int (nI R.1)) ∧ CS h' 83 R.2.2 ∧ MSt h' A th ∧ olv h' R) (QXZ := fun _ _ => False) (avs := [.ref 0, .int (y 1), .ref 82]) (rest := []) (d' := 10) (mc' := 16) (ms' := 800) (kc' := kc - 16) (ks' := ks - 800) dL_law_502 mh_setSlope w_m_L_120 w_st_L_setSlope rfl rfl (Nat.zero_le _) (by decide) (by omega) (by omega) (h_setSlope (d := 3) hl0 c s ok o (fun h' a b c => by rw [eR] at a c; exact ⟨by rw [eR], a, b, c⟩)) (fun _ _ q => q) ?_
  rintro _ h1 ⟨rfl, c1, s1, o1⟩ -
  refine k_istore dL_law_505 (by decide) rfl rfl ?_
  refine k_aload_n dL_law_507 rfl rfl ?_
  refine k_rd dL_law_508 dL_law_509 dL_law_511 (by decide) dL_law_512 dL_law_513 rfl rfl (hy 1 (by decide)) ?_
  obtain ⟨wy, bb⟩ := s1.2.1
  refine k_virtual (QZ := fun v h' => v = some (.int R.2.1) ∧ q_fr mS h1 h' ∧ MSt h' R.2.2 (nI R.1)) (QXZ := fun _ _ => False) (avs := [.int (y 1)]) (rest := []) (i := 49) (d' := 10) (mc' := 200) (ms' := 800) (kc' := kc - 216) (ks' := ks - 1600) dL_law_514 mt_X10_setSlope w_m_L_123 w_in_X10_setSlope w_se_X10_setSlope rfl rfl (Nat.zero_le _) (by decide) (by omega) (by omega) cl_X10.1 bb.1.2 (m_setSlope (d := 9) s1 (fun h' f s' => by rw [eR] at s'; exact ⟨by rw [eR], f, s'⟩)) (fun _ _ q => q) ?_
  rintro _ h2 ⟨rfl, f2, s2⟩ -
  exact law_tail (tg := 0) dL_law_517 dL_law_519 dL_law_520 dL_law_523 dL_law_525 dL_law_528 dL_law_529 dL_law_530 dL_law_532 dL_law_535 dL_law_536 dL_law_537 dL_law_538 dL_law_540 dL_law_541 dL_law_542 dL_law_545 dL_law_546 dL_law_547 (by decide) hb (CS_fr c1 f2 (fun i q => by unfold mS at q; omega)) s2 (o1.fr f2 (by unfold mS; omega)) (k h2 _ _ (CS_fr c1 f2 (fun i q => by unfold mS at q; omega)) s2 hR (o1.o.fr f2 (by unfold mS; omega)))
set_option maxHeartbeats 1000000 in
theorem law_4 (hl0 : l.stackTraces = false) (hkc : 216 ≤ kc) (hks : 1600 ≤ ks) (hy : ∀ k : Nat, k < 7 → vp_in (i + nI k) L ∧ xs (i + nI k).toNatClampNeg = y k) (c : CS h 83 A) (s : MSt h A th) (ok : aOk A) (o : ol h) (k : ∀ h' A' th', CS h' 83 A' → MSt h' A' th' → aOk A' → ol h' → q_K (xL b L xs) l 11 mL_law mc ms Q QX n0 2095 (loL i) [] h' (kc - 216) (ks - 1600)) : q_K (xL b L xs) l 11 mL_law mc ms Q QX n0 550 (loL i) [] h kc ks := by
  have hR : aOk (R_way A (y 1) (y 2) (y 3) (y 4) (y 5)).2.2 := by unfold R_way; repeat (first | exact ok | exact aR_p (fun _ => ok) (fun _ => ok) | refine aR_p (fun _ => ?_) (fun _ => ?_))
  have hb : (R_way A (y 1) (y 2) (y 3) (y 4) (y 5)).1 ≤ 3 := by unfold R_way; repeat (first | exact Nat.le_of_ble_eq_true rfl | apply pif1)
  obtain ⟨R, eR⟩ : ∃ R, (R_way A (y 1) (y 2) (y 3) (y 4) (y 5)) = R := ⟨_, rfl⟩
  rw [eR] at hR hb
  refine k_aload_n dL_law_550 rfl rfl ?_
  refine k_rd dL_law_551 dL_law_552 dL_law_554 (by decide) dL_law_555 dL_law_556 rfl rfl (hy 1 (by decide)) ?_
  refine k_rd dL_law_557 dL_law_558 dL_law_560 (by decide) dL_law_561 dL_law_562 rfl rfl (hy 2 (by decide)) ?_
  refine k_rd dL_law_563 dL_law_564 dL_law_566 (by decide) dL_law_567 dL_law_568 rfl rfl (hy 3 (by decide)) ?_
  refine k_rd dL_law_569 dL_law_570 dL_law_572 (by decide) dL_law_573 dL_law_574 rfl rfl (hy 4 (by decide)) ?_
  refine k_rd dL_law_575 dL_law_576 dL_law_578 (by decide) dL_law_579 dL_law_580 rfl rfl (hy 5 (by decide)) ?_
  refine k_aload_n dL_law_581 rfl rfl ?_
  refine k_staticH (QZ := fun v h' => v = some (.int (nI R.1)) ∧ CS h' 83 R.2.2 ∧ MSt h' A th ∧ olv h' R) (QXZ := fun _ _ => False) (avs := [.ref 0, .int (y 1), .int (y 2), .int (y 3), .int (y 4), .int (y 5), .ref 82]) (rest := []) (d' := 10) (mc' := 16) (ms' := 800) (kc' := kc - 16) (ks' := ks - 800) dL_law_582 mh_way w_m_L_124 w_st_L_way rfl rfl (Nat.zero_le _) (by decide) (by omega) (by omega) (h_way (d := 3) hl0 c s ok o (fun h' a b c => by rw [eR] at a c; exact ⟨by rw [eR], a, b, c⟩)) (fun _ _ q => q) ?_
  rintro _ h1 ⟨rfl, c1, s1, o1⟩ -
  refine k_istore dL_law_585 (by decide) rfl rfl ?_
  refine k_aload_n dL_law_587 rfl rfl ?_
  refine k_rd dL_law_588 dL_law_589 dL_law_591 (by decide) dL_law_592 dL_law_593 rfl rfl (hy 1 (by decide)) ?_
  refine k_rd dL_law_594 dL_law_595 dL_law_597 (by decide) dL_law_598 dL_law_599 rfl rfl (hy 2 (by decide)) ?_
  refine k_rd dL_law_600 dL_law_601 dL_law_603 (by decide) dL_law_604 dL_law_605 rfl rfl (hy 3 (by decide)) ?_
  refine k_rd dL_law_606 dL_law_607 dL_law_609 (by decide) dL_law_610 dL_law_611 rfl rfl (hy 4 (by decide)) ?_
  refine k_rd dL_law_612 dL_law_613 dL_law_615 (by decide) dL_law_616 dL_law_617 rfl rfl (hy 5 (by decide)) ?_
  obtain ⟨wy, bb⟩ := s1.2.1
  refine k_virtual (QZ := fun v h' => v = some (.int R.2.1) ∧ q_fr mS h1 h' ∧ MSt h' R.2.2 (nI R.1)) (QXZ := fun _ _ => False) (avs := [.int (y 1), .int (y 2), .int (y 3), .int (y 4), .int (y 5)]) (rest := []) (i := 49) (d' := 10) (mc' := 200) (ms' := 800) (kc' := kc - 216) (ks' := ks - 1600) dL_law_618 mt_X10_way w_m_L_126 w_in_X10_way w_se_X10_way rfl rfl (Nat.zero_le _) (by decide) (by omega) (by omega) cl_X10.1 bb.1.2 (m_way (d := 6) (by decide) (by decide) s1 ok (fun h' f s' => by rw [eR] at s'; exact ⟨by rw [eR], f, s'⟩)) (fun _ _ q => q) ?_
  rintro _ h2 ⟨rfl, f2, s2⟩ -
  exact law_tail (tg := 0) dL_law_621 dL_law_623 dL_law_624 dL_law_627 dL_law_629 dL_law_632 dL_law_633 dL_law_634 dL_law_636 dL_law_639 dL_law_640 dL_law_641 dL_law_642 dL_law_644 dL_law_645 dL_law_646 dL_law_649 dL_law_650 dL_law_651 (by decide) hb (CS_fr c1 f2 (fun i q => by unfold mS at q; omega)) s2 (o1.fr f2 (by unfold mS; omega)) (k h2 _ _ (CS_fr c1 f2 (fun i q => by unfold mS at q; omega)) s2 hR (o1.o.fr f2 (by unfold mS; omega)))
set_option maxHeartbeats 1000000 in
theorem law_5 (hl0 : l.stackTraces = false) (hkc : 216 ≤ kc) (hks : 1600 ≤ ks) (hy : ∀ k : Nat, k < 7 → vp_in (i + nI k) L ∧ xs (i + nI k).toNatClampNeg = y k) (c : CS h 83 A) (s : MSt h A th) (ok : aOk A) (o : ol h) (k : ∀ h' A' th', CS h' 83 A' → MSt h' A' th' → aOk A' → ol h' → q_K (xL b L xs) l 11 mL_law mc ms Q QX n0 2095 (loL i) [] h' (kc - 216) (ks - 1600)) : q_K (xL b L xs) l 11 mL_law mc ms Q QX n0 654 (loL i) [] h kc ks := by
  have hR : aOk (R_sees A (y 1) (y 2) (y 3) (y 4)).2.2 := by unfold R_sees; repeat (first | exact ok | exact aR_p (fun _ => ok) (fun _ => ok) | refine aR_p (fun _ => ?_) (fun _ => ?_))
  have hb : (R_sees A (y 1) (y 2) (y 3) (y 4)).1 ≤ 3 := by unfold R_sees; repeat (first | exact Nat.le_of_ble_eq_true rfl | apply pif1)
  obtain ⟨R, eR⟩ : ∃ R, (R_sees A (y 1) (y 2) (y 3) (y 4)) = R := ⟨_, rfl⟩
  rw [eR] at hR hb
  refine k_aload_n dL_law_654 rfl rfl ?_
  refine k_rd dL_law_655 dL_law_656 dL_law_658 (by decide) dL_law_659 dL_law_660 rfl rfl (hy 1 (by decide)) ?_
  refine k_rd dL_law_661 dL_law_662 dL_law_664 (by decide) dL_law_665 dL_law_666 rfl rfl (hy 2 (by decide)) ?_
  refine k_rd dL_law_667 dL_law_668 dL_law_670 (by decide) dL_law_671 dL_law_672 rfl rfl (hy 3 (by decide)) ?_
  refine k_rd dL_law_673 dL_law_674 dL_law_676 (by decide) dL_law_677 dL_law_678 rfl rfl (hy 4 (by decide)) ?_
  refine k_aload_n dL_law_679 rfl rfl ?_
  refine k_staticH (QZ := fun v h' => v = some (.int (nI R.1)) ∧ CS h' 83 R.2.2 ∧ MSt h' A th ∧ olv h' R) (QXZ := fun _ _ => False) (avs := [.ref 0, .int (y 1), .int (y 2), .int (y 3), .int (y 4), .ref 82]) (rest := []) (d' := 10) (mc' := 16) (ms' := 800) (kc' := kc - 16) (ks' := ks - 800) dL_law_680 mh_sees w_m_L_127 w_st_L_sees rfl rfl (Nat.zero_le _) (by decide) (by omega) (by omega) (h_sees (d := 3) hl0 c s ok o (fun h' a b c => by rw [eR] at a c; exact ⟨by rw [eR], a, b, c⟩)) (fun _ _ q => q) ?_
  rintro _ h1 ⟨rfl, c1, s1, o1⟩ -
  refine k_istore dL_law_683 (by decide) rfl rfl ?_
  refine k_aload_n dL_law_685 rfl rfl ?_
  refine k_rd dL_law_686 dL_law_687 dL_law_689 (by decide) dL_law_690 dL_law_691 rfl rfl (hy 1 (by decide)) ?_
  refine k_rd dL_law_692 dL_law_693 dL_law_695 (by decide) dL_law_696 dL_law_697 rfl rfl (hy 2 (by decide)) ?_
  refine k_rd dL_law_698 dL_law_699 dL_law_701 (by decide) dL_law_702 dL_law_703 rfl rfl (hy 3 (by decide)) ?_
  refine k_rd dL_law_704 dL_law_705 dL_law_707 (by decide) dL_law_708 dL_law_709 rfl rfl (hy 4 (by decide)) ?_
  obtain ⟨wy, bb⟩ := s1.2.1
  refine k_virtual (QZ := fun v h' => v = some (.int R.2.1) ∧ q_fr mS h1 h' ∧ MSt h' R.2.2 (nI R.1)) (QXZ := fun _ _ => False) (avs := [.int (y 1), .int (y 2), .int (y 3), .int (y 4)]) (rest := []) (i := 49) (d' := 10) (mc' := 200) (ms' := 800) (kc' := kc - 216) (ks' := ks - 1600) dL_law_710 mt_X10_sees w_m_L_130 w_in_X10_sees w_se_X10_sees rfl rfl (Nat.zero_le _) (by decide) (by omega) (by omega) cl_X10.1 bb.1.2 (m_sees (d := 7) s1 (fun h' f s' => by rw [eR] at s'; exact ⟨by rw [eR], f, s'⟩)) (fun _ _ q => q) ?_
  rintro _ h2 ⟨rfl, f2, s2⟩ -
  have h01 : R.2.1 = 0 ∨ R.2.1 = 1 := by
    rw [← eR]; unfold R_sees
    by_cases g : inP (y 1) (y 2) ∧ inP (y 3) (y 4)
    · rw [pif_t g]
      by_cases g2 : seeA A.W (y 1) (y 2) (y 3) (y 4) = true
      · exact Or.inr (if_pos g2)
      · exact Or.inl (if_neg g2)
    · rw [pif_f g]; exact Or.inl rfl
  exact law_tailZ (tg := 2095) dL_law_713 dL_law_715 dL_law_716 dL_law_719 dL_law_721 dL_law_724 dL_law_725 dL_law_726 dL_law_728 dL_law_731 dL_law_732 dL_law_733 dL_law_734 dL_law_736 dL_law_739 dL_law_740 dL_law_743 dL_law_744 dL_law_745 dL_law_748 dL_law_749 dL_law_750 (by decide) hb (CS_fr c1 f2 (fun i q => by unfold mS at q; omega)) s2 (o1.fr f2 (by unfold mS; omega)) h01 (k h2 _ _ (CS_fr c1 f2 (fun i q => by unfold mS at q; omega)) s2 hR (o1.o.fr f2 (by unfold mS; omega)))
set_option maxHeartbeats 1000000 in
theorem law_6 (hl0 : l.stackTraces = false) (hkc : 216 ≤ kc) (hks : 1600 ≤ ks) (hy : ∀ k : Nat, k < 7 → vp_in (i + nI k) L ∧ xs (i + nI k).toNatClampNeg = y k) (c : CS h 83 A) (s : MSt h A th) (ok : aOk A) (o : ol h) (k : ∀ h' A' th', CS h' 83 A' → MSt h' A' th' → aOk A' → ol h' → q_K (xL b L xs) l 11 mL_law mc ms Q QX n0 2095 (loL i) [] h' (kc - 216) (ks - 1600)) : q_K (xL b L xs) l 11 mL_law mc ms Q QX n0 753 (loL i) [] h kc ks := by
  have hR : aOk (R_addTarget A (y 1) (y 2) (y 3) (y 4)).2.2 := a_addTarget ok _ _ _ _
  have hb : (R_addTarget A (y 1) (y 2) (y 3) (y 4)).1 ≤ 3 := by unfold R_addTarget; repeat (first | exact Nat.le_of_ble_eq_true rfl | apply pif1)
  obtain ⟨R, eR⟩ : ∃ R, (R_addTarget A (y 1) (y 2) (y 3) (y 4)) = R := ⟨_, rfl⟩
  rw [eR] at hR hb
  refine k_aload_n dL_law_753 rfl rfl ?_
  refine k_rd dL_law_754 dL_law_755 dL_law_757 (by decide) dL_law_758 dL_law_759 rfl rfl (hy 1 (by decide)) ?_
  refine k_rd dL_law_760 dL_law_761 dL_law_763 (by decide) dL_law_764 dL_law_765 rfl rfl (hy 2 (by decide)) ?_
  refine k_rd dL_law_766 dL_law_767 dL_law_769 (by decide) dL_law_770 dL_law_771 rfl rfl (hy 3 (by decide)) ?_
  refine k_rd dL_law_772 dL_law_773 dL_law_775 (by decide) dL_law_776 dL_law_777 rfl rfl (hy 4 (by decide)) ?_
  refine k_aload_n dL_law_778 rfl rfl ?_
  refine k_staticH (QZ := fun v h' => v = some (.int (nI R.1)) ∧ CS h' 83 R.2.2 ∧ MSt h' A th ∧ olv h' R) (QXZ := fun _ _ => False) (avs := [.ref 0, .int (y 1), .int (y 2), .int (y 3), .int (y 4), .ref 82]) (rest := []) (d' := 10) (mc' := 16) (ms' := 800) (kc' := kc - 16) (ks' := ks - 800) dL_law_779 mh_addTarget w_m_L_131 w_st_L_addTarget rfl rfl (Nat.zero_le _) (by decide) (by omega) (by omega) (h_addTarget (d := 3) hl0 c s ok o (fun h' a b c => by rw [eR] at a c; exact ⟨by rw [eR], a, b, c⟩)) (fun _ _ q => q) ?_
  rintro _ h1 ⟨rfl, c1, s1, o1⟩ -
  refine k_istore dL_law_782 (by decide) rfl rfl ?_
  refine k_aload_n dL_law_784 rfl rfl ?_
  refine k_rd dL_law_785 dL_law_786 dL_law_788 (by decide) dL_law_789 dL_law_790 rfl rfl (hy 1 (by decide)) ?_
  refine k_rd dL_law_791 dL_law_792 dL_law_794 (by decide) dL_law_795 dL_law_796 rfl rfl (hy 2 (by decide)) ?_
  refine k_rd dL_law_797 dL_law_798 dL_law_800 (by decide) dL_law_801 dL_law_802 rfl rfl (hy 3 (by decide)) ?_
  refine k_rd dL_law_803 dL_law_804 dL_law_806 (by decide) dL_law_807 dL_law_808 rfl rfl (hy 4 (by decide)) ?_
  obtain ⟨wy, bb⟩ := s1.2.1
  refine k_virtual (QZ := fun v h' => v = some (.int R.2.1) ∧ q_fr mS h1 h' ∧ MSt h' R.2.2 (nI R.1)) (QXZ := fun _ _ => False) (avs := [.int (y 1), .int (y 2), .int (y 3), .int (y 4)]) (rest := []) (i := 49) (d' := 10) (mc' := 200) (ms' := 800) (kc' := kc - 216) (ks' := ks - 1600) dL_law_809 mt_X10_addTarget w_m_L_133 w_in_X10_addTarget w_se_X10_addTarget rfl rfl (Nat.zero_le _) (by decide) (by omega) (by omega) cl_X10.1 bb.1.2 (m_addTarget (d := 8) (by decide) (by decide) s1 ok (fun h' f s' => by rw [eR] at s'; exact ⟨by rw [eR], f, s'⟩)) (fun _ _ q => q) ?_
  rintro _ h2 ⟨rfl, f2, s2⟩ -
  exact law_tail (tg := 0) dL_law_812 dL_law_814 dL_law_815 dL_law_818 dL_law_820 dL_law_823 dL_law_824 dL_law_825 dL_law_827 dL_law_830 dL_law_831 dL_law_832 dL_law_833 dL_law_835 dL_law_836 dL_law_837 dL_law_840 dL_law_841 dL_law_842 (by decide) hb (CS_fr c1 f2 (fun i q => by unfold mS at q; omega)) s2 (o1.fr f2 (by unfold mS; omega)) (k h2 _ _ (CS_fr c1 f2 (fun i q => by unfold mS at q; omega)) s2 hR (o1.o.fr f2 (by unfold mS; omega)))
set_option maxHeartbeats 1000000 in
theorem law_7 (hl0 : l.stackTraces = false) (hkc : 216 ≤ kc) (hks : 1600 ≤ ks) (hy : ∀ k : Nat, k < 7 → vp_in (i + nI k) L ∧ xs (i + nI k).toNatClampNeg = y k) (c : CS h 83 A) (s : MSt h A th) (ok : aOk A) (o : ol h) (k : ∀ h' A' th', CS h' 83 A' → MSt h' A' th' → aOk A' → ol h' → q_K (xL b L xs) l 11 mL_law mc ms Q QX n0 2095 (loL i) [] h' (kc - 216) (ks - 1600)) : q_K (xL b L xs) l 11 mL_law mc ms Q QX n0 845 (loL i) [] h kc ks := by
  have hR : aOk (R_target A (y 1) (y 2)).2.2 := by unfold R_target; repeat (first | exact ok | exact aR_p (fun _ => ok) (fun _ => ok) | refine aR_p (fun _ => ?_) (fun _ => ?_))
  have hb : (R_target A (y 1) (y 2)).1 ≤ 3 := by unfold R_target; repeat (first | exact Nat.le_of_ble_eq_true rfl | apply pif1)
  obtain ⟨R, eR⟩ : ∃ R, (R_target A (y 1) (y 2)) = R := ⟨_, rfl⟩
  rw [eR] at hR hb
  refine k_aload_n dL_law_845 rfl rfl ?_
  refine k_rd dL_law_846 dL_law_847 dL_law_849 (by decide) dL_law_850 dL_law_851 rfl rfl (hy 1 (by decide)) ?_
  refine k_rd dL_law_852 dL_law_853 dL_law_855 (by decide) dL_law_856 dL_law_857 rfl rfl (hy 2 (by decide)) ?_
  refine k_aload_n dL_law_858 rfl rfl ?_
  refine k_staticH (QZ := fun v h' => v = some (.int (nI R.1)) ∧ CS h' 83 R.2.2 ∧ MSt h' A th ∧ olv h' R) (QXZ := fun _ _ => False) (avs := [.ref 0, .int (y 1), .int (y 2), .ref 82]) (rest := []) (d' := 10) (mc' := 16) (ms' := 800) (kc' := kc - 16) (ks' := ks - 800) dL_law_859 mh_target w_m_L_134 w_st_L_target rfl rfl (Nat.zero_le _) (by decide) (by omega) (by omega) (h_target (d := 3) hl0 c s ok o (fun h' a b c => by rw [eR] at a c; exact ⟨by rw [eR], a, b, c⟩)) (fun _ _ q => q) ?_
  rintro _ h1 ⟨rfl, c1, s1, o1⟩ -
  refine k_istore dL_law_862 (by decide) rfl rfl ?_
  refine k_aload_n dL_law_864 rfl rfl ?_
  refine k_rd dL_law_865 dL_law_866 dL_law_868 (by decide) dL_law_869 dL_law_870 rfl rfl (hy 1 (by decide)) ?_
  refine k_rd dL_law_871 dL_law_872 dL_law_874 (by decide) dL_law_875 dL_law_876 rfl rfl (hy 2 (by decide)) ?_
  obtain ⟨wy, bb⟩ := s1.2.1
  refine k_virtual (QZ := fun v h' => v = some (.int R.2.1) ∧ q_fr mS h1 h' ∧ MSt h' R.2.2 (nI R.1)) (QXZ := fun _ _ => False) (avs := [.int (y 1), .int (y 2)]) (rest := []) (i := 49) (d' := 10) (mc' := 200) (ms' := 800) (kc' := kc - 216) (ks' := ks - 1600) dL_law_877 mt_X10_target w_m_L_137 w_in_X10_target w_se_X10_target rfl rfl (Nat.zero_le _) (by decide) (by omega) (by omega) cl_X10.1 bb.1.2 (m_target (d := 7) s1 ok (fun h' f s' => by rw [eR] at s'; exact ⟨by rw [eR], f, s'⟩)) (fun _ _ q => q) ?_
  rintro _ h2 ⟨rfl, f2, s2⟩ -
  exact law_tail (tg := 0) dL_law_880 dL_law_882 dL_law_883 dL_law_886 dL_law_888 dL_law_891 dL_law_892 dL_law_893 dL_law_895 dL_law_898 dL_law_899 dL_law_900 dL_law_901 dL_law_903 dL_law_904 dL_law_905 dL_law_908 dL_law_909 dL_law_910 (by decide) hb (CS_fr c1 f2 (fun i q => by unfold mS at q; omega)) s2 (o1.fr f2 (by unfold mS; omega)) (k h2 _ _ (CS_fr c1 f2 (fun i q => by unfold mS at q; omega)) s2 hR (o1.o.fr f2 (by unfold mS; omega)))
set_option maxHeartbeats 1000000 in
theorem law_8 (hl0 : l.stackTraces = false) (hkc : 216 ≤ kc) (hks : 1600 ≤ ks) (hy : ∀ k : Nat, k < 7 → vp_in (i + nI k) L ∧ xs (i + nI k).toNatClampNeg = y k) (c : CS h 83 A) (s : MSt h A th) (ok : aOk A) (o : ol h) (k : ∀ h' A' th', CS h' 83 A' → MSt h' A' th' → aOk A' → ol h' → q_K (xL b L xs) l 11 mL_law mc ms Q QX n0 2095 (loL i) [] h' (kc - 216) (ks - 1600)) : q_K (xL b L xs) l 11 mL_law mc ms Q QX n0 913 (loL i) [] h kc ks := by
  have hR : aOk (R_addPass A (y 1) (y 2) (y 3)).2.2 := a_addPass ok _ _ _
  have hb : (R_addPass A (y 1) (y 2) (y 3)).1 ≤ 3 := by unfold R_addPass; repeat (first | exact Nat.le_of_ble_eq_true rfl | apply pif1)
  obtain ⟨R, eR⟩ : ∃ R, (R_addPass A (y 1) (y 2) (y 3)) = R := ⟨_, rfl⟩
  rw [eR] at hR hb
  refine k_aload_n dL_law_913 rfl rfl ?_
  refine k_rd dL_law_914 dL_law_915 dL_law_917 (by decide) dL_law_918 dL_law_919 rfl rfl (hy 1 (by decide)) ?_
  refine k_rd dL_law_920 dL_law_921 dL_law_923 (by decide) dL_law_924 dL_law_925 rfl rfl (hy 2 (by decide)) ?_
  refine k_rd dL_law_926 dL_law_927 dL_law_929 (by decide) dL_law_930 dL_law_931 rfl rfl (hy 3 (by decide)) ?_
  refine k_aload_n dL_law_932 rfl rfl ?_
  refine k_staticH (QZ := fun v h' => v = some (.int (nI R.1)) ∧ CS h' 83 R.2.2 ∧ MSt h' A th ∧ olv h' R) (QXZ := fun _ _ => False) (avs := [.ref 0, .int (y 1), .int (y 2), .int (y 3), .ref 82]) (rest := []) (d' := 10) (mc' := 16) (ms' := 800) (kc' := kc - 16) (ks' := ks - 800) dL_law_933 mh_addPass w_m_L_138 w_st_L_addPass rfl rfl (Nat.zero_le _) (by decide) (by omega) (by omega) (h_addPass (d := 3) hl0 c s ok o (fun h' a b c => by rw [eR] at a c; exact ⟨by rw [eR], a, b, c⟩)) (fun _ _ q => q) ?_
  rintro _ h1 ⟨rfl, c1, s1, o1⟩ -
  refine k_istore dL_law_936 (by decide) rfl rfl ?_
  refine k_aload_n dL_law_938 rfl rfl ?_
  refine k_rd dL_law_939 dL_law_940 dL_law_942 (by decide) dL_law_943 dL_law_944 rfl rfl (hy 1 (by decide)) ?_
  refine k_rd dL_law_945 dL_law_946 dL_law_948 (by decide) dL_law_949 dL_law_950 rfl rfl (hy 2 (by decide)) ?_
  refine k_rd dL_law_951 dL_law_952 dL_law_954 (by decide) dL_law_955 dL_law_956 rfl rfl (hy 3 (by decide)) ?_
  obtain ⟨wy, bb⟩ := s1.2.1
  refine k_virtual (QZ := fun v h' => v = some (.int R.2.1) ∧ q_fr mS h1 h' ∧ MSt h' R.2.2 (nI R.1)) (QXZ := fun _ _ => False) (avs := [.int (y 1), .int (y 2), .int (y 3)]) (rest := []) (i := 49) (d' := 10) (mc' := 200) (ms' := 800) (kc' := kc - 216) (ks' := ks - 1600) dL_law_957 mt_X10_addPass w_m_L_140 w_in_X10_addPass w_se_X10_addPass rfl rfl (Nat.zero_le _) (by decide) (by omega) (by omega) cl_X10.1 bb.1.2 (m_addPass (d := 9) (by decide) (by decide) s1 ok (fun h' f s' => by rw [eR] at s'; exact ⟨by rw [eR], f, s'⟩)) (fun _ _ q => q) ?_
  rintro _ h2 ⟨rfl, f2, s2⟩ -
  exact law_tail (tg := 0) dL_law_960 dL_law_962 dL_law_963 dL_law_966 dL_law_968 dL_law_971 dL_law_972 dL_law_973 dL_law_975 dL_law_978 dL_law_979 dL_law_980 dL_law_981 dL_law_983 dL_law_984 dL_law_985 dL_law_988 dL_law_989 dL_law_990 (by decide) hb (CS_fr c1 f2 (fun i q => by unfold mS at q; omega)) s2 (o1.fr f2 (by unfold mS; omega)) (k h2 _ _ (CS_fr c1 f2 (fun i q => by unfold mS at q; omega)) s2 hR (o1.o.fr f2 (by unfold mS; omega)))
set_option maxHeartbeats 1000000 in
theorem law_9 (hl0 : l.stackTraces = false) (hkc : 216 ≤ kc) (hks : 1600 ≤ ks) (hy : ∀ k : Nat, k < 7 → vp_in (i + nI k) L ∧ xs (i + nI k).toNatClampNeg = y k) (c : CS h 83 A) (s : MSt h A th) (ok : aOk A) (o : ol h) (k : ∀ h' A' th', CS h' 83 A' → MSt h' A' th' → aOk A' → ol h' → q_K (xL b L xs) l 11 mL_law mc ms Q QX n0 2095 (loL i) [] h' (kc - 216) (ks - 1600)) : q_K (xL b L xs) l 11 mL_law mc ms Q QX n0 993 (loL i) [] h kc ks := by
  have hR : aOk (R_rate A (y 1)).2.2 := by unfold R_rate; repeat (first | exact ok | exact aR_p (fun _ => ok) (fun _ => ok) | refine aR_p (fun _ => ?_) (fun _ => ?_))
  have hb : (R_rate A (y 1)).1 ≤ 3 := by unfold R_rate; repeat (first | exact Nat.le_of_ble_eq_true rfl | apply pif1)
  obtain ⟨R, eR⟩ : ∃ R, (R_rate A (y 1)) = R := ⟨_, rfl⟩
  rw [eR] at hR hb
  refine k_aload_n dL_law_993 rfl rfl ?_
  refine k_rd dL_law_994 dL_law_995 dL_law_997 (by decide) dL_law_998 dL_law_999 rfl rfl (hy 1 (by decide)) ?_
  refine k_aload_n dL_law_1000 rfl rfl ?_
  refine k_staticH (QZ := fun v h' => v = some (.int (nI R.1)) ∧ CS h' 83 R.2.2 ∧ MSt h' A th ∧ olv h' R) (QXZ := fun _ _ => False) (avs := [.ref 0, .int (y 1), .ref 82]) (rest := []) (d' := 10) (mc' := 16) (ms' := 800) (kc' := kc - 16) (ks' := ks - 800) dL_law_1001 mh_rate w_m_L_141 w_st_L_rate rfl rfl (Nat.zero_le _) (by decide) (by omega) (by omega) (h_rate (d := 3) hl0 c s ok o (fun h' a b c => by rw [eR] at a c; exact ⟨by rw [eR], a, b, c⟩)) (fun _ _ q => q) ?_
  rintro _ h1 ⟨rfl, c1, s1, o1⟩ -
  refine k_istore dL_law_1004 (by decide) rfl rfl ?_
  refine k_aload_n dL_law_1006 rfl rfl ?_
  refine k_rd dL_law_1007 dL_law_1008 dL_law_1010 (by decide) dL_law_1011 dL_law_1012 rfl rfl (hy 1 (by decide)) ?_
  obtain ⟨wy, bb⟩ := s1.2.1
  refine k_virtual (QZ := fun v h' => v = some (.int R.2.1) ∧ q_fr mS h1 h' ∧ MSt h' R.2.2 (nI R.1)) (QXZ := fun _ _ => False) (avs := [.int (y 1)]) (rest := []) (i := 49) (d' := 10) (mc' := 200) (ms' := 800) (kc' := kc - 216) (ks' := ks - 1600) dL_law_1013 mt_X10_rate w_m_L_143 w_in_X10_rate w_se_X10_rate rfl rfl (Nat.zero_le _) (by decide) (by omega) (by omega) cl_X10.1 bb.1.2 (m_rate (d := 8) s1 ok (fun h' f s' => by rw [eR] at s'; exact ⟨by rw [eR], f, s'⟩)) (fun _ _ q => q) ?_
  rintro _ h2 ⟨rfl, f2, s2⟩ -
  exact law_tail (tg := 0) dL_law_1016 dL_law_1018 dL_law_1019 dL_law_1022 dL_law_1024 dL_law_1027 dL_law_1028 dL_law_1029 dL_law_1031 dL_law_1034 dL_law_1035 dL_law_1036 dL_law_1037 dL_law_1039 dL_law_1040 dL_law_1041 dL_law_1044 dL_law_1045 dL_law_1046 (by decide) hb (CS_fr c1 f2 (fun i q => by unfold mS at q; omega)) s2 (o1.fr f2 (by unfold mS; omega)) (k h2 _ _ (CS_fr c1 f2 (fun i q => by unfold mS at q; omega)) s2 hR (o1.o.fr f2 (by unfold mS; omega)))
set_option maxHeartbeats 1000000 in
theorem law_10 (hl0 : l.stackTraces = false) (hkc : 216 ≤ kc) (hks : 1600 ≤ ks) (hy : ∀ k : Nat, k < 7 → vp_in (i + nI k) L ∧ xs (i + nI k).toNatClampNeg = y k) (c : CS h 83 A) (s : MSt h A th) (ok : aOk A) (o : ol h) (k : ∀ h' A' th', CS h' 83 A' → MSt h' A' th' → aOk A' → ol h' → q_K (xL b L xs) l 11 mL_law mc ms Q QX n0 2095 (loL i) [] h' (kc - 216) (ks - 1600)) : q_K (xL b L xs) l 11 mL_law mc ms Q QX n0 1049 (loL i) [] h kc ks := by
  have hR : aOk (R_sky A (y 1) (neZ (y 2))).2.2 := by unfold R_sky; repeat (first | exact ok | exact aR_p (fun _ => ok) (fun _ => ok) | refine aR_p (fun _ => ?_) (fun _ => ?_))
  have hb : (R_sky A (y 1) (neZ (y 2))).1 ≤ 3 := by unfold R_sky; repeat (first | exact Nat.le_of_ble_eq_true rfl | apply pif1)
  obtain ⟨R, eR⟩ : ∃ R, (R_sky A (y 1) (neZ (y 2))) = R := ⟨_, rfl⟩
  rw [eR] at hR hb
  refine k_aload_n dL_law_1049 rfl rfl ?_
  refine k_rd dL_law_1050 dL_law_1051 dL_law_1053 (by decide) dL_law_1054 dL_law_1055 rfl rfl (hy 1 (by decide)) ?_
  refine k_rd dL_law_1056 dL_law_1057 dL_law_1059 (by decide) dL_law_1060 dL_law_1061 rfl rfl (hy 2 (by decide)) ?_
  refine k_bool dL_law_1062 dL_law_1065 dL_law_1066 dL_law_1069 ?_
  refine k_aload_n dL_law_1070 rfl rfl ?_
  refine k_staticH (QZ := fun v h' => v = some (.int (nI R.1)) ∧ CS h' 83 R.2.2 ∧ MSt h' A th ∧ olv h' R) (QXZ := fun _ _ => False) (avs := [.ref 0, .int (y 1), .int (neZ (y 2)), .ref 82]) (rest := []) (d' := 10) (mc' := 16) (ms' := 800) (kc' := kc - 16) (ks' := ks - 800) dL_law_1071 mh_sky w_m_L_144 w_st_L_sky rfl rfl (Nat.zero_le _) (by decide) (by omega) (by omega) (h_sky (d := 3) hl0 c s ok o (fun h' a b c => by rw [eR] at a c; exact ⟨by rw [eR], a, b, c⟩)) (fun _ _ q => q) ?_
  rintro _ h1 ⟨rfl, c1, s1, o1⟩ -
  refine k_istore dL_law_1074 (by decide) rfl rfl ?_
  refine k_aload_n dL_law_1076 rfl rfl ?_
  refine k_rd dL_law_1077 dL_law_1078 dL_law_1080 (by decide) dL_law_1081 dL_law_1082 rfl rfl (hy 1 (by decide)) ?_
  refine k_rd dL_law_1083 dL_law_1084 dL_law_1086 (by decide) dL_law_1087 dL_law_1088 rfl rfl (hy 2 (by decide)) ?_
  refine k_bool dL_law_1089 dL_law_1092 dL_law_1093 dL_law_1096 ?_
  obtain ⟨wy, bb⟩ := s1.2.1
  refine k_virtual (QZ := fun v h' => v = some (.int R.2.1) ∧ q_fr mS h1 h' ∧ MSt h' R.2.2 (nI R.1)) (QXZ := fun _ _ => False) (avs := [.int (y 1), .int (neZ (y 2))]) (rest := []) (i := 49) (d' := 10) (mc' := 200) (ms' := 800) (kc' := kc - 216) (ks' := ks - 1600) dL_law_1097 mt_X10_sky w_m_L_147 w_in_X10_sky w_se_X10_sky rfl rfl (Nat.zero_le _) (by decide) (by omega) (by omega) cl_X10.1 bb.1.2 (m_sky (d := 7) s1 ok (fun h' f s' => by rw [eR] at s'; exact ⟨by rw [eR], f, s'⟩)) (fun _ _ q => q) ?_
  rintro _ h2 ⟨rfl, f2, s2⟩ -
  exact law_tail (tg := 0) dL_law_1100 dL_law_1102 dL_law_1103 dL_law_1106 dL_law_1108 dL_law_1111 dL_law_1112 dL_law_1113 dL_law_1115 dL_law_1118 dL_law_1119 dL_law_1120 dL_law_1121 dL_law_1123 dL_law_1124 dL_law_1125 dL_law_1128 dL_law_1129 dL_law_1130 (by decide) hb (CS_fr c1 f2 (fun i q => by unfold mS at q; omega)) s2 (o1.fr f2 (by unfold mS; omega)) (k h2 _ _ (CS_fr c1 f2 (fun i q => by unfold mS at q; omega)) s2 hR (o1.o.fr f2 (by unfold mS; omega)))
set_option maxHeartbeats 1000000 in
theorem law_11 (hl0 : l.stackTraces = false) (hkc : 216 ≤ kc) (hks : 1600 ≤ ks) (hy : ∀ k : Nat, k < 7 → vp_in (i + nI k) L ∧ xs (i + nI k).toNatClampNeg = y k) (c : CS h 83 A) (s : MSt h A th) (ok : aOk A) (o : ol h) (k : ∀ h' A' th', CS h' 83 A' → MSt h' A' th' → aOk A' → ol h' → q_K (xL b L xs) l 11 mL_law mc ms Q QX n0 2095 (loL i) [] h' (kc - 216) (ks - 1600)) : q_K (xL b L xs) l 11 mL_law mc ms Q QX n0 1133 (loL i) [] h kc ks := by
  have hR : aOk (R_setRover A (y 1) (y 2)).2.2 := a_setRover ok _ _
  have hb : (R_setRover A (y 1) (y 2)).1 ≤ 3 := by unfold R_setRover; repeat (first | exact Nat.le_of_ble_eq_true rfl | apply pif1)
  obtain ⟨R, eR⟩ : ∃ R, (R_setRover A (y 1) (y 2)) = R := ⟨_, rfl⟩
  rw [eR] at hR hb
  refine k_aload_n dL_law_1133 rfl rfl ?_
  refine k_rd dL_law_1134 dL_law_1135 dL_law_1137 (by decide) dL_law_1138 dL_law_1139 rfl rfl (hy 1 (by decide)) ?_
  refine k_rd dL_law_1140 dL_law_1141 dL_law_1143 (by decide) dL_law_1144 dL_law_1145 rfl rfl (hy 2 (by decide)) ?_
  refine k_aload_n dL_law_1146 rfl rfl ?_
  refine k_staticH (QZ := fun v h' => v = some (.int (nI R.1)) ∧ CS h' 83 R.2.2 ∧ MSt h' A th ∧ olv h' R) (QXZ := fun _ _ => False) (avs := [.ref 0, .int (y 1), .int (y 2), .ref 82]) (rest := []) (d' := 10) (mc' := 16) (ms' := 800) (kc' := kc - 16) (ks' := ks - 800) dL_law_1147 mh_setRover w_m_L_148 w_st_L_setRover rfl rfl (Nat.zero_le _) (by decide) (by omega) (by omega) (h_setRover (d := 3) hl0 c s ok o (fun h' a b c => by rw [eR] at a c; exact ⟨by rw [eR], a, b, c⟩)) (fun _ _ q => q) ?_
  rintro _ h1 ⟨rfl, c1, s1, o1⟩ -
  refine k_istore dL_law_1150 (by decide) rfl rfl ?_
  refine k_aload_n dL_law_1152 rfl rfl ?_
  refine k_rd dL_law_1153 dL_law_1154 dL_law_1156 (by decide) dL_law_1157 dL_law_1158 rfl rfl (hy 1 (by decide)) ?_
  refine k_rd dL_law_1159 dL_law_1160 dL_law_1162 (by decide) dL_law_1163 dL_law_1164 rfl rfl (hy 2 (by decide)) ?_
  obtain ⟨wy, bb⟩ := s1.2.1
  refine k_virtual (QZ := fun v h' => v = some (.int R.2.1) ∧ q_fr mS h1 h' ∧ MSt h' R.2.2 (nI R.1)) (QXZ := fun _ _ => False) (avs := [.int (y 1), .int (y 2)]) (rest := []) (i := 49) (d' := 10) (mc' := 200) (ms' := 800) (kc' := kc - 216) (ks' := ks - 1600) dL_law_1165 mt_X10_setRover w_m_L_150 w_in_X10_setRover w_se_X10_setRover rfl rfl (Nat.zero_le _) (by decide) (by omega) (by omega) cl_X10.1 bb.1.2 (m_setRover (d := 9) s1 ok (fun h' f s' => by rw [eR] at s'; exact ⟨by rw [eR], f, s'⟩)) (fun _ _ q => q) ?_
  rintro _ h2 ⟨rfl, f2, s2⟩ -
  exact law_tail (tg := 0) dL_law_1168 dL_law_1170 dL_law_1171 dL_law_1174 dL_law_1176 dL_law_1179 dL_law_1180 dL_law_1181 dL_law_1183 dL_law_1186 dL_law_1187 dL_law_1188 dL_law_1189 dL_law_1191 dL_law_1192 dL_law_1193 dL_law_1196 dL_law_1197 dL_law_1198 (by decide) hb (CS_fr c1 f2 (fun i q => by unfold mS at q; omega)) s2 (o1.fr f2 (by unfold mS; omega)) (k h2 _ _ (CS_fr c1 f2 (fun i q => by unfold mS at q; omega)) s2 hR (o1.o.fr f2 (by unfold mS; omega)))
set_option maxHeartbeats 1000000 in
theorem law_12 (hl0 : l.stackTraces = false) (hkc : 216 ≤ kc) (hks : 1600 ≤ ks) (hy : ∀ k : Nat, k < 7 → vp_in (i + nI k) L ∧ xs (i + nI k).toNatClampNeg = y k) (c : CS h 83 A) (s : MSt h A th) (ok : aOk A) (o : ol h) (k : ∀ h' A' th', CS h' 83 A' → MSt h' A' th' → aOk A' → ol h' → q_K (xL b L xs) l 11 mL_law mc ms Q QX n0 2095 (loL i) [] h' (kc - 216) (ks - 1600)) : q_K (xL b L xs) l 11 mL_law mc ms Q QX n0 1201 (loL i) [] h kc ks := by
  have hR : aOk (R_rover A (y 1)).2.2 := by unfold R_rover; repeat (first | exact ok | exact aR_p (fun _ => ok) (fun _ => ok) | refine aR_p (fun _ => ?_) (fun _ => ?_))
  have hb : (R_rover A (y 1)).1 ≤ 3 := by unfold R_rover; repeat (first | exact Nat.le_of_ble_eq_true rfl | apply pif1)
  obtain ⟨R, eR⟩ : ∃ R, (R_rover A (y 1)) = R := ⟨_, rfl⟩
  rw [eR] at hR hb
  refine k_aload_n dL_law_1201 rfl rfl ?_
  refine k_rd dL_law_1202 dL_law_1203 dL_law_1205 (by decide) dL_law_1206 dL_law_1207 rfl rfl (hy 1 (by decide)) ?_
  refine k_aload_n dL_law_1208 rfl rfl ?_
  refine k_staticH (QZ := fun v h' => v = some (.int (nI R.1)) ∧ CS h' 83 R.2.2 ∧ MSt h' A th ∧ olv h' R) (QXZ := fun _ _ => False) (avs := [.ref 0, .int (y 1), .ref 82]) (rest := []) (d' := 10) (mc' := 16) (ms' := 800) (kc' := kc - 16) (ks' := ks - 800) dL_law_1209 mh_rover w_m_L_151 w_st_L_rover rfl rfl (Nat.zero_le _) (by decide) (by omega) (by omega) (h_rover (d := 3) hl0 c s ok o (fun h' a b c => by rw [eR] at a c; exact ⟨by rw [eR], a, b, c⟩)) (fun _ _ q => q) ?_
  rintro _ h1 ⟨rfl, c1, s1, o1⟩ -
  refine k_istore dL_law_1212 (by decide) rfl rfl ?_
  refine k_aload_n dL_law_1214 rfl rfl ?_
  refine k_rd dL_law_1215 dL_law_1216 dL_law_1218 (by decide) dL_law_1219 dL_law_1220 rfl rfl (hy 1 (by decide)) ?_
  obtain ⟨wy, bb⟩ := s1.2.1
  refine k_virtual (QZ := fun v h' => v = some (.int R.2.1) ∧ q_fr mS h1 h' ∧ MSt h' R.2.2 (nI R.1)) (QXZ := fun _ _ => False) (avs := [.int (y 1)]) (rest := []) (i := 49) (d' := 10) (mc' := 200) (ms' := 800) (kc' := kc - 216) (ks' := ks - 1600) dL_law_1221 mt_X10_rover w_m_L_153 w_in_X10_rover w_se_X10_rover rfl rfl (Nat.zero_le _) (by decide) (by omega) (by omega) cl_X10.1 bb.1.2 (m_rover (d := 8) s1 ok (fun h' f s' => by rw [eR] at s'; exact ⟨by rw [eR], f, s'⟩)) (fun _ _ q => q) ?_
  rintro _ h2 ⟨rfl, f2, s2⟩ -
  exact law_tail (tg := 0) dL_law_1224 dL_law_1226 dL_law_1227 dL_law_1230 dL_law_1232 dL_law_1235 dL_law_1236 dL_law_1237 dL_law_1239 dL_law_1242 dL_law_1243 dL_law_1244 dL_law_1245 dL_law_1247 dL_law_1248 dL_law_1249 dL_law_1252 dL_law_1253 dL_law_1254 (by decide) hb (CS_fr c1 f2 (fun i q => by unfold mS at q; omega)) s2 (o1.fr f2 (by unfold mS; omega)) (k h2 _ _ (CS_fr c1 f2 (fun i q => by unfold mS at q; omega)) s2 hR (o1.o.fr f2 (by unfold mS; omega)))
set_option maxHeartbeats 1000000 in
theorem law_13 (hl0 : l.stackTraces = false) (hkc : 216 ≤ kc) (hks : 1600 ≤ ks) (hy : ∀ k : Nat, k < 7 → vp_in (i + nI k) L ∧ xs (i + nI k).toNatClampNeg = y k) (c : CS h 83 A) (s : MSt h A th) (ok : aOk A) (o : ol h) (k : ∀ h' A' th', CS h' 83 A' → MSt h' A' th' → aOk A' → ol h' → q_K (xL b L xs) l 11 mL_law mc ms Q QX n0 2095 (loL i) [] h' (kc - 216) (ks - 1600)) : q_K (xL b L xs) l 11 mL_law mc ms Q QX n0 1257 (loL i) [] h kc ks := by
  have hR : aOk (R_piece A (y 1) (y 2)).2.2 := by unfold R_piece; repeat (first | exact ok | exact aR_p (fun _ => ok) (fun _ => ok) | refine aR_p (fun _ => ?_) (fun _ => ?_))
  have hb : (R_piece A (y 1) (y 2)).1 ≤ 3 := by unfold R_piece; repeat (first | exact Nat.le_of_ble_eq_true rfl | apply pif1)
  obtain ⟨R, eR⟩ : ∃ R, (R_piece A (y 1) (y 2)) = R := ⟨_, rfl⟩
  rw [eR] at hR hb
  refine k_aload_n dL_law_1257 rfl rfl ?_
  refine k_rd dL_law_1258 dL_law_1259 dL_law_1261 (by decide) dL_law_1262 dL_law_1263 rfl rfl (hy 1 (by decide)) ?_
  refine k_rd dL_law_1264 dL_law_1265 dL_law_1267 (by decide) dL_law_1268 dL_law_1269 rfl rfl (hy 2 (by decide)) ?_
  refine k_aload_n dL_law_1270 rfl rfl ?_
  refine k_staticH (QZ := fun v h' => v = some (.int (nI R.1)) ∧ CS h' 83 R.2.2 ∧ MSt h' A th ∧ olv h' R) (QXZ := fun _ _ => False) (avs := [.ref 0, .int (y 1), .int (y 2), .ref 82]) (rest := []) (d' := 10) (mc' := 16) (ms' := 800) (kc' := kc - 16) (ks' := ks - 800) dL_law_1271 mh_piece w_m_L_154 w_st_L_piece rfl rfl (Nat.zero_le _) (by decide) (by omega) (by omega) (h_piece (d := 3) hl0 c s ok o (fun h' a b c => by rw [eR] at a c; exact ⟨by rw [eR], a, b, c⟩)) (fun _ _ q => q) ?_
  rintro _ h1 ⟨rfl, c1, s1, o1⟩ -
  refine k_istore dL_law_1274 (by decide) rfl rfl ?_
  refine k_aload_n dL_law_1276 rfl rfl ?_
  refine k_rd dL_law_1277 dL_law_1278 dL_law_1280 (by decide) dL_law_1281 dL_law_1282 rfl rfl (hy 1 (by decide)) ?_
  refine k_rd dL_law_1283 dL_law_1284 dL_law_1286 (by decide) dL_law_1287 dL_law_1288 rfl rfl (hy 2 (by decide)) ?_
  obtain ⟨wy, bb⟩ := s1.2.1
  refine k_virtual (QZ := fun v h' => v = some (.int R.2.1) ∧ q_fr mS h1 h' ∧ MSt h' R.2.2 (nI R.1)) (QXZ := fun _ _ => False) (avs := [.int (y 1), .int (y 2)]) (rest := []) (i := 49) (d' := 10) (mc' := 200) (ms' := 800) (kc' := kc - 216) (ks' := ks - 1600) dL_law_1289 mt_X10_piece w_m_L_156 w_in_X10_piece w_se_X10_piece rfl rfl (Nat.zero_le _) (by decide) (by omega) (by omega) cl_X10.1 bb.1.2 (m_piece (d := 9) s1 ok (fun h' f s' => by rw [eR] at s'; exact ⟨by rw [eR], f, s'⟩)) (fun _ _ q => q) ?_
  rintro _ h2 ⟨rfl, f2, s2⟩ -
  exact law_tail (tg := 0) dL_law_1292 dL_law_1294 dL_law_1295 dL_law_1298 dL_law_1300 dL_law_1303 dL_law_1304 dL_law_1305 dL_law_1307 dL_law_1310 dL_law_1311 dL_law_1312 dL_law_1313 dL_law_1315 dL_law_1316 dL_law_1317 dL_law_1320 dL_law_1321 dL_law_1322 (by decide) hb (CS_fr c1 f2 (fun i q => by unfold mS at q; omega)) s2 (o1.fr f2 (by unfold mS; omega)) (k h2 _ _ (CS_fr c1 f2 (fun i q => by unfold mS at q; omega)) s2 hR (o1.o.fr f2 (by unfold mS; omega)))
set_option maxHeartbeats 1000000 in
theorem law_14 (hl0 : l.stackTraces = false) (hkc : 216 ≤ kc) (hks : 1600 ≤ ks) (hy : ∀ k : Nat, k < 7 → vp_in (i + nI k) L ∧ xs (i + nI k).toNatClampNeg = y k) (c : CS h 83 A) (s : MSt h A th) (ok : aOk A) (o : ol h) (k : ∀ h' A' th', CS h' 83 A' → MSt h' A' th' → aOk A' → ol h' → q_K (xL b L xs) l 11 mL_law mc ms Q QX n0 2095 (loL i) [] h' (kc - 216) (ks - 1600)) : q_K (xL b L xs) l 11 mL_law mc ms Q QX n0 1325 (loL i) [] h kc ks := by
  refine k_aload_n dL_law_1325 rfl rfl ?_
  refine k_virtual (QZ := fun v9 h' => v9 = some (.int (R_score A).2.1) ∧ q_fr (clS 83) h h' ∧ CS h' 83 A) (QXZ := fun _ _ => False) (avs := []) (rest := []) (i := 0) (d' := 10) (mc' := 16) (ms' := 800) (kc' := kc - 16) (ks' := ks - 800) dL_law_1326 mt_X9_score w_m_L_157 w_in_X9_score w_se_X9_score rfl rfl (Nat.zero_le _) (by decide) (by omega) (by omega) cl_X9.1 c.o.2 (c_score (d := 7) (by decide) c ok ⟨rfl, q_fr.rf, c⟩) (fun _ _ q => q) ?_
  rintro _ h1 ⟨rfl, f1, c1⟩ -
  have s1 := MSt_fr s f1 (fun i q => cl_nm q)
  obtain ⟨wy, bb⟩ := s1.2.1
  refine k_aload_n dL_law_1329 rfl rfl ?_
  refine k_virtual (QZ := fun v9 h' => v9 = some (.int (R_score A).2.1) ∧ q_fr mS h1 h' ∧ ∃ th', MSt h' A th') (QXZ := fun _ _ => False) (avs := []) (rest := [.int (R_score A).2.1]) (i := 49) (d' := 10) (mc' := 200) (ms' := 800) (kc' := kc - 216) (ks' := ks - 1600) dL_law_1330 mt_X10_score w_m_L_160 w_in_X10_score w_se_X10_score rfl rfl (Nat.le_of_ble_eq_true rfl) (by decide) (by omega) (by omega) cl_X10.1 bb.1.2 (m_score (d := 7) s1 ok (fun h' f s' => ⟨rfl, f, _, s'⟩)) (fun _ _ q => q) ?_
  rintro _ h2 ⟨rfl, f2, th2, s2⟩ -
  have k9 := k h2 A th2 (CS_fr c1 f2 (fun i q => by unfold mS at q; omega)) s2 ok ((o.fr f1 (by unfold clS; omega)).fr f2 (by unfold mS; omega))
  exact k_icmp_eq (tgt := 2095) dL_law_1333 (by decide) (fun _ => k9) (fun e => absurd rfl e)
set_option maxHeartbeats 1000000 in
theorem law_15 (hl0 : l.stackTraces = false) (hkc : 216 ≤ kc) (hks : 1600 ≤ ks) (hy : ∀ k : Nat, k < 7 → vp_in (i + nI k) L ∧ xs (i + nI k).toNatClampNeg = y k) (c : CS h 83 A) (s : MSt h A th) (ok : aOk A) (o : ol h) (k : ∀ h' A' th', CS h' 83 A' → MSt h' A' th' → aOk A' → ol h' → q_K (xL b L xs) l 11 mL_law mc ms Q QX n0 2095 (loL i) [] h' (kc - 216) (ks - 1600)) : q_K (xL b L xs) l 11 mL_law mc ms Q QX n0 1338 (loL i) [] h kc ks := by
  have hR : aOk (R_put A (y 1) (y 2) (y 3) (y 4)).2.2 := a_put ok _ _ _ _
  have hb : (R_put A (y 1) (y 2) (y 3) (y 4)).1 ≤ 3 := by unfold R_put; repeat (first | exact Nat.le_of_ble_eq_true rfl | apply pif1)
  obtain ⟨R, eR⟩ : ∃ R, (R_put A (y 1) (y 2) (y 3) (y 4)) = R := ⟨_, rfl⟩
  rw [eR] at hR hb
  refine k_aload_n dL_law_1338 rfl rfl ?_
  refine k_rd dL_law_1339 dL_law_1340 dL_law_1342 (by decide) dL_law_1343 dL_law_1344 rfl rfl (hy 1 (by decide)) ?_
  refine k_rd dL_law_1345 dL_law_1346 dL_law_1348 (by decide) dL_law_1349 dL_law_1350 rfl rfl (hy 2 (by decide)) ?_
  refine k_rd dL_law_1351 dL_law_1352 dL_law_1354 (by decide) dL_law_1355 dL_law_1356 rfl rfl (hy 3 (by decide)) ?_
  refine k_rd dL_law_1357 dL_law_1358 dL_law_1360 (by decide) dL_law_1361 dL_law_1362 rfl rfl (hy 4 (by decide)) ?_
  refine k_aload_n dL_law_1363 rfl rfl ?_
  refine k_staticH (QZ := fun v h' => v = some (.int (nI R.1)) ∧ CS h' 83 R.2.2 ∧ MSt h' A th ∧ olv h' R) (QXZ := fun _ _ => False) (avs := [.ref 0, .int (y 1), .int (y 2), .int (y 3), .int (y 4), .ref 82]) (rest := []) (d' := 10) (mc' := 16) (ms' := 800) (kc' := kc - 16) (ks' := ks - 800) dL_law_1364 mh_put w_m_L_161 w_st_L_put rfl rfl (Nat.zero_le _) (by decide) (by omega) (by omega) (h_put (d := 3) hl0 c s ok o (fun h' a b c => by rw [eR] at a c; exact ⟨by rw [eR], a, b, c⟩)) (fun _ _ q => q) ?_
  rintro _ h1 ⟨rfl, c1, s1, o1⟩ -
  refine k_istore dL_law_1367 (by decide) rfl rfl ?_
  refine k_aload_n dL_law_1369 rfl rfl ?_
  refine k_rd dL_law_1370 dL_law_1371 dL_law_1373 (by decide) dL_law_1374 dL_law_1375 rfl rfl (hy 1 (by decide)) ?_
  refine k_rd dL_law_1376 dL_law_1377 dL_law_1379 (by decide) dL_law_1380 dL_law_1381 rfl rfl (hy 2 (by decide)) ?_
  refine k_rd dL_law_1382 dL_law_1383 dL_law_1385 (by decide) dL_law_1386 dL_law_1387 rfl rfl (hy 3 (by decide)) ?_
  refine k_rd dL_law_1388 dL_law_1389 dL_law_1391 (by decide) dL_law_1392 dL_law_1393 rfl rfl (hy 4 (by decide)) ?_
  obtain ⟨wy, bb⟩ := s1.2.1
  refine k_virtual (QZ := fun v h' => v = some (.int R.2.1) ∧ q_fr mS h1 h' ∧ MSt h' R.2.2 (nI R.1)) (QXZ := fun _ _ => False) (avs := [.int (y 1), .int (y 2), .int (y 3), .int (y 4)]) (rest := []) (i := 49) (d' := 10) (mc' := 200) (ms' := 800) (kc' := kc - 216) (ks' := ks - 1600) dL_law_1394 mt_X10_put w_m_L_163 w_in_X10_put w_se_X10_put rfl rfl (Nat.zero_le _) (by decide) (by omega) (by omega) cl_X10.1 bb.1.2 (m_put (d := 7) s1 ok (fun h' f s' => by rw [eR] at s'; exact ⟨by rw [eR], f, s'⟩)) (fun _ _ q => q) ?_
  rintro _ h2 ⟨rfl, f2, s2⟩ -
  exact law_tail (tg := 0) dL_law_1397 dL_law_1399 dL_law_1400 dL_law_1403 dL_law_1405 dL_law_1408 dL_law_1409 dL_law_1410 dL_law_1412 dL_law_1415 dL_law_1416 dL_law_1417 dL_law_1418 dL_law_1420 dL_law_1421 dL_law_1422 dL_law_1425 dL_law_1426 dL_law_1427 (by decide) hb (CS_fr c1 f2 (fun i q => by unfold mS at q; omega)) s2 (o1.fr f2 (by unfold mS; omega)) (k h2 _ _ (CS_fr c1 f2 (fun i q => by unfold mS at q; omega)) s2 hR (o1.o.fr f2 (by unfold mS; omega)))
set_option maxHeartbeats 1000000 in
theorem law_16 (hl0 : l.stackTraces = false) (hkc : 216 ≤ kc) (hks : 1600 ≤ ks) (hy : ∀ k : Nat, k < 7 → vp_in (i + nI k) L ∧ xs (i + nI k).toNatClampNeg = y k) (c : CS h 83 A) (s : MSt h A th) (ok : aOk A) (o : ol h) (k : ∀ h' A' th', CS h' 83 A' → MSt h' A' th' → aOk A' → ol h' → q_K (xL b L xs) l 11 mL_law mc ms Q QX n0 2095 (loL i) [] h' (kc - 216) (ks - 1600)) : q_K (xL b L xs) l 11 mL_law mc ms Q QX n0 1430 (loL i) [] h kc ks := by
  have hR : aOk (R_remove A (y 1)).2.2 := a_remove ok _
  have hb : (R_remove A (y 1)).1 ≤ 3 := by unfold R_remove; repeat (first | exact Nat.le_of_ble_eq_true rfl | apply pif1)
  obtain ⟨R, eR⟩ : ∃ R, (R_remove A (y 1)) = R := ⟨_, rfl⟩
  rw [eR] at hR hb
  refine k_aload_n dL_law_1430 rfl rfl ?_
  refine k_rd dL_law_1431 dL_law_1432 dL_law_1434 (by decide) dL_law_1435 dL_law_1436 rfl rfl (hy 1 (by decide)) ?_
  refine k_aload_n dL_law_1437 rfl rfl ?_
  refine k_staticH (QZ := fun v h' => v = some (.int (nI R.1)) ∧ CS h' 83 R.2.2 ∧ MSt h' A th ∧ olv h' R) (QXZ := fun _ _ => False) (avs := [.ref 0, .int (y 1), .ref 82]) (rest := []) (d' := 10) (mc' := 16) (ms' := 800) (kc' := kc - 16) (ks' := ks - 800) dL_law_1438 mh_remove w_m_L_164 w_st_L_remove rfl rfl (Nat.zero_le _) (by decide) (by omega) (by omega) (h_remove (d := 3) hl0 c s ok o (fun h' a b c => by rw [eR] at a c; exact ⟨by rw [eR], a, b, c⟩)) (fun _ _ q => q) ?_
  rintro _ h1 ⟨rfl, c1, s1, o1⟩ -
  refine k_istore dL_law_1441 (by decide) rfl rfl ?_
  refine k_aload_n dL_law_1443 rfl rfl ?_
  refine k_rd dL_law_1444 dL_law_1445 dL_law_1447 (by decide) dL_law_1448 dL_law_1449 rfl rfl (hy 1 (by decide)) ?_
  obtain ⟨wy, bb⟩ := s1.2.1
  refine k_virtual (QZ := fun v h' => v = some (.int R.2.1) ∧ q_fr mS h1 h' ∧ MSt h' R.2.2 (nI R.1)) (QXZ := fun _ _ => False) (avs := [.int (y 1)]) (rest := []) (i := 49) (d' := 10) (mc' := 200) (ms' := 800) (kc' := kc - 216) (ks' := ks - 1600) dL_law_1450 mt_X10_remove w_m_L_166 w_in_X10_remove w_se_X10_remove rfl rfl (Nat.zero_le _) (by decide) (by omega) (by omega) cl_X10.1 bb.1.2 (m_remove (d := 8) s1 ok (fun h' f s' => by rw [eR] at s'; exact ⟨by rw [eR], f, s'⟩)) (fun _ _ q => q) ?_
  rintro _ h2 ⟨rfl, f2, s2⟩ -
  exact law_tail (tg := 0) dL_law_1453 dL_law_1455 dL_law_1456 dL_law_1459 dL_law_1461 dL_law_1464 dL_law_1465 dL_law_1466 dL_law_1468 dL_law_1471 dL_law_1472 dL_law_1473 dL_law_1474 dL_law_1476 dL_law_1477 dL_law_1478 dL_law_1481 dL_law_1482 dL_law_1483 (by decide) hb (CS_fr c1 f2 (fun i q => by unfold mS at q; omega)) s2 (o1.fr f2 (by unfold mS; omega)) (k h2 _ _ (CS_fr c1 f2 (fun i q => by unfold mS at q; omega)) s2 hR (o1.o.fr f2 (by unfold mS; omega)))
set_option maxHeartbeats 1000000 in
theorem law_17 (hl0 : l.stackTraces = false) (hkc : 216 ≤ kc) (hks : 1600 ≤ ks) (hy : ∀ k : Nat, k < 7 → vp_in (i + nI k) L ∧ xs (i + nI k).toNatClampNeg = y k) (c : CS h 83 A) (s : MSt h A th) (ok : aOk A) (o : ol h) (k : ∀ h' A' th', CS h' 83 A' → MSt h' A' th' → aOk A' → ol h' → q_K (xL b L xs) l 11 mL_law mc ms Q QX n0 2095 (loL i) [] h' (kc - 216) (ks - 1600)) : q_K (xL b L xs) l 11 mL_law mc ms Q QX n0 1486 (loL i) [] h kc ks := by
  have hR : aOk (R_move A (y 1) (y 2)).2.2 := a_move ok _ _
  have hb : (R_move A (y 1) (y 2)).1 ≤ 3 := by unfold R_move; repeat (first | exact Nat.le_of_ble_eq_true rfl | apply pif1)
  obtain ⟨R, eR⟩ : ∃ R, (R_move A (y 1) (y 2)) = R := ⟨_, rfl⟩
  rw [eR] at hR hb
  refine k_aload_n dL_law_1486 rfl rfl ?_
  refine k_rd dL_law_1487 dL_law_1488 dL_law_1490 (by decide) dL_law_1491 dL_law_1492 rfl rfl (hy 1 (by decide)) ?_
  refine k_rd dL_law_1493 dL_law_1494 dL_law_1496 (by decide) dL_law_1497 dL_law_1498 rfl rfl (hy 2 (by decide)) ?_
  refine k_aload_n dL_law_1499 rfl rfl ?_
  refine k_staticH (QZ := fun v h' => v = some (.int (nI R.1)) ∧ CS h' 83 R.2.2 ∧ MSt h' A th ∧ olv h' R) (QXZ := fun _ _ => False) (avs := [.ref 0, .int (y 1), .int (y 2), .ref 82]) (rest := []) (d' := 10) (mc' := 16) (ms' := 800) (kc' := kc - 16) (ks' := ks - 800) dL_law_1500 mh_move w_m_L_167 w_st_L_move rfl rfl (Nat.zero_le _) (by decide) (by omega) (by omega) (h_move (d := 3) hl0 c s ok o (fun h' a b c => by rw [eR] at a c; exact ⟨by rw [eR], a, b, c⟩)) (fun _ _ q => q) ?_
  rintro _ h1 ⟨rfl, c1, s1, o1⟩ -
  refine k_istore dL_law_1503 (by decide) rfl rfl ?_
  refine k_aload_n dL_law_1505 rfl rfl ?_
  refine k_rd dL_law_1506 dL_law_1507 dL_law_1509 (by decide) dL_law_1510 dL_law_1511 rfl rfl (hy 1 (by decide)) ?_
  refine k_rd dL_law_1512 dL_law_1513 dL_law_1515 (by decide) dL_law_1516 dL_law_1517 rfl rfl (hy 2 (by decide)) ?_
  obtain ⟨wy, bb⟩ := s1.2.1
  refine k_virtual (QZ := fun v h' => v = some (.int R.2.1) ∧ q_fr mS h1 h' ∧ MSt h' R.2.2 (nI R.1)) (QXZ := fun _ _ => False) (avs := [.int (y 1), .int (y 2)]) (rest := []) (i := 49) (d' := 10) (mc' := 200) (ms' := 800) (kc' := kc - 216) (ks' := ks - 1600) dL_law_1518 mt_X10_move w_m_L_169 w_in_X10_move w_se_X10_move rfl rfl (Nat.zero_le _) (by decide) (by omega) (by omega) cl_X10.1 bb.1.2 (m_move (d := 8) s1 ok (fun h' f s' => by rw [eR] at s'; exact ⟨by rw [eR], f, s'⟩)) (fun _ _ q => q) ?_
  rintro _ h2 ⟨rfl, f2, s2⟩ -
  exact law_tail (tg := 0) dL_law_1521 dL_law_1523 dL_law_1524 dL_law_1527 dL_law_1529 dL_law_1532 dL_law_1533 dL_law_1534 dL_law_1536 dL_law_1539 dL_law_1540 dL_law_1541 dL_law_1542 dL_law_1544 dL_law_1545 dL_law_1546 dL_law_1549 dL_law_1550 dL_law_1551 (by decide) hb (CS_fr c1 f2 (fun i q => by unfold mS at q; omega)) s2 (o1.fr f2 (by unfold mS; omega)) (k h2 _ _ (CS_fr c1 f2 (fun i q => by unfold mS at q; omega)) s2 hR (o1.o.fr f2 (by unfold mS; omega)))
set_option maxHeartbeats 1000000 in
theorem law_18 (hl0 : l.stackTraces = false) (hkc : 216 ≤ kc) (hks : 1600 ≤ ks) (hy : ∀ k : Nat, k < 7 → vp_in (i + nI k) L ∧ xs (i + nI k).toNatClampNeg = y k) (c : CS h 83 A) (s : MSt h A th) (ok : aOk A) (o : ol h) (k : ∀ h' A' th', CS h' 83 A' → MSt h' A' th' → aOk A' → ol h' → q_K (xL b L xs) l 11 mL_law mc ms Q QX n0 2095 (loL i) [] h' (kc - 216) (ks - 1600)) : q_K (xL b L xs) l 11 mL_law mc ms Q QX n0 1554 (loL i) [] h kc ks := by
  have hR : aOk (R_activity A (y 1) (y 2)).2.2 := by unfold R_activity; repeat (first | exact ok | exact aR_p (fun _ => ok) (fun _ => ok) | refine aR_p (fun _ => ?_) (fun _ => ?_))
  have hb : (R_activity A (y 1) (y 2)).1 ≤ 3 := by unfold R_activity; repeat (first | exact Nat.le_of_ble_eq_true rfl | apply pif1)
  obtain ⟨R, eR⟩ : ∃ R, (R_activity A (y 1) (y 2)) = R := ⟨_, rfl⟩
  rw [eR] at hR hb
  refine k_aload_n dL_law_1554 rfl rfl ?_
  refine k_rd dL_law_1555 dL_law_1556 dL_law_1558 (by decide) dL_law_1559 dL_law_1560 rfl rfl (hy 1 (by decide)) ?_
  refine k_rd dL_law_1561 dL_law_1562 dL_law_1564 (by decide) dL_law_1565 dL_law_1566 rfl rfl (hy 2 (by decide)) ?_
  refine k_aload_n dL_law_1567 rfl rfl ?_
  refine k_staticH (QZ := fun v h' => v = some (.int (nI R.1)) ∧ CS h' 83 R.2.2 ∧ MSt h' A th ∧ olv h' R) (QXZ := fun _ _ => False) (avs := [.ref 0, .int (y 1), .int (y 2), .ref 82]) (rest := []) (d' := 10) (mc' := 16) (ms' := 800) (kc' := kc - 16) (ks' := ks - 800) dL_law_1568 mh_activity w_m_L_170 w_st_L_activity rfl rfl (Nat.zero_le _) (by decide) (by omega) (by omega) (h_activity (d := 3) hl0 c s ok o (fun h' a b c => by rw [eR] at a c; exact ⟨by rw [eR], a, b, c⟩)) (fun _ _ q => q) ?_
  rintro _ h1 ⟨rfl, c1, s1, o1⟩ -
  refine k_istore dL_law_1571 (by decide) rfl rfl ?_
  refine k_aload_n dL_law_1573 rfl rfl ?_
  refine k_rd dL_law_1574 dL_law_1575 dL_law_1577 (by decide) dL_law_1578 dL_law_1579 rfl rfl (hy 1 (by decide)) ?_
  refine k_rd dL_law_1580 dL_law_1581 dL_law_1583 (by decide) dL_law_1584 dL_law_1585 rfl rfl (hy 2 (by decide)) ?_
  obtain ⟨wy, bb⟩ := s1.2.1
  refine k_virtual (QZ := fun v h' => v = some (.int R.2.1) ∧ q_fr mS h1 h' ∧ MSt h' R.2.2 (nI R.1)) (QXZ := fun _ _ => False) (avs := [.int (y 1), .int (y 2)]) (rest := []) (i := 49) (d' := 10) (mc' := 200) (ms' := 800) (kc' := kc - 216) (ks' := ks - 1600) dL_law_1586 mt_X10_activity w_m_L_172 w_in_X10_activity w_se_X10_activity rfl rfl (Nat.zero_le _) (by decide) (by omega) (by omega) cl_X10.1 bb.1.2 (m_activity (d := 8) s1 ok (fun h' f s' => by rw [eR] at s'; exact ⟨by rw [eR], f, s'⟩)) (fun _ _ q => q) ?_
  rintro _ h2 ⟨rfl, f2, s2⟩ -
  exact law_tail (tg := 0) dL_law_1589 dL_law_1591 dL_law_1592 dL_law_1595 dL_law_1597 dL_law_1600 dL_law_1601 dL_law_1602 dL_law_1604 dL_law_1607 dL_law_1608 dL_law_1609 dL_law_1610 dL_law_1612 dL_law_1613 dL_law_1614 dL_law_1617 dL_law_1618 dL_law_1619 (by decide) hb (CS_fr c1 f2 (fun i q => by unfold mS at q; omega)) s2 (o1.fr f2 (by unfold mS; omega)) (k h2 _ _ (CS_fr c1 f2 (fun i q => by unfold mS at q; omega)) s2 hR (o1.o.fr f2 (by unfold mS; omega)))
set_option maxHeartbeats 1000000 in
theorem law_19 (hl0 : l.stackTraces = false) (hkc : 216 ≤ kc) (hks : 1600 ≤ ks) (hy : ∀ k : Nat, k < 7 → vp_in (i + nI k) L ∧ xs (i + nI k).toNatClampNeg = y k) (c : CS h 83 A) (s : MSt h A th) (ok : aOk A) (o : ol h) (k : ∀ h' A' th', CS h' 83 A' → MSt h' A' th' → aOk A' → ol h' → q_K (xL b L xs) l 11 mL_law mc ms Q QX n0 2095 (loL i) [] h' (kc - 216) (ks - 1600)) : q_K (xL b L xs) l 11 mL_law mc ms Q QX n0 1622 (loL i) [] h kc ks := by
  have hR : aOk (R_count A (y 1)).2.2 := by unfold R_count; repeat (first | exact ok | exact aR_p (fun _ => ok) (fun _ => ok) | refine aR_p (fun _ => ?_) (fun _ => ?_))
  have hb : (R_count A (y 1)).1 ≤ 3 := by unfold R_count; repeat (first | exact Nat.le_of_ble_eq_true rfl | apply pif1)
  obtain ⟨R, eR⟩ : ∃ R, (R_count A (y 1)) = R := ⟨_, rfl⟩
  rw [eR] at hR hb
  refine k_aload_n dL_law_1622 rfl rfl ?_
  refine k_rd dL_law_1623 dL_law_1624 dL_law_1626 (by decide) dL_law_1627 dL_law_1628 rfl rfl (hy 1 (by decide)) ?_
  refine k_aload_n dL_law_1629 rfl rfl ?_
  refine k_staticH (QZ := fun v h' => v = some (.int (nI R.1)) ∧ CS h' 83 R.2.2 ∧ MSt h' A th ∧ olv h' R) (QXZ := fun _ _ => False) (avs := [.ref 0, .int (y 1), .ref 82]) (rest := []) (d' := 10) (mc' := 16) (ms' := 800) (kc' := kc - 16) (ks' := ks - 800) dL_law_1630 mh_count w_m_L_173 w_st_L_count rfl rfl (Nat.zero_le _) (by decide) (by omega) (by omega) (h_count (d := 3) hl0 c s ok o (fun h' a b c => by rw [eR] at a c; exact ⟨by rw [eR], a, b, c⟩)) (fun _ _ q => q) ?_
  rintro _ h1 ⟨rfl, c1, s1, o1⟩ -
  refine k_istore dL_law_1633 (by decide) rfl rfl ?_
  refine k_aload_n dL_law_1635 rfl rfl ?_
  refine k_rd dL_law_1636 dL_law_1637 dL_law_1639 (by decide) dL_law_1640 dL_law_1641 rfl rfl (hy 1 (by decide)) ?_
  obtain ⟨wy, bb⟩ := s1.2.1
  refine k_virtual (QZ := fun v h' => v = some (.int R.2.1) ∧ q_fr mS h1 h' ∧ MSt h' R.2.2 (nI R.1)) (QXZ := fun _ _ => False) (avs := [.int (y 1)]) (rest := []) (i := 49) (d' := 10) (mc' := 200) (ms' := 800) (kc' := kc - 216) (ks' := ks - 1600) dL_law_1642 mt_X10_count w_m_L_175 w_in_X10_count w_se_X10_count rfl rfl (Nat.zero_le _) (by decide) (by omega) (by omega) cl_X10.1 bb.1.2 (m_count (d := 9) s1 (fun h' f s' => by rw [eR] at s'; exact ⟨by rw [eR], f, s'⟩)) (fun _ _ q => q) ?_
  rintro _ h2 ⟨rfl, f2, s2⟩ -
  exact law_tail (tg := 0) dL_law_1645 dL_law_1647 dL_law_1648 dL_law_1651 dL_law_1653 dL_law_1656 dL_law_1657 dL_law_1658 dL_law_1660 dL_law_1663 dL_law_1664 dL_law_1665 dL_law_1666 dL_law_1668 dL_law_1669 dL_law_1670 dL_law_1673 dL_law_1674 dL_law_1675 (by decide) hb (CS_fr c1 f2 (fun i q => by unfold mS at q; omega)) s2 (o1.fr f2 (by unfold mS; omega)) (k h2 _ _ (CS_fr c1 f2 (fun i q => by unfold mS at q; omega)) s2 hR (o1.o.fr f2 (by unfold mS; omega)))
set_option maxHeartbeats 1000000 in
theorem law_20 (hl0 : l.stackTraces = false) (hkc : 216 ≤ kc) (hks : 1600 ≤ ks) (hy : ∀ k : Nat, k < 7 → vp_in (i + nI k) L ∧ xs (i + nI k).toNatClampNeg = y k) (c : CS h 83 A) (s : MSt h A th) (ok : aOk A) (o : ol h) (k : ∀ h' A' th', CS h' 83 A' → MSt h' A' th' → aOk A' → ol h' → q_K (xL b L xs) l 11 mL_law mc ms Q QX n0 2095 (loL i) [] h' (kc - 216) (ks - 1600)) : q_K (xL b L xs) l 11 mL_law mc ms Q QX n0 1678 (loL i) [] h kc ks := by
  refine k_aload_n dL_law_1678 rfl rfl ?_
  refine k_virtual (QZ := fun v9 h' => v9 = some (.int (R_check A).2.1) ∧ q_fr (clS 83) h h' ∧ CS h' 83 A) (QXZ := fun _ _ => False) (avs := []) (rest := []) (i := 0) (d' := 10) (mc' := 16) (ms' := 800) (kc' := kc - 16) (ks' := ks - 800) dL_law_1679 mt_X9_check w_m_L_176 w_in_X9_check w_se_X9_check rfl rfl (Nat.zero_le _) (by decide) (by omega) (by omega) cl_X9.1 c.o.2 (c_check (d := 3) (by decide) c ok ⟨fun _ h' f c' => ⟨rfl, f, c'⟩, fun e => absurd rfl e⟩) (fun _ _ q => q) ?_
  rintro _ h1 ⟨rfl, f1, c1⟩ -
  have s1 := MSt_fr s f1 (fun i q => cl_nm q)
  obtain ⟨wy, bb⟩ := s1.2.1
  refine k_aload_n dL_law_1682 rfl rfl ?_
  refine k_virtual (QZ := fun v9 h' => v9 = some (.int (R_check A).2.1) ∧ q_fr mS h1 h' ∧ ∃ th', MSt h' A th') (QXZ := fun _ _ => False) (avs := []) (rest := [.int (R_check A).2.1]) (i := 49) (d' := 10) (mc' := 200) (ms' := 800) (kc' := kc - 216) (ks' := ks - 1600) dL_law_1683 mt_X10_check w_m_L_179 w_in_X10_check w_se_X10_check rfl rfl (Nat.le_of_ble_eq_true rfl) (by decide) (by omega) (by omega) cl_X10.1 bb.1.2 (m_check (d := 2) (by decide) (by decide) s1 ok (fun h' f s' => ⟨rfl, f, _, s'⟩)) (fun _ _ q => q) ?_
  rintro _ h2 ⟨rfl, f2, th2, s2⟩ -
  have k9 := k h2 A th2 (CS_fr c1 f2 (fun i q => by unfold mS at q; omega)) s2 ok ((o.fr f1 (by unfold clS; omega)).fr f2 (by unfold mS; omega))
  exact k_icmp_eq (tgt := 2095) dL_law_1686 (by decide) (fun _ => k9) (fun e => absurd rfl e)
set_option maxHeartbeats 1000000 in
theorem law_21 (hl0 : l.stackTraces = false) (hkc : 216 ≤ kc) (hks : 1600 ≤ ks) (hy : ∀ k : Nat, k < 7 → vp_in (i + nI k) L ∧ xs (i + nI k).toNatClampNeg = y k) (c : CS h 83 A) (s : MSt h A th) (ok : aOk A) (o : ol h) (k : ∀ h' A' th', CS h' 83 A' → MSt h' A' th' → aOk A' → ol h' → q_K (xL b L xs) l 11 mL_law mc ms Q QX n0 2095 (loL i) [] h' (kc - 216) (ks - 1600)) : q_K (xL b L xs) l 11 mL_law mc ms Q QX n0 1691 (loL i) [] h kc ks := by
  refine k_aload_n dL_law_1691 rfl rfl ?_
  refine k_virtual (QZ := fun v9 h' => v9 = some (.int (R_reason A).2.1) ∧ q_fr (clS 83) h h' ∧ CS h' 83 A) (QXZ := fun _ _ => False) (avs := []) (rest := []) (i := 0) (d' := 10) (mc' := 16) (ms' := 800) (kc' := kc - 16) (ks' := ks - 800) dL_law_1692 mt_X9_reason w_m_L_180 w_in_X9_reason w_se_X9_reason rfl rfl (Nat.zero_le _) (by decide) (by omega) (by omega) cl_X9.1 c.o.2 (c_reason (d := 3) (by decide) c ok ⟨fun _ h' f c' => ⟨rfl, f, c'⟩, fun e => absurd rfl e⟩) (fun _ _ q => q) ?_
  rintro _ h1 ⟨rfl, f1, c1⟩ -
  have s1 := MSt_fr s f1 (fun i q => cl_nm q)
  obtain ⟨wy, bb⟩ := s1.2.1
  refine k_aload_n dL_law_1695 rfl rfl ?_
  refine k_virtual (QZ := fun v9 h' => v9 = some (.int (R_reason A).2.1) ∧ q_fr mS h1 h' ∧ ∃ th', MSt h' A th') (QXZ := fun _ _ => False) (avs := []) (rest := [.int (R_reason A).2.1]) (i := 49) (d' := 10) (mc' := 200) (ms' := 800) (kc' := kc - 216) (ks' := ks - 1600) dL_law_1696 mt_X10_reason w_m_L_183 w_in_X10_reason w_se_X10_reason rfl rfl (Nat.le_of_ble_eq_true rfl) (by decide) (by omega) (by omega) cl_X10.1 bb.1.2 (m_reason (d := 2) (by decide) (by decide) s1 ok (fun h' f s' => ⟨rfl, f, _, s'⟩)) (fun _ _ q => q) ?_
  rintro _ h2 ⟨rfl, f2, th2, s2⟩ -
  have k9 := k h2 A th2 (CS_fr c1 f2 (fun i q => by unfold mS at q; omega)) s2 ok ((o.fr f1 (by unfold clS; omega)).fr f2 (by unfold mS; omega))
  exact k_icmp_eq (tgt := 2095) dL_law_1699 (by decide) (fun _ => k9) (fun e => absurd rfl e)
set_option maxHeartbeats 1000000 in
theorem law_22 (hl0 : l.stackTraces = false) (hkc : 216 ≤ kc) (hks : 1600 ≤ ks) (hy : ∀ k : Nat, k < 7 → vp_in (i + nI k) L ∧ xs (i + nI k).toNatClampNeg = y k) (c : CS h 83 A) (s : MSt h A th) (ok : aOk A) (o : ol h) (k : ∀ h' A' th', CS h' 83 A' → MSt h' A' th' → aOk A' → ol h' → q_K (xL b L xs) l 11 mL_law mc ms Q QX n0 2095 (loL i) [] h' (kc - 216) (ks - 1600)) : q_K (xL b L xs) l 11 mL_law mc ms Q QX n0 1704 (loL i) [] h kc ks := by
  have hR : aOk (R_foretell A (y 1) (y 2)).2.2 := by unfold R_foretell; repeat (first | exact ok | exact aR_p (fun _ => ok) (fun _ => ok) | refine aR_p (fun _ => ?_) (fun _ => ?_))
  have hb : (R_foretell A (y 1) (y 2)).1 ≤ 3 := by unfold R_foretell; repeat (first | exact Nat.le_of_ble_eq_true rfl | apply pif1)
  obtain ⟨R, eR⟩ : ∃ R, (R_foretell A (y 1) (y 2)) = R := ⟨_, rfl⟩
  rw [eR] at hR hb
  refine k_aload_n dL_law_1704 rfl rfl ?_
  refine k_rd dL_law_1705 dL_law_1706 dL_law_1708 (by decide) dL_law_1709 dL_law_1710 rfl rfl (hy 1 (by decide)) ?_
  refine k_rd dL_law_1711 dL_law_1712 dL_law_1714 (by decide) dL_law_1715 dL_law_1716 rfl rfl (hy 2 (by decide)) ?_
  refine k_aload_n dL_law_1717 rfl rfl ?_
  refine k_staticH (QZ := fun v h' => v = some (.int (nI R.1)) ∧ CS h' 83 R.2.2 ∧ MSt h' A th ∧ olv h' R) (QXZ := fun _ _ => False) (avs := [.ref 0, .int (y 1), .int (y 2), .ref 82]) (rest := []) (d' := 10) (mc' := 16) (ms' := 800) (kc' := kc - 16) (ks' := ks - 800) dL_law_1718 mh_foretell w_m_L_184 w_st_L_foretell rfl rfl (Nat.zero_le _) (by decide) (by omega) (by omega) (h_foretell (d := 2) hl0 c s ok o (fun h' a b c => by rw [eR] at a c; exact ⟨by rw [eR], a, b, c⟩)) (fun _ _ q => q) ?_
  rintro _ h1 ⟨rfl, c1, s1, o1⟩ -
  refine k_istore dL_law_1721 (by decide) rfl rfl ?_
  refine k_aload_n dL_law_1723 rfl rfl ?_
  refine k_rd dL_law_1724 dL_law_1725 dL_law_1727 (by decide) dL_law_1728 dL_law_1729 rfl rfl (hy 1 (by decide)) ?_
  refine k_rd dL_law_1730 dL_law_1731 dL_law_1733 (by decide) dL_law_1734 dL_law_1735 rfl rfl (hy 2 (by decide)) ?_
  obtain ⟨wy, bb⟩ := s1.2.1
  refine k_virtual (QZ := fun v h' => v = some (.int R.2.1) ∧ q_fr mS h1 h' ∧ MSt h' R.2.2 (nI R.1)) (QXZ := fun _ _ => False) (avs := [.int (y 1), .int (y 2)]) (rest := []) (i := 49) (d' := 10) (mc' := 200) (ms' := 800) (kc' := kc - 216) (ks' := ks - 1600) dL_law_1736 mt_X10_foretell w_m_L_186 w_in_X10_foretell w_se_X10_foretell rfl rfl (Nat.zero_le _) (by decide) (by omega) (by omega) cl_X10.1 bb.1.2 (m_foretell (d := 2) (by decide) (by decide) s1 ok (fun h' f s' => by rw [eR] at s'; exact ⟨by rw [eR], f, s'⟩)) (fun _ _ q => q) ?_
  rintro _ h2 ⟨rfl, f2, s2⟩ -
  exact law_tail (tg := 0) dL_law_1739 dL_law_1741 dL_law_1742 dL_law_1745 dL_law_1747 dL_law_1750 dL_law_1751 dL_law_1752 dL_law_1754 dL_law_1757 dL_law_1758 dL_law_1759 dL_law_1760 dL_law_1762 dL_law_1763 dL_law_1764 dL_law_1767 dL_law_1768 dL_law_1769 (by decide) hb (CS_fr c1 f2 (fun i q => by unfold mS at q; omega)) s2 (o1.fr f2 (by unfold mS; omega)) (k h2 _ _ (CS_fr c1 f2 (fun i q => by unfold mS at q; omega)) s2 hR (o1.o.fr f2 (by unfold mS; omega)))
set_option maxHeartbeats 1000000 in
theorem law_23 (hl0 : l.stackTraces = false) (hkc : 216 ≤ kc) (hks : 1600 ≤ ks) (hy : ∀ k : Nat, k < 7 → vp_in (i + nI k) L ∧ xs (i + nI k).toNatClampNeg = y k) (c : CS h 83 A) (s : MSt h A th) (ok : aOk A) (o : ol h) (k : ∀ h' A' th', CS h' 83 A' → MSt h' A' th' → aOk A' → ol h' → q_K (xL b L xs) l 11 mL_law mc ms Q QX n0 2095 (loL i) [] h' (kc - 216) (ks - 1600)) : q_K (xL b L xs) l 11 mL_law mc ms Q QX n0 1772 (loL i) [] h kc ks := by
  have hR : aOk (R_run A (y 1)).2.2 := a_run ok _
  have hb : (R_run A (y 1)).1 ≤ 3 := by unfold R_run; repeat (first | exact Nat.le_of_ble_eq_true rfl | apply pif1)
  obtain ⟨R, eR⟩ : ∃ R, (R_run A (y 1)) = R := ⟨_, rfl⟩
  rw [eR] at hR hb
  refine k_aload_n dL_law_1772 rfl rfl ?_
  refine k_rd dL_law_1773 dL_law_1774 dL_law_1776 (by decide) dL_law_1777 dL_law_1778 rfl rfl (hy 1 (by decide)) ?_
  refine k_aload_n dL_law_1779 rfl rfl ?_
  refine k_staticH (QZ := fun v h' => v = some (.int (nI R.1)) ∧ CS h' 83 R.2.2 ∧ MSt h' A th ∧ olv h' R) (QXZ := fun _ _ => False) (avs := [.ref 0, .int (y 1), .ref 82]) (rest := []) (d' := 10) (mc' := 16) (ms' := 800) (kc' := kc - 16) (ks' := ks - 800) dL_law_1780 mh_run w_m_L_187 w_st_L_run rfl rfl (Nat.zero_le _) (by decide) (by omega) (by omega) (h_run (d := 3) hl0 c s ok o (fun h' a b c => by rw [eR] at a c; exact ⟨by rw [eR], a, b, c⟩)) (fun _ _ q => q) ?_
  rintro _ h1 ⟨rfl, c1, s1, o1⟩ -
  refine k_istore dL_law_1783 (by decide) rfl rfl ?_
  refine k_aload_n dL_law_1785 rfl rfl ?_
  refine k_rd dL_law_1786 dL_law_1787 dL_law_1789 (by decide) dL_law_1790 dL_law_1791 rfl rfl (hy 1 (by decide)) ?_
  obtain ⟨wy, bb⟩ := s1.2.1
  refine k_virtual (QZ := fun v h' => v = some (.int R.2.1) ∧ q_fr mS h1 h' ∧ MSt h' R.2.2 (nI R.1)) (QXZ := fun _ _ => False) (avs := [.int (y 1)]) (rest := []) (i := 49) (d' := 10) (mc' := 200) (ms' := 800) (kc' := kc - 216) (ks' := ks - 1600) dL_law_1792 mt_X10_run w_m_L_189 w_in_X10_run w_se_X10_run rfl rfl (Nat.zero_le _) (by decide) (by omega) (by omega) cl_X10.1 bb.1.2 (m_run (d := 3) (by decide) (by decide) s1 ok (fun h' f s' => by rw [eR] at s'; exact ⟨by rw [eR], f, s'⟩)) (fun _ _ q => q) ?_
  rintro _ h2 ⟨rfl, f2, s2⟩ -
  exact law_tail (tg := 0) dL_law_1795 dL_law_1797 dL_law_1798 dL_law_1801 dL_law_1803 dL_law_1806 dL_law_1807 dL_law_1808 dL_law_1810 dL_law_1813 dL_law_1814 dL_law_1815 dL_law_1816 dL_law_1818 dL_law_1819 dL_law_1820 dL_law_1823 dL_law_1824 dL_law_1825 (by decide) hb (CS_fr c1 f2 (fun i q => by unfold mS at q; omega)) s2 (o1.fr f2 (by unfold mS; omega)) (k h2 _ _ (CS_fr c1 f2 (fun i q => by unfold mS at q; omega)) s2 hR (o1.o.fr f2 (by unfold mS; omega)))
set_option maxHeartbeats 1000000 in
theorem law_24 (hl0 : l.stackTraces = false) (hkc : 216 ≤ kc) (hks : 1600 ≤ ks) (hy : ∀ k : Nat, k < 7 → vp_in (i + nI k) L ∧ xs (i + nI k).toNatClampNeg = y k) (c : CS h 83 A) (s : MSt h A th) (ok : aOk A) (o : ol h) (k : ∀ h' A' th', CS h' 83 A' → MSt h' A' th' → aOk A' → ol h' → q_K (xL b L xs) l 11 mL_law mc ms Q QX n0 2095 (loL i) [] h' (kc - 216) (ks - 1600)) : q_K (xL b L xs) l 11 mL_law mc ms Q QX n0 1828 (loL i) [] h kc ks := by
  have hR : aOk (R_make A (y 1)).2.2 := a_make ok _
  have hb : (R_make A (y 1)).1 ≤ 3 := by unfold R_make; repeat (first | exact Nat.le_of_ble_eq_true rfl | apply pif1)
  obtain ⟨R, eR⟩ : ∃ R, (R_make A (y 1)) = R := ⟨_, rfl⟩
  rw [eR] at hR hb
  refine k_aload_n dL_law_1828 rfl rfl ?_
  refine k_rd dL_law_1829 dL_law_1830 dL_law_1832 (by decide) dL_law_1833 dL_law_1834 rfl rfl (hy 1 (by decide)) ?_
  refine k_aload_n dL_law_1835 rfl rfl ?_
  refine k_staticH (QZ := fun v h' => v = some (.int (nI R.1)) ∧ CS h' 83 R.2.2 ∧ MSt h' A th ∧ olv h' R) (QXZ := fun _ _ => False) (avs := [.ref 0, .int (y 1), .ref 82]) (rest := []) (d' := 10) (mc' := 16) (ms' := 800) (kc' := kc - 16) (ks' := ks - 800) dL_law_1836 mh_make w_m_L_190 w_st_L_make rfl rfl (Nat.zero_le _) (by decide) (by omega) (by omega) (h_make (d := 2) hl0 c s ok o (fun h' a b c => by rw [eR] at a c; exact ⟨by rw [eR], a, b, c⟩)) (fun _ _ q => q) ?_
  rintro _ h1 ⟨rfl, c1, s1, o1⟩ -
  refine k_istore dL_law_1839 (by decide) rfl rfl ?_
  refine k_aload_n dL_law_1841 rfl rfl ?_
  refine k_rd dL_law_1842 dL_law_1843 dL_law_1845 (by decide) dL_law_1846 dL_law_1847 rfl rfl (hy 1 (by decide)) ?_
  obtain ⟨wy, bb⟩ := s1.2.1
  refine k_virtual (QZ := fun v h' => v = some (.int R.2.1) ∧ q_fr mS h1 h' ∧ MSt h' R.2.2 (nI R.1)) (QXZ := fun _ _ => False) (avs := [.int (y 1)]) (rest := []) (i := 49) (d' := 10) (mc' := 200) (ms' := 800) (kc' := kc - 216) (ks' := ks - 1600) dL_law_1848 mt_X10_make w_m_L_192 w_in_X10_make w_se_X10_make rfl rfl (Nat.zero_le _) (by decide) (by omega) (by omega) cl_X10.1 bb.1.2 (m_make (d := 2) (by decide) (by decide) s1 ok (fun h' f s' => by rw [eR] at s'; exact ⟨by rw [eR], f, s'⟩)) (fun _ _ q => q) ?_
  rintro _ h2 ⟨rfl, f2, s2⟩ -
  exact law_tail (tg := 0) dL_law_1851 dL_law_1853 dL_law_1854 dL_law_1857 dL_law_1859 dL_law_1862 dL_law_1863 dL_law_1864 dL_law_1866 dL_law_1869 dL_law_1870 dL_law_1871 dL_law_1872 dL_law_1874 dL_law_1875 dL_law_1876 dL_law_1879 dL_law_1880 dL_law_1881 (by decide) hb (CS_fr c1 f2 (fun i q => by unfold mS at q; omega)) s2 (o1.fr f2 (by unfold mS; omega)) (k h2 _ _ (CS_fr c1 f2 (fun i q => by unfold mS at q; omega)) s2 hR (o1.o.fr f2 (by unfold mS; omega)))
set_option maxHeartbeats 1000000 in
theorem law_25 (hl0 : l.stackTraces = false) (hkc : 216 ≤ kc) (hks : 1600 ≤ ks) (hy : ∀ k : Nat, k < 7 → vp_in (i + nI k) L ∧ xs (i + nI k).toNatClampNeg = y k) (c : CS h 83 A) (s : MSt h A th) (ok : aOk A) (o : ol h) (k : ∀ h' A' th', CS h' 83 A' → MSt h' A' th' → aOk A' → ol h' → q_K (xL b L xs) l 11 mL_law mc ms Q QX n0 2095 (loL i) [] h' (kc - 216) (ks - 1600)) : q_K (xL b L xs) l 11 mL_law mc ms Q QX n0 1884 (loL i) [] h kc ks := by
  have hR : aOk (R_nearest A (y 1)).2.2 := by unfold R_nearest; repeat (first | exact ok | exact aR_p (fun _ => ok) (fun _ => ok) | refine aR_p (fun _ => ?_) (fun _ => ?_))
  have hb : (R_nearest A (y 1)).1 ≤ 3 := by unfold R_nearest; repeat (first | exact Nat.le_of_ble_eq_true rfl | apply pif1)
  obtain ⟨R, eR⟩ : ∃ R, (R_nearest A (y 1)) = R := ⟨_, rfl⟩
  rw [eR] at hR hb
  refine k_aload_n dL_law_1884 rfl rfl ?_
  refine k_rd dL_law_1885 dL_law_1886 dL_law_1888 (by decide) dL_law_1889 dL_law_1890 rfl rfl (hy 1 (by decide)) ?_
  refine k_aload_n dL_law_1891 rfl rfl ?_
  refine k_staticH (QZ := fun v h' => v = some (.int (nI R.1)) ∧ CS h' 83 R.2.2 ∧ MSt h' A th ∧ olv h' R) (QXZ := fun _ _ => False) (avs := [.ref 0, .int (y 1), .ref 82]) (rest := []) (d' := 10) (mc' := 16) (ms' := 800) (kc' := kc - 16) (ks' := ks - 800) dL_law_1892 mh_nearest w_m_L_193 w_st_L_nearest rfl rfl (Nat.zero_le _) (by decide) (by omega) (by omega) (h_nearest (d := 3) hl0 c s ok o (fun h' a b c => by rw [eR] at a c; exact ⟨by rw [eR], a, b, c⟩)) (fun _ _ q => q) ?_
  rintro _ h1 ⟨rfl, c1, s1, o1⟩ -
  refine k_istore dL_law_1895 (by decide) rfl rfl ?_
  refine k_aload_n dL_law_1897 rfl rfl ?_
  refine k_rd dL_law_1898 dL_law_1899 dL_law_1901 (by decide) dL_law_1902 dL_law_1903 rfl rfl (hy 1 (by decide)) ?_
  obtain ⟨wy, bb⟩ := s1.2.1
  refine k_virtual (QZ := fun v h' => v = some (.int R.2.1) ∧ q_fr mS h1 h' ∧ MSt h' R.2.2 (nI R.1)) (QXZ := fun _ _ => False) (avs := [.int (y 1)]) (rest := []) (i := 49) (d' := 10) (mc' := 200) (ms' := 800) (kc' := kc - 216) (ks' := ks - 1600) dL_law_1904 mt_X10_nearest w_m_L_195 w_in_X10_nearest w_se_X10_nearest rfl rfl (Nat.zero_le _) (by decide) (by omega) (by omega) cl_X10.1 bb.1.2 (m_nearest (d := 5) s1 ok (fun h' f s' => by rw [eR] at s'; exact ⟨by rw [eR], f, s'⟩)) (fun _ _ q => q) ?_
  rintro _ h2 ⟨rfl, f2, s2⟩ -
  exact law_tail (tg := 0) dL_law_1907 dL_law_1909 dL_law_1910 dL_law_1913 dL_law_1915 dL_law_1918 dL_law_1919 dL_law_1920 dL_law_1922 dL_law_1925 dL_law_1926 dL_law_1927 dL_law_1928 dL_law_1930 dL_law_1931 dL_law_1932 dL_law_1935 dL_law_1936 dL_law_1937 (by decide) hb (CS_fr c1 f2 (fun i q => by unfold mS at q; omega)) s2 (o1.fr f2 (by unfold mS; omega)) (k h2 _ _ (CS_fr c1 f2 (fun i q => by unfold mS at q; omega)) s2 hR (o1.o.fr f2 (by unfold mS; omega)))
set_option maxHeartbeats 1000000 in
theorem law_26 (hl0 : l.stackTraces = false) (hkc : 216 ≤ kc) (hks : 1600 ≤ ks) (hy : ∀ k : Nat, k < 7 → vp_in (i + nI k) L ∧ xs (i + nI k).toNatClampNeg = y k) (c : CS h 83 A) (s : MSt h A th) (ok : aOk A) (o : ol h) (k : ∀ h' A' th', CS h' 83 A' → MSt h' A' th' → aOk A' → ol h' → q_K (xL b L xs) l 11 mL_law mc ms Q QX n0 2095 (loL i) [] h' (kc - 216) (ks - 1600)) : q_K (xL b L xs) l 11 mL_law mc ms Q QX n0 1940 (loL i) [] h kc ks := by
  have hR : aOk (R_mark A).2.2 := a_mark ok
  have hb : (R_mark A).1 ≤ 3 := by unfold R_mark; repeat (first | exact Nat.le_of_ble_eq_true rfl | apply pif1)
  obtain ⟨R, eR⟩ : ∃ R, (R_mark A) = R := ⟨_, rfl⟩
  rw [eR] at hR hb
  refine k_aload_n dL_law_1940 rfl rfl ?_
  refine k_aload_n dL_law_1941 rfl rfl ?_
  refine k_staticH (QZ := fun v h' => v = some (.int (nI R.1)) ∧ CS h' 83 R.2.2 ∧ MSt h' A th ∧ olv h' R) (QXZ := fun _ _ => False) (avs := [.ref 0, .ref 82]) (rest := []) (d' := 10) (mc' := 16) (ms' := 800) (kc' := kc - 16) (ks' := ks - 800) dL_law_1942 mh_mark w_m_L_196 w_st_L_mark rfl rfl (Nat.zero_le _) (by decide) (by omega) (by omega) (h_mark (d := 3) hl0 c s ok o (fun h' a b c => by rw [eR] at a c; exact ⟨by rw [eR], a, b, c⟩)) (fun _ _ q => q) ?_
  rintro _ h1 ⟨rfl, c1, s1, o1⟩ -
  refine k_istore dL_law_1945 (by decide) rfl rfl ?_
  refine k_aload_n dL_law_1947 rfl rfl ?_
  obtain ⟨wy, bb⟩ := s1.2.1
  refine k_virtual (QZ := fun v h' => v = some (.int R.2.1) ∧ q_fr mS h1 h' ∧ MSt h' R.2.2 (nI R.1)) (QXZ := fun _ _ => False) (avs := []) (rest := []) (i := 49) (d' := 10) (mc' := 200) (ms' := 800) (kc' := kc - 216) (ks' := ks - 1600) dL_law_1948 mt_X10_mark w_m_L_199 w_in_X10_mark w_se_X10_mark rfl rfl (Nat.zero_le _) (by decide) (by omega) (by omega) cl_X10.1 bb.1.2 (m_mark (d := 9) s1 ok (fun h' f s' => by rw [eR] at s'; exact ⟨by rw [eR], f, s'⟩)) (fun _ _ q => q) ?_
  rintro _ h2 ⟨rfl, f2, s2⟩ -
  exact law_tail (tg := 0) dL_law_1951 dL_law_1953 dL_law_1954 dL_law_1957 dL_law_1959 dL_law_1962 dL_law_1963 dL_law_1964 dL_law_1966 dL_law_1969 dL_law_1970 dL_law_1971 dL_law_1972 dL_law_1974 dL_law_1975 dL_law_1976 dL_law_1979 dL_law_1980 dL_law_1981 (by decide) hb (CS_fr c1 f2 (fun i q => by unfold mS at q; omega)) s2 (o1.fr f2 (by unfold mS; omega)) (k h2 _ _ (CS_fr c1 f2 (fun i q => by unfold mS at q; omega)) s2 hR (o1.o.fr f2 (by unfold mS; omega)))
set_option maxHeartbeats 1000000 in
theorem law_27 (hl0 : l.stackTraces = false) (hkc : 216 ≤ kc) (hks : 1600 ≤ ks) (hy : ∀ k : Nat, k < 7 → vp_in (i + nI k) L ∧ xs (i + nI k).toNatClampNeg = y k) (c : CS h 83 A) (s : MSt h A th) (ok : aOk A) (o : ol h) (k : ∀ h' A' th', CS h' 83 A' → MSt h' A' th' → aOk A' → ol h' → q_K (xL b L xs) l 11 mL_law mc ms Q QX n0 2095 (loL i) [] h' (kc - 216) (ks - 1600)) : q_K (xL b L xs) l 11 mL_law mc ms Q QX n0 1984 (loL i) [] h kc ks := by
  have hR : aOk (R_back A (y 1)).2.2 := a_back ok _
  have hb : (R_back A (y 1)).1 ≤ 3 := by unfold R_back; repeat (first | exact Nat.le_of_ble_eq_true rfl | apply pif1)
  obtain ⟨R, eR⟩ : ∃ R, (R_back A (y 1)) = R := ⟨_, rfl⟩
  rw [eR] at hR hb
  refine k_aload_n dL_law_1984 rfl rfl ?_
  refine k_rd dL_law_1985 dL_law_1986 dL_law_1988 (by decide) dL_law_1989 dL_law_1990 rfl rfl (hy 1 (by decide)) ?_
  refine k_aload_n dL_law_1991 rfl rfl ?_
  refine k_staticH (QZ := fun v h' => v = some (.int (nI R.1)) ∧ CS h' 83 R.2.2 ∧ MSt h' A th ∧ olv h' R) (QXZ := fun _ _ => False) (avs := [.ref 0, .int (y 1), .ref 82]) (rest := []) (d' := 10) (mc' := 16) (ms' := 800) (kc' := kc - 16) (ks' := ks - 800) dL_law_1992 mh_back w_m_L_200 w_st_L_back rfl rfl (Nat.zero_le _) (by decide) (by omega) (by omega) (h_back (d := 3) hl0 c s ok o (fun h' a b c => by rw [eR] at a c; exact ⟨by rw [eR], a, b, c⟩)) (fun _ _ q => q) ?_
  rintro _ h1 ⟨rfl, c1, s1, o1⟩ -
  refine k_istore dL_law_1995 (by decide) rfl rfl ?_
  refine k_aload_n dL_law_1997 rfl rfl ?_
  refine k_rd dL_law_1998 dL_law_1999 dL_law_2001 (by decide) dL_law_2002 dL_law_2003 rfl rfl (hy 1 (by decide)) ?_
  obtain ⟨wy, bb⟩ := s1.2.1
  refine k_virtual (QZ := fun v h' => v = some (.int R.2.1) ∧ q_fr mS h1 h' ∧ MSt h' R.2.2 (nI R.1)) (QXZ := fun _ _ => False) (avs := [.int (y 1)]) (rest := []) (i := 49) (d' := 10) (mc' := 200) (ms' := 800) (kc' := kc - 216) (ks' := ks - 1600) dL_law_2004 mt_X10_back w_m_L_202 w_in_X10_back w_se_X10_back rfl rfl (Nat.zero_le _) (by decide) (by omega) (by omega) cl_X10.1 bb.1.2 (m_back (d := 9) s1 ok (fun h' f s' => by rw [eR] at s'; exact ⟨by rw [eR], f, s'⟩)) (fun _ _ q => q) ?_
  rintro _ h2 ⟨rfl, f2, s2⟩ -
  exact law_tail (tg := 0) dL_law_2007 dL_law_2009 dL_law_2010 dL_law_2013 dL_law_2015 dL_law_2018 dL_law_2019 dL_law_2020 dL_law_2022 dL_law_2025 dL_law_2026 dL_law_2027 dL_law_2028 dL_law_2030 dL_law_2031 dL_law_2032 dL_law_2035 dL_law_2036 dL_law_2037 (by decide) hb (CS_fr c1 f2 (fun i q => by unfold mS at q; omega)) s2 (o1.fr f2 (by unfold mS; omega)) (k h2 _ _ (CS_fr c1 f2 (fun i q => by unfold mS at q; omega)) s2 hR (o1.o.fr f2 (by unfold mS; omega)))
set_option maxHeartbeats 1000000 in
theorem law_28 (hl0 : l.stackTraces = false) (hkc : 216 ≤ kc) (hks : 1600 ≤ ks) (hy : ∀ k : Nat, k < 7 → vp_in (i + nI k) L ∧ xs (i + nI k).toNatClampNeg = y k) (c : CS h 83 A) (s : MSt h A th) (ok : aOk A) (o : ol h) (k : ∀ h' A' th', CS h' 83 A' → MSt h' A' th' → aOk A' → ol h' → q_K (xL b L xs) l 11 mL_law mc ms Q QX n0 2095 (loL i) [] h' (kc - 216) (ks - 1600)) : q_K (xL b L xs) l 11 mL_law mc ms Q QX n0 2040 (loL i) [] h kc ks := by
  obtain ⟨v, ev⟩ : ∃ v, (if A.D.ut = 0 then FP.dconst1 else FP.ddiv (FP.i2d A.D.us) (FP.i2d A.D.ut)) = v := ⟨_, rfl⟩
  refine k_aload_n dL_law_2040 rfl rfl ?_
  refine k_virtual (QZ := fun v9 h' => v9 = some (.double v) ∧ q_fr (clS 83) h h' ∧ CS h' 83 A) (QXZ := fun _ _ => False) (avs := []) (rest := []) (i := 0) (d' := 10) (mc' := 16) (ms' := 800) (kc' := kc - 16) (ks' := ks - 800) dL_law_2041 mt_X9_sent w_m_L_203 w_in_X9_sent w_se_X9_sent rfl rfl (Nat.zero_le _) (by decide) (by omega) (by omega) cl_X9.1 c.o.2 (c_sent (d := 10) c ⟨by rw [← ev], q_fr.rf, c⟩) (fun _ _ q => q) ?_
  rintro _ h1 ⟨rfl, f1, c1⟩ -
  have s1 := MSt_fr s f1 (fun i q => cl_nm q)
  obtain ⟨wy, bb⟩ := s1.2.1
  refine k_dstore dL_law_2044 (by decide) rfl rfl ?_
  refine k_aload_n dL_law_2046 rfl rfl ?_
  refine k_virtual (QZ := fun v9 h' => v9 = some (.double v) ∧ q_fr mS h1 h' ∧ ∃ th', MSt h' A th') (QXZ := fun _ _ => False) (avs := []) (rest := []) (i := 49) (d' := 10) (mc' := 200) (ms' := 800) (kc' := kc - 216) (ks' := ks - 1600) dL_law_2047 mt_X10_sent w_m_L_207 w_in_X10_sent w_se_X10_sent rfl rfl (Nat.le_of_ble_eq_true rfl) (by decide) (by omega) (by omega) cl_X10.1 bb.1.2 (m_sent (d := 10) s1 (fun h' f s' => ⟨by rw [← ev], f, _, s'⟩)) (fun _ _ q => q) ?_
  rintro _ h2 ⟨rfl, f2, th2, s2⟩ -
  have k9 := k h2 A th2 (CS_fr c1 f2 (fun i q => by unfold mS at q; omega)) s2 ok ((o.fr f1 (by unfold clS; omega)).fr f2 (by unfold mS; omega))
  refine k_dstore dL_law_2050 (by decide) rfl rfl ?_
  have k8 : q_K (xL b L xs) l 11 mL_law mc ms Q QX n0 2078 [some (.float 4), some (.ref 0), some (.ref 49), some (.ref 82), some (.int i), some (.double v), none, some (.double v), none] [] h2 (kc - 216) (ks - 1600) := k_goto (tgt := 2095) dL_law_2078 (by decide) (k_mask [true, true, true, true, true, false, false, false, false] rfl k9)
  refine k_dload dL_law_2052 rfl (k_dload dL_law_2054 rfl (k_dcmp dL_law_2056 ?_))
  refine k_if_eq (tgt := 2078) dL_law_2057 (by decide) (fun _ => k8) (fun w1 => ?_)
  refine k_dload dL_law_2060 rfl (k_dload dL_law_2062 rfl (k_dcmp dL_law_2064 ?_))
  refine k_if_eq (tgt := 2076) dL_law_2065 (by decide) (fun e => absurd e w1) (fun _ => ?_)
  refine k_dload dL_law_2068 rfl (k_dload dL_law_2070 rfl (k_dcmp dL_law_2072 ?_))
  exact k_if_ne (tgt := 2078) dL_law_2073 (by decide) (fun _ => k8) (fun e => absurd e w1)
set_option maxHeartbeats 1000000 in
theorem law_29 (hl0 : l.stackTraces = false) (hkc : 216 ≤ kc) (hks : 1600 ≤ ks) (hy : ∀ k : Nat, k < 7 → vp_in (i + nI k) L ∧ xs (i + nI k).toNatClampNeg = y k) (c : CS h 83 A) (s : MSt h A th) (ok : aOk A) (o : ol h) (k : ∀ h' A' th', CS h' 83 A' → MSt h' A' th' → aOk A' → ol h' → q_K (xL b L xs) l 11 mL_law mc ms Q QX n0 2095 (loL i) [] h' (kc - 216) (ks - 1600)) : q_K (xL b L xs) l 11 mL_law mc ms Q QX n0 2081 (loL i) [] h kc ks := by
  refine k_aload_n dL_law_2081 rfl rfl ?_
  refine k_virtual (QZ := fun v9 h' => v9 = some (.long (R_digest A)) ∧ q_fr (clS 83) h h' ∧ CS h' 83 A) (QXZ := fun _ _ => False) (avs := []) (rest := []) (i := 0) (d' := 10) (mc' := 16) (ms' := 800) (kc' := kc - 16) (ks' := ks - 800) dL_law_2082 mt_X9_digest w_m_L_208 w_in_X9_digest w_se_X9_digest rfl rfl (Nat.zero_le _) (by decide) (by omega) (by omega) cl_X9.1 c.o.2 (c_digest (d := 6) (by decide) c ok ⟨rfl, q_fr.rf, c⟩) (fun _ _ q => q) ?_
  rintro _ h1 ⟨rfl, f1, c1⟩ -
  have s1 := MSt_fr s f1 (fun i q => cl_nm q)
  obtain ⟨wy, bb⟩ := s1.2.1
  refine k_aload_n dL_law_2085 rfl rfl ?_
  refine k_virtual (QZ := fun v9 h' => v9 = some (.long (R_digest A)) ∧ q_fr mS h1 h' ∧ ∃ th', MSt h' A th') (QXZ := fun _ _ => False) (avs := []) (rest := [.long (R_digest A)]) (i := 49) (d' := 10) (mc' := 200) (ms' := 800) (kc' := kc - 216) (ks' := ks - 1600) dL_law_2086 mt_X10_digest w_m_L_212 w_in_X10_digest w_se_X10_digest rfl rfl (Nat.le_of_ble_eq_true rfl) (by decide) (by omega) (by omega) cl_X10.1 bb.1.2 (m_digest (d := 7) s1 ok (fun h' f s' => ⟨rfl, f, _, s'⟩)) (fun _ _ q => q) ?_
  rintro _ h2 ⟨rfl, f2, th2, s2⟩ -
  have k9 := k h2 A th2 (CS_fr c1 f2 (fun i q => by unfold mS at q; omega)) s2 ok ((o.fr f1 (by unfold clS; omega)).fr f2 (by unfold mS; omega))
  refine k_lcmp dL_law_2089 ?_
  exact k_if_eq (tgt := 2095) dL_law_2090 (by decide) (fun _ => k9) (fun e => absurd ((lg_cmp_z _ _).mpr rfl) e)
end LAWC
