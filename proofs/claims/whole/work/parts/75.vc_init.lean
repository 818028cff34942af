/-! the same rows, over the conditions -/
section QK7
variable {X : qG → State → Prop} {l : Launch} {d : Nat} {Y : qM} {mc ms : Nat} {Q : Option Value → qH → Prop} {QX : String → qH → Prop} {n0 pc : Nat} {lo : List (Option Value)} {st : List Value} {h : qH} {kc ks : Nat}
theorem kk_newI {z : Int32} {N : Nat} {P : Nat → qH → Prop} (ha : Cond.arrayClass .int ∈ q_W) (hd : decode Y.2.1 pc = .ok (.newarray .int, 2)) (hn : ¬ z < 0) (hN : z.toNatClampNeg = N) (hb : N ≤ 100000) {kc' ks' : Nat} (hk1 : kc' + 1 ≤ kc) (hk2 : ks' + N ≤ ks) (hv : qNI h N P)
    (k : ∀ r h', P r h' → q_K X l d Y mc ms Q QX n0 (pc + 2) lo (.ref r :: st) h' kc' ks') : q_K X l d Y mc ms Q QX n0 pc lo (.int z :: st) h kc ks := k_newI ha hd hn hN hb hk1 hk2 (k _ _ hv)
theorem kk_newZ {z : Int32} {N : Nat} {P : Nat → qH → Prop} (ha : Cond.arrayClass .boolean ∈ q_W) (hd : decode Y.2.1 pc = .ok (.newarray .boolean, 2)) (hn : ¬ z < 0) (hN : z.toNatClampNeg = N) (hb : N ≤ 100000) {kc' ks' : Nat} (hk1 : kc' + 1 ≤ kc) (hk2 : ks' + N ≤ ks) (hv : qNZ h N P)
    (k : ∀ r h', P r h' → q_K X l d Y mc ms Q QX n0 (pc + 2) lo (.ref r :: st) h' kc' ks') : q_K X l d Y mc ms Q QX n0 pc lo (.int z :: st) h kc ks := k_newZ ha hd hn hN hb hk1 hk2 (k _ _ hv)
theorem kk_newL {z : Int32} {N : Nat} {P : Nat → qH → Prop} (ha : Cond.arrayClass .long ∈ q_W) (hd : decode Y.2.1 pc = .ok (.newarray .long, 2)) (hn : ¬ z < 0) (hN : z.toNatClampNeg = N) (hb : N ≤ 100000) {kc' ks' : Nat} (hk1 : kc' + 1 ≤ kc) (hk2 : ks' + N ≤ ks) (hv : qNL h N P)
    (k : ∀ r h', P r h' → q_K X l d Y mc ms Q QX n0 (pc + 2) lo (.ref r :: st) h' kc' ks') : q_K X l d Y mc ms Q QX n0 pc lo (.int z :: st) h kc ks := k_newL ha hd hn hN hb hk1 hk2 (k _ _ hv)
theorem kk_newM {z : Int32} {N idx : Nat} {P : Nat → qH → Prop} (hl : Cond.classLink Y.1.cls idx "RoverPlanner$Mark" ∈ q_W) (hd : decode Y.2.1 pc = .ok (.anewarray idx, 3)) (hn : ¬ z < 0) (hN : z.toNatClampNeg = N) (hb : N ≤ 100000) {kc' ks' : Nat} (hk1 : kc' + 1 ≤ kc) (hk2 : ks' + N ≤ ks) (hv : qNM h N P)
    (k : ∀ r h', P r h' → q_K X l d Y mc ms Q QX n0 (pc + 3) lo (.ref r :: st) h' kc' ks') : q_K X l d Y mc ms Q QX n0 pc lo (.int z :: st) h kc ks := k_newM hl hd hn hN hb hk1 hk2 (k _ _ hv)
theorem kk_mna {K idx : Nat} {z : Int32} {P : Nat → qH → Prop} (hX : ∀ (g : qG) (s : State), X g s → va_AOA .int s) (hl : Cond.classLink Y.1.cls idx "[[I" ∈ q_W) (ha : Cond.arrayClass .int ∈ q_W) (hd : decode Y.2.1 pc = .ok (.multianewarray idx 2, 4)) (hz : ¬ z < 0) (hK : z.toNatClampNeg = K) (hb : K ≤ 1000) {kc' ks' : Nat} (hk1 : kc' + 9 ≤ kc) (hk2 : ks' + (8 + 8 * K) ≤ ks) (hv : qM9 h K P)
    (k : ∀ r h', P r h' → q_K X l d Y mc ms Q QX n0 (pc + 4) lo (.ref r :: st) h' kc' ks') : q_K X l d Y mc ms Q QX n0 pc lo (.int z :: .int 8 :: st) h kc ks := k_mna hX hl ha hd hz hK hb hk1 hk2 (k _ _ hv)
theorem kk_new {ci idx N : Nat} {C : String} {T : u_T} {ty0 : Nat → FieldType} {fs : List Value} {P : Nat → qH → Prop} (hc : q_cl ci C T N) (hty : ∀ k, k < N → parseFieldDescriptor (T k).2.2.1 = some (ty0 k)) (hl : Cond.classLink Y.1.cls idx C ∈ q_W) (hi : Cond.instantiable C N ∈ q_W) (hini : Cond.initialized C ∈ q_W) (hd : decode Y.2.1 pc = .ok (.new idx, 3))
    (hfs : ∀ (g : qG) (ad : Nat → Nat) (j : Nat), j < N → defaultValue (ty0 j) = vp_V (fs.map (q_tv g ad)) j) (hwf : ∀ n, ∀ v ∈ fs, q_wv n v) {kc' ks' : Nat} (hk1 : kc' + 1 ≤ kc) (hk2 : ks' + N ≤ ks) (hv : qNW h ci fs P)
    (k : ∀ r h', P r h' → q_K X l d Y mc ms Q QX n0 (pc + 3) lo (.ref r :: st) h' kc' ks') : q_K X l d Y mc ms Q QX n0 pc lo st h kc ks := k_new hc hty hl hi hini hd hfs hwf hk1 hk2 (k _ _ hv)
theorem kk_putF {ci k idx i N r : Nat} {C : String} {T : u_T} {ty0 : Nat → FieldType} {P : qH → Prop} (hc : q_cl ci C T N) (hp : q_pf T N k ty0 true) (hl : Cond.fieldLink Y.1.cls idx (T k).1 (T k).2.1 (T k).2.2.1 ∈ q_W) (hd : decode Y.2.1 pc = .ok (.putfield idx, 3)) (hin : Y.1.name = "<init>") (hdc : (T k).1 = Y.1.cls)
    (hn : ∀ (g : qG) (ad : Nat → Nat), narrow (ty0 k) (q_tv g ad (.ref r)) = q_tv g ad (.ref r) ∧ fits (ty0 k) (q_tv g ad (.ref r)) = true) (hv : qPR h i ci k r P)
    (kk : ∀ h', P h' → q_K X l d Y mc ms Q QX n0 (pc + 3) lo st h' kc ks) : q_K X l d Y mc ms Q QX n0 pc lo (.ref r :: .ref i :: st) h kc ks := by
  obtain ⟨fs, e1, e2, hv⟩ := hv
  exact k_putF hc hp hl hd hin hdc hn e1 e2 (kk _ hv)
theorem kk_putR {ci k idx i N r : Nat} {C : String} {T : u_T} {ty0 : Nat → FieldType} {P : qH → Prop} (hc : q_cl ci C T N) (hp : q_pf T N k ty0 false) (hl : Cond.fieldLink Y.1.cls idx (T k).1 (T k).2.1 (T k).2.2.1 ∈ q_W) (hd : decode Y.2.1 pc = .ok (.putfield idx, 3))
    (hn : ∀ (g : qG) (ad : Nat → Nat), narrow (ty0 k) (q_tv g ad (.ref r)) = q_tv g ad (.ref r) ∧ fits (ty0 k) (q_tv g ad (.ref r)) = true) (hv : qPR h i ci k r P)
    (kk : ∀ h', P h' → q_K X l d Y mc ms Q QX n0 (pc + 3) lo st h' kc ks) : q_K X l d Y mc ms Q QX n0 pc lo (.ref r :: .ref i :: st) h kc ks := by
  obtain ⟨fs, e1, e2, hv⟩ := hv
  exact k_put hc hp hl hd hn e1 e2 (kk _ hv)
theorem kk_putI {ci k idx i N : Nat} {C : String} {T : u_T} {ty0 : Nat → FieldType} {z : Int32} {P : qH → Prop} (hc : q_cl ci C T N) (hp : q_pf T N k ty0 false) (hl : Cond.fieldLink Y.1.cls idx (T k).1 (T k).2.1 (T k).2.2.1 ∈ q_W) (hd : decode Y.2.1 pc = .ok (.putfield idx, 3))
    (hn : ∀ (g : qG) (ad : Nat → Nat), narrow (ty0 k) (q_tv g ad (.int z)) = q_tv g ad (.int z) ∧ fits (ty0 k) (q_tv g ad (.int z)) = true) (hv : qPI h i ci k z P)
    (kk : ∀ h', P h' → q_K X l d Y mc ms Q QX n0 (pc + 3) lo st h' kc ks) : q_K X l d Y mc ms Q QX n0 pc lo (.int z :: .ref i :: st) h kc ks := by
  obtain ⟨fs, e1, e2, hv⟩ := hv
  exact k_put hc hp hl hd hn e1 e2 (kk _ hv)
theorem kk_getR {ci k idx i N : Nat} {C : String} {T : u_T} {P : Nat → Prop} (hc : q_cl ci C T N) (hk : k < N) (hl : Cond.fieldLink Y.1.cls idx (T k).1 (T k).2.1 (T k).2.2.1 ∈ q_W) (hd : decode Y.2.1 pc = .ok (.getfield idx, 3)) (hv : qGR h i ci k P)
    (kk : ∀ r, P r → q_K X l d Y mc ms Q QX n0 (pc + 3) lo (.ref r :: st) h kc ks) : q_K X l d Y mc ms Q QX n0 pc lo (.ref i :: st) h kc ks := by
  obtain ⟨fs, r, e1, e2, hv⟩ := hv
  exact k_getf hc hk hl hd e1 e2 (kk _ hv)
theorem kk_iast {i : Nat} {z w : Int32} {P : qH → Prop} (hd : decode Y.2.1 pc = .ok (.iastore, 1)) (hv : qAS h i z w P)
    (kk : ∀ h', P h' → q_K X l d Y mc ms Q QX n0 (pc + 1) lo st h' kc ks) : q_K X l d Y mc ms Q QX n0 pc lo (.int w :: .int z :: .ref i :: st) h kc ks := by
  obtain ⟨N, f, e1, e2, hv⟩ := hv
  exact k_iast hd e1 e2 (kk _ hv)
theorem kk_special {Z : qM} {n idx d' mc' ms' kc' ks' i : Nat} {avs : List Value} {P : qH → Prop} (hd : decode Y.2.1 pc = .ok (.invokespecial idx, 3)) (hZ : q_mt Z n) (hz1 : Z.1.name = "<init>") (hz2 : Z.2.2.2 = none) (hl : Cond.methodLink Y.1.cls idx Z.1 ∈ q_W) (hin : Cond.instanceMethod Z.1 ∈ q_W) (hn : avs.length = n) {rest : List Value} (he : st = avs.reverse ++ .ref i :: rest) (hr : (rest.map fun v => v.category).sum ≤ 8) (hdd : d' + 1 ≤ d) (hk1 : mc' + kc' ≤ kc) (hk2 : ms' + ks' ≤ ks)
    (hv : qCV l d' Z (.ref i :: avs) h mc' ms' P) (k : ∀ h', P h' → q_K X l d Y mc ms Q QX n0 (pc + 3) lo rest h' kc' ks') : q_K X l d Y mc ms Q QX n0 pc lo st h kc ks :=
  k_special hd hZ hz1 hz2 hl hin hn he hr hdd hk1 hk2 hv (fun _ _ q => q) (fun _ h' q _ => by obtain ⟨rfl, q⟩ := q; exact k h' q)
theorem kk_specialN {Z : qM} {n idx d' mc' ms' kc' ks' i : Nat} {host : String} {avs : List Value} {P : qH → Prop} (hd : decode Y.2.1 pc = .ok (.invokespecial idx, 3)) (hZ : q_mt Z n) (hz1 : Z.1.name = "<init>") (hz2 : Z.2.2.2 = none) (hl : Cond.methodLinkNest Y.1.cls idx Z.1 host ∈ q_N) (hin : Cond.instanceMethod Z.1 ∈ q_W) (hn : avs.length = n) {rest : List Value} (he : st = avs.reverse ++ .ref i :: rest) (hr : (rest.map fun v => v.category).sum ≤ 8) (hdd : d' + 1 ≤ d) (hk1 : mc' + kc' ≤ kc) (hk2 : ms' + ks' ≤ ks)
    (hv : qCV l d' Z (.ref i :: avs) h mc' ms' P) (k : ∀ h', P h' → q_K X l d Y mc ms Q QX n0 (pc + 3) lo rest h' kc' ks') : q_K X l d Y mc ms Q QX n0 pc lo st h kc ks :=
  k_specialN hd hZ hz1 hz2 hl hin hn he hr hdd hk1 hk2 hv (fun _ _ q => q) (fun _ h' q _ => by obtain ⟨rfl, q⟩ := q; exact k h' q)
end QK7
set_option maxRecDepth 20000 in
set_option maxHeartbeats 4000000 in
theorem v_X9_init {l : Launch} {d mc ms : Nat} {Q : Option Value → qH → Prop} {QX : String → qH → Prop} (hkc : 48 ≤ mc) (hks : 9953 ≤ ms) (x0 : Nat) {h : qH} (hv : qNW h 1 dfX1 (fun r1 h2 => qCV l (d + 4) mX1_init [.ref r1] h2 4 6336 (fun h3 => qPR h3 x0 9 0 r1 (fun h4 => qNW h4 8 dfX8 (fun r5 h6 => qGR h6 x0 9 0 (fun r7 => qCV l (d + 4) mX8_init [.ref r5, .ref r7] h6 2 1152 (fun h8 => qPR h8 x0 9 1 r5 (fun h9 => qNW h9 7 dfX7 (fun r10 h11 => qCV l (d + 4) mX7_init [.ref r10] h11 4 48 (fun h12 => qPR h12 x0 9 2 r10 (fun h13 => qNW h13 4 dfX4 (fun r14 h15 => qCV l (d + 4) mX4_init [.ref r14] h15 3 18 (fun h16 => qPR h16 x0 9 3 r14 (fun h17 => qNW h17 0 dfX0 (fun r18 h19 => qGR h19 x0 9 0 (fun r20 => qGR h19 x0 9 1 (fun r21 => qGR h19 x0 9 2 (fun r22 => qGR h19 x0 9 3 (fun r23 => qCV l (d + 4) mX0_init [.ref r18, .ref r20, .ref r21, .ref r22, .ref r23] h19 6 559 (fun h24 => qPR h24 x0 9 4 r18 (fun h25 => qNW h25 2 dfX2 (fun r26 h27 => qGR h27 x0 9 0 (fun r28 => qGR h27 x0 9 1 (fun r29 => qGR h27 x0 9 2 (fun r30 => qGR h27 x0 9 4 (fun r31 => qCV l (d + 4) mX2_init [.ref r26, .ref r28, .ref r29, .ref r30, .ref r31] h27 6 559 (fun h32 => qPR h32 x0 9 5 r26 (fun h33 => qNW h33 6 dfX6 (fun r34 h35 => qCV l (d + 4) mX6_init [.ref r34] h35 5 544 (fun h36 => qPR h36 x0 9 6 r34 (fun h37 => qNW h37 6 dfX6 (fun r38 h39 => qCV l (d + 4) mX6_init [.ref r38] h39 5 544 (fun h40 => qPR h40 x0 9 7 r38 (fun h41 => qNW h41 5 dfX5 (fun r42 h43 => qCV l (d + 4) mX5_init [.ref r42] h43 3 120 (fun h44 => qPR h44 x0 9 8 r42 (fun h45 => qNM h45 8 (fun r46 h47 => qPR h47 x0 9 9 r46 (fun h48 => Q none h48))))))))))))))))))))))))))))))))))))))) : q_Ct l (d + 5) mX9_init [.ref x0] h mc ms Q QX := by
  refine q_body (by decide ) (by intro v hm; simp only [List.mem_cons, List.not_mem_nil, or_false] at hm; subst hm; rfl) (Nat.le_of_ble_eq_true rfl) ?_
  refine q_KT ?_
  refine k_pad 0 rfl ?_
  refine k_aload_n dX9_init_0 rfl rfl ?_
  refine k_objInit dX9_init_1 w_m_X9_1 w_in_objInit w_co_objInit (Nat.le_of_ble_eq_true rfl) (by omega) ?_
  refine k_aload_n dX9_init_4 rfl rfl ?_
  refine kk_new (fs := dfX1) cl_X1 tyX1_ok w_cl_X9_7 w_iq_X1 w_in9_X1 dX9_init_5 nfX1 (q_pl_wf rfl) (kc' := (mc - 1)) (ks' := (ms - 5)) (by omega) (by omega) hv (fun r1 h2 hv => ?_)
  refine k_dup dX9_init_8 rfl ?_
  refine kk_special (avs := []) (rest := [.ref r1, .ref x0]) (i := r1) (kc' := (mc - 5)) (ks' := (ms - 6341)) dX9_init_9 mt_X1_init rfl rfl w_m_X9_9 w_in_X1_init rfl rfl (Nat.le_of_ble_eq_true rfl) (Nat.le_refl _) (by omega) (by omega) hv (fun h3 hv => ?_)
  refine kk_putF (k := 0) (ty0 := tyX9) cl_X9 (pf_X9_0) w_f_X9_10 dX9_init_12 rfl rfl (fun g ad => q_nRo g ad _ _) hv (fun h4 hv => ?_)
  refine k_aload_n dX9_init_15 rfl rfl ?_
  refine kk_new (fs := dfX8) cl_X8 tyX8_ok w_cl_X9_16 w_iq_X8 w_in9_X8 dX9_init_16 nfX8 (q_pl_wf rfl) (kc' := (mc - 6)) (ks' := (ms - 6345)) (by omega) (by omega) hv (fun r5 h6 hv => ?_)
  refine k_dup dX9_init_19 rfl ?_
  refine k_aload_n dX9_init_20 rfl rfl ?_
  refine kk_getR (k := 0) cl_X9 (by decide) w_f_X9_10 dX9_init_21 hv (fun r7 hv => ?_)
  refine kk_special (avs := [.ref r7]) (rest := [.ref r5, .ref x0]) (i := r5) (kc' := (mc - 8)) (ks' := (ms - 7497)) dX9_init_24 mt_X8_init rfl rfl w_m_X9_18 w_in_X8_init rfl rfl (Nat.le_of_ble_eq_true rfl) (Nat.le_refl _) (by omega) (by omega) hv (fun h8 hv => ?_)
  refine kk_putF (k := 1) (ty0 := tyX9) cl_X9 (pf_X9_1) w_f_X9_21 dX9_init_27 rfl rfl (fun g ad => q_nRo g ad _ _) hv (fun h9 hv => ?_)
  refine k_aload_n dX9_init_30 rfl rfl ?_
  refine kk_new (fs := dfX7) cl_X7 tyX7_ok w_cl_X9_25 w_iq_X7 w_in9_X7 dX9_init_31 nfX7 (q_pl_wf rfl) (kc' := (mc - 9)) (ks' := (ms - 7502)) (by omega) (by omega) hv (fun r10 h11 hv => ?_)
  refine k_dup dX9_init_34 rfl ?_
  refine kk_specialN (avs := []) (rest := [.ref r10, .ref x0]) (i := r10) (kc' := (mc - 13)) (ks' := (ms - 7550)) dX9_init_35 mt_X7_init rfl rfl w_mn_X9_27 w_in_X7_init rfl rfl (Nat.le_of_ble_eq_true rfl) (Nat.le_refl _) (by omega) (by omega) hv (fun h12 hv => ?_)
  refine kk_putF (k := 2) (ty0 := tyX9) cl_X9 (pf_X9_2) w_f_X9_28 dX9_init_38 rfl rfl (fun g ad => q_nRo g ad _ _) hv (fun h13 hv => ?_)
  refine k_aload_n dX9_init_41 rfl rfl ?_
  refine kk_new (fs := dfX4) cl_X4 tyX4_ok w_cl_X9_32 w_iq_X4 w_in9_X4 dX9_init_42 nfX4 (q_pl_wf rfl) (kc' := (mc - 14)) (ks' := (ms - 7554)) (by omega) (by omega) hv (fun r14 h15 hv => ?_)
  refine k_dup dX9_init_45 rfl ?_
  refine kk_specialN (avs := []) (rest := [.ref r14, .ref x0]) (i := r14) (kc' := (mc - 17)) (ks' := (ms - 7572)) dX9_init_46 mt_X4_init rfl rfl w_mn_X9_34 w_in_X4_init rfl rfl (Nat.le_of_ble_eq_true rfl) (Nat.le_refl _) (by omega) (by omega) hv (fun h16 hv => ?_)
  refine kk_putF (k := 3) (ty0 := tyX9) cl_X9 (pf_X9_3) w_f_X9_35 dX9_init_49 rfl rfl (fun g ad => q_nRo g ad _ _) hv (fun h17 hv => ?_)
  refine k_aload_n dX9_init_52 rfl rfl ?_
  refine kk_new (fs := dfX0) cl_X0 tyX0_ok w_cl_X9_39 w_iq_X0 w_in9_X0 dX9_init_53 nfX0 (q_pl_wf rfl) (kc' := (mc - 18)) (ks' := (ms - 7580)) (by omega) (by omega) hv (fun r18 h19 hv => ?_)
  refine k_dup dX9_init_56 rfl ?_
  refine k_aload_n dX9_init_57 rfl rfl ?_
  refine kk_getR (k := 0) cl_X9 (by decide) w_f_X9_10 dX9_init_58 hv (fun r20 hv => ?_)
  refine k_aload_n dX9_init_61 rfl rfl ?_
  refine kk_getR (k := 1) cl_X9 (by decide) w_f_X9_21 dX9_init_62 hv (fun r21 hv => ?_)
  refine k_aload_n dX9_init_65 rfl rfl ?_
  refine kk_getR (k := 2) cl_X9 (by decide) w_f_X9_28 dX9_init_66 hv (fun r22 hv => ?_)
  refine k_aload_n dX9_init_69 rfl rfl ?_
  refine kk_getR (k := 3) cl_X9 (by decide) w_f_X9_35 dX9_init_70 hv (fun r23 hv => ?_)
  refine kk_special (avs := [.ref r20, .ref r21, .ref r22, .ref r23]) (rest := [.ref r18, .ref x0]) (i := r18) (kc' := (mc - 24)) (ks' := (ms - 8139)) dX9_init_73 mt_X0_init rfl rfl w_m_X9_41 w_in_X0_init rfl rfl (Nat.le_of_ble_eq_true rfl) (Nat.le_refl _) (by omega) (by omega) hv (fun h24 hv => ?_)
  refine kk_putF (k := 4) (ty0 := tyX9) cl_X9 (pf_X9_4) w_f_X9_44 dX9_init_76 rfl rfl (fun g ad => q_nRo g ad _ _) hv (fun h25 hv => ?_)
  refine k_aload_n dX9_init_79 rfl rfl ?_
  refine kk_new (fs := dfX2) cl_X2 tyX2_ok w_cl_X9_48 w_iq_X2 w_in9_X2 dX9_init_80 nfX2 (q_pl_wf rfl) (kc' := (mc - 25)) (ks' := (ms - 8144)) (by omega) (by omega) hv (fun r26 h27 hv => ?_)
  refine k_dup dX9_init_83 rfl ?_
  refine k_aload_n dX9_init_84 rfl rfl ?_
  refine kk_getR (k := 0) cl_X9 (by decide) w_f_X9_10 dX9_init_85 hv (fun r28 hv => ?_)
  refine k_aload_n dX9_init_88 rfl rfl ?_
  refine kk_getR (k := 1) cl_X9 (by decide) w_f_X9_21 dX9_init_89 hv (fun r29 hv => ?_)
  refine k_aload_n dX9_init_92 rfl rfl ?_
  refine kk_getR (k := 2) cl_X9 (by decide) w_f_X9_28 dX9_init_93 hv (fun r30 hv => ?_)
  refine k_aload_n dX9_init_96 rfl rfl ?_
  refine kk_getR (k := 4) cl_X9 (by decide) w_f_X9_44 dX9_init_97 hv (fun r31 hv => ?_)
  refine kk_special (avs := [.ref r28, .ref r29, .ref r30, .ref r31]) (rest := [.ref r26, .ref x0]) (i := r26) (kc' := (mc - 31)) (ks' := (ms - 8703)) dX9_init_100 mt_X2_init rfl rfl w_m_X9_50 w_in_X2_init rfl rfl (Nat.le_of_ble_eq_true rfl) (Nat.le_refl _) (by omega) (by omega) hv (fun h32 hv => ?_)
  refine kk_putF (k := 5) (ty0 := tyX9) cl_X9 (pf_X9_5) w_f_X9_53 dX9_init_103 rfl rfl (fun g ad => q_nRo g ad _ _) hv (fun h33 hv => ?_)
  refine k_aload_n dX9_init_106 rfl rfl ?_
  refine kk_new (fs := dfX6) cl_X6 tyX6_ok w_cl_X9_57 w_iq_X6 w_in9_X6 dX9_init_107 nfX6 (q_pl_wf rfl) (kc' := (mc - 32)) (ks' := (ms - 8718)) (by omega) (by omega) hv (fun r34 h35 hv => ?_)
  refine k_dup dX9_init_110 rfl ?_
  refine kk_specialN (avs := []) (rest := [.ref r34, .ref x0]) (i := r34) (kc' := (mc - 37)) (ks' := (ms - 9262)) dX9_init_111 mt_X6_init rfl rfl w_mn_X9_59 w_in_X6_init rfl rfl (Nat.le_of_ble_eq_true rfl) (Nat.le_refl _) (by omega) (by omega) hv (fun h36 hv => ?_)
  refine kk_putF (k := 6) (ty0 := tyX9) cl_X9 (pf_X9_6) w_f_X9_60 dX9_init_114 rfl rfl (fun g ad => q_nRo g ad _ _) hv (fun h37 hv => ?_)
  refine k_aload_n dX9_init_117 rfl rfl ?_
  refine kk_new (fs := dfX6) cl_X6 tyX6_ok w_cl_X9_57 w_iq_X6 w_in9_X6 dX9_init_118 nfX6 (q_pl_wf rfl) (kc' := (mc - 38)) (ks' := (ms - 9277)) (by omega) (by omega) hv (fun r38 h39 hv => ?_)
  refine k_dup dX9_init_121 rfl ?_
  refine kk_specialN (avs := []) (rest := [.ref r38, .ref x0]) (i := r38) (kc' := (mc - 43)) (ks' := (ms - 9821)) dX9_init_122 mt_X6_init rfl rfl w_mn_X9_59 w_in_X6_init rfl rfl (Nat.le_of_ble_eq_true rfl) (Nat.le_refl _) (by omega) (by omega) hv (fun h40 hv => ?_)
  refine kk_putF (k := 7) (ty0 := tyX9) cl_X9 (pf_X9_7) w_f_X9_64 dX9_init_125 rfl rfl (fun g ad => q_nRo g ad _ _) hv (fun h41 hv => ?_)
  refine k_aload_n dX9_init_128 rfl rfl ?_
  refine kk_new (fs := dfX5) cl_X5 tyX5_ok w_cl_X9_67 w_iq_X5 w_in9_X5 dX9_init_129 nfX5 (q_pl_wf rfl) (kc' := (mc - 44)) (ks' := (ms - 9825)) (by omega) (by omega) hv (fun r42 h43 hv => ?_)
  refine k_dup dX9_init_132 rfl ?_
  refine kk_specialN (avs := []) (rest := [.ref r42, .ref x0]) (i := r42) (kc' := (mc - 47)) (ks' := (ms - 9945)) dX9_init_133 mt_X5_init rfl rfl w_mn_X9_69 w_in_X5_init rfl rfl (Nat.le_of_ble_eq_true rfl) (Nat.le_refl _) (by omega) (by omega) hv (fun h44 hv => ?_)
  refine kk_putF (k := 8) (ty0 := tyX9) cl_X9 (pf_X9_8) w_f_X9_70 dX9_init_136 rfl rfl (fun g ad => q_nRo g ad _ _) hv (fun h45 hv => ?_)
  refine k_aload_n dX9_init_139 rfl rfl ?_
  refine k_bipush (v := (8 : Int32)) dX9_init_140 (by decide) ?_
  refine kk_newM (N := 8) w_cl_X9_74 dX9_init_142 (by decide) (by decide) (by decide) (kc' := (mc - 48)) (ks' := (ms - 9953)) (by omega) (by omega) hv (fun r46 h47 hv => ?_)
  refine kk_putF (k := 9) (ty0 := tyX9) cl_X9 (pf_X9_9) w_f_X9_76 dX9_init_145 rfl rfl (fun g ad => q_nRa g ad _ _) hv (fun h48 hv => ?_)
  exact k_vret dX9_init_148 rfl hv
set_option maxRecDepth 20000 in
set_option maxHeartbeats 4000000 in
theorem v_X10_init {l : Launch} {d mc ms : Nat} {Q : Option Value → qH → Prop} {QX : String → qH → Prop} (hkc : 32 ≤ mc) (hks : 11754 ≤ ms) (x0 : Nat) {h : qH} (hv : qNI h 576 (fun r1 h2 => qPR h2 x0 10 1 r1 (fun h3 => qNI h3 576 (fun r4 h5 => qPR h5 x0 10 2 r4 (fun h6 => qNZ h6 576 (fun r7 h8 => qPR h8 x0 10 3 r7 (fun h9 => qPI h9 x0 10 4 (12 : Int32) (fun h10 => qNI h10 48 (fun r11 h12 => qPR h12 x0 10 6 r11 (fun h13 => qNI h13 18 (fun r14 h15 => qPR h15 x0 10 8 r14 (fun h16 => qPI h16 x0 10 9 (4000 : Int32) (fun h17 => qPI h17 x0 10 10 (800 : Int32) (fun h18 => qNI h18 594 (fun r19 h20 => qPR h20 x0 10 11 r19 (fun h21 => qNI h21 594 (fun r22 h23 => qPR h23 x0 10 12 r22 (fun h24 => qNI h24 120 (fun r25 h26 => qPR h26 x0 10 14 r25 (fun h27 => qM9 h27 594 (fun r28 h29 => qPR h29 x0 10 16 r28 (fun h30 => qM9 h30 120 (fun r31 h32 => qPR h32 x0 10 17 r31 (fun h33 => qNI h33 8 (fun r34 h35 => qPR h35 x0 10 18 r34 (fun h36 => qNI h36 576 (fun r37 h38 => qPR h38 x0 10 19 r37 (fun h39 => qNI h39 576 (fun r40 h41 => qPR h41 x0 10 20 r40 (fun h42 => qNZ h42 576 (fun r43 h44 => qPR h44 x0 10 21 r43 (fun h45 => qNI h45 594 (fun r46 h47 => qPR h47 x0 10 22 r46 (fun h48 => qNI h48 594 (fun r49 h50 => qPR h50 x0 10 24 r49 (fun h51 => qGR h51 x0 10 11 (fun r52 => qAS h51 r52 (3 : Int32) (3000 : Int32) (fun h53 => qGR h53 x0 10 11 (fun r54 => qAS h53 r54 (4 : Int32) (-20 : Int32) (fun h55 => qGR h55 x0 10 11 (fun r56 => qAS h55 r56 (6 : Int32) (100 : Int32) (fun h57 => Q none h57)))))))))))))))))))))))))))))))))))))))))) : q_CtX (va_AOA .int) l (d + 1) mX10_init [.ref x0] h mc ms Q QX := by
  refine q_bodyX (by decide ) (by intro v hm; simp only [List.mem_cons, List.not_mem_nil, or_false] at hm; subst hm; rfl) (Nat.le_of_ble_eq_true rfl) ?_
  refine k_pad 0 rfl ?_
  refine k_aload_n dX10_init_0 rfl rfl ?_
  refine k_objInit dX10_init_1 w_m_X10_3 w_in_objInit w_co_objInit (Nat.le_of_ble_eq_true rfl) (by omega) ?_
  refine k_aload_n dX10_init_4 rfl rfl ?_
  refine k_sipush (v := (576 : Int32)) dX10_init_5 (by decide) ?_
  refine kk_newI (N := 576) w_ar_int dX10_init_8 (by decide) (by decide) (by decide) (kc' := (mc - 1)) (ks' := (ms - 576)) (by omega) (by omega) hv (fun r1 h2 hv => ?_)
  refine kk_putF (k := 1) (ty0 := tyX10) cl_X10 (pf_X10_1) w_f_X10_9 dX10_init_10 rfl rfl (fun g ad => q_nRa g ad _ _) hv (fun h3 hv => ?_)
  refine k_aload_n dX10_init_13 rfl rfl ?_
  refine k_sipush (v := (576 : Int32)) dX10_init_14 (by decide) ?_
  refine kk_newI (N := 576) w_ar_int dX10_init_17 (by decide) (by decide) (by decide) (kc' := (mc - 2)) (ks' := (ms - 1152)) (by omega) (by omega) hv (fun r4 h5 hv => ?_)
  refine kk_putF (k := 2) (ty0 := tyX10) cl_X10 (pf_X10_2) w_f_X10_13 dX10_init_19 rfl rfl (fun g ad => q_nRa g ad _ _) hv (fun h6 hv => ?_)
  refine k_aload_n dX10_init_22 rfl rfl ?_
  refine k_sipush (v := (576 : Int32)) dX10_init_23 (by decide) ?_
  refine kk_newZ (N := 576) w_ar_boolean dX10_init_26 (by decide) (by decide) (by decide) (kc' := (mc - 3)) (ks' := (ms - 1728)) (by omega) (by omega) hv (fun r7 h8 hv => ?_)
  refine kk_putF (k := 3) (ty0 := tyX10) cl_X10 (pf_X10_3) w_f_X10_16 dX10_init_28 rfl rfl (fun g ad => q_nRa g ad _ _) hv (fun h9 hv => ?_)
  refine k_aload_n dX10_init_31 rfl rfl ?_
  refine k_bipush (v := (12 : Int32)) dX10_init_32 (by decide) ?_
  refine kk_putI (k := 4) (ty0 := tyX10) cl_X10 (pf_X10_4) w_f_X10_20 dX10_init_34 (fun g ad => q_nI g ad _) hv (fun h10 hv => ?_)
  refine k_aload_n dX10_init_37 rfl rfl ?_
  refine k_bipush (v := (48 : Int32)) dX10_init_38 (by decide) ?_
  refine kk_newI (N := 48) w_ar_int dX10_init_40 (by decide) (by decide) (by decide) (kc' := (mc - 4)) (ks' := (ms - 1776)) (by omega) (by omega) hv (fun r11 h12 hv => ?_)
  refine kk_putF (k := 6) (ty0 := tyX10) cl_X10 (pf_X10_6) w_f_X10_24 dX10_init_42 rfl rfl (fun g ad => q_nRa g ad _ _) hv (fun h13 hv => ?_)
  refine k_aload_n dX10_init_45 rfl rfl ?_
  refine k_bipush (v := (18 : Int32)) dX10_init_46 (by decide) ?_
  refine kk_newI (N := 18) w_ar_int dX10_init_48 (by decide) (by decide) (by decide) (kc' := (mc - 5)) (ks' := (ms - 1794)) (by omega) (by omega) hv (fun r14 h15 hv => ?_)
  refine kk_putF (k := 8) (ty0 := tyX10) cl_X10 (pf_X10_8) w_f_X10_27 dX10_init_50 rfl rfl (fun g ad => q_nRa g ad _ _) hv (fun h16 hv => ?_)
  refine k_aload_n dX10_init_53 rfl rfl ?_
  refine k_sipush (v := (4000 : Int32)) dX10_init_54 (by decide) ?_
  refine kk_putI (k := 9) (ty0 := tyX10) cl_X10 (pf_X10_9) w_f_X10_30 dX10_init_57 (fun g ad => q_nI g ad _) hv (fun h17 hv => ?_)
  refine k_aload_n dX10_init_60 rfl rfl ?_
  refine k_sipush (v := (800 : Int32)) dX10_init_61 (by decide) ?_
  refine kk_putI (k := 10) (ty0 := tyX10) cl_X10 (pf_X10_10) w_f_X10_33 dX10_init_64 (fun g ad => q_nI g ad _) hv (fun h18 hv => ?_)
  refine k_aload_n dX10_init_67 rfl rfl ?_
  refine k_sipush (v := (594 : Int32)) dX10_init_68 (by decide) ?_
  refine kk_newI (N := 594) w_ar_int dX10_init_71 (by decide) (by decide) (by decide) (kc' := (mc - 6)) (ks' := (ms - 2388)) (by omega) (by omega) hv (fun r19 h20 hv => ?_)
  refine kk_putF (k := 11) (ty0 := tyX10) cl_X10 (pf_X10_11) w_f_X10_36 dX10_init_73 rfl rfl (fun g ad => q_nRa g ad _ _) hv (fun h21 hv => ?_)
  refine k_aload_n dX10_init_76 rfl rfl ?_
  refine k_sipush (v := (594 : Int32)) dX10_init_77 (by decide) ?_
  refine kk_newI (N := 594) w_ar_int dX10_init_80 (by decide) (by decide) (by decide) (kc' := (mc - 7)) (ks' := (ms - 2982)) (by omega) (by omega) hv (fun r22 h23 hv => ?_)
  refine kk_putF (k := 12) (ty0 := tyX10) cl_X10 (pf_X10_12) w_f_X10_39 dX10_init_82 rfl rfl (fun g ad => q_nRa g ad _ _) hv (fun h24 hv => ?_)
  refine k_aload_n dX10_init_85 rfl rfl ?_
  refine k_bipush (v := (120 : Int32)) dX10_init_86 (by decide) ?_
  refine kk_newI (N := 120) w_ar_int dX10_init_88 (by decide) (by decide) (by decide) (kc' := (mc - 8)) (ks' := (ms - 3102)) (by omega) (by omega) hv (fun r25 h26 hv => ?_)
  refine kk_putF (k := 14) (ty0 := tyX10) cl_X10 (pf_X10_14) w_f_X10_42 dX10_init_90 rfl rfl (fun g ad => q_nRa g ad _ _) hv (fun h27 hv => ?_)
  refine k_aload_n dX10_init_93 rfl rfl ?_
  refine k_bipush (v := (8 : Int32)) dX10_init_94 (by decide) ?_
  refine k_sipush (v := (594 : Int32)) dX10_init_96 (by decide) ?_
  refine kk_mna (K := 594) (fun _ _ q => q) w_cl_X10_45 w_ar_int dX10_init_99 (by decide) (by decide) (by decide) (kc' := (mc - 17)) (ks' := (ms - 7862)) (by omega) (by omega) hv (fun r28 h29 hv => ?_)
  refine kk_putF (k := 16) (ty0 := tyX10) cl_X10 (pf_X10_16) w_f_X10_47 dX10_init_103 rfl rfl (fun g ad => q_nRa g ad _ _) hv (fun h30 hv => ?_)
  refine k_aload_n dX10_init_106 rfl rfl ?_
  refine k_bipush (v := (8 : Int32)) dX10_init_107 (by decide) ?_
  refine k_bipush (v := (120 : Int32)) dX10_init_109 (by decide) ?_
  refine kk_mna (K := 120) (fun _ _ q => q) w_cl_X10_45 w_ar_int dX10_init_111 (by decide) (by decide) (by decide) (kc' := (mc - 26)) (ks' := (ms - 8830)) (by omega) (by omega) hv (fun r31 h32 hv => ?_)
  refine kk_putF (k := 17) (ty0 := tyX10) cl_X10 (pf_X10_17) w_f_X10_50 dX10_init_115 rfl rfl (fun g ad => q_nRa g ad _ _) hv (fun h33 hv => ?_)
  refine k_aload_n dX10_init_118 rfl rfl ?_
  refine k_bipush (v := (8 : Int32)) dX10_init_119 (by decide) ?_
  refine kk_newI (N := 8) w_ar_int dX10_init_121 (by decide) (by decide) (by decide) (kc' := (mc - 27)) (ks' := (ms - 8838)) (by omega) (by omega) hv (fun r34 h35 hv => ?_)
  refine kk_putF (k := 18) (ty0 := tyX10) cl_X10 (pf_X10_18) w_f_X10_53 dX10_init_123 rfl rfl (fun g ad => q_nRa g ad _ _) hv (fun h36 hv => ?_)
  refine k_aload_n dX10_init_126 rfl rfl ?_
  refine k_sipush (v := (576 : Int32)) dX10_init_127 (by decide) ?_
  refine kk_newI (N := 576) w_ar_int dX10_init_130 (by decide) (by decide) (by decide) (kc' := (mc - 28)) (ks' := (ms - 9414)) (by omega) (by omega) hv (fun r37 h38 hv => ?_)
  refine kk_putF (k := 19) (ty0 := tyX10) cl_X10 (pf_X10_19) w_f_X10_56 dX10_init_132 rfl rfl (fun g ad => q_nRa g ad _ _) hv (fun h39 hv => ?_)
  refine k_aload_n dX10_init_135 rfl rfl ?_
  refine k_sipush (v := (576 : Int32)) dX10_init_136 (by decide) ?_
  refine kk_newI (N := 576) w_ar_int dX10_init_139 (by decide) (by decide) (by decide) (kc' := (mc - 29)) (ks' := (ms - 9990)) (by omega) (by omega) hv (fun r40 h41 hv => ?_)
  refine kk_putF (k := 20) (ty0 := tyX10) cl_X10 (pf_X10_20) w_f_X10_59 dX10_init_141 rfl rfl (fun g ad => q_nRa g ad _ _) hv (fun h42 hv => ?_)
  refine k_aload_n dX10_init_144 rfl rfl ?_
  refine k_sipush (v := (576 : Int32)) dX10_init_145 (by decide) ?_
  refine kk_newZ (N := 576) w_ar_boolean dX10_init_148 (by decide) (by decide) (by decide) (kc' := (mc - 30)) (ks' := (ms - 10566)) (by omega) (by omega) hv (fun r43 h44 hv => ?_)
  refine kk_putF (k := 21) (ty0 := tyX10) cl_X10 (pf_X10_21) w_f_X10_62 dX10_init_150 rfl rfl (fun g ad => q_nRa g ad _ _) hv (fun h45 hv => ?_)
  refine k_aload_n dX10_init_153 rfl rfl ?_
  refine k_sipush (v := (594 : Int32)) dX10_init_154 (by decide) ?_
  refine kk_newI (N := 594) w_ar_int dX10_init_157 (by decide) (by decide) (by decide) (kc' := (mc - 31)) (ks' := (ms - 11160)) (by omega) (by omega) hv (fun r46 h47 hv => ?_)
  refine kk_putF (k := 22) (ty0 := tyX10) cl_X10 (pf_X10_22) w_f_X10_65 dX10_init_159 rfl rfl (fun g ad => q_nRa g ad _ _) hv (fun h48 hv => ?_)
  refine k_aload_n dX10_init_162 rfl rfl ?_
  refine k_sipush (v := (594 : Int32)) dX10_init_163 (by decide) ?_
  refine kk_newI (N := 594) w_ar_int dX10_init_166 (by decide) (by decide) (by decide) (kc' := (mc - 32)) (ks' := (ms - 11754)) (by omega) (by omega) hv (fun r49 h50 hv => ?_)
  refine kk_putF (k := 24) (ty0 := tyX10) cl_X10 (pf_X10_24) w_f_X10_68 dX10_init_168 rfl rfl (fun g ad => q_nRa g ad _ _) hv (fun h51 hv => ?_)
  refine k_aload_n dX10_init_171 rfl rfl ?_
  refine kk_getR (k := 11) cl_X10 (by decide) w_f_X10_36 dX10_init_172 hv (fun r52 hv => ?_)
  refine k_iconst (v := (3 : Int32)) dX10_init_175 (by decide) ?_
  refine k_sipush (v := (3000 : Int32)) dX10_init_176 (by decide) ?_
  refine kk_iast dX10_init_179 hv (fun h53 hv => ?_)
  refine k_aload_n dX10_init_180 rfl rfl ?_
  refine kk_getR (k := 11) cl_X10 (by decide) w_f_X10_36 dX10_init_181 hv (fun r54 hv => ?_)
  refine k_iconst (v := (4 : Int32)) dX10_init_184 (by decide) ?_
  refine k_bipush (v := (-20 : Int32)) dX10_init_185 (by decide) ?_
  refine kk_iast dX10_init_187 hv (fun h55 hv => ?_)
  refine k_aload_n dX10_init_188 rfl rfl ?_
  refine kk_getR (k := 11) cl_X10 (by decide) w_f_X10_36 dX10_init_189 hv (fun r56 hv => ?_)
  refine k_bipush (v := (6 : Int32)) dX10_init_192 (by decide) ?_
  refine k_bipush (v := (100 : Int32)) dX10_init_194 (by decide) ?_
  refine kk_iast dX10_init_196 hv (fun h57 hv => ?_)
  exact k_vret dX10_init_197 rfl hv
