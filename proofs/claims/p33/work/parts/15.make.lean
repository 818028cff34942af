section QN
variable {l : Launch} {d : Nat} {Y : qM} {mc ms : Nat} {Q : Option Value → qH → Prop} {QX : String → qH → Prop} {n0 pc : Nat} {lo : List (Option Value)} {st : List Value} {h : qH} {kc ks : Nat}
/-- a contract that never throws, as a plain one -/
theorem q_met {y : MethodName} {ws : List Cond} {rm : Room} {Pc : Array Value → State → Prop} {Qc : Array Value → State → Outcome → State → Prop} {XC : String → State → State → Prop} {free : Addr → Prop} (hM : vx_Met l y ws rm Pc Qc XC mc ms free) (hx : ∀ E u t, ¬ XC E u t) : Met l y ws rm Pc Qc mc ms free := by
  intro p e ha hf hc s m args below h1 h2 h3 h4
  obtain ⟨n, o, a, b, c, q⟩ := hM p e ha hf hc s m args below h1 h2 h3 h4
  refine ⟨n, o, a, b, c, ?_⟩
  rcases q with q | ⟨q, _, E, ce, L, hX, _⟩
  · exact q
  · exact absurd hX (hx _ _ _)
theorem q_afterI {mc' ms' kc' ks' : Nat} {p : Program} {e : Env} {s : State} {m : MethodId} {args a : Array Value} {below : List Frame} {meth : Method} {c : Code} {H : Heap} {locs : List Loc} {cells slots : Nat} {ls : Array Slot} {g : qG} {ad0 ad : Nat → Nat} {st0 : List Value} {rest : List Value} {QZ : Option Value → qH → Prop}
    (C0 : q_C l Y g p s m args meth c) (s4 : va_S (q_A g) s.heap H locs) (s5 : q_lo g ad ls Y.2.2.1 lo) (s6 : ∀ v, some v ∈ lo → q_wv h.2 v) (s7 : ∀ v ∈ rest, q_wv h.2 v) (s8 : q_ag n0 ad0 ad) (s9 : n0 ≤ h.2)
    (hr : va_Run p l e (q_R d mc ms) s m args below meth c H locs cells slots mc' ms' (F0 m pc ls st0) (rest.map (q_tv g ad)) (q_Qc g ad h.2 QZ a) (q_A g))
    (hc : cells + mc' + kc' ≤ mc) (hs : slots + ms' + ks' ≤ ms)
    (k : ∀ (v : Option Value) (h' : qH), QZ v h' → h.2 ≤ h'.2 → q_J l d Y mc ms Q QX n0 (pc + 3) lo (v.toList ++ rest) h' kc' ks') :
    W p l e (q_R d mc ms) s m args below meth c H locs cells slots (vx_MQ below (q_Qc g ad0 n0 Q) (q_Xc g ad0 n0 QX) args s mc ms (q_A g)) (F0 m pc ls st0) := by
  refine q_after (QXZ := fun _ _ => False) (a := a) C0 s4 s5 s6 s7 s8 s9 ?_ (fun _ _ q => q) hc hs k
  intro T hT X
  obtain ⟨v, st₀, t, T', L, z⟩ := hr T hT X
  exact Or.inl ⟨v, st₀, t, T', L, z⟩
/-- a constructor's call -/
theorem j_special {Z : qM} {n idx d' mc' ms' kc' ks' i : Nat} {avs rest : List Value} {QZ : Option Value → qH → Prop} {QXZ : String → qH → Prop} (hd : decode Y.2.1 pc = .ok (.invokespecial idx, 3)) (hZ : q_mt Z n) (hz1 : Z.1.name = "<init>") (hz2 : Z.2.2.2 = none) (hl : Cond.methodLink Y.1.cls idx Z.1 ∈ q_W) (hin : Cond.instanceMethod Z.1 ∈ q_W) (hn : avs.length = n) (he : st = avs.reverse ++ .ref i :: rest) (hr : (rest.map fun v => v.category).sum ≤ 8) (hdd : d' + 1 ≤ d) (hk1 : mc' + kc' ≤ kc) (hk2 : ms' + ks' ≤ ks)
    (hC : q_Ct l d' Z (.ref i :: avs) h mc' ms' QZ QXZ) (hx : ∀ E h', ¬ QXZ E h') (k : ∀ (v : Option Value) (h' : qH), QZ v h' → h.2 ≤ h'.2 → q_J l d Y mc ms Q QX n0 (pc + 3) lo (v.toList ++ rest) h' kc' ks') : q_J l d Y mc ms Q QX n0 pc lo st h kc ks := by
  intro p e s m args below meth c H locs cells slots ls g ad0 ad C0 S h1 h2
  obtain ⟨s1, s2, s3, s4, s5, s6, s7, s8, s9⟩ := S
  obtain ⟨c1, c2, c3, c4, c5, c6, c7, c8, c9, c10, c11, c12⟩ := id C0
  obtain ⟨w1, w2⟩ := q_wv_app he s7
  have hi : i < h.2 := w2 _ List.mem_cons_self i rfl
  have hB := q_callB (mc := mc) (ms := ms) (mc' := mc') (ms' := ms') c8 hZ hl hdd
  rw [hz2] at hB
  have hM := q_met (hC g ad s3 (fun v hv => (List.mem_cons.mp hv).elim (fun q => by rw [q]; exact q_wr hi) (w1 v))) (fun E u t ⟨h', ad', hX, _⟩ => hx E h' hX)
  rw [hz2] at hM
  rw [he, q_map_rev]
  refine q_afterI C0 s4 s5 s6 (q_tl w2) s8 s9 (va_runI (As := avs.map (q_tv g ad)) (nL := Y.2.2.1) (b := ad i) (rest := rest.map (q_tv g ad)) ⟨c1, c2, c4, c5, c8⟩ hM ⟨hB, hz1, c8 _ hin⟩ ⟨q_blind g ad (.ref i :: avs) h, fun U hU hW => ⟨rfl, by rw [hU]; exact s1, s2, va_K.moved hW.alike c10, by rw [hU]; exact (c11.kp (fun q a b => s4.2.1 q a b)).mv hW, by rw [hU]; exact Nat.le_trans c12 s4.1⟩⟩ rfl (by rw [List.length_map]; exact hn) s5.1 rfl ?_ hd ⟨?_, ?_⟩) (by omega) (by omega) k
  · rw [q_cats]
    show 2 * 0 + _ ≤ 8
    omega
  · show cells + mc' ≤ mc
    omega
  · show slots + ms' ≤ ms
    omega
/-- a nest mate's constructor -/
theorem j_specialN {Z : qM} {n idx d' mc' ms' kc' ks' i : Nat} {host : String} {avs rest : List Value} {QZ : Option Value → qH → Prop} {QXZ : String → qH → Prop} (hd : decode Y.2.1 pc = .ok (.invokespecial idx, 3)) (hZ : q_mt Z n) (hz1 : Z.1.name = "<init>") (hz2 : Z.2.2.2 = none) (hl : Cond.methodLinkNest Y.1.cls idx Z.1 host ∈ q_N) (hin : Cond.instanceMethod Z.1 ∈ q_W) (hn : avs.length = n) (he : st = avs.reverse ++ .ref i :: rest) (hr : (rest.map fun v => v.category).sum ≤ 8) (hdd : d' + 1 ≤ d) (hk1 : mc' + kc' ≤ kc) (hk2 : ms' + ks' ≤ ks)
    (hC : q_Ct l d' Z (.ref i :: avs) h mc' ms' QZ QXZ) (hx : ∀ E h', ¬ QXZ E h') (k : ∀ (v : Option Value) (h' : qH), QZ v h' → h.2 ≤ h'.2 → q_J l d Y mc ms Q QX n0 (pc + 3) lo (v.toList ++ rest) h' kc' ks') : q_J l d Y mc ms Q QX n0 pc lo st h kc ks := by
  intro p e s m args below meth c H locs cells slots ls g ad0 ad C0 S h1 h2
  obtain ⟨s1, s2, s3, s4, s5, s6, s7, s8, s9⟩ := S
  obtain ⟨c1, c2, c3, c4, c5, c6, c7, c8, c9, c10, c11, c12⟩ := id C0
  obtain ⟨w1, w2⟩ := q_wv_app he s7
  have hi : i < h.2 := w2 _ List.mem_cons_self i rfl
  obtain ⟨z1, z2, z3, z4, z5⟩ := id hZ
  have hB : va_CN (q_R d mc ms) s args Y.1.cls idx Z.1 host Z.2.1 Z.2.2.1 Z.2.2.2 (Cond.code Z.1 Z.2.1 Z.2.2.1 Z.2.2.2 :: q_W) (q_R d' mc' ms') mc' ms' n :=
    ⟨⟨rfl, rfl, hdd, (show 8 + (Z.2.2.1 + 11) + 42 * d' ≤ 42 * d by omega), q_pay c8 z1, List.mem_cons_self⟩, c8 _ z1, c8 _ z2, z3, fun sig hs => by rw [hs] at z4; exact (Option.some.inj z4).symm, va_Nw.use rfl (c11.2.2.2.2.1 _ hl)⟩
  rw [hz2] at hB
  have hM := q_met (hC g ad s3 (fun v hv => (List.mem_cons.mp hv).elim (fun q => by rw [q]; exact q_wr hi) (w1 v))) (fun E u t ⟨h', ad', hX, _⟩ => hx E h' hX)
  rw [hz2] at hM
  rw [he, q_map_rev]
  refine q_afterI C0 s4 s5 s6 (q_tl w2) s8 s9 (va_runIN (As := avs.map (q_tv g ad)) (nL := Y.2.2.1) (b := ad i) (rest := rest.map (q_tv g ad)) ⟨c1, c2, c4, c5, c8⟩ hM ⟨hB, hz1, c8 _ hin⟩ ⟨q_blind g ad (.ref i :: avs) h, fun U hU hW => ⟨rfl, by rw [hU]; exact s1, s2, va_K.moved hW.alike c10, by rw [hU]; exact (c11.kp (fun q a b => s4.2.1 q a b)).mv hW, by rw [hU]; exact Nat.le_trans c12 s4.1⟩⟩ rfl (by rw [List.length_map]; exact hn) s5.1 rfl ?_ hd ⟨?_, ?_⟩) (by omega) (by omega) k
  · rw [q_cats]
    show 2 * 0 + _ ≤ 8
    omega
  · show cells + mc' ≤ mc
    omega
  · show slots + ms' ≤ ms
    omega
/-- Object.<init> -/
theorem j_objInit {idx i : Nat} (hd : decode Y.2.1 pc = .ok (.invokespecial idx, 3)) (hl : Cond.methodLink Y.1.cls idx objectInit ∈ q_W) (hin : Cond.instanceMethod objectInit ∈ q_W) (hco : Cond.code objectInit ⟨#[0xb1]⟩ 1 none ∈ q_W) (hr : (st.map fun v => v.category).sum ≤ 8) (hdd : 1 ≤ d)
    (k : q_J l d Y mc ms Q QX n0 (pc + 3) lo st h kc ks) : q_J l d Y mc ms Q QX n0 pc lo (.ref i :: st) h kc ks := by
  intro p e s m args below meth c H locs cells slots ls g ad0 ad C0 S h1 h2
  obtain ⟨s1, s2, s3, s4, s5, s6, s7, s8, s9⟩ := S
  obtain ⟨c1, c2, c3, c4, c5, c6, c7, c8, c9, c10, c11, c12⟩ := id C0
  refine W.objInit c1 c2 c5 (c8 _ hl) (c8 _ hin) (c8 _ hco) rfl (s5.1.trans c4.symm) (a := ad i) (rest := st.map (q_tv g ad)) rfl hd hdd (by rw [q_cats]; show 2 * 0 + _ + 12 ≤ 42 * d; omega) ?_
  exact k p e s m args below meth c H locs cells slots ls g ad0 ad C0 ⟨s1, s2, s3, s4, s5, s6, q_tl s7, s8, s9⟩ h1 h2
/-- behind a making: the new cell at the heap's end -/
theorem q_grown {s : State} {g : qG} {ad0 ad : Nat → Nat} {H H1 : Heap} {locs : List Loc} {ls : Array Slot} {q : Nat} {cl : qC} {st1 : List Value} (S : q_S g s ad0 ad n0 h H locs ls Y.2.2.1 lo st1) (hc : q_wc (h.2 + 1) cl)
    (hP : va_P g.1 q_cls (q_ws g ad h ++ [(q, q_tc g (q_up ad h.2 q) cl)]) H1) (hD : va_D (q_A g) (q_ws g ad h ++ [(q, q_tc g (q_up ad h.2 q) cl)])) (hS : va_S (q_A g) s.heap H1 locs) (st2 : List Value) (hst : ∀ v ∈ st2, v ∈ st1) : q_S g s ad0 (q_up ad h.2 q) n0 (q_push h cl) H1 locs ls Y.2.2.1 lo (.ref h.2 :: st2) ∧ (Value.ref h.2 :: st2).map (q_tv g (q_up ad h.2 q)) = .ref q :: st2.map (q_tv g ad) := by
  obtain ⟨s1, s2, s3, s4, s5, s6, s7, s8, s9⟩ := S
  have ag : q_ag h.2 ad (q_up ad h.2 q) := q_ag_up q_ag_rf (Nat.le_refl _)
  rw [q_ws_push s3] at hP hD
  refine ⟨⟨hP, hD, q_wh_push s3 hc, hS, ⟨s5.1, s5.2.1, fun i w hi => by rw [q_tv_ag ag (s6 w (List.mem_of_getElem? hi))]; exact s5.2.2 i w hi⟩, fun w hw => q_wv_mono (s6 w hw) (Nat.le_succ _), q_cn (q_wr (Nat.lt_succ_self _)) (fun w hw => q_wv_mono (s7 w (hst w hw)) (Nat.le_succ _)), q_ag_tr s8 ag s9, Nat.le_trans s9 (Nat.le_succ _)⟩, ?_⟩
  rw [List.map_cons, q_tvs_ag ag (fun v hv => s7 v (hst v hv))]
  show Value.ref (q_up ad h.2 q h.2) :: _ = _
  simp [q_up]
theorem q_dflt (g : qG) (ad : Nat → Nat) (ty : FieldType) : q_tv g ad (defaultValue ty) = defaultValue ty ∨ ∃ z, defaultValue ty = .float z := by
  cases ty <;> first | exact Or.inl rfl | exact Or.inr ⟨_, rfl⟩
/-- new: an object of the world's class ci, all its fields as at first -/
theorem j_new {ci idx N : Nat} {C : String} {T : u_T} {ty0 : Nat → FieldType} {fs : List Value} (hc : q_cl ci C T N) (hty : ∀ k, k < N → parseFieldDescriptor (T k).2.2.1 = some (ty0 k)) (hl : Cond.classLink Y.1.cls idx C ∈ q_W) (hi : Cond.instantiable C N ∈ q_W) (hini : Cond.initialized C ∈ q_W) (hd : decode Y.2.1 pc = .ok (.new idx, 3))
    (hfs : ∀ (g : qG) (ad : Nat → Nat) (j : Nat), j < N → defaultValue (ty0 j) = vp_V (fs.map (q_tv g ad)) j) (hwf : ∀ n, ∀ v ∈ fs, q_wv n v) {kc' ks' : Nat} (hk1 : kc' + 1 ≤ kc) (hk2 : ks' + N ≤ ks)
    (k : q_J l d Y mc ms Q QX n0 (pc + 3) lo (.ref h.2 :: st) (q_push h (.inr (ci, fs))) kc' ks') : q_J l d Y mc ms Q QX n0 pc lo st h kc ks := by
  intro p e s m args below meth c H locs cells slots ls g ad0 ad C0 S h1 h2
  obtain ⟨s1, s2, s3, s4, s5, s6, s7, s8, s9⟩ := id S
  obtain ⟨c1, c2, c3, c4, c5, c6, c7, c8, c9, c10, c11, c12⟩ := id C0
  refine va_new (D := g.1) (cl := q_cls) (ci := ci) (Ts := q_W) (A := q_A g) (H0 := s.heap) (fs := fs.map (q_tv g ad)) c1 c2 c8 hc.2 ty0 hty c5 (c8 _ hl) (c8 _ hi) (c8 _ hini) c10 s1 s2 s4 (fun q hq => Nat.le_trans c12 hq) hc.1 (hfs g ad) (show cells + 1 ≤ mc by omega) (show slots + N ≤ ms by omega) hd (fun q H1 hP hD hS => ?_)
  have e9 : ∀ a, q_tc g a (.inr (ci, fs)) = .inr (ci, fs.map (q_tv g ad)) := fun a => by
    show Sum.inr (ci, _) = Sum.inr (ci, _)
    rw [List.map_congr_left (fun v hv => ?_)]
    exact q_tv_ag (n := 0) (fun i hi => absurd hi (Nat.not_lt_zero i)) (hwf 0 v hv)
  obtain ⟨S', e8⟩ := q_grown (Y := Y) (cl := .inr (ci, fs)) S (fun v hv => hwf _ v hv) (by rw [e9]; exact hP) (by rw [e9]; exact hD) hS st (fun v hv => hv)
  have h9 := k p e s m args below meth c H1 locs (cells + 1) (slots + N) ls g ad0 (q_up ad h.2 q) C0 S' (by omega) (by omega)
  rw [e8] at h9
  exact h9
/-- new int[n] -/
theorem j_newI {z : Int32} {N : Nat} (ha : Cond.arrayClass .int ∈ q_W) (hd : decode Y.2.1 pc = .ok (.newarray .int, 2)) (hn : ¬ z < 0) (hN : z.toNatClampNeg = N) (hb : N ≤ 100000) {kc' ks' : Nat} (hk1 : kc' + 1 ≤ kc) (hk2 : ks' + N ≤ ks)
    (k : q_J l d Y mc ms Q QX n0 (pc + 2) lo (.ref h.2 :: st) (q_push h (.inl (0, (N, .inl (fun _ => 0))))) kc' ks') : q_J l d Y mc ms Q QX n0 pc lo (.int z :: st) h kc ks := by
  intro p e s m args below meth c H locs cells slots ls g ad0 ad C0 S h1 h2
  obtain ⟨s1, s2, s3, s4, s5, s6, s7, s8, s9⟩ := id S
  obtain ⟨c1, c2, c3, c4, c5, c6, c7, c8, c9, c10, c11, c12⟩ := id C0
  refine va_newa (atype := .int) (D := g.1) (cl := q_cls) (tys := q_ty g) (A := q_A g) (H0 := s.heap) (ty := .int) c1 c2 (c8 _ ha) rfl c10 s1 s2 s4 (fun q hq => Nat.le_trans c12 hq) (a0 := (N, .inl (fun _ => 0))) (fun cA => rfl) hn hN (show N * 4 ≤ 536870912 by omega) (show cells + 1 ≤ mc by omega) (show slots + N ≤ ms by omega) hd (fun q cA H1 hK hP hD hS => ?_)
  have hcA : cA = g.2.1 0 := by
    have e1 := (hK.2 5 (cA, .int) rfl).2
    have e2 := (hK.2 0 (g.2.1 0, .int) rfl).2
    exact Option.some.inj (e1.symm.trans e2)
  subst hcA
  obtain ⟨S', e8⟩ := q_grown (Y := Y) (cl := .inl (0, (N, .inl (fun _ => 0)))) S trivial hP hD hS st (fun v hv => List.mem_cons_of_mem _ hv)
  have h9 := k p e s m args below meth c H1 locs (cells + 1) (slots + N) ls g ad0 (q_up ad h.2 q) C0 S' (by omega) (by omega)
  rw [e8] at h9
  exact h9
/-- new boolean[n] -/
theorem j_newZ {z : Int32} {N : Nat} (ha : Cond.arrayClass .boolean ∈ q_W) (hd : decode Y.2.1 pc = .ok (.newarray .boolean, 2)) (hn : ¬ z < 0) (hN : z.toNatClampNeg = N) (hb : N ≤ 100000) {kc' ks' : Nat} (hk1 : kc' + 1 ≤ kc) (hk2 : ks' + N ≤ ks)
    (k : q_J l d Y mc ms Q QX n0 (pc + 2) lo (.ref h.2 :: st) (q_push h (.inl (2, (N, .inl (fun _ => 0))))) kc' ks') : q_J l d Y mc ms Q QX n0 pc lo (.int z :: st) h kc ks := by
  intro p e s m args below meth c H locs cells slots ls g ad0 ad C0 S h1 h2
  obtain ⟨s1, s2, s3, s4, s5, s6, s7, s8, s9⟩ := id S
  obtain ⟨c1, c2, c3, c4, c5, c6, c7, c8, c9, c10, c11, c12⟩ := id C0
  refine va_newa (atype := .boolean) (D := g.1) (cl := q_cls) (tys := q_ty g) (A := q_A g) (H0 := s.heap) (ty := .boolean) c1 c2 (c8 _ ha) rfl c10 s1 s2 s4 (fun q hq => Nat.le_trans c12 hq) (a0 := (N, .inl (fun _ => 0))) (fun cA => rfl) hn hN (show N * 1 ≤ 536870912 by omega) (show cells + 1 ≤ mc by omega) (show slots + N ≤ ms by omega) hd (fun q cA H1 hK hP hD hS => ?_)
  have hcA : cA = g.2.1 2 := by
    have e1 := (hK.2 5 (cA, .boolean) rfl).2
    have e2 := (hK.2 2 (g.2.1 2, .boolean) rfl).2
    exact Option.some.inj (e1.symm.trans e2)
  subst hcA
  obtain ⟨S', e8⟩ := q_grown (Y := Y) (cl := .inl (2, (N, .inl (fun _ => 0)))) S trivial hP hD hS st (fun v hv => List.mem_cons_of_mem _ hv)
  have h9 := k p e s m args below meth c H1 locs (cells + 1) (slots + N) ls g ad0 (q_up ad h.2 q) C0 S' (by omega) (by omega)
  rw [e8] at h9
  exact h9
/-! throw new E("text") in RoverPlanner's own methods -/
def q_xn : List String := ["java/lang/RuntimeException", "java/lang/Exception"]
/-- the words of a throw of E by the constructor at place ic -/
def q_xw (E : String) (ic : Nat) : Prop := (∀ w ∈ vx_atS "RoverPlanner" ic E q_xn, (w ∈ q_W ∨ w ∈ q_N) ∧ vx_ot w = true) ∧ Bundle.fit E = true ∧ Cond.initialized E ∈ q_W ∧ (∀ n ∈ q_xn, Bundle.fit n = true)
theorem q_throw_hx {g : qG} {s : State} {ad0 ad : Nat → Nat} {H : Heap} {locs : List Loc} {ls : Array Slot} {nL : Nat} {E : String} (S : q_S g s ad0 ad n0 h H locs ls nL lo st) (hq : QX E h) : ∀ t : State, s.vm.Alike t.vm → H.size ≤ t.heap.size → (∀ q : Nat, q < H.size → t.heap[q]? = H[q]?) → q_Xc g ad0 n0 QX E s t := by
  obtain ⟨s1, s2, s3, s4, s5, s6, s7, s8, s9⟩ := S
  intro t _ hz hk
  exact ⟨h, ad, hq, s8, s9, s3, s1.kept (fun k q hq => hk q.1 ((s1 k q hq).lt)), s2, Nat.le_trans s4.1 hz, fun q h1 h2 => (hk q (Nat.lt_of_lt_of_le h1 s4.1)).trans (s4.2.1 q h1 h2)⟩
theorem q_nest_ot {w : Cond} (hw : q_nest w = true) : w.onTables = true := by
  cases w <;> first | rfl | (exact absurd hw (by simp [q_nest]))
theorem j_throw {E text : String} {ik is ic : Nat} (hl0 : l.stackTraces = false) (hown : Y.1.cls = "RoverPlanner") (hx : q_xw E ic) (hk : Cond.classLink "RoverPlanner" ik E ∈ q_W) (hs : (is, text) ∈ q_str) (d0 : decode Y.2.1 pc = .ok (.new ik, 3)) (d3 : decode Y.2.1 (pc + 3) = .ok (.dup, 1)) (d4 : decode Y.2.1 (pc + 4) = .ok (.ldc is, 2)) (d6 : decode Y.2.1 (pc + 6) = .ok (.invokespecial ic, 3)) (d9 : decode Y.2.1 (pc + 9) = .ok (.athrow, 1))
    (hdd : 6 ≤ d) (hr : (st.map fun v => v.category).sum ≤ 8) (hk1 : 1 ≤ kc) (hk2 : 6 ≤ ks) (hq : QX E h) : q_J l d Y mc ms Q QX n0 pc lo st h kc ks := by
  intro p e s m args below meth c H locs cells slots ls g ad0 ad C0 S h1 h2
  obtain ⟨s1, s2, s3, s4, s5, s6, s7, s8, s9⟩ := id S
  obtain ⟨c1, c2, c3, c4, c5, c6, c7, c8, c9, c10, c11, c12⟩ := id C0
  obtain ⟨sa, hsa⟩ := c11.2.2.2.1 _ hs
  refine vx_throwS (names := q_xn) (A := q_A g) (own := "RoverPlanner") (text := text) (sa := sa) c1 c2 hl0 (hown ▸ c5) hx.2.1 hx.2.2.2 (c8 _ hk) (c8 _ hx.2.2.1) hsa (fun w hw => ?_) (fun w hw => ?_) c11.2.1 c11.2.2.1 s4 (s5.1.trans c4.symm) d0 d3 d4 d6 d9 (fun x hx => (c9 x hx).elim) (show 2 + 3 < d by omega) ?_ (show cells + 1 ≤ mc by omega) (show slots + 6 ≤ ms by omega) c6 (q_throw_hx S hq) s4.2.2 (by omega) (by omega)
  · rcases (hx.1 w hw).1 with q | q
    · exact c8 w q
    · exact va_Nw.use (q_nest_ot (List.mem_filter.mp q).2) (c11.2.2.2.2.1 w q)
  · rcases List.mem_cons.mp hw with rfl | hw
    · rfl
    · rcases List.mem_cons.mp hw with rfl | hw
      · rfl
      · exact (hx.1 w hw).2
  · rw [q_cats]
    show _ + (13 * (2 + 1) + 43) ≤ 42 * d
    omega
theorem j_throwW {E text : String} {ik is ic : Nat} (hl0 : l.stackTraces = false) (hown : Y.1.cls = "RoverPlanner") (hx : q_xw E ic) (hk : Cond.classLink "RoverPlanner" ik E ∈ q_W) (hs : (is, text) ∈ q_str) (d0 : decode Y.2.1 pc = .ok (.new ik, 3)) (d3 : decode Y.2.1 (pc + 3) = .ok (.dup, 1)) (d4 : decode Y.2.1 (pc + 4) = .ok (.ldc_w is, 3)) (d7 : decode Y.2.1 (pc + 7) = .ok (.invokespecial ic, 3)) (d10 : decode Y.2.1 (pc + 10) = .ok (.athrow, 1))
    (hdd : 6 ≤ d) (hr : (st.map fun v => v.category).sum ≤ 8) (hk1 : 1 ≤ kc) (hk2 : 6 ≤ ks) (hq : QX E h) : q_J l d Y mc ms Q QX n0 pc lo st h kc ks := by
  intro p e s m args below meth c H locs cells slots ls g ad0 ad C0 S h1 h2
  obtain ⟨s1, s2, s3, s4, s5, s6, s7, s8, s9⟩ := id S
  obtain ⟨c1, c2, c3, c4, c5, c6, c7, c8, c9, c10, c11, c12⟩ := id C0
  obtain ⟨sa, hsa⟩ := c11.2.2.2.1 _ hs
  refine vx_throwSW (names := q_xn) (A := q_A g) (own := "RoverPlanner") (text := text) (sa := sa) c1 c2 hl0 (hown ▸ c5) hx.2.1 hx.2.2.2 (c8 _ hk) (c8 _ hx.2.2.1) hsa (fun w hw => ?_) (fun w hw => ?_) c11.2.1 c11.2.2.1 s4 (s5.1.trans c4.symm) d0 d3 d4 d7 d10 (fun x hx => (c9 x hx).elim) (show 2 + 3 < d by omega) ?_ (show cells + 1 ≤ mc by omega) (show slots + 6 ≤ ms by omega) c6 (q_throw_hx S hq) s4.2.2 (by omega) (by omega)
  · rcases (hx.1 w hw).1 with q | q
    · exact c8 w q
    · exact va_Nw.use (q_nest_ot (List.mem_filter.mp q).2) (c11.2.2.2.2.1 w q)
  · rcases List.mem_cons.mp hw with rfl | hw
    · rfl
    · rcases List.mem_cons.mp hw with rfl | hw
      · rfl
      · exact (hx.1 w hw).2
  · rw [q_cats]
    show _ + (13 * (2 + 1) + 43) ≤ 42 * d
    omega
theorem q_xw_of {E : String} {ic : Nat} (h : (vx_atS "RoverPlanner" ic E q_xn).all (fun w => (lw_tbl.contains w && (goodWord w || q_nest w)) && vx_ot w) = true) (h1 : Bundle.fit E = true) (h2 : Cond.initialized E ∈ q_W) (h3 : q_xn.all Bundle.fit = true) : q_xw E ic := by
  refine ⟨fun w hw => ?_, h1, h2, fun n hn => List.all_eq_true.mp h3 n hn⟩
  have h4 := List.all_eq_true.mp h w hw
  simp only [Bool.and_eq_true, Bool.or_eq_true, List.contains_iff_mem] at h4
  obtain ⟨⟨h5, h6⟩, h7⟩ := h4
  exact ⟨h6.elim (fun q => Or.inl (q_in h5 q)) (fun q => Or.inr (q_inN h5 q)), h7⟩
end QN
