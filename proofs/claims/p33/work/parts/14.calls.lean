section QK
variable {l : Launch} {d : Nat} {Y : qM} {mc ms : Nat} {Q : Option Value → qH → Prop} {QX : String → qH → Prop} {n0 pc : Nat} {lo : List (Option Value)} {st : List Value} {h : qH} {kc ks : Nat}
/-! ends -/
theorem j_iret {z : Int32} (hd : decode Y.2.1 pc = .ok (.ireturn, 1)) (hr : Y.2.2.2 = some .int) (hq : Q (some (.int z)) h) : q_J l d Y mc ms Q QX n0 pc lo [.int z] h kc ks := by
  intro p e s m args below meth c H locs cells slots ls g ad0 ad C0 S h1 h2
  obtain ⟨s1, s2, s3, s4, s5, s6, s7, s8, s9⟩ := S
  obtain ⟨c1, c2, c3, c4, c5, c6, c7, c8, c9, c10, c11, c12⟩ := id C0
  refine vx_ret (W.widen (k := mc) (n := ms) (by omega) (by omega) ?_)
  exact W.iret (v := z) c1 c2 (c3.trans hr) (fun t ht hW => ⟨some (.int z), h, ad, rfl, hq, s8, s9, (fun w hw => by cases hw; exact q_wi _ _), s3, by rw [ht]; exact s1, s2, s4.F ht⟩) s4.2.2 hd c6
theorem j_zret {z : Int32} (hd : decode Y.2.1 pc = .ok (.ireturn, 1)) (hr : Y.2.2.2 = some .boolean) (hz : z = 0 ∨ z = 1) (hq : Q (some (.int z)) h) : q_J l d Y mc ms Q QX n0 pc lo [.int z] h kc ks := by
  intro p e s m args below meth c H locs cells slots ls g ad0 ad C0 S h1 h2
  obtain ⟨s1, s2, s3, s4, s5, s6, s7, s8, s9⟩ := S
  obtain ⟨c1, c2, c3, c4, c5, c6, c7, c8, c9, c10, c11, c12⟩ := id C0
  refine vx_ret (W.widen (k := mc) (n := ms) (by omega) (by omega) ?_)
  exact W.zret (v := z) c1 c2 (c3.trans hr) (q_nZ g ad hz).1 (fun t ht hW => ⟨some (.int z), h, ad, rfl, hq, s8, s9, (fun w hw => by cases hw; exact q_wi _ _), s3, by rw [ht]; exact s1, s2, s4.F ht⟩) s4.2.2 hd c6
theorem j_lret {z : Int64} (hd : decode Y.2.1 pc = .ok (.lreturn, 1)) (hr : Y.2.2.2 = some .long) (hq : Q (some (.long z)) h) : q_J l d Y mc ms Q QX n0 pc lo [.long z] h kc ks := by
  intro p e s m args below meth c H locs cells slots ls g ad0 ad C0 S h1 h2
  obtain ⟨s1, s2, s3, s4, s5, s6, s7, s8, s9⟩ := S
  obtain ⟨c1, c2, c3, c4, c5, c6, c7, c8, c9, c10, c11, c12⟩ := id C0
  refine vx_ret (W.widen (k := mc) (n := ms) (by omega) (by omega) ?_)
  exact W.lret (v := z) c1 c2 (c3.trans hr) (fun t ht hW => ⟨some (.long z), h, ad, rfl, hq, s8, s9, (fun w hw => by cases hw; exact q_wl _ _), s3, by rw [ht]; exact s1, s2, s4.F ht⟩) s4.2.2 hd c6
theorem j_vret (hd : decode Y.2.1 pc = .ok (.return_, 1)) (hr : Y.2.2.2 = none) (hq : Q none h) : q_J l d Y mc ms Q QX n0 pc lo [] h kc ks := by
  intro p e s m args below meth c H locs cells slots ls g ad0 ad C0 S h1 h2
  obtain ⟨s1, s2, s3, s4, s5, s6, s7, s8, s9⟩ := S
  obtain ⟨c1, c2, c3, c4, c5, c6, c7, c8, c9, c10, c11, c12⟩ := id C0
  refine vx_ret (W.widen (k := mc) (n := ms) (by omega) (by omega) ?_)
  exact W.vret c1 c2 (c3.trans hr) (fun t ht hW => ⟨none, h, ad, rfl, hq, s8, s9, (fun w hw => by cases hw), s3, by rw [ht]; exact s1, s2, s4.F ht⟩) s4.2.2 hd c6
/-- what is known of a method that may be called, with n arguments (the receiver not counted) -/
def q_mt (Z : qM) (n : Nat) : Prop := Cond.code Z.1 Z.2.1 Z.2.2.1 Z.2.2.2 ∈ q_W ∧ Cond.initialized Z.1.cls ∈ q_W ∧ (Z.1.cls ≠ "java/lang/invoke/MethodHandle" ∧ Z.1.cls ≠ "java/lang/invoke/VarHandle") ∧ (parseMethodDescriptor Z.1.desc).map (fun d => d.parameters.length) = some n ∧ Z.2.2.1 ≤ 23
theorem q_pay {args : Array Value} {s : State} {Z : qM} (hts : ∀ w ∈ q_W, w.before args s = true) (hz : Cond.code Z.1 Z.2.1 Z.2.2.1 Z.2.2.2 ∈ q_W) : ∀ w ∈ (Cond.code Z.1 Z.2.1 Z.2.2.1 Z.2.2.2 :: q_W), ∀ (a' : Array Value) (U : State), s.WarmedH U.vm → w.before a' U = true :=
  pay_in hts (fun w hw => by
    have h1 : w ∈ q_W := (List.mem_cons.mp hw).elim (fun e => by rw [e]; exact hz) id
    exact ⟨h1, good_of_word (List.mem_filter.mp h1).2⟩)
theorem q_callB {args : Array Value} {s : State} {Z : qM} {n idx d' mc' ms' : Nat} {own : String} (hts : ∀ w ∈ q_W, w.before args s = true) (hZ : q_mt Z n) (hl : Cond.methodLink own idx Z.1 ∈ q_W) (hd : d' + 1 ≤ d) : CallB (q_R d mc ms) s args own idx Z.1 Z.2.1 Z.2.2.1 Z.2.2.2 (Cond.code Z.1 Z.2.1 Z.2.2.1 Z.2.2.2 :: q_W) (q_R d' mc' ms') mc' ms' n := by
  obtain ⟨z1, z2, z3, z4, z5⟩ := hZ
  refine ⟨rfl, rfl, hd, ?_, q_pay hts z1, List.mem_cons_self, hts _ z1, hts _ z2, z3, fun sig hs => ?_, hts _ hl⟩
  · show 8 + (Z.2.2.1 + 11) + 42 * d' ≤ 42 * d
    omega
  · rw [hs] at z4
    exact (Option.some.inj z4).symm
theorem q_after {mc' ms' kc' ks' : Nat} {p : Program} {e : Env} {s : State} {m : MethodId} {args a : Array Value} {below : List Frame} {meth : Method} {c : Code} {H : Heap} {locs : List Loc} {cells slots : Nat} {ls : Array Slot} {g : qG} {ad0 ad : Nat → Nat} {st0 : List Value} {rest : List Value} {QZ : Option Value → qH → Prop} {QXZ : String → qH → Prop}
    (C0 : q_C l Y g p s m args meth c) (s4 : va_S (q_A g) s.heap H locs) (s5 : q_lo g ad ls Y.2.2.1 lo) (s6 : ∀ v, some v ∈ lo → q_wv h.2 v) (s7 : ∀ v ∈ rest, q_wv h.2 v) (s8 : q_ag n0 ad0 ad) (s9 : n0 ≤ h.2)
    (hr : vx_Run p l e (q_R d mc ms) s m args below meth c H locs cells slots mc' ms' (F0 m pc ls st0) (rest.map (q_tv g ad)) (q_Qc g ad h.2 QZ a) (q_Xc g ad h.2 QXZ) (q_A g)) (hx : ∀ E h', ¬ QXZ E h')
    (hc : cells + mc' + kc' ≤ mc) (hs : slots + ms' + ks' ≤ ms)
    (k : ∀ (v : Option Value) (h' : qH), QZ v h' → h.2 ≤ h'.2 → q_J l d Y mc ms Q QX n0 (pc + 3) lo (v.toList ++ rest) h' kc' ks') :
    W p l e (q_R d mc ms) s m args below meth c H locs cells slots (vx_MQ below (q_Qc g ad0 n0 Q) (q_Xc g ad0 n0 QX) args s mc ms (q_A g)) (F0 m pc ls st0) := by
  intro T hT X
  rcases hr T hT X with ⟨v, st₀, t, T', L, e0, X', hL, e1, e2, ⟨v0, h', ad', hv, hQ, r1, r2, r3, r4, r5, r6, hF⟩, hst⟩ | ⟨q, st₀, t, T', L, E, ce, e0, X', hL, e1, e2, ⟨h', ad', hX, -⟩, -⟩
  · cases hv
    obtain ⟨k1, k2, k3⟩ := vx_keep e0 e1 s4 (fun q _ z => z) (fun q z => z) hL hF
    have hst2 : (v0.toList ++ rest).map (q_tv g ad') = (v0.map (q_tv g ad')).toList ++ rest.map (q_tv g ad) := by
      rw [List.map_append, q_tvs_ag r1 s7]
      cases v0 <;> rfl
    obtain ⟨t2, a1, b1⟩ := k v0 h' hQ r2 p e s m args below meth c T'.heap (locs ++ L) (cells + mc') (slots + ms') ls g ad0 ad' C0
      ⟨by rw [e1]; exact r5, r6, r4, k3, ⟨s5.1, s5.2.1, fun i w hi => by rw [q_tv_ag r1 (s6 w (List.mem_of_getElem? hi))]; exact s5.2.2 i w hi⟩, fun w hw => q_wv_mono (s6 w hw) r2, fun w hw => by
        rcases List.mem_append.mp hw with hw | hw
        · cases v0 with
          | none => cases hw
          | some x => rw [show w = x by simpa using hw]; exact r3 x rfl
        · exact q_wv_mono (s7 w hw) r2, q_ag_tr s8 r1 s9, Nat.le_trans s9 r2⟩ hc hs T' rfl X'
    rw [hst2] at a1
    exact ⟨t2, hst t2 a1, b1⟩
  · exact absurd hX (hx E h')
theorem q_map_rev {g : qG} {ad : Nat → Nat} (avs rest : List Value) : (avs.reverse ++ rest).map (q_tv g ad) = (avs.map (q_tv g ad)).reverse ++ rest.map (q_tv g ad) := by
  rw [List.map_append, List.map_reverse]
theorem q_cats {g : qG} {ad : Nat → Nat} : ∀ (rest : List Value), ((rest.map (q_tv g ad)).map fun v => v.category).sum = (rest.map fun v => v.category).sum
  | [] => rfl
  | a :: l => by
    rw [List.map_cons, List.map_cons, List.map_cons, List.sum_cons, List.sum_cons, q_tv_cat, q_cats l]
theorem q_wv_app {n : Nat} {avs rest st : List Value} (e : st = avs.reverse ++ rest) (h : ∀ v ∈ st, q_wv n v) : (∀ v ∈ avs, q_wv n v) ∧ ∀ v ∈ rest, q_wv n v := by
  subst e
  exact ⟨fun v hv => h v (List.mem_append_left _ (List.mem_reverse.mpr hv)), fun v hv => h v (List.mem_append_right _ hv)⟩
/-- a static call -/
theorem j_static {Z : qM} {n idx d' mc' ms' kc' ks' : Nat} {avs rest : List Value} {QZ : Option Value → qH → Prop} {QXZ : String → qH → Prop} (hd : decode Y.2.1 pc = .ok (.invokestatic idx, 3)) (hZ : q_mt Z n) (hl : Cond.methodLink Y.1.cls idx Z.1 ∈ q_W) (hst : Cond.static Z.1 ∈ q_W) (hn : avs.length = n) (he : st = avs.reverse ++ rest) (hr : (rest.map fun v => v.category).sum ≤ 8) (hdd : d' + 1 ≤ d) (hk1 : mc' + kc' ≤ kc) (hk2 : ms' + ks' ≤ ks)
    (hC : q_Ct l d' Z avs h mc' ms' QZ QXZ) (hx : ∀ E h', ¬ QXZ E h') (k : ∀ (v : Option Value) (h' : qH), QZ v h' → h.2 ≤ h'.2 → q_J l d Y mc ms Q QX n0 (pc + 3) lo (v.toList ++ rest) h' kc' ks') : q_J l d Y mc ms Q QX n0 pc lo st h kc ks := by
  intro p e s m args below meth c H locs cells slots ls g ad0 ad C0 S h1 h2
  obtain ⟨s1, s2, s3, s4, s5, s6, s7, s8, s9⟩ := S
  obtain ⟨c1, c2, c3, c4, c5, c6, c7, c8, c9, c10, c11, c12⟩ := id C0
  obtain ⟨w1, w2⟩ := q_wv_app he s7
  rw [he, q_map_rev]
  refine q_after C0 s4 s5 s6 w2 s8 s9 (vx_runS (As := avs.map (q_tv g ad)) (nL := Y.2.2.1) ⟨c1, c2, c4, c5, c8⟩ (hC g ad s3 w1) ⟨q_callB c8 hZ hl hdd, c8 _ hst⟩ ⟨q_blind g ad avs h, fun U hU hW => ⟨rfl, by rw [hU]; exact s1, s2, va_K.moved hW.alike c10, by rw [hU]; exact (c11.kp (fun q a b => s4.2.1 q a b)).mv hW, by rw [hU]; exact Nat.le_trans c12 s4.1⟩⟩ rfl (by rw [List.length_map]; exact hn) s5.1 rfl ?_ hd ⟨?_, ?_⟩) hx (by omega) (by omega) k
  · rw [q_cats]
    show 2 * 0 + _ ≤ 8
    omega
  · show cells + mc' ≤ mc
    omega
  · show slots + ms' ≤ ms
    omega
/-- a virtual call -/
theorem j_virtual {Z : qM} {n idx d' mc' ms' kc' ks' i ci N : Nat} {C : String} {T : u_T} {fs : List Value} {avs rest : List Value} {QZ : Option Value → qH → Prop} {QXZ : String → qH → Prop} (hd : decode Y.2.1 pc = .ok (.invokevirtual idx, 3)) (hZ : q_mt Z n) (hl : Cond.methodLink Y.1.cls idx Z.1 ∈ q_W) (hin : Cond.instanceMethod Z.1 ∈ q_W) (hse : Cond.selects C Z.1 Z.1 ∈ q_W) (hn : avs.length = n) (he : st = avs.reverse ++ .ref i :: rest) (hr : (rest.map fun v => v.category).sum ≤ 8) (hdd : d' + 1 ≤ d) (hk1 : mc' + kc' ≤ kc) (hk2 : ms' + ks' ≤ ks)
    (hc : q_cls[ci]? = some (C, T, N)) (hh : h.1 i = .inr (ci, fs))
    (hC : q_Ct l d' Z (.ref i :: avs) h mc' ms' QZ QXZ) (hx : ∀ E h', ¬ QXZ E h') (k : ∀ (v : Option Value) (h' : qH), QZ v h' → h.2 ≤ h'.2 → q_J l d Y mc ms Q QX n0 (pc + 3) lo (v.toList ++ rest) h' kc' ks') : q_J l d Y mc ms Q QX n0 pc lo st h kc ks := by
  intro p e s m args below meth c H locs cells slots ls g ad0 ad C0 S h1 h2
  obtain ⟨s1, s2, s3, s4, s5, s6, s7, s8, s9⟩ := S
  obtain ⟨c1, c2, c3, c4, c5, c6, c7, c8, c9, c10, c11, c12⟩ := id C0
  obtain ⟨w1, w2⟩ := q_wv_app he s7
  have hi : i < h.2 := w2 _ List.mem_cons_self i rfl
  rw [he, q_map_rev]
  refine q_after C0 s4 s5 s6 (q_tl w2) s8 s9 (vx_runV (C := C) (As := avs.map (q_tv g ad)) (nL := Y.2.2.1) (b := ad i) (rest := rest.map (q_tv g ad)) ⟨c1, c2, c4, c5, c8⟩ (hC g ad s3 (fun v hv => (List.mem_cons.mp hv).elim (fun q => by rw [q]; exact q_wr hi) (w1 v))) ⟨q_callB c8 hZ hl hdd, c8 _ hin, c8 _ hse⟩ ⟨q_blind g ad (.ref i :: avs) h, va_recv c10 s1 (q0 := i) (fs := fs.map (q_tv g ad)) hc (by rw [q_ws_get hi, hh]; rfl), fun U hU hW => ⟨rfl, by rw [hU]; exact s1, s2, va_K.moved hW.alike c10, by rw [hU]; exact (c11.kp (fun q a b => s4.2.1 q a b)).mv hW, by rw [hU]; exact Nat.le_trans c12 s4.1⟩⟩ rfl (by rw [List.length_map]; exact hn) s5.1 rfl ?_ hd ⟨?_, ?_⟩) hx (by omega) (by omega) k
  · rw [q_cats]
    show 2 * 0 + _ ≤ 8
    omega
  · show cells + mc' ≤ mc
    omega
  · show slots + ms' ≤ ms
    omega
/-! Math -/
theorem j_mmax {a b : Int32} {idx : Nat} (hd : decode Y.2.1 pc = .ok (.invokestatic idx, 3)) (hl : Cond.methodLink Y.1.cls idx Lib.Math.max.name ∈ q_W) (hst : Cond.static Lib.Math.max.name ∈ q_W) (hi : Cond.initialized "java/lang/Math" ∈ q_W) (hco : Cond.code Lib.Math.max.name Lib.Math.max.code 2 (some .int) ∈ q_W) (hr : (st.map fun v => v.category).sum ≤ 8) (hdd : 1 ≤ d)
    (k : q_J l d Y mc ms Q QX n0 (pc + 3) lo (.int (if a < b then b else a) :: st) h kc ks) : q_J l d Y mc ms Q QX n0 pc lo (.int b :: .int a :: st) h kc ks := by
  intro p e s m args below meth c H locs cells slots ls g ad0 ad C0 S h1 h2
  obtain ⟨s1, s2, s3, s4, s5, s6, s7, s8, s9⟩ := S
  obtain ⟨c1, c2, c3, c4, c5, c6, c7, c8, c9, c10, c11, c12⟩ := id C0
  refine va_mmax c1 c2 (c4.trans s5.1.symm) c5 (c8 _ hl) (c8 _ hst) (c8 _ hi) (c8 _ hco) hdd (by rw [q_cats]; show _ ≤ 42 * d; omega) (show cells ≤ mc by omega) (show slots ≤ ms by omega) hd ?_
  exact k p e s m args below meth c H locs cells slots ls g ad0 ad C0 ⟨s1, s2, s3, s4, s5, s6, q_cn (q_wi _ _) (q_tl (q_tl s7)), s8, s9⟩ h1 h2
theorem j_mmin {a b : Int32} {idx : Nat} (hd : decode Y.2.1 pc = .ok (.invokestatic idx, 3)) (hl : Cond.methodLink Y.1.cls idx Lib.Math.min.name ∈ q_W) (hst : Cond.static Lib.Math.min.name ∈ q_W) (hi : Cond.initialized "java/lang/Math" ∈ q_W) (hco : Cond.code Lib.Math.min.name Lib.Math.min.code 2 (some .int) ∈ q_W) (hr : (st.map fun v => v.category).sum ≤ 8) (hdd : 1 ≤ d)
    (k : q_J l d Y mc ms Q QX n0 (pc + 3) lo (.int (if b < a then b else a) :: st) h kc ks) : q_J l d Y mc ms Q QX n0 pc lo (.int b :: .int a :: st) h kc ks := by
  intro p e s m args below meth c H locs cells slots ls g ad0 ad C0 S h1 h2
  obtain ⟨s1, s2, s3, s4, s5, s6, s7, s8, s9⟩ := S
  obtain ⟨c1, c2, c3, c4, c5, c6, c7, c8, c9, c10, c11, c12⟩ := id C0
  refine va_mmin c1 c2 (c4.trans s5.1.symm) c5 (c8 _ hl) (c8 _ hst) (c8 _ hi) (c8 _ hco) hdd (by rw [q_cats]; show _ ≤ 42 * d; omega) (show cells ≤ mc by omega) (show slots ≤ ms by omega) hd ?_
  exact k p e s m args below meth c H locs cells slots ls g ad0 ad C0 ⟨s1, s2, s3, s4, s5, s6, q_cn (q_wi _ _) (q_tl (q_tl s7)), s8, s9⟩ h1 h2
theorem j_mabs {a : Int32} {idx : Nat} (hd : decode Y.2.1 pc = .ok (.invokestatic idx, 3)) (hl : Cond.methodLink Y.1.cls idx Lib.Math.abs.name ∈ q_W) (hst : Cond.static Lib.Math.abs.name ∈ q_W) (hi : Cond.initialized "java/lang/Math" ∈ q_W) (hco : Cond.code Lib.Math.abs.name Lib.Math.abs.code 1 (some .int) ∈ q_W) (hr : (st.map fun v => v.category).sum ≤ 8) (hdd : 1 ≤ d)
    (k : q_J l d Y mc ms Q QX n0 (pc + 3) lo (.int (if 0 ≤ a then a else 0 - a) :: st) h kc ks) : q_J l d Y mc ms Q QX n0 pc lo (.int a :: st) h kc ks := by
  intro p e s m args below meth c H locs cells slots ls g ad0 ad C0 S h1 h2
  obtain ⟨s1, s2, s3, s4, s5, s6, s7, s8, s9⟩ := S
  obtain ⟨c1, c2, c3, c4, c5, c6, c7, c8, c9, c10, c11, c12⟩ := id C0
  refine va_mabs c1 c2 (c4.trans s5.1.symm) c5 (c8 _ hl) (c8 _ hst) (c8 _ hi) (c8 _ hco) hdd (by rw [q_cats]; show _ ≤ 42 * d; omega) (show cells ≤ mc by omega) (show slots ≤ ms by omega) hd ?_
  exact k p e s m args below meth c H locs cells slots ls g ad0 ad C0 ⟨s1, s2, s3, s4, s5, s6, q_cn (q_wi _ _) (q_tl s7), s8, s9⟩ h1 h2
/-- System.arraycopy among rows of ints -/
theorem q_nfw : nativeFrameWords "java/lang/System" "arraycopy" 5 ≤ 23 := by decide +kernel
theorem j_copy {i0 i1 N0 N1 idx : Nat} {f0 f1 : Nat → Int32} {sp dp n : Int32} (hd : decode Y.2.1 pc = .ok (.invokestatic idx, 3)) (hl : Cond.methodLink Y.1.cls idx arraycopyName ∈ q_W) (hna : Cond.native arraycopyName ∈ q_W) (hst : Cond.static arraycopyName ∈ q_W) (hi : Cond.initialized "java/lang/System" ∈ q_W) (hr : (st.map fun v => v.category).sum ≤ 8) (hdd : 1 ≤ d)
    (hh0 : h.1 i0 = .inl (0, (N0, .inl f0))) (hh1 : h.1 i1 = .inl (0, (N1, .inl f1))) (q1 : ¬ sp < 0) (q2 : ¬ dp < 0) (q3 : ¬ n < 0) (q4 : sp.toNatClampNeg + n.toNatClampNeg ≤ N0) (q5 : dp.toNatClampNeg + n.toNatClampNeg ≤ N1)
    (k : q_J l d Y mc ms Q QX n0 (pc + 3) lo st (q_set h i1 (.inl (0, (N1, .inl (va_cpy f0 f1 sp.toNatClampNeg dp.toNatClampNeg n.toNatClampNeg))))) kc ks) : q_J l d Y mc ms Q QX n0 pc lo (.int n :: .int dp :: .ref i1 :: .int sp :: .ref i0 :: st) h kc ks := by
  intro p e s m args below meth c H locs cells slots ls g ad0 ad C0 S h1 h2
  obtain ⟨s1, s2, s3, s4, s5, s6, s7, s8, s9⟩ := S
  obtain ⟨c1, c2, c3, c4, c5, c6, c7, c8, c9, c10, c11, c12⟩ := id C0
  have w1 : i1 < h.2 := s7 (.ref i1) (by simp) i1 rfl
  have w0 : i0 < h.2 := s7 (.ref i0) (by simp) i0 rfl
  have hnf := q_nfw
  refine va_copyi (D := g.1) (cl := q_cls) (ty := .int) c1 c2 (c4.trans s5.1.symm) c5 (c8 _ hl) (c8 _ hna) (c8 _ hst) (c8 _ hi) c10 s1 s2 s4 i0 i1 0 0 (c0 := g.2.1 0) (c1 := g.2.1 0) (n0 := N0) (n1 := N1) (f := f0) (g := f1) ?_ ?_ rfl rfl rfl q1 q2 q3 q4 q5 (fun _ _ => rfl) hdd (by rw [q_cats]; show _ ≤ 42 * d; omega) hd (fun H1 locs1 hP1 hD1 hS1 => ?_)
  · rw [q_ws_get w0, hh0]; rfl
  · rw [q_ws_get w1, hh1]; rfl
  · have e9 := q_ws_set (g := g) (ad := ad) (c := .inl (0, (N1, .inl (va_cpy f0 f1 sp.toNatClampNeg dp.toNatClampNeg n.toNatClampNeg)))) w1
    rw [show (q_ws g ad h).set i1 (ad i1, .inl (g.2.1 0, N1, .inl (va_cpy f0 f1 sp.toNatClampNeg dp.toNatClampNeg n.toNatClampNeg))) = _ from e9] at hP1 hD1
    exact k p e s m args below meth c H1 locs1 cells slots ls g ad0 ad C0 ⟨hP1, hD1, q_wh_set s3 trivial, hS1, s5, s6, q_tl (q_tl (q_tl (q_tl (q_tl s7)))), s8, s9⟩ h1 h2
end QK
