/-! THE LAW: its context (the script; the type int[][]; the exceptions), and its own rows -/
def xL (b L : Nat) (xs : Nat → Int32) (g : qG) (s : State) : Prop := (g.2.2.1 4 = b ∧ va_X b L xs s s.heap ∧ b < g.2.2.2) ∧ va_AOA .int s ∧ xN g s
theorem xN.mv {g : qG} {s U : State} (hW : s.WarmedH U.vm) (h : xN g s) : xN g U := ⟨va_Nc.moved hW.alike h.1, va_Nc.moved hW.alike h.2.1, va_Nc.moved hW.alike h.2.2⟩
section QL9
variable {b L : Nat} {xs : Nat → Int32} {l : Launch} {d : Nat} {Y : qM} {mc ms : Nat} {Q : Option Value → qH → Prop} {QX : String → qH → Prop} {n0 pc : Nat} {lo : List (Option Value)} {st : List Value} {h : qH} {kc ks : Nat}
theorem k_aload_nF {X : qG → State → Prop} {n : Fin 4} {i : Nat} {z : UInt32} (hd : decode Y.2.1 pc = .ok (.aload_n n, 1)) (hi : (n : Nat) = i) (hl : lo[i]? = some (some (.float z))) (k : q_K X l d Y mc ms Q QX n0 (pc + 1) lo (.float z :: st) h kc ks) : q_K X l d Y mc ms Q QX n0 pc lo st h kc ks :=
  qk_pure (fun _ b => q_cn (fun i hi => by cases hi) b) (fun p e R s m args below meth c H locs cells slots ls g ad Qf hx hb o _ _ k => lv_aload_n hx hb hd hi (o.2.2 _ _ hl) k) k
theorem k_slen (hd : decode Y.2.1 pc = .ok (.arraylength, 1)) (k : q_K (xL b L xs) l d Y mc ms Q QX n0 (pc + 1) lo (.int (Int32.ofNat L) :: st) h kc ks) : q_K (xL b L xs) l d Y mc ms Q QX n0 pc lo (.float 4 :: st) h kc ks := by
  intro p e s m args below meth c H locs cells slots ls g ad0 ad C0 S h1 h2
  obtain ⟨s1, s2, s3, s4, s5, s6, s7, s8, s9⟩ := S
  obtain ⟨c1, c2, c3, c4, c5, c6, c7, c8, c9, c10, c11, c12⟩ := id C0.1
  obtain ⟨⟨x1, x2, x3⟩, -⟩ := id C0.2
  have e9 : q_tv g ad (.float 4) = .ref b := by
    show Value.ref (g.2.2.1 4) = _
    rw [x1]
  rw [List.map_cons, e9]
  exact va_slen (A := q_A g) c1 c2 x2 (Nat.lt_of_lt_of_le x3 c12) (Nat.not_le.mpr x3) s4 hd (k p e s m args below meth c H locs cells slots ls g ad0 ad C0 ⟨s1, s2, s3, s4, s5, s6, q_cn (q_wi _ _) (q_tl s7), s8, s9⟩ h1 h2)
theorem k_sc {i z : Int32} (hd : decode Y.2.1 pc = .ok (.iaload, 1)) (hin : vp_in i L) (hz : xs i.toNatClampNeg = z) (k : q_K (xL b L xs) l d Y mc ms Q QX n0 (pc + 1) lo (.int z :: st) h kc ks) : q_K (xL b L xs) l d Y mc ms Q QX n0 pc lo (.int i :: .float 4 :: st) h kc ks := by
  subst hz
  intro p e s m args below meth c H locs cells slots ls g ad0 ad C0 S h1 h2
  obtain ⟨s1, s2, s3, s4, s5, s6, s7, s8, s9⟩ := S
  obtain ⟨c1, c2, c3, c4, c5, c6, c7, c8, c9, c10, c11, c12⟩ := id C0.1
  obtain ⟨⟨x1, x2, x3⟩, -⟩ := id C0.2
  have e9 : q_tv g ad (.float 4) = .ref b := by
    show Value.ref (g.2.2.1 4) = _
    rw [x1]
  rw [List.map_cons, List.map_cons, e9]
  exact va_sld (A := q_A g) c1 c2 x2 (Nat.lt_of_lt_of_le x3 c12) (Nat.not_le.mpr x3) s4 hin hd (k p e s m args below meth c H locs cells slots ls g ad0 ad C0 ⟨s1, s2, s3, s4, s5, s6, q_cn (q_wi _ _) (q_tl (q_tl s7)), s8, s9⟩ h1 h2)
/-- script[i + c] -/
theorem k_rd {i c z : Int32} {n : Int} (d0 : decode Y.2.1 pc = .ok (.aload_n 0, 1)) (d1 : decode Y.2.1 (pc + 1) = .ok (.iload 4, 2)) (d2 : decode Y.2.1 (pc + 3) = .ok (.iconst n, 1)) (hn : Int32.ofInt n = c) (d3 : decode Y.2.1 (pc + 4) = .ok (.iadd, 1)) (d4 : decode Y.2.1 (pc + 5) = .ok (.iaload, 1))
    (l0 : lo[0]? = some (some (.float 4))) (l4 : lo[4]? = some (some (.int i))) (hz : vp_in (i + c) L ∧ xs (i + c).toNatClampNeg = z) (k : q_K (xL b L xs) l d Y mc ms Q QX n0 (pc + 6) lo (.int z :: st) h kc ks) : q_K (xL b L xs) l d Y mc ms Q QX n0 pc lo st h kc ks :=
  k_aload_nF d0 rfl l0 (k_iload d1 l4 (k_iconst d2 hn (k_iadd d3 (k_sc d4 hz.1 hz.2 k))))
theorem k_rd6 {i c z : Int32} {n : Int} (d0 : decode Y.2.1 pc = .ok (.aload_n 0, 1)) (d1 : decode Y.2.1 (pc + 1) = .ok (.iload 4, 2)) (d2 : decode Y.2.1 (pc + 3) = .ok (.bipush n, 2)) (hn : (Int8.ofInt n).toInt32 = c) (d3 : decode Y.2.1 (pc + 5) = .ok (.iadd, 1)) (d4 : decode Y.2.1 (pc + 6) = .ok (.iaload, 1))
    (l0 : lo[0]? = some (some (.float 4))) (l4 : lo[4]? = some (some (.int i))) (hz : vp_in (i + c) L ∧ xs (i + c).toNatClampNeg = z) (k : q_K (xL b L xs) l d Y mc ms Q QX n0 (pc + 7) lo (.int z :: st) h kc ks) : q_K (xL b L xs) l d Y mc ms Q QX n0 pc lo st h kc ks :=
  k_aload_nF d0 rfl l0 (k_iload d1 l4 (k_bipush d2 hn (k_iadd d3 (k_sc d4 hz.1 hz.2 k))))
/-- .. != 0 -/
def neZ (z : Int32) : Int32 := if z = 0 then 0 else 1
theorem neZ_01 (z : Int32) : neZ z = 0 ∨ neZ z = 1 := by
  unfold neZ
  by_cases e : z = 0
  · rw [if_pos e]; exact Or.inl rfl
  · rw [if_neg e]; exact Or.inr rfl
theorem k_bool {X : qG → State → Prop} {z : Int32} (d0 : decode Y.2.1 pc = .ok (.ifCond .eq 7, 3)) (d1 : decode Y.2.1 (pc + 3) = .ok (.iconst 1, 1)) (d2 : decode Y.2.1 (pc + 4) = .ok (.goto 4, 3)) (d3 : decode Y.2.1 (pc + 7) = .ok (.iconst 0, 1))
    (k : q_K X l d Y mc ms Q QX n0 (pc + 8) lo (.int (neZ z) :: st) h kc ks) : q_K X l d Y mc ms Q QX n0 pc lo (.int z :: st) h kc ks := by
  refine k_if_eq (tgt := pc + 7) d0 (by omega) (fun e => ?_) (fun e => ?_)
  · refine k_iconst (v := 0) d3 (by decide) ?_
    rw [show neZ z = 0 from if_pos e] at k
    exact k
  · refine k_iconst (v := 1) d1 (by decide) (k_goto (tgt := pc + 8) d2 (by omega) ?_)
    rw [show neZ z = 1 from if_neg e] at k
    exact k
theorem k_lald {X : qG → State → Prop} {i N : Nat} {f : Nat → Int64} {z : Int32} (hd : decode Y.2.1 pc = .ok (.laload, 1)) (hh : h.1 i = .inl (1, (N, .inr (.inl f)))) (hin : vp_in z N)
    (kk : q_K X l d Y mc ms Q QX n0 (pc + 1) lo (.long (f z.toNatClampNeg) :: st) h kc ks) : q_K X l d Y mc ms Q QX n0 pc lo (.int z :: .ref i :: st) h kc ks := by
  intro p e s m args below meth c H locs cells slots ls g ad0 ad C0 S h1 h2
  obtain ⟨s1, s2, s3, s4, s5, s6, s7, s8, s9⟩ := S
  obtain ⟨c1, c2, c3, c4, c5, c6, c7, c8, c9, c10, c11, c12⟩ := id C0.1
  have hi : i < h.2 := s7 _ (List.mem_cons_of_mem _ List.mem_cons_self) i rfl
  refine va_lald (D := g.1) (cl := vwCl) c1 c2 c10 s1 i 1 (cA := g.2.1 1) (n := N) (f := f) ?_ rfl hin hd ?_
  · rw [q_ws_get hi, hh]; rfl
  · exact kk p e s m args below meth c H locs cells slots ls g ad0 ad C0 ⟨s1, s2, s3, s4, s5, s6, q_cn (q_wl _ _) (q_tl (q_tl s7)), s8, s9⟩ h1 h2
/-- what is known of a helper -/
def q_mh (hh : List (Nat × Nat × Nat × Nat)) (Z : qM) (n : Nat) : Prop := Cond.codeWith Z.1 Z.2.1 Z.2.2.1 Z.2.2.2 hh ∈ q_W ∧ Cond.initialized Z.1.cls ∈ q_W ∧ (Z.1.cls ≠ "java/lang/invoke/MethodHandle" ∧ Z.1.cls ≠ "java/lang/invoke/VarHandle") ∧ (parseMethodDescriptor Z.1.desc).map (fun d => d.parameters.length) = some n ∧ Z.2.2.1 ≤ 23
theorem q_callH {args : Array Value} {s : State} {Z : qM} {n idx d' mc' ms' : Nat} {own : String} {hh : List (Nat × Nat × Nat × Nat)} (hts : ∀ w ∈ q_W, w.before args s = true) (hZ : q_mh hh Z n) (hl : Cond.methodLink own idx Z.1 ∈ q_W) (hst : Cond.static Z.1 ∈ q_W) (hd : d' + 1 ≤ d) : vx_CSW (q_R d mc ms) s args own idx Z.1 Z.2.1 Z.2.2.1 Z.2.2.2 hh (Cond.codeWith Z.1 Z.2.1 Z.2.2.1 Z.2.2.2 hh :: q_W) (q_R d' mc' ms') mc' ms' n := by
  obtain ⟨z1, z2, z3, z4, z5⟩ := hZ
  refine ⟨⟨rfl, rfl, hd, ?_, pay_in hts (fun w hw => ?_), List.mem_cons_self⟩, hts _ z1, hts _ z2, z3, fun sig hs => ?_, hts _ hl, hts _ hst⟩
  · show 8 + (Z.2.2.1 + 11) + 42 * d' ≤ 42 * d
    omega
  · have h1 : w ∈ q_W := (List.mem_cons.mp hw).elim (fun e => by rw [e]; exact z1) id
    exact ⟨h1, good_of_word (List.mem_filter.mp h1).2⟩
  · rw [hs] at z4
    exact (Option.some.inj z4).symm
theorem k_staticH {hh : List (Nat × Nat × Nat × Nat)} {Z : qM} {n idx d' mc' ms' kc' ks' : Nat} {avs rest : List Value} {QZ : Option Value → qH → Prop} {QXZ : String → qH → Prop} (hd : decode Y.2.1 pc = .ok (.invokestatic idx, 3)) (hZ : q_mh hh Z n) (hl : Cond.methodLink Y.1.cls idx Z.1 ∈ q_W) (hst : Cond.static Z.1 ∈ q_W) (hn : avs.length = n) (he : st = avs.reverse ++ rest) (hr : (rest.map fun v => v.category).sum ≤ 8) (hdd : d' + 1 ≤ d) (hk1 : mc' + kc' ≤ kc) (hk2 : ms' + ks' ≤ ks)
    (hC : q_CtH xN hh l d' Z avs h mc' ms' QZ QXZ) (hx : ∀ E h', ¬ QXZ E h') (k : ∀ (v : Option Value) (h' : qH), QZ v h' → h.2 ≤ h'.2 → q_K (xL b L xs) l d Y mc ms Q QX n0 (pc + 3) lo (v.toList ++ rest) h' kc' ks') : q_K (xL b L xs) l d Y mc ms Q QX n0 pc lo st h kc ks := by
  intro p e s m args below meth c H locs cells slots ls g ad0 ad C0 S h1 h2
  obtain ⟨s1, s2, s3, s4, s5, s6, s7, s8, s9⟩ := S
  obtain ⟨c1, c2, c3, c4, c5, c6, c7, c8, c9, c10, c11, c12⟩ := id C0.1
  obtain ⟨w1, w2⟩ := q_wv_app he s7
  have hxN : xN g s := C0.2.2.2
  rw [he, q_map_rev]
  refine qk_after C0 s4 s5 s6 w2 s8 s9 (vx_runSX (As := avs.map (q_tv g ad)) (nL := Y.2.2.1) ⟨c1, c2, c4, c5, c8⟩ (hC g ad s3 w1) (q_callH c8 hZ hl hst hdd) ⟨fun a U f mk hp => ⟨q_blind g ad avs h a U f mk hp.1, xN.mv (State.WarmedH.refl U) hp.2⟩, fun U hU hW => ⟨⟨rfl, by rw [hU]; exact s1, s2, va_K.moved hW.alike c10, by rw [hU]; exact (c11.kp (fun q a b => s4.2.1 q a b)).mv hW, by rw [hU]; exact Nat.le_trans c12 s4.1⟩, xN.mv hW hxN⟩⟩ rfl (by rw [List.length_map]; exact hn) s5.1 rfl ?_ hd ⟨?_, ?_⟩) hx (by omega) (by omega) k
  · rw [q_cats]
    show 2 * 0 + _ ≤ 8
    omega
  · show cells + mc' ≤ mc
    omega
  · show slots + ms' ≤ ms
    omega
/-- the model's constructor -/
theorem k_specialX {Z : qM} {n idx d' mc' ms' kc' ks' i : Nat} {avs rest : List Value} {QZ : Option Value → qH → Prop} {QXZ : String → qH → Prop} (hd : decode Y.2.1 pc = .ok (.invokespecial idx, 3)) (hZ : q_mt Z n) (hz1 : Z.1.name = "<init>") (hz2 : Z.2.2.2 = none) (hl : Cond.methodLink Y.1.cls idx Z.1 ∈ q_W) (hin : Cond.instanceMethod Z.1 ∈ q_W) (hn : avs.length = n) (he : st = avs.reverse ++ .ref i :: rest) (hr : (rest.map fun v => v.category).sum ≤ 8) (hdd : d' + 1 ≤ d) (hk1 : mc' + kc' ≤ kc) (hk2 : ms' + ks' ≤ ks)
    (hC : q_CtX (va_AOA .int) l d' Z (.ref i :: avs) h mc' ms' QZ QXZ) (hx : ∀ E h', ¬ QXZ E h') (k : ∀ (v : Option Value) (h' : qH), QZ v h' → h.2 ≤ h'.2 → q_K (xL b L xs) l d Y mc ms Q QX n0 (pc + 3) lo (v.toList ++ rest) h' kc' ks') : q_K (xL b L xs) l d Y mc ms Q QX n0 pc lo st h kc ks := by
  intro p e s m args below meth c H locs cells slots ls g ad0 ad C0 S h1 h2
  obtain ⟨s1, s2, s3, s4, s5, s6, s7, s8, s9⟩ := S
  obtain ⟨c1, c2, c3, c4, c5, c6, c7, c8, c9, c10, c11, c12⟩ := id C0.1
  obtain ⟨w1, w2⟩ := q_wv_app he s7
  have hi : i < h.2 := w2 _ List.mem_cons_self i rfl
  have hB := q_callB (mc := mc) (ms := ms) (mc' := mc') (ms' := ms') c8 hZ hl hdd
  rw [hz2] at hB
  have hM := q_met (hC g ad s3 (fun v hv => (List.mem_cons.mp hv).elim (fun q => by rw [q]; exact q_wr hi) (w1 v))) (fun E u t ⟨h', ad', hX, _⟩ => hx E h' hX)
  rw [hz2] at hM
  have hA : va_AOA .int s := C0.2.2.1
  rw [he, q_map_rev]
  refine qk_afterI C0 s4 s5 s6 (q_tl w2) s8 s9 (va_runI (As := avs.map (q_tv g ad)) (nL := Y.2.2.1) (b := ad i) (rest := rest.map (q_tv g ad)) ⟨c1, c2, c4, c5, c8⟩ hM ⟨hB, hz1, c8 _ hin⟩ ⟨fun a U f mk hp => ⟨q_blind g ad (.ref i :: avs) h a U f mk hp.1, va_AOA.moved (State.WarmedH.refl U).alike hp.2⟩, fun U hU hW => ⟨⟨rfl, by rw [hU]; exact s1, s2, va_K.moved hW.alike c10, by rw [hU]; exact (c11.kp (fun q a b => s4.2.1 q a b)).mv hW, by rw [hU]; exact Nat.le_trans c12 s4.1⟩, va_AOA.moved hW.alike hA⟩⟩ rfl (by rw [List.length_map]; exact hn) s5.1 rfl ?_ hd ⟨?_, ?_⟩) (by omega) (by omega) k
  · rw [q_cats]
    show 2 * 0 + _ ≤ 8
    omega
  · show cells + mc' ≤ mc
    omega
  · show slots + ms' ≤ ms
    omega
end QL9
