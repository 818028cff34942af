/-! THE JUDGEMENT of a method with an exception table hh (the law's helpers); the row of such a call by its own exceptions -/
def q_CH (X : qG → State → Prop) (hh : List (Nat × Nat × Nat × Nat)) (l : Launch) (Y : qM) (g : qG) (p : Program) (s : State) (m : MethodId) (args : Array Value) (meth : Method) (c : Code) : Prop :=
  (p.tables.exec = Jvm.exec ∧ c.code = Y.2.1 ∧ meth.sig.returnType = Y.2.2.2 ∧ c.maxLocals = Y.2.2.1 ∧ s.vm.findClass Y.1.cls = some m.cls ∧ meth.locks = false ∧ meth.name = Y.1.name ∧
  (∀ w ∈ q_W, w.before args s = true) ∧ c.exceptionTable.toList = tableOf hh ∧ va_K g.1 vwCl (q_ty g) s ∧ q_St g s s.heap ∧ g.2.2.2 ≤ s.heap.size) ∧ X g s
def q_H (X : qG → State → Prop) (hh : List (Nat × Nat × Nat × Nat)) (l : Launch) (d : Nat) (Y : qM) (mc ms : Nat) (Q : Option Value → qH → Prop) (QX : String → qH → Prop) (n0 pc : Nat) (lo : List (Option Value)) (st : List Value) (h : qH) (kc ks : Nat) : Prop :=
  ∀ (p : Program) (e : Env) (s : State) (m : MethodId) (args : Array Value) (below : List Frame) (meth : Method) (c : Code) (H : Heap) (locs : List Loc) (cells slots : Nat) (ls : Array Slot) (g : qG) (ad0 ad : Nat → Nat),
    q_CH X hh l Y g p s m args meth c → q_S g s ad0 ad n0 h H locs ls Y.2.2.1 lo st → cells + kc ≤ mc → slots + ks ≤ ms →
    W p l e (q_R d mc ms) s m args below meth c H locs cells slots (vx_MQ below (q_Qc g ad0 n0 Q) (q_Xc g ad0 n0 QX) args s mc ms (q_A g)) (F0 m pc ls (st.map (q_tv g ad)))
/-- an exception of the class E is thrown here -/
def q_HX (X : qG → State → Prop) (hh : List (Nat × Nat × Nat × Nat)) (l : Launch) (d : Nat) (Y : qM) (mc ms : Nat) (Q : Option Value → qH → Prop) (QX : String → qH → Prop) (n0 : Nat) (E : String) (pc : Nat) (lo : List (Option Value)) (st : List Value) (h : qH) (kc ks : Nat) : Prop :=
  ∀ (p : Program) (e : Env) (s : State) (m : MethodId) (args : Array Value) (below : List Frame) (meth : Method) (c : Code) (H : Heap) (locs : List Loc) (cells slots : Nat) (ls : Array Slot) (g : qG) (ad0 ad : Nat → Nat) (q : Addr) (ce : Cell),
    q_CH X hh l Y g p s m args meth c → q_S g s ad0 ad n0 h H locs ls Y.2.2.1 lo st → H[q]? = some ce → ce.vm = .none → s.vm.findClass E = some ce.cls → cells + kc ≤ mc → slots + ks ≤ ms →
    vx_W p l e (q_R d mc ms) s m args below meth c H locs cells slots (vx_MQ below (q_Qc g ad0 n0 Q) (q_Xc g ad0 n0 QX) args s mc ms (q_A g)) (F0 m pc ls (st.map (q_tv g ad))) q
def qLS (h : qH) (i : Nat) (z : Int32) (w : Int64) (P : qH → Prop) : Prop := ∃ (N : Nat) (f : Nat → Int64), h.1 i = .inl (1, (N, .inr (.inl f))) ∧ vp_in z N ∧ P (q_set h i (.inl (1, (N, .inr (.inl (vp_updL f z.toNatClampNeg w))))))
def qTR (l : Launch) (d : Nat) (Z : qM) (avs : List Value) (h : qH) (mc ms : Nat) (P : Int32 → qH → Prop) (PX : String → qH → Prop) : Prop := q_Ct l d Z avs h mc ms (fun v h1 => ∃ z : Int32, v = some (.int z) ∧ P z h1) PX
def q_CtH (X : qG → State → Prop) (hh : List (Nat × Nat × Nat × Nat)) (l : Launch) (d : Nat) (Y : qM) (avs : List Value) (h : qH) (mc ms : Nat) (Q : Option Value → qH → Prop) (QX : String → qH → Prop) : Prop :=
  ∀ (g : qG) (ad : Nat → Nat), q_wh h → (∀ v ∈ avs, q_wv h.2 v) →
    vx_Met l Y.1 (Cond.codeWith Y.1 Y.2.1 Y.2.2.1 Y.2.2.2 hh :: q_W) (q_R d mc ms) (fun a U => q_Pc g ad avs h a U ∧ X g U) (q_Qc g ad h.2 Q) (q_Xc g ad h.2 QX) mc ms (q_A g)
/-- which of the three exceptions isn't which -/
def xN (_ : qG) (s : State) : Prop := va_Nc "java/lang/IllegalArgumentException" "java/lang/IndexOutOfBoundsException" s ∧ va_Nc "java/lang/IllegalStateException" "java/lang/IndexOutOfBoundsException" s ∧ va_Nc "java/lang/IllegalStateException" "java/lang/IllegalArgumentException" s
section QH9
variable {X : qG → State → Prop} {hh : List (Nat × Nat × Nat × Nat)} {l : Launch} {d : Nat} {Y : qM} {mc ms : Nat} {Q : Option Value → qH → Prop} {QX : String → qH → Prop} {n0 pc : Nat} {lo : List (Option Value)} {st : List Value} {h : qH} {kc ks : Nat}
theorem hx_pure {pc' : Nat} {st' : List Value} (hw : (∀ v, some v ∈ lo → q_wv h.2 v) → (∀ v ∈ st, q_wv h.2 v) → ∀ v ∈ st', q_wv h.2 v)
    (hs : ∀ (p : Program) (e : Env) (R : Room) (s : State) (m : MethodId) (args : Array Value) (below : List Frame) (meth : Method) (c : Code) (H : Heap) (locs : List Loc) (cells slots : Nat) (ls : Array Slot) (g : qG) (ad : Nat → Nat) (Qf : State → Prop), p.tables.exec = Jvm.exec → c.code = Y.2.1 → q_lo g ad ls Y.2.2.1 lo → s.vm.findClass Y.1.cls = some m.cls → (∀ w ∈ q_W, w.before args s = true) →
      W p l e R s m args below meth c H locs cells slots Qf (F0 m pc' ls (st'.map (q_tv g ad))) → W p l e R s m args below meth c H locs cells slots Qf (F0 m pc ls (st.map (q_tv g ad))))
    (k : q_H X hh l d Y mc ms Q QX n0 pc' lo st' h kc ks) : q_H X hh l d Y mc ms Q QX n0 pc lo st h kc ks := by
  intro p e s m args below meth c H locs cells slots ls g ad0 ad C S h1 h2
  obtain ⟨s1, s2, s3, s4, s5, s6, s7, s8, s9⟩ := S
  obtain ⟨c1, c2, c3, c4, c5, c6, c7, c8, c9⟩ := id C.1
  exact hs p e _ s m args below meth c H locs cells slots ls g ad _ c1 c2 s5 c5 c8 (k p e s m args below meth c H locs cells slots ls g ad0 ad C ⟨s1, s2, s3, s4, s5, s6, hw s6 s7, s8, s9⟩ h1 h2)
theorem hx_iconst {n : Int} {v : Int32} (hd : decode Y.2.1 pc = .ok (.iconst n, 1)) (hv : Int32.ofInt n = v) (k : q_H X hh l d Y mc ms Q QX n0 (pc + 1) lo (.int v :: st) h kc ks) : q_H X hh l d Y mc ms Q QX n0 pc lo st h kc ks :=
  hx_pure (fun _ b => q_cn (q_wi _ _) b) (fun p e R s m args below meth c H locs cells slots ls g ad Qf hx hb _ _ _ k => lv_iconst hx hb hd hv k) k
theorem hx_lconst {n : Fin 2} {v : Int64} (hd : decode Y.2.1 pc = .ok (.lconst n, 1)) (hv : Int64.ofNat (n : Nat) = v) (k : q_H X hh l d Y mc ms Q QX n0 (pc + 1) lo (.long v :: st) h kc ks) : q_H X hh l d Y mc ms Q QX n0 pc lo st h kc ks :=
  hx_pure (fun _ b => q_cn (q_wl _ _) b) (fun p e R s m args below meth c H locs cells slots ls g ad Qf hx hb _ _ _ k => lv_lconst hx hb hd hv k) k
theorem hx_iload_n {n : Fin 4} {i : Nat} {z : Int32} (hd : decode Y.2.1 pc = .ok (.iload_n n, 1)) (hi : (n : Nat) = i) (hl : lo[i]? = some (some (.int z))) (k : q_H X hh l d Y mc ms Q QX n0 (pc + 1) lo (.int z :: st) h kc ks) : q_H X hh l d Y mc ms Q QX n0 pc lo st h kc ks :=
  hx_pure (fun _ b => q_cn (q_wi _ _) b) (fun p e R s m args below meth c H locs cells slots ls g ad Qf hx hb o _ _ k => lv_iload_n hx hb hd hi (o.2.2 _ _ hl) k) k
theorem hx_iload {i : Nat} {z : Int32} (hd : decode Y.2.1 pc = .ok (.iload i, 2)) (hl : lo[i]? = some (some (.int z))) (k : q_H X hh l d Y mc ms Q QX n0 (pc + 2) lo (.int z :: st) h kc ks) : q_H X hh l d Y mc ms Q QX n0 pc lo st h kc ks :=
  hx_pure (fun _ b => q_cn (q_wi _ _) b) (fun p e R s m args below meth c H locs cells slots ls g ad Qf hx hb o _ _ k => lv_iload hx hb hd (o.2.2 _ _ hl) k) k
theorem hx_aload_n {n : Fin 4} {i : Nat} {z : Nat} (hd : decode Y.2.1 pc = .ok (.aload_n n, 1)) (hi : (n : Nat) = i) (hl : lo[i]? = some (some (.ref z))) (k : q_H X hh l d Y mc ms Q QX n0 (pc + 1) lo (.ref z :: st) h kc ks) : q_H X hh l d Y mc ms Q QX n0 pc lo st h kc ks :=
  hx_pure (fun a b => q_cn (a _ (q_lom hl)) b) (fun p e R s m args below meth c H locs cells slots ls g ad Qf hx hb o _ _ k => lv_aload_n hx hb hd hi (o.2.2 _ _ hl) k) k
theorem hx_aload {i : Nat} {z : Nat} (hd : decode Y.2.1 pc = .ok (.aload i, 2)) (hl : lo[i]? = some (some (.ref z))) (k : q_H X hh l d Y mc ms Q QX n0 (pc + 2) lo (.ref z :: st) h kc ks) : q_H X hh l d Y mc ms Q QX n0 pc lo st h kc ks :=
  hx_pure (fun a b => q_cn (a _ (q_lom hl)) b) (fun p e R s m args below meth c H locs cells slots ls g ad Qf hx hb o _ _ k => lv_aload hx hb hd (o.2.2 _ _ hl) k) k
theorem hx_i2l {a : Int32} (hd : decode Y.2.1 pc = .ok (.i2l, 1)) (k : q_H X hh l d Y mc ms Q QX n0 (pc + 1) lo (.long a.toInt64 :: st) h kc ks) : q_H X hh l d Y mc ms Q QX n0 pc lo (.int a :: st) h kc ks :=
  hx_pure (fun _ b => q_cn (q_wl _ _) (q_tl b)) (fun p e R s m args below meth c H locs cells slots ls g ad Qf hx hb _ _ _ k => lv_i2l hx hb hd rfl k) k
theorem hx_goto {off : Int} {tgt : Nat} (hd : decode Y.2.1 pc = .ok (.goto off, 3)) (ht : (pc : Int) + off = (tgt : Int)) (k : q_H X hh l d Y mc ms Q QX n0 tgt lo st h kc ks) : q_H X hh l d Y mc ms Q QX n0 pc lo st h kc ks :=
  hx_pure (fun _ b => b) (fun p e R s m args below meth c H locs cells slots ls g ad Qf hx hb _ _ _ k => lv_goto hx hb hd ht k) k
theorem hx_two {pc1 pc2 : Nat} {st' : List Value} {cd : Prop} (hw : (∀ v ∈ st, q_wv h.2 v) → ∀ v ∈ st', q_wv h.2 v)
    (hs : ∀ (p : Program) (e : Env) (R : Room) (s : State) (m : MethodId) (args : Array Value) (below : List Frame) (meth : Method) (c : Code) (H : Heap) (locs : List Loc) (cells slots : Nat) (ls : Array Slot) (g : qG) (ad : Nat → Nat) (Qf : State → Prop), p.tables.exec = Jvm.exec → c.code = Y.2.1 →
      (cd → W p l e R s m args below meth c H locs cells slots Qf (F0 m pc1 ls (st'.map (q_tv g ad)))) → (¬ cd → W p l e R s m args below meth c H locs cells slots Qf (F0 m pc2 ls (st'.map (q_tv g ad)))) → W p l e R s m args below meth c H locs cells slots Qf (F0 m pc ls (st.map (q_tv g ad))))
    (k1 : cd → q_H X hh l d Y mc ms Q QX n0 pc1 lo st' h kc ks) (k2 : ¬ cd → q_H X hh l d Y mc ms Q QX n0 pc2 lo st' h kc ks) : q_H X hh l d Y mc ms Q QX n0 pc lo st h kc ks := by
  intro p e s m args below meth c H locs cells slots ls g ad0 ad C S h1 h2
  obtain ⟨s1, s2, s3, s4, s5, s6, s7, s8, s9⟩ := S
  have S' : q_S g s ad0 ad n0 h H locs ls Y.2.2.1 lo st' := ⟨s1, s2, s3, s4, s5, s6, hw s7, s8, s9⟩
  exact hs p e _ s m args below meth c H locs cells slots ls g ad _ C.1.1 C.1.2.1 (fun q => k1 q p e s m args below meth c H locs cells slots ls g ad0 ad C S' h1 h2) (fun q => k2 q p e s m args below meth c H locs cells slots ls g ad0 ad C S' h1 h2)
theorem hx_if_eq {a : Int32} {off : Int} {tgt : Nat} (hd : decode Y.2.1 pc = .ok (.ifCond .eq off, 3)) (ht : (pc : Int) + off = (tgt : Int)) (kt : a = 0 → q_H X hh l d Y mc ms Q QX n0 tgt lo st h kc ks) (kf : ¬ a = 0 → q_H X hh l d Y mc ms Q QX n0 (pc + 3) lo st h kc ks) : q_H X hh l d Y mc ms Q QX n0 pc lo (.int a :: st) h kc ks :=
  hx_two (cd := a = 0) (fun b => q_tl b) (fun p e R s m args below meth c H locs cells slots ls g ad Qf hx hb k1 k2 => lv_if_eq hx hb hd ht k1 k2) kt kf
theorem hx_loc {pc' : Nat} {lo' : List (Option Value)} {st' : List Value} (hw : (∀ v, some v ∈ lo → q_wv h.2 v) → (∀ v ∈ st, q_wv h.2 v) → (∀ v, some v ∈ lo' → q_wv h.2 v) ∧ ∀ v ∈ st', q_wv h.2 v)
    (hs : ∀ (p : Program) (e : Env) (R : Room) (s : State) (m : MethodId) (args : Array Value) (below : List Frame) (meth : Method) (c : Code) (H : Heap) (locs : List Loc) (cells slots : Nat) (ls : Array Slot) (g : qG) (ad : Nat → Nat) (Qf : State → Prop), p.tables.exec = Jvm.exec → c.code = Y.2.1 → q_lo g ad ls Y.2.2.1 lo →
      (∀ ls' : Array Slot, q_lo g ad ls' Y.2.2.1 lo' → W p l e R s m args below meth c H locs cells slots Qf (F0 m pc' ls' (st'.map (q_tv g ad)))) → W p l e R s m args below meth c H locs cells slots Qf (F0 m pc ls (st.map (q_tv g ad))))
    (k : q_H X hh l d Y mc ms Q QX n0 pc' lo' st' h kc ks) : q_H X hh l d Y mc ms Q QX n0 pc lo st h kc ks := by
  intro p e s m args below meth c H locs cells slots ls g ad0 ad C S h1 h2
  obtain ⟨s1, s2, s3, s4, s5, s6, s7, s8, s9⟩ := S
  exact hs p e _ s m args below meth c H locs cells slots ls g ad _ C.1.1 C.1.2.1 s5 (fun ls' hl => k p e s m args below meth c H locs cells slots ls' g ad0 ad C ⟨s1, s2, s3, s4, hl, (hw s6 s7).1, (hw s6 s7).2, s8, s9⟩ h1 h2)
theorem hx_mask (bs : List Bool) {lo' : List (Option Value)} (he : q_mk bs lo = lo') (k : q_H X hh l d Y mc ms Q QX n0 pc lo' st h kc ks) : q_H X hh l d Y mc ms Q QX n0 pc lo st h kc ks := by
  subst he
  refine hx_loc (fun a b => ⟨fun v hv => ?_, b⟩) (fun p e R s m args below meth c H locs cells slots ls g ad Qf hx hb o k => k ls ⟨o.1, o.2.1, fun i v hi => o.2.2 i v (q_mk_at _ _ _ _ hi)⟩) k
  obtain ⟨i, hi⟩ := List.getElem?_of_mem hv
  exact a v (List.mem_of_getElem? (q_mk_at _ _ _ _ hi))
theorem hx_iret {z : Int32} (hd : decode Y.2.1 pc = .ok (.ireturn, 1)) (hr : Y.2.2.2 = some .int) (hq : Q (some (.int z)) h) : q_H X hh l d Y mc ms Q QX n0 pc lo [.int z] h kc ks := by
  intro p e s m args below meth c H locs cells slots ls g ad0 ad C0 S h1 h2
  obtain ⟨s1, s2, s3, s4, s5, s6, s7, s8, s9⟩ := S
  obtain ⟨c1, c2, c3, c4, c5, c6, c7, c8, c9, c10, c11, c12⟩ := id C0.1
  refine vx_ret (W.widen (k := mc) (n := ms) (by omega) (by omega) ?_)
  exact W.iret (v := z) c1 c2 (c3.trans hr) (fun t ht hW => ⟨some (.int z), h, ad, rfl, hq, s8, s9, (fun w hw => by cases hw; exact q_wi _ _), s3, by rw [ht]; exact s1, s2, s4.F ht⟩) s4.2.2 hd c6
theorem hx_pad (n : Nat) {lo' : List (Option Value)} (he : lo ++ List.replicate n none = lo') (k : q_H X hh l d Y mc ms Q QX n0 pc lo' st h kc ks) : q_H X hh l d Y mc ms Q QX n0 pc lo st h kc ks := by
  subst he
  refine hx_loc (fun a b => ⟨fun v hv => ?_, b⟩) (fun p e R s m args below meth c H locs cells slots ls g ad Qf hx hb o k => k ls ⟨o.1, o.2.1, fun i v hi => o.2.2 i v ?_⟩) k
  · rcases List.mem_append.mp hv with q | q
    · exact a v q
    · exact absurd (List.eq_of_mem_replicate q) (by simp)
  · by_cases hl : i < lo.length
    · rwa [List.getElem?_append_left hl] at hi
    · rw [List.getElem?_append_right (by omega)] at hi
      have := List.eq_of_mem_replicate (List.mem_of_getElem? hi)
      simp at this
theorem hx_last {i N : Nat} {f : Nat → Int64} {z : Int32} {w : Int64} (hd : decode Y.2.1 pc = .ok (.lastore, 1)) (hh9 : h.1 i = .inl (1, (N, .inr (.inl f)))) (hin : vp_in z N)
    (kk : q_H X hh l d Y mc ms Q QX n0 (pc + 1) lo st (q_set h i (.inl (1, (N, .inr (.inl (vp_updL f z.toNatClampNeg w)))))) kc ks) : q_H X hh l d Y mc ms Q QX n0 pc lo (.long w :: .int z :: .ref i :: st) h kc ks := by
  intro p e s m args below meth c H locs cells slots ls g ad0 ad C0 S h1 h2
  obtain ⟨s1, s2, s3, s4, s5, s6, s7, s8, s9⟩ := S
  obtain ⟨c1, c2, c3, c4, c5, c6, c7, c8, c9, c10, c11, c12⟩ := id C0.1
  have hi : i < h.2 := s7 _ (List.mem_cons_of_mem _ (List.mem_cons_of_mem _ List.mem_cons_self)) i rfl
  refine va_last (D := g.1) (cl := vwCl) c1 c2 c10 s1 s2 s4 i 1 (cA := g.2.1 1) (n := N) (f := f) ?_ rfl hin hd (fun H1 locs1 hP1 hD1 hS1 => ?_)
  · rw [q_ws_get hi, hh9]; rfl
  · have e9 := q_ws_set (g := g) (ad := ad) (c := .inl (1, (N, .inr (.inl (vp_updL f z.toNatClampNeg w))))) hi
    rw [show (q_ws g ad h).set i (ad i, .inl (g.2.1 1, N, .inr (.inl (vp_updL f z.toNatClampNeg w)))) = _ from e9] at hP1 hD1
    exact kk p e s m args below meth c H1 locs1 cells slots ls g ad0 ad C0 ⟨hP1, hD1, q_wh_set s3 trivial, hS1, s5, s6, q_tl (q_tl (q_tl s7)), s8, s9⟩ h1 h2
/-- a virtual call that may throw -/
theorem hx_virtualX {Z : qM} {n idx d' mc' ms' kc' ks' i ci N : Nat} {C : String} {T : u_T} {fs : List Value} {avs rest : List Value} {QZ : Option Value → qH → Prop} {QXZ : String → qH → Prop} (hd : decode Y.2.1 pc = .ok (.invokevirtual idx, 3)) (hZ : q_mt Z n) (hl : Cond.methodLink Y.1.cls idx Z.1 ∈ q_W) (hin : Cond.instanceMethod Z.1 ∈ q_W) (hse : Cond.selects C Z.1 Z.1 ∈ q_W) (hn : avs.length = n) (he : st = avs.reverse ++ .ref i :: rest) (hr : (rest.map fun v => v.category).sum ≤ 8) (hdd : d' + 1 ≤ d) (hk1 : mc' + kc' ≤ kc) (hk2 : ms' + ks' ≤ ks)
    (hc : vwCl[ci]? = some (C, T, N)) (hh9 : h.1 i = .inr (ci, fs))
    (hC : q_Ct l d' Z (.ref i :: avs) h mc' ms' QZ QXZ) (k : ∀ (v : Option Value) (h' : qH), QZ v h' → h.2 ≤ h'.2 → q_H X hh l d Y mc ms Q QX n0 (pc + 3) lo (v.toList ++ rest) h' kc' ks')
    (kx : ∀ (E : String) (h' : qH), QXZ E h' → h.2 ≤ h'.2 → q_HX X hh l d Y mc ms Q QX n0 E pc lo rest h' kc' ks') : q_H X hh l d Y mc ms Q QX n0 pc lo st h kc ks := by
  intro p e s m args below meth c H locs cells slots ls g ad0 ad C0 S h1 h2
  obtain ⟨s1, s2, s3, s4, s5, s6, s7, s8, s9⟩ := S
  obtain ⟨c1, c2, c3, c4, c5, c6, c7, c8, c9, c10, c11, c12⟩ := id C0.1
  obtain ⟨w1, w2⟩ := q_wv_app he s7
  have hi : i < h.2 := w2 _ List.mem_cons_self i rfl
  have w3 : ∀ v ∈ rest, q_wv h.2 v := q_tl w2
  rw [he, q_map_rev]
  have hr9 := vx_runV (p := p) (e := e) (R := q_R d mc ms) (below := below) (meth := meth) (H := H) (locs := locs) (cells := cells) (slots := slots) (g := F0 m pc ls ((avs.map (q_tv g ad)).reverse ++ .ref (ad i) :: rest.map (q_tv g ad))) (C := C) (As := avs.map (q_tv g ad)) (nL := Y.2.2.1) (b := ad i) (rest := rest.map (q_tv g ad)) ⟨c1, c2, c4, c5, c8⟩ (hC g ad s3 (fun v hv => (List.mem_cons.mp hv).elim (fun q => by rw [q]; exact q_wr hi) (w1 v))) ⟨q_callB c8 hZ hl hdd, c8 _ hin, c8 _ hse⟩ ⟨q_blind g ad (.ref i :: avs) h, va_recv c10 s1 (q0 := i) (fs := fs.map (q_tv g ad)) hc (by rw [q_ws_get hi, hh9]; rfl), fun U hU hW => ⟨rfl, by rw [hU]; exact s1, s2, va_K.moved hW.alike c10, by rw [hU]; exact (c11.kp (fun q a b => s4.2.1 q a b)).mv hW, by rw [hU]; exact Nat.le_trans c12 s4.1⟩⟩ rfl (by rw [List.length_map]; exact hn) s5.1 rfl (by rw [q_cats]; show 2 * 0 + _ ≤ 8; omega) hd ⟨by show cells + mc' ≤ mc; omega, by show slots + ms' ≤ ms; omega⟩
  intro T hT X9
  rcases hr9 T hT X9 with ⟨v, st₀, t, T', L, e0, X', hL, e1, e2, ⟨v0, h', ad', hv, hQ, r1, r2, r3, r4, r5, r6, hF⟩, hst⟩ | ⟨q, st₀, t, T', L, E, ce, e0, X', hL, e1, e2, ⟨h', ad', hX, r1, r2, r4, r5, r6, hF⟩, hce, hcv, hcl, hst⟩
  · cases hv
    obtain ⟨k1, k2, k3⟩ := vx_keep e0 e1 s4 (fun q _ z => z) (fun q z => z) hL hF
    have hst2 : (v0.toList ++ rest).map (q_tv g ad') = (v0.map (q_tv g ad')).toList ++ rest.map (q_tv g ad) := by
      rw [List.map_append, q_tvs_ag r1 w3]
      cases v0 <;> rfl
    obtain ⟨t2, a1, b1⟩ := k v0 h' hQ r2 p e s m args below meth c T'.heap (locs ++ L) (cells + mc') (slots + ms') ls g ad0 ad' C0
      ⟨by rw [e1]; exact r5, r6, r4, k3, ⟨s5.1, s5.2.1, fun i w hi => by rw [q_tv_ag r1 (s6 w (List.mem_of_getElem? hi))]; exact s5.2.2 i w hi⟩, fun w hw => q_wv_mono (s6 w hw) r2, fun w hw => by
        rcases List.mem_append.mp hw with hw | hw
        · cases v0 with
          | none => cases hw
          | some x => rw [show w = x by simpa using hw]; exact r3 x rfl
        · exact q_wv_mono (w3 w hw) r2, q_ag_tr s8 r1 s9, Nat.le_trans s9 r2⟩ (by omega) (by omega) T' rfl X'
    rw [hst2] at a1
    exact ⟨t2, hst t2 a1, b1⟩
  · obtain ⟨k1, k2, k3⟩ := vx_keep e0 e1 s4 (fun q _ z => z) (fun q z => z) hL hF
    obtain ⟨t2, a1, b1⟩ := kx E h' hX r2 p e s m args below meth c T'.heap (locs ++ L) (cells + mc') (slots + ms') ls g ad0 ad' q ce C0
      ⟨by rw [e1]; exact r5, r6, r4, k3, ⟨s5.1, s5.2.1, fun i w hi => by rw [q_tv_ag r1 (s6 w (List.mem_of_getElem? hi))]; exact s5.2.2 i w hi⟩, fun w hw => q_wv_mono (s6 w hw) r2, fun w hw => q_wv_mono (w3 w hw) r2, q_ag_tr s8 r1 s9, Nat.le_trans s9 r2⟩ (by rw [e1]; exact hce) hcv hcl (by omega) (by omega) T' rfl X'
    rw [q_tvs_ag r1 w3] at a1
    exact ⟨t2, hst.trans a1, b1⟩
theorem q_lo_st9 {g : qG} {ad : Nat → Nat} {ls : Array Slot} {nL i : Nat} {lo : List (Option Value)} {v : Value} (ho : q_ok1 lo i = true)
    (h : lv_has ls nL ((i, v) :: (q_as g ad lo).filter (fun q => !(q.1 == i) && !(q.1 + 1 == i && q.2.category == 2)))) : q_lo g ad ls nL (lo.set i none) := by
  refine ⟨h.1, h.2.1, fun j w hj => ?_⟩
  by_cases e : j = i
  · subst e
    have hl : j < lo.length := by
      have := (List.getElem?_eq_some_iff.mp hj).1
      rwa [List.length_set] at this
    rw [List.getElem?_set_self hl] at hj
    cases hj
  · rw [List.getElem?_set_ne (Ne.symm e)] at hj
    refine h.2.2 (j, q_tv g ad w) (List.mem_cons_of_mem _ (List.mem_filter.mpr ⟨q_as_mem.mpr ⟨w, hj, rfl⟩, ?_⟩))
    have h2 : ¬ (j + 1 = i ∧ w.category = 2) := by
      rintro ⟨e1, e2⟩
      subst e1
      have := q_ok1_cat ho hj
      omega
    show (!(j == i) && !(j + 1 == i && (q_tv g ad w).category == 2)) = true
    rw [q_tv_cat]
    by_cases e1 : j + 1 = i
    · have : ¬ w.category = 2 := fun q => h2 ⟨e1, q⟩
      simp [e, this]
    · simp [e, e1]
theorem q_lset9 {n i : Nat} {lo : List (Option Value)} (a : ∀ v, some v ∈ lo → q_wv n v) : ∀ v, some v ∈ lo.set i none → q_wv n v := fun v hv => by
  rcases List.mem_or_eq_of_mem_set hv with q | q
  · exact a v q
  · cases q
/-- caught: what follows is the handler behind its first store -/
theorem hx_catch_n {E : String} (pre : List ExceptionTableEntry) (x : ExceptionTableEntry) (suf : List ExceptionTableEntry) {n : Fin 4} {i : Nat} {lo' : List (Option Value)} (hsplit : tableOf hh = pre ++ x :: suf)
    (hpass : ∀ z ∈ pre, z.catchType ≠ 0 ∧ ∃ nm : String, Cond.classLink Y.1.cls z.catchType nm ∈ q_W ∧ ∀ g s, X g s → va_Nc E nm s) (hx : covers x pc = true) (h0 : x.catchType ≠ 0) (hl : Cond.classLink Y.1.cls x.catchType E ∈ q_W) (hcast : Cond.castable E E ∈ q_N)
    (hd : decode Y.2.1 x.handlerPc = .ok (.astore_n n, 1)) (hi : (n : Nat) = i) (hn : i < Y.2.2.1) (ho : q_ok1 lo i = true) (he : lo.set i none = lo') (k : q_H X hh l d Y mc ms Q QX n0 (x.handlerPc + 1) lo' [] h kc ks) : q_HX X hh l d Y mc ms Q QX n0 E pc lo st h kc ks := by
  subst he
  intro p e s m args below meth c H locs cells slots ls g ad0 ad q ce C0 S hce hcv hcl h1 h2
  obtain ⟨s1, s2, s3, s4, s5, s6, s7, s8, s9⟩ := S
  obtain ⟨c1, c2, c3, c4, c5, c6, c7, c8, c9, c10, c11, c12⟩ := id C0.1
  refine vx_catch c5 pre x suf (c9.trans hsplit) (fun z hz => ?_) hx h0 (c8 _ hl) (va_Nw.use rfl (c11.2.2.2.2.1 _ hcast)) hce hcv hcl ?_
  · obtain ⟨z0, nm, z1, z2⟩ := hpass z hz
    exact Or.inr ⟨z0, nm, c8 _ z1, z2 g s C0.2⟩
  · exact lv_astore_n c1 c2 hd hi (q_lo_has s5) hn rfl (fun ls' hl' => k p e s m args below meth c H locs cells slots ls' g ad0 ad C0 ⟨s1, s2, s3, s4, q_lo_st9 ho hl', q_lset9 s6, fun v hv => (nomatch hv), s8, s9⟩ h1 h2)
theorem hx_catch {E : String} (pre : List ExceptionTableEntry) (x : ExceptionTableEntry) (suf : List ExceptionTableEntry) {i : Nat} {lo' : List (Option Value)} (hsplit : tableOf hh = pre ++ x :: suf)
    (hpass : ∀ z ∈ pre, z.catchType ≠ 0 ∧ ∃ nm : String, Cond.classLink Y.1.cls z.catchType nm ∈ q_W ∧ ∀ g s, X g s → va_Nc E nm s) (hx : covers x pc = true) (h0 : x.catchType ≠ 0) (hl : Cond.classLink Y.1.cls x.catchType E ∈ q_W) (hcast : Cond.castable E E ∈ q_N)
    (hd : decode Y.2.1 x.handlerPc = .ok (.astore i, 2)) (hn : i < Y.2.2.1) (ho : q_ok1 lo i = true) (he : lo.set i none = lo') (k : q_H X hh l d Y mc ms Q QX n0 (x.handlerPc + 2) lo' [] h kc ks) : q_HX X hh l d Y mc ms Q QX n0 E pc lo st h kc ks := by
  subst he
  intro p e s m args below meth c H locs cells slots ls g ad0 ad q ce C0 S hce hcv hcl h1 h2
  obtain ⟨s1, s2, s3, s4, s5, s6, s7, s8, s9⟩ := S
  obtain ⟨c1, c2, c3, c4, c5, c6, c7, c8, c9, c10, c11, c12⟩ := id C0.1
  refine vx_catch c5 pre x suf (c9.trans hsplit) (fun z hz => ?_) hx h0 (c8 _ hl) (va_Nw.use rfl (c11.2.2.2.2.1 _ hcast)) hce hcv hcl ?_
  · obtain ⟨z0, nm, z1, z2⟩ := hpass z hz
    exact Or.inr ⟨z0, nm, c8 _ z1, z2 g s C0.2⟩
  · exact lv_astore c1 c2 hd (q_lo_has s5) hn rfl (fun ls' hl' => k p e s m args below meth c H locs cells slots ls' g ad0 ad C0 ⟨s1, s2, s3, s4, q_lo_st9 ho hl', q_lset9 s6, fun v hv => (nomatch hv), s8, s9⟩ h1 h2)
theorem q_bodyH {avs : List Value} (hy : plainName Y.1.cls = true) (hc : ∀ v ∈ avs, v.category = 1) (hn : avs.length ≤ Y.2.2.1)
    (k : q_H X hh l d Y mc ms Q QX h.2 0 (avs.map some) [] h mc ms) : q_CtH X hh l d Y avs h mc ms Q QX := by
  intro g ad hw hv
  refine vx_ofWH (cc := Y.2.1) (maxL := Y.2.2.1) (ret := Y.2.2.2) (hh := hh) hy rfl ?_
  intro p e s m args below meth c s₁ B hml hP
  obtain ⟨⟨rfl, hP1, hD1, hK, hSt, hb⟩, hX⟩ := hP
  have hts := atoms_spec (ws := Cond.codeWith Y.1 Y.2.1 Y.2.2.1 Y.2.2.2 hh :: q_W) B.pre
  have ht : c.exceptionTable.toList = tableOf hh := vx_table (x := Y.1) (y := Y.1) (bytes := Y.2.1) (maxL' := Y.2.2.1) (ret' := Y.2.2.2) B (hts _ List.mem_cons_self)
  have hl := lv_entry (avs.map (q_tv g ad)) (n := Y.2.2.1) (by rw [q_sl_len g ad avs hc]; exact hn)
  rw [lg_entry_eq]
  generalize (lg_sl (avs.map (q_tv g ad)) ++ List.replicate (Y.2.2.1 - (lg_sl (avs.map (q_tv g ad))).length) Slot.unset).toArray = ls at hl ⊢
  refine k p e s m _ below meth c s.heap [] 0 0 ls g ad ad ⟨⟨B.exec, B.bytes, B.returns, hml, findClass_of_methodNamed B.named, B.notSynchronized, (name_of_methodNamed B.named B.method).1, fun w hw => hts w (List.mem_cons_of_mem _ hw), ht, hK, hSt, hb⟩, hX⟩
    ⟨hP1, hD1, hw, va_S.rf, ⟨hl.1, hl.2.1, fun i v hi => ?_⟩, fun v hm => ?_, fun v hm => (nomatch hm), q_ag_rf, Nat.le_refl _⟩ (by omega) (by omega)
  · have h2 := q_entry_lo g ad avs 0 i v hc hi
    rw [Nat.zero_add] at h2
    exact hl.2.2 (i, _) h2
  · obtain ⟨w, hw, e⟩ := List.mem_map.mp hm
    cases e
    exact hv _ hw
end QH9
