/-! THE JUDGEMENT over the quiet machine -/
/-- a method: name, bytes, how many locals, what it returns -/
abbrev qM : Type := MethodName × ByteArray × Nat × Option FieldType
def q_sC (k : Nat) : String × String := match k with
  | 0 => ("RoverPlanner", "STEP_X")
  | 1 => ("RoverPlanner", "STEP_Y")
  | 2 => ("RoverPlannerLaw", "SX")
  | _ => ("RoverPlannerLaw", "SY")
def q_dx (j : Nat) : Int32 := match j with
  | 0 => 1
  | 1 => 1
  | 2 => 0
  | 3 => -1
  | 4 => -1
  | 5 => -1
  | 6 => 0
  | _ => 1
def q_dy (j : Nat) : Int32 := match j with
  | 0 => 0
  | 1 => 1
  | 2 => 1
  | 3 => 1
  | 4 => 0
  | 5 => -1
  | 6 => -1
  | _ => -1
def q_sF (k : Nat) : Nat → Int32 := match k with
  | 0 => q_dx
  | 1 => q_dy
  | 2 => q_dx
  | _ => q_dy
def q_str : List (Nat × String) := [(90, "no such rectangle, or a height beyond the limits"), (99, "no such rectangle or roughness"), (111, "no such place or number"), (124, "no such limit"), (151, "no such place"), (156, "no such value or need"), (164, "there are 12 targets"), (175, "no such target or number"), (181, "no such pass"), (184, "there are 6 passes"), (206, "no such capacity or memory"), (212, "there are more data than memory"), (223, "no such number"), (230, "no such piece or number"), (273, "no such activity or number"), (284, "not so many activities"), (286, "one of them fails"), (292, "not so many minutes"), (298, "no such target")]
theorem va_AOA.moved {u U : State} (hvm : u.vm.Alike U.vm) (h : va_AOA .int u) : va_AOA .int U := by
  unfold va_AOA Cond.before Cond.holds at h ⊢
  simp only [Cond.value, beq_iff_eq] at h ⊢
  cases hc : u.vm.findClass (FieldType.array .int).toString with
  | none => simp [hc] at h
  | some comp =>
    simp only [hc, Option.bind_some, Option.bind_eq_some_iff, Option.map_eq_some_iff] at h
    obtain ⟨c, hi, k, hk, hb⟩ := h
    obtain ⟨k', hk', he⟩ := hvm.2.2 _ _ hk
    have hb1 : U.vm.bare = u.vm.bare := by first | exact hvm.bare_eq | exact hvm.bare_eq.symm
    have hi2 := ((va_idx_bare U.vm comp).symm.trans (by rw [hb1])).trans ((va_idx_bare u.vm comp).trans hi)
    have f1 : U.vm.findClass (FieldType.array .int).toString = some comp := by rw [hvm.findClass]; exact hc
    have f2 : U.vm.findClass ("[" ++ (FieldType.array .int).toString) = u.vm.findClass ("[" ++ (FieldType.array .int).toString) := by rw [hvm.findClass]
    rw [f1, Option.bind_some]
    refine (congrArg (fun o : Option Nat => (o.bind (fun c => (U.vm.classes[c]?).map fun (k : Class) => match k.kind with | .array _ ty => decide (ty = FieldType.array .int) && decide (U.vm.findClass ("[" ++ (FieldType.array .int).toString) = some c) | _ => false))) hi2).trans ?_
    rw [Option.bind_some, hk', Option.map_some, he, f2]
    exact congrArg some hb
/-- what stands beside the run's own cells, and stays: the four rows of directions, what a throw reads, the texts, the words -/
def q_St (g : qG) (U : State) (H : Heap) : Prop :=
  (∀ k : Nat, k < 4 → va_Z (q_sC k).1 (q_sC k).2 "[I" (.ref (g.2.2.1 k)) (q_A g) U H ∧ va_T .int (g.2.2.1 k) 8 (fun j => .int (q_sF k j)) (q_A g) U H) ∧
  vx_Zq Bundle.tN "UNASSIGNED_STACK" Bundle.steD (q_A g) U H ∧ vx_Zq Bundle.tN "SUPPRESSED_SENTINEL" Bundle.listD (q_A g) U H ∧
  (∀ q ∈ q_str, ∃ sa : Nat, vk_R "RoverPlanner" q.1 q.2 sa U) ∧ (∀ w ∈ q_N, va_Nw w U) ∧ va_AO "RoverPlanner$Mark" U ∧ va_AOA .int U ∧
  (g.2.2.1 4 < g.2.2.2 ∧ ∃ (L : Nat) (xs : Nat → Int32), L < 2 ^ 31 ∧ va_X (g.2.2.1 4) L xs U H)
theorem q_St.mv {g : qG} {s U : State} {H : Heap} (h : q_St g s H) (hW : s.WarmedH U.vm) : q_St g U H := by
  obtain ⟨h1, h2, h3, h4, h5, h6, h7, h8, L, xs, hL, hX⟩ := h
  refine ⟨fun k hk => ⟨va_Z.moved hW.alike (h1 k hk).1, va_T.moved hW.alike (h1 k hk).2⟩, vx_Zq.moved hW.alike h2, vx_Zq.moved hW.alike h3, fun q hq => ?_, fun w hw => ?_, va_AO.moved hW.alike h6, va_AOA.moved hW.alike h7, h8, L, xs, hL, va_X.moved hW.alike hX⟩
  · obtain ⟨sa, hsa⟩ := h4 q hq
    exact ⟨sa, vk_R.warm hW hsa⟩
  · exact q_nest_warm (List.mem_filter.mp hw).2 hW (h5 w hw)
theorem q_St.kp {g : qG} {s : State} {H H1 : Heap} (h : q_St g s H) (hq : ∀ a : Nat, a < H.size → ¬ q_A g a → H1[a]? = H[a]?) : q_St g s H1 := by
  obtain ⟨h1, h2, h3, h4, h5, h6, h7, h8, L, xs, hL, hX⟩ := h
  exact ⟨fun k hk => ⟨(h1 k hk).1.kept hq, (h1 k hk).2.kept hq⟩, h2.kept hq, h3.kept hq, h4, h5, h6, h7, h8, L, xs, hL, hX.kept (hq _ (hX.elim fun _ q => (Array.getElem?_eq_some_iff.mp q.1).1) (Nat.not_le.mpr h8))⟩
def q_ty (g : qG) : List (ClassId × FieldType) := [(g.2.1 0, .int), (g.2.1 1, .int), (g.2.1 2, .boolean), (g.2.1 3, .object "RoverPlanner$Mark"), (g.2.1 4, .array .int)]
def q_R (d mc ms : Nat) : Room := { frames := d, cells := mc, slots := ms, locals := 42 * d }
def q_Qc (g : qG) (ad0 : Nat → Nat) (n0 : Nat) (Q : Option Value → qH → Prop) : Array Value → State → Outcome → State → Prop := fun _ st o t =>
  ∃ (v : Option Value) (h' : qH) (ad' : Nat → Nat), o = .returned (v.map (q_tv g ad')) ∧ Q v h' ∧ q_ag n0 ad0 ad' ∧ n0 ≤ h'.2 ∧ (∀ w, v = some w → q_wv h'.2 w) ∧ q_wh h' ∧ va_P g.1 q_cls (q_ws g ad' h') t.heap ∧ va_D (q_A g) (q_ws g ad' h') ∧ va_F (q_A g) st t
def q_Xc (g : qG) (ad0 : Nat → Nat) (n0 : Nat) (QX : String → qH → Prop) : String → State → State → Prop := fun E st t =>
  ∃ (h' : qH) (ad' : Nat → Nat), QX E h' ∧ q_ag n0 ad0 ad' ∧ n0 ≤ h'.2 ∧ q_wh h' ∧ va_P g.1 q_cls (q_ws g ad' h') t.heap ∧ va_D (q_A g) (q_ws g ad' h') ∧ va_F (q_A g) st t
def q_Pc (g : qG) (ad : Nat → Nat) (avs : List Value) (h : qH) : Array Value → State → Prop := fun a U =>
  a = (avs.map (q_tv g ad)).toArray ∧ va_P g.1 q_cls (q_ws g ad h) U.heap ∧ va_D (q_A g) (q_ws g ad h) ∧ va_K g.1 q_cls (q_ty g) U ∧ q_St g U U.heap ∧ g.2.2.2 ≤ U.heap.size
/-- Y, called with avs over h at depth d, comes back with Q, or throws with QX; it makes at most mc cells of ms slots -/
def q_Ct (l : Launch) (d : Nat) (Y : qM) (avs : List Value) (h : qH) (mc ms : Nat) (Q : Option Value → qH → Prop) (QX : String → qH → Prop) : Prop :=
  ∀ (g : qG) (ad : Nat → Nat), q_wh h → (∀ v ∈ avs, q_wv h.2 v) →
    vx_Met l Y.1 (Cond.code Y.1 Y.2.1 Y.2.2.1 Y.2.2.2 :: q_W) (q_R d mc ms) (q_Pc g ad avs h) (q_Qc g ad h.2 Q) (q_Xc g ad h.2 QX) mc ms (q_A g)
theorem q_blind (g : qG) (ad : Nat → Nat) (avs : List Value) (h : qH) : FrameBlind (q_Pc g ad avs h) := by
  intro a U f mk hp
  obtain ⟨h1, h2, h3, h4, h5, h6⟩ := hp
  exact ⟨h1, h2, h3, va_K.moved (u := U) (U := U.calling f mk a) (Vm.Alike.refl U.vm) h4, q_St.mv (U := U.calling f mk a) h5 (State.WarmedH.refl U), h6⟩
/-- what a body stands on -/
def q_C (l : Launch) (Y : qM) (g : qG) (p : Program) (s : State) (m : MethodId) (args : Array Value) (meth : Method) (c : Code) : Prop :=
  p.tables.exec = Jvm.exec ∧ c.code = Y.2.1 ∧ meth.sig.returnType = Y.2.2.2 ∧ c.maxLocals = Y.2.2.1 ∧ s.vm.findClass Y.1.cls = some m.cls ∧ meth.locks = false ∧ meth.name = Y.1.name ∧
  (∀ w ∈ q_W, w.before args s = true) ∧ (∀ z ∈ c.exceptionTable.toList, False) ∧ va_K g.1 q_cls (q_ty g) s ∧ q_St g s s.heap ∧ g.2.2.2 ≤ s.heap.size
/-- where it stands -/
def q_S (g : qG) (s : State) (ad0 ad : Nat → Nat) (n0 : Nat) (h : qH) (H : Heap) (locs : List Loc) (ls : Array Slot) (nL : Nat) (lo : List (Option Value)) (st : List Value) : Prop :=
  va_P g.1 q_cls (q_ws g ad h) H ∧ va_D (q_A g) (q_ws g ad h) ∧ q_wh h ∧ va_S (q_A g) s.heap H locs ∧ q_lo g ad ls nL lo ∧ (∀ v, some v ∈ lo → q_wv h.2 v) ∧ (∀ v ∈ st, q_wv h.2 v) ∧ q_ag n0 ad0 ad ∧ n0 ≤ h.2
/-- from here (pc, locals, stack, heap; kc cells of ks slots are left to make) the method comes to its end with Q, or throws with QX -/
def q_J (l : Launch) (d : Nat) (Y : qM) (mc ms : Nat) (Q : Option Value → qH → Prop) (QX : String → qH → Prop) (n0 pc : Nat) (lo : List (Option Value)) (st : List Value) (h : qH) (kc ks : Nat) : Prop :=
  ∀ (p : Program) (e : Env) (s : State) (m : MethodId) (args : Array Value) (below : List Frame) (meth : Method) (c : Code) (H : Heap) (locs : List Loc) (cells slots : Nat) (ls : Array Slot) (g : qG) (ad0 ad : Nat → Nat),
    q_C l Y g p s m args meth c → q_S g s ad0 ad n0 h H locs ls Y.2.2.1 lo st → cells + kc ≤ mc → slots + ks ≤ ms →
    W p l e (q_R d mc ms) s m args below meth c H locs cells slots (vx_MQ below (q_Qc g ad0 n0 Q) (q_Xc g ad0 n0 QX) args s mc ms (q_A g)) (F0 m pc ls (st.map (q_tv g ad)))
theorem q_entry_lo (g : qG) (ad : Nat → Nat) : ∀ (avs : List Value) (k j : Nat) (v : Value), (∀ v ∈ avs, v.category = 1) → (avs.map some)[j]? = some (some v) → (k + j, q_tv g ad v) ∈ lv_args k (avs.map (q_tv g ad))
  | [], k, j, v, _, h => by simp at h
  | a :: l, k, j, v, hc, h => by
    have h1 : (q_tv g ad a).category = 1 := (q_tv_cat g ad a).trans (hc a List.mem_cons_self)
    show _ ∈ (k, q_tv g ad a) :: lv_args (if (q_tv g ad a).category = 2 then k + 2 else k + 1) (l.map (q_tv g ad))
    rw [if_neg (by omega)]
    cases j with
    | zero =>
      simp at h
      subst h
      exact List.mem_cons_self
    | succ i =>
      refine List.mem_cons_of_mem _ ?_
      have h2 := q_entry_lo g ad l (k + 1) i v (fun v hv => hc v (List.mem_cons_of_mem _ hv)) (by simpa using h)
      rwa [show k + 1 + i = k + (i + 1) by omega] at h2
theorem q_sl_len (g : qG) (ad : Nat → Nat) : ∀ (avs : List Value), (∀ v ∈ avs, v.category = 1) → (lg_sl (avs.map (q_tv g ad))).length = avs.length
  | [], _ => rfl
  | a :: l, h => by
    have h1 : (q_tv g ad a).category = 1 := (q_tv_cat g ad a).trans (h a List.mem_cons_self)
    have h2 := q_sl_len g ad l (fun v hv => h v (List.mem_cons_of_mem _ hv))
    unfold lg_sl at h2 ⊢
    rw [List.map_cons, List.flatMap_cons, if_neg (by omega), List.length_append, h2]
    simp; omega
/-- a contract out of the body's walk from its entry -/
theorem q_body {l : Launch} {d : Nat} {Y : qM} {avs : List Value} {h : qH} {mc ms : Nat} {Q : Option Value → qH → Prop} {QX : String → qH → Prop} (hy : plainName Y.1.cls = true) (hc : ∀ v ∈ avs, v.category = 1) (hn : avs.length ≤ Y.2.2.1)
    (k : q_J l d Y mc ms Q QX h.2 0 (avs.map some) [] h mc ms) : q_Ct l d Y avs h mc ms Q QX := by
  intro g ad hw hv
  refine vx_ofW (cc := Y.2.1) (maxL := Y.2.2.1) (ret := Y.2.2.2) hy rfl ?_
  intro p e s m args below meth c s₁ B hml ht hP
  obtain ⟨rfl, hP1, hD1, hK, hSt, hb⟩ := hP
  have hts := atoms_spec (ws := Cond.code Y.1 Y.2.1 Y.2.2.1 Y.2.2.2 :: q_W) B.pre
  have hl := lv_entry (avs.map (q_tv g ad)) (n := Y.2.2.1) (by rw [q_sl_len g ad avs hc]; exact hn)
  rw [lg_entry_eq]
  generalize (lg_sl (avs.map (q_tv g ad)) ++ List.replicate (Y.2.2.1 - (lg_sl (avs.map (q_tv g ad))).length) Slot.unset).toArray = ls at hl ⊢
  refine k p e s m _ below meth c s.heap [] 0 0 ls g ad ad ⟨B.exec, B.bytes, B.returns, hml, findClass_of_methodNamed B.named, B.notSynchronized, (name_of_methodNamed B.named B.method).1, fun w hw => hts w (List.mem_cons_of_mem _ hw), ht, hK, hSt, hb⟩
    ⟨hP1, hD1, hw, va_S.rf, ⟨hl.1, hl.2.1, fun i v hi => ?_⟩, fun v hm => ?_, fun v hm => (nomatch hm), q_ag_rf, Nat.le_refl _⟩ (by omega) (by omega)
  · have h2 := q_entry_lo g ad avs 0 i v hc hi
    rw [Nat.zero_add] at h2
    exact hl.2.2 (i, _) h2
  · obtain ⟨w, hw, e⟩ := List.mem_map.mp hm
    cases e
    exact hv _ hw
section QR
variable {l : Launch} {d : Nat} {Y : qM} {mc ms : Nat} {Q : Option Value → qH → Prop} {QX : String → qH → Prop} {n0 pc : Nat} {lo : List (Option Value)} {st : List Value} {h : qH} {kc ks : Nat}
theorem q_tl {n : Nat} {a : Value} {st : List Value} (h : ∀ v ∈ a :: st, q_wv n v) : ∀ v ∈ st, q_wv n v := fun v hv => h v (List.mem_cons_of_mem _ hv)
theorem q_cn {n : Nat} {a : Value} {st : List Value} (ha : q_wv n a) (h : ∀ v ∈ st, q_wv n v) : ∀ v ∈ a :: st, q_wv n v := fun v hv => (List.mem_cons.mp hv).elim (fun e => by rw [e]; exact ha) (h v)
theorem q_hd {n : Nat} {a : Value} {st : List Value} (h : ∀ v ∈ a :: st, q_wv n v) : q_wv n a := h a List.mem_cons_self
/-- a step that touches the stack alone -/
theorem q_pure {pc' : Nat} {st' : List Value} (hw : (∀ v, some v ∈ lo → q_wv h.2 v) → (∀ v ∈ st, q_wv h.2 v) → ∀ v ∈ st', q_wv h.2 v)
    (hs : ∀ (p : Program) (e : Env) (R : Room) (s : State) (m : MethodId) (args : Array Value) (below : List Frame) (meth : Method) (c : Code) (H : Heap) (locs : List Loc) (cells slots : Nat) (ls : Array Slot) (g : qG) (ad : Nat → Nat) (Qf : State → Prop), p.tables.exec = Jvm.exec → c.code = Y.2.1 → q_lo g ad ls Y.2.2.1 lo → s.vm.findClass Y.1.cls = some m.cls → (∀ w ∈ q_W, w.before args s = true) →
      W p l e R s m args below meth c H locs cells slots Qf (F0 m pc' ls (st'.map (q_tv g ad))) → W p l e R s m args below meth c H locs cells slots Qf (F0 m pc ls (st.map (q_tv g ad))))
    (k : q_J l d Y mc ms Q QX n0 pc' lo st' h kc ks) : q_J l d Y mc ms Q QX n0 pc lo st h kc ks := by
  intro p e s m args below meth c H locs cells slots ls g ad0 ad C S h1 h2
  obtain ⟨s1, s2, s3, s4, s5, s6, s7, s8, s9⟩ := S
  obtain ⟨c1, c2, c3, c4, c5, c6, c7, c8, c9⟩ := id C
  exact hs p e _ s m args below meth c H locs cells slots ls g ad _ c1 c2 s5 c5 c8 (k p e s m args below meth c H locs cells slots ls g ad0 ad C ⟨s1, s2, s3, s4, s5, s6, hw s6 s7, s8, s9⟩ h1 h2)
theorem q_lom {i : Nat} {v : Value} (hl : lo[i]? = some (some v)) : some v ∈ lo := List.mem_of_getElem? hl
theorem j_iconst {n : Int} {v : Int32} (hd : decode Y.2.1 pc = .ok (.iconst n, 1)) (hv : Int32.ofInt n = v) (k : q_J l d Y mc ms Q QX n0 (pc + 1) lo (.int v :: st) h kc ks) : q_J l d Y mc ms Q QX n0 pc lo st h kc ks :=
  q_pure (fun _ b => q_cn (q_wi _ _) b) (fun p e R s m args below meth c H locs cells slots ls g ad Qf hx hb _ _ _ k => lv_iconst hx hb hd hv k) k
theorem j_bipush {n : Int} {v : Int32} (hd : decode Y.2.1 pc = .ok (.bipush n, 2)) (hv : (Int8.ofInt n).toInt32 = v) (k : q_J l d Y mc ms Q QX n0 (pc + 2) lo (.int v :: st) h kc ks) : q_J l d Y mc ms Q QX n0 pc lo st h kc ks :=
  q_pure (fun _ b => q_cn (q_wi _ _) b) (fun p e R s m args below meth c H locs cells slots ls g ad Qf hx hb _ _ _ k => lv_bipush hx hb hd hv k) k
theorem j_sipush {n : Int} {v : Int32} (hd : decode Y.2.1 pc = .ok (.sipush n, 3)) (hv : (Int16.ofInt n).toInt32 = v) (k : q_J l d Y mc ms Q QX n0 (pc + 3) lo (.int v :: st) h kc ks) : q_J l d Y mc ms Q QX n0 pc lo st h kc ks :=
  q_pure (fun _ b => q_cn (q_wi _ _) b) (fun p e R s m args below meth c H locs cells slots ls g ad Qf hx hb _ _ _ k => lv_sipush hx hb hd hv k) k
theorem j_lconst {n : Fin 2} {v : Int64} (hd : decode Y.2.1 pc = .ok (.lconst n, 1)) (hv : Int64.ofNat (n : Nat) = v) (k : q_J l d Y mc ms Q QX n0 (pc + 1) lo (.long v :: st) h kc ks) : q_J l d Y mc ms Q QX n0 pc lo st h kc ks :=
  q_pure (fun _ b => q_cn (q_wl _ _) b) (fun p e R s m args below meth c H locs cells slots ls g ad Qf hx hb _ _ _ k => lv_lconst hx hb hd hv k) k
theorem j_null (hd : decode Y.2.1 pc = .ok (.aconst_null, 1)) (k : q_J l d Y mc ms Q QX n0 (pc + 1) lo (.null :: st) h kc ks) : q_J l d Y mc ms Q QX n0 pc lo st h kc ks :=
  q_pure (fun _ b => q_cn (q_wn _) b) (fun p e R s m args below meth c H locs cells slots ls g ad Qf hx hb _ _ _ k => lv_null hx hb hd k) k
theorem j_ldc {i : Nat} {v : Int32} (hd : decode Y.2.1 pc = .ok (.ldc i, 2)) (hw : Cond.constant Y.1.cls i v ∈ q_W) (k : q_J l d Y mc ms Q QX n0 (pc + 2) lo (.int v :: st) h kc ks) : q_J l d Y mc ms Q QX n0 pc lo st h kc ks :=
  q_pure (fun _ b => q_cn (q_wi _ _) b) (fun p e R s m args below meth c H locs cells slots ls g ad Qf hx hb _ ho hts k => lv_ldc hx hb ho (hts _ hw) hd k) k
theorem j_ldcw {i : Nat} {v : Int32} (hd : decode Y.2.1 pc = .ok (.ldc_w i, 3)) (hw : Cond.constant Y.1.cls i v ∈ q_W) (k : q_J l d Y mc ms Q QX n0 (pc + 3) lo (.int v :: st) h kc ks) : q_J l d Y mc ms Q QX n0 pc lo st h kc ks :=
  q_pure (fun _ b => q_cn (q_wi _ _) b) (fun p e R s m args below meth c H locs cells slots ls g ad Qf hx hb _ ho hts k => lv_ldcw hx hb ho (hts _ hw) hd k) k
theorem j_ldc2 {i : Nat} {v : Int64} (hd : decode Y.2.1 pc = .ok (.ldc2_w i, 3)) (hw : Cond.constantLong Y.1.cls i v ∈ q_W) (k : q_J l d Y mc ms Q QX n0 (pc + 3) lo (.long v :: st) h kc ks) : q_J l d Y mc ms Q QX n0 pc lo st h kc ks :=
  q_pure (fun _ b => q_cn (q_wl _ _) b) (fun p e R s m args below meth c H locs cells slots ls g ad Qf hx hb _ ho hts k => lv_ldc2 hx hb ho (hts _ hw) hd k) k
theorem j_iload_n {n : Fin 4} {i : Nat} {z : Int32} (hd : decode Y.2.1 pc = .ok (.iload_n n, 1)) (hi : (n : Nat) = i) (hl : lo[i]? = some (some (.int z))) (k : q_J l d Y mc ms Q QX n0 (pc + 1) lo (.int z :: st) h kc ks) : q_J l d Y mc ms Q QX n0 pc lo st h kc ks :=
  q_pure (fun _ b => q_cn (q_wi _ _) b) (fun p e R s m args below meth c H locs cells slots ls g ad Qf hx hb o _ _ k => lv_iload_n hx hb hd hi (o.2.2 _ _ hl) k) k
theorem j_iload {i : Nat} {z : Int32} (hd : decode Y.2.1 pc = .ok (.iload i, 2)) (hl : lo[i]? = some (some (.int z))) (k : q_J l d Y mc ms Q QX n0 (pc + 2) lo (.int z :: st) h kc ks) : q_J l d Y mc ms Q QX n0 pc lo st h kc ks :=
  q_pure (fun _ b => q_cn (q_wi _ _) b) (fun p e R s m args below meth c H locs cells slots ls g ad Qf hx hb o _ _ k => lv_iload hx hb hd (o.2.2 _ _ hl) k) k
theorem j_lload_n {n : Fin 4} {i : Nat} {z : Int64} (hd : decode Y.2.1 pc = .ok (.lload_n n, 1)) (hi : (n : Nat) = i) (hl : lo[i]? = some (some (.long z))) (k : q_J l d Y mc ms Q QX n0 (pc + 1) lo (.long z :: st) h kc ks) : q_J l d Y mc ms Q QX n0 pc lo st h kc ks :=
  q_pure (fun _ b => q_cn (q_wl _ _) b) (fun p e R s m args below meth c H locs cells slots ls g ad Qf hx hb o _ _ k => lv_lload_n hx hb hd hi (o.2.2 _ _ hl) k) k
theorem j_lload {i : Nat} {z : Int64} (hd : decode Y.2.1 pc = .ok (.lload i, 2)) (hl : lo[i]? = some (some (.long z))) (k : q_J l d Y mc ms Q QX n0 (pc + 2) lo (.long z :: st) h kc ks) : q_J l d Y mc ms Q QX n0 pc lo st h kc ks :=
  q_pure (fun _ b => q_cn (q_wl _ _) b) (fun p e R s m args below meth c H locs cells slots ls g ad Qf hx hb o _ _ k => lv_lload hx hb hd (o.2.2 _ _ hl) k) k
theorem j_aload_n {n : Fin 4} {i : Nat} {z : Nat} (hd : decode Y.2.1 pc = .ok (.aload_n n, 1)) (hi : (n : Nat) = i) (hl : lo[i]? = some (some (.ref z))) (k : q_J l d Y mc ms Q QX n0 (pc + 1) lo (.ref z :: st) h kc ks) : q_J l d Y mc ms Q QX n0 pc lo st h kc ks :=
  q_pure (fun a b => q_cn (a _ (q_lom hl)) b) (fun p e R s m args below meth c H locs cells slots ls g ad Qf hx hb o _ _ k => lv_aload_n hx hb hd hi (o.2.2 _ _ hl) k) k
theorem j_aload {i : Nat} {z : Nat} (hd : decode Y.2.1 pc = .ok (.aload i, 2)) (hl : lo[i]? = some (some (.ref z))) (k : q_J l d Y mc ms Q QX n0 (pc + 2) lo (.ref z :: st) h kc ks) : q_J l d Y mc ms Q QX n0 pc lo st h kc ks :=
  q_pure (fun a b => q_cn (a _ (q_lom hl)) b) (fun p e R s m args below meth c H locs cells slots ls g ad Qf hx hb o _ _ k => lv_aload hx hb hd (o.2.2 _ _ hl) k) k
theorem j_aload_nN {n : Fin 4} {i : Nat} (hd : decode Y.2.1 pc = .ok (.aload_n n, 1)) (hi : (n : Nat) = i) (hl : lo[i]? = some (some .null)) (k : q_J l d Y mc ms Q QX n0 (pc + 1) lo (.null :: st) h kc ks) : q_J l d Y mc ms Q QX n0 pc lo st h kc ks :=
  q_pure (fun _ b => q_cn (q_wn _) b) (fun p e R s m args below meth c H locs cells slots ls g ad Qf hx hb o _ _ k => lv_aload_nN hx hb hd hi (o.2.2 _ _ hl) k) k
theorem j_iadd {a b : Int32} (hd : decode Y.2.1 pc = .ok (.iadd, 1)) (k : q_J l d Y mc ms Q QX n0 (pc + 1) lo (.int (a + b) :: st) h kc ks) : q_J l d Y mc ms Q QX n0 pc lo (.int b :: .int a :: st) h kc ks :=
  q_pure (fun _ b => q_cn (q_wi _ _) (q_tl (q_tl b))) (fun p e R s m args below meth c H locs cells slots ls g ad Qf hx hb _ _ _ k => lv_iadd hx hb hd k) k
theorem j_isub {a b : Int32} (hd : decode Y.2.1 pc = .ok (.isub, 1)) (k : q_J l d Y mc ms Q QX n0 (pc + 1) lo (.int (a - b) :: st) h kc ks) : q_J l d Y mc ms Q QX n0 pc lo (.int b :: .int a :: st) h kc ks :=
  q_pure (fun _ b => q_cn (q_wi _ _) (q_tl (q_tl b))) (fun p e R s m args below meth c H locs cells slots ls g ad Qf hx hb _ _ _ k => lv_isub hx hb hd k) k
theorem j_imul {a b : Int32} (hd : decode Y.2.1 pc = .ok (.imul, 1)) (k : q_J l d Y mc ms Q QX n0 (pc + 1) lo (.int (a * b) :: st) h kc ks) : q_J l d Y mc ms Q QX n0 pc lo (.int b :: .int a :: st) h kc ks :=
  q_pure (fun _ b => q_cn (q_wi _ _) (q_tl (q_tl b))) (fun p e R s m args below meth c H locs cells slots ls g ad Qf hx hb _ _ _ k => lv_imul hx hb hd k) k
theorem j_iand {a b : Int32} (hd : decode Y.2.1 pc = .ok (.iand, 1)) (k : q_J l d Y mc ms Q QX n0 (pc + 1) lo (.int (a &&& b) :: st) h kc ks) : q_J l d Y mc ms Q QX n0 pc lo (.int b :: .int a :: st) h kc ks :=
  q_pure (fun _ b => q_cn (q_wi _ _) (q_tl (q_tl b))) (fun p e R s m args below meth c H locs cells slots ls g ad Qf hx hb _ _ _ k => lv_iand hx hb hd k) k
theorem j_ior {a b : Int32} (hd : decode Y.2.1 pc = .ok (.ior, 1)) (k : q_J l d Y mc ms Q QX n0 (pc + 1) lo (.int (a ||| b) :: st) h kc ks) : q_J l d Y mc ms Q QX n0 pc lo (.int b :: .int a :: st) h kc ks :=
  q_pure (fun _ b => q_cn (q_wi _ _) (q_tl (q_tl b))) (fun p e R s m args below meth c H locs cells slots ls g ad Qf hx hb _ _ _ k => lv_ior hx hb hd k) k
theorem j_ixor {a b : Int32} (hd : decode Y.2.1 pc = .ok (.ixor, 1)) (k : q_J l d Y mc ms Q QX n0 (pc + 1) lo (.int (a ^^^ b) :: st) h kc ks) : q_J l d Y mc ms Q QX n0 pc lo (.int b :: .int a :: st) h kc ks :=
  q_pure (fun _ b => q_cn (q_wi _ _) (q_tl (q_tl b))) (fun p e R s m args below meth c H locs cells slots ls g ad Qf hx hb _ _ _ k => lv_ixor hx hb hd k) k
theorem j_idiv {a b : Int32} (hd : decode Y.2.1 pc = .ok (.idiv, 1)) (hne : ¬ b = 0) (k : q_J l d Y mc ms Q QX n0 (pc + 1) lo (.int (a / b) :: st) h kc ks) : q_J l d Y mc ms Q QX n0 pc lo (.int b :: .int a :: st) h kc ks :=
  q_pure (fun _ b => q_cn (q_wi _ _) (q_tl (q_tl b))) (fun p e R s m args below meth c H locs cells slots ls g ad Qf hx hb _ _ _ k => lv_idiv hx hb hd hne k) k
theorem j_irem {a b : Int32} (hd : decode Y.2.1 pc = .ok (.irem, 1)) (hne : ¬ b = 0) (k : q_J l d Y mc ms Q QX n0 (pc + 1) lo (.int (a - a / b * b) :: st) h kc ks) : q_J l d Y mc ms Q QX n0 pc lo (.int b :: .int a :: st) h kc ks :=
  q_pure (fun _ b => q_cn (q_wi _ _) (q_tl (q_tl b))) (fun p e R s m args below meth c H locs cells slots ls g ad Qf hx hb _ _ _ k => lv_irem hx hb hd hne k) k
theorem j_ineg {a : Int32} (hd : decode Y.2.1 pc = .ok (.ineg, 1)) (k : q_J l d Y mc ms Q QX n0 (pc + 1) lo (.int (-a) :: st) h kc ks) : q_J l d Y mc ms Q QX n0 pc lo (.int a :: st) h kc ks :=
  q_pure (fun _ b => q_cn (q_wi _ _) (q_tl b)) (fun p e R s m args below meth c H locs cells slots ls g ad Qf hx hb _ _ _ k => lv_ineg hx hb hd k) k
theorem j_ishl {a b : Int32} (hd : decode Y.2.1 pc = .ok (.ishl, 1)) (k : q_J l d Y mc ms Q QX n0 (pc + 1) lo (.int (a <<< (b &&& 31)) :: st) h kc ks) : q_J l d Y mc ms Q QX n0 pc lo (.int b :: .int a :: st) h kc ks :=
  q_pure (fun _ b => q_cn (q_wi _ _) (q_tl (q_tl b))) (fun p e R s m args below meth c H locs cells slots ls g ad Qf hx hb _ _ _ k => lv_ishl hx hb hd k) k
theorem j_ishr {a b : Int32} (hd : decode Y.2.1 pc = .ok (.ishr, 1)) (k : q_J l d Y mc ms Q QX n0 (pc + 1) lo (.int (a >>> (b &&& 31)) :: st) h kc ks) : q_J l d Y mc ms Q QX n0 pc lo (.int b :: .int a :: st) h kc ks :=
  q_pure (fun _ b => q_cn (q_wi _ _) (q_tl (q_tl b))) (fun p e R s m args below meth c H locs cells slots ls g ad Qf hx hb _ _ _ k => lv_ishr hx hb hd k) k
theorem j_iushr {a b : Int32} (hd : decode Y.2.1 pc = .ok (.iushr, 1)) (k : q_J l d Y mc ms Q QX n0 (pc + 1) lo (.int (a.toUInt32 >>> (b.toUInt32 &&& Int32.toUInt32 31)).toInt32 :: st) h kc ks) : q_J l d Y mc ms Q QX n0 pc lo (.int b :: .int a :: st) h kc ks :=
  q_pure (fun _ b => q_cn (q_wi _ _) (q_tl (q_tl b))) (fun p e R s m args below meth c H locs cells slots ls g ad Qf hx hb _ _ _ k => lv_iushr hx hb hd rfl k) k
theorem j_ladd {a b : Int64} (hd : decode Y.2.1 pc = .ok (.ladd, 1)) (k : q_J l d Y mc ms Q QX n0 (pc + 1) lo (.long (a + b) :: st) h kc ks) : q_J l d Y mc ms Q QX n0 pc lo (.long b :: .long a :: st) h kc ks :=
  q_pure (fun _ b => q_cn (q_wl _ _) (q_tl (q_tl b))) (fun p e R s m args below meth c H locs cells slots ls g ad Qf hx hb _ _ _ k => lv_ladd hx hb hd k) k
theorem j_lmul {a b : Int64} (hd : decode Y.2.1 pc = .ok (.lmul, 1)) (k : q_J l d Y mc ms Q QX n0 (pc + 1) lo (.long (a * b) :: st) h kc ks) : q_J l d Y mc ms Q QX n0 pc lo (.long b :: .long a :: st) h kc ks :=
  q_pure (fun _ b => q_cn (q_wl _ _) (q_tl (q_tl b))) (fun p e R s m args below meth c H locs cells slots ls g ad Qf hx hb _ _ _ k => lv_lmul hx hb hd k) k
theorem j_i2l {a : Int32} (hd : decode Y.2.1 pc = .ok (.i2l, 1)) (k : q_J l d Y mc ms Q QX n0 (pc + 1) lo (.long a.toInt64 :: st) h kc ks) : q_J l d Y mc ms Q QX n0 pc lo (.int a :: st) h kc ks :=
  q_pure (fun _ b => q_cn (q_wl _ _) (q_tl b)) (fun p e R s m args below meth c H locs cells slots ls g ad Qf hx hb _ _ _ k => lv_i2l hx hb hd rfl k) k
theorem j_l2i {a : Int64} (hd : decode Y.2.1 pc = .ok (.l2i, 1)) (k : q_J l d Y mc ms Q QX n0 (pc + 1) lo (.int a.toInt32 :: st) h kc ks) : q_J l d Y mc ms Q QX n0 pc lo (.long a :: st) h kc ks :=
  q_pure (fun _ b => q_cn (q_wi _ _) (q_tl b)) (fun p e R s m args below meth c H locs cells slots ls g ad Qf hx hb _ _ _ k => lv_l2i hx hb hd rfl k) k
theorem j_lcmp {a b : Int64} (hd : decode Y.2.1 pc = .ok (.lcmp, 1)) (k : q_J l d Y mc ms Q QX n0 (pc + 1) lo (.int (lg_cmp a b) :: st) h kc ks) : q_J l d Y mc ms Q QX n0 pc lo (.long b :: .long a :: st) h kc ks :=
  q_pure (fun _ b => q_cn (q_wi _ _) (q_tl (q_tl b))) (fun p e R s m args below meth c H locs cells slots ls g ad Qf hx hb _ _ _ k => W.lcmp hx hb hd k) k
theorem j_dup {a : Value} (hd : decode Y.2.1 pc = .ok (.dup, 1)) (ha : a.category = 1) (k : q_J l d Y mc ms Q QX n0 (pc + 1) lo (a :: a :: st) h kc ks) : q_J l d Y mc ms Q QX n0 pc lo (a :: st) h kc ks :=
  q_pure (fun _ b => q_cn (q_hd b) b) (fun p e R s m args below meth c H locs cells slots ls g ad Qf hx hb _ _ _ k => lv_dup hx hb hd ((q_tv_cat _ _ _).trans ha) k) k
theorem j_pop {a : Value} (hd : decode Y.2.1 pc = .ok (.pop, 1)) (ha : a.category = 1) (k : q_J l d Y mc ms Q QX n0 (pc + 1) lo st h kc ks) : q_J l d Y mc ms Q QX n0 pc lo (a :: st) h kc ks :=
  q_pure (fun _ b => q_tl b) (fun p e R s m args below meth c H locs cells slots ls g ad Qf hx hb _ _ _ k => lv_pop hx hb hd ((q_tv_cat _ _ _).trans ha) k) k
theorem j_dup2 {a b : Value} (hd : decode Y.2.1 pc = .ok (.dup2, 1)) (ha : a.category = 1) (hb' : b.category = 1) (k : q_J l d Y mc ms Q QX n0 (pc + 1) lo (a :: b :: a :: b :: st) h kc ks) : q_J l d Y mc ms Q QX n0 pc lo (a :: b :: st) h kc ks :=
  q_pure (fun _ w => q_cn (q_hd w) (q_cn (q_hd (q_tl w)) w)) (fun p e R s m args below meth c H locs cells slots ls g ad Qf hx hb _ _ _ k => lv_dup2_11 hx hb hd ((q_tv_cat _ _ _).trans ha) ((q_tv_cat _ _ _).trans hb') k) k
theorem j_goto {off : Int} {tgt : Nat} (hd : decode Y.2.1 pc = .ok (.goto off, 3)) (ht : (pc : Int) + off = (tgt : Int)) (k : q_J l d Y mc ms Q QX n0 tgt lo st h kc ks) : q_J l d Y mc ms Q QX n0 pc lo st h kc ks :=
  q_pure (fun _ b => b) (fun p e R s m args below meth c H locs cells slots ls g ad Qf hx hb _ _ _ k => lv_goto hx hb hd ht k) k
theorem j_ifnull {i : Nat} {off : Int} (hd : decode Y.2.1 pc = .ok (.ifnull off, 3)) (k : q_J l d Y mc ms Q QX n0 (pc + 3) lo st h kc ks) : q_J l d Y mc ms Q QX n0 pc lo (.ref i :: st) h kc ks :=
  q_pure (fun _ b => q_tl b) (fun p e R s m args below meth c H locs cells slots ls g ad Qf hx hb _ _ _ k => lv_ifnull hx hb hd k) k
theorem j_ifnullN {off : Int} {tgt : Nat} (hd : decode Y.2.1 pc = .ok (.ifnull off, 3)) (ht : (pc : Int) + off = (tgt : Int)) (k : q_J l d Y mc ms Q QX n0 tgt lo st h kc ks) : q_J l d Y mc ms Q QX n0 pc lo (.null :: st) h kc ks :=
  q_pure (fun _ b => q_tl b) (fun p e R s m args below meth c H locs cells slots ls g ad Qf hx hb _ _ _ k => lv_ifnullN hx hb hd ht k) k
theorem j_ifnonnull {i : Nat} {off : Int} {tgt : Nat} (hd : decode Y.2.1 pc = .ok (.ifnonnull off, 3)) (ht : (pc : Int) + off = (tgt : Int)) (k : q_J l d Y mc ms Q QX n0 tgt lo st h kc ks) : q_J l d Y mc ms Q QX n0 pc lo (.ref i :: st) h kc ks :=
  q_pure (fun _ b => q_tl b) (fun p e R s m args below meth c H locs cells slots ls g ad Qf hx hb _ _ _ k => lv_ifnonnull hx hb hd ht k) k
theorem j_ifnonnullN {off : Int} (hd : decode Y.2.1 pc = .ok (.ifnonnull off, 3)) (k : q_J l d Y mc ms Q QX n0 (pc + 3) lo st h kc ks) : q_J l d Y mc ms Q QX n0 pc lo (.null :: st) h kc ks :=
  q_pure (fun _ b => q_tl b) (fun p e R s m args below meth c H locs cells slots ls g ad Qf hx hb _ _ _ k => lv_ifnonnullN hx hb hd k) k
/-- a branch: two ways on -/
theorem q_two {pc1 pc2 : Nat} {st' : List Value} {cd : Prop} (hw : (∀ v ∈ st, q_wv h.2 v) → ∀ v ∈ st', q_wv h.2 v)
    (hs : ∀ (p : Program) (e : Env) (R : Room) (s : State) (m : MethodId) (args : Array Value) (below : List Frame) (meth : Method) (c : Code) (H : Heap) (locs : List Loc) (cells slots : Nat) (ls : Array Slot) (g : qG) (ad : Nat → Nat) (Qf : State → Prop), p.tables.exec = Jvm.exec → c.code = Y.2.1 →
      (cd → W p l e R s m args below meth c H locs cells slots Qf (F0 m pc1 ls (st'.map (q_tv g ad)))) → (¬ cd → W p l e R s m args below meth c H locs cells slots Qf (F0 m pc2 ls (st'.map (q_tv g ad)))) → W p l e R s m args below meth c H locs cells slots Qf (F0 m pc ls (st.map (q_tv g ad))))
    (k1 : cd → q_J l d Y mc ms Q QX n0 pc1 lo st' h kc ks) (k2 : ¬ cd → q_J l d Y mc ms Q QX n0 pc2 lo st' h kc ks) : q_J l d Y mc ms Q QX n0 pc lo st h kc ks := by
  intro p e s m args below meth c H locs cells slots ls g ad0 ad C S h1 h2
  obtain ⟨s1, s2, s3, s4, s5, s6, s7, s8, s9⟩ := S
  have S' : q_S g s ad0 ad n0 h H locs ls Y.2.2.1 lo st' := ⟨s1, s2, s3, s4, s5, s6, hw s7, s8, s9⟩
  exact hs p e _ s m args below meth c H locs cells slots ls g ad _ C.1 C.2.1 (fun q => k1 q p e s m args below meth c H locs cells slots ls g ad0 ad C S' h1 h2) (fun q => k2 q p e s m args below meth c H locs cells slots ls g ad0 ad C S' h1 h2)
theorem j_icmp_eq {a b : Int32} {off : Int} {tgt : Nat} (hd : decode Y.2.1 pc = .ok (.if_icmp .eq off, 3)) (ht : (pc : Int) + off = (tgt : Int)) (kt : a = b → q_J l d Y mc ms Q QX n0 tgt lo st h kc ks) (kf : ¬ a = b → q_J l d Y mc ms Q QX n0 (pc + 3) lo st h kc ks) : q_J l d Y mc ms Q QX n0 pc lo (.int b :: .int a :: st) h kc ks :=
  q_two (cd := a = b) (fun b => q_tl (q_tl b)) (fun p e R s m args below meth c H locs cells slots ls g ad Qf hx hb k1 k2 => lv_icmp_eq hx hb hd ht k1 k2) kt kf
theorem j_if_eq {a : Int32} {off : Int} {tgt : Nat} (hd : decode Y.2.1 pc = .ok (.ifCond .eq off, 3)) (ht : (pc : Int) + off = (tgt : Int)) (kt : a = 0 → q_J l d Y mc ms Q QX n0 tgt lo st h kc ks) (kf : ¬ a = 0 → q_J l d Y mc ms Q QX n0 (pc + 3) lo st h kc ks) : q_J l d Y mc ms Q QX n0 pc lo (.int a :: st) h kc ks :=
  q_two (cd := a = 0) (fun b => q_tl b) (fun p e R s m args below meth c H locs cells slots ls g ad Qf hx hb k1 k2 => lv_if_eq hx hb hd ht k1 k2) kt kf
theorem j_icmp_ne {a b : Int32} {off : Int} {tgt : Nat} (hd : decode Y.2.1 pc = .ok (.if_icmp .ne off, 3)) (ht : (pc : Int) + off = (tgt : Int)) (kt : ¬ a = b → q_J l d Y mc ms Q QX n0 tgt lo st h kc ks) (kf : a = b → q_J l d Y mc ms Q QX n0 (pc + 3) lo st h kc ks) : q_J l d Y mc ms Q QX n0 pc lo (.int b :: .int a :: st) h kc ks :=
  q_two (cd := a = b) (fun b => q_tl (q_tl b)) (fun p e R s m args below meth c H locs cells slots ls g ad Qf hx hb k1 k2 => lv_icmp_ne hx hb hd ht k2 k1) kf kt
theorem j_if_ne {a : Int32} {off : Int} {tgt : Nat} (hd : decode Y.2.1 pc = .ok (.ifCond .ne off, 3)) (ht : (pc : Int) + off = (tgt : Int)) (kt : ¬ a = 0 → q_J l d Y mc ms Q QX n0 tgt lo st h kc ks) (kf : a = 0 → q_J l d Y mc ms Q QX n0 (pc + 3) lo st h kc ks) : q_J l d Y mc ms Q QX n0 pc lo (.int a :: st) h kc ks :=
  q_two (cd := a = 0) (fun b => q_tl b) (fun p e R s m args below meth c H locs cells slots ls g ad Qf hx hb k1 k2 => lv_if_ne hx hb hd ht k2 k1) kf kt
theorem j_icmp_lt {a b : Int32} {off : Int} {tgt : Nat} (hd : decode Y.2.1 pc = .ok (.if_icmp .lt off, 3)) (ht : (pc : Int) + off = (tgt : Int)) (kt : a < b → q_J l d Y mc ms Q QX n0 tgt lo st h kc ks) (kf : ¬ a < b → q_J l d Y mc ms Q QX n0 (pc + 3) lo st h kc ks) : q_J l d Y mc ms Q QX n0 pc lo (.int b :: .int a :: st) h kc ks :=
  q_two (cd := a < b) (fun b => q_tl (q_tl b)) (fun p e R s m args below meth c H locs cells slots ls g ad Qf hx hb k1 k2 => lv_icmp_lt hx hb hd ht k1 k2) kt kf
theorem j_if_lt {a : Int32} {off : Int} {tgt : Nat} (hd : decode Y.2.1 pc = .ok (.ifCond .lt off, 3)) (ht : (pc : Int) + off = (tgt : Int)) (kt : a < 0 → q_J l d Y mc ms Q QX n0 tgt lo st h kc ks) (kf : ¬ a < 0 → q_J l d Y mc ms Q QX n0 (pc + 3) lo st h kc ks) : q_J l d Y mc ms Q QX n0 pc lo (.int a :: st) h kc ks :=
  q_two (cd := a < 0) (fun b => q_tl b) (fun p e R s m args below meth c H locs cells slots ls g ad Qf hx hb k1 k2 => lv_if_lt hx hb hd ht k1 k2) kt kf
theorem j_icmp_ge {a b : Int32} {off : Int} {tgt : Nat} (hd : decode Y.2.1 pc = .ok (.if_icmp .ge off, 3)) (ht : (pc : Int) + off = (tgt : Int)) (kt : b ≤ a → q_J l d Y mc ms Q QX n0 tgt lo st h kc ks) (kf : ¬ b ≤ a → q_J l d Y mc ms Q QX n0 (pc + 3) lo st h kc ks) : q_J l d Y mc ms Q QX n0 pc lo (.int b :: .int a :: st) h kc ks :=
  q_two (cd := b ≤ a) (fun b => q_tl (q_tl b)) (fun p e R s m args below meth c H locs cells slots ls g ad Qf hx hb k1 k2 => lv_icmp_ge hx hb hd ht k1 k2) kt kf
theorem j_if_ge {a : Int32} {off : Int} {tgt : Nat} (hd : decode Y.2.1 pc = .ok (.ifCond .ge off, 3)) (ht : (pc : Int) + off = (tgt : Int)) (kt : 0 ≤ a → q_J l d Y mc ms Q QX n0 tgt lo st h kc ks) (kf : ¬ 0 ≤ a → q_J l d Y mc ms Q QX n0 (pc + 3) lo st h kc ks) : q_J l d Y mc ms Q QX n0 pc lo (.int a :: st) h kc ks :=
  q_two (cd := 0 ≤ a) (fun b => q_tl b) (fun p e R s m args below meth c H locs cells slots ls g ad Qf hx hb k1 k2 => lv_if_ge hx hb hd ht k1 k2) kt kf
theorem j_icmp_gt {a b : Int32} {off : Int} {tgt : Nat} (hd : decode Y.2.1 pc = .ok (.if_icmp .gt off, 3)) (ht : (pc : Int) + off = (tgt : Int)) (kt : b < a → q_J l d Y mc ms Q QX n0 tgt lo st h kc ks) (kf : ¬ b < a → q_J l d Y mc ms Q QX n0 (pc + 3) lo st h kc ks) : q_J l d Y mc ms Q QX n0 pc lo (.int b :: .int a :: st) h kc ks :=
  q_two (cd := b < a) (fun b => q_tl (q_tl b)) (fun p e R s m args below meth c H locs cells slots ls g ad Qf hx hb k1 k2 => lv_icmp_gt hx hb hd ht k1 k2) kt kf
theorem j_if_gt {a : Int32} {off : Int} {tgt : Nat} (hd : decode Y.2.1 pc = .ok (.ifCond .gt off, 3)) (ht : (pc : Int) + off = (tgt : Int)) (kt : 0 < a → q_J l d Y mc ms Q QX n0 tgt lo st h kc ks) (kf : ¬ 0 < a → q_J l d Y mc ms Q QX n0 (pc + 3) lo st h kc ks) : q_J l d Y mc ms Q QX n0 pc lo (.int a :: st) h kc ks :=
  q_two (cd := 0 < a) (fun b => q_tl b) (fun p e R s m args below meth c H locs cells slots ls g ad Qf hx hb k1 k2 => lv_if_gt hx hb hd ht k1 k2) kt kf
theorem j_icmp_le {a b : Int32} {off : Int} {tgt : Nat} (hd : decode Y.2.1 pc = .ok (.if_icmp .le off, 3)) (ht : (pc : Int) + off = (tgt : Int)) (kt : a ≤ b → q_J l d Y mc ms Q QX n0 tgt lo st h kc ks) (kf : ¬ a ≤ b → q_J l d Y mc ms Q QX n0 (pc + 3) lo st h kc ks) : q_J l d Y mc ms Q QX n0 pc lo (.int b :: .int a :: st) h kc ks :=
  q_two (cd := a ≤ b) (fun b => q_tl (q_tl b)) (fun p e R s m args below meth c H locs cells slots ls g ad Qf hx hb k1 k2 => lv_icmp_le hx hb hd ht k1 k2) kt kf
theorem j_if_le {a : Int32} {off : Int} {tgt : Nat} (hd : decode Y.2.1 pc = .ok (.ifCond .le off, 3)) (ht : (pc : Int) + off = (tgt : Int)) (kt : a ≤ 0 → q_J l d Y mc ms Q QX n0 tgt lo st h kc ks) (kf : ¬ a ≤ 0 → q_J l d Y mc ms Q QX n0 (pc + 3) lo st h kc ks) : q_J l d Y mc ms Q QX n0 pc lo (.int a :: st) h kc ks :=
  q_two (cd := a ≤ 0) (fun b => q_tl b) (fun p e R s m args below meth c H locs cells slots ls g ad Qf hx hb k1 k2 => lv_if_le hx hb hd ht k1 k2) kt kf
theorem j_tableIn {dflt lo0 hi : Int} {offs : Array Int} {len : Nat} {a : Int32} {off : Int} {tgt : Nat} (hd : decode Y.2.1 pc = .ok (.tableswitch dflt lo0 hi offs, len)) (q1 : ¬ a.toInt < lo0) (q2 : ¬ hi < a.toInt) (ho : offs[(a.toInt - lo0).toNat]? = some off) (ht : (pc : Int) + off = (tgt : Int)) (k : q_J l d Y mc ms Q QX n0 tgt lo st h kc ks) : q_J l d Y mc ms Q QX n0 pc lo (.int a :: st) h kc ks :=
  q_pure (fun _ b => q_tl b) (fun p e R s m args below meth c H locs cells slots ls g ad Qf hx hb _ _ _ k => lv_tableIn hx hb hd q1 q2 ho ht k) k
theorem j_tableOut {dflt lo0 hi : Int} {offs : Array Int} {len : Nat} {a : Int32} {tgt : Nat} (hd : decode Y.2.1 pc = .ok (.tableswitch dflt lo0 hi offs, len)) (q1 : a.toInt < lo0 ∨ hi < a.toInt) (ht : (pc : Int) + dflt = (tgt : Int)) (k : q_J l d Y mc ms Q QX n0 tgt lo st h kc ks) : q_J l d Y mc ms Q QX n0 pc lo (.int a :: st) h kc ks :=
  q_pure (fun _ b => q_tl b) (fun p e R s m args below meth c H locs cells slots ls g ad Qf hx hb _ _ _ k => lv_tableOut hx hb hd q1 ht k) k
theorem j_lookup {dflt : Int} {ps : Array (Int × Int)} {len : Nat} {a : Int32} {off : Int} {tgt : Nat} (hd : decode Y.2.1 pc = .ok (.lookupswitch dflt ps, len)) (hp : (ps.toList.zip (ps.toList.drop 1)).all (fun (a, next) => a.1 < next.1) = true) (ho : Op.lookupswitch.offset ps.toList dflt a.toInt = off) (ht : (pc : Int) + off = (tgt : Int)) (k : q_J l d Y mc ms Q QX n0 tgt lo st h kc ks) : q_J l d Y mc ms Q QX n0 pc lo (.int a :: st) h kc ks :=
  q_pure (fun _ b => q_tl b) (fun p e R s m args below meth c H locs cells slots ls g ad Qf hx hb _ _ _ k => lv_lookup hx hb hd hp ho ht k) k
/-- fewer known locals: those where bs says true -/
def q_mk : List Bool → List (Option Value) → List (Option Value)
  | b :: bs, v :: l => (if b then v else none) :: q_mk bs l
  | _, _ => []
theorem q_mk_at : ∀ (bs : List Bool) (lo : List (Option Value)) (i : Nat) (v : Value), (q_mk bs lo)[i]? = some (some v) → lo[i]? = some (some v)
  | [], _, i, v, h => by simp [q_mk] at h
  | _ :: _, [], i, v, h => by simp [q_mk] at h
  | b :: bs, w :: l, 0, v, h => by
    cases b <;> simp_all [q_mk]
  | b :: bs, w :: l, i + 1, v, h => by
    simp only [q_mk, List.getElem?_cons_succ] at h ⊢
    exact q_mk_at bs l i v h
/-- locals are changed -/
theorem q_loc {pc' : Nat} {lo' : List (Option Value)} {st' : List Value} (hw : (∀ v, some v ∈ lo → q_wv h.2 v) → (∀ v ∈ st, q_wv h.2 v) → (∀ v, some v ∈ lo' → q_wv h.2 v) ∧ ∀ v ∈ st', q_wv h.2 v)
    (hs : ∀ (p : Program) (e : Env) (R : Room) (s : State) (m : MethodId) (args : Array Value) (below : List Frame) (meth : Method) (c : Code) (H : Heap) (locs : List Loc) (cells slots : Nat) (ls : Array Slot) (g : qG) (ad : Nat → Nat) (Qf : State → Prop), p.tables.exec = Jvm.exec → c.code = Y.2.1 → q_lo g ad ls Y.2.2.1 lo →
      (∀ ls' : Array Slot, q_lo g ad ls' Y.2.2.1 lo' → W p l e R s m args below meth c H locs cells slots Qf (F0 m pc' ls' (st'.map (q_tv g ad)))) → W p l e R s m args below meth c H locs cells slots Qf (F0 m pc ls (st.map (q_tv g ad))))
    (k : q_J l d Y mc ms Q QX n0 pc' lo' st' h kc ks) : q_J l d Y mc ms Q QX n0 pc lo st h kc ks := by
  intro p e s m args below meth c H locs cells slots ls g ad0 ad C S h1 h2
  obtain ⟨s1, s2, s3, s4, s5, s6, s7, s8, s9⟩ := S
  exact hs p e _ s m args below meth c H locs cells slots ls g ad _ C.1 C.2.1 s5 (fun ls' hl => k p e s m args below meth c H locs cells slots ls' g ad0 ad C ⟨s1, s2, s3, s4, hl, (hw s6 s7).1, (hw s6 s7).2, s8, s9⟩ h1 h2)
theorem q_lset {n i : Nat} {a : Value} {lo : List (Option Value)} (ha : q_wv n a) (hl : ∀ v, some v ∈ lo → q_wv n v) : ∀ v, some v ∈ lo.set i (some a) → q_wv n v := by
  intro v hv
  rcases List.mem_or_eq_of_mem_set hv with h | h
  · exact hl v h
  · cases h; exact ha
theorem q_lset0 {n i : Nat} {lo : List (Option Value)} (hl : ∀ v, some v ∈ lo → q_wv n v) : ∀ v, some v ∈ lo.set i none → q_wv n v := by
  intro v hv
  rcases List.mem_or_eq_of_mem_set hv with h | h
  · exact hl v h
  · cases h
theorem j_mask (bs : List Bool) {lo' : List (Option Value)} (he : q_mk bs lo = lo') (k : q_J l d Y mc ms Q QX n0 pc lo' st h kc ks) : q_J l d Y mc ms Q QX n0 pc lo st h kc ks := by
  subst he
  refine q_loc (fun a b => ⟨fun v hv => ?_, b⟩) (fun p e R s m args below meth c H locs cells slots ls g ad Qf hx hb o k => k ls ⟨o.1, o.2.1, fun i v hi => o.2.2 i v (q_mk_at _ _ _ _ hi)⟩) k
  obtain ⟨i, hi⟩ := List.getElem?_of_mem hv
  exact a v (List.mem_of_getElem? (q_mk_at _ _ _ _ hi))
theorem j_istore_n {n : Fin 4} {i : Nat} {z : Int32} {lo' : List (Option Value)} (hd : decode Y.2.1 pc = .ok (.istore_n n, 1)) (hi : (n : Nat) = i) (hn : i < Y.2.2.1) (ho : q_ok1 lo i = true) (he : lo.set i (some (.int z)) = lo') (k : q_J l d Y mc ms Q QX n0 (pc + 1) lo' st h kc ks) : q_J l d Y mc ms Q QX n0 pc lo (.int z :: st) h kc ks := by
  subst he
  exact q_loc (fun a b => ⟨q_lset (q_wi _ _) a, q_tl b⟩) (fun p e R s m args below meth c H locs cells slots ls g ad Qf hx hb o k => lv_istore_n hx hb hd hi (q_lo_has o) hn rfl (fun ls' hl => k ls' (q_lo_st1 ho hl))) k
theorem j_istore {i : Nat} {z : Int32} {lo' : List (Option Value)} (hd : decode Y.2.1 pc = .ok (.istore i, 2)) (hn : i < Y.2.2.1) (ho : q_ok1 lo i = true) (he : lo.set i (some (.int z)) = lo') (k : q_J l d Y mc ms Q QX n0 (pc + 2) lo' st h kc ks) : q_J l d Y mc ms Q QX n0 pc lo (.int z :: st) h kc ks := by
  subst he
  exact q_loc (fun a b => ⟨q_lset (q_wi _ _) a, q_tl b⟩) (fun p e R s m args below meth c H locs cells slots ls g ad Qf hx hb o k => lv_istore hx hb hd (q_lo_has o) hn rfl (fun ls' hl => k ls' (q_lo_st1 ho hl))) k
theorem j_astore_n {n : Fin 4} {i : Nat} {z : Nat} {lo' : List (Option Value)} (hd : decode Y.2.1 pc = .ok (.astore_n n, 1)) (hi : (n : Nat) = i) (hn : i < Y.2.2.1) (ho : q_ok1 lo i = true) (he : lo.set i (some (.ref z)) = lo') (k : q_J l d Y mc ms Q QX n0 (pc + 1) lo' st h kc ks) : q_J l d Y mc ms Q QX n0 pc lo (.ref z :: st) h kc ks := by
  subst he
  exact q_loc (fun a b => ⟨q_lset (q_hd b) a, q_tl b⟩) (fun p e R s m args below meth c H locs cells slots ls g ad Qf hx hb o k => lv_astore_n hx hb hd hi (q_lo_has o) hn rfl (fun ls' hl => k ls' (q_lo_st1 (v := .ref z) ho hl))) k
theorem j_astore {i : Nat} {z : Nat} {lo' : List (Option Value)} (hd : decode Y.2.1 pc = .ok (.astore i, 2)) (hn : i < Y.2.2.1) (ho : q_ok1 lo i = true) (he : lo.set i (some (.ref z)) = lo') (k : q_J l d Y mc ms Q QX n0 (pc + 2) lo' st h kc ks) : q_J l d Y mc ms Q QX n0 pc lo (.ref z :: st) h kc ks := by
  subst he
  exact q_loc (fun a b => ⟨q_lset (q_hd b) a, q_tl b⟩) (fun p e R s m args below meth c H locs cells slots ls g ad Qf hx hb o k => lv_astore hx hb hd (q_lo_has o) hn rfl (fun ls' hl => k ls' (q_lo_st1 (v := .ref z) ho hl))) k
theorem j_astore_nN {n : Fin 4} {i : Nat} {lo' : List (Option Value)} (hd : decode Y.2.1 pc = .ok (.astore_n n, 1)) (hi : (n : Nat) = i) (hn : i < Y.2.2.1) (ho : q_ok1 lo i = true) (he : lo.set i (some .null) = lo') (k : q_J l d Y mc ms Q QX n0 (pc + 1) lo' st h kc ks) : q_J l d Y mc ms Q QX n0 pc lo (.null :: st) h kc ks := by
  subst he
  exact q_loc (fun a b => ⟨q_lset (q_wn _) a, q_tl b⟩) (fun p e R s m args below meth c H locs cells slots ls g ad Qf hx hb o k => lv_astore_nN hx hb hd hi (q_lo_has o) hn rfl (fun ls' hl => k ls' (q_lo_st1 (v := .null) ho hl))) k
theorem j_lstore_n {n : Fin 4} {i : Nat} {z : Int64} {lo' : List (Option Value)} (hd : decode Y.2.1 pc = .ok (.lstore_n n, 1)) (hi : (n : Nat) = i) (hn : i + 1 < Y.2.2.1) (ho : q_ok1 lo i = true) (he : (lo.set i (some (.long z))).set (i + 1) none = lo') (k : q_J l d Y mc ms Q QX n0 (pc + 1) lo' st h kc ks) : q_J l d Y mc ms Q QX n0 pc lo (.long z :: st) h kc ks := by
  subst he
  exact q_loc (fun a b => ⟨q_lset0 (q_lset (q_wl _ _) a), q_tl b⟩) (fun p e R s m args below meth c H locs cells slots ls g ad Qf hx hb o k => lv_lstore_n hx hb hd hi (q_lo_has o) hn rfl (fun ls' hl => k ls' (q_lo_st2 ho hl))) k
theorem j_lstore {i : Nat} {z : Int64} {lo' : List (Option Value)} (hd : decode Y.2.1 pc = .ok (.lstore i, 2)) (hn : i + 1 < Y.2.2.1) (ho : q_ok1 lo i = true) (he : (lo.set i (some (.long z))).set (i + 1) none = lo') (k : q_J l d Y mc ms Q QX n0 (pc + 2) lo' st h kc ks) : q_J l d Y mc ms Q QX n0 pc lo (.long z :: st) h kc ks := by
  subst he
  exact q_loc (fun a b => ⟨q_lset0 (q_lset (q_wl _ _) a), q_tl b⟩) (fun p e R s m args below meth c H locs cells slots ls g ad Qf hx hb o k => lv_lstore hx hb hd (q_lo_has o) hn rfl (fun ls' hl => k ls' (q_lo_st2 ho hl))) k
theorem j_iinc {i : Nat} {n : Int} {z w : Int32} {lo' : List (Option Value)} (hd : decode Y.2.1 pc = .ok (.iinc i n, 3)) (hl : lo[i]? = some (some (.int z))) (hv : z + Int32.ofInt n = w) (hn : i < Y.2.2.1) (ho : q_ok1 lo i = true) (he : lo.set i (some (.int w)) = lo') (k : q_J l d Y mc ms Q QX n0 (pc + 3) lo' st h kc ks) : q_J l d Y mc ms Q QX n0 pc lo st h kc ks := by
  subst he
  refine q_loc (fun a b => ⟨q_lset (q_wi _ _) a, b⟩) (fun p e R s m args below meth c H locs cells slots ls g ad Qf hx hb o k => ?_) k
  obtain ⟨j, hj⟩ := List.getElem?_of_mem (q_as_mem (g := g) (ad := ad) (lo := lo) (i := i) (w := .int z) |>.mpr ⟨_, hl, rfl⟩)
  exact lv_iinc hx hb hd (q_lo_has o) hj hv hn rfl (fun ls' hl => k ls' (q_lo_st1 ho hl))
end QR
