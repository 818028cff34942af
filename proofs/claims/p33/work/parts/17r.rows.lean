/-! rows for what the law's own methods use: doubles, references returned, rows of rows, calls of a nest mate's static methods -/
section QR9
variable {l : Launch} {d : Nat} {Y : qM} {mc ms : Nat} {Q : Option Value → qH → Prop} {QX : String → qH → Prop} {n0 pc : Nat} {lo : List (Option Value)} {st : List Value} {h : qH} {kc ks : Nat}
theorem j_i2d {a : Int32} (hd : decode Y.2.1 pc = .ok (.i2d, 1)) (k : q_J l d Y mc ms Q QX n0 (pc + 1) lo (.double (FP.i2d a) :: st) h kc ks) : q_J l d Y mc ms Q QX n0 pc lo (.int a :: st) h kc ks :=
  q_pure (fun _ b => q_cn (q_wd _ _) (q_tl b)) (fun p e R s m args below meth c H locs cells slots ls g ad Qf hx hb _ _ _ k => lv_i2d hx hb hd k) k
theorem j_ddiv {a b : UInt64} (hd : decode Y.2.1 pc = .ok (.ddiv, 1)) (hn : vf_n64 (FP.ddiv a b)) (k : q_J l d Y mc ms Q QX n0 (pc + 1) lo (.double (FP.ddiv a b) :: st) h kc ks) : q_J l d Y mc ms Q QX n0 pc lo (.double b :: .double a :: st) h kc ks :=
  q_pure (fun _ b => q_cn (q_wd _ _) (q_tl (q_tl b))) (fun p e R s m args below meth c H locs cells slots ls g ad Qf hx hb _ _ _ k => lv_ddiv hx hb hd hn k) k
theorem j_dconst1 (hd : decode Y.2.1 pc = .ok (.dconst 1, 1)) (k : q_J l d Y mc ms Q QX n0 (pc + 1) lo (.double FP.dconst1 :: st) h kc ks) : q_J l d Y mc ms Q QX n0 pc lo st h kc ks :=
  q_pure (fun _ b => q_cn (q_wd _ _) b) (fun p e R s m args below meth c H locs cells slots ls g ad Qf hx hb _ _ _ k => lv_dconst1 hx hb hd k) k
theorem j_dcmp {a b : UInt64} {op : CmpOp} (hd : decode Y.2.1 pc = .ok (.dcmp op, 1)) (k : q_J l d Y mc ms Q QX n0 (pc + 1) lo (.int (Op.cmpValue (FP.dcmp a b) op) :: st) h kc ks) : q_J l d Y mc ms Q QX n0 pc lo (.double b :: .double a :: st) h kc ks :=
  q_pure (fun _ b => q_cn (q_wi _ _) (q_tl (q_tl b))) (fun p e R s m args below meth c H locs cells slots ls g ad Qf hx hb _ _ _ k => lv_dcmp hx hb hd k) k
theorem j_aload_nF {n : Fin 4} {i : Nat} {z : UInt32} (hd : decode Y.2.1 pc = .ok (.aload_n n, 1)) (hi : (n : Nat) = i) (hl : lo[i]? = some (some (.float z))) (k : q_J l d Y mc ms Q QX n0 (pc + 1) lo (.float z :: st) h kc ks) : q_J l d Y mc ms Q QX n0 pc lo st h kc ks :=
  q_pure (fun _ b => q_cn (fun i hi => by cases hi) b) (fun p e R s m args below meth c H locs cells slots ls g ad Qf hx hb o _ _ k => lv_aload_n hx hb hd hi (o.2.2 _ _ hl) k) k
theorem j_aret {i : Nat} {rt : FieldType} (hd : decode Y.2.1 pc = .ok (.areturn, 1)) (hr : Y.2.2.2 = some rt) (hrt : (∃ n, rt = .object n) ∨ ∃ t, rt = .array t) (hq : Q (some (.ref i)) h) : q_J l d Y mc ms Q QX n0 pc lo [.ref i] h kc ks := by
  intro p e s m args below meth c H locs cells slots ls g ad0 ad C0 S h1 h2
  obtain ⟨s1, s2, s3, s4, s5, s6, s7, s8, s9⟩ := S
  obtain ⟨c1, c2, c3, c4, c5, c6, c7, c8, c9, c10, c11, c12⟩ := id C0
  refine vx_ret (W.widen (k := mc) (n := ms) (by omega) (by omega) ?_)
  exact W.aret (v := .ref (ad i)) c1 c2 (c3.trans hr) hrt (Or.inr ⟨_, rfl⟩) (fun t ht hW => ⟨some (.ref i), h, ad, rfl, hq, s8, s9, (fun w hw => by cases hw; exact s7 _ List.mem_cons_self), s3, by rw [ht]; exact s1, s2, s4.F ht⟩) s4.2.2 hd c6
/-- a row of rows; null stands for none -/
theorem j_aald4 {i N : Nat} {f : Nat → Option Nat} {z : Int32} {v : Value} (hd : decode Y.2.1 pc = .ok (.aaload, 1)) (hh : h.1 i = .inl (4, (N, .inr (.inr (.inr (.inr f)))))) (hin : vp_in z N) (hv : v = match f z.toNatClampNeg with | some j => .ref j | none => .null)
    (kk : q_J l d Y mc ms Q QX n0 (pc + 1) lo (v :: st) h kc ks) : q_J l d Y mc ms Q QX n0 pc lo (.int z :: .ref i :: st) h kc ks := by
  intro p e s m args below meth c H locs cells slots ls g ad0 ad C0 S h1 h2
  obtain ⟨s1, s2, s3, s4, s5, s6, s7, s8, s9⟩ := S
  obtain ⟨c1, c2, c3, c4, c5, c6, c7, c8, c9, c10, c11, c12⟩ := id C0
  have hi : i < h.2 := s7 _ (List.mem_cons_of_mem _ List.mem_cons_self) i rfl
  have hw := s3 i hi
  rw [hh] at hw
  have hlt : z.toNatClampNeg < N := Nat.not_le.mp fun q => hin (Or.inr q)
  have ha : (q_ws g ad h)[i]? = some (ad i, .inl (g.2.1 4, N, .inr (.inr (.inr (.inr (fun k => (f k).map ad)))))) := by rw [q_ws_get hi, hh]; rfl
  have ht : (q_ty g)[4]? = some (g.2.1 4, .array .int) := rfl
  refine W.aald (v := va_rf ((f z.toNatClampNeg).map ad)) (ty := .array .int) c1 c2 (s1 i _ ha) ((c10.2 4 _ ht).1 N (fun j => va_rf ((f j).map ad))) rfl (fun q => by cases q) (by show ¬ (z < 0 ∨ (arrV _ _ _).slots.size ≤ _); rw [arrV_size]; exact hin) (by show (arrV _ _ _).slots[_]? = _; rw [arrV_read _ _ hlt]) rfl rfl hd ?_
  have e9 : va_rf ((f z.toNatClampNeg).map ad) = q_tv g ad v := by
    subst hv
    cases f z.toNatClampNeg <;> rfl
  have hwv : q_wv h.2 v := by
    subst hv
    cases hf : f z.toNatClampNeg with
    | none => exact q_wn _
    | some j => exact q_wr (hw _ _ hf)
  have h9 := kk p e s m args below meth c H locs cells slots ls g ad0 ad C0 ⟨s1, s2, s3, s4, s5, s6, q_cn hwv (q_tl (q_tl s7)), s8, s9⟩ h1 h2
  rw [List.map_cons, ← e9] at h9
  exact h9
theorem q_asg (vm : Vm) (c : ClassId) : vm.assignable c c = true := by
  unfold Vm.assignable
  rw [Vm.assignableAux]
  simp
/-- a row of ints put into a row of rows -/
theorem j_aast4 {i N j M : Nat} {f : Nat → Option Nat} {F : Nat → Int32} {z : Int32} (hd : decode Y.2.1 pc = .ok (.aastore, 1)) (hh : h.1 i = .inl (4, (N, .inr (.inr (.inr (.inr f)))))) (hj : h.1 j = .inl (0, (M, .inl F))) (hin : vp_in z N)
    (kk : q_J l d Y mc ms Q QX n0 (pc + 1) lo st (q_set h i (.inl (4, (N, .inr (.inr (.inr (.inr (va_up f z.toNatClampNeg (some j))))))))) kc ks) : q_J l d Y mc ms Q QX n0 pc lo (.ref j :: .int z :: .ref i :: st) h kc ks := by
  intro p e s m args below meth c H locs cells slots ls g ad0 ad C0 S h1 h2
  obtain ⟨s1, s2, s3, s4, s5, s6, s7, s8, s9⟩ := S
  obtain ⟨c1, c2, c3, c4, c5, c6, c7, c8, c9, c10, c11, c12⟩ := id C0
  have hi : i < h.2 := s7 _ (List.mem_cons_of_mem _ (List.mem_cons_of_mem _ List.mem_cons_self)) i rfl
  have hjj : j < h.2 := s7 _ List.mem_cons_self j rfl
  have hw := s3 i hi
  rw [hh] at hw
  have hlt : z.toNatClampNeg < N := Nat.not_le.mp fun q => hin (Or.inr q)
  have h0 : ¬ z < 0 := fun q => hin (Or.inl q)
  have ha : (q_ws g ad h)[i]? = some (ad i, .inl (g.2.1 4, N, .inr (.inr (.inr (.inr (fun k => (f k).map ad)))))) := by rw [q_ws_get hi, hh]; rfl
  have hb : (q_ws g ad h)[j]? = some (ad j, .inl (g.2.1 0, M, .inl F)) := by rw [q_ws_get hjj, hj]; rfl
  have t4 : (q_ty g)[4]? = some (g.2.1 4, .array .int) := rfl
  have t0 : (q_ty g)[0]? = some (g.2.1 0, .int) := rfl
  obtain ⟨comp, cA, kA, hcomp, hidx, hkA, hkindA, hnameA⟩ := arrayOverA_spec (args := args) (va_AOA.use c11.2.2.2.2.2.2.1)
  have f0 : s.vm.findClass (FieldType.array .int).toString = some (g.2.1 0) := (c10.2 0 _ t0).2
  have f4 : s.vm.findClass ("[" ++ (FieldType.array .int).toString) = some (g.2.1 4) := (c10.2 4 _ t4).2
  have e0 : g.2.1 0 = comp := Option.some.inj (f0.symm.trans hcomp)
  have e4 : g.2.1 4 = cA := Option.some.inj (f4.symm.trans hnameA)
  obtain ⟨kC, hkC, -⟩ := Vm.findClass_spec f0
  refine W.aast (t := .array .int) c1 c2 (s1 i _ ha) (fun q h => by cases h) (fun h => by cases h) (by show s.vm.classes[g.2.1 4]? = some kA; rw [e4]; exact hkA) hkindA rfl (by rw [← e0]; exact hkC) ⟨h0, by show _ < (arrV _ _ _).slots.size; rw [arrV_size]; exact hlt⟩ (s1 j _ hb) (fun q h => by cases h) (kv := kC) (by show s.vm.classes[g.2.1 0]? = some kC; exact hkC) (by show s.vm.assignable (g.2.1 0) comp = true; rw [e0]; exact q_asg _ _) rfl rfl hd fun H1 eH z1 oq => ?_
  have hcell : H1[ad i]? = some (vp_cell (g.2.1 4) (N, .inr (.inr (.inr (.inr (va_up (fun k => (f k).map ad) z.toNatClampNeg (some (ad j)))))))) := by
    rw [eH]
    show some ((vp_cell (g.2.1 4) (N, .inr (.inr (.inr (.inr (fun k => (f k).map ad)))))).setSlot _ _) = _
    rw [vp_cell_q, vp_cell_q, arrV_store]
    congr 2
    funext q
    by_cases hq : q = z.toNatClampNeg
    · subst hq
      simp [updV, va_up, va_rf]
    · simp [updV, va_up, hq]
  have hP1 : va_P g.1 q_cls ((q_ws g ad h).set i (ad i, .inl (g.2.1 4, N, .inr (.inr (.inr (.inr (va_up (fun k => (f k).map ad) z.toNatClampNeg (some (ad j)))))))) ) H1 := s1.set s2 ha hcell oq
  have hD1 : va_D (q_A g) ((q_ws g ad h).set i (ad i, .inl (g.2.1 4, N, .inr (.inr (.inr (.inr (va_up (fun k => (f k).map ad) z.toNatClampNeg (some (ad j)))))))) ) := s2.set ha
  have e8 : va_up (fun k => (f k).map ad) z.toNatClampNeg (some (ad j)) = fun k => ((va_up f z.toNatClampNeg (some j)) k).map ad := by
    funext k
    by_cases e : k = z.toNatClampNeg <;> simp [va_up, e]
  have e9 := q_ws_set (g := g) (ad := ad) (c := .inl (4, (N, .inr (.inr (.inr (.inr (va_up f z.toNatClampNeg (some j)))))))) hi
  rw [e8] at hP1 hD1
  rw [show (q_ws g ad h).set i (ad i, .inl (g.2.1 4, N, .inr (.inr (.inr (.inr (fun k => ((va_up f z.toNatClampNeg (some j)) k).map ad)))))) = _ from e9] at hP1 hD1
  refine kk p e s m args below meth c H1 _ cells slots ls g ad0 ad C0 ⟨hP1, hD1, q_wh_set s3 (fun k x hk => ?_), s4.put z1 oq (s2.2 i _ ha), s5, s6, q_tl (q_tl (q_tl s7)), s8, s9⟩ h1 h2
  by_cases e : k = z.toNatClampNeg
  · simp [va_up, e] at hk
    omega
  · simp [va_up, e] at hk
    exact hw k x hk
/-- new int[n][] -/
theorem j_newA {z : Int32} {N idx : Nat} (hl : Cond.classLink Y.1.cls idx "[I" ∈ q_W) (hd : decode Y.2.1 pc = .ok (.anewarray idx, 3)) (hn : ¬ z < 0) (hN : z.toNatClampNeg = N) (hb : N ≤ 100000) {kc' ks' : Nat} (hk1 : kc' + 1 ≤ kc) (hk2 : ks' + N ≤ ks)
    (k : q_J l d Y mc ms Q QX n0 (pc + 3) lo (.ref h.2 :: st) (q_push h (.inl (4, (N, .inr (.inr (.inr (.inr (fun _ => none)))))))) kc' ks') : q_J l d Y mc ms Q QX n0 pc lo (.int z :: st) h kc ks := by
  subst hN
  intro p e s m args below meth c H locs cells slots ls g ad0 ad C0 S h1 h2
  obtain ⟨s1, s2, s3, s4, s5, s6, s7, s8, s9⟩ := id S
  obtain ⟨c1, c2, c3, c4, c5, c6, c7, c8, c9, c10, c11, c12⟩ := id C0
  have t4 : (q_ty g)[4]? = some (g.2.1 4, .array .int) := rfl
  have f4 : s.vm.findClass ("[" ++ (FieldType.array .int).toString) = some (g.2.1 4) := (c10.2 4 _ t4).2
  refine W.anewA (t := .int) c1 c2 c5 (c8 _ hl) (va_AOA.use c11.2.2.2.2.2.2.1) rfl hd rfl hn (show z.toNatClampNeg * 4 ≤ 536870912 by omega) (show cells + 1 ≤ mc by omega) (show slots + z.toNatClampNeg ≤ ms by omega) fun cA kA comp g1 g2 g3 g4 => ?_
  have hcA : cA = g.2.1 4 := Option.some.inj (g1.symm.trans f4)
  subst hcA
  generalize hH1 : H.push ({ cls := g.2.1 4, slots := Array.replicate z.toNatClampNeg .null, vm := .none } : Cell) = H1
  have z1 : H1.size = H.size + 1 := by rw [← hH1, Array.size_push]
  have e1 : H1[H.size]? = some (arrV (g.2.1 4) z.toNatClampNeg (fun _ => .null)) := by rw [← hH1, Array.getElem?_push_size, ← arrV_new]
  have o1 : ∀ q : Nat, q < H.size → H1[q]? = H[q]? := fun q hq => by rw [← hH1, Array.getElem?_push, if_neg (Nat.ne_of_lt hq)]
  have hk : ∀ (k : Nat) (x : Nat × va_E), (q_ws g ad h)[k]? = some x → H1[x.1]? = H[x.1]? := fun k x hx => o1 x.1 ((s1 k x hx).lt)
  have hP : va_P g.1 q_cls (q_ws g ad h ++ [(H.size, .inl (g.2.1 4, z.toNatClampNeg, .inr (.inr (.inr (.inr (fun _ => none))))))]) H1 := (s1.kept hk).app (fun k x hx => by
    have hz : k < 1 := (List.getElem?_eq_some_iff.mp hx).1
    rw [show k = 0 by omega] at hx
    cases hx
    show H1[H.size]? = some (vp_cell _ _)
    rw [vp_cell_q]
    exact e1)
  have hD : va_D (q_A g) (q_ws g ad h ++ [(H.size, .inl (g.2.1 4, z.toNatClampNeg, .inr (.inr (.inr (.inr (fun _ => none))))))]) := s2.push s1 rfl (Nat.le_trans c12 s4.1)
  have hS : va_S (q_A g) s.heap H1 locs := ⟨Nat.le_trans s4.1 (by omega), fun x h1 h2 => (o1 x (Nat.lt_of_lt_of_le h1 s4.1)).trans (s4.2.1 x h1 h2), s4.2.2⟩
  obtain ⟨S', e8⟩ := q_grown (Y := Y) (cl := .inl (4, (z.toNatClampNeg, .inr (.inr (.inr (.inr (fun _ => none))))))) S (fun k i hk => by cases hk) hP hD hS st (fun v hv => List.mem_cons_of_mem _ hv)
  have h9 := k p e s m args below meth c H1 locs (cells + 1) (slots + z.toNatClampNeg) ls g ad0 (q_up ad h.2 H.size) C0 S' (by omega) (by omega)
  rw [e8] at h9
  exact h9
end QR9
