section QH
variable {l : Launch} {d : Nat} {Y : qM} {mc ms : Nat} {Q : Option Value → qH → Prop} {QX : String → qH → Prop} {n0 pc : Nat} {lo : List (Option Value)} {st : List Value} {h : qH} {kc ks : Nat}
/-- a class of the world: its place in q_cls, its fields -/
def q_cl (ci : Nat) (C : String) (T : u_T) (N : Nat) : Prop := q_cls[ci]? = some (C, T, N) ∧ ∀ w ∈ u_ws C T N, w ∈ q_W
theorem j_getf {ci k idx i N : Nat} {C : String} {T : u_T} {fs : List Value} {v : Value} (hc : q_cl ci C T N) (hk : k < N) (hl : Cond.fieldLink Y.1.cls idx (T k).1 (T k).2.1 (T k).2.2.1 ∈ q_W) (hd : decode Y.2.1 pc = .ok (.getfield idx, 3)) (hh : h.1 i = .inr (ci, fs)) (hv : fs[k]? = some v)
    (kk : q_J l d Y mc ms Q QX n0 (pc + 3) lo (v :: st) h kc ks) : q_J l d Y mc ms Q QX n0 pc lo (.ref i :: st) h kc ks := by
  intro p e s m args below meth c H locs cells slots ls g ad0 ad C0 S h1 h2
  obtain ⟨s1, s2, s3, s4, s5, s6, s7, s8, s9⟩ := S
  obtain ⟨c1, c2, c3, c4, c5, c6, c7, c8, c9, c10, c11, c12⟩ := id C0
  have hi : i < h.2 := s7 _ List.mem_cons_self i rfl
  have hw := s3 i hi
  rw [hh] at hw
  refine va_get (D := g.1) (ci := ci) (cl := q_cls) (Ts := q_W) (v := q_tv g ad v) c1 c2 c8 hc.2 c5 c10 s1 i (fs := fs.map (q_tv g ad)) ?_ hc.1 k hk (c8 _ hl) (fun x hx => hx) ?_ hd ?_
  · rw [q_ws_get hi, hh]; rfl
  · rw [List.getElem?_map, hv]; rfl
  · exact kk p e s m args below meth c H locs cells slots ls g ad0 ad C0 ⟨s1, s2, s3, s4, s5, s6, q_cn (hw v (List.mem_of_getElem? hv)) (q_tl s7), s8, s9⟩ h1 h2
theorem j_getfN {ci k idx i N : Nat} {C host : String} {T : u_T} {fs : List Value} {v : Value} (hc : q_cl ci C T N) (hk : k < N) (hl : Cond.fieldLinkNest Y.1.cls idx (T k).1 (T k).2.1 (T k).2.2.1 host ∈ q_N) (hd : decode Y.2.1 pc = .ok (.getfield idx, 3)) (hh : h.1 i = .inr (ci, fs)) (hv : fs[k]? = some v)
    (kk : q_J l d Y mc ms Q QX n0 (pc + 3) lo (v :: st) h kc ks) : q_J l d Y mc ms Q QX n0 pc lo (.ref i :: st) h kc ks := by
  intro p e s m args below meth c H locs cells slots ls g ad0 ad C0 S h1 h2
  obtain ⟨s1, s2, s3, s4, s5, s6, s7, s8, s9⟩ := S
  obtain ⟨c1, c2, c3, c4, c5, c6, c7, c8, c9, c10, c11, c12⟩ := id C0
  have hi : i < h.2 := s7 _ List.mem_cons_self i rfl
  have hw := s3 i hi
  rw [hh] at hw
  refine va_getN (D := g.1) (ci := ci) (cl := q_cls) (Ts := q_W) (v := q_tv g ad v) c1 c2 c8 hc.2 c5 c10 s1 i (fs := fs.map (q_tv g ad)) ?_ hc.1 k hk (va_Nw.use rfl (c11.2.2.2.2.1 _ hl)) (fun x hx => hx) ?_ hd ?_
  · rw [q_ws_get hi, hh]; rfl
  · rw [List.getElem?_map, hv]; rfl
  · exact kk p e s m args below meth c H locs cells slots ls g ad0 ad C0 ⟨s1, s2, s3, s4, s5, s6, q_cn (hw v (List.mem_of_getElem? hv)) (q_tl s7), s8, s9⟩ h1 h2
/-- a field that may be written: its type takes the value -/
def q_pf (T : u_T) (N k : Nat) (ty0 : Nat → FieldType) (fin : Bool) : Prop := k < N ∧ (∀ k, k < N → parseFieldDescriptor (T k).2.2.1 = some (ty0 k)) ∧ (∀ a, a < N → ∀ b, b < N → a ≠ b → (T a).2.1 ≠ (T b).2.1) ∧ (T k).2.2.2 = fin
theorem j_put {ci k idx i N : Nat} {C : String} {T : u_T} {ty0 : Nat → FieldType} {fs : List Value} {v : Value} (hc : q_cl ci C T N) (hp : q_pf T N k ty0 false) (hl : Cond.fieldLink Y.1.cls idx (T k).1 (T k).2.1 (T k).2.2.1 ∈ q_W) (hd : decode Y.2.1 pc = .ok (.putfield idx, 3))
    (hn : ∀ (g : qG) (ad : Nat → Nat), narrow (ty0 k) (q_tv g ad v) = q_tv g ad v ∧ fits (ty0 k) (q_tv g ad v) = true) (hh : h.1 i = .inr (ci, fs)) (hlen : k < fs.length)
    (kk : q_J l d Y mc ms Q QX n0 (pc + 3) lo st (q_set h i (.inr (ci, fs.set k v))) kc ks) : q_J l d Y mc ms Q QX n0 pc lo (v :: .ref i :: st) h kc ks := by
  intro p e s m args below meth c H locs cells slots ls g ad0 ad C0 S h1 h2
  obtain ⟨s1, s2, s3, s4, s5, s6, s7, s8, s9⟩ := S
  obtain ⟨c1, c2, c3, c4, c5, c6, c7, c8, c9, c10, c11, c12⟩ := id C0
  have hi : i < h.2 := s7 _ (List.mem_cons_of_mem _ List.mem_cons_self) i rfl
  have hw := s3 i hi
  rw [hh] at hw
  refine va_put (D := g.1) (ci := ci) (cl := q_cls) (Ts := q_W) (v := q_tv g ad v) c1 c2 c8 hc.2 ty0 hp.2.1 hp.2.2.1 c5 c10 s1 s2 s4 i (fs := fs.map (q_tv g ad)) ?_ hc.1 k hp.1 (c8 _ hl) (fun x hx => hx) hp.2.2.2 (hp.2.1 k hp.1) (hn g ad).1 (hn g ad).2 (by rw [List.length_map]; exact hlen) hd (fun H1 locs1 hP1 hD1 hS1 => ?_)
  · rw [q_ws_get hi, hh]; rfl
  · have e9 : ((q_ws g ad h).set i (ad i, .inr (ci, (fs.map (q_tv g ad)).set k (q_tv g ad v)))) = q_ws g ad (q_set h i (.inr (ci, fs.set k v))) := by
      rw [← q_ws_set hi]
      show _ = (q_ws g ad h).set i (ad i, .inr (ci, (fs.set k v).map (q_tv g ad)))
      rw [List.map_set]
    rw [e9] at hP1 hD1
    exact kk p e s m args below meth c H1 locs1 cells slots ls g ad0 ad C0 ⟨hP1, hD1, q_wh_set s3 (fun w hm => (List.mem_or_eq_of_mem_set hm).elim (hw w) (fun q => q ▸ q_hd s7)), hS1, s5, s6, q_tl (q_tl s7), s8, s9⟩ h1 h2
theorem j_putN {ci k idx i N : Nat} {C host : String} {T : u_T} {ty0 : Nat → FieldType} {fs : List Value} {v : Value} (hc : q_cl ci C T N) (hp : q_pf T N k ty0 false) (hl : Cond.fieldLinkNest Y.1.cls idx (T k).1 (T k).2.1 (T k).2.2.1 host ∈ q_N) (hd : decode Y.2.1 pc = .ok (.putfield idx, 3))
    (hn : ∀ (g : qG) (ad : Nat → Nat), narrow (ty0 k) (q_tv g ad v) = q_tv g ad v ∧ fits (ty0 k) (q_tv g ad v) = true) (hh : h.1 i = .inr (ci, fs)) (hlen : k < fs.length)
    (kk : q_J l d Y mc ms Q QX n0 (pc + 3) lo st (q_set h i (.inr (ci, fs.set k v))) kc ks) : q_J l d Y mc ms Q QX n0 pc lo (v :: .ref i :: st) h kc ks := by
  intro p e s m args below meth c H locs cells slots ls g ad0 ad C0 S h1 h2
  obtain ⟨s1, s2, s3, s4, s5, s6, s7, s8, s9⟩ := S
  obtain ⟨c1, c2, c3, c4, c5, c6, c7, c8, c9, c10, c11, c12⟩ := id C0
  have hi : i < h.2 := s7 _ (List.mem_cons_of_mem _ List.mem_cons_self) i rfl
  have hw := s3 i hi
  rw [hh] at hw
  refine va_putN (D := g.1) (ci := ci) (cl := q_cls) (Ts := q_W) (v := q_tv g ad v) c1 c2 c8 hc.2 ty0 hp.2.1 hp.2.2.1 c5 c10 s1 s2 s4 i (fs := fs.map (q_tv g ad)) ?_ hc.1 k hp.1 (va_Nw.use rfl (c11.2.2.2.2.1 _ hl)) (fun x hx => hx) hp.2.2.2 (hp.2.1 k hp.1) (hn g ad).1 (hn g ad).2 (by rw [List.length_map]; exact hlen) hd (fun H1 locs1 hP1 hD1 hS1 => ?_)
  · rw [q_ws_get hi, hh]; rfl
  · have e9 : ((q_ws g ad h).set i (ad i, .inr (ci, (fs.map (q_tv g ad)).set k (q_tv g ad v)))) = q_ws g ad (q_set h i (.inr (ci, fs.set k v))) := by
      rw [← q_ws_set hi]
      show _ = (q_ws g ad h).set i (ad i, .inr (ci, (fs.set k v).map (q_tv g ad)))
      rw [List.map_set]
    rw [e9] at hP1 hD1
    exact kk p e s m args below meth c H1 locs1 cells slots ls g ad0 ad C0 ⟨hP1, hD1, q_wh_set s3 (fun w hm => (List.mem_or_eq_of_mem_set hm).elim (hw w) (fun q => q ▸ q_hd s7)), hS1, s5, s6, q_tl (q_tl s7), s8, s9⟩ h1 h2
theorem j_putF {ci k idx i N : Nat} {C : String} {T : u_T} {ty0 : Nat → FieldType} {fs : List Value} {v : Value} (hc : q_cl ci C T N) (hp : q_pf T N k ty0 true) (hl : Cond.fieldLink Y.1.cls idx (T k).1 (T k).2.1 (T k).2.2.1 ∈ q_W) (hd : decode Y.2.1 pc = .ok (.putfield idx, 3)) (hin : Y.1.name = "<init>") (hdc : (T k).1 = Y.1.cls)
    (hn : ∀ (g : qG) (ad : Nat → Nat), narrow (ty0 k) (q_tv g ad v) = q_tv g ad v ∧ fits (ty0 k) (q_tv g ad v) = true) (hh : h.1 i = .inr (ci, fs)) (hlen : k < fs.length)
    (kk : q_J l d Y mc ms Q QX n0 (pc + 3) lo st (q_set h i (.inr (ci, fs.set k v))) kc ks) : q_J l d Y mc ms Q QX n0 pc lo (v :: .ref i :: st) h kc ks := by
  intro p e s m args below meth c H locs cells slots ls g ad0 ad C0 S h1 h2
  obtain ⟨s1, s2, s3, s4, s5, s6, s7, s8, s9⟩ := S
  obtain ⟨c1, c2, c3, c4, c5, c6, c7, c8, c9, c10, c11, c12⟩ := id C0
  have hi : i < h.2 := s7 _ (List.mem_cons_of_mem _ List.mem_cons_self) i rfl
  have hw := s3 i hi
  rw [hh] at hw
  refine va_putF (D := g.1) (ci := ci) (cl := q_cls) (Ts := q_W) (v := q_tv g ad v) c1 c2 c8 hc.2 ty0 hp.2.1 hp.2.2.1 c5 c10 s1 s2 s4 i (fs := fs.map (q_tv g ad)) ?_ hc.1 k hp.1 (c8 _ hl) (fun x hx => hx) hp.2.2.2 (c7.trans hin) hdc (hp.2.1 k hp.1) (hn g ad).1 (hn g ad).2 (by rw [List.length_map]; exact hlen) hd (fun H1 locs1 hP1 hD1 hS1 => ?_)
  · rw [q_ws_get hi, hh]; rfl
  · have e9 : ((q_ws g ad h).set i (ad i, .inr (ci, (fs.map (q_tv g ad)).set k (q_tv g ad v)))) = q_ws g ad (q_set h i (.inr (ci, fs.set k v))) := by
      rw [← q_ws_set hi]
      show _ = (q_ws g ad h).set i (ad i, .inr (ci, (fs.set k v).map (q_tv g ad)))
      rw [List.map_set]
    rw [e9] at hP1 hD1
    exact kk p e s m args below meth c H1 locs1 cells slots ls g ad0 ad C0 ⟨hP1, hD1, q_wh_set s3 (fun w hm => (List.mem_or_eq_of_mem_set hm).elim (hw w) (fun q => q ▸ q_hd s7)), hS1, s5, s6, q_tl (q_tl s7), s8, s9⟩ h1 h2
theorem q_nI (g : qG) (ad : Nat → Nat) (z : Int32) : narrow .int (q_tv g ad (.int z)) = q_tv g ad (.int z) ∧ fits .int (q_tv g ad (.int z)) = true := ⟨rfl, rfl⟩
theorem q_nZ (g : qG) (ad : Nat → Nat) {z : Int32} (hz : z = 0 ∨ z = 1) : narrow .boolean (q_tv g ad (.int z)) = q_tv g ad (.int z) ∧ fits .boolean (q_tv g ad (.int z)) = true := by
  rcases hz with rfl | rfl
  · show narrow .boolean (.int 0) = .int 0 ∧ fits .boolean (.int 0) = true
    exact ⟨by decide +kernel, by decide +kernel⟩
  · show narrow .boolean (.int 1) = .int 1 ∧ fits .boolean (.int 1) = true
    exact ⟨by decide +kernel, by decide +kernel⟩
/-! arrays -/
theorem j_iald {i N : Nat} {f : Nat → Int32} {z : Int32} (hd : decode Y.2.1 pc = .ok (.iaload, 1)) (hh : h.1 i = .inl (0, (N, .inl f))) (hin : vp_in z N)
    (kk : q_J l d Y mc ms Q QX n0 (pc + 1) lo (.int (f z.toNatClampNeg) :: st) h kc ks) : q_J l d Y mc ms Q QX n0 pc lo (.int z :: .ref i :: st) h kc ks := by
  intro p e s m args below meth c H locs cells slots ls g ad0 ad C0 S h1 h2
  obtain ⟨s1, s2, s3, s4, s5, s6, s7, s8, s9⟩ := S
  obtain ⟨c1, c2, c3, c4, c5, c6, c7, c8, c9, c10, c11, c12⟩ := id C0
  have hi : i < h.2 := s7 _ (List.mem_cons_of_mem _ List.mem_cons_self) i rfl
  refine va_iald (D := g.1) (cl := q_cls) c1 c2 c10 s1 i 0 (cA := g.2.1 0) (n := N) (f := f) ?_ rfl hin hd ?_
  · rw [q_ws_get hi, hh]; rfl
  · exact kk p e s m args below meth c H locs cells slots ls g ad0 ad C0 ⟨s1, s2, s3, s4, s5, s6, q_cn (q_wi _ _) (q_tl (q_tl s7)), s8, s9⟩ h1 h2
theorem j_zald {i N : Nat} {f : Nat → Int32} {z : Int32} (hd : decode Y.2.1 pc = .ok (.baload, 1)) (hh : h.1 i = .inl (2, (N, .inl f))) (hin : vp_in z N)
    (kk : q_J l d Y mc ms Q QX n0 (pc + 1) lo (.int (f z.toNatClampNeg) :: st) h kc ks) : q_J l d Y mc ms Q QX n0 pc lo (.int z :: .ref i :: st) h kc ks := by
  intro p e s m args below meth c H locs cells slots ls g ad0 ad C0 S h1 h2
  obtain ⟨s1, s2, s3, s4, s5, s6, s7, s8, s9⟩ := S
  obtain ⟨c1, c2, c3, c4, c5, c6, c7, c8, c9, c10, c11, c12⟩ := id C0
  have hi : i < h.2 := s7 _ (List.mem_cons_of_mem _ List.mem_cons_self) i rfl
  refine va_zald (D := g.1) (cl := q_cls) c1 c2 c10 s1 i 2 (cA := g.2.1 2) (n := N) (f := f) ?_ rfl hin hd ?_
  · rw [q_ws_get hi, hh]; rfl
  · exact kk p e s m args below meth c H locs cells slots ls g ad0 ad C0 ⟨s1, s2, s3, s4, s5, s6, q_cn (q_wi _ _) (q_tl (q_tl s7)), s8, s9⟩ h1 h2
theorem j_iast {i N : Nat} {f : Nat → Int32} {z w : Int32} (hd : decode Y.2.1 pc = .ok (.iastore, 1)) (hh : h.1 i = .inl (0, (N, .inl f))) (hin : vp_in z N)
    (kk : q_J l d Y mc ms Q QX n0 (pc + 1) lo st (q_set h i (.inl (0, (N, .inl (upd f z.toNatClampNeg w))))) kc ks) : q_J l d Y mc ms Q QX n0 pc lo (.int w :: .int z :: .ref i :: st) h kc ks := by
  intro p e s m args below meth c H locs cells slots ls g ad0 ad C0 S h1 h2
  obtain ⟨s1, s2, s3, s4, s5, s6, s7, s8, s9⟩ := S
  obtain ⟨c1, c2, c3, c4, c5, c6, c7, c8, c9, c10, c11, c12⟩ := id C0
  have hi : i < h.2 := s7 _ (List.mem_cons_of_mem _ (List.mem_cons_of_mem _ List.mem_cons_self)) i rfl
  refine va_iast (D := g.1) (cl := q_cls) c1 c2 c10 s1 s2 s4 i 0 (cA := g.2.1 0) (n := N) (f := f) ?_ rfl hin hd (fun H1 locs1 hP1 hD1 hS1 => ?_)
  · rw [q_ws_get hi, hh]; rfl
  · have e9 := q_ws_set (g := g) (ad := ad) (c := .inl (0, (N, .inl (upd f z.toNatClampNeg w)))) hi
    rw [show (q_ws g ad h).set i (ad i, .inl (g.2.1 0, N, .inl (upd f z.toNatClampNeg w))) = _ from e9] at hP1 hD1
    exact kk p e s m args below meth c H1 locs1 cells slots ls g ad0 ad C0 ⟨hP1, hD1, q_wh_set s3 trivial, hS1, s5, s6, q_tl (q_tl (q_tl s7)), s8, s9⟩ h1 h2
theorem q_narZ {w : Int32} (hw : w = 0 ∨ w = 1) : vp_nar .boolean w = w := by rcases hw with rfl | rfl <;> decide +kernel
theorem j_zast {i N : Nat} {f : Nat → Int32} {z w : Int32} (hd : decode Y.2.1 pc = .ok (.bastore, 1)) (hh : h.1 i = .inl (2, (N, .inl f))) (hin : vp_in z N) (hw : w = 0 ∨ w = 1)
    (kk : q_J l d Y mc ms Q QX n0 (pc + 1) lo st (q_set h i (.inl (2, (N, .inl (upd f z.toNatClampNeg w))))) kc ks) : q_J l d Y mc ms Q QX n0 pc lo (.int w :: .int z :: .ref i :: st) h kc ks := by
  intro p e s m args below meth c H locs cells slots ls g ad0 ad C0 S h1 h2
  obtain ⟨s1, s2, s3, s4, s5, s6, s7, s8, s9⟩ := S
  obtain ⟨c1, c2, c3, c4, c5, c6, c7, c8, c9, c10, c11, c12⟩ := id C0
  have hi : i < h.2 := s7 _ (List.mem_cons_of_mem _ (List.mem_cons_of_mem _ List.mem_cons_self)) i rfl
  refine va_zast (D := g.1) (cl := q_cls) c1 c2 c10 s1 s2 s4 i 2 (cA := g.2.1 2) (n := N) (f := f) ?_ rfl hin hd (fun H1 locs1 hP1 hD1 hS1 => ?_)
  · rw [q_ws_get hi, hh]; rfl
  · have e9 := q_ws_set (g := g) (ad := ad) (c := .inl (2, (N, .inl (upd f z.toNatClampNeg w)))) hi
    rw [q_narZ hw] at hP1 hD1
    rw [show (q_ws g ad h).set i (ad i, .inl (g.2.1 2, N, .inl (upd f z.toNatClampNeg w))) = _ from e9] at hP1 hD1
    exact kk p e s m args below meth c H1 locs1 cells slots ls g ad0 ad C0 ⟨hP1, hD1, q_wh_set s3 trivial, hS1, s5, s6, q_tl (q_tl (q_tl s7)), s8, s9⟩ h1 h2
theorem j_alen {i t0 N : Nat} {x : vp_A} {z : Int32} (hd : decode Y.2.1 pc = .ok (.arraylength, 1)) (hh : h.1 i = .inl (t0, x)) (ht : t0 < 5) (hz : Int32.ofNat x.1 = z)
    (kk : q_J l d Y mc ms Q QX n0 (pc + 1) lo (.int z :: st) h kc ks) : q_J l d Y mc ms Q QX n0 pc lo (.ref i :: st) h kc ks := by
  intro p e s m args below meth c H locs cells slots ls g ad0 ad C0 S h1 h2
  obtain ⟨s1, s2, s3, s4, s5, s6, s7, s8, s9⟩ := S
  obtain ⟨c1, c2, c3, c4, c5, c6, c7, c8, c9, c10, c11, c12⟩ := id C0
  have hi : i < h.2 := s7 _ List.mem_cons_self i rfl
  have hx : (q_ta ad x).1 = x.1 := by
    obtain ⟨N, f | f | f | f | f⟩ := x <;> rfl
  have htt : ∃ ty, (q_ty g)[t0]? = some (g.2.1 t0, ty) := by
    match t0, ht with
    | 0, _ => exact ⟨_, rfl⟩
    | 1, _ => exact ⟨_, rfl⟩
    | 2, _ => exact ⟨_, rfl⟩
    | 3, _ => exact ⟨_, rfl⟩
    | 4, _ => exact ⟨_, rfl⟩
  obtain ⟨ty, hty⟩ := htt
  refine va_alen (D := g.1) (cl := q_cls) (x := q_ta ad x) (v := z) c1 c2 c10 s1 i t0 ?_ hty (by rw [hx]; exact hz) hd ?_
  · rw [q_ws_get hi, hh]; rfl
  · exact kk p e s m args below meth c H locs cells slots ls g ad0 ad C0 ⟨s1, s2, s3, s4, s5, s6, q_cn (q_wi _ _) (q_tl s7), s8, s9⟩ h1 h2
/-- the four rows of directions -/
theorem j_gets {k idx : Nat} (hk : k < 4) (hl : Cond.fieldLink Y.1.cls idx (q_sC k).1 (q_sC k).2 "[I" ∈ q_W) (hd : decode Y.2.1 pc = .ok (.getstatic idx, 3))
    (kk : q_J l d Y mc ms Q QX n0 (pc + 3) lo (.float (UInt32.ofNat k) :: st) h kc ks) : q_J l d Y mc ms Q QX n0 pc lo st h kc ks := by
  intro p e s m args below meth c H locs cells slots ls g ad0 ad C0 S h1 h2
  obtain ⟨s1, s2, s3, s4, s5, s6, s7, s8, s9⟩ := S
  obtain ⟨c1, c2, c3, c4, c5, c6, c7, c8, c9, c10, c11, c12⟩ := id C0
  have e9 : (UInt32.ofNat k).toNat = k := by
    match k, hk with
    | 0, _ => rfl
    | 1, _ => rfl
    | 2, _ => rfl
    | 3, _ => rfl
  refine va_gets c1 c2 (c11.1 k hk).1 s4 c5 (c8 _ hl) (fun x hx => hx) hd ?_
  have h9 := kk p e s m args below meth c H locs cells slots ls g ad0 ad C0 ⟨s1, s2, s3, s4, s5, s6, q_cn (q_wf _ _) s7, s8, s9⟩ h1 h2
  rw [List.map_cons, show q_tv g ad (.float (UInt32.ofNat k)) = .ref (g.2.2.1 k) by show Value.ref _ = _; rw [e9]] at h9
  exact h9
theorem j_sald {k : Nat} {z : Int32} (hk : k < 4) (hd : decode Y.2.1 pc = .ok (.iaload, 1)) (hin : vp_in z 8)
    (kk : q_J l d Y mc ms Q QX n0 (pc + 1) lo (.int (q_sF k z.toNatClampNeg) :: st) h kc ks) : q_J l d Y mc ms Q QX n0 pc lo (.int z :: .float (UInt32.ofNat k) :: st) h kc ks := by
  intro p e s m args below meth c H locs cells slots ls g ad0 ad C0 S h1 h2
  obtain ⟨s1, s2, s3, s4, s5, s6, s7, s8, s9⟩ := S
  obtain ⟨c1, c2, c3, c4, c5, c6, c7, c8, c9, c10, c11, c12⟩ := id C0
  have e9 : (UInt32.ofNat k).toNat = k := by
    match k, hk with
    | 0, _ => rfl
    | 1, _ => rfl
    | 2, _ => rfl
    | 3, _ => rfl
  rw [List.map_cons, List.map_cons, show q_tv g ad (.float (UInt32.ofNat k)) = .ref (g.2.2.1 k) by show Value.ref _ = _; rw [e9]]
  refine va_ti (v := .int (q_sF k z.toNatClampNeg)) c1 c2 (c11.1 k hk).2 s4 hin rfl hd ?_
  exact kk p e s m args below meth c H locs cells slots ls g ad0 ad C0 ⟨s1, s2, s3, s4, s5, s6, q_cn (q_wi _ _) (q_tl (q_tl s7)), s8, s9⟩ h1 h2
end QH
section QH2
variable {l : Launch} {d : Nat} {Y : qM} {mc ms : Nat} {Q : Option Value → qH → Prop} {QX : String → qH → Prop} {n0 pc : Nat} {lo : List (Option Value)} {st : List Value} {h : qH} {kc ks : Nat}
theorem j_getsN {k idx : Nat} {host : String} (hk : k < 4) (hl : Cond.fieldLinkNest Y.1.cls idx (q_sC k).1 (q_sC k).2 "[I" host ∈ q_N) (hd : decode Y.2.1 pc = .ok (.getstatic idx, 3))
    (kk : q_J l d Y mc ms Q QX n0 (pc + 3) lo (.float (UInt32.ofNat k) :: st) h kc ks) : q_J l d Y mc ms Q QX n0 pc lo st h kc ks := by
  intro p e s m args below meth c H locs cells slots ls g ad0 ad C0 S h1 h2
  obtain ⟨s1, s2, s3, s4, s5, s6, s7, s8, s9⟩ := S
  obtain ⟨c1, c2, c3, c4, c5, c6, c7, c8, c9, c10, c11, c12⟩ := id C0
  have e9 : (UInt32.ofNat k).toNat = k := by
    match k, hk with
    | 0, _ => rfl
    | 1, _ => rfl
    | 2, _ => rfl
    | 3, _ => rfl
  refine va_getsN c1 c2 (c11.1 k hk).1 s4 c5 (va_Nw.use rfl (c11.2.2.2.2.1 _ hl)) (fun x hx => hx) hd ?_
  have h9 := kk p e s m args below meth c H locs cells slots ls g ad0 ad C0 ⟨s1, s2, s3, s4, s5, s6, q_cn (q_wf _ _) s7, s8, s9⟩ h1 h2
  rw [List.map_cons, show q_tv g ad (.float (UInt32.ofNat k)) = .ref (g.2.2.1 k) by show Value.ref _ = _; rw [e9]] at h9
  exact h9
/-- a row of references -/
theorem j_aald {i t0 N : Nat} {f : Nat → Option Nat} {z : Int32} {C : String} {v : Value} (hd : decode Y.2.1 pc = .ok (.aaload, 1)) (hh : h.1 i = .inl (3, (N, .inr (.inr (.inr (.inr f)))))) (hin : vp_in z N) (hv : v = match f z.toNatClampNeg with | some j => .ref j | none => .null)
    (kk : q_J l d Y mc ms Q QX n0 (pc + 1) lo (v :: st) h kc ks) : q_J l d Y mc ms Q QX n0 pc lo (.int z :: .ref i :: st) h kc ks := by
  intro p e s m args below meth c H locs cells slots ls g ad0 ad C0 S h1 h2
  obtain ⟨s1, s2, s3, s4, s5, s6, s7, s8, s9⟩ := S
  obtain ⟨c1, c2, c3, c4, c5, c6, c7, c8, c9, c10, c11, c12⟩ := id C0
  have hi : i < h.2 := s7 _ (List.mem_cons_of_mem _ List.mem_cons_self) i rfl
  have hw := s3 i hi
  rw [hh] at hw
  refine va_aldq (D := g.1) (cl := q_cls) c1 c2 c10 s1 i 3 (cA := g.2.1 3) (C := "RoverPlanner$Mark") (n := N) (f := fun k => (f k).map ad) ?_ rfl hin hd ?_
  · rw [q_ws_get hi, hh]; rfl
  · have e9 : va_rf ((f z.toNatClampNeg).map ad) = q_tv g ad v := by
      subst hv
      cases f z.toNatClampNeg <;> rfl
    have hwv : q_wv h.2 v := by
      subst hv
      cases hf : f z.toNatClampNeg with
      | none => exact q_wn _
      | some j => exact q_wr (hw _ _ hf)
    have h9 := kk p e s m args below meth c H locs cells slots ls g ad0 ad C0 ⟨s1, s2, s3, s4, s5, s6, q_cn hwv (q_tl (q_tl s7)), s8, s9⟩ h1 h2
    rw [List.map_cons, ← e9] at h9
    exact h9
/-- a row of rows -/
theorem j_aaldA {i N : Nat} {f : Nat → Option Nat} {z : Int32} {j : Nat} (hd : decode Y.2.1 pc = .ok (.aaload, 1)) (hh : h.1 i = .inl (4, (N, .inr (.inr (.inr (.inr f)))))) (hin : vp_in z N) (hv : f z.toNatClampNeg = some j)
    (kk : q_J l d Y mc ms Q QX n0 (pc + 1) lo (.ref j :: st) h kc ks) : q_J l d Y mc ms Q QX n0 pc lo (.int z :: .ref i :: st) h kc ks := by
  intro p e s m args below meth c H locs cells slots ls g ad0 ad C0 S h1 h2
  obtain ⟨s1, s2, s3, s4, s5, s6, s7, s8, s9⟩ := S
  obtain ⟨c1, c2, c3, c4, c5, c6, c7, c8, c9, c10, c11, c12⟩ := id C0
  have hi : i < h.2 := s7 _ (List.mem_cons_of_mem _ List.mem_cons_self) i rfl
  have hw := s3 i hi
  rw [hh] at hw
  have hlt : z.toNatClampNeg < N := Nat.not_le.mp fun q => hin (Or.inr q)
  have ha : (q_ws g ad h)[i]? = some (ad i, .inl (g.2.1 4, N, .inr (.inr (.inr (.inr (fun k => (f k).map ad)))))) := by rw [q_ws_get hi, hh]; rfl
  have ht : (q_ty g)[4]? = some (g.2.1 4, .array .int) := rfl
  refine W.aald (v := va_rf ((f z.toNatClampNeg).map ad)) (ty := .array .int) c1 c2 (s1 i _ ha) ((c10.2 4 _ ht).1 N (fun j => va_rf ((f j).map ad))) rfl (fun q => by cases q) (by show ¬ (z < 0 ∨ (arrV _ _ _).slots.size ≤ _); rw [arrV_size]; exact hin) (by show (arrV _ _ _).slots[_]? = _; rw [arrV_read _ _ hlt]) rfl rfl hd ?_
  rw [hv]
  exact kk p e s m args below meth c H locs cells slots ls g ad0 ad C0 ⟨s1, s2, s3, s4, s5, s6, q_cn (q_wr (hw _ _ hv)) (q_tl (q_tl s7)), s8, s9⟩ h1 h2
/-- an object put into a row of references -/
theorem j_aast {i N ci j N1 : Nat} {f : Nat → Option Nat} {z : Int32} {T : u_T} {fs : List Value} (hd : decode Y.2.1 pc = .ok (.aastore, 1)) (hh : h.1 i = .inl (3, (N, .inr (.inr (.inr (.inr f)))))) (hj : h.1 j = .inr (ci, fs)) (hc : q_cls[ci]? = some ("RoverPlanner$Mark", T, N1)) (hin : vp_in z N)
    (kk : q_J l d Y mc ms Q QX n0 (pc + 1) lo st (q_set h i (.inl (3, (N, .inr (.inr (.inr (.inr (va_up f z.toNatClampNeg (some j))))))))) kc ks) : q_J l d Y mc ms Q QX n0 pc lo (.ref j :: .int z :: .ref i :: st) h kc ks := by
  intro p e s m args below meth c H locs cells slots ls g ad0 ad C0 S h1 h2
  obtain ⟨s1, s2, s3, s4, s5, s6, s7, s8, s9⟩ := S
  obtain ⟨c1, c2, c3, c4, c5, c6, c7, c8, c9, c10, c11, c12⟩ := id C0
  have hi : i < h.2 := s7 _ (List.mem_cons_of_mem _ (List.mem_cons_of_mem _ List.mem_cons_self)) i rfl
  have hjj : j < h.2 := s7 _ List.mem_cons_self j rfl
  have hw := s3 i hi
  rw [hh] at hw
  refine va_astq (D := g.1) (cl := q_cls) c1 c2 c10 s1 s2 s4 i 3 j ci (cA := g.2.1 3) (r := ("RoverPlanner$Mark", T, N1)) (n := N) (f := fun k => (f k).map ad) (vs := fs.map (q_tv g ad)) ?_ rfl ?_ hc hin hd (fun H1 locs1 hP1 hD1 hS1 => ?_)
  · rw [q_ws_get hi, hh]; rfl
  · rw [q_ws_get hjj, hj]; rfl
  · have e8 : va_up (fun k => (f k).map ad) z.toNatClampNeg (some (ad j)) = fun k => ((va_up f z.toNatClampNeg (some j)) k).map ad := by
      funext k
      by_cases e : k = z.toNatClampNeg <;> simp [va_up, e]
    have e9 := q_ws_set (g := g) (ad := ad) (c := .inl (3, (N, .inr (.inr (.inr (.inr (va_up f z.toNatClampNeg (some j)))))))) hi
    rw [e8] at hP1 hD1
    rw [show (q_ws g ad h).set i (ad i, .inl (g.2.1 3, N, .inr (.inr (.inr (.inr (fun k => ((va_up f z.toNatClampNeg (some j)) k).map ad)))))) = _ from e9] at hP1 hD1
    refine kk p e s m args below meth c H1 locs1 cells slots ls g ad0 ad C0 ⟨hP1, hD1, q_wh_set s3 (fun k x hk => ?_), hS1, s5, s6, q_tl (q_tl (q_tl s7)), s8, s9⟩ h1 h2
    by_cases e : k = z.toNatClampNeg
    · simp [va_up, e] at hk
      omega
    · simp [va_up, e] at hk
      exact hw k x hk
end QH2
