/-! rows that only constructors, marks and sent use -/
theorem nn_div (a b : Int32) (hb : ¬ b = 0) : vf_n64 (FP.ddiv (FP.i2d a) (FP.i2d b)) := by
  have h1 : FP.Core.Whole a.toInt (FP.Core.val64 (FP.Core.i2d a)) := FP.Core.i2d_int a
  have h2 : FP.Core.Whole b.toInt (FP.Core.val64 (FP.Core.i2d b)) := FP.Core.i2d_int b
  have h3 : FP.Core.val64 (FP.Core.ddiv (FP.Core.i2d a) (FP.Core.i2d b)) = FP.Core.quotient FP.Core.b64 (FP.Core.val64 (FP.Core.i2d a)) (FP.Core.val64 (FP.Core.i2d b)) := FP.Core.val64_ddiv _ _
  have hb0 : b.toInt ≠ 0 := fun q => hb (Int32.toInt_inj.mp (by rw [q]; exact L_0.symm))
  have hn : FP.Core.quotient FP.Core.b64 (FP.Core.val64 (FP.Core.i2d a)) (FP.Core.val64 (FP.Core.i2d b)) ≠ .nan := by
    cases hx : FP.Core.val64 (FP.Core.i2d a) with
    | nan => rw [hx] at h1; exact h1.elim
    | inf s => rw [hx] at h1; exact h1.elim
    | fin s c q =>
      cases hy : FP.Core.val64 (FP.Core.i2d b) with
      | nan => rw [hy] at h2; exact h2.elim
      | inf s => rw [hy] at h2; exact h2.elim
      | fin t dd r =>
        rw [hy] at h2
        have hd : dd ≠ 0 := fun e => by
          subst e
          have e2 : FP.Core.signed t (0 * 2 ^ r.toNat) = b.toInt * ((2 ^ (-r).toNat : Nat) : Int) := h2
          rw [Nat.zero_mul] at e2
          have e3 : FP.Core.signed t 0 = 0 := by unfold FP.Core.signed; cases t <;> simp
          rw [e3] at e2
          have e4 : ((2 ^ (-r).toNat : Nat) : Int) ≠ 0 := by
            have := Nat.two_pow_pos (-r).toNat
            omega
          rcases Int.mul_eq_zero.mp e2.symm with q | q
          · exact hb0 q
          · exact e4 q
        show (if dd = 0 then _ else FP.Core.roundRatio FP.Core.b64 (s != t) c dd (q - r)) ≠ _
        rw [if_neg hd]
        unfold FP.Core.roundRatio
        split
        · simp
        · unfold FP.Core.roundAt FP.Core.settle FP.Core.bound
          split <;> split <;> simp
  rw [← h3] at hn
  show FP.Core.ddiv (FP.Core.i2d a) (FP.Core.i2d b) &&& 0x7fffffffffffffff ≤ 0x7ff0000000000000
  generalize FP.Core.ddiv (FP.Core.i2d a) (FP.Core.i2d b) = x at hn ⊢
  unfold FP.Core.val64 FP.Core.decode at hn
  rw [UInt64.le_iff_toNat_le, UInt64.toNat_and]
  have lt := x.toNat_lt
  have e1 : (0x7fffffffffffffff : UInt64).toNat = 2 ^ 63 - 1 := by decide +kernel
  have e2 : (0x7ff0000000000000 : UInt64).toNat = 2047 * 2 ^ 52 := by decide +kernel
  rw [e1, e2, Nat.and_two_pow_sub_one_eq_mod]
  have e3 : FP.Core.fieldE FP.Core.b64 x.toNat = x.toNat / 4503599627370496 % 2048 := rfl
  have e4 : FP.Core.fieldT FP.Core.b64 x.toNat = x.toNat % 4503599627370496 := rfl
  have e5 : FP.Core.b64.exps - 1 = 2047 := by decide
  rw [e3, e4, e5] at hn
  by_cases c1 : x.toNat / 4503599627370496 % 2048 = 2047
  · rw [if_pos c1] at hn
    by_cases c2 : x.toNat % 4503599627370496 = 0
    · omega
    · rw [if_neg c2] at hn
      exact absurd rfl hn
  · omega
def q_pl (v : Value) : Bool := match v with
  | .int _ => true
  | .null => true
  | _ => false
theorem q_pl_wf {fs : List Value} (h : fs.all q_pl = true) : ∀ n, ∀ v ∈ fs, q_wv n v := fun n v hv => by
  have := List.all_eq_true.mp h v hv
  cases v <;> first | exact q_wi _ _ | exact q_wn _ | (simp [q_pl] at this)
theorem q_nRo (g : qG) (ad : Nat → Nat) (C : String) (r : Nat) : narrow (.object C) (q_tv g ad (.ref r)) = q_tv g ad (.ref r) ∧ fits (.object C) (q_tv g ad (.ref r)) = true := ⟨rfl, rfl⟩
theorem q_nRa (g : qG) (ad : Nat → Nat) (t : FieldType) (r : Nat) : narrow (.array t) (q_tv g ad (.ref r)) = q_tv g ad (.ref r) ∧ fits (.array t) (q_tv g ad (.ref r)) = true := ⟨rfl, rfl⟩
def qNW (h : qH) (ci : Nat) (fs : List Value) (P : Nat → qH → Prop) : Prop := P h.2 (q_push h (.inr (ci, fs)))
def qPR (h : qH) (i ci k r : Nat) (P : qH → Prop) : Prop := ∃ fs : List Value, h.1 i = .inr (ci, fs) ∧ k < fs.length ∧ P (q_set h i (.inr (ci, fs.set k (.ref r))))
def qO3 (h : qH) (i : Nat) (z : Int32) (A : Nat → Prop) (B : Prop) : Prop := ∃ (N : Nat) (f : Nat → Option Nat), h.1 i = .inl (3, (N, .inr (.inr (.inr (.inr f))))) ∧ vp_in z N ∧ (∀ j, f z.toNatClampNeg = some j → A j) ∧ (f z.toNatClampNeg = none → B)
def qA3 (h : qH) (i : Nat) (z : Int32) (j : Nat) (P : qH → Prop) : Prop := ∃ (N : Nat) (f : Nat → Option Nat) (fs : List Value), h.1 i = .inl (3, (N, .inr (.inr (.inr (.inr f))))) ∧ h.1 j = .inr (3, fs) ∧ vp_in z N ∧ P (q_set h i (.inl (3, (N, .inr (.inr (.inr (.inr (va_up f z.toNatClampNeg (some j)))))))))
def qNM (h : qH) (N : Nat) (P : Nat → qH → Prop) : Prop := P h.2 (q_push h (.inl (3, (N, .inr (.inr (.inr (.inr (fun _ => none))))))))
def qNL (h : qH) (N : Nat) (P : Nat → qH → Prop) : Prop := P h.2 (q_push h (.inl (1, (N, .inr (.inl (fun _ => 0))))))
/-- new int[8][K]: the outer row at h.2, the inner ones behind it -/
def q_push9 (h : qH) (K : Nat) : qH := (fun j => if j = h.2 then .inl (4, (8, .inr (.inr (.inr (.inr (fun i => if i < 8 then some (h.2 + 1 + i) else none)))))) else if h.2 < j ∧ j ≤ h.2 + 8 then .inl (0, (K, .inl (fun _ => 0))) else h.1 j, h.2 + 9)
def qM9 (h : qH) (K : Nat) (P : Nat → qH → Prop) : Prop := P h.2 (q_push9 h K)
def qAN (c P : Prop) : Prop := c ∧ P
def qCD (l : Launch) (d : Nat) (Z : qM) (avs : List Value) (h : qH) (mc ms : Nat) (P : UInt64 → qH → Prop) : Prop := q_Ct l d Z avs h mc ms (fun v h1 => ∃ z : UInt64, v = some (.double z) ∧ P z h1) (fun _ _ => False)
section QK8
variable {X : qG → State → Prop} {l : Launch} {d : Nat} {Y : qM} {mc ms : Nat} {Q : Option Value → qH → Prop} {QX : String → qH → Prop} {n0 pc : Nat} {lo : List (Option Value)} {st : List Value} {h : qH} {kc ks : Nat}
theorem q_KT (k : q_K (fun _ _ => True) l d Y mc ms Q QX n0 pc lo st h kc ks) : q_J l d Y mc ms Q QX n0 pc lo st h kc ks := fun p e s m args below meth c H locs cells slots ls g ad0 ad C S a b => k p e s m args below meth c H locs cells slots ls g ad0 ad ⟨C, trivial⟩ S a b
theorem k_i2d {a : Int32} (hd : decode Y.2.1 pc = .ok (.i2d, 1)) (k : q_K X l d Y mc ms Q QX n0 (pc + 1) lo (.double (FP.i2d a) :: st) h kc ks) : q_K X l d Y mc ms Q QX n0 pc lo (.int a :: st) h kc ks :=
  qk_pure (fun _ b => q_cn (q_wd _ _) (q_tl b)) (fun p e R s m args below meth c H locs cells slots ls g ad Qf hx hb _ _ _ k => lv_i2d hx hb hd k) k
theorem k_ddiv {a b : UInt64} (hd : decode Y.2.1 pc = .ok (.ddiv, 1)) (hn : vf_n64 (FP.ddiv a b)) (k : q_K X l d Y mc ms Q QX n0 (pc + 1) lo (.double (FP.ddiv a b) :: st) h kc ks) : q_K X l d Y mc ms Q QX n0 pc lo (.double b :: .double a :: st) h kc ks :=
  qk_pure (fun _ b => q_cn (q_wd _ _) (q_tl (q_tl b))) (fun p e R s m args below meth c H locs cells slots ls g ad Qf hx hb _ _ _ k => lv_ddiv hx hb hd hn k) k
theorem k_dconst1 (hd : decode Y.2.1 pc = .ok (.dconst 1, 1)) (k : q_K X l d Y mc ms Q QX n0 (pc + 1) lo (.double FP.dconst1 :: st) h kc ks) : q_K X l d Y mc ms Q QX n0 pc lo st h kc ks :=
  qk_pure (fun _ b => q_cn (q_wd _ _) b) (fun p e R s m args below meth c H locs cells slots ls g ad Qf hx hb _ _ _ k => lv_dconst1 hx hb hd k) k
theorem k_dcmp {a b : UInt64} {op : CmpOp} (hd : decode Y.2.1 pc = .ok (.dcmp op, 1)) (k : q_K X l d Y mc ms Q QX n0 (pc + 1) lo (.int (Op.cmpValue (FP.dcmp a b) op) :: st) h kc ks) : q_K X l d Y mc ms Q QX n0 pc lo (.double b :: .double a :: st) h kc ks :=
  qk_pure (fun _ b => q_cn (q_wi _ _) (q_tl (q_tl b))) (fun p e R s m args below meth c H locs cells slots ls g ad Qf hx hb _ _ _ k => lv_dcmp hx hb hd k) k
theorem k_dload {i : Nat} {z : UInt64} (hd : decode Y.2.1 pc = .ok (.dload i, 2)) (hl : lo[i]? = some (some (.double z))) (k : q_K X l d Y mc ms Q QX n0 (pc + 2) lo (.double z :: st) h kc ks) : q_K X l d Y mc ms Q QX n0 pc lo st h kc ks :=
  qk_pure (fun _ b => q_cn (q_wd _ _) b) (fun p e R s m args below meth c H locs cells slots ls g ad Qf hx hb o _ _ k => lv_dload hx hb hd (o.2.2 _ _ hl) k) k
theorem k_dstore {i : Nat} {z : UInt64} {lo' : List (Option Value)} (hd : decode Y.2.1 pc = .ok (.dstore i, 2)) (hn : i + 1 < Y.2.2.1) (ho : q_ok1 lo i = true) (he : (lo.set i (some (.double z))).set (i + 1) none = lo') (k : q_K X l d Y mc ms Q QX n0 (pc + 2) lo' st h kc ks) : q_K X l d Y mc ms Q QX n0 pc lo (.double z :: st) h kc ks := by
  subst he
  exact qk_loc (fun a b => ⟨q_lset0 (q_lset (q_wd _ _) a), q_tl b⟩) (fun p e R s m args below meth c H locs cells slots ls g ad Qf hx hb o k => lv_dstore hx hb hd (q_lo_has o) hn rfl (fun ls' hl => k ls' (q_lo_st2 ho hl))) k
theorem k_dret {z : UInt64} (hd : decode Y.2.1 pc = .ok (.dreturn, 1)) (hr : Y.2.2.2 = some .double) (hq : Q (some (.double z)) h) : q_K X l d Y mc ms Q QX n0 pc lo [.double z] h kc ks := by
  intro p e s m args below meth c H locs cells slots ls g ad0 ad C0 S h1 h2
  obtain ⟨s1, s2, s3, s4, s5, s6, s7, s8, s9⟩ := S
  obtain ⟨c1, c2, c3, c4, c5, c6, c7, c8, c9, c10, c11, c12⟩ := id C0.1
  refine vx_ret (W.widen (k := mc) (n := ms) (by omega) (by omega) ?_)
  exact W.dret (v := z) c1 c2 (c3.trans hr) (fun t ht hW => ⟨some (.double z), h, ad, rfl, hq, s8, s9, (fun w hw => by cases hw; exact q_wd _ _), s3, by rw [ht]; exact s1, s2, s4.F ht⟩) s4.2.2 hd c6
/-- new Mark[n] -/
theorem k_newM {z : Int32} {N idx : Nat} (hl : Cond.classLink Y.1.cls idx "RoverPlanner$Mark" ∈ q_W) (hd : decode Y.2.1 pc = .ok (.anewarray idx, 3)) (hn : ¬ z < 0) (hN : z.toNatClampNeg = N) (hb : N ≤ 100000) {kc' ks' : Nat} (hk1 : kc' + 1 ≤ kc) (hk2 : ks' + N ≤ ks)
    (k : q_K X l d Y mc ms Q QX n0 (pc + 3) lo (.ref h.2 :: st) (q_push h (.inl (3, (N, .inr (.inr (.inr (.inr (fun _ => none)))))))) kc' ks') : q_K X l d Y mc ms Q QX n0 pc lo (.int z :: st) h kc ks := by
  intro p e s m args below meth c H locs cells slots ls g ad0 ad C0 S h1 h2
  obtain ⟨s1, s2, s3, s4, s5, s6, s7, s8, s9⟩ := id S
  obtain ⟨c1, c2, c3, c4, c5, c6, c7, c8, c9, c10, c11, c12⟩ := id C0.1
  refine va_newq (D := g.1) (cl := vwCl) (tys := q_ty g) (A := q_A g) (H0 := s.heap) c1 c2 c5 (c8 _ hl) c11.2.2.2.2.2 c10 s1 s2 s4 (fun q hq => Nat.le_trans c12 hq) hn hN (show N * 4 ≤ 536870912 by omega) (show cells + 1 ≤ mc by omega) (show slots + N ≤ ms by omega) hd (fun q cA H1 hK hP hD hS => ?_)
  have hcA : cA = g.2.1 3 := by
    obtain ⟨kA, comp, a1, a2, a3, a4⟩ := (hK.2 5 (cA, .object "RoverPlanner$Mark") rfl).2
    obtain ⟨kA', comp', b1, b2, b3, b4⟩ := (hK.2 3 (g.2.1 3, .object "RoverPlanner$Mark") rfl).2
    exact Option.some.inj (a4.symm.trans b4)
  subst hcA
  obtain ⟨S', e8⟩ := q_grown (Y := Y) (cl := .inl (3, (N, .inr (.inr (.inr (.inr (fun _ => none))))))) S (fun k i hk => by cases hk) hP hD hS st (fun v hv => List.mem_cons_of_mem _ hv)
  have h9 := k p e s m args below meth c H1 locs (cells + 1) (slots + N) ls g ad0 (q_up ad h.2 q) C0 S' (by omega) (by omega)
  rw [e8] at h9
  exact h9
/-- new long[n] -/
theorem k_newL {z : Int32} {N : Nat} (ha : Cond.arrayClass .long ∈ q_W) (hd : decode Y.2.1 pc = .ok (.newarray .long, 2)) (hn : ¬ z < 0) (hN : z.toNatClampNeg = N) (hb : N ≤ 100000) {kc' ks' : Nat} (hk1 : kc' + 1 ≤ kc) (hk2 : ks' + N ≤ ks)
    (k : q_K X l d Y mc ms Q QX n0 (pc + 2) lo (.ref h.2 :: st) (q_push h (.inl (1, (N, .inr (.inl (fun _ => 0)))))) kc' ks') : q_K X l d Y mc ms Q QX n0 pc lo (.int z :: st) h kc ks := by
  intro p e s m args below meth c H locs cells slots ls g ad0 ad C0 S h1 h2
  obtain ⟨s1, s2, s3, s4, s5, s6, s7, s8, s9⟩ := id S
  obtain ⟨c1, c2, c3, c4, c5, c6, c7, c8, c9, c10, c11, c12⟩ := id C0.1
  refine va_newa (atype := .long) (D := g.1) (cl := vwCl) (tys := q_ty g) (A := q_A g) (H0 := s.heap) (ty := .long) c1 c2 (c8 _ ha) rfl c10 s1 s2 s4 (fun q hq => Nat.le_trans c12 hq) (a0 := (N, .inr (.inl (fun _ => 0)))) (fun cA => rfl) hn hN (show N * 8 ≤ 536870912 by omega) (show cells + 1 ≤ mc by omega) (show slots + N ≤ ms by omega) hd (fun q cA H1 hK hP hD hS => ?_)
  have hcA : cA = g.2.1 1 := by
    have e1 := (hK.2 5 (cA, .long) rfl).2
    have e2 := (hK.2 1 (g.2.1 1, .long) rfl).2
    exact Option.some.inj (e1.symm.trans e2)
  subst hcA
  obtain ⟨S', e8⟩ := q_grown (Y := Y) (cl := .inl (1, (N, .inr (.inl (fun _ => 0))))) S trivial hP hD hS st (fun v hv => List.mem_cons_of_mem _ hv)
  have h9 := k p e s m args below meth c H1 locs (cells + 1) (slots + N) ls g ad0 (q_up ad h.2 q) C0 S' (by omega) (by omega)
  rw [e8] at h9
  exact h9
def q_up9 (ad : Nat → Nat) (n q : Nat) (r : Nat → Nat) : Nat → Nat := fun j => if j = n then q else if n < j ∧ j ≤ n + 8 then r (j - (n + 1)) else ad j
theorem q_ws9 {g : qG} {ad : Nat → Nat} {h : qH} (hw : q_wh h) (q K : Nat) (r : Nat → Nat) : (q_ws g ad h ++ [(q, .inl (g.2.1 4, 8, .inr (.inr (.inr (.inr (fun i => if i < 8 then some (r i) else none))))))]) ++ va_pl ((List.range 8).map r) (fun _ => .inl (g.2.1 0, (K, .inl (fun _ => 0)))) = q_ws g (q_up9 ad h.2 q r) (q_push9 h K) := by
  have ag : q_ag h.2 ad (q_up9 ad h.2 q r) := fun i hi => by
    unfold q_up9
    rw [if_neg (by omega), if_neg (by omega)]
  have e : (List.range h.2).map (fun i => (q_up9 ad h.2 q r i, q_tc g (q_up9 ad h.2 q r) ((q_push9 h K).1 i))) = q_ws g ad h := by
    apply List.map_congr_left
    intro i hi
    have hi : i < h.2 := List.mem_range.mp hi
    have h1 : (q_push9 h K).1 i = h.1 i := by
      show (if i = h.2 then _ else if h.2 < i ∧ i ≤ h.2 + 8 then _ else h.1 i) = _
      rw [if_neg (by omega), if_neg (by omega)]
    rw [h1, q_tc_ag ag (hw i hi), ag i hi]
  have en : q_up9 ad h.2 q r h.2 = q := if_pos rfl
  have ei : ∀ i, i < 8 → q_up9 ad h.2 q r (h.2 + 1 + i) = r i := fun i hi => by
    unfold q_up9
    rw [if_neg (by omega), if_pos (by omega)]
    congr 1
    omega
  have cn : q_tc g (q_up9 ad h.2 q r) ((q_push9 h K).1 h.2) = .inl (g.2.1 4, 8, .inr (.inr (.inr (.inr (fun i => if i < 8 then some (r i) else none))))) := by
    have h1 : (q_push9 h K).1 h.2 = .inl (4, (8, .inr (.inr (.inr (.inr (fun i => if i < 8 then some (h.2 + 1 + i) else none)))))) := if_pos rfl
    rw [h1]
    show Sum.inl (_, (8, Sum.inr (Sum.inr (Sum.inr (Sum.inr _))))) = Sum.inl (_, (8, Sum.inr (Sum.inr (Sum.inr (Sum.inr _)))))
    congr 7
    funext i
    show Option.map (q_up9 ad h.2 q r) (if i < 8 then some (h.2 + 1 + i) else none) = (if i < 8 then some (r i) else none)
    by_cases hi : i < 8
    · rw [if_pos hi, if_pos hi, Option.map_some, ei i hi]
    · rw [if_neg hi, if_neg hi]; rfl
  have ci : ∀ i, i < 8 → q_tc g (q_up9 ad h.2 q r) ((q_push9 h K).1 (h.2 + 1 + i)) = .inl (g.2.1 0, (K, .inl (fun _ => 0))) := fun i hi => by
    have h1 : (q_push9 h K).1 (h.2 + 1 + i) = .inl (0, (K, .inl (fun _ => 0))) := by
      show (if h.2 + 1 + i = h.2 then _ else if h.2 < h.2 + 1 + i ∧ h.2 + 1 + i ≤ h.2 + 8 then _ else _) = _
      rw [if_neg (by omega), if_pos (by omega)]
    rw [h1]; rfl
  show _ = (List.range (h.2 + 9)).map _
  rw [show h.2 + 9 = (h.2 + 1) + 8 by omega, List.range_add, List.map_append, List.range_succ (n := h.2), List.map_append, e, List.map_map]
  congr 1
  · rw [List.map_cons, List.map_nil, en, cn]
  · unfold va_pl
    rw [List.map_map]
    apply List.map_congr_left
    intro i hi
    have hi : i < 8 := List.mem_range.mp hi
    show (r i, _) = (q_up9 ad h.2 q r (h.2 + 1 + i), q_tc g (q_up9 ad h.2 q r) ((q_push9 h K).1 (h.2 + 1 + i)))
    rw [ei i hi, ci i hi]
/-- new int[8][K], where the rows' class of such an array is known -/
theorem k_mna {K idx : Nat} {z : Int32} (hX : ∀ (g : qG) (s : State), X g s → va_AOA .int s) (hl : Cond.classLink Y.1.cls idx "[[I" ∈ q_W) (ha : Cond.arrayClass .int ∈ q_W) (hd : decode Y.2.1 pc = .ok (.multianewarray idx 2, 4)) (hz : ¬ z < 0) (hK : z.toNatClampNeg = K) (hb : K ≤ 1000) {kc' ks' : Nat} (hk1 : kc' + 9 ≤ kc) (hk2 : ks' + (8 + 8 * K) ≤ ks)
    (k : q_K X l d Y mc ms Q QX n0 (pc + 4) lo (.ref h.2 :: st) (q_push9 h K) kc' ks') : q_K X l d Y mc ms Q QX n0 pc lo (.int z :: .int 8 :: st) h kc ks := by
  intro p e s m args below meth c H locs cells slots ls g ad0 ad C0 S h1 h2
  obtain ⟨s1, s2, s3, s4, s5, s6, s7, s8, s9⟩ := id S
  obtain ⟨c1, c2, c3, c4, c5, c6, c7, c8, c9, c10, c11, c12⟩ := id C0.1
  have f0 : s.vm.findClass (FieldType.array .int).toString = some (g.2.1 0) := (c10.2 0 (g.2.1 0, .int) rfl).2
  have hP0 : va_P g.1 vwCl (q_ws g ad h ++ va_pl [] (fun _ => .inl (g.2.1 0, (K, .inl (fun _ => 0))))) H := by
    rw [show va_pl [] _ = [] from rfl, List.append_nil]; exact s1
  have hD0 : va_D (q_A g) (q_ws g ad h ++ va_pl [] (fun _ => .inl (g.2.1 0, (K, .inl (fun _ => 0))))) := by
    rw [show va_pl [] _ = [] from rfl, List.append_nil]; exact s2
  refine va_mna (D := g.1) (cl := vwCl) (tys := q_ty g) (A := q_A g) (H0 := s.heap) (ty := .int) (z := (K, .inl (fun _ => 0))) (N' := 8) (K' := K) c1 c2 c5 (c8 _ hl) (hX g s C0.2) (c8 _ ha) f0 c10 hP0 hD0 s4 (fun q hq => Nat.le_trans c12 hq) (by decide) hz (by decide) hK (by decide) (show K * 4 ≤ 536870912 by omega) (by omega) rfl rfl (show cells + (1 + 8) ≤ mc by omega) (show slots + (8 + 8 * K) ≤ ms by omega) (fun c => ?_) hd (fun q r cA H1 hr1 hr2 hK2 hP hD hS => ?_)
  · show ({ cls := c, slots := Array.replicate K _, vm := .none } : Cell) = _
    rw [arrV_new]; rfl
  have hcA : cA = g.2.1 4 := by
    have e1 := (hK2.2 5 (cA, .array .int) rfl).2
    have e2 := (hK2.2 4 (g.2.1 4, .array .int) rfl).2
    exact Option.some.inj (e1.symm.trans e2)
  subst hcA
  have eu : ∀ a, vr_up (fun _ => (Sum.inl (g.2.1 0, (K, .inl (fun _ => 0))) : va_E)) ((List.range 8).map r) (Sum.inl (g.2.1 0, (K, .inl (fun _ => 0))) : va_E) a = (Sum.inl (g.2.1 0, (K, .inl (fun _ => 0))) : va_E) := fun a => by
    unfold vr_up; split <;> rfl
  rw [List.nil_append, funext eu, q_ws9 s3] at hP hD
  have ag : q_ag h.2 ad (q_up9 ad h.2 q r) := fun i hi => by
    unfold q_up9
    rw [if_neg (by omega), if_neg (by omega)]
  have en : q_up9 ad h.2 q r h.2 = q := if_pos rfl
  have st7 : ∀ v ∈ st, q_wv h.2 v := q_tl (q_tl s7)
  have hwh : q_wh (q_push9 h K) := by
    intro j hj
    have hj : j < h.2 + 9 := hj
    show q_wc (h.2 + 9) (if j = h.2 then _ else if h.2 < j ∧ j ≤ h.2 + 8 then _ else h.1 j)
    by_cases e1 : j = h.2
    · rw [if_pos e1]
      intro k i hk
      replace hk : (if k < 8 then some (h.2 + 1 + k) else none) = some i := hk
      by_cases hk8 : k < 8
      · rw [if_pos hk8] at hk
        cases hk
        omega
      · rw [if_neg hk8] at hk
        cases hk
    · rw [if_neg e1]
      by_cases e2 : h.2 < j ∧ j ≤ h.2 + 8
      · rw [if_pos e2]; trivial
      · rw [if_neg e2]
        exact q_wc_mono (s3 j (by omega)) (by omega)
  have h9 := k p e s m args below meth c H1 locs (cells + 9) (slots + (8 + 8 * K)) ls g ad0 (q_up9 ad h.2 q r) C0
    ⟨hP, hD, hwh, hS, ⟨s5.1, s5.2.1, fun i w hi => by rw [q_tv_ag ag (s6 w (List.mem_of_getElem? hi))]; exact s5.2.2 i w hi⟩, fun w hw => q_wv_mono (s6 w hw) (Nat.le_add_right _ _), q_cn (q_wr (show h.2 < h.2 + 9 by omega)) (fun w hw => q_wv_mono (st7 w hw) (Nat.le_add_right _ _)), q_ag_tr s8 ag s9, Nat.le_trans s9 (Nat.le_add_right _ _)⟩ (by omega) (by omega)
  rw [List.map_cons, q_tvs_ag ag st7, show q_tv g (q_up9 ad h.2 q r) (.ref h.2) = .ref q from congrArg Value.ref en] at h9
  rw [show cells + 1 + 8 = cells + 9 by omega, show slots + 8 + 8 * K = slots + (8 + 8 * K) by omega]
  exact h9
end QK8
