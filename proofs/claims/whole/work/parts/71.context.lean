/-! THE JUDGEMENT once more, with a context X of the start that stays (the model's constructor; the law): printed by wip/whole/dup.py out of the rows of q_J -/
def q_CK (X : qG → State → Prop) (l : Launch) (Y : qM) (g : qG) (p : Program) (s : State) (m : MethodId) (args : Array Value) (meth : Method) (c : Code) : Prop := q_C l Y g p s m args meth c ∧ X g s
def q_K (X : qG → State → Prop) (l : Launch) (d : Nat) (Y : qM) (mc ms : Nat) (Q : Option Value → qH → Prop) (QX : String → qH → Prop) (n0 pc : Nat) (lo : List (Option Value)) (st : List Value) (h : qH) (kc ks : Nat) : Prop :=
  ∀ (p : Program) (e : Env) (s : State) (m : MethodId) (args : Array Value) (below : List Frame) (meth : Method) (c : Code) (H : Heap) (locs : List Loc) (cells slots : Nat) (ls : Array Slot) (g : qG) (ad0 ad : Nat → Nat),
    q_CK X l Y g p s m args meth c → q_S g s ad0 ad n0 h H locs ls Y.2.2.1 lo st → cells + kc ≤ mc → slots + ks ≤ ms →
    W p l e (q_R d mc ms) s m args below meth c H locs cells slots (vx_MQ below (q_Qc g ad0 n0 Q) (q_Xc g ad0 n0 QX) args s mc ms (q_A g)) (F0 m pc ls (st.map (q_tv g ad)))
section QK9
variable {X : qG → State → Prop} {l : Launch} {d : Nat} {Y : qM} {mc ms : Nat} {Q : Option Value → qH → Prop} {QX : String → qH → Prop} {n0 pc : Nat} {lo : List (Option Value)} {st : List Value} {h : qH} {kc ks : Nat}
theorem qk_pure {pc' : Nat} {st' : List Value} (hw : (∀ v, some v ∈ lo → q_wv h.2 v) → (∀ v ∈ st, q_wv h.2 v) → ∀ v ∈ st', q_wv h.2 v)
    (hs : ∀ (p : Program) (e : Env) (R : Room) (s : State) (m : MethodId) (args : Array Value) (below : List Frame) (meth : Method) (c : Code) (H : Heap) (locs : List Loc) (cells slots : Nat) (ls : Array Slot) (g : qG) (ad : Nat → Nat) (Qf : State → Prop), p.tables.exec = Jvm.exec → c.code = Y.2.1 → q_lo g ad ls Y.2.2.1 lo → s.vm.findClass Y.1.cls = some m.cls → (∀ w ∈ q_W, w.before args s = true) →
      W p l e R s m args below meth c H locs cells slots Qf (F0 m pc' ls (st'.map (q_tv g ad))) → W p l e R s m args below meth c H locs cells slots Qf (F0 m pc ls (st.map (q_tv g ad))))
    (k : q_K X l d Y mc ms Q QX n0 pc' lo st' h kc ks) : q_K X l d Y mc ms Q QX n0 pc lo st h kc ks := by
  intro p e s m args below meth c H locs cells slots ls g ad0 ad C S h1 h2
  obtain ⟨s1, s2, s3, s4, s5, s6, s7, s8, s9⟩ := S
  obtain ⟨c1, c2, c3, c4, c5, c6, c7, c8, c9⟩ := id C.1
  exact hs p e _ s m args below meth c H locs cells slots ls g ad _ c1 c2 s5 c5 c8 (k p e s m args below meth c H locs cells slots ls g ad0 ad C ⟨s1, s2, s3, s4, s5, s6, hw s6 s7, s8, s9⟩ h1 h2)
theorem k_iconst {n : Int} {v : Int32} (hd : decode Y.2.1 pc = .ok (.iconst n, 1)) (hv : Int32.ofInt n = v) (k : q_K X l d Y mc ms Q QX n0 (pc + 1) lo (.int v :: st) h kc ks) : q_K X l d Y mc ms Q QX n0 pc lo st h kc ks :=
  qk_pure (fun _ b => q_cn (q_wi _ _) b) (fun p e R s m args below meth c H locs cells slots ls g ad Qf hx hb _ _ _ k => lv_iconst hx hb hd hv k) k
theorem k_bipush {n : Int} {v : Int32} (hd : decode Y.2.1 pc = .ok (.bipush n, 2)) (hv : (Int8.ofInt n).toInt32 = v) (k : q_K X l d Y mc ms Q QX n0 (pc + 2) lo (.int v :: st) h kc ks) : q_K X l d Y mc ms Q QX n0 pc lo st h kc ks :=
  qk_pure (fun _ b => q_cn (q_wi _ _) b) (fun p e R s m args below meth c H locs cells slots ls g ad Qf hx hb _ _ _ k => lv_bipush hx hb hd hv k) k
theorem k_sipush {n : Int} {v : Int32} (hd : decode Y.2.1 pc = .ok (.sipush n, 3)) (hv : (Int16.ofInt n).toInt32 = v) (k : q_K X l d Y mc ms Q QX n0 (pc + 3) lo (.int v :: st) h kc ks) : q_K X l d Y mc ms Q QX n0 pc lo st h kc ks :=
  qk_pure (fun _ b => q_cn (q_wi _ _) b) (fun p e R s m args below meth c H locs cells slots ls g ad Qf hx hb _ _ _ k => lv_sipush hx hb hd hv k) k
theorem k_lconst {n : Fin 2} {v : Int64} (hd : decode Y.2.1 pc = .ok (.lconst n, 1)) (hv : Int64.ofNat (n : Nat) = v) (k : q_K X l d Y mc ms Q QX n0 (pc + 1) lo (.long v :: st) h kc ks) : q_K X l d Y mc ms Q QX n0 pc lo st h kc ks :=
  qk_pure (fun _ b => q_cn (q_wl _ _) b) (fun p e R s m args below meth c H locs cells slots ls g ad Qf hx hb _ _ _ k => lv_lconst hx hb hd hv k) k
theorem k_null (hd : decode Y.2.1 pc = .ok (.aconst_null, 1)) (k : q_K X l d Y mc ms Q QX n0 (pc + 1) lo (.null :: st) h kc ks) : q_K X l d Y mc ms Q QX n0 pc lo st h kc ks :=
  qk_pure (fun _ b => q_cn (q_wn _) b) (fun p e R s m args below meth c H locs cells slots ls g ad Qf hx hb _ _ _ k => lv_null hx hb hd k) k
theorem k_ldc {i : Nat} {v : Int32} (hd : decode Y.2.1 pc = .ok (.ldc i, 2)) (hw : Cond.constant Y.1.cls i v ∈ q_W) (k : q_K X l d Y mc ms Q QX n0 (pc + 2) lo (.int v :: st) h kc ks) : q_K X l d Y mc ms Q QX n0 pc lo st h kc ks :=
  qk_pure (fun _ b => q_cn (q_wi _ _) b) (fun p e R s m args below meth c H locs cells slots ls g ad Qf hx hb _ ho hts k => lv_ldc hx hb ho (hts _ hw) hd k) k
theorem k_ldcw {i : Nat} {v : Int32} (hd : decode Y.2.1 pc = .ok (.ldc_w i, 3)) (hw : Cond.constant Y.1.cls i v ∈ q_W) (k : q_K X l d Y mc ms Q QX n0 (pc + 3) lo (.int v :: st) h kc ks) : q_K X l d Y mc ms Q QX n0 pc lo st h kc ks :=
  qk_pure (fun _ b => q_cn (q_wi _ _) b) (fun p e R s m args below meth c H locs cells slots ls g ad Qf hx hb _ ho hts k => lv_ldcw hx hb ho (hts _ hw) hd k) k
theorem k_ldc2 {i : Nat} {v : Int64} (hd : decode Y.2.1 pc = .ok (.ldc2_w i, 3)) (hw : Cond.constantLong Y.1.cls i v ∈ q_W) (k : q_K X l d Y mc ms Q QX n0 (pc + 3) lo (.long v :: st) h kc ks) : q_K X l d Y mc ms Q QX n0 pc lo st h kc ks :=
  qk_pure (fun _ b => q_cn (q_wl _ _) b) (fun p e R s m args below meth c H locs cells slots ls g ad Qf hx hb _ ho hts k => lv_ldc2 hx hb ho (hts _ hw) hd k) k
theorem k_iload_n {n : Fin 4} {i : Nat} {z : Int32} (hd : decode Y.2.1 pc = .ok (.iload_n n, 1)) (hi : (n : Nat) = i) (hl : lo[i]? = some (some (.int z))) (k : q_K X l d Y mc ms Q QX n0 (pc + 1) lo (.int z :: st) h kc ks) : q_K X l d Y mc ms Q QX n0 pc lo st h kc ks :=
  qk_pure (fun _ b => q_cn (q_wi _ _) b) (fun p e R s m args below meth c H locs cells slots ls g ad Qf hx hb o _ _ k => lv_iload_n hx hb hd hi (o.2.2 _ _ hl) k) k
theorem k_iload {i : Nat} {z : Int32} (hd : decode Y.2.1 pc = .ok (.iload i, 2)) (hl : lo[i]? = some (some (.int z))) (k : q_K X l d Y mc ms Q QX n0 (pc + 2) lo (.int z :: st) h kc ks) : q_K X l d Y mc ms Q QX n0 pc lo st h kc ks :=
  qk_pure (fun _ b => q_cn (q_wi _ _) b) (fun p e R s m args below meth c H locs cells slots ls g ad Qf hx hb o _ _ k => lv_iload hx hb hd (o.2.2 _ _ hl) k) k
theorem k_lload_n {n : Fin 4} {i : Nat} {z : Int64} (hd : decode Y.2.1 pc = .ok (.lload_n n, 1)) (hi : (n : Nat) = i) (hl : lo[i]? = some (some (.long z))) (k : q_K X l d Y mc ms Q QX n0 (pc + 1) lo (.long z :: st) h kc ks) : q_K X l d Y mc ms Q QX n0 pc lo st h kc ks :=
  qk_pure (fun _ b => q_cn (q_wl _ _) b) (fun p e R s m args below meth c H locs cells slots ls g ad Qf hx hb o _ _ k => lv_lload_n hx hb hd hi (o.2.2 _ _ hl) k) k
theorem k_lload {i : Nat} {z : Int64} (hd : decode Y.2.1 pc = .ok (.lload i, 2)) (hl : lo[i]? = some (some (.long z))) (k : q_K X l d Y mc ms Q QX n0 (pc + 2) lo (.long z :: st) h kc ks) : q_K X l d Y mc ms Q QX n0 pc lo st h kc ks :=
  qk_pure (fun _ b => q_cn (q_wl _ _) b) (fun p e R s m args below meth c H locs cells slots ls g ad Qf hx hb o _ _ k => lv_lload hx hb hd (o.2.2 _ _ hl) k) k
theorem k_aload_n {n : Fin 4} {i : Nat} {z : Nat} (hd : decode Y.2.1 pc = .ok (.aload_n n, 1)) (hi : (n : Nat) = i) (hl : lo[i]? = some (some (.ref z))) (k : q_K X l d Y mc ms Q QX n0 (pc + 1) lo (.ref z :: st) h kc ks) : q_K X l d Y mc ms Q QX n0 pc lo st h kc ks :=
  qk_pure (fun a b => q_cn (a _ (q_lom hl)) b) (fun p e R s m args below meth c H locs cells slots ls g ad Qf hx hb o _ _ k => lv_aload_n hx hb hd hi (o.2.2 _ _ hl) k) k
theorem k_aload {i : Nat} {z : Nat} (hd : decode Y.2.1 pc = .ok (.aload i, 2)) (hl : lo[i]? = some (some (.ref z))) (k : q_K X l d Y mc ms Q QX n0 (pc + 2) lo (.ref z :: st) h kc ks) : q_K X l d Y mc ms Q QX n0 pc lo st h kc ks :=
  qk_pure (fun a b => q_cn (a _ (q_lom hl)) b) (fun p e R s m args below meth c H locs cells slots ls g ad Qf hx hb o _ _ k => lv_aload hx hb hd (o.2.2 _ _ hl) k) k
theorem k_aload_nN {n : Fin 4} {i : Nat} (hd : decode Y.2.1 pc = .ok (.aload_n n, 1)) (hi : (n : Nat) = i) (hl : lo[i]? = some (some .null)) (k : q_K X l d Y mc ms Q QX n0 (pc + 1) lo (.null :: st) h kc ks) : q_K X l d Y mc ms Q QX n0 pc lo st h kc ks :=
  qk_pure (fun _ b => q_cn (q_wn _) b) (fun p e R s m args below meth c H locs cells slots ls g ad Qf hx hb o _ _ k => lv_aload_nN hx hb hd hi (o.2.2 _ _ hl) k) k
theorem k_iadd {a b : Int32} (hd : decode Y.2.1 pc = .ok (.iadd, 1)) (k : q_K X l d Y mc ms Q QX n0 (pc + 1) lo (.int (a + b) :: st) h kc ks) : q_K X l d Y mc ms Q QX n0 pc lo (.int b :: .int a :: st) h kc ks :=
  qk_pure (fun _ b => q_cn (q_wi _ _) (q_tl (q_tl b))) (fun p e R s m args below meth c H locs cells slots ls g ad Qf hx hb _ _ _ k => lv_iadd hx hb hd k) k
theorem k_isub {a b : Int32} (hd : decode Y.2.1 pc = .ok (.isub, 1)) (k : q_K X l d Y mc ms Q QX n0 (pc + 1) lo (.int (a - b) :: st) h kc ks) : q_K X l d Y mc ms Q QX n0 pc lo (.int b :: .int a :: st) h kc ks :=
  qk_pure (fun _ b => q_cn (q_wi _ _) (q_tl (q_tl b))) (fun p e R s m args below meth c H locs cells slots ls g ad Qf hx hb _ _ _ k => lv_isub hx hb hd k) k
theorem k_imul {a b : Int32} (hd : decode Y.2.1 pc = .ok (.imul, 1)) (k : q_K X l d Y mc ms Q QX n0 (pc + 1) lo (.int (a * b) :: st) h kc ks) : q_K X l d Y mc ms Q QX n0 pc lo (.int b :: .int a :: st) h kc ks :=
  qk_pure (fun _ b => q_cn (q_wi _ _) (q_tl (q_tl b))) (fun p e R s m args below meth c H locs cells slots ls g ad Qf hx hb _ _ _ k => lv_imul hx hb hd k) k
theorem k_iand {a b : Int32} (hd : decode Y.2.1 pc = .ok (.iand, 1)) (k : q_K X l d Y mc ms Q QX n0 (pc + 1) lo (.int (a &&& b) :: st) h kc ks) : q_K X l d Y mc ms Q QX n0 pc lo (.int b :: .int a :: st) h kc ks :=
  qk_pure (fun _ b => q_cn (q_wi _ _) (q_tl (q_tl b))) (fun p e R s m args below meth c H locs cells slots ls g ad Qf hx hb _ _ _ k => lv_iand hx hb hd k) k
theorem k_ior {a b : Int32} (hd : decode Y.2.1 pc = .ok (.ior, 1)) (k : q_K X l d Y mc ms Q QX n0 (pc + 1) lo (.int (a ||| b) :: st) h kc ks) : q_K X l d Y mc ms Q QX n0 pc lo (.int b :: .int a :: st) h kc ks :=
  qk_pure (fun _ b => q_cn (q_wi _ _) (q_tl (q_tl b))) (fun p e R s m args below meth c H locs cells slots ls g ad Qf hx hb _ _ _ k => lv_ior hx hb hd k) k
theorem k_ixor {a b : Int32} (hd : decode Y.2.1 pc = .ok (.ixor, 1)) (k : q_K X l d Y mc ms Q QX n0 (pc + 1) lo (.int (a ^^^ b) :: st) h kc ks) : q_K X l d Y mc ms Q QX n0 pc lo (.int b :: .int a :: st) h kc ks :=
  qk_pure (fun _ b => q_cn (q_wi _ _) (q_tl (q_tl b))) (fun p e R s m args below meth c H locs cells slots ls g ad Qf hx hb _ _ _ k => lv_ixor hx hb hd k) k
theorem k_idiv {a b : Int32} (hd : decode Y.2.1 pc = .ok (.idiv, 1)) (hne : ¬ b = 0) (k : q_K X l d Y mc ms Q QX n0 (pc + 1) lo (.int (a / b) :: st) h kc ks) : q_K X l d Y mc ms Q QX n0 pc lo (.int b :: .int a :: st) h kc ks :=
  qk_pure (fun _ b => q_cn (q_wi _ _) (q_tl (q_tl b))) (fun p e R s m args below meth c H locs cells slots ls g ad Qf hx hb _ _ _ k => lv_idiv hx hb hd hne k) k
theorem k_irem {a b : Int32} (hd : decode Y.2.1 pc = .ok (.irem, 1)) (hne : ¬ b = 0) (k : q_K X l d Y mc ms Q QX n0 (pc + 1) lo (.int (a - a / b * b) :: st) h kc ks) : q_K X l d Y mc ms Q QX n0 pc lo (.int b :: .int a :: st) h kc ks :=
  qk_pure (fun _ b => q_cn (q_wi _ _) (q_tl (q_tl b))) (fun p e R s m args below meth c H locs cells slots ls g ad Qf hx hb _ _ _ k => lv_irem hx hb hd hne k) k
theorem k_ineg {a : Int32} (hd : decode Y.2.1 pc = .ok (.ineg, 1)) (k : q_K X l d Y mc ms Q QX n0 (pc + 1) lo (.int (-a) :: st) h kc ks) : q_K X l d Y mc ms Q QX n0 pc lo (.int a :: st) h kc ks :=
  qk_pure (fun _ b => q_cn (q_wi _ _) (q_tl b)) (fun p e R s m args below meth c H locs cells slots ls g ad Qf hx hb _ _ _ k => lv_ineg hx hb hd k) k
theorem k_ishl {a b : Int32} (hd : decode Y.2.1 pc = .ok (.ishl, 1)) (k : q_K X l d Y mc ms Q QX n0 (pc + 1) lo (.int (a <<< (b &&& 31)) :: st) h kc ks) : q_K X l d Y mc ms Q QX n0 pc lo (.int b :: .int a :: st) h kc ks :=
  qk_pure (fun _ b => q_cn (q_wi _ _) (q_tl (q_tl b))) (fun p e R s m args below meth c H locs cells slots ls g ad Qf hx hb _ _ _ k => lv_ishl hx hb hd k) k
theorem k_ishr {a b : Int32} (hd : decode Y.2.1 pc = .ok (.ishr, 1)) (k : q_K X l d Y mc ms Q QX n0 (pc + 1) lo (.int (a >>> (b &&& 31)) :: st) h kc ks) : q_K X l d Y mc ms Q QX n0 pc lo (.int b :: .int a :: st) h kc ks :=
  qk_pure (fun _ b => q_cn (q_wi _ _) (q_tl (q_tl b))) (fun p e R s m args below meth c H locs cells slots ls g ad Qf hx hb _ _ _ k => lv_ishr hx hb hd k) k
theorem k_iushr {a b : Int32} (hd : decode Y.2.1 pc = .ok (.iushr, 1)) (k : q_K X l d Y mc ms Q QX n0 (pc + 1) lo (.int (a.toUInt32 >>> (b.toUInt32 &&& Int32.toUInt32 31)).toInt32 :: st) h kc ks) : q_K X l d Y mc ms Q QX n0 pc lo (.int b :: .int a :: st) h kc ks :=
  qk_pure (fun _ b => q_cn (q_wi _ _) (q_tl (q_tl b))) (fun p e R s m args below meth c H locs cells slots ls g ad Qf hx hb _ _ _ k => lv_iushr hx hb hd rfl k) k
theorem k_ladd {a b : Int64} (hd : decode Y.2.1 pc = .ok (.ladd, 1)) (k : q_K X l d Y mc ms Q QX n0 (pc + 1) lo (.long (a + b) :: st) h kc ks) : q_K X l d Y mc ms Q QX n0 pc lo (.long b :: .long a :: st) h kc ks :=
  qk_pure (fun _ b => q_cn (q_wl _ _) (q_tl (q_tl b))) (fun p e R s m args below meth c H locs cells slots ls g ad Qf hx hb _ _ _ k => lv_ladd hx hb hd k) k
theorem k_lmul {a b : Int64} (hd : decode Y.2.1 pc = .ok (.lmul, 1)) (k : q_K X l d Y mc ms Q QX n0 (pc + 1) lo (.long (a * b) :: st) h kc ks) : q_K X l d Y mc ms Q QX n0 pc lo (.long b :: .long a :: st) h kc ks :=
  qk_pure (fun _ b => q_cn (q_wl _ _) (q_tl (q_tl b))) (fun p e R s m args below meth c H locs cells slots ls g ad Qf hx hb _ _ _ k => lv_lmul hx hb hd k) k
theorem k_i2l {a : Int32} (hd : decode Y.2.1 pc = .ok (.i2l, 1)) (k : q_K X l d Y mc ms Q QX n0 (pc + 1) lo (.long a.toInt64 :: st) h kc ks) : q_K X l d Y mc ms Q QX n0 pc lo (.int a :: st) h kc ks :=
  qk_pure (fun _ b => q_cn (q_wl _ _) (q_tl b)) (fun p e R s m args below meth c H locs cells slots ls g ad Qf hx hb _ _ _ k => lv_i2l hx hb hd rfl k) k
theorem k_l2i {a : Int64} (hd : decode Y.2.1 pc = .ok (.l2i, 1)) (k : q_K X l d Y mc ms Q QX n0 (pc + 1) lo (.int a.toInt32 :: st) h kc ks) : q_K X l d Y mc ms Q QX n0 pc lo (.long a :: st) h kc ks :=
  qk_pure (fun _ b => q_cn (q_wi _ _) (q_tl b)) (fun p e R s m args below meth c H locs cells slots ls g ad Qf hx hb _ _ _ k => lv_l2i hx hb hd rfl k) k
theorem k_lcmp {a b : Int64} (hd : decode Y.2.1 pc = .ok (.lcmp, 1)) (k : q_K X l d Y mc ms Q QX n0 (pc + 1) lo (.int (lg_cmp a b) :: st) h kc ks) : q_K X l d Y mc ms Q QX n0 pc lo (.long b :: .long a :: st) h kc ks :=
  qk_pure (fun _ b => q_cn (q_wi _ _) (q_tl (q_tl b))) (fun p e R s m args below meth c H locs cells slots ls g ad Qf hx hb _ _ _ k => W.lcmp hx hb hd k) k
theorem k_dup {a : Value} (hd : decode Y.2.1 pc = .ok (.dup, 1)) (ha : a.category = 1) (k : q_K X l d Y mc ms Q QX n0 (pc + 1) lo (a :: a :: st) h kc ks) : q_K X l d Y mc ms Q QX n0 pc lo (a :: st) h kc ks :=
  qk_pure (fun _ b => q_cn (q_hd b) b) (fun p e R s m args below meth c H locs cells slots ls g ad Qf hx hb _ _ _ k => lv_dup hx hb hd ((q_tv_cat _ _ _).trans ha) k) k
theorem k_pop {a : Value} (hd : decode Y.2.1 pc = .ok (.pop, 1)) (ha : a.category = 1) (k : q_K X l d Y mc ms Q QX n0 (pc + 1) lo st h kc ks) : q_K X l d Y mc ms Q QX n0 pc lo (a :: st) h kc ks :=
  qk_pure (fun _ b => q_tl b) (fun p e R s m args below meth c H locs cells slots ls g ad Qf hx hb _ _ _ k => lv_pop hx hb hd ((q_tv_cat _ _ _).trans ha) k) k
theorem k_dup2 {a b : Value} (hd : decode Y.2.1 pc = .ok (.dup2, 1)) (ha : a.category = 1) (hb' : b.category = 1) (k : q_K X l d Y mc ms Q QX n0 (pc + 1) lo (a :: b :: a :: b :: st) h kc ks) : q_K X l d Y mc ms Q QX n0 pc lo (a :: b :: st) h kc ks :=
  qk_pure (fun _ w => q_cn (q_hd w) (q_cn (q_hd (q_tl w)) w)) (fun p e R s m args below meth c H locs cells slots ls g ad Qf hx hb _ _ _ k => lv_dup2_11 hx hb hd ((q_tv_cat _ _ _).trans ha) ((q_tv_cat _ _ _).trans hb') k) k
theorem k_goto {off : Int} {tgt : Nat} (hd : decode Y.2.1 pc = .ok (.goto off, 3)) (ht : (pc : Int) + off = (tgt : Int)) (k : q_K X l d Y mc ms Q QX n0 tgt lo st h kc ks) : q_K X l d Y mc ms Q QX n0 pc lo st h kc ks :=
  qk_pure (fun _ b => b) (fun p e R s m args below meth c H locs cells slots ls g ad Qf hx hb _ _ _ k => lv_goto hx hb hd ht k) k
theorem k_ifnull {i : Nat} {off : Int} (hd : decode Y.2.1 pc = .ok (.ifnull off, 3)) (k : q_K X l d Y mc ms Q QX n0 (pc + 3) lo st h kc ks) : q_K X l d Y mc ms Q QX n0 pc lo (.ref i :: st) h kc ks :=
  qk_pure (fun _ b => q_tl b) (fun p e R s m args below meth c H locs cells slots ls g ad Qf hx hb _ _ _ k => lv_ifnull hx hb hd k) k
theorem k_ifnullN {off : Int} {tgt : Nat} (hd : decode Y.2.1 pc = .ok (.ifnull off, 3)) (ht : (pc : Int) + off = (tgt : Int)) (k : q_K X l d Y mc ms Q QX n0 tgt lo st h kc ks) : q_K X l d Y mc ms Q QX n0 pc lo (.null :: st) h kc ks :=
  qk_pure (fun _ b => q_tl b) (fun p e R s m args below meth c H locs cells slots ls g ad Qf hx hb _ _ _ k => lv_ifnullN hx hb hd ht k) k
theorem k_ifnonnull {i : Nat} {off : Int} {tgt : Nat} (hd : decode Y.2.1 pc = .ok (.ifnonnull off, 3)) (ht : (pc : Int) + off = (tgt : Int)) (k : q_K X l d Y mc ms Q QX n0 tgt lo st h kc ks) : q_K X l d Y mc ms Q QX n0 pc lo (.ref i :: st) h kc ks :=
  qk_pure (fun _ b => q_tl b) (fun p e R s m args below meth c H locs cells slots ls g ad Qf hx hb _ _ _ k => lv_ifnonnull hx hb hd ht k) k
theorem k_ifnonnullN {off : Int} (hd : decode Y.2.1 pc = .ok (.ifnonnull off, 3)) (k : q_K X l d Y mc ms Q QX n0 (pc + 3) lo st h kc ks) : q_K X l d Y mc ms Q QX n0 pc lo (.null :: st) h kc ks :=
  qk_pure (fun _ b => q_tl b) (fun p e R s m args below meth c H locs cells slots ls g ad Qf hx hb _ _ _ k => lv_ifnonnullN hx hb hd k) k
theorem qk_two {pc1 pc2 : Nat} {st' : List Value} {cd : Prop} (hw : (∀ v ∈ st, q_wv h.2 v) → ∀ v ∈ st', q_wv h.2 v)
    (hs : ∀ (p : Program) (e : Env) (R : Room) (s : State) (m : MethodId) (args : Array Value) (below : List Frame) (meth : Method) (c : Code) (H : Heap) (locs : List Loc) (cells slots : Nat) (ls : Array Slot) (g : qG) (ad : Nat → Nat) (Qf : State → Prop), p.tables.exec = Jvm.exec → c.code = Y.2.1 →
      (cd → W p l e R s m args below meth c H locs cells slots Qf (F0 m pc1 ls (st'.map (q_tv g ad)))) → (¬ cd → W p l e R s m args below meth c H locs cells slots Qf (F0 m pc2 ls (st'.map (q_tv g ad)))) → W p l e R s m args below meth c H locs cells slots Qf (F0 m pc ls (st.map (q_tv g ad))))
    (k1 : cd → q_K X l d Y mc ms Q QX n0 pc1 lo st' h kc ks) (k2 : ¬ cd → q_K X l d Y mc ms Q QX n0 pc2 lo st' h kc ks) : q_K X l d Y mc ms Q QX n0 pc lo st h kc ks := by
  intro p e s m args below meth c H locs cells slots ls g ad0 ad C S h1 h2
  obtain ⟨s1, s2, s3, s4, s5, s6, s7, s8, s9⟩ := S
  have S' : q_S g s ad0 ad n0 h H locs ls Y.2.2.1 lo st' := ⟨s1, s2, s3, s4, s5, s6, hw s7, s8, s9⟩
  exact hs p e _ s m args below meth c H locs cells slots ls g ad _ C.1.1 C.1.2.1 (fun q => k1 q p e s m args below meth c H locs cells slots ls g ad0 ad C S' h1 h2) (fun q => k2 q p e s m args below meth c H locs cells slots ls g ad0 ad C S' h1 h2)
theorem k_icmp_eq {a b : Int32} {off : Int} {tgt : Nat} (hd : decode Y.2.1 pc = .ok (.if_icmp .eq off, 3)) (ht : (pc : Int) + off = (tgt : Int)) (kt : a = b → q_K X l d Y mc ms Q QX n0 tgt lo st h kc ks) (kf : ¬ a = b → q_K X l d Y mc ms Q QX n0 (pc + 3) lo st h kc ks) : q_K X l d Y mc ms Q QX n0 pc lo (.int b :: .int a :: st) h kc ks :=
  qk_two (cd := a = b) (fun b => q_tl (q_tl b)) (fun p e R s m args below meth c H locs cells slots ls g ad Qf hx hb k1 k2 => lv_icmp_eq hx hb hd ht k1 k2) kt kf
theorem k_if_eq {a : Int32} {off : Int} {tgt : Nat} (hd : decode Y.2.1 pc = .ok (.ifCond .eq off, 3)) (ht : (pc : Int) + off = (tgt : Int)) (kt : a = 0 → q_K X l d Y mc ms Q QX n0 tgt lo st h kc ks) (kf : ¬ a = 0 → q_K X l d Y mc ms Q QX n0 (pc + 3) lo st h kc ks) : q_K X l d Y mc ms Q QX n0 pc lo (.int a :: st) h kc ks :=
  qk_two (cd := a = 0) (fun b => q_tl b) (fun p e R s m args below meth c H locs cells slots ls g ad Qf hx hb k1 k2 => lv_if_eq hx hb hd ht k1 k2) kt kf
theorem k_icmp_ne {a b : Int32} {off : Int} {tgt : Nat} (hd : decode Y.2.1 pc = .ok (.if_icmp .ne off, 3)) (ht : (pc : Int) + off = (tgt : Int)) (kt : ¬ a = b → q_K X l d Y mc ms Q QX n0 tgt lo st h kc ks) (kf : a = b → q_K X l d Y mc ms Q QX n0 (pc + 3) lo st h kc ks) : q_K X l d Y mc ms Q QX n0 pc lo (.int b :: .int a :: st) h kc ks :=
  qk_two (cd := a = b) (fun b => q_tl (q_tl b)) (fun p e R s m args below meth c H locs cells slots ls g ad Qf hx hb k1 k2 => lv_icmp_ne hx hb hd ht k2 k1) kf kt
theorem k_if_ne {a : Int32} {off : Int} {tgt : Nat} (hd : decode Y.2.1 pc = .ok (.ifCond .ne off, 3)) (ht : (pc : Int) + off = (tgt : Int)) (kt : ¬ a = 0 → q_K X l d Y mc ms Q QX n0 tgt lo st h kc ks) (kf : a = 0 → q_K X l d Y mc ms Q QX n0 (pc + 3) lo st h kc ks) : q_K X l d Y mc ms Q QX n0 pc lo (.int a :: st) h kc ks :=
  qk_two (cd := a = 0) (fun b => q_tl b) (fun p e R s m args below meth c H locs cells slots ls g ad Qf hx hb k1 k2 => lv_if_ne hx hb hd ht k2 k1) kf kt
theorem k_icmp_lt {a b : Int32} {off : Int} {tgt : Nat} (hd : decode Y.2.1 pc = .ok (.if_icmp .lt off, 3)) (ht : (pc : Int) + off = (tgt : Int)) (kt : a < b → q_K X l d Y mc ms Q QX n0 tgt lo st h kc ks) (kf : ¬ a < b → q_K X l d Y mc ms Q QX n0 (pc + 3) lo st h kc ks) : q_K X l d Y mc ms Q QX n0 pc lo (.int b :: .int a :: st) h kc ks :=
  qk_two (cd := a < b) (fun b => q_tl (q_tl b)) (fun p e R s m args below meth c H locs cells slots ls g ad Qf hx hb k1 k2 => lv_icmp_lt hx hb hd ht k1 k2) kt kf
theorem k_if_lt {a : Int32} {off : Int} {tgt : Nat} (hd : decode Y.2.1 pc = .ok (.ifCond .lt off, 3)) (ht : (pc : Int) + off = (tgt : Int)) (kt : a < 0 → q_K X l d Y mc ms Q QX n0 tgt lo st h kc ks) (kf : ¬ a < 0 → q_K X l d Y mc ms Q QX n0 (pc + 3) lo st h kc ks) : q_K X l d Y mc ms Q QX n0 pc lo (.int a :: st) h kc ks :=
  qk_two (cd := a < 0) (fun b => q_tl b) (fun p e R s m args below meth c H locs cells slots ls g ad Qf hx hb k1 k2 => lv_if_lt hx hb hd ht k1 k2) kt kf
theorem k_icmp_ge {a b : Int32} {off : Int} {tgt : Nat} (hd : decode Y.2.1 pc = .ok (.if_icmp .ge off, 3)) (ht : (pc : Int) + off = (tgt : Int)) (kt : b ≤ a → q_K X l d Y mc ms Q QX n0 tgt lo st h kc ks) (kf : ¬ b ≤ a → q_K X l d Y mc ms Q QX n0 (pc + 3) lo st h kc ks) : q_K X l d Y mc ms Q QX n0 pc lo (.int b :: .int a :: st) h kc ks :=
  qk_two (cd := b ≤ a) (fun b => q_tl (q_tl b)) (fun p e R s m args below meth c H locs cells slots ls g ad Qf hx hb k1 k2 => lv_icmp_ge hx hb hd ht k1 k2) kt kf
theorem k_if_ge {a : Int32} {off : Int} {tgt : Nat} (hd : decode Y.2.1 pc = .ok (.ifCond .ge off, 3)) (ht : (pc : Int) + off = (tgt : Int)) (kt : 0 ≤ a → q_K X l d Y mc ms Q QX n0 tgt lo st h kc ks) (kf : ¬ 0 ≤ a → q_K X l d Y mc ms Q QX n0 (pc + 3) lo st h kc ks) : q_K X l d Y mc ms Q QX n0 pc lo (.int a :: st) h kc ks :=
  qk_two (cd := 0 ≤ a) (fun b => q_tl b) (fun p e R s m args below meth c H locs cells slots ls g ad Qf hx hb k1 k2 => lv_if_ge hx hb hd ht k1 k2) kt kf
theorem k_icmp_gt {a b : Int32} {off : Int} {tgt : Nat} (hd : decode Y.2.1 pc = .ok (.if_icmp .gt off, 3)) (ht : (pc : Int) + off = (tgt : Int)) (kt : b < a → q_K X l d Y mc ms Q QX n0 tgt lo st h kc ks) (kf : ¬ b < a → q_K X l d Y mc ms Q QX n0 (pc + 3) lo st h kc ks) : q_K X l d Y mc ms Q QX n0 pc lo (.int b :: .int a :: st) h kc ks :=
  qk_two (cd := b < a) (fun b => q_tl (q_tl b)) (fun p e R s m args below meth c H locs cells slots ls g ad Qf hx hb k1 k2 => lv_icmp_gt hx hb hd ht k1 k2) kt kf
theorem k_if_gt {a : Int32} {off : Int} {tgt : Nat} (hd : decode Y.2.1 pc = .ok (.ifCond .gt off, 3)) (ht : (pc : Int) + off = (tgt : Int)) (kt : 0 < a → q_K X l d Y mc ms Q QX n0 tgt lo st h kc ks) (kf : ¬ 0 < a → q_K X l d Y mc ms Q QX n0 (pc + 3) lo st h kc ks) : q_K X l d Y mc ms Q QX n0 pc lo (.int a :: st) h kc ks :=
  qk_two (cd := 0 < a) (fun b => q_tl b) (fun p e R s m args below meth c H locs cells slots ls g ad Qf hx hb k1 k2 => lv_if_gt hx hb hd ht k1 k2) kt kf
theorem k_icmp_le {a b : Int32} {off : Int} {tgt : Nat} (hd : decode Y.2.1 pc = .ok (.if_icmp .le off, 3)) (ht : (pc : Int) + off = (tgt : Int)) (kt : a ≤ b → q_K X l d Y mc ms Q QX n0 tgt lo st h kc ks) (kf : ¬ a ≤ b → q_K X l d Y mc ms Q QX n0 (pc + 3) lo st h kc ks) : q_K X l d Y mc ms Q QX n0 pc lo (.int b :: .int a :: st) h kc ks :=
  qk_two (cd := a ≤ b) (fun b => q_tl (q_tl b)) (fun p e R s m args below meth c H locs cells slots ls g ad Qf hx hb k1 k2 => lv_icmp_le hx hb hd ht k1 k2) kt kf
theorem k_if_le {a : Int32} {off : Int} {tgt : Nat} (hd : decode Y.2.1 pc = .ok (.ifCond .le off, 3)) (ht : (pc : Int) + off = (tgt : Int)) (kt : a ≤ 0 → q_K X l d Y mc ms Q QX n0 tgt lo st h kc ks) (kf : ¬ a ≤ 0 → q_K X l d Y mc ms Q QX n0 (pc + 3) lo st h kc ks) : q_K X l d Y mc ms Q QX n0 pc lo (.int a :: st) h kc ks :=
  qk_two (cd := a ≤ 0) (fun b => q_tl b) (fun p e R s m args below meth c H locs cells slots ls g ad Qf hx hb k1 k2 => lv_if_le hx hb hd ht k1 k2) kt kf
theorem k_tableIn {dflt lo0 hi : Int} {offs : Array Int} {len : Nat} {a : Int32} {off : Int} {tgt : Nat} (hd : decode Y.2.1 pc = .ok (.tableswitch dflt lo0 hi offs, len)) (q1 : ¬ a.toInt < lo0) (q2 : ¬ hi < a.toInt) (ho : offs[(a.toInt - lo0).toNat]? = some off) (ht : (pc : Int) + off = (tgt : Int)) (k : q_K X l d Y mc ms Q QX n0 tgt lo st h kc ks) : q_K X l d Y mc ms Q QX n0 pc lo (.int a :: st) h kc ks :=
  qk_pure (fun _ b => q_tl b) (fun p e R s m args below meth c H locs cells slots ls g ad Qf hx hb _ _ _ k => lv_tableIn hx hb hd q1 q2 ho ht k) k
theorem k_tableOut {dflt lo0 hi : Int} {offs : Array Int} {len : Nat} {a : Int32} {tgt : Nat} (hd : decode Y.2.1 pc = .ok (.tableswitch dflt lo0 hi offs, len)) (q1 : a.toInt < lo0 ∨ hi < a.toInt) (ht : (pc : Int) + dflt = (tgt : Int)) (k : q_K X l d Y mc ms Q QX n0 tgt lo st h kc ks) : q_K X l d Y mc ms Q QX n0 pc lo (.int a :: st) h kc ks :=
  qk_pure (fun _ b => q_tl b) (fun p e R s m args below meth c H locs cells slots ls g ad Qf hx hb _ _ _ k => lv_tableOut hx hb hd q1 ht k) k
theorem k_lookup {dflt : Int} {ps : Array (Int × Int)} {len : Nat} {a : Int32} {off : Int} {tgt : Nat} (hd : decode Y.2.1 pc = .ok (.lookupswitch dflt ps, len)) (hp : (ps.toList.zip (ps.toList.drop 1)).all (fun (a, next) => a.1 < next.1) = true) (ho : Op.lookupswitch.offset ps.toList dflt a.toInt = off) (ht : (pc : Int) + off = (tgt : Int)) (k : q_K X l d Y mc ms Q QX n0 tgt lo st h kc ks) : q_K X l d Y mc ms Q QX n0 pc lo (.int a :: st) h kc ks :=
  qk_pure (fun _ b => q_tl b) (fun p e R s m args below meth c H locs cells slots ls g ad Qf hx hb _ _ _ k => lv_lookup hx hb hd hp ho ht k) k
theorem qk_loc {pc' : Nat} {lo' : List (Option Value)} {st' : List Value} (hw : (∀ v, some v ∈ lo → q_wv h.2 v) → (∀ v ∈ st, q_wv h.2 v) → (∀ v, some v ∈ lo' → q_wv h.2 v) ∧ ∀ v ∈ st', q_wv h.2 v)
    (hs : ∀ (p : Program) (e : Env) (R : Room) (s : State) (m : MethodId) (args : Array Value) (below : List Frame) (meth : Method) (c : Code) (H : Heap) (locs : List Loc) (cells slots : Nat) (ls : Array Slot) (g : qG) (ad : Nat → Nat) (Qf : State → Prop), p.tables.exec = Jvm.exec → c.code = Y.2.1 → q_lo g ad ls Y.2.2.1 lo →
      (∀ ls' : Array Slot, q_lo g ad ls' Y.2.2.1 lo' → W p l e R s m args below meth c H locs cells slots Qf (F0 m pc' ls' (st'.map (q_tv g ad)))) → W p l e R s m args below meth c H locs cells slots Qf (F0 m pc ls (st.map (q_tv g ad))))
    (k : q_K X l d Y mc ms Q QX n0 pc' lo' st' h kc ks) : q_K X l d Y mc ms Q QX n0 pc lo st h kc ks := by
  intro p e s m args below meth c H locs cells slots ls g ad0 ad C S h1 h2
  obtain ⟨s1, s2, s3, s4, s5, s6, s7, s8, s9⟩ := S
  exact hs p e _ s m args below meth c H locs cells slots ls g ad _ C.1.1 C.1.2.1 s5 (fun ls' hl => k p e s m args below meth c H locs cells slots ls' g ad0 ad C ⟨s1, s2, s3, s4, hl, (hw s6 s7).1, (hw s6 s7).2, s8, s9⟩ h1 h2)
theorem k_mask (bs : List Bool) {lo' : List (Option Value)} (he : q_mk bs lo = lo') (k : q_K X l d Y mc ms Q QX n0 pc lo' st h kc ks) : q_K X l d Y mc ms Q QX n0 pc lo st h kc ks := by
  subst he
  refine qk_loc (fun a b => ⟨fun v hv => ?_, b⟩) (fun p e R s m args below meth c H locs cells slots ls g ad Qf hx hb o k => k ls ⟨o.1, o.2.1, fun i v hi => o.2.2 i v (q_mk_at _ _ _ _ hi)⟩) k
  obtain ⟨i, hi⟩ := List.getElem?_of_mem hv
  exact a v (List.mem_of_getElem? (q_mk_at _ _ _ _ hi))
theorem k_istore_n {n : Fin 4} {i : Nat} {z : Int32} {lo' : List (Option Value)} (hd : decode Y.2.1 pc = .ok (.istore_n n, 1)) (hi : (n : Nat) = i) (hn : i < Y.2.2.1) (ho : q_ok1 lo i = true) (he : lo.set i (some (.int z)) = lo') (k : q_K X l d Y mc ms Q QX n0 (pc + 1) lo' st h kc ks) : q_K X l d Y mc ms Q QX n0 pc lo (.int z :: st) h kc ks := by
  subst he
  exact qk_loc (fun a b => ⟨q_lset (q_wi _ _) a, q_tl b⟩) (fun p e R s m args below meth c H locs cells slots ls g ad Qf hx hb o k => lv_istore_n hx hb hd hi (q_lo_has o) hn rfl (fun ls' hl => k ls' (q_lo_st1 ho hl))) k
theorem k_istore {i : Nat} {z : Int32} {lo' : List (Option Value)} (hd : decode Y.2.1 pc = .ok (.istore i, 2)) (hn : i < Y.2.2.1) (ho : q_ok1 lo i = true) (he : lo.set i (some (.int z)) = lo') (k : q_K X l d Y mc ms Q QX n0 (pc + 2) lo' st h kc ks) : q_K X l d Y mc ms Q QX n0 pc lo (.int z :: st) h kc ks := by
  subst he
  exact qk_loc (fun a b => ⟨q_lset (q_wi _ _) a, q_tl b⟩) (fun p e R s m args below meth c H locs cells slots ls g ad Qf hx hb o k => lv_istore hx hb hd (q_lo_has o) hn rfl (fun ls' hl => k ls' (q_lo_st1 ho hl))) k
theorem k_astore_n {n : Fin 4} {i : Nat} {z : Nat} {lo' : List (Option Value)} (hd : decode Y.2.1 pc = .ok (.astore_n n, 1)) (hi : (n : Nat) = i) (hn : i < Y.2.2.1) (ho : q_ok1 lo i = true) (he : lo.set i (some (.ref z)) = lo') (k : q_K X l d Y mc ms Q QX n0 (pc + 1) lo' st h kc ks) : q_K X l d Y mc ms Q QX n0 pc lo (.ref z :: st) h kc ks := by
  subst he
  exact qk_loc (fun a b => ⟨q_lset (q_hd b) a, q_tl b⟩) (fun p e R s m args below meth c H locs cells slots ls g ad Qf hx hb o k => lv_astore_n hx hb hd hi (q_lo_has o) hn rfl (fun ls' hl => k ls' (q_lo_st1 (v := .ref z) ho hl))) k
theorem k_astore {i : Nat} {z : Nat} {lo' : List (Option Value)} (hd : decode Y.2.1 pc = .ok (.astore i, 2)) (hn : i < Y.2.2.1) (ho : q_ok1 lo i = true) (he : lo.set i (some (.ref z)) = lo') (k : q_K X l d Y mc ms Q QX n0 (pc + 2) lo' st h kc ks) : q_K X l d Y mc ms Q QX n0 pc lo (.ref z :: st) h kc ks := by
  subst he
  exact qk_loc (fun a b => ⟨q_lset (q_hd b) a, q_tl b⟩) (fun p e R s m args below meth c H locs cells slots ls g ad Qf hx hb o k => lv_astore hx hb hd (q_lo_has o) hn rfl (fun ls' hl => k ls' (q_lo_st1 (v := .ref z) ho hl))) k
theorem k_astore_nN {n : Fin 4} {i : Nat} {lo' : List (Option Value)} (hd : decode Y.2.1 pc = .ok (.astore_n n, 1)) (hi : (n : Nat) = i) (hn : i < Y.2.2.1) (ho : q_ok1 lo i = true) (he : lo.set i (some .null) = lo') (k : q_K X l d Y mc ms Q QX n0 (pc + 1) lo' st h kc ks) : q_K X l d Y mc ms Q QX n0 pc lo (.null :: st) h kc ks := by
  subst he
  exact qk_loc (fun a b => ⟨q_lset (q_wn _) a, q_tl b⟩) (fun p e R s m args below meth c H locs cells slots ls g ad Qf hx hb o k => lv_astore_nN hx hb hd hi (q_lo_has o) hn rfl (fun ls' hl => k ls' (q_lo_st1 (v := .null) ho hl))) k
theorem k_lstore_n {n : Fin 4} {i : Nat} {z : Int64} {lo' : List (Option Value)} (hd : decode Y.2.1 pc = .ok (.lstore_n n, 1)) (hi : (n : Nat) = i) (hn : i + 1 < Y.2.2.1) (ho : q_ok1 lo i = true) (he : (lo.set i (some (.long z))).set (i + 1) none = lo') (k : q_K X l d Y mc ms Q QX n0 (pc + 1) lo' st h kc ks) : q_K X l d Y mc ms Q QX n0 pc lo (.long z :: st) h kc ks := by
  subst he
  exact qk_loc (fun a b => ⟨q_lset0 (q_lset (q_wl _ _) a), q_tl b⟩) (fun p e R s m args below meth c H locs cells slots ls g ad Qf hx hb o k => lv_lstore_n hx hb hd hi (q_lo_has o) hn rfl (fun ls' hl => k ls' (q_lo_st2 ho hl))) k
theorem k_lstore {i : Nat} {z : Int64} {lo' : List (Option Value)} (hd : decode Y.2.1 pc = .ok (.lstore i, 2)) (hn : i + 1 < Y.2.2.1) (ho : q_ok1 lo i = true) (he : (lo.set i (some (.long z))).set (i + 1) none = lo') (k : q_K X l d Y mc ms Q QX n0 (pc + 2) lo' st h kc ks) : q_K X l d Y mc ms Q QX n0 pc lo (.long z :: st) h kc ks := by
  subst he
  exact qk_loc (fun a b => ⟨q_lset0 (q_lset (q_wl _ _) a), q_tl b⟩) (fun p e R s m args below meth c H locs cells slots ls g ad Qf hx hb o k => lv_lstore hx hb hd (q_lo_has o) hn rfl (fun ls' hl => k ls' (q_lo_st2 ho hl))) k
theorem k_iinc {i : Nat} {n : Int} {z w : Int32} {lo' : List (Option Value)} (hd : decode Y.2.1 pc = .ok (.iinc i n, 3)) (hl : lo[i]? = some (some (.int z))) (hv : z + Int32.ofInt n = w) (hn : i < Y.2.2.1) (ho : q_ok1 lo i = true) (he : lo.set i (some (.int w)) = lo') (k : q_K X l d Y mc ms Q QX n0 (pc + 3) lo' st h kc ks) : q_K X l d Y mc ms Q QX n0 pc lo st h kc ks := by
  subst he
  refine qk_loc (fun a b => ⟨q_lset (q_wi _ _) a, b⟩) (fun p e R s m args below meth c H locs cells slots ls g ad Qf hx hb o k => ?_) k
  obtain ⟨j, hj⟩ := List.getElem?_of_mem (q_as_mem (g := g) (ad := ad) (lo := lo) (i := i) (w := .int z) |>.mpr ⟨_, hl, rfl⟩)
  exact lv_iinc hx hb hd (q_lo_has o) hj hv hn rfl (fun ls' hl => k ls' (q_lo_st1 ho hl))
theorem k_getf {ci k idx i N : Nat} {C : String} {T : u_T} {fs : List Value} {v : Value} (hc : q_cl ci C T N) (hk : k < N) (hl : Cond.fieldLink Y.1.cls idx (T k).1 (T k).2.1 (T k).2.2.1 ∈ q_W) (hd : decode Y.2.1 pc = .ok (.getfield idx, 3)) (hh : h.1 i = .inr (ci, fs)) (hv : fs[k]? = some v)
    (kk : q_K X l d Y mc ms Q QX n0 (pc + 3) lo (v :: st) h kc ks) : q_K X l d Y mc ms Q QX n0 pc lo (.ref i :: st) h kc ks := by
  intro p e s m args below meth c H locs cells slots ls g ad0 ad C0 S h1 h2
  obtain ⟨s1, s2, s3, s4, s5, s6, s7, s8, s9⟩ := S
  obtain ⟨c1, c2, c3, c4, c5, c6, c7, c8, c9, c10, c11, c12⟩ := id C0.1
  have hi : i < h.2 := s7 _ List.mem_cons_self i rfl
  have hw := s3 i hi
  rw [hh] at hw
  refine va_get (D := g.1) (ci := ci) (cl := vwCl) (Ts := q_W) (v := q_tv g ad v) c1 c2 c8 hc.2 c5 c10 s1 i (fs := fs.map (q_tv g ad)) ?_ hc.1 k hk (c8 _ hl) (fun x hx => hx) ?_ hd ?_
  · rw [q_ws_get hi, hh]; rfl
  · rw [List.getElem?_map, hv]; rfl
  · exact kk p e s m args below meth c H locs cells slots ls g ad0 ad C0 ⟨s1, s2, s3, s4, s5, s6, q_cn (hw v (List.mem_of_getElem? hv)) (q_tl s7), s8, s9⟩ h1 h2
theorem k_getfN {ci k idx i N : Nat} {C host : String} {T : u_T} {fs : List Value} {v : Value} (hc : q_cl ci C T N) (hk : k < N) (hl : Cond.fieldLinkNest Y.1.cls idx (T k).1 (T k).2.1 (T k).2.2.1 host ∈ q_N) (hd : decode Y.2.1 pc = .ok (.getfield idx, 3)) (hh : h.1 i = .inr (ci, fs)) (hv : fs[k]? = some v)
    (kk : q_K X l d Y mc ms Q QX n0 (pc + 3) lo (v :: st) h kc ks) : q_K X l d Y mc ms Q QX n0 pc lo (.ref i :: st) h kc ks := by
  intro p e s m args below meth c H locs cells slots ls g ad0 ad C0 S h1 h2
  obtain ⟨s1, s2, s3, s4, s5, s6, s7, s8, s9⟩ := S
  obtain ⟨c1, c2, c3, c4, c5, c6, c7, c8, c9, c10, c11, c12⟩ := id C0.1
  have hi : i < h.2 := s7 _ List.mem_cons_self i rfl
  have hw := s3 i hi
  rw [hh] at hw
  refine va_getN (D := g.1) (ci := ci) (cl := vwCl) (Ts := q_W) (v := q_tv g ad v) c1 c2 c8 hc.2 c5 c10 s1 i (fs := fs.map (q_tv g ad)) ?_ hc.1 k hk (va_Nw.use rfl (c11.2.2.2.2.1 _ hl)) (fun x hx => hx) ?_ hd ?_
  · rw [q_ws_get hi, hh]; rfl
  · rw [List.getElem?_map, hv]; rfl
  · exact kk p e s m args below meth c H locs cells slots ls g ad0 ad C0 ⟨s1, s2, s3, s4, s5, s6, q_cn (hw v (List.mem_of_getElem? hv)) (q_tl s7), s8, s9⟩ h1 h2
theorem k_put {ci k idx i N : Nat} {C : String} {T : u_T} {ty0 : Nat → FieldType} {fs : List Value} {v : Value} (hc : q_cl ci C T N) (hp : q_pf T N k ty0 false) (hl : Cond.fieldLink Y.1.cls idx (T k).1 (T k).2.1 (T k).2.2.1 ∈ q_W) (hd : decode Y.2.1 pc = .ok (.putfield idx, 3))
    (hn : ∀ (g : qG) (ad : Nat → Nat), narrow (ty0 k) (q_tv g ad v) = q_tv g ad v ∧ fits (ty0 k) (q_tv g ad v) = true) (hh : h.1 i = .inr (ci, fs)) (hlen : k < fs.length)
    (kk : q_K X l d Y mc ms Q QX n0 (pc + 3) lo st (q_set h i (.inr (ci, fs.set k v))) kc ks) : q_K X l d Y mc ms Q QX n0 pc lo (v :: .ref i :: st) h kc ks := by
  intro p e s m args below meth c H locs cells slots ls g ad0 ad C0 S h1 h2
  obtain ⟨s1, s2, s3, s4, s5, s6, s7, s8, s9⟩ := S
  obtain ⟨c1, c2, c3, c4, c5, c6, c7, c8, c9, c10, c11, c12⟩ := id C0.1
  have hi : i < h.2 := s7 _ (List.mem_cons_of_mem _ List.mem_cons_self) i rfl
  have hw := s3 i hi
  rw [hh] at hw
  refine va_put (D := g.1) (ci := ci) (cl := vwCl) (Ts := q_W) (v := q_tv g ad v) c1 c2 c8 hc.2 ty0 hp.2.1 hp.2.2.1 c5 c10 s1 s2 s4 i (fs := fs.map (q_tv g ad)) ?_ hc.1 k hp.1 (c8 _ hl) (fun x hx => hx) hp.2.2.2 (hp.2.1 k hp.1) (hn g ad).1 (hn g ad).2 (by rw [List.length_map]; exact hlen) hd (fun H1 locs1 hP1 hD1 hS1 => ?_)
  · rw [q_ws_get hi, hh]; rfl
  · have e9 : ((q_ws g ad h).set i (ad i, .inr (ci, (fs.map (q_tv g ad)).set k (q_tv g ad v)))) = q_ws g ad (q_set h i (.inr (ci, fs.set k v))) := by
      rw [← q_ws_set hi]
      show _ = (q_ws g ad h).set i (ad i, .inr (ci, (fs.set k v).map (q_tv g ad)))
      rw [List.map_set]
    rw [e9] at hP1 hD1
    exact kk p e s m args below meth c H1 locs1 cells slots ls g ad0 ad C0 ⟨hP1, hD1, q_wh_set s3 (fun w hm => (List.mem_or_eq_of_mem_set hm).elim (hw w) (fun q => q ▸ q_hd s7)), hS1, s5, s6, q_tl (q_tl s7), s8, s9⟩ h1 h2
theorem k_putN {ci k idx i N : Nat} {C host : String} {T : u_T} {ty0 : Nat → FieldType} {fs : List Value} {v : Value} (hc : q_cl ci C T N) (hp : q_pf T N k ty0 false) (hl : Cond.fieldLinkNest Y.1.cls idx (T k).1 (T k).2.1 (T k).2.2.1 host ∈ q_N) (hd : decode Y.2.1 pc = .ok (.putfield idx, 3))
    (hn : ∀ (g : qG) (ad : Nat → Nat), narrow (ty0 k) (q_tv g ad v) = q_tv g ad v ∧ fits (ty0 k) (q_tv g ad v) = true) (hh : h.1 i = .inr (ci, fs)) (hlen : k < fs.length)
    (kk : q_K X l d Y mc ms Q QX n0 (pc + 3) lo st (q_set h i (.inr (ci, fs.set k v))) kc ks) : q_K X l d Y mc ms Q QX n0 pc lo (v :: .ref i :: st) h kc ks := by
  intro p e s m args below meth c H locs cells slots ls g ad0 ad C0 S h1 h2
  obtain ⟨s1, s2, s3, s4, s5, s6, s7, s8, s9⟩ := S
  obtain ⟨c1, c2, c3, c4, c5, c6, c7, c8, c9, c10, c11, c12⟩ := id C0.1
  have hi : i < h.2 := s7 _ (List.mem_cons_of_mem _ List.mem_cons_self) i rfl
  have hw := s3 i hi
  rw [hh] at hw
  refine va_putN (D := g.1) (ci := ci) (cl := vwCl) (Ts := q_W) (v := q_tv g ad v) c1 c2 c8 hc.2 ty0 hp.2.1 hp.2.2.1 c5 c10 s1 s2 s4 i (fs := fs.map (q_tv g ad)) ?_ hc.1 k hp.1 (va_Nw.use rfl (c11.2.2.2.2.1 _ hl)) (fun x hx => hx) hp.2.2.2 (hp.2.1 k hp.1) (hn g ad).1 (hn g ad).2 (by rw [List.length_map]; exact hlen) hd (fun H1 locs1 hP1 hD1 hS1 => ?_)
  · rw [q_ws_get hi, hh]; rfl
  · have e9 : ((q_ws g ad h).set i (ad i, .inr (ci, (fs.map (q_tv g ad)).set k (q_tv g ad v)))) = q_ws g ad (q_set h i (.inr (ci, fs.set k v))) := by
      rw [← q_ws_set hi]
      show _ = (q_ws g ad h).set i (ad i, .inr (ci, (fs.set k v).map (q_tv g ad)))
      rw [List.map_set]
    rw [e9] at hP1 hD1
    exact kk p e s m args below meth c H1 locs1 cells slots ls g ad0 ad C0 ⟨hP1, hD1, q_wh_set s3 (fun w hm => (List.mem_or_eq_of_mem_set hm).elim (hw w) (fun q => q ▸ q_hd s7)), hS1, s5, s6, q_tl (q_tl s7), s8, s9⟩ h1 h2
theorem k_putF {ci k idx i N : Nat} {C : String} {T : u_T} {ty0 : Nat → FieldType} {fs : List Value} {v : Value} (hc : q_cl ci C T N) (hp : q_pf T N k ty0 true) (hl : Cond.fieldLink Y.1.cls idx (T k).1 (T k).2.1 (T k).2.2.1 ∈ q_W) (hd : decode Y.2.1 pc = .ok (.putfield idx, 3)) (hin : Y.1.name = "<init>") (hdc : (T k).1 = Y.1.cls)
    (hn : ∀ (g : qG) (ad : Nat → Nat), narrow (ty0 k) (q_tv g ad v) = q_tv g ad v ∧ fits (ty0 k) (q_tv g ad v) = true) (hh : h.1 i = .inr (ci, fs)) (hlen : k < fs.length)
    (kk : q_K X l d Y mc ms Q QX n0 (pc + 3) lo st (q_set h i (.inr (ci, fs.set k v))) kc ks) : q_K X l d Y mc ms Q QX n0 pc lo (v :: .ref i :: st) h kc ks := by
  intro p e s m args below meth c H locs cells slots ls g ad0 ad C0 S h1 h2
  obtain ⟨s1, s2, s3, s4, s5, s6, s7, s8, s9⟩ := S
  obtain ⟨c1, c2, c3, c4, c5, c6, c7, c8, c9, c10, c11, c12⟩ := id C0.1
  have hi : i < h.2 := s7 _ (List.mem_cons_of_mem _ List.mem_cons_self) i rfl
  have hw := s3 i hi
  rw [hh] at hw
  refine va_putF (D := g.1) (ci := ci) (cl := vwCl) (Ts := q_W) (v := q_tv g ad v) c1 c2 c8 hc.2 ty0 hp.2.1 hp.2.2.1 c5 c10 s1 s2 s4 i (fs := fs.map (q_tv g ad)) ?_ hc.1 k hp.1 (c8 _ hl) (fun x hx => hx) hp.2.2.2 (c7.trans hin) hdc (hp.2.1 k hp.1) (hn g ad).1 (hn g ad).2 (by rw [List.length_map]; exact hlen) hd (fun H1 locs1 hP1 hD1 hS1 => ?_)
  · rw [q_ws_get hi, hh]; rfl
  · have e9 : ((q_ws g ad h).set i (ad i, .inr (ci, (fs.map (q_tv g ad)).set k (q_tv g ad v)))) = q_ws g ad (q_set h i (.inr (ci, fs.set k v))) := by
      rw [← q_ws_set hi]
      show _ = (q_ws g ad h).set i (ad i, .inr (ci, (fs.set k v).map (q_tv g ad)))
      rw [List.map_set]
    rw [e9] at hP1 hD1
    exact kk p e s m args below meth c H1 locs1 cells slots ls g ad0 ad C0 ⟨hP1, hD1, q_wh_set s3 (fun w hm => (List.mem_or_eq_of_mem_set hm).elim (hw w) (fun q => q ▸ q_hd s7)), hS1, s5, s6, q_tl (q_tl s7), s8, s9⟩ h1 h2
theorem k_iald {i N : Nat} {f : Nat → Int32} {z : Int32} (hd : decode Y.2.1 pc = .ok (.iaload, 1)) (hh : h.1 i = .inl (0, (N, .inl f))) (hin : vp_in z N)
    (kk : q_K X l d Y mc ms Q QX n0 (pc + 1) lo (.int (f z.toNatClampNeg) :: st) h kc ks) : q_K X l d Y mc ms Q QX n0 pc lo (.int z :: .ref i :: st) h kc ks := by
  intro p e s m args below meth c H locs cells slots ls g ad0 ad C0 S h1 h2
  obtain ⟨s1, s2, s3, s4, s5, s6, s7, s8, s9⟩ := S
  obtain ⟨c1, c2, c3, c4, c5, c6, c7, c8, c9, c10, c11, c12⟩ := id C0.1
  have hi : i < h.2 := s7 _ (List.mem_cons_of_mem _ List.mem_cons_self) i rfl
  refine va_iald (D := g.1) (cl := vwCl) c1 c2 c10 s1 i 0 (cA := g.2.1 0) (n := N) (f := f) ?_ rfl hin hd ?_
  · rw [q_ws_get hi, hh]; rfl
  · exact kk p e s m args below meth c H locs cells slots ls g ad0 ad C0 ⟨s1, s2, s3, s4, s5, s6, q_cn (q_wi _ _) (q_tl (q_tl s7)), s8, s9⟩ h1 h2
theorem k_zald {i N : Nat} {f : Nat → Int32} {z : Int32} (hd : decode Y.2.1 pc = .ok (.baload, 1)) (hh : h.1 i = .inl (2, (N, .inl f))) (hin : vp_in z N)
    (kk : q_K X l d Y mc ms Q QX n0 (pc + 1) lo (.int (f z.toNatClampNeg) :: st) h kc ks) : q_K X l d Y mc ms Q QX n0 pc lo (.int z :: .ref i :: st) h kc ks := by
  intro p e s m args below meth c H locs cells slots ls g ad0 ad C0 S h1 h2
  obtain ⟨s1, s2, s3, s4, s5, s6, s7, s8, s9⟩ := S
  obtain ⟨c1, c2, c3, c4, c5, c6, c7, c8, c9, c10, c11, c12⟩ := id C0.1
  have hi : i < h.2 := s7 _ (List.mem_cons_of_mem _ List.mem_cons_self) i rfl
  refine va_zald (D := g.1) (cl := vwCl) c1 c2 c10 s1 i 2 (cA := g.2.1 2) (n := N) (f := f) ?_ rfl hin hd ?_
  · rw [q_ws_get hi, hh]; rfl
  · exact kk p e s m args below meth c H locs cells slots ls g ad0 ad C0 ⟨s1, s2, s3, s4, s5, s6, q_cn (q_wi _ _) (q_tl (q_tl s7)), s8, s9⟩ h1 h2
theorem k_iast {i N : Nat} {f : Nat → Int32} {z w : Int32} (hd : decode Y.2.1 pc = .ok (.iastore, 1)) (hh : h.1 i = .inl (0, (N, .inl f))) (hin : vp_in z N)
    (kk : q_K X l d Y mc ms Q QX n0 (pc + 1) lo st (q_set h i (.inl (0, (N, .inl (upd f z.toNatClampNeg w))))) kc ks) : q_K X l d Y mc ms Q QX n0 pc lo (.int w :: .int z :: .ref i :: st) h kc ks := by
  intro p e s m args below meth c H locs cells slots ls g ad0 ad C0 S h1 h2
  obtain ⟨s1, s2, s3, s4, s5, s6, s7, s8, s9⟩ := S
  obtain ⟨c1, c2, c3, c4, c5, c6, c7, c8, c9, c10, c11, c12⟩ := id C0.1
  have hi : i < h.2 := s7 _ (List.mem_cons_of_mem _ (List.mem_cons_of_mem _ List.mem_cons_self)) i rfl
  refine va_iast (D := g.1) (cl := vwCl) c1 c2 c10 s1 s2 s4 i 0 (cA := g.2.1 0) (n := N) (f := f) ?_ rfl hin hd (fun H1 locs1 hP1 hD1 hS1 => ?_)
  · rw [q_ws_get hi, hh]; rfl
  · have e9 := q_ws_set (g := g) (ad := ad) (c := .inl (0, (N, .inl (upd f z.toNatClampNeg w)))) hi
    rw [show (q_ws g ad h).set i (ad i, .inl (g.2.1 0, N, .inl (upd f z.toNatClampNeg w))) = _ from e9] at hP1 hD1
    exact kk p e s m args below meth c H1 locs1 cells slots ls g ad0 ad C0 ⟨hP1, hD1, q_wh_set s3 trivial, hS1, s5, s6, q_tl (q_tl (q_tl s7)), s8, s9⟩ h1 h2
theorem k_zast {i N : Nat} {f : Nat → Int32} {z w : Int32} (hd : decode Y.2.1 pc = .ok (.bastore, 1)) (hh : h.1 i = .inl (2, (N, .inl f))) (hin : vp_in z N) (hw : w = 0 ∨ w = 1)
    (kk : q_K X l d Y mc ms Q QX n0 (pc + 1) lo st (q_set h i (.inl (2, (N, .inl (upd f z.toNatClampNeg w))))) kc ks) : q_K X l d Y mc ms Q QX n0 pc lo (.int w :: .int z :: .ref i :: st) h kc ks := by
  intro p e s m args below meth c H locs cells slots ls g ad0 ad C0 S h1 h2
  obtain ⟨s1, s2, s3, s4, s5, s6, s7, s8, s9⟩ := S
  obtain ⟨c1, c2, c3, c4, c5, c6, c7, c8, c9, c10, c11, c12⟩ := id C0.1
  have hi : i < h.2 := s7 _ (List.mem_cons_of_mem _ (List.mem_cons_of_mem _ List.mem_cons_self)) i rfl
  refine va_zast (D := g.1) (cl := vwCl) c1 c2 c10 s1 s2 s4 i 2 (cA := g.2.1 2) (n := N) (f := f) ?_ rfl hin hd (fun H1 locs1 hP1 hD1 hS1 => ?_)
  · rw [q_ws_get hi, hh]; rfl
  · have e9 := q_ws_set (g := g) (ad := ad) (c := .inl (2, (N, .inl (upd f z.toNatClampNeg w)))) hi
    rw [q_narZ hw] at hP1 hD1
    rw [show (q_ws g ad h).set i (ad i, .inl (g.2.1 2, N, .inl (upd f z.toNatClampNeg w))) = _ from e9] at hP1 hD1
    exact kk p e s m args below meth c H1 locs1 cells slots ls g ad0 ad C0 ⟨hP1, hD1, q_wh_set s3 trivial, hS1, s5, s6, q_tl (q_tl (q_tl s7)), s8, s9⟩ h1 h2
theorem k_alen {i t0 N : Nat} {x : vp_A} {z : Int32} (hd : decode Y.2.1 pc = .ok (.arraylength, 1)) (hh : h.1 i = .inl (t0, x)) (ht : t0 < 5) (hz : Int32.ofNat x.1 = z)
    (kk : q_K X l d Y mc ms Q QX n0 (pc + 1) lo (.int z :: st) h kc ks) : q_K X l d Y mc ms Q QX n0 pc lo (.ref i :: st) h kc ks := by
  intro p e s m args below meth c H locs cells slots ls g ad0 ad C0 S h1 h2
  obtain ⟨s1, s2, s3, s4, s5, s6, s7, s8, s9⟩ := S
  obtain ⟨c1, c2, c3, c4, c5, c6, c7, c8, c9, c10, c11, c12⟩ := id C0.1
  have hi : i < h.2 := s7 _ List.mem_cons_self i rfl
  have hx : (q_ta ad x).1 = x.1 := by
    obtain ⟨N, f | f | f | f | f⟩ := x <;> rfl
  have htt : ∃ ty, (q_ty g)[t0]? = some (g.2.1 t0, ty) := by
    match t0, ht with
    | 0, _ => exact ⟨_, rfl⟩
    | 1, _ => exact ⟨_, rfl⟩
    | 2, _ => exact ⟨_, rfl⟩
    | 3, _ => exact ⟨_, rfl⟩
    | 4, _ => exact ⟨_, rfl⟩
  obtain ⟨ty, hty⟩ := htt
  refine va_alen (D := g.1) (cl := vwCl) (x := q_ta ad x) (v := z) c1 c2 c10 s1 i t0 ?_ hty (by rw [hx]; exact hz) hd ?_
  · rw [q_ws_get hi, hh]; rfl
  · exact kk p e s m args below meth c H locs cells slots ls g ad0 ad C0 ⟨s1, s2, s3, s4, s5, s6, q_cn (q_wi _ _) (q_tl s7), s8, s9⟩ h1 h2
theorem k_gets {k idx : Nat} (hk : k < 4) (hl : Cond.fieldLink Y.1.cls idx (q_sC k).1 (q_sC k).2 "[I" ∈ q_W) (hd : decode Y.2.1 pc = .ok (.getstatic idx, 3))
    (kk : q_K X l d Y mc ms Q QX n0 (pc + 3) lo (.float (UInt32.ofNat k) :: st) h kc ks) : q_K X l d Y mc ms Q QX n0 pc lo st h kc ks := by
  intro p e s m args below meth c H locs cells slots ls g ad0 ad C0 S h1 h2
  obtain ⟨s1, s2, s3, s4, s5, s6, s7, s8, s9⟩ := S
  obtain ⟨c1, c2, c3, c4, c5, c6, c7, c8, c9, c10, c11, c12⟩ := id C0.1
  have e9 : (UInt32.ofNat k).toNat = k := by
    match k, hk with
    | 0, _ => rfl
    | 1, _ => rfl
    | 2, _ => rfl
    | 3, _ => rfl
  refine va_gets c1 c2 (c11.1 k hk).1 s4 c5 (c8 _ hl) (fun x hx => hx) hd ?_
  have h9 := kk p e s m args below meth c H locs cells slots ls g ad0 ad C0 ⟨s1, s2, s3, s4, s5, s6, q_cn (q_wf _ _) s7, s8, s9⟩ h1 h2
  rw [List.map_cons, show q_tv g ad (.float (UInt32.ofNat k)) = .ref (g.2.2.1 k) by show Value.ref _ = _; rw [e9]] at h9
  exact h9
theorem k_sald {k : Nat} {z : Int32} (hk : k < 4) (hd : decode Y.2.1 pc = .ok (.iaload, 1)) (hin : vp_in z 8)
    (kk : q_K X l d Y mc ms Q QX n0 (pc + 1) lo (.int (q_sF k z.toNatClampNeg) :: st) h kc ks) : q_K X l d Y mc ms Q QX n0 pc lo (.int z :: .float (UInt32.ofNat k) :: st) h kc ks := by
  intro p e s m args below meth c H locs cells slots ls g ad0 ad C0 S h1 h2
  obtain ⟨s1, s2, s3, s4, s5, s6, s7, s8, s9⟩ := S
  obtain ⟨c1, c2, c3, c4, c5, c6, c7, c8, c9, c10, c11, c12⟩ := id C0.1
  have e9 : (UInt32.ofNat k).toNat = k := by
    match k, hk with
    | 0, _ => rfl
    | 1, _ => rfl
    | 2, _ => rfl
    | 3, _ => rfl
  rw [List.map_cons, List.map_cons, show q_tv g ad (.float (UInt32.ofNat k)) = .ref (g.2.2.1 k) by show Value.ref _ = _; rw [e9]]
  refine va_ti (v := .int (q_sF k z.toNatClampNeg)) c1 c2 (c11.1 k hk).2 s4 hin rfl hd ?_
  exact kk p e s m args below meth c H locs cells slots ls g ad0 ad C0 ⟨s1, s2, s3, s4, s5, s6, q_cn (q_wi _ _) (q_tl (q_tl s7)), s8, s9⟩ h1 h2
theorem k_getsN {k idx : Nat} {host : String} (hk : k < 4) (hl : Cond.fieldLinkNest Y.1.cls idx (q_sC k).1 (q_sC k).2 "[I" host ∈ q_N) (hd : decode Y.2.1 pc = .ok (.getstatic idx, 3))
    (kk : q_K X l d Y mc ms Q QX n0 (pc + 3) lo (.float (UInt32.ofNat k) :: st) h kc ks) : q_K X l d Y mc ms Q QX n0 pc lo st h kc ks := by
  intro p e s m args below meth c H locs cells slots ls g ad0 ad C0 S h1 h2
  obtain ⟨s1, s2, s3, s4, s5, s6, s7, s8, s9⟩ := S
  obtain ⟨c1, c2, c3, c4, c5, c6, c7, c8, c9, c10, c11, c12⟩ := id C0.1
  have e9 : (UInt32.ofNat k).toNat = k := by
    match k, hk with
    | 0, _ => rfl
    | 1, _ => rfl
    | 2, _ => rfl
    | 3, _ => rfl
  refine va_getsN c1 c2 (c11.1 k hk).1 s4 c5 (va_Nw.use rfl (c11.2.2.2.2.1 _ hl)) (fun x hx => hx) hd ?_
  have h9 := kk p e s m args below meth c H locs cells slots ls g ad0 ad C0 ⟨s1, s2, s3, s4, s5, s6, q_cn (q_wf _ _) s7, s8, s9⟩ h1 h2
  rw [List.map_cons, show q_tv g ad (.float (UInt32.ofNat k)) = .ref (g.2.2.1 k) by show Value.ref _ = _; rw [e9]] at h9
  exact h9
theorem k_aald {i t0 N : Nat} {f : Nat → Option Nat} {z : Int32} {C : String} {v : Value} (hd : decode Y.2.1 pc = .ok (.aaload, 1)) (hh : h.1 i = .inl (3, (N, .inr (.inr (.inr (.inr f)))))) (hin : vp_in z N) (hv : v = match f z.toNatClampNeg with | some j => .ref j | none => .null)
    (kk : q_K X l d Y mc ms Q QX n0 (pc + 1) lo (v :: st) h kc ks) : q_K X l d Y mc ms Q QX n0 pc lo (.int z :: .ref i :: st) h kc ks := by
  intro p e s m args below meth c H locs cells slots ls g ad0 ad C0 S h1 h2
  obtain ⟨s1, s2, s3, s4, s5, s6, s7, s8, s9⟩ := S
  obtain ⟨c1, c2, c3, c4, c5, c6, c7, c8, c9, c10, c11, c12⟩ := id C0.1
  have hi : i < h.2 := s7 _ (List.mem_cons_of_mem _ List.mem_cons_self) i rfl
  have hw := s3 i hi
  rw [hh] at hw
  refine va_aldq (D := g.1) (cl := vwCl) c1 c2 c10 s1 i 3 (cA := g.2.1 3) (C := "RoverPlanner$Mark") (n := N) (f := fun k => (f k).map ad) ?_ rfl hin hd ?_
  · rw [q_ws_get hi, hh]; rfl
  · have e9 : va_rf ((f z.toNatClampNeg).map ad) = q_tv g ad v := by
      subst hv
      cases f z.toNatClampNeg <;> rfl
    have hwv : q_wv h.2 v := by
      subst hv
      cases hf : f z.toNatClampNeg with
      | none => exact q_wn _
      | some j => exact q_wr (hw _ _ hf)
    have h9 := kk p e s m args below meth c H locs cells slots ls g ad0 ad C0 ⟨s1, s2, s3, s4, s5, s6, q_cn hwv (q_tl (q_tl s7)), s8, s9⟩ h1 h2
    rw [List.map_cons, ← e9] at h9
    exact h9
theorem k_aaldA {i N : Nat} {f : Nat → Option Nat} {z : Int32} {j : Nat} (hd : decode Y.2.1 pc = .ok (.aaload, 1)) (hh : h.1 i = .inl (4, (N, .inr (.inr (.inr (.inr f)))))) (hin : vp_in z N) (hv : f z.toNatClampNeg = some j)
    (kk : q_K X l d Y mc ms Q QX n0 (pc + 1) lo (.ref j :: st) h kc ks) : q_K X l d Y mc ms Q QX n0 pc lo (.int z :: .ref i :: st) h kc ks := by
  intro p e s m args below meth c H locs cells slots ls g ad0 ad C0 S h1 h2
  obtain ⟨s1, s2, s3, s4, s5, s6, s7, s8, s9⟩ := S
  obtain ⟨c1, c2, c3, c4, c5, c6, c7, c8, c9, c10, c11, c12⟩ := id C0.1
  have hi : i < h.2 := s7 _ (List.mem_cons_of_mem _ List.mem_cons_self) i rfl
  have hw := s3 i hi
  rw [hh] at hw
  have hlt : z.toNatClampNeg < N := Nat.not_le.mp fun q => hin (Or.inr q)
  have ha : (q_ws g ad h)[i]? = some (ad i, .inl (g.2.1 4, N, .inr (.inr (.inr (.inr (fun k => (f k).map ad)))))) := by rw [q_ws_get hi, hh]; rfl
  have ht : (q_ty g)[4]? = some (g.2.1 4, .array .int) := rfl
  refine W.aald (v := va_rf ((f z.toNatClampNeg).map ad)) (ty := .array .int) c1 c2 (s1 i _ ha) ((c10.2 4 _ ht).1 N (fun j => va_rf ((f j).map ad))) rfl (fun q => by cases q) (by show ¬ (z < 0 ∨ (arrV _ _ _).slots.size ≤ _); rw [arrV_size]; exact hin) (by show (arrV _ _ _).slots[_]? = _; rw [arrV_read _ _ hlt]) rfl rfl hd ?_
  rw [hv]
  exact kk p e s m args below meth c H locs cells slots ls g ad0 ad C0 ⟨s1, s2, s3, s4, s5, s6, q_cn (q_wr (hw _ _ hv)) (q_tl (q_tl s7)), s8, s9⟩ h1 h2
theorem k_aast {i N ci j N1 : Nat} {f : Nat → Option Nat} {z : Int32} {T : u_T} {fs : List Value} (hd : decode Y.2.1 pc = .ok (.aastore, 1)) (hh : h.1 i = .inl (3, (N, .inr (.inr (.inr (.inr f)))))) (hj : h.1 j = .inr (ci, fs)) (hc : vwCl[ci]? = some ("RoverPlanner$Mark", T, N1)) (hin : vp_in z N)
    (kk : q_K X l d Y mc ms Q QX n0 (pc + 1) lo st (q_set h i (.inl (3, (N, .inr (.inr (.inr (.inr (va_up f z.toNatClampNeg (some j))))))))) kc ks) : q_K X l d Y mc ms Q QX n0 pc lo (.ref j :: .int z :: .ref i :: st) h kc ks := by
  intro p e s m args below meth c H locs cells slots ls g ad0 ad C0 S h1 h2
  obtain ⟨s1, s2, s3, s4, s5, s6, s7, s8, s9⟩ := S
  obtain ⟨c1, c2, c3, c4, c5, c6, c7, c8, c9, c10, c11, c12⟩ := id C0.1
  have hi : i < h.2 := s7 _ (List.mem_cons_of_mem _ (List.mem_cons_of_mem _ List.mem_cons_self)) i rfl
  have hjj : j < h.2 := s7 _ List.mem_cons_self j rfl
  have hw := s3 i hi
  rw [hh] at hw
  refine va_astq (D := g.1) (cl := vwCl) c1 c2 c10 s1 s2 s4 i 3 j ci (cA := g.2.1 3) (r := ("RoverPlanner$Mark", T, N1)) (n := N) (f := fun k => (f k).map ad) (vs := fs.map (q_tv g ad)) ?_ rfl ?_ hc hin hd (fun H1 locs1 hP1 hD1 hS1 => ?_)
  · rw [q_ws_get hi, hh]; rfl
  · rw [q_ws_get hjj, hj]; rfl
  · have e8 : va_up (fun k => (f k).map ad) z.toNatClampNeg (some (ad j)) = fun k => ((va_up f z.toNatClampNeg (some j)) k).map ad := by
      funext k
      by_cases e : k = z.toNatClampNeg <;> simp [va_up, e]
    have e9 := q_ws_set (g := g) (ad := ad) (c := .inl (3, (N, .inr (.inr (.inr (.inr (va_up f z.toNatClampNeg (some j)))))))) hi
    rw [e8] at hP1 hD1
    rw [show (q_ws g ad h).set i (ad i, .inl (g.2.1 3, N, .inr (.inr (.inr (.inr (fun k => ((va_up f z.toNatClampNeg (some j)) k).map ad)))))) = _ from e9] at hP1 hD1
    refine kk p e s m args below meth c H1 locs1 cells slots ls g ad0 ad C0 ⟨hP1, hD1, q_wh_set s3 (fun k x hk => ?_), hS1, s5, s6, q_tl (q_tl (q_tl s7)), s8, s9⟩ h1 h2
    by_cases e : k = z.toNatClampNeg
    · simp [va_up, e] at hk
      omega
    · simp [va_up, e] at hk
      exact hw k x hk
theorem k_iret {z : Int32} (hd : decode Y.2.1 pc = .ok (.ireturn, 1)) (hr : Y.2.2.2 = some .int) (hq : Q (some (.int z)) h) : q_K X l d Y mc ms Q QX n0 pc lo [.int z] h kc ks := by
  intro p e s m args below meth c H locs cells slots ls g ad0 ad C0 S h1 h2
  obtain ⟨s1, s2, s3, s4, s5, s6, s7, s8, s9⟩ := S
  obtain ⟨c1, c2, c3, c4, c5, c6, c7, c8, c9, c10, c11, c12⟩ := id C0.1
  refine vx_ret (W.widen (k := mc) (n := ms) (by omega) (by omega) ?_)
  exact W.iret (v := z) c1 c2 (c3.trans hr) (fun t ht hW => ⟨some (.int z), h, ad, rfl, hq, s8, s9, (fun w hw => by cases hw; exact q_wi _ _), s3, by rw [ht]; exact s1, s2, s4.F ht⟩) s4.2.2 hd c6
theorem k_zret {z : Int32} (hd : decode Y.2.1 pc = .ok (.ireturn, 1)) (hr : Y.2.2.2 = some .boolean) (hz : z = 0 ∨ z = 1) (hq : Q (some (.int z)) h) : q_K X l d Y mc ms Q QX n0 pc lo [.int z] h kc ks := by
  intro p e s m args below meth c H locs cells slots ls g ad0 ad C0 S h1 h2
  obtain ⟨s1, s2, s3, s4, s5, s6, s7, s8, s9⟩ := S
  obtain ⟨c1, c2, c3, c4, c5, c6, c7, c8, c9, c10, c11, c12⟩ := id C0.1
  refine vx_ret (W.widen (k := mc) (n := ms) (by omega) (by omega) ?_)
  exact W.zret (v := z) c1 c2 (c3.trans hr) (q_nZ g ad hz).1 (fun t ht hW => ⟨some (.int z), h, ad, rfl, hq, s8, s9, (fun w hw => by cases hw; exact q_wi _ _), s3, by rw [ht]; exact s1, s2, s4.F ht⟩) s4.2.2 hd c6
theorem k_lret {z : Int64} (hd : decode Y.2.1 pc = .ok (.lreturn, 1)) (hr : Y.2.2.2 = some .long) (hq : Q (some (.long z)) h) : q_K X l d Y mc ms Q QX n0 pc lo [.long z] h kc ks := by
  intro p e s m args below meth c H locs cells slots ls g ad0 ad C0 S h1 h2
  obtain ⟨s1, s2, s3, s4, s5, s6, s7, s8, s9⟩ := S
  obtain ⟨c1, c2, c3, c4, c5, c6, c7, c8, c9, c10, c11, c12⟩ := id C0.1
  refine vx_ret (W.widen (k := mc) (n := ms) (by omega) (by omega) ?_)
  exact W.lret (v := z) c1 c2 (c3.trans hr) (fun t ht hW => ⟨some (.long z), h, ad, rfl, hq, s8, s9, (fun w hw => by cases hw; exact q_wl _ _), s3, by rw [ht]; exact s1, s2, s4.F ht⟩) s4.2.2 hd c6
theorem k_vret (hd : decode Y.2.1 pc = .ok (.return_, 1)) (hr : Y.2.2.2 = none) (hq : Q none h) : q_K X l d Y mc ms Q QX n0 pc lo [] h kc ks := by
  intro p e s m args below meth c H locs cells slots ls g ad0 ad C0 S h1 h2
  obtain ⟨s1, s2, s3, s4, s5, s6, s7, s8, s9⟩ := S
  obtain ⟨c1, c2, c3, c4, c5, c6, c7, c8, c9, c10, c11, c12⟩ := id C0.1
  refine vx_ret (W.widen (k := mc) (n := ms) (by omega) (by omega) ?_)
  exact W.vret c1 c2 (c3.trans hr) (fun t ht hW => ⟨none, h, ad, rfl, hq, s8, s9, (fun w hw => by cases hw), s3, by rw [ht]; exact s1, s2, s4.F ht⟩) s4.2.2 hd c6
theorem qk_after {mc' ms' kc' ks' : Nat} {p : Program} {e : Env} {s : State} {m : MethodId} {args a : Array Value} {below : List Frame} {meth : Method} {c : Code} {H : Heap} {locs : List Loc} {cells slots : Nat} {ls : Array Slot} {g : qG} {ad0 ad : Nat → Nat} {st0 : List Value} {rest : List Value} {QZ : Option Value → qH → Prop} {QXZ : String → qH → Prop}
    (C0 : q_CK X l Y g p s m args meth c) (s4 : va_S (q_A g) s.heap H locs) (s5 : q_lo g ad ls Y.2.2.1 lo) (s6 : ∀ v, some v ∈ lo → q_wv h.2 v) (s7 : ∀ v ∈ rest, q_wv h.2 v) (s8 : q_ag n0 ad0 ad) (s9 : n0 ≤ h.2)
    (hr : vx_Run p l e (q_R d mc ms) s m args below meth c H locs cells slots mc' ms' (F0 m pc ls st0) (rest.map (q_tv g ad)) (q_Qc g ad h.2 QZ a) (q_Xc g ad h.2 QXZ) (q_A g)) (hx : ∀ E h', ¬ QXZ E h')
    (hc : cells + mc' + kc' ≤ mc) (hs : slots + ms' + ks' ≤ ms)
    (k : ∀ (v : Option Value) (h' : qH), QZ v h' → h.2 ≤ h'.2 → q_K X l d Y mc ms Q QX n0 (pc + 3) lo (v.toList ++ rest) h' kc' ks') :
    W p l e (q_R d mc ms) s m args below meth c H locs cells slots (vx_MQ below (q_Qc g ad0 n0 Q) (q_Xc g ad0 n0 QX) args s mc ms (q_A g)) (F0 m pc ls st0) := by
  intro T hT X
  rcases hr T hT X with ⟨v, st₀, t, T', L, e0, X', hL, e1, e2, ⟨v0, h', ad', hv, hQ, r1, r2, r3, r4, r5, r6, hF⟩, hst⟩ | ⟨q, st₀, t, T', L, E, ce, e0, X', hL, e1, e2, ⟨h', ad', hX, -⟩, -⟩
  · cases hv
    obtain ⟨k1, k2, k3⟩ := vx_keep e0 e1 s4 (fun q _ z => z) (fun q z => z) hL hF
    have hst2 : (v0.toList ++ rest).map (q_tv g ad') = (v0.map (q_tv g ad')).toList ++ rest.map (q_tv g ad) := by
      rw [List.map_append, q_tvs_ag r1 s7]
      cases v0 <;> rfl
    obtain ⟨t2, a1, b1⟩ := k v0 h' hQ r2 p e s m args below meth c T'.heap (locs ++ L) (cells + mc') (slots + ms') ls g ad0 ad' C0
      ⟨by rw [e1]; exact r5, r6, r4, k3, ⟨s5.1, s5.2.1, fun i w hi => by rw [q_tv_ag r1 (s6 w (List.mem_of_getElem? hi))]; exact s5.2.2 i w hi⟩, fun w hw => q_wv_mono (s6 w hw) r2, fun w hw => by
        rcases List.mem_append.mp hw with hw | hw
        · cases v0 with
          | none => cases hw
          | some x => rw [show w = x by simpa using hw]; exact r3 x rfl
        · exact q_wv_mono (s7 w hw) r2, q_ag_tr s8 r1 s9, Nat.le_trans s9 r2⟩ hc hs T' rfl X'
    rw [hst2] at a1
    exact ⟨t2, hst t2 a1, b1⟩
  · exact absurd hX (hx E h')
theorem k_static {Z : qM} {n idx d' mc' ms' kc' ks' : Nat} {avs rest : List Value} {QZ : Option Value → qH → Prop} {QXZ : String → qH → Prop} (hd : decode Y.2.1 pc = .ok (.invokestatic idx, 3)) (hZ : q_mt Z n) (hl : Cond.methodLink Y.1.cls idx Z.1 ∈ q_W) (hst : Cond.static Z.1 ∈ q_W) (hn : avs.length = n) (he : st = avs.reverse ++ rest) (hr : (rest.map fun v => v.category).sum ≤ 8) (hdd : d' + 1 ≤ d) (hk1 : mc' + kc' ≤ kc) (hk2 : ms' + ks' ≤ ks)
    (hC : q_Ct l d' Z avs h mc' ms' QZ QXZ) (hx : ∀ E h', ¬ QXZ E h') (k : ∀ (v : Option Value) (h' : qH), QZ v h' → h.2 ≤ h'.2 → q_K X l d Y mc ms Q QX n0 (pc + 3) lo (v.toList ++ rest) h' kc' ks') : q_K X l d Y mc ms Q QX n0 pc lo st h kc ks := by
  intro p e s m args below meth c H locs cells slots ls g ad0 ad C0 S h1 h2
  obtain ⟨s1, s2, s3, s4, s5, s6, s7, s8, s9⟩ := S
  obtain ⟨c1, c2, c3, c4, c5, c6, c7, c8, c9, c10, c11, c12⟩ := id C0.1
  obtain ⟨w1, w2⟩ := q_wv_app he s7
  rw [he, q_map_rev]
  refine qk_after C0 s4 s5 s6 w2 s8 s9 (vx_runS (As := avs.map (q_tv g ad)) (nL := Y.2.2.1) ⟨c1, c2, c4, c5, c8⟩ (hC g ad s3 w1) ⟨q_callB c8 hZ hl hdd, c8 _ hst⟩ ⟨q_blind g ad avs h, fun U hU hW => ⟨rfl, by rw [hU]; exact s1, s2, va_K.moved hW.alike c10, by rw [hU]; exact (c11.kp (fun q a b => s4.2.1 q a b)).mv hW, by rw [hU]; exact Nat.le_trans c12 s4.1⟩⟩ rfl (by rw [List.length_map]; exact hn) s5.1 rfl ?_ hd ⟨?_, ?_⟩) hx (by omega) (by omega) k
  · rw [q_cats]
    show 2 * 0 + _ ≤ 8
    omega
  · show cells + mc' ≤ mc
    omega
  · show slots + ms' ≤ ms
    omega
theorem k_virtual {Z : qM} {n idx d' mc' ms' kc' ks' i ci N : Nat} {C : String} {T : u_T} {fs : List Value} {avs rest : List Value} {QZ : Option Value → qH → Prop} {QXZ : String → qH → Prop} (hd : decode Y.2.1 pc = .ok (.invokevirtual idx, 3)) (hZ : q_mt Z n) (hl : Cond.methodLink Y.1.cls idx Z.1 ∈ q_W) (hin : Cond.instanceMethod Z.1 ∈ q_W) (hse : Cond.selects C Z.1 Z.1 ∈ q_W) (hn : avs.length = n) (he : st = avs.reverse ++ .ref i :: rest) (hr : (rest.map fun v => v.category).sum ≤ 8) (hdd : d' + 1 ≤ d) (hk1 : mc' + kc' ≤ kc) (hk2 : ms' + ks' ≤ ks)
    (hc : vwCl[ci]? = some (C, T, N)) (hh : h.1 i = .inr (ci, fs))
    (hC : q_Ct l d' Z (.ref i :: avs) h mc' ms' QZ QXZ) (hx : ∀ E h', ¬ QXZ E h') (k : ∀ (v : Option Value) (h' : qH), QZ v h' → h.2 ≤ h'.2 → q_K X l d Y mc ms Q QX n0 (pc + 3) lo (v.toList ++ rest) h' kc' ks') : q_K X l d Y mc ms Q QX n0 pc lo st h kc ks := by
  intro p e s m args below meth c H locs cells slots ls g ad0 ad C0 S h1 h2
  obtain ⟨s1, s2, s3, s4, s5, s6, s7, s8, s9⟩ := S
  obtain ⟨c1, c2, c3, c4, c5, c6, c7, c8, c9, c10, c11, c12⟩ := id C0.1
  obtain ⟨w1, w2⟩ := q_wv_app he s7
  have hi : i < h.2 := w2 _ List.mem_cons_self i rfl
  rw [he, q_map_rev]
  refine qk_after C0 s4 s5 s6 (q_tl w2) s8 s9 (vx_runV (C := C) (As := avs.map (q_tv g ad)) (nL := Y.2.2.1) (b := ad i) (rest := rest.map (q_tv g ad)) ⟨c1, c2, c4, c5, c8⟩ (hC g ad s3 (fun v hv => (List.mem_cons.mp hv).elim (fun q => by rw [q]; exact q_wr hi) (w1 v))) ⟨q_callB c8 hZ hl hdd, c8 _ hin, c8 _ hse⟩ ⟨q_blind g ad (.ref i :: avs) h, va_recv c10 s1 (q0 := i) (fs := fs.map (q_tv g ad)) hc (by rw [q_ws_get hi, hh]; rfl), fun U hU hW => ⟨rfl, by rw [hU]; exact s1, s2, va_K.moved hW.alike c10, by rw [hU]; exact (c11.kp (fun q a b => s4.2.1 q a b)).mv hW, by rw [hU]; exact Nat.le_trans c12 s4.1⟩⟩ rfl (by rw [List.length_map]; exact hn) s5.1 rfl ?_ hd ⟨?_, ?_⟩) hx (by omega) (by omega) k
  · rw [q_cats]
    show 2 * 0 + _ ≤ 8
    omega
  · show cells + mc' ≤ mc
    omega
  · show slots + ms' ≤ ms
    omega
theorem k_mmax {a b : Int32} {idx : Nat} (hd : decode Y.2.1 pc = .ok (.invokestatic idx, 3)) (hl : Cond.methodLink Y.1.cls idx Lib.Math.max.name ∈ q_W) (hst : Cond.static Lib.Math.max.name ∈ q_W) (hi : Cond.initialized "java/lang/Math" ∈ q_W) (hco : Cond.code Lib.Math.max.name Lib.Math.max.code 2 (some .int) ∈ q_W) (hr : (st.map fun v => v.category).sum ≤ 8) (hdd : 1 ≤ d)
    (k : q_K X l d Y mc ms Q QX n0 (pc + 3) lo (.int (if a < b then b else a) :: st) h kc ks) : q_K X l d Y mc ms Q QX n0 pc lo (.int b :: .int a :: st) h kc ks := by
  intro p e s m args below meth c H locs cells slots ls g ad0 ad C0 S h1 h2
  obtain ⟨s1, s2, s3, s4, s5, s6, s7, s8, s9⟩ := S
  obtain ⟨c1, c2, c3, c4, c5, c6, c7, c8, c9, c10, c11, c12⟩ := id C0.1
  refine va_mmax c1 c2 (c4.trans s5.1.symm) c5 (c8 _ hl) (c8 _ hst) (c8 _ hi) (c8 _ hco) hdd (by rw [q_cats]; show _ ≤ 42 * d; omega) (show cells ≤ mc by omega) (show slots ≤ ms by omega) hd ?_
  exact k p e s m args below meth c H locs cells slots ls g ad0 ad C0 ⟨s1, s2, s3, s4, s5, s6, q_cn (q_wi _ _) (q_tl (q_tl s7)), s8, s9⟩ h1 h2
theorem k_mmin {a b : Int32} {idx : Nat} (hd : decode Y.2.1 pc = .ok (.invokestatic idx, 3)) (hl : Cond.methodLink Y.1.cls idx Lib.Math.min.name ∈ q_W) (hst : Cond.static Lib.Math.min.name ∈ q_W) (hi : Cond.initialized "java/lang/Math" ∈ q_W) (hco : Cond.code Lib.Math.min.name Lib.Math.min.code 2 (some .int) ∈ q_W) (hr : (st.map fun v => v.category).sum ≤ 8) (hdd : 1 ≤ d)
    (k : q_K X l d Y mc ms Q QX n0 (pc + 3) lo (.int (if b < a then b else a) :: st) h kc ks) : q_K X l d Y mc ms Q QX n0 pc lo (.int b :: .int a :: st) h kc ks := by
  intro p e s m args below meth c H locs cells slots ls g ad0 ad C0 S h1 h2
  obtain ⟨s1, s2, s3, s4, s5, s6, s7, s8, s9⟩ := S
  obtain ⟨c1, c2, c3, c4, c5, c6, c7, c8, c9, c10, c11, c12⟩ := id C0.1
  refine va_mmin c1 c2 (c4.trans s5.1.symm) c5 (c8 _ hl) (c8 _ hst) (c8 _ hi) (c8 _ hco) hdd (by rw [q_cats]; show _ ≤ 42 * d; omega) (show cells ≤ mc by omega) (show slots ≤ ms by omega) hd ?_
  exact k p e s m args below meth c H locs cells slots ls g ad0 ad C0 ⟨s1, s2, s3, s4, s5, s6, q_cn (q_wi _ _) (q_tl (q_tl s7)), s8, s9⟩ h1 h2
theorem k_mabs {a : Int32} {idx : Nat} (hd : decode Y.2.1 pc = .ok (.invokestatic idx, 3)) (hl : Cond.methodLink Y.1.cls idx Lib.Math.abs.name ∈ q_W) (hst : Cond.static Lib.Math.abs.name ∈ q_W) (hi : Cond.initialized "java/lang/Math" ∈ q_W) (hco : Cond.code Lib.Math.abs.name Lib.Math.abs.code 1 (some .int) ∈ q_W) (hr : (st.map fun v => v.category).sum ≤ 8) (hdd : 1 ≤ d)
    (k : q_K X l d Y mc ms Q QX n0 (pc + 3) lo (.int (if 0 ≤ a then a else 0 - a) :: st) h kc ks) : q_K X l d Y mc ms Q QX n0 pc lo (.int a :: st) h kc ks := by
  intro p e s m args below meth c H locs cells slots ls g ad0 ad C0 S h1 h2
  obtain ⟨s1, s2, s3, s4, s5, s6, s7, s8, s9⟩ := S
  obtain ⟨c1, c2, c3, c4, c5, c6, c7, c8, c9, c10, c11, c12⟩ := id C0.1
  refine va_mabs c1 c2 (c4.trans s5.1.symm) c5 (c8 _ hl) (c8 _ hst) (c8 _ hi) (c8 _ hco) hdd (by rw [q_cats]; show _ ≤ 42 * d; omega) (show cells ≤ mc by omega) (show slots ≤ ms by omega) hd ?_
  exact k p e s m args below meth c H locs cells slots ls g ad0 ad C0 ⟨s1, s2, s3, s4, s5, s6, q_cn (q_wi _ _) (q_tl s7), s8, s9⟩ h1 h2
theorem k_copy {i0 i1 N0 N1 idx : Nat} {f0 f1 : Nat → Int32} {sp dp n : Int32} (hd : decode Y.2.1 pc = .ok (.invokestatic idx, 3)) (hl : Cond.methodLink Y.1.cls idx arraycopyName ∈ q_W) (hna : Cond.native arraycopyName ∈ q_W) (hst : Cond.static arraycopyName ∈ q_W) (hi : Cond.initialized "java/lang/System" ∈ q_W) (hr : (st.map fun v => v.category).sum ≤ 8) (hdd : 1 ≤ d)
    (hh0 : h.1 i0 = .inl (0, (N0, .inl f0))) (hh1 : h.1 i1 = .inl (0, (N1, .inl f1))) (q1 : ¬ sp < 0) (q2 : ¬ dp < 0) (q3 : ¬ n < 0) (q4 : sp.toNatClampNeg + n.toNatClampNeg ≤ N0) (q5 : dp.toNatClampNeg + n.toNatClampNeg ≤ N1)
    (k : q_K X l d Y mc ms Q QX n0 (pc + 3) lo st (q_set h i1 (.inl (0, (N1, .inl (va_cpy f0 f1 sp.toNatClampNeg dp.toNatClampNeg n.toNatClampNeg))))) kc ks) : q_K X l d Y mc ms Q QX n0 pc lo (.int n :: .int dp :: .ref i1 :: .int sp :: .ref i0 :: st) h kc ks := by
  intro p e s m args below meth c H locs cells slots ls g ad0 ad C0 S h1 h2
  obtain ⟨s1, s2, s3, s4, s5, s6, s7, s8, s9⟩ := S
  obtain ⟨c1, c2, c3, c4, c5, c6, c7, c8, c9, c10, c11, c12⟩ := id C0.1
  have w1 : i1 < h.2 := s7 (.ref i1) (by simp) i1 rfl
  have w0 : i0 < h.2 := s7 (.ref i0) (by simp) i0 rfl
  have hnf := q_nfw
  refine va_copyi (D := g.1) (cl := vwCl) (ty := .int) c1 c2 (c4.trans s5.1.symm) c5 (c8 _ hl) (c8 _ hna) (c8 _ hst) (c8 _ hi) c10 s1 s2 s4 i0 i1 0 0 (c0 := g.2.1 0) (c1 := g.2.1 0) (n0 := N0) (n1 := N1) (f := f0) (g := f1) ?_ ?_ rfl rfl rfl q1 q2 q3 q4 q5 (fun _ _ => rfl) hdd (by rw [q_cats]; show _ ≤ 42 * d; omega) hd (fun H1 locs1 hP1 hD1 hS1 => ?_)
  · rw [q_ws_get w0, hh0]; rfl
  · rw [q_ws_get w1, hh1]; rfl
  · have e9 := q_ws_set (g := g) (ad := ad) (c := .inl (0, (N1, .inl (va_cpy f0 f1 sp.toNatClampNeg dp.toNatClampNeg n.toNatClampNeg)))) w1
    rw [show (q_ws g ad h).set i1 (ad i1, .inl (g.2.1 0, N1, .inl (va_cpy f0 f1 sp.toNatClampNeg dp.toNatClampNeg n.toNatClampNeg))) = _ from e9] at hP1 hD1
    exact k p e s m args below meth c H1 locs1 cells slots ls g ad0 ad C0 ⟨hP1, hD1, q_wh_set s3 trivial, hS1, s5, s6, q_tl (q_tl (q_tl (q_tl (q_tl s7)))), s8, s9⟩ h1 h2
theorem qk_afterI {mc' ms' kc' ks' : Nat} {p : Program} {e : Env} {s : State} {m : MethodId} {args a : Array Value} {below : List Frame} {meth : Method} {c : Code} {H : Heap} {locs : List Loc} {cells slots : Nat} {ls : Array Slot} {g : qG} {ad0 ad : Nat → Nat} {st0 : List Value} {rest : List Value} {QZ : Option Value → qH → Prop}
    (C0 : q_CK X l Y g p s m args meth c) (s4 : va_S (q_A g) s.heap H locs) (s5 : q_lo g ad ls Y.2.2.1 lo) (s6 : ∀ v, some v ∈ lo → q_wv h.2 v) (s7 : ∀ v ∈ rest, q_wv h.2 v) (s8 : q_ag n0 ad0 ad) (s9 : n0 ≤ h.2)
    (hr : va_Run p l e (q_R d mc ms) s m args below meth c H locs cells slots mc' ms' (F0 m pc ls st0) (rest.map (q_tv g ad)) (q_Qc g ad h.2 QZ a) (q_A g))
    (hc : cells + mc' + kc' ≤ mc) (hs : slots + ms' + ks' ≤ ms)
    (k : ∀ (v : Option Value) (h' : qH), QZ v h' → h.2 ≤ h'.2 → q_K X l d Y mc ms Q QX n0 (pc + 3) lo (v.toList ++ rest) h' kc' ks') :
    W p l e (q_R d mc ms) s m args below meth c H locs cells slots (vx_MQ below (q_Qc g ad0 n0 Q) (q_Xc g ad0 n0 QX) args s mc ms (q_A g)) (F0 m pc ls st0) := by
  refine qk_after (QXZ := fun _ _ => False) (a := a) C0 s4 s5 s6 s7 s8 s9 ?_ (fun _ _ q => q) hc hs k
  intro T hT X
  obtain ⟨v, st₀, t, T', L, z⟩ := hr T hT X
  exact Or.inl ⟨v, st₀, t, T', L, z⟩
theorem k_special {Z : qM} {n idx d' mc' ms' kc' ks' i : Nat} {avs rest : List Value} {QZ : Option Value → qH → Prop} {QXZ : String → qH → Prop} (hd : decode Y.2.1 pc = .ok (.invokespecial idx, 3)) (hZ : q_mt Z n) (hz1 : Z.1.name = "<init>") (hz2 : Z.2.2.2 = none) (hl : Cond.methodLink Y.1.cls idx Z.1 ∈ q_W) (hin : Cond.instanceMethod Z.1 ∈ q_W) (hn : avs.length = n) (he : st = avs.reverse ++ .ref i :: rest) (hr : (rest.map fun v => v.category).sum ≤ 8) (hdd : d' + 1 ≤ d) (hk1 : mc' + kc' ≤ kc) (hk2 : ms' + ks' ≤ ks)
    (hC : q_Ct l d' Z (.ref i :: avs) h mc' ms' QZ QXZ) (hx : ∀ E h', ¬ QXZ E h') (k : ∀ (v : Option Value) (h' : qH), QZ v h' → h.2 ≤ h'.2 → q_K X l d Y mc ms Q QX n0 (pc + 3) lo (v.toList ++ rest) h' kc' ks') : q_K X l d Y mc ms Q QX n0 pc lo st h kc ks := by
  intro p e s m args below meth c H locs cells slots ls g ad0 ad C0 S h1 h2
  obtain ⟨s1, s2, s3, s4, s5, s6, s7, s8, s9⟩ := S
  obtain ⟨c1, c2, c3, c4, c5, c6, c7, c8, c9, c10, c11, c12⟩ := id C0.1
  obtain ⟨w1, w2⟩ := q_wv_app he s7
  have hi : i < h.2 := w2 _ List.mem_cons_self i rfl
  have hB := q_callB (mc := mc) (ms := ms) (mc' := mc') (ms' := ms') c8 hZ hl hdd
  rw [hz2] at hB
  have hM := q_met (hC g ad s3 (fun v hv => (List.mem_cons.mp hv).elim (fun q => by rw [q]; exact q_wr hi) (w1 v))) (fun E u t ⟨h', ad', hX, _⟩ => hx E h' hX)
  rw [hz2] at hM
  rw [he, q_map_rev]
  refine qk_afterI C0 s4 s5 s6 (q_tl w2) s8 s9 (va_runI (As := avs.map (q_tv g ad)) (nL := Y.2.2.1) (b := ad i) (rest := rest.map (q_tv g ad)) ⟨c1, c2, c4, c5, c8⟩ hM ⟨hB, hz1, c8 _ hin⟩ ⟨q_blind g ad (.ref i :: avs) h, fun U hU hW => ⟨rfl, by rw [hU]; exact s1, s2, va_K.moved hW.alike c10, by rw [hU]; exact (c11.kp (fun q a b => s4.2.1 q a b)).mv hW, by rw [hU]; exact Nat.le_trans c12 s4.1⟩⟩ rfl (by rw [List.length_map]; exact hn) s5.1 rfl ?_ hd ⟨?_, ?_⟩) (by omega) (by omega) k
  · rw [q_cats]
    show 2 * 0 + _ ≤ 8
    omega
  · show cells + mc' ≤ mc
    omega
  · show slots + ms' ≤ ms
    omega
theorem k_specialN {Z : qM} {n idx d' mc' ms' kc' ks' i : Nat} {host : String} {avs rest : List Value} {QZ : Option Value → qH → Prop} {QXZ : String → qH → Prop} (hd : decode Y.2.1 pc = .ok (.invokespecial idx, 3)) (hZ : q_mt Z n) (hz1 : Z.1.name = "<init>") (hz2 : Z.2.2.2 = none) (hl : Cond.methodLinkNest Y.1.cls idx Z.1 host ∈ q_N) (hin : Cond.instanceMethod Z.1 ∈ q_W) (hn : avs.length = n) (he : st = avs.reverse ++ .ref i :: rest) (hr : (rest.map fun v => v.category).sum ≤ 8) (hdd : d' + 1 ≤ d) (hk1 : mc' + kc' ≤ kc) (hk2 : ms' + ks' ≤ ks)
    (hC : q_Ct l d' Z (.ref i :: avs) h mc' ms' QZ QXZ) (hx : ∀ E h', ¬ QXZ E h') (k : ∀ (v : Option Value) (h' : qH), QZ v h' → h.2 ≤ h'.2 → q_K X l d Y mc ms Q QX n0 (pc + 3) lo (v.toList ++ rest) h' kc' ks') : q_K X l d Y mc ms Q QX n0 pc lo st h kc ks := by
  intro p e s m args below meth c H locs cells slots ls g ad0 ad C0 S h1 h2
  obtain ⟨s1, s2, s3, s4, s5, s6, s7, s8, s9⟩ := S
  obtain ⟨c1, c2, c3, c4, c5, c6, c7, c8, c9, c10, c11, c12⟩ := id C0.1
  obtain ⟨w1, w2⟩ := q_wv_app he s7
  have hi : i < h.2 := w2 _ List.mem_cons_self i rfl
  obtain ⟨z1, z2, z3, z4, z5⟩ := id hZ
  have hB : va_CN (q_R d mc ms) s args Y.1.cls idx Z.1 host Z.2.1 Z.2.2.1 Z.2.2.2 (Cond.code Z.1 Z.2.1 Z.2.2.1 Z.2.2.2 :: q_W) (q_R d' mc' ms') mc' ms' n :=
    ⟨⟨rfl, rfl, hdd, (show 8 + (Z.2.2.1 + 11) + 42 * d' ≤ 42 * d by omega), q_pay c8 z1, List.mem_cons_self⟩, c8 _ z1, c8 _ z2, z3, fun sig hs => by rw [hs] at z4; exact (Option.some.inj z4).symm, va_Nw.use rfl (c11.2.2.2.2.1 _ hl)⟩
  rw [hz2] at hB
  have hM := q_met (hC g ad s3 (fun v hv => (List.mem_cons.mp hv).elim (fun q => by rw [q]; exact q_wr hi) (w1 v))) (fun E u t ⟨h', ad', hX, _⟩ => hx E h' hX)
  rw [hz2] at hM
  rw [he, q_map_rev]
  refine qk_afterI C0 s4 s5 s6 (q_tl w2) s8 s9 (va_runIN (As := avs.map (q_tv g ad)) (nL := Y.2.2.1) (b := ad i) (rest := rest.map (q_tv g ad)) ⟨c1, c2, c4, c5, c8⟩ hM ⟨hB, hz1, c8 _ hin⟩ ⟨q_blind g ad (.ref i :: avs) h, fun U hU hW => ⟨rfl, by rw [hU]; exact s1, s2, va_K.moved hW.alike c10, by rw [hU]; exact (c11.kp (fun q a b => s4.2.1 q a b)).mv hW, by rw [hU]; exact Nat.le_trans c12 s4.1⟩⟩ rfl (by rw [List.length_map]; exact hn) s5.1 rfl ?_ hd ⟨?_, ?_⟩) (by omega) (by omega) k
  · rw [q_cats]
    show 2 * 0 + _ ≤ 8
    omega
  · show cells + mc' ≤ mc
    omega
  · show slots + ms' ≤ ms
    omega
theorem k_objInit {idx i : Nat} (hd : decode Y.2.1 pc = .ok (.invokespecial idx, 3)) (hl : Cond.methodLink Y.1.cls idx objectInit ∈ q_W) (hin : Cond.instanceMethod objectInit ∈ q_W) (hco : Cond.code objectInit ⟨#[0xb1]⟩ 1 none ∈ q_W) (hr : (st.map fun v => v.category).sum ≤ 8) (hdd : 1 ≤ d)
    (k : q_K X l d Y mc ms Q QX n0 (pc + 3) lo st h kc ks) : q_K X l d Y mc ms Q QX n0 pc lo (.ref i :: st) h kc ks := by
  intro p e s m args below meth c H locs cells slots ls g ad0 ad C0 S h1 h2
  obtain ⟨s1, s2, s3, s4, s5, s6, s7, s8, s9⟩ := S
  obtain ⟨c1, c2, c3, c4, c5, c6, c7, c8, c9, c10, c11, c12⟩ := id C0.1
  refine W.objInit c1 c2 c5 (c8 _ hl) (c8 _ hin) (c8 _ hco) rfl (s5.1.trans c4.symm) (a := ad i) (rest := st.map (q_tv g ad)) rfl hd hdd (by rw [q_cats]; show 2 * 0 + _ + 12 ≤ 42 * d; omega) ?_
  exact k p e s m args below meth c H locs cells slots ls g ad0 ad C0 ⟨s1, s2, s3, s4, s5, s6, q_tl s7, s8, s9⟩ h1 h2
theorem k_new {ci idx N : Nat} {C : String} {T : u_T} {ty0 : Nat → FieldType} {fs : List Value} (hc : q_cl ci C T N) (hty : ∀ k, k < N → parseFieldDescriptor (T k).2.2.1 = some (ty0 k)) (hl : Cond.classLink Y.1.cls idx C ∈ q_W) (hi : Cond.instantiable C N ∈ q_W) (hini : Cond.initialized C ∈ q_W) (hd : decode Y.2.1 pc = .ok (.new idx, 3))
    (hfs : ∀ (g : qG) (ad : Nat → Nat) (j : Nat), j < N → defaultValue (ty0 j) = vp_V (fs.map (q_tv g ad)) j) (hwf : ∀ n, ∀ v ∈ fs, q_wv n v) {kc' ks' : Nat} (hk1 : kc' + 1 ≤ kc) (hk2 : ks' + N ≤ ks)
    (k : q_K X l d Y mc ms Q QX n0 (pc + 3) lo (.ref h.2 :: st) (q_push h (.inr (ci, fs))) kc' ks') : q_K X l d Y mc ms Q QX n0 pc lo st h kc ks := by
  intro p e s m args below meth c H locs cells slots ls g ad0 ad C0 S h1 h2
  obtain ⟨s1, s2, s3, s4, s5, s6, s7, s8, s9⟩ := id S
  obtain ⟨c1, c2, c3, c4, c5, c6, c7, c8, c9, c10, c11, c12⟩ := id C0.1
  refine va_new (D := g.1) (cl := vwCl) (ci := ci) (Ts := q_W) (A := q_A g) (H0 := s.heap) (fs := fs.map (q_tv g ad)) c1 c2 c8 hc.2 ty0 hty c5 (c8 _ hl) (c8 _ hi) (c8 _ hini) c10 s1 s2 s4 (fun q hq => Nat.le_trans c12 hq) hc.1 (hfs g ad) (show cells + 1 ≤ mc by omega) (show slots + N ≤ ms by omega) hd (fun q H1 hP hD hS => ?_)
  have e9 : ∀ a, q_tc g a (.inr (ci, fs)) = .inr (ci, fs.map (q_tv g ad)) := fun a => by
    show Sum.inr (ci, _) = Sum.inr (ci, _)
    rw [List.map_congr_left (fun v hv => ?_)]
    exact q_tv_ag (n := 0) (fun i hi => absurd hi (Nat.not_lt_zero i)) (hwf 0 v hv)
  obtain ⟨S', e8⟩ := q_grown (Y := Y) (cl := .inr (ci, fs)) S (fun v hv => hwf _ v hv) (by rw [e9]; exact hP) (by rw [e9]; exact hD) hS st (fun v hv => hv)
  have h9 := k p e s m args below meth c H1 locs (cells + 1) (slots + N) ls g ad0 (q_up ad h.2 q) C0 S' (by omega) (by omega)
  rw [e8] at h9
  exact h9
theorem k_newI {z : Int32} {N : Nat} (ha : Cond.arrayClass .int ∈ q_W) (hd : decode Y.2.1 pc = .ok (.newarray .int, 2)) (hn : ¬ z < 0) (hN : z.toNatClampNeg = N) (hb : N ≤ 100000) {kc' ks' : Nat} (hk1 : kc' + 1 ≤ kc) (hk2 : ks' + N ≤ ks)
    (k : q_K X l d Y mc ms Q QX n0 (pc + 2) lo (.ref h.2 :: st) (q_push h (.inl (0, (N, .inl (fun _ => 0))))) kc' ks') : q_K X l d Y mc ms Q QX n0 pc lo (.int z :: st) h kc ks := by
  intro p e s m args below meth c H locs cells slots ls g ad0 ad C0 S h1 h2
  obtain ⟨s1, s2, s3, s4, s5, s6, s7, s8, s9⟩ := id S
  obtain ⟨c1, c2, c3, c4, c5, c6, c7, c8, c9, c10, c11, c12⟩ := id C0.1
  refine va_newa (atype := .int) (D := g.1) (cl := vwCl) (tys := q_ty g) (A := q_A g) (H0 := s.heap) (ty := .int) c1 c2 (c8 _ ha) rfl c10 s1 s2 s4 (fun q hq => Nat.le_trans c12 hq) (a0 := (N, .inl (fun _ => 0))) (fun cA => rfl) hn hN (show N * 4 ≤ 536870912 by omega) (show cells + 1 ≤ mc by omega) (show slots + N ≤ ms by omega) hd (fun q cA H1 hK hP hD hS => ?_)
  have hcA : cA = g.2.1 0 := by
    have e1 := (hK.2 5 (cA, .int) rfl).2
    have e2 := (hK.2 0 (g.2.1 0, .int) rfl).2
    exact Option.some.inj (e1.symm.trans e2)
  subst hcA
  obtain ⟨S', e8⟩ := q_grown (Y := Y) (cl := .inl (0, (N, .inl (fun _ => 0)))) S trivial hP hD hS st (fun v hv => List.mem_cons_of_mem _ hv)
  have h9 := k p e s m args below meth c H1 locs (cells + 1) (slots + N) ls g ad0 (q_up ad h.2 q) C0 S' (by omega) (by omega)
  rw [e8] at h9
  exact h9
theorem k_newZ {z : Int32} {N : Nat} (ha : Cond.arrayClass .boolean ∈ q_W) (hd : decode Y.2.1 pc = .ok (.newarray .boolean, 2)) (hn : ¬ z < 0) (hN : z.toNatClampNeg = N) (hb : N ≤ 100000) {kc' ks' : Nat} (hk1 : kc' + 1 ≤ kc) (hk2 : ks' + N ≤ ks)
    (k : q_K X l d Y mc ms Q QX n0 (pc + 2) lo (.ref h.2 :: st) (q_push h (.inl (2, (N, .inl (fun _ => 0))))) kc' ks') : q_K X l d Y mc ms Q QX n0 pc lo (.int z :: st) h kc ks := by
  intro p e s m args below meth c H locs cells slots ls g ad0 ad C0 S h1 h2
  obtain ⟨s1, s2, s3, s4, s5, s6, s7, s8, s9⟩ := id S
  obtain ⟨c1, c2, c3, c4, c5, c6, c7, c8, c9, c10, c11, c12⟩ := id C0.1
  refine va_newa (atype := .boolean) (D := g.1) (cl := vwCl) (tys := q_ty g) (A := q_A g) (H0 := s.heap) (ty := .boolean) c1 c2 (c8 _ ha) rfl c10 s1 s2 s4 (fun q hq => Nat.le_trans c12 hq) (a0 := (N, .inl (fun _ => 0))) (fun cA => rfl) hn hN (show N * 1 ≤ 536870912 by omega) (show cells + 1 ≤ mc by omega) (show slots + N ≤ ms by omega) hd (fun q cA H1 hK hP hD hS => ?_)
  have hcA : cA = g.2.1 2 := by
    have e1 := (hK.2 5 (cA, .boolean) rfl).2
    have e2 := (hK.2 2 (g.2.1 2, .boolean) rfl).2
    exact Option.some.inj (e1.symm.trans e2)
  subst hcA
  obtain ⟨S', e8⟩ := q_grown (Y := Y) (cl := .inl (2, (N, .inl (fun _ => 0)))) S trivial hP hD hS st (fun v hv => List.mem_cons_of_mem _ hv)
  have h9 := k p e s m args below meth c H1 locs (cells + 1) (slots + N) ls g ad0 (q_up ad h.2 q) C0 S' (by omega) (by omega)
  rw [e8] at h9
  exact h9
theorem k_pad (n : Nat) {lo' : List (Option Value)} (he : lo ++ List.replicate n none = lo') (k : q_K X l d Y mc ms Q QX n0 pc lo' st h kc ks) : q_K X l d Y mc ms Q QX n0 pc lo st h kc ks := by
  subst he
  refine qk_loc (fun a b => ⟨fun v hv => ?_, b⟩) (fun p e R s m args below meth c H locs cells slots ls g ad Qf hx hb o k => k ls ⟨o.1, o.2.1, fun i v hi => o.2.2 i v ?_⟩) k
  · rcases List.mem_append.mp hv with q | q
    · exact a v q
    · exact absurd (List.eq_of_mem_replicate q) (by simp)
  · by_cases hl : i < lo.length
    · rwa [List.getElem?_append_left hl] at hi
    · rw [List.getElem?_append_right (by omega)] at hi
      have := List.eq_of_mem_replicate (List.mem_of_getElem? hi)
      simp at this
end QK9
