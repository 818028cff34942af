/-! what holds of the whole state holds after every call -/
theorem dropA_s : ∀ (i : Nat) (L : PL), dropA L (i + 1) = delA (dropA L i) 0
  | 0, L => rfl
  | i + 1, L => dropA_s i (delA L 0)
theorem dropA_at : ∀ (i : Nat) (L : PL), (dropA L i).n = L.n - i ∧ ∀ j, (dropA L i).k j = L.k (i + j) ∧ (dropA L i).a j = L.a (i + j) ∧ (dropA L i).b j = L.b (i + j) := by
  intro i
  induction i with
  | zero => intro L; exact ⟨rfl, fun j => by rw [Nat.zero_add]; exact ⟨rfl, rfl, rfl⟩⟩
  | succ i ih =>
    intro L
    rw [dropA_s]
    have h := ih L
    refine ⟨?_, fun j => ?_⟩
    · show (dropA L i).n - 1 = _
      rw [h.1]; omega
    · have e := h.2 (j + 1)
      rw [show i + (j + 1) = i + 1 + j by omega] at e
      refine ⟨?_, ?_, ?_⟩
      · show del (dropA L i).k 0 j = _; unfold del; rw [if_neg (by omega)]; exact e.1
      · show del (dropA L i).a 0 j = _; unfold del; rw [if_neg (by omega)]; exact e.2.1
      · show del (dropA L i).b 0 j = _; unfold del; rw [if_neg (by omega)]; exact e.2.2
theorem aR_p {c : Prop} {a b : Nat × Int32 × ST} (h1 : c → aOk a.2.2) (h2 : ¬ c → aOk b.2.2) : aOk (pif c a b).2.2 := by
  by_cases q : c
  · rw [pif_t q]; exact h1 q
  · rw [pif_f q]; exact h2 q
theorem actOk_W {W W' : WS} {k a b : Int32} (ht : W.tn ≤ W'.tn) (h : actOk W k a b) : actOk W' k a b := by
  rcases h with q | ⟨q, ⟨j, hj, e⟩, r⟩ | q | q | q | q
  · exact Or.inl q
  · exact Or.inr (Or.inl ⟨q, ⟨j, by omega, e⟩, r⟩)
  · exact Or.inr (Or.inr (Or.inl q))
  · exact Or.inr (Or.inr (Or.inr (Or.inl q)))
  · exact Or.inr (Or.inr (Or.inr (Or.inr (Or.inl q))))
  · exact Or.inr (Or.inr (Or.inr (Or.inr (Or.inr q))))
theorem plOk_W {W W' : WS} {L : PL} (ht : W.tn ≤ W'.tn) (h : plOk W L) : plOk W' L := fun i hi => actOk_W ht (h i hi)
theorem aOk_W {A : ST} {W' : WS} (h : aOk A) (hw : wOk W') (ht : A.W.tn ≤ W'.tn) : aOk (A.uW W') :=
  ⟨hw, h.2.1, plOk_W ht h.2.2.1, h.2.2.2.1, h.2.2.2.2.1, fun i hi => ⟨(h.2.2.2.2.2 i hi).1, plOk_W ht (h.2.2.2.2.2 i hi).2.1, (h.2.2.2.2.2 i hi).2.2⟩⟩
theorem aOk_L {A : ST} {L' : PL} (h : aOk A) (hl : plOk A.W L') (hn : L'.n ≤ 40) : aOk (A.uL L') := ⟨h.1, h.2.1, hl, hn, h.2.2.2.2⟩
theorem plOk_ins {W : WS} {L : PL} {p : Nat} {k a b : Int32} (hp : p ≤ L.n) (h : plOk W L) (ha : actOk W k a b) : plOk W (insA L p k a b) := by
  intro i hi
  change i < L.n + 1 at hi
  show actOk W (ins L.k p k i) (ins L.a p a i) (ins L.b p b i)
  unfold ins
  by_cases q : i < p
  · rw [if_pos q, if_pos q, if_pos q]; exact h i (by omega)
  · rw [if_neg q, if_neg q, if_neg q]
    by_cases q2 : i = p
    · rw [if_pos q2, if_pos q2, if_pos q2]; exact ha
    · rw [if_neg q2, if_neg q2, if_neg q2]; exact h (i - 1) (by omega)
theorem plOk_del {W : WS} {L : PL} {p : Nat} (h : plOk W L) : plOk W (delA L p) := by
  intro i hi
  change i < L.n - 1 at hi
  show actOk W (del L.k p i) (del L.a p i) (del L.b p i)
  unfold del
  by_cases q : i < p
  · rw [if_pos q, if_pos q, if_pos q]; exact h i (by omega)
  · rw [if_neg q, if_neg q, if_neg q]; exact h (i + 1) (by omega)
theorem wOk_mk {W : WS} (hw : wOk W) {H R Z : Nat → Int32} {s : Int32} (g : gOk H R) : wOk (WS.mk H R Z s W.tn W.tx W.ty W.tv W.td W.pn W.pf W.pt W.pr W.cap W.mem) := ⟨g, hw.2⟩
set_option maxHeartbeats 200000 in
theorem a_raise {A : ST} (h : aOk A) (x0 x1 y0 y1 w : Int32) : aOk (R_raise A x0 x1 y0 y1 w).2.2 := by
  unfold R_raise
  refine aR_p (fun c => aOk_W (W' := A.W.uH (sp_up A.W.H x0.toNatClampNeg x1.toNatClampNeg y0.toNatClampNeg y1.toNatClampNeg w)) h (wOk_mk h.1 ⟨fun p hp => ?_, h.1.g.2⟩) (Nat.le_refl _)) (fun _ => h)
  have hH := h.1.g.1 p hp
  unfold sp_up
  by_cases q : inR x0.toNatClampNeg x1.toNatClampNeg y0.toNatClampNeg y1.toNatClampNeg p
  · rw [if_pos q]
    have o := c.2 p hp q
    have e : (A.W.H p + w).toInt = (A.W.H p).toInt + w.toInt := fb_addI (by omega) (by omega)
    rw [e]; exact o
  · rw [if_neg q]; exact hH
set_option maxHeartbeats 200000 in
theorem a_pave {A : ST} (h : aOk A) (x0 x1 y0 y1 q z : Int32) : aOk (R_pave A x0 x1 y0 y1 q z).2.2 := by
  unfold R_pave
  refine aR_p (fun c => aOk_W (W' := A.W.uRZ (sp_set A.W.R x0.toNatClampNeg x1.toNatClampNeg y0.toNatClampNeg y1.toNatClampNeg q) (sp_set A.W.Z x0.toNatClampNeg x1.toNatClampNeg y0.toNatClampNeg y1.toNatClampNeg z)) h (wOk_mk h.1 ⟨h.1.g.1, fun p hp => ?_⟩) (Nat.le_refl _)) (fun _ => h)
  unfold sp_set
  by_cases r : inR x0.toNatClampNeg x1.toNatClampNeg y0.toNatClampNeg y1.toNatClampNeg p
  · rw [if_pos r]; exact c.2
  · rw [if_neg r]; exact h.1.g.2 p hp
set_option maxHeartbeats 200000 in
theorem a_setSlope {A : ST} (h : aOk A) (w : Int32) : aOk (R_setSlope A w).2.2 := by
  unfold R_setSlope
  exact aR_p (fun c => aOk_W (W' := A.W.us w) h (wOk_mk h.1 h.1.g) (Nat.le_refl _)) (fun _ => h)
theorem upd_all {f : Nat → Int32} {n : Nat} {v : Int32} {p : Int32 → Prop} (h : ∀ i, i < n → p (f i)) (hv : p v) : ∀ i, i < n + 1 → p (upd f n v i) := fun i hi => by
  by_cases e : i = n
  · subst e; rw [pk_us]; exact hv
  · rw [pk_un e]; exact h i (by omega)
set_option maxHeartbeats 200000 in
theorem a_addTarget {A : ST} (h : aOk A) (x y v n : Int32) : aOk (R_addTarget A x y v n).2.2 := by
  unfold R_addTarget
  refine aR_p (fun c1 => aR_p (fun c2 => aR_p (fun c3 => ?_) (fun _ => h)) (fun _ => h)) (fun _ => h)
  have hw := h.1
  refine aOk_W (W' := addT A.W x y v n) h ⟨hw.g, ?_, fun i hi => ?_, upd_all (p := fun z => 1 ≤ z.toInt ∧ z.toInt ≤ 100) hw.tv c2.1, upd_all (p := fun z => 1 ≤ z.toInt ∧ z.toInt ≤ 4) hw.td c2.2, hw.pn, hw.pr, hw.cap, hw.mem, hw.ps⟩ (Nat.le_succ _)
  · show A.W.tn + 1 ≤ 12; omega
  · change i < A.W.tn + 1 at hi
    show inP (upd A.W.tx A.W.tn x i) (upd A.W.ty A.W.tn y i)
    by_cases e : i = A.W.tn
    · subst e; rw [pk_us, pk_us]; exact c1
    · rw [pk_un e, pk_un e]; exact hw.tp i (by omega)
set_option maxHeartbeats 200000 in
theorem a_addPass {A : ST} (h : aOk A) (a b r : Int32) : aOk (R_addPass A a b r).2.2 := by
  unfold R_addPass
  refine aR_p (fun c1 => aR_p (fun c2 => ?_) (fun _ => h)) (fun _ => h)
  have hw := h.1
  refine aOk_W (W' := addP A.W a b r) h ⟨hw.g, hw.tn, hw.tp, hw.tv, hw.td, ?_, upd_all (p := fun z => 1 ≤ z.toInt ∧ z.toInt ≤ 20) hw.pr c1.2.2.2, hw.cap, hw.mem, fun i hi => ?_⟩ (Nat.le_refl _)
  · show A.W.pn + 1 ≤ 6; omega
  · change i < A.W.pn + 1 at hi
    show 0 ≤ (upd A.W.pf A.W.pn a i).toInt ∧ (upd A.W.pf A.W.pn a i).toInt < (upd A.W.pt A.W.pn b i).toInt ∧ (upd A.W.pt A.W.pn b i).toInt ≤ 1440
    by_cases e : i = A.W.pn
    · subst e; rw [pk_us, pk_us]; exact ⟨c1.1.1, c1.2.1, c1.2.2.1⟩
    · rw [pk_un e, pk_un e]; exact hw.ps i (by omega)
set_option maxHeartbeats 200000 in
theorem a_setRover {A : ST} (h : aOk A) (c m : Int32) : aOk (R_setRover A c m).2.2 := by
  unfold R_setRover
  refine aR_p (fun c1 => aR_p (fun c2 => ?_) (fun _ => h)) (fun _ => h)
  have hw := h.1
  have a := aOk_W (W' := A.W.uc c m) h ⟨hw.g, hw.tn, hw.tp, hw.tv, hw.td, hw.pn, hw.pr, c1.1, c1.2, hw.ps⟩ (Nat.le_refl _)
  exact ⟨a.1, ⟨h.2.1.1, h.2.1.2⟩, a.2.2⟩
set_option maxHeartbeats 200000 in
theorem a_put {A : ST} (h : aOk A) (p k a b : Int32) : aOk (R_put A p k a b).2.2 := by
  unfold R_put
  refine aR_p (fun c1 => aR_p (fun c2 => aR_p (fun c3 => ?_) (fun _ => h)) (fun _ => h)) (fun _ => h)
  have := (isT_nI (by omega) c1).2
  exact aOk_L (L' := insA A.L p.toNatClampNeg k a b) h (plOk_ins (by omega) h.2.2.1 c2) (by show A.L.n + 1 ≤ 40; omega)
set_option maxHeartbeats 200000 in
theorem a_remove {A : ST} (h : aOk A) (p : Int32) : aOk (R_remove A p).2.2 :=
  by unfold R_remove; exact aR_p (fun _ => aOk_L (L' := delA A.L p.toNatClampNeg) h (plOk_del h.2.2.1) (by have := h.2.2.2.1; show A.L.n - 1 ≤ 40; omega)) (fun _ => h)
set_option maxHeartbeats 200000 in
theorem a_move {A : ST} (h : aOk A) (p q : Int32) : aOk (R_move A p q).2.2 := by
  unfold R_move
  have n9 := h.2.2.2.1
  refine aR_p (fun c => ?_) (fun _ => h)
  have c1 := (isT_nI (by omega) c.1).2
  have c2 := (isT_nI (by omega) c.2).2
  exact aOk_L (L' := insA (delA A.L p.toNatClampNeg) q.toNatClampNeg (A.L.k p.toNatClampNeg) (A.L.a p.toNatClampNeg) (A.L.b p.toNatClampNeg)) h (plOk_ins (by show _ ≤ A.L.n - 1; omega) (plOk_del h.2.2.1) (h.2.2.1 _ c1)) (by show A.L.n - 1 + 1 ≤ 40; omega)
theorem actsF_ok {W : WS} (hw : wOk W) {L : PL} (hL : plOk W L) : ∀ (n i : Nat) (P : PH) (D : DT), i + n ≤ L.n → rOk P D → rOk (actsF W L i n P D).2.1 (actsF W L i n P D).2.2 := by
  intro n
  induction n with
  | zero => intro i P D _ h; exact h
  | succ n ih =>
    intro i P D hi h
    rw [actsF]
    by_cases q : (perfA W (L.k i) (L.a i) (L.b i) P D).1 = 0
    · rw [if_pos q]
      exact ih (i + 1) _ _ (by omega) (perf_ok hw h (hL i (by omega)))
    · rw [if_neg q]; exact h
theorem plOk_drop {W : WS} : ∀ (i : Nat) {L : PL}, plOk W L → plOk W (dropA L i)
  | 0, _, h => h
  | i + 1, _, h => plOk_drop i (plOk_del h)
set_option maxHeartbeats 200000 in
theorem a_run {A : ST} (h : aOk A) (m : Int32) : aOk (R_run A m).2.2 := by
  unfold R_run
  have n9 := h.2.2.2.1
  refine aR_p (fun c => ?_) (fun _ => h)
  exact ⟨h.1, actsF_ok h.1 h.2.2.1 _ 0 _ _ (by omega) h.2.1, plOk_drop _ h.2.2.1, by show (dropA A.L _).n ≤ 40; rw [(dropA_at _ A.L).1]; omega, h.2.2.2.2⟩
theorem extF_ok {W : WS} (hw : wOk W) {e : Int32} : ∀ (f : Nat) (out : Nat → Bool) (L : PL) (P : PH) (D : DT), plOk W L → L.n ≤ 40 → rOk P D → plOk W (extF W e f out L P D).1 ∧ (extF W e f out L P D).1.n ≤ 40 := by
  intro f
  induction f with
  | zero => intro out L P D h1 h2 _; exact ⟨h1, h2⟩
  | succ f ih =>
    intro out L P D h1 h2 h3
    rw [extF]
    by_cases room : L.n + 2 ≤ 40
    rotate_left
    · rw [if_neg room]; exact ⟨h1, h2⟩
    rw [if_pos room]
    by_cases h99 : (choF W (C_fr W (ix P.x P.y)) D out W.tn).1 = 99
    · rw [if_pos h99]; exact ⟨h1, h2⟩
    rw [if_neg h99]
    have ct := choF_t (W := W) (c := C_fr W (ix P.x P.y)) (D := D) (out := out) W.tn hw.tn h99
    have np := nearA_t ct.2.2
    have vo := vis_ok (e := e) hw h3 h1 ct.1 np.1
    refine ih _ _ _ _ vo.1 ?_ vo.2.1
    cases q : (visA W L (choF W (C_fr W (ix P.x P.y)) D out W.tn).1 (nearA W (C_fr W (ix P.x P.y)) D (choF W (C_fr W (ix P.x P.y)) D out W.tn).1) e P D).1
    · rw [vo.2.2.2 q]; exact h2
    · have := vo.2.2.1 q; omega
set_option maxHeartbeats 200000 in
theorem a_make {A : ST} (h : aOk A) (n : Int32) : aOk (R_make A n).2.2 := by
  unfold R_make
  have n9 := h.2.2.2.1
  refine aR_p (fun c => aR_p (fun _ => h) (fun c2 => ?_)) (fun _ => h)
  have e := extF_ok h.1 (e := (tryA A A.L.n).2.1.t + n) 52 (fun _ => false) A.L (tryA A A.L.n).2.1 (tryA A A.L.n).2.2 h.2.2.1 n9 (actsF_ok h.1 h.2.2.1 _ 0 _ _ (by omega) h.2.1)
  exact aOk_L h e.1 e.2
set_option maxHeartbeats 200000 in
theorem a_mark {A : ST} (h : aOk A) : aOk (R_mark A).2.2 := by
  unfold R_mark
  refine aR_p (fun c => ⟨h.1, h.2.1, h.2.2.1, h.2.2.2.1, by show A.m + 1 ≤ 8; omega, fun i hi => ?_⟩) (fun _ => h)
  change i < A.m + 1 at hi
  show rOk (updM A.mP A.m A.P i) (updM A.mD A.m A.D i) ∧ plOk A.W (updM A.mL A.m A.L i) ∧ (updM A.mL A.m A.L i).n ≤ 40
  unfold updM
  by_cases e : i = A.m
  · rw [if_pos e, if_pos e, if_pos e]; exact ⟨h.2.1, h.2.2.1, h.2.2.2.1⟩
  · rw [if_neg e, if_neg e, if_neg e]; exact h.2.2.2.2.2 i (by omega)
set_option maxHeartbeats 200000 in
theorem a_back {A : ST} (h : aOk A) (k : Int32) : aOk (R_back A k).2.2 := by
  unfold R_back
  have m8 := h.2.2.2.2.1
  refine aR_p (fun c => ?_) (fun _ => h)
  have hk := (isT_nI (by omega) c).2
  have o := h.2.2.2.2.2 _ hk
  exact ⟨h.1, ⟨o.1.1, o.1.2⟩, o.2.1, o.2.2, by show k.toNatClampNeg + 1 ≤ 8; omega, fun i hi => h.2.2.2.2.2 i (by change i < k.toNatClampNeg + 1 at hi; omega)⟩
set_option maxHeartbeats 200000 in
theorem a_same {A : ST} (h : aOk A) {c : Prop} {v : Int32} {k : Nat} : aOk (pif c ((0 : Nat), v, A) (k, 0, A)).2.2 := aR_p (fun _ => h) (fun _ => h)
