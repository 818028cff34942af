/-! the class's Maker -/
def itsA (W : WS) (c : Nat → Nat) (t p : Nat) : Int32 := 1000 * W.tv t / (1 + nI (c p))
noncomputable def choF (W : WS) (c : Nat → Nat) (D : DT) (out : Nat → Bool) : Nat → Nat × Int32
  | 0 => (99, -1)
  | t + 1 => if out t = false ∧ nearA W c D t ≠ 576 ∧ (choF W c D out t).2 < itsA W c t (nearA W c D t) then (t, itsA W c t (nearA W c D t)) else choF W c D out t
def rT (b : Nat) : Int32 := if b = 99 then -1 else nI b
theorem choF_t {W : WS} {c : Nat → Nat} {D : DT} {out : Nat → Bool} : ∀ n, n ≤ 12 → (choF W c D out n).1 ≠ 99 → (choF W c D out n).1 < n ∧ out (choF W c D out n).1 = false ∧ nearA W c D (choF W c D out n).1 ≠ 576 := by
  intro n
  induction n with
  | zero => intro _ h; exact absurd rfl h
  | succ n ih =>
    intro hn h
    unfold choF at h ⊢
    by_cases q : out n = false ∧ nearA W c D n ≠ 576 ∧ (choF W c D out n).2 < itsA W c n (nearA W c D n)
    · rw [if_pos q]
      exact ⟨by show n < n + 1; omega, q.1, q.2.1⟩
    · rw [if_neg q] at h ⊢
      have := ih (by omega) h
      exact ⟨by omega, this.2⟩
def kdA (W : WS) (t : Nat) : Int32 := if W.td t = 4 then 2 else 1
noncomputable def visA (W : WS) (L : PL) (t p : Nat) (e : Int32) (P : PH) (D : DT) : Bool × PL × PH × DT :=
  if (perfA W 0 (px p) (py p) P D).1 = 0 then
    (if (perfA W (kdA W t) (nI t) 5 (perfA W 0 (px p) (py p) P D).2.1 (perfA W 0 (px p) (py p) P D).2.2).1 = 0 then
      (if (perfA W (kdA W t) (nI t) 5 (perfA W 0 (px p) (py p) P D).2.1 (perfA W 0 (px p) (py p) P D).2.2).2.1.t ≤ e then
        (true, insA (insA L L.n 0 (px p) (py p)) (L.n + 1) (kdA W t) (nI t) 5, (perfA W (kdA W t) (nI t) 5 (perfA W 0 (px p) (py p) P D).2.1 (perfA W 0 (px p) (py p) P D).2.2).2)
      else (false, L, P, D)) else (false, L, P, D)) else (false, L, P, D)
def outU (out : Nat → Bool) (t : Nat) : Nat → Bool := fun j => if j = t then true else out j
noncomputable def extF (W : WS) (e : Int32) : Nat → (Nat → Bool) → PL → PH → DT → PL × PH × DT
  | 0, _, L, P, D => (L, P, D)
  | f + 1, out, L, P, D => if L.n + 2 ≤ 40 then
      (if (choF W (C_fr W (ix P.x P.y)) D out W.tn).1 = 99 then (L, P, D) else
        extF W e f (if (visA W L (choF W (C_fr W (ix P.x P.y)) D out W.tn).1 (nearA W (C_fr W (ix P.x P.y)) D (choF W (C_fr W (ix P.x P.y)) D out W.tn).1) e P D).1 = true then out else outU out (choF W (C_fr W (ix P.x P.y)) D out W.tn).1)
          (visA W L (choF W (C_fr W (ix P.x P.y)) D out W.tn).1 (nearA W (C_fr W (ix P.x P.y)) D (choF W (C_fr W (ix P.x P.y)) D out W.tn).1) e P D).2.1
          (visA W L (choF W (C_fr W (ix P.x P.y)) D out W.tn).1 (nearA W (C_fr W (ix P.x P.y)) D (choF W (C_fr W (ix P.x P.y)) D out W.tn).1) e P D).2.2.1
          (visA W L (choF W (C_fr W (ix P.x P.y)) D out W.tn).1 (nearA W (C_fr W (ix P.x P.y)) D (choF W (C_fr W (ix P.x P.y)) D out W.tn).1) e P D).2.2.2)
    else (L, P, D)
theorem ins_ok {W : WS} {L : PL} {p : Nat} {k a b : Int32} (h : plOk W L) (hp : p ≤ L.n) (ha : actOk W k a b) : plOk W (insA L p k a b) := fun i hi => by
  show actOk W (ins L.k p k i) (ins L.a p a i) (ins L.b p b i)
  change i < L.n + 1 at hi
  unfold ins
  by_cases q : i < p
  · rw [if_pos q, if_pos q, if_pos q]; exact h i (by omega)
  · rw [if_neg q, if_neg q, if_neg q]
    by_cases e : i = p
    · rw [if_pos e, if_pos e, if_pos e]; exact ha
    · rw [if_neg e, if_neg e, if_neg e]; exact h (i - 1) (by omega)
theorem del_ok {W : WS} {L : PL} {p : Nat} (h : plOk W L) : plOk W (delA L p) := fun i hi => by
  show actOk W (del L.k p i) (del L.a p i) (del L.b p i)
  change i < L.n - 1 at hi
  unfold del
  by_cases q : i < p
  · rw [if_pos q, if_pos q, if_pos q]; exact h i (by omega)
  · rw [if_neg q, if_neg q, if_neg q]; exact h (i + 1) (by omega)
theorem dr_ok {W : WS} {p : Nat} (hp : p < 576) : actOk W 0 (px p) (py p) := Or.inl ⟨rfl, inP_p hp⟩
theorem kd_ok {W : WS} {t : Nat} (ht : t < W.tn) : actOk W (kdA W t) (nI t) 5 := by
  refine Or.inr (Or.inl ⟨?_, ⟨t, ht, rfl⟩, by decide, by decide⟩)
  unfold kdA
  split
  · exact Or.inr rfl
  · exact Or.inl rfl
theorem vis_ok {W : WS} (hw : wOk W) {L : PL} {t p : Nat} {e : Int32} {P : PH} {D : DT} (hR : rOk P D) (hL : plOk W L) (ht : t < W.tn) (hp : p < 576) : plOk W (visA W L t p e P D).2.1 ∧ rOk (visA W L t p e P D).2.2.1 (visA W L t p e P D).2.2.2 ∧ ((visA W L t p e P D).1 = true → (visA W L t p e P D).2.1.n = L.n + 2) ∧ ((visA W L t p e P D).1 = false → (visA W L t p e P D).2.1 = L) := by
  have r1 := perf_ok hw hR (dr_ok hp)
  have r2 := perf_ok hw r1 (kd_ok ht)
  unfold visA
  split
  · split
    · split
      · exact ⟨ins_ok (ins_ok hL (Nat.le_refl _) (dr_ok hp)) (Nat.le_refl _) (kd_ok ht), r2, fun _ => rfl, fun q => absurd (show true = false from q) (by decide)⟩
      · exact ⟨hL, hR, fun q => absurd (show false = true from q) (by decide), fun _ => rfl⟩
    · exact ⟨hL, hR, fun q => absurd (show false = true from q) (by decide), fun _ => rfl⟩
  · exact ⟨hL, hR, fun q => absurd (show false = true from q) (by decide), fun _ => rfl⟩
def bits (lo : Int32) (out : Nat → Bool) : Prop := ∀ t, t < 12 → lo.toBitVec.getLsbD t = out t
def cSS (r rp i : Nat) : Prop := aS r i ∨ sR 26 i ∨ sP rp i
section MK2
variable {l : Launch} {d mc ms : Nat} {Q : Option Value → qH → Prop} {QX : String → qH → Prop} {h : qH} {W : WS} {r rp : Nat} {P : PH} {D : DT} {c : Nat → Nat} {L : PL}
theorem s_choose {lo : Int32} {out : Nat → Bool} (hm : mOb h) (hc : cS h W) (hw : wOk W) (hy : wys h c) (v : RV h r P D) (hlo : bits lo out) (hcs : ∀ p, p < 576 → c p < FARn → c p ≤ 46656) (hq : Q (some (.int (rT (choF W c D out W.tn).1))) h) : q_Ct l (d + 5) mX2_choose [.ref 25, .ref r, .int lo] h mc ms Q QX := by
  have tn := hw.tn
  obtain ⟨m, w1⟩ := hy.1
  refine v_X2_choose 25 r lo ?_
  refine q_loop (fun t h' => q_J l (d + 5) mX2_choose mc ms Q QX h.2 8 [some (.ref 25), some (.ref r), some (.int lo), some (.int (rT (choF W c D out t).1)), some (.int (choF W c D out t).2), some (.int (nI t)), none, none] [] h' mc ms) (fun t h' => h' = h) W.tn ?_ ?_ 0 h (by omega) rfl
  · rintro h' rfl
    exact v_X2_choose_8 25 r _ _ _ (nI W.tn) (e_gr hm rfl (e_gi hc.2.1.1 rfl ⟨fun _ => hq, fun q => absurd (Int32.le_refl _) q⟩))
  · rintro t h' ht rfl ih
    have ih := ih h' rfl
    rw [choF] at ih
    refine v_X2_choose_8 25 r _ _ _ (nI t) (e_gr hm rfl (e_gi hc.2.1.1 rfl ⟨fun q => absurd q (nI_ge ht (by omega)), fun _ => ?_⟩))
    rw [b_bit (by omega), hlo t (by omega)]
    have skip : ¬ (out t = false ∧ nearA W c D t ≠ 576) → q_J l (d + 5) mX2_choose mc ms Q QX h'.2 41 [some (.ref 25), some (.ref r), some (.int lo), some (.int (rT (choF W c D out t).1)), some (.int (choF W c D out t).2), some (.int (nI t)), none, none] [.int (-1)] h' mc ms := fun q => by
      rw [if_neg (fun r => q ⟨r.1, r.2.1⟩)] at ih
      refine v_X2_choose_41 25 r _ _ _ _ _ ⟨fun _ => ?_, fun q => absurd rfl q⟩
      rw [nI_1]; exact ih
    refine ⟨fun q => skip (fun r => ?_), fun q => ?_⟩
    · rw [r.1] at q
      exact absurd q (by decide)
    have ho : out t = false := by
      cases ho : out t
      · rfl
      · rw [ho] at q; exact absurd rfl q
    refine e_ob hm (s_nearestPlace hm hc hw hy v ht ⟨_, rfl, ?_⟩)
    by_cases hn : nearA W c D t = 576
    · have er : rP (nearA W c D t) = -1 := by unfold rP; rw [if_pos hn]
      rw [er]
      exact skip (fun r => r.2 hn)
    have ng := nearA_t hn
    have er : rP (nearA W c D t) = nI (nearA W c D t) := by unfold rP; rw [if_neg hn]
    rw [er]
    have cs := hcs _ ng.1 ng.2.2.1
    refine v_X2_choose_41 25 r _ _ _ _ _ ⟨fun q => absurd q (nI_nm1 (by omega)), fun _ => ?_⟩
    refine e_gr hm rfl (e_ob hc.2.1.1 (s_valueOf hc.2.1 hw ht ⟨_, rfl, e_gr hm rfl (e_ob w1 (s_costOf hy ng.1 ⟨_, rfl, ?_⟩))⟩))
    rw [cv_t ng.2.2.1]
    have em : (if (0 : Int32) < nI (c (nearA W c D t)) then nI (c (nearA W c D t)) else 0) = nI (c (nearA W c D t)) := by
      by_cases z : (0 : Int32) < nI (c (nearA W c D t))
      · rw [if_pos z]
      · rw [if_neg z]
        by_cases z0 : c (nearA W c D t) = 0
        · rw [z0]; rfl
        · exact absurd ((nI_ltI (a := 0) (by decide) (by omega)).mpr (by omega)) z
    dsimp only
    rw [em]
    refine ⟨?_, ?_⟩
    · rw [show (1 : Int32) = nI 1 from rfl, nI_add]
      exact nI_ne0 (by omega) (by omega)
    · rw [nI_1]
      refine ⟨fun q5 => ?_, fun q5 => ?_⟩
      · rw [if_neg (fun r => absurd r.2.2 (Int32.not_lt.mpr q5))] at ih; exact ih
      · rw [if_pos ⟨ho, hn, Int32.not_le.mp q5⟩] at ih
        have et : rT t = nI t := by unfold rT; rw [if_neg (by omega)]
        rw [← et]
        exact ih
theorem s_visit {t p : Nat} {e : Int32} (hr : 32 ≤ r) (hrp : 32 ≤ rp) (hrr : rp + 3 < r ∨ r + 5 < rp) (hm : mOb h) (hc : cS h W) (hw : wOk W) (hy : wyr h) (hu : ∃ P D, RV h 19 P D) (ha : ∃ P D, RV h 26 P D) (v : RV h r P D) (hR : rOk P D) (hp : PV h rp L) (hn : L.n + 2 ≤ 40) (ht : t < W.tn) (hpp : p < 576)
    (hq : ∀ h' b, q_fr (cSS r rp) h h' → h'.2 = h.2 → wyr h' → (∃ P D, RV h' 19 P D) → (∃ P D, RV h' 26 P D) → RV h' r (visA W L t p e P D).2.2.1 (visA W L t p e P D).2.2.2 → PV h' rp (visA W L t p e P D).2.1 → b = (if (visA W L t p e P D).1 = true then 1 else 0) → Q (some (.int b)) h') : q_Ct l (d + 5) mX2_visit [.ref 25, .ref rp, .ref r, .int (nI t), .int (nI p), .int e] h mc ms Q QX := by
  obtain ⟨Pa, Da, ha⟩ := ha
  have go : ∀ y, y = kdA W t → q_J l (d + 5) mX2_visit mc ms Q QX h.2 17 [some (.ref 25), some (.ref rp), some (.ref r), some (.int (nI t)), some (.int (nI p)), some (.int e), none, none, none] [.int y] h mc ms := by
    rintro y rfl
    refine v_X2_visit_17 25 rp r _ _ _ _ (e_gr hm rfl (e_ob ha.1 (s_copyFrom (by omega) v ha (fun h1 f1 z1 a1 => ⟨rfl, ?_⟩))))
    have g1 : ∀ i, sR 26 i → cSS r rp i := fun i q => Or.inr (Or.inl q)
    have g2 : ∀ i, aS r i → cSS r rp i := fun i q => Or.inl q
    have g3 : ∀ i, sP rp i → cSS r rp i := fun i q => Or.inr (Or.inr q)
    have g4 : ∀ i, sR r i → cSS r rp i := fun i q => Or.inl (Or.inr (Or.inr q))
    have hm1 : mOb h1 := ob.fr hm f1 (by unfold sR; omega)
    have hc1 : cS h1 W := hc.fr f1 (fun i a b => by unfold sR; omega) (fun i a b => by unfold sR; omega)
    have hy1 := hy.fr f1 (fun i a b => by unfold sR; omega)
    have hu1 : ∃ P D, RV h1 19 P D := hu.elim fun P q => q.elim fun D q => ⟨P, D, q.fr f1 (fun i a b => by unfold sR; omega)⟩
    have v1 := v.fr f1 (fun i a b => by unfold sR; omega)
    have p1 : PV h1 rp L := hp.fr f1 (fun i a b => by unfold sR; omega)
    obtain ⟨lr, hdo1⟩ := hc1.2.2.2
    -- an end without success
    have back : ∀ h2 P2 D2, q_fr (aS r) h1 h2 → h2.2 = h1.2 → wyr h2 → (∃ P D, RV h2 19 P D) → RV h2 r P2 D2 → visA W L t p e P D = (false, L, P, D) → qGR h2 25 2 4 (fun r6 => qOB h2 r 6 (qCV l (d + 4) mX6_copyFrom [.ref r, .ref r6] h2 0 0 (fun h7 => Q (some (.int 0)) h7))) := by
      intro h2 P2 D2 f2 z2 y2 u2 v2 ev
      rw [ev] at hq
      have hm2 : mOb h2 := ob.fr hm1 f2 (by unfold aS wS sR; omega)
      have a2 := a1.fr f2 (fun i a b => by unfold aS wS sR; omega)
      refine e_gr hm2 rfl (e_ob v2.1 (s_copyFrom (by omega) a2 v2 (fun h3 f3 z3 v3 => ⟨rfl, ?_⟩)))
      refine hq h3 0 (((f1.mono (fun i _ => g1 i)).tt (f2.mono (fun i _ => g2 i))).tt (f3.mono (fun i _ => g4 i))) (by rw [z3, z2, z1]) (y2.fr f3 (fun i a b => by unfold sR; omega)) (u2.elim fun P q => q.elim fun D q => ⟨P, D, q.fr f3 (fun i a b => by unfold sR; omega)⟩) ⟨_, _, a2.fr f3 (fun i a b => by unfold sR; omega)⟩ v3 ((p1.fr f2 (fun i a b => by unfold aS wS sR; omega)).fr f3 (fun i a b => by unfold sR; omega)) ?_
      exact (if_neg (show ¬ false = true by decide)).symm
    have x24 : nI p - nI p / 24 * 24 = px p := r24 (by omega)
    have y24 : nI p / 24 = py p := d24 (by omega)
    rw [x24, y24]
    refine e_gr hm1 rfl (e_ob hdo1 (s_perform (by omega) hc1 hw hy1 hu1 v1 hR (dr_ok hpp) (fun h2 f2 z2 y2 u2 v2 => ⟨_, rfl, fun q1 => ?_, fun q1 => back h2 _ _ f2 z2 y2 u2 v2 ?_⟩)))
    rotate_left
    · unfold visA; rw [if_neg q1]
    have R2 := perf_ok hw hR (dr_ok (W := W) hpp)
    have hm2 : mOb h2 := ob.fr hm1 f2 (by unfold aS wS sR; omega)
    have hc2 : cS h2 W := hc1.fr f2 (fun i a b => by unfold aS wS sR; omega) (fun i a b => by unfold aS wS sR; omega)
    obtain ⟨lr2, hdo2⟩ := hc2.2.2.2
    refine e_gr hm2 rfl (e_ob hdo2 (s_perform (by omega) hc2 hw y2 u2 v2 R2 (kd_ok ht) (fun h3 f3 z3 y3 u3 v3 => ⟨_, rfl, fun q2 => ?_, fun q2 => back h3 _ _ (f2.tt f3) (z3.trans z2) y3 u3 v3 ?_⟩)))
    rotate_left
    · unfold visA; rw [if_pos q1, if_neg q2]
    have hm3 : mOb h3 := ob.fr hm2 f3 (by unfold aS wS sR; omega)
    refine e_gi v3.1 rfl ⟨fun q3 => ?_, fun q3 => back h3 _ _ (f2.tt f3) (z3.trans z2) y3 u3 v3 ?_⟩
    rotate_left
    · unfold visA; rw [if_pos q1, if_pos q2, if_neg q3]
    have ev : visA W L t p e P D = (true, insA (insA L L.n 0 (px p) (py p)) (L.n + 1) (kdA W t) (nI t) 5, (perfA W (kdA W t) (nI t) 5 (perfA W 0 (px p) (py p) P D).2.1 (perfA W 0 (px p) (py p) P D).2.2).2) := by
      unfold visA; rw [if_pos q1, if_pos q2, if_pos q3]
    rw [ev] at hq
    have p3 : PV h3 rp L := (p1.fr f2 (fun i a b => by unfold aS wS sR; omega)).fr f3 (fun i a b => by unfold aS wS sR; omega)
    refine e_gi p3.1 rfl (e_ob p3.1 (s_insert p3 (Nat.le_refl _) (by omega) (fun h4 f4 z4 p4 => ⟨rfl, ?_⟩)))
    refine e_gi p4.1 rfl (e_ob p4.1 (s_insert p4 (Nat.le_refl _) (by show L.n + 1 < 40; omega) (fun h5 f5 z5 p5 => ⟨rfl, ?_⟩)))
    refine hq h5 1 (((((f1.mono (fun i _ => g1 i)).tt (f2.mono (fun i _ => g2 i))).tt (f3.mono (fun i _ => g2 i))).tt (f4.mono (fun i _ => g3 i))).tt (f5.mono (fun i _ => g3 i))) (by rw [z5, z4, z3, z2, z1]) ((y3.fr f4 (fun i a b => by unfold sP; omega)).fr f5 (fun i a b => by unfold sP; omega)) (u3.elim fun P q => q.elim fun D q => ⟨P, D, (q.fr f4 (fun i a b => by unfold sP; omega)).fr f5 (fun i a b => by unfold sP; omega)⟩) ⟨_, _, (((a1.fr f2 (fun i a b => by unfold aS wS sR; omega)).fr f3 (fun i a b => by unfold aS wS sR; omega)).fr f4 (fun i a b => by unfold sP; omega)).fr f5 (fun i a b => by unfold sP; omega)⟩ ((v3.fr f4 (fun i a b => by unfold sP; omega)).fr f5 (fun i a b => by unfold sP; omega)) p5 ?_
    rw [if_pos rfl]
  refine v_X2_visit 25 rp r _ _ _ (e_gr hm rfl (e_ob hc.2.1.1 (s_needOf hc.2.1 hw ht ⟨_, rfl, fun q => go 2 ?_, fun q => go 1 ?_⟩)))
  · unfold kdA; rw [if_pos q]
  · unfold kdA; rw [if_neg q]
theorem bits_or {lo : Int32} {out : Nat → Bool} {t : Nat} (h : bits lo out) (ht : t < 12) : bits (lo ||| ((1 : Int32) <<< (nI t &&& 31))) (outU out t) := fun j hj => by
  rw [b_or, h j hj, b_one t ht j hj]
  unfold outU
  by_cases e : j = t
  · subst e; simp
  · simp [e]
theorem s_extend {n : Int32} (hr : 32 ≤ r) (hrp : 32 ≤ rp) (hrr : rp + 3 < r ∨ r + 5 < rp) (hm : mOb h) (hc : cS h W) (hw : wOk W) (hy : wyr h) (hu : ∃ P D, RV h 19 P D) (ha : ∃ P D, RV h 26 P D) (v : RV h r P D) (hR : rOk P D) (hp : PV h rp L) (hL : plOk W L)
    (hq : ∀ h', q_fr (cSS r rp) h h' → h'.2 = h.2 → wyr h' → (∃ P D, RV h' 19 P D) → (∃ P D, RV h' 26 P D) → RV h' r (extF W (P.t + n) 52 (fun _ => false) L P D).2.1 (extF W (P.t + n) 52 (fun _ => false) L P D).2.2 → PV h' rp (extF W (P.t + n) 52 (fun _ => false) L P D).1 → Q (some (.int (nI (extF W (P.t + n) 52 (fun _ => false) L P D).1.n - nI L.n))) h') : q_Ct l (d + 6) mX2_extend [.ref 25, .ref rp, .ref r, .int n] h mc ms Q QX := by
  refine v_X2_extend 25 rp r n (e_gi hp.1 rfl (e_gi v.1 rfl ?_))
  generalize P.t + n = e at hq ⊢
  have tn := hw.tn
  refine q_loop (fun i (st : (Int32 × (Nat → Bool)) × (PL × PH × DT) × qH) => q_J l (d + 6) mX2_extend mc ms Q QX h.2 20 [some (.ref 25), some (.ref rp), some (.ref r), some (.int n), some (.int (nI L.n)), some (.int e), some (.int st.1.1), some (.int (nI i)), none, none] [] st.2.2 mc ms)
    (fun i st => bits st.1.1 st.1.2 ∧ q_fr (cSS r rp) h st.2.2 ∧ st.2.2.2 = h.2 ∧ wyr st.2.2 ∧ (∃ P D, RV st.2.2 19 P D) ∧ (∃ P D, RV st.2.2 26 P D) ∧ RV st.2.2 r st.2.1.2.1 st.2.1.2.2 ∧ rOk st.2.1.2.1 st.2.1.2.2 ∧ PV st.2.2 rp st.2.1.1 ∧ plOk W st.2.1.1 ∧ extF W e (52 - i) st.1.2 st.2.1.1 st.2.1.2.1 st.2.1.2.2 = extF W e 52 (fun _ => false) L P D) 52 ?_ ?_ 0 ((0, fun _ => false), (L, P, D), h) (by omega)
    ⟨fun t _ => by simp, q_fr.rf, rfl, hy, hu, ha, v, hR, hp, hL, rfl⟩
  · rintro ⟨⟨lo, out⟩, ⟨L', P', D'⟩, h'⟩ ⟨b', f, z, y', u', a', v', R', p', L9, ee⟩
    rw [Nat.sub_self, extF] at ee
    dsimp only at b' f z y' u' a' v' R' p' L9 ee ⊢
    rw [← ee] at hq
    exact v_X2_extend_20 25 rp r _ _ _ _ (nI 52) ⟨fun _ => e_gi p'.1 rfl (hq h' f z y' u' a' v' p'), fun q => absurd (Int32.le_refl _) q⟩
  · rintro i ⟨⟨lo, out⟩, ⟨L', P', D'⟩, h'⟩ hi ⟨b', f, z, y', u', a', v', R', p', L9, ee⟩ ih
    rw [show 52 - i = (52 - (i + 1)) + 1 by omega, extF] at ee
    dsimp only at b' f z y' u' a' v' R' p' L9 ee ⊢
    have n40 := p'.2.2.2.2
    have c' : cS h' W := hc.fr f (fun i a b => by unfold cSS aS wS sR sP; omega) (fun i a b => by unfold cSS aS wS sR sP; omega)
    have m' : mOb h' := ob.fr hm f (by unfold cSS aS wS sR sP; omega)
    refine v_X2_extend_20 25 rp r _ _ _ _ (nI i) ⟨fun q => absurd q (nI_ge hi (by decide)), fun _ => e_ob p'.1 (s_hasRoom (m := 2) p' (by decide) ⟨_, rfl, ?_⟩)⟩
    by_cases hroom : L'.n + 2 ≤ 40
    rotate_left
    · rw [if_neg hroom] at ee ⊢
      rw [← ee] at hq
      exact ⟨fun _ => e_gi p'.1 rfl (hq h' f z y' u' a' v' p'), fun q => absurd rfl q⟩
    rw [if_pos hroom] at ee ⊢
    refine ⟨fun q => absurd q z10, fun _ => ?_⟩
    obtain ⟨my, w1⟩ := id y'.1
    refine e_gr m' rfl (e_gi v'.1 rfl (e_gi v'.1 rfl (s_placeOf_t R'.1.1 ⟨_, rfl, e_ob w1 (s_measureFrom c'.1 hw.g y' (ix_lt R'.1.1) (fun h1 f1 z1 LL y1 => ⟨rfl, ?_⟩))⟩)))
    change wys h1 (C_fr W (ix P'.x P'.y)) at y1
    change lc (B_fr W.H W.R W.Z W.s) (ix P'.x P'.y) (C_fr W (ix P'.x P'.y)) at LL
    generalize C_fr W (ix P'.x P'.y) = cc at ee y1 LL
    have f1' : q_fr (cSS r rp) h' h1 := f1.mono (fun i _ q => Or.inl (Or.inl q))
    have c1 : cS h1 W := c'.fr f1 (fun i a b => by unfold wS; omega) (fun i a b => by unfold wS; omega)
    have m1 : mOb h1 := ob.fr m' f1 (by unfold wS; omega)
    have v1 := v'.fr f1 (fun i a b => by unfold wS; omega)
    have p1 := p'.fr f1 (fun i a b => by unfold wS; omega)
    have u1 : ∃ P D, RV h1 19 P D := u'.elim fun P q => q.elim fun D q => ⟨P, D, q.fr f1 (fun i a b => by unfold wS; omega)⟩
    have a1 : ∃ P D, RV h1 26 P D := a'.elim fun P q => q.elim fun D q => ⟨P, D, q.fr f1 (fun i a b => by unfold wS; omega)⟩
    refine e_ob m1 (s_choose (out := out) m1 c1 hw y1 v1 b' (fun p hp hf => lc_small (gB_fr hw.g) LL hp hf) ⟨_, rfl, ?_⟩)
    generalize hch : (choF W cc D' out W.tn).1 = t at ee ⊢
    by_cases h99 : t = 99
    · rw [if_pos h99] at ee
      rw [← ee] at hq
      have et : rT t = -1 := by unfold rT; rw [if_pos h99]
      rw [et]
      refine e_ob m1 (s_nearestPlace_n m1 c1 hw v1 ⟨_, rfl, fun _ => e_gi p1.1 rfl (hq h1 (f.tt f1') (z1.trans z) y1.r u1 a1 v1 p1), fun q => absurd rfl q⟩)
    rw [if_neg h99] at ee
    have ct := choF_t (W := W) (c := cc) (D := D') (out := out) W.tn tn (by rw [hch]; exact h99)
    rw [hch] at ct
    have et : rT t = nI t := by unfold rT; rw [if_neg h99]
    rw [et]
    refine e_ob m1 (s_nearestPlace m1 c1 hw y1 v1 ct.1 ⟨_, rfl, ?_⟩)
    have np := nearA_t ct.2.2
    have er : rP (nearA W cc D' t) = nI (nearA W cc D' t) := by unfold rP; rw [if_neg ct.2.2]
    rw [er]
    generalize nearA W cc D' t = p at ee np ⊢
    refine ⟨fun q => absurd q (nI_nm1 (by omega)), fun _ => ?_⟩
    have vo := vis_ok (e := e) hw R' L9 ct.1 np.1
    refine e_ob m1 (s_visit (e := e) hr hrp hrr m1 c1 hw y1.r u1 a1 v1 R' p1 hroom ct.1 np.1 (fun h2 b f2 z2 y2 u2 a2 v2 p2 eb => ⟨_, rfl, fun q => ?_, fun q => ?_⟩))
    · have eb2 : ¬ (visA W L' t p e P' D').1 = true := fun r => by
        rw [if_pos r] at eb
        rw [eb] at q
        exact absurd q z10
      rw [if_neg eb2] at ee
      rw [nI_1]
      exact ih ((_, outU out t), (_, _, _), h2) ⟨bits_or b' (by omega), (f.tt f1').tt f2, by rw [z2, z1, z], y2, u2, a2, v2, vo.2.1, p2, vo.1, ee⟩
    · have eb2 : (visA W L' t p e P' D').1 = true := by
        by_cases r : (visA W L' t p e P' D').1 = true
        · exact r
        · rw [if_neg r] at eb
          exact absurd eb q
      rw [if_pos eb2] at ee
      rw [nI_1]
      exact ih ((lo, out), (_, _, _), h2) ⟨b', (f.tt f1').tt f2, by rw [z2, z1, z], y2, u2, a2, v2, vo.2.1, p2, vo.1, ee⟩
end MK2
