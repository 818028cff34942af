/-! the class's public calls: the plan -/
theorem ao_0 {W : WS} {a b : Int32} : actOk W 0 a b ↔ inP a b := by
  constructor
  · rintro (⟨-, q⟩ | ⟨q, -⟩ | ⟨q, -⟩ | ⟨q, -⟩ | ⟨q, -⟩ | ⟨q, -⟩)
    · exact q
    · exact absurd q (by decide)
    · exact absurd q (by decide)
    · exact absurd q (by decide)
    · exact absurd q (by decide)
    · exact absurd q (by decide)
  · exact fun q => Or.inl ⟨rfl, q⟩
theorem ao_1 {W : WS} {a b : Int32} : actOk W 1 a b ↔ (isT W.tn a ∧ 1 ≤ b.toInt ∧ b.toInt ≤ 9) := by
  constructor
  · rintro (⟨q, -⟩ | ⟨-, q⟩ | ⟨q, -⟩ | ⟨q, -⟩ | ⟨q, -⟩ | ⟨q, -⟩)
    · exact absurd q (by decide)
    · exact q
    · exact absurd q (by decide)
    · exact absurd q (by decide)
    · exact absurd q (by decide)
    · exact absurd q (by decide)
  · exact fun q => Or.inr (Or.inl ⟨Or.inl rfl, q⟩)
theorem ao_2 {W : WS} {a b : Int32} : actOk W 2 a b ↔ (isT W.tn a ∧ 1 ≤ b.toInt ∧ b.toInt ≤ 9) := by
  constructor
  · rintro (⟨q, -⟩ | ⟨-, q⟩ | ⟨q, -⟩ | ⟨q, -⟩ | ⟨q, -⟩ | ⟨q, -⟩)
    · exact absurd q (by decide)
    · exact q
    · exact absurd q (by decide)
    · exact absurd q (by decide)
    · exact absurd q (by decide)
    · exact absurd q (by decide)
  · exact fun q => Or.inr (Or.inl ⟨Or.inr rfl, q⟩)
theorem ao_3 {W : WS} {a b : Int32} : actOk W 3 a b ↔ (1 ≤ a.toInt ∧ a.toInt ≤ 600 ∧ b = 0) := by
  constructor
  · rintro (⟨q, -⟩ | ⟨q, -⟩ | ⟨-, q⟩ | ⟨q, -⟩ | ⟨q, -⟩ | ⟨q, -⟩)
    · exact absurd q (by decide)
    · exact absurd q (by decide)
    · exact q
    · exact absurd q (by decide)
    · exact absurd q (by decide)
    · exact absurd q (by decide)
  · exact fun q => Or.inr (Or.inr (Or.inl ⟨rfl, q⟩))
theorem ao_4 {W : WS} {a b : Int32} : actOk W 4 a b ↔ (0 ≤ a.toInt ∧ a.toInt < 1440 ∧ b = 0) := by
  constructor
  · rintro (⟨q, -⟩ | ⟨q, -⟩ | ⟨q, -⟩ | ⟨-, q⟩ | ⟨q, -⟩ | ⟨q, -⟩)
    · exact absurd q (by decide)
    · exact absurd q (by decide)
    · exact absurd q (by decide)
    · exact q
    · exact absurd q (by decide)
    · exact absurd q (by decide)
  · exact fun q => Or.inr (Or.inr (Or.inr (Or.inl ⟨Or.inl rfl, q⟩)))
theorem ao_5 {W : WS} {a b : Int32} : actOk W 5 a b ↔ (0 ≤ a.toInt ∧ a.toInt < 1440 ∧ b = 0) := by
  constructor
  · rintro (⟨q, -⟩ | ⟨q, -⟩ | ⟨q, -⟩ | ⟨-, q⟩ | ⟨q, -⟩ | ⟨q, -⟩)
    · exact absurd q (by decide)
    · exact absurd q (by decide)
    · exact absurd q (by decide)
    · exact q
    · exact absurd q (by decide)
    · exact absurd q (by decide)
  · exact fun q => Or.inr (Or.inr (Or.inr (Or.inl ⟨Or.inr rfl, q⟩)))
theorem ao_6 {W : WS} {a b : Int32} : actOk W 6 a b ↔ ((a = 0 ∨ a = 1) ∧ b = 0) := by
  constructor
  · rintro (⟨q, -⟩ | ⟨q, -⟩ | ⟨q, -⟩ | ⟨q, -⟩ | ⟨-, q⟩ | ⟨q, -⟩)
    · exact absurd q (by decide)
    · exact absurd q (by decide)
    · exact absurd q (by decide)
    · exact absurd q (by decide)
    · exact q
    · exact absurd q (by decide)
  · exact fun q => Or.inr (Or.inr (Or.inr (Or.inr (Or.inl ⟨rfl, q⟩))))
theorem ao_7 {W : WS} {a b : Int32} : actOk W 7 a b ↔ (a = 0 ∧ b = 0) := by
  constructor
  · rintro (⟨q, -⟩ | ⟨q, -⟩ | ⟨q, -⟩ | ⟨q, -⟩ | ⟨q, -⟩ | ⟨-, q⟩)
    · exact absurd q (by decide)
    · exact absurd q (by decide)
    · exact absurd q (by decide)
    · exact absurd q (by decide)
    · exact absurd q (by decide)
    · exact q
  · exact fun q => Or.inr (Or.inr (Or.inr (Or.inr (Or.inr ⟨rfl, q⟩))))
theorem ao_n {W : WS} {k a b : Int32} (h0 : ¬ k = 0) (h1 : ¬ k = 1) (h2 : ¬ k = 2) (h3 : ¬ k = 3) (h4 : ¬ k = 4) (h5 : ¬ k = 5) (h6 : ¬ k = 6) (h7 : ¬ k = 7) : ¬ actOk W k a b := by
  rintro (⟨q, -⟩ | ⟨q, -⟩ | ⟨q, -⟩ | ⟨q, -⟩ | ⟨q, -⟩ | ⟨q, -⟩)
  · exact h0 q
  · exact q.elim h1 h2
  · exact h3 q
  · exact q.elim h4 h5
  · exact h6 q
  · exact h7 q
theorem actsF_le {W : WS} {L : PL} : ∀ (n i : Nat) (P : PH) (D : DT), (actsF W L i n P D).1.1 ≤ i + n := by
  intro n
  induction n with
  | zero => intro i P D; exact Nat.le_refl _
  | succ n ih =>
    intro i P D
    unfold actsF
    split
    · have := ih (i + 1) (perfA W (L.k i) (L.a i) (L.b i) P D).2.1 (perfA W (L.k i) (L.a i) (L.b i) P D).2.2
      omega
    · show i ≤ _; omega
def dgF (f : Nat → Int32) : Nat → Int64 → Int64
  | 0, s => s
  | n + 1, s => dgF f n s * 31 + (f n).toInt64
noncomputable def dg1 (A : ST) : Int64 := dgF (fun w => tellA A.P A.D (nI w)) 10 337
noncomputable def dg2 (A : ST) : Int64 := dgF (fun k => pcA A.D (k / 4) (nI (k % 4))) (4 * A.D.n) (dg1 A)
noncomputable def dg3 (A : ST) : Int64 := dgF (fun k => tellT A (k / 6) (nI (k % 6))) (6 * A.W.tn) (dg2 A)
noncomputable def dg4 (A : ST) : Int64 := dgF (fun k => plA A.L (k / 3) (nI (k % 3))) (3 * A.L.n) (dg3 A)
noncomputable def dg5 (A : ST) : Int64 := dgF (fun w => cntA A (nI w)) 4 (dg4 A)
noncomputable def R_digest (A : ST) : Int64 := dg5 A * 31 + (scoF A A.W.tn).toInt64
section PUB2
variable {l : Launch} {d mc ms : Nat} {Q : Option Value → qH → Prop} {QX : String → qH → Prop} {h : qH} {B : Nat} {A : ST}
theorem CS_L {h h' : qH} {L' : PL} (hB : 49 ≤ B) (c : CS h B A) (f : q_fr (sP 44) h h') (p : PV h' 44 L') : CS h' B (A.uL L') := by
  have hS : ∀ i, sP 44 i → 44 ≤ i ∧ i ≤ 47 := fun i q => q
  exact CS_up (A := A) (W' := A.W) (P' := A.P) (D' := A.D) (L' := L') hB c f (fun i q => by have := hS i q; omega) (c.s.fr f (fun i a b q => by have := hS i q; omega) (fun i a b q => by have := hS i q; omega)) (c.wy.fr f (fun i a b q => by have := hS i q; omega)) (c.un f (fun i a b q => by have := hS i q; omega)) (c.ah f (fun i a b q => by have := hS i q; omega)) (c.cp f (fun i a b q => by have := hS i q; omega)) (c.rv.fr f (fun i a b q => by have := hS i q; omega)) p
theorem sP_cl {h h' : qH} (f : q_fr (sP 44) h h') : q_fr (clS B) h h' := cl_fr f (fun i q => by unfold sP at q; omega)
theorem c_activity {p w : Int32} (hl0 : l.stackTraces = false) (hkc : 1 ≤ mc) (hks : 6 ≤ ms) (hB : 49 ≤ B) (c : CS h B A) (ok : aOk A) (hq : rs h B Q QX (E1 nIX) (R_activity A p w)) : q_Ct l (d + 6) mX9_activity [.ref 0, .int p, .int w] h mc ms Q QX := by
  unfold R_activity at hq
  have n0 := c.pv.2.2.2.2
  refine v_X9_activity hl0 hkc hks 0 _ _ (e_gr c.o rfl (e_ob c.pv.1 (s_phas c.pv (fun ht => ⟨_, rfl, fun q => absurd q z10, fun _ => ⟨fun q2 => ?_, fun q2 => ⟨fun q3 => ?_, fun q3 => ?_⟩⟩⟩) (fun hf => ⟨_, rfl, fun _ => ?_, fun q => absurd rfl q⟩))))
  · rw [pif_f (fun r => (isW_n (n := 2) (by decide) r.2).1 q2)] at hq
    exact rs_x ne1 c hq
  · rw [pif_t ⟨ht, isW_of (n := 2) (by decide) q2 q3⟩] at hq
    obtain ⟨k, hk, rfl⟩ := ht
    rw [nI_clamp (by omega)] at hq
    exact e_gr c.o rfl (e_ob c.pv.1 (s_ptell c.pv hk ⟨_, rfl, rs_v c hq⟩))
  · rw [pif_f (fun r => q3 (isW_n (n := 2) (by decide) r.2).2)] at hq
    exact rs_x ne1 c hq
  · rw [pif_f (fun r => hf r.1)] at hq
    exact rs_x ne1 c hq
theorem s_numberOf {w : Int32} (c : CS h B A) (hq : Q (some (.int (cntA A w))) h) : q_Ct l d mX9_numberOf [.ref 0, .int w] h mc ms Q QX := by
  unfold cntA at hq
  refine v_X9_numberOf (d := d) 0 _ ⟨fun q => ?_, fun q => ⟨fun q1 => ?_, fun q1 => ⟨fun q2 => ?_, fun q2 => ?_⟩⟩⟩
  · rw [if_pos q] at hq; exact e_gr c.o rfl (e_gi c.s.2.1.1 rfl hq)
  · rw [if_neg q, if_pos q1] at hq; exact e_gr c.o rfl (e_gi c.s.2.2.1.1 rfl hq)
  · rw [if_neg q, if_neg q1, if_pos q2] at hq; exact e_gr c.o rfl (e_gi c.pv.1 rfl hq)
  · rw [if_neg q, if_neg q1, if_neg q2] at hq; exact e_gi c.o rfl hq
theorem c_count {w : Int32} (hl0 : l.stackTraces = false) (hkc : 1 ≤ mc) (hks : 6 ≤ ms) (hB : 49 ≤ B) (c : CS h B A) (ok : aOk A) (hq : rs h B Q QX (E1 nIX) (R_count A w)) : q_Ct l (d + 6) mX9_count [.ref 0, .int w] h mc ms Q QX := by
  unfold R_count at hq
  refine v_X9_count hl0 hkc hks 0 _ ⟨fun q2 => ?_, fun q2 => ⟨fun q3 => ?_, fun q3 => ?_⟩⟩
  · rw [pif_f (fun r => (isW_n (n := 3) (by decide) r).1 q2)] at hq
    exact rs_x ne1 c hq
  · rw [pif_t (isW_of (n := 3) (by decide) q2 q3)] at hq
    exact e_ob c.o (s_numberOf c ⟨_, rfl, rs_v c hq⟩)
  · rw [pif_f (fun r => q3 (isW_n (n := 3) (by decide) r).2)] at hq
    exact rs_x ne1 c hq
theorem s_doOnCopy {m : Nat} (hB : 49 ≤ B) (c : CS h B A) (ok : aOk A) (hm : m ≤ A.L.n)
    (hq : ∀ h', q_fr (bS 38) h h' → CS h' B A → RV h' 38 (tryA A m).2.1 (tryA A m).2.2 → rOk (tryA A m).2.1 (tryA A m).2.2 → dob9 h' A.W (tryA A m).1.2 → Q (some (.int (nI (tryA A m).1.1))) h') : q_Ct l (d + 6) mX9_doOnCopy [.ref 0, .int (nI m)] h mc ms Q QX := by
  obtain ⟨ok1, ok2, ok3, ok4, ok5⟩ := ok
  obtain ⟨Pc, Dc, vc⟩ := c.cp (q_fr.rf (S := fun _ => False)) (fun i a b q => q)
  have n0 := c.pv.2.2.2.2
  refine v_X9_doOnCopy 0 _ (e_gr c.o rfl (e_gr c.o rfl (e_ob vc.1 (s_copyFrom (by omega) c.rv vc (fun h1 f1 z1 v1 => ⟨rfl, ?_⟩)))))
  have hS1 : ∀ i, sR 38 i → 38 ≤ i ∧ i ≤ 43 := fun i q => q
  have u1 := c.un f1 (fun i a b q => by have := hS1 i q; omega)
  have s1 := c.s.fr f1 (fun i a b q => by have := hS1 i q; omega) (fun i a b q => by have := hS1 i q; omega)
  have w1 := c.wy.fr f1 (fun i a b q => by have := hS1 i q; omega)
  have r1 := c.rv.fr f1 (fun i a b q => by have := hS1 i q; omega)
  have p1 := c.pv.fr f1 (fun i a b q => by have := hS1 i q; omega)
  have o1 := c.o.fr f1 (by unfold sR; omega)
  obtain ⟨lr, hdo⟩ := s1.2.2.2
  refine e_gr o1 rfl (e_gr o1 rfl (e_gr o1 rfl (e_ob hdo (s_performAll (r := 38) (rp := 44) (m := m) (by omega) (by omega) (by omega) s1 ok1 w1 u1 v1 ok2 p1 ok3 (by omega) (fun h2 f2 z2 s2 w2 u2 v2 k2 o2 => ⟨_, rfl, ?_⟩)))))
  have em : min m A.L.n = m := by omega
  rw [em] at v2 k2 o2 ⊢
  have F : q_fr (bS 38) h h2 := (f1.mono (fun i _ q => Or.inl (Or.inr (Or.inr q)))).tt f2
  have hS : ∀ i, bS 38 i → (6 ≤ i ∧ i ≤ 8) ∨ (18 ≤ i ∧ i ≤ 24) ∨ (38 ≤ i ∧ i ≤ 43) := fun i q => by unfold bS aS wS sR at q; omega
  exact hq h2 F (CS_up (A := A) (W' := A.W) (P' := A.P) (D' := A.D) (L' := A.L) hB c F (fun i q => by have := hS i q; omega) s2 w2 u2 (c.ah F (fun i a b q => by have := hS i q; omega)) ⟨_, _, v2⟩ (c.rv.fr F (fun i a b q => by have := hS i q; omega)) (c.pv.fr F (fun i a b q => by have := hS i q; omega))) v2 k2 o2
theorem bS_cl {h h' : qH} (f : q_fr (bS 38) h h') : q_fr (clS B) h h' := cl_fr f (fun i q => by unfold bS aS wS sR at q; omega)
theorem tryA_le {m : Nat} : (tryA A m).1.1 ≤ m := by
  have := actsF_le (W := A.W) (L := A.L) m 0 A.P A.D
  unfold tryA
  omega
theorem c_check (hB : 49 ≤ B) (c : CS h B A) (ok : aOk A) (hq : rs h B Q QX (E1 nIX) (R_check A)) : q_Ct l (d + 7) mX9_check [.ref 0] h mc ms Q QX := by
  have n0 := c.pv.2.2.2.2
  have le := tryA_le (A := A) (m := A.L.n)
  refine v_X9_check 0 (e_gr c.o rfl (e_gi c.pv.1 rfl (e_ob c.o (s_doOnCopy hB c ok (Nat.le_refl _) (fun h' f c' v' k' o' => ⟨_, rfl, e_gr c'.o rfl (e_gi c'.pv.1 rfl ⟨fun q => ?_, fun q => ?_⟩)⟩)))))
  · have hv := hq.1 rfl h' (bS_cl f) c'
    have q2 := (nI_leI (by omega) (by omega)).mp q
    change Q (some (.int (if (tryA A A.L.n).1.1 < A.L.n then nI (tryA A A.L.n).1.1 else -1))) h' at hv
    rw [if_neg (by omega)] at hv
    exact hv
  · have hv := hq.1 rfl h' (bS_cl f) c'
    have q2 : ¬ A.L.n ≤ (tryA A A.L.n).1.1 := fun r => q (nI_le r (by omega))
    change Q (some (.int (if (tryA A A.L.n).1.1 < A.L.n then nI (tryA A A.L.n).1.1 else -1))) h' at hv
    rw [if_pos (by omega)] at hv
    exact hv
theorem c_foretell {m w : Int32} (hl0 : l.stackTraces = false) (hkc : 1 ≤ mc) (hks : 6 ≤ ms) (hB : 49 ≤ B) (c : CS h B A) (ok : aOk A) (hq : rs h B Q QX (E3 nIX nIA nIS) (R_foretell A m w)) : q_Ct l (d + 7) mX9_foretell [.ref 0, .int m, .int w] h mc ms Q QX := by
  unfold R_foretell at hq
  have n0 := c.pv.2.2.2.2
  refine v_X9_foretell hl0 hkc hks 0 _ _ ⟨fun q2 => ?_, fun q2 => ⟨fun q3 => ?_, fun q3 => ?_⟩⟩
  · rw [pif_f (fun r => (isW_n (n := 9) (by decide) r).1 q2)] at hq
    exact rs_x ne1 c hq
  rotate_left
  · rw [pif_f (fun r => q3 (isW_n (n := 9) (by decide) r).2)] at hq
    exact rs_x ne1 c hq
  rw [pif_t (isW_of (n := 9) (by decide) q2 q3)] at hq
  refine ⟨fun q1 => ?_, fun q1 => e_gr c.o rfl (e_gi c.pv.1 rfl ⟨fun q2 => ?_, fun q2 => ?_⟩)⟩
  · rw [pif_f (by rintro ⟨j, hj, rfl⟩; exact absurd q1 (nI_pos (by omega)))] at hq; exact rs_x ne2 c hq
  rotate_left
  · rw [pif_f (by rintro ⟨j, hj, rfl⟩; exact q2 (nI_le (by omega) (by omega)))] at hq; exact rs_x ne2 c hq
  obtain ⟨j, hj, rfl⟩ := nI_of2 (nI_toInt (by omega)) q1 q2
  rw [pif_t ⟨j, by omega, rfl⟩, nI_clamp (by omega)] at hq
  have le := tryA_le (A := A) (m := j)
  refine e_ob c.o (s_doOnCopy hB c ok hj (fun h' f c' v' k' o' => ⟨_, rfl, fun q => ?_, fun q => ?_⟩))
  · have r := (nI_leI (by omega) (by omega)).mp q
    rw [pif_f (by omega)] at hq
    exact e_gr c'.o rfl (e_ob v'.1 (s_rtell v' ⟨_, rfl, hq.1 rfl h' (bS_cl f) c'⟩))
  · have r : ¬ j ≤ (tryA A j).1.1 := fun r => q (nI_le r (by omega))
    rw [pif_t (by omega)] at hq
    exact hq.2 ne3 h' (bS_cl f) c'
theorem c_run {m : Int32} (hl0 : l.stackTraces = false) (hkc : 1 ≤ mc) (hks : 6 ≤ ms) (hB : 49 ≤ B) (c : CS h B A) (ok : aOk A) (hq : rs h B Q QX (E1 nIA) (R_run A m)) : q_Ct l (d + 6) mX9_run [.ref 0, .int m] h mc ms Q QX := by
  unfold R_run at hq
  obtain ⟨ok1, ok2, ok3, ok4, ok5⟩ := ok
  have n0 := c.pv.2.2.2.2
  refine v_X9_run hl0 hkc hks 0 _ ⟨fun q1 => ?_, fun q1 => ⟨fun q2 => ?_, fun q2 => ?_⟩⟩
  · rw [pif_f (fun r => bt_lo L_1 r q1)] at hq; exact rs_x ne1 c hq
  rotate_left
  · rw [pif_f (fun r => q2 (Int32.not_lt.mp (bt_hi L_40 r)))] at hq; exact rs_x ne1 c hq
  have hb := bt_of L_1 L_40 q1 (Int32.not_lt.mpr q2)
  rw [pif_t hb] at hq
  have em := nI_ofI (z := m) (by have := hb.1; omega)
  have em2 : m.toNatClampNeg = m.toInt.toNat := rfl
  have em3 : m.toNatClampNeg ≤ 40 := by have := hb.2; omega
  generalize m.toNatClampNeg = k at hq em em3
  subst em
  obtain ⟨lr, hdo⟩ := c.s.2.2.2
  refine e_gr c.o rfl (e_gr c.o rfl (e_gr c.o rfl (e_ob hdo (s_performAll (r := 32) (rp := 44) (m := k) (by omega) (by omega) (by omega) c.s ok1 c.wy (c.un (q_fr.rf (S := fun _ => False)) (fun i a b q => q)) c.rv ok2 c.pv ok3 em3 (fun h1 f1 z1 s1 w1 u1 v1 k1 o1 => ⟨_, rfl, ?_⟩)))))
  have le : (tryA A (min k A.L.n)).1.1 ≤ min k A.L.n := tryA_le
  change RV h1 32 (tryA A (min k A.L.n)).2.1 (tryA A (min k A.L.n)).2.2 at v1
  show q_J l (d + 6) mX9_run mc ms Q QX h.2 41 [some (.ref 0), some (.int (nI k)), some (.int (nI (tryA A (min k A.L.n)).1.1)), some (.int 0)] [] h1 mc ms
  have hS : ∀ i, bS 32 i → (6 ≤ i ∧ i ≤ 8) ∨ (18 ≤ i ∧ i ≤ 24) ∨ (32 ≤ i ∧ i ≤ 37) := fun i q => by unfold bS aS wS sR at q; omega
  have c1 := CS_up (A := A) (W' := A.W) (P' := (tryA A (min k A.L.n)).2.1) (D' := (tryA A (min k A.L.n)).2.2) (L' := A.L) hB c f1 (fun i q => by have := hS i q; omega) s1 w1 u1 (c.ah f1 (fun i a b q => by have := hS i q; omega)) (c.cp f1 (fun i a b q => by have := hS i q; omega)) v1 (c.pv.fr f1 (fun i a b q => by have := hS i q; omega))
  have F1 : q_fr (clS B) h h1 := cl_fr f1 (fun i q => by have := hS i q; omega)
  generalize tryA A (min k A.L.n) = T at hq le v1 c1 ⊢
  refine q_loop (fun i (st : PL × qH) => q_J l (d + 6) mX9_run mc ms Q QX h.2 41 [some (.ref 0), some (.int (nI k)), some (.int (nI T.1.1)), some (.int (nI i))] [] st.2 mc ms)
    (fun i st => q_fr (clS B) h st.2 ∧ CS st.2 B (((A.uP T.2.1).uD T.2.2).uL st.1) ∧ st.1.n = A.L.n - i ∧ dropA st.1 (T.1.1 - i) = dropA A.L T.1.1) T.1.1 ?_ ?_ 0 (A.L, h1) (by omega) ⟨F1, c1, by simp, rfl⟩
  · rintro ⟨L', h'⟩ ⟨f, c', en, e⟩
    rw [Nat.sub_self, dropA] at e
    dsimp only at f c' en e ⊢
    refine v_X9_run_41 0 _ _ (nI T.1.1) ⟨fun _ => ?_, fun q => absurd (Int32.le_refl _) q⟩
    rw [e] at c'
    exact hq.1 rfl h' f c'
  · rintro i ⟨L', h'⟩ hi ⟨f, c', en, e⟩ ih
    rw [show T.1.1 - i = (T.1.1 - (i + 1)) + 1 by omega, dropA] at e
    dsimp only at f c' en e ⊢
    refine v_X9_run_41 0 _ _ (nI i) ⟨fun q => absurd q (nI_ge hi (by omega)), fun _ => e_gr c'.o rfl (e_ob c'.pv.1 (s_takeOut (p := 0) c'.pv (by show 0 < L'.n; omega) (fun h2 f2 z2 p2 => ⟨rfl, ?_⟩)))⟩
    rw [nI_1]
    have c3 := CS_L hB c' f2 p2
    exact ih (delA L' 0, h2) ⟨f.tt (sP_cl f2), c3, by show L'.n - 1 = _; omega, e⟩
theorem c_make {n : Int32} (hl0 : l.stackTraces = false) (hkc : 1 ≤ mc) (hks : 6 ≤ ms) (hB : 49 ≤ B) (c : CS h B A) (ok : aOk A) (hq : rs h B Q QX (E1 nIA) (R_make A n)) : q_Ct l (d + 7) mX9_make [.ref 0, .int n] h mc ms Q QX := by
  unfold R_make at hq
  have n0 := c.pv.2.2.2.2
  refine v_X9_make hl0 hkc hks 0 _ ⟨fun q1 => ?_, fun q1 => ⟨fun q2 => ?_, fun q2 => ?_⟩⟩
  · rw [pif_f (fun r => bt_lo L_1 r q1)] at hq; exact rs_x ne1 c hq
  rotate_left
  · rw [pif_f (fun r => q2 (Int32.not_lt.mp (bt_hi L_2880 r)))] at hq; exact rs_x ne1 c hq
  rw [pif_t (bt_of L_1 L_2880 q1 (Int32.not_lt.mpr q2))] at hq
  have le := tryA_le (A := A) (m := A.L.n)
  refine e_gr c.o rfl (e_gi c.pv.1 rfl (e_ob c.o (s_doOnCopy hB c ok (Nat.le_refl _) (fun h1 f1 c1 v1 k1 o1 => ⟨_, rfl, e_gr c1.o rfl (e_gi c1.pv.1 rfl ⟨fun q => ?_, fun q => ?_⟩)⟩))))
  rotate_left
  · have r : ¬ A.L.n ≤ (tryA A A.L.n).1.1 := fun r => q (nI_le r (by omega))
    rw [pif_t (by omega)] at hq
    exact hq.1 rfl h1 (bS_cl f1) c1
  have r := (nI_leI (by omega) (by omega)).mp q
  rw [pif_f (by omega)] at hq
  generalize tryA A A.L.n = T at hq v1 k1
  obtain ⟨ok1, ok2, ok3, ok4, ok5⟩ := ok
  refine e_gr c1.o rfl (e_gr c1.o rfl (e_gr c1.o rfl (e_ob c1.mo (s_extend (r := 38) (rp := 44) (by omega) (by omega) (by omega) c1.mo c1.s ok1 c1.wy (c1.un (q_fr.rf (S := fun _ => False)) (fun i a b q => q)) (c1.ah (q_fr.rf (S := fun _ => False)) (fun i a b q => q)) v1 k1 c1.pv ok3 (fun h2 f2 z2 w2 u2 a2 v2 p2 => ⟨_, rfl, ?_⟩)))))
  have hS : ∀ i, cSS 38 44 i → (6 ≤ i ∧ i ≤ 8) ∨ (19 ≤ i ∧ i ≤ 24) ∨ (26 ≤ i ∧ i ≤ 31) ∨ (38 ≤ i ∧ i ≤ 47) := fun i q => by unfold cSS aS wS sR sP at q; omega
  have c2 := CS_up (A := A) (W' := A.W) (P' := A.P) (D' := A.D) (L' := (extF A.W (T.2.1.t + n) 52 (fun _ => false) A.L T.2.1 T.2.2).1) hB c1 f2 (fun i q => by have := hS i q; omega) (c1.s.fr f2 (fun i a b q => by have := hS i q; omega) (fun i a b q => by have := hS i q; omega)) w2 u2 a2 ⟨_, _, v2⟩ (c1.rv.fr f2 (fun i a b q => by have := hS i q; omega)) p2
  exact hq.1 rfl h2 ((bS_cl f1).tt (cl_fr f2 (fun i q => by have := hS i q; omega))) c2
theorem c_nearest {t : Int32} (hl0 : l.stackTraces = false) (hkc : 1 ≤ mc) (hks : 6 ≤ ms) (hB : 49 ≤ B) (c : CS h B A) (ok : aOk A) (hq : rs h B Q QX (E1 nIX) (R_nearest A t)) : q_Ct l (d + 6) mX9_nearest [.ref 0, .int t] h mc ms Q QX := by
  unfold R_nearest at hq
  have tn := ok.1.tn
  have hp := ok.2.1.1.1
  refine v_X9_nearest hl0 hkc hks 0 _ (e_gr c.o rfl (e_ob c.s.2.1.1 (s_has c.s.2.1 ok.1 (fun ht => ⟨_, rfl, fun q => absurd q z10, fun _ => ?_⟩) (fun hf => ⟨_, rfl, fun _ => ?_, fun q => absurd rfl q⟩))))
  rotate_left
  · rw [pif_f hf] at hq; exact rs_x ne1 c hq
  rw [pif_t ht] at hq
  obtain ⟨k, hk, rfl⟩ := ht
  rw [nI_clamp (by omega)] at hq
  obtain ⟨m0, w0⟩ := c.wy.1
  refine e_gr c.o rfl (e_gr c.o rfl (e_gi c.rv.1 rfl (e_gr c.o rfl (e_gi c.rv.1 rfl (s_placeOf_t hp ⟨_, rfl, e_ob w0 (s_measureFrom c.s.1 ok.1.g c.wy (ix_lt hp) (fun h' f z L y => ⟨rfl, ?_⟩))⟩)))))
  have c' : CS h' B (A.uW A.W) := CS_W hB c f (fun i q => by unfold wS at q; omega) (c.s.fr f (fun i a b q => by unfold wS at q; omega) (fun i a b q => by unfold wS at q; omega)) y.r
  have hv : Q (some (.int (neaA A k))) h' := hq.1 rfl h' (cl_fr f (fun i q => by unfold wS at q; omega)) c'
  unfold neaA at hv
  change wys h' (C_fr A.W (ix A.P.x A.P.y)) at y
  generalize C_fr A.W (ix A.P.x A.P.y) = cc at hv y
  refine e_gr c'.o rfl (e_gr c'.o rfl (e_ob c'.mo (s_nearestPlace c'.mo c'.s ok.1 y c'.rv hk ⟨_, rfl, ?_⟩)))
  change qIF (rP (nearA A.W cc A.D k) = -1) _ _
  by_cases e : nearA A.W cc A.D k = 576
  · rw [if_pos e] at hv
    refine ⟨fun _ => hv, fun q => absurd ?_ q⟩
    unfold rP; rw [if_pos e]
  · have np := nearA_t e
    rw [if_neg e] at hv
    have er : rP (nearA A.W cc A.D k) = nI (nearA A.W cc A.D k) := by unfold rP; rw [if_neg e]
    refine ⟨fun q => ?_, fun _ => ?_⟩
    · rw [er] at q; exact absurd q (nI_nm1 (by omega))
    · show Q (some (.int (100 * (rP (nearA A.W cc A.D k) - rP (nearA A.W cc A.D k) / 24 * 24) + rP (nearA A.W cc A.D k) / 24))) h'
      rw [er, r24 (by omega), d24 (by omega)]
      exact hv
theorem dgF_0 {f : Nat → Int32} {s : Int64} : dgF f 0 s = s := rfl
theorem dgF_s {f : Nat → Int32} {n : Nat} {s : Int64} : dgF f (n + 1) s = dgF f n s * 31 + (f n).toInt64 := rfl
section DIG
variable {s0 : Int64}
end DIG
end PUB2
