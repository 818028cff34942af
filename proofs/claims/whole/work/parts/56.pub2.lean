/-! the class's public calls: the plan -/
theorem ao_0 {W : WS} {a b : Int32} : actOk W 0 a b ↔ inP a b := by
  constructor
  · rintro (⟨-, q⟩ | ⟨q, -⟩ | ⟨q, -⟩ | ⟨q, -⟩ | ⟨q, -⟩ | ⟨q, -⟩)
    · exact q
    · exact absurd q (by decide)
    · exact absurd q (by decide)
    · exact absurd q (by decide)
    · exact absurd q (by decide)
    · exact absurd q (by decide)
  · exact fun q => Or.inl ⟨rfl, q⟩
theorem ao_1 {W : WS} {a b : Int32} : actOk W 1 a b ↔ (isT W.tn a ∧ 1 ≤ b.toInt ∧ b.toInt ≤ 9) := by
  constructor
  · rintro (⟨q, -⟩ | ⟨-, q⟩ | ⟨q, -⟩ | ⟨q, -⟩ | ⟨q, -⟩ | ⟨q, -⟩)
    · exact absurd q (by decide)
    · exact q
    · exact absurd q (by decide)
    · exact absurd q (by decide)
    · exact absurd q (by decide)
    · exact absurd q (by decide)
  · exact fun q => Or.inr (Or.inl ⟨Or.inl rfl, q⟩)
theorem ao_2 {W : WS} {a b : Int32} : actOk W 2 a b ↔ (isT W.tn a ∧ 1 ≤ b.toInt ∧ b.toInt ≤ 9) := by
  constructor
  · rintro (⟨q, -⟩ | ⟨-, q⟩ | ⟨q, -⟩ | ⟨q, -⟩ | ⟨q, -⟩ | ⟨q, -⟩)
    · exact absurd q (by decide)
    · exact q
    · exact absurd q (by decide)
    · exact absurd q (by decide)
    · exact absurd q (by decide)
    · exact absurd q (by decide)
  · exact fun q => Or.inr (Or.inl ⟨Or.inr rfl, q⟩)
theorem ao_3 {W : WS} {a b : Int32} : actOk W 3 a b ↔ (1 ≤ a.toInt ∧ a.toInt ≤ 600 ∧ b = 0) := by
  constructor
  · rintro (⟨q, -⟩ | ⟨q, -⟩ | ⟨-, q⟩ | ⟨q, -⟩ | ⟨q, -⟩ | ⟨q, -⟩)
    · exact absurd q (by decide)
    · exact absurd q (by decide)
    · exact q
    · exact absurd q (by decide)
    · exact absurd q (by decide)
    · exact absurd q (by decide)
  · exact fun q => Or.inr (Or.inr (Or.inl ⟨rfl, q⟩))
theorem ao_4 {W : WS} {a b : Int32} : actOk W 4 a b ↔ (0 ≤ a.toInt ∧ a.toInt < 1440 ∧ b = 0) := by
  constructor
  · rintro (⟨q, -⟩ | ⟨q, -⟩ | ⟨q, -⟩ | ⟨-, q⟩ | ⟨q, -⟩ | ⟨q, -⟩)
    · exact absurd q (by decide)
    · exact absurd q (by decide)
    · exact absurd q (by decide)
    · exact q
    · exact absurd q (by decide)
    · exact absurd q (by decide)
  · exact fun q => Or.inr (Or.inr (Or.inr (Or.inl ⟨Or.inl rfl, q⟩)))
theorem ao_5 {W : WS} {a b : Int32} : actOk W 5 a b ↔ (0 ≤ a.toInt ∧ a.toInt < 1440 ∧ b = 0) := by
  constructor
  · rintro (⟨q, -⟩ | ⟨q, -⟩ | ⟨q, -⟩ | ⟨-, q⟩ | ⟨q, -⟩ | ⟨q, -⟩)
    · exact absurd q (by decide)
    · exact absurd q (by decide)
    · exact absurd q (by decide)
    · exact q
    · exact absurd q (by decide)
    · exact absurd q (by decide)
  · exact fun q => Or.inr (Or.inr (Or.inr (Or.inl ⟨Or.inr rfl, q⟩)))
theorem ao_6 {W : WS} {a b : Int32} : actOk W 6 a b ↔ ((a = 0 ∨ a = 1) ∧ b = 0) := by
  constructor
  · rintro (⟨q, -⟩ | ⟨q, -⟩ | ⟨q, -⟩ | ⟨q, -⟩ | ⟨-, q⟩ | ⟨q, -⟩)
    · exact absurd q (by decide)
    · exact absurd q (by decide)
    · exact absurd q (by decide)
    · exact absurd q (by decide)
    · exact q
    · exact absurd q (by decide)
  · exact fun q => Or.inr (Or.inr (Or.inr (Or.inr (Or.inl ⟨rfl, q⟩))))
theorem ao_7 {W : WS} {a b : Int32} : actOk W 7 a b ↔ (a = 0 ∧ b = 0) := by
  constructor
  · rintro (⟨q, -⟩ | ⟨q, -⟩ | ⟨q, -⟩ | ⟨q, -⟩ | ⟨q, -⟩ | ⟨-, q⟩)
    · exact absurd q (by decide)
    · exact absurd q (by decide)
    · exact absurd q (by decide)
    · exact absurd q (by decide)
    · exact absurd q (by decide)
    · exact q
  · exact fun q => Or.inr (Or.inr (Or.inr (Or.inr (Or.inr ⟨rfl, q⟩))))
theorem ao_n {W : WS} {k a b : Int32} (h0 : ¬ k = 0) (h1 : ¬ k = 1) (h2 : ¬ k = 2) (h3 : ¬ k = 3) (h4 : ¬ k = 4) (h5 : ¬ k = 5) (h6 : ¬ k = 6) (h7 : ¬ k = 7) : ¬ actOk W k a b := by
  rintro (⟨q, -⟩ | ⟨q, -⟩ | ⟨q, -⟩ | ⟨q, -⟩ | ⟨q, -⟩ | ⟨q, -⟩)
  · exact h0 q
  · exact q.elim h1 h2
  · exact h3 q
  · exact q.elim h4 h5
  · exact h6 q
  · exact h7 q
theorem actsF_le {W : WS} {L : PL} : ∀ (n i : Nat) (P : PH) (D : DT), (actsF W L i n P D).1.1 ≤ i + n := by
  intro n
  induction n with
  | zero => intro i P D; exact Nat.le_refl _
  | succ n ih =>
    intro i P D
    unfold actsF
    split
    · have := ih (i + 1) (perfA W (L.k i) (L.a i) (L.b i) P D).2.1 (perfA W (L.k i) (L.a i) (L.b i) P D).2.2
      omega
    · show i ≤ _; omega
def dgF (f : Nat → Int32) : Nat → Int64 → Int64
  | 0, s => s
  | n + 1, s => dgF f n s * 31 + (f n).toInt64
noncomputable def dg1 (A : ST) : Int64 := dgF (fun w => tellA A.P A.D (nI w)) 10 337
noncomputable def dg2 (A : ST) : Int64 := dgF (fun k => pcA A.D (k / 4) (nI (k % 4))) (4 * A.D.n) (dg1 A)
noncomputable def dg3 (A : ST) : Int64 := dgF (fun k => tellT A (k / 6) (nI (k % 6))) (6 * A.W.tn) (dg2 A)
noncomputable def dg4 (A : ST) : Int64 := dgF (fun k => plA A.L (k / 3) (nI (k % 3))) (3 * A.L.n) (dg3 A)
noncomputable def dg5 (A : ST) : Int64 := dgF (fun w => cntA A (nI w)) 4 (dg4 A)
noncomputable def R_digest (A : ST) : Int64 := dg5 A * 31 + (scoF A A.W.tn).toInt64
section PUB2
variable {l : Launch} {d mc ms : Nat} {Q : Option Value → qH → Prop} {QX : String → qH → Prop} {h : qH} {B : Nat} {A : ST}
theorem s_canBe {k a b : Int32} (c : CS h B A) (ok : aOk A) (ht' : actOk A.W k a b → Q (some (.int 1)) h) (hf : ¬ actOk A.W k a b → Q (some (.int 0)) h) : q_Ct l (d + 1) mX9_canBe [.ref 0, .int k, .int a, .int b] h mc ms Q QX := by
  refine v_X9_canBe 0 _ _ _ ⟨fun q0 => ?_, fun q0 => ⟨fun q1 => ?_, fun q1 => ⟨fun q2 => ?_, fun q2 => ⟨fun q3 => ?_, fun q3 => ⟨fun q4 => ?_, fun q4 => ⟨fun q5 => ?_, fun q5 => ⟨fun q6 => ?_, fun q6 => ⟨fun q7 => ?_, fun q7 => hf (ao_n q0 q1 q2 q3 q4 q5 q6 q7)⟩⟩⟩⟩⟩⟩⟩⟩
  · subst q0
    by_cases hp : inP a b
    · exact s_isPlace_t hp ⟨_, rfl, Or.inr rfl, ht' (ao_0.mpr hp)⟩
    · exact s_isPlace_f hp ⟨_, rfl, Or.inl rfl, hf (fun q => hp (ao_0.mp q))⟩
  · subst q1
    refine e_gr c.o rfl (e_ob c.s.2.1.1 (s_has c.s.2.1 ok.1 (fun ht => ⟨_, rfl, fun q => absurd q z10, fun _ => ⟨fun r1 => hf (fun q => ?_), fun r1 => ⟨fun r2 => hf (fun q => ?_), fun r2 => ht' (ao_1.mpr ⟨ht, ?_⟩)⟩⟩⟩) (fun hn => ⟨_, rfl, fun _ => hf (fun q => hn (ao_1.mp q).1), fun q => absurd rfl q⟩)))
    · have := (ao_1.mp q).2; rw [lt_i, L_1] at r1; omega
    · have := (ao_1.mp q).2; rw [lt_i, L_9] at r2; omega
    · rw [lt_i, L_1] at r1
      rw [lt_i, L_9] at r2
      omega
  · subst q2
    refine e_gr c.o rfl (e_ob c.s.2.1.1 (s_has c.s.2.1 ok.1 (fun ht => ⟨_, rfl, fun q => absurd q z10, fun _ => ⟨fun r1 => hf (fun q => ?_), fun r1 => ⟨fun r2 => hf (fun q => ?_), fun r2 => ht' (ao_2.mpr ⟨ht, ?_⟩)⟩⟩⟩) (fun hn => ⟨_, rfl, fun _ => hf (fun q => hn (ao_2.mp q).1), fun q => absurd rfl q⟩)))
    · have := (ao_2.mp q).2; rw [lt_i, L_1] at r1; omega
    · have := (ao_2.mp q).2; rw [lt_i, L_9] at r2; omega
    · rw [lt_i, L_1] at r1
      rw [lt_i, L_9] at r2
      omega
  · subst q3
    refine ⟨fun r1 => hf (fun q => ?_), fun r1 => ⟨fun r2 => hf (fun q => ?_), fun r2 => ⟨fun r3 => ht' (ao_3.mpr ⟨?_, ?_, r3⟩), fun r3 => hf (fun q => r3 (ao_3.mp q).2.2)⟩⟩⟩
    · have := ao_3.mp q; rw [lt_i, L_1] at r1; omega
    · have := ao_3.mp q; rw [lt_i, L_600] at r2; omega
    · rw [lt_i, L_1] at r1; omega
    · rw [lt_i, L_600] at r2; omega
  · subst q4
    refine ⟨fun r1 => hf (fun q => ?_), fun r1 => ⟨fun r2 => hf (fun q => ?_), fun r2 => ⟨fun r3 => ht' (ao_4.mpr ⟨?_, ?_, r3⟩), fun r3 => hf (fun q => r3 (ao_4.mp q).2.2)⟩⟩⟩
    · have := ao_4.mp q; rw [lt_i, L_0] at r1; omega
    · have := ao_4.mp q; rw [le_i, L_1440] at r2; omega
    · rw [lt_i, L_0] at r1; omega
    · rw [le_i, L_1440] at r2; omega
  · subst q5
    refine ⟨fun r1 => hf (fun q => ?_), fun r1 => ⟨fun r2 => hf (fun q => ?_), fun r2 => ⟨fun r3 => ht' (ao_5.mpr ⟨?_, ?_, r3⟩), fun r3 => hf (fun q => r3 (ao_5.mp q).2.2)⟩⟩⟩
    · have := ao_5.mp q; rw [lt_i, L_0] at r1; omega
    · have := ao_5.mp q; rw [le_i, L_1440] at r2; omega
    · rw [lt_i, L_0] at r1; omega
    · rw [le_i, L_1440] at r2; omega
  · subst q6
    refine ⟨fun r1 => ⟨fun r3 => ht' (ao_6.mpr ⟨Or.inl r1, r3⟩), fun r3 => hf (fun q => r3 (ao_6.mp q).2)⟩, fun r1 => ⟨fun r2 => ⟨fun r3 => ht' (ao_6.mpr ⟨Or.inr r2, r3⟩), fun r3 => hf (fun q => r3 (ao_6.mp q).2)⟩, fun r2 => hf (fun q => (ao_6.mp q).1.elim r1 r2)⟩⟩
  · subst q7
    exact ⟨fun r1 => ⟨fun r3 => ht' (ao_7.mpr ⟨r1, r3⟩), fun r3 => hf (fun q => r3 (ao_7.mp q).2)⟩, fun r1 => hf (fun q => r1 (ao_7.mp q).1)⟩
theorem CS_L {h h' : qH} {L' : PL} (hB : 49 ≤ B) (c : CS h B A) (f : q_fr (sP 44) h h') (p : PV h' 44 L') : CS h' B (A.uL L') := by
  have hS : ∀ i, sP 44 i → 44 ≤ i ∧ i ≤ 47 := fun i q => q
  exact CS_up (A := A) (W' := A.W) (P' := A.P) (D' := A.D) (L' := L') hB c f (fun i q => by have := hS i q; omega) (c.s.fr f (fun i a b q => by have := hS i q; omega) (fun i a b q => by have := hS i q; omega)) (c.wy.fr f (fun i a b q => by have := hS i q; omega)) (c.un f (fun i a b q => by have := hS i q; omega)) (c.ah f (fun i a b q => by have := hS i q; omega)) (c.cp f (fun i a b q => by have := hS i q; omega)) (c.rv.fr f (fun i a b q => by have := hS i q; omega)) p
theorem sP_cl {h h' : qH} (f : q_fr (sP 44) h h') : q_fr (clS B) h h' := cl_fr f (fun i q => by unfold sP at q; omega)
theorem c_put {p k a b : Int32} (hl0 : l.stackTraces = false) (hkc : 1 ≤ mc) (hks : 6 ≤ ms) (hB : 49 ≤ B) (c : CS h B A) (ok : aOk A) (hq : rs h B Q QX (E3 nIX nIA nIS) (R_put A p k a b)) : q_Ct l (d + 6) mX9_put [.ref 0, .int p, .int k, .int a, .int b] h mc ms Q QX := by
  unfold R_put at hq
  have n0 := c.pv.2.2.2.2
  refine v_X9_put hl0 hkc hks 0 _ _ _ _ ⟨fun q1 => ?_, fun q1 => e_gr c.o rfl (e_gi c.pv.1 rfl ⟨fun q2 => ?_, fun q2 => ?_⟩)⟩
  · rw [pif_f (by rintro ⟨j, hj, rfl⟩; exact absurd q1 (nI_pos (by omega)))] at hq; exact rs_x ne1 c hq
  rotate_left
  · rw [pif_f (by rintro ⟨j, hj, rfl⟩; exact q2 (nI_le (by omega) (by omega)))] at hq; exact rs_x ne1 c hq
  obtain ⟨j, hj, rfl⟩ := nI_of2 (nI_toInt (by omega)) q1 q2
  rw [pif_t ⟨j, by omega, rfl⟩, nI_clamp (by omega)] at hq
  refine e_ob c.o (s_canBe c ok (fun h1 => ⟨_, rfl, fun q => absurd q z10, fun _ => ?_⟩) (fun h1 => ⟨_, rfl, fun _ => ?_, fun q => absurd rfl q⟩))
  rotate_left
  · rw [pif_f h1] at hq; exact rs_x ne2 c hq
  rw [pif_t h1] at hq
  refine e_gr c.o rfl (e_ob c.pv.1 (s_hasRoom (m := 1) c.pv (by decide) ⟨_, rfl, ?_⟩))
  by_cases hn : A.L.n < 40
  rotate_left
  · rw [pif_f hn] at hq
    rw [if_neg (by omega)]
    exact ⟨fun _ => rs_x ne3 c hq, fun q => absurd rfl q⟩
  rw [pif_t hn] at hq
  rw [if_pos (by omega)]
  refine ⟨fun q => absurd q z10, fun _ => e_gr c.o rfl (e_ob c.pv.1 (s_insert c.pv hj hn (fun h' f z p' => ⟨rfl, ?_⟩)))⟩
  have c' := CS_L hB c f p'
  exact e_gr c'.o rfl (e_gi p'.1 rfl (hq.1 rfl h' (sP_cl f) c'))
theorem c_remove {p : Int32} (hl0 : l.stackTraces = false) (hkc : 1 ≤ mc) (hks : 6 ≤ ms) (hB : 49 ≤ B) (c : CS h B A) (ok : aOk A) (hq : rs h B Q QX (E1 nIX) (R_remove A p)) : q_Ct l (d + 6) mX9_remove [.ref 0, .int p] h mc ms Q QX := by
  unfold R_remove at hq
  have n0 := c.pv.2.2.2.2
  refine v_X9_remove hl0 hkc hks 0 _ (e_gr c.o rfl (e_ob c.pv.1 (s_phas c.pv (fun ht => ⟨_, rfl, fun q => absurd q z10, fun _ => ?_⟩) (fun hf => ⟨_, rfl, fun _ => ?_, fun q => absurd rfl q⟩))))
  rotate_left
  · rw [pif_f hf] at hq; exact rs_x ne1 c hq
  rw [pif_t ht] at hq
  obtain ⟨j, hj, rfl⟩ := ht
  rw [nI_clamp (by omega)] at hq
  refine e_gr c.o rfl (e_ob c.pv.1 (s_ptell c.pv hj ⟨_, rfl, e_gr c.o rfl (e_ob c.pv.1 (s_takeOut c.pv hj (fun h' f z p' => ⟨rfl, ?_⟩)))⟩))
  rw [plA_0]
  exact hq.1 rfl h' (sP_cl f) (CS_L hB c f p')
theorem c_move {p q : Int32} (hl0 : l.stackTraces = false) (hkc : 1 ≤ mc) (hks : 6 ≤ ms) (hB : 49 ≤ B) (c : CS h B A) (ok : aOk A) (hq : rs h B Q QX (E1 nIX) (R_move A p q)) : q_Ct l (d + 6) mX9_move [.ref 0, .int p, .int q] h mc ms Q QX := by
  unfold R_move at hq
  have n0 := c.pv.2.2.2.2
  refine v_X9_move hl0 hkc hks 0 _ _ (e_gr c.o rfl (e_ob c.pv.1 (s_phas c.pv (fun ht => ⟨_, rfl, fun q => absurd q z10, fun _ => ?_⟩) (fun hf => ⟨_, rfl, fun _ => ?_, fun q => absurd rfl q⟩))))
  rotate_left
  · rw [pif_f (fun r => hf r.1)] at hq; exact rs_x ne1 c hq
  refine e_gr c.o rfl (e_ob c.pv.1 (s_phas c.pv (fun ht2 => ⟨_, rfl, fun q => absurd q z10, fun _ => ?_⟩) (fun hf => ⟨_, rfl, fun _ => ?_, fun q => absurd rfl q⟩)))
  rotate_left
  · rw [pif_f (fun r => hf r.2)] at hq; exact rs_x ne1 c hq
  rw [pif_t ⟨ht, ht2⟩] at hq
  obtain ⟨j, hj, rfl⟩ := ht
  obtain ⟨k, hk, rfl⟩ := ht2
  rw [nI_clamp (by omega), nI_clamp (by omega)] at hq
  refine e_gr c.o rfl (e_ob c.pv.1 (s_ptell c.pv hj ⟨_, rfl, e_gr c.o rfl (e_ob c.pv.1 (s_ptell c.pv hj ⟨_, rfl, e_gr c.o rfl (e_ob c.pv.1 (s_ptell c.pv hj ⟨_, rfl, ?_⟩))⟩))⟩))
  rw [plA_0, plA_1, plA_2]
  refine e_gr c.o rfl (e_ob c.pv.1 (s_takeOut c.pv hj (fun h1 f1 z1 p1 => ⟨rfl, ?_⟩)))
  have c1 := CS_L hB c f1 p1
  have en : (delA A.L j).n = A.L.n - 1 := rfl
  refine e_gr c1.o rfl (e_ob p1.1 (s_insert p1 (by omega) (by omega) (fun h2 f2 z2 p2 => ⟨rfl, ?_⟩)))
  have c2 := CS_L hB c1 f2 p2
  exact hq.1 rfl h2 (sP_cl (f1.tt f2)) c2
theorem c_activity {p w : Int32} (hl0 : l.stackTraces = false) (hkc : 1 ≤ mc) (hks : 6 ≤ ms) (hB : 49 ≤ B) (c : CS h B A) (ok : aOk A) (hq : rs h B Q QX (E1 nIX) (R_activity A p w)) : q_Ct l (d + 6) mX9_activity [.ref 0, .int p, .int w] h mc ms Q QX := by
  unfold R_activity at hq
  have n0 := c.pv.2.2.2.2
  refine v_X9_activity hl0 hkc hks 0 _ _ (e_gr c.o rfl (e_ob c.pv.1 (s_phas c.pv (fun ht => ⟨_, rfl, fun q => absurd q z10, fun _ => ⟨fun q2 => ?_, fun q2 => ⟨fun q3 => ?_, fun q3 => ?_⟩⟩⟩) (fun hf => ⟨_, rfl, fun _ => ?_, fun q => absurd rfl q⟩))))
  · rw [pif_f (fun r => (isW_n (n := 2) (by decide) r.2).1 q2)] at hq
    exact rs_x ne1 c hq
  · rw [pif_t ⟨ht, isW_of (n := 2) (by decide) q2 q3⟩] at hq
    obtain ⟨k, hk, rfl⟩ := ht
    rw [nI_clamp (by omega)] at hq
    exact e_gr c.o rfl (e_ob c.pv.1 (s_ptell c.pv hk ⟨_, rfl, rs_v c hq⟩))
  · rw [pif_f (fun r => q3 (isW_n (n := 2) (by decide) r.2).2)] at hq
    exact rs_x ne1 c hq
  · rw [pif_f (fun r => hf r.1)] at hq
    exact rs_x ne1 c hq
theorem s_numberOf {w : Int32} (c : CS h B A) (hq : Q (some (.int (cntA A w))) h) : q_Ct l d mX9_numberOf [.ref 0, .int w] h mc ms Q QX := by
  unfold cntA at hq
  refine v_X9_numberOf (d := d) 0 _ ⟨fun q => ?_, fun q => ⟨fun q1 => ?_, fun q1 => ⟨fun q2 => ?_, fun q2 => ?_⟩⟩⟩
  · rw [if_pos q] at hq; exact e_gr c.o rfl (e_gi c.s.2.1.1 rfl hq)
  · rw [if_neg q, if_pos q1] at hq; exact e_gr c.o rfl (e_gi c.s.2.2.1.1 rfl hq)
  · rw [if_neg q, if_neg q1, if_pos q2] at hq; exact e_gr c.o rfl (e_gi c.pv.1 rfl hq)
  · rw [if_neg q, if_neg q1, if_neg q2] at hq; exact e_gi c.o rfl hq
theorem c_count {w : Int32} (hl0 : l.stackTraces = false) (hkc : 1 ≤ mc) (hks : 6 ≤ ms) (hB : 49 ≤ B) (c : CS h B A) (ok : aOk A) (hq : rs h B Q QX (E1 nIX) (R_count A w)) : q_Ct l (d + 6) mX9_count [.ref 0, .int w] h mc ms Q QX := by
  unfold R_count at hq
  refine v_X9_count hl0 hkc hks 0 _ ⟨fun q2 => ?_, fun q2 => ⟨fun q3 => ?_, fun q3 => ?_⟩⟩
  · rw [pif_f (fun r => (isW_n (n := 3) (by decide) r).1 q2)] at hq
    exact rs_x ne1 c hq
  · rw [pif_t (isW_of (n := 3) (by decide) q2 q3)] at hq
    exact e_ob c.o (s_numberOf c ⟨_, rfl, rs_v c hq⟩)
  · rw [pif_f (fun r => q3 (isW_n (n := 3) (by decide) r).2)] at hq
    exact rs_x ne1 c hq
theorem s_doOnCopy {m : Nat} (hB : 49 ≤ B) (c : CS h B A) (ok : aOk A) (hm : m ≤ A.L.n)
    (hq : ∀ h', q_fr (bS 38) h h' → CS h' B A → RV h' 38 (tryA A m).2.1 (tryA A m).2.2 → rOk (tryA A m).2.1 (tryA A m).2.2 → dob9 h' A.W (tryA A m).1.2 → Q (some (.int (nI (tryA A m).1.1))) h') : q_Ct l (d + 6) mX9_doOnCopy [.ref 0, .int (nI m)] h mc ms Q QX := by
  obtain ⟨ok1, ok2, ok3, ok4, ok5⟩ := ok
  obtain ⟨Pc, Dc, vc⟩ := c.cp (q_fr.rf (S := fun _ => False)) (fun i a b q => q)
  have n0 := c.pv.2.2.2.2
  refine v_X9_doOnCopy 0 _ (e_gr c.o rfl (e_gr c.o rfl (e_ob vc.1 (s_copyFrom (by omega) c.rv vc (fun h1 f1 z1 v1 => ⟨rfl, ?_⟩)))))
  have hS1 : ∀ i, sR 38 i → 38 ≤ i ∧ i ≤ 43 := fun i q => q
  have u1 := c.un f1 (fun i a b q => by have := hS1 i q; omega)
  have s1 := c.s.fr f1 (fun i a b q => by have := hS1 i q; omega) (fun i a b q => by have := hS1 i q; omega)
  have w1 := c.wy.fr f1 (fun i a b q => by have := hS1 i q; omega)
  have r1 := c.rv.fr f1 (fun i a b q => by have := hS1 i q; omega)
  have p1 := c.pv.fr f1 (fun i a b q => by have := hS1 i q; omega)
  have o1 := c.o.fr f1 (by unfold sR; omega)
  obtain ⟨lr, hdo⟩ := s1.2.2.2
  refine e_gr o1 rfl (e_gr o1 rfl (e_gr o1 rfl (e_ob hdo (s_performAll (r := 38) (rp := 44) (m := m) (by omega) (by omega) (by omega) s1 ok1 w1 u1 v1 ok2 p1 ok3 (by omega) (fun h2 f2 z2 s2 w2 u2 v2 k2 o2 => ⟨_, rfl, ?_⟩)))))
  have em : min m A.L.n = m := by omega
  rw [em] at v2 k2 o2 ⊢
  have F : q_fr (bS 38) h h2 := (f1.mono (fun i _ q => Or.inl (Or.inr (Or.inr q)))).tt f2
  have hS : ∀ i, bS 38 i → (6 ≤ i ∧ i ≤ 8) ∨ (18 ≤ i ∧ i ≤ 24) ∨ (38 ≤ i ∧ i ≤ 43) := fun i q => by unfold bS aS wS sR at q; omega
  exact hq h2 F (CS_up (A := A) (W' := A.W) (P' := A.P) (D' := A.D) (L' := A.L) hB c F (fun i q => by have := hS i q; omega) s2 w2 u2 (c.ah F (fun i a b q => by have := hS i q; omega)) ⟨_, _, v2⟩ (c.rv.fr F (fun i a b q => by have := hS i q; omega)) (c.pv.fr F (fun i a b q => by have := hS i q; omega))) v2 k2 o2
theorem bS_cl {h h' : qH} (f : q_fr (bS 38) h h') : q_fr (clS B) h h' := cl_fr f (fun i q => by unfold bS aS wS sR at q; omega)
theorem tryA_le {m : Nat} : (tryA A m).1.1 ≤ m := by
  have := actsF_le (W := A.W) (L := A.L) m 0 A.P A.D
  unfold tryA
  omega
theorem c_check (hB : 49 ≤ B) (c : CS h B A) (ok : aOk A) (hq : rs h B Q QX (E1 nIX) (R_check A)) : q_Ct l (d + 7) mX9_check [.ref 0] h mc ms Q QX := by
  have n0 := c.pv.2.2.2.2
  have le := tryA_le (A := A) (m := A.L.n)
  refine v_X9_check 0 (e_gr c.o rfl (e_gi c.pv.1 rfl (e_ob c.o (s_doOnCopy hB c ok (Nat.le_refl _) (fun h' f c' v' k' o' => ⟨_, rfl, e_gr c'.o rfl (e_gi c'.pv.1 rfl ⟨fun q => ?_, fun q => ?_⟩)⟩)))))
  · have hv := hq.1 rfl h' (bS_cl f) c'
    have q2 := (nI_leI (by omega) (by omega)).mp q
    change Q (some (.int (if (tryA A A.L.n).1.1 < A.L.n then nI (tryA A A.L.n).1.1 else -1))) h' at hv
    rw [if_neg (by omega)] at hv
    exact hv
  · have hv := hq.1 rfl h' (bS_cl f) c'
    have q2 : ¬ A.L.n ≤ (tryA A A.L.n).1.1 := fun r => q (nI_le r (by omega))
    change Q (some (.int (if (tryA A A.L.n).1.1 < A.L.n then nI (tryA A A.L.n).1.1 else -1))) h' at hv
    rw [if_pos (by omega)] at hv
    exact hv
theorem c_reason (hB : 49 ≤ B) (c : CS h B A) (ok : aOk A) (hq : rs h B Q QX (E1 nIX) (R_reason A)) : q_Ct l (d + 7) mX9_reason [.ref 0] h mc ms Q QX :=
  v_X9_reason 0 (e_gr c.o rfl (e_gi c.pv.1 rfl (e_ob c.o (s_doOnCopy hB c ok (Nat.le_refl _) (fun h' f c' v' k' o' => ⟨_, rfl, e_gr c'.o rfl (e_gi o' rfl (hq.1 rfl h' (bS_cl f) c'))⟩)))))
theorem c_foretell {m w : Int32} (hl0 : l.stackTraces = false) (hkc : 1 ≤ mc) (hks : 6 ≤ ms) (hB : 49 ≤ B) (c : CS h B A) (ok : aOk A) (hq : rs h B Q QX (E3 nIX nIA nIS) (R_foretell A m w)) : q_Ct l (d + 7) mX9_foretell [.ref 0, .int m, .int w] h mc ms Q QX := by
  unfold R_foretell at hq
  have n0 := c.pv.2.2.2.2
  refine v_X9_foretell hl0 hkc hks 0 _ _ ⟨fun q2 => ?_, fun q2 => ⟨fun q3 => ?_, fun q3 => ?_⟩⟩
  · rw [pif_f (fun r => (isW_n (n := 9) (by decide) r).1 q2)] at hq
    exact rs_x ne1 c hq
  rotate_left
  · rw [pif_f (fun r => q3 (isW_n (n := 9) (by decide) r).2)] at hq
    exact rs_x ne1 c hq
  rw [pif_t (isW_of (n := 9) (by decide) q2 q3)] at hq
  refine ⟨fun q1 => ?_, fun q1 => e_gr c.o rfl (e_gi c.pv.1 rfl ⟨fun q2 => ?_, fun q2 => ?_⟩)⟩
  · rw [pif_f (by rintro ⟨j, hj, rfl⟩; exact absurd q1 (nI_pos (by omega)))] at hq; exact rs_x ne2 c hq
  rotate_left
  · rw [pif_f (by rintro ⟨j, hj, rfl⟩; exact q2 (nI_le (by omega) (by omega)))] at hq; exact rs_x ne2 c hq
  obtain ⟨j, hj, rfl⟩ := nI_of2 (nI_toInt (by omega)) q1 q2
  rw [pif_t ⟨j, by omega, rfl⟩, nI_clamp (by omega)] at hq
  have le := tryA_le (A := A) (m := j)
  refine e_ob c.o (s_doOnCopy hB c ok hj (fun h' f c' v' k' o' => ⟨_, rfl, fun q => ?_, fun q => ?_⟩))
  · have r := (nI_leI (by omega) (by omega)).mp q
    rw [pif_f (by omega)] at hq
    exact e_gr c'.o rfl (e_ob v'.1 (s_rtell v' ⟨_, rfl, hq.1 rfl h' (bS_cl f) c'⟩))
  · have r : ¬ j ≤ (tryA A j).1.1 := fun r => q (nI_le r (by omega))
    rw [pif_t (by omega)] at hq
    exact hq.2 ne3 h' (bS_cl f) c'
theorem c_run {m : Int32} (hl0 : l.stackTraces = false) (hkc : 1 ≤ mc) (hks : 6 ≤ ms) (hB : 49 ≤ B) (c : CS h B A) (ok : aOk A) (hq : rs h B Q QX (E1 nIA) (R_run A m)) : q_Ct l (d + 6) mX9_run [.ref 0, .int m] h mc ms Q QX := by
  unfold R_run at hq
  obtain ⟨ok1, ok2, ok3, ok4, ok5⟩ := ok
  have n0 := c.pv.2.2.2.2
  refine v_X9_run hl0 hkc hks 0 _ ⟨fun q1 => ?_, fun q1 => ⟨fun q2 => ?_, fun q2 => ?_⟩⟩
  · rw [pif_f (fun r => bt_lo L_1 r q1)] at hq; exact rs_x ne1 c hq
  rotate_left
  · rw [pif_f (fun r => q2 (Int32.not_lt.mp (bt_hi L_40 r)))] at hq; exact rs_x ne1 c hq
  have hb := bt_of L_1 L_40 q1 (Int32.not_lt.mpr q2)
  rw [pif_t hb] at hq
  have em := nI_ofI (z := m) (by have := hb.1; omega)
  have em2 : m.toNatClampNeg = m.toInt.toNat := rfl
  have em3 : m.toNatClampNeg ≤ 40 := by have := hb.2; omega
  generalize m.toNatClampNeg = k at hq em em3
  subst em
  obtain ⟨lr, hdo⟩ := c.s.2.2.2
  refine e_gr c.o rfl (e_gr c.o rfl (e_gr c.o rfl (e_ob hdo (s_performAll (r := 32) (rp := 44) (m := k) (by omega) (by omega) (by omega) c.s ok1 c.wy (c.un (q_fr.rf (S := fun _ => False)) (fun i a b q => q)) c.rv ok2 c.pv ok3 em3 (fun h1 f1 z1 s1 w1 u1 v1 k1 o1 => ⟨_, rfl, ?_⟩)))))
  have le : (tryA A (min k A.L.n)).1.1 ≤ min k A.L.n := tryA_le
  change RV h1 32 (tryA A (min k A.L.n)).2.1 (tryA A (min k A.L.n)).2.2 at v1
  show q_J l (d + 6) mX9_run mc ms Q QX h.2 41 [some (.ref 0), some (.int (nI k)), some (.int (nI (tryA A (min k A.L.n)).1.1)), some (.int 0)] [] h1 mc ms
  have hS : ∀ i, bS 32 i → (6 ≤ i ∧ i ≤ 8) ∨ (18 ≤ i ∧ i ≤ 24) ∨ (32 ≤ i ∧ i ≤ 37) := fun i q => by unfold bS aS wS sR at q; omega
  have c1 := CS_up (A := A) (W' := A.W) (P' := (tryA A (min k A.L.n)).2.1) (D' := (tryA A (min k A.L.n)).2.2) (L' := A.L) hB c f1 (fun i q => by have := hS i q; omega) s1 w1 u1 (c.ah f1 (fun i a b q => by have := hS i q; omega)) (c.cp f1 (fun i a b q => by have := hS i q; omega)) v1 (c.pv.fr f1 (fun i a b q => by have := hS i q; omega))
  have F1 : q_fr (clS B) h h1 := cl_fr f1 (fun i q => by have := hS i q; omega)
  generalize tryA A (min k A.L.n) = T at hq le v1 c1 ⊢
  refine q_loop (fun i (st : PL × qH) => q_J l (d + 6) mX9_run mc ms Q QX h.2 41 [some (.ref 0), some (.int (nI k)), some (.int (nI T.1.1)), some (.int (nI i))] [] st.2 mc ms)
    (fun i st => q_fr (clS B) h st.2 ∧ CS st.2 B (((A.uP T.2.1).uD T.2.2).uL st.1) ∧ st.1.n = A.L.n - i ∧ dropA st.1 (T.1.1 - i) = dropA A.L T.1.1) T.1.1 ?_ ?_ 0 (A.L, h1) (by omega) ⟨F1, c1, by simp, rfl⟩
  · rintro ⟨L', h'⟩ ⟨f, c', en, e⟩
    rw [Nat.sub_self, dropA] at e
    dsimp only at f c' en e ⊢
    refine v_X9_run_41 0 _ _ (nI T.1.1) ⟨fun _ => ?_, fun q => absurd (Int32.le_refl _) q⟩
    rw [e] at c'
    exact hq.1 rfl h' f c'
  · rintro i ⟨L', h'⟩ hi ⟨f, c', en, e⟩ ih
    rw [show T.1.1 - i = (T.1.1 - (i + 1)) + 1 by omega, dropA] at e
    dsimp only at f c' en e ⊢
    refine v_X9_run_41 0 _ _ (nI i) ⟨fun q => absurd q (nI_ge hi (by omega)), fun _ => e_gr c'.o rfl (e_ob c'.pv.1 (s_takeOut (p := 0) c'.pv (by show 0 < L'.n; omega) (fun h2 f2 z2 p2 => ⟨rfl, ?_⟩)))⟩
    rw [nI_1]
    have c3 := CS_L hB c' f2 p2
    exact ih (delA L' 0, h2) ⟨f.tt (sP_cl f2), c3, by show L'.n - 1 = _; omega, e⟩
theorem c_make {n : Int32} (hl0 : l.stackTraces = false) (hkc : 1 ≤ mc) (hks : 6 ≤ ms) (hB : 49 ≤ B) (c : CS h B A) (ok : aOk A) (hq : rs h B Q QX (E1 nIA) (R_make A n)) : q_Ct l (d + 7) mX9_make [.ref 0, .int n] h mc ms Q QX := by
  unfold R_make at hq
  have n0 := c.pv.2.2.2.2
  refine v_X9_make hl0 hkc hks 0 _ ⟨fun q1 => ?_, fun q1 => ⟨fun q2 => ?_, fun q2 => ?_⟩⟩
  · rw [pif_f (fun r => bt_lo L_1 r q1)] at hq; exact rs_x ne1 c hq
  rotate_left
  · rw [pif_f (fun r => q2 (Int32.not_lt.mp (bt_hi L_2880 r)))] at hq; exact rs_x ne1 c hq
  rw [pif_t (bt_of L_1 L_2880 q1 (Int32.not_lt.mpr q2))] at hq
  have le := tryA_le (A := A) (m := A.L.n)
  refine e_gr c.o rfl (e_gi c.pv.1 rfl (e_ob c.o (s_doOnCopy hB c ok (Nat.le_refl _) (fun h1 f1 c1 v1 k1 o1 => ⟨_, rfl, e_gr c1.o rfl (e_gi c1.pv.1 rfl ⟨fun q => ?_, fun q => ?_⟩)⟩))))
  rotate_left
  · have r : ¬ A.L.n ≤ (tryA A A.L.n).1.1 := fun r => q (nI_le r (by omega))
    rw [pif_t (by omega)] at hq
    exact hq.1 rfl h1 (bS_cl f1) c1
  have r := (nI_leI (by omega) (by omega)).mp q
  rw [pif_f (by omega)] at hq
  generalize tryA A A.L.n = T at hq v1 k1
  obtain ⟨ok1, ok2, ok3, ok4, ok5⟩ := ok
  refine e_gr c1.o rfl (e_gr c1.o rfl (e_gr c1.o rfl (e_ob c1.mo (s_extend (r := 38) (rp := 44) (by omega) (by omega) (by omega) c1.mo c1.s ok1 c1.wy (c1.un (q_fr.rf (S := fun _ => False)) (fun i a b q => q)) (c1.ah (q_fr.rf (S := fun _ => False)) (fun i a b q => q)) v1 k1 c1.pv ok3 (fun h2 f2 z2 w2 u2 a2 v2 p2 => ⟨_, rfl, ?_⟩)))))
  have hS : ∀ i, cSS 38 44 i → (6 ≤ i ∧ i ≤ 8) ∨ (19 ≤ i ∧ i ≤ 24) ∨ (26 ≤ i ∧ i ≤ 31) ∨ (38 ≤ i ∧ i ≤ 47) := fun i q => by unfold cSS aS wS sR sP at q; omega
  have c2 := CS_up (A := A) (W' := A.W) (P' := A.P) (D' := A.D) (L' := (extF A.W (T.2.1.t + n) 52 (fun _ => false) A.L T.2.1 T.2.2).1) hB c1 f2 (fun i q => by have := hS i q; omega) (c1.s.fr f2 (fun i a b q => by have := hS i q; omega) (fun i a b q => by have := hS i q; omega)) w2 u2 a2 ⟨_, _, v2⟩ (c1.rv.fr f2 (fun i a b q => by have := hS i q; omega)) p2
  exact hq.1 rfl h2 ((bS_cl f1).tt (cl_fr f2 (fun i q => by have := hS i q; omega))) c2
theorem c_nearest {t : Int32} (hl0 : l.stackTraces = false) (hkc : 1 ≤ mc) (hks : 6 ≤ ms) (hB : 49 ≤ B) (c : CS h B A) (ok : aOk A) (hq : rs h B Q QX (E1 nIX) (R_nearest A t)) : q_Ct l (d + 6) mX9_nearest [.ref 0, .int t] h mc ms Q QX := by
  unfold R_nearest at hq
  have tn := ok.1.tn
  have hp := ok.2.1.1.1
  refine v_X9_nearest hl0 hkc hks 0 _ (e_gr c.o rfl (e_ob c.s.2.1.1 (s_has c.s.2.1 ok.1 (fun ht => ⟨_, rfl, fun q => absurd q z10, fun _ => ?_⟩) (fun hf => ⟨_, rfl, fun _ => ?_, fun q => absurd rfl q⟩))))
  rotate_left
  · rw [pif_f hf] at hq; exact rs_x ne1 c hq
  rw [pif_t ht] at hq
  obtain ⟨k, hk, rfl⟩ := ht
  rw [nI_clamp (by omega)] at hq
  obtain ⟨m0, w0⟩ := c.wy.1
  refine e_gr c.o rfl (e_gr c.o rfl (e_gi c.rv.1 rfl (e_gr c.o rfl (e_gi c.rv.1 rfl (s_placeOf_t hp ⟨_, rfl, e_ob w0 (s_measureFrom c.s.1 ok.1.g c.wy (ix_lt hp) (fun h' f z L y => ⟨rfl, ?_⟩))⟩)))))
  have c' : CS h' B (A.uW A.W) := CS_W hB c f (fun i q => by unfold wS at q; omega) (c.s.fr f (fun i a b q => by unfold wS at q; omega) (fun i a b q => by unfold wS at q; omega)) y.r
  have hv : Q (some (.int (neaA A k))) h' := hq.1 rfl h' (cl_fr f (fun i q => by unfold wS at q; omega)) c'
  unfold neaA at hv
  change wys h' (C_fr A.W (ix A.P.x A.P.y)) at y
  generalize C_fr A.W (ix A.P.x A.P.y) = cc at hv y
  refine e_gr c'.o rfl (e_gr c'.o rfl (e_ob c'.mo (s_nearestPlace c'.mo c'.s ok.1 y c'.rv hk ⟨_, rfl, ?_⟩)))
  change qIF (rP (nearA A.W cc A.D k) = -1) _ _
  by_cases e : nearA A.W cc A.D k = 576
  · rw [if_pos e] at hv
    refine ⟨fun _ => hv, fun q => absurd ?_ q⟩
    unfold rP; rw [if_pos e]
  · have np := nearA_t e
    rw [if_neg e] at hv
    have er : rP (nearA A.W cc A.D k) = nI (nearA A.W cc A.D k) := by unfold rP; rw [if_neg e]
    refine ⟨fun q => ?_, fun _ => ?_⟩
    · rw [er] at q; exact absurd q (nI_nm1 (by omega))
    · show Q (some (.int (100 * (rP (nearA A.W cc A.D k) - rP (nearA A.W cc A.D k) / 24 * 24) + rP (nearA A.W cc A.D k) / 24))) h'
      rw [er, r24 (by omega), d24 (by omega)]
      exact hv
theorem dgF_0 {f : Nat → Int32} {s : Int64} : dgF f 0 s = s := rfl
theorem dgF_s {f : Nat → Int32} {n : Nat} {s : Int64} : dgF f (n + 1) s = dgF f n s * 31 + (f n).toInt64 := rfl
section DIG
variable {s0 : Int64}
theorem g_5 {n0 : Nat} {s : Int64} (hB : 49 ≤ B) (c : CS h B A) (ok : aOk A) (hq : ∀ s, s = dgF (fun w => cntA A (nI w)) 4 s0 → Q (some (.long (s * 31 + (scoF A A.W.tn).toInt64))) h) (hs : s = s0) : q_J l (d + 4) mX9_digest mc ms Q QX n0 196 [some (.ref 0), some (.long s), none, some (.int 0), none] [] h mc ms := by
  subst hs
  have key := q_loop (fun i (st : qH) => ∀ s1, s1 = dgF (fun w => cntA A (nI w)) i s → q_J l (d + 4) mX9_digest mc ms Q QX n0 196 [some (.ref 0), some (.long s1), none, some (.int (nI i)), none] [] st mc ms) (fun i st => st = h) 4 ?_ ?_ 0 h (by omega) rfl
  · exact key s (by rw [dgF_0])
  · rintro h' rfl s1 es
    exact v_X9_digest_196 0 _ (nI 4) ⟨fun _ => e_ob c.o (c_score hB c ok ⟨_, rfl, hq s1 es⟩), fun q => absurd (by decide) q⟩
  · rintro i h' hi rfl ih s1 es
    refine v_X9_digest_196 0 _ (nI i) ⟨fun q => absurd q (nI_nlt (a := 3) (by omega) (by decide)), fun _ => e_ob c.o (s_numberOf c ⟨_, rfl, ?_⟩)⟩
    rw [nI_1]
    exact ih h' rfl _ (by rw [es, dgF_s])
theorem g_4 {n0 : Nat} {s : Int64} (c : CS h B A) (ok : aOk A) (nx : ∀ s, s = dgF (fun k => plA A.L (k / 3) (nI (k % 3))) (3 * A.L.n) s0 → q_J l (d + 4) mX9_digest mc ms Q QX n0 196 [some (.ref 0), some (.long s), none, some (.int 0), none] [] h mc ms) (hs : s = s0) : q_J l (d + 4) mX9_digest mc ms Q QX n0 144 [some (.ref 0), some (.long s), none, some (.int 0), none] [] h mc ms := by
  subst hs
  have n1 := c.pv.2.2.2.2
  have key := q_loop (fun i (st : qH) => ∀ s1, s1 = dgF (fun k => plA A.L (k / 3) (nI (k % 3))) (3 * i) s → q_J l (d + 4) mX9_digest mc ms Q QX n0 144 [some (.ref 0), some (.long s1), none, some (.int (nI i)), none] [] st mc ms) (fun i st => st = h) A.L.n ?_ ?_ 0 h (by omega) rfl
  · exact key s (by rw [Nat.mul_zero, dgF_0])
  · rintro h' rfl s1 es
    exact v_X9_digest_144 0 _ (nI A.L.n) (e_gr c.o rfl (e_gi c.pv.1 rfl ⟨fun _ => nx s1 es, fun q => absurd (Int32.le_refl _) q⟩))
  · rintro i h' hi rfl ih s1 es
    refine v_X9_digest_144 0 _ (nI i) (e_gr c.o rfl (e_gi c.pv.1 rfl ⟨fun q => absurd q (nI_ge hi (by omega)), fun _ => ?_⟩))
    have ih := ih h' rfl
    refine q_loop (fun w (st : qH) => ∀ s1, s1 = dgF (fun k => plA A.L (k / 3) (nI (k % 3))) (3 * i + w) s → q_J l (d + 4) mX9_digest mc ms Q QX n0 158 [some (.ref 0), some (.long s1), none, some (.int (nI i)), some (.int (nI w))] [] st mc ms) (fun w st => st = h') 3 ?_ ?_ 0 h' (by omega) rfl s1 es
    · rintro h rfl s2 es
      refine v_X9_digest_158 0 _ _ (nI 3) ⟨fun _ => ?_, fun q => absurd (by decide) q⟩
      rw [nI_1]
      exact ih s2 es
    · rintro w h hw rfl ih2 s2 es
      refine v_X9_digest_158 0 _ _ (nI w) ⟨fun q => absurd q (nI_nlt (a := 2) (by omega) (by decide)), fun _ => ?_⟩
      have ih2 := ih2 h rfl (s2 * 31 + (plA A.L i (nI w)).toInt64) (by
        rw [es, show 3 * i + (w + 1) = (3 * i + w) + 1 by omega, dgF_s, show (3 * i + w) / 3 = i by omega, show (3 * i + w) % 3 = w by omega])
      rw [nI_1]
      exact e_gr c.o rfl (e_ob c.pv.1 (s_ptell c.pv hi ⟨_, rfl, ih2⟩))
theorem g_3 {n0 : Nat} {s : Int64} (c : CS h B A) (ok : aOk A) (nx : ∀ s, s = dgF (fun k => tellT A (k / 6) (nI (k % 6))) (6 * A.W.tn) s0 → q_J l (d + 4) mX9_digest mc ms Q QX n0 144 [some (.ref 0), some (.long s), none, some (.int 0), none] [] h mc ms) (hs : s = s0) : q_J l (d + 4) mX9_digest mc ms Q QX n0 88 [some (.ref 0), some (.long s), none, some (.int 0), none] [] h mc ms := by
  subst hs
  have tn := ok.1.tn
  have key := q_loop (fun i (st : qH) => ∀ s1, s1 = dgF (fun k => tellT A (k / 6) (nI (k % 6))) (6 * i) s → q_J l (d + 4) mX9_digest mc ms Q QX n0 88 [some (.ref 0), some (.long s1), none, some (.int (nI i)), none] [] st mc ms) (fun i st => st = h) A.W.tn ?_ ?_ 0 h (by omega) rfl
  · exact key s (by rw [Nat.mul_zero, dgF_0])
  · rintro h' rfl s1 es
    exact v_X9_digest_88 0 _ (nI A.W.tn) (e_gr c.o rfl (e_gi c.s.2.1.1 rfl ⟨fun _ => nx s1 es, fun q => absurd (Int32.le_refl _) q⟩))
  · rintro i h' hi rfl ih s1 es
    refine v_X9_digest_88 0 _ (nI i) (e_gr c.o rfl (e_gi c.s.2.1.1 rfl ⟨fun q => absurd q (nI_ge hi (by omega)), fun _ => ?_⟩))
    have ih := ih h' rfl
    refine q_loop (fun w (st : qH) => ∀ s1, s1 = dgF (fun k => tellT A (k / 6) (nI (k % 6))) (6 * i + w) s → q_J l (d + 4) mX9_digest mc ms Q QX n0 102 [some (.ref 0), some (.long s1), none, some (.int (nI i)), some (.int (nI w))] [] st mc ms) (fun w st => st = h') 6 ?_ ?_ 0 h' (by omega) rfl s1 es
    · rintro h rfl s2 es
      refine v_X9_digest_102 0 _ _ (nI 6) ⟨fun _ => ?_, fun q => absurd (by decide) q⟩
      rw [nI_1]
      exact ih s2 es
    · rintro w h hw rfl ih2 s2 es
      refine v_X9_digest_102 0 _ _ (nI w) ⟨fun q => absurd q (nI_nlt (a := 5) (by omega) (by decide)), fun _ => ?_⟩
      have ih2 := ih2 h rfl (s2 * 31 + (tellT A i (nI w)).toInt64) (by
        rw [es, show 6 * i + (w + 1) = (6 * i + w) + 1 by omega, dgF_s, show (6 * i + w) / 6 = i by omega, show (6 * i + w) % 6 = w by omega])
      rw [nI_1]
      exact e_gr c.o rfl (e_gr c.o rfl (e_ob c.s.2.1.1 (s_ttell c ok hi ⟨_, rfl, ih2⟩)))
theorem g_2 {n0 : Nat} {s : Int64} (c : CS h B A) (ok : aOk A) (nx : ∀ s, s = dgF (fun k => pcA A.D (k / 4) (nI (k % 4))) (4 * A.D.n) s0 → q_J l (d + 4) mX9_digest mc ms Q QX n0 88 [some (.ref 0), some (.long s), none, some (.int 0), none] [] h mc ms) (hs : s = s0) : q_J l (d + 4) mX9_digest mc ms Q QX n0 36 [some (.ref 0), some (.long s), none, some (.int 0), none] [] h mc ms := by
  subst hs
  have n9 := c.rv.2.2.2.2.2.2.1
  have key := q_loop (fun i (st : qH) => ∀ s1, s1 = dgF (fun k => pcA A.D (k / 4) (nI (k % 4))) (4 * i) s → q_J l (d + 4) mX9_digest mc ms Q QX n0 36 [some (.ref 0), some (.long s1), none, some (.int (nI i)), none] [] st mc ms) (fun i st => st = h) A.D.n ?_ ?_ 0 h (by omega) rfl
  · exact key s (by rw [Nat.mul_zero, dgF_0])
  · rintro h' rfl s1 es
    exact v_X9_digest_36 0 _ (nI A.D.n) (e_gr c.o rfl (e_gi c.rv.1 rfl ⟨fun _ => nx s1 es, fun q => absurd (Int32.le_refl _) q⟩))
  · rintro i h' hi rfl ih s1 es
    refine v_X9_digest_36 0 _ (nI i) (e_gr c.o rfl (e_gi c.rv.1 rfl ⟨fun q => absurd q (nI_ge hi (by omega)), fun _ => ?_⟩))
    have ih := ih h' rfl
    refine q_loop (fun w (st : qH) => ∀ s1, s1 = dgF (fun k => pcA A.D (k / 4) (nI (k % 4))) (4 * i + w) s → q_J l (d + 4) mX9_digest mc ms Q QX n0 50 [some (.ref 0), some (.long s1), none, some (.int (nI i)), some (.int (nI w))] [] st mc ms) (fun w st => st = h') 4 ?_ ?_ 0 h' (by omega) rfl s1 es
    · rintro h rfl s2 es
      refine v_X9_digest_50 0 _ _ (nI 4) ⟨fun _ => ?_, fun q => absurd (by decide) q⟩
      rw [nI_1]
      exact ih s2 es
    · rintro w h hw rfl ih2 s2 es
      refine v_X9_digest_50 0 _ _ (nI w) ⟨fun q => absurd q (nI_nlt (a := 3) (by omega) (by decide)), fun _ => ?_⟩
      have ih2 := ih2 h rfl (s2 * 31 + (pcA A.D i (nI w)).toInt64) (by
        rw [es, show 4 * i + (w + 1) = (4 * i + w) + 1 by omega, dgF_s, show (4 * i + w) / 4 = i by omega, show (4 * i + w) % 4 = w by omega])
      rw [nI_1]
      exact e_gr c.o rfl (e_ob c.rv.1 (s_tellPiece c.rv hi ⟨_, rfl, ih2⟩))
end DIG
theorem c_digest (hB : 49 ≤ B) (c : CS h B A) (ok : aOk A) (hq : Q (some (.long (R_digest A))) h) : q_Ct l (d + 4) mX9_digest [.ref 0] h mc ms Q QX := by
  refine v_X9_digest 0 ?_
  have key := q_loop (fun i (st : qH) => ∀ s1, s1 = dgF (fun w => tellA A.P A.D (nI w)) i 337 → q_J l (d + 4) mX9_digest mc ms Q QX h.2 6 [some (.ref 0), some (.long s1), none, some (.int (nI i)), none] [] st mc ms) (fun i st => st = h) 10 ?_ ?_ 0 h (by omega) rfl
  · exact key 337 (by rw [dgF_0])
  · rintro h' rfl s1 es
    refine v_X9_digest_6 0 _ (nI 10) ⟨fun _ => ?_, fun q => absurd (by decide) q⟩
    refine g_2 (s0 := dg1 A) c ok (fun s2 e2 => g_3 (s0 := dg2 A) c ok (fun s3 e3 => g_4 (s0 := dg3 A) c ok (fun s4 e4 => g_5 (s0 := dg4 A) hB c ok (fun s5 e5 => ?_) ?_) ?_) ?_) ?_
    · rw [e5]; exact hq
    · exact e4
    · exact e3
    · exact e2
    · exact es
  · rintro i h' hi rfl ih s1 es
    refine v_X9_digest_6 0 _ (nI i) ⟨fun q => absurd q (nI_nlt (a := 9) (by omega) (by decide)), fun _ => e_gr c.o rfl (e_ob c.rv.1 (s_rtell c.rv ⟨_, rfl, ?_⟩))⟩
    rw [nI_1]
    exact ih h' rfl _ (by rw [es, dgF_s])
end PUB2
