/-! THE MODEL: its state, and its small methods -/
def MO (h : qH) (W : WS) (n m : Nat) (th wy : Int32) : Prop := ob h 49 10 [.int th, .ref 50, .ref 51, .ref 52, .int W.s, .int (nI W.tn), .ref 53, .int (nI W.pn), .ref 54, .int W.cap, .int W.mem, .ref 55, .ref 56, .int (nI n), .ref 57, .int (nI m), .ref 58, .ref 67, .ref 76, .ref 77, .ref 78, .ref 79, .ref 80, .int wy, .ref 81]
def MG (h : qH) (W : WS) : Prop := ar h 50 576 W.H ∧ ar h 51 576 W.R ∧ br h 52 576 W.Z
def MT (h : qH) (W : WS) : Prop := ∃ F, ar h 53 48 F ∧ ∀ i, i < W.tn → F (4 * i) = W.tx i ∧ F (4 * i + 1) = W.ty i ∧ F (4 * i + 2) = W.tv i ∧ F (4 * i + 3) = W.td i
def MPs (h : qH) (W : WS) : Prop := ∃ F, ar h 54 18 F ∧ ∀ i, i < W.pn → F (3 * i) = W.pf i ∧ F (3 * i + 1) = W.pt i ∧ F (3 * i + 2) = W.pr i
/-- a rover's row -/
def mR (F : Nat → Int32) (P : PH) (D : DT) : Prop := F 0 = P.t ∧ F 1 = P.x ∧ F 2 = P.y ∧ F 3 = P.b ∧ F 4 = P.tp ∧ F 5 = P.ht ∧ F 6 = P.cl ∧ F 7 = D.us ∧ F 8 = D.ut ∧ F 9 = nI D.n ∧ (∀ k, k < 12 → F (10 + k) = D.oc k ∧ F (22 + k) = D.tc k) ∧ ∀ i, i < D.n → F (34 + 4 * i) = D.pt i ∧ F (34 + 4 * i + 1) = D.pl i ∧ F (34 + 4 * i + 2) = D.pp i ∧ F (34 + 4 * i + 3) = D.pg i
def MR (h : qH) (i : Nat) (P : PH) (D : DT) : Prop := ∃ F, ar h i 594 F ∧ mR F P D
def ML (h : qH) (i : Nat) (L : PL) : Prop := ∃ F, ar h i 120 F ∧ ∀ j, j < L.n → F (3 * j) = L.k j ∧ F (3 * j + 1) = L.a j ∧ F (3 * j + 2) = L.b j
def arA (h : qH) (i N : Nat) : Prop := ∃ F, ar h i N F
theorem MG.fr {h h' : qH} {W : WS} {S : Nat → Prop} (g : MG h W) (f : q_fr S h h') (hs : ∀ i, 50 ≤ i → i ≤ 52 → ¬ S i) : MG h' W := ⟨g.1.fr f (hs _ (by omega) (by omega)), g.2.1.fr f (hs _ (by omega) (by omega)), g.2.2.fr f (hs _ (by omega) (by omega))⟩
theorem MT.fr {h h' : qH} {W : WS} {S : Nat → Prop} (g : MT h W) (f : q_fr S h h') (hs : ¬ S 53) : MT h' W := g.elim fun F q => ⟨F, q.1.fr f hs, q.2⟩
theorem MPs.fr {h h' : qH} {W : WS} {S : Nat → Prop} (g : MPs h W) (f : q_fr S h h') (hs : ¬ S 54) : MPs h' W := g.elim fun F q => ⟨F, q.1.fr f hs, q.2⟩
theorem MR.fr {h h' : qH} {i : Nat} {P : PH} {D : DT} {S : Nat → Prop} (g : MR h i P D) (f : q_fr S h h') (hs : ¬ S i) : MR h' i P D := g.elim fun F q => ⟨F, q.1.fr f hs, q.2⟩
theorem ML.fr {h h' : qH} {i : Nat} {L : PL} {S : Nat → Prop} (g : ML h i L) (f : q_fr S h h') (hs : ¬ S i) : ML h' i L := g.elim fun F q => ⟨F, q.1.fr f hs, q.2⟩
theorem arA.fr {h h' : qH} {i N : Nat} {S : Nat → Prop} (g : arA h i N) (f : q_fr S h h') (hs : ¬ S i) : arA h' i N := g.elim fun F q => ⟨F, q.fr f hs⟩
theorem MO.fr {h h' : qH} {W : WS} {n m : Nat} {th wy : Int32} {S : Nat → Prop} (g : MO h W n m th wy) (f : q_fr S h h') (hs : ¬ S 49) : MO h' W n m th wy := ob.fr g f hs
theorem MR.A {h : qH} {i : Nat} {P : PH} {D : DT} (g : MR h i P D) : arA h i 594 := g.elim fun F q => ⟨F, q.1⟩
section MD1
variable {l : Launch} {d mc ms : Nat} {Q : Option Value → qH → Prop} {QX : String → qH → Prop} {h : qH} {W : WS} {n m : Nat} {th wy : Int32}
theorem m_isIn {z a b : Int32} (ht : ¬ z < a → ¬ b < z → Q (some (.int 1)) h) (hf : ¬ (¬ z < a ∧ ¬ b < z) → Q (some (.int 0)) h) : q_Ct l d mX10_isIn [.int z, .int a, .int b] h mc ms Q QX :=
  v_X10_isIn (d := d) z a b ⟨fun q => hf (fun r => r.1 q), fun q => ⟨fun q2 => hf (fun r => r.2 q2), fun q2 => ht q q2⟩⟩
theorem m_isPlace {x y : Int32} (ht : inP x y → Q (some (.int 1)) h) (hf : ¬ inP x y → Q (some (.int 0)) h) : q_Ct l (d + 1) mX10_isPlace [.int x, .int y] h mc ms Q QX := by
  have e : ∀ z : Int32, (¬ z < 0 ∧ ¬ 23 < z) ↔ 0 ≤ z.toInt ∧ z.toInt < 24 := fun z => by
    rw [lt_i, lt_i, L_0, show (23 : Int32).toInt = 23 by decide +kernel]; omega
  refine v_X10_isPlace x y (m_isIn (fun a b => ⟨_, rfl, fun q => absurd q z10, fun _ => m_isIn (fun a2 b2 => ⟨_, rfl, fun q => absurd q z10, fun _ => ht ?_⟩) (fun c2 => ⟨_, rfl, fun _ => hf ?_, fun q => absurd rfl q⟩)⟩) (fun c2 => ⟨_, rfl, fun _ => hf ?_, fun q => absurd rfl q⟩))
  · have q1 := (e x).mp ⟨a, b⟩
    have q2 := (e y).mp ⟨a2, b2⟩
    exact ⟨q1.1, q1.2, q2.1, q2.2⟩
  · exact fun r => c2 ((e y).mpr ⟨r.2.2.1, r.2.2.2⟩)
  · exact fun r => c2 ((e x).mpr ⟨r.1, r.2.1⟩)
theorem m_at {x y : Int32} (hp : inP x y) (hq : Q (some (.int (nI (ix x y)))) h) : q_Ct l d mX10_at [.int x, .int y] h mc ms Q QX := by
  refine v_X10_at (d := d) x y ?_
  rw [ix_at' hp]
  exact hq
def mO1 (i : Nat) : Prop := i = 49
theorem m_fail {k : Int32} (o : MO h W n m th wy) (hq : ∀ h', q_fr mO1 h h' → h'.2 = h.2 → MO h' W n m k wy → Q (some (.int 0)) h') : q_Ct l d mX10_fail [.ref 49, .int k] h mc ms Q QX :=
  v_X10_fail (d := d) 49 k (e_pi o (Nat.le_of_ble_eq_true rfl) (fun h1 f1 z1 o1 => hq h1 f1 z1 o1))
theorem isT_in {n : Nat} (hn : n ≤ 200) {z : Int32} : (¬ z < 0 ∧ ¬ nI n - 1 < z) ↔ isT n z := by
  have e1 : (nI n).toInt = n := nI_toInt (by omega)
  have e2 : (nI n - 1).toInt = n - 1 := by rw [fb_subI, e1, L_1] <;> rw [e1, L_1] <;> omega
  rw [lt_i, lt_i, L_0, e2]
  constructor
  · rintro ⟨a, b⟩
    have e3 : z.toNatClampNeg = z.toInt.toNat := rfl
    exact ⟨z.toNatClampNeg, by omega, nI_ofI (by omega)⟩
  · rintro ⟨k, hk, rfl⟩
    rw [nI_toInt (by omega)]
    omega
theorem m_isTarget {z : Int32} (o : MO h W n m th wy) (hw : wOk W) (ht : isT W.tn z → Q (some (.int 1)) h) (hf : ¬ isT W.tn z → Q (some (.int 0)) h) : q_Ct l (d + 1) mX10_isTarget [.ref 49, .int z] h mc ms Q QX := by
  have tn := hw.tn
  exact v_X10_isTarget 49 z (e_gi o rfl (m_isIn (fun a b => ⟨_, rfl, Or.inr rfl, ht ((isT_in (by omega)).mp ⟨a, b⟩)⟩) (fun c => ⟨_, rfl, Or.inl rfl, hf (fun r => c ((isT_in (by omega)).mpr r))⟩)))
theorem m_isRectangle {x0 x1 y0 y1 : Int32} (ht : isR x0 x1 y0 y1 → Q (some (.int 1)) h) (hf : ¬ isR x0 x1 y0 y1 → Q (some (.int 0)) h) : q_Ct l (d + 2) mX10_isRectangle [.int x0, .int x1, .int y0, .int y1] h mc ms Q QX := by
  refine v_X10_isRectangle _ _ _ _ (m_isPlace (fun a => ⟨_, rfl, fun q => absurd q z10, fun _ => m_isPlace (fun b => ⟨_, rfl, fun q => absurd q z10, fun _ => ⟨fun c => hf ?_, fun c => ⟨fun e => hf ?_, fun e => ht ?_⟩⟩⟩) (fun b => ⟨_, rfl, fun _ => hf ?_, fun q => absurd rfl q⟩)⟩) (fun b => ⟨_, rfl, fun _ => hf ?_, fun q => absurd rfl q⟩))
  · intro r; rw [lt_i] at c; have := r.2.1; omega
  · intro r; rw [lt_i] at e; have := r.2.2.2.2.1; omega
  · rw [lt_i] at c e
    exact ⟨a.1, by omega, b.2.1, a.2.2.1, by omega, b.2.2.2⟩
  · intro r
    obtain ⟨r1, r2, r3, r4, r5, r6⟩ := r
    exact b ⟨by omega, by omega, by omega, by omega⟩
  · intro r
    obtain ⟨r1, r2, r3, r4, r5, r6⟩ := r
    exact b ⟨by omega, by omega, by omega, by omega⟩
theorem m_even {k : Nat} (hk : k < 8) : nI k - nI k / 2 * 2 = 0 ↔ k % 2 = 0 := by
  rw [show (2 : Int32) = nI 2 from rfl, pk_rem (by omega) (by decide) (by decide), show (0 : Int32) = nI 0 from rfl, nI_eq (by omega) (by decide)]
theorem m_canStep {x y : Int32} {k : Nat} (o : MO h W n m th wy) (g : MG h W) (hp : inP x y) (hk : k < 8) (ht : sp_can W.H W.Z W.s x y k → Q (some (.int 1)) h) (hf : ¬ sp_can W.H W.Z W.s x y k → Q (some (.int 0)) h) : q_Ct l (d + 2) mX10_canStep [.ref 49, .int x, .int y, .int (nI k)] h mc ms Q QX := by
  refine v_X10_canStep 49 x y _ (e_sl rfl hk (e_sl rfl hk (m_isPlace (fun _ => ⟨_, rfl, fun q => absurd q z10, fun _ => ?_⟩) (fun q => absurd hp q))))
  show qCI l (d + 1) mX10_isPlace [.int (x + q_dx k), .int (y + q_dy k)] h 0 0 _
  refine m_isPlace (fun hn => ⟨_, rfl, fun q => absurd q z10, fun _ => ?_⟩) (fun hn => ⟨_, rfl, fun _ => hf (fun r => hn r.1), fun q => absurd rfl q⟩)
  have side := inP_side hp hn
  refine e_gr o rfl (m_at hn ⟨_, rfl, e_zl g.2.2 rfl (ix_lt hn) (by decide) ⟨fun q1 => ?_, fun q1 => hf (fun r => q1 r.2.1)⟩⟩)
  refine e_gr o rfl (m_at hn ⟨_, rfl, e_al g.1 rfl (ix_lt hn) (by decide) (e_gr o rfl (m_at hp ⟨_, rfl, e_al g.1 rfl (ix_lt hp) (by decide) (e_gi o rfl ⟨fun q2 => ?_, fun q2 => hf (fun r => q2 r.2.2.1)⟩)⟩))⟩)
  refine ⟨fun q3 => ht ⟨hn, q1, q2, Or.inl ((m_even hk).mp q3)⟩, fun q3 => ?_⟩
  have k2 : ¬ k % 2 = 0 := fun r => q3 ((m_even hk).mpr r)
  refine e_gr o rfl (m_at side.1 ⟨_, rfl, e_zl g.2.2 rfl (ix_lt side.1) (by decide) ⟨fun q4 => ?_, fun q4 => hf (fun r => r.2.2.2.elim k2 (fun r => q4 r.1))⟩⟩)
  exact e_gr o rfl (m_at side.2 ⟨_, rfl, e_zl g.2.2 rfl (ix_lt side.2) (by decide) ⟨fun q5 => ht ⟨hn, q1, q2, Or.inr ⟨q4, q5⟩⟩, fun q5 => hf (fun r => r.2.2.2.elim k2 (fun r => q5 r.2))⟩⟩)
theorem m_climb {x y : Int32} {k : Nat} (o : MO h W n m th wy) (g : MG h W) (hp : inP x y) (hk : k < 8) (hn : inP (x + q_dx k) (y + q_dy k)) (hq : Q (some (.int (sp_clb W.H x y k))) h) : q_Ct l (d + 1) mX10_climb [.ref 49, .int x, .int y, .int (nI k)] h mc ms Q QX := by
  refine v_X10_climb 49 x y _ (e_gr o rfl (e_sl rfl hk (e_sl rfl hk ?_)))
  show qCI l d mX10_at [.int (x + q_dx k), .int (y + q_dy k)] h 0 0 _
  exact m_at hn ⟨_, rfl, e_al g.1 rfl (ix_lt hn) (by decide) (e_gr o rfl (m_at hp ⟨_, rfl, e_al g.1 rfl (ix_lt hp) (by decide) hq⟩))⟩
theorem m_minutes {x y : Int32} {k : Nat} (o : MO h W n m th wy) (g : MG h W) (hp : inP x y) (hk : k < 8) (hn : inP (x + q_dx k) (y + q_dy k)) (hq : Q (some (.int (sp_min W.H W.R x y k))) h) : q_Ct l (d + 2) mX10_minutes [.ref 49, .int x, .int y, .int (nI k)] h mc ms Q QX := by
  have go : ∀ y0 : Int32, y0 = (if k % 2 = 0 then 2 else 3) → q_J l (d + 2) mX10_minutes mc ms Q QX h.2 11 [some (.ref 49), some (.int x), some (.int y), some (.int (nI k))] [.int y0] h mc ms := by
    rintro y0 rfl
    refine v_X10_minutes_11 49 x y _ _ (e_gr o rfl (e_sl rfl hk (e_sl rfl hk ?_)))
    show qCI l (d + 1) mX10_at [.int (x + q_dx k), .int (y + q_dy k)] h 0 0 _
    exact m_at hn ⟨_, rfl, e_al g.2.1 rfl (ix_lt hn) (by decide) (e_ob o (m_climb o g hp hk hn ⟨_, rfl, hq⟩))⟩
  refine v_X10_minutes 49 x y _ ⟨fun q => go 2 ?_, fun q => go 3 ?_⟩
  · rw [if_pos ((m_even hk).mp q)]
  · rw [if_neg (fun r => q ((m_even hk).mpr r))]
theorem m_energy {p k : Nat} (o : MO h W n m th wy) (g : MG h W) (hp : p < 576) (hk : k < 8) (hn : nP p k) (hq : Q (some (.int (sp_eng W.H W.R p k))) h) : q_Ct l (d + 3) mX10_energy [.ref 49, .int (px p), .int (py p), .int (nI k)] h mc ms Q QX := by
  refine v_X10_energy 49 _ _ _ (e_ob o (m_minutes o g (inP_p hp) hk hn ⟨_, rfl, e_ob o (m_climb o g (inP_p hp) hk hn ⟨_, rfl, ?_⟩)⟩))
  unfold sp_eng at hq
  unfold sp_clb
  rw [ix_p hp]
  exact hq
theorem i_abs_sub {a b : Int32} (h : -1000 ≤ a.toInt - b.toInt ∧ a.toInt - b.toInt ≤ 1000) : i_abs (a - b) = i_abs (b - a) := by
  have e1 : (a - b).toInt = a.toInt - b.toInt := fb_subI (by omega) (by omega)
  have e2 : (b - a).toInt = b.toInt - a.toInt := fb_subI (by omega) (by omega)
  apply Int32.toInt_inj.mp
  rw [i_abs_t (by omega), i_abs_t (by omega), e1, e2]
  split <;> split <;> omega
theorem m_distance {ax ay bx by' : Int32} (ha : inP ax ay) (hb : inP bx by') (hq : Q (some (.int (i_dist ax ay bx by'))) h) : q_Ct l (d + 1) mX10_distance [.int ax, .int ay, .int bx, .int by'] h mc ms Q QX := by
  obtain ⟨a1, a2, a3, a4⟩ := ha
  obtain ⟨b1, b2, b3, b4⟩ := hb
  refine v_X10_distance ax ay bx by' ?_
  show Q (some (.int (i_max (i_abs (ax - bx)) (i_abs (ay - by'))))) h
  rw [i_abs_sub (by omega), i_abs_sub (a := ay) (by omega)]
  exact hq
theorem i_sgn_cmp {a b : Int32} (h : -1000 ≤ a.toInt - b.toInt ∧ a.toInt - b.toInt ≤ 1000) : i_sgn (a - b) = i_cmp a b := by
  have e1 : (a - b).toInt = a.toInt - b.toInt := fb_subI (by omega) (by omega)
  have key : ∀ z : Int32, -1000 ≤ z.toInt → z.toInt ≤ 1000 → i_sgn z = if z.toInt < 0 then -1 else if z.toInt = 0 then 0 else 1 := by
    intro z h1 h2
    have e2 : z = Int32.ofInt z.toInt := (Int32.ofInt_toInt z).symm
    have all : ∀ n : Nat, n < 1001 → i_sgn (Int32.ofInt (n : Int)) = (if n = 0 then 0 else 1) ∧ i_sgn (Int32.ofInt (-(n : Int))) = (if n = 0 then 0 else -1) := by decide +kernel
    rcases Int.lt_or_le z.toInt 0 with q | q
    · have a := (all (-z.toInt).toNat (by omega)).2
      rw [show (-(((-z.toInt).toNat : Nat) : Int)) = z.toInt by omega, ← e2] at a
      rw [a, if_neg (by omega), if_pos q]
    · have a := (all z.toInt.toNat (by omega)).1
      rw [show ((z.toInt.toNat : Nat) : Int) = z.toInt by omega, ← e2] at a
      rw [a]
      by_cases z0 : z.toInt = 0
      · rw [if_pos (by omega), if_neg (by omega), if_pos z0]
      · rw [if_neg (by omega), if_neg (by omega), if_neg z0]
  rw [key _ (by omega) (by omega), e1]
  unfold i_cmp
  by_cases c : b ≤ a
  · rw [if_pos c]
    rw [le_i] at c
    rw [if_neg (by omega)]
    by_cases e : a = b
    · rw [if_pos e, if_pos (by rw [e]; omega)]
    · rw [if_neg e, if_neg (fun q => e (Int32.toInt_inj.mp (by omega)))]
  · rw [if_neg c]
    rw [le_i] at c
    rw [if_pos (by omega)]
theorem m_octant {ax ay bx by' : Int32} (ha : inP ax ay) (hb : inP bx by') (hq : Q (some (.int (nI (sp_oct (i_cmp ax bx) (i_cmp ay by'))))) h) : q_Ct l (d + 1) mX10_octant [.int ax, .int ay, .int bx, .int by'] h mc ms Q QX := by
  obtain ⟨a1, a2, a3, a4⟩ := ha
  obtain ⟨b1, b2, b3, b4⟩ := hb
  refine v_X10_octant ax ay bx by' ?_
  have s1 : i_sgn (ax - bx) = i_cmp ax bx := i_sgn_cmp (by omega)
  have s2 : i_sgn (ay - by') = i_cmp ay by' := i_sgn_cmp (by omega)
  generalize i_cmp ax bx = sx at hq s1
  generalize i_cmp ay by' = sy at hq s2
  refine q_loop (fun k h' => q_J l (d + 1) mX10_octant mc ms Q QX h.2 3 [some (.int ax), some (.int ay), some (.int bx), some (.int by'), some (.int (nI k))] [] h' mc ms) (fun k h' => h' = h ∧ sp_oct sx sy = q_find (fun k => q_dx k = sx ∧ q_dy k = sy) k (8 - k)) 8 ?_ ?_ 0 h (by omega) ⟨rfl, rfl⟩
  · rintro h' ⟨rfl, e⟩
    refine v_X10_octant_3 _ _ _ _ (nI 8) ⟨fun _ => ?_, fun q => absurd (Int32.le_refl _) q⟩
    rw [e] at hq
    exact hq
  · rintro k h' hk ⟨rfl, e⟩ ih
    have e2 : 8 - k = (8 - (k + 1)) + 1 := by omega
    rw [e2, q_find] at e
    refine v_X10_octant_3 _ _ _ _ (nI k) ⟨fun q => absurd q (nI_ge hk (by decide)), fun _ => ?_⟩
    refine e_sl rfl hk (v_J6_signum_0f7a4 (d := d) _ ⟨_, rfl, ⟨fun c1 => e_sl rfl hk (v_J6_signum_0f7a4 (d := d) _ ⟨_, rfl, ⟨fun c2 => ?_, fun c2 => ?_⟩⟩), fun c1 => ?_⟩⟩)
    · have c1 : q_dx k = sx := c1.trans s1
      have c2 : q_dy k = sy := c2.trans s2
      rw [if_pos ⟨c1, c2⟩] at e
      rw [e] at hq
      exact hq
    · rw [if_neg (fun q => c2 (q.2.trans s2.symm))] at e
      rw [nI_1]
      exact ih _ ⟨rfl, e⟩
    · rw [if_neg (fun q => c1 (q.1.trans s1.symm))] at e
      rw [nI_1]
      exact ih _ ⟨rfl, e⟩
theorem m_isSeen {ax ay bx by' : Int32} (o : MO h W n m th wy) (g : MG h W) (ha : inP ax ay) (hb : inP bx by') (hq : Q (some (.int (if seeA W ax ay bx by' = true then 1 else 0))) h) : q_Ct l (d + 2) mX10_isSeen [.ref 49, .int ax, .int ay, .int bx, .int by'] h mc ms Q QX := by
  refine v_X10_isSeen 49 _ _ _ _ (m_distance ha hb ⟨_, rfl, e_gr o rfl (m_at ha ⟨_, rfl, e_al g.1 rfl (ix_lt ha) (by decide) (e_gr o rfl (m_at hb ⟨_, rfl, e_al g.1 rfl (ix_lt hb) (by decide) ?_⟩))⟩)⟩)
  obtain ⟨n9, hn, en, h1, h2, h3, h4, -, -⟩ := i_dist_t ha hb
  have hq2 : ∀ r : Int32, (r = 1 ∧ sp_see W.H ax ay bx by') ∨ (r = 0 ∧ ¬ sp_see W.H ax ay bx by') → Q (some (.int r)) h := by
    rintro r (⟨rfl, e⟩ | ⟨rfl, e⟩)
    · rw [if_pos (seeA_t.mpr e)] at hq; exact hq
    · rw [if_neg (fun q => e (seeA_t.mp q))] at hq; exact hq
  unfold sp_see at hq2
  rw [en] at hq2 ⊢
  refine q_loop (fun k0 (st : Int32) => q_J l (d + 2) mX10_isSeen mc ms Q QX h.2 46 [some (.ref 49), some (.int ax), some (.int ay), some (.int bx), some (.int by'), some (.int (nI n9)), some (.int (W.H (ix ax ay) + 3)), some (.int (W.H (ix bx by') - (W.H (ix ax ay) + 3))), some (.int st), some (.int (nI k0)), none, none] [] h mc ms)
    (fun k0 st => 1 ≤ k0 ∧ ((st = 1 ∧ ∀ j : Nat, 1 ≤ j → j < k0 → W.H (ix (ax + i_fdiv (2 * nI j * (bx - ax) + nI n9) (2 * nI n9)) (ay + i_fdiv (2 * nI j * (by' - ay) + nI n9) (2 * nI n9))) ≤ W.H (ix ax ay) + 3 + (W.H (ix bx by') - (W.H (ix ax ay) + 3)) * nI j / nI n9) ∨
      (st = 0 ∧ ∃ j : Nat, 1 ≤ j ∧ j < n9 ∧ ¬ W.H (ix (ax + i_fdiv (2 * nI j * (bx - ax) + nI n9) (2 * nI n9)) (ay + i_fdiv (2 * nI j * (by' - ay) + nI n9) (2 * nI n9))) ≤ W.H (ix ax ay) + 3 + (W.H (ix bx by') - (W.H (ix ax ay) + 3)) * nI j / nI n9))) (max n9 1 + 1) ?_ ?_ 1 1 (by omega) ⟨by omega, Or.inl ⟨rfl, fun j q1 q2 => absurd q1 (by omega)⟩⟩
  · have bad : ∀ {k0 : Nat} {st : Int32}, n9 ≤ k0 → ((st = 1 ∧ ∀ j : Nat, 1 ≤ j → j < k0 → W.H (ix (ax + i_fdiv (2 * nI j * (bx - ax) + nI n9) (2 * nI n9)) (ay + i_fdiv (2 * nI j * (by' - ay) + nI n9) (2 * nI n9))) ≤ W.H (ix ax ay) + 3 + (W.H (ix bx by') - (W.H (ix ax ay) + 3)) * nI j / nI n9) ∨
      (st = 0 ∧ ∃ j : Nat, 1 ≤ j ∧ j < n9 ∧ ¬ W.H (ix (ax + i_fdiv (2 * nI j * (bx - ax) + nI n9) (2 * nI n9)) (ay + i_fdiv (2 * nI j * (by' - ay) + nI n9) (2 * nI n9))) ≤ W.H (ix ax ay) + 3 + (W.H (ix bx by') - (W.H (ix ax ay) + 3)) * nI j / nI n9)) → qB st (Q (some (.int st)) h) := by
      rintro k0 st hk (⟨rfl, e⟩ | ⟨rfl, j, j1, j2, e⟩)
      · refine ⟨Or.inr rfl, hq2 1 (Or.inl ⟨rfl, fun k q1 q0 q2 => e k q1 ?_⟩)⟩
        have := (nI_ltI (by omega) (by omega)).mp q2
        omega
      · exact ⟨Or.inl rfl, hq2 0 (Or.inr ⟨rfl, fun q => e (q j j1 (by omega) (nI_lt j2 (by omega)))⟩)⟩
    rintro st ⟨k1, hI⟩
    exact v_X10_isSeen_46 49 _ _ _ _ _ _ _ _ _ ⟨fun _ => bad (by omega) hI, fun q => absurd (nI_le (by omega) (by omega)) q⟩
  · have bad : ∀ {k0 : Nat} {st : Int32}, n9 ≤ k0 → ((st = 1 ∧ ∀ j : Nat, 1 ≤ j → j < k0 → W.H (ix (ax + i_fdiv (2 * nI j * (bx - ax) + nI n9) (2 * nI n9)) (ay + i_fdiv (2 * nI j * (by' - ay) + nI n9) (2 * nI n9))) ≤ W.H (ix ax ay) + 3 + (W.H (ix bx by') - (W.H (ix ax ay) + 3)) * nI j / nI n9) ∨
      (st = 0 ∧ ∃ j : Nat, 1 ≤ j ∧ j < n9 ∧ ¬ W.H (ix (ax + i_fdiv (2 * nI j * (bx - ax) + nI n9) (2 * nI n9)) (ay + i_fdiv (2 * nI j * (by' - ay) + nI n9) (2 * nI n9))) ≤ W.H (ix ax ay) + 3 + (W.H (ix bx by') - (W.H (ix ax ay) + 3)) * nI j / nI n9)) → qB st (Q (some (.int st)) h) := by
      rintro k0 st hk (⟨rfl, e⟩ | ⟨rfl, j, j1, j2, e⟩)
      · refine ⟨Or.inr rfl, hq2 1 (Or.inl ⟨rfl, fun k q1 q0 q2 => e k q1 ?_⟩)⟩
        have := (nI_ltI (by omega) (by omega)).mp q2
        omega
      · exact ⟨Or.inl rfl, hq2 0 (Or.inr ⟨rfl, fun q => e (q j j1 (by omega) (nI_lt j2 (by omega)))⟩)⟩
    rintro k st hk ⟨hk1, hI⟩ ih
    by_cases hkn : n9 ≤ k
    · exact v_X10_isSeen_46 49 _ _ _ _ _ _ _ _ _ ⟨fun _ => bad hkn hI, fun q => absurd (nI_le hkn (by omega)) q⟩
    refine v_X10_isSeen_46 49 _ _ _ _ _ _ _ _ _ ⟨fun q => absurd q (nI_ge (by omega) (by omega)), fun _ => ⟨fun q => ?_, fun q => ?_⟩⟩
    · rcases hI with ⟨rfl, e⟩ | ⟨rfl, j, j1, j2, e⟩
      · exact absurd q z10
      · exact ⟨Or.inl rfl, hq2 0 (Or.inr ⟨rfl, fun q => e (q j j1 (by omega) (nI_lt j2 (by omega)))⟩)⟩
    have n0 : ¬ nI n9 = 0 := nI_ne0 (by omega) (by omega)
    have n2 : ¬ (2 : Int32) * nI n9 = 0 := by
      rw [show (2 : Int32) = nI 2 from rfl, pk_mul]
      exact nI_ne0 (by omega) (by omega)
    have hin := see_in ha hb en hn h1 h2 h3 h4 hk1 (by omega)
    refine s_floorDiv n2 ⟨_, rfl, s_floorDiv n2 ⟨_, rfl, e_gr o rfl (m_at hin ⟨_, rfl, e_al g.1 rfl (ix_lt hin) (by decide) ⟨n0, fun c => ?_, fun c => ?_⟩⟩)⟩⟩
    · rw [nI_1]
      exact ih 0 ⟨by omega, Or.inr ⟨rfl, k, hk1, by omega, Int32.not_le.mpr c⟩⟩
    · rw [nI_1]
      refine ih 1 ⟨by omega, Or.inl ⟨rfl, fun j q1 q2 => ?_⟩⟩
      by_cases e : j = k
      · subst e; exact Int32.not_lt.mp c
      · rcases hI with ⟨rfl, e⟩ | ⟨rfl, j, j1, j2, e⟩
        · exact e j q1 (by omega)
        · exact absurd rfl q
end MD1
