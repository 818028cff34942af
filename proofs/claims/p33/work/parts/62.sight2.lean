/-! THE LAW: where a way goes on; sight -/
theorem fl_lt {V m F j : Int} (hm : 0 < m) (h1 : F * m ≤ V) (h2 : V < (F + 1) * m) : V < m * j ↔ F < j := by
  constructor
  · intro q
    refine Int.not_le.mp fun r => ?_
    have := Int.mul_le_mul_of_nonneg_left r (Int.le_of_lt hm)
    rw [Int.mul_comm] at h1
    omega
  · intro q
    have : (F + 1) * m ≤ j * m := Int.mul_le_mul_of_nonneg_right (by omega) (Int.le_of_lt hm)
    rw [Int.mul_comm m j]
    omega
/-- the numbers of one place between -/
def btw (k n : Nat) (ax bx : Int32) : Int32 := 2 * nI k * (bx - ax) + nI n
theorem btw_c {k n : Nat} {ax bx x : Int32} (hn : n < 24) (hk1 : 1 ≤ k) (hkn : k < n) (ha : 0 ≤ ax.toInt ∧ ax.toInt < 24) (hb : 0 ≤ bx.toInt ∧ bx.toInt < 24) (hx : -30 ≤ x.toInt ∧ x.toInt ≤ 60) :
    (btw k n ax bx < 2 * nI n * ((x + 1) - ax) ↔ (i_fdiv (btw k n ax bx) (2 * nI n)).toInt < x.toInt + 1 - ax.toInt) ∧ (2 * nI n * (x - ax) ≤ btw k n ax bx ↔ x.toInt - ax.toInt ≤ (i_fdiv (btw k n ax bx) (2 * nI n)).toInt) := by
  have e1 : (2 : Int32) * nI k = nI (2 * k) := by rw [show (2 : Int32) = nI 2 from rfl, pk_mul]
  have e2 : (2 : Int32) * nI n = nI (2 * n) := by rw [show (2 : Int32) = nI 2 from rfl, pk_mul]
  have t1 : (nI (2 * k)).toInt = ((2 * k : Nat) : Int) := nI_toInt (by omega)
  have t2 : (nI (2 * n)).toInt = ((2 * n : Nat) : Int) := nI_toInt (by omega)
  have t3 : (nI n).toInt = (n : Int) := nI_toInt (by omega)
  have d1 : (bx - ax).toInt = bx.toInt - ax.toInt := fb_subI (by omega) (by omega)
  have rng : ∀ {a b : Int}, 0 ≤ a → a ≤ 48 → -60 ≤ b → b ≤ 61 → -10000 ≤ a * b ∧ a * b ≤ 10000 := fun {a b} p1 p2 p3 p4 => by
    have q1 : a * b ≤ a * 61 := Int.mul_le_mul_of_nonneg_left p4 p1
    have q2 : a * (-60) ≤ a * b := Int.mul_le_mul_of_nonneg_left p3 p1
    omega
  have r1 := rng (a := ((2 * k : Nat) : Int)) (b := bx.toInt - ax.toInt) (by omega) (by omega) (by omega) (by omega)
  have m1 : (nI (2 * k) * (bx - ax)).toInt = ((2 * k : Nat) : Int) * (bx.toInt - ax.toInt) := by rw [fb_mulI (by rw [t1, d1]; omega) (by rw [t1, d1]; omega), t1, d1]
  have v1 : (btw k n ax bx).toInt = ((2 * k : Nat) : Int) * (bx.toInt - ax.toInt) + n := by
    unfold btw
    rw [e1, fb_addI (by rw [m1, t3]; omega) (by rw [m1, t3]; omega), m1, t3]
  have sp := i_fdiv_spec (a := btw k n ax bx) (b := nI (2 * n)) (by rw [t2]; omega) (by rw [v1]; omega) (by rw [t2]; omega)
  rw [t2] at sp
  have L1 := L_1
  have x1 : (x + 1).toInt = x.toInt + 1 := by rw [fb_addI (by rw [L1]; omega) (by rw [L1]; omega), L1]
  have x2 : (x + 1 - ax).toInt = x.toInt + 1 - ax.toInt := by rw [fb_subI (by rw [x1]; omega) (by rw [x1]; omega), x1]
  have x3 : (x - ax).toInt = x.toInt - ax.toInt := fb_subI (by omega) (by omega)
  have r2 := rng (a := ((2 * n : Nat) : Int)) (b := x.toInt + 1 - ax.toInt) (by omega) (by omega) (by omega) (by omega)
  have r3 := rng (a := ((2 * n : Nat) : Int)) (b := x.toInt - ax.toInt) (by omega) (by omega) (by omega) (by omega)
  have y1 : (nI (2 * n) * (x + 1 - ax)).toInt = ((2 * n : Nat) : Int) * (x.toInt + 1 - ax.toInt) := by rw [fb_mulI (by rw [t2, x2]; omega) (by rw [t2, x2]; omega), t2, x2]
  have y2 : (nI (2 * n) * (x - ax)).toInt = ((2 * n : Nat) : Int) * (x.toInt - ax.toInt) := by rw [fb_mulI (by rw [t2, x3]; omega) (by rw [t2, x3]; omega), t2, x3]
  rw [e2, lt_i, le_i, y1, y2]
  have k1 := fl_lt (V := (btw k n ax bx).toInt) (m := ((2 * n : Nat) : Int)) (F := (i_fdiv (btw k n ax bx) (nI (2 * n))).toInt) (j := x.toInt + 1 - ax.toInt) (by omega) sp.1 sp.2
  have k2 := fl_lt (V := (btw k n ax bx).toInt) (m := ((2 * n : Nat) : Int)) (F := (i_fdiv (btw k n ax bx) (nI (2 * n))).toInt) (j := x.toInt - ax.toInt) (by omega) sp.1 sp.2
  exact ⟨k1, by omega⟩
section LA3
variable {l : Launch} {d mc ms : Nat} {Q : Option Value → qH → Prop} {QX : String → qH → Prop} {h : qH} {i r : Nat} {H R Z : Nat → Int32} {s : Int32} {c : Nat → Nat}
theorem s_next {o p : Nat} (g : GV h i H R Z s) (gok : gOk H R) (hc : ar h r 576 (cv c)) (L : lc (B_to H R Z s) o c) (hp : p < 576) (hf : c p < FARn) (h0 : c p ≠ 0) (hq : Q (some (.int (nI (dirA H R Z s c p)))) h) : q_Ct l (d + 1) mL_next [.ref i, .ref r, .int (px p), .int (py p)] h mc ms Q QX := by
  have far : FARn = 1000000 := rfl
  have dk := dir_ok gok L hp hf h0
  have ip := inP_p hp
  refine v_L_next i r _ _ ?_
  refine q_loop (fun k h' => q_J l (d + 1) mL_next mc ms Q QX h.2 3 [some (.ref i), some (.ref r), some (.int (px p)), some (.int (py p)), some (.int (nI k)), none] [] h' mc ms) (fun k h' => h' = h ∧ dirA H R Z s c p = @q_find (dirP H R Z s c p) (fun _ => Classical.propDecidable _) k (8 - k)) 8 ?_ ?_ 0 h (by omega) ⟨rfl, rfl⟩
  · rintro h' ⟨rfl, e⟩
    have := dk.1
    rw [e] at this
    exact absurd this (by simp [q_find])
  · rintro k h' hk ⟨rfl, e⟩ ih
    have e2 : 8 - k = (8 - (k + 1)) + 1 := by omega
    rw [e2, q_find] at e
    have no : ¬ dirP H R Z s c p k → q_J l (d + 1) mL_next mc ms Q QX h'.2 3 [some (.ref i), some (.ref r), some (.int (px p)), some (.int (py p)), some (.int (nI k + 1)), none] [] h' mc ms := fun q => by
      rw [if_neg q] at e
      rw [nI_1]
      exact ih h' ⟨rfl, e⟩
    refine v_L_next_3 i r _ _ (nI k) ⟨fun q => absurd q (nI_ge hk (by decide)), fun _ => s_step0 g gok.1 ip hk ⟨_, rfl, fun q => no (fun z => ?_), fun q => ?_⟩⟩
    · rw [stL_t z.1, le_i, L_0] at q
      have := (min_ok gok hp z.1).1
      omega
    have hs : sp_can H Z s (px p) (py p) k := Classical.byContradiction fun z => q (by rw [stL_f z]; decide)
    have hl := nb_lt hs.1
    have wk := wt_ok gok hp hs
    have ei : (24 * (py p + q_dy k) + px p + q_dx k : Int32) = nI (nb p k) := by rw [Int32.add_assoc, ix_at' hs.1]; rfl
    have small := lc_small (gB_to gok) L hp hf
    refine e_sl rfl hk (e_sl rfl hk (e_al hc ei hl (by decide) ⟨fun q1 => no (fun z => ?_), fun q1 => ?_⟩))
    · have : c (nb p k) < FARn := by have := z.2; omega
      rw [cv_t this] at q1
      exact nI_pos (by omega) q1
    have nf : c (nb p k) < FARn := Classical.byContradiction fun z => q1 (by rw [cv_f z]; decide)
    refine e_sl rfl hk (e_sl rfl hk (e_al hc ei hl (by decide) (e_al hc (k := p) (by rw [ix_at' ip, ix_p hp]) hp (by decide) ?_)))
    rw [stL_t hs, wk.1, cv_t nf, cv_t hf, nI_add]
    refine ⟨fun q2 => ?_, fun q2 => no (fun z => q2 ?_)⟩
    · have := (nI_eq (by omega) (by omega)).mp q2
      have rr : dirP H R Z s c p k := ⟨hs, by omega⟩
      rw [if_pos rr] at e
      rw [e] at hq
      exact hq
    · have := z.2
      rw [this, Nat.add_comm]
theorem sp_end {H : Nat → Int32} {ax ay bx by' : Int32} {n k : Nat} (en : i_dist ax ay bx by' = nI n) (hn : n < 24) (hk : 1 ≤ k) (hkn : k < n) (e : ¬ H (ix (ax + i_fdiv (2 * nI k * (bx - ax) + nI n) (2 * nI n)) (ay + i_fdiv (2 * nI k * (by' - ay) + nI n) (2 * nI n))) ≤ H (ix ax ay) + 3 + (H (ix bx by') - (H (ix ax ay) + 3)) * nI k / nI n) : ¬ sp_see H ax ay bx by' := fun q => by
  unfold sp_see at q
  rw [en] at q
  exact e (q k hk (by omega) (nI_lt hkn (by omega)))
theorem s_sees0 {ax ay bx by' : Int32} (g : GV h i H R Z s) (ha : inP ax ay) (hb : inP bx by') (hq : ∀ r : Int32, (r = 1 ∧ sp_see H ax ay bx by') ∨ (r = 0 ∧ ¬ sp_see H ax ay bx by') → Q (some (.int r)) h) : q_Ct l (d + 1) mL_sees [.ref i, .int ax, .int ay, .int bx, .int by'] h mc ms Q QX := by
  obtain ⟨n, hn, en, h1, h2, h3, h4, -, -⟩ := i_dist_t ha hb
  have a4 := id ha
  have b4 := id hb
  obtain ⟨a1, a2, a3, a4⟩ := a4
  obtain ⟨b1, b2, b3, b4⟩ := b4
  refine v_L_sees i ax ay bx by' ?_
  show q_J l (d + 1) mL_sees mc ms Q QX h.2 21 [some (.ref i), some (.int ax), some (.int ay), some (.int bx), some (.int by'), some (.int (i_dist ax ay bx by')), some (.int 1), none, none, none] [] h mc ms
  rw [en]
  refine q_loop (fun k (h' : qH) => q_J l (d + 1) mL_sees mc ms Q QX h.2 21 [some (.ref i), some (.int ax), some (.int ay), some (.int bx), some (.int by'), some (.int (nI n)), some (.int (nI k)), none, none, none] [] h' mc ms) (fun k h' => h' = h ∧ 1 ≤ k ∧ ∀ j : Nat, 1 ≤ j → j < k → H (ix (ax + i_fdiv (2 * nI j * (bx - ax) + nI n) (2 * nI n)) (ay + i_fdiv (2 * nI j * (by' - ay) + nI n) (2 * nI n))) ≤ H (ix ax ay) + 3 + (H (ix bx by') - (H (ix ax ay) + 3)) * nI j / nI n) (max n 1) ?_ ?_ 1 h (by omega) ⟨rfl, by omega, fun j q1 q2 => absurd q1 (by omega)⟩
  · rintro h' ⟨rfl, k1, e⟩
    refine v_L_sees_21 i _ _ _ _ _ _ ⟨fun _ => hq 1 (Or.inl ⟨rfl, ?_⟩), fun q => absurd (nI_le (by omega) (by omega)) q⟩
    unfold sp_see
    rw [en]
    intro k q1 q2 q3
    exact e k q1 (by have := (nI_ltI (by omega) (by omega)).mp q3; omega)
  · rintro k h' hk ⟨rfl, k1, e⟩ ih
    by_cases hkn : n ≤ k
    · exact absurd hkn (by omega)
    have hkn : k < n := by omega
    refine v_L_sees_21 i _ _ _ _ _ _ ⟨fun q => absurd q (nI_ge hkn (by omega)), fun _ => ?_⟩
    have cx := fun (x : Int32) (hx : -30 ≤ x.toInt ∧ x.toInt ≤ 60) => btw_c (k := k) (n := n) (ax := ax) (bx := bx) (x := x) hn k1 hkn ⟨a1, a2⟩ ⟨b1, b2⟩ hx
    have cy := fun (x : Int32) (hx : -30 ≤ x.toInt ∧ x.toInt ≤ 60) => btw_c (k := k) (n := n) (ax := ay) (bx := by') (x := x) hn k1 hkn ⟨a3, a4⟩ ⟨b3, b4⟩ hx
    have d1 : (bx - ax).toInt = bx.toInt - ax.toInt := fb_subI (by omega) (by omega)
    have d2 : (by' - ay).toInt = by'.toInt - ay.toInt := fb_subI (by omega) (by omega)
    have mx := mid_in (dx := bx - ax) hn (by omega) (by omega) k1 hkn
    have my := mid_in (dx := by' - ay) hn (by omega) (by omega) k1 hkn
    have hin := see_in ha hb en hn h1 h2 h3 h4 k1 hkn
    have ee := e
    have bad := sp_end (H := H) en hn k1 hkn
    change ∀ x, _ → (btw k n ax bx < _ ↔ _) ∧ _ at cx
    change (0 ≤ (bx - ax).toInt → 0 ≤ (i_fdiv (btw k n ax bx) (2 * nI n)).toInt ∧ (i_fdiv (btw k n ax bx) (2 * nI n)).toInt ≤ (bx - ax).toInt) ∧ ((bx - ax).toInt < 0 → (bx - ax).toInt ≤ (i_fdiv (btw k n ax bx) (2 * nI n)).toInt ∧ (i_fdiv (btw k n ax bx) (2 * nI n)).toInt ≤ 0) at mx
    change (0 ≤ (by' - ay).toInt → 0 ≤ (i_fdiv (btw k n ay by') (2 * nI n)).toInt ∧ (i_fdiv (btw k n ay by') (2 * nI n)).toInt ≤ (by' - ay).toInt) ∧ ((by' - ay).toInt < 0 → (by' - ay).toInt ≤ (i_fdiv (btw k n ay by') (2 * nI n)).toInt ∧ (i_fdiv (btw k n ay by') (2 * nI n)).toInt ≤ 0) at my
    change inP (ax + i_fdiv (btw k n ax bx) (2 * nI n)) (ay + i_fdiv (btw k n ay by') (2 * nI n)) at hin
    change ¬ H (ix (ax + i_fdiv (btw k n ax bx) (2 * nI n)) (ay + i_fdiv (btw k n ay by') (2 * nI n))) ≤ _ → _ at bad
    have nxt : (H (ix (ax + i_fdiv (btw k n ax bx) (2 * nI n)) (ay + i_fdiv (btw k n ay by') (2 * nI n))) ≤ H (ix ax ay) + 3 + (H (ix bx by') - (H (ix ax ay) + 3)) * nI k / nI n) → q_J l (d + 1) mL_sees mc ms Q QX h'.2 21 [some (.ref i), some (.int ax), some (.int ay), some (.int bx), some (.int by'), some (.int (nI n)), some (.int (nI (k + 1))), none, none, none] [] h' mc ms := fun q => ih h' ⟨rfl, by omega, fun j q1 q2 => by
      by_cases ej : j = k
      · subst ej; exact q
      · exact ee j q1 (by omega)⟩
    have rx : -23 ≤ (i_fdiv (btw k n ax bx) (2 * nI n)).toInt ∧ (i_fdiv (btw k n ax bx) (2 * nI n)).toInt ≤ 23 := by
      rcases Int.lt_or_le (bx - ax).toInt 0 with q | q
      · have := mx.2 q; omega
      · have := mx.1 q; omega
    have ry : -23 ≤ (i_fdiv (btw k n ay by') (2 * nI n)).toInt ∧ (i_fdiv (btw k n ay by') (2 * nI n)).toInt ≤ 23 := by
      rcases Int.lt_or_le (by' - ay).toInt 0 with q | q
      · have := my.2 q; omega
      · have := my.1 q; omega
    generalize i_fdiv (btw k n ax bx) (2 * nI n) = fx at cx mx hin bad nxt rx
    generalize i_fdiv (btw k n ay by') (2 * nI n) = fy at cy my hin bad nxt ry
    have L1 := L_1
    have Lm := M_1
    have fxs : (ax + fx).toInt = ax.toInt + fx.toInt := fb_addI (by omega) (by omega)
    have fys : (ay + fy).toInt = ay.toInt + fy.toInt := fb_addI (by omega) (by omega)
    -- the place reached
    have fin : q_J l (d + 1) mL_sees mc ms Q QX h'.2 126 [some (.ref i), some (.int ax), some (.int ay), some (.int bx), some (.int by'), some (.int (nI n)), some (.int (nI k)), some (.int (ax + fx)), some (.int (ay + fy)), none] [] h' mc ms := by
      refine v_L_sees_126 i _ _ _ _ _ _ _ _ ⟨fun _ => ?_, fun q => absurd ((cy (ay + fy) (by omega)).2.mpr (by omega)) q⟩
      have la := ix_lt ha
      have lb := ix_lt hb
      have lh := ix_lt hin
      refine e_al g (ix_at' ha) (by omega) (by decide) (e_al g (ix_at' hb) (by omega) (by decide) (e_al g (ix_at' ha) (by omega) (by decide) ⟨nI_ne0 (by omega) (by omega), e_al g (ix_at' hin) (by omega) (by decide) ?_⟩))
      rw [gF_H la, gF_H lb, gF_H lh, show H (ix bx by') - H (ix ax ay) - 3 = H (ix bx by') - (H (ix ax ay) + 3) by grind]
      refine ⟨fun q => ?_, fun q => hq 0 (Or.inr ⟨rfl, bad q⟩)⟩
      rw [nI_1]
      exact nxt q
    -- y goes down, and up
    have dny : ∀ y : Int32, (fy.toInt ≤ y.toInt - ay.toInt ∧ y.toInt - ay.toInt ≤ 23) → q_J l (d + 1) mL_sees mc ms Q QX h'.2 126 [some (.ref i), some (.int ax), some (.int ay), some (.int bx), some (.int by'), some (.int (nI n)), some (.int (nI k)), some (.int (ax + fx)), some (.int y), none] [] h' mc ms := by
      refine q_while _ _ (fun y => (y.toInt - ay.toInt - fy.toInt).toNat) ?_
      rintro y ⟨q1, q2⟩ again
      by_cases eq : y.toInt - ay.toInt = fy.toInt
      · rw [show y = ay + fy from Int32.toInt_inj.mp (by omega)]
        exact fin
      · refine v_L_sees_126 i _ _ _ _ _ _ _ _ ⟨fun q => absurd ((cy y (by omega)).2.mp q) (by omega), fun _ => ?_⟩
        have e1 : (y + -1).toInt = y.toInt - 1 := by rw [fb_addI (by rw [Lm]; omega) (by rw [Lm]; omega), Lm]; omega
        generalize y + -1 = y' at e1 ⊢
        exact again y' ⟨by omega, by omega⟩ (by show (y'.toInt - ay.toInt - fy.toInt).toNat < (y.toInt - ay.toInt - fy.toInt).toNat; omega)
    have upy : ∀ y : Int32, (0 ≤ y.toInt - ay.toInt ∧ (y.toInt - ay.toInt ≤ fy.toInt ∨ y.toInt = ay.toInt)) → q_J l (d + 1) mL_sees mc ms Q QX h'.2 94 [some (.ref i), some (.int ax), some (.int ay), some (.int bx), some (.int by'), some (.int (nI n)), some (.int (nI k)), some (.int (ax + fx)), some (.int y), none] [] h' mc ms := by
      refine q_while _ _ (fun y => (fy.toInt - (y.toInt - ay.toInt)).toNat) ?_
      rintro y ⟨q1, q2⟩ again
      refine v_L_sees_94 i _ _ _ _ _ _ _ _ ⟨fun q => ?_, fun q => ?_⟩
      · have := (cy y (by omega)).1.mp q
        exact dny y ⟨by omega, by omega⟩
      · have : ¬ fy.toInt < y.toInt + 1 - ay.toInt := fun z => q ((cy y (by omega)).1.mpr z)
        have e1 : (y + 1).toInt = y.toInt + 1 := by rw [fb_addI (by rw [L1]; omega) (by rw [L1]; omega), L1]
        exact again (y + 1) ⟨by omega, by omega⟩ (by omega)
    have dnx : ∀ x : Int32, (fx.toInt ≤ x.toInt - ax.toInt ∧ x.toInt - ax.toInt ≤ 23) → q_J l (d + 1) mL_sees mc ms Q QX h'.2 62 [some (.ref i), some (.int ax), some (.int ay), some (.int bx), some (.int by'), some (.int (nI n)), some (.int (nI k)), some (.int x), none, none] [] h' mc ms := by
      refine q_while _ _ (fun x => (x.toInt - ax.toInt - fx.toInt).toNat) ?_
      rintro x ⟨q1, q2⟩ again
      refine v_L_sees_62 i _ _ _ _ _ _ _ ⟨fun q => ?_, fun q => ?_⟩
      · have := (cx x (by omega)).2.mp q
        rw [show x = ax + fx from Int32.toInt_inj.mp (by omega)]
        exact upy ay ⟨by omega, Or.inr rfl⟩
      · have : ¬ x.toInt - ax.toInt ≤ fx.toInt := fun z => q ((cx x (by omega)).2.mpr z)
        have e1 : (x + -1).toInt = x.toInt - 1 := by rw [fb_addI (by rw [Lm]; omega) (by rw [Lm]; omega), Lm]; omega
        generalize x + -1 = x' at e1 ⊢
        exact again x' ⟨by omega, by omega⟩ (by show (x'.toInt - ax.toInt - fx.toInt).toNat < (x.toInt - ax.toInt - fx.toInt).toNat; omega)
    have upx : ∀ x : Int32, (0 ≤ x.toInt - ax.toInt ∧ (x.toInt - ax.toInt ≤ fx.toInt ∨ x.toInt = ax.toInt)) → q_J l (d + 1) mL_sees mc ms Q QX h'.2 31 [some (.ref i), some (.int ax), some (.int ay), some (.int bx), some (.int by'), some (.int (nI n)), some (.int (nI k)), some (.int x), none, none] [] h' mc ms := by
      refine q_while _ _ (fun x => (fx.toInt - (x.toInt - ax.toInt)).toNat) ?_
      rintro x ⟨q1, q2⟩ again
      refine v_L_sees_31 i _ _ _ _ _ _ _ ⟨fun q => ?_, fun q => ?_⟩
      · have := (cx x (by omega)).1.mp q
        exact dnx x ⟨by omega, by omega⟩
      · have : ¬ fx.toInt < x.toInt + 1 - ax.toInt := fun z => q ((cx x (by omega)).1.mpr z)
        have e1 : (x + 1).toInt = x.toInt + 1 := by rw [fb_addI (by rw [L1]; omega) (by rw [L1]; omega), L1]
        exact again (x + 1) ⟨by omega, by omega⟩ (by omega)
    exact upx ax ⟨by omega, Or.inr rfl⟩
end LA3
