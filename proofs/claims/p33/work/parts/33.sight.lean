/-! sight -/
theorem i_sg (z : Int32) : z < 0 ↔ z.toBitVec.msb = true := by
  rw [lt_i, L_0, BitVec.msb_eq_toInt]
  show z.toInt < 0 ↔ decide (z.toBitVec.toInt < 0) = true
  simp
theorem i_xor {a b : Int32} (hb : 0 < b.toInt) : 0 ≤ (a ^^^ b) ↔ 0 ≤ a.toInt := by
  have h1 : (a ^^^ b) < 0 ↔ a < 0 := by
    rw [i_sg, i_sg]
    have hb2 : b.toBitVec.msb = false := by
      cases hm : b.toBitVec.msb with
      | false => rfl
      | true =>
        have := (i_sg b).mpr hm
        rw [lt_i, L_0] at this
        omega
    rw [show (a ^^^ b).toBitVec = a.toBitVec ^^^ b.toBitVec from rfl, BitVec.msb_xor, hb2]
    simp
  rw [le_i, L_0]
  rw [lt_i, lt_i, L_0] at h1
  omega
theorem i_div {a b : Int32} (hb : 0 < b.toInt) : (a / b).toInt = a.toInt.tdiv b.toInt := by
  rw [Int32.toInt_div]
  have h1 := fb_rng a
  refine fb_bmod ?_ ?_
  · rcases Int.le_total 0 a.toInt with h | h
    · have := Int.tdiv_nonneg h (Int.le_of_lt hb)
      omega
    · have h2 : -(a.toInt.tdiv b.toInt) = (-a.toInt).tdiv b.toInt := by rw [Int.neg_tdiv]
      have h3 : (-a.toInt).tdiv b.toInt ≤ -a.toInt := by
        rw [Int.tdiv_eq_ediv_of_nonneg (by omega)]
        exact Int.ediv_le_self _ (by omega)
      omega
  · rcases Int.le_total 0 a.toInt with h | h
    · have h3 : a.toInt.tdiv b.toInt ≤ a.toInt := by
        rw [Int.tdiv_eq_ediv_of_nonneg h]
        exact Int.ediv_le_self _ h
      omega
    · have h2 : -(a.toInt.tdiv b.toInt) = (-a.toInt).tdiv b.toInt := by rw [Int.neg_tdiv]
      have h3 : 0 ≤ (-a.toInt).tdiv b.toInt := Int.tdiv_nonneg (by omega) (Int.le_of_lt hb)
      omega
/-- floorDiv by a number greater than 0 -/
theorem i_fdiv_spec {a b : Int32} (hb : 0 < b.toInt) (ha : -1000000 ≤ a.toInt ∧ a.toInt ≤ 1000000) (hb2 : b.toInt ≤ 1000000) : (i_fdiv a b).toInt * b.toInt ≤ a.toInt ∧ a.toInt < ((i_fdiv a b).toInt + 1) * b.toInt := by
  have hd := i_div (a := a) hb
  by_cases h0 : 0 ≤ a.toInt
  · rw [i_fdiv, if_pos ((i_xor hb).mpr h0), hd, Int.tdiv_eq_ediv_of_nonneg h0]
    have h1 := Int.mul_ediv_add_emod a.toInt b.toInt
    have h2 := Int.emod_nonneg a.toInt (show b.toInt ≠ 0 by omega)
    have h3 := Int.emod_lt_of_pos a.toInt hb
    rw [Int.mul_comm] at h1
    constructor
    · omega
    · rw [Int.add_mul]; omega
  · have hn : (a / b).toInt = -((-a.toInt) / b.toInt) := by
      rw [hd, ← Int.tdiv_eq_ediv_of_nonneg (by omega), Int.neg_tdiv, Int.neg_neg]
    have h1 := Int.mul_ediv_add_emod (-a.toInt) b.toInt
    have h2 := Int.emod_nonneg (-a.toInt) (show b.toInt ≠ 0 by omega)
    have h3 := Int.emod_lt_of_pos (-a.toInt) hb
    have h4 : 0 ≤ (-a.toInt) / b.toInt := Int.ediv_nonneg (by omega) (by omega)
    have h5 : (-a.toInt) / b.toInt ≤ -a.toInt := Int.ediv_le_self _ (by omega)
    generalize hT : (-a.toInt) / b.toInt = T at *
    generalize (-a.toInt) % b.toInt = r at *
    rw [Int.mul_comm] at h1
    have hm : (a / b * b).toInt = -T * b.toInt := by
      rw [fb_mulI, hn] <;> rw [hn, Int.neg_mul] <;> omega
    rw [i_fdiv, if_neg (fun q => h0 ((i_xor hb).mp q))]
    by_cases he : a / b * b = a
    · rw [if_pos he, hn]
      rw [eq_i, hm] at he
      rw [Int.add_mul]
      constructor <;> omega
    · rw [if_neg he]
      have hs : (a / b - 1).toInt = -T - 1 := by
        rw [fb_subI, hn, L_1] <;> rw [hn, L_1] <;> omega
      rw [hs]
      rw [eq_i, hm, Int.neg_mul] at he
      rw [Int.sub_mul, Int.add_mul, Int.sub_mul, Int.neg_mul]
      constructor <;> omega
theorem i_abs_t {a : Int32} (h : -1000 ≤ a.toInt ∧ a.toInt ≤ 1000) : (i_abs a).toInt = if 0 ≤ a.toInt then a.toInt else -a.toInt := by
  unfold i_abs
  by_cases h0 : 0 ≤ a
  · rw [if_pos h0, if_pos (by rw [le_i, L_0] at h0; exact h0)]
  · rw [if_neg h0, if_neg (by rw [le_i, L_0] at h0; exact h0), fb_subI (by rw [L_0]; omega) (by rw [L_0]; omega), L_0]
    omega
theorem i_max_t (a b : Int32) : (i_max a b).toInt = if a.toInt < b.toInt then b.toInt else a.toInt := by
  unfold i_max
  by_cases h0 : a < b
  · rw [if_pos h0, if_pos (lt_i _ _ |>.mp h0)]
  · rw [if_neg h0, if_neg (fun q => h0 ((lt_i _ _).mpr q))]
/-- the distance of two places -/
theorem i_dist_t {ax ay bx by' : Int32} (ha : inP ax ay) (hb : inP bx by') : ∃ n : Nat, n < 24 ∧ i_dist ax ay bx by' = nI n ∧ -(n : Int) ≤ bx.toInt - ax.toInt ∧ bx.toInt - ax.toInt ≤ n ∧ -(n : Int) ≤ by'.toInt - ay.toInt ∧ by'.toInt - ay.toInt ≤ n ∧ (n = 0 → bx = ax ∧ by' = ay) ∧ (bx.toInt - ax.toInt = n ∨ ax.toInt - bx.toInt = n ∨ by'.toInt - ay.toInt = n ∨ ay.toInt - by'.toInt = n) := by
  obtain ⟨h1, h2, h3, h4⟩ := ha
  obtain ⟨g1, g2, g3, g4⟩ := hb
  have e1 : (bx - ax).toInt = bx.toInt - ax.toInt := fb_subI (by omega) (by omega)
  have e2 : (by' - ay).toInt = by'.toInt - ay.toInt := fb_subI (by omega) (by omega)
  have e3 := i_abs_t (a := bx - ax) (by rw [e1]; omega)
  have e4 := i_abs_t (a := by' - ay) (by rw [e2]; omega)
  have e5 := i_max_t (i_abs (bx - ax)) (i_abs (by' - ay))
  rw [e3, e4, e1, e2] at e5
  have e6 : 0 ≤ (i_dist ax ay bx by').toInt ∧ (i_dist ax ay bx by').toInt < 24 := by
    unfold i_dist
    rw [e5]
    repeat' split
    all_goals omega
  have e7 : (i_dist ax ay bx by').toNatClampNeg = (i_dist ax ay bx by').toInt.toNat := rfl
  have e8 : ((i_dist ax ay bx by').toNatClampNeg : Int) = (i_dist ax ay bx by').toInt := by omega
  refine ⟨(i_dist ax ay bx by').toNatClampNeg, by omega, nI_ofI e6.1, ?_, ?_, ?_, ?_, ?_, ?_⟩
  · rw [e8]; unfold i_dist; rw [e5]; repeat' split
    all_goals omega
  · rw [e8]; unfold i_dist; rw [e5]; repeat' split
    all_goals omega
  · rw [e8]; unfold i_dist; rw [e5]; repeat' split
    all_goals omega
  · rw [e8]; unfold i_dist; rw [e5]; repeat' split
    all_goals omega
  · intro h0
    have : (i_dist ax ay bx by').toInt = 0 := by omega
    unfold i_dist at this
    rw [e5] at this
    rw [eq_i, eq_i]
    repeat' split at this
    all_goals omega
  · rw [e8]; unfold i_dist; rw [e5]; repeat' split
    all_goals omega
theorem mid_in {dx : Int32} {n k : Nat} (hn : n < 24) (h1 : -(n : Int) ≤ dx.toInt) (h2 : dx.toInt ≤ n) (hk : 1 ≤ k) (hkn : k < n) :
    (0 ≤ dx.toInt → 0 ≤ (i_fdiv (2 * nI k * dx + nI n) (2 * nI n)).toInt ∧ (i_fdiv (2 * nI k * dx + nI n) (2 * nI n)).toInt ≤ dx.toInt) ∧ (dx.toInt < 0 → dx.toInt ≤ (i_fdiv (2 * nI k * dx + nI n) (2 * nI n)).toInt ∧ (i_fdiv (2 * nI k * dx + nI n) (2 * nI n)).toInt ≤ 0) := by
  have e1 : (2 : Int32) * nI k = nI (2 * k) := by rw [show (2 : Int32) = nI 2 from rfl, pk_mul]
  have e2 : (2 : Int32) * nI n = nI (2 * n) := by rw [show (2 : Int32) = nI 2 from rfl, pk_mul]
  have t1 : (nI (2 * k)).toInt = ((2 * k : Nat) : Int) := nI_toInt (by omega)
  have t2 : (nI (2 * n)).toInt = ((2 * n : Nat) : Int) := nI_toInt (by omega)
  have t3 : (nI n).toInt = (n : Int) := nI_toInt (by omega)
  have b1 : ((2 * k : Nat) : Int) * dx.toInt ≤ 46 * 23 := by
    rcases Int.le_total 0 dx.toInt with h | h
    · exact Int.mul_le_mul (by omega) (by omega) h (by omega)
    · have := Int.mul_nonpos_of_nonneg_of_nonpos (show (0 : Int) ≤ ((2 * k : Nat) : Int) by omega) h
      omega
  have b2 : -(46 * 23) ≤ ((2 * k : Nat) : Int) * dx.toInt := by
    rcases Int.le_total 0 dx.toInt with h | h
    · have := Int.mul_nonneg (show (0 : Int) ≤ ((2 * k : Nat) : Int) by omega) h
      omega
    · have h3 : ((2 * k : Nat) : Int) * (-dx.toInt) ≤ 46 * 23 := Int.mul_le_mul (by omega) (by omega) (by omega) (by omega)
      rw [Int.mul_neg] at h3
      omega
  have m1 : (nI (2 * k) * dx).toInt = ((2 * k : Nat) : Int) * dx.toInt := by
    rw [fb_mulI, t1] <;> rw [t1] <;> omega
  have m2 : (nI (2 * k) * dx + nI n).toInt = ((2 * k : Nat) : Int) * dx.toInt + n := by
    rw [fb_addI, m1, t3] <;> rw [m1, t3] <;> omega
  rw [e1, e2]
  have sp := i_fdiv_spec (a := nI (2 * k) * dx + nI n) (b := nI (2 * n)) (by rw [t2]; omega) (by rw [m2]; omega) (by rw [t2]; omega)
  rw [m2, t2] at sp
  generalize (i_fdiv (nI (2 * k) * dx + nI n) (nI (2 * n))).toInt = f at sp ⊢
  obtain ⟨s1, s2⟩ := sp
  constructor
  · intro h0
    have c1 : 0 ≤ ((2 * k : Nat) : Int) * dx.toInt := Int.mul_nonneg (by omega) h0
    have c2 : ((2 * k : Nat) : Int) * dx.toInt ≤ ((2 * n : Nat) : Int) * dx.toInt := Int.mul_le_mul_of_nonneg_right (by omega) h0
    constructor
    · refine Int.not_lt.mp fun q => ?_
      have : (f + 1) * ((2 * n : Nat) : Int) ≤ 0 := Int.mul_nonpos_of_nonpos_of_nonneg (by omega) (by omega)
      omega
    · refine Int.not_lt.mp fun q => ?_
      have : (dx.toInt + 1) * ((2 * n : Nat) : Int) ≤ f * ((2 * n : Nat) : Int) := Int.mul_le_mul_of_nonneg_right (by omega) (by omega)
      rw [Int.add_mul, Int.mul_comm dx.toInt] at this
      omega
  · intro h0
    have c1 : ((2 * k : Nat) : Int) * dx.toInt ≤ 0 := Int.mul_nonpos_of_nonneg_of_nonpos (by omega) (by omega)
    have c2 : ((2 * n : Nat) : Int) * dx.toInt ≤ ((2 * k : Nat) : Int) * dx.toInt := Int.mul_le_mul_of_nonpos_right (by omega) (by omega)
    constructor
    · refine Int.not_lt.mp fun q => ?_
      have : (f + 1) * ((2 * n : Nat) : Int) ≤ dx.toInt * ((2 * n : Nat) : Int) := Int.mul_le_mul_of_nonneg_right (by omega) (by omega)
      rw [Int.mul_comm dx.toInt] at this
      omega
    · refine Int.not_lt.mp fun q => ?_
      have : 1 * ((2 * n : Nat) : Int) ≤ f * ((2 * n : Nat) : Int) := Int.mul_le_mul_of_nonneg_right (by omega) (by omega)
      omega
