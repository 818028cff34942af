/-! THE LAW: its ground (a row of 1729 ints), steps -/
def zb (z : Int32) : Int32 := if z = 0 then 0 else 1
theorem zb_1 {z : Int32} : zb z = 1 ↔ ¬ z = 0 := by
  unfold zb
  by_cases e : z = 0
  · rw [if_pos e]; exact ⟨fun q => absurd q (by decide), fun q => absurd e q⟩
  · rw [if_neg e]; exact ⟨fun _ => e, fun _ => rfl⟩
def gF (H R Z : Nat → Int32) (s : Int32) : Nat → Int32 := fun j => if j < 576 then H j else if j < 1152 then R (j - 576) else if j < 1728 then zb (Z (j - 1152)) else s
def GV (h : qH) (i : Nat) (H R Z : Nat → Int32) (s : Int32) : Prop := ar h i 1729 (gF H R Z s)
theorem gF_H {H R Z : Nat → Int32} {s : Int32} {p : Nat} (hp : p < 576) : gF H R Z s p = H p := if_pos hp
theorem gF_R {H R Z : Nat → Int32} {s : Int32} {p : Nat} (hp : p < 576) : gF H R Z s (576 + p) = R p := by
  unfold gF
  rw [if_neg (by omega), if_pos (by omega), show 576 + p - 576 = p by omega]
theorem gF_Z {H R Z : Nat → Int32} {s : Int32} {p : Nat} (hp : p < 576) : gF H R Z s (1152 + p) = zb (Z p) := by
  unfold gF
  rw [if_neg (by omega), if_neg (by omega), if_pos (by omega), show 1152 + p - 1152 = p by omega]
theorem gF_s {H R Z : Nat → Int32} {s : Int32} : gF H R Z s 1728 = s := by
  unfold gF
  rw [if_neg (by omega), if_neg (by omega), if_neg (by omega)]
theorem ix_R {x y : Int32} (h : inP x y) : (576 : Int32) + 24 * y + x = nI (576 + ix x y) := by
  rw [Int32.add_assoc, ix_at' h, show (576 : Int32) = nI 576 from rfl, nI_add]
theorem ix_Z {x y : Int32} (h : inP x y) : (1152 : Int32) + 24 * y + x = nI (1152 + ix x y) := by
  rw [Int32.add_assoc, ix_at' h, show (1152 : Int32) = nI 1152 from rfl, nI_add]
/-- the minutes of a step, 0 if it isn't possible -/
noncomputable def stL (H R Z : Nat → Int32) (s x y : Int32) (k : Nat) : Int32 := @ite Int32 (sp_can H Z s x y k) (Classical.propDecidable _) (sp_min H R x y k) 0
theorem stL_t {H R Z : Nat → Int32} {s x y : Int32} {k : Nat} (c : sp_can H Z s x y k) : stL H R Z s x y k = sp_min H R x y k := if_pos c
theorem stL_f {H R Z : Nat → Int32} {s x y : Int32} {k : Nat} (c : ¬ sp_can H Z s x y k) : stL H R Z s x y k = 0 := if_neg c
theorem L_23 : (23 : Int32).toInt = 23 := by decide +kernel
theorem inP_4 {x y : Int32} : inP x y ↔ (¬ x < 0 ∧ ¬ 23 < x ∧ ¬ y < 0 ∧ ¬ 23 < y) := by
  unfold inP
  rw [lt_i, lt_i, lt_i, lt_i, L_0, L_23]
  omega
theorem abs_le {a s : Int32} (h : -1000 ≤ a.toInt ∧ a.toInt ≤ 1000) : i_abs a ≤ s ↔ (¬ s < a ∧ -a ≤ s) := by
  have e1 : (-a).toInt = -a.toInt := fb_negI (by omega)
  have e2 : (0 - a).toInt = -a.toInt := by rw [fb_subI (by rw [L_0]; omega) (by rw [L_0]; omega), L_0]; omega
  unfold i_abs
  by_cases c : 0 ≤ a
  · rw [if_pos c, le_i, lt_i, le_i, e1]
    rw [le_i, L_0] at c
    omega
  · rw [if_neg c, le_i, lt_i, le_i, e1, e2]
    rw [le_i, L_0] at c
    omega
theorem clb_of {a : Int32} : i_max 0 a / 3 = if a ≤ 0 then 0 else a / 3 := by
  unfold i_max
  by_cases c : 0 < a
  · rw [if_pos c, if_neg (fun q => by rw [le_i] at q; rw [lt_i] at c; omega)]
  · rw [if_neg c, if_pos (by rw [lt_i] at c; rw [le_i]; omega)]
    decide
section LA1
variable {l : Launch} {d mc ms : Nat} {Q : Option Value → qH → Prop} {QX : String → qH → Prop} {h : qH} {i n0 : Nat} {H R Z : Nat → Int32} {s x y : Int32}
theorem s_below {n : Nat} {z : Int32} (hn : 0 < n) (hn2 : n < 2 ^ 31) (hq : ∀ k : Nat, k < n → Q (some (.int (nI k))) h) : q_Ct l d mL_below [.int z, .int (nI n)] h mc ms Q QX := by
  refine v_L_below (d := d) z (nI n) ⟨nI_ne0 hn hn2, ?_⟩
  have e : z &&& 2147483647 = nI (z.toBitVec.toNat % 2 ^ 31) := by
    apply Int32.toBitVec_inj.mp
    apply BitVec.eq_of_toNat_eq
    rw [Int32.toBitVec_and, BitVec.toNat_and]
    show z.toBitVec.toNat &&& 2147483647 = (z.toBitVec.toNat % 2 ^ 31) % 2 ^ 32
    rw [show (2147483647 : Nat) = 2 ^ 31 - 1 from rfl, Nat.and_two_pow_sub_one_eq_mod]
    omega
  rw [e, pk_rem (Nat.mod_lt _ (by decide)) hn hn2]
  exact hq _ (Nat.mod_lt _ hn)
theorem s_step0 {k : Nat} (g : GV h i H R Z s) (ok : hOk H) (hp : inP x y) (hk : k < 8) (hq : Q (some (.int (stL H R Z s x y k))) h) : q_Ct l d mL_step [.ref i, .int x, .int y, .int (nI k)] h mc ms Q QX := by
  have no : ¬ sp_can H Z s x y k → Q (some (.int 0)) h := fun r => by rw [stL_f r] at hq; exact hq
  refine v_L_step i x y _ (e_sl rfl hk (e_sl rfl hk ?_))
  rw [show q_sF 2 k = q_dx k from rfl, show q_sF 3 k = q_dy k from rfl]
  have hin : ∀ r : inP (x + q_dx k) (y + q_dy k), (sp_can H Z s x y k ↔ Z (ix (x + q_dx k) (y + q_dy k)) = 0 ∧ i_abs (H (ix (x + q_dx k) (y + q_dy k)) - H (ix x y)) ≤ s ∧ (k % 2 = 0 ∨ (Z (ix (x + q_dx k) y) = 0 ∧ Z (ix x (y + q_dy k)) = 0))) := fun r => ⟨fun q => q.2, fun q => ⟨r, q⟩⟩
  refine ⟨fun q => no (fun r => (inP_4.mp r.1).1 q), fun q1 => ⟨fun q => no (fun r => (inP_4.mp r.1).2.1 q), fun q2 => ⟨fun q => no (fun r => (inP_4.mp r.1).2.2.1 q), fun q3 => ⟨fun q => no (fun r => (inP_4.mp r.1).2.2.2 q), fun q4 => ?_⟩⟩⟩⟩
  have hn : inP (x + q_dx k) (y + q_dy k) := inP_4.mpr ⟨q1, q2, q3, q4⟩
  have side := inP_side hp hn
  have can := hin hn
  have ln := ix_lt hn
  refine e_al g (ix_Z hn) (by omega) (by decide) ?_
  rw [gF_Z ln]
  refine ⟨fun q => no (fun r => zb_1.mp q r.2.1), fun q5 => ?_⟩
  have z5 : Z (ix (x + q_dx k) (y + q_dy k)) = 0 := Classical.byContradiction fun r => q5 (zb_1.mpr r)
  -- behind the sides
  have go : (k % 2 = 0 ∨ (Z (ix (x + q_dx k) y) = 0 ∧ Z (ix x (y + q_dy k)) = 0)) → q_J l (d + 0) mL_step mc ms Q QX h.2 114 [some (.ref i), some (.int x), some (.int y), some (.int (nI k)), some (.int (x + q_dx k)), some (.int (y + q_dy k)), none] [] h mc ms := by
    intro sd
    refine v_L_step_114 i x y _ _ _ (e_al g (ix_at' hn) (by omega) (by decide) (e_al g (ix_at' hp) (by have := ix_lt hp; omega) (by decide) (e_al g (k := 1728) rfl (by omega) (by decide) ?_)))
    rw [gF_H ln, gF_H (ix_lt hp), gF_s]
    have b1 := ok _ ln
    have b2 := ok _ (ix_lt hp)
    have eb : (H (ix (x + q_dx k) (y + q_dy k)) - H (ix x y)).toInt = (H (ix (x + q_dx k) (y + q_dy k))).toInt - (H (ix x y)).toInt := fb_subI (by omega) (by omega)
    have ab := abs_le (a := H (ix (x + q_dx k) (y + q_dy k)) - H (ix x y)) (s := s) (by rw [eb]; omega)
    refine ⟨fun q => no (fun r => (ab.mp r.2.2.1).1 q), fun q6 => e_al g (k := 1728) rfl (by omega) (by decide) ?_⟩
    rw [gF_s]
    refine ⟨fun q7 => ?_, fun q => no (fun r => q (ab.mp r.2.2.1).2)⟩
    have hc : sp_can H Z s x y k := can.mpr ⟨z5, ab.mpr ⟨q6, q7⟩, sd⟩
    rw [stL_t hc] at hq
    have tail : ∀ y0 : Int32, y0 = (if k % 2 = 0 then 2 else 3) → q_J l (d + 0) mL_step mc ms Q QX h.2 179 [some (.ref i), some (.int x), some (.int y), some (.int (nI k)), some (.int (x + q_dx k)), some (.int (y + q_dy k)), some (.int (H (ix (x + q_dx k) (y + q_dy k)) - H (ix x y)))] [.int y0] h mc ms := by
      rintro y0 rfl
      refine v_L_step_179 i x y _ _ _ _ _ (e_al g (ix_R hn) (by omega) (by decide) ?_)
      rw [gF_R ln]
      have em : sp_min H R x y k = (if k % 2 = 0 then 2 else 3) * (2 + R (ix (x + q_dx k) (y + q_dy k))) + (if H (ix (x + q_dx k) (y + q_dy k)) - H (ix x y) ≤ 0 then 0 else (H (ix (x + q_dx k) (y + q_dy k)) - H (ix x y)) / 3) := by
        unfold sp_min sp_clb
        rw [clb_of]
      rw [em] at hq
      refine ⟨fun q => ?_, fun q => ?_⟩
      · rw [if_pos q] at hq; exact hq
      · rw [if_neg q] at hq; exact hq
    have odd := dir_odd hk
    refine e_sl rfl hk ⟨fun q => ?_, fun q => e_sl rfl hk ⟨fun q' => ?_, fun q' => ?_⟩⟩
    · exact v_L_step_178 i x y _ _ _ _ (tail 2 (by rw [if_pos (odd.mpr (Or.inl q))]))
    · exact v_L_step_178 i x y _ _ _ _ (tail 2 (by rw [if_pos (odd.mpr (Or.inr q'))]))
    · exact tail 3 (by rw [if_neg (fun r => (odd.mp r).elim q q')])
  have odd := dir_odd hk
  refine e_sl rfl hk ⟨fun q => go (Or.inl (odd.mpr (Or.inl q))), fun q => e_sl rfl hk ⟨fun q' => go (Or.inl (odd.mpr (Or.inr q'))), fun q' => ?_⟩⟩
  have k2 : ¬ k % 2 = 0 := fun r => (odd.mp r).elim q q'
  refine e_al g (ix_Z side.1) (by have := ix_lt side.1; omega) (by decide) ?_
  rw [gF_Z (ix_lt side.1)]
  refine ⟨fun q8 => no (fun r => r.2.2.2.elim k2 (fun r => zb_1.mp q8 r.1)), fun q8 => e_al g (ix_Z side.2) (by have := ix_lt side.2; omega) (by decide) ?_⟩
  rw [gF_Z (ix_lt side.2)]
  refine ⟨fun q9 => no (fun r => r.2.2.2.elim k2 (fun r => zb_1.mp q9 r.2)), fun q9 => go (Or.inr ⟨Classical.byContradiction fun r => q8 (zb_1.mpr r), Classical.byContradiction fun r => q9 (zb_1.mpr r)⟩)⟩
theorem s_energy0 {p k : Nat} (g : GV h i H R Z s) (ok : hOk H) (hp : p < 576) (hk : k < 8) (hc : sp_can H Z s (px p) (py p) k) (hq : Q (some (.int (sp_eng H R p k))) h) : q_Ct l (d + 1) mL_energy [.ref i, .int (px p), .int (py p), .int (nI k)] h mc ms Q QX := by
  have hn := hc.1
  have ln := ix_lt hn
  refine v_L_energy i _ _ _ (s_step0 g ok (inP_p hp) hk ⟨_, rfl, e_sl rfl hk (e_sl rfl hk ?_)⟩)
  show qAL h i (24 * (py p + q_dy k) + px p + q_dx k) _
  refine e_al g (k := nb p k) ?_ (by unfold nb; omega) (by decide) (e_al g (k := p) ?_ (by omega) (by decide) ?_)
  · rw [Int32.add_assoc, ix_at' hn]; rfl
  · rw [ix_at' (inP_p hp), ix_p hp]
  · rw [stL_t hc, gF_H (show nb p k < 576 from ln), gF_H hp]
    exact hq
end LA1
