/-! rectangles: raise, pave, the limit of slopes, in the class's Ground -/
def isR (x0 x1 y0 y1 : Int32) : Prop := 0 ≤ x0.toInt ∧ x0.toInt ≤ x1.toInt ∧ x1.toInt < 24 ∧ 0 ≤ y0.toInt ∧ y0.toInt ≤ y1.toInt ∧ y1.toInt < 24
theorem isR_of {x0 x1 y0 y1 : Int32} (h : isR x0 x1 y0 y1) : ∃ a0 a1 b0 b1 : Nat, a0 ≤ a1 ∧ a1 < 24 ∧ b0 ≤ b1 ∧ b1 < 24 ∧ x0 = nI a0 ∧ x1 = nI a1 ∧ y0 = nI b0 ∧ y1 = nI b1 := by
  obtain ⟨h1, h2, h3, h4, h5, h6⟩ := h
  have e1 : x0.toNatClampNeg = x0.toInt.toNat := rfl
  have e2 : x1.toNatClampNeg = x1.toInt.toNat := rfl
  have e3 : y0.toNatClampNeg = y0.toInt.toNat := rfl
  have e4 : y1.toNatClampNeg = y1.toInt.toNat := rfl
  exact ⟨_, _, _, _, by omega, by omega, by omega, by omega, nI_ofI h1, nI_ofI (by omega), nI_ofI h4, nI_ofI (by omega)⟩
def inR (a0 a1 b0 b1 p : Nat) : Prop := a0 ≤ p % 24 ∧ p % 24 ≤ a1 ∧ b0 ≤ p / 24 ∧ p / 24 ≤ b1
def hOk (H : Nat → Int32) : Prop := ∀ p, p < 576 → -99 ≤ (H p).toInt ∧ (H p).toInt ≤ 99
/-- all heights of the rectangle may be raised by so much -/
def sp_ok (H : Nat → Int32) (a0 a1 b0 b1 : Nat) (by' : Int32) : Prop := ∀ p, p < 576 → inR a0 a1 b0 b1 p → -99 ≤ (H p).toInt + by'.toInt ∧ (H p).toInt + by'.toInt ≤ 99
noncomputable def sp_up (H : Nat → Int32) (a0 a1 b0 b1 : Nat) (by' : Int32) : Nat → Int32 := fun p => @ite _ (inR a0 a1 b0 b1 p) (Classical.propDecidable _) (H p + by') (H p)
noncomputable def sp_set (H : Nat → Int32) (a0 a1 b0 b1 : Nat) (v : Int32) : Nat → Int32 := fun p => @ite _ (inR a0 a1 b0 b1 p) (Classical.propDecidable _) v (H p)
def isMx (H : Nat → Int32) (a0 a1 b0 b1 : Nat) (m : Int32) : Prop := (∀ p, p < 576 → inR a0 a1 b0 b1 p → H p ≤ m) ∧ ∃ p, p < 576 ∧ inR a0 a1 b0 b1 p ∧ H p = m
theorem isMx_one {H : Nat → Int32} {a0 a1 b0 b1 : Nat} {m n : Int32} (h1 : isMx H a0 a1 b0 b1 m) (h2 : isMx H a0 a1 b0 b1 n) : m = n := by
  obtain ⟨p, p1, p2, p3⟩ := h1.2
  obtain ⟨q, q1, q2, q3⟩ := h2.2
  have e1 := h1.1 q q1 q2
  have e2 := h2.1 p p1 p2
  rw [q3] at e1
  rw [p3] at e2
  exact Int32.le_antisymm e2 e1
/-- the cells of a rectangle ahead of row b, column a -/
def dn (a0 a1 b0 b1 a b p : Nat) : Prop := inR a0 a1 b0 b1 p ∧ (p / 24 < b ∨ (p / 24 = b ∧ p % 24 < a))
theorem dn_step {a0 a1 b0 b1 a b p : Nat} (ha0 : a0 ≤ a) (ha : a ≤ a1) (hb0 : b0 ≤ b) (hb : b ≤ b1) (ha1 : a1 < 24) : dn a0 a1 b0 b1 (a + 1) b p ↔ dn a0 a1 b0 b1 a b p ∨ p = 24 * b + a := by
  unfold dn inR
  omega
theorem dn_row {a0 a1 b0 b1 a b p : Nat} (ha : a1 < a) : dn a0 a1 b0 b1 a b p ↔ dn a0 a1 b0 b1 a0 (b + 1) p := by
  unfold dn inR
  omega
theorem dn_0 {a0 a1 b0 b1 p : Nat} : ¬ dn a0 a1 b0 b1 a0 b0 p := by
  unfold dn inR
  omega
theorem dn_all {a0 a1 b0 b1 a b p : Nat} (hb : b1 < b) : dn a0 a1 b0 b1 a b p ↔ inR a0 a1 b0 b1 p := by
  unfold dn inR
  omega
section GR4
variable {l : Launch} {d mc ms : Nat} {Q : Option Value → qH → Prop} {QX : String → qH → Prop} {h : qH} {H R Z M : Nat → Int32} {s x y : Int32}
theorem s_isRectangle {x0 x1 y0 y1 : Int32} (hq : ∀ r : Int32, (r = 1 ∧ isR x0 x1 y0 y1) ∨ (r = 0 ∧ ¬ isR x0 x1 y0 y1) → Q (some (.int r)) h) : q_Ct l d mX1_isRectangle [.int x0, .int x1, .int y0, .int y1] h mc ms Q QX := by
  refine v_X1_isRectangle (d := d) x0 x1 y0 y1 ?_
  refine ⟨fun q1 => hq 0 (Or.inr ⟨rfl, fun q => ?_⟩), fun q1 => ⟨fun q2 => hq 0 (Or.inr ⟨rfl, fun q => ?_⟩), fun q2 => ⟨fun q3 => hq 0 (Or.inr ⟨rfl, fun q => ?_⟩), fun q3 => ⟨fun q4 => hq 0 (Or.inr ⟨rfl, fun q => ?_⟩), fun q4 => ⟨fun q5 => hq 0 (Or.inr ⟨rfl, fun q => ?_⟩), fun q5 => ⟨fun q6 => hq 0 (Or.inr ⟨rfl, fun q => ?_⟩), fun q6 => hq 1 (Or.inl ⟨rfl, ?_⟩)⟩⟩⟩⟩⟩⟩
  · obtain ⟨g1, g2, g3, g4, g5, g6⟩ := q; simp only [lt_i, L_0] at q1; omega
  · obtain ⟨g1, g2, g3, g4, g5, g6⟩ := q; simp only [lt_i] at q2; omega
  · obtain ⟨g1, g2, g3, g4, g5, g6⟩ := q; simp only [le_i, L_24] at q3; omega
  · obtain ⟨g1, g2, g3, g4, g5, g6⟩ := q; simp only [lt_i, L_0] at q4; omega
  · obtain ⟨g1, g2, g3, g4, g5, g6⟩ := q; simp only [lt_i] at q5; omega
  · obtain ⟨g1, g2, g3, g4, g5, g6⟩ := q; simp only [le_i, L_24] at q6; omega
  · simp only [lt_i, le_i, L_0, L_24] at q1 q2 q3 q4 q5 q6
    exact ⟨by omega, by omega, by omega, by omega, by omega, by omega⟩
theorem s_canLift {a0 a1 b0 b1 : Nat} {w : Int32} (hg : gnd h H R Z M s) (hH : hOk H) (ha : a0 ≤ a1) (ha1 : a1 < 24) (hb : b0 ≤ b1) (hb1 : b1 < 24) (hq : ∀ r : Int32, (r = 1 ∧ sp_ok H a0 a1 b0 b1 w) ∨ (r = 0 ∧ ¬ sp_ok H a0 a1 b0 b1 w) → Q (some (.int r)) h) :
    q_Ct l (d + 2) mX1_canLift [.ref 1, .int (nI a0), .int (nI a1), .int (nI b0), .int (nI b1), .int w] h mc ms Q QX := by
  have c0 : inR a0 a1 b0 b1 (24 * b0 + a0) := by unfold inR; omega
  refine v_X1_canLift 1 _ _ _ _ w ⟨fun q => hq 0 (Or.inr ⟨rfl, fun o => ?_⟩), fun q => ⟨fun q2 => ?_, fun q2 => hq 0 (Or.inr ⟨rfl, fun o => ?_⟩)⟩⟩
  · have := o _ (by omega) c0
    have := hH (24 * b0 + a0) (by omega)
    simp only [lt_i, M_198] at q
    omega
  rotate_left
  · have := o _ (by omega) c0
    have := hH (24 * b0 + a0) (by omega)
    simp only [le_i, L_198] at q2
    omega
  simp only [lt_i, M_198] at q
  simp only [le_i, L_198] at q2
  have inner : ∀ b, b0 ≤ b → b ≤ b1 → (∀ h', (h' = h ∧ ∀ p, p < 576 → dn a0 a1 b0 b1 a0 (b + 1) p → -99 ≤ (H p).toInt + w.toInt ∧ (H p).toInt + w.toInt ≤ 99) → q_J l (d + 2) mX1_canLift mc ms Q QX h.2 21 [some (.ref 1), some (.int (nI a0)), some (.int (nI a1)), some (.int (nI b0)), some (.int (nI b1)), some (.int w), some (.int (nI (b + 1))), none, none] [] h' mc ms) →
      ∀ (a : Nat) (h' : qH), a ≤ a1 + 1 → ((h' = h ∧ a0 ≤ a) ∧ ∀ p, p < 576 → dn a0 a1 b0 b1 a b p → -99 ≤ (H p).toInt + w.toInt ∧ (H p).toInt + w.toInt ≤ 99) → q_J l (d + 2) mX1_canLift mc ms Q QX h.2 31 [some (.ref 1), some (.int (nI a0)), some (.int (nI a1)), some (.int (nI b0)), some (.int (nI b1)), some (.int w), some (.int (nI b)), some (.int (nI a)), none] [] h' mc ms := by
    intro b hb2 hb3 hout
    refine q_loop (fun (a : Nat) (h' : qH) => q_J l (d + 2) mX1_canLift mc ms Q QX h.2 31 [some (.ref 1), some (.int (nI a0)), some (.int (nI a1)), some (.int (nI b0)), some (.int (nI b1)), some (.int w), some (.int (nI b)), some (.int (nI a)), none] [] h' mc ms) (fun a h' => (h' = h ∧ a0 ≤ a) ∧ ∀ p, p < 576 → dn a0 a1 b0 b1 a b p → -99 ≤ (H p).toInt + w.toInt ∧ (H p).toInt + w.toInt ≤ 99) (a1 + 1) ?_ ?_
    · rintro h' ⟨⟨rfl, -⟩, hI⟩
      refine v_X1_canLift_31 1 _ _ _ _ w (nI b) (nI (a1 + 1)) ⟨fun _ => ?_, fun q => absurd (nI_lt (by omega) (by omega)) q⟩
      rw [nI_1]
      exact hout _ ⟨rfl, fun p hp hd => hI p hp ((dn_row (by omega)).mpr hd)⟩
    · rintro a h' ha2 ⟨⟨rfl, ha3⟩, hI⟩ ih
      have hin : inP (nI a) (nI b) := inP_nI (by omega) (by omega)
      have hx : ix (nI a) (nI b) = 24 * b + a := ix_nI (by omega) (by omega)
      refine v_X1_canLift_31 1 _ _ _ _ w (nI b) (nI a) ⟨fun q => absurd q (nI_nlt (by omega) (by omega)), fun _ => e_ob hg.1 (s_heightAt hg hin ⟨_, rfl, ?_⟩)⟩
      rw [hx]
      have hh := hH (24 * b + a) (by omega)
      have es : (H (24 * b + a) + w).toInt = (H (24 * b + a)).toInt + w.toInt := fb_addI (by omega) (by omega)
      have hcell : inR a0 a1 b0 b1 (24 * b + a) := by unfold inR; omega
      refine ⟨fun q3 => hq 0 (Or.inr ⟨rfl, fun o => ?_⟩), fun q3 => ⟨fun q4 => ?_, fun q4 => hq 0 (Or.inr ⟨rfl, fun o => ?_⟩)⟩⟩
      · have := o _ (by omega) hcell
        simp only [lt_i, M_99, es] at q3
        omega
      · simp only [lt_i, M_99, es] at q3
        simp only [le_i, L_99, es] at q4
        rw [nI_1]
        refine ih _ ⟨⟨rfl, by omega⟩, fun p hp hd => ?_⟩
        rcases (dn_step ha3 (by omega) hb2 hb3 ha1).mp hd with hd | rfl
        · exact hI p hp hd
        · omega
      · have := o _ (by omega) hcell
        simp only [le_i, L_99, es] at q4
        omega
  refine q_loop (fun (b : Nat) (h' : qH) => q_J l (d + 2) mX1_canLift mc ms Q QX h.2 21 [some (.ref 1), some (.int (nI a0)), some (.int (nI a1)), some (.int (nI b0)), some (.int (nI b1)), some (.int w), some (.int (nI b)), none, none] [] h' mc ms) (fun b h' => (h' = h ∧ b0 ≤ b) ∧ ∀ p, p < 576 → dn a0 a1 b0 b1 a0 b p → -99 ≤ (H p).toInt + w.toInt ∧ (H p).toInt + w.toInt ≤ 99) (b1 + 1) ?_ ?_ b0 h (by omega) ⟨⟨rfl, Nat.le_refl _⟩, fun p hp hd => absurd hd dn_0⟩
  · rintro h' ⟨⟨rfl, -⟩, hI⟩
    refine v_X1_canLift_21 1 _ _ _ _ w (nI (b1 + 1)) ⟨fun _ => hq 1 (Or.inl ⟨rfl, fun p hp hc => hI p hp ((dn_all (by omega)).mpr hc)⟩), fun q => absurd (nI_lt (by omega) (by omega)) q⟩
  · rintro b h' hb2 ⟨⟨rfl, hb3⟩, hI⟩ ih
    refine v_X1_canLift_21 1 _ _ _ _ w (nI b) ⟨fun q => absurd q (nI_nlt (by omega) (by omega)), fun _ => ?_⟩
    exact inner b hb3 (by omega) (fun h' hI => ih h' ⟨⟨hI.1, by omega⟩, hI.2⟩) a0 _ (by omega) ⟨⟨rfl, Nat.le_refl _⟩, hI⟩
end GR4
