/-! the class's Ground: 1, its rows 2 heights, 3 roughs, 4 hazards, 5 minutes of steps -/
def gnd (h : qH) (H R Z M : Nat → Int32) (s : Int32) : Prop := ob h 1 1 [.ref 2, .ref 3, .ref 4, .ref 5, .int s] ∧ ar h 2 576 H ∧ ar h 3 576 R ∧ br h 4 576 Z ∧ ar h 5 4608 M
theorem gnd.fr {h h' : qH} {H R Z M : Nat → Int32} {s : Int32} {S : Nat → Prop} (g : gnd h H R Z M s) (f : q_fr S h h') (hs : ∀ i, 1 ≤ i → i ≤ 5 → ¬ S i) : gnd h' H R Z M s :=
  ⟨g.1.fr f (hs 1 (by omega) (by omega)), g.2.1.fr f (hs 2 (by omega) (by omega)), g.2.2.1.fr f (hs 3 (by omega) (by omega)), g.2.2.2.1.fr f (hs 4 (by omega) (by omega)), g.2.2.2.2.fr f (hs 5 (by omega) (by omega))⟩
def i_abs (a : Int32) : Int32 := if 0 ≤ a then a else 0 - a
def i_max (a b : Int32) : Int32 := if a < b then b else a
/-- a step from (x, y) in the direction k: whether it is possible, its climb, its minutes -/
def sp_can (H Z : Nat → Int32) (s x y : Int32) (k : Nat) : Prop := inP (x + q_dx k) (y + q_dy k) ∧ Z (ix (x + q_dx k) (y + q_dy k)) = 0 ∧ i_abs (H (ix (x + q_dx k) (y + q_dy k)) - H (ix x y)) ≤ s ∧ (k % 2 = 0 ∨ (Z (ix (x + q_dx k) y) = 0 ∧ Z (ix x (y + q_dy k)) = 0))
def sp_clb (H : Nat → Int32) (x y : Int32) (k : Nat) : Int32 := i_max 0 (H (ix (x + q_dx k) (y + q_dy k)) - H (ix x y))
def sp_min (H R : Nat → Int32) (x y : Int32) (k : Nat) : Int32 := (if k % 2 = 0 then 2 else 3) * (2 + R (ix (x + q_dx k) (y + q_dy k))) + sp_clb H x y k / 3
section GR
variable {l : Launch} {d mc ms : Nat} {Q : Option Value → qH → Prop} {QX : String → qH → Prop} {h : qH} {H R Z M : Nat → Int32} {s x y : Int32}
theorem s_isPlace_t (hp : inP x y) (hq : Q (some (.int 1)) h) : q_Ct l d mX1_isPlace [.int x, .int y] h mc ms Q QX := by
  refine v_X1_isPlace (d := d) x y ?_
  obtain ⟨a, b, c, e⟩ := hp
  refine ⟨fun q => ?_, fun _ => ⟨fun q => ?_, fun _ => ⟨fun q => ?_, fun _ => ⟨fun q => ?_, fun _ => hq⟩⟩⟩⟩ <;> (exfalso; simp only [lt_i, le_i, L_0, L_24] at q; omega)
theorem s_isPlace_f (hp : ¬ inP x y) (hq : Q (some (.int 0)) h) : q_Ct l d mX1_isPlace [.int x, .int y] h mc ms Q QX := by
  refine v_X1_isPlace (d := d) x y ?_
  refine ⟨fun _ => hq, fun q1 => ⟨fun _ => hq, fun q2 => ⟨fun _ => hq, fun q3 => ⟨fun _ => hq, fun q4 => absurd ?_ hp⟩⟩⟩⟩
  simp only [lt_i, le_i, L_0, L_24] at q1 q2 q3 q4
  exact ⟨by omega, by omega, by omega, by omega⟩
theorem z10 : ¬ (1 : Int32) = 0 := by decide
theorem s_heightAt (hg : gnd h H R Z M s) (hp : inP x y) (hq : Q (some (.int (H (ix x y)))) h) : q_Ct l (d + 1) mX1_heightAt [.ref 1, .int x, .int y] h mc ms Q QX := by
  refine v_X1_heightAt 1 x y (s_isPlace_t hp ⟨_, rfl, fun q => absurd q z10, fun _ => ?_⟩)
  exact e_gr hg.1 rfl (e_al hg.2.1 (ix_at hp) (ix_lt hp) (by decide) hq)
theorem s_roughAt (hg : gnd h H R Z M s) (hp : inP x y) (hq : Q (some (.int (R (ix x y)))) h) : q_Ct l (d + 1) mX1_roughAt [.ref 1, .int x, .int y] h mc ms Q QX := by
  refine v_X1_roughAt 1 x y (s_isPlace_t hp ⟨_, rfl, fun q => absurd q z10, fun _ => ?_⟩)
  exact e_gr hg.1 rfl (e_al hg.2.2.1 (ix_at hp) (ix_lt hp) (by decide) hq)
theorem s_isHazardAt (hg : gnd h H R Z M s) (hp : inP x y) (hq : Q (some (.int (if Z (ix x y) = 0 then 0 else 1))) h) : q_Ct l (d + 1) mX1_isHazardAt [.ref 1, .int x, .int y] h mc ms Q QX := by
  refine v_X1_isHazardAt 1 x y (s_isPlace_t hp ⟨_, rfl, fun q => absurd q z10, fun _ => ?_⟩)
  refine e_gr hg.1 rfl (e_zl hg.2.2.2.1 (ix_at hp) (ix_lt hp) (by decide) ⟨fun q => ?_, fun q => ?_⟩)
  · rw [if_pos q] at hq; exact hq
  · rw [if_neg q] at hq; exact hq
theorem i_cancel {a b : Int32} : a + b = a ↔ b = 0 := by
  constructor
  · intro e
    have : b = (a + b) - a := by grind
    rw [this, e]; grind
  · rintro rfl
    grind
/-- with (x, y) a place: one beside it too, where its own place is one -/
theorem inP_side {k : Nat} (hp : inP x y) (hn : inP (x + q_dx k) (y + q_dy k)) : inP (x + q_dx k) y ∧ inP x (y + q_dy k) :=
  ⟨⟨hn.1, hn.2.1, hp.2.2.1, hp.2.2.2⟩, ⟨hp.1, hp.2.1, hn.2.2.1, hn.2.2.2⟩⟩
theorem dir_odd {k : Nat} (hk : k < 8) : k % 2 = 0 ↔ (q_dx k = 0 ∨ q_dy k = 0) := by
  match k, hk with
  | 0, _ => decide
  | 1, _ => decide
  | 2, _ => decide
  | 3, _ => decide
  | 4, _ => decide
  | 5, _ => decide
  | 6, _ => decide
  | 7, _ => decide

noncomputable def sp_stp (H R Z : Nat → Int32) (s x y : Int32) (k : Nat) : Int32 := @ite Int32 (sp_can H Z s x y k) (Classical.propDecidable _) (sp_min H R x y k) (-1)
theorem i_b0 {c : Prop} [Decidable c] : (if c then (0 : Int32) else 1) = 0 ↔ c := by
  by_cases h : c <;> simp [h]
theorem s_measureStep (hg : gnd h H R Z M s) (hp : inP x y) {k : Nat} (hk : k < 8) (hq : Q (some (.int (sp_stp H R Z s x y k))) h) : q_Ct l (d + 2) mX1_measureStep [.ref 1, .int x, .int y, .int (nI k)] h mc ms Q QX := by
  refine v_X1_measureStep 1 x y (nI k) (e_sl rfl hk (e_sl rfl hk ?_))
  show qCI l (d + 1) mX1_isPlace [.int (x + q_dx k), .int (y + q_dy k)] h 0 0 _
  have no : ¬ sp_can H Z s x y k → Q (some (.int (-1))) h := fun q => by rw [sp_stp, if_neg q] at hq; exact hq
  by_cases hn : inP (x + q_dx k) (y + q_dy k)
  rotate_left
  · exact s_isPlace_f hn ⟨_, rfl, fun _ => no (fun q => hn q.1), fun q => absurd rfl q⟩
  refine s_isPlace_t hn ⟨_, rfl, fun q => absurd q z10, fun _ => ?_⟩
  refine e_ob hg.1 (s_isHazardAt hg hn ⟨_, rfl, fun c1 => ?_, fun c1 => no (fun q => c1 (i_b0.mpr q.2.1))⟩)
  have c1 := i_b0.mp c1
  refine e_ob hg.1 (s_heightAt hg hn ⟨_, rfl, e_ob hg.1 (s_heightAt hg hp ⟨_, rfl, e_gi hg.1 rfl ⟨fun c2 => ?_, fun c2 => no (fun q => c2 q.2.2.1)⟩⟩)⟩)
  have side := inP_side hp hn
  have fin : ∀ b : Int32, (b = 0 ↔ k % 2 = 0) → sp_can H Z s x y k → q_J l (d + 2) mX1_measureStep mc ms Q QX h.2 118 [some (.ref 1), some (.int x), some (.int y), some (.int (nI k)), some (.int (x + q_dx k)), some (.int (y + q_dy k)), some (.int (H (ix (x + q_dx k) (y + q_dy k)) - H (ix x y))), some (.int b)] [] h mc ms := by
    intro b hb hc
    rw [sp_stp, if_pos hc, sp_min] at hq
    refine v_X1_measureStep_118 1 x y (nI k) _ _ _ b ⟨fun e => ?_, fun e => ?_⟩
    · rw [if_pos (hb.mp e)] at hq
      exact v_X1_measureStep_128 1 x y (nI k) _ _ _ b _ (e_ob hg.1 (s_roughAt hg hn ⟨_, rfl, hq⟩))
    · rw [if_neg (fun q => e (hb.mpr q))] at hq
      exact v_X1_measureStep_128 1 x y (nI k) _ _ _ b _ (e_ob hg.1 (s_roughAt hg hn ⟨_, rfl, hq⟩))
  refine ⟨fun e => ?_, fun e => ⟨fun e2 => ?_, fun e2 => ?_⟩⟩
  · have hk2 : k % 2 = 0 := (dir_odd hk).mpr (Or.inl (i_cancel.mp e))
    exact v_X1_measureStep_88 1 x y (nI k) _ _ _ (v_X1_measureStep_89 1 x y (nI k) _ _ _ 0 ⟨fun _ => fin 0 ⟨fun _ => hk2, fun _ => rfl⟩ ⟨hn, c1, c2, Or.inl hk2⟩, fun q => absurd rfl q⟩)
  · have hk2 : k % 2 = 0 := (dir_odd hk).mpr (Or.inr (i_cancel.mp e2))
    exact v_X1_measureStep_88 1 x y (nI k) _ _ _ (v_X1_measureStep_89 1 x y (nI k) _ _ _ 0 ⟨fun _ => fin 0 ⟨fun _ => hk2, fun _ => rfl⟩ ⟨hn, c1, c2, Or.inl hk2⟩, fun q => absurd rfl q⟩)
  · have hk2 : ¬ k % 2 = 0 := fun q => ((dir_odd hk).mp q).elim (fun q => e (i_cancel.mpr q)) (fun q => e2 (i_cancel.mpr q))
    refine v_X1_measureStep_89 1 x y (nI k) _ _ _ 1 ⟨fun q => absurd q z10, fun _ => ?_⟩
    refine e_ob hg.1 (s_isHazardAt hg side.1 ⟨_, rfl, fun c3 => ?_, fun c3 => no (fun q => q.2.2.2.elim hk2 (fun q => c3 (i_b0.mpr q.1)))⟩)
    refine e_ob hg.1 (s_isHazardAt hg side.2 ⟨_, rfl, fun c4 => ?_, fun c4 => no (fun q => q.2.2.2.elim hk2 (fun q => c4 (i_b0.mpr q.2)))⟩)
    exact fin 1 ⟨fun q => absurd q z10, fun q => absurd q hk2⟩ ⟨hn, c1, c2, Or.inr ⟨i_b0.mp c3, i_b0.mp c4⟩⟩
/-- the table of steps -/
noncomputable def sp_M (H R Z : Nat → Int32) (s : Int32) : Nat → Int32 := fun j => sp_stp H R Z s (nI (j / 8 % 24)) (nI (j / 8 / 24)) (j % 8)
theorem s_measureSteps (hg : gnd h H R Z M s) (hq : ∀ h', q_fr (fun j => j = 5) h h' → h'.2 = h.2 → gnd h' H R Z (sp_M H R Z s) s → Q none h') : q_Ct l (d + 3) mX1_measureSteps [.ref 1] h mc ms Q QX := by
  refine v_X1_measureSteps 1 ?_
  have inner : ∀ p, p < 576 → (∀ h', (q_fr (fun j => j = 5) h h' ∧ h'.2 = h.2 ∧ ∃ M', gnd h' H R Z M' s ∧ ∀ j, j < 8 * (p + 1) → M' j = sp_M H R Z s j) → q_J l (d + 3) mX1_measureSteps mc ms Q QX h.2 2 [some (.ref 1), some (.int (nI (p + 1))), none] [] h' mc ms) →
      ∀ (k : Nat) (h' : qH), k ≤ 8 → (q_fr (fun j => j = 5) h h' ∧ h'.2 = h.2 ∧ ∃ M', gnd h' H R Z M' s ∧ ∀ j, j < 8 * p + k → M' j = sp_M H R Z s j) → q_J l (d + 3) mX1_measureSteps mc ms Q QX h.2 11 [some (.ref 1), some (.int (nI p)), some (.int (nI k))] [] h' mc ms := by
    intro p hp hout
    refine q_loop (fun k h' => q_J l (d + 3) mX1_measureSteps mc ms Q QX h.2 11 [some (.ref 1), some (.int (nI p)), some (.int (nI k))] [] h' mc ms) (fun k h' => q_fr (fun j => j = 5) h h' ∧ h'.2 = h.2 ∧ ∃ M', gnd h' H R Z M' s ∧ ∀ j, j < 8 * p + k → M' j = sp_M H R Z s j) 8 ?_ ?_
    · intro h' hI
      refine v_X1_measureSteps_11 1 (nI p) (nI 8) ⟨fun _ => ?_, fun q => absurd (Int32.le_refl _) q⟩
      rw [nI_1]
      exact hout h' ⟨hI.1, hI.2.1, hI.2.2.elim fun M' hM => ⟨M', hM.1, fun j hj => hM.2 j (by omega)⟩⟩
    · intro k h' hk hI ih
      obtain ⟨f1, f2, M', g1, g2⟩ := hI
      refine v_X1_measureSteps_11 1 (nI p) (nI k) ⟨fun q => absurd q (nI_ge hk (by decide)), fun _ => e_gr g1.1 rfl (e_ob g1.1 ?_)⟩
      have r1 : nI p - nI p / (24 : Int32) * (24 : Int32) = nI (p % 24) := pk_rem (by omega) (by decide) (by decide)
      have r2 : nI p / (24 : Int32) = nI (p / 24) := pk_div (by omega) (by decide) (by decide)
      rw [r1, r2]
      refine s_measureStep g1 (inP_nI (by omega) (by omega)) hk ⟨_, rfl, ?_⟩
      refine e_as g1.2.2.2.2 (k := 8 * p + k) (by rw [show (8 : Int32) = nI 8 from rfl, pk_mul, nI_add, Nat.mul_comm]) (by omega) (by decide) (fun h1 fr1 sz1 a1 => ?_)
      rw [nI_1]
      refine ih h1 ⟨f1.tr fr1 (fun _ _ q => q) (fun _ _ q => q), sz1.trans f2, _, ⟨g1.1.fr fr1 (by decide), g1.2.1.fr fr1 (by decide), g1.2.2.1.fr fr1 (by decide), g1.2.2.2.1.fr fr1 (by decide), a1⟩, fun j hj => ?_⟩
      by_cases e : j = 8 * p + k
      · subst e
        have e1 : (8 * p + k) / 8 = p := by omega
        have e2 : (8 * p + k) % 8 = k := by omega
        simp [upd, sp_M, e1, e2]
      · simp [upd, e]
        exact g2 j (by omega)
  refine q_loop (fun p h' => q_J l (d + 3) mX1_measureSteps mc ms Q QX h.2 2 [some (.ref 1), some (.int (nI p)), none] [] h' mc ms) (fun p h' => q_fr (fun j => j = 5) h h' ∧ h'.2 = h.2 ∧ ∃ M', gnd h' H R Z M' s ∧ ∀ j, j < 8 * p → M' j = sp_M H R Z s j) 576 ?_ ?_ 0 h (by omega) ⟨q_fr.rf, rfl, M, hg, fun j hj => absurd hj (by omega)⟩
  · intro h' hI
    obtain ⟨f1, f2, M', g1, g2⟩ := hI
    refine v_X1_measureSteps_2 1 (nI 576) ⟨fun _ => ?_, fun q => absurd (Int32.le_refl _) q⟩
    exact hq h' f1 f2 ⟨g1.1, g1.2.1, g1.2.2.1, g1.2.2.2.1, g1.2.2.2.2.to (fun j hj => g2 j (by omega))⟩
  · intro p h' hp hI ih
    refine v_X1_measureSteps_2 1 (nI p) ⟨fun q => absurd q (nI_ge hp (by decide)), fun _ => ?_⟩
    exact inner p hp ih 0 h' (by omega) ⟨hI.1, hI.2.1, hI.2.2.elim fun M' hM => ⟨M', hM.1, fun j hj => hM.2 j (by omega)⟩⟩
end GR
