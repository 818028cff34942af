section GR5
variable {l : Launch} {d mc ms : Nat} {Q : Option Value → qH → Prop} {QX : String → qH → Prop} {h : qH} {H R Z M : Nat → Int32} {s x y : Int32}
/-- the heights while the cells ahead of row b, column a are raised -/
noncomputable def up_at (H : Nat → Int32) (a0 a1 b0 b1 : Nat) (w : Int32) (a b : Nat) : Nat → Int32 := fun p => @ite _ (dn a0 a1 b0 b1 a b p) (Classical.propDecidable _) (H p + w) (H p)
noncomputable def set_at (H : Nat → Int32) (a0 a1 b0 b1 : Nat) (w : Int32) (a b : Nat) : Nat → Int32 := fun p => @ite _ (dn a0 a1 b0 b1 a b p) (Classical.propDecidable _) w (H p)
theorem dn_not {a0 a1 b0 b1 a b : Nat} (ha1 : a1 < 24) (ha : a ≤ a1) : ¬ dn a0 a1 b0 b1 a b (24 * b + a) := by unfold dn inR; omega
theorem up_step {a0 a1 b0 b1 a b : Nat} {w : Int32} (ha0 : a0 ≤ a) (ha : a ≤ a1) (hb0 : b0 ≤ b) (hb : b ≤ b1) (ha1 : a1 < 24) : upd (up_at H a0 a1 b0 b1 w a b) (24 * b + a) (up_at H a0 a1 b0 b1 w a b (24 * b + a) + w) = up_at H a0 a1 b0 b1 w (a + 1) b := by
  funext p
  by_cases e : p = 24 * b + a
  · subst e
    have h1 := dn_not (a0 := a0) (b0 := b0) (b1 := b1) (b := b) ha1 ha
    have h2 := (dn_step (p := 24 * b + a) ha0 ha hb0 hb ha1).mpr (Or.inr rfl)
    simp [upd, up_at, h1, h2]
  · by_cases hd : dn a0 a1 b0 b1 a b p
    · have h2 := (dn_step (p := p) ha0 ha hb0 hb ha1).mpr (Or.inl hd)
      simp [upd, up_at, e, hd, h2]
    · have h2 : ¬ dn a0 a1 b0 b1 (a + 1) b p := fun q => ((dn_step ha0 ha hb0 hb ha1).mp q).elim hd e
      simp [upd, up_at, e, hd, h2]
theorem set_step {a0 a1 b0 b1 a b : Nat} {w : Int32} (ha0 : a0 ≤ a) (ha : a ≤ a1) (hb0 : b0 ≤ b) (hb : b ≤ b1) (ha1 : a1 < 24) : upd (set_at H a0 a1 b0 b1 w a b) (24 * b + a) w = set_at H a0 a1 b0 b1 w (a + 1) b := by
  funext p
  by_cases e : p = 24 * b + a
  · subst e
    have h2 := (dn_step (p := 24 * b + a) ha0 ha hb0 hb ha1).mpr (Or.inr rfl)
    simp [upd, set_at, h2]
  · by_cases hd : dn a0 a1 b0 b1 a b p
    · have h2 := (dn_step (p := p) ha0 ha hb0 hb ha1).mpr (Or.inl hd)
      simp [upd, set_at, e, hd, h2]
    · have h2 : ¬ dn a0 a1 b0 b1 (a + 1) b p := fun q => ((dn_step ha0 ha hb0 hb ha1).mp q).elim hd e
      simp [upd, set_at, e, hd, h2]
theorem up_row {a0 a1 b0 b1 a b : Nat} {w : Int32} (ha : a1 < a) : up_at H a0 a1 b0 b1 w a b = up_at H a0 a1 b0 b1 w a0 (b + 1) := by
  funext p
  by_cases hd : dn a0 a1 b0 b1 a b p
  · simp [up_at, hd, (dn_row ha).mp hd]
  · have : ¬ dn a0 a1 b0 b1 a0 (b + 1) p := fun q => hd ((dn_row ha).mpr q)
    simp [up_at, hd, this]
theorem set_row {a0 a1 b0 b1 a b : Nat} {w : Int32} (ha : a1 < a) : set_at H a0 a1 b0 b1 w a b = set_at H a0 a1 b0 b1 w a0 (b + 1) := by
  funext p
  by_cases hd : dn a0 a1 b0 b1 a b p
  · simp [set_at, hd, (dn_row ha).mp hd]
  · have : ¬ dn a0 a1 b0 b1 a0 (b + 1) p := fun q => hd ((dn_row ha).mpr q)
    simp [set_at, hd, this]
theorem up_all {a0 a1 b0 b1 a b : Nat} {w : Int32} (hb : b1 < b) : up_at H a0 a1 b0 b1 w a b = sp_up H a0 a1 b0 b1 w := by
  funext p
  by_cases hd : dn a0 a1 b0 b1 a b p
  · simp [up_at, sp_up, hd, (dn_all hb).mp hd]
  · have : ¬ inR a0 a1 b0 b1 p := fun q => hd ((dn_all hb).mpr q)
    simp [up_at, sp_up, hd, this]
theorem set_all {a0 a1 b0 b1 a b : Nat} {w : Int32} (hb : b1 < b) : set_at H a0 a1 b0 b1 w a b = sp_set H a0 a1 b0 b1 w := by
  funext p
  by_cases hd : dn a0 a1 b0 b1 a b p
  · simp [set_at, sp_set, hd, (dn_all hb).mp hd]
  · have : ¬ inR a0 a1 b0 b1 p := fun q => hd ((dn_all hb).mpr q)
    simp [set_at, sp_set, hd, this]
theorem up_0 {a0 a1 b0 b1 : Nat} {w : Int32} : up_at H a0 a1 b0 b1 w a0 b0 = H := by
  funext p
  simp [up_at, dn_0]
theorem set_0 {a0 a1 b0 b1 : Nat} {w : Int32} : set_at H a0 a1 b0 b1 w a0 b0 = H := by
  funext p
  simp [set_at, dn_0]
/-- the greatest so far -/
def mxAt (H : Nat → Int32) (a0 a1 b0 b1 : Nat) (w : Int32) (a b : Nat) (m : Int32) : Prop := -99 ≤ m ∧ (∀ p, p < 576 → dn a0 a1 b0 b1 a b p → H p + w ≤ m) ∧ (m = -99 ∨ ∃ p, p < 576 ∧ dn a0 a1 b0 b1 a b p ∧ H p + w = m)
theorem mx_step {a0 a1 b0 b1 a b : Nat} {w m : Int32} (ha0 : a0 ≤ a) (ha : a ≤ a1) (hb0 : b0 ≤ b) (hb : b ≤ b1) (ha1 : a1 < 24) (hb1 : b1 < 24) (hm : mxAt H a0 a1 b0 b1 w a b m) : mxAt H a0 a1 b0 b1 w (a + 1) b (if m < H (24 * b + a) + w then H (24 * b + a) + w else m) := by
  obtain ⟨h1, h2, h3⟩ := hm
  by_cases c : m < H (24 * b + a) + w
  · rw [if_pos c]
    refine ⟨Int32.le_trans h1 (Int32.le_of_lt c), fun p hp hd => ?_, Or.inr ⟨_, by omega, (dn_step ha0 ha hb0 hb ha1).mpr (Or.inr rfl), rfl⟩⟩
    rcases (dn_step ha0 ha hb0 hb ha1).mp hd with hd | rfl
    · exact Int32.le_trans (h2 p hp hd) (Int32.le_of_lt c)
    · exact Int32.le_refl _
  · rw [if_neg c]
    refine ⟨h1, fun p hp hd => ?_, h3.elim Or.inl (fun ⟨p, q1, q2, q3⟩ => Or.inr ⟨p, q1, (dn_step ha0 ha hb0 hb ha1).mpr (Or.inl q2), q3⟩)⟩
    rcases (dn_step ha0 ha hb0 hb ha1).mp hd with hd | rfl
    · exact h2 p hp hd
    · exact Int32.not_lt.mp c
theorem s_lift {a0 a1 b0 b1 : Nat} {w : Int32} (hg : gnd h H R Z M s) (hH : hOk H) (hw : sp_ok H a0 a1 b0 b1 w) (ha : a0 ≤ a1) (ha1 : a1 < 24) (hb : b0 ≤ b1) (hb1 : b1 < 24) (hwb : -198 ≤ w.toInt ∧ w.toInt ≤ 198)
    (hq : ∀ (h' : qH) (m : Int32), q_fr (fun j => j = 2 ∨ j = 5) h h' → h'.2 = h.2 → gnd h' (sp_up H a0 a1 b0 b1 w) R Z (sp_M (sp_up H a0 a1 b0 b1 w) R Z s) s → isMx (sp_up H a0 a1 b0 b1 w) a0 a1 b0 b1 m → Q (some (.int m)) h') :
    q_Ct l (d + 4) mX1_lift [.ref 1, .int (nI a0), .int (nI a1), .int (nI b0), .int (nI b1), .int w] h mc ms Q QX := by
  refine v_X1_lift 1 _ _ _ _ w ?_
  have inner : ∀ b, b0 ≤ b → b ≤ b1 → (∀ (t : Int32 × qH), (q_fr (fun j => j = 2) h t.2 ∧ t.2.2 = h.2 ∧ gnd t.2 (up_at H a0 a1 b0 b1 w a0 (b + 1)) R Z M s ∧ mxAt H a0 a1 b0 b1 w a0 (b + 1) t.1) → q_J l (d + 4) mX1_lift mc ms Q QX h.2 7 [some (.ref 1), some (.int (nI a0)), some (.int (nI a1)), some (.int (nI b0)), some (.int (nI b1)), some (.int w), some (.int t.1), some (.int (nI (b + 1))), none] [] t.2 mc ms) →
      ∀ (a : Nat) (t : Int32 × qH), a ≤ a1 + 1 → (a0 ≤ a ∧ q_fr (fun j => j = 2) h t.2 ∧ t.2.2 = h.2 ∧ gnd t.2 (up_at H a0 a1 b0 b1 w a b) R Z M s ∧ mxAt H a0 a1 b0 b1 w a b t.1) → q_J l (d + 4) mX1_lift mc ms Q QX h.2 17 [some (.ref 1), some (.int (nI a0)), some (.int (nI a1)), some (.int (nI b0)), some (.int (nI b1)), some (.int w), some (.int t.1), some (.int (nI b)), some (.int (nI a))] [] t.2 mc ms := by
    intro b hb2 hb3 hout
    refine q_loop (fun (a : Nat) (t : Int32 × qH) => q_J l (d + 4) mX1_lift mc ms Q QX h.2 17 [some (.ref 1), some (.int (nI a0)), some (.int (nI a1)), some (.int (nI b0)), some (.int (nI b1)), some (.int w), some (.int t.1), some (.int (nI b)), some (.int (nI a))] [] t.2 mc ms) (fun a t => a0 ≤ a ∧ q_fr (fun j => j = 2) h t.2 ∧ t.2.2 = h.2 ∧ gnd t.2 (up_at H a0 a1 b0 b1 w a b) R Z M s ∧ mxAt H a0 a1 b0 b1 w a b t.1) (a1 + 1) ?_ ?_
    · rintro ⟨m, h'⟩ ⟨-, f1, f2, g1, m1⟩
      refine v_X1_lift_17 1 _ _ _ _ w m (nI b) (nI (a1 + 1)) ⟨fun _ => ?_, fun q => absurd (nI_lt (by omega) (by omega)) q⟩
      rw [nI_1]
      rw [up_row (by omega)] at g1
      exact hout (m, h') ⟨f1, f2, g1, m1.1, fun p hp hd => m1.2.1 p hp ((dn_row (by omega)).mpr hd), m1.2.2.elim Or.inl (fun ⟨p, q1, q2, q3⟩ => Or.inr ⟨p, q1, (dn_row (by omega)).mp q2, q3⟩)⟩
    · rintro a ⟨m, h'⟩ ha2 ⟨ha3, f1, f2, g1, m1⟩ ih
      have hin : inP (nI a) (nI b) := inP_nI (by omega) (by omega)
      have hx : ix (nI a) (nI b) = 24 * b + a := ix_nI (by omega) (by omega)
      have hat := ix_at hin
      rw [hx] at hat
      refine v_X1_lift_17 1 _ _ _ _ w m (nI b) (nI a) ⟨fun q => absurd q (nI_nlt (by omega) (by omega)), fun _ => s_isPlace_t hin ⟨_, rfl, fun q => absurd q z10, fun _ => ?_⟩⟩
      refine e_gr g1.1 rfl (e_al g1.2.1 hat (by omega) (by decide) (e_as g1.2.1 hat (by omega) (by decide) (fun h1 fr1 sz1 ar1 => ?_)))
      have g2 : gnd h1 (up_at H a0 a1 b0 b1 w (a + 1) b) R Z M s := ⟨g1.1.fr fr1 (by decide), by rw [up_step ha3 (by omega) hb2 hb3 ha1] at ar1; exact ar1, g1.2.2.1.fr fr1 (by decide), g1.2.2.2.1.fr fr1 (by decide), g1.2.2.2.2.fr fr1 (by decide)⟩
      refine e_gr g2.1 rfl (e_al g2.2.1 hat (by omega) (by decide) ?_)
      rw [nI_1]
      have hv : up_at H a0 a1 b0 b1 w (a + 1) b (24 * b + a) = H (24 * b + a) + w := by
        have h2 := (dn_step (p := 24 * b + a) ha3 (show a ≤ a1 by omega) hb2 hb3 ha1).mpr (Or.inr rfl)
        simp [up_at, h2]
      rw [hv]
      exact ih (_, h1) ⟨by omega, f1.tr fr1 (fun _ _ q => q) (fun _ _ q => q), sz1.trans f2, g2, mx_step ha3 (by omega) hb2 hb3 ha1 hb1 m1⟩
  refine q_loop (fun (b : Nat) (t : Int32 × qH) => q_J l (d + 4) mX1_lift mc ms Q QX h.2 7 [some (.ref 1), some (.int (nI a0)), some (.int (nI a1)), some (.int (nI b0)), some (.int (nI b1)), some (.int w), some (.int t.1), some (.int (nI b)), none] [] t.2 mc ms) (fun b t => b0 ≤ b ∧ q_fr (fun j => j = 2) h t.2 ∧ t.2.2 = h.2 ∧ gnd t.2 (up_at H a0 a1 b0 b1 w a0 b) R Z M s ∧ mxAt H a0 a1 b0 b1 w a0 b t.1) (b1 + 1) ?_ ?_ b0 (-99, h) (by omega) ⟨Nat.le_refl _, q_fr.rf, rfl, by rw [up_0]; exact hg, Int32.le_refl _, fun p hp hd => absurd hd dn_0, Or.inl rfl⟩
  · rintro ⟨m, h'⟩ ⟨-, f1, f2, g1, m1⟩
    rw [up_all (by omega)] at g1
    refine v_X1_lift_7 1 _ _ _ _ w m (nI (b1 + 1)) ⟨fun _ => e_ob g1.1 (s_measureSteps g1 (fun h2 fr2 sz2 g2 => ⟨rfl, hq h2 m (f1.tr fr2 (fun _ _ q => Or.inl q) (fun _ _ q => Or.inr q)) (sz2.trans f2) g2 ?_⟩)), fun q => absurd (nI_lt (by omega) (by omega)) q⟩
    obtain ⟨m2, m3, m4⟩ := m1
    have hup : ∀ p, inR a0 a1 b0 b1 p → sp_up H a0 a1 b0 b1 w p = H p + w := fun p hp => by simp [sp_up, hp]
    refine ⟨fun p hp hc => by rw [hup p hc]; exact m3 p hp ((dn_all (by omega)).mpr hc), ?_⟩
    rcases m4 with rfl | ⟨p, q1, q2, q3⟩
    · have c0 : inR a0 a1 b0 b1 (24 * b0 + a0) := by unfold inR; omega
      refine ⟨24 * b0 + a0, by omega, c0, ?_⟩
      rw [hup _ c0]
      have h5 := m3 (24 * b0 + a0) (by omega) ((dn_all (by omega)).mpr c0)
      have h6 := hw (24 * b0 + a0) (by omega) c0
      have h7 := hH (24 * b0 + a0) (by omega)
      have h8 : (H (24 * b0 + a0) + w).toInt = (H (24 * b0 + a0)).toInt + w.toInt := fb_addI (by omega) (by omega)
      rw [le_i, h8, M_99] at h5
      rw [eq_i, h8, M_99]
      omega
    · exact ⟨p, q1, (dn_all (by omega)).mp q2, by rw [hup p ((dn_all (by omega)).mp q2)]; exact q3⟩
  · rintro b ⟨m, h'⟩ hb2 ⟨hb3, f1, f2, g1, m1⟩ ih
    refine v_X1_lift_7 1 _ _ _ _ w m (nI b) ⟨fun q => absurd q (nI_nlt (by omega) (by omega)), fun _ => ?_⟩
    exact inner b hb3 (by omega) (fun t hI => ih t ⟨by omega, hI⟩) a0 (m, h') (by omega) ⟨Nat.le_refl _, f1, f2, g1, m1⟩
theorem s_cover {a0 a1 b0 b1 : Nat} {v w : Int32} (hg : gnd h H R Z M s) (hw : w = 0 ∨ w = 1) (ha : a0 ≤ a1) (ha1 : a1 < 24) (hb : b0 ≤ b1) (hb1 : b1 < 24)
    (hq : ∀ (h' : qH), q_fr (fun j => j = 3 ∨ j = 4 ∨ j = 5) h h' → h'.2 = h.2 → gnd h' H (sp_set R a0 a1 b0 b1 v) (sp_set Z a0 a1 b0 b1 w) (sp_M H (sp_set R a0 a1 b0 b1 v) (sp_set Z a0 a1 b0 b1 w) s) s → Q none h') :
    q_Ct l (d + 4) mX1_cover [.ref 1, .int (nI a0), .int (nI a1), .int (nI b0), .int (nI b1), .int v, .int w] h mc ms Q QX := by
  refine v_X1_cover 1 _ _ _ _ v w ?_
  have inner : ∀ b, b0 ≤ b → b ≤ b1 → (∀ (t : qH), (q_fr (fun j => j = 3 ∨ j = 4) h t ∧ t.2 = h.2 ∧ gnd t H (set_at R a0 a1 b0 b1 v a0 (b + 1)) (set_at Z a0 a1 b0 b1 w a0 (b + 1)) M s) → q_J l (d + 4) mX1_cover mc ms Q QX h.2 3 [some (.ref 1), some (.int (nI a0)), some (.int (nI a1)), some (.int (nI b0)), some (.int (nI b1)), some (.int v), some (.int w), some (.int (nI (b + 1))), none] [] t mc ms) →
      ∀ (a : Nat) (t : qH), a ≤ a1 + 1 → (a0 ≤ a ∧ q_fr (fun j => j = 3 ∨ j = 4) h t ∧ t.2 = h.2 ∧ gnd t H (set_at R a0 a1 b0 b1 v a b) (set_at Z a0 a1 b0 b1 w a b) M s) → q_J l (d + 4) mX1_cover mc ms Q QX h.2 13 [some (.ref 1), some (.int (nI a0)), some (.int (nI a1)), some (.int (nI b0)), some (.int (nI b1)), some (.int v), some (.int w), some (.int (nI b)), some (.int (nI a))] [] t mc ms := by
    intro b hb2 hb3 hout
    refine q_loop (fun (a : Nat) (t : qH) => q_J l (d + 4) mX1_cover mc ms Q QX h.2 13 [some (.ref 1), some (.int (nI a0)), some (.int (nI a1)), some (.int (nI b0)), some (.int (nI b1)), some (.int v), some (.int w), some (.int (nI b)), some (.int (nI a))] [] t mc ms) (fun a t => a0 ≤ a ∧ q_fr (fun j => j = 3 ∨ j = 4) h t ∧ t.2 = h.2 ∧ gnd t H (set_at R a0 a1 b0 b1 v a b) (set_at Z a0 a1 b0 b1 w a b) M s) (a1 + 1) ?_ ?_
    · rintro h' ⟨-, f1, f2, g1⟩
      refine v_X1_cover_13 1 _ _ _ _ v w (nI b) (nI (a1 + 1)) ⟨fun _ => ?_, fun q => absurd (nI_lt (by omega) (by omega)) q⟩
      rw [nI_1]
      rw [set_row (H := R) (a := a1 + 1) (by omega), set_row (H := Z) (a := a1 + 1) (by omega)] at g1
      exact hout h' ⟨f1, f2, g1⟩
    · rintro a h' ha2 ⟨ha3, f1, f2, g1⟩ ih
      have hin : inP (nI a) (nI b) := inP_nI (by omega) (by omega)
      have hx : ix (nI a) (nI b) = 24 * b + a := ix_nI (by omega) (by omega)
      have hat := ix_at hin
      rw [hx] at hat
      refine v_X1_cover_13 1 _ _ _ _ v w (nI b) (nI a) ⟨fun q => absurd q (nI_nlt (by omega) (by omega)), fun _ => s_isPlace_t hin ⟨_, rfl, fun q => absurd q z10, fun _ => ?_⟩⟩
      refine e_gr g1.1 rfl (e_as g1.2.2.1 hat (by omega) (by decide) (fun h1 fr1 sz1 ar1 => ?_))
      rw [set_step ha3 (by omega) hb2 hb3 ha1] at ar1
      refine e_gr (g1.1.fr fr1 (by decide)) rfl (e_zs hw (g1.2.2.2.1.fr fr1 (by decide)) hat (by omega) (by decide) (fun h2 fr2 sz2 br2 => ?_))
      rw [set_step ha3 (by omega) hb2 hb3 ha1] at br2
      rw [nI_1]
      exact ih h2 ⟨by omega, (f1.tr fr1 (S3 := fun j => j = 3 ∨ j = 4) (fun _ _ q => q) (fun _ _ q => Or.inl q)).tr fr2 (fun _ _ q => q) (fun _ _ q => Or.inr q), (sz2.trans sz1).trans f2, (g1.1.fr fr1 (by decide)).fr fr2 (by decide), (g1.2.1.fr fr1 (by decide)).fr fr2 (by decide), ar1.fr fr2 (by decide), br2, (g1.2.2.2.2.fr fr1 (by decide)).fr fr2 (by decide)⟩
  refine q_loop (fun (b : Nat) (t : qH) => q_J l (d + 4) mX1_cover mc ms Q QX h.2 3 [some (.ref 1), some (.int (nI a0)), some (.int (nI a1)), some (.int (nI b0)), some (.int (nI b1)), some (.int v), some (.int w), some (.int (nI b)), none] [] t mc ms) (fun b t => b0 ≤ b ∧ q_fr (fun j => j = 3 ∨ j = 4) h t ∧ t.2 = h.2 ∧ gnd t H (set_at R a0 a1 b0 b1 v a0 b) (set_at Z a0 a1 b0 b1 w a0 b) M s) (b1 + 1) ?_ ?_ b0 h (by omega) ⟨Nat.le_refl _, q_fr.rf, rfl, by rw [set_0, set_0]; exact hg⟩
  · rintro h' ⟨-, f1, f2, g1⟩
    rw [set_all (by omega), set_all (by omega)] at g1
    refine v_X1_cover_3 1 _ _ _ _ v w (nI (b1 + 1)) ⟨fun _ => e_ob g1.1 (s_measureSteps g1 (fun h2 fr2 sz2 g2 => ⟨rfl, hq h2 (f1.tr fr2 (fun _ _ q => q.elim Or.inl (fun q => Or.inr (Or.inl q))) (fun _ _ q => Or.inr (Or.inr q))) (sz2.trans f2) g2⟩)), fun q => absurd (nI_lt (by omega) (by omega)) q⟩
  · rintro b h' hb2 ⟨hb3, f1, f2, g1⟩ ih
    refine v_X1_cover_3 1 _ _ _ _ v w (nI b) ⟨fun q => absurd q (nI_nlt (by omega) (by omega)), fun _ => ?_⟩
    exact inner b hb3 (by omega) (fun t hI => ih t ⟨by omega, hI⟩) a0 h' (by omega) ⟨Nat.le_refl _, f1, f2, g1⟩
theorem s_limitSlope {w : Int32} (hg : gnd h H R Z M s) (hq : ∀ h', q_fr (fun j => j = 1 ∨ j = 5) h h' → h'.2 = h.2 → gnd h' H R Z (sp_M H R Z w) w → Q none h') : q_Ct l (d + 4) mX1_limitSlope [.ref 1, .int w] h mc ms Q QX := by
  refine v_X1_limitSlope 1 w (e_pi hg.1 (Nat.le_of_ble_eq_true rfl) (fun h1 fr1 sz1 o1 => ?_))
  have g1 : gnd h1 H R Z M w := ⟨o1, hg.2.1.fr fr1 (by decide), hg.2.2.1.fr fr1 (by decide), hg.2.2.2.1.fr fr1 (by decide), hg.2.2.2.2.fr fr1 (by decide)⟩
  exact e_ob o1 (s_measureSteps g1 (fun h2 fr2 sz2 g2 => ⟨rfl, hq h2 (fr1.tr fr2 (fun _ _ q => Or.inl q) (fun _ _ q => Or.inr q)) (sz2.trans sz1) g2⟩))
end GR5
