/-! the model's public calls: the ground, targets, passes -/
theorem l_sm32 (z w : Int32) : (z.toInt64 + w.toInt64).toInt32 = z + w := by simp
theorem l_sm (z w : Int32) : (z.toInt64 + w.toInt64).toInt = z.toInt + w.toInt := by
  have h1 := Int32.toInt_lt z
  have h2 := Int32.le_toInt z
  have h3 := Int32.toInt_lt w
  have h4 := Int32.le_toInt w
  rw [Int64.toInt_add, Int32.toInt_toInt64, Int32.toInt_toInt64]
  rw [Int.bmod_eq_of_le] <;> omega
theorem l_lo {z w : Int32} : lg_cmp (z.toInt64 + w.toInt64) (-99 : Int64) < 0 ↔ z.toInt + w.toInt < -99 := by
  rw [lg_cmp_lt, Int64.lt_iff_toInt_lt, l_sm, show (-99 : Int64).toInt = -99 by decide +kernel]
theorem l_hi {z w : Int32} : lg_cmp (z.toInt64 + w.toInt64) (99 : Int64) ≤ 0 ↔ z.toInt + w.toInt ≤ 99 := by
  rw [lg_cmp_le, Int64.le_iff_toInt_le, l_sm, show (99 : Int64).toInt = 99 by decide +kernel]
def mxB (H : Nat → Int32) (a0 a1 b0 b1 : Nat) (w : Int32) (a b : Nat) (m : Int32) : Prop := (∀ p, p < 576 → dn a0 a1 b0 b1 a b p → (-99 ≤ (H p).toInt + w.toInt ∧ (H p).toInt + w.toInt ≤ 99) ∧ H p + w ≤ m) ∧ (m = -100 ∨ ∃ p, p < 576 ∧ dn a0 a1 b0 b1 a b p ∧ H p + w = m)
theorem mxB_step {H : Nat → Int32} {a0 a1 b0 b1 a b : Nat} {w m : Int32} (ha0 : a0 ≤ a) (ha : a ≤ a1) (hb0 : b0 ≤ b) (hb : b ≤ b1) (ha1 : a1 < 24) (hb1 : b1 < 24) (hr : -99 ≤ (H (24 * b + a)).toInt + w.toInt ∧ (H (24 * b + a)).toInt + w.toInt ≤ 99) (hm : mxB H a0 a1 b0 b1 w a b m) : mxB H a0 a1 b0 b1 w (a + 1) b (if m < H (24 * b + a) + w then H (24 * b + a) + w else m) := by
  obtain ⟨h2, h3⟩ := hm
  by_cases c : m < H (24 * b + a) + w
  · rw [if_pos c]
    refine ⟨fun p hp hd => ?_, Or.inr ⟨_, by omega, (dn_step ha0 ha hb0 hb ha1).mpr (Or.inr rfl), rfl⟩⟩
    rcases (dn_step ha0 ha hb0 hb ha1).mp hd with hd | rfl
    · exact ⟨(h2 p hp hd).1, Int32.le_trans (h2 p hp hd).2 (Int32.le_of_lt c)⟩
    · exact ⟨hr, Int32.le_refl _⟩
  · rw [if_neg c]
    refine ⟨fun p hp hd => ?_, h3.elim Or.inl (fun ⟨p, q1, q2, q3⟩ => Or.inr ⟨p, q1, (dn_step ha0 ha hb0 hb ha1).mpr (Or.inl q2), q3⟩)⟩
    rcases (dn_step ha0 ha hb0 hb ha1).mp hd with hd | rfl
    · exact h2 p hp hd
    · exact ⟨hr, Int32.not_lt.mp c⟩
theorem MSt.new {h h' : qH} {A A' : ST} {th th' : Int32} {S : Nat → Prop} (s : MSt h A th) (f : q_fr S h h') (hS : ∀ i, S i → ¬ (58 ≤ i ∧ i ≤ 76)) (em : A'.m = A.m) (e1 : A'.mP = A.mP) (e2 : A'.mD = A.mD) (e3 : A'.mL = A.mL) (b : ∃ wy, MB h' A'.W A'.L.n A'.m th' wy) (v : MR h' 55 A'.P A'.D) (u : arA h' 56 594) (p : ML h' 57 A'.L) (w : arA h' 81 594) : MSt h' A' th' :=
  ⟨Nat.le_trans s.1 f.1, b, v, u, p, s.2.2.2.2.2.1.fr f (fun i a c q => hS i q ⟨a, c⟩) em e1 e2 e3, w⟩
theorem MSt.W {h h' : qH} {A : ST} {W' : WS} {th th' : Int32} {S : Nat → Prop} (s : MSt h A th) (f : q_fr S h h') (hS : ∀ i, S i → i ≤ 54 ∨ 82 ≤ i) (b : ∃ wy, MB h' W' A.L.n A.m th' wy) : MSt h' (A.uW W') th' :=
  s.new f (fun i q => by have := hS i q; omega) rfl rfl rfl rfl b (s.2.2.1.fr f (fun q => by have := hS _ q; omega)) (s.2.2.2.1.fr f (fun q => by have := hS _ q; omega)) (s.2.2.2.2.1.fr f (fun q => by have := hS _ q; omega)) (s.2.2.2.2.2.2.fr f (fun q => by have := hS _ q; omega))
section MP1
variable {l : Launch} {d mc ms : Nat} {Q : Option Value → qH → Prop} {QX : String → qH → Prop} {h : qH} {A : ST} {th : Int32}
theorem m_set {P : qH → Prop} {v : Int32} (s : MSt h A th) (hp : ∀ h', q_fr mS h h' → MSt h' A v → P h') : qPI h 49 10 0 v P := by
  obtain ⟨wy, b⟩ := s.2.1
  exact e_pi b.1 (Nat.le_of_ble_eq_true rfl) (fun h1 f1 z1 o1 => hp h1 (f1.mono (fun i _ q => by unfold mS; omega)) (s.up f1 (fun i q a c => by omega) ⟨wy, b.ob f1 o1⟩ (s.2.2.2.1.fr f1 (by omega)) (s.2.2.2.2.2.2.fr f1 (by omega))))
theorem m_raise {x0 x1 y0 y1 w : Int32} (s : MSt h A th) (ok : aOk A) (hq : rm h Q (R_raise A x0 x1 y0 y1 w)) : q_Ct l (d + 3) mX10_raise [.ref 49, .int x0, .int x1, .int y0, .int y1, .int w] h mc ms Q QX := by
  unfold R_raise at hq
  refine v_X10_raise 49 _ _ _ _ _ (m_start s hq (fun h1 s1 hq => m_isRectangle (fun t => ⟨_, rfl, g_t ?_⟩) (fun t => ⟨_, rfl, g_f (m_no 1 rfl s1 (by rw [pif_f (fun r => t r.1)] at hq; exact hq))⟩)))
  have t9 := t
  obtain ⟨a0, a1, b0, b1, g1, g2, g3, g4, rfl, rfl, rfl, rfl⟩ := isR_of t
  rw [nI_clamp (by omega), nI_clamp (by omega), nI_clamp (by omega), nI_clamp (by omega)] at hq
  obtain ⟨wy, B⟩ := s1.2.1
  have hH := ok.1.g.1
  have no : ¬ sp_ok A.W.H a0 a1 b0 b1 w → qOB h1 49 10 (qCI l (d + 2) mX10_fail [.ref 49, .int 1] h1 0 0 (fun z h' => Q (some (.int z)) h')) := fun n => m_no 1 rfl s1 (by rw [pif_f (fun r => n r.2)] at hq; exact hq)
  -- the second pass
  have second : ∀ m, mxB A.W.H a0 a1 b0 b1 w a0 (b1 + 1) m → q_J l (d + 3) mX10_raise mc ms Q QX h.2 113 [some (.ref 49), some (.int (nI a0)), some (.int (nI a1)), some (.int (nI b0)), some (.int (nI b1)), some (.int w), some (.int m), some (.int (nI b0)), none, none, none] [] h1 mc ms := by
    intro m hm
    have hK : sp_ok A.W.H a0 a1 b0 b1 w := fun p hp hc => (hm.1 p hp ((dn_all (by omega)).mpr hc)).1
    rw [pif_t ⟨t9, hK⟩] at hq
    have hup : ∀ p, inR a0 a1 b0 b1 p → sp_up A.W.H a0 a1 b0 b1 w p = A.W.H p + w := fun p hp => by simp [sp_up, hp]
    have mx : isMx (sp_up A.W.H a0 a1 b0 b1 w) a0 a1 b0 b1 m := by
      refine ⟨fun p hp hc => by rw [hup p hc]; exact (hm.1 p hp ((dn_all (by omega)).mpr hc)).2, ?_⟩
      rcases hm.2 with e | ⟨p, q1, q2, q3⟩
      · have c0 : inR a0 a1 b0 b1 (24 * b0 + a0) := by unfold inR; omega
        have h5 := (hm.1 (24 * b0 + a0) (by omega) ((dn_all (by omega)).mpr c0)).2
        have h6 := hK (24 * b0 + a0) (by omega) c0
        have h7 := hH (24 * b0 + a0) (by omega)
        have h8 : (A.W.H (24 * b0 + a0) + w).toInt = (A.W.H (24 * b0 + a0)).toInt + w.toInt := fb_addI (by omega) (by omega)
        rw [e, le_i, h8, M_100] at h5
        omega
      · exact ⟨p, q1, (dn_all (by omega)).mp q2, by rw [hup p ((dn_all (by omega)).mp q2)]; exact q3⟩
    rw [mxA_is mx] at hq
    have inner : ∀ b, b0 ≤ b → b ≤ b1 → (∀ (t : qH), (q_fr (fun j => j = 50) h1 t ∧ ar t 50 576 (up_at A.W.H a0 a1 b0 b1 w a0 (b + 1))) → q_J l (d + 3) mX10_raise mc ms Q QX h.2 113 [some (.ref 49), some (.int (nI a0)), some (.int (nI a1)), some (.int (nI b0)), some (.int (nI b1)), some (.int w), some (.int m), some (.int (nI (b + 1))), none, none, none] [] t mc ms) →
        ∀ (a : Nat) (t : qH), a ≤ a1 + 1 → (a0 ≤ a ∧ q_fr (fun j => j = 50) h1 t ∧ ar t 50 576 (up_at A.W.H a0 a1 b0 b1 w a b)) → q_J l (d + 3) mX10_raise mc ms Q QX h.2 123 [some (.ref 49), some (.int (nI a0)), some (.int (nI a1)), some (.int (nI b0)), some (.int (nI b1)), some (.int w), some (.int m), some (.int (nI b)), some (.int (nI a)), none, none] [] t mc ms := by
      intro b hb2 hb3 hout
      refine q_loop (fun (a : Nat) (t : qH) => q_J l (d + 3) mX10_raise mc ms Q QX h.2 123 [some (.ref 49), some (.int (nI a0)), some (.int (nI a1)), some (.int (nI b0)), some (.int (nI b1)), some (.int w), some (.int m), some (.int (nI b)), some (.int (nI a)), none, none] [] t mc ms) (fun a t => a0 ≤ a ∧ q_fr (fun j => j = 50) h1 t ∧ ar t 50 576 (up_at A.W.H a0 a1 b0 b1 w a b)) (a1 + 1) ?_ ?_
      · rintro h' ⟨-, f1, r1⟩
        refine v_X10_raise_123 49 _ _ _ _ w m (nI b) (nI (a1 + 1)) ⟨fun _ => ?_, fun q => absurd (nI_lt (by omega) (by omega)) q⟩
        rw [nI_1]
        rw [up_row (by omega)] at r1
        exact hout h' ⟨f1, r1⟩
      · rintro a h' ha2 ⟨ha3, f1, r1⟩ ih
        have hin : inP (nI a) (nI b) := inP_nI (by omega) (by omega)
        have hx : ix (nI a) (nI b) = 24 * b + a := ix_nI (by omega) (by omega)
        have mo' := B.1.fr f1 (by omega)
        refine v_X10_raise_123 49 _ _ _ _ w m (nI b) (nI a) ⟨fun q => absurd q (nI_nlt (by omega) (by omega)), fun _ => e_gr mo' rfl (m_at hin ⟨_, rfl, ?_⟩)⟩
        refine e_al (k := 24 * b + a) r1 (by rw [hx]) (by omega) (by decide) (e_as (k := 24 * b + a) r1 (by rw [hx]) (by omega) (by decide) (fun h2 f2 z2 r2 => ?_))
        rw [up_step ha3 (by omega) hb2 hb3 g2] at r2
        rw [nI_1]
        exact ih h2 ⟨by omega, f1.tt f2, r2⟩
    refine q_loop (fun (b : Nat) (t : qH) => q_J l (d + 3) mX10_raise mc ms Q QX h.2 113 [some (.ref 49), some (.int (nI a0)), some (.int (nI a1)), some (.int (nI b0)), some (.int (nI b1)), some (.int w), some (.int m), some (.int (nI b)), none, none, none] [] t mc ms) (fun b t => b0 ≤ b ∧ q_fr (fun j => j = 50) h1 t ∧ ar t 50 576 (up_at A.W.H a0 a1 b0 b1 w a0 b)) (b1 + 1) ?_ ?_ b0 h1 (by omega) ⟨Nat.le_refl _, q_fr.rf, by rw [up_0]; exact B.2.1.1⟩
    · rintro h' ⟨-, f1, r1⟩
      rw [up_all (by omega)] at r1
      refine v_X10_raise_113 49 _ _ _ _ w m (nI (b1 + 1)) ⟨fun _ => ?_, fun q => absurd (nI_lt (by omega) (by omega)) q⟩
      exact hq h' (f1.mono (fun i _ q => by unfold mS; omega)) (s1.W f1 (fun i q => by omega) ⟨wy, B.1.fr f1 (by omega), ⟨r1, B.2.1.2.1.fr f1 (by omega), B.2.1.2.2.fr f1 (by omega)⟩, B.2.2.1.fr f1 (by omega), B.2.2.2.1.fr f1 (by omega), B.2.2.2.2.1.fr f1 (by omega), B.2.2.2.2.2.1.fr f1 (by omega), B.2.2.2.2.2.2.1.fr f1 (by omega), B.2.2.2.2.2.2.2.fr f1 (by omega)⟩)
    · rintro b h' hb2 ⟨hb3, f1, r1⟩ ih
      refine v_X10_raise_113 49 _ _ _ _ w m (nI b) ⟨fun q => absurd q (nI_nlt (by omega) (by omega)), fun _ => ?_⟩
      exact inner b hb3 (by omega) (fun t hI => ih t ⟨by omega, hI⟩) a0 h' (by omega) ⟨Nat.le_refl _, f1, r1⟩
  -- the first pass
  have inner : ∀ b, b0 ≤ b → b ≤ b1 → (∀ m : Int32, mxB A.W.H a0 a1 b0 b1 w a0 (b + 1) m → q_J l (d + 3) mX10_raise mc ms Q QX h.2 29 [some (.ref 49), some (.int (nI a0)), some (.int (nI a1)), some (.int (nI b0)), some (.int (nI b1)), some (.int w), some (.int m), some (.int (nI (b + 1))), none, none, none] [] h1 mc ms) →
      ∀ (a : Nat) (m : Int32), a ≤ a1 + 1 → (a0 ≤ a ∧ mxB A.W.H a0 a1 b0 b1 w a b m) → q_J l (d + 3) mX10_raise mc ms Q QX h.2 39 [some (.ref 49), some (.int (nI a0)), some (.int (nI a1)), some (.int (nI b0)), some (.int (nI b1)), some (.int w), some (.int m), some (.int (nI b)), some (.int (nI a)), none, none] [] h1 mc ms := by
    intro b hb2 hb3 hout
    refine q_loop (fun (a : Nat) (m : Int32) => q_J l (d + 3) mX10_raise mc ms Q QX h.2 39 [some (.ref 49), some (.int (nI a0)), some (.int (nI a1)), some (.int (nI b0)), some (.int (nI b1)), some (.int w), some (.int m), some (.int (nI b)), some (.int (nI a)), none, none] [] h1 mc ms) (fun a m => a0 ≤ a ∧ mxB A.W.H a0 a1 b0 b1 w a b m) (a1 + 1) ?_ ?_
    · rintro m ⟨-, m1⟩
      refine v_X10_raise_39 49 _ _ _ _ w m (nI b) (nI (a1 + 1)) ⟨fun _ => ?_, fun q => absurd (nI_lt (by omega) (by omega)) q⟩
      rw [nI_1]
      exact hout m ⟨fun p hp hd => m1.1 p hp ((dn_row (by omega)).mpr hd), m1.2.elim Or.inl (fun ⟨p, q1, q2, q3⟩ => Or.inr ⟨p, q1, (dn_row (by omega)).mp q2, q3⟩)⟩
    · rintro a m ha2 ⟨ha3, m1⟩ ih
      have hin : inP (nI a) (nI b) := inP_nI (by omega) (by omega)
      have hx : ix (nI a) (nI b) = 24 * b + a := ix_nI (by omega) (by omega)
      have cell : inR a0 a1 b0 b1 (24 * b + a) := by unfold inR; omega
      refine v_X10_raise_39 49 _ _ _ _ w m (nI b) (nI a) ⟨fun q => absurd q (nI_nlt (by omega) (by omega)), fun _ => e_gr B.1 rfl (m_at hin ⟨_, rfl, e_al (k := 24 * b + a) B.2.1.1 (by rw [hx]) (by omega) (by decide) ⟨fun q => no (fun o => ?_), fun q => ⟨fun q2 => ?_, fun q2 => no (fun o => ?_)⟩⟩⟩)⟩
      · have := o _ (by omega) cell
        rw [l_lo] at q
        omega
      · rw [l_lo] at q
        rw [l_hi] at q2
        rw [nI_1, l_sm32]
        exact ih _ ⟨by omega, mxB_step ha3 (by omega) hb2 hb3 g2 g4 (by omega) m1⟩
      · have := o _ (by omega) cell
        rw [l_hi] at q2
        omega
  refine q_loop (fun (b : Nat) (m : Int32) => q_J l (d + 3) mX10_raise mc ms Q QX h.2 29 [some (.ref 49), some (.int (nI a0)), some (.int (nI a1)), some (.int (nI b0)), some (.int (nI b1)), some (.int w), some (.int m), some (.int (nI b)), none, none, none] [] h1 mc ms) (fun b m => b0 ≤ b ∧ mxB A.W.H a0 a1 b0 b1 w a0 b m) (b1 + 1) ?_ ?_ b0 (-100) (by omega) ⟨Nat.le_refl _, fun p hp hd => absurd hd dn_0, Or.inl rfl⟩
  · rintro m ⟨-, m1⟩
    exact v_X10_raise_29 49 _ _ _ _ w m (nI (b1 + 1)) ⟨fun _ => second m m1, fun q => absurd (nI_lt (by omega) (by omega)) q⟩
  · rintro b m hb2 ⟨hb3, m1⟩ ih
    refine v_X10_raise_29 49 _ _ _ _ w m (nI b) ⟨fun q => absurd q (nI_nlt (by omega) (by omega)), fun _ => ?_⟩
    exact inner b hb3 (by omega) (fun m hI => ih m ⟨by omega, hI⟩) a0 m (by omega) ⟨Nat.le_refl _, m1⟩
theorem m_pave {x0 x1 y0 y1 q z : Int32} (s : MSt h A th) (ok : aOk A) (hz : z = 0 ∨ z = 1) (hq : rm h Q (R_pave A x0 x1 y0 y1 q z)) : q_Ct l (d + 3) mX10_pave [.ref 49, .int x0, .int x1, .int y0, .int y1, .int q, .int z] h mc ms Q QX := by
  unfold R_pave at hq
  refine v_X10_pave 49 _ _ _ _ _ _ (m_start s hq (fun h1 s1 hq => m_isRectangle (fun t => ⟨_, rfl, g_t (m_isW 3 (by decide) rfl (fun t2 => ⟨_, rfl, g_t ?_⟩) (fun t2 => ⟨_, rfl, g_f (m_no 1 rfl s1 (by rw [pif_f (fun r => t2 r.2)] at hq; exact hq))⟩))⟩) (fun t => ⟨_, rfl, g_f (m_no 1 rfl s1 (by rw [pif_f (fun r => t r.1)] at hq; exact hq))⟩)))
  rw [pif_t ⟨t, t2⟩] at hq
  obtain ⟨a0, a1, b0, b1, g1, g2, g3, g4, rfl, rfl, rfl, rfl⟩ := isR_of t
  rw [nI_clamp (by omega), nI_clamp (by omega), nI_clamp (by omega), nI_clamp (by omega)] at hq
  obtain ⟨wy, B⟩ := s1.2.1
  have inner : ∀ b, b0 ≤ b → b ≤ b1 → (∀ (t : qH), (q_fr (fun j => j = 51 ∨ j = 52) h1 t ∧ ar t 51 576 (set_at A.W.R a0 a1 b0 b1 q a0 (b + 1)) ∧ br t 52 576 (set_at A.W.Z a0 a1 b0 b1 z a0 (b + 1))) → q_J l (d + 3) mX10_pave mc ms Q QX h.2 35 [some (.ref 49), some (.int (nI a0)), some (.int (nI a1)), some (.int (nI b0)), some (.int (nI b1)), some (.int q), some (.int z), some (.int (nI (b + 1))), none] [] t mc ms) →
      ∀ (a : Nat) (t : qH), a ≤ a1 + 1 → (a0 ≤ a ∧ q_fr (fun j => j = 51 ∨ j = 52) h1 t ∧ ar t 51 576 (set_at A.W.R a0 a1 b0 b1 q a b) ∧ br t 52 576 (set_at A.W.Z a0 a1 b0 b1 z a b)) → q_J l (d + 3) mX10_pave mc ms Q QX h.2 45 [some (.ref 49), some (.int (nI a0)), some (.int (nI a1)), some (.int (nI b0)), some (.int (nI b1)), some (.int q), some (.int z), some (.int (nI b)), some (.int (nI a))] [] t mc ms := by
    intro b hb2 hb3 hout
    refine q_loop (fun (a : Nat) (t : qH) => q_J l (d + 3) mX10_pave mc ms Q QX h.2 45 [some (.ref 49), some (.int (nI a0)), some (.int (nI a1)), some (.int (nI b0)), some (.int (nI b1)), some (.int q), some (.int z), some (.int (nI b)), some (.int (nI a))] [] t mc ms) (fun a t => a0 ≤ a ∧ q_fr (fun j => j = 51 ∨ j = 52) h1 t ∧ ar t 51 576 (set_at A.W.R a0 a1 b0 b1 q a b) ∧ br t 52 576 (set_at A.W.Z a0 a1 b0 b1 z a b)) (a1 + 1) ?_ ?_
    · rintro h' ⟨-, f1, r1, r2⟩
      refine v_X10_pave_45 49 _ _ _ _ q z (nI b) (nI (a1 + 1)) ⟨fun _ => ?_, fun q => absurd (nI_lt (by omega) (by omega)) q⟩
      rw [nI_1]
      rw [set_row (H := A.W.R) (a := a1 + 1) (by omega)] at r1
      rw [set_row (H := A.W.Z) (a := a1 + 1) (by omega)] at r2
      exact hout h' ⟨f1, r1, r2⟩
    · rintro a h' ha2 ⟨ha3, f1, r1, r2⟩ ih
      have hin : inP (nI a) (nI b) := inP_nI (by omega) (by omega)
      have hx : ix (nI a) (nI b) = 24 * b + a := ix_nI (by omega) (by omega)
      have mo' := B.1.fr f1 (by omega)
      refine v_X10_pave_45 49 _ _ _ _ q z (nI b) (nI a) ⟨fun q => absurd q (nI_nlt (by omega) (by omega)), fun _ => e_gr mo' rfl (m_at hin ⟨_, rfl, ?_⟩)⟩
      refine e_as (k := 24 * b + a) r1 (by rw [hx]) (by omega) (by decide) (fun h2 f2 z2 r3 => ?_)
      rw [set_step ha3 (by omega) hb2 hb3 g2] at r3
      refine e_gr (mo'.fr f2 (by omega)) rfl (m_at hin ⟨_, rfl, e_zs hz (r2.fr f2 (by omega)) (by rw [hx]) (show 24 * b + a < 576 by omega) (by decide) (fun h3 f3 z3 r4 => ?_)⟩)
      rw [set_step ha3 (by omega) hb2 hb3 g2] at r4
      rw [nI_1]
      exact ih h3 ⟨by omega, (f1.t1 f2 (Or.inl rfl)).t1 f3 (Or.inr rfl), r3.fr f3 (by omega), r4⟩
  refine q_loop (fun (b : Nat) (t : qH) => q_J l (d + 3) mX10_pave mc ms Q QX h.2 35 [some (.ref 49), some (.int (nI a0)), some (.int (nI a1)), some (.int (nI b0)), some (.int (nI b1)), some (.int q), some (.int z), some (.int (nI b)), none] [] t mc ms) (fun b t => b0 ≤ b ∧ q_fr (fun j => j = 51 ∨ j = 52) h1 t ∧ ar t 51 576 (set_at A.W.R a0 a1 b0 b1 q a0 b) ∧ br t 52 576 (set_at A.W.Z a0 a1 b0 b1 z a0 b)) (b1 + 1) ?_ ?_ b0 h1 (by omega) ⟨Nat.le_refl _, q_fr.rf, by rw [set_0]; exact B.2.1.2.1, by rw [set_0]; exact B.2.1.2.2⟩
  · rintro h' ⟨-, f1, r1, r2⟩
    rw [set_all (by omega)] at r1 r2
    refine v_X10_pave_35 49 _ _ _ _ q z (nI (b1 + 1)) ⟨fun _ => ?_, fun q => absurd (nI_lt (by omega) (by omega)) q⟩
    exact hq h' (f1.mono (fun i _ q => by unfold mS; omega)) (s1.W f1 (fun i q => by omega) ⟨wy, B.1.fr f1 (by omega), ⟨B.2.1.1.fr f1 (by omega), r1, r2⟩, B.2.2.1.fr f1 (by omega), B.2.2.2.1.fr f1 (by omega), B.2.2.2.2.1.fr f1 (by omega), B.2.2.2.2.2.1.fr f1 (by omega), B.2.2.2.2.2.2.1.fr f1 (by omega), B.2.2.2.2.2.2.2.fr f1 (by omega)⟩)
  · rintro b h' hb2 ⟨hb3, f1, r1⟩ ih
    refine v_X10_pave_35 49 _ _ _ _ q z (nI b) ⟨fun q => absurd q (nI_nlt (by omega) (by omega)), fun _ => ?_⟩
    exact inner b hb3 (by omega) (fun t hI => ih t ⟨by omega, hI⟩) a0 h' (by omega) ⟨Nat.le_refl _, f1, r1⟩
theorem m_ground {x y w : Int32} (s : MSt h A th) (hq : rm h Q (R_ground A x y w)) : q_Ct l (d + 2) mX10_ground [.ref 49, .int x, .int y, .int w] h mc ms Q QX := by
  unfold R_ground at hq
  refine v_X10_ground 49 _ _ _ (m_start s hq (fun h1 s1 hq => m_isPlace (fun t => ⟨_, rfl, g_t (m_isW 2 (by decide) rfl (fun t2 => ⟨_, rfl, g_t (m_at t ⟨_, rfl, ?_⟩)⟩) (fun t2 => ⟨_, rfl, g_f (m_no 1 rfl s1 (by rw [pif_f (fun r => t2 r.2)] at hq; exact hq))⟩))⟩) (fun t => ⟨_, rfl, g_f (m_no 1 rfl s1 (by rw [pif_f (fun r => t r.1)] at hq; exact hq))⟩)))
  rw [pif_t ⟨t, t2⟩] at hq
  have hv := m_ok s1 hq
  obtain ⟨wy, B⟩ := s1.2.1
  have il := ix_lt t
  refine ⟨fun q => ?_, fun q => ⟨fun q2 => ?_, fun q2 => ?_⟩⟩
  · rw [if_pos q] at hv
    exact e_gr B.1 rfl (e_al B.2.1.1 rfl il (by decide) hv)
  · rw [if_neg q, if_pos q2] at hv
    exact e_gr B.1 rfl (e_al B.2.1.2.1 rfl il (by decide) hv)
  · rw [if_neg q, if_neg q2] at hv
    refine e_gr B.1 rfl (e_zl B.2.1.2.2 rfl il (by decide) ⟨fun q3 => ?_, fun q3 => ?_⟩)
    · rw [if_pos q3] at hv; exact hv
    · rw [if_neg q3] at hv; exact hv
theorem m_setSlope {w : Int32} (s : MSt h A th) (hq : rm h Q (R_setSlope A w)) : q_Ct l (d + 1) mX10_setSlope [.ref 49, .int w] h mc ms Q QX := by
  unfold R_setSlope at hq
  refine v_X10_setSlope 49 _ (m_start s hq (fun h1 s1 hq => m_isW 99 (by decide) rfl (fun t => ⟨_, rfl, g_t ?_⟩) (fun t => ⟨_, rfl, g_f (m_no 1 rfl s1 (by rw [pif_f t] at hq; exact hq))⟩)))
  rw [pif_t t] at hq
  obtain ⟨wy, B⟩ := s1.2.1
  refine e_gi B.1 rfl (e_pi B.1 (Nat.le_of_ble_eq_true rfl) (fun h2 f2 z2 mo2 => ?_))
  exact hq h2 (f2.mono (fun i _ q => by unfold mS; omega)) (s1.W f2 (fun i q => by omega) ⟨wy, mo2, B.2.1.fr f2 (fun i a b => by omega), B.2.2.1.fr f2 (by omega), B.2.2.2.1.fr f2 (by omega), B.2.2.2.2.1.fr f2 (by omega), B.2.2.2.2.2.1.fr f2 (by omega), B.2.2.2.2.2.2.1.fr f2 (by omega), B.2.2.2.2.2.2.2.fr f2 (by omega)⟩)
theorem m_sees {x0 y0 x1 y1 : Int32} (s : MSt h A th) (hq : rm h Q (R_sees A x0 y0 x1 y1)) : q_Ct l (d + 3) mX10_sees [.ref 49, .int x0, .int y0, .int x1, .int y1] h mc ms Q QX := by
  unfold R_sees at hq
  have no : ¬ (inP x0 y0 ∧ inP x1 y1) → q_J l (d + 3) mX10_sees mc ms Q QX h.2 22 [some (.ref 49), some (.int x0), some (.int y0), some (.int x1), some (.int y1)] [.ref 49] h mc ms := fun n => by
    rw [pif_f n] at hq
    refine v_X10_sees_22 49 _ _ _ _ 49 (v_X10_sees_23 49 _ _ _ _ 49 1 (m_set s (fun h1 f1 s1 => ?_)))
    obtain ⟨wy, B⟩ := s1.2.1
    exact e_gi B.1 rfl ⟨fun q => absurd q z10, fun _ => hq h1 f1 s1⟩
  refine v_X10_sees 49 _ _ _ _ (m_isPlace (fun t => ⟨_, rfl, g_t (m_isPlace (fun t2 => ⟨_, rfl, g_t ?_⟩) (fun t2 => ⟨_, rfl, g_f (no (fun r => t2 r.2))⟩))⟩) (fun t => ⟨_, rfl, g_f (no (fun r => t r.1))⟩))
  rw [pif_t ⟨t, t2⟩] at hq
  refine v_X10_sees_23 49 _ _ _ _ 49 0 (m_set s (fun h1 f1 s1 => ?_))
  obtain ⟨wy, B⟩ := s1.2.1
  have hv := m_ok s1 (hq.tr f1)
  refine e_gi B.1 rfl ⟨fun _ => e_ob B.1 (m_isSeen B.1 B.2.1 t t2 ⟨_, rfl, ?_⟩), fun q => absurd rfl q⟩
  by_cases e : seeA A.W x0 y0 x1 y1 = true
  · rw [if_pos e] at hv ⊢
    exact g_t hv
  · rw [if_neg e] at hv ⊢
    exact g_f hv
theorem m_addTarget {x y v n : Int32} (hkc : 200 ≤ mc) (hks : 800 ≤ ms) (s : MSt h A th) (ok : aOk A) (hq : rm h Q (R_addTarget A x y v n)) : q_Ct l (d + 2) mX10_addTarget [.ref 49, .int x, .int y, .int v, .int n] h mc ms Q QX := by
  unfold R_addTarget at hq
  refine v_X10_addTarget (by omega) (by omega) 49 _ _ _ _ (m_start s hq (fun h1 s1 hq => m_isPlace (fun t => ⟨_, rfl, g_t ?_⟩) (fun t => ⟨_, rfl, g_f (m_no 1 rfl s1 (by rw [pif_f t] at hq; exact hq))⟩)))
  rw [pif_t t] at hq
  refine m_isBt L_1 L_100 (fun t1 => ⟨_, rfl, g_t (m_isBt L_1 L_4 (fun t2 => ⟨_, rfl, g_t ?_⟩) (fun t2 => ⟨_, rfl, g_f (m_no 2 rfl s1 (by rw [pif_f (fun r => t2 r.2)] at hq; exact hq))⟩))⟩) (fun t1 => ⟨_, rfl, g_f (m_no 2 rfl s1 (by rw [pif_f (fun r => t1 r.1)] at hq; exact hq))⟩)
  rw [pif_t ⟨t1, t2⟩] at hq
  obtain ⟨wy, B⟩ := s1.2.1
  have tn := ok.1.tn
  refine e_gi B.1 rfl ⟨fun q => ?_, fun q => ?_⟩
  · have e : A.W.tn = 12 := (nI_eq (b := 12) (by omega) (by decide)).mp q
    exact m_no 3 rfl s1 (by rw [pif_f (by omega)] at hq; exact hq)
  have lt : A.W.tn < 12 := by
    have : A.W.tn ≠ 12 := fun e => q (by rw [e]; rfl)
    omega
  rw [pif_t lt] at hq
  refine e_ni (S := fun _ => False) (fun h2 f2 z2 b2 => ?_)
  have h83 : 83 ≤ h1.2 := s1.1
  refine e_as (k := 0) (b2.to T4_z) rfl (by decide) (by decide) (fun h3 f3 z3 b3 => ?_)
  refine e_as (k := 1) (b3.to T4_0) rfl (by decide) (by decide) (fun h4 f4 z4 b4 => ?_)
  refine e_as (k := 2) (b4.to T4_1) rfl (by decide) (by decide) (fun h5 f5 z5 b5 => ?_)
  refine e_as (k := 3) (b5.to T4_2) rfl (by decide) (by decide) (fun h6 f6 z6 b6 => ?_)
  have b6 := b6.to T4_3
  have F6 : q_fr (fun j => j = h1.2) h1 h6 := ((((f2.mono (fun i _ q => q.elim)).tt f3).tt f4).tt f5).tt f6
  have fN : q_fr (fun _ => False) h1 h6 := F6.mono (fun i hi q => by omega)
  have B6 := B.fr fN (fun i a b q => q) (fun i a b q => q)
  obtain ⟨F, r0, er⟩ := B6.2.2.1
  refine e_gr B6.1 rfl (e_gi B6.1 rfl (e_cp (a := 0) (b := 4 * A.W.tn) (n := 4) b6 r0 rfl (by rw [n40]; rfl) rfl (by decide) (by omega) (by decide) (by decide) (fun h7 f7 z7 r7 => ?_)))
  have mo7 := B6.1.fr f7 (by omega)
  refine e_gi mo7 rfl (e_pi mo7 (Nat.le_of_ble_eq_true rfl) (fun h8 f8 z8 mo8 => ?_))
  rw [nI_1] at mo8
  refine e_gi mo8 rfl ?_
  have F8 : q_fr (fun j => j = 49 ∨ j = 53) h1 h8 := ((fN.mono (fun i _ q => q.elim)).t1 f7 (Or.inr rfl)).t1 f8 (Or.inl rfl)
  have e1 : nI (A.W.tn + 1) - 1 = nI A.W.tn := nI_pred _
  show Q (some (.int (nI (A.W.tn + 1) - 1))) h8
  rw [e1]
  refine hq h8 (F8.mono (fun i _ q => by unfold mS; omega)) (s1.W F8 (fun i q => by omega) ⟨wy, mo8, B.2.1.fr F8 (fun i a b => by omega), ⟨_, r7.fr f8 (by omega), fun i hi => ?_⟩, B.2.2.2.1.fr F8 (by omega), B.2.2.2.2.1.fr F8 (by omega), B.2.2.2.2.2.1.fr F8 (by omega), B.2.2.2.2.2.2.1.fr F8 (by omega), B.2.2.2.2.2.2.2.fr F8 (by omega)⟩)
  change i < A.W.tn + 1 at hi
  show _ = upd A.W.tx A.W.tn x i ∧ _ = upd A.W.ty A.W.tn y i ∧ _ = upd A.W.tv A.W.tn v i ∧ _ = upd A.W.td A.W.tn n i
  by_cases e : i = A.W.tn
  · subst e
    rw [pk_us, pk_us, pk_us, pk_us, if_pos (by omega), if_pos (by omega), if_pos (by omega), if_pos (by omega)]
    rw [show 0 + (4 * A.W.tn - 4 * A.W.tn) = 0 by omega, show 0 + (4 * A.W.tn + 1 - 4 * A.W.tn) = 1 by omega, show 0 + (4 * A.W.tn + 2 - 4 * A.W.tn) = 2 by omega, show 0 + (4 * A.W.tn + 3 - 4 * A.W.tn) = 3 by omega]
    exact ⟨rfl, rfl, rfl, rfl⟩
  · rw [pk_un e, pk_un e, pk_un e, pk_un e, if_neg (by omega), if_neg (by omega), if_neg (by omega), if_neg (by omega)]
    exact er i (by omega)
theorem T3_z : ∀ p, p < 3 → (0 : Int32) = T4 0 0 0 0 p := fun p hp => T4_z p (by omega)
theorem T3_0 {a b c e v : Int32} : ∀ p, p < 3 → upd (T4 a b c e) 0 v p = T4 v b c e p := fun p hp => T4_0 p (by omega)
theorem T3_1 {a b c e v : Int32} : ∀ p, p < 3 → upd (T4 a b c e) 1 v p = T4 a v c e p := fun p hp => T4_1 p (by omega)
theorem T3_2 {a b c e v : Int32} : ∀ p, p < 3 → upd (T4 a b c e) 2 v p = T4 a b v e p := fun p hp => T4_2 p (by omega)
theorem m_addPass {a b r : Int32} (hkc : 200 ≤ mc) (hks : 800 ≤ ms) (s : MSt h A th) (ok : aOk A) (hq : rm h Q (R_addPass A a b r)) : q_Ct l (d + 1) mX10_addPass [.ref 49, .int a, .int b, .int r] h mc ms Q QX := by
  unfold R_addPass at hq
  refine v_X10_addPass (by omega) (by omega) 49 _ _ _ (m_start s hq (fun h1 s1 hq => m_isBt L_0 L_1439 (fun t => ⟨_, rfl, g_t ?_⟩) (fun t => ⟨_, rfl, g_f (m_no 1 rfl s1 (by rw [pif_f (fun r => t r.1)] at hq; exact hq))⟩)))
  have ea : (a + 1).toInt = a.toInt + 1 := by
    have := t.1
    have := t.2
    rw [fb_addI, L_1] <;> rw [L_1] <;> omega
  refine m_isBt (j := 1440) ea L_1440 (fun t1 => ⟨_, rfl, g_t (m_isBt L_1 L_20 (fun t2 => ⟨_, rfl, g_t ?_⟩) (fun t2 => ⟨_, rfl, g_f (m_no 1 rfl s1 (by rw [pif_f (fun r => t2 r.2.2.2)] at hq; exact hq))⟩))⟩) (fun t1 => ⟨_, rfl, g_f (m_no 1 rfl s1 (by rw [pif_f (fun r => t1 ⟨by have := r.2.1; omega, r.2.2.1⟩)] at hq; exact hq))⟩)
  rw [pif_t ⟨t, by have := t1.1; omega, t1.2, t2⟩] at hq
  obtain ⟨wy, B⟩ := s1.2.1
  have pn := ok.1.pn
  refine e_gi B.1 rfl ⟨fun q => ?_, fun q => ?_⟩
  · have e : A.W.pn = 6 := (nI_eq (b := 6) (by omega) (by decide)).mp q
    exact m_no 2 rfl s1 (by rw [pif_f (by omega)] at hq; exact hq)
  have lt : A.W.pn < 6 := by
    have : A.W.pn ≠ 6 := fun e => q (by rw [e]; rfl)
    omega
  rw [pif_t lt] at hq
  refine e_ni (S := fun _ => False) (fun h2 f2 z2 b2 => ?_)
  have h83 : 83 ≤ h1.2 := s1.1
  refine e_as (k := 0) (b2.to T3_z) rfl (by decide) (by decide) (fun h3 f3 z3 b3 => ?_)
  refine e_as (k := 1) (b3.to T3_0) rfl (by decide) (by decide) (fun h4 f4 z4 b4 => ?_)
  refine e_as (k := 2) (b4.to T3_1) rfl (by decide) (by decide) (fun h6 f6 z6 b6 => ?_)
  have b6 := b6.to T3_2
  have F6 : q_fr (fun j => j = h1.2) h1 h6 := (((f2.mono (fun i _ q => q.elim)).tt f3).tt f4).tt f6
  have fN : q_fr (fun _ => False) h1 h6 := F6.mono (fun i hi q => by omega)
  have B6 := B.fr fN (fun i a b q => q) (fun i a b q => q)
  obtain ⟨F, r0, er⟩ := B6.2.2.2.1
  refine e_gr B6.1 rfl (e_gi B6.1 rfl (e_cp (a := 0) (b := 3 * A.W.pn) (n := 3) b6 r0 rfl (by rw [n30]; rfl) rfl (by decide) (by omega) (by decide) (by decide) (fun h7 f7 z7 r7 => ?_)))
  have mo7 := B6.1.fr f7 (by omega)
  refine e_gi mo7 rfl (e_pi mo7 (Nat.le_of_ble_eq_true rfl) (fun h8 f8 z8 mo8 => ?_))
  rw [nI_1] at mo8
  refine e_gi mo8 rfl ?_
  have F8 : q_fr (fun j => j = 49 ∨ j = 54) h1 h8 := ((fN.mono (fun i _ q => q.elim)).t1 f7 (Or.inr rfl)).t1 f8 (Or.inl rfl)
  refine hq h8 (F8.mono (fun i _ q => by unfold mS; omega)) (s1.W F8 (fun i q => by omega) ⟨wy, mo8, B.2.1.fr F8 (fun i a b => by omega), B.2.2.1.fr F8 (by omega), ⟨_, r7.fr f8 (by omega), fun i hi => ?_⟩, B.2.2.2.2.1.fr F8 (by omega), B.2.2.2.2.2.1.fr F8 (by omega), B.2.2.2.2.2.2.1.fr F8 (by omega), B.2.2.2.2.2.2.2.fr F8 (by omega)⟩)
  change i < A.W.pn + 1 at hi
  show _ = upd A.W.pf A.W.pn a i ∧ _ = upd A.W.pt A.W.pn b i ∧ _ = upd A.W.pr A.W.pn r i
  by_cases e : i = A.W.pn
  · subst e
    rw [pk_us, pk_us, pk_us, if_pos (by omega), if_pos (by omega), if_pos (by omega)]
    rw [show 0 + (3 * A.W.pn - 3 * A.W.pn) = 0 by omega, show 0 + (3 * A.W.pn + 1 - 3 * A.W.pn) = 1 by omega, show 0 + (3 * A.W.pn + 2 - 3 * A.W.pn) = 2 by omega]
    exact ⟨rfl, rfl, rfl⟩
  · rw [pk_un e, pk_un e, pk_un e, if_neg (by omega), if_neg (by omega), if_neg (by omega)]
    exact er i (by omega)
end MP1
