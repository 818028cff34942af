/-! the model: ways told -/
def T4 (a b c e : Int32) : Nat → Int32 := fun k => if k = 0 then a else if k = 1 then b else if k = 2 then c else e
theorem T4_0 {a b c e v : Int32} : ∀ p, p < 4 → upd (T4 a b c e) 0 v p = T4 v b c e p
  | 0, _ => rfl
  | 1, _ => rfl
  | 2, _ => rfl
  | 3, _ => rfl
theorem T4_1 {a b c e v : Int32} : ∀ p, p < 4 → upd (T4 a b c e) 1 v p = T4 a v c e p
  | 0, _ => rfl
  | 1, _ => rfl
  | 2, _ => rfl
  | 3, _ => rfl
theorem T4_2 {a b c e v : Int32} : ∀ p, p < 4 → upd (T4 a b c e) 2 v p = T4 a b v e p
  | 0, _ => rfl
  | 1, _ => rfl
  | 2, _ => rfl
  | 3, _ => rfl
theorem T4_3 {a b c e v : Int32} : ∀ p, p < 4 → upd (T4 a b c e) 3 v p = T4 a b c v p
  | 0, _ => rfl
  | 1, _ => rfl
  | 2, _ => rfl
  | 3, _ => rfl
theorem T4_z : ∀ p, p < 4 → (0 : Int32) = T4 0 0 0 0 p
  | 0, _ => rfl
  | 1, _ => rfl
  | 2, _ => rfl
  | 3, _ => rfl
theorem sumA_0 {H R Z : Nat → Int32} {s : Int32} {c : Nat → Nat} {b : Bool} {p : Nat} {a : Int32} (h : c p = 0) : ∀ n, sumA H R Z s c b n p a = a
  | 0 => rfl
  | n + 1 => by rw [sumA, if_pos h]
theorem isW_of3 {w : Int32} {n : Nat} (hn : n < 2 ^ 31) (h : isW w n) : ∃ k, k ≤ n ∧ w = nI k := by
  refine ⟨w.toNatClampNeg, ?_, nI_ofI h.1⟩
  have e : w.toNatClampNeg = w.toInt.toNat := rfl
  have := h.1
  have := h.2
  omega
section MDW
variable {l : Launch} {d mc ms : Nat} {Q : Option Value → qH → Prop} {QX : String → qH → Prop} {h : qH} {A : ST} {th : Int32}
theorem m_way {x0 y0 x1 y1 w : Int32} (hkc : 200 ≤ mc) (hks : 800 ≤ ms) (s : MSt h A th) (ok : aOk A) (hq : rm h Q (R_way A x0 y0 x1 y1 w)) : q_Ct l (d + 4) mX10_way [.ref 49, .int x0, .int y0, .int x1, .int y1, .int w] h mc ms Q QX := by
  have far : FARn = 1000000 := rfl
  unfold R_way at hq
  refine v_X10_way (by omega) (by omega) 49 _ _ _ _ _ (m_start s hq (fun h1 s1 hq => m_isPlace (fun t0 => ⟨_, rfl, g_t (m_isPlace (fun t1 => ⟨_, rfl, g_t (m_isW 3 (by decide) rfl (fun t2 => ⟨_, rfl, g_t ?_⟩) (fun t => ⟨_, rfl, g_f (m_no 1 rfl s1 (by rw [pif_f (fun r => t r.2.2)] at hq; exact hq))⟩))⟩) (fun t => ⟨_, rfl, g_f (m_no 1 rfl s1 (by rw [pif_f (fun r => t r.2.1)] at hq; exact hq))⟩))⟩) (fun t => ⟨_, rfl, g_f (m_no 1 rfl s1 (by rw [pif_f (fun r => t r.1)] at hq; exact hq))⟩)))
  rw [pif_t ⟨t0, t1, t2⟩] at hq
  have ok1 := ok.1
  obtain ⟨s83, ⟨wy, B1⟩, v1, u1, p1, k1, w1⟩ := id s1
  refine e_ob B1.1 (m_reckon_to B1.1 B1.2.1 ok1.g ok1 t1 rfl B1.2.2.2.2.1 B1.2.2.2.2.2.1 B1.2.2.2.2.2.2.1 (fun h2 f2 z2 L c1 c2 c3 => ⟨rfl, ?_⟩))
  have B2 := MB_rS B1 f2 ⟨_, c1⟩ c2 c3
  have s2 : MSt h2 A 0 := s1.up f2 (fun i q a b => by unfold rS at q; omega) ⟨_, B2⟩ (u1.fr f2 (by unfold rS; omega)) (w1.fr f2 (by unfold rS; omega))
  have hq2 : rm h2 Q _ := hq.tr (f2.mono (fun i _ q => by unfold rS at q; unfold mS; omega))
  have hcl : ∀ u, u < 576 → C_to A.W (ix x1 y1) u ≤ FARn := fun u _ => theC_le
  have g0 : ∀ {u : Nat}, u < 576 → ¬ (px u = x1 ∧ py u = y1) → C_to A.W (ix x1 y1) u ≠ 0 := fun hu b => by
    have := goal_0 ok1 (inP_p hu) t1 b
    rwa [ix_p hu] at this
  have c9 : C_to A.W (ix x1 y1) (ix x1 y1) = 0 := L.2.1
  unfold wayA at hq2
  generalize C_to A.W (ix x1 y1) = c at hq2 L c1 hcl g0 c9
  have hp := ix_lt t0
  have pe := p_ix t0
  refine e_gr B2.1 rfl (m_at t0 ⟨_, rfl, e_al c1 rfl hp (by decide) ⟨fun q => ?_, fun q => ?_⟩⟩)
  · have nf : ¬ c (ix x0 y0) < FARn := fun r => by
      have := (nI_eq (a := c (ix x0 y0)) (b := 1000000) (by omega) (by decide)).mp q
      omega
    have e1 : cv c (ix x0 y0) = -1 := cv_f nf
    have e2 : dirR A.W.H A.W.R A.W.Z A.W.s c (ix x0 y0) = -1 := by unfold dirR; rw [if_neg (fun r => nf r.1)]
    rw [e1, e2, if_neg nf] at hq2
    have hv := m_ok s2 hq2
    by_cases a : w = 0
    · rw [if_pos a] at hv; exact hv
    · rw [if_neg a] at hv
      by_cases b : w = 3
      · rw [if_pos b] at hv; exact hv
      · rw [if_neg b] at hv; exact hv
  have hf : c (ix x0 y0) < FARn := by
    have := hcl _ hp
    have : c (ix x0 y0) ≠ 1000000 := fun r => q (by show nI (c (ix x0 y0)) = nI 1000000; rw [r])
    omega
  rw [if_pos hf, cv_t hf] at hq2
  refine e_ni (S := fun _ => False) (fun h3 f3 z3 b3 => ?_)
  have c13 := c1.fr f3 (fun q => q)
  have B3 := B2.fr f3 (fun i a b q => q) (fun i a b q => q)
  refine e_gr B3.1 rfl (m_at t0 ⟨_, rfl, e_al c13 rfl hp (by decide) ?_⟩)
  generalize hpp : ix x0 y0 = p at hq2 hp pe hf ⊢
  refine e_as (k := 0) (b3.to T4_z) rfl (by decide) (by decide) (fun h4 f4 z4 b4 => ?_)
  refine e_as (k := 1) (b4.to T4_0) rfl (by decide) (by decide) (fun h5 f5 z5 b5 => ?_)
  refine e_as (k := 2) (b5.to T4_1) rfl (by decide) (by decide) (fun h6 f6 z6 b6 => ?_)
  refine e_as (k := 3) (b6.to T4_2) rfl (by decide) (by decide) (fun h7 f7 z7 b7 => ?_)
  have b8 := b7.to T4_3
  have fr0 : q_fr (fun j => j = h2.2) h2 h7 := ((((f3.mono (fun i _ q => q.elim)).tt f4).tt f5).tt f6).tt f7
  obtain ⟨k9, hk9, rfl⟩ := isW_of3 (by decide) t2
  obtain ⟨rfl, rfl⟩ := pe
  have out : ∀ (i u : Nat) (E dd : Int32) (h' : qH), q_fr (fun j => j = h2.2) h2 h' → c u = 0 → sumA A.W.H A.W.R A.W.Z A.W.s c true (576 - i) u E = sumA A.W.H A.W.R A.W.Z A.W.s c true 576 p 0 → sumA A.W.H A.W.R A.W.Z A.W.s c false (576 - i) u (nI i) = sumA A.W.H A.W.R A.W.Z A.W.s c false 576 p 0 → ar h' h2.2 4 (T4 (nI (c p)) E (nI i) dd) → ((i = 0 ∧ u = p ∧ dd = -1) ∨ (0 < i ∧ c p ≠ 0 ∧ dd = nI (dirA A.W.H A.W.R A.W.Z A.W.s c p))) → qAL h' h2.2 (nI k9) (fun z => Q (some (.int z)) h') := by
    intro i u E dd h' f c0 e1 e2 b dc
    rw [sumA_0 c0] at e1 e2
    have fN : q_fr (fun _ => False) h2 h' := f.mono (fun i hi q => by omega)
    have s' : MSt h' A 0 := s2.up fN (fun i q => q.elim) ⟨_, B2.fr fN (fun i a b q => q) (fun i a b q => q)⟩ (s2.2.2.2.1.fr fN (fun q => q)) (s2.2.2.2.2.2.2.fr fN (fun q => q))
    have hv := m_ok s' (hq2.tr (fN.mono (fun i _ q => q.elim)))
    refine e_al (k := k9) b rfl (by omega) (by decide) ?_
    have k4 : k9 = 0 ∨ k9 = 1 ∨ k9 = 2 ∨ k9 = 3 := by omega
    rcases k4 with rfl | rfl | rfl | rfl
    · rw [if_pos (show nI 0 = 0 from rfl)] at hv
      exact hv
    · rw [if_neg (show ¬ nI 1 = 0 by decide), if_neg (show ¬ nI 1 = 3 by decide), show decide (nI 1 = 1) = true from decide_eq_true rfl, ← e1] at hv
      exact hv
    · rw [if_neg (show ¬ nI 2 = 0 by decide), if_neg (show ¬ nI 2 = 3 by decide), show decide (nI 2 = 1) = false from decide_eq_false (by decide), ← e2] at hv
      exact hv
    · rw [if_neg (show ¬ nI 3 = 0 by decide), if_pos (show nI 3 = 3 from rfl)] at hv
      have ed : dirR A.W.H A.W.R A.W.Z A.W.s c p = dd := by
        unfold dirR
        rcases dc with ⟨a1, a2, a3⟩ | ⟨a1, a2, a3⟩
        · rw [if_neg (fun r => r.2 (by rw [← a2]; exact c0)), a3]
        · rw [if_pos ⟨hf, a2⟩, a3]
      rw [ed] at hv
      exact hv
  have goal : ∀ {u : Nat}, u < 576 → px u = x1 ∧ py u = y1 → c u = 0 := fun hu r => by
    have e := ix_p hu
    rw [r.1, r.2] at e
    rw [← e]; exact c9
  refine q_loop (fun i (st : (Nat × Int32 × Int32) × qH) => q_J l (d + 4) mX10_way mc ms Q QX h.2 99 [some (.ref 49), some (.int (px p)), some (.int (py p)), some (.int x1), some (.int y1), some (.int (nI k9)), some (.ref h2.2), some (.int (px st.1.1)), some (.int (py st.1.1)), none] [] st.2 (mc - 1) (ms - 4))
    (fun i st => q_fr (fun j => j = h2.2) h2 st.2 ∧ st.1.1 < 576 ∧ c st.1.1 < FARn ∧ chp c (c st.1.1) + i ≤ 576 ∧ sumA A.W.H A.W.R A.W.Z A.W.s c true (576 - i) st.1.1 st.1.2.1 = sumA A.W.H A.W.R A.W.Z A.W.s c true 576 p 0 ∧ sumA A.W.H A.W.R A.W.Z A.W.s c false (576 - i) st.1.1 (nI i) = sumA A.W.H A.W.R A.W.Z A.W.s c false 576 p 0 ∧ ar st.2 h2.2 4 (T4 (nI (c p)) st.1.2.1 (nI i) st.1.2.2) ∧ ((i = 0 ∧ st.1.1 = p ∧ st.1.2.2 = -1) ∨ (0 < i ∧ c p ≠ 0 ∧ st.1.2.2 = nI (dirA A.W.H A.W.R A.W.Z A.W.s c p)))) 576 ?_ ?_ 0 ((p, 0, -1), h7) (by omega)
    ⟨fr0, hp, hf, by have := chp_le c (c p); simpa using this, rfl, rfl, b8, Or.inl ⟨rfl, rfl, rfl⟩⟩
  · rintro ⟨⟨u, E, dd⟩, h'⟩ ⟨f, hu, hf', hch, e1, e2, b', dc⟩
    dsimp only at f hu hf' hch e1 e2 b' dc ⊢
    have c0 : c u = 0 := chp_0 L.1 L.2.1 (by omega)
    have at9 : px u = x1 ∧ py u = y1 := Classical.byContradiction fun q => g0 hu q c0
    exact v_X10_way_99 49 _ _ _ _ _ _ _ _ ⟨fun _ => ⟨fun _ => out _ _ _ _ _ f c0 e1 e2 b' dc, fun q => absurd at9.2 q⟩, fun q => absurd at9.1 q⟩
  · rintro i ⟨⟨u, E, dd⟩, h'⟩ hi ⟨f, hu, hf', hch, e1, e2, b', dc⟩ ih
    dsimp only at f hu hf' hch e1 e2 b' dc ⊢
    have fN : q_fr (fun _ => False) h2 h' := f.mono (fun i hi q => by omega)
    have B' := B2.fr fN (fun i a b q => q) (fun i a b q => q)
    have c1' := c1.fr fN (fun q => q)
    have step : ¬ (px u = x1 ∧ py u = y1) → q_J l (d + 4) mX10_way mc ms Q QX h.2 112 [some (.ref 49), some (.int (px p)), some (.int (py p)), some (.int x1), some (.int y1), some (.int (nI k9)), some (.ref h2.2), some (.int (px u)), some (.int (py u)), none] [] h' (mc - 1) (ms - 4) := by
      intro ne
      have n0 := g0 hu ne
      have dk := dir_ok ok1.g L hu hf' n0
      have nx := nxt_ok ok1.g L hu hf' n0
      rw [show 576 - i = (576 - (i + 1)) + 1 by omega, sumA, if_neg n0] at e1 e2
      have e1' : sumA A.W.H A.W.R A.W.Z A.W.s c true (576 - (i + 1)) (nb u (dirA A.W.H A.W.R A.W.Z A.W.s c u)) (E + sp_eng A.W.H A.W.R u (dirA A.W.H A.W.R A.W.Z A.W.s c u)) = sumA A.W.H A.W.R A.W.Z A.W.s c true 576 p 0 := e1
      have e2' : sumA A.W.H A.W.R A.W.Z A.W.s c false (576 - (i + 1)) (nb u (dirA A.W.H A.W.R A.W.Z A.W.s c u)) (nI i + 1) = sumA A.W.H A.W.R A.W.Z A.W.s c false 576 p 0 := e2
      rw [nI_1] at e2'
      have nx1 : c (nb u (dirA A.W.H A.W.R A.W.Z A.W.s c u)) < c u := nx.2.1
      have nx2 : c (nb u (dirA A.W.H A.W.R A.W.Z A.W.s c u)) < FARn := nx.2.2.1
      refine v_X10_way_112 49 _ _ _ _ _ _ _ _ (e_ob B'.1 (m_direction B'.1 B'.2.1 ok1.g L c1' hcl hu hf' n0 ⟨_, rfl, ?_⟩))
      have hdu : u = p → dirA A.W.H A.W.R A.W.Z A.W.s c u = dirA A.W.H A.W.R A.W.Z A.W.s c p := fun e => by rw [e]
      generalize dirA A.W.H A.W.R A.W.Z A.W.s c u = k at dk e1' e2' nx1 nx2 hdu ⊢
      have pe2 : px (nb u k) = px u + q_dx k ∧ py (nb u k) = py u + q_dy k := p_ix dk.2.1.1
      have behind : ∀ (h3 : qH) (d2 : Int32), q_fr (fun j => j = h2.2) h2 h3 → ar h3 h2.2 4 (T4 (nI (c p)) E (nI i) d2) → (c p ≠ 0 ∧ d2 = nI (dirA A.W.H A.W.R A.W.Z A.W.s c p)) → q_J l (d + 4) mX10_way mc ms Q QX h.2 135 [some (.ref 49), some (.int (px p)), some (.int (py p)), some (.int x1), some (.int y1), some (.int (nI k9)), some (.ref h2.2), some (.int (px u)), some (.int (py u)), some (.int (nI k))] [] h3 (mc - 1) (ms - 4) := by
        intro h3 d2 f3 b3 dc3
        have fN3 : q_fr (fun _ => False) h2 h3 := f3.mono (fun i hi q => by omega)
        have B3 := B2.fr fN3 (fun i a b q => q) (fun i a b q => q)
        refine v_X10_way_135 49 _ _ _ _ _ _ _ _ _ (e_al (k := 1) b3 rfl (by decide) (by decide) (e_ob B3.1 (m_energy B3.1 B3.2.1 hu dk.1 dk.2.1.1 ⟨_, rfl, e_as (k := 1) b3 rfl (by decide) (by decide) (fun h4 f4 z4 b4 => ?_)⟩)))
        have b4 := b4.to T4_1
        refine e_al (k := 2) b4 rfl (by decide) (by decide) (e_as (k := 2) b4 rfl (by decide) (by decide) (fun h5 f5 z5 b5 => e_sl rfl dk.1 (e_sl rfl dk.1 ?_)))
        have b5 : ar h5 h2.2 4 (T4 (nI (c p)) (E + sp_eng A.W.H A.W.R u k) (nI i + 1) d2) := b5.to T4_2
        rw [nI_1] at b5
        have ih := ih ((nb u k, E + sp_eng A.W.H A.W.R u k, d2), h5) ⟨(f3.tt f4).tt f5, nb_lt dk.2.1.1, nx2, by have := chp_lt (c := c) (v := nb u k) (t := c u) (nb_lt dk.2.1.1) nx1; show chp c (c (nb u k)) + (i + 1) ≤ 576; omega, e1', e2', b5, Or.inr ⟨Nat.succ_pos i, dc3⟩⟩
        dsimp only at ih
        rw [pe2.1, pe2.2] at ih
        exact ih
      refine e_al (k := 2) b' rfl (by decide) (by decide) ?_
      show qIF (nI i = 0) _ _
      rcases dc with ⟨a1, a2, a3⟩ | ⟨a1, a2, a3⟩
      · subst a1
        refine ⟨fun _ => e_as (k := 3) b' rfl (by decide) (by decide) (fun h3 f3 z3 b3 => behind h3 (nI k) (f.tt f3) (b3.to T4_3) ⟨by rw [← a2]; exact n0, by rw [hdu a2]⟩), fun q => absurd rfl q⟩
      · exact ⟨fun q => absurd q (nI_ne0 a1 (by omega)), fun _ => behind h' dd f b' ⟨a2, a3⟩⟩
    refine v_X10_way_99 49 _ _ _ _ _ _ _ _ ⟨fun q1 => ⟨fun q2 => ?_, fun q => step (fun r => q r.2)⟩, fun q => step (fun r => q r.1)⟩
    exact out _ _ _ _ _ f (goal hu ⟨q1, q2⟩) e1 e2 b' dc
end MDW
