/-! THE LAW: one pair of activities; the whole -/
def LI (h : qH) (tr : Nat → Nat) (L : PL) (m pl : Nat) (e : Int32) (j : Nat) (A : ST) : Prop := TW h tr A ∧ aOk A ∧ (A.L.n = L.n - 2 * j ∧ ∀ i, A.L.k i = L.k (2 * j + i) ∧ A.L.a i = L.a (2 * j + i) ∧ A.L.b i = L.b (2 * j + i)) ∧ zD A.D ∧ A.D.n = j ∧ 20 ≤ A.P.cl.toInt ∧ (∃ out, chn A.W e L (m - j) out (2 * j) A.P A.D) ∧ PR h pl (2 * m) L
theorem kd_12 {W : WS} {t : Nat} : kdA W t = 1 ∨ kdA W t = 2 := by
  unfold kdA
  split
  · exact Or.inr rfl
  · exact Or.inl rfl
section LW1
variable {l : Launch} {d mc ms : Nat} {Q : Option Value → qH → Prop} {QX : String → qH → Prop} {h : qH} {tr : Nat → Nat} {A : ST}
theorem LI_next {m pl j : Nat} {L : PL} {e : Int32} {P2 : PH} {D2 : DT} (T : TW h tr (((A.uP P2).uD D2).uL (dropA A.L 2))) (ok : aOk (((A.uP P2).uD D2).uL (dropA A.L 2))) (Ld : A.L.n = L.n - 2 * j ∧ ∀ i, A.L.k i = L.k (2 * j + i) ∧ A.L.a i = L.a (2 * j + i) ∧ A.L.b i = L.b (2 * j + i)) (z : zD D2) (n : D2.n = j + 1) (cl : 20 ≤ P2.cl.toInt) (rest : ∃ out, chn A.W e L (m - (j + 1)) out (2 * j + 2) P2 D2) (p : PR h pl (2 * m) L) :
    LI h tr L m pl e (j + 1) (((A.uP P2).uD D2).uL (dropA A.L 2)) := by
  have dl := dropA_at 2 A.L
  refine ⟨T, ok, ⟨?_, fun i => ?_⟩, z, n, cl, rest, p⟩
  · show (dropA A.L 2).n = L.n - 2 * (j + 1)
    rw [dl.1, Ld.1]
    omega
  · show (dropA A.L 2).k i = L.k (2 * (j + 1) + i) ∧ (dropA A.L 2).a i = L.a (2 * (j + 1) + i) ∧ (dropA A.L 2).b i = L.b (2 * (j + 1) + i)
    have g := Ld.2 (2 + i)
    rw [show 2 * j + (2 + i) = 2 * (j + 1) + i by omega] at g
    rw [(dl.2 i).1, (dl.2 i).2.1, (dl.2 i).2.2]
    exact g
theorem law_pair {n0 kc ks m pl j : Nat} {L : PL} {e : Int32} (hl0 : l.stackTraces = false) (hkc : 240 ≤ kc) (hks : 2700 ≤ ks) (I : LI h tr L m pl e j A) (hj : j < m) (hm : m ≤ 20) (hL : L.n = 2 * m)
    (hq : ∀ h' A' kc' ks', LI h' tr L m pl e (j + 1) A' → kc ≤ kc' + 240 → ks ≤ ks' + 2700 → q_J l (d + 9) mL_law mc ms Q QX n0 147 [some (.float 4), some (.ref 0), some (.ref 49), some (.int e), some (.int (nI (2 * m))), some (.ref pl), some (.int (nI (2 * (j + 1)))), none, none, none, none, none, none] [] h' kc' ks') :
    q_J l (d + 9) mL_law mc ms Q QX n0 147 [some (.float 4), some (.ref 0), some (.ref 49), some (.int e), some (.int (nI (2 * m))), some (.ref pl), some (.int (nI (2 * j))), none, none, none, none, none, none] [] h kc ks := by
  obtain ⟨T, ok, Ld, z, dn, cl, ⟨out, ch⟩, p⟩ := I
  have htn := ok.1.tn
  rw [show m - j = m - (j + 1) + 1 by omega] at ch
  obtain ⟨t, out', ⟨ht, hn⟩, ⟨a1, a2, a3⟩, ⟨b1, b2, b3⟩, ⟨c1, c2, c3⟩, hb, ho, hmono, rest⟩ := ch
  have np := (nearA_t hn).1
  have gd := (nearA_t hn).2
  change nrA A.W A.P A.D t < 576 at np
  have hpos := ok.2.1.1.1
  have small := lc_small (gB_fr ok.1.g) (C_fr_lc ok.1 (ix_lt hpos)) np gd.2.1
  have w0 : ¬ wrt A t < 0 := by
    have : wrt A t = itsA A.W (C_fr A.W (ix A.P.x A.P.y)) t (nrA A.W A.P A.D t) := by unfold wrt; rw [if_neg hn]
    rw [this, lt_i, L_0]
    have := its_pos ok.1 ht small
    omega
  have rA : ∀ {h'}, PR h' pl (2 * m) L → ar h' (pl + 1 + 2 * j) 3 (rw3 0 (px (nrA A.W A.P A.D t)) (py (nrA A.W A.P A.D t))) := fun q => by
    have := q.2.2 (2 * j) (by omega)
    rw [a1, a2, a3] at this
    exact this
  have rB : ∀ {h'}, PR h' pl (2 * m) L → ar h' (pl + 1 + (2 * j + 1)) 3 (rw3 (kdA A.W t) (nI t) 5) := fun q => by
    have := q.2.2 (2 * j + 1) (by omega)
    rw [b1, b2, b3] at this
    exact this
  have i0 : 2 * j < 2 * m := by omega
  have i1 : 2 * j + 1 < 2 * m := by omega
  have i31 : 2 * m < 2 ^ 31 := by omega
  obtain ⟨c, K, pp, pr, s⟩ := id T
  -- the activities and the nearest place
  have go206 : ∀ y1 : Int32, kdA A.W t = y1 → q_J l (d + 9) mL_law mc ms Q QX n0 206 [some (.float 4), some (.ref 0), some (.ref 49), some (.int e), some (.int (nI (2 * m))), some (.ref pl), some (.int (nI (2 * j))), some (.int (nI t)), some (.int (A.W.td t)), none, none, none, none] [.int y1, .int (kdA A.W t)] h kc ks := by
    intro y1 hy1
    refine v_L_law_206 (by omega) (by omega) 0 49 e _ pl _ (nI t) (A.W.td t) _ _ ⟨fun _ => e_o4 p.2.1 (nI_1 _) i1 i31 rfl (e_al (k := 2) (rB p) rfl (by decide) (by decide) ⟨fun _ => s_worth (d := d + 1) hl0 (by decide) (by decide) T ok ht (fun h1 f1 cs1 => ⟨_, rfl, ⟨fun q => absurd q w0, fun _ => e_ob cs1.o (c_nearest (d := d + 2) hl0 (by decide) (by decide) (by decide) cs1 ok ?_)⟩⟩), fun q => absurd rfl q⟩), fun q => absurd hy1 q⟩
    rw [R_near ok ht]
    refine rs_i (fun h2 f2 cs2 => ?_)
    have p2 : PR h2 pl (2 * m) L := (p.fr f1 (fun i q => cl50 q)).fr f2 (fun i q => cl50 q)
    have T2 := T.fr (f1.tt f2) cs2
    refine e_o4 p2.2.1 rfl i0 i31 rfl (e_al (k := 1) (rA p2) rfl (by decide) (by decide) (e_o4 p2.2.1 rfl i0 i31 rfl (e_al (k := 2) (rA p2) rfl (by decide) (by decide) ⟨fun _ => ?_, fun q => absurd ?_ q⟩)))
    rotate_left
    · show neaA A t = 100 * px (nrA A.W A.P A.D t) + py (nrA A.W A.P A.D t)
      unfold neaA
      exact if_neg hn
    -- no other target
    refine law_others hl0 (by omega) (by omega) T2 ok p2 hm (by omega) ht (fun u hu hbt i hji hi => ?_) (fun h3 x kc3 ks3 f3 cs3 k3 q3 => ?_)
    · have hru : nrA A.W A.P A.D u ≠ 576 := fun r => by
        have e1 : wrt A u = -1 := by unfold wrt; rw [if_pos r]
        refine hbt.1 ?_
        rw [e1, lt_i, M_1]
        rw [lt_i, L_0] at w0
        omega
      have e1 : wrt A u = itsA A.W (C_fr A.W (ix A.P.x A.P.y)) u (nrA A.W A.P A.D u) := by unfold wrt; rw [if_neg hru]
      have e2 : wrt A t = itsA A.W (C_fr A.W (ix A.P.x A.P.y)) t (nrA A.W A.P A.D t) := by unfold wrt; rw [if_neg hn]
      have hbu : btr A.W (C_fr A.W (ix A.P.x A.P.y)) A.D u t := by
        show (itsA A.W (C_fr A.W (ix A.P.x A.P.y)) t (nrA A.W A.P A.D t)).toInt < (itsA A.W (C_fr A.W (ix A.P.x A.P.y)) u (nrA A.W A.P A.D u)).toInt ∨ ((itsA A.W (C_fr A.W (ix A.P.x A.P.y)) u (nrA A.W A.P A.D u)).toInt = (itsA A.W (C_fr A.W (ix A.P.x A.P.y)) t (nrA A.W A.P A.D t)).toInt ∧ u < t)
        rw [← e1, ← e2]
        have h1 := hbt.1
        rw [lt_i] at h1
        by_cases h2 : wrt A u = wrt A t
        · exact Or.inr ⟨by rw [h2], hbt.2 h2⟩
        · rw [eq_i] at h2
          exact Or.inl (by omega)
      have hou := hb u hu hru hbu
      have hut : u ≠ t := fun q => by
        rw [q, ho] at hou
        exact absurd hou (by decide)
      by_cases e0 : i = j
      · rw [e0, b2]
        intro q
        exact hut ((nI_eq (by omega) (by omega)).mp q).symm
      · have := chn_not htn (u := u) (by omega) (m - (j + 1)) out' _ _ _ rest hou (i - (j + 1)) (by omega)
        rw [show 2 * j + 2 + 2 * (i - (j + 1)) + 1 = 2 * i + 1 by omega] at this
        exact this
    -- the activities by hand
    have T3 := T2.fr f3 cs3
    have p3 := p2.fr f3 (fun i q => cl50 q)
    obtain ⟨-, K3, pp3, pr3, s3⟩ := id T3
    have D20 : A.D.n < 40 := by omega
    refine v_L_law_359 (by omega) (by omega) 0 49 e _ pl _ (nI t) (A.W.td t) _ x (e_ob s3.1 (s_images K3 s3 (by omega) (by omega) ⟨_, rfl, s_bitCount ⟨_, rfl, ?_⟩⟩))
    refine e_o4 p3.2.1 rfl i0 i31 rfl (e_al (k := 1) (rA p3) rfl (by decide) (by decide) (e_o4 p3.2.1 rfl i0 i31 rfl (e_al (k := 2) (rA p3) rfl (by decide) (by decide) ?_)))
    refine e_ob s3.1 (s_act (d := d + 4) (k := 0) (a := px (nrA A.W A.P A.D t)) (b := py (nrA A.W A.P A.D t)) (by decide) (by decide) T3.2 ok.1 ok.2.1.1 cl D20 (Or.inl ⟨rfl, inP_p np⟩) c1 (fun h4 f4 v4 => ⟨_, rfl, ⟨fun _ => ?_, fun q => absurd rfl q⟩⟩))
    have v4' : SV h4 A.W tr (dr1 A.W t A.P A.D).2.1 (dr1 A.W t A.P A.D).2.2 := v4
    have at1 := dr1_at ok.1 ok.2.1.1 hn c1
    have rok1 : rOk (dr1 A.W t A.P A.D).2.1 (dr1 A.W t A.P A.D).2.2 := perf_ok ok.1 ok.2.1 (Or.inl ⟨rfl, inP_p np⟩)
    have cl1 : 20 ≤ (dr1 A.W t A.P A.D).2.1.cl.toInt := perf_cl (Or.inl rfl) cl
    have cl2 : 20 ≤ (dr2 A.W t A.P A.D).2.1.cl.toInt := perf_cl (by rcases kd_12 (W := A.W) (t := t) with q | q <;> rw [q] <;> simp) cl1
    have cs4 := CS_law cs3 f4 (fun i q => by omega)
    have p4 := p3.fr f4 (fun i q => by omega)
    have go404 : ∀ y1 : Int32, kdA A.W t = y1 → q_J l (d + 9) mL_law mc ms Q QX n0 404 [some (.float 4), some (.ref 0), some (.ref 49), some (.int e), some (.int (nI (2 * m))), some (.ref pl), some (.int (nI (2 * j))), some (.int (nI t)), some (.int (A.W.td t)), some (.int (wrt A t)), some (.int (i_bc (imF A.D (nI t) A.D.n))), none, none] [.int y1, .ref 49] h4 (kc3 - 2) (ks3 - 620) := by
      rintro y1 rfl
      have D1 : (dr1 A.W t A.P A.D).2.2.n < 40 := by rw [at1.2.2]; exact D20
      obtain ⟨K4, pp4, pr4, s4⟩ := id v4'
      refine v_L_law_404 (by omega) (by omega) 0 49 e _ pl _ (nI t) (A.W.td t) _ _ 49 _ (e_ob s4.1 (s_act (d := d + 4) (k := kdA A.W t) (a := nI t) (b := 5) (by decide) (by decide) v4' ok.1 rok1.1 cl1 D1 (Or.inr ⟨kd_12, t, ht, rfl⟩) c2 (fun h5 f5 v5 => ⟨_, rfl, ⟨fun _ => ?_, fun q => absurd rfl q⟩⟩)))
      have v5' : SV h5 A.W tr (dr2 A.W t A.P A.D).2.1 (dr2 A.W t A.P A.D).2.2 := v5
      obtain ⟨K5, pp5, pr5, s5⟩ := id v5'
      have cs5 := CS_law cs4 f5 (fun i q => by omega)
      have p5 := p4.fr f5 (fun i q => by omega)
      have dD := dr2_D ok.1 ok.2.1.1 ht hn c1 c2
      have zn : zD (dr2 A.W t A.P A.D).2.2 ∧ (dr2 A.W t A.P A.D).2.2.n = j + 1 := by
        rcases dD with ⟨_, q⟩ | ⟨_, q⟩
        · rw [q]; exact ⟨zD_keep z, by show A.D.n + 1 = j + 1; omega⟩
        · rw [q]; exact ⟨zD_keep z, by show A.D.n + 1 = j + 1; omega⟩
      have go447 : q_J l (d + 9) mL_law mc ms Q QX n0 447 [some (.float 4), some (.ref 0), some (.ref 49), some (.int e), some (.int (nI (2 * m))), some (.ref pl), some (.int (nI (2 * j))), some (.int (nI t)), some (.int (A.W.td t)), some (.int (wrt A t)), some (.int (i_bc (imF A.D (nI t) A.D.n))), none, none] [] h5 (kc3 - 2 - 2) (ks3 - 620 - 620) := by
        have e2 : tryA A 2 = ((2, 0), (dr2 A.W t A.P A.D).2.1, (dr2 A.W t A.P A.D).2.2) := by
          show actsF A.W A.L 0 2 A.P A.D = _
          have g0 := Ld.2 0
          have g1 := Ld.2 1
          rw [Nat.add_zero] at g0
          rw [acts_1 (r := dr1 A.W t A.P A.D) (by rw [g0.1, g0.2.1, g0.2.2, a1, a2, a3]; rfl) c1, acts_1 (r := dr2 A.W t A.P A.D) (by rw [g1.1, g1.2.1, g1.2.2, b1, b2, b3]; rfl) c2]
          rfl
        have er : R_run A 2 = (0, nI 2, ((A.uP (dr2 A.W t A.P A.D).2.1).uD (dr2 A.W t A.P A.D).2.2).uL (dropA A.L 2)) := by
          unfold R_run
          rw [pif_t ⟨by rw [L_2]; decide, by rw [L_2]; decide⟩, show (2 : Int32).toNatClampNeg = 2 by decide +kernel, Nat.min_eq_left (by omega), e2]
        have ok6 := a_run ok 2
        refine v_L_law_447 (by omega) (by omega) 0 49 e _ pl _ (nI t) (A.W.td t) _ _ (e_ob cs5.o (c_run (d := d + 2) (m := 2) hl0 (by decide) (by decide) (by decide) cs5 ok ?_))
        rw [er] at ok6 ⊢
        refine rs_i (fun h6 f6 cs6 => ⟨fun _ => ?_, fun q => absurd rfl q⟩)
        have v6 := v5'.fr f6 (fun i q => q)
        obtain ⟨K6, pp6, pr6, s6⟩ := id v6
        have T6 : TW h6 tr (((A.uP (dr2 A.W t A.P A.D).2.1).uD (dr2 A.W t A.P A.D).2.2).uL (dropA A.L 2)) := ⟨cs6, v6⟩
        refine e_ob s6.1 (s_isSame (d := d + 1) hl0 (by decide) (by decide) T6 ok6 zn.1 (show (dr2 A.W t A.P A.D).2.2.n ≤ 30 by omega) (fun h7 f7 cs7 => ⟨_, rfl, ⟨fun q => absurd q z10, fun _ => ?_⟩⟩))
        rw [show nI (2 * j) + 2 = nI (2 * (j + 1)) from nI_add (2 * j) 2]
        exact hq h7 _ _ _ (LI_next (T6.fr f7 cs7) ok6 Ld zn.1 zn.2 cl2 ⟨out', rest⟩ ((p5.fr f6 (fun i q => cl50 q)).fr f7 (fun i q => cl50 q))) (by omega) (by omega)
      refine r_rd (k := 0) s5 rfl (by decide) ⟨fun _ => ⟨fun _ => go447, fun q4 => e_ob s5.1 (s_images K5 s5 (by omega) (by omega) ⟨_, rfl, s_bitCount ⟨_, rfl, ⟨fun _ => go447, fun q => absurd ?_ q⟩⟩⟩)⟩, fun q => absurd c3 q⟩
      have n4 : ¬ A.W.td t = 4 := fun r => q4 (by rw [r]; decide)
      have q9 := (dD.resolve_left (fun r => n4 r.1)).2
      rw [q9]
      exact im_more z ok.2.1.2 (by omega) hn n4
    refine ⟨fun q4 => go404 2 (by unfold kdA; rw [if_pos q4]), fun q4 => go404 1 (by unfold kdA; rw [if_neg q4])⟩
  refine v_L_law_147 (by omega) (by omega) 0 49 e _ pl (nI (2 * j)) ⟨fun q => absurd q (nI_ge i0 (by omega)), fun _ => ?_⟩
  refine e_o4 p.2.1 (nI_1 _) i1 i31 rfl (e_al (k := 1) (rB p) rfl (by decide) (by decide) (e_gr s.1 rfl (e_o4 (k := t) K.2.1 rfl (by omega) (by decide) (if_pos ht) (e_al (k := 3) (K.2.2.1 t ht).2 rfl (by decide) (by decide) ?_))))
  refine e_o4 p.2.1 rfl i0 i31 rfl (e_al (k := 0) (rA p) rfl (by decide) (by decide) ⟨fun _ => e_o4 p.2.1 (nI_1 _) i1 i31 rfl (e_al (k := 0) (rB p) rfl (by decide) (by decide) ⟨fun q4 => ?_, fun q4 => ?_⟩), fun q => absurd rfl q⟩)
  · change A.W.td t = 4 at q4
    exact go206 2 (by unfold kdA; rw [if_pos q4])
  · change ¬ A.W.td t = 4 at q4
    exact go206 1 (by unfold kdA; rw [if_neg q4])
theorem law_end {n0 kc ks m pl : Nat} {L : PL} {e : Int32} (hl0 : l.stackTraces = false) (hkc : 1 ≤ kc) (hks : 6 ≤ ks) (I : LI h tr L m pl e m A) (hL : L.n = 2 * m) (hq : ∀ h', Q (some (.int 1)) h') :
    q_J l (d + 9) mL_law mc ms Q QX n0 147 [some (.float 4), some (.ref 0), some (.ref 49), some (.int e), some (.int (nI (2 * m))), some (.ref pl), some (.int (nI (2 * m))), none, none, none, none, none, none] [] h kc ks := by
  obtain ⟨T, ok, Ld, -⟩ := I
  refine v_L_law_147 (by omega) (by omega) 0 49 e _ pl (nI (2 * m)) ⟨fun _ => e_ob T.1.o (c_count (d := d + 2) (w := 2) hl0 (by decide) (by decide) (by decide) T.1 ok ?_), fun q => absurd (Int32.le_refl _) q⟩
  have er : R_count A 2 = (0, 0, A) := by
    unfold R_count
    rw [pif_t (show isW 2 3 from ⟨by rw [L_2]; decide, by rw [L_2]; decide⟩)]
    unfold cntA
    rw [if_neg (by decide), if_neg (by decide), if_pos rfl, Ld.1, hL, Nat.sub_self]
    rfl
  rw [er]
  exact rs_i (fun h1 f1 cs1 => ⟨fun _ => hq h1, fun q => absurd rfl q⟩)
end LW1
