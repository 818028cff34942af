/-! THE LAW'S OWN ROVER: drives and pictures, where they are done -/
theorem passN_1 {cap use : Int32} {aw : Bool} {P : PH} : passN cap use aw 1 P = passA cap use aw P := by
  unfold passN
  by_cases q : (passA cap use aw P).1 = 0
  · rw [if_pos q]
    unfold passN
    rw [← q]
  · rw [if_neg q]
theorem chp_0 {c : Nat → Nat} {o t : Nat} (ho : o < 576) (h0 : c o = 0) (hc : chp c t = 0) : t = 0 := by
  by_cases e : t = 0
  · exact e
  · unfold chp at hc
    have := fb_ct_zero.mp hc o ho
    have q : decide (c o < t) = true := decide_eq_true (by omega)
    rw [q] at this
    exact absurd this (by decide)
section AC1
variable {l : Launch} {d mc ms : Nat} {Q : Option Value → qH → Prop} {QX : String → qH → Prop} {h : qH} {W : WS} {tr : Nat → Nat} {P : PH} {D : DT} {pp : Nat} {pr : Nat → Nat}
theorem s_drive0 {gx gy : Int32} (hkc : 1 ≤ mc) (hks : 576 ≤ ms) (K : SK h W tr) (s : SP h W P D pp pr) (hw : wOk W) (hp : pOk P) (hcl : 20 ≤ P.cl.toInt) (hg : inP gx gy) (ok : (driveA W (C_to W (ix gx gy)) gx gy 576 P).1 = 0)
    (hq : ∀ h', q_fr (fun j => j = 50) h h' → SP h' W (driveA W (C_to W (ix gx gy)) gx gy 576 P).2 D pp pr → Q (some (.int 0)) h') : q_Ct l (d + 3) mX10_drive [.ref 49, .int gx, .int gy] h mc ms Q QX := by
  have far : FARn = 1000000 := rfl
  have h56 : 56 < h.2 := K.1.1
  refine v_X10_drive hkc hks 49 _ _ (e_gr s.1 rfl (s_costs (d := d + 1) K.1 hw.g hg rfl (by decide) (by decide) (fun h1 f1 z1 a1 L => ⟨_, rfl, ?_⟩)))
  have s1 := s.fr f1 (fun i q => q.elim)
  have F1 : q_fr (fun j => j = 50) h h1 := f1.mono (fun i _ q => q.elim)
  change ar h1 h.2 576 (cv (C_to W (ix gx gy))) at a1
  change lc (B_to W.H W.R W.Z W.s) (ix gx gy) (C_to W (ix gx gy)) at L
  have g0 : ∀ {x y : Int32}, inP x y → ¬ (x = gx ∧ y = gy) → C_to W (ix gx gy) (ix x y) ≠ 0 := fun a b => goal_0 hw a hg b
  generalize C_to W (ix gx gy) = c at hq ok L a1 g0
  have il := ix_lt hp.1
  have hf : c (ix P.x P.y) < FARn := Classical.byContradiction fun q => by
    have ng : ¬ (P.x = gx ∧ P.y = gy) := fun e => by
      rw [e.1, e.2, L.2.1] at q
      exact q (by decide)
    rw [show 576 = 575 + 1 from rfl, driveA, if_neg ng, if_neg q] at ok
    exact absurd ok z10
  refine r_rd (k := 2) s1 rfl (by decide) (r_rd (k := 1) s1 rfl (by decide) (e_al a1 (k := ix P.x P.y) (ix_at' hp.1) il (by decide) ?_))
  rw [cv_t hf]
  have small := fun {u : Nat} (hu : u < 576) (hc : c u < FARn) => lc_small (gB_to hw.g) L hu hc
  refine ⟨fun _ => ?_, fun q => absurd (nI_pos' (by have := small il hf; omega)) q⟩
  refine q_loop (fun i (st : PH × qH) => q_J l (d + 3) mX10_drive mc ms Q QX h.2 33 [some (.ref 49), some (.int gx), some (.int gy), some (.ref h.2), none, none, none] [] st.2 (mc - 1) (ms - 576))
    (fun i st => q_fr (fun j => j = 50) h st.2 ∧ SP st.2 W st.1 D pp pr ∧ pOk st.1 ∧ 20 ≤ st.1.cl.toInt ∧ ar st.2 h.2 576 (cv c) ∧ c (ix st.1.x st.1.y) < FARn ∧ chp c (c (ix st.1.x st.1.y)) + i ≤ 576 ∧ driveA W c gx gy (576 - i) st.1 = driveA W c gx gy 576 P) 576 ?_ ?_ 0 (P, h1) (by omega) ⟨F1, s1, hp, hcl, a1, hf, by have := chp_le c (c (ix P.x P.y)); simpa using this, rfl⟩
  · rintro ⟨P', h'⟩ ⟨f, s', hp', hc', b1, hf', hch, e⟩
    rw [Nat.sub_self, driveA] at e
    dsimp only at f s' hp' hc' b1 hf' hch e ⊢
    have c0 : c (ix P'.x P'.y) = 0 := chp_0 L.1 L.2.1 (by omega)
    have at9 : P'.x = gx ∧ P'.y = gy := Classical.byContradiction fun q => g0 hp'.1 q c0
    rw [← e] at hq
    exact v_X10_drive_33 49 _ _ _ (r_rd (k := 1) s' rfl (by decide) ⟨fun _ => r_rd (k := 2) s' rfl (by decide) ⟨fun _ => hq h' f s', fun q => absurd at9.2 q⟩, fun q => absurd at9.1 q⟩)
  · rintro i ⟨P', h'⟩ hi ⟨f, s', hp', hc', b1, hf', hch, e⟩ ih
    rw [show 576 - i = (576 - (i + 1)) + 1 by omega, driveA] at e
    dsimp only at f s' hp' hc' b1 hf' hch e ⊢
    have K' := K.fr f (fun i q => by omega)
    have step : ¬ (P'.x = gx ∧ P'.y = gy) → q_J l (d + 3) mX10_drive mc ms Q QX h.2 53 [some (.ref 49), some (.int gx), some (.int gy), some (.ref h.2), none, none, none] [] h' (mc - 1) (ms - 576) := by
      intro ne
      rw [if_neg ne, if_pos hf'] at e
      have hl := ix_lt hp'.1
      have pe := p_ix hp'.1
      have n0 := g0 hp'.1 ne
      have dk := dir_ok hw.g L hl hf' n0
      have nx := nxt_ok hw.g L hl hf' n0
      have wk := wt_ok hw.g hl dk.2.1
      generalize hp9 : ix P'.x P'.y = p at e hf' hch hl pe n0 dk nx wk
      have ok' : (stepA W p (dirA W.H W.R W.Z W.s c p) P').1 = 0 := Classical.byContradiction fun q => by
        rw [if_neg q] at e
        rw [← e] at ok
        exact q ok
      rw [if_pos ok'] at e
      have nin := nx.2.2.2
      have rdx : ∀ {hh : qH} {P9 : PH} {Pr : Int32 → Prop}, SP hh W P9 D pp pr → P9.x = P'.x → Pr (px p) → qGR hh 49 10 0 (fun r => qAL hh r 1 Pr) := fun {hh P9 Pr} w ew hp => r_rd (k := 1) w rfl (by decide) (by rw [show rR P9 D.us W.cap 1 = P'.x from ew, ← pe.1]; exact hp)
      have rdy : ∀ {hh : qH} {P9 : PH} {Pr : Int32 → Prop}, SP hh W P9 D pp pr → P9.y = P'.y → Pr (py p) → qGR hh 49 10 0 (fun r => qAL hh r 2 Pr) := fun {hh P9 Pr} w ew hp => r_rd (k := 2) w rfl (by decide) (by rw [show rR P9 D.us W.cap 2 = P'.y from ew, ← pe.2]; exact hp)
      have h2p : nxt W.H W.R W.Z W.s c p = nb p (dirA W.H W.R W.Z W.s c p) := rfl
      rw [h2p] at nx
      have xyS := stepA_xy ok'
      have okS := stepA_ok hp' ok'
      generalize hk9 : dirA W.H W.R W.Z W.s c p = k at e dk nx wk ok' nin xyS okS
      have tpok : -50 ≤ P'.tp := Classical.byContradiction fun q => by
        unfold stepA at ok'
        rw [if_neg q] at ok'
        exact absurd (show (3 : Int32) = 0 from ok') (by decide)
      have u1 : (passN W.cap 0 true (wt W.H W.R p k - 1) P').1 = 0 := Classical.byContradiction fun q => by
        unfold stepA at ok'
        rw [if_pos tpok, if_neg q] at ok'
        exact q ok'
      have es : stepA W p k P' = ((passA W.cap (sp_eng W.H W.R p k) true (passN W.cap 0 true (wt W.H W.R p k - 1) P').2).1, mvA (passA W.cap (sp_eng W.H W.R p k) true (passN W.cap 0 true (wt W.H W.R p k - 1) P').2).2 k) := by
        unfold stepA
        rw [if_pos tpok, if_pos u1, passN_1]
      rw [es] at ok' e xyS okS
      dsimp only at ok' e xyS okS
      have xy1 := passN_xy (cap := W.cap) (use := 0) (aw := true) (wt W.H W.R p k - 1) P'
      have p1 := passN_ok (cap := W.cap) (use := 0) (aw := true) (wt W.H W.R p k - 1) hp'
      have c1 := passN_cl (cap := W.cap) (use := 0) (aw := true) (wt W.H W.R p k - 1) hc'
      refine v_X10_drive_53 49 _ _ _ (r_rd (k := 4) s' rfl (by decide) ⟨fun _ => e_gr s'.1 rfl ?_, fun q => absurd tpok q⟩)
      refine rdx s' rfl (rdy s' rfl (s_next (d := d + 1) K'.1 hw.g b1 L hl hf' n0 ⟨_, rfl, ?_⟩))
      rw [hk9]
      refine e_gr s'.1 rfl (rdx s' rfl (rdy s' rfl (s_step0 (d := d + 2) K'.1 hw.g.1 (inP_p hl) dk.1 ⟨_, rfl, ?_⟩)))
      rw [stL_t dk.2.1, wk.1]
      have e1 : nI (wt W.H W.R p k) - 1 = nI (wt W.H W.R p k - 1) := by
        obtain ⟨w', e⟩ : ∃ w', wt W.H W.R p k = w' + 1 := ⟨wt W.H W.R p k - 1, by omega⟩
        rw [e, nI_pred]; rfl
      dsimp only
      rw [e1]
      refine e_ob s'.1 (s_minutes (d := d) s' hp' hc' (by omega) (fun h2 f2 z2 s2 => ⟨_, rfl, ⟨fun _ => ?_, fun q => absurd u1 q⟩⟩))
      have K2 := K'.fr f2 (fun i q => by omega)
      refine e_gr s2.1 rfl (rdx s2 xy1.1 (rdy s2 xy1.2 (s_energy0 (d := d + 1) K2.1 hw.g.1 hl dk.1 dk.2.1 ⟨_, rfl, e_ob s2.1 (s_minute (d := d + 1) s2 p1 c1 (fun h3 f3 z3 s3 => ⟨_, rfl, ?_⟩))⟩)))
      rw [ok']
      have xy2 := passA_xy (cap := W.cap) (use := sp_eng W.H W.R p k) (aw := true) (P := (passN W.cap 0 true (wt W.H W.R p k - 1) P').2)
      have c2 := passA_cl (cap := W.cap) (use := sp_eng W.H W.R p k) (aw := true) c1
      generalize (passA W.cap (sp_eng W.H W.R p k) true (passN W.cap 0 true (wt W.H W.R p k - 1) P').2).2 = P2 at s3 e xyS okS xy2 c2
      refine v_X10_drive_155 49 _ _ _ _ _ _ ⟨fun _ => e_gr s3.1 rfl (e_al (k := 1) s3.2.1 rfl (by decide) (by decide) (e_sl rfl dk.1 (e_as (k := 1) s3.2.1 rfl (by decide) (by decide) (fun h4 f4 z4 a4 => ?_)))), fun q => absurd (by decide) q⟩
      have s4 := SP_r s3 f4 (a4.to rR_x)
      refine e_gr s4.1 rfl (e_al (k := 2) s4.2.1 rfl (by decide) (by decide) (e_sl rfl dk.1 (e_as (k := 2) s4.2.1 rfl (by decide) (by decide) (fun h5 f5 z5 a5 => ?_))))
      have s5 := SP_r s4 f5 (a5.to rR_y)
      have ex : P2.x = P'.x := xy2.1.trans xy1.1
      have ey : P2.y = P'.y := xy2.2.trans xy1.2
      have enb : ix (P2.x + q_dx k) (P2.y + q_dy k) = nb p k := by
        rw [ex, ey, ← pe.1, ← pe.2]; rfl
      have pos : inP (P'.x + q_dx k) (P'.y + q_dy k) := by rw [← pe.1, ← pe.2]; exact nin
      have F2 : q_fr (fun j => j = 50) h h5 := (((f.tt f2).tt f3).tt f4).tt f5
      have ch := chp_lt (c := c) (v := nb p k) (t := c p) nx.1 nx.2.1
      refine ih (mvA P2 k, h5) ⟨F2, s5, okS pos, c2, ((((b1.f1 f2 (by omega)).f1 f3 (by omega)).f1 f4 (by omega)).f1 f5 (by omega)), ?_, ?_, e⟩
      · show c (ix (P2.x + q_dx k) (P2.y + q_dy k)) < FARn
        rw [enb]; exact nx.2.2.1
      · show chp c (c (ix (P2.x + q_dx k) (P2.y + q_dy k))) + (i + 1) ≤ 576
        rw [enb]; omega
    by_cases at9 : P'.x = gx ∧ P'.y = gy
    · rw [if_pos at9] at e
      rw [← e] at hq
      exact v_X10_drive_33 49 _ _ _ (r_rd (k := 1) s' rfl (by decide) ⟨fun _ => r_rd (k := 2) s' rfl (by decide) ⟨fun _ => hq h' f s', fun q => absurd at9.2 q⟩, fun q => absurd at9.1 q⟩)
    · exact v_X10_drive_33 49 _ _ _ (r_rd (k := 1) s' rfl (by decide) ⟨fun q => r_rd (k := 2) s' rfl (by decide) ⟨fun q2 => absurd ⟨q, q2⟩ at9, fun _ => step at9⟩, fun _ => step at9⟩)
end AC1
section AC2
variable {l : Launch} {d mc ms : Nat} {Q : Option Value → qH → Prop} {QX : String → qH → Prop} {h : qH} {W : WS} {tr : Nat → Nat} {P : PH} {D : DT} {pp : Nat} {pr : Nat → Nat}
/-- behind the minutes: the pieces with a new one -/
theorem pic_tail {n0 kt : Nat} {x1 sg pri size x4 : Int32} (hkc : 2 ≤ mc) (hks : 44 ≤ ms) (K : SK h W tr) (s : SP h W P D pp pr) (hn : D.n < 40) (hkt : kt < W.tn) (htn : W.tn ≤ 12) (hsg : (x1 = 0 ∧ sg = nI (sp_oct (i_cmp P.x (W.tx kt)) (i_cmp P.y (W.ty kt)))) ∨ (¬ x1 = 0 ∧ sg = 9))
    (hq : ∀ h' pp' pr', q_fr (fun j => j = 49) h h' → SP h' W P (keepA D (nI kt) size pri sg) pp' pr' → Q (some (.int 0)) h') :
    q_J l (d + 3) mX10_picture mc ms Q QX n0 164 [some (.ref 49), some (.int x1), some (.int (nI kt)), some (.int pri), some (.int x4), some (.int size), none, none, none] [.int 0] h mc ms := by
  obtain ⟨k1, k2, ⟨k3, k4⟩, k5⟩ := id s
  have h56 : 56 < h.2 := K.1.1
  refine v_X10_picture_164 (by omega) (by omega) 49 _ _ _ _ _ _ ⟨fun _ => e_gr k1 rfl (e_lnR k4 ?_), fun q => absurd (by decide) q⟩
  refine e_nan (N := D.n + 1) rfl (nI_1 _) (by omega) (by omega) (fun h1 f1 z1 r1 => ?_)
  have G1 : q_fr (fun j => j = 49) h h1 := f1 _
  refine q_loop (fun i (h' : qH) => q_J l (d + 3) mX10_picture mc ms Q QX n0 189 [some (.ref 49), some (.int x1), some (.int (nI kt)), some (.int pri), some (.int x4), some (.int size), some (.int 0), some (.ref h.2), some (.int (nI i))] [] h' (mc - 1) (ms - 40))
    (fun i h' => q_fr (fun _ => False) h h' ∧ h'.2 = h.2 + 1 ∧ rr h' h.2 (D.n + 1) (fun q => if q < i then some (pr q) else none)) D.n ?_ ?_ 0 h1 (by omega) ⟨f1 _, z1, r1.to (fun p _ => (if_neg (by omega)).symm)⟩
  · rintro h2 ⟨f2, z2, r2⟩
    have s2 := s.fr f2 (fun i q => q.elim)
    have K2 := K.fr f2 (fun i q => q.elim)
    refine v_X10_picture_189 (by omega) (by omega) 49 _ _ _ _ _ _ _ (nI D.n) (e_gr s2.1 rfl (e_lnR s2.2.2.1.2 ⟨fun _ => ?_, fun q => absurd (Int32.le_refl _) q⟩))
    refine e_gr s2.1 rfl (e_lnR s2.2.2.1.2 (e_nin (n := h.2 + 1) z2 (fun h3 f3 z3 a3 => ?_)))
    refine e_as (k := 0) a3 rfl (by decide) (by decide) (fun h4 f4 z4 a4 => e_as (k := 1) a4 rfl (by decide) (by decide) (fun h5 f5 z5 a5 => e_as (k := 2) a5 rfl (by decide) (by decide) (fun h6 f6 z6 a6 => ?_)))
    have G6 : q_fr (fun j => j = h.2 + 1) h2 h6 := (((f3 _).tt f4).tt f5).tt f6
    have s6 : SP h6 W P D pp pr := (s2.fr (f3 (fun _ => False)) (fun i q => q.elim)) |> fun s3 => by
      obtain ⟨q1, q2, ⟨q3, q4⟩, q5⟩ := s2
      exact ⟨q1.fr G6 (by omega), q2.fr G6 (by omega), ⟨q3, q4.fr G6 (by have := q4.1; have := k4.1; omega)⟩, fun k hk => ⟨(q5 k hk).1, (q5 k hk).2.fr G6 (by have := (k5 k hk).2.1; omega)⟩⟩
    have K6 : SK h6 W tr := by
      obtain ⟨q1, q2, q3, q4, q5⟩ := K2
      obtain ⟨-, -, p3, -, -⟩ := K
      exact ⟨ar.fr q1 G6 (by omega), q2.fr G6 (by omega), fun k hk => ⟨(q3 k hk).1, (q3 k hk).2.fr G6 (by have := (p3 k hk).2.1; omega)⟩, q4.fr G6 (by omega), q5.fr G6 (by omega)⟩
    have r6 := r2.fr G6 (by omega)
    have z6' : h6.2 = h.2 + 2 := by omega
    -- the sign stored, the row put into the pieces
    have fin : ∀ h7 : qH, q_fr (fun j => j = h.2 + 1) h6 h7 → h7.2 = h6.2 → ar h7 (h.2 + 1) 4 (upd (upd (upd (upd (fun _ => 0) 0 (nI kt)) 1 size) 2 pri) 3 sg) →
        qA4 h7 h.2 (nI D.n) (h.2 + 1) (fun h13 => qPR h13 49 10 1 h.2 (fun h14 => qGI h14 49 10 4 (fun z15 => qPI h14 49 10 4 (z15 + size) (fun h16 => Q (some (.int 0)) h16)))) := by
      intro h7 f7 z7 a7
      have G7 : q_fr (fun j => j = h.2 + 1) h2 h7 := G6.tt f7
      refine e_a4 (k := D.n) (r6.fr f7 (by omega)) a7 rfl (by omega) (by omega) (fun h8 f8 z8 r8 => ?_)
      have o8 : ob h8 49 10 [.ref 50, .ref pp, .ref 52, .ref 53, .int D.ut, .int W.mem, .ref 54, .ref 56, .ref 55] := (s6.1.fr f7 (by omega)).fr f8 (by omega)
      refine e_pr o8 (Nat.le_of_ble_eq_true rfl) (fun h9 f9 z9 o9 => e_gi o9 rfl (e_pi o9 (Nat.le_of_ble_eq_true rfl) (fun h10 f10 z10 o10 => ?_)))
      have F8 : q_fr (fun _ => False) h h8 := ((f2.tr G7 (fun i _ q => q) (fun i hi q => by omega)).tr f8 (fun i _ q => q) (fun i hi q => by omega))
      have F10 : q_fr (fun j => j = 49) h8 h10 := f9.tt f10
      have FT : q_fr (fun j => j = 49) h h10 := (F8.mono (fun i _ q => q.elim)).tt F10
      refine hq h10 h.2 (fun j => if j = D.n then h.2 + 1 else pr j) FT ⟨o10, k2.fr FT (by decide), ⟨by omega, (r8.fr F10 (by omega)).to (fun p hp => ?_)⟩, fun k hk => ?_⟩
      · change p < D.n + 1 at hp
        dsimp only
        by_cases e : p = D.n
        · rw [if_pos e, if_pos e]
        · rw [if_neg e, if_neg e, if_pos (by omega)]
      · change k < D.n + 1 at hk
        dsimp only
        by_cases e : k = D.n
        · rw [if_pos e]
          refine ⟨by omega, ((a7.fr f8 (by omega)).fr F10 (by omega)).to (fun j hj => ?_)⟩
          subst e
          rcases (show j = 0 ∨ j = 1 ∨ j = 2 ∨ j = 3 by omega) with rfl | rfl | rfl | rfl
          · show nI kt = upd D.pt D.n (nI kt) D.n
            rw [pk_us]
          · show size = upd D.pl D.n size D.n
            rw [pk_us]
          · show pri = upd D.pp D.n pri D.n
            rw [pk_us]
          · show sg = upd D.pg D.n sg D.n
            rw [pk_us]
        · rw [if_neg e]
          have b := k5 k (by omega)
          refine ⟨b.1, (b.2.fr FT (by have := b.1; omega)).to (fun j hj => ?_)⟩
          rcases (show j = 0 ∨ j = 1 ∨ j = 2 ∨ j = 3 by omega) with rfl | rfl | rfl | rfl
          · show D.pt k = upd D.pt D.n (nI kt) k
            rw [pk_un e]
          · show D.pl k = upd D.pl D.n size k
            rw [pk_un e]
          · show D.pp k = upd D.pp D.n pri k
            rw [pk_un e]
          · show D.pg k = upd D.pg D.n sg k
            rw [pk_un e]
    refine ⟨fun q => ?_, fun q => ?_⟩
    · rcases hsg with ⟨-, rfl⟩ | ⟨e, -⟩
      · exact e_ob s6.1 (s_octant (d := d + 1) K6 s6 hkt htn ⟨_, rfl, e_as (k := 3) a6 rfl (by decide) (by decide) (fun h7 f7 z7 a7 => fin h7 f7 z7 a7)⟩)
      · exact absurd q e
    · rcases hsg with ⟨e, -⟩ | ⟨-, rfl⟩
      · exact absurd e q
      · exact e_as (k := 3) a6 rfl (by decide) (by decide) (fun h7 f7 z7 a7 => fin h7 f7 z7 a7)
  · rintro i h2 hi ⟨f2, z2, r2⟩ ih
    have s2 := s.fr f2 (fun i q => q.elim)
    refine v_X10_picture_189 (by omega) (by omega) 49 _ _ _ _ _ _ _ (nI i) (e_gr s2.1 rfl (e_lnR s2.2.2.1.2 ⟨fun q => absurd q (nI_ge hi (by omega)), fun _ => ?_⟩))
    refine e_gr s2.1 rfl (e_o4 s2.2.2.1.2 rfl hi (by omega) rfl (e_a4 (k := i) r2 (s2.2.2.2 i hi).2 rfl (by omega) (by omega) (fun h3 f3 z3 r3 => ?_)))
    rw [nI_1]
    refine ih h3 ⟨f2.tr f3 (fun i _ q => q) (fun j hj q => by omega), z3.trans z2, r3.to (fun p hp => ?_)⟩
    by_cases e : p = i
    · rw [if_pos e, if_pos (by omega), e]
    · rw [if_neg e]
      by_cases e2 : p < i
      · rw [if_pos e2, if_pos (by omega)]
      · rw [if_neg e2, if_neg (by omega)]
end AC2
section AC3
variable {l : Launch} {d mc ms : Nat} {Q : Option Value → qH → Prop} {QX : String → qH → Prop} {h : qH} {W : WS} {tr : Nat → Nat} {P : PH} {D : DT} {pp : Nat} {pr : Nat → Nat}
/-- from the cold on: what IMAGE and TOUCH have in common -/
theorem pic_use {n0 kt n : Nat} {x1 sg pri size use x4 : Int32} (hkc : 2 ≤ mc) (hks : 44 ≤ ms) (K : SK h W tr) (s : SP h W P D pp pr) (hp : pOk P) (hcl : 20 ≤ P.cl.toInt) (hn : D.n < 40) (hkt : kt < W.tn) (htn : W.tn ≤ 12) (hx : (x1 = 0 ∧ size = 40 ∧ n = 6 ∧ use = 3 ∧ sg = nI (sp_oct (i_cmp P.x (W.tx kt)) (i_cmp P.y (W.ty kt)))) ∨ (x1 = 1 ∧ size = 90 ∧ n = 25 ∧ use = 5 ∧ sg = 9))
    (ok : (useA W size use n P D).1 = 0)
    (hq : ∀ h' pp' pr', q_fr (fun j => j = 49 ∨ j = 50) h h' → SP h' W (useA W size use n P D).2 (keepA D (nI kt) size pri sg) pp' pr' → Q (some (.int 0)) h') :
    q_J l (d + 3) mX10_picture mc ms Q QX n0 101 [some (.ref 49), some (.int x1), some (.int (nI kt)), some (.int pri), some (.int x4), none, none, none, none] [] h mc ms := by
  have tpok : -40 ≤ P.tp := Classical.byContradiction fun q => by
    unfold useA at ok
    rw [if_neg q] at ok
    exact absurd (show (3 : Int32) = 0 from ok) (by decide)
  have room : unA D + size ≤ W.mem := Classical.byContradiction fun q => by
    unfold useA at ok
    rw [if_pos tpok, if_neg q] at ok
    split at ok <;> exact absurd (show (4 : Int32) = 0 from ok) (by decide)
  have eu : useA W size use n P D = passN W.cap use true n P := by
    unfold useA
    rw [if_pos tpok, if_pos (useA_n ok), if_pos room]
  rw [eu] at ok hq
  have xy := passN_xy (cap := W.cap) (use := use) (aw := true) n P
  -- size known: units, minutes, and the tail
  have go : q_J l (d + 3) mX10_picture mc ms Q QX n0 125 [some (.ref 49), some (.int x1), some (.int (nI kt)), some (.int pri), some (.int x4), none, none, none, none] [.int size] h mc ms := by
    have mins : ∀ {a b : Int32} , a = nI n → b = use → qOB h 49 10 (qCI l (d + 2) mX10_minutes [.ref 49, .int a, .int b] h 0 0 (fun z5 h4 => q_J l (d + 3) mX10_picture mc ms Q QX n0 164 [some (.ref 49), some (.int x1), some (.int (nI kt)), some (.int pri), some (.int x4), some (.int size), none, none, none] [.int z5] h4 mc ms)) := by
      rintro a b rfl rfl
      refine e_ob s.1 (s_minutes (d := d) s hp hcl (by rcases hx with ⟨-, -, e, -⟩ | ⟨-, -, e, -⟩ <;> rw [e] <;> decide) (fun h2 f2 z2 s2 => ⟨_, rfl, ?_⟩))
      rw [ok]
      refine pic_tail (sg := sg) hkc hks (K.fr f2 (fun i q => by omega)) s2 hn hkt htn ?_ (fun h3 pp' pr' f3 s3 => hq h3 pp' pr' (f2.tr f3 (fun i _ q => Or.inr q) (fun i _ q => Or.inl q)) s3)
      rw [xy.1, xy.2]
      rcases hx with ⟨e1, -, -, -, e2⟩ | ⟨e1, -, -, -, e2⟩
      · exact Or.inl ⟨e1, e2⟩
      · exact Or.inr ⟨by rw [e1]; decide, e2⟩
    refine v_X10_picture_125 49 _ _ _ _ _ (e_ob s.1 (s_units s (by omega) ⟨_, rfl, e_gi s.1 rfl ⟨fun _ => ⟨fun q => ?_, fun q => ?_⟩, fun q => absurd room q⟩⟩))
    · rcases hx with ⟨-, -, e1, e2, -⟩ | ⟨e, -⟩
      · exact mins (by rw [e1]; rfl) e2.symm
      · rw [e] at q; exact absurd q z10
    · rcases hx with ⟨e, -⟩ | ⟨-, -, e1, e2, -⟩
      · exact absurd e q
      · exact mins (by rw [e1]; rfl) e2.symm
  refine v_X10_picture_101 49 _ _ _ _ (r_rd (k := 4) s rfl (by decide) ⟨fun _ => ⟨fun q => ?_, fun q => ?_⟩, fun q => absurd tpok q⟩)
  · rcases hx with ⟨-, e1, -⟩ | ⟨e, -⟩
    · rw [e1] at go; exact go
    · rw [e] at q; exact absurd q z10
  · rcases hx with ⟨e, -⟩ | ⟨-, e1, -⟩
    · exact absurd e q
    · rw [e1] at go; exact go
theorem s_image {kt : Nat} {pri : Int32} (hkc : 2 ≤ mc) (hks : 44 ≤ ms) (K : SK h W tr) (s : SP h W P D pp pr) (hw : wOk W) (hp : pOk P) (hcl : 20 ≤ P.cl.toInt) (hn : D.n < 40) (hkt : kt < W.tn) (ok : (takeI W P D (nI kt) pri).1 = 0)
    (hq : ∀ h' pp' pr', q_fr (fun j => j = 49 ∨ j = 50) h h' → SP h' W (takeI W P D (nI kt) pri).2.1 (takeI W P D (nI kt) pri).2.2 pp' pr' → Q (some (.int 0)) h') : q_Ct l (d + 3) mX10_picture [.ref 49, .int 0, .int (nI kt), .int pri] h mc ms Q QX := by
  have htn := hw.tn
  have ek : (nI kt).toNatClampNeg = kt := nI_clamp (by omega)
  obtain ⟨k1, k2, k3, k4, k5⟩ := id K
  have t := (k3 kt hkt).2
  unfold takeI at ok hq
  rw [ek] at ok hq
  have far : ¬ 6 < i_dist P.x P.y (W.tx kt) (W.ty kt) := fun q => by
    rw [if_pos q] at ok
    exact absurd (show (5 : Int32) = 0 from ok) (by decide)
  rw [if_neg far] at ok hq
  have see : seeA W P.x P.y (W.tx kt) (W.ty kt) = true := Classical.byContradiction fun q => by
    rw [if_neg q] at ok
    exact absurd (show (5 : Int32) = 0 from ok) (by decide)
  rw [if_pos see] at ok hq
  have u0 : (useA W 40 3 6 P D).1 = 0 := Classical.byContradiction fun q => by
    rw [if_neg q] at ok
    exact q ok
  rw [if_pos u0] at hq
  have rx : ∀ {Pr : Nat → Prop}, Pr (tr kt) → qGR h 49 10 8 (fun r => qO4 h r (nI kt) Pr) := fun {Pr} p => e_gr s.1 rfl (e_o4 k2 rfl (by omega) (by decide) (if_pos hkt) p)
  refine v_X10_picture 49 _ _ _ (rx (e_al (k := 0) t rfl (by decide) (by decide) (r_rd (k := 1) s rfl (by decide) (rx (e_al (k := 1) t rfl (by decide) (by decide) (r_rd (k := 2) s rfl (by decide) ⟨fun _ => ?_, fun q => absurd rfl q⟩))))))
  show qIF (6 < i_dist P.x P.y (W.tx kt) (W.ty kt)) _ _
  refine ⟨fun q => absurd q far, fun _ => e_gr s.1 rfl (r_rd (k := 1) s rfl (by decide) (r_rd (k := 2) s rfl (by decide) (rx (e_al (k := 0) t rfl (by decide) (by decide) (rx (e_al (k := 1) t rfl (by decide) (by decide) ?_))))))⟩
  refine s_sees0 (d := d + 1) k1 hp.1 (hw.2.2.1 kt hkt) (fun r hr => ⟨_, rfl, fun q => ?_, fun q => ?_⟩)
  · rcases hr with ⟨e, -⟩ | ⟨-, e⟩
    · rw [e] at q; exact absurd q z10
    · exact absurd (seeA_t.mp see) e
  exact pic_use hkc hks K s hp hcl hn hkt htn (Or.inl ⟨rfl, rfl, rfl, rfl, rfl⟩) u0 hq
theorem s_touch {kt : Nat} {pri : Int32} (hkc : 2 ≤ mc) (hks : 44 ≤ ms) (K : SK h W tr) (s : SP h W P D pp pr) (hw : wOk W) (hp : pOk P) (hcl : 20 ≤ P.cl.toInt) (hn : D.n < 40) (hkt : kt < W.tn) (ok : (takeT W P D (nI kt) pri).1 = 0)
    (hq : ∀ h' pp' pr', q_fr (fun j => j = 49 ∨ j = 50) h h' → SP h' W (takeT W P D (nI kt) pri).2.1 (takeT W P D (nI kt) pri).2.2 pp' pr' → Q (some (.int 0)) h') : q_Ct l (d + 3) mX10_picture [.ref 49, .int 1, .int (nI kt), .int pri] h mc ms Q QX := by
  have htn := hw.tn
  have ek : (nI kt).toNatClampNeg = kt := nI_clamp (by omega)
  obtain ⟨k1, k2, k3, k4, k5⟩ := id K
  have t := (k3 kt hkt).2
  unfold takeT at ok hq
  rw [ek] at ok hq
  have near : i_dist P.x P.y (W.tx kt) (W.ty kt) ≤ 1 := Classical.byContradiction fun q => by
    rw [if_neg q] at ok
    exact absurd (show (5 : Int32) = 0 from ok) (by decide)
  rw [if_pos near] at ok hq
  have u0 : (useA W 90 5 25 P D).1 = 0 := Classical.byContradiction fun q => by
    rw [if_neg q] at ok
    exact q ok
  rw [if_pos u0] at hq
  have rx : ∀ {Pr : Nat → Prop}, Pr (tr kt) → qGR h 49 10 8 (fun r => qO4 h r (nI kt) Pr) := fun {Pr} p => e_gr s.1 rfl (e_o4 k2 rfl (by omega) (by decide) (if_pos hkt) p)
  refine v_X10_picture 49 _ _ _ (rx (e_al (k := 0) t rfl (by decide) (by decide) (r_rd (k := 1) s rfl (by decide) (rx (e_al (k := 1) t rfl (by decide) (by decide) (r_rd (k := 2) s rfl (by decide) ⟨fun q => absurd q z10, fun _ => ?_⟩))))))
  show qIF (i_dist P.x P.y (W.tx kt) (W.ty kt) ≤ 1) _ _
  exact ⟨fun _ => pic_use hkc hks K s hp hcl hn hkt htn (Or.inr ⟨rfl, rfl, rfl, rfl, rfl⟩) u0 hq, fun q => absurd near q⟩
/-- an activity of a made plan, where it is done -/
theorem s_act {k a b : Int32} (hkc : 2 ≤ mc) (hks : 620 ≤ ms) (v : SV h W tr P D) (hw : wOk W) (hp : pOk P) (hcl : 20 ≤ P.cl.toInt) (hn : D.n < 40) (ha : (k = 0 ∧ inP a b) ∨ ((k = 1 ∨ k = 2) ∧ ∃ kt, kt < W.tn ∧ a = nI kt)) (ok : (perfA W k a b P D).1 = 0)
    (hq : ∀ h', q_fr (fun j => j = 49 ∨ j = 50) h h' → SV h' W tr (perfA W k a b P D).2.1 (perfA W k a b P D).2.2 → Q (some (.int 0)) h') : q_Ct l (d + 4) mX10_act [.ref 49, .int k, .int a, .int b] h mc ms Q QX := by
  obtain ⟨K, pp, pr, s⟩ := v
  have ok2 : (actA W k a b P D).1 = 0 := Classical.byContradiction fun q => by
    unfold perfA at ok
    rw [if_neg q] at ok
    exact q ok
  have ep : perfA W k a b P D = actA W k a b P D := by unfold perfA; rw [if_pos ok2]
  rw [ep] at hq
  rcases ha with ⟨rfl, hi⟩ | ⟨rfl | rfl, kt, hkt, rfl⟩
  · have ea : actA W 0 a b P D = ((driveA W (C_to W (ix a b)) a b 576 P).1, (driveA W (C_to W (ix a b)) a b 576 P).2, D) := by unfold actA; rw [if_pos rfl]
    rw [ea] at ok2 hq
    exact v_X10_act hkc (by omega) 49 _ _ _ ⟨fun _ => e_ob s.1 (s_drive0 (by decide) (by decide) K s hw hp hcl hi ok2 (fun h' f s' => ⟨_, rfl, hq h' (f.mono (fun i _ q => Or.inr q)) ⟨K.fr f (fun i q => by omega), pp, pr, s'⟩⟩)), fun q => absurd rfl q⟩
  · have ea : actA W 1 (nI kt) b P D = takeI W P D (nI kt) b := by unfold actA; rw [if_neg (by decide), if_pos rfl]
    rw [ea] at ok2 hq
    exact v_X10_act hkc (by omega) 49 _ _ _ ⟨fun q => absurd q z10, fun _ => ⟨fun _ => e_ob s.1 (s_image (by decide) (by decide) K s hw hp hcl hn hkt ok2 (fun h' pp' pr' f s' => ⟨_, rfl, hq h' f ⟨K.fr f (fun i q => by omega), pp', pr', s'⟩⟩)), fun q => absurd rfl q⟩⟩
  · have ea : actA W 2 (nI kt) b P D = takeT W P D (nI kt) b := by unfold actA; rw [if_neg (by decide), if_neg (by decide), if_pos rfl]
    rw [ea] at ok2 hq
    exact v_X10_act hkc (by omega) 49 _ _ _ ⟨fun q => absurd q (by decide), fun _ => ⟨fun q => absurd q (by decide), fun _ => ⟨fun _ => e_ob s.1 (s_touch (by decide) (by decide) K s hw hp hcl hn hkt ok2 (fun h' pp' pr' f s' => ⟨_, rfl, hq h' f ⟨K.fr f (fun i q => by omega), pp', pr', s'⟩⟩)), fun q => absurd rfl q⟩⟩⟩
end AC3
