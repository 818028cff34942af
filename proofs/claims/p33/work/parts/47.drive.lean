/-! the class's Doer: drives -/
def mvA (P : PH) (k : Nat) : PH := PH.mk P.t (P.x + q_dx k) (P.y + q_dy k) P.b P.tp P.cl P.ht
def stepA (W : WS) (p k : Nat) (P : PH) : Int32 × PH :=
  if -50 ≤ P.tp then
    (if (passN W.cap 0 true (wt W.H W.R p k - 1) P).1 = 0 then
      ((passN W.cap (sp_eng W.H W.R p k) true 1 (passN W.cap 0 true (wt W.H W.R p k - 1) P).2).1, mvA (passN W.cap (sp_eng W.H W.R p k) true 1 (passN W.cap 0 true (wt W.H W.R p k - 1) P).2).2 k)
    else ((passN W.cap 0 true (wt W.H W.R p k - 1) P).1, mvA (passN W.cap 0 true (wt W.H W.R p k - 1) P).2 k))
  else (3, P)
noncomputable def driveA (W : WS) (c : Nat → Nat) (gx gy : Int32) : Nat → PH → Int32 × PH
  | 0, P => (0, P)
  | n + 1, P => if P.x = gx ∧ P.y = gy then (0, P) else if c (ix P.x P.y) < FARn then
      (if (stepA W (ix P.x P.y) (dirA W.H W.R W.Z W.s c (ix P.x P.y)) P).1 = 0 then driveA W c gx gy n (stepA W (ix P.x P.y) (dirA W.H W.R W.Z W.s c (ix P.x P.y)) P).2 else stepA W (ix P.x P.y) (dirA W.H W.R W.Z W.s c (ix P.x P.y)) P)
    else (1, P)
noncomputable def C_to (W : WS) (o : Nat) : Nat → Nat := theC (B_to W.H W.R W.Z W.s) o
noncomputable def C_fr (W : WS) (o : Nat) : Nat → Nat := theC (B_fr W.H W.R W.Z W.s) o
theorem passA_xy {cap use : Int32} {aw : Bool} {P : PH} : (passA cap use aw P).2.x = P.x ∧ (passA cap use aw P).2.y = P.y := by
  unfold passA
  split
  · split
    · exact ⟨rfl, rfl⟩
    · exact ⟨rfl, rfl⟩
  · exact ⟨rfl, rfl⟩
theorem passN_xy {cap use : Int32} {aw : Bool} : ∀ (n : Nat) (P : PH), (passN cap use aw n P).2.x = P.x ∧ (passN cap use aw n P).2.y = P.y := by
  intro n
  induction n with
  | zero => exact fun P => ⟨rfl, rfl⟩
  | succ n ih =>
    intro P
    unfold passN
    split
    · have q := ih (passA cap use aw P).2
      have q2 := passA_xy (cap := cap) (use := use) (aw := aw) (P := P)
      exact ⟨q.1.trans q2.1, q.2.trans q2.2⟩
    · exact passA_xy
theorem stepA_xy {W : WS} {p k : Nat} {P : PH} (h : (stepA W p k P).1 = 0) : (stepA W p k P).2.x = P.x + q_dx k ∧ (stepA W p k P).2.y = P.y + q_dy k := by
  unfold stepA at h ⊢
  by_cases h1 : -50 ≤ P.tp
  · rw [if_pos h1] at h ⊢
    have q1 := passN_xy (cap := W.cap) (use := 0) (aw := true) (wt W.H W.R p k - 1) P
    by_cases h2 : (passN W.cap 0 true (wt W.H W.R p k - 1) P).1 = 0
    · rw [if_pos h2]
      have q2 := passN_xy (cap := W.cap) (use := sp_eng W.H W.R p k) (aw := true) 1 (passN W.cap 0 true (wt W.H W.R p k - 1) P).2
      constructor
      · show (passN W.cap (sp_eng W.H W.R p k) true 1 (passN W.cap 0 true (wt W.H W.R p k - 1) P).2).2.x + q_dx k = _
        rw [q2.1, q1.1]
      · show (passN W.cap (sp_eng W.H W.R p k) true 1 (passN W.cap 0 true (wt W.H W.R p k - 1) P).2).2.y + q_dy k = _
        rw [q2.2, q1.2]
    · rw [if_neg h2] at h
      exact absurd h h2
  · rw [if_neg h1] at h
    exact absurd h (by decide : ¬ (3 : Int32) = 0)
section DO2
variable {l : Launch} {d mc ms : Nat} {Q : Option Value → qH → Prop} {QX : String → qH → Prop} {h : qH} {W : WS} {r : Nat} {P : PH} {D : DT}
theorem s_step {p k : Nat} (hr : 18 < r) (hc : cS h W) (hw : wOk W) (v : RV h r P D) (hp : inP P.x P.y) (ep : ix P.x P.y = p) (hk : k < 8) (hcan : sp_can W.H W.Z W.s (px p) (py p) k)
    (hq : ∀ h', q_fr (sR r) h h' → h'.2 = h.2 → RV h' r (stepA W p k P).2 D → Q (some (.int (stepA W p k P).1)) h') : q_Ct l (d + 2) mX0_step [.ref 18, .ref r, .int (nI k)] h mc ms Q QX := by
  obtain ⟨lr, hdo⟩ := hc.2.2.2
  have hp9 : p < 576 := by rw [← ep]; exact ix_lt hp
  have wk := wt_ok hw.g hp9 hcan
  obtain ⟨o, -⟩ := id v
  refine v_X0_step 18 r (nI k) (e_gi o rfl ⟨fun q1 => ?_, fun q1 => ?_⟩)
  rotate_left
  · unfold stepA at hq
    rw [if_neg q1] at hq
    exact hq h q_fr.rf rfl v
  unfold stepA at hq
  rw [if_pos q1] at hq
  have S9 : ∀ i, 1 ≤ i → i ≤ 5 → ¬ sR r i := fun i a b => by unfold sR; omega
  have S8 : ∀ i, 9 ≤ i → i ≤ 18 → ¬ sR r i := fun i a b => by unfold sR; omega
  have fin : ∀ (z : Int32) (h' : qH) (P' : PH), q_fr (sR r) h h' → h'.2 = h.2 → RV h' r P' D → (∀ h'', q_fr (sR r) h h'' → h''.2 = h.2 → RV h'' r (mvA P' k) D → Q (some (.int z)) h'') → q_J l (d + 2) mX0_step mc ms Q QX h.2 66 [some (.ref 18), some (.ref r), some (.int (nI k)), some (.int (nI p)), some (.int z)] [] h' mc ms := by
    intro z h' P' f zz v' hq'
    obtain ⟨o', a, b, c, e5, g, n0, t0⟩ := v'
    refine v_X0_step_66 18 r (nI k) _ _ (e_gi o' rfl (e_sl rfl hk (e_pi o' (Nat.le_of_ble_eq_true rfl) (fun h1 f1 z1 o1 => e_gi o1 rfl (e_sl rfl hk (e_pi o1 (Nat.le_of_ble_eq_true rfl) (fun h2 f2 z2 o2 => ?_)))))))
    exact hq' h2 ((f.t1 f1 (sR_i (by omega) (by omega))).t1 f2 (sR_i (by omega) (by omega))) (by rw [z2, z1, zz]) ⟨o2, (a.f1 f1 (by omega)).f1 f2 (by omega), (b.f1 f1 (by omega)).f1 f2 (by omega), (c.f1 f1 (by omega)).f1 f2 (by omega), (e5.f1 f1 (by omega)).f1 f2 (by omega), (g.f1 f1 (by omega)).f1 f2 (by omega), n0, t0⟩
  refine e_gi o rfl (e_gi o rfl (s_placeOf_t hp ⟨_, rfl, ?_⟩))
  rw [ep]
  refine e_gr hdo rfl (e_ob hc.1.1 (s_minutesOf hc.1 hp9 hk ⟨_, rfl, ?_⟩))
  rw [sp_M_at hk, sp_stp, if_pos hcan, wk.1]
  have e1 : nI (wt W.H W.R p k) - 1 = nI (wt W.H W.R p k - 1) := by
    obtain ⟨w', e⟩ : ∃ w', wt W.H W.R p k = w' + 1 := ⟨wt W.H W.R p k - 1, by omega⟩
    rw [e, nI_pred]; rfl
  dsimp only
  rw [e1]
  refine e_ob hdo (s_passMinutes (aw := true) hr ⟨lr, hdo⟩ v (by omega) (fun h1 f1 z1 v1 => ⟨_, rfl, fun q2 => ?_, fun q2 => ?_⟩))
  rotate_left
  · rw [if_neg q2] at hq
    exact fin _ h1 _ f1 z1 v1 hq
  rw [if_pos q2] at hq
  have c1 : cS h1 W := hc.fr f1 S9 S8
  have d1 := hdo.fr f1 (by unfold sR; omega)
  refine e_gr d1 rfl (e_ob c1.1.1 (s_energyOf c1.1 hp9 hk hcan (by rw [wk.1]; exact nI_nm1 (by omega)) ⟨_, rfl, ?_⟩))
  refine e_ob d1 (s_passMinutes (n := 1) (aw := true) hr ⟨lr, d1⟩ v1 (by decide) (fun h2 f2 z2 v2 => ⟨_, rfl, ?_⟩))
  exact fin _ h2 _ (f1.tt f2) (z2.trans z1) v2 hq
theorem s_drive {gx gy : Int32} (hr : 18 < r) (hc : cS h W) (hw : wOk W) (hy : wyr h) (v : RV h r P D) (hp : inP P.x P.y) (hgo : inP gx gy)
    (hq : ∀ h', q_fr (fun i => wS i ∨ sR r i) h h' → h'.2 = h.2 → wyr h' → RV h' r (driveA W (C_to W (ix gx gy)) gx gy 576 P).2 D → Q (some (.int (driveA W (C_to W (ix gx gy)) gx gy 576 P).1)) h') : q_Ct l (d + 3) mX0_drive [.ref 18, .ref r, .int gx, .int gy] h mc ms Q QX := by
  obtain ⟨lr, hdo⟩ := hc.2.2.2
  have S9 : ∀ i, 1 ≤ i → i ≤ 5 → ¬ (wS i ∨ sR r i) := fun i a b => by unfold wS sR; omega
  have S8 : ∀ i, 9 ≤ i → i ≤ 18 → ¬ (wS i ∨ sR r i) := fun i a b => by unfold wS sR; omega
  obtain ⟨m0, w0⟩ := hy.1
  refine v_X0_drive 18 r gx gy (e_gr hdo rfl (s_placeOf_t hgo ⟨_, rfl, e_ob w0 (s_measureTo hc.1 hw.g hy (ix_lt hgo) (fun h1 f1 z1 L y1 => ⟨rfl, ?_⟩))⟩))
  change lc (B_to W.H W.R W.Z W.s) (ix gx gy) (C_to W (ix gx gy)) at L
  change wys h1 (C_to W (ix gx gy)) at y1
  have f1' : q_fr (fun i => wS i ∨ sR r i) h h1 := f1.mono (fun i _ q => Or.inl q)
  generalize hCC : C_to W (ix gx gy) = c at L y1 hq
  refine q_loop (fun i (st : PH × qH) => q_J l (d + 3) mX0_drive mc ms Q QX h.2 15 [some (.ref 18), some (.ref r), some (.int gx), some (.int gy), some (.int (nI i)), none, none] [] st.2 mc ms)
    (fun i st => q_fr (fun i => wS i ∨ sR r i) h st.2 ∧ st.2.2 = h.2 ∧ wys st.2 c ∧ RV st.2 r st.1 D ∧ inP st.1.x st.1.y ∧ driveA W c gx gy (576 - i) st.1 = driveA W c gx gy 576 P) 576 ?_ ?_ 0 (P, h1) (by omega) ⟨f1', z1, y1, v.fr f1 (fun i a b => by unfold wS; omega), hp, rfl⟩
  · rintro ⟨P', h'⟩ ⟨f, z, y, v', hp', e⟩
    rw [Nat.sub_self, driveA] at e
    dsimp only at f z y v' hp' e ⊢
    rw [← e] at hq
    exact v_X0_drive_15 18 r _ _ (nI 576) ⟨fun _ => hq h' f z y.r v', fun q => absurd (Int32.le_refl _) q⟩
  · rintro i ⟨P', h'⟩ hi ⟨f, z, y, v', hp', e⟩ ih
    rw [show 576 - i = (576 - (i + 1)) + 1 by omega, driveA] at e
    dsimp only at f z y v' hp' e ⊢
    have hc' : cS h' W := hc.fr f S9 S8
    have hdo' := hdo.fr f (S8 18 (by omega) (by omega))
    obtain ⟨m1, w1⟩ := y.1
    have o := v'.1
    have go : ¬ (P'.x = gx ∧ P'.y = gy) → q_J l (d + 3) mX0_drive mc ms Q QX h.2 39 [some (.ref 18), some (.ref r), some (.int gx), some (.int gy), some (.int (nI i)), none, none] [] h' mc ms := by
      intro ne
      rw [if_neg ne] at e
      have hl := ix_lt hp'
      have n0 : c (ix P'.x P'.y) ≠ 0 := fun q => ne (by
        have q2 := lc_0 (gB_to hw.g) L hl q
        have q3 := p_ix hp'
        have q4 := p_ix hgo
        rw [q2] at q3
        exact ⟨q3.1.symm.trans q4.1, q3.2.symm.trans q4.2⟩)
      refine v_X0_drive_39 18 r _ _ _ (e_gr hdo' rfl (e_gi o rfl (e_gi o rfl (s_placeOf_t hp' ⟨_, rfl, e_ob w1 (s_directionFrom hc'.1 hw.g y L hl ⟨_, rfl, ?_⟩)⟩))))
      by_cases hf : c (ix P'.x P'.y) < FARn
      · rw [if_pos hf] at e
        have dk := dir_ok hw.g L hl hf n0
        rw [dirR, if_pos ⟨hf, n0⟩]
        refine ⟨fun q => absurd q (nI_pos (by omega)), fun _ => ⟨fun _ => ?_, fun q => absurd (nI_lt (b := 8) dk.1 (by decide)) q⟩⟩
        refine e_ob hdo' (s_step hr hc' hw v' hp' rfl dk.1 dk.2.1 (fun h2 f2 z2 v2 => ⟨_, rfl, fun q => ?_, fun q => ?_⟩))
        · rw [if_pos q] at e
          rw [nI_1]
          have f2' : q_fr (fun i => wS i ∨ sR r i) h' h2 := f2.mono (fun i _ q => Or.inr q)
          refine ih (_, h2) ⟨f.tt f2', z2.trans z, y.fr f2 (fun i a b => by unfold sR; omega), v2, ?_, e⟩
          have sx := stepA_xy q
          show inP (stepA W _ _ P').2.x (stepA W _ _ P').2.y
          rw [sx.1, sx.2]
          have nn := dk.2.1.1
          rw [(p_ix hp').1, (p_ix hp').2] at nn
          exact nn
        · rw [if_neg q] at e
          rw [← e] at hq
          have f2' : q_fr (fun i => wS i ∨ sR r i) h' h2 := f2.mono (fun i _ q => Or.inr q)
          exact hq h2 (f.tt f2') (z2.trans z) (y.fr f2 (fun i a b => by unfold sR; omega)).r v2
      · rw [if_neg hf] at e
        rw [dirR, if_neg (fun q => hf q.1)]
        refine ⟨fun _ => ?_, fun q => absurd (by decide) q⟩
        rw [← e] at hq
        exact hq h' f z y.r v'
    refine v_X0_drive_15 18 r _ _ (nI i) ⟨fun q => absurd q (nI_ge hi (by decide)), fun _ => e_gi o rfl ⟨fun q1 => e_gi o rfl ⟨fun q2 => ?_, fun q2 => go (fun q => q2 q.2)⟩, fun q1 => go (fun q => q1 q.1)⟩⟩
    rw [if_pos ⟨q1, q2⟩] at e
    rw [← e] at hq
    exact hq h' f z y.r v'
end DO2
