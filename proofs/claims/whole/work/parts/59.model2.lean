/-! the model: directions, minutes, drives -/
theorem mr_rd {h : qH} {i k : Nat} {P : PH} {D : DT} {z val : Int32} {Pr : Int32 → Prop} (v : MR h i P D) (hz : z = nI k) (hk : k < 594) (he : ∀ F, mR F P D → F k = val) (hp : Pr val) : qAL h i z Pr := by
  obtain ⟨F, a, m⟩ := v
  refine e_al a hz hk (by decide) ?_
  rw [he F m]
  exact hp
theorem mr_wr {h : qH} {i k : Nat} {P P' : PH} {D D' : DT} {z x : Int32} {Pr : qH → Prop} (v : MR h i P D) (hz : z = nI k) (hk : k < 594) (hm : ∀ F, mR F P D → mR (upd F k x) P' D') (hp : ∀ h', q_fr (fun j => j = i) h h' → h'.2 = h.2 → MR h' i P' D' → Pr h') : qAS h i z x Pr := by
  obtain ⟨F, a, m⟩ := v
  exact e_as a hz hk (by decide) (fun h1 f1 z1 a1 => hp h1 f1 z1 ⟨_, a1, hm F m⟩)
theorem mR.t {F : Nat → Int32} {P : PH} {D : DT} (m : mR F P D) : F 0 = P.t := m.1
theorem mR.x {F : Nat → Int32} {P : PH} {D : DT} (m : mR F P D) : F 1 = P.x := m.2.1
theorem mR.y {F : Nat → Int32} {P : PH} {D : DT} (m : mR F P D) : F 2 = P.y := m.2.2.1
theorem mR.b {F : Nat → Int32} {P : PH} {D : DT} (m : mR F P D) : F 3 = P.b := m.2.2.2.1
theorem mR.tp {F : Nat → Int32} {P : PH} {D : DT} (m : mR F P D) : F 4 = P.tp := m.2.2.2.2.1
theorem mR.ht {F : Nat → Int32} {P : PH} {D : DT} (m : mR F P D) : F 5 = P.ht := m.2.2.2.2.2.1
theorem mR.cl {F : Nat → Int32} {P : PH} {D : DT} (m : mR F P D) : F 6 = P.cl := m.2.2.2.2.2.2.1
theorem mR.us {F : Nat → Int32} {P : PH} {D : DT} (m : mR F P D) : F 7 = D.us := m.2.2.2.2.2.2.2.1
theorem mR.ut {F : Nat → Int32} {P : PH} {D : DT} (m : mR F P D) : F 8 = D.ut := m.2.2.2.2.2.2.2.2.1
theorem mR.n {F : Nat → Int32} {P : PH} {D : DT} (m : mR F P D) : F 9 = nI D.n := m.2.2.2.2.2.2.2.2.2.1
theorem mR.oc {F : Nat → Int32} {P : PH} {D : DT} (m : mR F P D) : ∀ k, k < 12 → F (10 + k) = D.oc k ∧ F (22 + k) = D.tc k := m.2.2.2.2.2.2.2.2.2.2.1
theorem mR.pc {F : Nat → Int32} {P : PH} {D : DT} (m : mR F P D) : ∀ i, i < D.n → F (34 + 4 * i) = D.pt i ∧ F (34 + 4 * i + 1) = D.pl i ∧ F (34 + 4 * i + 2) = D.pp i ∧ F (34 + 4 * i + 3) = D.pg i := m.2.2.2.2.2.2.2.2.2.2.2
theorem mRw_t {F : Nat → Int32} {P : PH} {D : DT} {v : Int32} (m : mR F P D) : mR (upd F 0 v) (PH.mk v P.x P.y P.b P.tp P.cl P.ht) D :=
  ⟨pk_us, (pk_un (by decide)).trans m.2.1, (pk_un (by decide)).trans m.2.2.1, (pk_un (by decide)).trans m.2.2.2.1, (pk_un (by decide)).trans m.2.2.2.2.1, (pk_un (by decide)).trans m.2.2.2.2.2.1, (pk_un (by decide)).trans m.2.2.2.2.2.2.1, (pk_un (by decide)).trans m.2.2.2.2.2.2.2.1, (pk_un (by decide)).trans m.2.2.2.2.2.2.2.2.1, (pk_un (by decide)).trans m.2.2.2.2.2.2.2.2.2.1, fun k hk => ⟨(pk_un (by omega)).trans (m.oc k hk).1, (pk_un (by omega)).trans (m.oc k hk).2⟩, fun j hj => ⟨(pk_un (by omega)).trans (m.pc j hj).1, (pk_un (by omega)).trans (m.pc j hj).2.1, (pk_un (by omega)).trans (m.pc j hj).2.2.1, (pk_un (by omega)).trans (m.pc j hj).2.2.2⟩⟩
theorem mRw_x {F : Nat → Int32} {P : PH} {D : DT} {v : Int32} (m : mR F P D) : mR (upd F 1 v) (PH.mk P.t v P.y P.b P.tp P.cl P.ht) D :=
  ⟨(pk_un (by decide)).trans m.1, pk_us, (pk_un (by decide)).trans m.2.2.1, (pk_un (by decide)).trans m.2.2.2.1, (pk_un (by decide)).trans m.2.2.2.2.1, (pk_un (by decide)).trans m.2.2.2.2.2.1, (pk_un (by decide)).trans m.2.2.2.2.2.2.1, (pk_un (by decide)).trans m.2.2.2.2.2.2.2.1, (pk_un (by decide)).trans m.2.2.2.2.2.2.2.2.1, (pk_un (by decide)).trans m.2.2.2.2.2.2.2.2.2.1, fun k hk => ⟨(pk_un (by omega)).trans (m.oc k hk).1, (pk_un (by omega)).trans (m.oc k hk).2⟩, fun j hj => ⟨(pk_un (by omega)).trans (m.pc j hj).1, (pk_un (by omega)).trans (m.pc j hj).2.1, (pk_un (by omega)).trans (m.pc j hj).2.2.1, (pk_un (by omega)).trans (m.pc j hj).2.2.2⟩⟩
theorem mRw_y {F : Nat → Int32} {P : PH} {D : DT} {v : Int32} (m : mR F P D) : mR (upd F 2 v) (PH.mk P.t P.x v P.b P.tp P.cl P.ht) D :=
  ⟨(pk_un (by decide)).trans m.1, (pk_un (by decide)).trans m.2.1, pk_us, (pk_un (by decide)).trans m.2.2.2.1, (pk_un (by decide)).trans m.2.2.2.2.1, (pk_un (by decide)).trans m.2.2.2.2.2.1, (pk_un (by decide)).trans m.2.2.2.2.2.2.1, (pk_un (by decide)).trans m.2.2.2.2.2.2.2.1, (pk_un (by decide)).trans m.2.2.2.2.2.2.2.2.1, (pk_un (by decide)).trans m.2.2.2.2.2.2.2.2.2.1, fun k hk => ⟨(pk_un (by omega)).trans (m.oc k hk).1, (pk_un (by omega)).trans (m.oc k hk).2⟩, fun j hj => ⟨(pk_un (by omega)).trans (m.pc j hj).1, (pk_un (by omega)).trans (m.pc j hj).2.1, (pk_un (by omega)).trans (m.pc j hj).2.2.1, (pk_un (by omega)).trans (m.pc j hj).2.2.2⟩⟩
theorem mRw_b {F : Nat → Int32} {P : PH} {D : DT} {v : Int32} (m : mR F P D) : mR (upd F 3 v) (PH.mk P.t P.x P.y v P.tp P.cl P.ht) D :=
  ⟨(pk_un (by decide)).trans m.1, (pk_un (by decide)).trans m.2.1, (pk_un (by decide)).trans m.2.2.1, pk_us, (pk_un (by decide)).trans m.2.2.2.2.1, (pk_un (by decide)).trans m.2.2.2.2.2.1, (pk_un (by decide)).trans m.2.2.2.2.2.2.1, (pk_un (by decide)).trans m.2.2.2.2.2.2.2.1, (pk_un (by decide)).trans m.2.2.2.2.2.2.2.2.1, (pk_un (by decide)).trans m.2.2.2.2.2.2.2.2.2.1, fun k hk => ⟨(pk_un (by omega)).trans (m.oc k hk).1, (pk_un (by omega)).trans (m.oc k hk).2⟩, fun j hj => ⟨(pk_un (by omega)).trans (m.pc j hj).1, (pk_un (by omega)).trans (m.pc j hj).2.1, (pk_un (by omega)).trans (m.pc j hj).2.2.1, (pk_un (by omega)).trans (m.pc j hj).2.2.2⟩⟩
theorem mRw_tp {F : Nat → Int32} {P : PH} {D : DT} {v : Int32} (m : mR F P D) : mR (upd F 4 v) (PH.mk P.t P.x P.y P.b v P.cl P.ht) D :=
  ⟨(pk_un (by decide)).trans m.1, (pk_un (by decide)).trans m.2.1, (pk_un (by decide)).trans m.2.2.1, (pk_un (by decide)).trans m.2.2.2.1, pk_us, (pk_un (by decide)).trans m.2.2.2.2.2.1, (pk_un (by decide)).trans m.2.2.2.2.2.2.1, (pk_un (by decide)).trans m.2.2.2.2.2.2.2.1, (pk_un (by decide)).trans m.2.2.2.2.2.2.2.2.1, (pk_un (by decide)).trans m.2.2.2.2.2.2.2.2.2.1, fun k hk => ⟨(pk_un (by omega)).trans (m.oc k hk).1, (pk_un (by omega)).trans (m.oc k hk).2⟩, fun j hj => ⟨(pk_un (by omega)).trans (m.pc j hj).1, (pk_un (by omega)).trans (m.pc j hj).2.1, (pk_un (by omega)).trans (m.pc j hj).2.2.1, (pk_un (by omega)).trans (m.pc j hj).2.2.2⟩⟩
theorem mRw_ht {F : Nat → Int32} {P : PH} {D : DT} {v : Int32} (m : mR F P D) : mR (upd F 5 v) (PH.mk P.t P.x P.y P.b P.tp P.cl v) D :=
  ⟨(pk_un (by decide)).trans m.1, (pk_un (by decide)).trans m.2.1, (pk_un (by decide)).trans m.2.2.1, (pk_un (by decide)).trans m.2.2.2.1, (pk_un (by decide)).trans m.2.2.2.2.1, pk_us, (pk_un (by decide)).trans m.2.2.2.2.2.2.1, (pk_un (by decide)).trans m.2.2.2.2.2.2.2.1, (pk_un (by decide)).trans m.2.2.2.2.2.2.2.2.1, (pk_un (by decide)).trans m.2.2.2.2.2.2.2.2.2.1, fun k hk => ⟨(pk_un (by omega)).trans (m.oc k hk).1, (pk_un (by omega)).trans (m.oc k hk).2⟩, fun j hj => ⟨(pk_un (by omega)).trans (m.pc j hj).1, (pk_un (by omega)).trans (m.pc j hj).2.1, (pk_un (by omega)).trans (m.pc j hj).2.2.1, (pk_un (by omega)).trans (m.pc j hj).2.2.2⟩⟩
theorem mRw_cl {F : Nat → Int32} {P : PH} {D : DT} {v : Int32} (m : mR F P D) : mR (upd F 6 v) (PH.mk P.t P.x P.y P.b P.tp v P.ht) D :=
  ⟨(pk_un (by decide)).trans m.1, (pk_un (by decide)).trans m.2.1, (pk_un (by decide)).trans m.2.2.1, (pk_un (by decide)).trans m.2.2.2.1, (pk_un (by decide)).trans m.2.2.2.2.1, (pk_un (by decide)).trans m.2.2.2.2.2.1, pk_us, (pk_un (by decide)).trans m.2.2.2.2.2.2.2.1, (pk_un (by decide)).trans m.2.2.2.2.2.2.2.2.1, (pk_un (by decide)).trans m.2.2.2.2.2.2.2.2.2.1, fun k hk => ⟨(pk_un (by omega)).trans (m.oc k hk).1, (pk_un (by omega)).trans (m.oc k hk).2⟩, fun j hj => ⟨(pk_un (by omega)).trans (m.pc j hj).1, (pk_un (by omega)).trans (m.pc j hj).2.1, (pk_un (by omega)).trans (m.pc j hj).2.2.1, (pk_un (by omega)).trans (m.pc j hj).2.2.2⟩⟩
theorem mRw_us {F : Nat → Int32} {P : PH} {D : DT} {v : Int32} (m : mR F P D) : mR (upd F 7 v) P (DT.mk v D.ut D.n D.pt D.pl D.pp D.pg D.oc D.tc) :=
  ⟨(pk_un (by decide)).trans m.1, (pk_un (by decide)).trans m.2.1, (pk_un (by decide)).trans m.2.2.1, (pk_un (by decide)).trans m.2.2.2.1, (pk_un (by decide)).trans m.2.2.2.2.1, (pk_un (by decide)).trans m.2.2.2.2.2.1, (pk_un (by decide)).trans m.2.2.2.2.2.2.1, pk_us, (pk_un (by decide)).trans m.2.2.2.2.2.2.2.2.1, (pk_un (by decide)).trans m.2.2.2.2.2.2.2.2.2.1, fun k hk => ⟨(pk_un (by omega)).trans (m.oc k hk).1, (pk_un (by omega)).trans (m.oc k hk).2⟩, fun j hj => ⟨(pk_un (by omega)).trans (m.pc j hj).1, (pk_un (by omega)).trans (m.pc j hj).2.1, (pk_un (by omega)).trans (m.pc j hj).2.2.1, (pk_un (by omega)).trans (m.pc j hj).2.2.2⟩⟩
theorem mRw_ut {F : Nat → Int32} {P : PH} {D : DT} {v : Int32} (m : mR F P D) : mR (upd F 8 v) P (DT.mk D.us v D.n D.pt D.pl D.pp D.pg D.oc D.tc) :=
  ⟨(pk_un (by decide)).trans m.1, (pk_un (by decide)).trans m.2.1, (pk_un (by decide)).trans m.2.2.1, (pk_un (by decide)).trans m.2.2.2.1, (pk_un (by decide)).trans m.2.2.2.2.1, (pk_un (by decide)).trans m.2.2.2.2.2.1, (pk_un (by decide)).trans m.2.2.2.2.2.2.1, (pk_un (by decide)).trans m.2.2.2.2.2.2.2.1, pk_us, (pk_un (by decide)).trans m.2.2.2.2.2.2.2.2.2.1, fun k hk => ⟨(pk_un (by omega)).trans (m.oc k hk).1, (pk_un (by omega)).trans (m.oc k hk).2⟩, fun j hj => ⟨(pk_un (by omega)).trans (m.pc j hj).1, (pk_un (by omega)).trans (m.pc j hj).2.1, (pk_un (by omega)).trans (m.pc j hj).2.2.1, (pk_un (by omega)).trans (m.pc j hj).2.2.2⟩⟩
section MD3
variable {l : Launch} {d mc ms : Nat} {Q : Option Value → qH → Prop} {QX : String → qH → Prop} {h : qH} {W : WS} {n m r : Nat} {th wy : Int32} {P : PH} {D : DT}
theorem m_direction {o p : Nat} {c : Nat → Nat} (mo : MO h W n m th wy) (g : MG h W) (gok : gOk W.H W.R) (L : lc (B_to W.H W.R W.Z W.s) o c) (hc : ar h 77 576 (fun u => nI (c u))) (hcl : ∀ u, u < 576 → c u ≤ FARn) (hp : p < 576) (hf : c p < FARn) (h0 : c p ≠ 0) (hq : Q (some (.int (nI (dirA W.H W.R W.Z W.s c p)))) h) : q_Ct l (d + 3) mX10_direction [.ref 49, .int (px p), .int (py p)] h mc ms Q QX := by
  have far : FARn = 1000000 := rfl
  have dk := dir_ok gok L hp hf h0
  have ip := inP_p hp
  refine v_X10_direction 49 _ _ ?_
  refine q_loop (fun k h' => q_J l (d + 3) mX10_direction mc ms Q QX h.2 2 [some (.ref 49), some (.int (px p)), some (.int (py p)), some (.int (nI k))] [] h' mc ms) (fun k h' => h' = h ∧ dirA W.H W.R W.Z W.s c p = @q_find (dirP W.H W.R W.Z W.s c p) (fun _ => Classical.propDecidable _) k (8 - k)) 8 ?_ ?_ 0 h (by omega) ⟨rfl, rfl⟩
  · rintro h' ⟨rfl, e⟩
    have := dk.1
    rw [e] at this
    exact absurd this (by simp [q_find])
  · rintro k h' hk ⟨rfl, e⟩ ih
    have e2 : 8 - k = (8 - (k + 1)) + 1 := by omega
    rw [e2, q_find] at e
    have no : ¬ dirP W.H W.R W.Z W.s c p k → q_J l (d + 3) mX10_direction mc ms Q QX h'.2 2 [some (.ref 49), some (.int (px p)), some (.int (py p)), some (.int (nI k + 1))] [] h' mc ms := fun q => by
      rw [if_neg q] at e
      rw [nI_1]
      exact ih h' ⟨rfl, e⟩
    refine v_X10_direction_2 49 _ _ (nI k) ⟨fun q => absurd q (nI_ge hk (by decide)), fun _ => ?_⟩
    refine e_ob mo (m_canStep mo g ip hk (fun hs => ⟨_, rfl, fun q => absurd q z10, fun _ => ?_⟩) (fun hs => ⟨_, rfl, fun _ => no (fun q => hs q.1), fun q => absurd rfl q⟩))
    have hn : nP p k := hs.1
    have hl := nb_lt hn
    have wk := wt_ok gok hp hs
    refine e_gr mo rfl (m_at ip ⟨_, rfl, ?_⟩)
    rw [ix_p hp]
    refine e_al hc rfl hp (by decide) (e_ob mo (m_minutes mo g ip hk hs.1 ⟨_, rfl, e_gr mo rfl (e_sl rfl hk (e_sl rfl hk ?_))⟩))
    show qCI l (d + 2) mX10_at [.int (px p + q_dx k), .int (py p + q_dy k)] h' 0 0 _
    refine m_at hn ⟨_, rfl, e_al hc rfl hl (by decide) ?_⟩
    rw [wk.1, nI_add]
    have b1 := hcl _ hl
    refine ⟨fun q => ?_, fun q => no (fun r => q ?_)⟩
    · have rr : dirP W.H W.R W.Z W.s c p k := ⟨hs, (nI_eq (by omega) (by change wt W.H W.R p k + c (nb p k) < _; omega)).mp q⟩
      rw [if_pos rr] at e
      rw [e] at hq
      exact hq
    · have := r.2
      show nI (c p) = nI (wt W.H W.R p k + c (nb p k))
      rw [this]
theorem m_light {z : Int32} (hz : -100000 ≤ z.toInt ∧ z.toInt ≤ 100000) (hq : Q (some (.int (lgt z))) h) : q_Ct l (d + 1) mX10_light [.int z] h mc ms Q QX := by
  have L360 := L_360
  have L1080 := L_1080
  have L720 := L_720
  have L1079 := L_1079
  unfold lgt at hq
  refine v_X10_light z (m_isIn (fun a b => ⟨_, rfl, fun q => absurd q z10, fun _ => ?_⟩) (fun c => ⟨_, rfl, fun _ => ?_, fun q => absurd rfl q⟩))
  · have c2 : z < 1080 := by rw [lt_i, L1080]; rw [lt_i, L1079] at b; omega
    rw [if_neg a, if_pos c2] at hq
    have e7 : (z - 720).toInt = z.toInt - 720 := by rw [fb_subI, L720] <;> rw [L720] <;> omega
    by_cases q : 720 ≤ z
    · rw [if_pos q] at hq
      have : (0 : Int32) ≤ z - 720 := by rw [le_i, L_0, e7]; rw [le_i, L720] at q; omega
      rw [if_pos this, show (360 : Int32) - (z - 720) = 1080 - z by grind]
      exact hq
    · rw [if_neg q] at hq
      have : ¬ (0 : Int32) ≤ z - 720 := by rw [le_i, L_0, e7]; rw [le_i, L720] at q; omega
      rw [if_neg this, show (360 : Int32) - (0 - (z - 720)) = z - 360 by grind]
      exact hq
  · by_cases a : z < 360
    · rw [if_pos a] at hq; exact hq
    · rw [if_neg a] at hq
      have c2 : ¬ z < 1080 := fun q => c ⟨a, by rw [lt_i, L1080] at q; rw [lt_i, L1079]; omega⟩
      rw [if_neg c2] at hq; exact hq
theorem m_air {z : Int32} (hz : -100000 ≤ z.toInt ∧ z.toInt ≤ 100000) (hq : Q (some (.int (air (lgt z)))) h) : q_Ct l (d + 2) mX10_air [.int z] h mc ms Q QX := v_X10_air z (m_light hz ⟨_, rfl, hq⟩)
theorem m_power {z c : Int32} (hz : -100000 ≤ z.toInt ∧ z.toInt ≤ 100000) (hq : Q (some (.int (pow (lgt z) c))) h) : q_Ct l (d + 2) mX10_power [.int z, .int c] h mc ms Q QX := v_X10_power z c (m_light hz ⟨_, rfl, hq⟩)
theorem m_pass {use : Int32} {aw : Bool} (hr : r ≠ 49) (mo : MO h W n m th wy) (v : MR h r P D) (hp : pOk P)
    (hq : ∀ h', q_fr (fun j => j = r) h h' → h'.2 = h.2 → ((passA W.cap use aw P).1 = 0 → MR h' r (passA W.cap use aw P).2 D) → (∃ P', MR h' r P' D) → Q (some (.int (passA W.cap use aw P).1)) h') : q_Ct l (d + 3) mX10_pass [.ref 49, .ref r, .int use, .int (i_aw aw)] h mc ms Q QX := by
  obtain ⟨-, p1, p2, p3⟩ := hp
  have mt := mnt_t ⟨p1, p2⟩
  have mz : -100000 ≤ (mnt P.t).toInt ∧ (mnt P.t).toInt ≤ 100000 := by omega
  unfold passA at hq
  refine v_X10_pass 49 r _ _ (mr_rd (k := 0) v rfl (by decide) (fun F q => q.t) ⟨fun q1 => ?_, fun q1 => ?_⟩)
  · have : ¬ P.t < 14400 := by rw [q1]; decide
    rw [if_neg this] at hq
    exact hq h q_fr.rf rfl (fun q => absurd q (by decide : ¬ (7 : Int32) = 0)) ⟨P, v⟩
  have lt : P.t < 14400 := by
    rw [lt_i, L_14400]
    have : P.t.toInt ≠ 14400 := fun q => q1 (Int32.toInt_inj.mp (by rw [q, L_14400]))
    omega
  rw [if_pos lt] at hq
  refine mr_rd (k := 0) v rfl (by decide) (fun F q => q.t) (mr_rd (k := 3) v rfl (by decide) (fun F q => q.b) (mr_rd (k := 6) v rfl (by decide) (fun F q => q.cl) (m_power (z := mnt P.t) mz ⟨_, rfl, ?_⟩)))
  have h3 : (3 : Int32) * P.ht = (if P.ht = 0 then 0 else 3) := by
    rcases p3 with e | e
    · rw [e, if_pos rfl]; decide
    · rw [e, if_neg z10]; decide
  have h2 : (2 : Int32) * P.ht = (if P.ht = 0 then 0 else 2) := by
    rcases p3 with e | e
    · rw [e, if_pos rfl]; decide
    · rw [e, if_neg z10]; decide
  have go : ∀ y1 : Int32, y1 = (if i_aw aw = 0 then 1 else 2) → q_J l (d + 3) mX10_pass mc ms Q QX h.2 43 [some (.ref 49), some (.ref r), some (.int use), some (.int (i_aw aw)), some (.int (mnt P.t)), none] [.int y1, .int (P.b + pow (lgt (mnt P.t)) P.cl)] h mc ms := by
    intro y1 hy
    refine v_X10_pass_43 49 r _ _ _ _ _ (mr_rd (k := 5) v rfl (by decide) (fun F q => q.ht) (e_gi mo rfl ?_))
    have eb : P.b + pow (lgt (mnt P.t)) P.cl - y1 - 3 * P.ht - use = btA use aw P := by
      unfold btA
      rw [h3, hy]
      grind
    rw [eb]
    have emin : (if btA use aw P < W.cap then btA use aw P else W.cap) = (if W.cap < btA use aw P then W.cap else btA use aw P) := by
      by_cases a : btA use aw P < W.cap
      · rw [if_pos a, if_neg (by rw [lt_i] at a ⊢; omega)]
      · by_cases b : W.cap < btA use aw P
        · rw [if_neg a, if_pos b]
        · rw [if_neg a, if_neg b]
          rw [lt_i] at a b
          exact Int32.toInt_inj.mp (by omega)
    rw [emin]
    refine mr_wr (k := 3) v rfl (by decide) (fun F q => mRw_b q) (fun h1 f1 z1 v1 => ⟨fun q2 => ?_, fun q2 => ?_⟩)
    rotate_left
    · rw [if_neg q2] at hq
      exact hq h1 f1 z1 (fun q => absurd q (by decide : ¬ (2 : Int32) = 0)) ⟨_, v1⟩
    rw [if_pos q2] at hq
    have mo1 := mo.fr f1 (fun e => hr e.symm)
    refine mr_rd (k := 4) v1 rfl (by decide) (fun F q => q.tp) (m_air (z := mnt P.t) mz ⟨_, rfl, mr_rd (k := 4) v1 rfl (by decide) (fun F q => q.tp) (mr_rd (k := 5) v1 rfl (by decide) (fun F q => q.ht) ?_)⟩)
    have tail : ∀ y4 : Int32, y4 = (if i_aw aw = 0 then 0 else 1) → q_J l (d + 3) mX10_pass mc ms Q QX h.2 104 [some (.ref 49), some (.ref r), some (.int use), some (.int (i_aw aw)), some (.int (mnt P.t)), some (.int (btA use aw P))] [.int y4, .int ((air (lgt (mnt P.t)) - P.tp) / 20 + 2 * P.ht), .int P.tp, .int 4, .ref r] h1 mc ms := by
      intro y4 hy4
      refine v_X10_pass_104 49 r _ _ _ _ _ _ _ _ _ (mr_wr (k := 4) v1 rfl (by decide) (fun F q => mRw_tp q) (fun h2' f2 z2 v2 => ?_))
      refine mr_rd (k := 0) v2 rfl (by decide) (fun F q => q.t) (mr_wr (k := 0) v2 rfl (by decide) (fun F q => mRw_t q) (fun h3' f3 z3 v3 => ?_))
      refine mr_rd (k := 0) v3 rfl (by decide) (fun F q => q.t) ?_
      have F3 : q_fr (fun j => j = r) h h3' := (f1.tt f2).tt f3
      have Z3 : h3'.2 = h.2 := by rw [z3, z2, z1]
      refine ⟨fun q5 => ?_, fun q5 => ?_⟩
      · refine mr_rd (k := 6) v3 rfl (by decide) (fun F q => q.cl) (mr_wr (k := 6) v3 rfl (by decide) (fun F q => mRw_cl q) (fun h4 f4 z4 v4 => ?_))
        have en : nxA W.cap use aw P = PH.mk (P.t + 1) P.x P.y (if W.cap < btA use aw P then W.cap else btA use aw P) (P.tp + ((air (lgt (mnt P.t)) - P.tp) / 20 + 2 * P.ht + y4)) (if 20 < P.cl - 1 then P.cl - 1 else 20) P.ht := by
          unfold nxA
          rw [if_pos (show mnt (P.t + 1) = 0 from q5), hy4, h2]
        exact hq h4 (F3.tt f4) (z4.trans Z3) (fun _ => by rw [en]; exact v4) ⟨_, v4⟩
      · have en : nxA W.cap use aw P = PH.mk (P.t + 1) P.x P.y (if W.cap < btA use aw P then W.cap else btA use aw P) (P.tp + ((air (lgt (mnt P.t)) - P.tp) / 20 + 2 * P.ht + y4)) P.cl P.ht := by
          unfold nxA
          rw [if_neg (show ¬ mnt (P.t + 1) = 0 from q5), hy4, h2]
        exact hq h3' F3 Z3 (fun _ => by rw [en]; exact v3) ⟨_, v3⟩
    refine ⟨fun q6 => tail 0 ?_, fun q6 => tail 1 ?_⟩
    · rw [if_pos q6]
    · rw [if_neg q6]
  refine ⟨fun q6 => go 1 ?_, fun q6 => go 2 ?_⟩
  · rw [if_pos q6]
  · rw [if_neg q6]
theorem m_passMany {k : Nat} {use : Int32} {aw : Bool} (hr : r ≠ 49) (mo : MO h W n m th wy) (v : MR h r P D) (hp : pOk P) (hk : k < 2 ^ 31)
    (hq : ∀ h', q_fr (fun j => j = r) h h' → h'.2 = h.2 → ((passN W.cap use aw k P).1 = 0 → MR h' r (passN W.cap use aw k P).2 D) → (∃ P', MR h' r P' D) → Q (some (.int (passN W.cap use aw k P).1)) h') : q_Ct l (d + 4) mX10_passMany [.ref 49, .ref r, .int (nI k), .int use, .int (i_aw aw)] h mc ms Q QX := by
  refine v_X10_passMany 49 r _ _ _ ?_
  refine q_loop (fun i (st : PH × qH) => q_J l (d + 4) mX10_passMany mc ms Q QX h.2 6 [some (.ref 49), some (.ref r), some (.int (nI k)), some (.int use), some (.int (i_aw aw)), some (.int 0), some (.int (nI i))] [] st.2 mc ms)
    (fun i st => q_fr (fun j => j = r) h st.2 ∧ st.2.2 = h.2 ∧ MR st.2 r st.1 D ∧ pOk st.1 ∧ passN W.cap use aw (k - i) st.1 = passN W.cap use aw k P) k ?_ ?_ 0 (P, h) (by omega) ⟨q_fr.rf, rfl, v, hp, rfl⟩
  · rintro ⟨P', h'⟩ ⟨f, z, v', hp', e⟩
    rw [Nat.sub_self, passN] at e
    dsimp only at f z v' hp' e ⊢
    rw [← e] at hq
    exact v_X10_passMany_6 49 r _ _ _ _ (nI k) ⟨fun _ => hq h' f z (fun _ => v') ⟨_, v'⟩, fun q => absurd (Int32.le_refl _) q⟩
  · rintro i ⟨P', h'⟩ hi ⟨f, z, v', hp', e⟩ ih
    rw [show k - i = (k - (i + 1)) + 1 by omega, passN] at e
    dsimp only at f z v' hp' e ⊢
    have mo' := mo.fr f (fun e => hr e.symm)
    refine v_X10_passMany_6 49 r _ _ _ _ (nI i) ⟨fun q => absurd q (nI_ge hi hk), fun _ => ⟨fun _ => ?_, fun q => absurd rfl q⟩⟩
    refine e_ob mo' (m_pass hr mo' v' hp' (fun h2 f2 z2 v2 u2 => ⟨_, rfl, ?_⟩))
    rw [nI_1]
    by_cases q : (passA W.cap use aw P').1 = 0
    · rw [if_pos q] at e
      rw [q]
      exact ih (_, h2) ⟨f.tt f2, z2.trans z, v2 q, passA_ok hp', e⟩
    · rw [if_neg q] at e
      rw [← e] at hq
      have fin := hq h2 (f.tt f2) (z2.trans z) (fun r => absurd r q) u2
      refine v_X10_passMany_6 49 r _ _ _ _ (nI (i + 1)) ⟨fun _ => fin, fun _ => ⟨fun r => absurd r q, fun _ => fin⟩⟩
theorem passN_1 {cap use : Int32} {aw : Bool} {P : PH} : passN cap use aw 1 P = passA cap use aw P := by
  unfold passN
  by_cases q : (passA cap use aw P).1 = 0
  · rw [if_pos q]
    unfold passN
    rw [← q]
  · rw [if_neg q]
theorem chp_0 {c : Nat → Nat} {o t : Nat} (ho : o < 576) (h0 : c o = 0) (hc : chp c t = 0) : t = 0 := by
  by_cases e : t = 0
  · exact e
  · unfold chp at hc
    have := fb_ct_zero.mp hc o ho
    have q : decide (c o < t) = true := decide_eq_true (by omega)
    rw [q] at this
    exact absurd this (by decide)
def dS (r i : Nat) : Prop := rS i ∨ i = r
theorem m_drive {gx gy : Int32} (hr : r < 77 ∧ 53 ≤ r) (mo : MO h W n m th wy) (g : MG h W) (hw : wOk W) (v : MR h r P D) (hp : pOk P) (hg : inP gx gy) (c1 : arA h 77 576) (c2 : arA h 78 576) (c3 : br h 79 576 (fun _ => 0))
    (hq : ∀ h', q_fr (dS r) h h' → h'.2 = h.2 → ((driveA W (C_to W (ix gx gy)) gx gy 576 P).1 = 0 → MR h' r (driveA W (C_to W (ix gx gy)) gx gy 576 P).2 D) → (∃ P', MR h' r P' D) → arA h' 77 576 → arA h' 78 576 → br h' 79 576 (fun _ => 0) → Q (some (.int (driveA W (C_to W (ix gx gy)) gx gy 576 P).1)) h') : q_Ct l (d + 5) mX10_drive [.ref 49, .ref r, .int gx, .int gy] h mc ms Q QX := by
  have far : FARn = 1000000 := rfl
  have r49 : r ≠ 49 := by omega
  refine v_X10_drive 49 r _ _ (e_ob mo (m_reckon_to mo g hw.g hw hg rfl c1 c2 c3 (fun h1 f1 z1 L a1 a2 a3 => ⟨rfl, ?_⟩)))
  have hcl : ∀ u, u < 576 → C_to W (ix gx gy) u ≤ FARn := fun u _ => theC_le
  have g0 : ∀ {x y : Int32}, inP x y → ¬ (x = gx ∧ y = gy) → C_to W (ix gx gy) (ix x y) ≠ 0 := fun a b => goal_0 hw a hg b
  generalize hcc : C_to W (ix gx gy) = c at hq L a1 hcl g0
  have mo1 := mo.fr f1 (by unfold rS; omega)
  have v1 := v.fr f1 (by unfold rS; omega)
  have F1 : q_fr (dS r) h h1 := f1.mono (fun i _ q => Or.inl q)
  have il := ix_lt hp.1
  refine e_gr mo1 rfl (mr_rd (k := 1) v1 rfl (by decide) (fun F q => q.x) (mr_rd (k := 2) v1 rfl (by decide) (fun F q => q.y) (m_at hp.1 ⟨_, rfl, e_al a1 rfl il (by decide) ⟨fun q1 => ?_, fun q1 => ?_⟩⟩)))
  · have nf : ¬ c (ix P.x P.y) < FARn := fun q => by
      have := (nI_eq (a := c (ix P.x P.y)) (b := 1000000) (by omega) (by decide)).mp q1
      omega
    have ng : ¬ (P.x = gx ∧ P.y = gy) := fun q => by
      rw [q.1, q.2] at nf
      exact nf (by rw [L.2.1]; decide)
    have ed : driveA W c gx gy 576 P = (1, P) := by
      rw [show 576 = 575 + 1 from rfl, driveA, if_neg ng, if_neg nf]
    rw [ed] at hq
    exact hq h1 F1 z1 (fun q => absurd q z10) ⟨_, v1⟩ ⟨_, a1⟩ a2 a3
  have hf : c (ix P.x P.y) < FARn := by
    have := hcl _ il
    have : c (ix P.x P.y) ≠ 1000000 := fun q => q1 (by show nI (c (ix P.x P.y)) = nI 1000000; rw [q])
    omega
  refine q_loop (fun i (st : PH × qH) => q_J l (d + 5) mX10_drive mc ms Q QX h.2 31 [some (.ref 49), some (.ref r), some (.int gx), some (.int gy), some (.int 0), none] [] st.2 mc ms)
    (fun i st => q_fr (dS r) h st.2 ∧ st.2.2 = h.2 ∧ MR st.2 r st.1 D ∧ pOk st.1 ∧ ar st.2 77 576 (fun u => nI (c u)) ∧ arA st.2 78 576 ∧ br st.2 79 576 (fun _ => 0) ∧ c (ix st.1.x st.1.y) < FARn ∧ chp c (c (ix st.1.x st.1.y)) + i ≤ 576 ∧ driveA W c gx gy (576 - i) st.1 = driveA W c gx gy 576 P) 576 ?_ ?_ 0 (P, h1) (by omega) ⟨F1, z1, v1, hp, a1, a2, a3, hf, by have := chp_le c (c (ix P.x P.y)); simpa using this, rfl⟩
  · rintro ⟨P', h'⟩ ⟨f, z, v', hp', b1, b2, b3, hf', hch, e⟩
    rw [Nat.sub_self, driveA] at e
    dsimp only at f z v' hp' b1 b2 b3 hf' hch e ⊢
    have c0 : c (ix P'.x P'.y) = 0 := chp_0 L.1 L.2.1 (by omega)
    have at9 : P'.x = gx ∧ P'.y = gy := Classical.byContradiction fun q => g0 hp'.1 q c0
    rw [← e] at hq
    exact v_X10_drive_31 49 r _ _ _ ⟨fun _ => mr_rd (k := 1) v' rfl (by decide) (fun F q => q.x) ⟨fun _ => mr_rd (k := 2) v' rfl (by decide) (fun F q => q.y) ⟨fun _ => hq h' f z (fun _ => v') ⟨_, v'⟩ ⟨_, b1⟩ b2 b3, fun q => absurd at9.2 q⟩, fun q => absurd at9.1 q⟩, fun q => absurd rfl q⟩
  · rintro i ⟨P', h'⟩ hi ⟨f, z, v', hp', b1, b2, b3, hf', hch, e⟩ ih
    rw [show 576 - i = (576 - (i + 1)) + 1 by omega, driveA] at e
    dsimp only at f z v' hp' b1 b2 b3 hf' hch e ⊢
    have mo' := mo.fr f (by unfold dS rS; omega)
    have g' : MG h' W := g.fr f (fun i a b => by unfold dS rS; omega)
    have step : ¬ (P'.x = gx ∧ P'.y = gy) → q_J l (d + 5) mX10_drive mc ms Q QX h.2 50 [some (.ref 49), some (.ref r), some (.int gx), some (.int gy), some (.int 0), none] [] h' mc ms := by
      intro ne
      rw [if_neg ne, if_pos hf'] at e
      have hl := ix_lt hp'.1
      have pe := p_ix hp'.1
      have n0 := g0 hp'.1 ne
      have dk := dir_ok hw.g L hl hf' n0
      have nx := nxt_ok hw.g L hl hf' n0
      have wk := wt_ok hw.g hl dk.2.1
      generalize hp9 : ix P'.x P'.y = p at e hf' hch hl pe n0 dk nx wk
      refine v_X10_drive_50 49 r _ _ _ (mr_rd (k := 4) v' rfl (by decide) (fun F q => q.tp) ⟨fun q1 => ?_, fun q1 => ?_⟩)
      rotate_left
      · have es : stepA W p (dirA W.H W.R W.Z W.s c p) P' = (3, P') := by unfold stepA; rw [if_neg q1]
        rw [es, if_neg (show ¬ (3 : Int32) = 0 by decide)] at e
        rw [← e] at hq
        exact hq h' f z (fun q => absurd q (by decide : ¬ (3 : Int32) = 0)) ⟨_, v'⟩ ⟨_, b1⟩ b2 b3
      have rdx : ∀ {hh : qH} {P9 : PH} {Pr : Int32 → Prop}, MR hh r P9 D → P9.x = P'.x → Pr (px p) → qAL hh r 1 Pr := fun w ew hp => mr_rd (k := 1) w rfl (by decide) (fun F q => q.x) (by rw [ew, ← pe.1]; exact hp)
      have rdy : ∀ {hh : qH} {P9 : PH} {Pr : Int32 → Prop}, MR hh r P9 D → P9.y = P'.y → Pr (py p) → qAL hh r 2 Pr := fun w ew hp => mr_rd (k := 2) w rfl (by decide) (fun F q => q.y) (by rw [ew, ← pe.2]; exact hp)
      refine rdx v' rfl (rdy v' rfl (e_ob mo' (m_direction mo' g' hw.g L b1 hcl hl hf' n0 ⟨_, rfl, ?_⟩)))
      generalize hk9 : dirA W.H W.R W.Z W.s c p = k at e dk nx wk ⊢
      refine rdx v' rfl (rdy v' rfl (e_ob mo' (m_minutes mo' g' (inP_p hl) dk.1 dk.2.1.1 ⟨_, rfl, ?_⟩)))
      rw [wk.1]
      have e1 : nI (wt W.H W.R p k) - 1 = nI (wt W.H W.R p k - 1) := by
        obtain ⟨w', e⟩ : ∃ w', wt W.H W.R p k = w' + 1 := ⟨wt W.H W.R p k - 1, by omega⟩
        rw [e, nI_pred]; rfl
      dsimp only
      rw [e1]
      have xy := passN_xy (cap := W.cap) (use := 0) (aw := true) (wt W.H W.R p k - 1) P'
      -- behind a step, or a part of one
      have behind : ∀ (z9 : Int32) (h2 : qH) (P2 : PH), q_fr (dS r) h h2 → h2.2 = h.2 → MR h2 r P2 D → ar h2 77 576 (fun u => nI (c u)) → arA h2 78 576 → br h2 79 576 (fun _ => 0) → (z9 = 0 → pOk P2 ∧ P2.x = P'.x ∧ P2.y = P'.y ∧ stepA W p k P' = (0, mvA P2 k)) → (¬ z9 = 0 → (stepA W p k P').1 = z9) →
          q_J l (d + 5) mX10_drive mc ms Q QX h.2 120 [some (.ref 49), some (.ref r), some (.int gx), some (.int gy), some (.int z9), some (.int (nI k))] [] h2 mc ms := by
        intro z9 h2 P2 f2 z2 v2 d1 d2 d3 s0 s1
        refine v_X10_drive_120 49 r _ _ _ _ (mr_rd (k := 1) v2 rfl (by decide) (fun F q => q.x) (e_sl rfl dk.1 (mr_wr (k := 1) v2 rfl (by decide) (fun F q => mRw_x q) (fun h3 f3 z3 v3 => ?_))))
        refine mr_rd (k := 2) v3 rfl (by decide) (fun F q => q.y) (e_sl rfl dk.1 (mr_wr (k := 2) v3 rfl (by decide) (fun F q => mRw_y q) (fun h4 f4 z4 v4 => ?_)))
        have F4 : q_fr (dS r) h h4 := (f2.t1 f3 (Or.inr rfl)).t1 f4 (Or.inr rfl)
        have Z4 : h4.2 = h.2 := by rw [z4, z3, z2]
        have v4' : MR h4 r (mvA P2 k) D := v4
        have d1' := (d1.f1 f3 (by omega)).f1 f4 (by omega)
        have d2' : arA h4 78 576 := (d2.fr f3 (by omega)).fr f4 (by omega)
        have d3' : br h4 79 576 (fun _ => 0) := (d3.fr f3 (by omega)).fr f4 (by omega)
        by_cases q : z9 = 0
        · obtain ⟨t1, t2, t3, t4⟩ := s0 q
          rw [q]
          rw [t4, if_pos rfl] at e
          have ip : inP (P2.x + q_dx k) (P2.y + q_dy k) := by
            rw [t2, t3, ← pe.1, ← pe.2]
            exact dk.2.1.1
          have ixn : ix (P2.x + q_dx k) (P2.y + q_dy k) = nb p k := by
            rw [t2, t3, ← pe.1, ← pe.2]; rfl
          have nx' : c (nb p k) < c p ∧ c (nb p k) < FARn := by
            have a := nx.2.1
            have b := nx.2.2.1
            unfold nxt at a b
            rw [hk9] at a b
            exact ⟨a, b⟩
          refine ih (mvA P2 k, h4) ⟨F4, Z4, v4', ⟨ip, t1.2.1, t1.2.2.1, t1.2.2.2⟩, d1', d2', d3', ?_, ?_, e⟩
          · show c (ix (P2.x + q_dx k) (P2.y + q_dy k)) < FARn
            rw [ixn]; exact nx'.2
          · show chp c (c (ix (P2.x + q_dx k) (P2.y + q_dy k))) + (i + 1) ≤ 576
            rw [ixn]
            have := chp_lt (c := c) (v := nb p k) (t := c p) (nb_lt dk.2.1.1) nx'.1
            omega
        · have t1 := s1 q
          rw [if_neg (by rw [t1]; exact q)] at e
          rw [← e] at hq
          refine v_X10_drive_31 49 r _ _ _ ⟨fun r => absurd r q, fun _ => ?_⟩
          have := hq h4 F4 Z4 (fun r => absurd (t1.symm.trans r) q) ⟨_, v4'⟩ ⟨_, d1'⟩ d2' d3'
          rw [t1] at this
          exact this
      have lift : ∀ {h2 : qH}, q_fr (fun j => j = r) h' h2 → q_fr (dS r) h h2 := fun f2 => f.tt (f2.mono (fun i _ q => Or.inr q))
      refine e_ob mo' (m_passMany (aw := true) r49 mo' v' hp' (by omega) (fun h2 f2 z2 v2 u2 => ⟨_, rfl, fun q2 => ?_, fun q2 => ?_⟩))
      rotate_left
      · obtain ⟨P2, u2⟩ := u2
        refine behind _ h2 P2 (lift f2) (z2.trans z) u2 (b1.f1 f2 (by omega)) (b2.fr f2 (by omega)) (b3.fr f2 (by omega)) (fun r => absurd r q2) (fun _ => ?_)
        unfold stepA
        rw [if_pos q1, if_neg q2]
      have v2 := v2 q2
      have mo2 := mo'.fr f2 (by omega)
      have g2 : MG h2 W := g'.fr f2 (fun i a b => by omega)
      refine rdx v2 xy.1 (rdy v2 xy.2 (e_ob mo2 (m_energy mo2 g2 hl dk.1 dk.2.1.1 ⟨_, rfl, ?_⟩)))
      have ok2 := passN_ok (cap := W.cap) (use := 0) (aw := true) (wt W.H W.R p k - 1) hp'
      have es : stepA W p k P' = ((passA W.cap (sp_eng W.H W.R p k) true (passN W.cap 0 true (wt W.H W.R p k - 1) P').2).1, mvA (passA W.cap (sp_eng W.H W.R p k) true (passN W.cap 0 true (wt W.H W.R p k - 1) P').2).2 k) := by
        unfold stepA
        rw [if_pos q1, if_pos q2, passN_1]
      refine e_ob mo2 (m_pass (aw := true) r49 mo2 v2 ok2 (fun h3 f3 z3 v3 u3 => ⟨_, rfl, ?_⟩))
      have F3 := lift (f2.tt f3)
      by_cases q3 : (passA W.cap (sp_eng W.H W.R p k) true (passN W.cap 0 true (wt W.H W.R p k - 1) P').2).1 = 0
      · have xy3 := passA_xy (cap := W.cap) (use := sp_eng W.H W.R p k) (aw := true) (P := (passN W.cap 0 true (wt W.H W.R p k - 1) P').2)
        refine behind _ h3 _ F3 (by rw [z3, z2, z]) (v3 q3) ((b1.f1 f2 (by omega)).f1 f3 (by omega)) ((b2.fr f2 (by omega)).fr f3 (by omega)) ((b3.fr f2 (by omega)).fr f3 (by omega)) (fun _ => ⟨passA_ok ok2, xy3.1.trans xy.1, xy3.2.trans xy.2, ?_⟩) (fun r => absurd q3 r)
        rw [es, q3]
      · obtain ⟨P3, u3⟩ := u3
        refine behind _ h3 P3 F3 (by rw [z3, z2, z]) u3 ((b1.f1 f2 (by omega)).f1 f3 (by omega)) ((b2.fr f2 (by omega)).fr f3 (by omega)) ((b3.fr f2 (by omega)).fr f3 (by omega)) (fun r => absurd r q3) (fun _ => ?_)
        rw [es]
    refine v_X10_drive_31 49 r _ _ _ ⟨fun _ => mr_rd (k := 1) v' rfl (by decide) (fun F q => q.x) ⟨fun q1 => mr_rd (k := 2) v' rfl (by decide) (fun F q => q.y) ⟨fun q2 => ?_, fun q2 => step (fun q => q2 q.2)⟩, fun q1 => step (fun q => q1 q.1)⟩, fun q => absurd rfl q⟩
    rw [if_pos ⟨q1, q2⟩] at e
    rw [← e] at hq
    exact hq h' f z (fun _ => v') ⟨_, v'⟩ ⟨_, b1⟩ b2 b3
end MD3
