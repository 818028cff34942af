/-! THE LAW: what it builds -/
def tgG (x y v n : Int32) : Nat → Int32 := fun j => match j with
  | 0 => x
  | 1 => y
  | 2 => v
  | _ => n
def TB (h : qH) (W : WS) (tr : Nat → Nat) : Prop := CS h 49 (A0.uW W) ∧ aOk (A0.uW W) ∧ W.cap = 4000 ∧ W.mem = 800 ∧ SK h W tr ∧ SI h 800 4000 3000 (.ref 56)
theorem SV_of {h : qH} {W : WS} {tr : Nat → Nat} {b mem cap : Int32} (K : SK h W tr) (e1 : W.cap = cap) (e2 : W.mem = mem) (S : SI h mem cap b (.ref 56)) : SV h W tr (PH.mk 0 0 0 b (-20) 100 0) D0 := by
  subst e1 e2
  exact ⟨K, 51, fun _ => 0, S.1, S.2.1, ⟨by decide, S.2.2.1.to (fun p hp => absurd hp (Nat.not_lt_zero _))⟩, fun k hk => absurd hk (Nat.not_lt_zero _)⟩
section BU
variable {l : Launch} {d mc ms : Nat} {Q : Option Value → qH → Prop} {QX : String → qH → Prop} {h : qH}
theorem one_n (n : Nat) : (1 : Int32) + nI n = nI (1 + n) := nI_add 1 n
/-- one target more -/
theorem b_target {n0 kc ks k many : Nat} {W : WS} {tr : Nat → Nat} (hl0 : l.stackTraces = false) (hkc : 2 ≤ kc) (hks : 10 ≤ ks) (t : TB h W tr) (ek : W.tn = k) (hk : k < many) (h4 : many ≤ 4)
    (hq : ∀ h' W' tr', TB h' W' tr' → W'.tn = k + 1 → W'.pn = W.pn → q_J l (d + 8) mL_build mc ms Q QX n0 43 [some (.ref 0), some (.float 4), some (.ref 49), some (.int (nI many)), some (.int (nI (k + 1))), none, none, none, none, none, none] [] h' (kc - 2) (ks - 10)) :
    q_J l (d + 8) mL_build mc ms Q QX n0 43 [some (.ref 0), some (.float 4), some (.ref 49), some (.int (nI many)), some (.int (nI k)), none, none, none, none, none, none] [] h kc ks := by
  obtain ⟨c, ok, e1, e2, K, S⟩ := t
  obtain ⟨K1, K2, K3, K4, K5⟩ := id K
  have h57 : 57 ≤ h.2 := K1.1
  have hneg : ¬ (9 + (nI k - nI k / 3 * 3) : Int32) < 0 := by
    rw [show nI k - nI k / 3 * 3 = nI (k % 3) from pk_rem (d := 3) (by omega) (by decide) (by decide), show (9 : Int32) = nI 9 from rfl, nI_add]
    exact nI_pos (by omega)
  refine v_L_build_43 hkc hks 0 49 (nI many) (nI k) ⟨fun q => absurd q (nI_ge hk (by omega)), fun _ => s_cell hneg (fun z6 => ⟨_, rfl, ?_⟩)⟩
  dsimp only
  generalize z6 >>> (((nI k / 3) * 9) &&& 31) = x
  refine e_gr S.1 rfl (e_nin (n := h.2) rfl (fun h2 f2 z2 a2 => ?_))
  refine s_below (n := 9) (by decide) (by decide) (fun x1 hx1 => ⟨_, rfl, e_as (k := 0) a2 rfl (by decide) (by decide) (fun h3 f3 z3 a3 => ?_)⟩)
  refine s_below (n := 9) (by decide) (by decide) (fun y1 hy1 => ⟨_, rfl, e_as (k := 1) a3 rfl (by decide) (by decide) (fun h4 f4 z4 a4 => ?_)⟩)
  refine s_below (n := 100) (by decide) (by decide) (fun v1 hv1 => ⟨_, rfl, e_as (k := 2) a4 rfl (by decide) (by decide) (fun h5 f5 z5 a5 => ?_)⟩)
  refine s_below (n := 4) (by decide) (by decide) (fun n1 hn1 => ⟨_, rfl, e_as (k := 3) a5 rfl (by decide) (by decide) (fun h6 f6 z6' a6 => ?_)⟩)
  have F6 : q_fr (fun j => j = h.2) h2 h6 := ((f3.tt f4).tt f5).tt f6
  have G6 : ∀ U : Nat → Prop, q_fr U h h6 := fun U => (f2 U).tr F6 (fun i _ q => q) (fun i hi q => by omega)
  have r6 : ar h6 h.2 4 (tgG (nI x1) (nI y1) (1 + nI v1) (1 + nI n1)) := a6.to (fun p hp => by
    rcases (show p = 0 ∨ p = 1 ∨ p = 2 ∨ p = 3 by omega) with rfl | rfl | rfl | rfl <;> rfl)
  refine e_a4 (K2.fr (G6 (fun _ => False)) (fun q => q)) r6 rfl (show k < 12 by omega) (by decide) (fun h7 f7 z7 r7 => ?_)
  have G7 : q_fr (fun j => j = 55) h h7 := (G6 _).tt f7
  have o7 := S.1.fr G7 (by decide)
  have t7 := r6.fr f7 (by omega)
  have c7 := CS_law c G7 (fun i q => by omega)
  refine e_gr o7 rfl (e_o4 r7 rfl (show k < 12 by omega) (by decide) (if_pos rfl) (e_al (k := 0) t7 rfl (by decide) (by decide) ?_))
  refine e_gr o7 rfl (e_o4 r7 rfl (show k < 12 by omega) (by decide) (if_pos rfl) (e_al (k := 1) t7 rfl (by decide) (by decide) ?_))
  refine e_gr o7 rfl (e_o4 r7 rfl (show k < 12 by omega) (by decide) (if_pos rfl) (e_al (k := 2) t7 rfl (by decide) (by decide) ?_))
  refine e_gr o7 rfl (e_o4 r7 rfl (show k < 12 by omega) (by decide) (if_pos rfl) (e_al (k := 3) t7 rfl (by decide) (by decide) ?_))
  have er : R_addTarget (A0.uW W) (nI x1) (nI y1) (1 + nI v1) (1 + nI n1) = (0, nI k, A0.uW (addT W (nI x1) (nI y1) (1 + nI v1) (1 + nI n1))) := by
    unfold R_addTarget
    rw [pif_t (inP_nI (by omega) (by omega)), pif_t ⟨by unfold bt; rw [one_n, nI_toInt (by omega)]; omega, by unfold bt; rw [one_n, nI_toInt (by omega)]; omega⟩, pif_t (show (A0.uW W).W.tn < 12 by show W.tn < 12; omega)]
    show (0, nI W.tn, _) = _
    rw [ek]
    rfl
  refine e_ob c7.o (c_addTarget (d := d + 1) (x := nI x1) (y := nI y1) (v := 1 + nI v1) (n := 1 + nI n1) hl0 (by decide) (by decide) (by decide) c7 ok ?_)
  have ok8 := a_addTarget ok (nI x1) (nI y1) (1 + nI v1) (1 + nI n1)
  rw [er] at ok8 ⊢
  refine rs_i (fun h8 f8 c8 => ⟨fun _ => ?_, fun q => absurd rfl q⟩)
  rw [nI_1]
  have G8 : q_fr (fun i => i < 49 ∨ i = 55) h h8 := G7.tr f8 (fun i _ q => Or.inr q) (fun i _ q => Or.inl q)
  have c49 : ∀ i, 49 ≤ i → ¬ clS 49 i := fun i hi q => by unfold clS at q; omega
  refine hq h8 (addT W (nI x1) (nI y1) (1 + nI v1) (1 + nI n1)) (updN tr k h.2) ⟨c8, ok8, e1, e2, ⟨ar.fr K1 G8 (by decide), (r7.to (fun q hq12 => ?_)).fr f8 (c49 _ (by decide)), fun j hj => ?_, K4.fr G8 (by decide), K5.fr G8 (by decide)⟩, S.fr G8 (fun i q => by omega)⟩ (show W.tn + 1 = k + 1 by omega) rfl
  · show (if q = k then some h.2 else if q < W.tn then some (tr q) else none) = if q < W.tn + 1 then some (updN tr k h.2 q) else none
    rw [ek]
    by_cases c1 : q = k
    · rw [if_pos c1, if_pos (by omega), c1, updN_at]
    · rw [if_neg c1, updN_ne c1]
      by_cases c2 : q < k
      · rw [if_pos c2, if_pos (by omega)]
      · rw [if_neg c2, if_neg (by omega)]
  · change j < W.tn + 1 at hj
    by_cases c1 : j = k
    · subst c1
      rw [updN_at]
      refine ⟨h57, (t7.fr f8 (c49 _ (by omega))).to (fun p hp => ?_)⟩
      rw [← ek]
      rcases (show p = 0 ∨ p = 1 ∨ p = 2 ∨ p = 3 by omega) with rfl | rfl | rfl | rfl
      · exact pk_us.symm
      · exact pk_us.symm
      · exact pk_us.symm
      · exact pk_us.symm
    · rw [updN_ne c1]
      have hj2 : j < W.tn := by omega
      refine ⟨(K3 j hj2).1, ((K3 j hj2).2.fr G8 (by have := (K3 j hj2).1; omega)).to (fun p hp => ?_)⟩
      rw [← ek] at c1
      rcases (show p = 0 ∨ p = 1 ∨ p = 2 ∨ p = 3 by omega) with rfl | rfl | rfl | rfl
      · exact (pk_un c1).symm
      · exact (pk_un c1).symm
      · exact (pk_un c1).symm
      · exact (pk_un c1).symm
/-- one pass more -/
theorem b_pass {n0 kc ks k np : Nat} {W : WS} {tr : Nat → Nat} {x3 : Int32} (hl0 : l.stackTraces = false) (hkc : 1 ≤ kc) (hks : 6 ≤ ks) (t : TB h W tr) (ek : W.pn = k) (hk : k < np) (h4 : np ≤ 4)
    (hq : ∀ h' W', TB h' W' tr → W'.pn = k + 1 → W'.tn = W.tn → q_J l (d + 8) mL_build mc ms Q QX n0 200 [some (.ref 0), some (.float 4), some (.ref 49), some (.int x3), some (.int (nI np)), some (.int (nI (k + 1))), none, none, none, none, none] [] h' (kc - 1) (ks - 6)) :
    q_J l (d + 8) mL_build mc ms Q QX n0 200 [some (.ref 0), some (.float 4), some (.ref 49), some (.int x3), some (.int (nI np)), some (.int (nI k)), none, none, none, none, none] [] h kc ks := by
  obtain ⟨c, ok, e1, e2, K, S⟩ := t
  refine v_L_build_200 hkc hks 0 49 x3 (nI np) (nI k) ⟨fun q => absurd q (nI_ge hk (by omega)), fun _ => s_cell (by decide) (fun z6 => ⟨_, rfl, ?_⟩)⟩
  dsimp only
  generalize z6 >>> ((5 * nI k) &&& 31) = x
  refine s_below (n := 1400) (by decide) (by decide) (fun fr hfr => ⟨_, rfl, ?_⟩)
  dsimp only
  rw [show (1440 : Int32) - nI fr = nI (1440 - fr) from pk_sub (a := 1440) (by omega)]
  refine s_below (n := 1440 - fr) (by omega) (by omega) (fun dd hdd => ⟨_, rfl, s_below (n := 20) (by decide) (by decide) (fun rt hrt => ⟨_, rfl, ?_⟩)⟩)
  dsimp only
  rw [nI_1, nI_add, one_n]
  have er : R_addPass (A0.uW W) (nI fr) (nI (fr + 1 + dd)) (nI (1 + rt)) = (0, nI k + 1, A0.uW (addP W (nI fr) (nI (fr + 1 + dd)) (nI (1 + rt)))) := by
    unfold R_addPass
    rw [pif_t ⟨by unfold bt; rw [nI_toInt (by omega)]; omega, by rw [nI_toInt (by omega), nI_toInt (by omega)]; omega, by rw [nI_toInt (by omega)]; omega, by unfold bt; rw [nI_toInt (by omega)]; omega⟩, pif_t (show (A0.uW W).W.pn < 6 by show W.pn < 6; omega)]
    show (0, nI (W.pn + 1), _) = _
    rw [ek, nI_1]
    rfl
  refine e_ob c.o (c_addPass (d := d + 1) hl0 (by decide) (by decide) (by decide) c ok ?_)
  have ok8 := a_addPass ok (nI fr) (nI (fr + 1 + dd)) (nI (1 + rt))
  rw [er] at ok8 ⊢
  refine rs_i (fun h8 f8 c8 => ⟨fun _ => ?_, fun q => absurd rfl q⟩)
  have t8 : TB h8 (addP W (nI fr) (nI (fr + 1 + dd)) (nI (1 + rt))) tr := by
    have K8 : SK h8 W tr := K.fr f8 (fun i q => by unfold clS at q; omega)
    exact ⟨c8, ok8, e1, e2, K8, S.fr f8 (fun i q => Or.inl q)⟩
  refine q_loop (fun m (h9 : qH) => q_J l (d + 8) mL_build mc ms Q QX n0 287 [some (.ref 0), some (.float 4), some (.ref 49), some (.int x3), some (.int (nI np)), some (.int (nI k)), some (.int x), some (.int (nI fr)), some (.int (nI (fr + 1 + dd))), some (.int (nI (1 + rt))), some (.int (nI m))] [] h9 (kc - 1) (ks - 6)) (fun m h9 => TB h9 (addP W (nI fr) (nI (fr + 1 + dd)) (nI (1 + rt))) tr) (fr + 1 + dd) ?_ ?_ fr h8 (by omega) t8
  · intro h9 t9
    refine v_L_build_287 0 49 x3 _ _ x _ _ _ (nI (fr + 1 + dd)) ⟨fun _ => ?_, fun q => absurd (Int32.le_refl _) q⟩
    rw [nI_1]
    exact hq h9 _ t9 (show W.pn + 1 = k + 1 by omega) rfl
  · intro m h9 hm t9 ih
    obtain ⟨c9, ok9, e19, e29, K9, S9⟩ := t9
    obtain ⟨s1, s2, s3, s4, s5, F, s6⟩ := id S9
    refine v_L_build_287 0 49 x3 _ _ x _ _ _ (nI m) ⟨fun q => absurd q (nI_ge hm (by omega)), fun _ => ?_⟩
    refine e_gr s1 rfl (e_gr s1 rfl (e_al s6 rfl (by omega) (by decide) (e_as s6 rfl (by omega) (by decide) (fun h10 f10 z10 a10 => ?_))))
    rw [nI_1]
    obtain ⟨K1, K2, K3, K4, K5⟩ := K9
    exact ih h10 ⟨CS_law c9 f10 (fun i q => by omega), ok9, e19, e29, ⟨ar.fr K1 f10 (by decide), K2.fr f10 (by decide), fun j hj => ⟨(K3 j hj).1, (K3 j hj).2.fr f10 (by have := (K3 j hj).1; omega)⟩, K4.fr f10 (by decide), K5.fr f10 (by decide)⟩, s1.fr f10 (by decide), s2.fr f10 (by decide), s3.fr f10 (by decide), s4.fr f10 (by decide), s5.fr f10 (by decide), _, a10⟩
/-- what the law starts from -/
def stA (A : ST) : Prop := A.P.t = 0 ∧ A.P.x = 0 ∧ A.P.y = 0 ∧ A.P.cl = 100 ∧ A.D = D0 ∧ A.L = L0 ∧ 1 ≤ A.W.tn ∧ A.W.tn ≤ 4
theorem b_end {n0 kc ks np : Nat} {W : WS} {tr : Nat → Nat} {x3 : Int32} (hl0 : l.stackTraces = false) (hkc : 1 ≤ kc) (hks : 6 ≤ ks) (t : TB h W tr) (t1 : 1 ≤ W.tn) (t4 : W.tn ≤ 4) (hq : ∀ h' tr A, TW h' tr A → aOk A → stA A → Q (some (.ref 49)) h') :
    q_J l (d + 8) mL_build mc ms Q QX n0 200 [some (.ref 0), some (.float 4), some (.ref 49), some (.int x3), some (.int (nI np)), some (.int (nI np)), none, none, none, none, none] [] h kc ks := by
  obtain ⟨c, ok, e1, e2, K, S⟩ := t
  refine v_L_build_200 hkc hks 0 49 x3 (nI np) (nI np) ⟨fun _ => s_cell (by decide) (fun z6 => ⟨_, rfl, s_below (n := 3) (by decide) (by decide) (fun z5 _ => ⟨_, rfl, ⟨fun _ => ?_, fun _ => ?_⟩⟩)⟩), fun q => absurd (Int32.le_refl _) q⟩
  rotate_left
  · exact hq h tr (A0.uW W) ⟨c, SV_of K e1 e2 S⟩ ok ⟨rfl, rfl, rfl, rfl, rfl, rfl, t1, t4⟩
  obtain ⟨s1, s2, s3, s4, s5, F, s6⟩ := id S
  refine e_gr s1 rfl (s_cell (by decide) (fun z7 => ⟨_, rfl, s_below (n := 3000) (by decide) (by decide) (fun cp hcp => ⟨_, rfl, e_as (k := 8) s2 rfl (by decide) (by decide) (fun h2 f2 z2 a2 => ?_)⟩)⟩))
  refine s_cell (by decide) (fun z8 => ⟨_, rfl, s_below (n := 400) (by decide) (by decide) (fun me hme => ⟨_, rfl, e_pi (s1.fr f2 (by decide)) (Nat.le_of_ble_eq_true rfl) (fun h3 f3 z3 o3 => ?_)⟩)⟩)
  have a3 := a2.fr f3 (by decide)
  refine e_gr o3 rfl (e_gr o3 rfl (e_al (k := 8) a3 rfl (by decide) (by decide) (e_as (k := 3) a3 rfl (by decide) (by decide) (fun h4 f4 z4 a4 => ?_))))
  have o4 := o3.fr f4 (by decide)
  refine e_gr o4 rfl (e_al (k := 8) a4 rfl (by decide) (by decide) (e_gi o4 rfl ?_))
  have ec : (100 : Int32) + nI cp = nI (100 + cp) := nI_add 100 cp
  have em : (40 : Int32) + nI me = nI (40 + me) := nI_add 40 me
  have G4 : q_fr (fun j => j = 49 ∨ j = 50) h h4 := (f2.mono (fun i _ q => Or.inr q)).tr ((f3.mono (S2 := fun j => j = 49 ∨ j = 50) (fun i _ q => Or.inl q)).tt (f4.mono (fun i _ q => Or.inr q))) (fun i _ q => q) (fun i _ q => q)
  have c4 := CS_law c G4 (fun i q => by omega)
  have er : R_setRover (A0.uW W) (100 + nI cp) (40 + nI me) = (0, 4000, ((A0.uW W).uW (W.uc (100 + nI cp) (40 + nI me))).uP (limB (100 + nI cp) P0)) := by
    unfold R_setRover
    rw [pif_t ⟨by unfold bt; rw [ec, nI_toInt (by omega)]; omega, by unfold bt; rw [em, nI_toInt (by omega)]; omega⟩, pif_t (show unA (A0.uW W).D ≤ 40 + nI me by rw [em, le_i, nI_toInt (by omega)]; show (0 : Int32).toInt ≤ _; rw [L_0]; omega)]
    show (0, W.cap, _) = _
    rw [e1]
    rfl
  refine e_ob c4.o (c_setRover (d := d + 1) (a := 100 + nI cp) (m := 40 + nI me) hl0 (by decide) (by decide) (by decide) c4 ok ?_)
  have ok8 := a_setRover ok (100 + nI cp) (40 + nI me)
  rw [er] at ok8 ⊢
  refine rs_i (fun h8 f8 c8 => ⟨fun _ => ?_, fun q => absurd rfl q⟩)
  have c49 : ∀ i, 49 ≤ i → ¬ clS 49 i := fun i hi q => by unfold clS at q; omega
  have r4 : ar h4 50 9 (rR (PH.mk 0 0 0 (if 100 + nI cp < 3000 then 100 + nI cp else 3000) (-20) 100 0) 0 (100 + nI cp)) := a4.to (fun p hp => by
    rcases (show p = 0 ∨ p = 1 ∨ p = 2 ∨ p = 3 ∨ p = 4 ∨ p = 5 ∨ p = 6 ∨ p = 7 ∨ p = 8 by omega) with rfl | rfl | rfl | rfl | rfl | rfl | rfl | rfl | rfl <;> rfl)
  have G8 : q_fr (fun i => i ≤ 50) h h8 := G4.tr f8 (fun i _ q => by omega) (fun i _ q => by unfold clS at q; omega)
  have K8 := K.fr G8 (fun i q => q)
  have S8 : SI h8 (40 + nI me) (100 + nI cp) (if 100 + nI cp < 3000 then 100 + nI cp else 3000) (.ref 56) := ⟨o4.fr f8 (c49 _ (by decide)), r4.fr f8 (c49 _ (by decide)), s3.fr G8 (by decide), s4.fr G8 (by decide), s5.fr G8 (by decide), F, s6.fr G8 (by decide)⟩
  have K9 : SK h8 (W.uc (100 + nI cp) (40 + nI me)) tr := K8
  exact hq h8 tr _ ⟨c8, SV_of K9 rfl rfl S8⟩ ok8 ⟨rfl, rfl, rfl, rfl, rfl, rfl, t1, t4⟩
theorem s_build (hl0 : l.stackTraces = false) (hkc : 60 ≤ mc) (hks : 5000 ≤ ms) (c : CS h 49 A0) (hr : h.2 = 49) (hq : ∀ h' tr A, TW h' tr A → aOk A → stA A → Q (some (.ref 49)) h') : q_Ct l (d + 8) mL_build [.ref 0, .float 4] h mc ms Q QX := by
  refine v_L_build (by omega) (by omega) 0 (e_nwn (n := 49) hr (fun h1 f1 z1 o1 => s_simI (d := d + 6) (by decide) (by decide) o1 z1 (fun h2 f2 z2 S2 r2 => ⟨rfl, ?_⟩)))
  have c2 : CS h2 49 A0 := CS_law (CS_law c (f1 (fun _ => False)) (fun i q => q.elim)) f2 (fun i q => by omega)
  refine s_ground hl0 (by decide) (by decide) c2 z2 (fun h3 H R Z s f3 z3 c3 ok3 g3 => ⟨_, rfl, ?_⟩)
  have S3 := S2.fr f3 (fun i q => Or.inl q)
  have r3 := r2.fr f3 (fun q => by unfold clS at q; omega)
  refine e_pr S3.1 (Nat.le_of_ble_eq_true rfl) (fun h4 f4 z4 o4 => e_gr o4 rfl (s_cell (by decide) (fun z6 => ⟨_, rfl, s_below (n := 4) (by decide) (by decide) (fun tn htn => ⟨_, rfl, ?_⟩)⟩)))
  dsimp only
  rw [one_n]
  have t4 : TB h4 (WG H R Z s) (fun _ => 0) := by
    obtain ⟨s1, s2, s3, s4, s5, F, s6⟩ := S3
    exact ⟨CS_law c3 f4 (fun i q => by omega), ok3, rfl, rfl, ⟨ar.fr g3 f4 (by decide), (r3.fr f4 (by decide)).to (fun p _ => rfl), fun j hj => absurd hj (Nat.not_lt_zero _), s4.fr f4 (by decide), s5.fr f4 (by decide)⟩, o4, s2.fr f4 (by decide), s3.fr f4 (by decide), s4.fr f4 (by decide), s5.fr f4 (by decide), F, s6.fr f4 (by decide)⟩
  refine q_loop (fun k (st : qH × Nat × Nat) => q_J l (d + 8) mL_build mc ms Q QX h.2 43 [some (.ref 0), some (.float 4), some (.ref 49), some (.int (nI (1 + tn))), some (.int (nI k)), none, none, none, none, none, none] [] st.1 st.2.1 st.2.2) (fun k st => (∃ W tr, TB st.1 W tr ∧ W.tn = k ∧ W.pn = 0) ∧ 20 - 2 * k ≤ st.2.1 ∧ 200 - 10 * k ≤ st.2.2) (1 + tn) ?_ ?_ 0 (h4, mc - 29, ms - 4009) (by omega) ⟨⟨_, _, t4, rfl, rfl⟩, by show 20 - 2 * 0 ≤ mc - 29; omega, by show 200 - 10 * 0 ≤ ms - 4009; omega⟩
  · rintro ⟨h5, kc, ks⟩ ⟨⟨W, tr, t5, e5, p5⟩, b1, b2⟩
    dsimp only at t5 b1 b2 ⊢
    refine v_L_build_43 (by omega) (by omega) 0 49 _ (nI (1 + tn)) ⟨fun _ => s_cell (by decide) (fun z7 => ⟨_, rfl, s_below (n := 4) (by decide) (by decide) (fun np hnp => ⟨_, rfl, ?_⟩)⟩), fun q => absurd (Int32.le_refl _) q⟩
    refine q_loop (fun k (st : qH × Nat × Nat) => q_J l (d + 8) mL_build mc ms Q QX h.2 200 [some (.ref 0), some (.float 4), some (.ref 49), some (.int (nI (1 + tn))), some (.int (nI np)), some (.int (nI k)), none, none, none, none, none] [] st.1 st.2.1 st.2.2) (fun k st => (∃ W tr, TB st.1 W tr ∧ W.tn = 1 + tn ∧ W.pn = k) ∧ 10 - k ≤ st.2.1 ∧ 60 - 6 * k ≤ st.2.2) np ?_ ?_ 0 (h5, kc, ks) (by omega) ⟨⟨W, tr, t5, e5, p5⟩, by show 10 - 0 ≤ kc; omega, by show 60 - 6 * 0 ≤ ks; omega⟩
    · rintro ⟨h6, kc6, ks6⟩ ⟨⟨W6, tr6, t6, e6, p6⟩, b16, b26⟩
      dsimp only at t6 b16 b26 ⊢
      exact b_end hl0 (by omega) (by omega) t6 (by omega) (by omega) hq
    · rintro k ⟨h6, kc6, ks6⟩ hk ⟨⟨W6, tr6, t6, e6, p6⟩, b16, b26⟩ ih
      dsimp only at t6 b16 b26 ⊢
      exact b_pass hl0 (by omega) (by omega) t6 p6 hk (by omega) (fun h7 W7 t7 e7 p7 => ih (h7, kc6 - 1, ks6 - 6) ⟨⟨W7, tr6, t7, by omega, e7⟩, by show 10 - (k + 1) ≤ kc6 - 1; omega, by show 60 - 6 * (k + 1) ≤ ks6 - 6; omega⟩)
  · rintro k ⟨h5, kc, ks⟩ hk ⟨⟨W, tr, t5, e5, p5⟩, b1, b2⟩ ih
    dsimp only at t5 b1 b2 ⊢
    exact b_target hl0 (by omega) (by omega) t5 e5 hk (by omega) (fun h7 W7 tr7 t7 e7 p7 => ih (h7, kc - 2, ks - 10) ⟨⟨W7, tr7, t7, e7, by omega⟩, by show 20 - 2 * (k + 1) ≤ kc - 2; omega, by show 200 - 10 * (k + 1) ≤ ks - 10; omega⟩)
end BU
