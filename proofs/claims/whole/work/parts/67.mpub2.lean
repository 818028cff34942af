/-! the model's public calls: targets told, passes, the rover, the plan -/
theorem n10 {k : Nat} : (10 : Int32) + nI k = nI (10 + k) := by rw [show (10 : Int32) = nI 10 from rfl, nI_add]
theorem n22 {k : Nat} : (22 : Int32) + nI k = nI (22 + k) := by rw [show (22 : Int32) = nI 22 from rfl, nI_add]
theorem isT_in1 {n : Nat} (hn : n ≤ 200) {z : Int32} : (¬ z < 0 ∧ ¬ nI n < z) ↔ isT (n + 1) z := by
  have e1 : (nI n).toInt = n := nI_toInt (by omega)
  rw [lt_i, lt_i, L_0, e1]
  constructor
  · rintro ⟨a, b⟩
    have e3 : z.toNatClampNeg = z.toInt.toNat := rfl
    exact ⟨z.toNatClampNeg, by omega, nI_ofI (by omega)⟩
  · rintro ⟨k, hk, rfl⟩
    rw [nI_toInt (by omega)]
    omega
theorem MB_mP {h h' : qH} {W : WS} {n m n' m' : Nat} {th wy th' wy' : Int32} (b : MB h W n m th wy) (f : q_fr mP h h') (o : MO h' W n' m' th' wy') : MB h' W n' m' th' wy' :=
  ⟨o, b.2.1.fr f (fun i a c => by unfold mP; omega), b.2.2.1.fr f (by unfold mP; omega), b.2.2.2.1.fr f (by unfold mP; omega), b.2.2.2.2.1.fr f (by unfold mP; omega), b.2.2.2.2.2.1.fr f (by unfold mP; omega), b.2.2.2.2.2.2.1.fr f (by unfold mP; omega), b.2.2.2.2.2.2.2.fr f (by unfold mP; omega)⟩
theorem MSt.L {h h' : qH} {A : ST} {th th' wy' : Int32} {L' : PL} (s : MSt h A th) (f : q_fr mP h h') (o : MO h' A.W L'.n A.m th' wy') (p : ML h' 57 L') : MSt h' (A.uL L') th' := by
  obtain ⟨wy, b⟩ := s.2.1
  exact s.new f (fun i q => by unfold mP at q; omega) rfl rfl rfl rfl ⟨wy', MB_mP b f o⟩ (s.2.2.1.fr f (by unfold mP; omega)) (s.2.2.2.1.fr f (by unfold mP; omega)) p (s.2.2.2.2.2.2.fr f (by unfold mP; omega))
section MP2
variable {l : Launch} {d mc ms : Nat} {Q : Option Value → qH → Prop} {QX : String → qH → Prop} {h : qH} {A : ST} {th : Int32}
theorem m_targetTold {k : Nat} {w : Int32} (s : MSt h A th) (ok : aOk A) (hk : k < A.W.tn) (hq : Q (some (.int (tellT A k w))) h) : q_Ct l (d + 2) mX10_targetTold [.ref 49, .int (nI k), .int w] h mc ms Q QX := by
  obtain ⟨wy, B⟩ := s.2.1
  have tn := ok.1.tn
  have v := s.2.2.1
  have hd := ok.2.1.2
  have e1 := sgn_and2 (k := k) hd (by omega)
  have e2 := sgA_and (k := k) hd (by omega)
  unfold tellT at hq
  refine v_X10_targetTold 49 _ _ ⟨fun q => ?_, fun q => ⟨fun q1 => ?_, fun q1 => ⟨fun q2 => ?_, fun q2 => ⟨fun q3 => ?_, fun q3 => ⟨fun q4 => ?_, fun q4 => ?_⟩⟩⟩⟩⟩
  · rw [if_pos q] at hq
    exact e_ob B.1 (m_value B.1 B.2.2.1 ok.1 hk ⟨_, rfl, hq⟩)
  · rw [if_neg q, if_pos q1] at hq
    exact e_ob B.1 (m_need B.1 B.2.2.1 ok.1 hk ⟨_, rfl, hq⟩)
  · rw [if_neg q, if_neg q1, if_pos q2, e1.1] at hq
    exact e_gr B.1 rfl (mr_oc v (by omega) n10 (s_bitCount ⟨_, rfl, hq⟩))
  · rw [if_neg q, if_neg q1, if_neg q2, if_pos q3, e2.1] at hq
    exact e_gr B.1 rfl (m_allOctants v hd (by omega) ⟨_, rfl, s_bitCount ⟨_, rfl, hq⟩⟩)
  · rw [if_neg q, if_neg q1, if_neg q2, if_neg q3, if_pos q4] at hq
    refine e_gr B.1 rfl (mr_tc v (by omega) n22 ?_)
    rcases hd.2.2.2.1 k (by omega) with e | e
    · rw [if_pos (e1.2.mpr e)] at hq
      rw [e]; exact hq
    · rw [if_neg (fun r => absurd (e.symm.trans (e1.2.mp r)) z10)] at hq
      rw [e]; exact hq
  · rw [if_neg q, if_neg q1, if_neg q2, if_neg q3, if_neg q4] at hq
    refine e_gr B.1 rfl (e_ob B.1 (m_isMet_sent B.1 B.2.2.1 ok.1 v hd hk (fun m => ⟨_, rfl, g_t ?_⟩) (fun m => ⟨_, rfl, g_f ?_⟩)))
    · rw [pif_t m] at hq; exact hq
    · rw [pif_f m] at hq; exact hq
theorem m_target {t w : Int32} (s : MSt h A th) (ok : aOk A) (hq : rm h Q (R_target A t w)) : q_Ct l (d + 3) mX10_target [.ref 49, .int t, .int w] h mc ms Q QX := by
  unfold R_target at hq
  have tn := ok.1.tn
  refine v_X10_target 49 _ _ (m_start s hq (fun h1 s1 hq => ?_))
  obtain ⟨wy, B⟩ := s1.2.1
  refine e_ob B.1 (m_isTarget B.1 ok.1 (fun ht => ⟨_, rfl, g_t (m_isW 5 (by decide) rfl (fun t2 => ⟨_, rfl, g_t ?_⟩) (fun t2 => ⟨_, rfl, g_f (m_no 1 rfl s1 (by rw [pif_f (fun r => t2 r.2)] at hq; exact hq))⟩))⟩) (fun ht => ⟨_, rfl, g_f (m_no 1 rfl s1 (by rw [pif_f (fun r => ht r.1)] at hq; exact hq))⟩))
  rw [pif_t ⟨ht, t2⟩] at hq
  obtain ⟨k, hk, rfl⟩ := ht
  rw [nI_clamp (by omega)] at hq
  exact e_ob B.1 (m_targetTold s1 ok hk ⟨_, rfl, m_ok s1 hq⟩)
theorem m_rate {m : Int32} (s : MSt h A th) (ok : aOk A) (hq : rm h Q (R_rate A m)) : q_Ct l (d + 2) mX10_rate [.ref 49, .int m] h mc ms Q QX := by
  unfold R_rate at hq
  refine v_X10_rate 49 _ (m_start s hq (fun h1 s1 hq => m_isBt L_0 L_1439 (fun t => ⟨_, rfl, g_t ?_⟩) (fun t => ⟨_, rfl, g_f (m_no 1 rfl s1 (by rw [pif_f t] at hq; exact hq))⟩)))
  rw [pif_t t] at hq
  obtain ⟨wy, B⟩ := s1.2.1
  exact e_ob B.1 (m_rateAt B.1 B.2.2.2.1 ok.1 ⟨_, rfl, m_ok s1 hq⟩)
theorem m_sky {m z : Int32} (s : MSt h A th) (ok : aOk A) (hq : rm h Q (R_sky A m z)) : q_Ct l (d + 3) mX10_sky [.ref 49, .int m, .int z] h mc ms Q QX := by
  unfold R_sky at hq
  refine v_X10_sky 49 _ _ (m_start s hq (fun h1 s1 hq => m_isBt L_0 L_1439 (fun t => ⟨_, rfl, g_t ?_⟩) (fun t => ⟨_, rfl, g_f (m_no 1 rfl s1 (by rw [pif_f t] at hq; exact hq))⟩)))
  rw [pif_t t] at hq
  obtain ⟨wy, B⟩ := s1.2.1
  have hv := m_ok s1 hq
  have b := t
  have hz : -100000 ≤ m.toInt ∧ m.toInt ≤ 100000 := ⟨by have := b.1; omega, by have := b.2; omega⟩
  refine ⟨fun q => ?_, fun q => ?_⟩
  · rw [if_pos q] at hv
    exact e_gr B.1 rfl (mr_rd (k := 6) s1.2.2.1 rfl (by decide) (fun F q => q.cl) (m_power hz ⟨_, rfl, hv⟩))
  · rw [if_neg q] at hv
    exact m_air hz ⟨_, rfl, hv⟩
theorem m_setRover {c m : Int32} (s : MSt h A th) (ok : aOk A) (hq : rm h Q (R_setRover A c m)) : q_Ct l (d + 1) mX10_setRover [.ref 49, .int c, .int m] h mc ms Q QX := by
  unfold R_setRover at hq
  refine v_X10_setRover 49 _ _ (m_start s hq (fun h1 s1 hq => m_isBt L_100 L_20000 (fun t => ⟨_, rfl, g_t (m_isBt L_40 L_5000 (fun t2 => ⟨_, rfl, g_t ?_⟩) (fun t2 => ⟨_, rfl, g_f (m_no 1 rfl s1 (by rw [pif_f (fun r => t2 r.2)] at hq; exact hq))⟩))⟩) (fun t => ⟨_, rfl, g_f (m_no 1 rfl s1 (by rw [pif_f (fun r => t r.1)] at hq; exact hq))⟩)))
  rw [pif_t ⟨t, t2⟩] at hq
  obtain ⟨wy, B⟩ := s1.2.1
  refine e_gr B.1 rfl (m_units s1.2.2.1 ok.2.1.2 ⟨_, rfl, fun q => ?_, fun q => m_no 2 rfl s1 (by rw [pif_f q] at hq; exact hq)⟩)
  rw [pif_t q] at hq
  refine e_gi B.1 rfl (e_pi B.1 (Nat.le_of_ble_eq_true rfl) (fun h2 f2 z2 mo2 => e_pi mo2 (Nat.le_of_ble_eq_true rfl) (fun h3 f3 z3 mo3 => ?_)))
  have F3 : q_fr (fun j => j = 49) h1 h3 := f2.tt f3
  have v3 := s1.2.2.1.fr F3 (by omega)
  refine e_gr mo3 rfl (e_gr mo3 rfl (mr_rd (k := 3) v3 rfl (by decide) (fun F q => q.b) (e_gi mo3 rfl (mr_wr (k := 3) v3 rfl (by decide) (fun F q => mRw_b q) (fun h4 f4 z4 v4 => ?_)))))
  have F4 : q_fr (fun j => j = 49 ∨ j = 55) h1 h4 := (F3.mono (fun i _ q => Or.inl q)).tt (f4.mono (fun i _ q => Or.inr q))
  have mo4 : MO h4 (A.W.uc c m) A.L.n A.m 0 wy := ob.fr mo3 f4 (by omega)
  refine hq h4 (F4.mono (fun i _ q => by unfold mS; omega)) (s1.new F4 (fun i q => by omega) rfl rfl rfl rfl ⟨wy, mo4, B.2.1.fr F4 (fun i a b => by omega), B.2.2.1.fr F4 (by omega), B.2.2.2.1.fr F4 (by omega), B.2.2.2.2.1.fr F4 (by omega), B.2.2.2.2.2.1.fr F4 (by omega), B.2.2.2.2.2.2.1.fr F4 (by omega), B.2.2.2.2.2.2.2.fr F4 (by omega)⟩ v4 (s1.2.2.2.1.fr F4 (by omega)) (s1.2.2.2.2.1.fr F4 (by omega)) (s1.2.2.2.2.2.2.fr F4 (by omega)))
theorem m_rover {w : Int32} (s : MSt h A th) (ok : aOk A) (hq : rm h Q (R_rover A w)) : q_Ct l (d + 2) mX10_rover [.ref 49, .int w] h mc ms Q QX := by
  unfold R_rover at hq
  refine v_X10_rover 49 _ (m_start s hq (fun h1 s1 hq => m_isW 9 (by decide) rfl (fun t => ⟨_, rfl, g_t ?_⟩) (fun t => ⟨_, rfl, g_f (m_no 1 rfl s1 (by rw [pif_f t] at hq; exact hq))⟩)))
  rw [pif_t t] at hq
  obtain ⟨wy, B⟩ := s1.2.1
  exact e_gr B.1 rfl (m_roverTold s1.2.2.1 ok.2.1.2 t ⟨_, rfl, m_ok s1 hq⟩)
theorem m_piece {p w : Int32} (s : MSt h A th) (ok : aOk A) (hq : rm h Q (R_piece A p w)) : q_Ct l (d + 1) mX10_piece [.ref 49, .int p, .int w] h mc ms Q QX := by
  unfold R_piece at hq
  have nd := dOk_n ok.2.1.2
  refine v_X10_piece 49 _ _ (m_start s hq (fun h1 s1 hq => ?_))
  obtain ⟨wy, B⟩ := s1.2.1
  have v := s1.2.2.1
  refine e_gr B.1 rfl (mr_n v rfl (m_isIn (fun a b => ⟨_, rfl, g_t ?_⟩) (fun c => ⟨_, rfl, g_f (m_no 1 rfl s1 (by rw [pif_f (fun r => c ((isT_in (by omega)).mpr r.1))] at hq; exact hq))⟩)))
  have ht := (isT_in (n := A.D.n) (by omega)).mp ⟨a, b⟩
  refine m_isW 3 (by decide) rfl (fun t2 => ⟨_, rfl, g_t ?_⟩) (fun t2 => ⟨_, rfl, g_f (m_no 1 rfl s1 (by rw [pif_f (fun r => t2 r.2)] at hq; exact hq))⟩)
  rw [pif_t ⟨ht, t2⟩] at hq
  obtain ⟨j, hj, rfl⟩ := ht
  rw [nI_clamp (by omega)] at hq
  have hv := m_ok s1 hq
  obtain ⟨k9, hk9, rfl⟩ := isW_of3 (by decide) t2
  unfold pcA at hv
  have k4 : k9 = 0 ∨ k9 = 1 ∨ k9 = 2 ∨ k9 = 3 := by omega
  rcases k4 with rfl | rfl | rfl | rfl
  · rw [if_pos (show nI 0 = 0 from rfl)] at hv
    exact e_gr B.1 rfl (mr_pt v (by omega) hj (n34' rfl) hv)
  · rw [if_neg (show ¬ nI 1 = 0 by decide), if_pos (show nI 1 = 1 from rfl)] at hv
    exact e_gr B.1 rfl (mr_pl v (by omega) hj (n34' rfl) hv)
  · rw [if_neg (show ¬ nI 2 = 0 by decide), if_neg (show ¬ nI 2 = 1 by decide), if_pos (show nI 2 = 2 from rfl)] at hv
    exact e_gr B.1 rfl (mr_pp v (by omega) hj (n34' rfl) hv)
  · rw [if_neg (show ¬ nI 3 = 0 by decide), if_neg (show ¬ nI 3 = 1 by decide), if_neg (show ¬ nI 3 = 2 by decide)] at hv
    exact e_gr B.1 rfl (mr_pg v (by omega) hj (n34' rfl) hv)
theorem m_scoreOf (s : MSt h A th) (ok : aOk A) (hq : Q (some (.int (scoF A A.W.tn))) h) : q_Ct l (d + 2) mX10_scoreOf [.ref 49] h mc ms Q QX := by
  have tn := ok.1.tn
  obtain ⟨wy, B⟩ := s.2.1
  have v := s.2.2.1
  refine v_X10_scoreOf 49 ?_
  refine q_loop (fun i h' => q_J l (d + 2) mX10_scoreOf mc ms Q QX h.2 4 [some (.ref 49), some (.int (scoF A i)), some (.int (nI i))] [] h' mc ms) (fun i h' => h' = h) A.W.tn ?_ ?_ 0 h (by omega) rfl
  · rintro h' rfl
    exact v_X10_scoreOf_4 49 _ (nI A.W.tn) (e_gi B.1 rfl ⟨fun _ => hq, fun q => absurd (Int32.le_refl _) q⟩)
  · rintro i h' hi rfl ih
    have ih := ih h' rfl
    rw [scoF] at ih
    refine v_X10_scoreOf_4 49 _ (nI i) (e_gi B.1 rfl ⟨fun q => absurd q (nI_ge hi (by omega)), fun _ => e_gr B.1 rfl (e_ob B.1 (m_isMet_sent B.1 B.2.2.1 ok.1 v ok.2.1.2 hi (fun m => ⟨_, rfl, g_t ?_⟩) (fun m => ⟨_, rfl, g_f ?_⟩)))⟩)
    · rw [pif_t m] at ih
      rw [nI_1]
      exact e_ob B.1 (m_value B.1 B.2.2.1 ok.1 hi ⟨_, rfl, ih⟩)
    · rw [pif_f m] at ih
      rw [nI_1, Int32.add_zero]
      exact ih
theorem m_score (s : MSt h A th) (ok : aOk A) (hq : rm h Q (R_score A)) : q_Ct l (d + 3) mX10_score [.ref 49] h mc ms Q QX := by
  refine v_X10_score 49 (m_start s hq (fun h1 s1 hq => ?_))
  obtain ⟨wy, B⟩ := s1.2.1
  exact e_ob B.1 (m_scoreOf s1 ok ⟨_, rfl, m_ok s1 hq⟩)
theorem m_isRight {k a b : Int32} (s : MSt h A th) (ok : aOk A) (hk : bt k 0 7) (ht : actOk A.W k a b → Q (some (.int 1)) h) (hf : ¬ actOk A.W k a b → Q (some (.int 0)) h) : q_Ct l (d + 2) mX10_isRight [.ref 49, .int k, .int a, .int b] h mc ms Q QX := by
  obtain ⟨wy, B⟩ := s.2.1
  have r94 : ∀ low hi : Int32, (¬ a < low → ¬ hi < a → b = 0 → Q (some (.int 1)) h) → (¬ (¬ a < low ∧ ¬ hi < a ∧ b = 0) → Q (some (.int 0)) h) → q_J l (d + 2) mX10_isRight mc ms Q QX h.2 94 [some (.ref 49), some (.int k), some (.int a), some (.int b), some (.int low), none] [.int hi] h mc ms := fun low hi p n =>
    v_X10_isRight_94 49 k a b low hi (m_isIn (fun x y => ⟨_, rfl, g_t ⟨fun q => p x y q, fun q => n (fun r => q r.2.2)⟩⟩) (fun c => ⟨_, rfl, g_f (n (fun r => c ⟨r.1, r.2.1⟩))⟩))
  have r20 : (isT A.W.tn a ∧ 1 ≤ b.toInt ∧ b.toInt ≤ 9 → Q (some (.int 1)) h) → (¬ (isT A.W.tn a ∧ 1 ≤ b.toInt ∧ b.toInt ≤ 9) → Q (some (.int 0)) h) → q_J l (d + 2) mX10_isRight mc ms Q QX h.2 20 [some (.ref 49), some (.int k), some (.int a), some (.int b), none, none] [] h mc ms := fun p n =>
    v_X10_isRight_20 49 k a b (e_ob B.1 (m_isTarget B.1 ok.1 (fun t => ⟨_, rfl, g_t (m_isBt (a := 1) (b := 9) L_1 L_9 (fun t2 => ⟨_, rfl, g_t (p ⟨t, t2.1, t2.2⟩)⟩) (fun t2 => ⟨_, rfl, g_f (n (fun r => t2 r.2))⟩))⟩) (fun t => ⟨_, rfl, g_f (n (fun r => t r.1))⟩)))
  refine v_X10_isRight 49 k a b ⟨fun q0 => ?_, fun q0 => ⟨fun q1 => ?_, fun q1 => ⟨fun q2 => ?_, fun q2 => ⟨fun q3 => ?_, fun q3 => ?_⟩⟩⟩⟩
  · subst q0
    exact m_isPlace (fun t => ⟨_, rfl, Or.inr rfl, ht (ao_0.mpr t)⟩) (fun t => ⟨_, rfl, Or.inl rfl, hf (fun r => t (ao_0.mp r))⟩)
  · subst q1
    exact r20 (fun t => ht (ao_1.mpr t)) (fun t => hf (fun r => t (ao_1.mp r)))
  · subst q2
    exact r20 (fun t => ht (ao_2.mpr t)) (fun t => hf (fun r => t (ao_2.mp r)))
  · subst q3
    refine v_X10_isRight_54 49 3 a b 1 ⟨fun _ => r94 1 600 (fun x y z => ht (ao_3.mpr ?_)) (fun n => hf (fun r => n ?_)), fun q => absurd rfl q⟩
    · rw [lt_i, L_1] at x
      rw [lt_i, L_600] at y
      exact ⟨by omega, by omega, z⟩
    · have := ao_3.mp r
      rw [lt_i, lt_i, L_1, L_600]
      exact ⟨by omega, by omega, this.2.2⟩
  refine v_X10_isRight_54 49 k a b 0 ⟨fun q => absurd q q3, fun _ => ⟨fun q4 => ?_, fun q4 => ⟨fun q5 => ?_, fun q5 => ⟨fun q6 => ?_, fun q6 => ?_⟩⟩⟩⟩
  · subst q4
    refine v_X10_isRight_77 49 4 a b 0 (r94 0 1439 (fun x y z => ht (ao_4.mpr ?_)) (fun n => hf (fun r => n ?_)))
    · rw [lt_i, L_0] at x
      rw [lt_i, L_1439] at y
      exact ⟨by omega, by omega, z⟩
    · have := ao_4.mp r
      rw [lt_i, lt_i, L_0, L_1439]
      exact ⟨by omega, by omega, this.2.2⟩
  · subst q5
    refine v_X10_isRight_77 49 5 a b 0 (r94 0 1439 (fun x y z => ht (ao_5.mpr ?_)) (fun n => hf (fun r => n ?_)))
    · rw [lt_i, L_0] at x
      rw [lt_i, L_1439] at y
      exact ⟨by omega, by omega, z⟩
    · have := ao_5.mp r
      rw [lt_i, lt_i, L_0, L_1439]
      exact ⟨by omega, by omega, this.2.2⟩
  · subst q6
    refine r94 0 1 (fun x y z => ht (ao_6.mpr ?_)) (fun n => hf (fun r => n ?_))
    · rw [lt_i, L_0] at x
      rw [lt_i, L_1] at y
      refine ⟨?_, z⟩
      by_cases e : a.toInt = 0
      · exact Or.inl (Int32.toInt_inj.mp (by rw [L_0]; exact e))
      · exact Or.inr (Int32.toInt_inj.mp (by rw [L_1]; omega))
    · have r := ao_6.mp r
      rcases r.1 with e | e
      · rw [e]; exact ⟨by decide, by decide, r.2⟩
      · rw [e]; exact ⟨by decide, by decide, r.2⟩
  · have e7 : k = 7 := by
      have h1 := hk.1
      have h2 := hk.2
      rw [eq_i, L_0] at q0
      rw [eq_i, L_1] at q1
      rw [eq_i, L_2] at q2
      rw [eq_i, L_3] at q3
      rw [eq_i, L_4] at q4
      rw [eq_i, L_5] at q5
      rw [eq_i, L_6] at q6
      rw [eq_i, L_7]
      omega
    subst e7
    refine r94 0 0 (fun x y z => ht (ao_7.mpr ?_)) (fun n => hf (fun r => n ?_))
    · rw [lt_i, L_0] at x
      rw [lt_i, L_0] at y
      exact ⟨Int32.toInt_inj.mp (by rw [L_0]; omega), z⟩
    · have r := ao_7.mp r
      rw [r.1]; exact ⟨by decide, by decide, r.2⟩
theorem actOk_k {W : WS} {k a b : Int32} (h : actOk W k a b) : bt k 0 7 := by
  rcases h with ⟨q, -⟩ | ⟨q, -⟩ | ⟨q, -⟩ | ⟨q, -⟩ | ⟨q, -⟩ | ⟨q, -⟩
  · rw [q]; exact ⟨by rw [L_0]; decide, by rw [L_0]; decide⟩
  · rcases q with q | q
    · rw [q]; exact ⟨by rw [L_1]; decide, by rw [L_1]; decide⟩
    · rw [q]; exact ⟨by rw [L_2]; decide, by rw [L_2]; decide⟩
  · rw [q]; exact ⟨by rw [L_3]; decide, by rw [L_3]; decide⟩
  · rcases q with q | q
    · rw [q]; exact ⟨by rw [L_4]; decide, by rw [L_4]; decide⟩
    · rw [q]; exact ⟨by rw [L_5]; decide, by rw [L_5]; decide⟩
  · rw [q]; exact ⟨by rw [L_6]; decide, by rw [L_6]; decide⟩
  · rw [q]; exact ⟨by rw [L_7]; decide, by rw [L_7]; decide⟩
theorem m_put {p k a b : Int32} (s : MSt h A th) (ok : aOk A) (hq : rm h Q (R_put A p k a b)) : q_Ct l (d + 3) mX10_put [.ref 49, .int p, .int k, .int a, .int b] h mc ms Q QX := by
  unfold R_put at hq
  have n9 := ok.2.2.2.1
  refine v_X10_put 49 _ _ _ _ (m_start s hq (fun h1 s1 hq => ?_))
  obtain ⟨wy, B⟩ := s1.2.1
  refine e_gi B.1 rfl (m_isIn (fun x y => ⟨_, rfl, g_t ?_⟩) (fun c => ⟨_, rfl, g_f (m_no 1 rfl s1 (by rw [pif_f (fun r => c ((isT_in1 (by omega)).mpr r))] at hq; exact hq))⟩))
  have ht := (isT_in1 (n := A.L.n) (by omega)).mp ⟨x, y⟩
  rw [pif_t ht] at hq
  obtain ⟨j, hj, rfl⟩ := ht
  rw [nI_clamp (by omega)] at hq
  refine v_X10_isKind k (m_isBt (a := 0) (b := 7) L_0 L_7 (fun t => ⟨_, rfl, Or.inr rfl, ⟨_, rfl, g_t ?_⟩⟩) (fun t => ⟨_, rfl, Or.inl rfl, ⟨_, rfl, g_f (m_no 2 rfl s1 (by rw [pif_f (fun r => t (actOk_k r))] at hq; exact hq))⟩⟩))
  refine e_ob B.1 (m_isRight s1 ok t (fun t2 => ⟨_, rfl, g_t ?_⟩) (fun t2 => ⟨_, rfl, g_f (m_no 2 rfl s1 (by rw [pif_f t2] at hq; exact hq))⟩))
  rw [pif_t t2] at hq
  refine e_gi B.1 rfl ⟨fun q => ?_, fun q => ?_⟩
  · have e : A.L.n = 40 := (nI_eq (b := 40) (by omega) (by decide)).mp q
    exact m_no 3 rfl s1 (by rw [pif_f (by omega)] at hq; exact hq)
  have lt : A.L.n < 40 := by
    have : A.L.n ≠ 40 := fun e => q (by rw [e]; rfl)
    omega
  rw [pif_t lt] at hq
  refine e_ob B.1 (m_insert B.1 s1.2.2.2.2.1 (by omega) lt (fun h2 f2 z2 mo2 p2 => ⟨rfl, e_gi mo2 rfl ?_⟩))
  exact hq h2 (f2.mono (fun i _ q => by unfold mP at q; unfold mS; omega)) (s1.L f2 mo2 p2)
theorem m_isPlanned {p : Int32} (s : MSt h A th) (ok : aOk A) (ht : isT A.L.n p → Q (some (.int 1)) h) (hf : ¬ isT A.L.n p → Q (some (.int 0)) h) : q_Ct l (d + 1) mX10_isPlanned [.ref 49, .int p] h mc ms Q QX := by
  have n9 := ok.2.2.2.1
  obtain ⟨wy, B⟩ := s.2.1
  exact v_X10_isPlanned 49 p (e_gi B.1 rfl (m_isIn (fun a b => ⟨_, rfl, Or.inr rfl, ht ((isT_in (by omega)).mp ⟨a, b⟩)⟩) (fun c => ⟨_, rfl, Or.inl rfl, hf (fun r => c ((isT_in (by omega)).mpr r))⟩)))
theorem ml_rd {L : PL} {j b : Nat} {z val : Int32} {Pr : Int32 → Prop} (v : ML h 57 L) (hn : L.n ≤ 40) (hj : j < L.n) (hb : b < 3) (hz : z = nI (3 * j + b)) (he : ∀ F : Nat → Int32, (F (3 * j) = L.k j ∧ F (3 * j + 1) = L.a j ∧ F (3 * j + 2) = L.b j) → F (3 * j + b) = val) (hp : Pr val) : qAL h 57 z Pr := by
  obtain ⟨F, b0, e⟩ := v
  exact e_al (k := 3 * j + b) b0 hz (by omega) (by decide) (by rw [he F (e j hj)]; exact hp)
theorem m_remove {p : Int32} (s : MSt h A th) (ok : aOk A) (hq : rm h Q (R_remove A p)) : q_Ct l (d + 2) mX10_remove [.ref 49, .int p] h mc ms Q QX := by
  unfold R_remove at hq
  have n9 := ok.2.2.2.1
  refine v_X10_remove 49 _ (m_start s hq (fun h1 s1 hq => ?_))
  obtain ⟨wy, B⟩ := s1.2.1
  refine e_ob B.1 (m_isPlanned s1 ok (fun t => ⟨_, rfl, g_t ?_⟩) (fun t => ⟨_, rfl, g_f (m_no 1 rfl s1 (by rw [pif_f t] at hq; exact hq))⟩))
  rw [pif_t t] at hq
  obtain ⟨j, hj, rfl⟩ := t
  rw [nI_clamp (by omega)] at hq
  refine e_gr B.1 rfl (ml_rd (b := 0) s1.2.2.2.2.1 n9 hj (by decide) n30 (fun F q => q.1) (e_ob B.1 (m_takeOut B.1 s1.2.2.2.2.1 hj n9 (fun h2 f2 z2 mo2 p2 => ⟨rfl, ?_⟩))))
  exact hq h2 (f2.mono (fun i _ q => by unfold mP at q; unfold mS; omega)) (s1.L f2 mo2 p2)
theorem m_move {p q : Int32} (s : MSt h A th) (ok : aOk A) (hq : rm h Q (R_move A p q)) : q_Ct l (d + 2) mX10_move [.ref 49, .int p, .int q] h mc ms Q QX := by
  unfold R_move at hq
  have n9 := ok.2.2.2.1
  refine v_X10_move 49 _ _ (m_start s hq (fun h1 s1 hq => ?_))
  obtain ⟨wy, B⟩ := s1.2.1
  refine e_ob B.1 (m_isPlanned s1 ok (fun t => ⟨_, rfl, g_t ?_⟩) (fun t => ⟨_, rfl, g_f (m_no 1 rfl s1 (by rw [pif_f (fun r => t r.1)] at hq; exact hq))⟩))
  refine e_ob B.1 (m_isPlanned s1 ok (fun t2 => ⟨_, rfl, g_t ?_⟩) (fun t2 => ⟨_, rfl, g_f (m_no 1 rfl s1 (by rw [pif_f (fun r => t2 r.2)] at hq; exact hq))⟩))
  rw [pif_t ⟨t, t2⟩] at hq
  obtain ⟨j, hj, rfl⟩ := t
  obtain ⟨k, hk, rfl⟩ := t2
  rw [nI_clamp (by omega), nI_clamp (by omega)] at hq
  have pl := s1.2.2.2.2.1
  refine e_gr B.1 rfl (ml_rd (b := 0) pl n9 hj (by decide) n30 (fun F q => q.1) (e_gr B.1 rfl (ml_rd (b := 1) pl n9 hj (by decide) (n3 rfl) (fun F q => q.2.1) (e_gr B.1 rfl (ml_rd (b := 2) pl n9 hj (by decide) (n3 rfl) (fun F q => q.2.2) (e_ob B.1 (m_takeOut B.1 pl hj n9 (fun h2 f2 z2 mo2 p2 => ⟨rfl, ?_⟩))))))))
  have s2 := s1.L (L' := delA A.L j) f2 mo2 p2
  obtain ⟨wy2, B2⟩ := s2.2.1
  have en : (delA A.L j).n = A.L.n - 1 := rfl
  refine e_ob B2.1 (m_insert (W := A.W) (L := delA A.L j) B2.1 p2 (by omega) (by omega) (fun h3 f3 z3 mo3 p3 => ⟨rfl, ?_⟩))
  exact hq h3 ((f2.tt f3).mono (fun i _ q => by unfold mP at q; unfold mS; omega)) (s2.L f3 mo3 p3)
theorem m_activity {p w : Int32} (s : MSt h A th) (ok : aOk A) (hq : rm h Q (R_activity A p w)) : q_Ct l (d + 2) mX10_activity [.ref 49, .int p, .int w] h mc ms Q QX := by
  unfold R_activity at hq
  have n9 := ok.2.2.2.1
  refine v_X10_activity 49 _ _ (m_start s hq (fun h1 s1 hq => ?_))
  obtain ⟨wy, B⟩ := s1.2.1
  refine e_ob B.1 (m_isPlanned s1 ok (fun t => ⟨_, rfl, g_t ?_⟩) (fun t => ⟨_, rfl, g_f (m_no 1 rfl s1 (by rw [pif_f (fun r => t r.1)] at hq; exact hq))⟩))
  refine m_isW 2 (by decide) rfl (fun t2 => ⟨_, rfl, g_t ?_⟩) (fun t2 => ⟨_, rfl, g_f (m_no 1 rfl s1 (by rw [pif_f (fun r => t2 r.2)] at hq; exact hq))⟩)
  rw [pif_t ⟨t, t2⟩] at hq
  obtain ⟨j, hj, rfl⟩ := t
  rw [nI_clamp (by omega)] at hq
  have hv := m_ok s1 hq
  obtain ⟨k9, hk9, rfl⟩ := isW_of3 (by decide) t2
  have pl := s1.2.2.2.2.1
  have k4 : k9 = 0 ∨ k9 = 1 ∨ k9 = 2 := by omega
  rcases k4 with rfl | rfl | rfl
  · rw [show nI 0 = 0 from rfl, plA_0] at hv
    exact e_gr B.1 rfl (ml_rd (b := 0) pl n9 hj (by decide) (n3 rfl) (fun F q => q.1) hv)
  · rw [show nI 1 = 1 from rfl, plA_1] at hv
    exact e_gr B.1 rfl (ml_rd (b := 1) pl n9 hj (by decide) (n3 rfl) (fun F q => q.2.1) hv)
  · rw [show nI 2 = 2 from rfl, plA_2] at hv
    exact e_gr B.1 rfl (ml_rd (b := 2) pl n9 hj (by decide) (n3 rfl) (fun F q => q.2.2) hv)
theorem m_counted {w : Int32} (s : MSt h A th) (hq : Q (some (.int (cntA A w))) h) : q_Ct l d mX10_counted [.ref 49, .int w] h mc ms Q QX := by
  obtain ⟨wy, B⟩ := s.2.1
  unfold cntA at hq
  refine v_X10_counted (d := d) 49 _ ⟨fun q => ?_, fun q => ⟨fun q1 => ?_, fun q1 => ⟨fun q2 => ?_, fun q2 => ?_⟩⟩⟩
  · rw [if_pos q] at hq; exact e_gi B.1 rfl hq
  · rw [if_neg q, if_pos q1] at hq; exact e_gi B.1 rfl hq
  · rw [if_neg q, if_neg q1, if_pos q2] at hq; exact e_gi B.1 rfl hq
  · rw [if_neg q, if_neg q1, if_neg q2] at hq; exact e_gi B.1 rfl hq
theorem m_count {w : Int32} (s : MSt h A th) (hq : rm h Q (R_count A w)) : q_Ct l (d + 1) mX10_count [.ref 49, .int w] h mc ms Q QX := by
  unfold R_count at hq
  refine v_X10_count 49 _ (m_start s hq (fun h1 s1 hq => m_isW 3 (by decide) rfl (fun t => ⟨_, rfl, g_t ?_⟩) (fun t => ⟨_, rfl, g_f (m_no 1 rfl s1 (by rw [pif_f t] at hq; exact hq))⟩)))
  rw [pif_t t] at hq
  obtain ⟨wy, B⟩ := s1.2.1
  exact e_ob B.1 (m_counted s1 ⟨_, rfl, m_ok s1 hq⟩)
end MP2
