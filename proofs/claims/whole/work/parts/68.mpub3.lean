/-! the model's public calls: what the plan does, marks -/
theorem dropA_s : ∀ (i : Nat) (L : PL), dropA L (i + 1) = delA (dropA L i) 0
  | 0, L => rfl
  | i + 1, L => dropA_s i (delA L 0)
theorem dropA_at : ∀ (i : Nat) (L : PL), (dropA L i).n = L.n - i ∧ ∀ j, (dropA L i).k j = L.k (i + j) ∧ (dropA L i).a j = L.a (i + j) ∧ (dropA L i).b j = L.b (i + j) := by
  intro i
  induction i with
  | zero => intro L; exact ⟨rfl, fun j => by rw [Nat.zero_add]; exact ⟨rfl, rfl, rfl⟩⟩
  | succ i ih =>
    intro L
    rw [dropA_s]
    have h := ih L
    refine ⟨?_, fun j => ?_⟩
    · show (dropA L i).n - 1 = _
      rw [h.1]; omega
    · have e := h.2 (j + 1)
      rw [show i + (j + 1) = i + 1 + j by omega] at e
      refine ⟨?_, ?_, ?_⟩
      · show del (dropA L i).k 0 j = _; unfold del; rw [if_neg (by omega)]; exact e.1
      · show del (dropA L i).a 0 j = _; unfold del; rw [if_neg (by omega)]; exact e.2.1
      · show del (dropA L i).b 0 j = _; unfold del; rw [if_neg (by omega)]; exact e.2.2
theorem e_cpL {h : qH} {i j : Nat} {L : PL} {Pr : qH → Prop} (v : ML h i L) (hn : L.n ≤ 40) (o : arA h j 120) (hp : ∀ h', q_fr (fun x => x = j) h h' → h'.2 = h.2 → ML h' j L → Pr h') : qCP h i 0 j 0 120 Pr := by
  obtain ⟨F, b, e⟩ := v
  obtain ⟨G, o⟩ := o
  refine e_cp (a := 0) (b := 0) (n := 120) b o rfl rfl rfl (by decide) (by decide) (by decide) (by decide) (fun h1 f1 z1 b1 => hp h1 f1 z1 ⟨_, b1, fun p hp => ?_⟩)
  have := e p hp
  rw [if_pos (by omega), if_pos (by omega), if_pos (by omega), Nat.sub_zero, Nat.sub_zero, Nat.sub_zero, Nat.zero_add, Nat.zero_add, Nat.zero_add]
  exact this
theorem e_ln {h : qH} {i N : Nat} {P : Int32 → Prop} (o : arA h i N) (hp : P (nI N)) : qLN h i P := by
  obtain ⟨F, h1, f, e, -⟩ := o
  exact ⟨0, _, e, by decide, hp⟩
theorem ML.A {h : qH} {i : Nat} {L : PL} (v : ML h i L) : arA h i 120 := v.elim fun F q => ⟨F, q.1⟩
section MP3
variable {l : Launch} {d mc ms : Nat} {Q : Option Value → qH → Prop} {QX : String → qH → Prop} {h : qH} {A : ST} {th : Int32}
theorem m_tryA {m : Nat} (hkc : 41 ≤ mc) (hks : 164 ≤ ms) (s : MSt h A 0) (ok : aOk A) (hm : m ≤ A.L.n)
    (hq : ∀ h', q_fr mS h h' → MSt h' A 0 → MO h' A.W A.L.n A.m 0 (tryA A m).1.2 → MR h' 56 (tryA A m).2.1 (tryA A m).2.2 → rOk (tryA A m).2.1 (tryA A m).2.2 → Q (some (.int (if (tryA A m).1.1 < m then nI (tryA A m).1.1 else -1))) h') : q_Ct l (d + 7) mX10_tryOut [.ref 49, .int (nI m)] h mc ms Q QX := by
  obtain ⟨s83, ⟨wy1, B1⟩, v1, u1, p1, k1, w1⟩ := id s
  refine m_tryOut hkc hks B1 ok.1 v1 ok.2.1 u1 p1 ok.2.2.1 hm ok.2.2.2.1 (fun h2 f2 B2 v2 R2 => ?_)
  exact hq h2 (f2.mono (fun i _ q => by unfold tM rS at q; unfold mS; omega)) (s.up f2 (fun i q _ _ => by unfold tM rS at q; omega) ⟨_, B2⟩ v2.A (w1.fr f2 (by unfold tM rS; omega))) B2.1 v2 R2
theorem m_check (hkc : 200 ≤ mc) (hks : 800 ≤ ms) (s : MSt h A th) (ok : aOk A) (hq : rm h Q (R_check A)) : q_Ct l (d + 8) mX10_check [.ref 49] h mc ms Q QX := by
  unfold R_check at hq
  refine v_X10_check (by omega) (by omega) 49 (m_start s hq (fun h1 s1 hq => ?_))
  obtain ⟨wy, B⟩ := s1.2.1
  exact e_gi B.1 rfl (e_ob B.1 (m_tryA (by omega) (by omega) s1 ok (Nat.le_refl _) (fun h2 f2 s2 mo2 v2 R2 => ⟨_, rfl, hq h2 f2 s2⟩)))
theorem m_reason (hkc : 200 ≤ mc) (hks : 800 ≤ ms) (s : MSt h A th) (ok : aOk A) (hq : rm h Q (R_reason A)) : q_Ct l (d + 8) mX10_reason [.ref 49] h mc ms Q QX := by
  unfold R_reason at hq
  have n9 := ok.2.2.2.1
  refine v_X10_reason (by omega) (by omega) 49 (m_start s hq (fun h1 s1 hq => ?_))
  obtain ⟨wy, B⟩ := s1.2.1
  refine e_gi B.1 rfl (e_ob B.1 (m_tryA (by omega) (by omega) s1 ok (Nat.le_refl _) (fun h2 f2 s2 mo2 v2 R2 => ⟨_, rfl, ?_⟩)))
  have hv := hq h2 f2 s2
  have re := actsF_res (W := A.W) (L := A.L) A.L.n 0 A.P A.D
  change ((tryA A A.L.n).1.2 = 0 → (tryA A A.L.n).1.1 = 0 + A.L.n) ∧ (¬ (tryA A A.L.n).1.2 = 0 → (tryA A A.L.n).1.1 < 0 + A.L.n) at re
  change Q (some (.int (tryA A A.L.n).1.2)) h2 at hv
  generalize tryA A A.L.n = T at hv re mo2 ⊢
  by_cases lt : T.1.1 < A.L.n
  · rw [if_pos lt]
    exact ⟨fun q => absurd q (nI_nm1 (by omega)), fun _ => e_gi mo2 rfl hv⟩
  · rw [if_neg lt]
    have e0 : T.1.2 = 0 := Classical.byContradiction fun q => by have := re.2 q; omega
    rw [e0] at hv
    exact ⟨fun _ => hv, fun q => absurd rfl q⟩
theorem m_foretell {m w : Int32} (hkc : 200 ≤ mc) (hks : 800 ≤ ms) (s : MSt h A th) (ok : aOk A) (hq : rm h Q (R_foretell A m w)) : q_Ct l (d + 8) mX10_foretell [.ref 49, .int m, .int w] h mc ms Q QX := by
  unfold R_foretell at hq
  have n9 := ok.2.2.2.1
  refine v_X10_foretell (by omega) (by omega) 49 _ _ (m_start s hq (fun h1 s1 hq => m_isW 9 (by decide) rfl (fun t => ⟨_, rfl, g_t ?_⟩) (fun t => ⟨_, rfl, g_f (m_no 1 rfl s1 (by rw [pif_f t] at hq; exact hq))⟩)))
  rw [pif_t t] at hq
  obtain ⟨wy, B⟩ := s1.2.1
  refine e_gi B.1 rfl (m_isIn (fun x y => ⟨_, rfl, g_t ?_⟩) (fun c => ⟨_, rfl, g_f (m_no 2 rfl s1 (by rw [pif_f (fun r => c ((isT_in1 (by omega)).mpr r))] at hq; exact hq))⟩))
  have ht := (isT_in1 (n := A.L.n) (by omega)).mp ⟨x, y⟩
  rw [pif_t ht] at hq
  obtain ⟨j, hj, rfl⟩ := ht
  rw [nI_clamp (by omega)] at hq
  refine e_ob B.1 (m_tryA (by omega) (by omega) s1 ok (by omega) (fun h2 f2 s2 mo2 v2 R2 => ⟨_, rfl, ?_⟩))
  have hq := hq.tr f2
  generalize tryA A j = T at hq mo2 v2 R2 ⊢
  by_cases lt : T.1.1 < j
  · rw [pif_t lt] at hq
    rw [if_pos lt]
    exact ⟨fun q => absurd q (nI_nm1 (by omega)), fun _ => m_no 3 rfl s2 hq⟩
  · rw [pif_f lt] at hq
    rw [if_neg lt]
    exact ⟨fun _ => e_gr mo2 rfl (m_roverTold v2 R2.2 t ⟨_, rfl, m_ok s2 hq⟩), fun q => absurd rfl q⟩
theorem m_run {m : Int32} (hkc : 200 ≤ mc) (hks : 800 ≤ ms) (s : MSt h A th) (ok : aOk A) (hq0 : rm h Q (R_run A m)) : q_Ct l (d + 7) mX10_run [.ref 49, .int m] h mc ms Q QX := by
  unfold R_run at hq0
  have n9 := ok.2.2.2.1
  refine v_X10_run 49 _ (m_start s hq0 (fun h1 s1 hq => m_isBt L_1 L_40 (fun t => ⟨_, rfl, g_t ?_⟩) (fun t => ⟨_, rfl, g_f (m_no 1 rfl s1 (by rw [pif_f t] at hq; exact hq))⟩)))
  rw [pif_t t] at hq
  have em := nI_ofI (z := m) (by have := t.1; omega)
  have em2 : m.toNatClampNeg = m.toInt.toNat := rfl
  have em3 : m.toNatClampNeg ≤ 40 := by have := t.2; omega
  generalize m.toNatClampNeg = k at hq em em3
  clear t em2
  subst em
  obtain ⟨s83, ⟨wy1, B1⟩, v1, u1, p1, k1, w1⟩ := id s1
  have le := tryA_le (A := A) (m := min k A.L.n)
  unfold tryA at hq le
  refine q_loop (fun i (st : (PH × DT) × qH) => q_J l (d + 7) mX10_run mc ms Q QX h.2 23 [some (.ref 49), some (.int (nI k)), some (.int (nI i))] [] st.2 (mc - i) (ms - 4 * i))
    (fun i st => q_fr mS h1 st.2 ∧ MB st.2 A.W (A.L.n - i) A.m 0 wy1 ∧ MR st.2 55 st.1.1 st.1.2 ∧ rOk st.1.1 st.1.2 ∧ arA st.2 56 594 ∧ ML st.2 57 (dropA A.L i) ∧ MMk st.2 A ∧ arA st.2 81 594 ∧ actsF A.W A.L i (min k A.L.n - i) st.1.1 st.1.2 = actsF A.W A.L 0 (min k A.L.n) A.P A.D) (min k A.L.n) ?_ ?_ 0 ((A.P, A.D), h1) (by omega)
    ⟨q_fr.rf, B1, v1, ok.2.1, u1, p1, k1, w1, rfl⟩
  · rintro ⟨⟨P', D'⟩, h'⟩ ⟨f, B', v', R', u', p', k', w', e⟩
    dsimp only at f B' v' R' u' p' k' w' e ⊢
    rw [Nat.sub_self, actsF] at e
    rw [← e] at hq
    have fin := hq h' f ⟨Nat.le_trans s83 f.1, ⟨_, by rw [← (dropA_at (min k A.L.n) A.L).1] at B'; exact B'⟩, v', u', p', k'.fr (q_fr.rf (S := fun _ => False)) (fun i a b q => q) rfl rfl rfl rfl, w'⟩
    refine v_X10_run_23 (by omega) (by omega) 49 _ _ ⟨fun _ => fin, fun q => e_gi B'.1 rfl ⟨fun _ => fin, fun q2 => ?_⟩⟩
    have a1 : ¬ k ≤ min k A.L.n := fun r => q (nI_le r (by omega))
    have a2 : A.L.n - min k A.L.n = 0 := by omega
    rw [a2] at q2
    exact absurd (Int32.le_refl _) q2
  · rintro i ⟨⟨P', D'⟩, h'⟩ hi ⟨f, B', v', R', u', p', k', w', e⟩ ih
    dsimp only at f B' v' R' u' p' k' w' e ⊢
    rw [show min k A.L.n - i = (min k A.L.n - (i + 1)) + 1 by omega, actsF] at e
    have da := dropA_at i A.L
    have dn := (da.2 0)
    rw [Nat.add_zero] at dn
    have dl : 0 < (dropA A.L i).n := by rw [da.1]; omega
    have d40 : (dropA A.L i).n ≤ 40 := by rw [da.1]; omega
    refine v_X10_run_23 (by omega) (by omega) 49 _ _ ⟨fun q => absurd q (nI_ge (by omega) (by omega)), fun _ => e_gi B'.1 rfl ⟨fun q => absurd q (nI_nle (by omega) (by omega)), fun _ => ?_⟩⟩
    refine e_gr B'.1 rfl (e_gr B'.1 rfl (ml_rd (j := 0) (b := 0) p' d40 dl (by decide) rfl (fun F q => q.1) (e_gr B'.1 rfl (ml_rd (j := 0) (b := 1) p' d40 dl (by decide) rfl (fun F q => q.2.1) (e_gr B'.1 rfl (ml_rd (j := 0) (b := 2) p' d40 dl (by decide) rfl (fun F q => q.2.2) (e_ob B'.1 ?_)))))))
    rw [dn.1, dn.2.1, dn.2.2]
    have hok := ok.2.2.1 i (by omega)
    refine m_actB (by omega) (by omega) ⟨by omega, by omega⟩ B' ok.1 v' R' hok (fun h3 f3 B3 v3 => ⟨_, rfl, ?_⟩)
    have aS : ∀ j, aM 55 j → mS j := fun j q => by unfold aM rS at q; unfold mS; omega
    have F3 : q_fr mS h1 h3 := f.tt (f3.mono (fun j _ q => aS j q))
    have R3 := perf_ok ok.1 R' hok
    have u3 : arA h3 56 594 := u'.fr f3 (by unfold aM rS; omega)
    have p3 : ML h3 57 (dropA A.L i) := p'.fr f3 (by unfold aM rS; omega)
    have k3 : MMk h3 A := k'.fr f3 (fun j a b => by unfold aM rS; omega) rfl rfl rfl rfl
    have w3 : arA h3 81 594 := w'.fr f3 (by unfold aM rS; omega)
    have en : (dropA A.L i).n = A.L.n - i := da.1
    refine ⟨fun q => ?_, fun q => ?_⟩
    · rw [if_pos q] at e
      rw [← en] at B3
      refine e_ob B3.1 (m_takeOut (p := 0) B3.1 p3 dl d40 (fun h4 f4 z4 mo4 p4 => ⟨rfl, ?_⟩))
      rw [nI_1]
      have e1 : mc - i - 1 = mc - (i + 1) := by omega
      have e2 : ms - 4 * i - 4 = ms - 4 * (i + 1) := by omega
      rw [e1, e2]
      have B4 := MB_mP B3 f4 mo4
      rw [en, show A.L.n - i - 1 = A.L.n - (i + 1) by omega] at B4
      exact ih ((_, _), h4) ⟨F3.tt (f4.mono (fun j _ q => by unfold mP at q; unfold mS; omega)), B4, v3.fr f4 (by unfold mP; omega), R3, u3.fr f4 (by unfold mP; omega), by rw [dropA_s]; exact p4, k3.fr f4 (fun j a b => by unfold mP; omega) rfl rfl rfl rfl, w3.fr f4 (by unfold mP; omega), e⟩
    · rw [if_neg q] at e
      rw [← e] at hq
      have pn := perf_n q
      rw [pn] at v3
      exact hq h3 F3 ⟨Nat.le_trans s83 F3.1, ⟨_, by rw [← en] at B3; exact B3⟩, v3, u3, p3, k3.fr (q_fr.rf (S := fun _ => False)) (fun i a b q => q) rfl rfl rfl rfl, w3⟩
theorem m_nearest {t : Int32} (s : MSt h A th) (ok : aOk A) (hq : rm h Q (R_nearest A t)) : q_Ct l (d + 5) mX10_nearest [.ref 49, .int t] h mc ms Q QX := by
  unfold R_nearest at hq
  have tn := ok.1.tn
  have hp := ok.2.1.1.1
  refine v_X10_nearest 49 _ (m_start s hq (fun h1 s1 hq => ?_))
  obtain ⟨s83, ⟨wy, B⟩, v1, u1, p1, k1, w1⟩ := id s1
  refine e_ob B.1 (m_isTarget B.1 ok.1 (fun ht => ⟨_, rfl, g_t ?_⟩) (fun ht => ⟨_, rfl, g_f (m_no 1 rfl s1 (by rw [pif_f ht] at hq; exact hq))⟩))
  rw [pif_t ht] at hq
  obtain ⟨k, hk, rfl⟩ := ht
  rw [nI_clamp (by omega)] at hq
  refine e_gr B.1 rfl (mr_rd (k := 1) v1 rfl (by decide) (fun F q => q.x) (e_gr B.1 rfl (mr_rd (k := 2) v1 rfl (by decide) (fun F q => q.y) (e_ob B.1 (m_reckon_fr B.1 B.2.1 ok.1.g ok.1 hp rfl B.2.2.2.2.1 B.2.2.2.2.2.1 B.2.2.2.2.2.2.1 (fun h2 f2 z2 LL c1 c2 c3 => ⟨rfl, ?_⟩))))))
  have B2 := MB_rS B f2 ⟨_, c1⟩ c2 c3
  have s2 : MSt h2 A 0 := s1.up f2 (fun i q a b => by unfold rS at q; omega) ⟨_, B2⟩ (u1.fr f2 (by unfold rS; omega)) (w1.fr f2 (by unfold rS; omega))
  have hv := m_ok s2 (hq.tr (f2.mono (fun i _ q => by unfold rS at q; unfold mS; omega)))
  unfold neaA at hv
  have hcl : ∀ u, C_fr A.W (ix A.P.x A.P.y) u ≤ FARn := fun u => theC_le
  generalize C_fr A.W (ix A.P.x A.P.y) = cc at hv c1 hcl
  refine e_gr B2.1 rfl (e_ob B2.1 (m_nearestFor B2.1 B2.2.1 B2.2.2.1 ok.1 s2.2.2.1 ok.2.1.2 hk c1 hcl ⟨_, rfl, ?_⟩))
  by_cases e : nearA A.W cc A.D k = 576
  · rw [if_pos e] at hv
    refine ⟨fun _ => hv, fun q => absurd ?_ q⟩
    unfold rP; rw [if_pos e]
  · have np := nearA_t e
    rw [if_neg e] at hv
    have er : rP (nearA A.W cc A.D k) = nI (nearA A.W cc A.D k) := by unfold rP; rw [if_neg e]
    refine ⟨fun q => ?_, fun _ => ?_⟩
    · rw [er] at q; exact absurd q (nI_nm1 (by omega))
    · show Q (some (.int (100 * (rP (nearA A.W cc A.D k) - rP (nearA A.W cc A.D k) / 24 * 24) + rP (nearA A.W cc A.D k) / 24))) h2
      rw [er, r24 (by omega), d24 (by omega)]
      exact hv
theorem m_mark (s : MSt h A th) (ok : aOk A) (hq : rm h Q (R_mark A)) : q_Ct l (d + 1) mX10_mark [.ref 49] h mc ms Q QX := by
  unfold R_mark at hq
  have m8 := ok.2.2.2.2.1
  have n9 := ok.2.2.2.1
  have nd := dOk_n ok.2.1.2
  refine v_X10_mark 49 (m_start s hq (fun h1 s1 hq => ?_))
  obtain ⟨s83, ⟨wy, B⟩, v1, u1, p1, k1, w1⟩ := id s1
  refine e_gi B.1 rfl ⟨fun q => ?_, fun q => ?_⟩
  · have e : A.m = 8 := (nI_eq (b := 8) (by omega) (by decide)).mp q
    exact m_no 1 rfl s1 (by rw [pif_f (by omega)] at hq; exact hq)
  have lt : A.m < 8 := by
    have : A.m ≠ 8 := fun e => q (by rw [e]; rfl)
    omega
  rw [pif_t lt] at hq
  obtain ⟨r1, r2, ⟨F, r3, r4⟩, r5, r6⟩ := k1
  refine e_gr B.1 rfl (e_gr B.1 rfl (e_gi B.1 rfl (e_o4 r1 rfl lt (by decide) rfl (e_cpR v1 (by omega) (r5 A.m lt).1 (fun h2 f2 z2 v2 => ?_)))))
  have mo2 := B.1.fr f2 (by omega)
  have p2 := p1.fr f2 (show ¬ 57 = 59 + A.m by omega)
  refine e_gr mo2 rfl (e_gr mo2 rfl (e_gi mo2 rfl (e_o4 (r2.fr f2 (by omega)) rfl lt (by decide) rfl (e_gr mo2 rfl (e_ln p2.A (e_cpL p2 n9 ((r5 A.m lt).2.fr f2 (by omega)) (fun h3 f3 z3 p3 => ?_)))))))
  have mo3 := mo2.fr f3 (by omega)
  refine e_gr mo3 rfl (e_gi mo3 rfl (e_gi mo3 rfl (e_as (k := A.m) ((r3.fr f2 (by omega)).fr f3 (by omega)) rfl lt (by decide) (fun h4 f4 z4 b4 => ?_))))
  have mo4 := mo3.fr f4 (by omega)
  refine e_gi mo4 rfl (e_pi mo4 (Nat.le_of_ble_eq_true rfl) (fun h5 f5 z5 mo5 => ?_))
  rw [nI_1] at mo5
  refine e_gi mo5 rfl ?_
  show Q (some (.int (nI (A.m + 1) - 1))) h5
  rw [show nI (A.m + 1) - 1 = nI A.m from nI_pred _]
  have FF : q_fr (fun j => j = 49 ∨ j = 59 + A.m ∨ j = 68 + A.m ∨ j = 76) h1 h5 := (((f2.mono (S2 := fun j => j = 49 ∨ j = 59 + A.m ∨ j = 68 + A.m ∨ j = 76) (fun i _ q => Or.inr (Or.inl q))).t1 f3 (Or.inr (Or.inr (Or.inl rfl)))).t1 f4 (Or.inr (Or.inr (Or.inr rfl)))).t1 f5 (Or.inl rfl)
  refine hq h5 (FF.mono (fun i _ q => by unfold mS; omega)) ⟨Nat.le_trans s83 FF.1, ⟨wy, mo5, B.2.1.fr FF (fun i a b => by omega), B.2.2.1.fr FF (by omega), B.2.2.2.1.fr FF (by omega), B.2.2.2.2.1.fr FF (by omega), B.2.2.2.2.2.1.fr FF (by omega), B.2.2.2.2.2.2.1.fr FF (by omega), B.2.2.2.2.2.2.2.fr FF (by omega)⟩, v1.fr FF (by omega), u1.fr FF (by omega), p1.fr FF (by omega), ⟨r1.fr FF (by omega), r2.fr FF (by omega), ⟨_, b4.fr f5 (by omega), fun i hi => ?_⟩, fun i hi => ?_, fun i hi h8 => ?_⟩, w1.fr FF (by omega)⟩
  · change i < A.m + 1 at hi
    show _ = nI (updM A.mL A.m A.L i).n
    unfold updM
    by_cases e : i = A.m
    · subst e; rw [pk_us, if_pos rfl]
    · rw [pk_un e, if_neg e]; exact r4 i (by omega)
  · by_cases e : i = A.m
    · subst e
      exact ⟨((v2.A.fr f3 (by omega)).fr f4 (by omega)).fr f5 (by omega), (p3.A.fr f4 (by omega)).fr f5 (by omega)⟩
    · exact ⟨(r5 i hi).1.fr FF (by omega), (r5 i hi).2.fr FF (by omega)⟩
  · change i < A.m + 1 at hi
    show MR h5 (59 + i) (updM A.mP A.m A.P i) (updM A.mD A.m A.D i) ∧ ML h5 (68 + i) (updM A.mL A.m A.L i)
    unfold updM
    by_cases e : i = A.m
    · subst e
      rw [if_pos rfl, if_pos rfl, if_pos rfl]
      exact ⟨((v2.fr f3 (by omega)).fr f4 (by omega)).fr f5 (by omega), (p3.fr f4 (by omega)).fr f5 (by omega)⟩
    · rw [if_neg e, if_neg e, if_neg e]
      exact ⟨(r6 i (by omega) h8).1.fr FF (by omega), (r6 i (by omega) h8).2.fr FF (by omega)⟩
theorem m_back {k : Int32} (s : MSt h A th) (ok : aOk A) (hq : rm h Q (R_back A k)) : q_Ct l (d + 1) mX10_back [.ref 49, .int k] h mc ms Q QX := by
  unfold R_back at hq
  have m8 := ok.2.2.2.2.1
  refine v_X10_back 49 _ (m_start s hq (fun h1 s1 hq => ?_))
  obtain ⟨s83, ⟨wy, B⟩, v1, u1, p1, k1, w1⟩ := id s1
  refine e_gi B.1 rfl (m_isIn (fun x y => ⟨_, rfl, g_t ?_⟩) (fun c => ⟨_, rfl, g_f (m_no 1 rfl s1 (by rw [pif_f (fun r => c ((isT_in (by omega)).mpr r))] at hq; exact hq))⟩))
  have ht := (isT_in (n := A.m) (by omega)).mp ⟨x, y⟩
  rw [pif_t ht] at hq
  obtain ⟨j, hj, rfl⟩ := ht
  rw [nI_clamp (by omega)] at hq
  obtain ⟨ok9, okL, okn⟩ := ok.2.2.2.2.2 j hj
  have nd := dOk_n ok9.2
  obtain ⟨r1, r2, ⟨F, r3, r4⟩, r5, r6⟩ := k1
  have hj8 : j < 8 := by omega
  have r9 := r6 j hj hj8
  refine e_gr B.1 rfl (e_o4 r1 rfl hj8 (by decide) rfl (e_gr B.1 rfl (e_cpR r9.1 (by omega) v1.A (fun h2 f2 z2 v2 => ?_))))
  have mo2 := B.1.fr f2 (by omega)
  have p2 := p1.fr f2 (show ¬ 57 = 55 by omega)
  have q2 := r9.2.fr f2 (show ¬ 68 + j = 55 by omega)
  refine e_gr mo2 rfl (e_o4 (r2.fr f2 (by omega)) rfl hj8 (by decide) rfl (e_gr mo2 rfl (e_gr mo2 rfl (e_ln p2.A (e_cpL q2 okn p2.A (fun h3 f3 z3 p3 => ?_))))))
  have mo3 := mo2.fr f3 (by omega)
  refine e_gr mo3 rfl (e_al (k := j) ((r3.fr f2 (by omega)).fr f3 (by omega)) rfl hj8 (by decide) ?_)
  rw [r4 j hj]
  refine e_pi mo3 (Nat.le_of_ble_eq_true rfl) (fun h4 f4 z4 mo4 => e_pi mo4 (Nat.le_of_ble_eq_true rfl) (fun h5 f5 z5 mo5 => ?_))
  rw [nI_1] at mo5
  have v5 := ((v2.fr f3 (by omega)).fr f4 (by omega)).fr f5 (show ¬ 55 = 49 by omega)
  refine e_gr mo5 rfl (e_gr mo5 rfl (mr_rd (k := 3) v5 rfl (by decide) (fun F q => q.b) (e_gi mo5 rfl (mr_wr (k := 3) v5 rfl (by decide) (fun F q => mRw_b q) (fun h6 f6 z6 v6 => ?_)))))
  have mo6 : MO h6 A.W (A.mL j).n (j + 1) 0 wy := ob.fr mo5 f6 (by omega)
  refine e_gr mo6 rfl (mr_rd (k := 0) v6 rfl (by decide) (fun F q => q.t) ?_)
  have FF : q_fr (fun j => j = 49 ∨ j = 55 ∨ j = 57) h1 h6 := ((((f2.mono (S2 := fun j => j = 49 ∨ j = 55 ∨ j = 57) (fun i _ q => Or.inr (Or.inl q))).t1 f3 (Or.inr (Or.inr rfl))).t1 f4 (Or.inl rfl)).t1 f5 (Or.inl rfl)).t1 f6 (Or.inr (Or.inl rfl))
  refine hq h6 (FF.mono (fun i _ q => by unfold mS; omega)) ⟨Nat.le_trans s83 FF.1, ⟨wy, mo6, B.2.1.fr FF (fun i a b => by omega), B.2.2.1.fr FF (by omega), B.2.2.2.1.fr FF (by omega), B.2.2.2.2.1.fr FF (by omega), B.2.2.2.2.2.1.fr FF (by omega), B.2.2.2.2.2.2.1.fr FF (by omega), B.2.2.2.2.2.2.2.fr FF (by omega)⟩, v6, u1.fr FF (by omega), ((p3.fr f4 (by omega)).fr f5 (by omega)).fr f6 (by omega), ⟨r1.fr FF (by omega), r2.fr FF (by omega), ⟨F, r3.fr FF (by omega), fun i hi => ?_⟩, fun i hi => ?_, fun i hi h8 => ?_⟩, w1.fr FF (by omega)⟩
  · change i < j + 1 at hi
    exact r4 i (by omega)
  · exact ⟨(r5 i hi).1.fr FF (by omega), (r5 i hi).2.fr FF (by omega)⟩
  · change i < j + 1 at hi
    exact ⟨(r6 i (by omega) h8).1.fr FF (by omega), (r6 i (by omega) h8).2.fr FF (by omega)⟩
theorem m_thrown (s : MSt h A th) (hq : Q (some (.int th)) h) : q_Ct l d mX10_thrown [.ref 49] h mc ms Q QX := by
  obtain ⟨wy, B⟩ := s.2.1
  exact v_X10_thrown (d := d) 49 (e_gi B.1 rfl hq)
end MP3
