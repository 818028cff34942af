/-! THE LAW: dust stays 20 or more; the plan's rows; filling them; the other targets -/
theorem mv_cl {P : PH} {k : Nat} : (mvA P k).cl = P.cl := rfl
theorem step_cl {W : WS} {p k : Nat} {P : PH} (h : 20 ≤ P.cl.toInt) : 20 ≤ (stepA W p k P).2.cl.toInt := by
  unfold stepA
  split
  · split
    · show 20 ≤ (mvA _ k).cl.toInt
      rw [mv_cl]
      exact passN_cl (cap := W.cap) (use := sp_eng W.H W.R p k) (aw := true) 1 (passN_cl (cap := W.cap) (use := 0) (aw := true) (wt W.H W.R p k - 1) h)
    · show 20 ≤ (mvA _ k).cl.toInt
      rw [mv_cl]
      exact passN_cl (cap := W.cap) (use := 0) (aw := true) (wt W.H W.R p k - 1) h
  · exact h
theorem drive_cl {W : WS} {c : Nat → Nat} {gx gy : Int32} : ∀ (n : Nat) (P : PH), 20 ≤ P.cl.toInt → 20 ≤ (driveA W c gx gy n P).2.cl.toInt := by
  intro n
  induction n with
  | zero => intro P h; exact h
  | succ n ih =>
    intro P h
    rw [driveA]
    split
    · exact h
    · split
      · split
        · exact ih _ (step_cl h)
        · exact step_cl h
      · exact h
theorem use_cl {W : WS} {size use : Int32} {n : Nat} {P : PH} {D : DT} (h : 20 ≤ P.cl.toInt) : 20 ≤ (useA W size use n P D).2.cl.toInt := by
  unfold useA
  split
  · split
    · split
      · exact passN_cl n h
      · exact h
    · exact h
  · exact h
theorem perf_cl {W : WS} {k a b : Int32} {P : PH} {D : DT} (hk : k = 0 ∨ k = 1 ∨ k = 2) (h : 20 ≤ P.cl.toInt) : 20 ≤ (perfA W k a b P D).2.1.cl.toInt := by
  have ea : 20 ≤ (actA W k a b P D).2.1.cl.toInt := by
    rcases hk with rfl | rfl | rfl
    · have e : actA W 0 a b P D = ((driveA W (C_to W (ix a b)) a b 576 P).1, (driveA W (C_to W (ix a b)) a b 576 P).2, D) := by unfold actA; rw [if_pos rfl]
      rw [e]
      exact drive_cl 576 P h
    · have e : actA W 1 a b P D = takeI W P D a b := by unfold actA; rw [if_neg (by decide), if_pos rfl]
      rw [e]
      unfold takeI
      split
      · exact h
      · split
        · split
          · exact use_cl h
          · exact use_cl h
        · exact h
    · have e : actA W 2 a b P D = takeT W P D a b := by unfold actA; rw [if_neg (by decide), if_neg (by decide), if_pos rfl]
      rw [e]
      unfold takeT
      split
      · split
        · exact use_cl h
        · exact use_cl h
      · exact h
  unfold perfA
  split
  · exact ea
  · exact h
def rw3 (x y z : Int32) : Nat → Int32 := fun j => match j with
  | 0 => x
  | 1 => y
  | _ => z
def PR (h : qH) (pl N : Nat) (L : PL) : Prop := 57 ≤ pl ∧ rr h pl N (fun i => some (pl + 1 + i)) ∧ ∀ i, i < N → ar h (pl + 1 + i) 3 (rw3 (L.k i) (L.a i) (L.b i))
theorem PR.fr {h h' : qH} {pl N : Nat} {L : PL} {S : Nat → Prop} (p : PR h pl N L) (f : q_fr S h h') (hS : ∀ i, S i → i ≤ 50) : PR h' pl N L := by
  obtain ⟨p1, p2, p3⟩ := p
  exact ⟨p1, p2.fr f (fun q => by have := hS _ q; omega), fun i hi => (p3 i hi).fr f (fun q => by have := hS _ q; omega)⟩
theorem cl50 {i : Nat} (q : clS 49 i) : i ≤ 50 := by unfold clS at q; omega
section LW0
variable {l : Launch} {d mc ms : Nat} {Q : Option Value → qH → Prop} {QX : String → qH → Prop} {h : qH} {tr : Nat → Nat} {A : ST}
/-- the rows are filled with the plan -/
theorem law_fill {n0 kc ks N pl : Nat} {x3 : Int32} (hl0 : l.stackTraces = false) (hkc : 3 * N + 1 ≤ kc) (hks : 18 * N + 6 ≤ ks) (c : CS h 49 A) (ok : aOk A) (hN : A.L.n = N) (h57 : 57 ≤ pl) (r0 : rr h pl N (fun i => some (pl + 1 + i))) (a0 : ∀ i, i < N → ar h (pl + 1 + i) 3 (fun _ => 0))
    (hq : ∀ h' kc' ks', q_fr (fun i => clS 49 i ∨ pl < i) h h' → CS h' 49 A → PR h' pl N A.L → kc ≤ kc' + 3 * N → ks ≤ ks' + 18 * N → q_J l (d + 9) mL_law mc ms Q QX n0 147 [some (.float 4), some (.ref 0), some (.ref 49), some (.int x3), some (.int (nI N)), some (.ref pl), some (.int 0), none, none, none, none, none, none] [] h' kc' ks') :
    q_J l (d + 9) mL_law mc ms Q QX n0 100 [some (.float 4), some (.ref 0), some (.ref 49), some (.int x3), some (.int (nI N)), some (.ref pl), some (.int 0), none, none, none, none, none, none] [] h kc ks := by
  have h40 := ok.2.2.2.1
  refine q_loop (fun k (st : qH × Nat × Nat) => q_J l (d + 9) mL_law mc ms Q QX n0 100 [some (.float 4), some (.ref 0), some (.ref 49), some (.int x3), some (.int (nI N)), some (.ref pl), some (.int (nI k)), none, none, none, none, none, none] [] st.1 st.2.1 st.2.2) (fun k st => q_fr (fun i => clS 49 i ∨ pl < i) h st.1 ∧ CS st.1 49 A ∧ (∀ i, i < N → ar st.1 (pl + 1 + i) 3 (fun p => if i < k then rw3 (A.L.k i) (A.L.a i) (A.L.b i) p else 0)) ∧ kc ≤ st.2.1 + 3 * k ∧ ks ≤ st.2.2 + 18 * k) N ?_ ?_ 0 (h, kc, ks) (by omega) ⟨q_fr.rf, c, fun i hi => (a0 i hi).to (fun p _ => (if_neg (by omega)).symm), by show kc ≤ kc + 3 * 0; omega, by show ks ≤ ks + 18 * 0; omega⟩
  · rintro ⟨h1, kc1, ks1⟩ ⟨f1, c1, a1, b1, b2⟩
    dsimp only at f1 c1 a1 b1 b2 ⊢
    refine v_L_law_100 0 49 x3 _ pl (nI N) ⟨fun _ => hq h1 kc1 ks1 f1 c1 ⟨h57, r0.fr f1 (fun q => by have : clS 49 pl ∨ pl < pl := q; unfold clS at this; omega), fun i hi => (a1 i hi).to (fun p _ => if_pos hi)⟩ b1 b2, fun q => absurd (Int32.le_refl _) q⟩
  · rintro k ⟨h1, kc1, ks1⟩ hk ⟨f1, c1, a1, b1, b2⟩ ih
    dsimp only at f1 c1 a1 b1 b2 ⊢
    refine v_L_law_100 0 49 x3 _ pl (nI k) ⟨fun q => absurd q (nI_ge hk (by omega)), fun _ => ?_⟩
    refine q_loop (fun w (st : qH × Nat × Nat) => q_J l (d + 9) mL_law mc ms Q QX n0 110 [some (.float 4), some (.ref 0), some (.ref 49), some (.int x3), some (.int (nI N)), some (.ref pl), some (.int (nI k)), some (.int (nI w)), none, none, none, none, none] [] st.1 st.2.1 st.2.2) (fun w st => q_fr (fun i => clS 49 i ∨ pl < i) h st.1 ∧ CS st.1 49 A ∧ (∀ i, i < N → ar st.1 (pl + 1 + i) 3 (fun p => if i < k ∨ (i = k ∧ p < w) then rw3 (A.L.k i) (A.L.a i) (A.L.b i) p else 0)) ∧ kc ≤ st.2.1 + 3 * k + w ∧ ks ≤ st.2.2 + 18 * k + 6 * w) 3 ?_ ?_ 0 (h1, kc1, ks1) (by omega) ⟨f1, c1, fun i hi => (a1 i hi).to (fun p _ => ?_), by show kc ≤ kc1 + 3 * k + 0; omega, by show ks ≤ ks1 + 18 * k + 6 * 0; omega⟩
    · rintro ⟨h2, kc2, ks2⟩ ⟨f2, c2, a2, g1, g2⟩
      dsimp only at f2 c2 a2 g1 g2 ⊢
      refine v_L_law_110 (by omega) (by omega) 0 49 x3 _ pl (nI k) (nI 3) ⟨fun _ => ?_, fun q => absurd (Int32.le_refl _) q⟩
      rw [nI_1]
      refine ih (h2, kc2, ks2) ⟨f2, c2, fun i hi => (a2 i hi).to (fun p hp => ?_), by show kc ≤ kc2 + 3 * (k + 1); omega, by show ks ≤ ks2 + 18 * (k + 1); omega⟩
      by_cases e : i < k + 1
      · rw [if_pos (by omega), if_pos e]
      · rw [if_neg (by omega), if_neg e]
    · rintro w ⟨h2, kc2, ks2⟩ hw ⟨f2, c2, a2, g1, g2⟩ ih2
      dsimp only at f2 c2 a2 g1 g2 ⊢
      have rN : ∀ {h' : qH}, q_fr (fun i => clS 49 i ∨ pl < i) h h' → rr h' pl N (fun i => some (pl + 1 + i)) := fun f => r0.fr f (fun q => by have : clS 49 pl ∨ pl < pl := q; unfold clS at this; omega)
      refine v_L_law_110 (by omega) (by omega) 0 49 x3 _ pl (nI k) (nI w) ⟨fun q => absurd q (nI_ge hw (by decide)), fun _ => ?_⟩
      refine e_o4 (rN f2) rfl hk (by omega) rfl (e_ob c2.o (c_activity (d := d + 2) hl0 (by decide) (by decide) (by decide) c2 ok ?_))
      have er : R_activity A (nI k) (nI w) = (0, rw3 (A.L.k k) (A.L.a k) (A.L.b k) w, A) := by
        unfold R_activity
        rw [pif_t ⟨⟨k, by omega, rfl⟩, isW_nI (by omega) (by decide)⟩, nI_clamp (by omega)]
        unfold plA
        rcases (show w = 0 ∨ w = 1 ∨ w = 2 by omega) with rfl | rfl | rfl
        · rw [if_pos (show nI 0 = 0 from rfl)]; rfl
        · rw [if_neg (show ¬ nI 1 = 0 by decide), if_pos (show nI 1 = 1 from rfl)]; rfl
        · rw [if_neg (show ¬ nI 2 = 0 by decide), if_neg (show ¬ nI 2 = 1 by decide)]; rfl
      rw [er]
      refine rs_i (fun h3 f3 c3 => ?_)
      have hf3 : ∀ i, i < N → ¬ clS 49 (pl + 1 + i) := fun i _ q => by unfold clS at q; omega
      refine e_as ((a2 k hk).fr f3 (hf3 k hk)) rfl hw (by decide) (fun h4 f4 z4 a4 => ?_)
      rw [nI_1]
      refine ih2 (h4, kc2 - 1, ks2 - 6) ⟨(f2.tr f3 (fun i _ q => q) (fun i _ q => Or.inl q)).tr f4 (fun i _ q => q) (fun i _ q => Or.inr (by omega)), CS_law c3 f4 (fun i q => by omega), fun i hi => ?_, by show kc ≤ kc2 - 1 + 3 * k + (w + 1); omega, by show ks ≤ ks2 - 6 + 18 * k + 6 * (w + 1); omega⟩
      by_cases e : i = k
      · subst e
        refine a4.to (fun p hp => ?_)
        by_cases e2 : p = w
        · subst e2; rw [pk_us, if_pos (by omega)]
        · rw [pk_un e2]
          by_cases e3 : p < w
          · rw [if_pos (by omega), if_pos (by omega)]
          · rw [if_neg (by omega), if_neg (by omega)]
      · refine (((a2 i hi).fr f3 (hf3 i hi)).fr f4 (by omega)).to (fun p hp => ?_)
        by_cases e3 : i < k
        · rw [if_pos (by omega), if_pos (by omega)]
        · rw [if_neg (by omega), if_neg (by omega)]
    · by_cases e : i < k
      · rw [if_pos e, if_pos (by omega)]
      · rw [if_neg e, if_neg (by omega)]
/-- no other target that's worth more is served from here on -/
theorem law_others {n0 kc ks m pl j t : Nat} {L : PL} {x3 x8 : Int32} (hl0 : l.stackTraces = false) (hkc : 30 ≤ kc) (hks : 180 ≤ ks) (T : TW h tr A) (ok : aOk A) (p : PR h pl (2 * m) L) (hm : m ≤ 20) (hj : j ≤ m) (ht : t < A.W.tn)
    (hno : ∀ u, u < A.W.tn → (¬ wrt A u < wrt A t ∧ (wrt A u = wrt A t → u < t)) → ∀ i, j ≤ i → i < m → L.a (2 * i + 1) ≠ nI u)
    (hq : ∀ h' x kc' ks', q_fr (clS 49) h h' → CS h' 49 A → kc ≤ kc' + 24 → ks ≤ ks' + 144 → q_J l (d + 9) mL_law mc ms Q QX n0 359 [some (.float 4), some (.ref 0), some (.ref 49), some (.int x3), some (.int (nI (2 * m))), some (.ref pl), some (.int (nI (2 * j))), some (.int (nI t)), some (.int x8), some (.int (wrt A t)), some (.int x), none, none] [] h' kc' ks') :
    q_J l (d + 9) mL_law mc ms Q QX n0 270 [some (.float 4), some (.ref 0), some (.ref 49), some (.int x3), some (.int (nI (2 * m))), some (.ref pl), some (.int (nI (2 * j))), some (.int (nI t)), some (.int x8), some (.int (wrt A t)), some (.int 0), none, none] [] h kc ks := by
  have htn := ok.1.tn
  refine q_loop (fun u (st : qH × Nat × Nat) => q_J l (d + 9) mL_law mc ms Q QX n0 270 [some (.float 4), some (.ref 0), some (.ref 49), some (.int x3), some (.int (nI (2 * m))), some (.ref pl), some (.int (nI (2 * j))), some (.int (nI t)), some (.int x8), some (.int (wrt A t)), some (.int (nI u)), none, none] [] st.1 st.2.1 st.2.2) (fun u st => q_fr (clS 49) h st.1 ∧ CS st.1 49 A ∧ kc ≤ st.2.1 + 2 * u ∧ ks ≤ st.2.2 + 12 * u) A.W.tn ?_ ?_ 0 (h, kc, ks) (by omega) ⟨q_fr.rf, T.1, by show kc ≤ kc + 2 * 0; omega, by show ks ≤ ks + 12 * 0; omega⟩
  · rintro ⟨h1, kc1, ks1⟩ ⟨f1, c1, b1, b2⟩
    dsimp only at f1 c1 b1 b2 ⊢
    have T1 := T.fr f1 c1
    obtain ⟨-, K1, pp, pr, s1⟩ := id T1
    have out := hq h1 (nI A.W.tn) kc1 ks1 f1 c1 (by omega) (by omega)
    refine v_L_law_270 (by omega) (by omega) 0 49 x3 _ pl _ _ x8 _ (nI A.W.tn) ⟨fun _ => out, fun q => ?_⟩
    have h12 : A.W.tn < 12 := Classical.byContradiction fun r => q (by rw [le_i, L_12, nI_toInt (by omega)]; omega)
    exact e_gr s1.1 rfl (e_o4n K1.2.1 rfl h12 (by decide) (fun i r => absurd r (by rw [if_neg (Nat.lt_irrefl _)]; exact fun e => nomatch e)) (fun _ => out))
  · rintro u ⟨h1, kc1, ks1⟩ hu ⟨f1, c1, b1, b2⟩ ih
    dsimp only at f1 c1 b1 b2 ⊢
    have T1 := T.fr f1 c1
    obtain ⟨-, K1, pp, pr, s1⟩ := id T1
    refine v_L_law_270 (by omega) (by omega) 0 49 x3 _ pl _ _ x8 _ (nI u) ⟨fun q => absurd q (nI_ge (b := 12) (by omega) (by decide)), fun _ => e_gr s1.1 rfl (e_o4n K1.2.1 rfl (by omega) (by decide) (fun i _ => ?_) (fun r => absurd r (by rw [if_pos hu]; exact fun e => nomatch e)))⟩
    refine s_worth (d := d + 1) hl0 (by decide) (by decide) T1 ok hu (fun h2 f2 c2 => ⟨_, rfl, ?_⟩)
    have p2 : PR h2 pl (2 * m) L := (p.fr f1 (fun i q => cl50 q)).fr f2 (fun i q => cl50 q)
    have nxt : q_J l (d + 9) mL_law mc ms Q QX n0 270 [some (.float 4), some (.ref 0), some (.ref 49), some (.int x3), some (.int (nI (2 * m))), some (.ref pl), some (.int (nI (2 * j))), some (.int (nI t)), some (.int x8), some (.int (wrt A t)), some (.int (nI u + 1)), none, none] [] h2 (kc1 - 2) (ks1 - 12) := by
      rw [nI_1]
      exact ih (h2, kc1 - 2, ks1 - 12) ⟨f1.tt f2, c2, by show kc ≤ kc1 - 2 + 2 * (u + 1); omega, by show ks ≤ ks1 - 12 + 12 * (u + 1); omega⟩
    have scan : (¬ wrt A u < wrt A t ∧ (wrt A u = wrt A t → u < t)) → q_J l (d + 9) mL_law mc ms Q QX n0 324 [some (.float 4), some (.ref 0), some (.ref 49), some (.int x3), some (.int (nI (2 * m))), some (.ref pl), some (.int (nI (2 * j))), some (.int (nI t)), some (.int x8), some (.int (wrt A t)), some (.int (nI u)), some (.int (wrt A u)), some (.int (nI (2 * j)))] [] h2 (kc1 - 2) (ks1 - 12) := fun hb => by
      have no := hno u hu hb
      refine q_loop (fun i (_ : Unit) => q_J l (d + 9) mL_law mc ms Q QX n0 324 [some (.float 4), some (.ref 0), some (.ref 49), some (.int x3), some (.int (nI (2 * m))), some (.ref pl), some (.int (nI (2 * j))), some (.int (nI t)), some (.int x8), some (.int (wrt A t)), some (.int (nI u)), some (.int (wrt A u)), some (.int (nI (2 * i)))] [] h2 (kc1 - 2) (ks1 - 12)) (fun i _ => j ≤ i) m ?_ ?_ j () hj (Nat.le_refl _)
      · intro _ _
        exact v_L_law_324 0 49 x3 _ pl _ _ x8 _ (nI u) _ (nI (2 * m)) ⟨fun _ => nxt, fun q => absurd (Int32.le_refl _) q⟩
      · intro i _ hi hji ih2
        refine v_L_law_324 0 49 x3 _ pl _ _ x8 _ (nI u) _ (nI (2 * i)) ⟨fun q => absurd q (nI_ge (by omega) (by omega)), fun _ => ?_⟩
        refine e_o4 p2.2.1 (nI_1 _) (show 2 * i + 1 < 2 * m by omega) (by omega) rfl (e_al (k := 1) (p2.2.2 _ (by omega)) rfl (by decide) (by decide) ⟨fun q => absurd q (no i hji hi), fun _ => ?_⟩)
        rw [show nI (2 * i) + 2 = nI (2 * (i + 1)) from nI_add (2 * i) 2]
        exact ih2 () (by omega)
    refine ⟨fun _ => nxt, fun q1 => ⟨fun q2 => ⟨fun q3 => scan ⟨q1, fun _ => ?_⟩, fun _ => nxt⟩, fun q2 => scan ⟨q1, fun q => absurd q q2⟩⟩⟩
    rw [lt_i, nI_toInt (by omega), nI_toInt (by omega)] at q3
    omega
end LW0
