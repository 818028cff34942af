/-! the model: plans are made -/
theorem its_nn {W : WS} (hw : wOk W) {c : Nat → Nat} {t p : Nat} (ht : t < W.tn) (hc : c p ≤ 46656) : (-1 : Int32) < itsA W c t p ∧ ¬ (1 : Int32) + nI (c p) = 0 := by
  have tv := hw.tv t ht
  have e1 : (1 : Int32) + nI (c p) = nI (1 + c p) := by rw [show (1 : Int32) = nI 1 from rfl, nI_add]
  have e2 : (nI (1 + c p)).toInt = ((1 + c p : Nat) : Int) := nI_toInt (by omega)
  have e3 : ((1000 : Int32) * W.tv t).toInt = 1000 * (W.tv t).toInt := by
    rw [fb_mulI, L_1000] <;> rw [L_1000] <;> omega
  refine ⟨?_, by rw [e1]; exact nI_ne0 (by omega) (by omega)⟩
  unfold itsA
  rw [e1, lt_i, M_1, i_div (by rw [e2]; omega), e3, Int.tdiv_eq_ediv_of_nonneg (by omega)]
  have := Int.ediv_nonneg (a := 1000 * (W.tv t).toInt) (b := (nI (1 + c p)).toInt) (by omega) (by rw [e2]; omega)
  omega
def outB (out : Nat → Bool) : Nat → Int32 := fun t => if out t = true then 1 else 0
def oM (a i : Nat) : Prop := tM i ∨ i = 57 ∨ i = 81 ∨ i = a
theorem aM_oM {a i : Nat} (h : aM 56 i) : oM a i := by
  unfold aM at h
  rcases h with q | q | q
  · exact Or.inl (Or.inr (Or.inr (Or.inl q)))
  · exact Or.inl (Or.inr (Or.inr (Or.inr q)))
  · exact Or.inl (Or.inr (Or.inl q))
section MD8
variable {l : Launch} {d mc ms : Nat} {Q : Option Value → qH → Prop} {QX : String → qH → Prop} {h : qH} {W : WS} {n m r : Nat} {th wy : Int32} {P : PH} {D : DT} {L : PL} {c : Nat → Nat}
theorem m_makeOne {a : Nat} {beg nn : Int32} {out : Nat → Bool} (hkc : 2 ≤ mc) (hks : 8 ≤ ms) (ha : 83 ≤ a) (B : MB h W L.n m th wy) (hw : wOk W) (v : MR h 56 P D) (hR : rOk P D) (u : arA h 81 594) (pl : ML h 57 L) (hL : plOk W L) (hn : L.n ≤ 40) (ho : br h a 12 (outB out)) (hb : 0 ≤ beg.toInt ∧ beg.toInt ≤ 14400) (hnn : 1 ≤ nn.toInt ∧ nn.toInt ≤ 2880)
    (q0 : ¬ L.n + 2 ≤ 40 → Q (some (.int 0)) h)
    (q1 : L.n + 2 ≤ 40 → (choF W (C_fr W (ix P.x P.y)) D out W.tn).1 = 99 → ∀ h', q_fr (oM a) h h' → MB h' W L.n m th wy → MR h' 56 P D → arA h' 81 594 → ML h' 57 L → br h' a 12 (outB out) → Q (some (.int 0)) h')
    (q2 : L.n + 2 ≤ 40 → ∀ t p, t = (choF W (C_fr W (ix P.x P.y)) D out W.tn).1 → p = nearA W (C_fr W (ix P.x P.y)) D t → t < W.tn → p < 576 → out t = false → ∀ h', q_fr (oM a) h h' → MB h' W (visA W L t p (beg + nn) P D).2.1.n m th wy → MR h' 56 (visA W L t p (beg + nn) P D).2.2.1 (visA W L t p (beg + nn) P D).2.2.2 → arA h' 81 594 → ML h' 57 (visA W L t p (beg + nn) P D).2.1 → br h' a 12 (outB (if (visA W L t p (beg + nn) P D).1 = true then out else outU out t)) → Q (some (.int 1)) h') :
    q_Ct l (d + 7) mX10_makeOne [.ref 49, .int beg, .int nn, .ref a] h mc ms Q QX := by
  have far : FARn = 1000000 := rfl
  have tn := hw.tn
  have mo := B.1
  refine v_X10_makeOne 49 _ _ a (e_gi mo rfl ?_)
  rw [show (2 : Int32) = nI 2 from rfl, nI_add]
  refine ⟨fun q => ?_, fun q => q0 (fun r => q (nI_le (b := 40) r (by decide)))⟩
  have room : L.n + 2 ≤ 40 := (nI_leI (b := 40) (by omega) (by decide)).mp q
  have q1 := q1 room
  have q2 := q2 room
  refine e_gr mo rfl (mr_rd (k := 1) v rfl (by decide) (fun F q => q.x) (e_gr mo rfl (mr_rd (k := 2) v rfl (by decide) (fun F q => q.y) (e_ob mo (m_reckon_fr mo B.2.1 hw.g hw hR.1.1 rfl B.2.2.2.2.1 B.2.2.2.2.2.1 B.2.2.2.2.2.2.1 (fun h1 f1 z1 LL c1 c2 c3 => ⟨rfl, ?_⟩))))))
  have R1 : ∀ i, rS i → oM a i := fun i q => Or.inl (Or.inr (Or.inr (Or.inl q)))
  have hcl : ∀ u, C_fr W (ix P.x P.y) u ≤ FARn := fun u => theC_le
  have hcs : ∀ p, p < 576 → C_fr W (ix P.x P.y) p < FARn → C_fr W (ix P.x P.y) p ≤ 46656 := fun p hp hf => lc_small (gB_fr hw.g) LL hp hf
  generalize C_fr W (ix P.x P.y) = cc at q1 q2 LL c1 hcl hcs
  have B1 : MB h1 W L.n m th wy := ⟨mo.fr f1 (by unfold rS; omega), B.2.1.fr f1 (fun i a b => by unfold rS; omega), B.2.2.1.fr f1 (by unfold rS; omega), B.2.2.2.1.fr f1 (by unfold rS; omega), ⟨_, c1⟩, c2, c3, B.2.2.2.2.2.2.2.fr f1 (by unfold rS; omega)⟩
  have v1 := v.fr f1 (by unfold rS; omega)
  have u1 := u.fr f1 (by unfold rS; omega)
  have p1 := pl.fr f1 (by unfold rS; omega)
  have o1 := ho.fr f1 (by unfold rS; omega)
  have F1 : q_fr (oM a) h h1 := f1.mono (fun i _ q => R1 i q)
  have mo1 := B1.1
  have nd := dOk_n hR.2
  refine q_loop (fun t (st : Int32 × Int32 × Int32) => q_J l (d + 7) mX10_makeOne mc ms Q QX h.2 42 [some (.ref 49), some (.int beg), some (.int nn), some (.ref a), some (.int st.1), some (.int st.2.1), some (.int st.2.2), some (.int (nI t)), none, none] [] h1 mc ms)
    (fun t st => ((choF W cc D out t).1 = 99 ∧ st.1 = -1 ∧ st.2.1 = -1 ∧ st.2.2 = 0 ∧ (choF W cc D out t).2 = -1) ∨ ((choF W cc D out t).1 ≠ 99 ∧ st.1 = nI (choF W cc D out t).1 ∧ st.2.1 = nI (nearA W cc D (choF W cc D out t).1) ∧ st.2.2 = (choF W cc D out t).2)) W.tn ?_ ?_ 0 (-1, -1, 0) (by omega) (Or.inl ⟨rfl, rfl, rfl, rfl, rfl⟩)
  · rintro ⟨x4, x5, x6⟩ hI
    dsimp only at hI ⊢
    refine v_X10_makeOne_42 49 _ _ a _ _ _ (nI W.tn) (e_gi mo1 rfl ⟨fun _ => ⟨fun q4 => ?_, fun q4 => ?_⟩, fun q => absurd (Int32.le_refl _) q⟩)
    · rcases hI with ⟨e, -⟩ | ⟨e, e4, -⟩
      · exact q1 e h1 F1 B1 v1 u1 p1 o1
      · have := choF_t (W := W) (c := cc) (D := D) (out := out) W.tn tn e
        rw [e4] at q4
        exact absurd q4 (nI_nm1 (by omega))
    obtain ⟨e, e4, e5, -⟩ := hI.resolve_left (fun r => q4 r.2.1)
    have ct := choF_t (W := W) (c := cc) (D := D) (out := out) W.tn tn e
    have q2 := q2 _ _ rfl rfl
    generalize (choF W cc D out W.tn).1 = t at ct e4 e5 q2
    have np := nearA_t ct.2.2
    generalize nearA W cc D t = p at np e5 q2
    subst e4 e5
    have q2 := q2 ct.1 np.1 ct.2.1
    have vo := vis_ok (e := beg + nn) hw hR hL ct.1 np.1
    refine e_gr mo1 rfl (e_gr mo1 rfl (e_cpR v1 (by omega) u1 (fun h2 f2 z2 u2 => ?_)))
    have B2 : MB h2 W L.n m th wy := B1.fr f2 (fun i a b => by omega) (fun i a b => by omega)
    have mo2 := B2.1
    have v2 := v1.fr f2 (by omega)
    have p2 := p1.fr f2 (by omega)
    have o2 := o1.fr f2 (by omega)
    have F2 : q_fr (oM a) h h2 := F1.t1 f2 (Or.inr (Or.inr (Or.inl rfl)))
    -- an end without success
    have back : ∀ (h3 : qH) (P3 : PH) (D3 : DT) (z7 z8 : Int32) (kc ks : Nat), q_fr (oM a) h h3 → MB h3 W L.n m th wy → MR h3 56 P3 D3 → MR h3 81 P D → ML h3 57 L → br h3 a 12 (outB out) → visA W L t p (beg + nn) P D = (false, L, P, D) →
        q_J l (d + 7) mX10_makeOne mc ms Q QX h.2 238 [some (.ref 49), some (.int beg), some (.int nn), some (.ref a), some (.int (nI t)), some (.int (nI p)), some (.int x6), some (.int z7), some (.int z8), none] [] h3 kc ks := by
      intro h3 P3 D3 z7 z8 kc ks f3 B3 v3 u3 p3 o3 ev
      rw [ev] at q2
      refine v_X10_makeOne_238 49 _ _ a _ _ _ _ _ (e_gr B3.1 rfl (e_gr B3.1 rfl (e_cpR u3 (by omega) v3.A (fun h4 f4 z4 v4 => e_zs (Or.inr rfl) (o3.fr f4 (by omega)) rfl (show t < 12 by omega) (by decide) (fun h5 f5 z5 o5 => ?_)))))
      refine q2 h5 ((f3.t1 f4 (Or.inl (Or.inr (Or.inl rfl)))).t1 f5 (Or.inr (Or.inr (Or.inr rfl)))) ((B3.fr f4 (fun i a b => by omega) (fun i a b => by omega)).fr f5 (fun i a b => by omega) (fun i a b => by omega)) (v4.fr f5 (by omega)) ((u3.A.fr f4 (by omega)).fr f5 (by omega)) ((p3.fr f4 (by omega)).fr f5 (by omega)) (o5.to (fun j hj => ?_))
      rw [if_neg (show ¬ false = true by decide)]
      unfold outB outU
      by_cases e : j = t
      · subst e; rw [pk_us]; simp
      · rw [pk_un e]; simp [e]
    have x24 : nI p - nI p / 24 * 24 = px p := r24 (by omega)
    have y24 : nI p / 24 = py p := d24 (by omega)
    have go : ∀ y0, y0 = kdA W t → q_J l (d + 7) mX10_makeOne mc ms Q QX h.2 178 [some (.ref 49), some (.int beg), some (.int nn), some (.ref a), some (.int (nI t)), some (.int (nI p)), some (.int x6), some (.int (nI W.tn)), none, none] [.int y0] h2 mc ms := by
      rintro y0 rfl
      refine v_X10_makeOne_178 hkc hks 49 _ _ a _ _ _ _ _ (e_gr mo2 rfl (e_ob mo2 ?_))
      rw [x24, y24]
      refine m_actB (by omega) (by omega) ⟨by omega, by omega⟩ B2 hw v2 hR (dr_ok np.1) (fun h3 f3 B3 v3 => ⟨_, rfl, fun r1 => ?_, fun r1 => ?_⟩)
      rotate_left
      · have ev : visA W L t p (beg + nn) P D = (false, L, P, D) := by unfold visA; rw [if_neg r1]
        exact v_X10_makeOne_221 49 _ _ a _ _ _ _ _ ⟨fun q => absurd q r1, fun _ => back h3 _ _ _ _ _ _ (F2.tt (f3.mono (fun i _ q => aM_oM q))) B3 v3 (u2.fr f3 (by unfold aM rS; omega)) (p2.fr f3 (by unfold aM rS; omega)) (o2.fr f3 (by unfold aM rS; omega)) ev⟩
      have R3 := perf_ok hw hR (dr_ok (W := W) np.1)
      refine e_gr B3.1 rfl (e_ob B3.1 (m_actB (by omega) (by omega) ⟨by omega, by omega⟩ B3 hw v3 R3 (kd_ok ct.1) (fun h4 f4 B4 v4 => ⟨_, rfl, ?_⟩)))
      have F4 : q_fr (oM a) h h4 := (F2.tt (f3.mono (fun i _ q => aM_oM q))).tt (f4.mono (fun i _ q => aM_oM q))
      have u4 : MR h4 81 P D := (u2.fr f3 (by unfold aM rS; omega)).fr f4 (by unfold aM rS; omega)
      have p4 : ML h4 57 L := (p2.fr f3 (by unfold aM rS; omega)).fr f4 (by unfold aM rS; omega)
      have o4 : br h4 a 12 (outB out) := (o2.fr f3 (by unfold aM rS; omega)).fr f4 (by unfold aM rS; omega)
      have R4 := perf_ok hw R3 (kd_ok (W := W) ct.1)
      refine v_X10_makeOne_221 49 _ _ a _ _ _ _ _ ⟨fun r2 => ?_, fun r2 => ?_⟩
      rotate_left
      · have ev : visA W L t p (beg + nn) P D = (false, L, P, D) := by unfold visA; rw [if_pos r1, if_neg r2]
        exact back h4 _ _ _ _ _ _ F4 B4 v4 u4 p4 o4 ev
      have tb := R4.1
      have ee : (beg + nn).toInt = beg.toInt + nn.toInt := fb_addI (by omega) (by omega)
      refine e_gr B4.1 rfl (mr_rd (k := 0) v4 rfl (by decide) (fun F q => q.t) ?_)
      have tb1 := tb.2.1
      have tb2 := tb.2.2.1
      have es : ∀ z : Int32, 0 ≤ z.toInt → z.toInt ≤ 14400 → (z - beg ≤ nn ↔ z ≤ beg + nn) := fun z a1 a2 => by
        have : (z - beg).toInt = z.toInt - beg.toInt := fb_subI (by omega) (by omega)
        rw [le_i, le_i, this, ee]
        omega
      refine ⟨fun r3 => ?_, fun r3 => ?_⟩
      rotate_left
      · have ev : visA W L t p (beg + nn) P D = (false, L, P, D) := by
          unfold visA
          rw [if_pos r1, if_pos r2, if_neg (fun q => r3 ((es _ tb1 tb2).mpr q))]
        exact back h4 _ _ _ _ _ _ F4 B4 v4 u4 p4 o4 ev
      have ev : visA W L t p (beg + nn) P D = (true, insA (insA L L.n 0 (px p) (py p)) (L.n + 1) (kdA W t) (nI t) 5, (perfA W (kdA W t) (nI t) 5 (perfA W 0 (px p) (py p) P D).2.1 (perfA W 0 (px p) (py p) P D).2.2).2) := by
        unfold visA
        rw [if_pos r1, if_pos r2, if_pos ((es _ tb1 tb2).mp r3)]
      rw [ev] at q2
      refine e_gi B4.1 rfl (e_ob B4.1 ?_)
      rw [x24, y24]
      refine m_insert B4.1 p4 (Nat.le_refl _) (by omega) (fun h5 f5 z5 mo5 p5 => ⟨rfl, ?_⟩)
      refine e_gi mo5 rfl (e_ob mo5 (m_insert (L := insA L L.n 0 (px p) (py p)) mo5 p5 (Nat.le_refl _) (by show L.n + 1 < 40; omega) (fun h6 f6 z6 mo6 p6 => ⟨rfl, ?_⟩)))
      have P5 : ∀ i, mP i → oM a i := fun i q => q.elim (fun q => Or.inl (Or.inl q)) (fun q => Or.inr (Or.inl q))
      have B6 : MB h6 W (L.n + 2) m th wy := ⟨mo6, (B4.2.1.fr f5 (fun i a b => by unfold mP; omega)).fr f6 (fun i a b => by unfold mP; omega), (B4.2.2.1.fr f5 (by unfold mP; omega)).fr f6 (by unfold mP; omega), (B4.2.2.2.1.fr f5 (by unfold mP; omega)).fr f6 (by unfold mP; omega), (B4.2.2.2.2.1.fr f5 (by unfold mP; omega)).fr f6 (by unfold mP; omega), (B4.2.2.2.2.2.1.fr f5 (by unfold mP; omega)).fr f6 (by unfold mP; omega), (B4.2.2.2.2.2.2.1.fr f5 (by unfold mP; omega)).fr f6 (by unfold mP; omega), (B4.2.2.2.2.2.2.2.fr f5 (by unfold mP; omega)).fr f6 (by unfold mP; omega)⟩
      refine q2 h6 ((F4.tt (f5.mono (fun i _ q => P5 i q))).tt (f6.mono (fun i _ q => P5 i q))) B6 ((v4.fr f5 (by unfold mP; omega)).fr f6 (by unfold mP; omega)) ((u4.A.fr f5 (by unfold mP; omega)).fr f6 (by unfold mP; omega)) p6 ?_
      rw [if_pos rfl]
      exact (o4.fr f5 (by unfold mP; omega)).fr f6 (by unfold mP; omega)
    refine e_ob mo2 (m_need mo2 B2.2.2.1 hw ct.1 ⟨_, rfl, fun q => go 2 ?_, fun q => go 1 ?_⟩)
    · unfold kdA; rw [if_pos q]
    · unfold kdA; rw [if_neg q]
  · rintro t ⟨x4, x5, x6⟩ ht hI ih
    dsimp only at hI ⊢
    have tv := choF_t (W := W) (c := cc) (D := D) (out := out) t (by omega)
    have ih2 : ∀ x4 x5 x6, _ → q_J l (d + 7) mX10_makeOne mc ms Q QX h.2 42 [some (.ref 49), some (.int beg), some (.int nn), some (.ref a), some (.int x4), some (.int x5), some (.int x6), some (.int (nI (t + 1))), none, none] [] h1 mc ms := fun x4 x5 x6 q => ih (x4, x5, x6) q
    dsimp only at ih2
    rw [choF] at ih2
    have skip : ¬ (out t = false ∧ nearA W cc D t ≠ 576 ∧ (choF W cc D out t).2 < itsA W cc t (nearA W cc D t)) → q_J l (d + 7) mX10_makeOne mc ms Q QX h.2 42 [some (.ref 49), some (.int beg), some (.int nn), some (.ref a), some (.int x4), some (.int x5), some (.int x6), some (.int (nI t + 1)), none, none] [] h1 mc ms := fun q => by
      rw [if_neg q] at ih2
      rw [nI_1]
      exact ih2 x4 x5 x6 hI
    refine v_X10_makeOne_42 49 _ _ a _ _ _ (nI t) (e_gi mo1 rfl ⟨fun q => absurd q (nI_ge ht (by omega)), fun _ => e_zl o1 rfl (show t < 12 by omega) (by decide) ⟨fun q => ?_, fun q => ?_⟩⟩)
    rotate_left
    · refine v_X10_makeOne_72 49 _ _ a _ _ _ _ _ ⟨fun _ => skip (fun r => q ?_), fun q => absurd rfl q⟩
      unfold outB; rw [r.1]; rfl
    have ot : out t = false := by
      cases e : out t
      · rfl
      · unfold outB at q; rw [e] at q; exact absurd q z10
    refine e_gr mo1 rfl (e_ob mo1 (m_nearestFor mo1 B1.2.1 B1.2.2.1 hw v1 hR.2 ht c1 hcl ⟨_, rfl, ?_⟩))
    by_cases hne : nearA W cc D t = 576
    · have er : rP (nearA W cc D t) = -1 := by unfold rP; rw [if_pos hne]
      rw [er]
      exact v_X10_makeOne_72 49 _ _ a _ _ _ _ _ ⟨fun _ => skip (fun r => r.2.1 hne), fun q => absurd rfl q⟩
    have np := nearA_t hne
    have er : rP (nearA W cc D t) = nI (nearA W cc D t) := by unfold rP; rw [if_neg hne]
    rw [er]
    have cs := hcs _ np.1 np.2.2.1
    have nn9 := its_nn hw (c := cc) (t := t) (p := nearA W cc D t) ht cs
    refine v_X10_makeOne_72 49 _ _ a _ _ _ _ _ ⟨fun q => absurd q (nI_nm1 (by omega)), fun _ => e_ob mo1 (m_value mo1 B1.2.2.1 hw ht ⟨_, rfl, e_gr mo1 rfl (e_al c1 rfl np.1 (by decide) ⟨nn9.2, ?_⟩)⟩)⟩
    have take : (choF W cc D out t).2 < itsA W cc t (nearA W cc D t) → q_J l (d + 7) mX10_makeOne mc ms Q QX h.2 42 [some (.ref 49), some (.int beg), some (.int nn), some (.ref a), some (.int (nI t)), some (.int (nI (nearA W cc D t))), some (.int (itsA W cc t (nearA W cc D t))), some (.int (nI t + 1)), none, none] [] h1 mc ms := fun q => by
      rw [if_pos ⟨ot, hne, q⟩] at ih2
      rw [nI_1]
      exact ih2 _ _ _ (Or.inr ⟨by show t ≠ 99; omega, rfl, rfl, rfl⟩)
    rcases hI with ⟨e, e4, e5, e6, e7⟩ | ⟨e, e4, e5, e6⟩
    · exact ⟨fun _ => take (by rw [e7]; exact nn9.1), fun q => absurd e4 q⟩
    · have := tv e
      rw [e4]
      refine ⟨fun q => absurd q (nI_nm1 (by omega)), fun _ => ⟨fun q => take (by rw [← e6]; exact q), fun q => ?_⟩⟩
      have sk := skip (fun r => q (by rw [e6]; exact r.2.2))
      rw [e4] at sk
      exact sk
end MD8
