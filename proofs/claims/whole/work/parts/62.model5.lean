/-! the model: the plan's row, activities on a copy, nearest places, plans made -/
def MB (h : qH) (W : WS) (n m : Nat) (th wy : Int32) : Prop := MO h W n m th wy ∧ MG h W ∧ MT h W ∧ MPs h W ∧ arA h 77 576 ∧ arA h 78 576 ∧ br h 79 576 (fun _ => 0) ∧ arA h 80 594
theorem MB.fr {h h' : qH} {W : WS} {n m : Nat} {th wy : Int32} {S : Nat → Prop} (b : MB h W n m th wy) (f : q_fr S h h') (h1 : ∀ i, 49 ≤ i → i ≤ 54 → ¬ S i) (h2 : ∀ i, 77 ≤ i → i ≤ 80 → ¬ S i) : MB h' W n m th wy :=
  ⟨b.1.fr f (h1 _ (by omega) (by omega)), b.2.1.fr f (fun i a c => h1 i (by omega) (by omega)), b.2.2.1.fr f (h1 _ (by omega) (by omega)), b.2.2.2.1.fr f (h1 _ (by omega) (by omega)), b.2.2.2.2.1.fr f (h2 _ (by omega) (by omega)), b.2.2.2.2.2.1.fr f (h2 _ (by omega) (by omega)), b.2.2.2.2.2.2.1.fr f (h2 _ (by omega) (by omega)), b.2.2.2.2.2.2.2.fr f (h2 _ (by omega) (by omega))⟩
/-- only the object is new -/
theorem MB.ob {h h' : qH} {W : WS} {n m n' m' : Nat} {th wy th' wy' : Int32} (b : MB h W n m th wy) (f : q_fr (fun j => j = 49) h h') (o : MO h' W n' m' th' wy') : MB h' W n' m' th' wy' :=
  ⟨o, b.2.1.fr f (fun i a c => by omega), b.2.2.1.fr f (by omega), b.2.2.2.1.fr f (by omega), b.2.2.2.2.1.fr f (by omega), b.2.2.2.2.2.1.fr f (by omega), b.2.2.2.2.2.2.1.fr f (by omega), b.2.2.2.2.2.2.2.fr f (by omega)⟩
theorem actsF_res {W : WS} {L : PL} : ∀ (n i : Nat) (P : PH) (D : DT), ((actsF W L i n P D).1.2 = 0 → (actsF W L i n P D).1.1 = i + n) ∧ (¬ (actsF W L i n P D).1.2 = 0 → (actsF W L i n P D).1.1 < i + n) := by
  intro n
  induction n with
  | zero => intro i P D; exact ⟨fun _ => rfl, fun q => absurd rfl q⟩
  | succ n ih =>
    intro i P D
    unfold actsF
    by_cases q : (perfA W (L.k i) (L.a i) (L.b i) P D).1 = 0
    · rw [if_pos q]
      have := ih (i + 1) (perfA W (L.k i) (L.a i) (L.b i) P D).2.1 (perfA W (L.k i) (L.a i) (L.b i) P D).2.2
      exact ⟨fun r => by have := this.1 r; omega, fun r => by have := this.2 r; omega⟩
    · rw [if_neg q]
      exact ⟨fun r => absurd r q, fun _ => by show i < _; omega⟩
theorem boxA_dist {W : WS} {k p : Nat} (hw : wOk W) (hk : k < W.tn) (hp : p < 576) : boxA W k p ↔ ∃ n9 : Nat, n9 < 24 ∧ i_dist (px p) (py p) (W.tx k) (W.ty k) = nI n9 ∧ n9 ≤ rchA W k := by
  obtain ⟨n9, a1, a2, a3, a4, a5, a6, a7, a8⟩ := i_dist_t (inP_p hp) (hw.tp k hk)
  unfold boxA
  constructor
  · rintro ⟨b1, b2, b3, b4⟩
    exact ⟨n9, a1, a2, by omega⟩
  · rintro ⟨n8, b1, b2, b3⟩
    rw [a2] at b2
    have := (nI_eq (by omega) (by omega)).mp b2
    subst this
    exact ⟨by omega, by omega, by omega, by omega⟩
section MD7
variable {l : Launch} {d mc ms : Nat} {Q : Option Value → qH → Prop} {QX : String → qH → Prop} {h : qH} {W : WS} {n m r : Nat} {th wy : Int32} {P : PH} {D : DT} {L : PL} {c : Nat → Nat}
def mP (i : Nat) : Prop := i = 49 ∨ i = 57
theorem m_insert {p : Nat} {k a b : Int32} (mo : MO h W L.n m th wy) (v : ML h 57 L) (hp : p ≤ L.n) (hn : L.n < 40) (hq : ∀ h', q_fr mP h h' → h'.2 = h.2 → MO h' W (L.n + 1) m th wy → ML h' 57 (insA L p k a b) → Q none h') : q_Ct l (d + 1) mX10_insert [.ref 49, .int (nI p), .int k, .int a, .int b] h mc ms Q QX := by
  obtain ⟨F, b0, e⟩ := v
  refine v_X10_insert 49 _ _ _ _ (e_gr mo rfl (e_gr mo rfl (e_gi mo rfl ?_)))
  rw [nI_1, pk_sub (by omega)]
  refine e_cp (a := 3 * p) (b := 3 * (p + 1)) (n := 3 * (L.n - p)) b0 b0 n30 n30 n30 (by omega) (by omega) (by decide) (by decide) (fun h1 f1 z1 b1 => ?_)
  have mo1 := mo.fr f1 (by omega)
  refine e_gr mo1 rfl (e_as (k := 3 * p) b1 n30 (by omega) (by decide) (fun h2 f2 z2 b2 => ?_))
  have mo2 := mo1.fr f2 (by omega)
  refine e_gr mo2 rfl (e_as (k := 3 * p + 1) b2 (n3 rfl) (by omega) (by decide) (fun h3 f3 z3 b3 => ?_))
  have mo3 := mo2.fr f3 (by omega)
  refine e_gr mo3 rfl (e_as (k := 3 * p + 2) b3 (n3 rfl) (by omega) (by decide) (fun h4 f4 z4 b4 => ?_))
  have mo4 := mo3.fr f4 (by omega)
  refine e_gi mo4 rfl (e_pi mo4 (Nat.le_of_ble_eq_true rfl) (fun h5 f5 z5 mo5 => ?_))
  rw [nI_1] at mo5
  have P7 : mP 57 := Or.inr rfl
  refine hq h5 (((((q_fr.rf.t1 f1 P7).t1 f2 P7).t1 f3 P7).t1 f4 P7).t1 f5 (Or.inl rfl)) (by rw [z5, z4, z3, z2, z1]) mo5 ⟨_, b4.fr f5 (by omega), fun j hj => ?_⟩
  change j < L.n + 1 at hj
  show _ = ins L.k p k j ∧ _ = ins L.a p a j ∧ _ = ins L.b p b j
  unfold ins
  by_cases q : j < p
  · rw [if_pos q, if_pos q, if_pos q]
    have ej := e j (by omega)
    refine ⟨?_, ?_, ?_⟩
    · rw [pk_un (by omega), pk_un (by omega), pk_un (by omega), if_neg (by omega)]; exact ej.1
    · rw [pk_un (by omega), pk_un (by omega), pk_un (by omega), if_neg (by omega)]; exact ej.2.1
    · rw [pk_un (by omega), pk_un (by omega), pk_un (by omega), if_neg (by omega)]; exact ej.2.2
  · rw [if_neg q, if_neg q, if_neg q]
    by_cases q2 : j = p
    · subst q2
      rw [if_pos rfl, if_pos rfl, if_pos rfl]
      refine ⟨?_, ?_, ?_⟩
      · rw [pk_un (by omega), pk_un (by omega), pk_us]
      · rw [pk_un (by omega), pk_us]
      · rw [pk_us]
    · rw [if_neg q2, if_neg q2, if_neg q2]
      have ej := e (j - 1) (by omega)
      refine ⟨?_, ?_, ?_⟩
      · rw [pk_un (by omega), pk_un (by omega), pk_un (by omega), if_pos (by omega), show 3 * p + (3 * j - 3 * (p + 1)) = 3 * (j - 1) by omega]; exact ej.1
      · rw [pk_un (by omega), pk_un (by omega), pk_un (by omega), if_pos (by omega), show 3 * p + (3 * j + 1 - 3 * (p + 1)) = 3 * (j - 1) + 1 by omega]; exact ej.2.1
      · rw [pk_un (by omega), pk_un (by omega), pk_un (by omega), if_pos (by omega), show 3 * p + (3 * j + 2 - 3 * (p + 1)) = 3 * (j - 1) + 2 by omega]; exact ej.2.2
theorem m_takeOut {p : Nat} (mo : MO h W L.n m th wy) (v : ML h 57 L) (hp : p < L.n) (hn : L.n ≤ 40) (hq : ∀ h', q_fr mP h h' → h'.2 = h.2 → MO h' W (L.n - 1) m th wy → ML h' 57 (delA L p) → Q none h') : q_Ct l (d + 1) mX10_takeOut [.ref 49, .int (nI p)] h mc ms Q QX := by
  obtain ⟨F, b0, e⟩ := v
  refine v_X10_takeOut 49 _ (e_gi mo rfl ?_)
  have em : nI L.n - 1 = nI (L.n - 1) := by
    obtain ⟨n', e⟩ : ∃ n', L.n = n' + 1 := ⟨L.n - 1, by omega⟩
    rw [e, nI_pred]; rfl
  rw [em]
  refine e_pi mo (Nat.le_of_ble_eq_true rfl) (fun h1 f1 z1 mo1 => ?_)
  have b1 := b0.fr f1 (by omega)
  refine e_gr mo1 rfl (e_gr mo1 rfl (e_gi mo1 rfl ?_))
  rw [nI_1, pk_sub (by omega)]
  refine e_cp (a := 3 * (p + 1)) (b := 3 * p) (n := 3 * (L.n - 1 - p)) b1 b1 n30 n30 n30 (by omega) (by omega) (by decide) (by decide) (fun h2 f2 z2 b2 => ?_)
  refine hq h2 ((q_fr.rf.t1 f1 (Or.inl rfl)).t1 f2 (Or.inr rfl)) (z2.trans z1) (ob.fr mo1 f2 (by omega)) ⟨_, b2, fun j hj => ?_⟩
  change j < L.n - 1 at hj
  show _ = del L.k p j ∧ _ = del L.a p j ∧ _ = del L.b p j
  unfold del
  by_cases q : j < p
  · rw [if_pos q, if_pos q, if_pos q]
    have ej := e j (by omega)
    refine ⟨?_, ?_, ?_⟩
    · rw [if_neg (by omega)]; exact ej.1
    · rw [if_neg (by omega)]; exact ej.2.1
    · rw [if_neg (by omega)]; exact ej.2.2
  · rw [if_neg q, if_neg q, if_neg q]
    have ej := e (j + 1) (by omega)
    refine ⟨?_, ?_, ?_⟩
    · rw [if_pos (by omega), show 3 * (p + 1) + (3 * j - 3 * p) = 3 * (j + 1) by omega]; exact ej.1
    · rw [if_pos (by omega), show 3 * (p + 1) + (3 * j + 1 - 3 * p) = 3 * (j + 1) + 1 by omega]; exact ej.2.1
    · rw [if_pos (by omega), show 3 * (p + 1) + (3 * j + 2 - 3 * p) = 3 * (j + 1) + 2 by omega]; exact ej.2.2
theorem m_actB {k a b : Int32} (hkc : 1 ≤ mc) (hks : 4 ≤ ms) (hr : 55 ≤ r ∧ r ≤ 76) (B : MB h W n m th wy) (hw : wOk W) (v : MR h r P D) (hR : rOk P D) (ha : actOk W k a b)
    (hq : ∀ h', q_fr (aM r) h h' → MB h' W n m th wy → MR h' r (perfA W k a b P D).2.1 (perfA W k a b P D).2.2 → Q (some (.int (perfA W k a b P D).1)) h') : q_Ct l (d + 6) mX10_act [.ref 49, .ref r, .int k, .int a, .int b] h mc ms Q QX := by
  obtain ⟨mo, g, t, tp, c1, c2, c3, c4⟩ := B
  exact m_act hkc hks hr mo g t tp hw v hR c1 c2 c3 c4 ha (fun h' f v' e1 e2 e3 e4 => hq h' f ⟨mo.fr f (by unfold aM rS; omega), g.fr f (fun i a b => by unfold aM rS; omega), t.fr f (by unfold aM rS; omega), tp.fr f (by unfold aM rS; omega), e1, e2, e3, e4⟩ v')
/-- where an activity on the copy writes; the object too -/
def tM (i : Nat) : Prop := i = 49 ∨ i = 56 ∨ rS i ∨ i = 80
theorem m_tryOut {k : Nat} (hkc : 41 ≤ mc) (hks : 164 ≤ ms) (B : MB h W L.n m th wy) (hw : wOk W) (v : MR h 55 P D) (hR : rOk P D) (u : arA h 56 594) (pl : ML h 57 L) (hL : plOk W L) (hk : k ≤ L.n) (hn : L.n ≤ 40)
    (hq : ∀ h', q_fr tM h h' → MB h' W L.n m th (actsF W L 0 k P D).1.2 → MR h' 56 (actsF W L 0 k P D).2.1 (actsF W L 0 k P D).2.2 → rOk (actsF W L 0 k P D).2.1 (actsF W L 0 k P D).2.2 → Q (some (.int (if (actsF W L 0 k P D).1.1 < k then nI (actsF W L 0 k P D).1.1 else -1))) h') : q_Ct l (d + 7) mX10_tryOut [.ref 49, .int (nI k)] h mc ms Q QX := by
  have mo := B.1
  have n0 := dOk_n hR.2
  refine v_X10_tryOut 49 _ (e_gr mo rfl (e_gr mo rfl (e_cpR v (by omega) u (fun h1 f1 z1 v1 => ?_))))
  have B1 : MB h1 W L.n m th wy := B.fr f1 (fun i a b => by omega) (fun i a b => by omega)
  refine e_pi B1.1 (Nat.le_of_ble_eq_true rfl) (fun h2 f2 z2 mo2 => ?_)
  have B2 : MB h2 W L.n m th 0 := B1.ob f2 mo2
  have T9 : tM 49 := Or.inl rfl
  refine q_loop (fun i (st : (PH × DT) × qH) => q_J l (d + 7) mX10_tryOut mc ms Q QX h.2 23 [some (.ref 49), some (.int (nI k)), some (.int (nI i))] [] st.2 (mc - i) (ms - 4 * i))
    (fun i st => q_fr tM h st.2 ∧ MB st.2 W L.n m th 0 ∧ MR st.2 56 st.1.1 st.1.2 ∧ rOk st.1.1 st.1.2 ∧ ML st.2 57 L ∧ actsF W L i (k - i) st.1.1 st.1.2 = actsF W L 0 k P D) k ?_ ?_ 0 ((P, D), h2) (by omega)
    ⟨(q_fr.rf.t1 f1 (Or.inr (Or.inl rfl))).t1 f2 T9, B2, v1.fr f2 (by omega), hR, (pl.fr f1 (by omega)).fr f2 (by omega), rfl⟩
  · rintro ⟨⟨P', D'⟩, h'⟩ ⟨f, B', v', R', pl', e⟩
    rw [Nat.sub_self, actsF] at e
    dsimp only at f B' v' R' pl' e ⊢
    rw [← e] at hq
    have fin := hq h' f B' v' R'
    rw [if_neg (Nat.lt_irrefl _)] at fin
    exact v_X10_tryOut_23 (by omega) (by omega) 49 _ (nI k) ⟨fun _ => fin, fun q => absurd (Int32.le_refl _) q⟩
  · rintro i ⟨⟨P', D'⟩, h'⟩ hi ⟨f, B', v', R', pl', e⟩ ih
    rw [show k - i = (k - (i + 1)) + 1 by omega, actsF] at e
    dsimp only at f B' v' R' pl' e ⊢
    have mo' := B'.1
    obtain ⟨F, b0, eF⟩ := id pl'
    have ej := eF i (by omega)
    have hok := hL i (by omega)
    refine v_X10_tryOut_23 (by omega) (by omega) 49 _ (nI i) ⟨fun q => absurd q (nI_ge hi (by omega)), fun _ => e_gr mo' rfl (e_gr mo' rfl (e_al (k := 3 * i) b0 n30 (by omega) (by decide) (e_gr mo' rfl (e_al (k := 3 * i + 1) b0 (n3 rfl) (by omega) (by decide) (e_gr mo' rfl (e_al (k := 3 * i + 2) b0 (n3 rfl) (by omega) (by decide) (e_ob mo' ?_)))))))⟩
    rw [ej.1, ej.2.1, ej.2.2]
    refine m_actB (by omega) (by omega) ⟨by omega, by omega⟩ B' hw v' R' hok (fun h3 f3 B3 v3 => ⟨_, rfl, ?_⟩)
    have F3 : q_fr tM h h3 := f.tt (f3.mono (fun j _ q => by
      unfold aM at q
      unfold tM
      rcases q with q | q | q
      · exact Or.inr (Or.inr (Or.inl q))
      · exact Or.inr (Or.inr (Or.inr q))
      · exact Or.inr (Or.inl q)))
    have R3 := perf_ok hw R' hok
    refine e_pi B3.1 (Nat.le_of_ble_eq_true rfl) (fun h4 f4 z4 mo4 => ?_)
    have pl4 : ML h4 57 L := (pl'.fr f3 (by unfold aM rS; omega)).fr f4 (by omega)
    refine e_gi mo4 rfl ⟨fun q => ?_, fun q => ?_⟩
    · rw [if_pos q] at e
      rw [nI_1]
      rw [q] at mo4
      exact ih ((_, _), h4) ⟨F3.t1 f4 T9, B3.ob f4 mo4, v3.fr f4 (by omega), R3, pl4, e⟩
    · rw [if_neg q] at e
      rw [← e] at hq
      have pn := perf_n q
      rw [pn] at v3
      have fin := hq h4 (F3.t1 f4 T9) (B3.ob f4 mo4) (v3.fr f4 (by omega)) R'
      rw [if_pos hi] at fin
      exact fin
theorem m_serves {p k : Nat} (mo : MO h W n m th wy) (g : MG h W) (t : MT h W) (hw : wOk W) (v : MR h r P D) (hd : dOk D) (hk : k < W.tn) (hp : p < 576) (ht : srvx W (sgA D k) k p ∧ boxA W k p → Q (some (.int 1)) h) (hf : ¬ (srvx W (sgA D k) k p ∧ boxA W k p) → Q (some (.int 0)) h) : q_Ct l (d + 3) mX10_serves [.ref 49, .ref r, .int (nI k), .int (px p), .int (py p)] h mc ms Q QX := by
  have tn := hw.tn
  have ip := inP_p hp
  have tp := hw.tp k hk
  have bd := boxA_dist hw hk hp
  obtain ⟨n9, a1, a2, -, -, -, -, -, -⟩ := i_dist_t ip tp
  have bd2 : boxA W k p ↔ n9 ≤ rchA W k := by
    rw [bd]
    constructor
    · rintro ⟨n8, b1, b2, b3⟩
      rw [a2] at b2
      have := (nI_eq (by omega) (by omega)).mp b2
      omega
    · exact fun q => ⟨n9, a1, a2, q⟩
  rw [bd2] at ht hf
  refine v_X10_serves 49 r _ _ _ (e_gr mo rfl (t.rd hw hk (b := 0) (by decide) n40 (fun F q => q.1) (e_gr mo rfl (t.rd hw hk (b := 1) (by decide) (n4 rfl) (fun F q => q.2.1) (e_ob mo (m_need mo t hw hk ⟨_, rfl, fun q => m_distance ip tp ⟨_, rfl, ?_⟩, fun q => m_distance ip tp ⟨_, rfl, ?_⟩⟩))))))
  · have r1 : rchA W k = 1 := by unfold rchA; rw [if_pos q]
    rw [r1] at ht hf
    rw [a2]
    refine ⟨fun q2 => hf (fun r => ?_), fun q2 => ht ⟨Or.inl q, ?_⟩⟩
    · have := (nI_leI (a := 2) (by decide) (by omega)).mp q2
      omega
    · have : ¬ 2 ≤ n9 := fun r => q2 ((nI_leI (a := 2) (by decide) (by omega)).mpr r)
      omega
  · have r6 : rchA W k = 6 := by unfold rchA; rw [if_neg q]
    rw [r6] at ht hf
    rw [a2]
    have ol := q_find_le (fun i => q_dx i = i_cmp (px p) (W.tx k) ∧ q_dy i = i_cmp (py p) (W.ty k)) 8 0
    have ob9 : octA W k p < 9 := by unfold octA sp_oct; omega
    refine ⟨fun q2 => hf (fun r => ?_), fun q2 => m_allOctants v hd (by omega) ⟨_, rfl, m_octant ip tp ⟨_, rfl, ?_⟩⟩⟩
    · have := (nI_leI (a := 7) (by decide) (by omega)).mp q2
      omega
    have d6 : n9 ≤ 6 := by
      have : ¬ 7 ≤ n9 := fun r => q2 ((nI_leI (a := 7) (by decide) (by omega)).mpr r)
      omega
    change qIF (((alA D k >>> (nI (octA W k p) &&& 31)) &&& 1) = 0) _ _
    rw [← sgA_bit hd ob9]
    refine ⟨fun q3 => e_ob mo (m_isSeen mo g ip tp ⟨_, rfl, ?_⟩), fun q3 => hf (fun r => ?_)⟩
    · by_cases see : seeA W (px p) (py p) (W.tx k) (W.ty k) = true
      · rw [if_pos see]
        exact ⟨fun q => absurd q z10, fun _ => ht ⟨Or.inr ⟨q3, see⟩, d6⟩⟩
      · rw [if_neg see]
        exact ⟨fun _ => hf (fun r => r.1.elim q (fun r => see r.2)), fun q => absurd rfl q⟩
    · exact r.1.elim q (fun r => q3 r.1)
theorem m_nearestFor {k : Nat} (mo : MO h W n m th wy) (g : MG h W) (t : MT h W) (hw : wOk W) (v : MR h r P D) (hd : dOk D) (hk : k < W.tn) (hc : ar h 77 576 (fun u => nI (c u))) (hcl : ∀ u, c u ≤ FARn) (hq : Q (some (.int (rP (nearA W c D k)))) h) : q_Ct l (d + 4) mX10_nearestFor [.ref 49, .ref r, .int (nI k)] h mc ms Q QX := by
  have far : FARn = 1000000 := rfl
  have tn := hw.tn
  unfold nearA at hq
  refine v_X10_nearestFor 49 r _ (e_ob mo (m_isMet_all mo t hw v hd hk (fun met => ⟨_, rfl, fun q => absurd q z10, fun _ => ?_⟩) (fun met => ⟨_, rfl, fun _ => ?_, fun q => absurd rfl q⟩)))
  · rw [if_pos met] at hq; exact hq
  rw [if_neg met] at hq
  have e0 : (-1 : Int32) = rP (nearF (goodA W c (sgA D k) k) c 0) := rfl
  rw [e0]
  refine q_loop (fun p h' => q_J l (d + 4) mX10_nearestFor mc ms Q QX h.2 17 [some (.ref 49), some (.ref r), some (.int (nI k)), some (.int (rP (nearF (goodA W c (sgA D k) k) c p))), some (.int (nI p))] [] h' mc ms) (fun p h' => h' = h) 576 ?_ ?_ 0 h (by omega) rfl
  · rintro h' rfl
    exact v_X10_nearestFor_17 49 r _ _ (nI 576) ⟨fun _ => hq, fun q => absurd (Int32.le_refl _) q⟩
  · rintro p h' hp rfl ih
    have ih := ih h' rfl
    rw [nearF] at ih
    have cp := hcl p
    have isb := nearF_is (G := goodA W c (sgA D k) k) (c := c) p (by omega)
    generalize nearF (goodA W c (sgA D k) k) c p = b at ih isb ⊢
    have bl : b ≤ 576 ∧ (b ≠ 576 → c b < FARn) := by
      rcases isb with ⟨q, -⟩ | ⟨q, -, q2, -⟩
      · exact ⟨by omega, fun r => absurd q r⟩
      · exact ⟨by omega, fun _ => q2.2.1⟩
    have skip : ¬ (goodA W c (sgA D k) k p ∧ (b = 576 ∨ c p < c b)) → q_J l (d + 4) mX10_nearestFor mc ms Q QX h'.2 17 [some (.ref 49), some (.ref r), some (.int (nI k)), some (.int (rP b)), some (.int (nI p + 1))] [] h' mc ms := fun q => by
      rw [if_neg q] at ih
      rw [nI_1]
      exact ih
    have test : c p < FARn → (b = 576 ∨ c p < c b) → q_J l (d + 4) mX10_nearestFor mc ms Q QX h'.2 58 [some (.ref 49), some (.ref r), some (.int (nI k)), some (.int (rP b)), some (.int (nI p))] [] h' mc ms := fun q1 q2 => by
      have e24 : nI p - nI p / 24 * 24 = px p := r24 (by omega)
      have d24' : nI p / 24 = py p := d24 (by omega)
      refine v_X10_nearestFor_58 49 r _ _ _ ?_
      rw [e24, d24']
      refine e_ob mo (m_serves mo g t hw v hd hk hp (fun s => ⟨_, rfl, fun q => absurd q z10, fun _ => ?_⟩) (fun s => ⟨_, rfl, fun _ => skip (fun r => s ⟨r.1.2.2.1, r.1.2.2.2⟩), fun q => absurd rfl q⟩))
      rw [if_pos ⟨⟨hp, q1, s.1, s.2⟩, q2⟩] at ih
      have er : rP p = nI p := by unfold rP; rw [if_neg (by omega)]
      rw [er] at ih
      rw [nI_1]
      exact ih
    refine v_X10_nearestFor_17 49 r _ _ (nI p) ⟨fun q => absurd q (nI_ge hp (by decide)), fun _ => e_gr mo rfl (e_al hc rfl hp (by decide) ⟨fun q => skip (fun r => ?_), fun q => ⟨fun q2 => ?_, fun q2 => ?_⟩⟩)⟩
    · have := (nI_leI (a := 1000000) (by decide) (by omega)).mp q
      have := r.1.2.1
      omega
    · have c1 : c p < FARn := by
        have : ¬ 1000000 ≤ c p := fun r => q ((nI_leI (a := 1000000) (by decide) (by omega)).mpr r)
        omega
      refine test c1 (Or.inl ?_)
      by_cases e : b = 576
      · exact e
      · unfold rP at q2
        rw [if_neg e] at q2
        exact absurd q2 (nI_nm1 (by omega))
    · have c1 : c p < FARn := by
        have : ¬ 1000000 ≤ c p := fun r => q ((nI_leI (a := 1000000) (by decide) (by omega)).mpr r)
        omega
      have e : b ≠ 576 := fun e => q2 (by unfold rP; rw [if_pos e])
      have er : rP b = nI b := by unfold rP; rw [if_neg e]
      have cb := bl.2 e
      rw [er] at skip test ⊢
      refine e_gr mo rfl (e_al hc rfl hp (by decide) (e_gr mo rfl (e_al hc rfl (by omega) (by decide) ⟨fun q3 => ?_, fun q3 => ?_⟩)))
      · refine skip (fun r => ?_)
        have := (nI_leI (by omega) (by omega)).mp q3
        rcases r.2 with r2 | r2
        · exact e r2
        · omega
      · have : ¬ c b ≤ c p := fun r => q3 ((nI_leI (by omega) (by omega)).mpr r)
        exact test c1 (Or.inr (by omega))
end MD7
