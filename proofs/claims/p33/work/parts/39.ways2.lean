/-! the class's Ways: 6, its rows 7 costs, 8 open -/
def cv (c : Nat → Nat) : Nat → Int32 := fun p => if c p < FARn then nI (c p) else -1
def way (h : qH) (c f : Nat → Nat) (m : Nat) : Prop := ob h 6 8 [.ref 1, .ref 7, .ref 8, .int (nI m)] ∧ ar h 7 576 (cv c) ∧ ∃ F, ar h 8 576 F ∧ ∀ j, j < m → F j = nI (f j)
def wyr (h : qH) : Prop := (∃ m, ob h 6 8 [.ref 1, .ref 7, .ref 8, .int m]) ∧ (∃ F, ar h 7 576 F) ∧ ∃ F, ar h 8 576 F
def wys (h : qH) (c : Nat → Nat) : Prop := (∃ m, ob h 6 8 [.ref 1, .ref 7, .ref 8, .int m]) ∧ ar h 7 576 (cv c) ∧ ∃ F, ar h 8 576 F
theorem wys.r {h : qH} {c : Nat → Nat} (w : wys h c) : wyr h := ⟨w.1, ⟨_, w.2.1⟩, w.2.2⟩
theorem wys.fr {h h' : qH} {c : Nat → Nat} {S : Nat → Prop} (w : wys h c) (f : q_fr S h h') (hs : ∀ i, 6 ≤ i → i ≤ 8 → ¬ S i) : wys h' c := ⟨w.1.elim fun m q => ⟨m, q.fr f (hs 6 (by omega) (by omega))⟩, w.2.1.fr f (hs 7 (by omega) (by omega)), w.2.2.elim fun F q => ⟨F, q.fr f (hs 8 (by omega) (by omega))⟩⟩
theorem wyr.fr {h h' : qH} {S : Nat → Prop} (w : wyr h) (f : q_fr S h h') (hs : ∀ i, 6 ≤ i → i ≤ 8 → ¬ S i) : wyr h' := ⟨w.1.elim fun m q => ⟨m, q.fr f (hs 6 (by omega) (by omega))⟩, w.2.1.elim fun F q => ⟨F, q.fr f (hs 7 (by omega) (by omega))⟩, w.2.2.elim fun F q => ⟨F, q.fr f (hs 8 (by omega) (by omega))⟩⟩
theorem way.wys {h : qH} {c f : Nat → Nat} {m : Nat} (w : way h c f m) : wys h c := ⟨⟨_, w.1⟩, w.2.1, w.2.2.elim fun F q => ⟨F, q.1⟩⟩
theorem nI_nm1 {n : Nat} (h : n < 2 ^ 31) : ¬ nI n = -1 := fun q => by
  have := congrArg Int32.toInt q
  rw [nI_toInt h, M_1] at this
  omega
def wS (i : Nat) : Prop := 6 ≤ i ∧ i ≤ 8
section WY
variable {l : Launch} {d mc ms : Nat} {Q : Option Value → qH → Prop} {QX : String → qH → Prop} {h : qH} {H R Z M : Nat → Int32} {s x y : Int32} {c f : Nat → Nat} {m : Nat}
theorem s_wbegin {o : Nat} (hw : wyr h) (ho : o < 576) (hq : ∀ h', q_fr wS h h' → h'.2 = h.2 → way h' (fun u => if u = o then 0 else FARn) (fun _ => o) 1 → Q none h') : q_Ct l d mX8_begin [.ref 6, .int (nI o)] h mc ms Q QX := by
  obtain ⟨⟨m, w1⟩, ⟨F7, w2⟩, ⟨F8, w3⟩⟩ := hw
  refine v_X8_begin (d := d) 6 (nI o) ?_
  refine q_loop (fun p h' => q_J l d mX8_begin mc ms Q QX h.2 2 [some (.ref 6), some (.int (nI o)), some (.int (nI p))] [] h' mc ms) (fun p h' => q_fr wS h h' ∧ h'.2 = h.2 ∧ ob h' 6 8 [.ref 1, .ref 7, .ref 8, .int m] ∧ ar h' 8 576 F8 ∧ ∃ F, ar h' 7 576 F ∧ ∀ j, j < p → F j = -1) 576 ?_ ?_ 0 h (by omega) ⟨q_fr.rf, rfl, w1, w3, F7, w2, fun j hj => absurd hj (by omega)⟩
  · intro h' hI
    obtain ⟨f1, f2, o1, o3, F, o2, g⟩ := hI
    refine v_X8_begin_2 (d := d) 6 (nI o) (nI 576) ⟨fun _ => ?_, fun q => absurd (Int32.le_refl _) q⟩
    refine e_pi o1 (Nat.le_of_ble_eq_true rfl) (fun h1 fr1 z1 p1 => ?_)
    refine ⟨fun q => absurd q (nI_pos (by omega)), fun _ => ⟨fun q => absurd q (nI_ge ho (by decide)), fun _ => ?_⟩⟩
    have o2' := o2.fr fr1 (by decide)
    have o3' := o3.fr fr1 (by decide)
    refine e_gr p1 rfl (e_as o2' rfl ho (by decide) (fun h2 fr2 z2 a2 => ?_))
    have p2 := p1.fr fr2 (by decide)
    refine e_gr p2 rfl (e_as (k := 0) (o3'.fr fr2 (by decide)) rfl (by decide) (by decide) (fun h3 fr3 z3 a3 => ?_))
    refine e_pi (p2.fr fr3 (by decide)) (Nat.le_of_ble_eq_true rfl) (fun h4 fr4 z4 p4 => ?_)
    refine hq h4 ?_ (by rw [z4, z3, z2, z1, f2]) ⟨p4, ((a2.fr fr3 (by decide)).fr fr4 (by decide)).to (fun p hp => ?_), _, a3.fr fr4 (by decide), fun j hj => ?_⟩
    · have e6 : ∀ i, (i = 6 ∨ i = 7 ∨ i = 8) → wS i := fun i hi => by unfold wS; omega
      refine f1.tr (((fr1.mono (fun i _ q => e6 i (Or.inl q))).tr (fr2.mono (fun i _ q => e6 i (Or.inr (Or.inl q)))) (fun _ _ q => q) (fun _ _ q => q)).tr ((fr3.mono (fun i _ q => e6 i (Or.inr (Or.inr q)))).tr (fr4.mono (fun i _ q => e6 i (Or.inl q))) (fun _ _ q => q) (fun _ _ q => q)) (fun _ _ q => q) (fun _ _ q => q)) (fun _ _ q => q) (fun _ _ q => q)
    · unfold cv upd
      by_cases e : p = o
      · simp [e]; rfl
      · simp [e, g p hp]
    · have : j = 0 := by omega
      subst this
      simp [upd]
  · intro p h' hp hI ih
    obtain ⟨f1, f2, o1, o3, F, o2, g⟩ := hI
    refine v_X8_begin_2 (d := d) 6 (nI o) (nI p) ⟨fun q => absurd q (nI_ge hp (by decide)), fun _ => ?_⟩
    refine e_gr o1 rfl (e_as o2 rfl hp (by decide) (fun h2 fr2 z2 a2 => ?_))
    rw [nI_1]
    refine ih h2 ⟨f1.tr (fr2.mono (S2 := wS) (fun i _ q => by unfold wS; omega)) (fun _ _ q => q) (fun _ _ q => q), z2.trans f2, o1.fr fr2 (by decide), o3.fr fr2 (by decide), _, a2, fun j hj => ?_⟩
    by_cases e : j = p
    · subst e; simp [upd]
    · simp [upd, e]; exact g j (by omega)
theorem s_costOf {p : Nat} (hw : wys h c) (hp : p < 576) (hq : Q (some (.int (cv c p))) h) : q_Ct l d mX8_costOf [.ref 6, .int (nI p)] h mc ms Q QX := by
  obtain ⟨m, w1⟩ := hw.1
  exact v_X8_costOf (d := d) 6 (nI p) ⟨fun q => absurd q (nI_pos (by omega)), fun _ => ⟨fun _ => e_gr w1 rfl (e_al hw.2.1 rfl hp (by decide) hq), fun q => absurd (nI_lt hp (by decide)) q⟩⟩
theorem s_costOf_f (hq : Q (some (.int (-1))) h) : q_Ct l d mX8_costOf [.ref 6, .int (-1)] h mc ms Q QX :=
  v_X8_costOf (d := d) 6 (-1) ⟨fun _ => hq, fun q => absurd (by decide) q⟩
theorem cv_t {p : Nat} (hc : c p < FARn) : cv c p = nI (c p) := by unfold cv; rw [if_pos hc]
theorem cv_f {p : Nat} (hc : ¬ c p < FARn) : cv c p = -1 := by unfold cv; rw [if_neg hc]
theorem cv_lt {p q : Nat} (hp : c p < FARn) (hq : c q < FARn) : cv c p < cv c q ↔ c p < c q := by
  rw [cv_t hp, cv_t hq]
  exact nI_ltI (Nat.lt_trans hp (by decide)) (Nat.lt_trans hq (by decide))
theorem s_take (hw : way h c f m) (hm : 0 < m) (hm2 : m ≤ 576) (hf : ∀ j, j < m → f j < 576 ∧ c (f j) < FARn) (hq : ∀ h' j, q_fr wS h h' → h'.2 = h.2 → j < m → (∀ i, i < m → c (f j) ≤ c (f i)) → way h' c (updN f j (f (m - 1))) (m - 1) → Q (some (.int (nI (f j)))) h') : q_Ct l (d + 1) mX8_takeCheapest [.ref 6] h mc ms Q QX := by
  obtain ⟨w1, w2, F, w3, w4⟩ := id hw
  have hw' := hw.wys
  refine v_X8_takeCheapest 6 (e_gr w1 rfl (e_al (k := 0) w3 rfl (by omega) (by decide) ?_))
  rw [w4 0 hm]
  refine e_ob w1 (s_costOf hw' (hf 0 hm).1 ⟨_, rfl, ?_⟩)
  refine q_loop (fun i h' => ∀ j, (h' = h ∧ 1 ≤ i ∧ j < m ∧ j < i ∧ ∀ k, k < i → c (f j) ≤ c (f k)) → q_J l (d + 1) mX8_takeCheapest mc ms Q QX h.2 15 [some (.ref 6), some (.int (nI j)), some (.int (cv c (f j))), some (.int (nI i)), none] [] h' mc ms) (fun i h' => True) m ?_ ?_ 1 h (by omega) trivial 0 ⟨rfl, by omega, hm, by omega, fun k hk => by rw [show k = 0 by omega]; exact Nat.le_refl _⟩
  · rintro h' - j ⟨rfl, -, hj, -, hmin⟩
    refine v_X8_takeCheapest_15 6 _ _ (nI m) (e_gi w1 rfl ⟨fun _ => ?_, fun q => absurd (Int32.le_refl _) q⟩)
    refine v_X8_takeCheapest_59 6 _ _ _ (e_gr w1 rfl (e_al w3 rfl (by omega) (by decide) ?_))
    rw [w4 j hj]
    refine e_gi w1 rfl ⟨fun q => absurd q (nI_nle (by omega) (by omega)), fun _ => e_gi w1 rfl ⟨fun q => absurd q (nI_nlt (by omega) (by decide)), fun _ => e_gi w1 rfl ?_⟩⟩
    refine e_pi w1 (Nat.le_of_ble_eq_true rfl) (fun h1 fr1 z1 p1 => ?_)
    have em : nI m - 1 = nI (m - 1) := by
      obtain ⟨m', rfl⟩ : ∃ m', m = m' + 1 := ⟨m - 1, by omega⟩
      exact nI_pred m'
    rw [em] at p1
    have a1 := w3.fr fr1 (by decide)
    refine e_gr p1 rfl (e_gr p1 rfl (e_gi p1 rfl (e_al a1 rfl (by omega) (by decide) ?_)))
    refine e_as a1 rfl (by omega) (by decide) (fun h2 fr2 z2 a2 => ?_)
    refine hq h2 j ?_ (z2.trans z1) hj hmin ⟨p1.fr fr2 (by decide), (w2.fr fr1 (by decide)).fr fr2 (by decide), _, a2, fun i hi => ?_⟩
    · exact (fr1.mono (S2 := wS) (fun i _ q => by unfold wS; omega)).tr (fr2.mono (S2 := wS) (fun i _ q => by unfold wS; omega)) (fun _ _ q => q) (fun _ _ q => q)
    · by_cases e : i = j
      · subst e
        simp [upd, updN]
        exact w4 _ (by omega)
      · simp [upd, updN, e]
        exact w4 _ (by omega)
  · rintro i h' hi - ih j ⟨rfl, hi1, hj, hji, hmin⟩
    refine v_X8_takeCheapest_15 6 _ _ (nI i) (e_gi w1 rfl ⟨fun q => absurd q (nI_ge hi (by omega)), fun _ => ⟨fun q => absurd q (nI_ge (b := 576) (by omega) (by decide)), fun _ => e_gr w1 rfl (e_al w3 rfl (by omega) (by decide) ?_)⟩⟩)
    rw [w4 i hi]
    refine e_ob w1 (s_costOf hw' (hf i hi).1 ⟨_, rfl, fun q => ?_, fun q => ?_⟩)
    · rw [nI_1]
      refine ih h' trivial j ⟨rfl, by omega, hj, by omega, fun k hk => ?_⟩
      by_cases e : k = i
      · subst e
        have : ¬ c (f k) < c (f j) := fun r => absurd ((cv_lt (hf k hi).2 (hf j hj).2).mpr r) (Int32.not_lt.mpr q)
        omega
      · exact hmin k (by omega)
    · rw [nI_1]
      have lt : c (f i) < c (f j) := (cv_lt (hf i hi).2 (hf j hj).2).mp (Int32.not_le.mp q)
      refine ih h' trivial i ⟨rfl, by omega, hi, by omega, fun k hk => ?_⟩
      by_cases e : k = i
      · subst e; exact Nat.le_refl _
      · have := hmin k (by omega)
        omega
theorem s_reach_n {u : Int32} {v : Nat} (hq : Q none h) : q_Ct l (d + 1) mX8_reach [.ref 6, .int u, .int (nI v), .int (-1)] h mc ms Q QX :=
  v_X8_reach 6 u (nI v) (-1) ⟨fun _ => hq, fun q => absurd rfl q⟩
theorem s_reach {u v w : Nat} (hw : way h c f m) (hu : u < 576) (hv : v < 576) (hcv : c v ≤ 46656) (hcu : c u < FARn → c u ≤ 46656) (hw2 : w ≤ 81) (hm : m ≤ 576) (hm2 : ¬ c u < FARn → m < 576)
    (hq : ∀ h', q_fr wS h h' → h'.2 = h.2 → way h' (updN c u (min (c u) (c v + w))) (if c u < FARn then f else updN f m u) (if c u < FARn then m else m + 1) → Q none h') : q_Ct l (d + 1) mX8_reach [.ref 6, .int (nI u), .int (nI v), .int (nI w)] h mc ms Q QX := by
  obtain ⟨w1, w2, F, w3, w4⟩ := id hw
  have far : FARn = 1000000 := rfl
  have wn : ¬ nI w = -1 := nI_nm1 (by omega)
  refine v_X8_reach 6 (nI u) (nI v) (nI w) ⟨fun q => absurd q wn, fun _ => ⟨fun q => absurd q (nI_pos (by omega)), fun _ => ⟨fun _ => ?_, fun q => absurd (nI_lt hu (by decide)) q⟩⟩⟩
  refine e_ob w1 (s_costOf hw.wys hv ⟨_, rfl, e_gr w1 rfl (e_al w2 rfl hu (by decide) ?_)⟩)
  rw [cv_t (p := v) (by omega), nI_add]
  by_cases hc : c u < FARn
  · rw [if_pos hc, if_pos hc] at hq
    rw [cv_t hc]
    have hcs := hcu hc
    refine ⟨fun q => absurd q (nI_nm1 (by omega)), fun _ => e_gr w1 rfl (e_al w2 rfl hu (by decide) ?_)⟩
    rw [cv_t hc]
    refine ⟨fun q => ?_, fun q => e_gr w1 rfl (e_as w2 rfl hu (by decide) (fun h1 fr1 z1 a1 => ?_))⟩
    · have le : c u ≤ c v + w := (nI_leI (by omega) (by omega)).mp q
      refine hq h q_fr.rf rfl ?_
      have e : updN c u (min (c u) (c v + w)) = c := by
        funext j
        by_cases q : j = u
        · subst q; rw [updN_at]; omega
        · rw [updN_ne q]
      rw [e]
      exact hw
    · have le : ¬ c u ≤ c v + w := fun r => q ((nI_leI (by omega) (by omega)).mpr r)
      refine hq h1 (fr1.mono (S2 := wS) (fun i _ q => by unfold wS; omega)) z1 ⟨w1.fr fr1 (by decide), a1.to (fun p hp => ?_), F, w3.fr fr1 (by decide), w4⟩
      by_cases e : p = u
      · subst e
        simp only [upd, cv, updN_at, if_pos]
        rw [if_pos (by omega), show min (c p) (c v + w) = c v + w by omega]
      · simp [upd, cv, updN_ne e, e]
  · rw [if_neg hc, if_neg hc] at hq
    rw [cv_f hc]
    have hm3 := hm2 hc
    refine ⟨fun _ => ?_, fun q => absurd rfl q⟩
    refine e_gi w1 rfl ⟨fun q => absurd q (nI_pos (by omega)), fun _ => e_gi w1 rfl ⟨fun q => absurd q (nI_ge hm3 (by decide)), fun _ => ?_⟩⟩
    refine e_gr w1 rfl (e_as w2 rfl hu (by decide) (fun h1 fr1 z1 a1 => ?_))
    have p1 := w1.fr fr1 (by decide)
    refine e_gr p1 rfl (e_gi p1 rfl (e_as (w3.fr fr1 (by decide)) rfl hm3 (by decide) (fun h2 fr2 z2 a2 => ?_)))
    have p2 := p1.fr fr2 (by decide)
    refine e_gi p2 rfl (e_pi p2 (Nat.le_of_ble_eq_true rfl) (fun h3 fr3 z3 p3 => ?_))
    rw [nI_1] at p3
    refine hq h3 ?_ (z3.trans (z2.trans z1)) ⟨p3, ((a1.fr fr2 (by decide)).fr fr3 (by decide)).to (fun p hp => ?_), _, a2.fr fr3 (by decide), fun j hj => ?_⟩
    · exact ((fr1.mono (S2 := wS) (fun i _ q => by unfold wS; omega)).tr (fr2.mono (S2 := wS) (fun i _ q => by unfold wS; omega)) (fun _ _ q => q) (fun _ _ q => q)).tr (fr3.mono (S2 := wS) (fun i _ q => by unfold wS; omega)) (fun _ _ q => q) (fun _ _ q => q)
    · by_cases e : p = u
      · subst e
        simp only [upd, cv, updN_at, if_pos]
        rw [if_pos (by omega), show min (c p) (c v + w) = c v + w by omega]
      · simp [upd, cv, updN_ne e, e]
    · by_cases e : j = m
      · subst e; simp [upd, updN]
      · simp [upd, updN, e]; exact w4 j (by omega)
end WY
