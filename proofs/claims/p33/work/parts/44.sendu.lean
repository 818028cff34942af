/-! a piece is gone; units are sent -/
def gG (D : DT) : Prop := ∀ i, i < D.n → ∃ g : Nat, g ≤ 9 ∧ D.pg i = nI g
theorem mid_0 {f : Nat → Int32} {p : Nat} : mid f p p = f := by
  funext j
  unfold mid
  rw [if_neg (by omega)]
theorem mid_at {f : Nat → Int32} {p i j : Nat} (h : i ≤ j) : mid f p i j = f j := by
  unfold mid
  rw [if_neg (by omega)]
theorem mid_up {f : Nat → Int32} {p i : Nat} (h : p ≤ i) (j : Nat) : upd (mid f p i) i (f (i + 1)) j = mid f p (i + 1) j := by
  unfold mid
  by_cases e : j = i
  · subst e; rw [pk_us, if_pos (by omega)]
  · rw [pk_un e]
    by_cases q : p ≤ j ∧ j < i
    · rw [if_pos q, if_pos (by omega)]
    · rw [if_neg q, if_neg (by omega)]
theorem mid_del {f : Nat → Int32} {p n j : Nat} (h : j < n - 1) : mid f p (n - 1) j = del f p j := by
  unfold mid del
  by_cases q : j < p
  · rw [if_pos q, if_neg (by omega)]
  · rw [if_neg q, if_pos (by omega)]
section RVF
variable {l : Launch} {d mc ms : Nat} {Q : Option Value → qH → Prop} {QX : String → qH → Prop} {h : qH} {W : WS} {r : Nat} {P : PH} {D : DT}
theorem s_finish {p : Nat} (v : RV h r P D) (hp : p < D.n) (hT : dT D) (hG : gG D) (hq : ∀ h', q_fr (sR r) h h' → h'.2 = h.2 → RV h' r P (finA D p) → Q none h') : q_Ct l (d + 1) mX6_finishPiece [.ref r, .int (nI p)] h mc ms Q QX := by
  obtain ⟨o, a, b, c, e, g, n0, t0⟩ := id v
  obtain ⟨k, hk, ek⟩ := hT p hp
  refine v_X6_finishPiece r (nI p) (e_ob o (s_hasPiece v (fun _ => ⟨_, rfl, fun q => absurd q z10, fun _ => ?_⟩) (fun q => absurd ⟨p, hp, rfl⟩ q)))
  refine e_gr o rfl (e_alN a rfl hp n0 (by decide) ?_)
  rw [ek]
  refine ⟨fun q => absurd q (nI_pos (by omega)), fun _ => ⟨fun q => absurd q (nI_ge (b := 12) hk (by decide)), fun _ => ?_⟩⟩
  refine e_gr o rfl (e_alN g rfl hk (by decide) (by decide) (e_gr o rfl (e_alN e rfl hp n0 (by decide) (e_asN g rfl hk (by decide) (fun h1 f1 z1 g1 => ?_)))))
  have g2 := g1.to (Nat.le_refl _) (fun j _ => fin_sgn ek hk (hG p hp) j)
  have key := q_loop (fun i h' => q_J l (d + 1) mX6_finishPiece mc ms Q QX h.2 45 [some (.ref r), some (.int (nI p)), some (.int (nI k)), some (.int (nI i))] [] h' mc ms)
    (fun i h' => p ≤ i ∧ q_fr (sR r) h h' ∧ h'.2 = h.2 ∧ ob h' r 6 [.int P.t, .int P.x, .int P.y, .int P.b, .int P.tp, .int P.cl, .int P.ht, .int D.us, .int D.ut, .int (nI D.n), .ref (r + 1), .ref (r + 2), .ref (r + 3), .ref (r + 4), .ref (r + 5)] ∧ arN h' (r + 1) 133 D.n (mid D.pt p i) ∧ arN h' (r + 2) 133 D.n (mid D.pl p i) ∧ arN h' (r + 3) 133 D.n (mid D.pp p i) ∧ arN h' (r + 4) 133 D.n (mid D.pg p i) ∧ arN h' (r + 5) 12 12 (sgn (finA D p))) (D.n - 1) ?_ ?_ p h1 (by omega) ⟨Nat.le_refl _, q_fr.rf.t1 f1 (sR_i (by omega) (by omega)), z1, o.f1 f1 (by omega), by rw [mid_0]; exact a.f1 f1 (by omega), by rw [mid_0]; exact b.f1 f1 (by omega), by rw [mid_0]; exact c.f1 f1 (by omega), by rw [mid_0]; exact e.f1 f1 (by omega), g2⟩
  · exact key
  · rintro h' ⟨-, f, z, x1, x2, x3, x4, x5, x6⟩
    have en : nI (D.n - 1) + 1 = nI D.n := by rw [nI_1, show D.n - 1 + 1 = D.n by omega]
    refine v_X6_finishPiece_45 r _ _ (nI (D.n - 1)) (e_gi x1 rfl ⟨fun _ => ?_, fun q => absurd ?_ q⟩)
    · refine e_gi x1 rfl (e_pi x1 (Nat.le_of_ble_eq_true rfl) (fun h2 f2 z2 o2 => ?_))
      have em : nI D.n - 1 = nI (D.n - 1) := by
        rw [← en]; grind
      rw [em] at o2
      have hle : (finA D p).n ≤ D.n := by show D.n - 1 ≤ D.n; omega
      exact hq h2 (f.t1 f2 (sR_i (by omega) (by omega))) (z2.trans z) ⟨o2, (x2.f1 f2 (by omega)).to hle (fun j hj => mid_del hj), (x3.f1 f2 (by omega)).to hle (fun j hj => mid_del hj), (x4.f1 f2 (by omega)).to hle (fun j hj => mid_del hj), (x5.f1 f2 (by omega)).to hle (fun j hj => mid_del hj), x6.f1 f2 (by omega), by show D.n - 1 ≤ 133; omega, t0⟩
    · rw [en]; exact Int32.le_refl _
  · rintro i h' hi ⟨hpi, f, z, x1, x2, x3, x4, x5, x6⟩ ih
    refine v_X6_finishPiece_45 r _ _ (nI i) (e_gi x1 rfl ?_)
    rw [nI_1]
    refine ⟨fun q => absurd q (nI_ge (by omega) (by omega)), fun _ => ⟨fun q => absurd q (nI_ge (b := 133) (by omega) (by decide)), fun _ => ?_⟩⟩
    refine e_gr x1 rfl (e_gr x1 rfl (e_alN x2 rfl (by omega) n0 (by decide) (e_asN x2 rfl (by omega) (by decide) (fun h1 f1 z1 y1 => ?_))))
    have o1 := x1.f1 f1 (by omega)
    refine e_gr o1 rfl (e_gr o1 rfl (e_alN (x3.f1 f1 (by omega)) rfl (by omega) n0 (by decide) (e_asN (x3.f1 f1 (by omega)) rfl (by omega) (by decide) (fun h2 f2 z2 y2 => ?_))))
    have o2 := o1.f1 f2 (by omega)
    refine e_gr o2 rfl (e_gr o2 rfl (e_alN ((x4.f1 f1 (by omega)).f1 f2 (by omega)) rfl (by omega) n0 (by decide) (e_asN ((x4.f1 f1 (by omega)).f1 f2 (by omega)) rfl (by omega) (by decide) (fun h3 f3 z3 y3 => ?_))))
    have o3 := o2.f1 f3 (by omega)
    refine e_gr o3 rfl (e_gr o3 rfl (e_alN (((x5.f1 f1 (by omega)).f1 f2 (by omega)).f1 f3 (by omega)) rfl (by omega) n0 (by decide) (e_asN (((x5.f1 f1 (by omega)).f1 f2 (by omega)).f1 f3 (by omega)) rfl (by omega) (by decide) (fun h4 f4 z4 y4 => ?_))))
    have o4 := o3.f1 f4 (by omega)
    rw [mid_at (by omega)] at y1 y2 y3 y4
    exact ih h4 ⟨by omega, (((f.t1 f1 (sR_i (by omega) (by omega))).t1 f2 (sR_i (by omega) (by omega))).t1 f3 (sR_i (by omega) (by omega))).t1 f4 (sR_i (by omega) (by omega)), by rw [z4, z3, z2, z1, z], o4,
      (((y1.f1 f2 (by omega)).f1 f3 (by omega)).f1 f4 (by omega)).to (Nat.le_refl _) (fun j _ => mid_up hpi j), ((y2.f1 f3 (by omega)).f1 f4 (by omega)).to (Nat.le_refl _) (fun j _ => mid_up hpi j), (y3.f1 f4 (by omega)).to (Nat.le_refl _) (fun j _ => mid_up hpi j), y4.to (Nat.le_refl _) (fun j _ => mid_up hpi j), (((x6.f1 f1 (by omega)).f1 f2 (by omega)).f1 f3 (by omega)).f1 f4 (by omega)⟩
theorem fin_T {p : Nat} (hT : dT D) : dT (finA D p) := fun i hi => by
  show ∃ k : Nat, k < 12 ∧ del D.pt p i = nI k
  exact del_ex (R := fun z => ∃ k : Nat, k < 12 ∧ z = nI k) hT i hi
theorem fin_G {p : Nat} (hG : gG D) : gG (finA D p) := fun i hi => by
  show ∃ k : Nat, k ≤ 9 ∧ del D.pg p i = nI k
  exact del_ex (R := fun z => ∃ k : Nat, k ≤ 9 ∧ z = nI k) hG i hi
theorem s_sendUnits {z : Int32} (v : RV h r P D) (hT : dT D) (hG : gG D) (hq : ∀ h', q_fr (sR r) h h' → h'.2 = h.2 → RV h' r P (sendF 133 z D) → Q none h') : q_Ct l (d + 2) mX6_sendUnits [.ref r, .int z] h mc ms Q QX := by
  refine v_X6_sendUnits r z ?_
  refine q_loop (fun i (st : (Int32 × DT) × qH) => q_J l (d + 2) mX6_sendUnits mc ms Q QX h.2 4 [some (.ref r), some (.int z), some (.int st.1.1), some (.int (nI i)), none, none] [] st.2 mc ms)
    (fun i st => q_fr (sR r) h st.2 ∧ st.2.2 = h.2 ∧ RV st.2 r P st.1.2 ∧ dT st.1.2 ∧ gG st.1.2 ∧ sendF (133 - i) st.1.1 st.1.2 = sendF 133 z D) 133 ?_ ?_ 0 ((z, D), h) (by omega) ⟨q_fr.rf, rfl, v, hT, hG, rfl⟩
  · rintro ⟨⟨rest, D'⟩, h'⟩ ⟨f, zz, v', hT', hG', e⟩
    rw [Nat.sub_self, sendF] at e
    dsimp only at v' f zz e ⊢
    refine v_X6_sendUnits_4 r z rest (nI 133) ⟨fun _ => hq h' f zz ?_, fun q => absurd (Int32.le_refl _) q⟩
    rw [← e]
    exact v'
  · rintro i ⟨⟨rest, D'⟩, h'⟩ hi ⟨f, zz, v', hT', hG', e⟩ ih
    rw [show 133 - i = (133 - (i + 1)) + 1 by omega, sendF] at e
    dsimp only at v' f zz e hT' hG' ⊢
    have n0 := v'.2.2.2.2.2.2.1
    refine v_X6_sendUnits_4 r z rest (nI i) ⟨fun q => absurd q (nI_ge hi (by decide)), fun _ => ⟨fun q => ?_, fun q => ?_⟩⟩
    · rw [if_pos q] at e
      exact hq h' f zz (by rw [← e]; exact v')
    rw [if_neg q] at e
    by_cases en : D'.n = 0
    · rw [if_pos en] at e
      refine e_ob v'.1 (s_hasPiece v' (fun ⟨k, hk, _⟩ => absurd hk (by omega)) (fun _ => ⟨_, rfl, fun _ => hq h' f zz (by rw [← e]; exact v'), fun q => absurd rfl q⟩))
    rw [if_neg en] at e
    refine e_ob v'.1 (s_hasPiece v' (fun _ => ⟨_, rfl, fun q => absurd q z10, fun _ => ?_⟩) (fun q => absurd ⟨0, by omega, rfl⟩ q))
    have up := urg_lt D'.pp D'.n (by omega)
    refine e_ob v'.1 (s_mostUrgent v' (by omega) ⟨_, rfl, ?_⟩)
    generalize hp : urg D'.pp D'.n = p at e up ⊢
    obtain ⟨o, a, b, c, e5, g, -, t0⟩ := id v'
    refine e_gr o rfl (e_alN b rfl up n0 (by decide) ?_)
    generalize hpart : (if D'.pl p < rest then D'.pl p else rest) = part at e ⊢
    refine e_gi o rfl (e_pi o (Nat.le_of_ble_eq_true rfl) (fun h1 f1 z1 o1 => ?_))
    have b1 := b.f1 f1 (by omega)
    refine e_gr o1 rfl (e_alN b1 rfl up n0 (by decide) (e_asN b1 rfl (by omega) (by decide) (fun h2 f2 z2 b2 => ?_)))
    have o2 := o1.f1 f2 (by omega)
    refine e_gr o2 rfl (e_alN b2 rfl up n0 (by decide) ?_)
    rw [pk_us]
    have ff : q_fr (sR r) h h2 := (f.t1 f1 (sR_i (by omega) (by omega))).t1 f2 (sR_i (by omega) (by omega))
    have z9 : h2.2 = h.2 := by rw [z2, z1, zz]
    have v2 : RV h2 r P (partA D' p part) := ⟨o2, (a.f1 f1 (by omega)).f1 f2 (by omega), b2, (c.f1 f1 (by omega)).f1 f2 (by omega), (e5.f1 f1 (by omega)).f1 f2 (by omega), (g.f1 f1 (by omega)).f1 f2 (by omega), n0, t0⟩
    refine ⟨fun q5 => ?_, fun q5 => ?_⟩
    · rw [if_pos q5] at e
      refine e_ob o2 (s_finish v2 up hT' hG' (fun h3 f3 z3 v3 => ⟨rfl, ?_⟩))
      rw [nI_1]
      exact ih ((rest - part, finA (partA D' p part) p), h3) ⟨ff.tt f3, z3.trans z9, v3, fin_T hT', fin_G hG', e⟩
    · rw [if_neg q5] at e
      rw [nI_1]
      exact ih ((rest - part, partA D' p part), h2) ⟨ff, z9, v2, hT', hG', e⟩
end RVF
