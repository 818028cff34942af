/-! the class's Doer: a plan's activities -/
noncomputable def actsF (W : WS) (L : PL) : Nat → Nat → PH → DT → (Nat × Int32) × PH × DT
  | i, 0, P, D => ((i, 0), P, D)
  | i, n + 1, P, D => if (perfA W (L.k i) (L.a i) (L.b i) P D).1 = 0 then actsF W L (i + 1) n (perfA W (L.k i) (L.a i) (L.b i) P D).2.1 (perfA W (L.k i) (L.a i) (L.b i) P D).2.2 else ((i, (perfA W (L.k i) (L.a i) (L.b i) P D).1), P, D)
def plOk (W : WS) (L : PL) : Prop := ∀ i, i < L.n → actOk W (L.k i) (L.a i) (L.b i)
theorem plA_0 {L : PL} {i : Nat} : plA L i 0 = L.k i := if_pos rfl
theorem plA_1 {L : PL} {i : Nat} : plA L i 1 = L.a i := by unfold plA; rw [if_neg (by decide), if_pos rfl]
theorem plA_2 {L : PL} {i : Nat} : plA L i 2 = L.b i := by unfold plA; rw [if_neg (by decide), if_neg (by decide)]
theorem perf_n {W : WS} {k a b : Int32} {P : PH} {D : DT} (h : ¬ (perfA W k a b P D).1 = 0) : (perfA W k a b P D).2 = (P, D) := by
  unfold perfA at h ⊢
  by_cases q : (actA W k a b P D).1 = 0
  · rw [if_pos q] at h; exact absurd q h
  · rw [if_neg q]
def dob9 (h : qH) (W : WS) (lr : Int32) : Prop := ob h 18 0 [.ref 1, .ref 6, .ref 9, .ref 14, .ref 19, .int W.cap, .int W.mem, .int lr]
def bS (r i : Nat) : Prop := aS r i ∨ i = 18
section DO4
variable {l : Launch} {d mc ms : Nat} {Q : Option Value → qH → Prop} {QX : String → qH → Prop} {h : qH} {W : WS} {r rp : Nat} {P : PH} {D : DT} {L : PL}
theorem s_performAll {m : Nat} (hr : 25 ≤ r) (hrp : 25 ≤ rp) (hrr : rp + 3 < r ∨ r + 5 < rp) (hc : cS h W) (hw : wOk W) (hy : wyr h) (hu : ∃ P D, RV h 19 P D) (v : RV h r P D) (hR : rOk P D) (hp : PV h rp L) (hL : plOk W L) (hm : m ≤ 40)
    (hq : ∀ h', q_fr (bS r) h h' → h'.2 = h.2 → cS h' W → wyr h' → (∃ P D, RV h' 19 P D) → RV h' r (actsF W L 0 (min m L.n) P D).2.1 (actsF W L 0 (min m L.n) P D).2.2 → rOk (actsF W L 0 (min m L.n) P D).2.1 (actsF W L 0 (min m L.n) P D).2.2 → dob9 h' W (actsF W L 0 (min m L.n) P D).1.2 → Q (some (.int (nI (actsF W L 0 (min m L.n) P D).1.1))) h') : q_Ct l (d + 5) mX0_performAll [.ref 18, .ref r, .ref rp, .int (nI m)] h mc ms Q QX := by
  obtain ⟨lr, hdo⟩ := hc.2.2.2
  have n0 := hp.2.2.2.2
  refine v_X0_performAll 18 r rp _ (e_pi hdo (Nat.le_of_ble_eq_true rfl) (fun h1 f1 z1 o1 => ?_))
  have cS1 : ∀ {h h' : qH} {lr : Int32}, cS h W → q_fr (fun j => j = 18) h h' → dob9 h' W lr → cS h' W := fun c f o => ⟨c.1.fr f (fun i a b q => by change i = 18 at q; omega), c.2.1.fr f (fun i a b q => by change i = 18 at q; omega), c.2.2.1.fr f (fun i a b q => by change i = 18 at q; omega), _, o⟩
  have B18 : ∀ i, i = 18 → bS r i := fun i q => Or.inr q
  refine q_loop (fun i (st : (PH × DT) × qH) => q_J l (d + 5) mX0_performAll mc ms Q QX h.2 8 [some (.ref 18), some (.ref r), some (.ref rp), some (.int (nI m)), some (.int (nI i))] [] st.2 mc ms)
    (fun i st => q_fr (bS r) h st.2 ∧ st.2.2 = h.2 ∧ cS st.2 W ∧ wyr st.2 ∧ (∃ P D, RV st.2 19 P D) ∧ RV st.2 r st.1.1 st.1.2 ∧ rOk st.1.1 st.1.2 ∧ PV st.2 rp L ∧ dob9 st.2 W 0 ∧ actsF W L i (min m L.n - i) st.1.1 st.1.2 = actsF W L 0 (min m L.n) P D) (min m L.n) ?_ ?_ 0 ((P, D), h1) (by omega)
    ⟨f1.mono (fun i _ q => B18 i q), z1, cS1 hc f1 o1, hy.fr f1 (fun i a b q => by change i = 18 at q; omega), hu.elim fun P q => q.elim fun D q => ⟨P, D, q.fr f1 (fun i a b q => by change i = 18 at q; omega)⟩, v.fr f1 (fun i a b q => by change i = 18 at q; omega), hR, hp.fr f1 (fun i a b q => by change i = 18 at q; omega), o1, rfl⟩
  · rintro ⟨⟨P', D'⟩, h'⟩ ⟨f, z, c', y', u', v', R', p', o', e⟩
    rw [Nat.sub_self, actsF] at e
    dsimp only at f z c' y' u' v' R' p' o' e ⊢
    rw [← e] at hq
    have done := hq h' f z c' y' u' v' R' o'
    refine v_X0_performAll_8 18 r rp _ (nI (min m L.n)) ⟨fun q => ?_, fun q => e_ob p'.1 (s_phas p' (fun ⟨k, hk, ek⟩ => ?_) (fun _ => ⟨_, rfl, fun _ => ?_, fun q => absurd rfl q⟩))⟩
    · have le : m ≤ min m L.n := (nI_leI (by omega) (by omega)).mp q
      have em : min m L.n = m := by omega
      refine e_gi p'.1 rfl ?_
      by_cases c : L.n < m
      · omega
      · rw [if_neg (fun q => c ((nI_ltI (by omega) (by omega)).mp q))]
        rw [em] at done
        exact done
    · have := (nI_eq (by omega) (by omega)).mp ek
      have : ¬ m ≤ min m L.n := fun r => q (nI_le r (by omega))
      omega
    · have : ¬ m ≤ min m L.n := fun r => q (nI_le r (by omega))
      have em : min m L.n = L.n := by omega
      refine e_gi p'.1 rfl ?_
      rw [if_pos (nI_lt (by omega) (by omega))]
      rw [em] at done
      exact done
  · rintro i ⟨⟨P', D'⟩, h'⟩ hi ⟨f, z, c', y', u', v', R', p', o', e⟩ ih
    rw [show min m L.n - i = (min m L.n - (i + 1)) + 1 by omega, actsF] at e
    dsimp only at f z c' y' u' v' R' p' o' e ⊢
    have hiL : i < L.n := by omega
    refine v_X0_performAll_8 18 r rp _ (nI i) ⟨fun q => absurd q (nI_ge (by omega) (by omega)), fun _ => ?_⟩
    refine e_ob p'.1 (s_phas p' (fun _ => ⟨_, rfl, fun q => absurd q z10, fun _ => ?_⟩) (fun q => absurd ⟨i, hiL, rfl⟩ q))
    refine e_ob p'.1 (s_ptell p' hiL ⟨_, rfl, e_ob p'.1 (s_ptell p' hiL ⟨_, rfl, e_ob p'.1 (s_ptell p' hiL ⟨_, rfl, ?_⟩)⟩)⟩)
    rw [plA_0, plA_1, plA_2]
    have hok := hL i hiL
    refine e_ob o' (s_perform hr c' hw y' u' v' R' hok (fun h2 f2 z2 y2 u2 v2 => ⟨_, rfl, ?_⟩))
    have p2 : PV h2 rp L := p'.fr f2 (fun j a b => by unfold aS wS sR; omega)
    have c2 : cS h2 W := c'.fr f2 (fun j a b => by unfold aS wS sR; omega) (fun j a b => by unfold aS wS sR; omega)
    have o2 : dob9 h2 W 0 := ob.fr o' f2 (by unfold aS wS sR; omega)
    have R2 := perf_ok hw R' hok
    have f2' : q_fr (bS r) h' h2 := f2.mono (fun i _ q => Or.inl q)
    refine e_pi o2 (Nat.le_of_ble_eq_true rfl) (fun h3 f3 z3 o3 => e_gi o3 rfl ⟨fun q => ?_, fun q => ?_⟩)
    · rw [if_pos q] at e
      rw [nI_1]
      rw [q] at o3
      exact ih ((_, _), h3) ⟨(f.tt f2').t1 f3 (B18 _ rfl), by rw [z3, z2, z], cS1 c2 f3 o3, y2.fr f3 (fun i a b q => by change i = 18 at q; omega), u2.elim fun P q => q.elim fun D q => ⟨P, D, q.fr f3 (fun i a b q => by change i = 18 at q; omega)⟩, v2.fr f3 (fun i a b q => by change i = 18 at q; omega), R2, p2.fr f3 (fun i a b q => by change i = 18 at q; omega), o3, e⟩
    · rw [if_neg q] at e
      rw [← e] at hq
      have en := perf_n q
      rw [en] at v2
      exact hq h3 ((f.tt f2').t1 f3 (B18 _ rfl)) (by rw [z3, z2, z]) (cS1 c2 f3 o3) (y2.fr f3 (fun i a b q => by change i = 18 at q; omega)) (u2.elim fun P q => q.elim fun D q => ⟨P, D, q.fr f3 (fun i a b q => by change i = 18 at q; omega)⟩) (v2.fr f3 (fun i a b q => by change i = 18 at q; omega)) R' o3
end DO4
/-! single bits -/
theorem b_one : ∀ u, u < 12 → ∀ t, t < 12 → ((1 : Int32) <<< (nI u &&& 31)).toBitVec.getLsbD t = decide (t = u) := by decide +kernel
theorem b_smod : ∀ t, t < 12 → ((nI t &&& 31).toBitVec.smod 32).toNat = t := by decide +kernel
theorem b_bit {x : Int32} {t : Nat} (ht : t < 12) : (x >>> (nI t &&& 31)) &&& 1 = if x.toBitVec.getLsbD t then 1 else 0 := by
  apply Int32.toBitVec_inj.mp
  have e : (x >>> (nI t &&& 31)).toBitVec = x.toBitVec.sshiftRight t := by
    rw [Int32.toBitVec_shiftRight, BitVec.sshiftRight', b_smod t ht]
  rw [Int32.toBitVec_and, e]
  have l1 : (1 : Int32).toBitVec = 1#32 := rfl
  rw [l1]
  apply BitVec.eq_of_getLsbD_eq
  intro i hi
  rw [BitVec.getLsbD_and, BitVec.getLsbD_one]
  by_cases i0 : i = 0
  · subst i0
    rw [BitVec.getLsbD_sshiftRight]
    rw [if_pos (by omega)]
    cases hb : x.toBitVec.getLsbD t
    · simp [hb]
    · simp [hb]
  · cases hb : x.toBitVec.getLsbD t
    · simp [i0]
    · simp [i0]
theorem b_or {x y : Int32} {t : Nat} : (x ||| y).toBitVec.getLsbD t = (x.toBitVec.getLsbD t || y.toBitVec.getLsbD t) := by
  rw [Int32.toBitVec_or, BitVec.getLsbD_or]
