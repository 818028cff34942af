/-! the class's Doer: activities -/
theorem tq_spec {a : Int32} : (a / 1440).toInt = if 0 ≤ a.toInt then a.toInt / 1440 else -((-a.toInt) / 1440) := by
  have hd := i_div (a := a) (b := 1440) (by rw [L_1440]; omega)
  rw [hd, L_1440]
  split
  · rename_i h; exact Int.tdiv_eq_ediv_of_nonneg h
  · rw [← Int.tdiv_eq_ediv_of_nonneg (by omega), Int.neg_tdiv, Int.neg_neg]
theorem tm_spec {a : Int32} (h : -1000000 ≤ a.toInt ∧ a.toInt ≤ 1000000) : (a - a / 1440 * 1440).toInt = if 0 ≤ a.toInt then a.toInt % 1440 else -((-a.toInt) % 1440) := by
  have q := tq_spec (a := a)
  by_cases h0 : 0 ≤ a.toInt
  · rw [if_pos h0] at q ⊢
    have m : (a / 1440 * 1440).toInt = a.toInt / 1440 * 1440 := by
      rw [fb_mulI, q, L_1440] <;> rw [q, L_1440] <;> omega
    rw [fb_subI, m] <;> first | omega | (rw [m]; omega)
  · rw [if_neg h0] at q ⊢
    have m : (a / 1440 * 1440).toInt = -((-a.toInt) / 1440) * 1440 := by
      rw [fb_mulI, q, L_1440] <;> rw [q, L_1440] <;> omega
    rw [fb_subI, m] <;> first | omega | (rw [m]; omega)
theorem mnt_t {t : Int32} (h : 0 ≤ t.toInt ∧ t.toInt ≤ 14400) : (mnt t).toInt = t.toInt % 1440 := by
  have := tm_spec (a := t) (by omega)
  rw [if_pos h.1] at this
  exact this
theorem fmod_t {a : Int32} (h : -1000000 ≤ a.toInt ∧ a.toInt ≤ 1000000) : (i_fmod a 1440).toInt = a.toInt % 1440 := by
  have q := tm_spec h
  have b0 : 0 < (1440 : Int32).toInt := by rw [L_1440]; omega
  unfold i_fmod
  by_cases h0 : 0 ≤ a.toInt
  · rw [if_pos ((i_xor b0).mpr h0), q, if_pos h0]
  · rw [if_neg (fun r => h0 ((i_xor b0).mp r))]
    rw [if_neg h0] at q
    by_cases e : a - a / 1440 * 1440 = 0
    · rw [if_pos e, q]
      rw [eq_i, q, L_0] at e
      omega
    · rw [if_neg e]
      rw [eq_i, q, L_0] at e
      rw [fb_addI (by rw [q, L_1440]; omega) (by rw [q, L_1440]; omega), q, L_1440]
      omega
/-- how many minutes a rest takes -/
theorem rest_n {a t : Int32} (ha : 0 ≤ a.toInt ∧ a.toInt < 1440) (ht : 0 ≤ t.toInt ∧ t.toInt ≤ 14400) : ∃ n : Nat, 1 ≤ n ∧ n ≤ 1440 ∧ 1 + i_fmod (a - t - 1) 1440 = nI n ∧ (n : Int) = 1 + (a.toInt - t.toInt - 1) % 1440 := by
  have e1 : (a - t).toInt = a.toInt - t.toInt := fb_subI (by omega) (by omega)
  have e2 : (a - t - 1).toInt = a.toInt - t.toInt - 1 := by rw [fb_subI, e1, L_1] <;> rw [e1, L_1] <;> omega
  have e3 := fmod_t (a := a - t - 1) (by omega)
  rw [e2] at e3
  have e4 : (1 + i_fmod (a - t - 1) 1440).toInt = 1 + (a.toInt - t.toInt - 1) % 1440 := by
    rw [fb_addI, e3, L_1] <;> rw [e3, L_1] <;> omega
  have c : (1 + i_fmod (a - t - 1) 1440).toNatClampNeg = (1 + i_fmod (a - t - 1) 1440).toInt.toNat := rfl
  refine ⟨(1 + i_fmod (a - t - 1) 1440).toNatClampNeg, by omega, by omega, nI_ofI (by omega), by omega⟩
section DO3
variable {l : Launch} {d mc ms : Nat} {Q : Option Value → qH → Prop} {QX : String → qH → Prop} {h : qH} {W : WS} {r : Nat} {P : PH} {D : DT}
theorem s_floorMod {a b : Int32} (hb : ¬ b = 0) (hq : Q (some (.int (i_fmod a b))) h) : q_Ct l d mJ9_floorMod_7cf53 [.int a, .int b] h mc ms Q QX := by
  unfold i_fmod at hq
  refine v_J9_floorMod_7cf53 (d := d) a b ⟨hb, fun c => ?_, fun c => ⟨fun e => ?_, fun e => ?_⟩⟩
  · rw [if_pos c] at hq; exact hq
  · rw [if_neg c, if_pos e] at hq; exact hq
  · rw [if_neg c, if_neg e] at hq; exact hq
theorem s_useTool {size use : Int32} {n : Nat} (hr : 18 < r) (hd : dOb h W) (v : RV h r P D) (hn : n < 2 ^ 31) (hq : ∀ h', q_fr (sR r) h h' → h'.2 = h.2 → RV h' r (useA W size use n P D).2 D → Q (some (.int (useA W size use n P D).1)) h') : q_Ct l (d + 2) mX0_useTool [.ref 18, .ref r, .int size, .int (nI n), .int use] h mc ms Q QX := by
  obtain ⟨lr, hdo⟩ := hd
  have o := v.1
  have n0 := v.2.2.2.2.2.2.1
  unfold useA at hq
  refine v_X0_useTool 18 r _ _ _ (e_gi o rfl ⟨fun q1 => ?_, fun q1 => ?_⟩)
  rotate_left
  · rw [if_neg q1] at hq; exact hq h q_fr.rf rfl v
  rw [if_pos q1] at hq
  refine e_ob o (s_rFull v ⟨_, rfl, ?_⟩)
  by_cases q2 : D.n < 133
  rotate_left
  · rw [if_neg q2] at hq ⊢
    exact ⟨fun q => absurd q z10, fun _ => hq h q_fr.rf rfl v⟩
  rw [if_pos q2] at hq ⊢
  refine ⟨fun _ => ?_, fun q => absurd rfl q⟩
  refine e_ob o (s_unitsKept v ⟨_, rfl, e_gi hdo rfl ⟨fun q3 => ?_, fun q3 => ?_⟩⟩)
  · rw [if_pos q3] at hq
    exact e_ob hdo (s_passMinutes (aw := true) hr ⟨lr, hdo⟩ v hn (fun h1 f1 z1 v1 => ⟨_, rfl, hq h1 f1 z1 v1⟩))
  · rw [if_neg q3] at hq
    exact hq h q_fr.rf rfl v
theorem useA_xy {size use : Int32} {n : Nat} : (useA W size use n P D).2.x = P.x ∧ (useA W size use n P D).2.y = P.y := by
  unfold useA
  split
  · split
    · split
      · exact passN_xy _ _
      · exact ⟨rfl, rfl⟩
    · exact ⟨rfl, rfl⟩
  · exact ⟨rfl, rfl⟩
theorem useA_n {size use : Int32} {n : Nat} (h0 : (useA W size use n P D).1 = 0) : D.n < 133 := by
  unfold useA at h0
  split at h0
  · split at h0
    · rename_i q; exact q
    · exact absurd h0 (by decide : ¬ (4 : Int32) = 0)
  · exact absurd h0 (by decide : ¬ (3 : Int32) = 0)
theorem s_takeImage {k : Nat} {pr : Int32} (hr : 18 < r) (hc : cS h W) (hw : wOk W) (v : RV h r P D) (hp : inP P.x P.y) (hk : k < W.tn)
    (hq : ∀ h', q_fr (sR r) h h' → h'.2 = h.2 → RV h' r (takeI W P D (nI k) pr).2.1 (takeI W P D (nI k) pr).2.2 → Q (some (.int (takeI W P D (nI k) pr).1)) h') : q_Ct l (d + 3) mX0_takeImage [.ref 18, .ref r, .int (nI k), .int pr] h mc ms Q QX := by
  obtain ⟨lr, hdo⟩ := hc.2.2.2
  have tn := hw.tn
  have ck : (nI k).toNatClampNeg = k := nI_clamp (by omega)
  obtain ⟨o, -⟩ := id v
  unfold takeI at hq
  rw [ck] at hq
  refine v_X0_takeImage 18 r _ _ (e_gr hdo rfl (e_ob hc.2.1.1 (s_xOf hc.2.1 hw hk ⟨_, rfl, e_gr hdo rfl (e_ob hc.2.1.1 (s_yOf hc.2.1 hw hk ⟨_, rfl, e_gi o rfl (e_gi o rfl (s_distance ⟨_, rfl, fun q1 => ?_, fun q1 => ?_⟩))⟩))⟩)))
  · rw [if_pos q1] at hq; exact hq h q_fr.rf rfl v
  rw [if_neg q1] at hq
  refine e_gr hdo rfl (e_gi o rfl (e_gi o rfl (e_ob hc.1.1 (s_isSeen hc.1 hp (hw.tp k hk) (fun b hb => ⟨_, rfl, fun q2 => ?_, fun q2 => ?_⟩)))))
  · have ns : ¬ seeA W P.x P.y (W.tx k) (W.ty k) = true := fun q => by
      rcases hb with ⟨e, -⟩ | ⟨-, e⟩
      · rw [e] at q2; exact absurd q2 z10
      · exact e (seeA_t.mp q)
    rw [if_neg ns] at hq; exact hq h q_fr.rf rfl v
  have ns : seeA W P.x P.y (W.tx k) (W.ty k) = true := by
    rcases hb with ⟨-, e⟩ | ⟨e, -⟩
    · exact seeA_t.mpr e
    · exact absurd e q2
  rw [if_pos ns] at hq
  have xy := useA_xy (W := W) (P := P) (D := D) (size := 40) (use := 3) (n := 6)
  refine e_ob hdo (s_useTool (n := 6) hr ⟨lr, hdo⟩ v (by decide) (fun h1 f1 z1 v1 => ⟨_, rfl, fun q3 => ?_, fun q3 => ?_⟩))
  rotate_left
  · rw [if_neg q3] at hq; exact hq h1 f1 z1 v1
  have hn := useA_n q3
  rw [q3, if_pos rfl] at hq
  have o1 := v1.1
  refine e_gi o1 rfl (e_gi o1 rfl (s_octantOf ⟨_, rfl, ?_⟩))
  rw [xy.1, xy.2]
  refine e_ob o1 (s_keep v1 hn (fun h2 f2 z2 v2 => ⟨rfl, ?_⟩))
  rw [q3]
  exact hq h2 (f1.tt f2) (z2.trans z1) v2
theorem s_takeTouch {k : Nat} {pr : Int32} (hr : 18 < r) (hc : cS h W) (hw : wOk W) (v : RV h r P D) (hk : k < W.tn)
    (hq : ∀ h', q_fr (sR r) h h' → h'.2 = h.2 → RV h' r (takeT W P D (nI k) pr).2.1 (takeT W P D (nI k) pr).2.2 → Q (some (.int (takeT W P D (nI k) pr).1)) h') : q_Ct l (d + 3) mX0_takeTouch [.ref 18, .ref r, .int (nI k), .int pr] h mc ms Q QX := by
  obtain ⟨lr, hdo⟩ := hc.2.2.2
  have tn := hw.tn
  have ck : (nI k).toNatClampNeg = k := nI_clamp (by omega)
  obtain ⟨o, -⟩ := id v
  unfold takeT at hq
  rw [ck] at hq
  refine v_X0_takeTouch 18 r _ _ (e_gi o rfl (e_gi o rfl (e_gr hdo rfl (e_ob hc.2.1.1 (s_xOf hc.2.1 hw hk ⟨_, rfl, e_gr hdo rfl (e_ob hc.2.1.1 (s_yOf hc.2.1 hw hk ⟨_, rfl, s_distance ⟨_, rfl, fun q1 => ?_, fun q1 => ?_⟩⟩))⟩)))))
  rotate_left
  · rw [if_neg q1] at hq; exact hq h q_fr.rf rfl v
  rw [if_pos q1] at hq
  refine e_ob hdo (s_useTool (n := 25) hr ⟨lr, hdo⟩ v (by decide) (fun h1 f1 z1 v1 => ⟨_, rfl, fun q3 => ?_, fun q3 => ?_⟩))
  rotate_left
  · rw [if_neg q3] at hq; exact hq h1 f1 z1 v1
  have hn := useA_n q3
  rw [q3, if_pos rfl] at hq
  refine e_ob v1.1 (s_keep v1 hn (fun h2 f2 z2 v2 => ⟨rfl, ?_⟩))
  rw [q3]
  exact hq h2 (f1.tt f2) (z2.trans z1) v2
theorem s_transmit {n : Nat} (hr : 18 < r) (hc : cS h W) (hw : wOk W) (v : RV h r P D) (hd : dOk D) (hn : n < 2 ^ 31)
    (hq : ∀ h', q_fr (sR r) h h' → h'.2 = h.2 → RV h' r (transA W (nI n) P D).2.1 (transA W (nI n) P D).2.2 → Q (some (.int (transA W (nI n) P D).1)) h') : q_Ct l (d + 3) mX0_transmit [.ref 18, .ref r, .int (nI n)] h mc ms Q QX := by
  obtain ⟨lr, hdo⟩ := hc.2.2.2
  obtain ⟨o, -⟩ := id v
  unfold transA at hq
  rw [nI_clamp hn] at hq
  refine v_X0_transmit 18 r _ (e_gr hdo rfl (e_gi o rfl (e_ob hc.2.2.1.1 (s_rateAt hc.2.2.1 hw ⟨_, rfl, fun q1 => ?_, fun q1 => ?_⟩))))
  · rw [if_pos (show rateA W (mnt P.t) = 0 from q1)] at hq; exact hq h q_fr.rf rfl v
  rw [if_neg (show ¬ rateA W (mnt P.t) = 0 from q1)] at hq
  refine q_loop (fun i (st : (PH × DT) × qH) => q_J l (d + 3) mX0_transmit mc ms Q QX h.2 23 [some (.ref 18), some (.ref r), some (.int (nI n)), some (.int (nI i)), none] [] st.2 mc ms)
    (fun i st => q_fr (sR r) h st.2 ∧ st.2.2 = h.2 ∧ RV st.2 r st.1.1 st.1.2 ∧ dOk st.1.2 ∧ transF W (n - i) st.1.1 st.1.2 = transF W n P D) n ?_ ?_ 0 ((P, D), h) (by omega) ⟨q_fr.rf, rfl, v, hd, rfl⟩
  · rintro ⟨⟨P', D'⟩, h'⟩ ⟨f, z, v', hd', e⟩
    rw [Nat.sub_self, transF] at e
    dsimp only at f z v' hd' e ⊢
    rw [← e] at hq
    exact v_X0_transmit_23 18 r _ (nI n) ⟨fun _ => hq h' f z v', fun q => absurd (Int32.le_refl _) q⟩
  · rintro i ⟨⟨P', D'⟩, h'⟩ hi ⟨f, z, v', hd', e⟩ ih
    rw [show n - i = (n - (i + 1)) + 1 by omega, transF] at e
    dsimp only at f z v' hd' e ⊢
    have o' := v'.1
    have n0 := v'.2.2.2.2.2.2.1
    have hc' : cS h' W := hc.fr f (fun i a b => by unfold sR; omega) (fun i a b => by unfold sR; omega)
    have hdo' := hdo.fr f (by unfold sR; omega)
    refine v_X0_transmit_23 18 r _ (nI i) ⟨fun q => absurd q (nI_ge hi hn), fun _ => e_gi o' rfl ⟨fun q1 => ?_, fun q1 => ?_⟩⟩
    · have en : D'.n = 0 := by
        by_cases en : D'.n = 0
        · exact en
        · exact absurd q1 (nI_nle (by omega) (by omega))
      rw [if_pos en] at e
      rw [← e] at hq
      exact hq h' f z v'
    have en : ¬ D'.n = 0 := fun en => by rw [en] at q1; exact absurd (by decide) q1
    rw [if_neg en] at e
    refine e_gr hdo' rfl (e_gi o' rfl (e_ob hc'.2.2.1.1 (s_rateAt (m := mnt P'.t) hc'.2.2.1 hw ⟨_, rfl, ?_⟩)))
    refine e_ob o' (s_sendUnits (z := rateA W (mnt P'.t)) v' hd'.1 hd'.2.1 (fun h1 f1 z1 v1 => ⟨rfl, ?_⟩))
    have d1 := hdo'.fr f1 (by unfold sR; omega)
    refine e_ob d1 (s_passMinutes (n := 1) (aw := true) hr ⟨lr, d1⟩ v1 (by decide) (fun h2 f2 z2 v2 => ⟨_, rfl, fun q3 => ?_, fun q3 => ?_⟩))
    · rw [if_pos q3] at e
      rw [nI_1]
      exact ih (((passN W.cap 4 true 1 P').2, sendF 133 (rateA W (mnt P'.t)) D'), h2) ⟨(f.tt f1).tt f2, by rw [z2, z1, z], v2, sendF_ok _ _ hd', e⟩
    · rw [if_neg q3] at e
      rw [← e] at hq
      exact hq h2 ((f.tt f1).tt f2) (by rw [z2, z1, z]) v2
theorem s_rest {a : Int32} {aw : Bool} (hr : 18 < r) (hd : dOb h W) (v : RV h r P D) (ha : 0 ≤ a.toInt ∧ a.toInt < 1440) (ht : 0 ≤ P.t.toInt ∧ P.t.toInt ≤ 14400)
    (hq : ∀ h', q_fr (sR r) h h' → h'.2 = h.2 → RV h' r (restA W a aw P).2 D → Q (some (.int (restA W a aw P).1)) h') : q_Ct l (d + 2) mX0_rest [.ref 18, .ref r, .int a, .int (i_aw aw)] h mc ms Q QX := by
  obtain ⟨lr, hdo⟩ := hd
  obtain ⟨n, n1, n2, en, -⟩ := rest_n ha ht
  have o := v.1
  unfold restA at hq
  rw [en, nI_clamp (by omega)] at hq
  refine v_X0_rest 18 r _ _ (e_gi o rfl (s_floorMod (by decide) ⟨_, rfl, e_ob hdo ?_⟩))
  rw [en]
  exact s_passMinutes hr ⟨lr, hdo⟩ v (by omega) (fun h1 f1 z1 v1 => ⟨_, rfl, hq h1 f1 z1 v1⟩)
theorem s_clean (hr : 18 < r) (hd : dOb h W) (v : RV h r P D)
    (hq : ∀ h', q_fr (sR r) h h' → h'.2 = h.2 → RV h' r (cleanA W P).2 D → Q (some (.int (cleanA W P).1)) h') : q_Ct l (d + 2) mX0_clean [.ref 18, .ref r] h mc ms Q QX := by
  obtain ⟨lr, hdo⟩ := hd
  unfold cleanA at hq
  refine v_X0_clean 18 r (e_ob hdo (s_passMinutes (n := 15) (aw := true) hr ⟨lr, hdo⟩ v (by decide) (fun h1 f1 z1 v1 => ⟨_, rfl, fun q1 => ?_, fun q1 => ?_⟩)))
  rotate_left
  · rw [if_neg q1] at hq; exact hq h1 f1 z1 v1
  rw [if_pos q1] at hq
  obtain ⟨o, a, b, c, e, g, n0, t0⟩ := id v1
  refine e_gi o rfl (e_pi o (Nat.le_of_ble_eq_true rfl) (fun h2 f2 z2 o2 => ?_))
  rw [q1]
  exact hq h2 (f1.t1 f2 (sR_i (by omega) (by omega))) (z2.trans z1) ⟨o2, a.f1 f2 (by omega), b.f1 f2 (by omega), c.f1 f2 (by omega), e.f1 f2 (by omega), g.f1 f2 (by omega), n0, t0⟩
def aS (r i : Nat) : Prop := wS i ∨ sR 19 i ∨ sR r i
theorem s_perform {k a b : Int32} (hr : 25 ≤ r) (hc : cS h W) (hw : wOk W) (hy : wyr h) (hu : ∃ P D, RV h 19 P D) (v : RV h r P D) (hR : rOk P D) (ha : actOk W k a b)
    (hq : ∀ h', q_fr (aS r) h h' → h'.2 = h.2 → wyr h' → (∃ P D, RV h' 19 P D) → RV h' r (perfA W k a b P D).2.1 (perfA W k a b P D).2.2 → Q (some (.int (perfA W k a b P D).1)) h') : q_Ct l (d + 4) mX0_perform [.ref 18, .ref r, .int k, .int a, .int b] h mc ms Q QX := by
  obtain ⟨lr, hdo⟩ := hc.2.2.2
  obtain ⟨Pu, Du, hu⟩ := hu
  refine v_X0_perform 18 r _ _ _ (e_gr hdo rfl (e_ob hu.1 (s_copyFrom (by omega) v hu (fun h1 f1 z1 u1 => ⟨rfl, ?_⟩))))
  have f1' : q_fr (aS r) h h1 := f1.mono (fun i _ q => Or.inr (Or.inl q))
  have hc1 : cS h1 W := hc.fr f1 (fun i a b => by unfold sR; omega) (fun i a b => by unfold sR; omega)
  have hy1 : wyr h1 := hy.fr f1 (fun i a b => by unfold sR; omega)
  have v1 : RV h1 r P D := v.fr f1 (fun i a b => by unfold sR; omega)
  have hdo1 := hdo.fr f1 (by unfold sR; omega)
  -- what is done behind an activity
  have fin : ∀ (h2 : qH) (res : Int32 × PH × DT), actA W k a b P D = res → q_fr (fun i => wS i ∨ sR r i) h1 h2 → h2.2 = h1.2 → wyr h2 → RV h2 r res.2.1 res.2.2 →
      qIF (res.1 = 0) (Q (some (.int res.1)) h2) (qGR h2 18 0 4 (fun r5 => qOB h2 r 6 (qCV l (d + 3) mX6_copyFrom [.ref r, .ref r5] h2 0 0 (fun h6 => Q (some (.int res.1)) h6)))) := by
    intro h2 res er f2 z2 y2 v2
    have f2' : q_fr (aS r) h1 h2 := f2.mono (fun i _ q => q.elim Or.inl (fun q => Or.inr (Or.inr q)))
    have u2 : RV h2 19 P D := u1.fr f2 (fun i a b => by unfold wS sR; omega)
    unfold perfA at hq
    rw [er] at hq
    refine ⟨fun q => ?_, fun q => ?_⟩
    · rw [if_pos q] at hq
      exact hq h2 (f1'.tt f2') (z2.trans z1) y2 ⟨_, _, u2⟩ v2
    · rw [if_neg q] at hq
      refine e_gr (hdo1.fr f2 (by unfold wS sR; omega)) rfl (e_ob v2.1 (s_copyFrom (by omega) u2 v2 (fun h3 f3 z3 v3 => ⟨rfl, ?_⟩)))
      exact hq h3 ((f1'.tt f2').tt (f3.mono (fun i _ q => Or.inr (Or.inr q)))) (by rw [z3, z2, z1]) (y2.fr f3 (fun i a b => by unfold sR; omega)) ⟨_, _, u2.fr f3 (fun i a b => by unfold sR; omega)⟩ v3
  have fin2 : ∀ (h2 : qH) (res : Int32 × PH × DT), actA W k a b P D = res → q_fr (sR r) h1 h2 → h2.2 = h1.2 → RV h2 r res.2.1 res.2.2 →
      qIF (res.1 = 0) (Q (some (.int res.1)) h2) (qGR h2 18 0 4 (fun r5 => qOB h2 r 6 (qCV l (d + 3) mX6_copyFrom [.ref r, .ref r5] h2 0 0 (fun h6 => Q (some (.int res.1)) h6)))) :=
    fun h2 res er f2 z2 v2 => fin h2 res er (f2.mono (fun i _ q => Or.inr q)) z2 (hy1.fr f2 (fun i a b => by unfold sR; omega)) v2
  have r18 : 18 < r := by omega
  obtain ⟨hp, hd⟩ := hR
  refine ⟨fun k0 => ?_, fun k0 => ⟨fun k1 => ?_, fun k1 => ⟨fun k2 => ?_, fun k2 => ⟨fun k3 => ?_, fun k3 => ⟨fun k4 => ?_, fun k4 => ⟨fun k5 => ?_, fun k5 => ⟨fun k6 => ?_, fun k6 => ?_⟩⟩⟩⟩⟩⟩⟩
  · have hg : inP a b := by
      subst k0
      rcases ha with ⟨-, q⟩ | ⟨q, -⟩ | ⟨q, -⟩ | ⟨q, -⟩ | ⟨q, -⟩ | ⟨q, -⟩
      · exact q
      · exact absurd q (by decide)
      · exact absurd q (by decide)
      · exact absurd q (by decide)
      · exact absurd q (by decide)
      · exact absurd q (by decide)
    have er : actA W k a b P D = ((driveA W (C_to W (ix a b)) a b 576 P).1, (driveA W (C_to W (ix a b)) a b 576 P).2, D) := by
      unfold actA; rw [if_pos k0]
    exact e_ob hdo1 (s_drive r18 hc1 hw hy1 v1 hp.1 hg (fun h2 f2 z2 y2 v2 => ⟨_, rfl, fin h2 _ er f2 z2 y2 v2⟩))
  · have hT : isT W.tn a := by
      subst k1
      rcases ha with ⟨q, -⟩ | ⟨-, q, -⟩ | ⟨q, -⟩ | ⟨q, -⟩ | ⟨q, -⟩ | ⟨q, -⟩
      · exact absurd q (by decide)
      · exact q
      · exact absurd q (by decide)
      · exact absurd q (by decide)
      · exact absurd q (by decide)
      · exact absurd q (by decide)
    have er : actA W k a b P D = takeI W P D a b := by
      unfold actA; rw [if_neg k0, if_pos k1]
    obtain ⟨t, ht, rfl⟩ := hT
    exact e_ob hdo1 (s_takeImage r18 hc1 hw v1 hp.1 ht (fun h2 f2 z2 v2 => ⟨_, rfl, fin2 h2 _ er f2 z2 v2⟩))
  · have hT : isT W.tn a := by
      subst k2
      rcases ha with ⟨q, -⟩ | ⟨-, q, -⟩ | ⟨q, -⟩ | ⟨q, -⟩ | ⟨q, -⟩ | ⟨q, -⟩
      · exact absurd q (by decide)
      · exact q
      · exact absurd q (by decide)
      · exact absurd q (by decide)
      · exact absurd q (by decide)
      · exact absurd q (by decide)
    have er : actA W k a b P D = takeT W P D a b := by
      unfold actA; rw [if_neg k0, if_neg k1, if_pos k2]
    obtain ⟨t, ht, rfl⟩ := hT
    exact e_ob hdo1 (s_takeTouch r18 hc1 hw v1 ht (fun h2 f2 z2 v2 => ⟨_, rfl, fin2 h2 _ er f2 z2 v2⟩))
  · have hT : 1 ≤ a.toInt ∧ a.toInt ≤ 600 := by
      subst k3
      rcases ha with ⟨q, -⟩ | ⟨q, -⟩ | ⟨-, q, q2, -⟩ | ⟨q, -⟩ | ⟨q, -⟩ | ⟨q, -⟩
      · exact absurd q (by decide)
      · exact absurd q (by decide)
      · exact ⟨q, q2⟩
      · exact absurd q (by decide)
      · exact absurd q (by decide)
      · exact absurd q (by decide)
    have er : actA W k a b P D = transA W a P D := by
      unfold actA; rw [if_neg k0, if_neg k1, if_neg k2, if_pos k3]
    have ea := nI_ofI (z := a) (by omega)
    have ea2 : a.toNatClampNeg = a.toInt.toNat := rfl
    generalize a.toNatClampNeg = n at ea ea2
    subst ea
    exact e_ob hdo1 (s_transmit r18 hc1 hw v1 hd (by omega) (fun h2 f2 z2 v2 => ⟨_, rfl, fin2 h2 _ er f2 z2 v2⟩))
  · have hT : 0 ≤ a.toInt ∧ a.toInt < 1440 := by
      subst k4
      rcases ha with ⟨q, -⟩ | ⟨q, -⟩ | ⟨q, -⟩ | ⟨-, q, q2, -⟩ | ⟨q, -⟩ | ⟨q, -⟩
      · exact absurd q (by decide)
      · exact absurd q (by decide)
      · exact absurd q (by decide)
      · exact ⟨q, q2⟩
      · exact absurd q (by decide)
      · exact absurd q (by decide)
    have er : actA W k a b P D = ((restA W a true P).1, (restA W a true P).2, D) := by
      unfold actA; rw [if_neg k0, if_neg k1, if_neg k2, if_neg k3, if_pos k4]
    exact e_ob hdo1 (s_rest (aw := true) r18 ⟨lr, hdo1⟩ v1 hT ⟨hp.2.1, hp.2.2.1⟩ (fun h2 f2 z2 v2 => ⟨_, rfl, fin2 h2 _ er f2 z2 v2⟩))
  · have hT : 0 ≤ a.toInt ∧ a.toInt < 1440 := by
      subst k5
      rcases ha with ⟨q, -⟩ | ⟨q, -⟩ | ⟨q, -⟩ | ⟨-, q, q2, -⟩ | ⟨q, -⟩ | ⟨q, -⟩
      · exact absurd q (by decide)
      · exact absurd q (by decide)
      · exact absurd q (by decide)
      · exact ⟨q, q2⟩
      · exact absurd q (by decide)
      · exact absurd q (by decide)
    have er : actA W k a b P D = ((restA W a false P).1, (restA W a false P).2, D) := by
      unfold actA; rw [if_neg k0, if_neg k1, if_neg k2, if_neg k3, if_neg k4, if_pos k5]
    exact e_ob hdo1 (s_rest (aw := false) r18 ⟨lr, hdo1⟩ v1 hT ⟨hp.2.1, hp.2.2.1⟩ (fun h2 f2 z2 v2 => ⟨_, rfl, fin2 h2 _ er f2 z2 v2⟩))
  · have er : actA W k a b P D = (0, heatA a P, D) := by
      unfold actA; rw [if_neg k0, if_neg k1, if_neg k2, if_neg k3, if_neg k4, if_neg k5, if_pos k6]
    have go : ∀ y : Int32, y = (if a = 1 then 1 else 0) → q_J l (d + 4) mX0_perform mc ms Q QX h.2 141 [some (.ref 18), some (.ref r), some (.int k), some (.int a), some (.int b), some (.int 0)] [.int y, .ref r] h1 mc ms := by
      intro y hy9
      obtain ⟨o, a1, b1, c1, e1, g1, n0, t0⟩ := id v1
      have y01 : y = 0 ∨ y = 1 := by
        rw [hy9]
        split
        · exact Or.inr rfl
        · exact Or.inl rfl
      refine v_X0_perform_141 18 r _ _ _ _ _ _ (e_pz y01 o (Nat.le_of_ble_eq_true rfl) (fun h2 f2 z2 o2 => ?_))
      refine fin2 h2 _ er (q_fr.rf.t1 f2 (sR_i (by omega) (by omega))) z2 ⟨?_, a1.f1 f2 (by omega), b1.f1 f2 (by omega), c1.f1 f2 (by omega), e1.f1 f2 (by omega), g1.f1 f2 (by omega), n0, ?_⟩
      · rw [hy9] at o2
        exact o2
      · rw [hy9] at y01
        exact y01
    refine ⟨fun q => go 1 ?_, fun q => go 0 ?_⟩
    · rw [if_pos q]
    · rw [if_neg q]
  · have er : actA W k a b P D = ((cleanA W P).1, (cleanA W P).2, D) := by
      unfold actA; rw [if_neg k0, if_neg k1, if_neg k2, if_neg k3, if_neg k4, if_neg k5, if_neg k6]
    exact e_ob hdo1 (s_clean r18 ⟨lr, hdo1⟩ v1 (fun h2 f2 z2 v2 => ⟨_, rfl, fin2 h2 _ er f2 z2 v2⟩))
end DO3
