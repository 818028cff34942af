/-! the search of the class, from both sides -/
section WY2
variable {l : Launch} {d mc ms : Nat} {Q : Option Value → qH → Prop} {QX : String → qH → Prop} {h : qH} {H R Z M : Nat → Int32} {s x y : Int32}
theorem s_measureTo {o : Nat} (hg : gnd h H R Z (sp_M H R Z s) s) (gok : gOk H R) (hw : wyr h) (ho : o < 576) (hq : ∀ h', q_fr wS h h' → h'.2 = h.2 → lc (B_to H R Z s) o (theC (B_to H R Z s) o) → wys h' (theC (B_to H R Z s) o) → Q none h') : q_Ct l (d + 2) mX8_measureTo [.ref 6, .int (nI o)] h mc ms Q QX := by
  have hB : gB (B_to H R Z s) := gB_to gok
  have far : FARn = 1000000 := rfl
  have wob := hw.1
  obtain ⟨m0, w0⟩ := wob
  refine v_X8_measureTo 6 (nI o) (e_ob w0 (s_wbegin hw ho (fun h1 fr1 z1 y1 => ⟨rfl, ?_⟩)))
  have fin : ∀ n h', (∃ gs f c, q_fr wS h h' ∧ h'.2 = h.2 ∧ way h' c f 0 ∧ DO (B_to H R Z s) o n gs 0 f c) → Q none h' := by
    rintro n h' ⟨gs, f, c, f1, f2, y, D⟩
    have L := DO_end hB D
    have y2 := y.wys
    refine hq h' f1 f2 (theC_lc hB L) ⟨y2.1, y2.2.1.to (fun p hp => ?_), y2.2.2⟩
    have e := theC_is hB L hp
    unfold cv
    rw [e]
    by_cases q : c p < FARn
    · rw [if_pos q, if_pos (by omega), show min (c p) FARn = c p by omega]
    · rw [if_neg q, if_neg (by omega)]
  have inner : ∀ n v, n < 576 → v < 576 → (∀ h', (∃ gs m f c, q_fr wS h h' ∧ h'.2 = h.2 ∧ way h' c f m ∧ DO (B_to H R Z s) o (n + 1) gs m f c) → q_J l (d + 2) mX8_measureTo mc ms Q QX h.2 7 [some (.ref 6), some (.int (nI o)), some (.int (nI (n + 1))), none, none, none] [] h' mc ms) →
      ∀ (k : Nat) (h' : qH), k ≤ 8 → (∃ gs m f c, q_fr wS h h' ∧ h'.2 = h.2 ∧ way h' c f m ∧ DN (B_to H R Z s) o n gs m f c v k) → q_J l (d + 2) mX8_measureTo mc ms Q QX h.2 29 [some (.ref 6), some (.int (nI o)), some (.int (nI n)), some (.int (nI v)), some (.int (nI k)), none] [] h' mc ms := by
    intro n v hn hv hout
    refine q_loop (fun k h' => q_J l (d + 2) mX8_measureTo mc ms Q QX h.2 29 [some (.ref 6), some (.int (nI o)), some (.int (nI n)), some (.int (nI v)), some (.int (nI k)), none] [] h' mc ms) (fun k h' => ∃ gs m f c, q_fr wS h h' ∧ h'.2 = h.2 ∧ way h' c f m ∧ DN (B_to H R Z s) o n gs m f c v k) 8 ?_ ?_
    · rintro h' ⟨gs, m, f, c, f1, f2, y, D⟩
      refine v_X8_measureTo_29 6 _ _ _ (nI 8) ⟨fun _ => ?_, fun q => absurd (Int32.le_refl _) q⟩
      rw [nI_1]
      exact hout h' ⟨gs, m, f, c, f1, f2, y, DN_end hB D⟩
    · rintro k h' hk ⟨gs, m, f, c, f1, f2, y, D⟩ ih
      have g1 : gnd h' H R Z (sp_M H R Z s) s := hg.fr f1 (fun i a b => by unfold wS; omega)
      have hvc : c v < FARn := (D.1.2.2.2.2.2.2.2.1 v hv).mpr (Or.inl ⟨n, by omega, D.2.1⟩)
      have sm : ∀ x, x < 576 → c x < FARn → c x ≤ 46656 := fun x hx hc => DJ_small hB D.1 hx hc
      have room := DJ_room D.1
      refine v_X8_measureTo_29 6 _ _ _ (nI k) ⟨fun q => absurd q (nI_ge hk (by decide)), fun _ => ?_⟩
      have ek : nI k + 4 - (nI k + 4) / 8 * 8 = nI (opp k) := by
        rw [show (4 : Int32) = nI 4 from rfl, nI_add]
        exact pk_rem (by omega) (by decide) (by decide)
      rw [ek]
      have only : ∀ u w, B_to H R Z s k u v w → nP v (opp k) ∧ nb v (opp k) = u ∧ w = wt H R u k := fun u w b => by
        have w9 := (stW_wt gok b).1
        obtain ⟨-, b2, b3, b4, -, -⟩ := b
        have q := nb_opp b2 hk b3.1
        rw [b4] at q
        exact ⟨q.1, q.2, w9⟩
      by_cases hn : nP v (opp k)
      rotate_left
      · refine s_neighbourOf_f hv opp_lt hn ⟨_, rfl, e_gr y.1 rfl (e_ob g1.1 (s_minutesOf_f ⟨_, rfl, e_ob y.1 (s_reach_n ⟨rfl, ?_⟩)⟩))⟩
        rw [nI_1]
        exact ih h' ⟨gs, m, f, c, f1, f2, y, DN_skip D (fun u w b => absurd (only u w b).1 hn)⟩
      have hu : nb v (opp k) < 576 := nb_lt hn
      refine s_neighbourOf_t hv opp_lt hn ⟨_, rfl, e_gr y.1 rfl (e_ob g1.1 (s_minutesOf g1 hu hk ⟨_, rfl, e_ob y.1 ?_⟩))⟩
      rw [sp_M_at hk, sp_stp]
      by_cases hc : sp_can H Z s (px (nb v (opp k))) (py (nb v (opp k))) k
      · rw [if_pos hc]
        have wk := wt_ok gok hu hc
        have bb : B_to H R Z s k (nb v (opp k)) v (wt H R (nb v (opp k)) k) := by
          have q := stW_of gok hk hu hc
          have e := nb_opp hv opp_lt hn
          rw [opp_opp hk] at e
          rw [e.2] at q
          exact q
        rw [wk.1]
        refine s_reach y hu hv (sm v hv hvc) (fun q => sm _ hu q) wk.2.2 (by omega) (fun q => ?_) (fun h2 fr2 z2 y2 => ⟨rfl, ?_⟩)
        · have r2 := DJ_room D.1
          omega
        · rw [nI_1]
          refine ih h2 ⟨gs, _, _, _, f1.tr fr2 (fun _ _ q => q) (fun _ _ q => q), z2.trans f2, y2, DN_relax hB D bb (fun u w b => ?_)⟩
          obtain ⟨-, rfl, rfl⟩ := only u w b
          exact ⟨rfl, rfl⟩
      · rw [if_neg hc]
        refine s_reach_n ⟨rfl, ?_⟩
        rw [nI_1]
        refine ih h' ⟨gs, m, f, c, f1, f2, y, DN_skip D (fun u w b => absurd ?_ hc)⟩
        have q := (only u w b).2.1
        rw [q]
        exact b.2.2.1
  have key := q_loop (fun n h' => q_J l (d + 2) mX8_measureTo mc ms Q QX h.2 7 [some (.ref 6), some (.int (nI o)), some (.int (nI n)), none, none, none] [] h' mc ms) (fun n h' => ∃ gs m f c, q_fr wS h h' ∧ h'.2 = h.2 ∧ way h' c f m ∧ DO (B_to H R Z s) o n gs m f c) 576 ?_ ?_
  · exact key 0 h1 (by omega) ⟨fun _ => 0, 1, _, _, fr1, z1, y1, DO_begin ho rfl (if_pos rfl) (fun u _ q => if_neg q)⟩
  · rintro h' ⟨gs, m, f, c, f1, f2, y, D⟩
    have := DJ_room D.1
    have m0 : m = 0 := by omega
    subst m0
    exact v_X8_measureTo_7 6 _ (nI 576) ⟨fun _ => fin _ h' ⟨gs, f, c, f1, f2, y, D⟩, fun q => absurd (Int32.le_refl _) q⟩
  · rintro n h' hn ⟨gs, m, f, c, f1, f2, y, D⟩ ih
    have room := DJ_room D.1
    refine v_X8_measureTo_7 6 _ (nI n) ⟨fun q => absurd q (nI_ge hn (by decide)), fun _ => ?_⟩
    refine e_gi y.1 rfl ⟨fun q => ?_, fun q => ?_⟩
    · by_cases m0 : m = 0
      · subst m0
        exact fin _ h' ⟨gs, f, c, f1, f2, y, D⟩
      · exact absurd q (nI_nle (by omega) (by omega))
    · have m0 : 0 < m := by
        by_cases m0 : m = 0
        · subst m0; exact absurd (by decide) q
        · omega
      refine e_ob y.1 (s_take y m0 (by omega) (fun j hj => ⟨D.1.2.2.2.1 j hj, (D.1.2.2.2.2.2.2.2.1 _ (D.1.2.2.2.1 j hj)).mpr (Or.inr ⟨j, hj, rfl⟩)⟩) (fun h2 j fr2 z2 hj hmin y2 => ⟨_, rfl, ?_⟩))
      exact inner n (f j) hn (D.1.2.2.2.1 j hj) (fun h' hI => ih h' hI) 0 h2 (by omega) ⟨_, _, _, _, f1.tr fr2 (fun _ _ q => q) (fun _ _ q => q), z2.trans f2, y2, DO_take D hj hmin⟩
theorem s_measureFrom {o : Nat} (hg : gnd h H R Z (sp_M H R Z s) s) (gok : gOk H R) (hw : wyr h) (ho : o < 576) (hq : ∀ h', q_fr wS h h' → h'.2 = h.2 → lc (B_fr H R Z s) o (theC (B_fr H R Z s) o) → wys h' (theC (B_fr H R Z s) o) → Q none h') : q_Ct l (d + 2) mX8_measureFrom [.ref 6, .int (nI o)] h mc ms Q QX := by
  have hB : gB (B_fr H R Z s) := gB_fr gok
  have far : FARn = 1000000 := rfl
  have wob := hw.1
  obtain ⟨m0, w0⟩ := wob
  refine v_X8_measureFrom 6 (nI o) (e_ob w0 (s_wbegin hw ho (fun h1 fr1 z1 y1 => ⟨rfl, ?_⟩)))
  have fin : ∀ n h', (∃ gs f c, q_fr wS h h' ∧ h'.2 = h.2 ∧ way h' c f 0 ∧ DO (B_fr H R Z s) o n gs 0 f c) → Q none h' := by
    rintro n h' ⟨gs, f, c, f1, f2, y, D⟩
    have L := DO_end hB D
    have y2 := y.wys
    refine hq h' f1 f2 (theC_lc hB L) ⟨y2.1, y2.2.1.to (fun p hp => ?_), y2.2.2⟩
    have e := theC_is hB L hp
    unfold cv
    rw [e]
    by_cases q : c p < FARn
    · rw [if_pos q, if_pos (by omega), show min (c p) FARn = c p by omega]
    · rw [if_neg q, if_neg (by omega)]
  have inner : ∀ n v, n < 576 → v < 576 → (∀ h', (∃ gs m f c, q_fr wS h h' ∧ h'.2 = h.2 ∧ way h' c f m ∧ DO (B_fr H R Z s) o (n + 1) gs m f c) → q_J l (d + 2) mX8_measureFrom mc ms Q QX h.2 7 [some (.ref 6), some (.int (nI o)), some (.int (nI (n + 1))), none, none, none] [] h' mc ms) →
      ∀ (k : Nat) (h' : qH), k ≤ 8 → (∃ gs m f c, q_fr wS h h' ∧ h'.2 = h.2 ∧ way h' c f m ∧ DN (B_fr H R Z s) o n gs m f c v k) → q_J l (d + 2) mX8_measureFrom mc ms Q QX h.2 29 [some (.ref 6), some (.int (nI o)), some (.int (nI n)), some (.int (nI v)), some (.int (nI k)), none] [] h' mc ms := by
    intro n v hn hv hout
    refine q_loop (fun k h' => q_J l (d + 2) mX8_measureFrom mc ms Q QX h.2 29 [some (.ref 6), some (.int (nI o)), some (.int (nI n)), some (.int (nI v)), some (.int (nI k)), none] [] h' mc ms) (fun k h' => ∃ gs m f c, q_fr wS h h' ∧ h'.2 = h.2 ∧ way h' c f m ∧ DN (B_fr H R Z s) o n gs m f c v k) 8 ?_ ?_
    · rintro h' ⟨gs, m, f, c, f1, f2, y, D⟩
      refine v_X8_measureFrom_29 6 _ _ _ (nI 8) ⟨fun _ => ?_, fun q => absurd (Int32.le_refl _) q⟩
      rw [nI_1]
      exact hout h' ⟨gs, m, f, c, f1, f2, y, DN_end hB D⟩
    · rintro k h' hk ⟨gs, m, f, c, f1, f2, y, D⟩ ih
      have g1 : gnd h' H R Z (sp_M H R Z s) s := hg.fr f1 (fun i a b => by unfold wS; omega)
      have hvc : c v < FARn := (D.1.2.2.2.2.2.2.2.1 v hv).mpr (Or.inl ⟨n, by omega, D.2.1⟩)
      have sm : ∀ x, x < 576 → c x < FARn → c x ≤ 46656 := fun x hx hc => DJ_small hB D.1 hx hc
      have room := DJ_room D.1
      refine v_X8_measureFrom_29 6 _ _ _ (nI k) ⟨fun q => absurd q (nI_ge hk (by decide)), fun _ => ?_⟩
      have only : ∀ u w, B_fr H R Z s k u v w → nP v k ∧ nb v k = u ∧ w = wt H R v k := fun u w b => by
        have w9 := (stW_wt gok b).1
        obtain ⟨-, b2, b3, b4, -, -⟩ := b
        exact ⟨b3.1, b4, w9⟩
      by_cases hn : nP v k
      rotate_left
      · have hc : ¬ sp_can H Z s (px v) (py v) k := fun q => hn q.1
        refine s_neighbourOf_f hv hk hn ⟨_, rfl, e_gr y.1 rfl (e_ob g1.1 (s_minutesOf g1 hv hk ⟨_, rfl, e_ob y.1 ?_⟩))⟩
        rw [sp_M_at hk, sp_stp, if_neg hc]
        refine s_reach_n ⟨rfl, ?_⟩
        rw [nI_1]
        exact ih h' ⟨gs, m, f, c, f1, f2, y, DN_skip D (fun u w b => absurd (only u w b).1 hn)⟩
      have hu : nb v k < 576 := nb_lt hn
      refine s_neighbourOf_t hv hk hn ⟨_, rfl, e_gr y.1 rfl (e_ob g1.1 (s_minutesOf g1 hv hk ⟨_, rfl, e_ob y.1 ?_⟩))⟩
      rw [sp_M_at hk, sp_stp]
      by_cases hc : sp_can H Z s (px v) (py v) k
      · rw [if_pos hc]
        have wk := wt_ok gok hv hc
        have bb : B_fr H R Z s k (nb v k) v (wt H R v k) := stW_of gok hk hv hc
        rw [wk.1]
        refine s_reach y hu hv (sm v hv hvc) (fun q => sm _ hu q) wk.2.2 (by omega) (fun q => ?_) (fun h2 fr2 z2 y2 => ⟨rfl, ?_⟩)
        · have r2 := DJ_room D.1
          omega
        · rw [nI_1]
          refine ih h2 ⟨gs, _, _, _, f1.tr fr2 (fun _ _ q => q) (fun _ _ q => q), z2.trans f2, y2, DN_relax hB D bb (fun u w b => ?_)⟩
          obtain ⟨-, rfl, rfl⟩ := only u w b
          exact ⟨rfl, rfl⟩
      · rw [if_neg hc]
        refine s_reach_n ⟨rfl, ?_⟩
        rw [nI_1]
        refine ih h' ⟨gs, m, f, c, f1, f2, y, DN_skip D (fun u w b => absurd ?_ hc)⟩
        exact b.2.2.1
  have key := q_loop (fun n h' => q_J l (d + 2) mX8_measureFrom mc ms Q QX h.2 7 [some (.ref 6), some (.int (nI o)), some (.int (nI n)), none, none, none] [] h' mc ms) (fun n h' => ∃ gs m f c, q_fr wS h h' ∧ h'.2 = h.2 ∧ way h' c f m ∧ DO (B_fr H R Z s) o n gs m f c) 576 ?_ ?_
  · exact key 0 h1 (by omega) ⟨fun _ => 0, 1, _, _, fr1, z1, y1, DO_begin ho rfl (if_pos rfl) (fun u _ q => if_neg q)⟩
  · rintro h' ⟨gs, m, f, c, f1, f2, y, D⟩
    have := DJ_room D.1
    have m0 : m = 0 := by omega
    subst m0
    exact v_X8_measureFrom_7 6 _ (nI 576) ⟨fun _ => fin _ h' ⟨gs, f, c, f1, f2, y, D⟩, fun q => absurd (Int32.le_refl _) q⟩
  · rintro n h' hn ⟨gs, m, f, c, f1, f2, y, D⟩ ih
    have room := DJ_room D.1
    refine v_X8_measureFrom_7 6 _ (nI n) ⟨fun q => absurd q (nI_ge hn (by decide)), fun _ => ?_⟩
    refine e_gi y.1 rfl ⟨fun q => ?_, fun q => ?_⟩
    · by_cases m0 : m = 0
      · subst m0
        exact fin _ h' ⟨gs, f, c, f1, f2, y, D⟩
      · exact absurd q (nI_nle (by omega) (by omega))
    · have m0 : 0 < m := by
        by_cases m0 : m = 0
        · subst m0; exact absurd (by decide) q
        · omega
      refine e_ob y.1 (s_take y m0 (by omega) (fun j hj => ⟨D.1.2.2.2.1 j hj, (D.1.2.2.2.2.2.2.2.1 _ (D.1.2.2.2.1 j hj)).mpr (Or.inr ⟨j, hj, rfl⟩)⟩) (fun h2 j fr2 z2 hj hmin y2 => ⟨_, rfl, ?_⟩))
      exact inner n (f j) hn (D.1.2.2.2.1 j hj) (fun h' hI => ih h' hI) 0 h2 (by omega) ⟨_, _, _, _, f1.tr fr2 (fun _ _ q => q) (fun _ _ q => q), z2.trans f2, y2, DO_take D hj hmin⟩
end WY2
