/-! THE LAW'S GROUND: ten changes and the slope -/
def B9 (k : Nat) (H : Nat → Int32) : Prop := ∀ p, p < 576 → -(9 * min k 6 : Int) ≤ (H p).toInt ∧ (H p).toInt ≤ 9 * min k 6
def R3 (R : Nat → Int32) : Prop := ∀ p, p < 576 → 0 ≤ (R p).toInt ∧ (R p).toInt ≤ 3
theorem B9_hOk {k : Nat} {H : Nat → Int32} (b : B9 k H) : hOk H := fun p hp => by have := b p hp; omega
theorem aOk_AG {H R Z : Nat → Int32} {s : Int32} (hH : hOk H) (hR : R3 R) : aOk (AG H R Z s) := aOk_W (W' := WG H R Z s) aOk0 (wOk_mk aOk0.1 ⟨hH, hR⟩) (Nat.le_refl _)
theorem B9_up {k a0 a1 b0 b1 : Nat} {H : Nat → Int32} {w : Int32} (b : B9 k H) (hk : k < 6) (hw : -7 ≤ w.toInt ∧ w.toInt ≤ 9) : sp_ok H a0 a1 b0 b1 w ∧ B9 (k + 1) (sp_up H a0 a1 b0 b1 w) := by
  refine ⟨fun p hp _ => by have := b p hp; omega, fun p hp => ?_⟩
  have q := b p hp
  unfold sp_up
  by_cases c : inR a0 a1 b0 b1 p
  · rw [if_pos c]
    have e : (H p + w).toInt = (H p).toInt + w.toInt := fb_addI (by omega) (by omega)
    rw [e]; omega
  · rw [if_neg c]; omega
theorem R3_set {a0 a1 b0 b1 r : Nat} {R : Nat → Int32} (b : R3 R) (hr : r < 4) : R3 (sp_set R a0 a1 b0 b1 (nI r)) := fun p hp => by
  unfold sp_set
  by_cases c : inR a0 a1 b0 b1 p
  · rw [if_pos c, nI_toInt (by omega)]; omega
  · rw [if_neg c]; exact b p hp
section GR2
variable {l : Launch} {d mc ms : Nat} {Q : Option Value → qH → Prop} {QX : String → qH → Prop} {h : qH}
theorem s_ground (hl0 : l.stackTraces = false) (hkc : 20 ≤ mc) (hks : 2000 ≤ ms) (c : CS h 49 A0) (hr : h.2 = 56)
    (hq : ∀ h' H R Z s, q_fr (clS 49) h h' → 57 ≤ h'.2 → CS h' 49 (AG H R Z s) → aOk (AG H R Z s) → GV h' 56 H R Z s → Q (some (.ref 56)) h') : q_Ct l (d + 7) mL_ground [.ref 0, .float 4, .int 0] h mc ms Q QX := by
  refine v_L_ground (by omega) (by omega) 0 0 (e_nin (n := 56) hr (fun h1 f1 z1 a1 => ?_))
  refine e_as (k := 1728) a1 rfl (by decide) (by decide) (fun h2 f2 z2 a2 => ?_)
  have g2 : GV h2 56 (fun _ => 0) (fun _ => 0) (fun _ => 0) 12 := a2.to (fun j hj => by
    by_cases e : j = 1728
    · subst e; rw [pk_us, gF_s]
    · rw [pk_un e]
      unfold gF
      by_cases c1 : j < 576
      · rw [if_pos c1]
      · rw [if_neg c1]
        by_cases c2 : j < 1152
        · rw [if_pos c2]
        · rw [if_neg c2, if_pos (by omega)]; show (0 : Int32) = zb 0; decide)
  have c2 : CS h2 49 A0 := CS_law (CS_law c (f1 (fun _ => False)) (fun i q => q.elim)) f2 (fun i q => by omega)
  have F2 : q_fr (clS 49) h h2 := (f1 (clS 49)).tr f2 (fun i _ q => q) (fun i hi q => by omega)
  refine q_loop (fun k (st : qH × Nat × Nat) => q_J l (d + 7) mL_ground mc ms Q QX h.2 16 [some (.ref 0), some (.float 4), some (.int 0), some (.ref 56), some (.int (nI k)), none, none, none, none, none, none, none, none, none] [] st.1 st.2.1 st.2.2) (fun k st => q_fr (clS 49) h st.1 ∧ 57 ≤ st.1.2 ∧ (∃ H R Z, CS st.1 49 (AG H R Z 12) ∧ B9 k H ∧ R3 R ∧ GV st.1 56 H R Z 12) ∧ 11 - k ≤ st.2.1 ∧ 6 * (11 - k) ≤ st.2.2) 10 ?_ ?_ 0 (h2, mc - 1, ms - 1729) (by omega) ⟨F2, by show 57 ≤ h2.2; omega, ⟨fun _ => 0, fun _ => 0, fun _ => 0, c2, fun p _ => by rw [L_0]; omega, fun p _ => by rw [L_0]; omega, g2⟩, by show 11 - 0 ≤ mc - 1; omega, by show 6 * (11 - 0) ≤ ms - 1729; omega⟩
  · rintro ⟨h3, kc, ks⟩ ⟨f3, z3, ⟨H, R, Z, c3, bH, bR, g3⟩, b1, b2⟩
    dsimp only at f3 z3 c3 bH bR g3 b1 b2 ⊢
    have ok := aOk_AG (Z := Z) (s := 12) (B9_hOk bH) bR
    refine v_L_ground_16 (by omega) (by omega) 0 0 56 (nI 10) ⟨fun _ => ?_, fun q => absurd (Int32.le_refl _) q⟩
    refine s_cell (by decide) (fun zc => ⟨_, rfl, s_below (n := 3) (by decide) (by decide) (fun z5 _ => ⟨_, rfl, ⟨fun _ => ?_, fun _ => ?_⟩⟩)⟩)
    · refine s_cell (by decide) (fun zc => ⟨_, rfl, s_below (n := 15) (by decide) (by decide) (fun s1 hs1 => ⟨_, rfl, ?_⟩)⟩)
      refine e_as (k := 1728) g3 rfl (by decide) (by decide) (fun h4 f4 z4 a4 => ?_)
      have g4 : GV h4 56 H R Z (nI s1) := a4.to gF_us
      refine e_al (k := 1728) g4 rfl (by decide) (by decide) ?_
      rw [gF_s]
      have c4 := CS_law c3 f4 (fun i q => by omega)
      have er : R_setSlope (AG H R Z 12) (nI s1) = (0, 12, AG H R Z (nI s1)) := by
        unfold R_setSlope
        rw [pif_t (isW_nI (by omega) (by decide))]
        rfl
      refine e_ob c4.o (c_setSlope (d := d) hl0 (by decide) (by decide) (by decide) c4 ok ?_)
      rw [er]
      exact rs_i (fun h5 f5 c5 => ⟨fun _ => hq h5 H R Z (nI s1) ((f3.tr f4 (fun i _ q => q) (fun i hi q => by omega)).tt f5) (by have := f5.1; omega) c5 (aOk_AG (B9_hOk bH) bR) (ar.fr g4 f5 (fun q => by unfold clS at q; omega)), fun q => absurd rfl q⟩)
    · exact hq h3 H R Z 12 f3 z3 c3 ok g3
  · rintro k ⟨h3, kc, ks⟩ hk ⟨f3, z3, ⟨H, R, Z, c3, bH, bR, g3⟩, b1, b2⟩ ih
    dsimp only at f3 z3 c3 bH bR g3 b1 b2 ⊢
    have ok := aOk_AG (Z := Z) (s := 12) (B9_hOk bH) bR
    have ek : ¬ (0 + (nI k - nI k / 8 * 8) : Int32) < 0 := by
      rw [show nI k - nI k / 8 * 8 = nI (k % 8) from pk_rem (d := 8) (by omega) (by decide) (by decide), show (0 : Int32) = nI 0 from rfl, nI_add]
      exact nI_pos (by omega)
    refine v_L_ground_16 (by omega) (by omega) 0 0 56 (nI k) ⟨fun q => absurd q (nI_ge (b := 10) hk (by decide)), fun _ => s_cell ek (fun zc => ⟨_, rfl, ?_⟩)⟩
    dsimp only
    generalize zc >>> (((nI k / 8) * 9) &&& 31) = x5
    refine s_below (n := 24) (by decide) (by decide) (fun a0 ha0 => ⟨_, rfl, s_below (n := 9) (by decide) (by decide) (fun ax hax => ⟨_, rfl, s_below (n := 24) (by decide) (by decide) (fun b0 hb0 => ⟨_, rfl, s_below (n := 9) (by decide) (by decide) (fun bx hbx => ⟨_, rfl, ?_⟩)⟩)⟩)⟩)
    dsimp only
    rw [mn23 ha0 (by omega), mn23 hb0 (by omega)]
    refine ⟨fun q6 => ?_, fun q6 => ?_⟩
    · refine s_below (n := 4) (by decide) (by decide) (fun r hr4 => ⟨_, rfl, s_below (n := 3) (by decide) (by decide) (fun z5 _ => ⟨_, rfl, ?_⟩)⟩)
      have k6 : 6 ≤ k := Classical.byContradiction fun q => absurd q6 (nI_ge (b := 6) (by omega) (by decide))
      have fin : ∀ z : Int32, z = 0 ∨ z = 1 → q_J l (d + 7) mL_ground mc ms Q QX h.2 253 [some (.ref 0), some (.float 4), some (.int 0), some (.ref 56), some (.int (nI k)), some (.int x5), some (.int (nI a0)), some (.int (nI (min (a0 + ax) 23))), some (.int (nI b0)), some (.int (nI (min (b0 + bx) 23))), some (.int (nI r)), some (.int z), some (.int (nI b0)), none] [] h3 kc ks := fun z hz => by
        refine g_pave hl0 (by omega) (by omega) c3 ok g3 hr4 hz (by omega) (by omega) (by omega) (by omega) (fun h4 f4 c4 g4 => ?_)
        rw [nI_1]
        exact ih (h4, kc - 1, ks - 6) ⟨f3.tr f4 (fun i _ q => q) (fun i hi q => by unfold clS; omega), by show 57 ≤ h4.2; have := f4.1; omega, ⟨_, _, _, c4, fun p hp => by have := bH p hp; omega, R3_set bR hr4, g4⟩, by show 11 - (k + 1) ≤ kc - 1; omega, by show 6 * (11 - (k + 1)) ≤ ks - 6; omega⟩
      exact ⟨fun _ => fin 1 (Or.inr rfl), fun _ => fin 0 (Or.inl rfl)⟩
    · refine s_below (n := 17) (by decide) (by decide) (fun w0 hw0 => ⟨_, rfl, ?_⟩)
      have k6 : k < 6 := Classical.byContradiction fun q => q6 (by rw [le_i, L_6, nI_toInt (by omega)]; omega)
      have ew : (nI w0 - 7 : Int32).toInt = (w0 : Int) - 7 := by
        rw [fb_subI (by rw [nI_toInt (by omega), L_7]; omega) (by rw [nI_toInt (by omega), L_7]; omega), nI_toInt (by omega), L_7]
      have up := B9_up (a0 := a0) (a1 := min (a0 + ax) 23) (b0 := b0) (b1 := min (b0 + bx) 23) (w := nI w0 - 7) bH k6 (by rw [ew]; omega)
      refine g_raise hl0 (by omega) (by omega) c3 ok g3 up.1 (by omega) (by omega) (by omega) (by omega) (fun h4 f4 c4 g4 => ?_)
      rw [nI_1]
      exact ih (h4, kc - 1, ks - 6) ⟨f3.tr f4 (fun i _ q => q) (fun i hi q => by unfold clS; omega), by show 57 ≤ h4.2; have := f4.1; omega, ⟨_, _, _, c4, up.2, bR, g4⟩, by show 11 - (k + 1) ≤ kc - 1; omega, by show 6 * (11 - (k + 1)) ≤ ks - 6; omega⟩
end GR2
