/-! the law: its loop, and its body from the entry -/
theorem and31 (w : Int32) : ∃ k, k < 32 ∧ w &&& 31 = nI k := by
  refine ⟨w.toBitVec.toNat % 32, Nat.mod_lt _ (by decide), ?_⟩
  apply Int32.toBitVec_inj.mp
  apply BitVec.eq_of_toNat_eq
  rw [Int32.toBitVec_and, BitVec.toNat_and]
  show w.toBitVec.toNat &&& 31 = (w.toBitVec.toNat % 32) % 2 ^ 32
  rw [show (31 : Nat) = 2 ^ 5 - 1 from rfl, Nat.and_two_pow_sub_one_eq_mod]
  omega
theorem len7 {n L : Nat} (hL : L ≤ 3584) (hn : n ≤ 3584) : (Int32.ofNat L - 7 < nI n) ↔ ¬ (n + 7 ≤ L) := by
  have e1 : (Int32.ofNat L).toInt = (L : Int) := nI_toInt (by omega)
  rw [lt_i, fb_subI (by rw [e1, L_7]; omega) (by rw [e1, L_7]; omega), e1, L_7, nI_toInt (by omega)]
  omega
section LAWL
variable {b L : Nat} {xs : Nat → Int32} {l : Launch} {mc ms : Nat} {Q : Option Value → qH → Prop} {QX : String → qH → Prop} {n0 : Nat}
theorem law_end {h : qH} {kc ks : Nat} {lo : List (Option Value)} (hq : ∀ h', Q (some (.int 1)) h') : q_K (xL b L xs) l 11 mL_law mc ms Q QX n0 2101 lo [] h kc ks :=
  k_iconst (v := 1) dL_law_2101 (by decide) (k_zret dL_law_2102 rfl (Or.inr rfl) (hq h))
set_option maxRecDepth 20000 in
set_option maxHeartbeats 2000000 in
theorem law_step {r n : Nat} {h : qH} {A : ST} {th : Int32} {kc ks : Nat} (hl0 : l.stackTraces = false) (hL : L ≤ 3584) (hn : 7 * n + 7 ≤ L) (hk1 : (r + 1) * 216 ≤ kc) (hk2 : (r + 1) * 1600 ≤ ks) (c : CS h 83 A) (s : MSt h A th) (ok : aOk A) (o : ol h)
    (nx : ∀ (h' : qH) (A' : ST) (th' : Int32) (kc' ks' : Nat), r * 216 ≤ kc' → r * 1600 ≤ ks' → CS h' 83 A' → MSt h' A' th' → aOk A' → ol h' → q_K (xL b L xs) l 11 mL_law mc ms Q QX n0 2095 (loL (nI (7 * n))) [] h' kc' ks') :
    q_K (xL b L xs) l 11 mL_law mc ms Q QX n0 33 (loL (nI (7 * n))) [] h kc ks := by
  obtain ⟨y, ey⟩ : ∃ y : Nat → Int32, ∀ k, xs (7 * n + k) = y k := ⟨_, fun _ => rfl⟩
  have hy : ∀ k : Nat, k < 7 → vp_in (nI (7 * n) + nI k) L ∧ xs (nI (7 * n) + nI k).toNatClampNeg = y k := fun k hk => by
    rw [nI_add, nI_clamp (by omega)]
    exact ⟨vp_in_nI (by omega) (by omega), ey k⟩
  have h1 : 216 ≤ kc := by omega
  have h2 : 1600 ≤ ks := by omega
  have kn : ∀ (h' : qH) (A' : ST) (th' : Int32), CS h' 83 A' → MSt h' A' th' → aOk A' → ol h' → q_K (xL b L xs) l 11 mL_law mc ms Q QX n0 2095 (loL (nI (7 * n))) [] h' (kc - 216) (ks - 1600) :=
    fun h' A' th' c' s' ok' o' => nx h' A' th' (kc - 216) (ks - 1600) (by omega) (by omega) c' s' ok' o'
  have h0 : 7 * n < L := by omega
  refine k_aload_nF dL_law_33 rfl rfl (k_iload dL_law_34 rfl (k_sc (z := xs (7 * n)) dL_law_36 (vp_in_nI h0 (by omega)) (by rw [nI_clamp (by omega)]) (k_bipush (v := 31) dL_law_37 (by decide) (k_iand dL_law_39 ?_))))
  obtain ⟨k, hk, e⟩ := and31 (xs (7 * n))
  rw [e]
  clear e ey
  have kt : k = 0 ∨ k = 1 ∨ k = 2 ∨ k = 3 ∨ k = 4 ∨ k = 5 ∨ k = 6 ∨ k = 7 ∨ k = 8 ∨ k = 9 ∨ k = 10 ∨ k = 11 ∨ k = 12 ∨ k = 13 ∨ k = 14 ∨ k = 15 ∨ k = 16 ∨ k = 17 ∨ k = 18 ∨ k = 19 ∨ k = 20 ∨ k = 21 ∨ k = 22 ∨ k = 23 ∨ k = 24 ∨ k = 25 ∨ k = 26 ∨ k = 27 ∨ k = 28 ∨ k = 29 ∨ k = 30 ∨ k = 31 := by omega
  rcases kt with rfl | rfl | rfl | rfl | rfl | rfl | rfl | rfl | rfl | rfl | rfl | rfl | rfl | rfl | rfl | rfl | rfl | rfl | rfl | rfl | rfl | rfl | rfl | rfl | rfl | rfl | rfl | rfl | rfl | rfl | rfl | rfl
  · exact k_tableIn (tgt := 176) dL_law_40 (by decide) (by decide) rfl (by decide) (law_0 hl0 h1 h2 hy c s ok o kn)
  · exact k_tableIn (tgt := 280) dL_law_40 (by decide) (by decide) rfl (by decide) (law_1 hl0 h1 h2 hy c s ok o kn)
  · exact k_tableIn (tgt := 414) dL_law_40 (by decide) (by decide) rfl (by decide) (law_2 hl0 h1 h2 hy c s ok o kn)
  · exact k_tableIn (tgt := 494) dL_law_40 (by decide) (by decide) rfl (by decide) (law_3 hl0 h1 h2 hy c s ok o kn)
  · exact k_tableIn (tgt := 550) dL_law_40 (by decide) (by decide) rfl (by decide) (law_4 hl0 h1 h2 hy c s ok o kn)
  · exact k_tableIn (tgt := 654) dL_law_40 (by decide) (by decide) rfl (by decide) (law_5 hl0 h1 h2 hy c s ok o kn)
  · exact k_tableIn (tgt := 753) dL_law_40 (by decide) (by decide) rfl (by decide) (law_6 hl0 h1 h2 hy c s ok o kn)
  · exact k_tableIn (tgt := 845) dL_law_40 (by decide) (by decide) rfl (by decide) (law_7 hl0 h1 h2 hy c s ok o kn)
  · exact k_tableIn (tgt := 913) dL_law_40 (by decide) (by decide) rfl (by decide) (law_8 hl0 h1 h2 hy c s ok o kn)
  · exact k_tableIn (tgt := 993) dL_law_40 (by decide) (by decide) rfl (by decide) (law_9 hl0 h1 h2 hy c s ok o kn)
  · exact k_tableIn (tgt := 1049) dL_law_40 (by decide) (by decide) rfl (by decide) (law_10 hl0 h1 h2 hy c s ok o kn)
  · exact k_tableIn (tgt := 1133) dL_law_40 (by decide) (by decide) rfl (by decide) (law_11 hl0 h1 h2 hy c s ok o kn)
  · exact k_tableIn (tgt := 1201) dL_law_40 (by decide) (by decide) rfl (by decide) (law_12 hl0 h1 h2 hy c s ok o kn)
  · exact k_tableIn (tgt := 1257) dL_law_40 (by decide) (by decide) rfl (by decide) (law_13 hl0 h1 h2 hy c s ok o kn)
  · exact k_tableIn (tgt := 1325) dL_law_40 (by decide) (by decide) rfl (by decide) (law_14 hl0 h1 h2 hy c s ok o kn)
  · exact k_tableIn (tgt := 1338) dL_law_40 (by decide) (by decide) rfl (by decide) (law_15 hl0 h1 h2 hy c s ok o kn)
  · exact k_tableIn (tgt := 1430) dL_law_40 (by decide) (by decide) rfl (by decide) (law_16 hl0 h1 h2 hy c s ok o kn)
  · exact k_tableIn (tgt := 1486) dL_law_40 (by decide) (by decide) rfl (by decide) (law_17 hl0 h1 h2 hy c s ok o kn)
  · exact k_tableIn (tgt := 1554) dL_law_40 (by decide) (by decide) rfl (by decide) (law_18 hl0 h1 h2 hy c s ok o kn)
  · exact k_tableIn (tgt := 1622) dL_law_40 (by decide) (by decide) rfl (by decide) (law_19 hl0 h1 h2 hy c s ok o kn)
  · exact k_tableIn (tgt := 1678) dL_law_40 (by decide) (by decide) rfl (by decide) (law_20 hl0 h1 h2 hy c s ok o kn)
  · exact k_tableIn (tgt := 1691) dL_law_40 (by decide) (by decide) rfl (by decide) (law_21 hl0 h1 h2 hy c s ok o kn)
  · exact k_tableIn (tgt := 1704) dL_law_40 (by decide) (by decide) rfl (by decide) (law_22 hl0 h1 h2 hy c s ok o kn)
  · exact k_tableIn (tgt := 1772) dL_law_40 (by decide) (by decide) rfl (by decide) (law_23 hl0 h1 h2 hy c s ok o kn)
  · exact k_tableIn (tgt := 1828) dL_law_40 (by decide) (by decide) rfl (by decide) (law_24 hl0 h1 h2 hy c s ok o kn)
  · exact k_tableIn (tgt := 1884) dL_law_40 (by decide) (by decide) rfl (by decide) (law_25 hl0 h1 h2 hy c s ok o kn)
  · exact k_tableIn (tgt := 1940) dL_law_40 (by decide) (by decide) rfl (by decide) (law_26 hl0 h1 h2 hy c s ok o kn)
  · exact k_tableIn (tgt := 1984) dL_law_40 (by decide) (by decide) rfl (by decide) (law_27 hl0 h1 h2 hy c s ok o kn)
  · exact k_tableIn (tgt := 2040) dL_law_40 (by decide) (by decide) rfl (by decide) (law_28 hl0 h1 h2 hy c s ok o kn)
  · exact k_tableIn (tgt := 2081) dL_law_40 (by decide) (by decide) rfl (by decide) (law_29 hl0 h1 h2 hy c s ok o kn)
  · exact k_tableOut (tgt := 2095) dL_law_40 (Or.inr (by decide)) (by decide) (nx h A th kc ks (by omega) (by omega) c s ok o)
  · exact k_tableOut (tgt := 2095) dL_law_40 (Or.inr (by decide)) (by decide) (nx h A th kc ks (by omega) (by omega) c s ok o)
set_option maxRecDepth 20000 in
theorem law_loop (hl0 : l.stackTraces = false) (hL : L ≤ 3584) (hq : ∀ h', Q (some (.int 1)) h') : ∀ (r n : Nat) (h : qH) (A : ST) (th : Int32) (kc ks : Nat), n + r = 512 → r * 216 ≤ kc → r * 1600 ≤ ks → CS h 83 A → MSt h A th → aOk A → ol h →
    q_K (xL b L xs) l 11 mL_law mc ms Q QX n0 23 (loL (nI (7 * n))) [] h kc ks := by
  intro r
  induction r with
  | zero =>
    intro n h A th kc ks e hk1 hk2 c s ok o
    refine k_iload dL_law_23 rfl (k_aload_nF dL_law_25 rfl rfl (k_slen dL_law_26 (k_bipush (v := 7) dL_law_27 (by decide) (k_isub dL_law_29 (k_icmp_gt (tgt := 2101) dL_law_30 (by decide) (fun _ => law_end hq) (fun w => ?_))))))
    exact absurd ((len7 (n := 7 * n) hL (by omega)).mpr (by omega)) w
  | succ r ih =>
    intro n h A th kc ks e hk1 hk2 c s ok o
    refine k_iload dL_law_23 rfl (k_aload_nF dL_law_25 rfl rfl (k_slen dL_law_26 (k_bipush (v := 7) dL_law_27 (by decide) (k_isub dL_law_29 (k_icmp_gt (tgt := 2101) dL_law_30 (by decide) (fun _ => law_end hq) (fun w => ?_))))))
    have hn : 7 * n + 7 ≤ L := Decidable.not_not.mp (fun q => w ((len7 (n := 7 * n) hL (by omega)).mpr q))
    refine law_step hl0 hL hn hk1 hk2 c s ok o (fun h' A' th' kc' ks' q1 q2 c' s' ok' o' => ?_)
    refine k_iinc (w := nI (7 * (n + 1))) dL_law_2095 rfl ?_ (by decide) rfl rfl (k_goto (tgt := 23) dL_law_2098 (by decide) (ih (n + 1) h' A' th' kc' ks' (by omega) q1 q2 c' s' ok' o'))
    show nI (7 * n) + nI 7 = _
    rw [nI_add]
    rfl
set_option maxHeartbeats 2000000 in
theorem law_body {h : qH} (hl0 : l.stackTraces = false) (hL : L ≤ 3584) (h0 : h.2 = 0) (hmc : 111000 ≤ mc) (hms : 845000 ≤ ms) (hq : ∀ h', Q (some (.int 1)) h') : q_K (xL b L xs) l 11 mL_law mc ms Q QX n0 0 [some (.float 4), none, none, none, none, none, none, none, none] [] h mc ms := by
  refine kk_new (P := fun r h1 => r = 0 ∧ h1.2 = 1 ∧ ob h1 0 9 dfX9) (fs := dfX9) cl_X9 tyX9_ok w_cl_L_8 w_iq_X9 w_in9_X9 dL_law_0 nfX9 (q_pl_wf rfl) (kc' := mc - 1) (ks' := ms - 11) (by omega) (by omega) ⟨h0, congrArg (· + 1) h0, show 0 < h.2 + 1 from Nat.succ_pos _, if_pos h0.symm⟩ ?_
  rintro r h1 ⟨rfl, e1, o1⟩
  refine k_dup dL_law_3 rfl ?_
  refine k_special (QZ := fun v h' => v = none ∧ h'.2 = 49 ∧ CS h' 83 A0) (QXZ := fun _ _ => False) (avs := []) (rest := [.ref 0]) (i := 0) (d' := 10) (mc' := 48) (ms' := 9953) (kc' := mc - 49) (ks' := ms - 9964) dL_law_4 mt_X9_init rfl rfl w_m_L_99 w_in_X9_init rfl rfl (Nat.le_of_ble_eq_true rfl) (by decide) (by omega) (by omega) (c_init (d := 5) (B := 83) (by decide) (by decide) o1 e1 (fun h' _ e c => ⟨rfl, e, c⟩)) (fun _ _ q => q) ?_
  rintro _ h2 ⟨rfl, e2, c2⟩ -
  refine k_astore_n dL_law_7 rfl (by decide) rfl rfl ?_
  refine kk_new (P := fun r h3 => r = 49 ∧ h3.2 = 50 ∧ ob h3 49 10 dfX10 ∧ q_fr (fun _ => False) h2 h3) (fs := dfX10) cl_X10 tyX10_ok w_cl_L_100 w_iq_X10 w_in9_X10 dL_law_8 nfX10 (q_pl_wf rfl) (kc' := mc - 50) (ks' := ms - 9989) (by omega) (by omega) ⟨e2, congrArg (· + 1) e2, ⟨show 49 < h2.2 + 1 by omega, if_pos e2.symm⟩, Nat.le_succ _, fun i hi _ => if_neg (Nat.ne_of_lt hi)⟩ ?_
  rintro r h3 ⟨rfl, e3, o3, f3⟩
  have c3 : CS h3 83 A0 := CS_fr c2 f3 (fun i q => q.elim)
  refine k_dup dL_law_11 rfl ?_
  refine k_specialX (QZ := fun v h' => v = none ∧ q_fr (fun j => j = 49) h3 h' ∧ h'.2 = 82 ∧ (∃ wy, MB h' W0 0 0 0 wy) ∧ MR h' 55 P0 D0 ∧ arA h' 56 594 ∧ ML h' 57 L0 ∧ MMk h' A0 ∧ arA h' 81 594) (QXZ := fun _ _ => False) (avs := []) (rest := [.ref 49]) (i := 49) (d' := 10) (mc' := 32) (ms' := 11754) (kc' := mc - 82) (ks' := ms - 21743) dL_law_12 mt_X10_init rfl rfl w_m_L_102 w_in_X10_init rfl rfl (Nat.le_of_ble_eq_true rfl) (by decide) (by omega) (by omega) (m_init (d := 9) (by decide) (by decide) o3 e3 (fun h' f e b1 b2 b3 b4 b5 b6 => ⟨rfl, f, e, b1, b2, b3, b4, b5, b6⟩)) (fun _ _ q => q) ?_
  rintro _ h4 ⟨rfl, f4, e4, ⟨wy, b1⟩, b2, b3, b4, b5, b6⟩ -
  have c4 : CS h4 83 A0 := CS_fr c3 f4 (fun i q => by omega)
  refine k_astore_n dL_law_15 rfl (by decide) rfl rfl ?_
  refine k_iconst (v := 1) dL_law_16 (by decide) ?_
  refine kk_newL (P := fun r h5 => r = 82 ∧ h5.2 = 83 ∧ (∃ f : Nat → Int64, h5.1 82 = .inl (1, (1, .inr (.inl f)))) ∧ q_fr (fun _ => False) h4 h5) (N := 1) w_ac_long9 dL_law_17 (by decide) (by decide) (by decide) (kc' := mc - 83) (ks' := ms - 21744) (by omega) (by omega) ⟨e4, congrArg (· + 1) e4, ⟨_, if_pos e4.symm⟩, Nat.le_succ _, fun i hi _ => if_neg (Nat.ne_of_lt hi)⟩ ?_
  rintro r h5 ⟨rfl, e5, ⟨f, o5⟩, f5⟩
  refine k_astore_n dL_law_19 rfl (by decide) rfl rfl ?_
  refine k_iconst (v := 0) dL_law_20 (by decide) ?_
  refine k_istore dL_law_21 (by decide) rfl rfl ?_
  refine law_loop hl0 hL hq 512 0 h5 A0 0 _ _ rfl (by omega) (by omega) (CS_fr c4 f5 (fun i q => q.elim)) ?_ aOk0 ⟨by omega, f, o5⟩
  exact ⟨by omega, ⟨wy, b1.fr f5 (fun i _ _ q => q.elim) (fun i _ _ q => q.elim)⟩, b2.fr f5 (fun q => q.elim), b3.fr f5 (fun q => q.elim), b4.fr f5 (fun q => q.elim), b5.fr f5 (fun i _ _ q => q.elim) rfl rfl rfl rfl, b6.fr f5 (fun q => q.elim)⟩
end LAWL
