/-! what the constructors make -/
def P0 : PH := PH.mk 0 0 0 3000 (-20) 100 0
def D0 : DT := DT.mk 0 0 0 (fun _ => 0) (fun _ => 0) (fun _ => 0) (fun _ => 0) (fun _ => 0) (fun _ => 0)
def L0 : PL := PL.mk 0 (fun _ => 0) (fun _ => 0) (fun _ => 0)
def W0 : WS := WS.mk (fun _ => 0) (fun _ => 0) (fun _ => 0) 12 0 (fun _ => 0) (fun _ => 0) (fun _ => 0) (fun _ => 0) 0 (fun _ => 0) (fun _ => 0) (fun _ => 0) 4000 800
def A0 : ST := ST.mk W0 P0 D0 L0 0 (fun _ => P0) (fun _ => D0) (fun _ => L0)
section CT
variable {h : qH} {n N ci i k r : Nat} {fs : List Value} {P : Nat → qH → Prop}
theorem e_nmn (hn : h.2 = n) (hp : ∀ h', (∀ S : Nat → Prop, q_fr S h h') → h'.2 = n + 1 → h'.1 n = .inl (3, (N, .inr (.inr (.inr (.inr (fun _ => none)))))) → P n h') : qNM h N P := by
  subst hn
  exact hp _ (fun S => ⟨Nat.le_succ _, fun i hi _ => if_neg (Nat.ne_of_lt hi)⟩) rfl (if_pos rfl)
end CT
theorem ar.N0 {h : qH} {i N : Nat} {G : Nat → Int32} (a : ar h i N (fun _ => 0)) : arN h i N 0 G := ⟨_, a, fun j hj => absurd hj (Nat.not_lt_zero j)⟩
section CT2
variable {l : Launch} {d mc ms : Nat} {Q : Option Value → qH → Prop} {QX : String → qH → Prop} {h : qH} {r : Nat}
theorem s_iR (hkc : 5 ≤ mc) (hks : 544 ≤ ms) (o : ob h r 6 dfX6) (hr : h.2 = r + 1) (hq : ∀ h', q_fr (fun j => j = r) h h' → h'.2 = r + 6 → RV h' r P0 D0 → Q none h') : q_Ct l (d + 1) mX6_init [.ref r] h mc ms Q QX := by
  refine v_X6_init hkc hks r (e_pi o (Nat.le_of_ble_eq_true rfl) (fun h1 f1 z1 o1 => e_pi o1 (Nat.le_of_ble_eq_true rfl) (fun h2 f2 z2 o2 => e_pi o2 (Nat.le_of_ble_eq_true rfl) (fun h3 f3 z3 o3 => ?_))))
  refine e_nin (n := r + 1) (by omega) (fun h4 f4 z4 a1 => e_pr (ob.fr o3 (f4 (fun _ => False)) (fun q => q)) (Nat.le_of_ble_eq_true rfl) (fun h5 f5 z5 o5 => ?_))
  refine e_nin (n := r + 2) (by omega) (fun h6 f6 z6 a2 => e_pr (ob.fr o5 (f6 (fun _ => False)) (fun q => q)) (Nat.le_of_ble_eq_true rfl) (fun h7 f7 z7 o7 => ?_))
  refine e_nin (n := r + 3) (by omega) (fun h8 f8 z8 a3 => e_pr (ob.fr o7 (f8 (fun _ => False)) (fun q => q)) (Nat.le_of_ble_eq_true rfl) (fun h9 f9 z9 o9 => ?_))
  refine e_nin (n := r + 4) (by omega) (fun h10 f10 z10 a4 => e_pr (ob.fr o9 (f10 (fun _ => False)) (fun q => q)) (Nat.le_of_ble_eq_true rfl) (fun h11 f11 z11 o11 => ?_))
  refine e_nin (n := r + 5) (by omega) (fun h12 f12 z12 a5 => e_pr (ob.fr o11 (f12 (fun _ => False)) (fun q => q)) (Nat.le_of_ble_eq_true rfl) (fun h13 f13 z13 o13 => ?_))
  have e10 := (f11.tt (f12 _)).tt f13
  have e8 := (f9.tt (f10 _)).tt e10
  have e6 := (f7.tt (f8 _)).tt e8
  have e4 := (f5.tt (f6 _)).tt e6
  refine hq h13 ((((f1.tt f2).tt f3).tt (f4 _)).tt e4) (by omega) ⟨o13, (a1.fr e4 (by omega)).N0, (a2.fr e6 (by omega)).N0, (a3.fr e8 (by omega)).N0, (a4.fr e10 (by omega)).N0, ⟨_, a5.fr f13 (by omega), fun j _ => ?_⟩, Nat.zero_le _, Or.inl rfl⟩
  show (0 : Int32) = 0 ||| (if (0 : Int32) = 0 then 0 else 512)
  decide
theorem s_iL (hkc : 3 ≤ mc) (hks : 120 ≤ ms) (o : ob h r 5 dfX5) (hr : h.2 = r + 1) (hq : ∀ h', q_fr (fun j => j = r) h h' → h'.2 = r + 4 → PV h' r L0 → Q none h') : q_Ct l (d + 1) mX5_init [.ref r] h mc ms Q QX := by
  refine v_X5_init hkc hks r ?_
  refine e_nin (n := r + 1) (by omega) (fun h4 f4 z4 a1 => e_pr (ob.fr o (f4 (fun _ => False)) (fun q => q)) (Nat.le_of_ble_eq_true rfl) (fun h5 f5 z5 o5 => ?_))
  refine e_nin (n := r + 2) (by omega) (fun h6 f6 z6 a2 => e_pr (ob.fr o5 (f6 (fun _ => False)) (fun q => q)) (Nat.le_of_ble_eq_true rfl) (fun h7 f7 z7 o7 => ?_))
  refine e_nin (n := r + 3) (by omega) (fun h8 f8 z8 a3 => e_pr (ob.fr o7 (f8 (fun _ => False)) (fun q => q)) (Nat.le_of_ble_eq_true rfl) (fun h9 f9 z9 o9 => ?_))
  have e6 := (f7.tt (f8 _)).tt f9
  have e4 := (f5.tt (f6 _)).tt e6
  exact hq h9 ((f4 _).tt e4) (by omega) ⟨o9, (a1.fr e4 (by omega)).N0, (a2.fr e6 (by omega)).N0, (a3.fr f9 (by omega)).N0, Nat.zero_le _⟩
theorem s_iT (hkc : 4 ≤ mc) (hks : 48 ≤ ms) (o : ob h 9 7 dfX7) (hr : h.2 = 10) (hq : ∀ h', q_fr (fun j => j = 9) h h' → h'.2 = 14 → tgt h' W0 → Q none h') : q_Ct l (d + 1) mX7_init [.ref 9] h mc ms Q QX := by
  refine v_X7_init hkc hks 9 ?_
  refine e_nin (n := 10) (by omega) (fun h4 f4 z4 a1 => e_pr (ob.fr o (f4 (fun _ => False)) (fun q => q)) (Nat.le_of_ble_eq_true rfl) (fun h5 f5 z5 o5 => ?_))
  refine e_nin (n := 11) (by omega) (fun h6 f6 z6 a2 => e_pr (ob.fr o5 (f6 (fun _ => False)) (fun q => q)) (Nat.le_of_ble_eq_true rfl) (fun h7 f7 z7 o7 => ?_))
  refine e_nin (n := 12) (by omega) (fun h8 f8 z8 a3 => e_pr (ob.fr o7 (f8 (fun _ => False)) (fun q => q)) (Nat.le_of_ble_eq_true rfl) (fun h9 f9 z9 o9 => ?_))
  refine e_nin (n := 13) (by omega) (fun h10 f10 z10 a4 => e_pr (ob.fr o9 (f10 (fun _ => False)) (fun q => q)) (Nat.le_of_ble_eq_true rfl) (fun h11 f11 z11 o11 => ?_))
  have e8 := (f9.tt (f10 _)).tt f11
  have e6 := (f7.tt (f8 _)).tt e8
  have e4 := (f5.tt (f6 _)).tt e6
  exact hq h11 ((f4 _).tt e4) (by omega) ⟨o11, (a1.fr e4 (by omega)).N0, (a2.fr e6 (by omega)).N0, (a3.fr e8 (by omega)).N0, (a4.fr f11 (by omega)).N0⟩
theorem s_iP (hkc : 3 ≤ mc) (hks : 18 ≤ ms) (o : ob h 14 4 dfX4) (hr : h.2 = 15) (hq : ∀ h', q_fr (fun j => j = 14) h h' → h'.2 = 18 → pss h' W0 → Q none h') : q_Ct l (d + 1) mX4_init [.ref 14] h mc ms Q QX := by
  refine v_X4_init hkc hks 14 ?_
  refine e_nin (n := 15) (by omega) (fun h4 f4 z4 a1 => e_pr (ob.fr o (f4 (fun _ => False)) (fun q => q)) (Nat.le_of_ble_eq_true rfl) (fun h5 f5 z5 o5 => ?_))
  refine e_nin (n := 16) (by omega) (fun h6 f6 z6 a2 => e_pr (ob.fr o5 (f6 (fun _ => False)) (fun q => q)) (Nat.le_of_ble_eq_true rfl) (fun h7 f7 z7 o7 => ?_))
  refine e_nin (n := 17) (by omega) (fun h8 f8 z8 a3 => e_pr (ob.fr o7 (f8 (fun _ => False)) (fun q => q)) (Nat.le_of_ble_eq_true rfl) (fun h9 f9 z9 o9 => ?_))
  have e6 := (f7.tt (f8 _)).tt f9
  have e4 := (f5.tt (f6 _)).tt e6
  exact hq h9 ((f4 _).tt e4) (by omega) ⟨o9, (a1.fr e4 (by omega)).N0, (a2.fr e6 (by omega)).N0, (a3.fr f9 (by omega)).N0⟩
theorem s_iW (hkc : 2 ≤ mc) (hks : 1152 ≤ ms) (o : ob h 6 8 dfX8) (hr : h.2 = 7) (hq : ∀ h', q_fr (fun j => j = 6) h h' → h'.2 = 9 → wyr h' → Q none h') : q_Ct l (d + 1) mX8_init [.ref 6, .ref 1] h mc ms Q QX := by
  refine v_X8_init hkc hks 6 1 ?_
  refine e_nin (n := 7) (by omega) (fun h4 f4 z4 a1 => e_pr (ob.fr o (f4 (fun _ => False)) (fun q => q)) (Nat.le_of_ble_eq_true rfl) (fun h5 f5 z5 o5 => ?_))
  refine e_nin (n := 8) (by omega) (fun h6 f6 z6 a2 => e_pr (ob.fr o5 (f6 (fun _ => False)) (fun q => q)) (Nat.le_of_ble_eq_true rfl) (fun h7 f7 z7 o7 => e_pr o7 (Nat.le_of_ble_eq_true rfl) (fun h8 f8 z8 o8 => ?_)))
  have e6 := f7.tt f8
  have e4 := (f5.tt (f6 _)).tt e6
  exact hq h8 ((f4 _).tt e4) (by omega) ⟨⟨_, o8⟩, ⟨_, a1.fr e4 (by omega)⟩, ⟨_, a2.fr e6 (by omega)⟩⟩
theorem s_iG (hkc : 4 ≤ mc) (hks : 6336 ≤ ms) (o : ob h 1 1 dfX1) (hr : h.2 = 2) (hq : ∀ h', q_fr (fun j => j = 1) h h' → h'.2 = 6 → gnd h' W0.H W0.R W0.Z (sp_M W0.H W0.R W0.Z W0.s) W0.s → Q none h') : q_Ct l (d + 4) mX1_init [.ref 1] h mc ms Q QX := by
  refine v_X1_init hkc hks 1 ?_
  refine e_nin (n := 2) (by omega) (fun h4 f4 z4 a1 => e_pr (ob.fr o (f4 (fun _ => False)) (fun q => q)) (Nat.le_of_ble_eq_true rfl) (fun h5 f5 z5 o5 => ?_))
  refine e_nin (n := 3) (by omega) (fun h6 f6 z6 a2 => e_pr (ob.fr o5 (f6 (fun _ => False)) (fun q => q)) (Nat.le_of_ble_eq_true rfl) (fun h7 f7 z7 o7 => ?_))
  refine e_nzn (n := 4) (by omega) (fun h8 f8 z8 a3 => e_pr (ob.fr o7 (f8 (fun _ => False)) (fun q => q)) (Nat.le_of_ble_eq_true rfl) (fun h9 f9 z9 o9 => ?_))
  refine e_nin (n := 5) (by omega) (fun h10 f10 z10 a4 => e_pr (ob.fr o9 (f10 (fun _ => False)) (fun q => q)) (Nat.le_of_ble_eq_true rfl) (fun h11 f11 z11 o11 => e_pi o11 (Nat.le_of_ble_eq_true rfl) (fun h12 f12 z12 o12 => ?_)))
  have e10 := f11.tt f12
  have e8 := (f9.tt (f10 _)).tt e10
  have e6 := (f7.tt (f8 _)).tt e8
  have e4 := (f5.tt (f6 _)).tt e6
  have g : gnd h12 W0.H W0.R W0.Z (fun _ => 0) W0.s := ⟨o12, a1.fr e4 (by omega), a2.fr e6 (by omega), a3.fr e8 (by omega), a4.fr e10 (by omega)⟩
  refine e_ob o12 (s_measureSteps g (fun h' f z g' => ⟨rfl, hq h' ?_ (by omega) g'⟩))
  refine ((f4 _).tt e4).tr f (fun i _ q => q) (fun i hi q => by omega)
theorem s_iD (hkc : 6 ≤ mc) (hks : 559 ≤ ms) (o : ob h 18 0 dfX0) (hr : h.2 = 19) (hq : ∀ h', q_fr (fun j => j = 18) h h' → h'.2 = 25 → dOb h' W0 → RV h' 19 P0 D0 → Q none h') : q_Ct l (d + 2) mX0_init [.ref 18, .ref 1, .ref 6, .ref 9, .ref 14] h mc ms Q QX := by
  refine v_X0_init hkc hks 18 1 6 9 14 (e_nwn (n := 19) hr (fun h1 f1 z1 o1 => s_iR (by decide) (by decide) o1 z1 (fun h2 f2 z2 v2 => ⟨rfl, ?_⟩)))
  have oo : ob h2 18 0 dfX0 := ob.fr (ob.fr o (f1 (fun _ => False)) (fun q => q)) f2 (by omega)
  refine e_pr oo (Nat.le_of_ble_eq_true rfl) (fun h3 f3 z3 o3 => e_pi o3 (Nat.le_of_ble_eq_true rfl) (fun h4 f4 z4 o4 => e_pi o4 (Nat.le_of_ble_eq_true rfl) (fun h5 f5 z5 o5 => e_pi o5 (Nat.le_of_ble_eq_true rfl) (fun h6 f6 z6 o6 => ?_))))
  refine e_pr o6 (Nat.le_of_ble_eq_true rfl) (fun h7 f7 z7 o7 => e_pr o7 (Nat.le_of_ble_eq_true rfl) (fun h8 f8 z8 o8 => e_pr o8 (Nat.le_of_ble_eq_true rfl) (fun h9 f9 z9 o9 => e_pr o9 (Nat.le_of_ble_eq_true rfl) (fun h10 f10 z10 o10 => ?_))))
  have e2 := ((((((f3.tt f4).tt f5).tt f6).tt f7).tt f8).tt f9).tt f10
  refine hq h10 ?_ (by omega) ⟨_, o10⟩ (v2.fr e2 (fun i a b q => by omega))
  exact ((f1 _).tr f2 (fun i _ q => q) (fun i hi q => by omega)).tt e2
theorem s_iM (hkc : 6 ≤ mc) (hks : 559 ≤ ms) (o : ob h 25 2 dfX2) (hr : h.2 = 26) (hq : ∀ h', q_fr (fun j => j = 25) h h' → h'.2 = 32 → mOb h' → RV h' 26 P0 D0 → Q none h') : q_Ct l (d + 2) mX2_init [.ref 25, .ref 1, .ref 6, .ref 9, .ref 18] h mc ms Q QX := by
  refine v_X2_init hkc hks 25 1 6 9 18 (e_nwn (n := 26) hr (fun h1 f1 z1 o1 => s_iR (by decide) (by decide) o1 z1 (fun h2 f2 z2 v2 => ⟨rfl, ?_⟩)))
  have oo : ob h2 25 2 dfX2 := ob.fr (ob.fr o (f1 (fun _ => False)) (fun q => q)) f2 (by omega)
  refine e_pr oo (Nat.le_of_ble_eq_true rfl) (fun h7 f7 z7 o7 => e_pr o7 (Nat.le_of_ble_eq_true rfl) (fun h8 f8 z8 o8 => e_pr o8 (Nat.le_of_ble_eq_true rfl) (fun h9 f9 z9 o9 => e_pr o9 (Nat.le_of_ble_eq_true rfl) (fun h10 f10 z10 o10 => e_pr o10 (Nat.le_of_ble_eq_true rfl) (fun h11 f11 z11 o11 => ?_)))))
  have e2 := (((f7.tt f8).tt f9).tt f10).tt f11
  refine hq h11 ?_ (by omega) o11 (v2.fr e2 (fun i a b q => by omega))
  exact ((f1 _).tr f2 (fun i _ q => q) (fun i hi q => by omega)).tt e2
end CT2
