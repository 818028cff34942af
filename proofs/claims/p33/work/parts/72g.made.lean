/-! the class as it is made; mark, back, sent -/
theorem sOk0 : rOk P0 D0 := by
  refine ⟨⟨⟨by decide, by decide, by decide, by decide⟩, by decide, by decide, Or.inl rfl⟩, fun i hi => absurd hi (Nat.not_lt_zero i), fun i hi => absurd hi (Nat.not_lt_zero i), fun k _ => ?_, fun k _ => Or.inl rfl, fun i hi => absurd hi (Nat.not_lt_zero i), fun i hi => absurd hi (Nat.not_lt_zero i), fun i j hi => absurd hi (Nat.not_lt_zero i), ?_⟩
  · show (0 : Int32) &&& -513 = 0; decide
  · show (0 : Int) ≤ 5000; decide
theorem aOk0 : aOk A0 := by
  refine ⟨⟨⟨fun p _ => ?_, fun p _ => ?_⟩, Nat.zero_le _, fun i hi => absurd hi (Nat.not_lt_zero i), fun i hi => absurd hi (Nat.not_lt_zero i), fun i hi => absurd hi (Nat.not_lt_zero i), Nat.zero_le _, fun i hi => absurd hi (Nat.not_lt_zero i), ?_, ?_, fun i hi => absurd hi (Nat.not_lt_zero i)⟩, sOk0, fun i hi => absurd hi (Nat.not_lt_zero i), Nat.zero_le _, Nat.zero_le _, fun i hi => absurd hi (Nat.not_lt_zero i)⟩
  · show -99 ≤ (0 : Int32).toInt ∧ (0 : Int32).toInt ≤ 99; rw [L_0]; decide
  · show 0 ≤ (0 : Int32).toInt ∧ (0 : Int32).toInt ≤ 3; rw [L_0]; decide
  · show 100 ≤ (4000 : Int32).toInt ∧ (4000 : Int32).toInt ≤ 20000; rw [L_4000]; decide
  · show 40 ≤ (800 : Int32).toInt ∧ (800 : Int32).toInt ≤ 5000; rw [L_800]; decide
section CT3
variable {l : Launch} {d mc ms : Nat} {Q : Option Value → qH → Prop} {QX : String → qH → Prop} {h : qH} {r B : Nat} {A : ST}
def z0 (i : Nat) : Prop := i = 0
theorem gnd.f0 {h h' : qH} {W : WS} {S : Nat → Prop} (g : gnd h W.H W.R W.Z (sp_M W.H W.R W.Z W.s) W.s) (f : q_fr S h h') (hs : ∀ i, 1 ≤ i → i ≤ 5 → ¬ S i) : gnd h' W.H W.R W.Z (sp_M W.H W.R W.Z W.s) W.s := g.fr f hs
/-- RoverPlanner() -/
theorem c_init (hkc : 48 ≤ mc) (hks : 9953 ≤ ms) (o : ob h 0 9 dfX9) (hr : h.2 = 1) (hq : ∀ h', h'.2 = 49 → CS h' B A0 → Q none h') : q_Ct l (d + 5) mX9_init [.ref 0] h mc ms Q QX := by
  -- what stays below a number while more is made behind it
  have aw : ∀ {h1 h2 h3 : qH} {n : Nat}, (∀ S : Nat → Prop, q_fr S h1 h2) → q_fr (fun j => j = n) h2 h3 → n = h1.2 → ∀ S : Nat → Prop, q_fr S h1 h3 := fun f g hn S => (f S).tr g (fun i _ q => q) (fun i hi q => by omega)
  refine v_X9_init hkc hks 0 (e_nwn (n := 1) hr (fun h1 f1 z1 o1 => s_iG (by decide) (by decide) o1 z1 (fun h2 f2 z2 g2 => ⟨rfl, ?_⟩)))
  have F2 := aw f1 f2 hr.symm
  have x2 := ob.fr o (F2 (fun _ => False)) (fun q => q)
  refine e_pr x2 (Nat.le_of_ble_eq_true rfl) (fun h3 f3 z3 x3 => e_nwn (n := 6) (by omega) (fun h4 f4 z4 o4 => ?_))
  have x4 := ob.fr x3 (f4 (fun _ => False)) (fun q => q)
  refine e_gr x4 rfl (s_iW (by decide) (by decide) o4 z4 (fun h5 f5 z5 w5 => ⟨rfl, ?_⟩))
  have F5 := aw f4 f5 (by omega)
  have x5 := ob.fr x3 (F5 (fun _ => False)) (fun q => q)
  refine e_pr x5 (Nat.le_of_ble_eq_true rfl) (fun h6 f6 z6 x6 => e_nwn (n := 9) (by omega) (fun h7 f7 z7 o7 => s_iT (by decide) (by decide) o7 z7 (fun h8 f8 z8 t8 => ⟨rfl, ?_⟩)))
  have F8 := aw f7 f8 (by omega)
  have x8 := ob.fr x6 (F8 (fun _ => False)) (fun q => q)
  refine e_pr x8 (Nat.le_of_ble_eq_true rfl) (fun h9 f9 z9 x9 => e_nwn (n := 14) (by omega) (fun h10 f10 z10 o10 => s_iP (by decide) (by decide) o10 z10 (fun h11 f11 z11 p11 => ⟨rfl, ?_⟩)))
  have F11 := aw f10 f11 (by omega)
  have x11 := ob.fr x9 (F11 (fun _ => False)) (fun q => q)
  refine e_pr x11 (Nat.le_of_ble_eq_true rfl) (fun h12 f12 z12 x12 => e_nwn (n := 18) (by omega) (fun h13 f13 z13 o13 => ?_))
  have x13 := ob.fr x12 (f13 (fun _ => False)) (fun q => q)
  refine e_gr x13 rfl (e_gr x13 rfl (e_gr x13 rfl (e_gr x13 rfl (s_iD (by decide) (by decide) o13 z13 (fun h14 f14 z14 d14 u14 => ⟨rfl, ?_⟩)))))
  have F14 := aw f13 f14 (by omega)
  have x14 := ob.fr x12 (F14 (fun _ => False)) (fun q => q)
  refine e_pr x14 (Nat.le_of_ble_eq_true rfl) (fun h15 f15 z15 x15 => e_nwn (n := 25) (by omega) (fun h16 f16 z16 o16 => ?_))
  have x16 := ob.fr x15 (f16 (fun _ => False)) (fun q => q)
  refine e_gr x16 rfl (e_gr x16 rfl (e_gr x16 rfl (e_gr x16 rfl (s_iM (by decide) (by decide) o16 z16 (fun h17 f17 z17 m17 a17 => ⟨rfl, ?_⟩)))))
  have F17 := aw f16 f17 (by omega)
  have x17 := ob.fr x15 (F17 (fun _ => False)) (fun q => q)
  refine e_pr x17 (Nat.le_of_ble_eq_true rfl) (fun h18 f18 z18 x18 => e_nwn (n := 32) (by omega) (fun h19 f19 z19 o19 => s_iR (d := d + 3) (by decide) (by decide) o19 z19 (fun h20 f20 z20 v20 => ⟨rfl, ?_⟩)))
  have F20 := aw f19 f20 (by omega)
  have x20 := ob.fr x18 (F20 (fun _ => False)) (fun q => q)
  refine e_pr x20 (Nat.le_of_ble_eq_true rfl) (fun h21 f21 z21 x21 => e_nwn (n := 38) (by omega) (fun h22 f22 z22 o22 => s_iR (d := d + 3) (by decide) (by decide) o22 z22 (fun h23 f23 z23 v23 => ⟨rfl, ?_⟩)))
  have F23 := aw f22 f23 (by omega)
  have x23 := ob.fr x21 (F23 (fun _ => False)) (fun q => q)
  refine e_pr x23 (Nat.le_of_ble_eq_true rfl) (fun h24 f24 z24 x24 => e_nwn (n := 44) (by omega) (fun h25 f25 z25 o25 => s_iL (d := d + 3) (by decide) (by decide) o25 z25 (fun h26 f26 z26 v26 => ⟨rfl, ?_⟩)))
  have F26 := aw f25 f26 (by omega)
  have x26 := ob.fr x24 (F26 (fun _ => False)) (fun q => q)
  refine e_pr x26 (Nat.le_of_ble_eq_true rfl) (fun h27 f27 z27 x27 => e_nmn (n := 48) (by omega) (fun h28 f28 z28 c28 => e_pr (ob.fr x27 (f28 (fun _ => False)) (fun q => q)) (Nat.le_of_ble_eq_true rfl) (fun h29 f29 z29 x29 => ?_)))
  have G27 : q_fr z0 h26 h29 := (f27.tt (f28 _)).tt f29
  have G24 : q_fr z0 h23 h29 := (f24.tt (F26 _)).tt G27
  have G21 : q_fr z0 h20 h29 := (f21.tt (F23 _)).tt G24
  have G18 : q_fr z0 h17 h29 := (f18.tt (F20 _)).tt G21
  have G15 : q_fr z0 h14 h29 := (f15.tt (F17 _)).tt G18
  have G12 : q_fr z0 h11 h29 := (f12.tt (F14 _)).tt G15
  have G9 : q_fr z0 h8 h29 := (f9.tt (F11 _)).tt G12
  have G6 : q_fr z0 h5 h29 := (f6.tt (F8 _)).tt G9
  have G3 : q_fr z0 h2 h29 := (f3.tt (F5 _)).tt G6
  have nz : ∀ i, 1 ≤ i → ¬ z0 i := fun i hi q => by unfold z0 at q; omega
  have lt48 : 48 < h29.2 := by omega
  refine hq h29 (by omega) ⟨x29, ⟨g2.f0 (W := W0) G3 (fun i a b => nz i a), t8.fr G9 (fun i a b => nz i (by omega)), p11.fr G12 (fun i a b => nz i (by omega)), d14.elim fun lr q => ⟨lr, ob.fr q G15 (nz _ (by omega))⟩⟩, ob.fr m17 G18 (nz _ (by omega)), w5.fr G6 (fun i a b => nz i (by omega)), ⟨_, _, u14.fr G15 (fun i a b => nz i (by omega))⟩, ⟨_, _, a17.fr G18 (fun i a b => nz i (by omega))⟩, v20.fr G21 (fun i a b => nz i (by omega)), ⟨_, _, v23.fr G24 (fun i a b => nz i (by omega))⟩, v26.fr G27 (fun i a b => nz i (by omega)), fun _ => none, lt48, _, (f29.2 48 (by omega) (by omega)).trans c28⟩
theorem c_sent (c : CS h B A) (hq : Q (some (.double (if A.D.ut = 0 then FP.dconst1 else FP.ddiv (FP.i2d A.D.us) (FP.i2d A.D.ut)))) h) : q_Ct l d mX9_sent [.ref 0] h mc ms Q QX := by
  refine v_X9_sent (d := d) 0 (e_gr c.o rfl (e_gi c.rv.1 rfl ⟨fun q => ?_, fun q => e_gr c.o rfl (e_gi c.rv.1 rfl (e_gr c.o rfl (e_gi c.rv.1 rfl ⟨nn_div _ _ q, ?_⟩)))⟩))
  · rw [if_pos q] at hq; exact hq
  · rw [if_neg q] at hq; exact hq
end CT3
