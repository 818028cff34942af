/-! THE LAW: the whole -/
section LW2
variable {l : Launch} {d mc ms : Nat} {Q : Option Value → qH → Prop} {QX : String → qH → Prop} {h : qH}
theorem law_true {n0 : Nat} (hl0 : l.stackTraces = false) (hkc : 6000 ≤ mc) (hks : 80000 ≤ ms) (hr : h.2 = 0) (hq : ∀ h', Q (some (.int 1)) h') : q_J l (d + 9) mL_law mc ms Q QX n0 0 [some (.float 4), none, none, none, none, none, none, none, none, none, none, none, none] [] h mc ms := by
  refine v_L_law_0 (by omega) (by omega) (e_nwn (n := 0) hr (fun h1 f1 z1 o1 => c_init (d := d + 3) (B := 49) (by decide) (by decide) o1 z1 (fun h2 z2 cs2 => ⟨rfl, s_build hl0 (by decide) (by decide) cs2 z2 (fun h3 tr A T3 ok3 st => ⟨_, rfl, ?_⟩)⟩)))
  obtain ⟨s1, s2, s3, s4, s5, s6, s7, s8⟩ := st
  refine s_cell (by decide) (fun zc => ⟨_, rfl, s_below (n := 600) (by decide) (by decide) (fun a ha => ⟨_, rfl, e_ob T3.1.o (c_make (d := d + 1) hl0 (by decide) (by decide) (by decide) T3.1 ok3 ?_)⟩)⟩)
  dsimp only
  rw [one_n]
  -- the plan
  generalize hE : (extF A.W (A.P.t + nI (1 + a)) 52 (fun _ => false) A.L A.P A.D).1 = E
  have L0n : A.L.n = 0 := by rw [s6]; rfl
  have et : tryA A A.L.n = ((0, 0), A.P, A.D) := by rw [L0n]; rfl
  have ee : A.P.t + nI (1 + a) = nI (1 + a) := by rw [s1, show (0 : Int32) = nI 0 from rfl, nI_add, Nat.zero_add]
  have er : R_make A (nI (1 + a)) = (0, nI E.n, A.uL E) := by
    unfold R_make
    rw [pif_t ⟨by rw [nI_toInt (by omega)]; omega, by rw [nI_toInt (by omega)]; omega⟩, et, pif_f (by rw [L0n]; exact Nat.lt_irrefl 0)]
    dsimp only
    rw [hE, L0n, pk_sub (Nat.zero_le _)]
    rfl
  have ok4 := a_make ok3 (nI (1 + a))
  have pl0 : plOk A.W A.L := ok3.2.2.1
  obtain ⟨-, -, m, ch⟩ := ext_chn ok3.1 (e := A.P.t + nI (1 + a)) 52 (fun _ => false) A.L A.P A.D pl0 ok3.2.1
  rw [hE, ee, L0n] at ch
  have en : E.n = 2 * m := by have := chn_n _ _ _ _ _ ch; omega
  rw [er] at ok4 ⊢
  have e40 : E.n ≤ 40 := ok4.2.2.2.1
  have hm : m ≤ 20 := by omega
  have ca := chn_acts m _ _ _ _ ch
  have et4 : tryA (A.uL E) E.n = actsF A.W E 0 (2 * m) A.P A.D := by rw [en]; rfl
  have pt : A.P.t ≤ nI (1 + a) := by rw [s1, le_i, L_0, nI_toInt (by omega)]; omega
  refine rs_i (fun h4 f4 cs4 => ?_)
  have T4 : TW h4 tr (A.uL E) := ⟨cs4, T3.2.fr f4 (fun i q => q)⟩
  rw [en]
  refine ⟨fun _ => ?_, fun q => absurd ?_ q⟩
  rotate_left
  · rw [show nI (2 * m) - nI (2 * m) / 2 * 2 = nI (2 * m % 2) from pk_rem (d := 2) (by omega) (by decide) (by decide), show 2 * m % 2 = 0 by omega]
    rfl
  -- count
  refine e_ob cs4.o (c_count (d := d + 2) (w := 2) hl0 (by decide) (by decide) (by decide) cs4 ok4 ?_)
  have e2 : R_count (A.uL E) 2 = (0, nI (2 * m), A.uL E) := by
    unfold R_count
    rw [pif_t (show isW 2 3 from ⟨by rw [L_2]; decide, by rw [L_2]; decide⟩)]
    unfold cntA
    rw [if_neg (by decide), if_neg (by decide), if_pos rfl]
    show (0, nI E.n, _) = _
    rw [en]
  rw [e2]
  refine rs_i (fun h5 f5 cs5 => ⟨fun _ => ?_, fun q => absurd rfl q⟩)
  -- check
  refine e_ob cs5.o (c_check (d := d + 1) (by decide) cs5 ok4 ?_)
  have e3 : R_check (A.uL E) = (0, -1, A.uL E) := by
    unfold R_check
    show (0, (if (tryA (A.uL E) E.n).1.1 < E.n then nI (tryA (A.uL E) E.n).1.1 else -1), _) = _
    rw [et4, ca.1, if_neg (by show ¬ 0 + 2 * m < E.n; omega)]
  rw [e3]
  refine rs_i (fun h6 f6 cs6 => ⟨fun _ => ?_, fun q => absurd rfl q⟩)
  -- foretell
  refine e_ob cs6.o (c_foretell (d := d + 1) (m := nI (2 * m)) (w := 0) hl0 (by decide) (by decide) (by decide) cs6 ok4 ?_)
  have e4 : R_foretell (A.uL E) (nI (2 * m)) 0 = (0, (actsF A.W E 0 (2 * m) A.P A.D).2.1.t, A.uL E) := by
    unfold R_foretell
    rw [pif_t (show isW 0 9 from isW_nI (k := 0) (by decide) (by decide)), pif_t ⟨2 * m, by show 2 * m < E.n + 1; omega, rfl⟩, nI_clamp (by omega), ← en, et4, pif_f (by rw [ca.1]; show ¬ 0 + 2 * m < E.n; omega)]
    unfold tellA
    rw [if_pos rfl, en]
  rw [e4]
  refine rs_i (fun h7 f7 cs7 => ⟨fun q => absurd (ca.2 pt) (Int32.not_le.mpr q), fun _ => ?_⟩)
  -- nothing is done yet
  refine e_ob cs7.o (c_rover (d := d + 2) (w := 0) hl0 (by decide) (by decide) (by decide) cs7 ok4 ?_)
  have e5 : R_rover (A.uL E) 0 = (0, 0, A.uL E) := by
    unfold R_rover
    rw [pif_t (show isW 0 9 from isW_nI (k := 0) (by decide) (by decide))]
    unfold tellA
    rw [if_pos rfl]
    show (0, A.P.t, _) = _
    rw [s1]
  rw [e5]
  refine rs_i (fun h8 f8 cs8 => ⟨fun _ => ?_, fun q => absurd rfl q⟩)
  have F8 : q_fr (clS 49) h4 h8 := ((f5.tt f6).tt f7).tt f8
  have T8 : TW h8 tr (A.uL E) := T4.fr F8 cs8
  have h57 : 57 ≤ h8.2 := T8.2.1.1.1
  refine e_mnn (n := h8.2) (N := 2 * m) (M := 3) rfl rfl (by omega) (by omega) (fun h9 f9 z9 r9 a9 => ?_)
  refine law_fill (A := A.uL E) hl0 (by omega) (by omega) (CS_law cs8 (f9 (fun _ => False)) (fun i q => q.elim)) ok4 en h57 r9 a9 (fun h10 kc10 ks10 f10 cs10 p10 b10 b11 => ?_)
  have T10 : TW h10 tr (A.uL E) := T8.fr ((f9 (clS 49)).tr f10 (fun i _ q => q) (fun i hi q => by rcases q with q | q; exact q; omega)) cs10
  have I0 : LI h10 tr E m h8.2 (nI (1 + a)) 0 (A.uL E) := by
    refine ⟨T10, ok4, ⟨rfl, fun i => ?_⟩, ?_, ?_, ?_, ⟨_, ch⟩, p10⟩
    · rw [Nat.mul_zero, Nat.zero_add]
      exact ⟨rfl, rfl, rfl⟩
    · show zD A.D
      rw [s5]
      exact ⟨rfl, fun k _ => ⟨rfl, rfl⟩⟩
    · show A.D.n = 0
      rw [s5]
      rfl
    · show 20 ≤ A.P.cl.toInt
      rw [s4, L_100]
      decide
  refine q_loop (fun j (st : qH × Nat × Nat) => q_J l (d + 9) mL_law mc ms Q QX n0 147 [some (.float 4), some (.ref 0), some (.ref 49), some (.int (nI (1 + a))), some (.int (nI (2 * m))), some (.ref h8.2), some (.int (nI (2 * j))), none, none, none, none, none, none] [] st.1 st.2.1 st.2.2) (fun j st => (∃ A', LI st.1 tr E m h8.2 (nI (1 + a)) j A') ∧ 240 * (m - j) + 10 ≤ st.2.1 ∧ 2700 * (m - j) + 10 ≤ st.2.2) m ?_ ?_ 0 (h10, kc10, ks10) (by omega) ⟨⟨_, I0⟩, by show 240 * (m - 0) + 10 ≤ kc10; omega, by show 2700 * (m - 0) + 10 ≤ ks10; omega⟩
  · rintro ⟨h11, kc, ks⟩ ⟨⟨A', I⟩, b1, b2⟩
    dsimp only at I b1 b2 ⊢
    exact law_end hl0 (by omega) (by omega) I en hq
  · rintro j ⟨h11, kc, ks⟩ hj ⟨⟨A', I⟩, b1, b2⟩ ih
    dsimp only at I b1 b2 ⊢
    exact law_pair hl0 (by omega) (by omega) I hj hm en (fun h12 A2 kc2 ks2 I2 g1 g2 => ih (h12, kc2, ks2) ⟨⟨A2, I2⟩, by show 240 * (m - (j + 1)) + 10 ≤ kc2; omega, by show 2700 * (m - (j + 1)) + 10 ≤ ks2; omega⟩)
end LW2
