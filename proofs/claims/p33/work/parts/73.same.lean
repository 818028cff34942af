/-! THE LAW: isSame: what the class tells is what the law's own rover has -/
theorem nv_div (a b : Int32) (hb : ¬ b = 0) : FP.Core.val64 (FP.ddiv (FP.i2d a) (FP.i2d b)) ≠ .nan := by
  have h1 : FP.Core.Whole a.toInt (FP.Core.val64 (FP.Core.i2d a)) := FP.Core.i2d_int a
  have h2 : FP.Core.Whole b.toInt (FP.Core.val64 (FP.Core.i2d b)) := FP.Core.i2d_int b
  have h3 : FP.Core.val64 (FP.Core.ddiv (FP.Core.i2d a) (FP.Core.i2d b)) = FP.Core.quotient FP.Core.b64 (FP.Core.val64 (FP.Core.i2d a)) (FP.Core.val64 (FP.Core.i2d b)) := FP.Core.val64_ddiv _ _
  have hb0 : b.toInt ≠ 0 := fun q => hb (Int32.toInt_inj.mp (by rw [q]; exact L_0.symm))
  show FP.Core.val64 (FP.Core.ddiv (FP.Core.i2d a) (FP.Core.i2d b)) ≠ .nan
  rw [h3]
  cases hx : FP.Core.val64 (FP.Core.i2d a) with
  | nan => rw [hx] at h1; exact h1.elim
  | inf s => rw [hx] at h1; exact h1.elim
  | fin s c q =>
    cases hy : FP.Core.val64 (FP.Core.i2d b) with
    | nan => rw [hy] at h2; exact h2.elim
    | inf s => rw [hy] at h2; exact h2.elim
    | fin t dd r =>
      rw [hy] at h2
      have hd : dd ≠ 0 := fun e => by
        subst e
        have e2 : FP.Core.signed t (0 * 2 ^ r.toNat) = b.toInt * ((2 ^ (-r).toNat : Nat) : Int) := h2
        rw [Nat.zero_mul] at e2
        have e3 : FP.Core.signed t 0 = 0 := by unfold FP.Core.signed; cases t <;> simp
        rw [e3] at e2
        have e4 : ((2 ^ (-r).toNat : Nat) : Int) ≠ 0 := by
          have := Nat.two_pow_pos (-r).toNat
          omega
        rcases Int.mul_eq_zero.mp e2.symm with q | q
        · exact hb0 q
        · exact e4 q
      show (if dd = 0 then _ else FP.Core.roundRatio FP.Core.b64 (s != t) c dd (q - r)) ≠ _
      rw [if_neg hd]
      unfold FP.Core.roundRatio
      split
      · simp
      · unfold FP.Core.roundAt FP.Core.settle FP.Core.bound
        split <;> split <;> simp
theorem cmp_div (a b : Int32) (hb : ¬ b = 0) : Op.cmpValue (FP.dcmp (FP.ddiv (FP.i2d a) (FP.i2d b)) (FP.ddiv (FP.i2d a) (FP.i2d b))) .l = 0 := by
  have e : FP.dcmp (FP.ddiv (FP.i2d a) (FP.i2d b)) (FP.ddiv (FP.i2d a) (FP.i2d b)) = some .eq := FP.Core.dcmp_self (nv_div a b hb)
  rw [e]
  decide
theorem cmp_one : Op.cmpValue (FP.dcmp FP.dconst1 FP.dconst1) .l = 0 := by decide +kernel
/-- nothing was sent -/
def zD (D : DT) : Prop := D.us = 0 ∧ ∀ k, k < 12 → D.oc k = 0 ∧ D.tc k = 0
theorem zD_keep {D : DT} {a b c e : Int32} (z : zD D) : zD (keepA D a b c e) := z
theorem sgn_z {D : DT} (z : zD D) {k : Nat} (hk : k < 12) : sgn D k = 0 := by
  unfold sgn
  rw [(z.2 k hk).1, (z.2 k hk).2, if_pos rfl]
  decide
theorem or0 (a : Int32) : a ||| 0 = a := by
  apply Int32.toBitVec_inj.mp
  rw [Int32.toBitVec_or]
  show a.toBitVec ||| 0#32 = a.toBitVec
  simp
theorem sg_im {D : DT} {z : Int32} (hg : gG D) : ∀ i, i ≤ D.n → allF D z 0 i &&& -513 = imF D z i := by
  have b9 : ∀ g, g ≤ 9 → ((1 : Int32) <<< (nI g &&& 31)) &&& -513 = if nI g = 9 then 0 else (1 : Int32) <<< (nI g &&& 31) := by decide +kernel
  intro i
  induction i with
  | zero => exact fun _ => by show (0 : Int32) &&& -513 = 0; decide
  | succ i ih =>
    intro hi
    have e := ih (by omega)
    obtain ⟨g, hg9, eg⟩ := hg i (by omega)
    unfold allF imF
    by_cases q : D.pt i = z
    · rw [if_pos q, if_pos q, i_oa, e, eg, b9 g hg9]
      by_cases q9 : nI g = 9
      · rw [if_pos q9, if_pos q9, or0]
      · rw [if_neg q9, if_neg q9]
    · rw [if_neg q, if_neg q, e]
theorem im_sg {D : DT} (z : zD D) (hg : gG D) {k : Nat} (hk : k < 12) : sgA D k &&& -513 = imF D (nI k) D.n := by
  unfold sgA
  rw [sgn_z z hk]
  exact sg_im hg _ (Nat.le_refl _)
theorem pcF_at {D : DT} {k j : Nat} (hj : j < 4) : pcA D k (nI j) = pcF D k j := by
  rcases (show j = 0 ∨ j = 1 ∨ j = 2 ∨ j = 3 by omega) with rfl | rfl | rfl | rfl <;> rfl
theorem isW_nI {k n : Nat} (hk : k ≤ n) (hn : n < 2 ^ 31) : isW (nI k) n := by
  unfold isW
  rw [nI_toInt (by omega)]
  omega
theorem rs_i {h : qH} {B : Nat} {P : Int32 → qH → Prop} {E : Nat → String} {v : Int32} {A : ST} (hq : ∀ h', q_fr (clS B) h h' → CS h' B A → P v h') : rs h B (fun v h1 => ∃ z : Int32, v = some (.int z) ∧ P z h1) (fun _ _ => False) E (0, v, A) :=
  ⟨fun _ h' f c => ⟨v, rfl, hq h' f c⟩, fun q => absurd rfl q⟩
section SA1
variable {l : Launch} {d mc ms : Nat} {Q : Option Value → qH → Prop} {QX : String → qH → Prop} {h : qH} {tr : Nat → Nat} {A : ST}
/-- the class and the law's own rover at one heap -/
def TW (h : qH) (tr : Nat → Nat) (A : ST) : Prop := CS h 49 A ∧ SV h A.W tr A.P A.D
theorem TW.fr {h' : qH} (t : TW h tr A) (f : q_fr (clS 49) h h') (c : CS h' 49 A) : TW h' tr A := ⟨c, t.2.fr f (fun i q => q)⟩
theorem TW.o (t : TW h tr A) : ∃ pp pr, SP h A.W A.P A.D pp pr := t.2.2
theorem same_sent {n0 kc ks : Nat} {x2 : Int32} (t : TW h tr A) (hq : Q (some (.int 1)) h) : q_J l (d + 7) mX10_isSame mc ms Q QX n0 222 [some (.ref 49), some (.ref 0), some (.int x2), none, none] [] h kc ks := by
  obtain ⟨c, K, pp, pr, s⟩ := t
  refine v_X10_isSame_222 49 0 _ (e_ob c.o (c_sent (d := d + 6) c ⟨_, rfl, e_gi s.1 rfl ⟨fun q => ?_, fun q => e_gr s.1 rfl (e_al (k := 7) s.2.1 rfl (by decide) (by decide) (e_gi s.1 rfl ⟨nn_div _ _ q, ?_⟩))⟩⟩))
  · rw [if_pos q]
    exact ⟨fun _ => hq, fun r => absurd cmp_one r⟩
  · rw [if_neg q]
    exact ⟨fun _ => hq, fun r => absurd (cmp_div A.D.us A.D.ut q) r⟩
theorem same_tg {n0 : Nat} (hl0 : l.stackTraces = false) (ok : aOk A) (z : zD A.D) (hq : ∀ h', q_fr (clS 49) h h' → CS h' 49 A → Q (some (.int 1)) h') (h40 : A.D.n < 40) : ∀ (k : Nat) (st : qH × Nat × Nat), k ≤ 12 → (q_fr (clS 49) h st.1 ∧ TW st.1 tr A ∧ 4 * (12 - k) ≤ st.2.1 ∧ 24 * (12 - k) ≤ st.2.2) →
    q_J l (d + 7) mX10_isSame mc ms Q QX n0 80 [some (.ref 49), some (.ref 0), some (.int (nI k)), none, none] [] st.1 st.2.1 st.2.2 := by
  have hw := ok.1
  have htn := hw.tn
  refine q_loop _ _ 12 ?_ ?_
  · rintro ⟨h1, kc, ks⟩ ⟨f1, t1, -, -⟩
    exact v_X10_isSame_80 49 0 (nI 12) ⟨fun _ => same_sent t1 (hq h1 f1 t1.1), fun q => absurd (Int32.le_refl _) q⟩
  · rintro k ⟨h1, kc, ks⟩ hk ⟨f1, t1, b1, b2⟩ ih
    dsimp only at f1 t1 b1 b2 ⊢
    obtain ⟨c1, K1, pp, pr, s1⟩ := id t1
    obtain ⟨g1, g2, g3, g4, g5⟩ := id K1
    refine v_X10_isSame_80 49 0 (nI k) ⟨fun q => absurd q (nI_ge hk (by decide)), fun _ => e_gr s1.1 rfl (e_o4n g2 rfl hk (by decide) (fun j hj => ?_) (fun _ => same_sent t1 (hq h1 f1 c1)))⟩
    have kt : k < A.W.tn := Classical.byContradiction fun q => by
      rw [if_neg q] at hj; cases hj
    have rx : ∀ {Pr : Nat → Prop}, Pr (tr k) → qGR h1 49 10 8 (fun r => qO4 h1 r (nI k) Pr) := fun {Pr} p => e_gr s1.1 rfl (e_o4 g2 rfl hk (by decide) (if_pos kt) p)
    have td1 := hw.2.2.2.2.1 k kt
    -- what the class tells of the target
    have tl : ∀ {h2 : qH} {w : Nat} {P : Int32 → qH → Prop}, w ≤ 5 → q_fr (clS 49) h1 h2 → CS h2 49 A → (∀ h3, q_fr (clS 49) h1 h3 → CS h3 49 A → P (tellT A k (nI w)) h3) → qOB h2 0 9 (qCI l (d + 6) mX9_target [.ref 0, .int (nI k), .int (nI w)] h2 1 6 P) := fun {h2 w P} hw5 f c hp => by
      refine e_ob c.o (c_target (d := d) hl0 (by decide) (by decide) (by decide) c ok ?_)
      have er : R_target A (nI k) (nI w) = (0, tellT A k (nI w), A) := by
        unfold R_target
        rw [pif_t ⟨⟨k, kt, rfl⟩, isW_nI hw5 (by decide)⟩, nI_clamp (by omega)]
      rw [er]
      exact rs_i (fun h3 f3 c3 => hp h3 (f.tt f3) c3)
    have v2 : tellT A k (nI 2) = 0 := by
      show i_bc (sgn A.D k &&& -513) = 0
      rw [sgn_z z hk]; decide
    have v3 : tellT A k (nI 3) = i_bc (imF A.D (nI k) A.D.n) := by
      show i_bc (sgA A.D k &&& -513) = _
      rw [im_sg z ok.2.1.2.2.1 hk]
    have v4 : tellT A k (nI 4) = 0 := by
      show (if sgn A.D k &&& 512 = 0 then (0 : Int32) else 1) = 0
      rw [sgn_z z hk]; decide
    have v5 : tellT A k (nI 5) = 0 := by
      show pif (metA A.W k (sgn A.D k)) (1 : Int32) 0 = 0
      rw [sgn_z z hk]
      refine pif_f (fun q => ?_)
      rcases q with ⟨-, q⟩ | ⟨-, q⟩
      · exact q (by decide)
      · rw [show i_bc ((0 : Int32) &&& -513) = 0 by decide, le_i, L_0] at q
        omega
    have b0 : i_bc 0 = 0 := by decide
    -- behind isDone
    have go : q_J l (d + 7) mX10_isSame mc ms Q QX n0 143 [some (.ref 49), some (.ref 0), some (.int (nI k)), some (.int (i_bc 0)), none] [.int 0] h1 kc ks := by
      refine v_X10_isSame_143 (by omega) (by omega) 49 0 _ _ _ (tl (w := 2) (by decide) q_fr.rf c1 (fun h2 f2 c2 => ?_))
      rw [v2, b0]
      refine ⟨fun _ => tl (w := 3) (by decide) f2 c2 (fun h3 f3 c3 => ?_), fun q => absurd rfl q⟩
      have t3 := t1.fr f3 c3
      obtain ⟨-, K3, pp3, pr3, s3⟩ := id t3
      refine e_ob s3.1 (s_images (d := d + 6) K3 s3 hk (by omega) ⟨_, rfl, s_bitCount (d := d + 6) ⟨_, rfl, ?_⟩⟩)
      rw [v3]
      refine ⟨fun _ => tl (w := 4) (by decide) f3 c3 (fun h4 f4 c4 => ?_), fun q => absurd rfl q⟩
      have t4 := t1.fr f4 c4
      obtain ⟨-, K4, pp4, pr4, s4⟩ := id t4
      refine e_gr s4.1 rfl (e_zl K4.2.2.2.2 rfl hk (by decide) ⟨fun _ => ?_, fun q => absurd rfl q⟩)
      rw [v4]
      refine v_X10_isSame_192 (by omega) (by omega) 49 0 _ _ _ _ _ ⟨fun _ => tl (w := 5) (by decide) f4 c4 (fun h5 f5 c5 => ?_), fun q => absurd rfl q⟩
      rw [v5]
      refine ⟨fun _ => ⟨fun _ => ?_, fun q => absurd rfl q⟩, fun q => absurd rfl q⟩
      rw [nI_1]
      exact ih (h5, kc - 3 - 1, ks - 18 - 6) ⟨f1.tt f5, t1.fr f5 c5, by show 4 * (12 - (k + 1)) ≤ kc - 3 - 1; omega, by show 24 * (12 - (k + 1)) ≤ ks - 18 - 6; omega⟩
    refine e_gr s1.1 rfl (e_al g4 rfl hk (by decide) (s_bitCount (d := d + 6) ⟨_, rfl, rx (e_al (k := 3) (g3 k kt).2 rfl (by decide) (by decide) ⟨fun q => ?_, fun q => ?_⟩)⟩))
    · exact e_gr s1.1 rfl (e_zl g5 rfl hk (by decide) go)
    · refine rx (e_al (k := 3) (g3 k kt).2 rfl (by decide) (by decide) ⟨fun _ => go, fun r => absurd ?_ r⟩)
      show i_bc 0 < A.W.td k
      rw [b0, lt_i, L_0]
      omega
theorem s_isSame (hl0 : l.stackTraces = false) (hkc : 200 ≤ mc) (hks : 1200 ≤ ms) (t : TW h tr A) (ok : aOk A) (z : zD A.D) (h40 : A.D.n ≤ 30) (hq : ∀ h', q_fr (clS 49) h h' → CS h' 49 A → Q (some (.int 1)) h') : q_Ct l (d + 7) mX10_isSame [.ref 49, .ref 0] h mc ms Q QX := by
  refine v_X10_isSame 49 0 ?_
  refine q_loop (fun i (st : qH × Nat × Nat) => q_J l (d + 7) mX10_isSame mc ms Q QX h.2 2 [some (.ref 49), some (.ref 0), some (.int (nI i)), none, none] [] st.1 st.2.1 st.2.2) (fun i st => q_fr (clS 49) h st.1 ∧ TW st.1 tr A ∧ (10 - i) + 170 ≤ st.2.1 ∧ 6 * ((10 - i) + 170) ≤ st.2.2) 10 ?_ ?_ 0 (h, mc, ms) (by omega) ⟨q_fr.rf, t, by show 10 - 0 + 170 ≤ mc; omega, by show 6 * (10 - 0 + 170) ≤ ms; omega⟩
  · rintro ⟨h1, kc, ks⟩ ⟨f1, t1, b1, b2⟩
    dsimp only at f1 t1 b1 b2 ⊢
    refine v_X10_isSame_2 (by omega) (by omega) 49 0 (nI 10) ⟨fun _ => ?_, fun q => absurd (Int32.le_refl _) q⟩
    -- the pieces
    refine q_loop (fun k (st : qH × Nat × Nat) => q_J l (d + 7) mX10_isSame mc ms Q QX h.2 31 [some (.ref 49), some (.ref 0), some (.int (nI k)), none, none] [] st.1 st.2.1 st.2.2) (fun k st => q_fr (clS 49) h st.1 ∧ TW st.1 tr A ∧ 4 * (A.D.n - k) + 50 ≤ st.2.1 ∧ 24 * (A.D.n - k) + 300 ≤ st.2.2) A.D.n ?_ ?_ 0 (h1, kc, ks) (by omega) ⟨f1, t1, by show 4 * (A.D.n - 0) + 50 ≤ kc; omega, by show 24 * (A.D.n - 0) + 300 ≤ ks; omega⟩
    · rintro ⟨h2, kc2, ks2⟩ ⟨f2, t2, c1, c2⟩
      dsimp only at f2 t2 c1 c2 ⊢
      obtain ⟨-, K2, pp, pr, s2⟩ := id t2
      refine v_X10_isSame_31 49 0 _ (e_gr s2.1 rfl (e_lnR s2.2.2.1.2 ⟨fun _ => ?_, fun q => absurd (Int32.le_refl _) q⟩))
      exact same_tg hl0 ok z (fun h' f c => hq h' (f2.tt f) c) (by omega) 0 (h2, kc2, ks2) (by omega) ⟨q_fr.rf, t2, by show 4 * (12 - 0) ≤ kc2; omega, by show 24 * (12 - 0) ≤ ks2; omega⟩
    · rintro k ⟨h2, kc2, ks2⟩ hk ⟨f2, t2, c1, c2⟩ ih2
      dsimp only at f2 t2 c1 c2 ⊢
      obtain ⟨-, K2, pp, pr, s2⟩ := id t2
      refine v_X10_isSame_31 49 0 _ (e_gr s2.1 rfl (e_lnR s2.2.2.1.2 ⟨fun q => absurd q (nI_ge hk (by omega)), fun _ => ?_⟩))
      refine q_loop (fun w (st : qH × Nat × Nat) => q_J l (d + 7) mX10_isSame mc ms Q QX h.2 42 [some (.ref 49), some (.ref 0), some (.int (nI k)), some (.int (nI w)), none] [] st.1 st.2.1 st.2.2) (fun w st => q_fr (clS 49) h st.1 ∧ TW st.1 tr A ∧ (4 - w) + 4 * (A.D.n - (k + 1)) + 50 ≤ st.2.1 ∧ 6 * (4 - w) + 24 * (A.D.n - (k + 1)) + 300 ≤ st.2.2) 4 ?_ ?_ 0 (h2, kc2, ks2) (by omega) ⟨f2, t2, by show 4 - 0 + 4 * (A.D.n - (k + 1)) + 50 ≤ kc2; omega, by show 6 * (4 - 0) + 24 * (A.D.n - (k + 1)) + 300 ≤ ks2; omega⟩
      · rintro ⟨h3, kc3, ks3⟩ ⟨f3, t3, e1, e2⟩
        dsimp only at f3 t3 e1 e2 ⊢
        refine v_X10_isSame_42 (by omega) (by omega) 49 0 _ (nI 4) ⟨fun _ => ?_, fun q => absurd (Int32.le_refl _) q⟩
        rw [nI_1]
        exact ih2 (h3, kc3, ks3) ⟨f3, t3, by show 4 * (A.D.n - (k + 1)) + 50 ≤ kc3; omega, by show 24 * (A.D.n - (k + 1)) + 300 ≤ ks3; omega⟩
      · rintro w ⟨h3, kc3, ks3⟩ hw4 ⟨f3, t3, e1, e2⟩ ih3
        dsimp only at f3 t3 e1 e2 ⊢
        refine v_X10_isSame_42 (by omega) (by omega) 49 0 _ (nI w) ⟨fun q => absurd q (nI_ge hw4 (by decide)), fun _ => e_ob t3.1.o (c_piece (d := d) hl0 (by decide) (by decide) (by decide) t3.1 ok ?_)⟩
        have er : R_piece A (nI k) (nI w) = (0, pcF A.D k w, A) := by
          unfold R_piece
          rw [pif_t ⟨⟨k, hk, rfl⟩, isW_nI (by omega) (by decide)⟩, nI_clamp (by omega), pcF_at hw4]
        rw [er]
        refine rs_i (fun h4 f4 c4 => ?_)
        have t4 := t3.fr f4 c4
        obtain ⟨-, K4, pp4, pr4, s4⟩ := id t4
        refine e_gr s4.1 rfl (e_o4 s4.2.2.1.2 rfl hk (by omega) rfl (e_al (s4.2.2.2 k hk).2 rfl hw4 (by decide) ⟨fun _ => ?_, fun q => absurd rfl q⟩))
        rw [nI_1]
        exact ih3 (h4, kc3 - 1, ks3 - 6) ⟨f3.tt f4, t4, by show 4 - (w + 1) + 4 * (A.D.n - (k + 1)) + 50 ≤ kc3 - 1; omega, by show 6 * (4 - (w + 1)) + 24 * (A.D.n - (k + 1)) + 300 ≤ ks3 - 6; omega⟩
  · rintro i ⟨h1, kc, ks⟩ hi ⟨f1, t1, b1, b2⟩ ih
    dsimp only at f1 t1 b1 b2 ⊢
    refine v_X10_isSame_2 (by omega) (by omega) 49 0 (nI i) ⟨fun q => absurd q (nI_ge hi (by decide)), fun _ => e_ob t1.1.o (c_rover (d := d) hl0 (by decide) (by decide) (by decide) t1.1 ok ?_)⟩
    have er : R_rover A (nI i) = (0, tellA A.P A.D (nI i), A) := by
      unfold R_rover
      rw [pif_t (isW_nI (by omega) (by decide))]
    rw [er]
    refine rs_i (fun h2 f2 c2 => ?_)
    have t2 := t1.fr f2 c2
    obtain ⟨-, K2, pp, pr, s2⟩ := id t2
    refine e_ob s2.1 (s_told (d := d + 5) s2 hi (by omega) ⟨_, rfl, ⟨fun _ => ?_, fun q => absurd rfl q⟩⟩)
    rw [nI_1]
    exact ih (h2, kc - 1, ks - 6) ⟨f1.tt f2, t2, by show 10 - (i + 1) + 170 ≤ kc - 1; omega, by show 6 * (10 - (i + 1) + 170) ≤ ks - 6; omega⟩
end SA1
