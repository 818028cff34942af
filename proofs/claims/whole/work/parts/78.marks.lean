/-! the class's marks -/
section MKS
variable {l : Launch} {d mc ms : Nat} {Q : Option Value → qH → Prop} {QX : String → qH → Prop} {h : qH} {B : Nat} {A : ST}
theorem CS_all {h' : qH} {A' : ST} {S : Nat → Prop} (c : CS h B A) (f : q_fr S h h') (hS : ∀ i, S i → i < 49 → i = 0 ∨ (32 ≤ i ∧ i ≤ 37) ∨ (44 ≤ i ∧ i ≤ 48)) (o : ob h' 0 9 [.ref 1, .ref 6, .ref 9, .ref 14, .ref 18, .ref 25, .ref 32, .ref 38, .ref 44, .ref 48, .int (nI A'.m)]) (eW : A'.W = A.W) (v : RV h' 32 A'.P A'.D) (p : PV h' 44 A'.L) (k : ∃ f, MK h' B A' f) : CS h' B A' := by
  obtain ⟨c1, c2, c3, c4, ⟨P1, D1, c5⟩, ⟨P2, D2, c6⟩, c7, ⟨P3, D3, c8⟩, c9, c10⟩ := c
  unfold CS
  rw [eW]
  exact ⟨o, c2.fr f (fun i a b q => by have := hS i q (by omega); omega) (fun i a b q => by have := hS i q (by omega); omega), ob.fr c3 f (fun q => by have := hS _ q (by omega); omega), c4.fr f (fun i a b q => by have := hS i q (by omega); omega), ⟨_, _, c5.fr f (fun i a b q => by have := hS i q (by omega); omega)⟩, ⟨_, _, c6.fr f (fun i a b q => by have := hS i q (by omega); omega)⟩, v, ⟨_, _, c8.fr f (fun i a b q => by have := hS i q (by omega); omega)⟩, p, k⟩
theorem c_fill {a : Nat} {f : Nat → Option Nat} (hB : 49 ≤ B) (c : CS h B A) (hm : A.m < 8) (k : MK h B A f) (ea : f A.m = some a) (hq : ∀ h', q_fr (clS B) h h' → CS h' B (ST.mk A.W A.P A.D A.L (A.m + 1) (updM A.mP A.m A.P) (updM A.mD A.m A.D) (updM A.mL A.m A.L)) → Q (some (.int (nI A.m))) h') :
    qGR h a 3 0 (fun r21 => qGR h 0 9 6 (fun r22 => qOB h r21 6 (qCV l (d + 5) mX6_copyFrom [.ref r21, .ref r22] h 0 0 (fun h23 => qGR h23 a 3 1 (fun r24 => qGR h23 0 9 8 (fun r25 => qOB h23 r24 5 (qCV l (d + 5) mX5_copyFrom [.ref r24, .ref r25] h23 0 0 (fun h26 => qGI h26 0 9 10 (fun z27 => qPI h26 0 9 10 (z27 + 1) (fun h28 => qGI h28 0 9 10 (fun z29 => Q (some (.int (z29 - 1))) h28))))))))))) := by
  obtain ⟨k0, ⟨g, k1, k2⟩, k3, k4, k5, k6⟩ := k
  obtain ⟨ka, ko, ⟨P1, D1, kv⟩, L1, kp⟩ := k4 A.m a hm ea
  have n32 : 32 + 5 < a + 1 := by omega
  refine e_gr ko rfl (e_gr c.o rfl (e_ob kv.1 (s_copyFrom (Or.inl n32) c.rv kv (fun h1 f1 z1 v1 => ⟨rfl, ?_⟩))))
  have ko1 := ob.fr ko f1 (show ¬ sR (a + 1) a by unfold sR; omega)
  have kp1 := kp.fr f1 (fun i x y => by unfold sR; omega)
  have pv1 := c.pv.fr f1 (fun i x y => by unfold sR; omega)
  have o1 := ob.fr c.o f1 (show ¬ sR (a + 1) 0 by unfold sR; omega)
  refine e_gr ko1 rfl (e_gr o1 rfl (e_ob kp1.1 (s_pcopy (Or.inl (by omega)) pv1 kp1 (fun h2 f2 z2 p2 => ⟨rfl, ?_⟩))))
  have o2 := ob.fr o1 f2 (show ¬ sP (a + 7) 0 by unfold sP; omega)
  refine e_gi o2 rfl (e_pi o2 (Nat.le_of_ble_eq_true rfl) (fun h3 f3 z3 o3 => e_gi o3 rfl ?_))
  show Q (some (.int (nI A.m + 1 - 1))) h3
  rw [nI_1, show nI (A.m + 1) - 1 = nI A.m from nI_pred _]
  rw [nI_1] at o3
  have F : q_fr (fun i => i = 0 ∨ (a + 1 ≤ i ∧ i ≤ a + 10)) h h3 := ((f1.mono (S2 := fun i => i = 0 ∨ (a + 1 ≤ i ∧ i ≤ a + 10)) (fun i _ q => by unfold sR at q; omega)).tt (f2.mono (fun i _ q => by unfold sP at q; omega))).t1 f3 (Or.inl rfl)
  have v3 : RV h3 (a + 1) A.P A.D := (v1.fr f2 (fun i x y => by unfold sP; omega)).fr f3 (fun i x y => by omega)
  have p3 : PV h3 (a + 7) A.L := p2.fr f3 (fun i x y => by omega)
  refine hq h3 (F.mono (fun i _ q => by unfold clS; omega)) (CS_all c F (fun i q r => by omega) o3 rfl (c.rv.fr F (fun i x y => by omega)) (c.pv.fr F (fun i x y => by omega)) ⟨f, Nat.lt_of_lt_of_le k0 F.1, ⟨g, (F.2 48 k0 (by omega)).trans k1, k2⟩, fun i hi hm' => ?_, fun i b hi hb => ?_, fun i b hi hb hm' => ?_, k6⟩)
  · change i < A.m + 1 at hm'
    by_cases e : i = A.m
    · rw [e, ea]; exact fun q => by cases q
    · exact k3 i hi (by omega)
  · by_cases e : i = A.m
    · subst e
      rw [ea] at hb
      cases hb
      exact ⟨ka, ob.fr ko F (by omega), ⟨_, _, v3⟩, _, p3⟩
    · obtain ⟨b1, b2, ⟨P2, D2, b3⟩, L2, b4⟩ := k4 i b hi hb
      have dd := k6 i A.m b a hi hm e hb ea
      exact ⟨b1, ob.fr b2 F (by omega), ⟨_, _, b3.fr F (fun i x y => by omega)⟩, _, b4.fr F (fun i x y => by omega)⟩
  · change i < A.m + 1 at hm'
    show RV h3 (b + 1) (updM A.mP A.m A.P i) (updM A.mD A.m A.D i) ∧ PV h3 (b + 7) (updM A.mL A.m A.L i)
    unfold updM
    by_cases e : i = A.m
    · subst e
      rw [ea] at hb
      cases hb
      rw [if_pos rfl, if_pos rfl, if_pos rfl]
      exact ⟨v3, p3⟩
    · rw [if_neg e, if_neg e, if_neg e]
      have dd := k6 i A.m b a hi hm e hb ea
      have bb := (k4 i b hi hb).1
      have q := k5 i b hi hb (by omega)
      exact ⟨q.1.fr F (fun i x y => by omega), q.2.fr F (fun i x y => by omega)⟩
theorem c_mark (hl0 : l.stackTraces = false) (hkc : 11 ≤ mc) (hks : 685 ≤ ms) (hB : 49 ≤ B) (hh : B ≤ h.2) (c : CS h B A) (ok : aOk A) (hq : rs h B Q QX (E1 nIS) (R_mark A)) : q_Ct l (d + 6) mX9_mark [.ref 0] h mc ms Q QX := by
  unfold R_mark at hq
  have m8 := ok.2.2.2.2.1
  refine v_X9_mark hl0 hkc hks 0 (e_gi c.o rfl ⟨fun q => absurd q (nI_pos (by omega)), fun _ => e_gi c.o rfl ⟨fun q => ?_, fun q => ?_⟩⟩)
  rotate_left
  · have ge : ¬ A.m < 8 := fun r => q (nI_lt (b := 8) r (by decide))
    rw [pif_f ge] at hq
    exact rs_x ne1 c hq
  have lt : A.m < 8 := (nI_ltI (b := 8) (by omega) (by decide)).mp q
  rw [pif_t lt] at hq
  obtain ⟨f, k⟩ := c.2.2.2.2.2.2.2.2.2
  obtain ⟨k0, ⟨g, k1, k2⟩, k3, k4, k5, k6⟩ := id k
  have cl : (nI A.m).toNatClampNeg = A.m := nI_clamp (by omega)
  refine e_gr c.o rfl (e_gi c.o rfl ⟨8, g, k1, vp_in_nI lt (by decide), fun a ea => ?_, fun en => ?_⟩)
  · rw [cl, k2 A.m lt] at ea
    exact c_fill hB c lt k ea (fun h' f' c' => hq.1 rfl h' f' c')
  rw [cl, k2 A.m lt] at en
  refine e_nwn (n := h.2) rfl (fun h1 f1 z1 o1 => s_iK (d := d + 3) (by decide) (by decide) o1 z1 (fun h2 f2 z2 ko v2 p2 => ⟨rfl, ?_⟩))
  have F2 : ∀ S : Nat → Prop, q_fr S h h2 := fun S => (f1 S).tr f2 (fun i _ q => q) (fun i hi q => by omega)
  have o2 := ob.fr c.o (F2 (fun _ => False)) (fun q => q)
  refine e_gr o2 rfl (e_gi o2 rfl ⟨8, g, [.ref (h.2 + 1), .ref (h.2 + 7)], ((F2 (fun _ => False)).2 48 k0 (fun q => q)).trans k1, ko.2, vp_in_nI lt (by decide), ?_⟩)
  generalize hh3 : q_set h2 48 (.inl (3, (8, .inr (.inr (.inr (.inr (va_up g (nI A.m).toNatClampNeg (some h.2)))))))) = h3
  have f3 : q_fr (fun j => j = 48) h2 h3 := by rw [← hh3]; exact q_fr1
  have c48 : h3.1 48 = .inl (3, (8, .inr (.inr (.inr (.inr (va_up g A.m (some h.2))))))) := by rw [← hh3]; show (if (48 : Nat) = 48 then (.inl (3, (8, .inr (.inr (.inr (.inr (va_up g (nI A.m).toNatClampNeg (some h.2))))))) : qC) else h2.1 48) = _; rw [if_pos rfl, cl]
  have F3 : q_fr (fun j => j = 48) h h3 := (F2 _).tt f3
  have old : ∀ i a, i < 8 → f i = some a → a + 10 < h.2 := fun i a hi ha => by
    obtain ⟨b1, b2, b3, L2, b4⟩ := k4 i a hi ha
    obtain ⟨F9, b5, -⟩ := b4.2.2.2.1
    exact b5.1
  have k3' : MK h3 B A (va_up f A.m (some h.2)) := by
    refine ⟨Nat.lt_of_lt_of_le k0 F3.1, ⟨_, c48, fun i hi => ?_⟩, fun i hi hm' => ?_, fun i b hi hb => ?_, fun i b hi hb hm' => ?_, fun i j a b hi hj ne ha hb => ?_⟩
    · by_cases e : i = A.m
      · rw [e, va_up_self, va_up_self]
      · rw [va_up_ne _ _ e, va_up_ne _ _ e]; exact k2 i hi
    · rw [va_up_ne _ _ (show i ≠ A.m by omega)]; exact k3 i hi hm'
    · by_cases e : i = A.m
      · rw [e, va_up_self] at hb
        cases hb
        exact ⟨hh, ob.fr ko f3 (by omega), ⟨_, _, v2.fr f3 (fun i x y => by omega)⟩, _, p2.fr f3 (fun i x y => by omega)⟩
      · rw [va_up_ne _ _ e] at hb
        obtain ⟨b1, b2, ⟨P2, D2, b3⟩, L2, b4⟩ := k4 i b hi hb
        exact ⟨b1, ob.fr b2 F3 (by omega), ⟨_, _, b3.fr F3 (fun i x y => by omega)⟩, _, b4.fr F3 (fun i x y => by omega)⟩
    · have e : i ≠ A.m := by omega
      rw [va_up_ne _ _ e] at hb
      have bb := (k4 i b hi hb).1
      have q := k5 i b hi hb hm'
      exact ⟨q.1.fr F3 (fun i x y => by omega), q.2.fr F3 (fun i x y => by omega)⟩
    · by_cases e1 : i = A.m
      · rw [e1, va_up_self] at ha
        cases ha
        rw [va_up_ne _ _ (show j ≠ A.m by omega)] at hb
        exact Or.inr (old j b hj hb)
      · rw [va_up_ne _ _ e1] at ha
        by_cases e2 : j = A.m
        · rw [e2, va_up_self] at hb
          cases hb
          exact Or.inl (old i a hi ha)
        · rw [va_up_ne _ _ e2] at hb
          exact k6 i j a b hi hj ne ha hb
  have c3 : CS h3 B A := CS_all c F3 (fun i q r => by omega) (ob.fr o2 f3 (by omega)) rfl (c.rv.fr F3 (fun i x y => by omega)) (c.pv.fr F3 (fun i x y => by omega)) ⟨_, k3'⟩
  exact c_fill hB c3 lt k3' (va_up_self _ _ _) (fun h' f' c' => hq.1 rfl h' ((F3.mono (fun i _ q => by unfold clS; omega)).tt f') c')
theorem c_back {x : Int32} (hl0 : l.stackTraces = false) (hkc : 1 ≤ mc) (hks : 6 ≤ ms) (hB : 49 ≤ B) (c : CS h B A) (ok : aOk A) (hq : rs h B Q QX (E1 nIX) (R_back A x)) : q_Ct l (d + 6) mX9_back [.ref 0, .int x] h mc ms Q QX := by
  unfold R_back at hq
  have m8 := ok.2.2.2.2.1
  refine v_X9_back hl0 hkc hks 0 x ⟨fun q => ?_, fun q => e_gi c.o rfl ⟨fun q2 => ?_, fun q2 => ⟨fun q3 => ?_, fun q3 => ?_⟩⟩⟩
  · rw [pif_f (by rintro ⟨j, hj, rfl⟩; exact absurd q (nI_pos (by omega)))] at hq; exact rs_x ne1 c hq
  · rw [pif_f (by rintro ⟨j, hj, rfl⟩; exact absurd q2 (nI_ge hj (by omega)))] at hq; exact rs_x ne1 c hq
  rotate_left
  · rw [pif_f (by rintro ⟨j, hj, rfl⟩; exact q3 (nI_lt (b := 8) (by omega) (by decide)))] at hq; exact rs_x ne1 c hq
  have ht : isT A.m x := by
    have e1 : (nI A.m).toInt = A.m := nI_toInt (by omega)
    rw [lt_i, L_0] at q
    rw [le_i, e1] at q2
    have e3 : x.toNatClampNeg = x.toInt.toNat := rfl
    exact ⟨x.toNatClampNeg, by omega, nI_ofI (by omega)⟩
  rw [pif_t ht] at hq
  obtain ⟨j, hj, rfl⟩ := ht
  have cl : (nI j).toNatClampNeg = j := nI_clamp (by omega)
  rw [cl] at hq
  obtain ⟨f, k⟩ := c.2.2.2.2.2.2.2.2.2
  obtain ⟨k0, ⟨g, k1, k2⟩, k3, k4, k5, k6⟩ := id k
  have j8 : j < 8 := by omega
  refine e_gr c.o rfl ⟨8, g, k1, vp_in_nI j8 (by decide), fun a ea => ?_, fun en => ?_⟩
  rotate_left
  · rw [cl, k2 j j8] at en
    exact absurd en (k3 j j8 hj)
  rw [cl, k2 j j8] at ea
  obtain ⟨ka, ko, -, -⟩ := k4 j a j8 ea
  have kd := k5 j a j8 ea hj
  refine e_gr c.o rfl (e_gr ko rfl (e_ob c.rv.1 (s_copyFrom (Or.inr (by omega)) kd.1 c.rv (fun h1 f1 z1 v1 => ⟨rfl, ?_⟩))))
  have o1 := ob.fr c.o f1 (show ¬ sR 32 0 by unfold sR; omega)
  obtain ⟨lr, hdo⟩ := c.s.2.2.2
  have d1 := ob.fr hdo f1 (show ¬ sR 32 18 by unfold sR; omega)
  refine e_gr o1 rfl (e_gr o1 rfl (e_gi d1 rfl (e_ob v1.1 (s_limitBattery v1 (fun h2 f2 z2 v2 => ⟨rfl, ?_⟩)))))
  have o2 := ob.fr o1 f2 (show ¬ sR 32 0 by unfold sR; omega)
  have F2 := f1.tt f2
  have ko2 := ob.fr ko F2 (show ¬ sR 32 a by unfold sR; omega)
  have pv2 := c.pv.fr F2 (fun i x y => by unfold sR; omega)
  have kp2 := kd.2.fr F2 (fun i x y => by unfold sR; omega)
  refine e_gr o2 rfl (e_gr ko2 rfl (e_ob pv2.1 (s_pcopy (Or.inr (by omega)) kp2 pv2 (fun h3 f3 z3 p3 => ⟨rfl, ?_⟩))))
  have o3 := ob.fr o2 f3 (show ¬ sP 44 0 by unfold sP; omega)
  have v3 := v2.fr f3 (fun i x y => by unfold sP; omega)
  refine e_pi o3 (Nat.le_of_ble_eq_true rfl) (fun h4 f4 z4 o4 => ?_)
  rw [nI_1] at o4
  have v4 := v3.fr f4 (fun i x y => by omega)
  have p4 := p3.fr f4 (fun i x y => by omega)
  refine e_gr o4 rfl (e_gi v4.1 rfl ?_)
  have F : q_fr (fun i => i = 0 ∨ (32 ≤ i ∧ i ≤ 37) ∨ (44 ≤ i ∧ i ≤ 47)) h h4 := ((F2.mono (S2 := fun i => i = 0 ∨ (32 ≤ i ∧ i ≤ 37) ∨ (44 ≤ i ∧ i ≤ 47)) (fun i _ q => by unfold sR at q; omega)).tt (f3.mono (fun i _ q => by unfold sP at q; omega))).t1 f4 (Or.inl rfl)
  refine hq.1 rfl h4 (F.mono (fun i _ q => by unfold clS; omega)) (CS_all c F (fun i q r => by omega) o4 rfl v4 p4 ⟨f, Nat.lt_of_lt_of_le k0 F.1, ⟨g, (F.2 48 k0 (by omega)).trans k1, k2⟩, fun i hi hm' => ?_, fun i b hi hb => ?_, fun i b hi hb hm' => ?_, k6⟩)
  · change i < j + 1 at hm'
    exact k3 i hi (by omega)
  · obtain ⟨b1, b2, ⟨P2, D2, b3⟩, L2, b4⟩ := k4 i b hi hb
    exact ⟨b1, ob.fr b2 F (by omega), ⟨_, _, b3.fr F (fun i x y => by omega)⟩, _, b4.fr F (fun i x y => by omega)⟩
  · change i < j + 1 at hm'
    have bb := (k4 i b hi hb).1
    have q := k5 i b hi hb (by omega)
    exact ⟨q.1.fr F (fun i x y => by omega), q.2.fr F (fun i x y => by omega)⟩
end MKS
