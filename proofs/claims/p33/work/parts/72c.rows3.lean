/-! rows that only constructors and sent use -/
theorem nn_div (a b : Int32) (hb : ¬ b = 0) : vf_n64 (FP.ddiv (FP.i2d a) (FP.i2d b)) := by
  have h1 : FP.Core.Whole a.toInt (FP.Core.val64 (FP.Core.i2d a)) := FP.Core.i2d_int a
  have h2 : FP.Core.Whole b.toInt (FP.Core.val64 (FP.Core.i2d b)) := FP.Core.i2d_int b
  have h3 : FP.Core.val64 (FP.Core.ddiv (FP.Core.i2d a) (FP.Core.i2d b)) = FP.Core.quotient FP.Core.b64 (FP.Core.val64 (FP.Core.i2d a)) (FP.Core.val64 (FP.Core.i2d b)) := FP.Core.val64_ddiv _ _
  have hb0 : b.toInt ≠ 0 := fun q => hb (Int32.toInt_inj.mp (by rw [q]; exact L_0.symm))
  have hn : FP.Core.quotient FP.Core.b64 (FP.Core.val64 (FP.Core.i2d a)) (FP.Core.val64 (FP.Core.i2d b)) ≠ .nan := by
    cases hx : FP.Core.val64 (FP.Core.i2d a) with
    | nan => rw [hx] at h1; exact h1.elim
    | inf s => rw [hx] at h1; exact h1.elim
    | fin s c q =>
      cases hy : FP.Core.val64 (FP.Core.i2d b) with
      | nan => rw [hy] at h2; exact h2.elim
      | inf s => rw [hy] at h2; exact h2.elim
      | fin t dd r =>
        rw [hy] at h2
        have hd : dd ≠ 0 := fun e => by
          subst e
          have e2 : FP.Core.signed t (0 * 2 ^ r.toNat) = b.toInt * ((2 ^ (-r).toNat : Nat) : Int) := h2
          rw [Nat.zero_mul] at e2
          have e3 : FP.Core.signed t 0 = 0 := by unfold FP.Core.signed; cases t <;> simp
          rw [e3] at e2
          have e4 : ((2 ^ (-r).toNat : Nat) : Int) ≠ 0 := by
            have := Nat.two_pow_pos (-r).toNat
            omega
          rcases Int.mul_eq_zero.mp e2.symm with q | q
          · exact hb0 q
          · exact e4 q
        show (if dd = 0 then _ else FP.Core.roundRatio FP.Core.b64 (s != t) c dd (q - r)) ≠ _
        rw [if_neg hd]
        unfold FP.Core.roundRatio
        split
        · simp
        · unfold FP.Core.roundAt FP.Core.settle FP.Core.bound
          split <;> split <;> simp
  rw [← h3] at hn
  show FP.Core.ddiv (FP.Core.i2d a) (FP.Core.i2d b) &&& 0x7fffffffffffffff ≤ 0x7ff0000000000000
  generalize FP.Core.ddiv (FP.Core.i2d a) (FP.Core.i2d b) = x at hn ⊢
  unfold FP.Core.val64 FP.Core.decode at hn
  rw [UInt64.le_iff_toNat_le, UInt64.toNat_and]
  have lt := x.toNat_lt
  have e1 : (0x7fffffffffffffff : UInt64).toNat = 2 ^ 63 - 1 := by decide +kernel
  have e2 : (0x7ff0000000000000 : UInt64).toNat = 2047 * 2 ^ 52 := by decide +kernel
  rw [e1, e2, Nat.and_two_pow_sub_one_eq_mod]
  have e3 : FP.Core.fieldE FP.Core.b64 x.toNat = x.toNat / 4503599627370496 % 2048 := rfl
  have e4 : FP.Core.fieldT FP.Core.b64 x.toNat = x.toNat % 4503599627370496 := rfl
  have e5 : FP.Core.b64.exps - 1 = 2047 := by decide
  rw [e3, e4, e5] at hn
  by_cases c1 : x.toNat / 4503599627370496 % 2048 = 2047
  · rw [if_pos c1] at hn
    by_cases c2 : x.toNat % 4503599627370496 = 0
    · omega
    · rw [if_neg c2] at hn
      exact absurd rfl hn
  · omega
def qNM (h : qH) (N : Nat) (P : Nat → qH → Prop) : Prop := P h.2 (q_push h (.inl (3, (N, .inr (.inr (.inr (.inr (fun _ => none))))))))
section QK8
variable {l : Launch} {d : Nat} {Y : qM} {mc ms : Nat} {Q : Option Value → qH → Prop} {QX : String → qH → Prop} {n0 pc : Nat} {lo : List (Option Value)} {st : List Value} {h : qH} {kc ks : Nat}
theorem j_dret {z : UInt64} (hd : decode Y.2.1 pc = .ok (.dreturn, 1)) (hr : Y.2.2.2 = some .double) (hq : Q (some (.double z)) h) : q_J l d Y mc ms Q QX n0 pc lo [.double z] h kc ks := by
  intro p e s m args below meth c H locs cells slots ls g ad0 ad C0 S h1 h2
  obtain ⟨s1, s2, s3, s4, s5, s6, s7, s8, s9⟩ := S
  obtain ⟨c1, c2, c3, c4, c5, c6, c7, c8, c9, c10, c11, c12⟩ := id C0
  refine vx_ret (W.widen (k := mc) (n := ms) (by omega) (by omega) ?_)
  exact W.dret (v := z) c1 c2 (c3.trans hr) (fun t ht hW => ⟨some (.double z), h, ad, rfl, hq, s8, s9, (fun w hw => by cases hw; exact q_wd _ _), s3, by rw [ht]; exact s1, s2, s4.F ht⟩) s4.2.2 hd c6
theorem j_newM {z : Int32} {N idx : Nat} (hl : Cond.classLink Y.1.cls idx "RoverPlanner$Mark" ∈ q_W) (hd : decode Y.2.1 pc = .ok (.anewarray idx, 3)) (hn : ¬ z < 0) (hN : z.toNatClampNeg = N) (hb : N ≤ 100000) {kc' ks' : Nat} (hk1 : kc' + 1 ≤ kc) (hk2 : ks' + N ≤ ks)
    (k : q_J l d Y mc ms Q QX n0 (pc + 3) lo (.ref h.2 :: st) (q_push h (.inl (3, (N, .inr (.inr (.inr (.inr (fun _ => none)))))))) kc' ks') : q_J l d Y mc ms Q QX n0 pc lo (.int z :: st) h kc ks := by
  intro p e s m args below meth c H locs cells slots ls g ad0 ad C0 S h1 h2
  obtain ⟨s1, s2, s3, s4, s5, s6, s7, s8, s9⟩ := id S
  obtain ⟨c1, c2, c3, c4, c5, c6, c7, c8, c9, c10, c11, c12⟩ := id C0
  refine va_newq (D := g.1) (cl := q_cls) (tys := q_ty g) (A := q_A g) (H0 := s.heap) c1 c2 c5 (c8 _ hl) c11.2.2.2.2.2.1 c10 s1 s2 s4 (fun q hq => Nat.le_trans c12 hq) hn hN (show N * 4 ≤ 536870912 by omega) (show cells + 1 ≤ mc by omega) (show slots + N ≤ ms by omega) hd (fun q cA H1 hK hP hD hS => ?_)
  have hcA : cA = g.2.1 3 := by
    obtain ⟨kA, comp, a1, a2, a3, a4⟩ := (hK.2 5 (cA, .object "RoverPlanner$Mark") rfl).2
    obtain ⟨kA', comp', b1, b2, b3, b4⟩ := (hK.2 3 (g.2.1 3, .object "RoverPlanner$Mark") rfl).2
    exact Option.some.inj (a4.symm.trans b4)
  subst hcA
  obtain ⟨S', e8⟩ := q_grown (Y := Y) (cl := .inl (3, (N, .inr (.inr (.inr (.inr (fun _ => none))))))) S (fun k i hk => by cases hk) hP hD hS st (fun v hv => List.mem_cons_of_mem _ hv)
  have h9 := k p e s m args below meth c H1 locs (cells + 1) (slots + N) ls g ad0 (q_up ad h.2 q) C0 S' (by omega) (by omega)
  rw [e8] at h9
  exact h9
theorem jj_newM {P : Nat → qH → Prop} {z : Int32} {N idx : Nat} (hl : Cond.classLink Y.1.cls idx "RoverPlanner$Mark" ∈ q_W) (hd : decode Y.2.1 pc = .ok (.anewarray idx, 3)) (hn : ¬ z < 0) (hN : z.toNatClampNeg = N) (hb : N ≤ 100000) {kc' ks' : Nat} (hk1 : kc' + 1 ≤ kc) (hk2 : ks' + N ≤ ks) (hv : qNM h N P)
    (k : ∀ (r : Nat) (h' : qH), P r h' → q_J l d Y mc ms Q QX n0 (pc + 3) lo (.ref r :: st) h' kc' ks') : q_J l d Y mc ms Q QX n0 pc lo (.int z :: st) h kc ks := j_newM hl hd hn hN hb hk1 hk2 (k _ _ hv)
end QK8
