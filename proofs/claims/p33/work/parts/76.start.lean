/-! THE LAW: a cell of the script (any number); the law's own rover as it is made; the ground -/
theorem w_c_L_8 : Cond.constant RL 8 (790386105 : Int32) ∈ q_W := q_in (List.mem_of_getElem? (i := 895) (by decide +kernel)) (by decide +kernel)
section ST1
variable {l : Launch} {d mc ms : Nat} {Q : Option Value → qH → Prop} {QX : String → qH → Prop} {h : qH}
theorem j_scr {Y : qM} {n0 pc kc ks : Nat} {lo : List (Option Value)} {st : List Value} {k : Int32} {off : Int} {tgt : Nat} {n m : Fin 4} (hk : ¬ k < 0) (d0 : decode Y.2.1 pc = .ok (.arraylength, 1)) (d1 : decode Y.2.1 (pc + 1) = .ok (.if_icmp .ge off, 3)) (ht : ((pc + 1 : Nat) : Int) + off = (tgt : Int)) (d2 : decode Y.2.1 (pc + 4) = .ok (.aload_n n, 1)) (d3 : decode Y.2.1 (pc + 5) = .ok (.iload_n m, 1)) (d4 : decode Y.2.1 (pc + 6) = .ok (.iaload, 1))
    (l0 : lo[(n : Nat)]? = some (some (.float 4))) (l1 : lo[(m : Nat)]? = some (some (.int k))) (kt : q_J l d Y mc ms Q QX n0 tgt lo st h kc ks) (kf : ∀ z : Int32, q_J l d Y mc ms Q QX n0 (pc + 7) lo (.int z :: st) h kc ks) : q_J l d Y mc ms Q QX n0 pc lo (.float 4 :: .int k :: st) h kc ks := by
  intro p e s m' args below meth c H locs cells slots ls g ad0 ad C0 S h1 h2
  obtain ⟨s1, s2, s3, s4, s5, s6, s7, s8, s9⟩ := S
  obtain ⟨c1, c2, c3, c4, c5, c6, c7, c8, c9, c10, c11, c12⟩ := id C0
  obtain ⟨x3, L, xs, hL, x2⟩ := c11.2.2.2.2.2.2.2
  have e9 : q_tv g ad (.float 4) = .ref (g.2.2.1 4) := rfl
  have st7 : ∀ v ∈ st, q_wv h.2 v := q_tl (q_tl s7)
  rw [List.map_cons, e9, List.map_cons]
  refine va_slen (A := q_A g) c1 c2 x2 (Nat.lt_of_lt_of_le x3 c12) (Nat.not_le.mpr x3) s4 d0 ?_
  refine lv_icmp_ge (tgt := tgt) c1 c2 d1 ht (fun _ => ?_) (fun q => ?_)
  · exact kt p e s m' args below meth c H locs cells slots ls g ad0 ad C0 ⟨s1, s2, s3, s4, s5, s6, st7, s8, s9⟩ h1 h2
  · have hin : vp_in k L := by
      rintro (r | r)
      · exact hk r
      · refine q ?_
        have e1 : (Int32.ofNat L).toInt = (L : Int) := nI_toInt hL
        rw [lt_i, L_0] at hk
        have e2 : k.toNatClampNeg = k.toInt.toNat := rfl
        rw [le_i, e1]
        omega
    refine lv_aload_n c1 c2 d2 rfl (s5.2.2 _ _ l0) ?_
    refine lv_iload_n c1 c2 d3 rfl (s5.2.2 _ _ l1) ?_
    exact va_sld (A := q_A g) c1 c2 x2 (Nat.lt_of_lt_of_le x3 c12) (Nat.not_le.mpr x3) s4 hin d4 (kf _ p e s m' args below meth c H locs cells slots ls g ad0 ad C0 ⟨s1, s2, s3, s4, s5, s6, q_cn (q_wi _ _) st7, s8, s9⟩ h1 h2)
theorem s_cell {k : Int32} (hk : ¬ k < 0) (hq : ∀ z : Int32, Q (some (.int z)) h) : q_Ct l d mL_cell [.float 4, .int k] h mc ms Q QX := by
  refine q_body (by decide) (by intro v hm; simp only [List.mem_cons, List.not_mem_nil, or_false] at hm; rcases hm with rfl | rfl <;> rfl) (Nat.le_of_ble_eq_true rfl) ?_
  refine j_iload_n dL_cell_0 rfl rfl (j_aload_nF (z := 4) dL_cell_1 rfl rfl (j_scr (tgt := 12) hk dL_cell_2 dL_cell_3 (by decide) dL_cell_6 dL_cell_7 dL_cell_8 rfl rfl ?_ (fun z => j_goto (tgt := 18) dL_cell_9 (by decide) (j_iret dL_cell_18 rfl (hq _)))))
  exact j_ldc dL_cell_12 w_c_L_8 (j_iload_n dL_cell_14 rfl rfl (j_iconst (v := 3) dL_cell_15 (by decide) (j_iadd dL_cell_16 (j_imul dL_cell_17 (j_iret dL_cell_18 rfl (hq _))))))
/-- the law's own rover, before it has ground -/
def SI (h : qH) (mem cap b : Int32) (g : Value) : Prop := ob h 49 10 [.ref 50, .ref 51, .ref 52, .ref 53, .int 0, .int mem, .ref 54, g, .ref 55] ∧ ar h 50 9 (rR (PH.mk 0 0 0 b (-20) 100 0) 0 cap) ∧ rr h 51 0 (fun _ => none) ∧ ar h 52 12 (fun _ => 0) ∧ br h 53 12 (fun _ => 0) ∧ ∃ F, ar h 54 1440 F
theorem SI.fr {h h' : qH} {mem cap b : Int32} {g : Value} {S : Nat → Prop} (s : SI h mem cap b g) (f : q_fr S h h') (hS : ∀ i, S i → i < 49 ∨ 54 < i) : SI h' mem cap b g := by
  obtain ⟨s1, s2, s3, s4, s5, F, s6⟩ := s
  have n : ∀ i, 49 ≤ i → i ≤ 54 → ¬ S i := fun i a b q => by have := hS i q; omega
  exact ⟨s1.fr f (n _ (by omega) (by omega)), s2.fr f (n _ (by omega) (by omega)), s3.fr f (n _ (by omega) (by omega)), s4.fr f (n _ (by omega) (by omega)), s5.fr f (n _ (by omega) (by omega)), F, s6.fr f (n _ (by omega) (by omega))⟩
theorem s_simI (hkc : 6 ≤ mc) (hks : 1485 ≤ ms) (o : ob h 49 10 dfX10) (hr : h.2 = 50) (hq : ∀ h', q_fr (fun j => j = 49) h h' → h'.2 = 56 → SI h' 800 4000 3000 .null → rr h' 55 12 (fun _ => none) → Q none h') : q_Ct l (d + 1) mX10_init [.ref 49] h mc ms Q QX := by
  refine v_X10_init hkc hks 49 (e_nin (n := 50) hr (fun h1 f1 z1 a1 => ?_))
  refine e_as (k := 0) a1 rfl (by decide) (by decide) (fun h2 f2 z2 a2 => e_as (k := 1) a2 rfl (by decide) (by decide) (fun h3 f3 z3 a3 => e_as (k := 2) a3 rfl (by decide) (by decide) (fun h4 f4 z4 a4 => e_as (k := 3) a4 rfl (by decide) (by decide) (fun h5 f5 z5 a5 => ?_))))
  refine e_as (k := 4) a5 rfl (by decide) (by decide) (fun h6 f6 z6 a6 => e_as (k := 5) a6 rfl (by decide) (by decide) (fun h7 f7 z7 a7 => e_as (k := 6) a7 rfl (by decide) (by decide) (fun h8 f8 z8 a8 => e_as (k := 7) a8 rfl (by decide) (by decide) (fun h9 f9 z9 a9 => e_as (k := 8) a9 rfl (by decide) (by decide) (fun h10 f10 z10' a10 => ?_)))))
  have F10 : q_fr (fun j => j = 50) h1 h10 := ((((((((f2.tt f3).tt f4).tt f5).tt f6).tt f7).tt f8).tt f9).tt f10)
  have o10 : ob h10 49 10 dfX10 := (ob.fr o (f1 (fun _ => False)) (fun q => q)).fr F10 (by decide)
  have r10 : ar h10 50 9 (rR (PH.mk 0 0 0 3000 (-20) 100 0) 0 4000) := a10.to (fun p hp => by
    rcases (show p = 0 ∨ p = 1 ∨ p = 2 ∨ p = 3 ∨ p = 4 ∨ p = 5 ∨ p = 6 ∨ p = 7 ∨ p = 8 by omega) with rfl | rfl | rfl | rfl | rfl | rfl | rfl | rfl | rfl <;> rfl)
  have z10 : h10.2 = 51 := by omega
  refine e_pr o10 (Nat.le_of_ble_eq_true rfl) (fun h11 f11 z11 o11 => e_nan (n := 51) (N := 0) (by omega) rfl (by decide) (by decide) (fun h12 f12 z12 a12 => e_pr (ob.fr o11 (f12 (fun _ => False)) (fun q => q)) (Nat.le_of_ble_eq_true rfl) (fun h13 f13 z13 o13 => ?_)))
  refine e_nin (n := 52) (by omega) (fun h14 f14 z14 a14 => e_pr (ob.fr o13 (f14 (fun _ => False)) (fun q => q)) (Nat.le_of_ble_eq_true rfl) (fun h15 f15 z15 o15 => ?_))
  refine e_nzn (n := 53) (by omega) (fun h16 f16 z16 a16 => e_pr (ob.fr o15 (f16 (fun _ => False)) (fun q => q)) (Nat.le_of_ble_eq_true rfl) (fun h17 f17 z17 o17 => ?_))
  refine e_pi o17 (Nat.le_of_ble_eq_true rfl) (fun h18 f18 z18 o18 => ?_)
  refine e_nin (n := 54) (by omega) (fun h19 f19 z19 a19 => e_pr (ob.fr o18 (f19 (fun _ => False)) (fun q => q)) (Nat.le_of_ble_eq_true rfl) (fun h20 f20 z20 o20 => ?_))
  refine e_nan (n := 55) (N := 12) (by omega) rfl (by decide) (by decide) (fun h21 f21 z21 a21 => e_pr (ob.fr o20 (f21 (fun _ => False)) (fun q => q)) (Nat.le_of_ble_eq_true rfl) (fun h22 f22 z22 o22 => ?_))
  have g21 : q_fr (fun j => j = 49) h21 h22 := f22
  have g19 := (f20.tt (f21 _)).tt g21
  have g16 := ((f17.tt f18).tt (f19 _)).tt g19
  have g14 := (f15.tt (f16 _)).tt g16
  have g12 := (f13.tt (f14 _)).tt g14
  have g10 := (f11.tt (f12 _)).tt g12
  have n : ∀ i : Nat, 50 ≤ i → ¬ i = 49 := fun i hi => by omega
  have tot : q_fr (fun j => j = 49) h h22 := (((f1 (fun _ => False)).tr F10 (S3 := fun j => j = 49) (fun i _ q => q.elim) (fun i hi q => by omega)).tt g10)
  exact hq h22 tot (by omega) ⟨o22, r10.fr g10 (n _ (by decide)), a12.fr g12 (n _ (by decide)), a14.fr g14 (n _ (by decide)), a16.fr g16 (n _ (by decide)), _, a19.fr g19 (n _ (by decide))⟩ (a21.fr g21 (n _ (by decide)))
end ST1
