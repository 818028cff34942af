/-! the model: signs, units, targets, passes -/
theorem e_ni {h : qH} {N : Nat} {P : Nat → qH → Prop} {S : Nat → Prop} (hp : ∀ h', q_fr S h h' → h'.2 = h.2 + 1 → ar h' h.2 N (fun _ => 0) → P h.2 h') : qNI h N P :=
  hp _ ⟨Nat.le_succ _, fun i hi _ => if_neg (Nat.ne_of_lt hi)⟩ rfl ⟨Nat.lt_succ_self _, _, if_pos rfl, fun _ _ => rfl⟩
theorem e_nz {h : qH} {N : Nat} {P : Nat → qH → Prop} {S : Nat → Prop} (hp : ∀ h', q_fr S h h' → h'.2 = h.2 + 1 → br h' h.2 N (fun _ => 0) → P h.2 h') : qNZ h N P :=
  hp _ ⟨Nat.le_succ _, fun i hi _ => if_neg (Nat.ne_of_lt hi)⟩ rfl ⟨Nat.lt_succ_self _, _, if_pos rfl, fun _ _ => rfl⟩
def alO (D : DT) (k : Nat) : Nat → Int32
  | 0 => D.oc k
  | i + 1 => if D.pt i = nI k ∧ D.pg i < 9 then alO D k i ||| ((1 : Int32) <<< (D.pg i &&& 31)) else alO D k i
def tcO (D : DT) (k : Nat) : Nat → Bool
  | 0 => decide (¬ D.tc k = 0)
  | i + 1 => tcO D k i || decide (D.pt i = nI k ∧ D.pg i = 9)
theorem or_512 (a : Int32) (t : Bool) : (a ||| (if t = true then 512 else 0)) ||| 512 = a ||| (if true = true then 512 else 0) := by
  rw [if_pos rfl, Int32.or_assoc]
  cases t
  · rfl
  · rfl
theorem or_swap (a x b : Int32) : (a ||| x) ||| b = (a ||| b) ||| x := by rw [Int32.or_assoc, Int32.or_assoc, Int32.or_comm x]
theorem allF_is {D : DT} {k : Nat} (hG : gG D) : ∀ i, i ≤ D.n → allF D (nI k) (sgn D k) i = alO D k i ||| (if tcO D k i = true then 512 else 0) := by
  intro i
  induction i with
  | zero =>
    intro _
    show sgn D k = D.oc k ||| (if decide (¬ D.tc k = 0) = true then 512 else 0)
    unfold sgn
    by_cases e : D.tc k = 0
    · simp [e]
    · simp [e]
  | succ i ih =>
    intro hi
    have ih := ih (by omega)
    unfold allF alO tcO
    rw [ih]
    by_cases e : D.pt i = nI k
    · rw [if_pos e]
      obtain ⟨g, hg, eg⟩ := hG i (by omega)
      by_cases e9 : D.pg i = 9
      · have n9 : ¬ (D.pt i = nI k ∧ D.pg i < 9) := fun q => by rw [e9] at q; exact absurd q.2 (by decide)
        rw [if_neg n9, show decide (D.pt i = nI k ∧ D.pg i = 9) = true from decide_eq_true ⟨e, e9⟩, Bool.or_true]
        have e5 : ((1 : Int32) <<< (D.pg i &&& 31)) = 512 := by rw [e9]; decide
        rw [e5]
        exact or_512 _ _
      · have g9 : g < 9 := by
          rcases Nat.lt_or_eq_of_le hg with q | q
          · exact q
          · rw [eg, q] at e9; exact absurd rfl e9
        have lt : D.pg i < 9 := by rw [eg]; exact nI_lt (b := 9) g9 (by decide)
        rw [show decide (D.pt i = nI k ∧ D.pg i = 9) = false from decide_eq_false (fun q => e9 q.2), Bool.or_false]
        generalize (if tcO D k i = true then (512 : Int32) else 0) = x
        rw [if_pos ⟨e, lt⟩]
        exact or_swap _ _ _
    · rw [if_neg e, show decide (D.pt i = nI k ∧ D.pg i = 9) = false from decide_eq_false (fun q => e q.1), Bool.or_false]
      generalize (if tcO D k i = true then (512 : Int32) else 0) = x
      rw [if_neg (fun q => e q.1)]
theorem one_and {g : Nat} (h : g < 9) : ((1 : Int32) <<< (nI g &&& 31)) &&& -513 = ((1 : Int32) <<< (nI g &&& 31)) := by
  match g, h with
  | 0, _ => decide
  | 1, _ => decide
  | 2, _ => decide
  | 3, _ => decide
  | 4, _ => decide
  | 5, _ => decide
  | 6, _ => decide
  | 7, _ => decide
  | 8, _ => decide
theorem alO_and {D : DT} {k : Nat} (hG : gG D) (h0 : D.oc k &&& -513 = D.oc k) : ∀ i, i ≤ D.n → alO D k i &&& -513 = alO D k i := by
  intro i
  induction i with
  | zero => exact fun _ => h0
  | succ i ih =>
    intro hi
    have ih := ih (by omega)
    unfold alO
    by_cases e : D.pt i = nI k ∧ D.pg i < 9
    · rw [if_pos e]
      obtain ⟨g, hg, eg⟩ := hG i (by omega)
      have g9 : g < 9 := by
        have := e.2
        rw [eg] at this
        exact (nI_ltI (b := 9) (by omega) (by decide)).mp this
      rw [i_oa, ih, eg, one_and g9]
    · rw [if_neg e]; exact ih
theorem sgn_and {a : Int32} {t : Bool} (h : a &&& -513 = a) : (a ||| (if t = true then 512 else 0)) &&& -513 = a ∧ ((a ||| (if t = true then 512 else 0)) &&& 512 = 0 ↔ t = false) := by
  have a5 : a &&& 512 = 0 := by
    rw [← h, Int32.and_assoc, show (-513 : Int32) &&& 512 = 0 by decide, Int32.and_zero]
  cases t
  · rw [if_neg (by decide), Int32.or_zero]
    exact ⟨h, fun _ => rfl, fun _ => a5⟩
  · rw [if_pos rfl, i_oa, i_oa, h, a5]
    refine ⟨?_, fun q => ?_, fun q => absurd q (by decide)⟩
    · rw [show (512 : Int32) &&& -513 = 0 by decide, Int32.or_zero]
    · exact absurd q (by decide)
def alA (D : DT) (k : Nat) : Int32 := alO D k D.n
theorem sgA_and {D : DT} {k : Nat} (hd : dOk D) (hk : k < 12) : sgA D k &&& -513 = alA D k ∧ (sgA D k &&& 512 = 0 ↔ tcO D k D.n = false) := by
  unfold sgA
  rw [allF_is hd.2.1 D.n (Nat.le_refl _)]
  exact sgn_and (alO_and hd.2.1 (hd.2.2.1 k hk) D.n (Nat.le_refl _))
theorem sgn_is {D : DT} {k : Nat} : sgn D k = D.oc k ||| (if decide (¬ D.tc k = 0) = true then 512 else 0) := by
  unfold sgn
  by_cases e : D.tc k = 0
  · simp [e]
  · simp [e]
theorem sgn_and2 {D : DT} {k : Nat} (hd : dOk D) (hk : k < 12) : sgn D k &&& -513 = D.oc k ∧ (sgn D k &&& 512 = 0 ↔ D.tc k = 0) := by
  rw [sgn_is]
  have := sgn_and (t := decide (¬ D.tc k = 0)) (hd.2.2.1 k hk)
  refine ⟨this.1, this.2.trans ?_⟩
  simp
theorem sgA_bit {D : DT} {k o : Nat} (hd : dOk D) (ho : o < 9) : ((sgA D k >>> (nI o &&& 31)) &&& 1) = ((alA D k >>> (nI o &&& 31)) &&& 1) := by
  rw [b_bit (by omega), b_bit (by omega)]
  unfold sgA alA
  rw [allF_is hd.2.1 D.n (Nat.le_refl _), b_or]
  have e : (if tcO D k D.n = true then (512 : Int32) else 0).toBitVec.getLsbD o = false := by
    split
    · match o, ho with
      | 0, _ => decide
      | 1, _ => decide
      | 2, _ => decide
      | 3, _ => decide
      | 4, _ => decide
      | 5, _ => decide
      | 6, _ => decide
      | 7, _ => decide
      | 8, _ => decide
    · match o, ho with
      | 0, _ => decide
      | 1, _ => decide
      | 2, _ => decide
      | 3, _ => decide
      | 4, _ => decide
      | 5, _ => decide
      | 6, _ => decide
      | 7, _ => decide
      | 8, _ => decide
  rw [e, Bool.or_false]
section MD4
variable {l : Launch} {d mc ms : Nat} {Q : Option Value → qH → Prop} {QX : String → qH → Prop} {h : qH} {W : WS} {n m r : Nat} {th wy : Int32} {P : PH} {D : DT}
theorem n34 {j : Nat} : (34 : Int32) + 4 * nI j = nI (34 + 4 * j) := by
  rw [show (4 : Int32) = nI 4 from rfl, pk_mul, show (34 : Int32) = nI 34 from rfl, nI_add]
theorem n34' {j b : Nat} {z : Int32} (hz : z = nI b) : (34 : Int32) + 4 * nI j + z = nI (34 + 4 * j + b) := by rw [n34, hz, nI_add]
theorem mr_pt {j : Nat} {Pr : Int32 → Prop} {z : Int32} (v : MR h r P D) (hn : D.n ≤ 133) (hj : j < D.n) (hz : z = nI (34 + 4 * j)) (hp : Pr (D.pt j)) : qAL h r z Pr := mr_rd (k := 34 + 4 * j) v hz (by omega) (fun F q => (q.pc j hj).1) hp
theorem mr_pl {j : Nat} {Pr : Int32 → Prop} {z : Int32} (v : MR h r P D) (hn : D.n ≤ 133) (hj : j < D.n) (hz : z = nI (34 + 4 * j + 1)) (hp : Pr (D.pl j)) : qAL h r z Pr := mr_rd (k := 34 + 4 * j + 1) v hz (by omega) (fun F q => (q.pc j hj).2.1) hp
theorem mr_pp {j : Nat} {Pr : Int32 → Prop} {z : Int32} (v : MR h r P D) (hn : D.n ≤ 133) (hj : j < D.n) (hz : z = nI (34 + 4 * j + 2)) (hp : Pr (D.pp j)) : qAL h r z Pr := mr_rd (k := 34 + 4 * j + 2) v hz (by omega) (fun F q => (q.pc j hj).2.2.1) hp
theorem mr_pg {j : Nat} {Pr : Int32 → Prop} {z : Int32} (v : MR h r P D) (hn : D.n ≤ 133) (hj : j < D.n) (hz : z = nI (34 + 4 * j + 3)) (hp : Pr (D.pg j)) : qAL h r z Pr := mr_rd (k := 34 + 4 * j + 3) v hz (by omega) (fun F q => (q.pc j hj).2.2.2) hp
theorem mr_n {Pr : Int32 → Prop} {z : Int32} (v : MR h r P D) (hz : z = nI 9) (hp : Pr (nI D.n)) : qAL h r z Pr := mr_rd (k := 9) v hz (by decide) (fun F q => q.n) hp
theorem mr_oc {k : Nat} {Pr : Int32 → Prop} {z : Int32} (v : MR h r P D) (hk : k < 12) (hz : z = nI (10 + k)) (hp : Pr (D.oc k)) : qAL h r z Pr := mr_rd (k := 10 + k) v hz (by omega) (fun F q => (q.oc k hk).1) hp
theorem mr_tc {k : Nat} {Pr : Int32 → Prop} {z : Int32} (v : MR h r P D) (hk : k < 12) (hz : z = nI (22 + k)) (hp : Pr (D.tc k)) : qAL h r z Pr := mr_rd (k := 22 + k) v hz (by omega) (fun F q => (q.oc k hk).2) hp
theorem m_units (v : MR h r P D) (hd : dOk D) (hq : Q (some (.int (unA D))) h) : q_Ct l d mX10_units [.ref r] h mc ms Q QX := by
  have n0 := dOk_n hd
  refine v_X10_units (d := d) r ?_
  refine q_loop (fun i h' => q_J l d mX10_units mc ms Q QX h.2 4 [some (.ref r), some (.int (unF D.pl i)), some (.int (nI i))] [] h' mc ms) (fun i h' => h' = h) D.n ?_ ?_ 0 h (by omega) rfl
  · rintro h' rfl
    exact v_X10_units_4 (d := d) r _ (nI D.n) (mr_n v rfl ⟨fun _ => hq, fun q => absurd (Int32.le_refl _) q⟩)
  · rintro i h' hi rfl ih
    refine v_X10_units_4 (d := d) r _ (nI i) (mr_n v rfl ⟨fun q => absurd q (nI_ge hi (by omega)), fun _ => mr_pl v n0 hi (n34' (b := 1) rfl) ?_⟩)
    rw [nI_1]
    exact ih h' rfl
theorem m_roverTold {w : Int32} (v : MR h r P D) (hd : dOk D) (hw : isW w 9) (hq : Q (some (.int (tellA P D w))) h) : q_Ct l (d + 1) mX10_roverTold [.ref r, .int w] h mc ms Q QX := by
  obtain ⟨w0, w1⟩ := hw
  have ew := nI_ofI (z := w) w0
  have ew2 : w.toNatClampNeg = w.toInt.toNat := rfl
  generalize w.toNatClampNeg = k at ew ew2
  subst ew
  have hk : k ≤ 9 := by omega
  have key : ∀ (a b : Nat), a < 10 → b < 10 → (nI a = nI b ↔ a = b) := fun a b ha hb => nI_eq (by omega) (by omega)
  unfold tellA at hq
  match k, hk with
  | 0, _ => exact v_X10_roverTold r _ ⟨fun q => absurd q (by decide), fun _ => mr_rd (k := 0) v rfl (by decide) (fun F q => q.t) hq⟩
  | 1, _ => exact v_X10_roverTold r _ ⟨fun q => absurd q (by decide), fun _ => mr_rd (k := 1) v rfl (by decide) (fun F q => q.x) hq⟩
  | 2, _ => exact v_X10_roverTold r _ ⟨fun q => absurd q (by decide), fun _ => mr_rd (k := 2) v rfl (by decide) (fun F q => q.y) hq⟩
  | 3, _ => exact v_X10_roverTold r _ ⟨fun q => absurd q (by decide), fun _ => mr_rd (k := 3) v rfl (by decide) (fun F q => q.b) hq⟩
  | 4, _ => exact v_X10_roverTold r _ ⟨fun q => absurd q (by decide), fun _ => mr_rd (k := 4) v rfl (by decide) (fun F q => q.tp) hq⟩
  | 5, _ => exact v_X10_roverTold r _ ⟨fun q => absurd q (by decide), fun _ => mr_rd (k := 5) v rfl (by decide) (fun F q => q.ht) hq⟩
  | 6, _ => exact v_X10_roverTold r _ ⟨fun q => absurd q (by decide), fun _ => mr_rd (k := 6) v rfl (by decide) (fun F q => q.cl) hq⟩
  | 7, _ => exact v_X10_roverTold r _ ⟨fun _ => ⟨fun _ => m_units v hd ⟨_, rfl, hq⟩, fun q => absurd rfl q⟩, fun q => absurd (by decide) q⟩
  | 8, _ => exact v_X10_roverTold r _ ⟨fun _ => ⟨fun q => absurd q (by decide), fun _ => ⟨fun _ => mr_n v rfl hq, fun q => absurd rfl q⟩⟩, fun q => absurd (by decide) q⟩
  | 9, _ => exact v_X10_roverTold r _ ⟨fun _ => ⟨fun q => absurd q (by decide), fun _ => ⟨fun q => absurd q (by decide), fun _ => mr_rd (k := 7) v rfl (by decide) (fun F q => q.us) hq⟩⟩, fun q => absurd (by decide) q⟩
theorem m_allOctants {k : Nat} (v : MR h r P D) (hd : dOk D) (hk : k < 12) (hq : Q (some (.int (alA D k))) h) : q_Ct l d mX10_allOctants [.ref r, .int (nI k)] h mc ms Q QX := by
  have n0 := dOk_n hd
  refine v_X10_allOctants (d := d) r _ (mr_oc v hk (by rw [show (10 : Int32) = nI 10 from rfl, nI_add]) ?_)
  refine q_loop (fun i h' => q_J l d mX10_allOctants mc ms Q QX h.2 9 [some (.ref r), some (.int (nI k)), some (.int (alO D k i)), some (.int (nI i))] [] h' mc ms) (fun i h' => h' = h) D.n ?_ ?_ 0 h (by omega) rfl
  · rintro h' rfl
    exact v_X10_allOctants_9 (d := d) r _ _ (nI D.n) (mr_n v rfl ⟨fun _ => hq, fun q => absurd (Int32.le_refl _) q⟩)
  · rintro i h' hi rfl ih
    have ih := ih h' rfl
    rw [alO] at ih
    refine v_X10_allOctants_9 (d := d) r _ _ (nI i) (mr_n v rfl ⟨fun q => absurd q (nI_ge hi (by omega)), fun _ => mr_pt v n0 hi n34 ⟨fun q => mr_pg v n0 hi (n34' (b := 3) rfl) ⟨fun q2 => ?_, fun q2 => mr_pg v n0 hi (n34' (b := 3) rfl) ?_⟩, fun q => ?_⟩⟩)
    · rw [if_neg (fun r => absurd r.2 (Int32.not_lt.mpr q2))] at ih; rw [nI_1]; exact ih
    · rw [if_pos ⟨q, Int32.not_le.mp q2⟩] at ih; rw [nI_1]; exact ih
    · rw [if_neg (fun r => q r.1)] at ih; rw [nI_1]; exact ih
theorem m_hasTouch {k : Nat} (v : MR h r P D) (hd : dOk D) (hk : k < 12) (hq : Q (some (.int (if tcO D k D.n = true then 1 else 0))) h) : q_Ct l d mX10_hasTouch [.ref r, .int (nI k)] h mc ms Q QX := by
  have n0 := dOk_n hd
  have key : ∀ b : Int32, b = (if tcO D k 0 = true then 1 else 0) → q_J l d mX10_hasTouch mc ms Q QX h.2 18 [some (.ref r), some (.int (nI k)), some (.int b), some (.int 0)] [] h mc ms := by
    intro b hb
    refine q_loop (fun i (st : Int32) => q_J l d mX10_hasTouch mc ms Q QX h.2 18 [some (.ref r), some (.int (nI k)), some (.int st), some (.int (nI i))] [] h mc ms) (fun i st => st = (if tcO D k i = true then 1 else 0)) D.n ?_ ?_ 0 b (by omega) hb
    · rintro st rfl
      refine v_X10_hasTouch_18 (d := d) r _ _ (nI D.n) (mr_n v rfl ⟨fun _ => ⟨?_, hq⟩, fun q => absurd (Int32.le_refl _) q⟩)
      split
      · exact Or.inr rfl
      · exact Or.inl rfl
    · rintro i st hi es ih
      refine v_X10_hasTouch_18 (d := d) r _ _ (nI i) (mr_n v rfl ⟨fun q => absurd q (nI_ge hi (by omega)), fun _ => ⟨fun q => ?_, fun q => ?_⟩⟩)
      · have tf : tcO D k i = false := by
          cases ht : tcO D k i
          · rfl
          · rw [ht, if_pos rfl] at es; rw [es] at q; exact absurd q z10
        have fin : ∀ b : Bool, decide (D.pt i = nI k ∧ D.pg i = 9) = b → (if tcO D k (i + 1) = true then (1 : Int32) else 0) = (if b = true then 1 else 0) := fun b hb => by
          unfold tcO
          rw [tf, hb, Bool.false_or]
        refine mr_pt v n0 hi n34 ⟨fun q2 => mr_pg v n0 hi (n34' (b := 3) rfl) ⟨fun q3 => ?_, fun q3 => ?_⟩, fun q2 => ?_⟩
        · rw [nI_1]; exact ih 1 (fin true (decide_eq_true ⟨q2, q3⟩)).symm
        · rw [nI_1]; exact ih 0 (fin false (decide_eq_false (fun r => q3 r.2))).symm
        · rw [nI_1]; exact ih 0 (fin false (decide_eq_false (fun r => q2 r.1))).symm
      · have tt : tcO D k i = true := by
          cases ht : tcO D k i
          · rw [ht, if_neg (by decide)] at es; exact absurd es q
          · rfl
        rw [nI_1]
        refine ih 1 ?_
        unfold tcO
        rw [tt, Bool.true_or, if_pos rfl]
  have t01 := hd.2.2.2.1 k hk
  refine v_X10_hasTouch (d := d) r _ (mr_tc v hk (by rw [show (22 : Int32) = nI 22 from rfl, nI_add]) ⟨fun q => key 1 ?_, fun q => key 0 ?_⟩)
  · unfold tcO; rw [q]; decide
  · unfold tcO; rw [t01.resolve_right q]; decide
theorem MT.rd {k b : Nat} {val z : Int32} {Pr : Int32 → Prop} (t : MT h W) (hw : wOk W) (hk : k < W.tn) (hb : b < 4) (hz : z = nI (4 * k + b)) (he : ∀ F : Nat → Int32, (F (4 * k) = W.tx k ∧ F (4 * k + 1) = W.ty k ∧ F (4 * k + 2) = W.tv k ∧ F (4 * k + 3) = W.td k) → F (4 * k + b) = val) (hp : Pr val) : qAL h 53 z Pr := by
  obtain ⟨F, a, e⟩ := t
  have tn := hw.tn
  refine e_al a hz (by omega) (by decide) ?_
  rw [he F (e k hk)]
  exact hp
theorem n4 {k b : Nat} {z : Int32} (hz : z = nI b) : (4 : Int32) * nI k + z = nI (4 * k + b) := by rw [show (4 : Int32) = nI 4 from rfl, pk_mul, hz, nI_add]
theorem n40 {k : Nat} : (4 : Int32) * nI k = nI (4 * k + 0) := by rw [show (4 : Int32) = nI 4 from rfl, pk_mul]; rfl
theorem m_value {k : Nat} (mo : MO h W n m th wy) (t : MT h W) (hw : wOk W) (hk : k < W.tn) (hq : Q (some (.int (W.tv k))) h) : q_Ct l d mX10_value [.ref 49, .int (nI k)] h mc ms Q QX :=
  v_X10_value (d := d) 49 _ (e_gr mo rfl (t.rd hw hk (b := 2) (by decide) (n4 rfl) (fun F q => q.2.2.1) hq))
theorem m_need {k : Nat} (mo : MO h W n m th wy) (t : MT h W) (hw : wOk W) (hk : k < W.tn) (hq : Q (some (.int (W.td k))) h) : q_Ct l d mX10_need [.ref 49, .int (nI k)] h mc ms Q QX :=
  v_X10_need (d := d) 49 _ (e_gr mo rfl (t.rd hw hk (b := 3) (by decide) (n4 rfl) (fun F q => q.2.2.2) hq))
theorem m_isMet_all {k : Nat} (mo : MO h W n m th wy) (t : MT h W) (hw : wOk W) (v : MR h r P D) (hd : dOk D) (hk : k < W.tn) (ht : metA W k (sgA D k) → Q (some (.int 1)) h) (hf : ¬ metA W k (sgA D k) → Q (some (.int 0)) h) : q_Ct l (d + 1) mX10_isMet [.ref 49, .ref r, .int (nI k), .int 0] h mc ms Q QX := by
  have tn := hw.tn
  have sa := sgA_and hd (k := k) (by omega)
  unfold metA at ht hf
  rw [sa.1] at ht hf
  refine v_X10_isMet 49 r _ _ (e_ob mo (m_need mo t hw hk ⟨_, rfl, fun q => ⟨fun _ => m_hasTouch v hd (by omega) ⟨_, rfl, ?_⟩, fun q => absurd rfl q⟩, fun q => ⟨fun _ => m_allOctants v hd (by omega) ⟨_, rfl, ?_⟩, fun q => absurd rfl q⟩⟩))
  · cases e : tcO D k D.n
    · rw [if_neg (by decide)]
      exact ⟨Or.inl rfl, hf (fun r => r.elim (fun r => r.2 (sa.2.mpr e)) (fun r => r.1 q))⟩
    · rw [if_pos rfl]
      exact ⟨Or.inr rfl, ht (Or.inl ⟨q, fun r => by rw [sa.2.mp r] at e; exact absurd e (by decide)⟩)⟩
  · refine v_X10_isMet_55 49 r _ _ _ (v_J6_bitCount_0f7a4 (d := d) _ ⟨_, rfl, e_ob mo (m_need mo t hw hk ⟨_, rfl, fun q2 => hf ?_, fun q2 => ht (Or.inr ⟨q, Int32.not_lt.mp q2⟩)⟩)⟩)
    exact fun r => r.elim (fun r => q r.1) (fun r => absurd q2 (Int32.not_lt.mpr r.2))
theorem m_isMet_sent {k : Nat} (mo : MO h W n m th wy) (t : MT h W) (hw : wOk W) (v : MR h r P D) (hd : dOk D) (hk : k < W.tn) (ht : metA W k (sgn D k) → Q (some (.int 1)) h) (hf : ¬ metA W k (sgn D k) → Q (some (.int 0)) h) : q_Ct l (d + 1) mX10_isMet [.ref 49, .ref r, .int (nI k), .int 1] h mc ms Q QX := by
  have tn := hw.tn
  have sa := sgn_and2 hd (k := k) (by omega)
  have t01 := hd.2.2.2.1 k (by omega)
  unfold metA at ht hf
  rw [sa.1] at ht hf
  refine v_X10_isMet 49 r _ _ (e_ob mo (m_need mo t hw hk ⟨_, rfl, fun q => ⟨fun q => absurd q z10, fun _ => mr_tc (k := k) v (by omega) (by rw [show (22 : Int32) = nI 22 from rfl, nI_add]) ⟨fun q2 => ht (Or.inl ⟨q, fun r => ?_⟩), fun q2 => hf (fun r => ?_)⟩⟩, fun q => ⟨fun q => absurd q z10, fun _ => mr_oc (k := k) v (by omega) (by rw [show (10 : Int32) = nI 10 from rfl, nI_add]) ?_⟩⟩))
  · rw [sa.2.mp r] at q2; exact absurd q2 (by decide)
  · exact r.elim (fun r => r.2 (sa.2.mpr (t01.resolve_right q2))) (fun r => r.1 q)
  · refine v_X10_isMet_55 49 r _ _ _ (v_J6_bitCount_0f7a4 (d := d) _ ⟨_, rfl, e_ob mo (m_need mo t hw hk ⟨_, rfl, fun q2 => hf ?_, fun q2 => ht (Or.inr ⟨q, Int32.not_lt.mp q2⟩)⟩)⟩)
    exact fun r => r.elim (fun r => q r.1) (fun r => absurd q2 (Int32.not_lt.mpr r.2))
theorem MPs.rd {k b : Nat} {val z : Int32} {Pr : Int32 → Prop} (t : MPs h W) (hw : wOk W) (hk : k < W.pn) (hb : b < 3) (hz : z = nI (3 * k + b)) (he : ∀ F : Nat → Int32, (F (3 * k) = W.pf k ∧ F (3 * k + 1) = W.pt k ∧ F (3 * k + 2) = W.pr k) → F (3 * k + b) = val) (hp : Pr val) : qAL h 54 z Pr := by
  obtain ⟨F, a, e⟩ := t
  have tn := hw.pn
  refine e_al a hz (by omega) (by decide) ?_
  rw [he F (e k hk)]
  exact hp
theorem n3 {k b : Nat} {z : Int32} (hz : z = nI b) : (3 : Int32) * nI k + z = nI (3 * k + b) := by rw [show (3 : Int32) = nI 3 from rfl, pk_mul, hz, nI_add]
theorem n30 {k : Nat} : (3 : Int32) * nI k = nI (3 * k + 0) := by rw [show (3 : Int32) = nI 3 from rfl, pk_mul]; rfl
theorem m_rateAt {z : Int32} (mo : MO h W n m th wy) (t : MPs h W) (hw : wOk W) (hq : Q (some (.int (rateA W z))) h) : q_Ct l (d + 1) mX10_rateAt [.ref 49, .int z] h mc ms Q QX := by
  have pn := hw.pn
  refine v_X10_rateAt 49 z ?_
  refine q_loop (fun i h' => q_J l (d + 1) mX10_rateAt mc ms Q QX h.2 4 [some (.ref 49), some (.int z), some (.int (rateF W z i)), some (.int (nI i))] [] h' mc ms) (fun i h' => h' = h) W.pn ?_ ?_ 0 h (by omega) rfl
  · rintro h' rfl
    exact v_X10_rateAt_4 49 z _ (nI W.pn) (e_gi mo rfl ⟨fun _ => hq, fun q => absurd (Int32.le_refl _) q⟩)
  · rintro i h' hi rfl ih
    have ih := ih h' rfl
    rw [rateF] at ih
    have pt1 : (W.pt i - 1).toInt = (W.pt i).toInt - 1 := by
      have a := hw.ps i hi
      have b := (fb_rng (W.pt i)).2
      rw [fb_subI, L_1] <;> rw [L_1] <;> omega
    have cond : (¬ z < W.pf i ∧ ¬ W.pt i - 1 < z) ↔ (W.pf i ≤ z ∧ z < W.pt i) := by
      rw [lt_i, lt_i, le_i, lt_i, pt1]; omega
    refine v_X10_rateAt_4 49 z _ (nI i) (e_gi mo rfl ⟨fun q => absurd q (nI_ge hi (by omega)), fun _ => ?_⟩)
    refine e_gr mo rfl (t.rd hw hi (b := 0) (by decide) n30 (fun F q => q.1) (e_gr mo rfl (t.rd hw hi (b := 1) (by decide) (n3 rfl) (fun F q => q.2.1) (m_isIn (fun a b => ⟨_, rfl, fun q => absurd q z10, fun _ => ?_⟩) (fun c => ⟨_, rfl, fun _ => ?_, fun q => absurd rfl q⟩)))))
    · rw [if_pos (cond.mp ⟨a, b⟩)] at ih
      refine e_gr mo rfl (t.rd hw hi (b := 2) (by decide) (n3 rfl) (fun F q => q.2.2) ?_)
      rw [nI_1]
      exact ih
    · rw [if_neg (fun r => c (cond.mpr r))] at ih
      rw [nI_1]
      exact ih
theorem m_nextPiece (v : MR h r P D) (hd : dOk D) (hn : 0 < D.n) (hq : Q (some (.int (nI (urg D.pp D.n)))) h) : q_Ct l d mX10_nextPiece [.ref r] h mc ms Q QX := by
  have n0 := dOk_n hd
  refine v_X10_nextPiece (d := d) r ?_
  refine v_X10_nextPiece_4 (d := d) r _ (nI 0) (mr_n v rfl ⟨fun q => absurd q (nI_ge hn (by omega)), fun _ => ⟨fun _ => ?_, fun q => absurd rfl q⟩⟩)
  have u1 : urg D.pp 1 = 0 := by simp [urg]
  have key := q_loop (fun i h' => q_J l d mX10_nextPiece mc ms Q QX h.2 4 [some (.ref r), some (.int (nI (urg D.pp i))), some (.int (nI i))] [] h' mc ms) (fun i h' => h' = h ∧ 1 ≤ i) D.n ?_ ?_ 1 h (by omega) ⟨rfl, by omega⟩
  · rw [u1] at key; exact key
  · rintro h' ⟨rfl, -⟩
    exact v_X10_nextPiece_4 (d := d) r _ (nI D.n) (mr_n v rfl ⟨fun _ => hq, fun q => absurd (Int32.le_refl _) q⟩)
  · rintro i h' hi ⟨rfl, h1⟩ ih
    have ih := ih h' ⟨rfl, by omega⟩
    rw [urg] at ih
    have lt := urg_lt D.pp i h1
    refine v_X10_nextPiece_4 (d := d) r _ (nI i) (mr_n v rfl ⟨fun q => absurd q (nI_ge hi (by omega)), fun _ => ⟨fun q => absurd q (nI_nm1 (by omega)), fun _ => mr_pp v n0 hi (n34' (b := 2) rfl) (mr_pp v n0 (by omega) (n34' (b := 2) rfl) ?_)⟩⟩)
    rw [nI_1]
    refine ⟨fun q => ?_, fun q => ?_⟩
    · rw [if_neg (Int32.not_lt.mpr q)] at ih; exact ih
    · rw [if_pos (Int32.not_le.mp q)] at ih; exact ih
end MD4
