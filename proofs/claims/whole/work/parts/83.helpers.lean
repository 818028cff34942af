/-! the law's helpers: what each leaves -/
def ol (h : qH) : Prop := 82 < h.2 ∧ ∃ f : Nat → Int64, h.1 82 = .inl (1, (1, .inr (.inl f)))
def olv (h : qH) (R : Nat × Int32 × ST) : Prop := 82 < h.2 ∧ ∃ f : Nat → Int64, h.1 82 = .inl (1, (1, .inr (.inl f))) ∧ (R.1 = 0 → f 0 = R.2.1.toInt64)
theorem ol.fr {h h' : qH} {S : Nat → Prop} (o : ol h) (f : q_fr S h h') (hs : ¬ S 82) : ol h' := ⟨Nat.lt_of_lt_of_le o.1 f.1, o.2.elim fun x hx => ⟨x, (f.2 82 o.1 hs).trans hx⟩⟩
theorem olv.fr {h h' : qH} {R : Nat × Int32 × ST} {S : Nat → Prop} (o : olv h R) (f : q_fr S h h') (hs : ¬ S 82) : olv h' R := ⟨Nat.lt_of_lt_of_le o.1 f.1, o.2.elim fun x hx => ⟨x, (f.2 82 o.1 hs).trans hx.1, hx.2⟩⟩
theorem olv.o {h : qH} {R : Nat × Int32 × ST} (o : olv h R) : ol h := ⟨o.1, o.2.elim fun x hx => ⟨x, hx.1⟩⟩
theorem CS_fr {h h' : qH} {A : ST} {S : Nat → Prop} (c : CS h 83 A) (f : q_fr S h h') (hS : ∀ i, S i → 49 ≤ i ∧ i ≤ 82) : CS h' 83 A :=
  CS_all c f (fun i q r => by have := hS i q; omega) (c.o.fr f (fun q => by have := hS _ q; omega)) rfl (c.rv.fr f (fun i a b q => by have := hS _ q; omega)) (c.pv.fr f (fun i a b q => by have := hS _ q; omega))
    (c.2.2.2.2.2.2.2.2.2.elim fun g k => ⟨g, k.fr f (fun q => by have := hS _ q; omega) (fun i hi q => by have := hS _ q; omega) rfl rfl rfl rfl⟩)
theorem MSt_fr {h h' : qH} {A : ST} {th : Int32} {S : Nat → Prop} (s : MSt h A th) (f : q_fr S h h') (hS : ∀ i, S i → ¬ mS i) : MSt h' A th := by
  obtain ⟨s1, ⟨wy, b⟩, s3, s4, s5, s6, s7⟩ := s
  have hn : ∀ i, 49 ≤ i → i ≤ 81 → ¬ S i := fun i a b q => hS i q ⟨a, b⟩
  exact ⟨Nat.le_trans s1 f.1, ⟨wy, b.fr f (fun i a b => hn i (by omega) (by omega)) (fun i a b => hn i (by omega) (by omega))⟩, s3.fr f (hn _ (by omega) (by omega)), s4.fr f (hn _ (by omega) (by omega)), s5.fr f (hn _ (by omega) (by omega)), s6.fr f (fun i a b => hn i (by omega) (by omega)) rfl rfl rfl rfl, s7.fr f (hn _ (by omega) (by omega))⟩
/-- what is owed behind a helper -/
def HP (h : qH) (A : ST) (th : Int32) (R : Nat × Int32 × ST) (Q : Option Value → qH → Prop) : Prop := ∀ h', CS h' 83 R.2.2 → MSt h' A th → olv h' R → Q (some (.int (nI R.1))) h'
section HLP
variable {l : Launch} {d : Nat} {Q : Option Value → qH → Prop} {QX : String → qH → Prop} {h : qH} {A : ST} {th : Int32} {R : Nat × Int32 × ST}
theorem cl_nm {i : Nat} (q : clS 83 i) : ¬ mS i := fun r => by unfold clS at q; unfold mS at r; omega
theorem hl_set {h' : qH} {w : Int64} (hm : MSt h A th) (ho : ol h) (hq : HP h A th R Q) (e : R.1 = 0) (f : q_fr (clS 83) h h') (c : CS h' 83 R.2.2) (hw : w = R.2.1.toInt64) : qLS h' 82 0 w (fun h3 => Q (some (.int 0)) h3) := by
  obtain ⟨o1, g, o2⟩ := ho.fr f (by unfold clS; omega)
  refine ⟨1, g, o2, (show vp_in (nI 0) 1 from vp_in_nI (Nat.zero_lt_one) (by decide)), ?_⟩
  have f1 : q_fr (fun j => j = 82) h' (q_set h' 82 (.inl (1, (1, .inr (.inl (vp_updL g (0 : Int32).toNatClampNeg w)))))) := ⟨Nat.le_refl _, fun i hi hs => by
    show (if i = 82 then _ else h'.1 i) = h'.1 i
    exact if_neg hs⟩
  have h9 := hq _ (CS_fr c f1 (fun i q => by omega)) (MSt_fr (MSt_fr hm f (fun i q => cl_nm q)) f1 (fun i q => by unfold mS; omega)) ⟨o1, _, show (if 82 = 82 then (_ : qC) else h'.1 82) = _ from if_pos rfl, fun _ => ?_⟩
  · rw [e] at h9
    exact h9
  · rw [← hw]
    show (if 0 = (0 : Int32).toNatClampNeg then w else g 0) = w
    exact if_pos (by decide)
theorem hl_x {k : Nat} {h' : qH} (hm : MSt h A th) (ho : ol h) (hq : HP h A th R Q) (hk : k ≠ 0) (e : R.1 = k) (f : q_fr (clS 83) h h') (c : CS h' 83 R.2.2) : Q (some (.int (nI k))) h' := by
  obtain ⟨o1, g, o2⟩ := ho.fr f (by unfold clS; omega)
  have h9 := hq h' c (MSt_fr hm f (fun i q => cl_nm q)) ⟨o1, g, o2, fun q => absurd (e.symm.trans q) hk⟩
  rw [e] at h9
  exact h9
abbrev QLv (Q : Option Value → qH → Prop) : Option Value → qH → Prop := fun v h1 => ∃ z : Int32, v = some (.int z) ∧ qLS h1 82 0 (Int32.toInt64 z) (fun h3 => Q (some (.int 0)) h3)
theorem hl_v (hm : MSt h A th) (ho : ol h) (hq : HP h A th R Q) (e : R.1 = 0) : ∀ h', q_fr (clS 83) h h' → CS h' 83 R.2.2 → QLv Q (some (.int R.2.1)) h' := fun h' f c => ⟨_, rfl, hl_set hm ho hq e f c rfl⟩
theorem hl1 {a : String} (hm : MSt h A th) (ho : ol h) (h1 : R.1 ≤ 1) (hq : HP h A th R Q) : rs h 83 (QLv Q) (fun E h1 => (E = a ∧ Q (some (.int 1)) h1)) (E1 a) R :=
  ⟨hl_v hm ho hq, fun e h' f c => ⟨rfl, hl_x (k := 1) hm ho hq (by decide) (by omega) f c⟩⟩
theorem hl2 {a b : String} (hm : MSt h A th) (ho : ol h) (h1 : R.1 ≤ 2) (hq : HP h A th R Q) : rs h 83 (QLv Q) (fun E h1 => (E = a ∧ Q (some (.int 1)) h1) ∨ (E = b ∧ Q (some (.int 2)) h1)) (E2 a b) R :=
  ⟨hl_v hm ho hq, fun e h' f c => by
    by_cases q : R.1 = 1
    · exact Or.inl ⟨if_pos q, hl_x (k := 1) hm ho hq (by decide) q f c⟩
    · exact Or.inr ⟨if_neg q, hl_x (k := 2) hm ho hq (by decide) (by omega) f c⟩⟩
theorem hl3 {a b c9 : String} (hm : MSt h A th) (ho : ol h) (h1 : R.1 ≤ 3) (hq : HP h A th R Q) : rs h 83 (QLv Q) (fun E h1 => (E = a ∧ Q (some (.int 1)) h1) ∨ (E = b ∧ Q (some (.int 2)) h1) ∨ (E = c9 ∧ Q (some (.int 3)) h1)) (E3 a b c9) R :=
  ⟨hl_v hm ho hq, fun e h' f c => by
    by_cases q : R.1 = 1
    · exact Or.inl ⟨if_pos q, hl_x (k := 1) hm ho hq (by decide) q f c⟩
    · by_cases q2 : R.1 = 2
      · exact Or.inr (Or.inl ⟨(if_neg q).trans (if_pos q2), hl_x (k := 2) hm ho hq (by decide) q2 f c⟩)
      · exact Or.inr (Or.inr ⟨(if_neg q).trans (if_neg q2), hl_x (k := 3) hm ho hq (by decide) (by omega) f c⟩)⟩
theorem pif1 {c : Prop} {a b : Nat × Int32 × ST} {n : Nat} (ha : a.1 ≤ n) (hb : b.1 ≤ n) : (pif c a b).1 ≤ n := by
  by_cases q : c
  · rw [pif_t q]; exact ha
  · rw [pif_f q]; exact hb
set_option maxHeartbeats 1000000 in
theorem h_raise {x1 x2 x3 x4 x5 : Int32} (hl0 : l.stackTraces = false) (c : CS h 83 A) (s : MSt h A th) (ok : aOk A) (o : ol h) (hq : HP h A th (R_raise A x1 x2 x3 x4 x5) Q) : q_CtH xN [(0, 16, 19, 13)] l (d + 7) mL_raise [.ref 0, .int x1, .int x2, .int x3, .int x4, .int x5, .ref 82] h 16 800 Q QX := by
  exact v_L_raise (by decide) (by decide) 0 _ _ _ _ _ 82 (e_ob c.o (c_raise hl0 (by decide) (by decide) (by decide) c ok (hl1 s o (by unfold R_raise; repeat (first | exact Nat.le_of_ble_eq_true rfl | apply pif1)) hq)))
set_option maxHeartbeats 1000000 in
theorem h_pave {x1 x2 x3 x4 x5 x6 : Int32} (hl0 : l.stackTraces = false) (hz : x6 = 0 ∨ x6 = 1) (c : CS h 83 A) (s : MSt h A th) (ok : aOk A) (o : ol h) (hq : HP h A th (R_pave A x1 x2 x3 x4 x5 x6) Q) : q_CtH xN [(0, 18, 21, 13)] l (d + 7) mL_pave [.ref 0, .int x1, .int x2, .int x3, .int x4, .int x5, .int x6, .ref 82] h 16 800 Q QX := by
  exact v_L_pave (by decide) (by decide) 0 _ _ _ _ _ _ 82 (e_ob c.o (c_pave hl0 (by decide) (by decide) (by decide) c ok hz (hl1 s o (by unfold R_pave; repeat (first | exact Nat.le_of_ble_eq_true rfl | apply pif1)) hq)))
set_option maxHeartbeats 1000000 in
theorem h_ground {x1 x2 x3 : Int32} (hl0 : l.stackTraces = false) (c : CS h 83 A) (s : MSt h A th) (ok : aOk A) (o : ol h) (hq : HP h A th (R_ground A x1 x2 x3) Q) : q_CtH xN [(0, 12, 15, 23)] l (d + 7) mL_ground [.ref 0, .int x1, .int x2, .int x3, .ref 82] h 16 800 Q QX := by
  exact v_L_ground (by decide) (by decide) 0 _ _ _ 82 (e_ob c.o (c_ground hl0 (by decide) (by decide) (by decide) c ok (hl1 s o (by unfold R_ground; repeat (first | exact Nat.le_of_ble_eq_true rfl | apply pif1)) hq)))
set_option maxHeartbeats 1000000 in
theorem h_setSlope {x1 : Int32} (hl0 : l.stackTraces = false) (c : CS h 83 A) (s : MSt h A th) (ok : aOk A) (o : ol h) (hq : HP h A th (R_setSlope A x1) Q) : q_CtH xN [(0, 9, 12, 13)] l (d + 7) mL_setSlope [.ref 0, .int x1, .ref 82] h 16 800 Q QX := by
  exact v_L_setSlope (by decide) (by decide) 0 _ 82 (e_ob c.o (c_setSlope hl0 (by decide) (by decide) (by decide) c ok (hl1 s o (by unfold R_setSlope; repeat (first | exact Nat.le_of_ble_eq_true rfl | apply pif1)) hq)))
set_option maxHeartbeats 1000000 in
theorem h_way {x1 x2 x3 x4 x5 : Int32} (hl0 : l.stackTraces = false) (c : CS h 83 A) (s : MSt h A th) (ok : aOk A) (o : ol h) (hq : HP h A th (R_way A x1 x2 x3 x4 x5) Q) : q_CtH xN [(0, 16, 19, 23)] l (d + 7) mL_way [.ref 0, .int x1, .int x2, .int x3, .int x4, .int x5, .ref 82] h 16 800 Q QX := by
  exact v_L_way (by decide) (by decide) 0 _ _ _ _ _ 82 (e_ob c.o (c_way hl0 (by decide) (by decide) (by decide) c ok (hl1 s o (by unfold R_way; repeat (first | exact Nat.le_of_ble_eq_true rfl | apply pif1)) hq)))
set_option maxHeartbeats 1000000 in
theorem h_sees {x1 x2 x3 x4 : Int32} (hl0 : l.stackTraces = false) (c : CS h 83 A) (s : MSt h A th) (ok : aOk A) (o : ol h) (hq : HP h A th (R_sees A x1 x2 x3 x4) Q) : q_CtH xN [(0, 21, 24, 23)] l (d + 7) mL_sees [.ref 0, .int x1, .int x2, .int x3, .int x4, .ref 82] h 16 800 Q QX := by
  refine v_L_sees (by decide) (by decide) 0 _ _ _ _ 82 (e_ob c.o (c_sees hl0 (by decide) (by decide) (by decide) c ok ⟨fun e h' f c' => ⟨_, rfl, ?_⟩, fun e h' f c' => ⟨rfl, ?_⟩⟩))
  · refine ⟨fun q => hl_set s o hq e f c' ?_, fun q => hl_set s o hq e f c' ?_⟩
    · rw [q]; rfl
    · have q2 : (R_sees A x1 x2 x3 x4).2.1 = 1 := by
        revert q
        unfold R_sees
        by_cases g : inP x1 x2 ∧ inP x3 x4
        · rw [pif_t g]
          by_cases g2 : seeA A.W x1 x2 x3 x4 = true
          · intro _; exact if_pos g2
          · intro q; exact absurd (if_neg g2) q
        · rw [pif_f g]
          intro q; exact absurd rfl q
      rw [q2]; rfl
  · have h1 : (R_sees A x1 x2 x3 x4).1 ≤ 1 := by unfold R_sees; repeat (first | exact Nat.le_of_ble_eq_true rfl | apply pif1)
    exact hl_x (k := 1) s o hq (by decide) (by omega) f c'
set_option maxHeartbeats 1000000 in
theorem h_addTarget {x1 x2 x3 x4 : Int32} (hl0 : l.stackTraces = false) (c : CS h 83 A) (s : MSt h A th) (ok : aOk A) (o : ol h) (hq : HP h A th (R_addTarget A x1 x2 x3 x4) Q) : q_CtH xN [(0, 14, 17, 23), (0, 14, 21, 13), (0, 14, 25, 40)] l (d + 7) mL_addTarget [.ref 0, .int x1, .int x2, .int x3, .int x4, .ref 82] h 16 800 Q QX := by
  exact v_L_addTarget (by decide) (by decide) 0 _ _ _ _ 82 (e_ob c.o (c_addTarget hl0 (by decide) (by decide) (by decide) c ok (hl3 s o (by unfold R_addTarget; repeat (first | exact Nat.le_of_ble_eq_true rfl | apply pif1)) hq)))
set_option maxHeartbeats 1000000 in
theorem h_target {x1 x2 : Int32} (hl0 : l.stackTraces = false) (c : CS h 83 A) (s : MSt h A th) (ok : aOk A) (o : ol h) (hq : HP h A th (R_target A x1 x2) Q) : q_CtH xN [(0, 10, 13, 23)] l (d + 7) mL_target [.ref 0, .int x1, .int x2, .ref 82] h 16 800 Q QX := by
  exact v_L_target (by decide) (by decide) 0 _ _ 82 (e_ob c.o (c_target hl0 (by decide) (by decide) (by decide) c ok (hl1 s o (by unfold R_target; repeat (first | exact Nat.le_of_ble_eq_true rfl | apply pif1)) hq)))
set_option maxHeartbeats 1000000 in
theorem h_addPass {x1 x2 x3 : Int32} (hl0 : l.stackTraces = false) (c : CS h 83 A) (s : MSt h A th) (ok : aOk A) (o : ol h) (hq : HP h A th (R_addPass A x1 x2 x3) Q) : q_CtH xN [(0, 12, 15, 13), (0, 12, 19, 40)] l (d + 7) mL_addPass [.ref 0, .int x1, .int x2, .int x3, .ref 82] h 16 800 Q QX := by
  exact v_L_addPass (by decide) (by decide) 0 _ _ _ 82 (e_ob c.o (c_addPass hl0 (by decide) (by decide) (by decide) c ok (hl2 s o (by unfold R_addPass; repeat (first | exact Nat.le_of_ble_eq_true rfl | apply pif1)) hq)))
set_option maxHeartbeats 1000000 in
theorem h_rate {x1 : Int32} (hl0 : l.stackTraces = false) (c : CS h 83 A) (s : MSt h A th) (ok : aOk A) (o : ol h) (hq : HP h A th (R_rate A x1) Q) : q_CtH xN [(0, 9, 12, 13)] l (d + 7) mL_rate [.ref 0, .int x1, .ref 82] h 16 800 Q QX := by
  exact v_L_rate (by decide) (by decide) 0 _ 82 (e_ob c.o (c_rate hl0 (by decide) (by decide) (by decide) c ok (hl1 s o (by unfold R_rate; repeat (first | exact Nat.le_of_ble_eq_true rfl | apply pif1)) hq)))
set_option maxHeartbeats 1000000 in
theorem h_sky {x1 x2 : Int32} (hl0 : l.stackTraces = false) (c : CS h 83 A) (s : MSt h A th) (ok : aOk A) (o : ol h) (hq : HP h A th (R_sky A x1 x2) Q) : q_CtH xN [(0, 10, 13, 13)] l (d + 7) mL_sky [.ref 0, .int x1, .int x2, .ref 82] h 16 800 Q QX := by
  exact v_L_sky (by decide) (by decide) 0 _ _ 82 (e_ob c.o (c_sky hl0 (by decide) (by decide) (by decide) c ok (hl1 s o (by unfold R_sky; repeat (first | exact Nat.le_of_ble_eq_true rfl | apply pif1)) hq)))
set_option maxHeartbeats 1000000 in
theorem h_setRover {x1 x2 : Int32} (hl0 : l.stackTraces = false) (c : CS h 83 A) (s : MSt h A th) (ok : aOk A) (o : ol h) (hq : HP h A th (R_setRover A x1 x2) Q) : q_CtH xN [(0, 10, 13, 13), (0, 10, 17, 40)] l (d + 7) mL_setRover [.ref 0, .int x1, .int x2, .ref 82] h 16 800 Q QX := by
  exact v_L_setRover (by decide) (by decide) 0 _ _ 82 (e_ob c.o (c_setRover hl0 (by decide) (by decide) (by decide) c ok (hl2 s o (by unfold R_setRover; repeat (first | exact Nat.le_of_ble_eq_true rfl | apply pif1)) hq)))
set_option maxHeartbeats 1000000 in
theorem h_rover {x1 : Int32} (hl0 : l.stackTraces = false) (c : CS h 83 A) (s : MSt h A th) (ok : aOk A) (o : ol h) (hq : HP h A th (R_rover A x1) Q) : q_CtH xN [(0, 9, 12, 23)] l (d + 7) mL_rover [.ref 0, .int x1, .ref 82] h 16 800 Q QX := by
  exact v_L_rover (by decide) (by decide) 0 _ 82 (e_ob c.o (c_rover hl0 (by decide) (by decide) (by decide) c ok (hl1 s o (by unfold R_rover; repeat (first | exact Nat.le_of_ble_eq_true rfl | apply pif1)) hq)))
set_option maxHeartbeats 1000000 in
theorem h_piece {x1 x2 : Int32} (hl0 : l.stackTraces = false) (c : CS h 83 A) (s : MSt h A th) (ok : aOk A) (o : ol h) (hq : HP h A th (R_piece A x1 x2) Q) : q_CtH xN [(0, 10, 13, 23)] l (d + 7) mL_piece [.ref 0, .int x1, .int x2, .ref 82] h 16 800 Q QX := by
  exact v_L_piece (by decide) (by decide) 0 _ _ 82 (e_ob c.o (c_piece hl0 (by decide) (by decide) (by decide) c ok (hl1 s o (by unfold R_piece; repeat (first | exact Nat.le_of_ble_eq_true rfl | apply pif1)) hq)))
set_option maxHeartbeats 1000000 in
theorem h_put {x1 x2 x3 x4 : Int32} (hl0 : l.stackTraces = false) (c : CS h 83 A) (s : MSt h A th) (ok : aOk A) (o : ol h) (hq : HP h A th (R_put A x1 x2 x3 x4) Q) : q_CtH xN [(0, 14, 17, 23), (0, 14, 21, 13), (0, 14, 25, 40)] l (d + 7) mL_put [.ref 0, .int x1, .int x2, .int x3, .int x4, .ref 82] h 16 800 Q QX := by
  exact v_L_put (by decide) (by decide) 0 _ _ _ _ 82 (e_ob c.o (c_put hl0 (by decide) (by decide) (by decide) c ok (hl3 s o (by unfold R_put; repeat (first | exact Nat.le_of_ble_eq_true rfl | apply pif1)) hq)))
set_option maxHeartbeats 1000000 in
theorem h_remove {x1 : Int32} (hl0 : l.stackTraces = false) (c : CS h 83 A) (s : MSt h A th) (ok : aOk A) (o : ol h) (hq : HP h A th (R_remove A x1) Q) : q_CtH xN [(0, 9, 12, 23)] l (d + 7) mL_remove [.ref 0, .int x1, .ref 82] h 16 800 Q QX := by
  exact v_L_remove (by decide) (by decide) 0 _ 82 (e_ob c.o (c_remove hl0 (by decide) (by decide) (by decide) c ok (hl1 s o (by unfold R_remove; repeat (first | exact Nat.le_of_ble_eq_true rfl | apply pif1)) hq)))
set_option maxHeartbeats 1000000 in
theorem h_move {x1 x2 : Int32} (hl0 : l.stackTraces = false) (c : CS h 83 A) (s : MSt h A th) (ok : aOk A) (o : ol h) (hq : HP h A th (R_move A x1 x2) Q) : q_CtH xN [(0, 10, 13, 23)] l (d + 7) mL_move [.ref 0, .int x1, .int x2, .ref 82] h 16 800 Q QX := by
  exact v_L_move (by decide) (by decide) 0 _ _ 82 (e_ob c.o (c_move hl0 (by decide) (by decide) (by decide) c ok (hl1 s o (by unfold R_move; repeat (first | exact Nat.le_of_ble_eq_true rfl | apply pif1)) hq)))
set_option maxHeartbeats 1000000 in
theorem h_activity {x1 x2 : Int32} (hl0 : l.stackTraces = false) (c : CS h 83 A) (s : MSt h A th) (ok : aOk A) (o : ol h) (hq : HP h A th (R_activity A x1 x2) Q) : q_CtH xN [(0, 10, 13, 23)] l (d + 7) mL_activity [.ref 0, .int x1, .int x2, .ref 82] h 16 800 Q QX := by
  exact v_L_activity (by decide) (by decide) 0 _ _ 82 (e_ob c.o (c_activity hl0 (by decide) (by decide) (by decide) c ok (hl1 s o (by unfold R_activity; repeat (first | exact Nat.le_of_ble_eq_true rfl | apply pif1)) hq)))
set_option maxHeartbeats 1000000 in
theorem h_count {x1 : Int32} (hl0 : l.stackTraces = false) (c : CS h 83 A) (s : MSt h A th) (ok : aOk A) (o : ol h) (hq : HP h A th (R_count A x1) Q) : q_CtH xN [(0, 9, 12, 23)] l (d + 7) mL_count [.ref 0, .int x1, .ref 82] h 16 800 Q QX := by
  exact v_L_count (by decide) (by decide) 0 _ 82 (e_ob c.o (c_count hl0 (by decide) (by decide) (by decide) c ok (hl1 s o (by unfold R_count; repeat (first | exact Nat.le_of_ble_eq_true rfl | apply pif1)) hq)))
set_option maxHeartbeats 1000000 in
theorem h_foretell {x1 x2 : Int32} (hl0 : l.stackTraces = false) (c : CS h 83 A) (s : MSt h A th) (ok : aOk A) (o : ol h) (hq : HP h A th (R_foretell A x1 x2) Q) : q_CtH xN [(0, 10, 13, 23), (0, 10, 17, 13), (0, 10, 21, 40)] l (d + 8) mL_foretell [.ref 0, .int x1, .int x2, .ref 82] h 16 800 Q QX := by
  exact v_L_foretell (by decide) (by decide) 0 _ _ 82 (e_ob c.o (c_foretell hl0 (by decide) (by decide) (by decide) c ok (hl3 s o (by unfold R_foretell; repeat (first | exact Nat.le_of_ble_eq_true rfl | apply pif1)) hq)))
set_option maxHeartbeats 1000000 in
theorem h_run {x1 : Int32} (hl0 : l.stackTraces = false) (c : CS h 83 A) (s : MSt h A th) (ok : aOk A) (o : ol h) (hq : HP h A th (R_run A x1) Q) : q_CtH xN [(0, 9, 12, 13)] l (d + 7) mL_run [.ref 0, .int x1, .ref 82] h 16 800 Q QX := by
  exact v_L_run (by decide) (by decide) 0 _ 82 (e_ob c.o (c_run hl0 (by decide) (by decide) (by decide) c ok (hl1 s o (by unfold R_run; repeat (first | exact Nat.le_of_ble_eq_true rfl | apply pif1)) hq)))
set_option maxHeartbeats 1000000 in
theorem h_make {x1 : Int32} (hl0 : l.stackTraces = false) (c : CS h 83 A) (s : MSt h A th) (ok : aOk A) (o : ol h) (hq : HP h A th (R_make A x1) Q) : q_CtH xN [(0, 9, 12, 13)] l (d + 8) mL_make [.ref 0, .int x1, .ref 82] h 16 800 Q QX := by
  exact v_L_make (by decide) (by decide) 0 _ 82 (e_ob c.o (c_make hl0 (by decide) (by decide) (by decide) c ok (hl1 s o (by unfold R_make; repeat (first | exact Nat.le_of_ble_eq_true rfl | apply pif1)) hq)))
set_option maxHeartbeats 1000000 in
theorem h_nearest {x1 : Int32} (hl0 : l.stackTraces = false) (c : CS h 83 A) (s : MSt h A th) (ok : aOk A) (o : ol h) (hq : HP h A th (R_nearest A x1) Q) : q_CtH xN [(0, 9, 12, 23)] l (d + 7) mL_nearest [.ref 0, .int x1, .ref 82] h 16 800 Q QX := by
  exact v_L_nearest (by decide) (by decide) 0 _ 82 (e_ob c.o (c_nearest hl0 (by decide) (by decide) (by decide) c ok (hl1 s o (by unfold R_nearest; repeat (first | exact Nat.le_of_ble_eq_true rfl | apply pif1)) hq)))
set_option maxHeartbeats 1000000 in
theorem h_mark (hl0 : l.stackTraces = false) (c : CS h 83 A) (s : MSt h A th) (ok : aOk A) (o : ol h) (hq : HP h A th (R_mark A) Q) : q_CtH xN [(0, 8, 11, 40)] l (d + 7) mL_mark [.ref 0, .ref 82] h 16 800 Q QX := by
  exact v_L_mark (by decide) (by decide) 0 82 (e_ob c.o (c_mark hl0 (by decide) (by decide) (by decide) s.1 c ok (hl1 s o (by unfold R_mark; repeat (first | exact Nat.le_of_ble_eq_true rfl | apply pif1)) hq)))
set_option maxHeartbeats 1000000 in
theorem h_back {x1 : Int32} (hl0 : l.stackTraces = false) (c : CS h 83 A) (s : MSt h A th) (ok : aOk A) (o : ol h) (hq : HP h A th (R_back A x1) Q) : q_CtH xN [(0, 9, 12, 23)] l (d + 7) mL_back [.ref 0, .int x1, .ref 82] h 16 800 Q QX := by
  exact v_L_back (by decide) (by decide) 0 _ 82 (e_ob c.o (c_back hl0 (by decide) (by decide) (by decide) c ok (hl1 s o (by unfold R_back; repeat (first | exact Nat.le_of_ble_eq_true rfl | apply pif1)) hq)))
end HLP
