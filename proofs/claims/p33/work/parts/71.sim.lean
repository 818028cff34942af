/-! THE LAW'S OWN ROVER (Sim, the object 49): its state, its small methods -/
theorem CS_law {h h' : qH} {B : Nat} {A : ST} {S : Nat → Prop} (c : CS h B A) (f : q_fr S h h') (hS : ∀ i, S i → 49 ≤ i) : CS h' B A := by
  obtain ⟨c1, c2, c3, c4, c5, c6, c7, c8, c9, g, c10⟩ := c
  have n : ∀ i, i < 49 → ¬ S i := fun i hi q => by have := hS i q; omega
  exact ⟨c1.fr f (n _ (by omega)), c2.fr f (fun i a b => n _ (by omega)) (fun i a b => n _ (by omega)), ob.fr c3 f (n _ (by omega)), c4.fr f (fun i a b => n _ (by omega)), c5.elim fun P q => q.elim fun D q => ⟨P, D, q.fr f (fun i a b => n _ (by omega))⟩, c6.elim fun P q => q.elim fun D q => ⟨P, D, q.fr f (fun i a b => n _ (by omega))⟩, c7.fr f (fun i a b => n _ (by omega)), c8.elim fun P q => q.elim fun D q => ⟨P, D, q.fr f (fun i a b => n _ (by omega))⟩, c9.fr f (fun i a b => n _ (by omega)), g, Nat.lt_of_lt_of_le c10.1 f.1, c10.2.elim fun gg q => ⟨gg, (f.2 48 c10.1 (n _ (by omega))).trans q⟩⟩
def rR (P : PH) (us cap : Int32) : Nat → Int32 := fun j => match j with
  | 0 => P.t
  | 1 => P.x
  | 2 => P.y
  | 3 => P.b
  | 4 => P.tp
  | 5 => P.ht
  | 6 => P.cl
  | 7 => us
  | _ => cap
def pcF (D : DT) (k : Nat) : Nat → Int32 := fun j => match j with
  | 0 => D.pt k
  | 1 => D.pl k
  | 2 => D.pp k
  | _ => D.pg k
def tgF (W : WS) (k : Nat) : Nat → Int32 := fun j => match j with
  | 0 => W.tx k
  | 1 => W.ty k
  | 2 => W.tv k
  | _ => W.td k
def lowR (i : Nat) : Prop := i ≤ 50
/-- the targets' rows, the ground, the sent images, the passes: what stays -/
def SK (h : qH) (W : WS) (tr : Nat → Nat) : Prop := GV h 56 W.H W.R W.Z W.s ∧ rr h 55 12 (fun k => if k < W.tn then some (tr k) else none) ∧ (∀ k, k < W.tn → 57 ≤ tr k ∧ ar h (tr k) 4 (tgF W k)) ∧ ar h 52 12 (fun _ => 0) ∧ br h 53 12 (fun _ => 0)
/-- the rover's row, its pieces -/
def SP (h : qH) (W : WS) (P : PH) (D : DT) (pp : Nat) (pr : Nat → Nat) : Prop := ob h 49 10 [.ref 50, .ref pp, .ref 52, .ref 53, .int D.ut, .int W.mem, .ref 54, .ref 56, .ref 55] ∧ ar h 50 9 (rR P D.us W.cap) ∧ (51 ≤ pp ∧ rr h pp D.n (fun k => some (pr k))) ∧ ∀ k, k < D.n → 51 ≤ pr k ∧ ar h (pr k) 4 (pcF D k)
def SV (h : qH) (W : WS) (tr : Nat → Nat) (P : PH) (D : DT) : Prop := SK h W tr ∧ ∃ pp pr, SP h W P D pp pr
theorem SK.fr {h h' : qH} {W : WS} {tr : Nat → Nat} {S : Nat → Prop} (k : SK h W tr) (f : q_fr S h h') (hS : ∀ i, S i → i ≤ 50) : SK h' W tr := by
  obtain ⟨k1, k2, k3, k4, k5⟩ := k
  have n : ∀ i, 50 < i → ¬ S i := fun i hi q => by have := hS i q; omega
  exact ⟨ar.fr k1 f (n _ (by omega)), k2.fr f (n _ (by omega)), fun k hk => ⟨(k3 k hk).1, (k3 k hk).2.fr f (n _ (by have := (k3 k hk).1; omega))⟩, k4.fr f (n _ (by omega)), k5.fr f (n _ (by omega))⟩
theorem SP.fr {h h' : qH} {W : WS} {P : PH} {D : DT} {pp : Nat} {pr : Nat → Nat} {S : Nat → Prop} (k : SP h W P D pp pr) (f : q_fr S h h') (hS : ∀ i, S i → i < 49) : SP h' W P D pp pr := by
  obtain ⟨k1, k2, ⟨k3, k4⟩, k5⟩ := k
  have n : ∀ i, 49 ≤ i → ¬ S i := fun i hi q => by have := hS i q; omega
  exact ⟨k1.fr f (n _ (by omega)), k2.fr f (n _ (by omega)), ⟨k3, k4.fr f (n _ (by omega))⟩, fun k hk => ⟨(k5 k hk).1, (k5 k hk).2.fr f (n _ (by have := (k5 k hk).1; omega))⟩⟩
theorem SV.fr {h h' : qH} {W : WS} {tr : Nat → Nat} {P : PH} {D : DT} {S : Nat → Prop} (v : SV h W tr P D) (f : q_fr S h h') (hS : ∀ i, S i → i < 49) : SV h' W tr P D :=
  ⟨v.1.fr f (fun i q => by have := hS i q; omega), v.2.elim fun pp q => q.elim fun pr q => ⟨pp, pr, q.fr f hS⟩⟩
/-- the rover's row is new -/
theorem SP_r {h h' : qH} {W : WS} {P P' : PH} {D : DT} {pp : Nat} {pr : Nat → Nat} (k : SP h W P D pp pr) (f : q_fr (fun j => j = 50) h h') (a : ar h' 50 9 (rR P' D.us W.cap)) : SP h' W P' D pp pr := by
  obtain ⟨k1, k2, ⟨k3, k4⟩, k5⟩ := k
  exact ⟨k1.fr f (by decide), a, ⟨k3, k4.fr f (fun q => by omega)⟩, fun k hk => ⟨(k5 k hk).1, (k5 k hk).2.fr f (fun q => by have := (k5 k hk).1; omega)⟩⟩
theorem rR_t {P : PH} {us cap v : Int32} : ∀ p, p < 9 → upd (rR P us cap) 0 v p = rR (PH.mk v P.x P.y P.b P.tp P.cl P.ht) us cap p := fun p hp => by
  rcases (show p = 0 ∨ p = 1 ∨ p = 2 ∨ p = 3 ∨ p = 4 ∨ p = 5 ∨ p = 6 ∨ p = 7 ∨ p = 8 by omega) with rfl | rfl | rfl | rfl | rfl | rfl | rfl | rfl | rfl <;> rfl
theorem rR_x {P : PH} {us cap v : Int32} : ∀ p, p < 9 → upd (rR P us cap) 1 v p = rR (PH.mk P.t v P.y P.b P.tp P.cl P.ht) us cap p := fun p hp => by
  rcases (show p = 0 ∨ p = 1 ∨ p = 2 ∨ p = 3 ∨ p = 4 ∨ p = 5 ∨ p = 6 ∨ p = 7 ∨ p = 8 by omega) with rfl | rfl | rfl | rfl | rfl | rfl | rfl | rfl | rfl <;> rfl
theorem rR_y {P : PH} {us cap v : Int32} : ∀ p, p < 9 → upd (rR P us cap) 2 v p = rR (PH.mk P.t P.x v P.b P.tp P.cl P.ht) us cap p := fun p hp => by
  rcases (show p = 0 ∨ p = 1 ∨ p = 2 ∨ p = 3 ∨ p = 4 ∨ p = 5 ∨ p = 6 ∨ p = 7 ∨ p = 8 by omega) with rfl | rfl | rfl | rfl | rfl | rfl | rfl | rfl | rfl <;> rfl
theorem rR_b {P : PH} {us cap v : Int32} : ∀ p, p < 9 → upd (rR P us cap) 3 v p = rR (PH.mk P.t P.x P.y v P.tp P.cl P.ht) us cap p := fun p hp => by
  rcases (show p = 0 ∨ p = 1 ∨ p = 2 ∨ p = 3 ∨ p = 4 ∨ p = 5 ∨ p = 6 ∨ p = 7 ∨ p = 8 by omega) with rfl | rfl | rfl | rfl | rfl | rfl | rfl | rfl | rfl <;> rfl
theorem rR_tp {P : PH} {us cap v : Int32} : ∀ p, p < 9 → upd (rR P us cap) 4 v p = rR (PH.mk P.t P.x P.y P.b v P.cl P.ht) us cap p := fun p hp => by
  rcases (show p = 0 ∨ p = 1 ∨ p = 2 ∨ p = 3 ∨ p = 4 ∨ p = 5 ∨ p = 6 ∨ p = 7 ∨ p = 8 by omega) with rfl | rfl | rfl | rfl | rfl | rfl | rfl | rfl | rfl <;> rfl
theorem rR_cl {P : PH} {us cap v : Int32} : ∀ p, p < 9 → upd (rR P us cap) 6 v p = rR (PH.mk P.t P.x P.y P.b P.tp v P.ht) us cap p := fun p hp => by
  rcases (show p = 0 ∨ p = 1 ∨ p = 2 ∨ p = 3 ∨ p = 4 ∨ p = 5 ∨ p = 6 ∨ p = 7 ∨ p = 8 by omega) with rfl | rfl | rfl | rfl | rfl | rfl | rfl | rfl | rfl <;> rfl
section SM1
variable {l : Launch} {d mc ms : Nat} {Q : Option Value → qH → Prop} {QX : String → qH → Prop} {h : qH} {W : WS} {tr : Nat → Nat} {P : PH} {D : DT} {pp : Nat} {pr : Nat → Nat}
/-- reading and writing the rover's row -/
theorem r_rd {k : Nat} {z : Int32} {Pr : Int32 → Prop} (s : SP h W P D pp pr) (hz : z = nI k) (hk : k < 9) (hp : Pr (rR P D.us W.cap k)) : qGR h 49 10 0 (fun r => qAL h r z Pr) := e_gr s.1 rfl (e_al s.2.1 hz hk (by decide) hp)
theorem lgt_law {m : Int32} : lgt m = if m < 360 then 0 else if m < 1080 then (if 720 < m then 1080 - m else m - 360) else 0 := by
  unfold lgt
  by_cases a : m < 360
  · rw [if_pos a, if_pos a]
  · rw [if_neg a, if_neg a]
    by_cases b : m < 1080
    · rw [if_pos b, if_pos b]
      by_cases c : 720 < m
      · rw [if_pos c, if_pos (by rw [lt_i] at c; rw [le_i]; omega)]
      · rw [if_neg c]
        by_cases e : m = 720
        · subst e; decide
        · rw [if_neg (fun q => e (Int32.toInt_inj.mp (by rw [le_i] at q; rw [lt_i] at c; omega)))]
    · rw [if_neg b, if_neg b]
theorem s_light (s : SP h W P D pp pr) (hq : Q (some (.int (lgt (mnt P.t)))) h) : q_Ct l d mX10_light [.ref 49] h mc ms Q QX := by
  rw [lgt_law] at hq
  refine v_X10_light (d := d) 49 (r_rd (k := 0) s rfl (by decide) ?_)
  show qIF (mnt P.t < 360) _ _
  refine ⟨fun q => ?_, fun q => ⟨fun q2 => ⟨fun q3 => ?_, fun q3 => ?_⟩, fun q2 => ?_⟩⟩
  · rw [if_pos q] at hq; exact hq
  · change mnt P.t < 1080 at q2
    change 720 < mnt P.t at q3
    rw [if_neg q, if_pos q2, if_pos q3] at hq; exact hq
  · change mnt P.t < 1080 at q2
    change ¬ 720 < mnt P.t at q3
    rw [if_neg q, if_pos q2, if_neg q3] at hq; exact hq
  · change ¬ mnt P.t < 1080 at q2
    rw [if_neg q, if_neg q2] at hq; exact hq
/-- a minute, awake -/
theorem s_minute {use : Int32} (s : SP h W P D pp pr) (hp : pOk P) (hcl : 20 ≤ P.cl.toInt) (hq : ∀ h', q_fr (fun j => j = 50) h h' → h'.2 = h.2 → SP h' W (passA W.cap use true P).2 D pp pr → Q (some (.int (passA W.cap use true P).1)) h') : q_Ct l (d + 1) mX10_minute [.ref 49, .int use, .int 1] h mc ms Q QX := by
  obtain ⟨-, p1, p2, p3⟩ := hp
  have e1 : i_aw true = 1 := rfl
  unfold passA at hq
  refine v_X10_minute 49 use 1 (r_rd (k := 0) s rfl (by decide) ⟨fun q1 => ?_, fun q1 => ?_⟩)
  rotate_left
  · change ¬ P.t < 14400 at q1
    rw [if_neg q1] at hq
    exact hq h q_fr.rf rfl s
  change P.t < 14400 at q1
  rw [if_pos q1] at hq
  refine e_ob s.1 (s_light s ⟨_, rfl, r_rd (k := 6) s rfl (by decide) (r_rd (k := 3) s rfl (by decide) ⟨fun q => absurd q z10, fun _ => ?_⟩)⟩)
  show q_J l (d + 1) mX10_minute mc ms Q QX h.2 49 [some (.ref 49), some (.int use), some (.int 1), some (.int (pow (lgt (mnt P.t)) P.cl)), none, none] [.int 2, .int (P.b + pow (lgt (mnt P.t)) P.cl)] h mc ms
  -- heating
  have ht1 : P.ht = 1 ↔ ¬ P.ht = 0 := ⟨fun q r => by rw [r] at q; exact absurd q (by decide), fun q => p3.resolve_left q⟩
  have heat : ∀ y1 : Int32, y1 = (if P.ht = 0 then 0 else 3) → q_J l (d + 1) mX10_minute mc ms Q QX h.2 65 [some (.ref 49), some (.int use), some (.int 1), some (.int (pow (lgt (mnt P.t)) P.cl)), none, none] [.int y1, .int (P.b + pow (lgt (mnt P.t)) P.cl - 2)] h mc ms := by
    intro y1 hy
    have eb : P.b + pow (lgt (mnt P.t)) P.cl - 2 - y1 - use = btA use true P := by
      unfold btA
      rw [e1, if_neg z10, hy]
      grind
    refine v_X10_minute_65 49 _ _ _ _ _ ?_
    rw [eb]
    refine ⟨fun q2 => e_gr s.1 rfl (r_rd (k := 8) s rfl (by decide) ?_), fun q2 => ?_⟩
    rotate_left
    · rw [if_neg q2] at hq
      exact hq h q_fr.rf rfl s
    rw [if_pos q2] at hq
    -- the battery and what follows
    have go : ∀ y2 : Int32, y2 = (if W.cap < btA use true P then W.cap else btA use true P) → q_J l (d + 1) mX10_minute mc ms Q QX h.2 106 [some (.ref 49), some (.int use), some (.int 1), some (.int (pow (lgt (mnt P.t)) P.cl)), some (.int (btA use true P)), none] [.int y2, .int 3, .ref 50] h mc ms := by
      intro y2 hy2
      refine v_X10_minute_106 49 _ _ _ _ _ _ _ (e_as (k := 3) s.2.1 rfl (by decide) (by decide) (fun h1 f1 z1 a1 => ?_))
      have s1 := SP_r s f1 (a1.to rR_b)
      refine e_ob s1.1 (s_light s1 ⟨_, rfl, e_gr s1.1 rfl (r_rd (k := 4) s1 rfl (by decide) (r_rd (k := 4) s1 rfl (by decide) (r_rd (k := 5) s1 rfl (by decide) ?_)))⟩)
      have ea : lgt (mnt P.t) / 6 - 70 = air (lgt (mnt P.t)) := by unfold air; grind
      show qIF (P.ht = 1) (q_J l (d + 1) mX10_minute mc ms Q QX h.2 158 [some (.ref 49), some (.int use), some (.int 1), some (.int (pow (lgt (mnt P.t)) P.cl)), some (.int (btA use true P)), some (.int (lgt (mnt P.t) / 6 - 70))] [.int 2, .int (P.tp + (lgt (mnt P.t) / 6 - 70 - P.tp) / 20), .int 4, .ref 50] h1 mc ms) (q_J l (d + 1) mX10_minute mc ms Q QX h.2 158 [some (.ref 49), some (.int use), some (.int 1), some (.int (pow (lgt (mnt P.t)) P.cl)), some (.int (btA use true P)), some (.int (lgt (mnt P.t) / 6 - 70))] [.int 0, .int (P.tp + (lgt (mnt P.t) / 6 - 70 - P.tp) / 20), .int 4, .ref 50] h1 mc ms)
      rw [ea]
      have tail : ∀ y3 : Int32, y3 = (if P.ht = 0 then 0 else 2) → q_J l (d + 1) mX10_minute mc ms Q QX h.2 158 [some (.ref 49), some (.int use), some (.int 1), some (.int (pow (lgt (mnt P.t)) P.cl)), some (.int (btA use true P)), some (.int (air (lgt (mnt P.t))))] [.int y3, .int (P.tp + (air (lgt (mnt P.t)) - P.tp) / 20), .int 4, .ref 50] h1 mc ms := by
        intro y3 hy3
        refine v_X10_minute_158 49 _ _ _ _ _ _ _ _ _ ⟨fun q => absurd q z10, fun _ => v_X10_minute_168 49 _ _ _ _ _ _ _ _ _ (e_as (k := 4) s1.2.1 rfl (by decide) (by decide) (fun h2 f2 z2 a2 => ?_))⟩
        have s2 := SP_r s1 f2 (a2.to rR_tp)
        refine e_gr s2.1 rfl (e_al (k := 0) s2.2.1 rfl (by decide) (by decide) (e_as (k := 0) s2.2.1 rfl (by decide) (by decide) (fun h3 f3 z3 a3 => ?_)))
        have s3 := SP_r s2 f3 (a3.to rR_t)
        have F3 : q_fr (fun j => j = 50) h h3 := (f1.tt f2).tt f3
        have Z3 : h3.2 = h.2 := by rw [z3, z2, z1]
        have etp : P.tp + (air (lgt (mnt P.t)) - P.tp) / 20 + y3 + 1 = P.tp + ((air (lgt (mnt P.t)) - P.tp) / 20 + (if P.ht = 0 then 0 else 2) + (if i_aw true = 0 then 0 else 1)) := by
          rw [e1, if_neg z10, hy3]
          grind
        refine r_rd (k := 0) s3 rfl (by decide) ?_
        show qIF (mnt (P.t + 1) = 0) _ _
        have done : ∀ {c9 : Int32} {h4 : qH}, q_fr (fun j => j = 50) h h4 → h4.2 = h.2 → c9 = (if mnt (P.t + 1) = 0 then (if 20 < P.cl - 1 then P.cl - 1 else 20) else P.cl) → SP h4 W (PH.mk (P.t + 1) P.x P.y y2 (P.tp + (air (lgt (mnt P.t)) - P.tp) / 20 + y3 + 1) c9 P.ht) D pp pr → Q (some (.int 0)) h4 := fun {c9 h4} F4 Z4 ec s4 => by
          refine hq h4 F4 Z4 ?_
          unfold nxA
          rw [hy2, etp, ec] at s4
          exact s4
        refine ⟨fun q5 => r_rd (k := 6) s3 rfl (by decide) ?_, fun q5 => done (c9 := P.cl) F3 Z3 (by rw [if_neg q5]) s3⟩
        show qIF (P.cl ≤ 20) _ _
        refine ⟨fun q6 => done (c9 := P.cl) F3 Z3 ?_ s3, fun q6 => e_gr s3.1 rfl (e_al (k := 6) s3.2.1 rfl (by decide) (by decide) (e_as (k := 6) s3.2.1 rfl (by decide) (by decide) (fun h4 f4 z4 a4 => done (F3.tt f4) (z4.trans Z3) ?_ (SP_r s3 f4 (a4.to rR_cl)))))⟩
        · rw [le_i, L_20] at q6
          have e20 : P.cl = 20 := Int32.toInt_inj.mp (by rw [L_20]; omega)
          rw [if_pos q5, e20]
          decide
        · rw [if_pos q5]
          show P.cl - 1 = _
          rw [le_i, L_20] at q6
          have ec : (P.cl - 1).toInt = P.cl.toInt - 1 := by
            have := fb_rng P.cl
            rw [fb_subI (by rw [L_1]; omega) (by rw [L_1]; omega), L_1]
          by_cases q7 : 20 < P.cl - 1
          · rw [if_pos q7]
          · rw [if_neg q7]
            rw [lt_i, L_20, ec] at q7
            exact Int32.toInt_inj.mp (by rw [ec, L_20]; omega)
      exact ⟨fun q => tail 2 (by rw [if_neg (ht1.mp q)]), fun q => tail 0 (by rw [if_pos (Classical.byContradiction fun r => q (ht1.mpr r))])⟩
    refine ⟨fun q3 => go _ ?_, fun q3 => r_rd (k := 8) s rfl (by decide) (go _ ?_)⟩
    · rw [if_neg (fun r => by change btA use true P ≤ W.cap at q3; rw [le_i] at q3; rw [lt_i] at r; omega)]
    · rw [if_pos (by change ¬ btA use true P ≤ W.cap at q3; rw [le_i] at q3; rw [lt_i]; omega)]
      rfl
  refine v_X10_minute_49 49 _ _ _ _ _ (r_rd (k := 5) s rfl (by decide) ?_)
  show qIF (P.ht = 1) _ _
  exact ⟨fun q => heat 3 (by rw [if_neg (ht1.mp q)]), fun q => heat 0 (by rw [if_pos (Classical.byContradiction fun r => q (ht1.mpr r))])⟩
end SM1
theorem passA_cl {cap use : Int32} {aw : Bool} {P : PH} (h : 20 ≤ P.cl.toInt) : 20 ≤ (passA cap use aw P).2.cl.toInt := by
  unfold passA
  split
  · split
    · show 20 ≤ (if mnt (P.t + 1) = 0 then (if 20 < P.cl - 1 then P.cl - 1 else 20) else P.cl).toInt
      split
      · split
        · rename_i q
          rw [lt_i, L_20] at q; omega
        · rw [L_20]; omega
      · exact h
    · exact h
  · exact h
theorem passN_cl {cap use : Int32} {aw : Bool} : ∀ (n : Nat) {P : PH}, 20 ≤ P.cl.toInt → 20 ≤ (passN cap use aw n P).2.cl.toInt := by
  intro n
  induction n with
  | zero => exact fun h => h
  | succ n ih =>
    intro P h
    unfold passN
    split
    · exact ih (passA_cl h)
    · exact passA_cl h
/-- a reason is never below 0 -/
theorem passA_r {cap use : Int32} {aw : Bool} {P : PH} : (passA cap use aw P).1 = 0 ∨ (passA cap use aw P).1 = 2 ∨ (passA cap use aw P).1 = 7 := by
  unfold passA
  split
  · split
    · exact Or.inl rfl
    · exact Or.inr (Or.inl rfl)
  · exact Or.inr (Or.inr rfl)
theorem passA_le {cap use : Int32} {aw : Bool} {P : PH} : (passA cap use aw P).1 ≤ 0 ↔ (passA cap use aw P).1 = 0 := by
  rcases passA_r (cap := cap) (use := use) (aw := aw) (P := P) with q | q | q <;> rw [q] <;> decide
theorem passN_r {cap use : Int32} {aw : Bool} : ∀ (n : Nat) {P : PH}, (passN cap use aw n P).1 = 0 ∨ (passN cap use aw n P).1 = 2 ∨ (passN cap use aw n P).1 = 7 := by
  intro n
  induction n with
  | zero => exact fun {P} => Or.inl rfl
  | succ n ih =>
    intro P
    unfold passN
    split
    · exact ih
    · exact passA_r
theorem passN_le {cap use : Int32} {aw : Bool} {n : Nat} {P : PH} : (passN cap use aw n P).1 ≤ 0 ↔ (passN cap use aw n P).1 = 0 := by
  rcases passN_r (cap := cap) (use := use) (aw := aw) n (P := P) with q | q | q <;> rw [q] <;> decide
section SM2
variable {l : Launch} {d mc ms : Nat} {Q : Option Value → qH → Prop} {QX : String → qH → Prop} {h : qH} {W : WS} {tr : Nat → Nat} {P : PH} {D : DT} {pp : Nat} {pr : Nat → Nat}
theorem s_minutes {use : Int32} {n : Nat} (s : SP h W P D pp pr) (hp : pOk P) (hcl : 20 ≤ P.cl.toInt) (hn : n < 2 ^ 31) (hq : ∀ h', q_fr (fun j => j = 50) h h' → h'.2 = h.2 → SP h' W (passN W.cap use true n P).2 D pp pr → Q (some (.int (passN W.cap use true n P).1)) h') : q_Ct l (d + 2) mX10_minutes [.ref 49, .int (nI n), .int use] h mc ms Q QX := by
  refine v_X10_minutes 49 _ use ?_
  refine q_loop (fun i (st : PH × qH) => q_J l (d + 2) mX10_minutes mc ms Q QX h.2 2 [some (.ref 49), some (.int (nI n)), some (.int use), some (.int (nI i)), none] [] st.2 mc ms)
    (fun i st => q_fr (fun j => j = 50) h st.2 ∧ st.2.2 = h.2 ∧ SP st.2 W st.1 D pp pr ∧ pOk st.1 ∧ 20 ≤ st.1.cl.toInt ∧ passN W.cap use true (n - i) st.1 = passN W.cap use true n P) n ?_ ?_ 0 (P, h) (by omega) ⟨q_fr.rf, rfl, s, hp, hcl, rfl⟩
  · rintro ⟨P', h'⟩ ⟨f, z, s', hp', hc', e⟩
    rw [Nat.sub_self, passN] at e
    dsimp only at f z s' hp' hc' e ⊢
    rw [← e] at hq
    exact v_X10_minutes_2 49 _ _ (nI n) ⟨fun _ => hq h' f z s', fun q => absurd (Int32.le_refl _) q⟩
  · rintro i ⟨P', h'⟩ hi ⟨f, z, s', hp', hc', e⟩ ih
    rw [show n - i = (n - (i + 1)) + 1 by omega, passN] at e
    dsimp only at f z s' hp' hc' e ⊢
    refine v_X10_minutes_2 49 _ _ (nI i) ⟨fun q => absurd q (nI_ge hi hn), fun _ => e_ob s'.1 (s_minute s' hp' hc' (fun h2 f2 z2 s2 => ⟨_, rfl, ?_⟩))⟩
    rw [nI_1]
    refine ⟨fun q => ?_, fun q => ?_⟩
    · rw [if_pos (passA_le.mp q)] at e
      exact ih (_, h2) ⟨f.tt f2, z2.trans z, s2, passA_ok hp', passA_cl hc', e⟩
    · rw [if_neg (fun r => q (passA_le.mpr r))] at e
      rw [← e] at hq
      exact hq h2 (f.tt f2) (z2.trans z) s2
theorem s_units (s : SP h W P D pp pr) (hn : D.n < 2 ^ 31) (hq : Q (some (.int (unA D))) h) : q_Ct l d mX10_units [.ref 49] h mc ms Q QX := by
  obtain ⟨k1, k2, ⟨k3, k4⟩, k5⟩ := id s
  refine v_X10_units (d := d) 49 (e_gr k1 rfl (e_lnR k4 ?_))
  refine q_loop (fun i (h' : qH) => q_J l (d + 0) mX10_units mc ms Q QX h.2 13 [some (.ref 49), some (.int (unF D.pl i)), some (.ref pp), some (.int (nI D.n)), some (.int (nI i)), none] [] h' mc ms) (fun i h' => h' = h) D.n ?_ ?_ 0 h (by omega) rfl
  · rintro h' rfl
    exact v_X10_units_13 49 _ _ _ (nI D.n) ⟨fun _ => hq, fun q => absurd (Int32.le_refl _) q⟩
  · rintro i h' hi rfl ih
    refine v_X10_units_13 49 _ _ _ (nI i) ⟨fun q => absurd q (nI_ge hi hn), fun _ => e_o4 k4 rfl hi hn rfl (e_al (k := 1) (k5 i hi).2 rfl (by decide) (by decide) ?_)⟩
    rw [nI_1]
    exact ih h' rfl
/-- the octants of a target's images -/
def imF (D : DT) (z : Int32) : Nat → Int32
  | 0 => 0
  | i + 1 => if D.pt i = z then (if D.pg i = 9 then imF D z i else imF D z i ||| ((1 : Int32) <<< (D.pg i &&& 31))) else imF D z i
theorem s_images {k : Nat} (K : SK h W tr) (s : SP h W P D pp pr) (hk : k < 12) (hn : D.n < 2 ^ 31) (hq : Q (some (.int (imF D (nI k) D.n))) h) : q_Ct l d mX10_images [.ref 49, .int (nI k)] h mc ms Q QX := by
  obtain ⟨k1, k2, ⟨k3, k4⟩, k5⟩ := id s
  refine v_X10_images (d := d) 49 _ (e_gr k1 rfl (e_al K.2.2.2.1 rfl hk (by decide) (e_gr k1 rfl (e_lnR k4 ?_))))
  refine q_loop (fun i (h' : qH) => q_J l (d + 0) mX10_images mc ms Q QX h.2 19 [some (.ref 49), some (.int (nI k)), some (.int (imF D (nI k) i)), some (.ref pp), some (.int (nI D.n)), some (.int (nI i)), none] [] h' mc ms) (fun i h' => h' = h) D.n ?_ ?_ 0 h (by omega) rfl
  · rintro h' rfl
    exact v_X10_images_19 49 _ _ _ _ (nI D.n) ⟨fun _ => hq, fun q => absurd (Int32.le_refl _) q⟩
  · rintro i h' hi rfl ih
    refine v_X10_images_19 49 _ _ _ _ (nI i) ⟨fun q => absurd q (nI_ge hi hn), fun _ => e_o4 k4 rfl hi hn rfl (e_al (k := 0) (k5 i hi).2 rfl (by decide) (by decide) ⟨fun q1 => e_al (k := 3) (k5 i hi).2 rfl (by decide) (by decide) ⟨fun q2 => ?_, fun q2 => e_al (k := 3) (k5 i hi).2 rfl (by decide) (by decide) ?_⟩, fun q1 => ?_⟩)⟩
    · rw [nI_1]
      have := ih h' rfl
      rw [imF, if_pos (show D.pt i = nI k from q1), if_pos (show D.pg i = 9 from q2)] at this
      exact this
    · rw [nI_1]
      have := ih h' rfl
      rw [imF, if_pos (show D.pt i = nI k from q1), if_neg (show ¬ D.pg i = 9 from q2)] at this
      exact this
    · rw [nI_1]
      have := ih h' rfl
      rw [imF, if_neg (show ¬ D.pt i = nI k from q1)] at this
      exact this
theorem s_octant {k : Nat} (K : SK h W tr) (s : SP h W P D pp pr) (hk : k < W.tn) (hn : W.tn ≤ 12) (hq : Q (some (.int (nI (sp_oct (i_cmp P.x (W.tx k)) (i_cmp P.y (W.ty k)))))) h) : q_Ct l (d + 1) mX10_octant [.ref 49, .int (nI k)] h mc ms Q QX := by
  obtain ⟨k1, k2, k3, k4⟩ := id K
  have t := (k3 k hk).2
  refine v_X10_octant 49 _ (r_rd (k := 1) s rfl (by decide) (e_gr s.1 rfl (e_o4 k2 rfl (by omega) (by decide) (if_pos hk) (e_al (k := 0) t rfl (by decide) (by decide) (s_compare ⟨_, rfl, r_rd (k := 2) s rfl (by decide) (e_gr s.1 rfl (e_o4 k2 rfl (by omega) (by decide) (if_pos hk) (e_al (k := 1) t rfl (by decide) (by decide) (s_compare ⟨_, rfl, ?_⟩))))⟩)))))
  show q_J l (d + 1) mX10_octant mc ms Q QX h.2 43 [some (.ref 49), some (.int (nI k)), some (.int (i_cmp P.x (W.tx k))), some (.int (i_cmp P.y (W.ty k))), some (.int 8), some (.int 0)] [] h mc ms
  generalize i_cmp P.x (W.tx k) = sx at hq ⊢
  generalize i_cmp P.y (W.ty k) = sy at hq ⊢
  -- only one direction has these signs
  have one : ∀ a, a < 8 → ∀ b, b < 8 → q_dx a = q_dx b → q_dy a = q_dy b → a = b := by decide +kernel
  refine q_loop (fun j (st : Int32 × qH) => q_J l (d + 1) mX10_octant mc ms Q QX h.2 43 [some (.ref 49), some (.int (nI k)), some (.int sx), some (.int sy), some (.int st.1), some (.int (nI j))] [] st.2 mc ms) (fun j st => st.2 = h ∧ ((st.1 = 8 ∧ sp_oct sx sy = q_find (fun k => q_dx k = sx ∧ q_dy k = sy) j (8 - j)) ∨ (st.1 = nI (sp_oct sx sy) ∧ sp_oct sx sy < j ∧ q_dx (sp_oct sx sy) = sx ∧ q_dy (sp_oct sx sy) = sy))) 8 ?_ ?_ 0 (8, h) (by omega) ⟨rfl, Or.inl ⟨rfl, rfl⟩⟩
  · rintro ⟨v, h'⟩ ⟨rfl, e⟩
    refine v_X10_octant_43 49 _ _ _ _ (nI 8) ⟨fun _ => ?_, fun q => absurd (Int32.le_refl _) q⟩
    dsimp only at e ⊢
    rcases e with ⟨rfl, e⟩ | ⟨rfl, -⟩
    · rw [e] at hq; exact hq
    · exact hq
  · rintro j ⟨v, h'⟩ hj ⟨rfl, e⟩ ih
    dsimp only at e ⊢
    have e2 : 8 - j = (8 - (j + 1)) + 1 := by omega
    rw [e2, q_find] at e
    have no : ¬ (q_dx j = sx ∧ q_dy j = sy) → q_J l (d + 1) mX10_octant mc ms Q QX h'.2 43 [some (.ref 49), some (.int (nI k)), some (.int sx), some (.int sy), some (.int v), some (.int (nI j + 1))] [] h' mc ms := fun q => by
      rw [nI_1]
      refine ih (v, h') ⟨rfl, e.imp (fun r => ⟨r.1, ?_⟩) (fun r => ⟨r.1, by omega, r.2.2⟩)⟩
      have := r.2
      rw [if_neg q] at this
      exact this
    refine v_X10_octant_43 49 _ _ _ _ (nI j) ⟨fun q => absurd q (nI_ge hj (by decide)), fun _ => e_sl rfl hj ⟨fun q1 => e_sl rfl hj ⟨fun q2 => ?_, fun q2 => no (fun r => q2 r.2)⟩, fun q1 => no (fun r => q1 r.1)⟩⟩
    have q1 : q_dx j = sx := q1
    have q2 : q_dy j = sy := q2
    rw [nI_1]
    rcases e with ⟨-, e⟩ | ⟨-, lt, e3, e4⟩
    · rw [if_pos ⟨q1, q2⟩] at e
      exact ih (nI j, h') ⟨rfl, Or.inr (by rw [e]; exact ⟨rfl, by omega, q1, q2⟩)⟩
    · have := one _ (by omega) _ hj (e3.trans q1.symm) (e4.trans q2.symm)
      omega
theorem s_told {k : Nat} (s : SP h W P D pp pr) (hk : k < 10) (hn : D.n < 2 ^ 31) (hq : Q (some (.int (tellA P D (nI k)))) h) : q_Ct l (d + 1) mX10_told [.ref 49, .int (nI k)] h mc ms Q QX := by
  rcases (show k = 0 ∨ k = 1 ∨ k = 2 ∨ k = 3 ∨ k = 4 ∨ k = 5 ∨ k = 6 ∨ k = 7 ∨ k = 8 ∨ k = 9 by omega) with rfl | rfl | rfl | rfl | rfl | rfl | rfl | rfl | rfl | rfl
  · exact v_X10_told 49 _ ⟨fun q => absurd q (by decide), fun _ => r_rd (k := 0) s rfl (by decide) hq⟩
  · exact v_X10_told 49 _ ⟨fun q => absurd q (by decide), fun _ => r_rd (k := 1) s rfl (by decide) hq⟩
  · exact v_X10_told 49 _ ⟨fun q => absurd q (by decide), fun _ => r_rd (k := 2) s rfl (by decide) hq⟩
  · exact v_X10_told 49 _ ⟨fun q => absurd q (by decide), fun _ => r_rd (k := 3) s rfl (by decide) hq⟩
  · exact v_X10_told 49 _ ⟨fun q => absurd q (by decide), fun _ => r_rd (k := 4) s rfl (by decide) hq⟩
  · exact v_X10_told 49 _ ⟨fun q => absurd q (by decide), fun _ => r_rd (k := 5) s rfl (by decide) hq⟩
  · exact v_X10_told 49 _ ⟨fun q => absurd q (by decide), fun _ => r_rd (k := 6) s rfl (by decide) hq⟩
  · exact v_X10_told 49 _ ⟨fun _ => ⟨fun _ => e_ob s.1 (s_units s hn ⟨_, rfl, hq⟩), fun q => absurd rfl q⟩, fun q => absurd (by decide) q⟩
  · exact v_X10_told 49 _ ⟨fun _ => ⟨fun q => absurd q (by decide), fun _ => ⟨fun _ => e_gr s.1 rfl (e_lnR s.2.2.1.2 hq), fun q => absurd rfl q⟩⟩, fun q => absurd (by decide) q⟩
  · exact v_X10_told 49 _ ⟨fun _ => ⟨fun q => absurd q (by decide), fun _ => ⟨fun q => absurd q (by decide), fun _ => r_rd (k := 7) s rfl (by decide) hq⟩⟩, fun q => absurd (by decide) q⟩
end SM2
