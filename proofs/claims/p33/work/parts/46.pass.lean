/-! the class's Doer: minutes -/
def lgt (m : Int32) : Int32 := if m < 360 then 0 else if m < 1080 then (if 720 ≤ m then 1080 - m else m - 360) else 0
def air (u : Int32) : Int32 := -70 + u / 6
def pow (u c : Int32) : Int32 := u * c / 3600
def mnt (t : Int32) : Int32 := t - t / 1440 * 1440
def i_aw (aw : Bool) : Int32 := if aw then 1 else 0
def btA (use : Int32) (aw : Bool) (P : PH) : Int32 := P.b + pow (lgt (mnt P.t)) P.cl - ((if i_aw aw = 0 then 1 else 2) + (if P.ht = 0 then 0 else 3) + use)
def nxA (cap use : Int32) (aw : Bool) (P : PH) : PH := PH.mk (P.t + 1) P.x P.y (if cap < btA use aw P then cap else btA use aw P) (P.tp + ((air (lgt (mnt P.t)) - P.tp) / 20 + (if P.ht = 0 then 0 else 2) + (if i_aw aw = 0 then 0 else 1))) (if mnt (P.t + 1) = 0 then (if 20 < P.cl - 1 then P.cl - 1 else 20) else P.cl) P.ht
def passA (cap use : Int32) (aw : Bool) (P : PH) : Int32 × PH := if P.t < 14400 then (if 0 ≤ btA use aw P then (0, nxA cap use aw P) else (2, P)) else (7, P)
def passN (cap use : Int32) (aw : Bool) : Nat → PH → Int32 × PH
  | 0, P => (0, P)
  | n + 1, P => if (passA cap use aw P).1 = 0 then passN cap use aw n (passA cap use aw P).2 else passA cap use aw P
def dOb (h : qH) (W : WS) : Prop := ∃ lr, ob h 18 0 [.ref 1, .ref 6, .ref 9, .ref 14, .ref 19, .int W.cap, .int W.mem, .int lr]
def cS (h : qH) (W : WS) : Prop := gnd h W.H W.R W.Z (sp_M W.H W.R W.Z W.s) W.s ∧ tgt h W ∧ pss h W ∧ dOb h W
theorem cS.fr {h h' : qH} {W : WS} {S : Nat → Prop} (c : cS h W) (f : q_fr S h h') (h1 : ∀ i, 1 ≤ i → i ≤ 5 → ¬ S i) (h2 : ∀ i, 9 ≤ i → i ≤ 18 → ¬ S i) : cS h' W :=
  ⟨c.1.fr f h1, c.2.1.fr f (fun i a b => h2 i a (by omega)), c.2.2.1.fr f (fun i a b => h2 i (by omega) (by omega)), c.2.2.2.elim fun lr q => ⟨lr, q.fr f (h2 18 (by omega) (by omega))⟩⟩
section DO1
variable {l : Launch} {d mc ms : Nat} {Q : Option Value → qH → Prop} {QX : String → qH → Prop} {h : qH} {W : WS} {r : Nat} {P : PH} {D : DT}
theorem s_lightAt {m : Int32} (hq : Q (some (.int (lgt m))) h) : q_Ct l d mX0_lightAt [.int m] h mc ms Q QX := by
  unfold lgt at hq
  refine v_X0_lightAt (d := d) m ⟨fun q => ?_, fun q => ⟨fun q2 => ⟨fun q3 => ?_, fun q3 => ?_⟩, fun q2 => ?_⟩⟩
  · rw [if_pos q] at hq; exact hq
  · rw [if_neg q, if_pos q2, if_pos q3] at hq; exact hq
  · rw [if_neg q, if_pos q2, if_neg q3] at hq; exact hq
  · rw [if_neg q, if_neg q2] at hq; exact hq
theorem s_passMinutes {n : Nat} {use : Int32} {aw : Bool} (hr : 18 < r) (hd : dOb h W) (v : RV h r P D) (hn : n < 2 ^ 31) (hq : ∀ h', q_fr (sR r) h h' → h'.2 = h.2 → RV h' r (passN W.cap use aw n P).2 D → Q (some (.int (passN W.cap use aw n P).1)) h') : q_Ct l (d + 1) mX0_passMinutes [.ref 18, .ref r, .int (nI n), .int (i_aw aw), .int use] h mc ms Q QX := by
  obtain ⟨lr, hdo⟩ := hd
  refine v_X0_passMinutes 18 r _ _ _ ?_
  refine q_loop (fun i (st : PH × qH) => q_J l (d + 1) mX0_passMinutes mc ms Q QX h.2 3 [some (.ref 18), some (.ref r), some (.int (nI n)), some (.int (i_aw aw)), some (.int use), some (.int (nI i)), none, none, none] [] st.2 mc ms)
    (fun i st => q_fr (sR r) h st.2 ∧ st.2.2 = h.2 ∧ RV st.2 r st.1 D ∧ passN W.cap use aw (n - i) st.1 = passN W.cap use aw n P) n ?_ ?_ 0 (P, h) (by omega) ⟨q_fr.rf, rfl, v, rfl⟩
  · rintro ⟨P', h'⟩ ⟨f, z, v', e⟩
    rw [Nat.sub_self, passN] at e
    dsimp only at f z v' e ⊢
    rw [← e] at hq
    exact v_X0_passMinutes_3 18 r _ _ _ (nI n) ⟨fun _ => hq h' f z v', fun q => absurd (Int32.le_refl _) q⟩
  · rintro i ⟨P', h'⟩ hi ⟨f, z, v', e⟩ ih
    rw [show n - i = (n - (i + 1)) + 1 by omega, passN] at e
    dsimp only at f z v' e ⊢
    obtain ⟨o, a, b, c, e5, g, n0, t0⟩ := id v'
    have hdo' := hdo.fr f (by unfold sR; omega)
    have fail : ∀ rr : Int32, ¬ rr = 0 → passA W.cap use aw P' = (rr, P') → Q (some (.int rr)) h' := fun rr h0 he => by
      rw [he] at e
      rw [if_neg h0] at e
      rw [← e] at hq
      exact hq h' f z v'
    refine v_X0_passMinutes_3 18 r _ _ _ (nI i) ⟨fun q => absurd q (nI_ge hi hn), fun _ => e_gi o rfl ⟨fun q1 => ?_, fun q1 => ?_⟩⟩
    rotate_left
    · refine fail 7 (by decide) ?_
      unfold passA
      rw [if_neg q1]
    refine e_gi o rfl (s_lightAt ⟨_, rfl, ?_⟩)
    have e1 : P'.t - P'.t / 1440 * 1440 = mnt P'.t := rfl
    rw [e1]
    have w1 : ∀ d1 : Int32, d1 = (if i_aw aw = 0 then 1 else 2) → q_J l (d + 1) mX0_passMinutes mc ms Q QX h.2 44 [some (.ref 18), some (.ref r), some (.int (nI n)), some (.int (i_aw aw)), some (.int use), some (.int (nI i)), some (.int (lgt (mnt P'.t))), none, none] [.int d1] h' mc ms := by
      intro d1 hd1
      have w2 : ∀ d2 : Int32, d2 = (if P'.ht = 0 then 0 else 3) → q_J l (d + 1) mX0_passMinutes mc ms Q QX h.2 56 [some (.ref 18), some (.ref r), some (.int (nI n)), some (.int (i_aw aw)), some (.int use), some (.int (nI i)), some (.int (lgt (mnt P'.t))), none, none] [.int d2, .int d1] h' mc ms := by
        intro d2 hd2
        refine v_X0_passMinutes_56 18 r _ _ _ _ _ _ _ (e_gi o rfl (e_gi o rfl (v_X0_powerBy (d := d) _ _ ⟨_, rfl, ?_⟩)))
        have eb : P'.b + lgt (mnt P'.t) * P'.cl / 3600 - (d1 + d2 + use) = btA use aw P' := by rw [hd1, hd2]; rfl
        dsimp only
        rw [eb]
        refine ⟨fun q2 => ?_, fun q2 => ?_⟩
        rotate_left
        · refine fail 2 (by decide) ?_
          unfold passA
          rw [if_pos q1, if_neg q2]
        have ep : passA W.cap use aw P' = (0, nxA W.cap use aw P') := by
          unfold passA
          rw [if_pos q1, if_pos q2]
        rw [ep, if_pos rfl] at e
        refine e_gi hdo' rfl (e_pi o (Nat.le_of_ble_eq_true rfl) (fun h1 f1 z1 o1 => ?_))
        refine e_gi o1 rfl (v_X0_airBy (d := d) _ ⟨_, rfl, ?_⟩)
        refine e_gi o1 rfl (e_gi o1 rfl ?_)
        have tail : ∀ d3 : Int32, d3 = (if P'.ht = 0 then 0 else 2) → q_J l (d + 1) mX0_passMinutes mc ms Q QX h.2 131 [some (.ref 18), some (.ref r), some (.int (nI n)), some (.int (i_aw aw)), some (.int use), some (.int (nI i)), some (.int (lgt (mnt P'.t))), some (.int (d1 + d2 + use)), some (.int (btA use aw P'))] [.int d3, .int ((-70 + lgt (mnt P'.t) / 6 - P'.tp) / 20), .int P'.tp, .ref r] h1 mc ms := by
          intro d3 hd3
          have end9 : ∀ d4 : Int32, d4 = (if i_aw aw = 0 then 0 else 1) → q_J l (d + 1) mX0_passMinutes mc ms Q QX h.2 141 [some (.ref 18), some (.ref r), some (.int (nI n)), some (.int (i_aw aw)), some (.int use), some (.int (nI i)), some (.int (lgt (mnt P'.t))), some (.int (d1 + d2 + use)), some (.int (btA use aw P'))] [.int d4, .int ((-70 + lgt (mnt P'.t) / 6 - P'.tp) / 20 + d3), .int P'.tp, .ref r] h1 mc ms := by
            intro d4 hd4
            refine v_X0_passMinutes_141 18 r _ _ _ _ _ _ _ _ _ _ _ (e_pi o1 (Nat.le_of_ble_eq_true rfl) (fun h2 f2 z2 o2 => ?_))
            refine e_gi o2 rfl (e_pi o2 (Nat.le_of_ble_eq_true rfl) (fun h3 f3 z3 o3 => ?_))
            have fz : q_fr (sR r) h h3 := ((f.t1 f1 (sR_i (by omega) (by omega))).t1 f2 (sR_i (by omega) (by omega))).t1 f3 (sR_i (by omega) (by omega))
            have zz : h3.2 = h.2 := by rw [z3, z2, z1, z]
            have ff : ∀ {j N m : Nat} {G : Nat → Int32}, j ≠ r → arN h' j N m G → arN h3 j N m G := fun hj A => ((A.f1 f1 hj).f1 f2 hj).f1 f3 hj
            refine e_gi o3 rfl ⟨fun q5 => ?_, fun q5 => ?_⟩
            · refine e_gi o3 rfl (e_pi o3 (Nat.le_of_ble_eq_true rfl) (fun h4 f4 z4 o4 => ?_))
              rw [nI_1]
              refine ih (nxA W.cap use aw P', h4) ⟨fz.t1 f4 (sR_i (by omega) (by omega)), z4.trans zz, ⟨?_, (ff (by omega) a).f1 f4 (by omega), (ff (by omega) b).f1 f4 (by omega), (ff (by omega) c).f1 f4 (by omega), (ff (by omega) e5).f1 f4 (by omega), (ff (by omega) g).f1 f4 (by omega), n0, t0⟩, e⟩
              have en : nxA W.cap use aw P' = PH.mk (P'.t + 1) P'.x P'.y (if W.cap < btA use aw P' then W.cap else btA use aw P') (P'.tp + ((-70 + lgt (mnt P'.t) / 6 - P'.tp) / 20 + d3 + d4)) (if 20 < P'.cl - 1 then P'.cl - 1 else 20) P'.ht := by
                unfold nxA
                rw [if_pos (show mnt (P'.t + 1) = 0 from q5), hd3, hd4]
                rfl
              rw [en]
              exact o4
            · rw [nI_1]
              refine ih (nxA W.cap use aw P', h3) ⟨fz, zz, ⟨?_, ff (by omega) a, ff (by omega) b, ff (by omega) c, ff (by omega) e5, ff (by omega) g, n0, t0⟩, e⟩
              have en : nxA W.cap use aw P' = PH.mk (P'.t + 1) P'.x P'.y (if W.cap < btA use aw P' then W.cap else btA use aw P') (P'.tp + ((-70 + lgt (mnt P'.t) / 6 - P'.tp) / 20 + d3 + d4)) P'.cl P'.ht := by
                unfold nxA
                rw [if_neg (show ¬ mnt (P'.t + 1) = 0 from q5), hd3, hd4]
                rfl
              rw [en]
              exact o3
          refine v_X0_passMinutes_131 18 r _ _ _ _ _ _ _ _ _ _ _ ⟨fun q6 => end9 0 ?_, fun q6 => end9 1 ?_⟩
          · rw [if_pos q6]
          · rw [if_neg q6]
        refine ⟨fun q6 => tail 0 ?_, fun q6 => tail 2 ?_⟩
        · rw [if_pos q6]
        · rw [if_neg q6]
      refine v_X0_passMinutes_44 18 r _ _ _ _ _ _ (e_gi o rfl ⟨fun q6 => w2 0 ?_, fun q6 => w2 3 ?_⟩)
      · rw [if_pos q6]
      · rw [if_neg q6]
    refine ⟨fun q6 => w1 1 ?_, fun q6 => w1 2 ?_⟩
    · rw [if_pos q6]
    · rw [if_neg q6]
end DO1
