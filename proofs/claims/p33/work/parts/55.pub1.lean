/-! the class's public calls: the ground, targets, passes, the rover -/
section PUB
variable {l : Launch} {d mc ms : Nat} {Q : Option Value → qH → Prop} {QX : String → qH → Prop} {h : qH} {B : Nat} {A : ST}
theorem ne1 : (1 : Nat) ≠ 0 := by decide
theorem ne2 : (2 : Nat) ≠ 0 := by decide
theorem ne3 : (3 : Nat) ≠ 0 := by decide
theorem rs_x {E : Nat → String} {k : Nat} {v : Int32} (hk : k ≠ 0) (c : CS h B A) (hq : rs h B Q QX E (k, v, A)) : QX (E k) h := hq.2 hk h q_fr.rf c
theorem rs_v {E : Nat → String} {v : Int32} (c : CS h B A) (hq : rs h B Q QX E (0, v, A)) : Q (some (.int v)) h := hq.1 rfl h q_fr.rf c
theorem c_raise {x0 x1 y0 y1 w : Int32} (hl0 : l.stackTraces = false) (hkc : 1 ≤ mc) (hks : 6 ≤ ms) (hB : 49 ≤ B) (c : CS h B A) (ok : aOk A) (hq : rs h B Q QX (E1 nIA) (R_raise A x0 x1 y0 y1 w)) : q_Ct l (d + 6) mX9_raise [.ref 0, .int x0, .int x1, .int y0, .int y1, .int w] h mc ms Q QX := by
  refine v_X9_raise hl0 hkc hks 0 _ _ _ _ _ (s_isRectangle (fun r hr => ⟨_, rfl, fun q => ?_, fun q => ?_⟩))
  · rcases hr with ⟨e, -⟩ | ⟨-, e⟩
    · rw [e] at q; exact absurd q z10
    · unfold R_raise at hq
      rw [pif_f (fun r => e r.1)] at hq
      exact rs_x ne1 c hq
  have hR : isR x0 x1 y0 y1 := by
    rcases hr with ⟨-, e⟩ | ⟨e, -⟩
    · exact e
    · exact absurd e q
  obtain ⟨a0, a1, b0, b1, h1, h2, h3, h4, rfl, rfl, rfl, rfl⟩ := isR_of hR
  unfold R_raise at hq
  rw [nI_clamp (by omega), nI_clamp (by omega), nI_clamp (by omega), nI_clamp (by omega)] at hq
  have hH := ok.1.g.1
  refine e_gr c.o rfl (e_ob c.s.1.1 (s_canLift c.s.1 hH h1 h2 h3 h4 (fun r hr => ⟨_, rfl, fun q => ?_, fun q => ?_⟩)))
  · rcases hr with ⟨e, -⟩ | ⟨-, e⟩
    · rw [e] at q; exact absurd q z10
    · rw [pif_f (fun r => e r.2)] at hq
      exact rs_x ne1 c hq
  have hK : sp_ok A.W.H a0 a1 b0 b1 w := by
    rcases hr with ⟨-, e⟩ | ⟨e, -⟩
    · exact e
    · exact absurd e q
  rw [pif_t ⟨hR, hK⟩] at hq
  have hwb : -198 ≤ w.toInt ∧ w.toInt ≤ 198 := by
    have q1 := hK (24 * b0 + a0) (by omega) (by unfold inR; omega)
    have q2 := hH (24 * b0 + a0) (by omega)
    omega
  refine e_gr c.o rfl (e_ob c.s.1.1 (s_lift c.s.1 hH hK h1 h2 h3 h4 hwb (fun h' m f z g mx => ⟨_, rfl, ?_⟩)))
  rw [← mxA_is mx]
  refine hq.1 rfl h' (cl_fr f (fun i q => by omega)) (CS_W hB c f (fun i q => by omega) ⟨g, c.s.2.1.fr f (fun i a b q => by omega), c.s.2.2.1.fr f (fun i a b q => by omega), c.s.2.2.2.elim fun lr q => ⟨lr, q.fr f (by omega)⟩⟩ (c.wy.fr f (fun i a b q => by omega)))
theorem c_pave {x0 x1 y0 y1 q z : Int32} (hl0 : l.stackTraces = false) (hkc : 1 ≤ mc) (hks : 6 ≤ ms) (hB : 49 ≤ B) (c : CS h B A) (ok : aOk A) (hz : z = 0 ∨ z = 1) (hq : rs h B Q QX (E1 nIA) (R_pave A x0 x1 y0 y1 q z)) : q_Ct l (d + 6) mX9_pave [.ref 0, .int x0, .int x1, .int y0, .int y1, .int q, .int z] h mc ms Q QX := by
  unfold R_pave at hq
  refine v_X9_pave hl0 hkc hks 0 _ _ _ _ _ _ (s_isRectangle (fun r hr => ⟨_, rfl, fun q1 => ?_, fun q1 => ?_⟩))
  · rcases hr with ⟨e, -⟩ | ⟨-, e⟩
    · rw [e] at q1; exact absurd q1 z10
    · rw [pif_f (fun r => e r.1)] at hq
      exact rs_x ne1 c hq
  have hR : isR x0 x1 y0 y1 := by
    rcases hr with ⟨-, e⟩ | ⟨e, -⟩
    · exact e
    · exact absurd e q1
  refine ⟨fun q2 => ?_, fun q2 => ⟨fun q3 => ?_, fun q3 => ?_⟩⟩
  · rw [pif_f (fun r => (isW_n (n := 3) (by decide) r.2).1 q2)] at hq
    exact rs_x ne1 c hq
  rotate_left
  · rw [pif_f (fun r => q3 (isW_n (n := 3) (by decide) r.2).2)] at hq
    exact rs_x ne1 c hq
  rw [pif_t ⟨hR, isW_of (n := 3) (by decide) q2 q3⟩] at hq
  obtain ⟨a0, a1, b0, b1, h1, h2, h3, h4, rfl, rfl, rfl, rfl⟩ := isR_of hR
  rw [nI_clamp (by omega), nI_clamp (by omega), nI_clamp (by omega), nI_clamp (by omega)] at hq
  refine e_gr c.o rfl (e_ob c.s.1.1 (s_cover c.s.1 hz h1 h2 h3 h4 (fun h' f zz g => ⟨rfl, ?_⟩)))
  refine hq.1 rfl h' (cl_fr f (fun i q => by omega)) (CS_W hB c f (fun i q => by omega) ⟨g, c.s.2.1.fr f (fun i a b q => by omega), c.s.2.2.1.fr f (fun i a b q => by omega), c.s.2.2.2.elim fun lr q => ⟨lr, q.fr f (by omega)⟩⟩ (c.wy.fr f (fun i a b q => by omega)))
theorem c_setSlope {w : Int32} (hl0 : l.stackTraces = false) (hkc : 1 ≤ mc) (hks : 6 ≤ ms) (hB : 49 ≤ B) (c : CS h B A) (ok : aOk A) (hq : rs h B Q QX (E1 nIA) (R_setSlope A w)) : q_Ct l (d + 6) mX9_setSlope [.ref 0, .int w] h mc ms Q QX := by
  unfold R_setSlope at hq
  refine v_X9_setSlope hl0 hkc hks 0 _ ⟨fun q2 => ?_, fun q2 => ⟨fun q3 => ?_, fun q3 => ?_⟩⟩
  · rw [pif_f (fun r => (isW_n (n := 99) (by decide) r).1 q2)] at hq
    exact rs_x ne1 c hq
  rotate_left
  · rw [pif_f (fun r => q3 (isW_n (n := 99) (by decide) r).2)] at hq
    exact rs_x ne1 c hq
  rw [pif_t (isW_of (n := 99) (by decide) q2 q3)] at hq
  refine e_gr c.o rfl (e_gi c.s.1.1 rfl (e_gr c.o rfl (e_ob c.s.1.1 (s_limitSlope c.s.1 (fun h' f zz g => ⟨rfl, ?_⟩)))))
  refine hq.1 rfl h' (cl_fr f (fun i q => by omega)) (CS_W hB c f (fun i q => by omega) ⟨g, c.s.2.1.fr f (fun i a b q => by omega), c.s.2.2.1.fr f (fun i a b q => by omega), c.s.2.2.2.elim fun lr q => ⟨lr, q.fr f (by omega)⟩⟩ (c.wy.fr f (fun i a b q => by omega)))
theorem c_way {x0 y0 x1 y1 w : Int32} (hl0 : l.stackTraces = false) (hkc : 1 ≤ mc) (hks : 6 ≤ ms) (hB : 49 ≤ B) (c : CS h B A) (ok : aOk A) (hq : rs h B Q QX (E1 nIX) (R_way A x0 y0 x1 y1 w)) : q_Ct l (d + 6) mX9_way [.ref 0, .int x0, .int y0, .int x1, .int y1, .int w] h mc ms Q QX := by
  unfold R_way at hq
  refine v_X9_way hl0 hkc hks 0 _ _ _ _ _ ?_
  by_cases hp : inP x0 y0
  rotate_left
  · rw [pif_f (fun r => hp r.1)] at hq
    exact s_isPlace_f hp ⟨_, rfl, fun _ => rs_x ne1 c hq, fun q => absurd rfl q⟩
  refine s_isPlace_t hp ⟨_, rfl, fun q => absurd q z10, fun _ => ?_⟩
  by_cases hp1 : inP x1 y1
  rotate_left
  · rw [pif_f (fun r => hp1 r.2.1)] at hq
    exact s_isPlace_f hp1 ⟨_, rfl, fun _ => rs_x ne1 c hq, fun q => absurd rfl q⟩
  refine s_isPlace_t hp1 ⟨_, rfl, fun q => absurd q z10, fun _ => ⟨fun q2 => ?_, fun q2 => ⟨fun q3 => ?_, fun q3 => ?_⟩⟩⟩
  · rw [pif_f (fun r => (isW_n (n := 3) (by decide) r.2.2).1 q2)] at hq
    exact rs_x ne1 c hq
  rotate_left
  · rw [pif_f (fun r => q3 (isW_n (n := 3) (by decide) r.2.2).2)] at hq
    exact rs_x ne1 c hq
  rw [pif_t ⟨hp, hp1, isW_of (n := 3) (by decide) q2 q3⟩] at hq
  have hp' := ix_lt hp
  have g := ok.1.g
  obtain ⟨m0, w0⟩ := c.wy.1
  refine s_placeOf_t hp ⟨_, rfl, e_gr c.o rfl (s_placeOf_t hp1 ⟨_, rfl, e_ob w0 (s_measureTo c.s.1 g c.wy (ix_lt hp1) (fun h' f z L y => ⟨rfl, ?_⟩))⟩)⟩
  have c' : CS h' B (A.uW A.W) := CS_W hB c f (fun i q => by unfold wS at q; omega) (c.s.fr f (fun i a b q => by unfold wS at q; omega) (fun i a b q => by unfold wS at q; omega)) y.r
  have hv : Q (some (.int (wayA A.W (ix x0 y0) (ix x1 y1) w))) h' := hq.1 rfl h' (cl_fr f (fun i q => by unfold wS at q; omega)) c'
  unfold wayA at hv
  change wys h' (C_to A.W (ix x1 y1)) at y
  change lc (B_to A.W.H A.W.R A.W.Z A.W.s) (ix x1 y1) (C_to A.W (ix x1 y1)) at L
  generalize C_to A.W (ix x1 y1) = cc at hv L y
  obtain ⟨m1, w1⟩ := y.1
  refine ⟨fun q => ?_, fun q => ⟨fun q4 => ?_, fun q4 => ?_⟩⟩
  · rw [if_pos q] at hv
    exact e_gr c'.o rfl (e_ob w1 (s_costOf y hp' ⟨_, rfl, hv⟩))
  · rw [if_neg q, if_pos q4] at hv
    exact e_gr c'.o rfl (e_ob w1 (s_directionFrom c'.s.1 g y L hp' ⟨_, rfl, hv⟩))
  · rw [if_neg q, if_neg q4] at hv
    refine e_gr c'.o rfl ⟨fun q5 => e_ob w1 (s_sumFrom true c'.s.1 g y L hp' ⟨_, rfl, ?_⟩), fun q5 => e_ob w1 (s_sumFrom false c'.s.1 g y L hp' ⟨_, rfl, ?_⟩)⟩
    · rw [decide_eq_true q5] at hv; exact hv
    · rw [decide_eq_false q5] at hv; exact hv
theorem bt_lo {z k : Int32} {a b : Int} (hk : k.toInt = a) (h : bt z a b) : ¬ z < k := by rw [lt_i, hk]; have := h.1; omega
theorem bt_hi {z k : Int32} {a b : Int} (hk : k.toInt = b) (h : bt z a b) : ¬ k < z := by rw [lt_i, hk]; have := h.2; omega
theorem bt_of {z k j : Int32} {a b : Int} (hk : k.toInt = a) (hj : j.toInt = b) (h1 : ¬ z < k) (h2 : ¬ j < z) : bt z a b := by
  rw [lt_i, hk] at h1
  rw [lt_i, hj] at h2
  exact ⟨by omega, by omega⟩
theorem c_addTarget {x y v n : Int32} (hl0 : l.stackTraces = false) (hkc : 1 ≤ mc) (hks : 6 ≤ ms) (hB : 49 ≤ B) (c : CS h B A) (ok : aOk A) (hq : rs h B Q QX (E3 nIX nIA nIS) (R_addTarget A x y v n)) : q_Ct l (d + 6) mX9_addTarget [.ref 0, .int x, .int y, .int v, .int n] h mc ms Q QX := by
  unfold R_addTarget at hq
  refine v_X9_addTarget hl0 hkc hks 0 _ _ _ _ ?_
  by_cases hp : inP x y
  rotate_left
  · rw [pif_f hp] at hq
    exact s_isPlace_f hp ⟨_, rfl, fun _ => rs_x ne1 c hq, fun q => absurd rfl q⟩
  rw [pif_t hp] at hq
  refine s_isPlace_t hp ⟨_, rfl, fun q => absurd q z10, fun _ => ⟨fun q1 => ?_, fun q1 => ⟨fun q2 => ?_, fun q2 => ⟨fun q3 => ?_, fun q3 => ⟨fun q4 => ?_, fun q4 => ?_⟩⟩⟩⟩⟩
  · rw [pif_f (fun r => bt_lo L_1 r.1 q1)] at hq; exact rs_x ne2 c hq
  · rw [pif_f (fun r => bt_hi L_100 r.1 q2)] at hq; exact rs_x ne2 c hq
  · rw [pif_f (fun r => bt_lo L_1 r.2 q3)] at hq; exact rs_x ne2 c hq
  rotate_left
  · rw [pif_f (fun r => q4 (Int32.not_lt.mp (bt_hi L_4 r.2)))] at hq; exact rs_x ne2 c hq
  rw [pif_t ⟨bt_of L_1 L_100 q1 q2, bt_of L_1 L_4 q3 (Int32.not_lt.mpr q4)⟩] at hq
  refine e_gr c.o rfl (e_ob c.s.2.1.1 (s_tFull c.s.2.1 ok.1 ⟨_, rfl, ?_⟩))
  by_cases hn : A.W.tn < 12
  rotate_left
  · rw [pif_f hn] at hq
    rw [if_neg hn]
    exact ⟨fun q => absurd q z10, fun _ => rs_x ne3 c hq⟩
  rw [pif_t hn] at hq
  rw [if_pos hn]
  refine ⟨fun _ => ?_, fun q => absurd rfl q⟩
  refine e_gr c.o rfl (e_ob c.s.2.1.1 (s_tAppend c.s.2.1 ok.1 hn (fun h' f z g => ⟨_, rfl, ?_⟩)))
  refine hq.1 rfl h' (cl_fr f (fun i q => by unfold tS at q; omega)) (CS_W hB c f (fun i q => by unfold tS at q; omega) ⟨c.s.1.fr f (fun i a b q => by unfold tS at q; omega), g, c.s.2.2.1.fr f (fun i a b q => by unfold tS at q; omega), c.s.2.2.2.elim fun lr q => ⟨lr, q.fr f (by unfold tS; omega)⟩⟩ (c.wy.fr f (fun i a b q => by unfold tS at q; omega)))
theorem s_ttell {k : Nat} {w : Int32} (c : CS h B A) (ok : aOk A) (hk : k < A.W.tn) (hq : Q (some (.int (tellT A k w))) h) : q_Ct l (d + 3) mX7_tell [.ref 9, .int (nI k), .int w, .ref 32] h mc ms Q QX := by
  have tn := ok.1.tn
  unfold tellT at hq
  refine v_X7_tell 9 _ _ 32 (e_ob c.rv.1 (s_signsSent c.rv (by omega) ⟨_, rfl, fun q => ?_, fun q => ⟨fun q1 => ?_, fun q1 => ⟨fun q2 => ?_, fun q2 => ⟨fun q3 => ?_, fun q3 => ⟨fun q4 => ?_, fun q4 => ?_⟩⟩⟩⟩⟩))
  · rw [if_pos q] at hq
    exact e_ob c.s.2.1.1 (s_valueOf c.s.2.1 ok.1 hk ⟨_, rfl, hq⟩)
  · rw [if_neg q, if_pos q1] at hq
    exact e_ob c.s.2.1.1 (s_needOf c.s.2.1 ok.1 hk ⟨_, rfl, hq⟩)
  · rw [if_neg q, if_neg q1, if_pos q2] at hq
    exact s_octantsOf ⟨_, rfl, hq⟩
  · rw [if_neg q, if_neg q1, if_neg q2, if_pos q3] at hq
    exact e_ob c.rv.1 (s_signsOfAll c.rv (by omega) ⟨_, rfl, s_octantsOf ⟨_, rfl, hq⟩⟩)
  · rw [if_neg q, if_neg q1, if_neg q2, if_neg q3, if_pos q4] at hq
    refine s_hasTouch ⟨_, rfl, fun q5 => ?_, fun q5 => ?_⟩
    · rw [if_pos (i_b0.mp q5)] at hq; exact hq
    · rw [if_neg (fun r => q5 (i_b0.mpr r))] at hq; exact hq
  · rw [if_neg q, if_neg q1, if_neg q2, if_neg q3, if_neg q4] at hq
    refine e_ob c.s.2.1.1 (s_isMet c.s.2.1 ok.1 hk (fun m => ⟨_, rfl, fun q => absurd q z10, fun _ => ?_⟩) (fun m => ⟨_, rfl, fun _ => ?_, fun q => absurd rfl q⟩))
    · rw [pif_t m] at hq; exact hq
    · rw [pif_f m] at hq; exact hq
theorem c_target {t w : Int32} (hl0 : l.stackTraces = false) (hkc : 1 ≤ mc) (hks : 6 ≤ ms) (hB : 49 ≤ B) (c : CS h B A) (ok : aOk A) (hq : rs h B Q QX (E1 nIX) (R_target A t w)) : q_Ct l (d + 6) mX9_target [.ref 0, .int t, .int w] h mc ms Q QX := by
  unfold R_target at hq
  have tn := ok.1.tn
  refine v_X9_target hl0 hkc hks 0 _ _ (e_gr c.o rfl (e_ob c.s.2.1.1 (s_has c.s.2.1 ok.1 (fun ht => ⟨_, rfl, fun q => absurd q z10, fun _ => ⟨fun q2 => ?_, fun q2 => ⟨fun q3 => ?_, fun q3 => ?_⟩⟩⟩) (fun hf => ⟨_, rfl, fun _ => ?_, fun q => absurd rfl q⟩))))
  · rw [pif_f (fun r => (isW_n (n := 5) (by decide) r.2).1 q2)] at hq
    exact rs_x ne1 c hq
  · rw [pif_t ⟨ht, isW_of (n := 5) (by decide) q2 q3⟩] at hq
    obtain ⟨k, hk, rfl⟩ := ht
    rw [nI_clamp (by omega)] at hq
    exact e_gr c.o rfl (e_gr c.o rfl (e_ob c.s.2.1.1 (s_ttell c ok hk ⟨_, rfl, rs_v c hq⟩)))
  · rw [pif_f (fun r => q3 (isW_n (n := 5) (by decide) r.2).2)] at hq
    exact rs_x ne1 c hq
  · rw [pif_f (fun r => hf r.1)] at hq
    exact rs_x ne1 c hq
theorem c_addPass {a b r : Int32} (hl0 : l.stackTraces = false) (hkc : 1 ≤ mc) (hks : 6 ≤ ms) (hB : 49 ≤ B) (c : CS h B A) (ok : aOk A) (hq : rs h B Q QX (E2 nIA nIS) (R_addPass A a b r)) : q_Ct l (d + 6) mX9_addPass [.ref 0, .int a, .int b, .int r] h mc ms Q QX := by
  unfold R_addPass at hq
  refine v_X9_addPass hl0 hkc hks 0 _ _ _ ⟨fun q1 => ?_, fun q1 => ⟨fun q2 => ?_, fun q2 => ⟨fun q3 => ?_, fun q3 => ⟨fun q4 => ?_, fun q4 => ⟨fun q5 => ?_, fun q5 => ⟨fun q6 => ?_, fun q6 => ?_⟩⟩⟩⟩⟩⟩
  · rw [pif_f (fun r => bt_lo L_0 r.1 q1)] at hq; exact rs_x ne1 c hq
  · rw [pif_f (fun r => by rw [le_i, L_1440] at q2; have := r.1.2; omega)] at hq; exact rs_x ne1 c hq
  · rw [pif_f (fun r => by rw [le_i] at q3; have := r.2.1; omega)] at hq; exact rs_x ne1 c hq
  · rw [pif_f (fun r => by rw [lt_i, L_1440] at q4; have := r.2.2.1; omega)] at hq; exact rs_x ne1 c hq
  · rw [pif_f (fun r => bt_lo L_1 r.2.2.2 q5)] at hq; exact rs_x ne1 c hq
  rotate_left
  · rw [pif_f (fun r => q6 (Int32.not_lt.mp (bt_hi L_20 r.2.2.2)))] at hq; exact rs_x ne1 c hq
  have hc : bt a 0 1439 ∧ a.toInt < b.toInt ∧ b.toInt ≤ 1440 ∧ bt r 1 20 := by
    rw [lt_i, L_0] at q1
    rw [le_i, L_1440] at q2
    rw [le_i] at q3
    rw [lt_i, L_1440] at q4
    exact ⟨⟨by omega, by omega⟩, by omega, by omega, bt_of L_1 L_20 q5 (Int32.not_lt.mpr q6)⟩
  rw [pif_t hc] at hq
  refine e_gr c.o rfl (e_ob c.s.2.2.1.1 (s_pFull c.s.2.2.1 ok.1 ⟨_, rfl, ?_⟩))
  by_cases hn : A.W.pn < 6
  rotate_left
  · rw [pif_f hn] at hq
    rw [if_neg hn]
    exact ⟨fun q => absurd q z10, fun _ => rs_x ne2 c hq⟩
  rw [pif_t hn] at hq
  rw [if_pos hn]
  refine ⟨fun _ => ?_, fun q => absurd rfl q⟩
  refine e_gr c.o rfl (e_ob c.s.2.2.1.1 (s_pAppend c.s.2.2.1 ok.1 hn (fun h' f z g => ⟨_, rfl, ?_⟩)))
  refine hq.1 rfl h' (cl_fr f (fun i q => by unfold pS at q; omega)) (CS_W hB c f (fun i q => by unfold pS at q; omega) ⟨c.s.1.fr f (fun i a b q => by unfold pS at q; omega), c.s.2.1.fr f (fun i a b q => by unfold pS at q; omega), g, c.s.2.2.2.elim fun lr q => ⟨lr, q.fr f (by unfold pS; omega)⟩⟩ (c.wy.fr f (fun i a b q => by unfold pS at q; omega)))
theorem bt_day {m : Int32} : bt m 0 1439 ↔ ¬ m < 0 ∧ m < 1440 := by
  rw [lt_i, lt_i, L_0, L_1440]
  unfold bt
  omega
theorem c_setRover {a m : Int32} (hl0 : l.stackTraces = false) (hkc : 1 ≤ mc) (hks : 6 ≤ ms) (hB : 49 ≤ B) (c : CS h B A) (ok : aOk A) (hq : rs h B Q QX (E2 nIA nIS) (R_setRover A a m)) : q_Ct l (d + 6) mX9_setRover [.ref 0, .int a, .int m] h mc ms Q QX := by
  unfold R_setRover at hq
  refine v_X9_setRover hl0 hkc hks 0 _ _ ⟨fun q1 => ?_, fun q1 => ⟨fun q2 => ?_, fun q2 => ⟨fun q3 => ?_, fun q3 => ⟨fun q4 => ?_, fun q4 => ?_⟩⟩⟩⟩
  · rw [pif_f (fun r => bt_lo L_100 r.1 q1)] at hq; exact rs_x ne1 c hq
  · rw [pif_f (fun r => bt_hi L_20000 r.1 q2)] at hq; exact rs_x ne1 c hq
  · rw [pif_f (fun r => bt_lo L_40 r.2 q3)] at hq; exact rs_x ne1 c hq
  rotate_left
  · rw [pif_f (fun r => q4 (Int32.not_lt.mp (bt_hi L_5000 r.2)))] at hq; exact rs_x ne1 c hq
  rw [pif_t ⟨bt_of L_100 L_20000 q1 q2, bt_of L_40 L_5000 q3 (Int32.not_lt.mpr q4)⟩] at hq
  refine e_gr c.o rfl (e_ob c.rv.1 (s_unitsKept c.rv ⟨_, rfl, fun q5 => ?_, fun q5 => ?_⟩))
  rotate_left
  · rw [pif_f q5] at hq; exact rs_x ne2 c hq
  rw [pif_t q5] at hq
  obtain ⟨lr, hdo⟩ := c.s.2.2.2
  refine e_gr c.o rfl (e_gi hdo rfl (e_gr c.o rfl (e_pi hdo (Nat.le_of_ble_eq_true rfl) (fun h1 f1 z1 o1 => ?_))))
  have c1 := c.o.f1 f1 (by decide)
  refine e_gr c1 rfl (e_pi o1 (Nat.le_of_ble_eq_true rfl) (fun h2 f2 z2 o2 => ?_))
  have c2 := c1.f1 f2 (by decide)
  have v2 : RV h2 32 A.P A.D := (c.rv.fr f1 (fun i a b q => by change i = 18 at q; omega)).fr f2 (fun i a b q => by change i = 18 at q; omega)
  refine e_gr c2 rfl (e_ob v2.1 (s_limitBattery v2 (fun h3 f3 z3 v3 => ⟨rfl, ?_⟩)))
  have F : q_fr (fun i => i = 18 ∨ sR 32 i) h h3 := ((f1.mono (fun i _ q => Or.inl q)).tt (f2.mono (fun i _ q => Or.inl q))).tt (f3.mono (fun i _ q => Or.inr q))
  have hS : ∀ i, (i = 18 ∨ sR 32 i) → i = 18 ∨ (32 ≤ i ∧ i ≤ 37) := fun i q => by unfold sR at q; omega
  have hc := CS_up (A := A) (W' := A.W.uc a m) (P' := limB a A.P) (D' := A.D) (L' := A.L) hB c F (fun i q => by have := hS i q; omega) ⟨c.s.1.fr F (fun i a b q => by have := hS i q; omega), c.s.2.1.fr F (fun i a b q => by have := hS i q; omega), c.s.2.2.1.fr F (fun i a b q => by have := hS i q; omega), lr, o2.fr f3 (by unfold sR; omega)⟩ (c.wy.fr F (fun i a b q => by have := hS i q; omega)) (c.un F (fun i a b q => by have := hS i q; omega)) (c.ah F (fun i a b q => by have := hS i q; omega)) (c.cp F (fun i a b q => by have := hS i q; omega)) v3 (c.pv.fr F (fun i a b q => by have := hS i q; omega))
  exact hq.1 rfl h3 (cl_fr F (fun i q => by have := hS i q; omega)) hc
theorem c_rover {w : Int32} (hl0 : l.stackTraces = false) (hkc : 1 ≤ mc) (hks : 6 ≤ ms) (hB : 49 ≤ B) (c : CS h B A) (ok : aOk A) (hq : rs h B Q QX (E1 nIX) (R_rover A w)) : q_Ct l (d + 6) mX9_rover [.ref 0, .int w] h mc ms Q QX := by
  unfold R_rover at hq
  refine v_X9_rover hl0 hkc hks 0 _ ⟨fun q2 => ?_, fun q2 => ⟨fun q3 => ?_, fun q3 => ?_⟩⟩
  · rw [pif_f (fun r => (isW_n (n := 9) (by decide) r).1 q2)] at hq
    exact rs_x ne1 c hq
  · rw [pif_t (isW_of (n := 9) (by decide) q2 q3)] at hq
    exact e_gr c.o rfl (e_ob c.rv.1 (s_rtell c.rv ⟨_, rfl, rs_v c hq⟩))
  · rw [pif_f (fun r => q3 (isW_n (n := 9) (by decide) r).2)] at hq
    exact rs_x ne1 c hq
theorem c_piece {p w : Int32} (hl0 : l.stackTraces = false) (hkc : 1 ≤ mc) (hks : 6 ≤ ms) (hB : 49 ≤ B) (c : CS h B A) (ok : aOk A) (hq : rs h B Q QX (E1 nIX) (R_piece A p w)) : q_Ct l (d + 6) mX9_piece [.ref 0, .int p, .int w] h mc ms Q QX := by
  unfold R_piece at hq
  have n0 := c.rv.2.2.2.2.2.2.1
  refine v_X9_piece hl0 hkc hks 0 _ _ (e_gr c.o rfl (e_ob c.rv.1 (s_hasPiece c.rv (fun ht => ⟨_, rfl, fun q => absurd q z10, fun _ => ⟨fun q2 => ?_, fun q2 => ⟨fun q3 => ?_, fun q3 => ?_⟩⟩⟩) (fun hf => ⟨_, rfl, fun _ => ?_, fun q => absurd rfl q⟩))))
  · rw [pif_f (fun r => (isW_n (n := 3) (by decide) r.2).1 q2)] at hq
    exact rs_x ne1 c hq
  · rw [pif_t ⟨ht, isW_of (n := 3) (by decide) q2 q3⟩] at hq
    obtain ⟨k, hk, rfl⟩ := ht
    rw [nI_clamp (by omega)] at hq
    exact e_gr c.o rfl (e_ob c.rv.1 (s_tellPiece c.rv hk ⟨_, rfl, rs_v c hq⟩))
  · rw [pif_f (fun r => q3 (isW_n (n := 3) (by decide) r.2).2)] at hq
    exact rs_x ne1 c hq
  · rw [pif_f (fun r => hf r.1)] at hq
    exact rs_x ne1 c hq
end PUB
