/-! what a pair does; what a target is worth -/
theorem drive_at {W : WS} (hw : wOk W) {gx gy : Int32} (hg : inP gx gy) : ∀ (n : Nat) (P : PH), pOk P → C_to W (ix gx gy) (ix P.x P.y) < FARn → chp (C_to W (ix gx gy)) (C_to W (ix gx gy) (ix P.x P.y)) ≤ n → (driveA W (C_to W (ix gx gy)) gx gy n P).1 = 0 →
    (driveA W (C_to W (ix gx gy)) gx gy n P).2.x = gx ∧ (driveA W (C_to W (ix gx gy)) gx gy n P).2.y = gy := by
  have L := C_to_lc hw (ix_lt hg)
  have g0 : ∀ {x y : Int32}, inP x y → ¬ (x = gx ∧ y = gy) → C_to W (ix gx gy) (ix x y) ≠ 0 := fun a b => goal_0 hw a hg b
  generalize C_to W (ix gx gy) = c at L g0
  intro n
  induction n with
  | zero =>
    intro P hp hf hch _
    have c0 : c (ix P.x P.y) = 0 := chp_0 L.1 L.2.1 (by omega)
    exact Classical.byContradiction fun q => g0 hp.1 q c0
  | succ n ih =>
    intro P hp hf hch ok
    rw [driveA] at ok ⊢
    by_cases ne : P.x = gx ∧ P.y = gy
    · rw [if_pos ne]; exact ne
    rw [if_neg ne, if_pos hf] at ok ⊢
    have hl := ix_lt hp.1
    have pe := p_ix hp.1
    have n0 := g0 hp.1 ne
    have nx := nxt_ok hw.g L hl hf n0
    have ok' : (stepA W (ix P.x P.y) (dirA W.H W.R W.Z W.s c (ix P.x P.y)) P).1 = 0 := Classical.byContradiction fun q => by
      rw [if_neg q] at ok
      exact q ok
    rw [if_pos ok'] at ok ⊢
    have h2p : nxt W.H W.R W.Z W.s c (ix P.x P.y) = nb (ix P.x P.y) (dirA W.H W.R W.Z W.s c (ix P.x P.y)) := rfl
    rw [h2p] at nx
    have xyS := stepA_xy ok'
    have pos : inP (P.x + q_dx (dirA W.H W.R W.Z W.s c (ix P.x P.y))) (P.y + q_dy (dirA W.H W.R W.Z W.s c (ix P.x P.y))) := by
      have := nx.2.2.2
      unfold nP at this
      rw [pe.1, pe.2] at this
      exact this
    have okS := stepA_ok hp ok' pos
    have enb : ix (stepA W (ix P.x P.y) (dirA W.H W.R W.Z W.s c (ix P.x P.y)) P).2.x (stepA W (ix P.x P.y) (dirA W.H W.R W.Z W.s c (ix P.x P.y)) P).2.y = nb (ix P.x P.y) (dirA W.H W.R W.Z W.s c (ix P.x P.y)) := by
      rw [xyS.1, xyS.2]
      unfold nb
      rw [pe.1, pe.2]
    have ch := chp_lt (c := c) (v := nb (ix P.x P.y) (dirA W.H W.R W.Z W.s c (ix P.x P.y))) (t := c (ix P.x P.y)) nx.1 nx.2.1
    exact ih _ okS (by rw [enb]; exact nx.2.2.1) (by rw [enb]; omega) ok
theorem perf_0 {W : WS} {k a b : Int32} {P : PH} {D : DT} (h : (perfA W k a b P D).1 = 0) : perfA W k a b P D = actA W k a b P D ∧ (actA W k a b P D).1 = 0 := by
  have ok2 : (actA W k a b P D).1 = 0 := Classical.byContradiction fun q => by
    unfold perfA at h
    rw [if_neg q] at h
    exact q h
  exact ⟨by unfold perfA; rw [if_pos ok2], ok2⟩
/-- behind the drive: at the place, with the same data -/
theorem dr1_at {W : WS} (hw : wOk W) {t : Nat} {P : PH} {D : DT} (hp : pOk P) (hn : nrA W P D t ≠ 576) (h : (dr1 W t P D).1 = 0) : (dr1 W t P D).2.1.x = px (nrA W P D t) ∧ (dr1 W t P D).2.1.y = py (nrA W P D t) ∧ (dr1 W t P D).2.2 = D := by
  have np := (nearA_t hn).1
  have e := perf_0 (show (perfA W 0 (px (nrA W P D t)) (py (nrA W P D t)) P D).1 = 0 from h)
  have ea : actA W 0 (px (nrA W P D t)) (py (nrA W P D t)) P D = ((driveA W (C_to W (ix (px (nrA W P D t)) (py (nrA W P D t)))) (px (nrA W P D t)) (py (nrA W P D t)) 576 P).1, (driveA W (C_to W (ix (px (nrA W P D t)) (py (nrA W P D t)))) (px (nrA W P D t)) (py (nrA W P D t)) 576 P).2, D) := by unfold actA; rw [if_pos rfl]
  unfold dr1
  rw [e.1, ea]
  rw [ea] at e
  have ok := e.2
  have hg : inP (px (nrA W P D t)) (py (nrA W P D t)) := inP_p np
  by_cases hf : C_to W (ix (px (nrA W P D t)) (py (nrA W P D t))) (ix P.x P.y) < FARn
  · have := drive_at hw hg 576 P hp hf (chp_le _ _) ok
    exact ⟨this.1, this.2, rfl⟩
  · have ne : ¬ (P.x = px (nrA W P D t) ∧ P.y = py (nrA W P D t)) := fun q => by
      rw [q.1, q.2, (C_to_lc hw (ix_lt hg)).2.1] at hf
      exact hf (by decide)
    rw [show 576 = 575 + 1 from rfl, driveA, if_neg ne, if_neg hf] at ok
    exact absurd (show (1 : Int32) = 0 from ok) z10
theorem useA_0 {W : WS} {size use : Int32} {n : Nat} {P : PH} {D : DT} (h : (useA W size use n P D).1 = 0) : (useA W size use n P D).1 = 0 := h
/-- the piece that the tool keeps -/
theorem dr2_D {W : WS} (hw : wOk W) {t : Nat} {P : PH} {D : DT} (hp : pOk P) (ht : t < W.tn) (hn : nrA W P D t ≠ 576) (h1 : (dr1 W t P D).1 = 0) (h2 : (dr2 W t P D).1 = 0) :
    (W.td t = 4 ∧ (dr2 W t P D).2.2 = keepA D (nI t) 90 5 9) ∨ (¬ W.td t = 4 ∧ (dr2 W t P D).2.2 = keepA D (nI t) 40 5 (nI (octA W t (nrA W P D t)))) := by
  have at1 := dr1_at hw hp hn h1
  have htn := hw.tn
  have ek : (nI t).toNatClampNeg = t := nI_clamp (by omega)
  have e := perf_0 (show (perfA W (kdA W t) (nI t) 5 (dr1 W t P D).2.1 (dr1 W t P D).2.2).1 = 0 from h2)
  unfold dr2
  rw [e.1]
  have ok := e.2
  rw [at1.2.2] at ok ⊢
  unfold kdA at ok ⊢
  by_cases q4 : W.td t = 4
  · rw [if_pos q4] at ok ⊢
    refine Or.inl ⟨q4, ?_⟩
    have ea : actA W 2 (nI t) 5 (dr1 W t P D).2.1 D = takeT W (dr1 W t P D).2.1 D (nI t) 5 := by unfold actA; rw [if_neg (by decide), if_neg (by decide), if_pos rfl]
    rw [ea] at ok ⊢
    unfold takeT at ok ⊢
    split at ok
    · rename_i c1
      rw [if_pos c1]
      split at ok
      · rename_i c2
        rw [if_pos c2]
      · rename_i c2
        exact absurd ok c2
    · exact absurd (show (5 : Int32) = 0 from ok) (by decide)
  · rw [if_neg q4] at ok ⊢
    refine Or.inr ⟨q4, ?_⟩
    have ea : actA W 1 (nI t) 5 (dr1 W t P D).2.1 D = takeI W (dr1 W t P D).2.1 D (nI t) 5 := by unfold actA; rw [if_neg (by decide), if_pos rfl]
    rw [ea] at ok ⊢
    unfold takeI at ok ⊢
    rw [ek] at ok ⊢
    split at ok
    · exact absurd (show (5 : Int32) = 0 from ok) (by decide)
    · rename_i c1
      rw [if_neg c1]
      split at ok
      · rename_i c2
        rw [if_pos c2]
        split at ok
        · rename_i c3
          rw [if_pos c3, at1.1, at1.2.1]
          rfl
        · rename_i c3
          exact absurd ok c3
      · exact absurd (show (5 : Int32) = 0 from ok) (by decide)
/-! one image more -/
theorem imF_cong {D D' : DT} {z : Int32} : ∀ n, (∀ i, i < n → D'.pt i = D.pt i ∧ D'.pg i = D.pg i) → imF D' z n = imF D z n := by
  intro n
  induction n with
  | zero => exact fun _ => rfl
  | succ n ih =>
    intro h
    unfold imF
    rw [(h n (by omega)).1, (h n (by omega)).2, ih (fun i hi => h i (by omega))]
theorem or_tab : ∀ a, a < 512 → ∀ g, g < 9 → (nI a ||| ((1 : Int32) <<< (nI g &&& 31))) = nI (a ||| 2 ^ g) ∧ a ||| 2 ^ g < 512 := by decide +kernel
set_option maxRecDepth 20000 in
theorem bc_tab : ∀ a, a < 512 → ∀ g, g < 9 → (nI a).toBitVec.getLsbD g = false → i_bc (nI a ||| ((1 : Int32) <<< (nI g &&& 31))) = i_bc (nI a) + 1 := by decide +kernel
theorem imF_nat {D : DT} {z : Int32} (hg : gG D) : ∀ i, i ≤ D.n → ∃ a, a < 512 ∧ imF D z i = nI a := by
  intro i
  induction i with
  | zero => exact fun _ => ⟨0, by decide, rfl⟩
  | succ i ih =>
    intro hi
    obtain ⟨a, ha, ea⟩ := ih (by omega)
    obtain ⟨g, hg9, eg⟩ := hg i (by omega)
    unfold imF
    by_cases q : D.pt i = z
    · rw [if_pos q]
      by_cases q9 : D.pg i = 9
      · rw [if_pos q9]; exact ⟨a, ha, ea⟩
      · rw [if_neg q9, ea, eg]
        have g8 : g < 9 := by
          have : g ≠ 9 := fun r => q9 (by rw [eg, r]; rfl)
          omega
        have := or_tab a ha g g8
        exact ⟨_, this.2, this.1⟩
    · rw [if_neg q]; exact ⟨a, ha, ea⟩
theorem oct_8 (W : WS) (t p : Nat) : octA W t p ≤ 8 := by
  have := q_find_le (fun k => q_dx k = i_cmp (px p) (W.tx t) ∧ q_dy k = i_cmp (py p) (W.ty t)) 8 0
  unfold octA sp_oct
  omega
theorem im_more {W : WS} {t : Nat} {P : PH} {D : DT} (z : zD D) (hd : dOk D) (ht : t < 12) (hn : nrA W P D t ≠ 576) (h4 : ¬ W.td t = 4) : i_bc (imF (keepA D (nI t) 40 5 (nI (octA W t (nrA W P D t)))) (nI t) (D.n + 1)) = i_bc (imF D (nI t) D.n) + 1 := by
  have g := (nearA_t hn).2
  have sv := (g.2.2.1.resolve_left h4).1
  change ((sgA D t >>> (nI (octA W t (nrA W P D t)) &&& 31)) &&& 1) = 0 at sv
  have g8 := oct_8 W t (nrA W P D t)
  generalize octA W t (nrA W P D t) = o at sv g8 ⊢
  obtain ⟨a, ha, ea⟩ := imF_nat (z := nI t) hd.2.1 D.n (Nat.le_refl _)
  have es := im_sg z hd.2.1 ht
  rw [b_bit (by omega)] at sv
  have b0 : (sgA D t).toBitVec.getLsbD o = false := by
    cases hb : (sgA D t).toBitVec.getLsbD o with
    | false => rfl
    | true => rw [hb] at sv; exact absurd sv (by decide)
  have ba : (nI a).toBitVec.getLsbD o = false := by
    rw [← ea, ← es, Int32.toBitVec_and, BitVec.getLsbD_and, b0, Bool.false_and]
  have e1 : imF (keepA D (nI t) 40 5 (nI o)) (nI t) (D.n + 1) = imF D (nI t) D.n ||| ((1 : Int32) <<< (nI o &&& 31)) := by
    have n9 : ¬ nI o = 9 := fun q => by
      have := (nI_eq (a := o) (b := 9) (by omega) (by decide)).mp q
      omega
    have c := imF_cong (D := D) (D' := keepA D (nI t) 40 5 (nI o)) (z := nI t) D.n (fun i hi => ⟨pk_un (by omega), pk_un (by omega)⟩)
    have p1 : (keepA D (nI t) 40 5 (nI o)).pt D.n = nI t := pk_us
    have p2 : (keepA D (nI t) 40 5 (nI o)).pg D.n = nI o := pk_us
    rw [imF, p1, p2, if_pos rfl, if_neg n9, c]
  rw [e1, ea]
  exact bc_tab a ha o (by omega) ba
section PA1
variable {l : Launch} {d mc ms : Nat} {Q : Option Value → qH → Prop} {QX : String → qH → Prop} {h : qH} {tr : Nat → Nat} {A : ST}
/-- what a target is worth; -1 if it has no place -/
noncomputable def wrt (A : ST) (k : Nat) : Int32 := if nrA A.W A.P A.D k = 576 then -1 else itsA A.W (C_fr A.W (ix A.P.x A.P.y)) k (nrA A.W A.P A.D k)
theorem near_n {p : Nat} (hp : p < 576) : (100 : Int32) * px p + py p = nI (100 * (p % 24) + p / 24) := by
  unfold px py
  rw [show (100 : Int32) = nI 100 from rfl, pk_mul, nI_add]
theorem R_near {k : Nat} (ok : aOk A) (hk : k < A.W.tn) : R_nearest A (nI k) = (0, neaA A k, A) := by
  have := ok.1.tn
  unfold R_nearest
  rw [pif_t ⟨k, hk, rfl⟩, nI_clamp (by omega)]
theorem s_worth {k : Nat} (hl0 : l.stackTraces = false) (hkc : 2 ≤ mc) (hks : 12 ≤ ms) (t : TW h tr A) (ok : aOk A) (hk : k < A.W.tn) (hq : ∀ h', q_fr (clS 49) h h' → CS h' 49 A → Q (some (.int (wrt A k))) h') : q_Ct l (d + 7) mL_worth [.ref 0, .ref 49, .int (nI k)] h mc ms Q QX := by
  have htn := ok.1.tn
  refine v_L_worth hkc hks 0 49 _ (e_ob t.1.o (c_nearest (d := d) hl0 (by decide) (by decide) (by decide) t.1 ok ?_))
  rw [R_near ok hk]
  refine rs_i (fun h1 f1 c1 => ?_)
  have t1 := t.fr f1 c1
  obtain ⟨-, K1, pp, pr, s1⟩ := id t1
  have nd : nearA A.W (C_fr A.W (ix A.P.x A.P.y)) A.D k = nrA A.W A.P A.D k := rfl
  by_cases e : nrA A.W A.P A.D k = 576
  · have ev : neaA A k = -1 := by unfold neaA; rw [nd, if_pos e]
    have ew : wrt A k = -1 := by unfold wrt; rw [if_pos e]
    rw [ev]
    rw [ew] at hq
    exact ⟨fun q => absurd q (by decide), fun _ => hq h1 f1 c1⟩
  have np := (nearA_t e).1
  have gd := (nearA_t e).2
  rw [nd] at np gd
  have ev : neaA A k = nI (100 * (nrA A.W A.P A.D k % 24) + nrA A.W A.P A.D k / 24) := by
    unfold neaA
    rw [nd, if_neg e, near_n np]
  have ew : wrt A k = itsA A.W (C_fr A.W (ix A.P.x A.P.y)) k (nrA A.W A.P A.D k) := by unfold wrt; rw [if_neg e]
  have hpos := ok.2.1.1.1
  have du := C_dual ok.1 np (ix_lt hpos)
  have cf := gd.2.1
  have small := lc_small (gB_fr ok.1.g) (C_fr_lc ok.1 (ix_lt hpos)) np cf
  rw [ev]
  rw [ew] at hq
  have tr1 := (K1.2.2.1 k hk).2
  refine ⟨fun _ => e_gr s1.1 rfl (e_o4 K1.2.1 rfl (by omega) (by decide) (if_pos hk) (e_al (k := 2) tr1 rfl (by decide) (by decide) (r_rd (k := 1) s1 rfl (by decide) (r_rd (k := 2) s1 rfl (by decide) ?_)))), fun q => absurd (nI_pos' (by omega)) q⟩
  have e1 : nI (100 * (nrA A.W A.P A.D k % 24) + nrA A.W A.P A.D k / 24) / 100 = px (nrA A.W A.P A.D k) := by
    rw [show (100 : Int32) = nI 100 from rfl, pk_div (by omega) (by decide) (by decide)]
    unfold px
    congr 1
    omega
  have e2 : nI (100 * (nrA A.W A.P A.D k % 24) + nrA A.W A.P A.D k / 24) - nI (100 * (nrA A.W A.P A.D k % 24) + nrA A.W A.P A.D k / 24) / 100 * 100 = py (nrA A.W A.P A.D k) := by
    rw [show (100 : Int32) = nI 100 from rfl, pk_rem (by omega) (by decide) (by decide)]
    unfold py
    congr 1
    omega
  rw [e2, e1]
  refine e_ob c1.o (c_way (d := d) hl0 (by decide) (by decide) (by decide) c1 ok ?_)
  have er : R_way A A.P.x A.P.y (px (nrA A.W A.P A.D k)) (py (nrA A.W A.P A.D k)) 0 = (0, nI (C_fr A.W (ix A.P.x A.P.y) (nrA A.W A.P A.D k)), A) := by
    unfold R_way
    rw [pif_t ⟨hpos, inP_p np, isW_nI (k := 0) (by decide) (by decide)⟩]
    unfold wayA
    rw [if_pos rfl, ix_p np]
    unfold cv
    rw [du, if_pos cf]
  show rs h1 49 _ _ _ (R_way A A.P.x A.P.y (px (nrA A.W A.P A.D k)) (py (nrA A.W A.P A.D k)) 0)
  rw [er]
  refine rs_i (fun h2 f2 c2 => ⟨?_, hq h2 (f1.tt f2) c2⟩)
  rw [show (1 : Int32) = nI 1 from rfl, nI_add]
  exact nI_ne0 (by omega) (by omega)
end PA1
