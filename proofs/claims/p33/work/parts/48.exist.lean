/-! least costs are: Dijkstra without the machine -/
theorem min_ex (c : Nat → Nat) : ∀ m, 0 < m → ∃ j, j < m ∧ ∀ i, i < m → c j ≤ c i := by
  intro m
  induction m with
  | zero => intro h; omega
  | succ m ih =>
    intro _
    by_cases e : m = 0
    · subst e
      exact ⟨0, by omega, fun i hi => by rw [show i = 0 by omega]; exact Nat.le_refl _⟩
    · obtain ⟨j, h1, h2⟩ := ih (by omega)
      by_cases q : c j ≤ c m
      · refine ⟨j, by omega, fun i hi => ?_⟩
        by_cases e2 : i = m
        · subst e2; exact q
        · exact h2 i (by omega)
      · refine ⟨m, by omega, fun i hi => ?_⟩
        by_cases e2 : i = m
        · subst e2; exact Nat.le_refl _
        · have := h2 i (by omega); omega
theorem lc_ex {B : Nat → Nat → Nat → Nat → Prop} (hB : gB B) (hfun : ∀ k u v w u' w', B k u v w → B k u' v w' → u' = u ∧ w' = w) {o : Nat} (ho : o < 576) : ∃ c, lc B o c := by
  have step : ∀ n gs m f c v, DN B o n gs m f c v 0 → ∀ kd, kd ≤ 8 → ∃ m f c, DN B o n gs m f c v kd := by
    intro n gs m f c v h kd
    induction kd with
    | zero => exact fun _ => ⟨m, f, c, h⟩
    | succ kd ih =>
      intro hk
      obtain ⟨m, f, c, g⟩ := ih (by omega)
      by_cases q : ∃ u w, B kd u v w
      · obtain ⟨u, w, b⟩ := q
        exact ⟨_, _, _, DN_relax hB g b (fun u' w' b' => hfun kd u v w u' w' b b')⟩
      · exact ⟨m, f, c, DN_skip g (fun u w b => absurd ⟨u, w, b⟩ q)⟩
  have all : ∀ n, (∃ c, lc B o c) ∨ ∃ gs m f c, DO B o n gs m f c := by
    intro n
    induction n with
    | zero => exact Or.inr ⟨fun _ => 0, 1, fun _ => o, fun u => if u = o then 0 else FARn, DO_begin ho rfl (if_pos rfl) (fun u _ q => if_neg q)⟩
    | succ n ih =>
      rcases ih with q | ⟨gs, m, f, c, D⟩
      · exact Or.inl q
      · by_cases e : m = 0
        · subst e
          exact Or.inl ⟨c, DO_end hB D⟩
        · obtain ⟨j, h1, h2⟩ := min_ex (fun i => c (f i)) m (by omega)
          obtain ⟨m', f', c', g⟩ := step _ _ _ _ _ _ (DO_take D h1 h2) 8 (Nat.le_refl _)
          exact Or.inr ⟨_, _, _, _, DN_end hB g⟩
  rcases all 577 with q | ⟨gs, m, f, c, D⟩
  · exact q
  · have := DJ_room D.1
    omega
theorem B_to_fun {W : WS} (hw : wOk W) : ∀ k u v w u' w', B_to W.H W.R W.Z W.s k u v w → B_to W.H W.R W.Z W.s k u' v w' → u' = u ∧ w' = w := by
  intro k u v w u' w' b b'
  have e1 := (stW_wt hw.g b).1
  have e2 := (stW_wt hw.g b').1
  have q1 := nb_opp b.2.1 b.1 b.2.2.1.1
  have q2 := nb_opp b'.2.1 b'.1 b'.2.2.1.1
  rw [b.2.2.2.1] at q1
  rw [b'.2.2.2.1] at q2
  have e : u' = u := q2.2.symm.trans q1.2
  subst e
  exact ⟨rfl, e2.trans e1.symm⟩
theorem B_fr_fun {W : WS} (hw : wOk W) : ∀ k u v w u' w', B_fr W.H W.R W.Z W.s k u v w → B_fr W.H W.R W.Z W.s k u' v w' → u' = u ∧ w' = w := by
  intro k u v w u' w' b b'
  have e1 := (stW_wt hw.g b).1
  have e2 := (stW_wt hw.g b').1
  exact ⟨b'.2.2.2.1.symm.trans b.2.2.2.1, e2.trans e1.symm⟩
theorem C_to_lc {W : WS} (hw : wOk W) {o : Nat} (ho : o < 576) : lc (B_to W.H W.R W.Z W.s) o (C_to W o) := (lc_ex (gB_to hw.g) (B_to_fun hw) ho).elim fun _ L => theC_lc (gB_to hw.g) L
theorem C_fr_lc {W : WS} (hw : wOk W) {o : Nat} (ho : o < 576) : lc (B_fr W.H W.R W.Z W.s) o (C_fr W o) := (lc_ex (gB_fr hw.g) (B_fr_fun hw) ho).elim fun _ L => theC_lc (gB_fr hw.g) L
/-! all that activities do -/
def i_fmod (a b : Int32) : Int32 := if 0 ≤ (a ^^^ b) then a - a / b * b else if a - a / b * b = 0 then a - a / b * b else a - a / b * b + b
def useA (W : WS) (size use : Int32) (n : Nat) (P : PH) (D : DT) : Int32 × PH := if -40 ≤ P.tp then (if D.n < 133 then (if unA D + size ≤ W.mem then passN W.cap use true n P else (4, P)) else (4, P)) else (3, P)
noncomputable def seeA (W : WS) (x y x' y' : Int32) : Bool := @decide (sp_see W.H x y x' y') (Classical.propDecidable _)
theorem seeA_t {W : WS} {x y x' y' : Int32} : seeA W x y x' y' = true ↔ sp_see W.H x y x' y' := by unfold seeA; exact @decide_eq_true_iff _ (Classical.propDecidable _)
noncomputable def takeI (W : WS) (P : PH) (D : DT) (a pr : Int32) : Int32 × PH × DT :=
  if 6 < i_dist P.x P.y (W.tx a.toNatClampNeg) (W.ty a.toNatClampNeg) then (5, P, D) else if seeA W P.x P.y (W.tx a.toNatClampNeg) (W.ty a.toNatClampNeg) = true then
    (if (useA W 40 3 6 P D).1 = 0 then (0, (useA W 40 3 6 P D).2, keepA D a 40 pr (nI (sp_oct (i_cmp P.x (W.tx a.toNatClampNeg)) (i_cmp P.y (W.ty a.toNatClampNeg))))) else ((useA W 40 3 6 P D).1, (useA W 40 3 6 P D).2, D)) else (5, P, D)
def takeT (W : WS) (P : PH) (D : DT) (a pr : Int32) : Int32 × PH × DT :=
  if i_dist P.x P.y (W.tx a.toNatClampNeg) (W.ty a.toNatClampNeg) ≤ 1 then
    (if (useA W 90 5 25 P D).1 = 0 then (0, (useA W 90 5 25 P D).2, keepA D a 90 pr 9) else ((useA W 90 5 25 P D).1, (useA W 90 5 25 P D).2, D)) else (5, P, D)
def transF (W : WS) : Nat → PH → DT → Int32 × PH × DT
  | 0, P, D => (0, P, D)
  | n + 1, P, D => if D.n = 0 then (0, P, D) else
      (if (passN W.cap 4 true 1 P).1 = 0 then transF W n (passN W.cap 4 true 1 P).2 (sendF 133 (rateA W (mnt P.t)) D) else ((passN W.cap 4 true 1 P).1, (passN W.cap 4 true 1 P).2, sendF 133 (rateA W (mnt P.t)) D))
def transA (W : WS) (a : Int32) (P : PH) (D : DT) : Int32 × PH × DT := if rateA W (mnt P.t) = 0 then (6, P, D) else transF W a.toNatClampNeg P D
def restA (W : WS) (a : Int32) (aw : Bool) (P : PH) : Int32 × PH := passN W.cap 0 aw (1 + i_fmod (a - P.t - 1) 1440).toNatClampNeg P
def clnA (P : PH) : PH := PH.mk P.t P.x P.y P.b P.tp (if P.cl + 10 < 100 then P.cl + 10 else 100) P.ht
def cleanA (W : WS) (P : PH) : Int32 × PH := if (passN W.cap 6 true 15 P).1 = 0 then (0, clnA (passN W.cap 6 true 15 P).2) else passN W.cap 6 true 15 P
def heatA (a : Int32) (P : PH) : PH := PH.mk P.t P.x P.y P.b P.tp P.cl (if a = 1 then 1 else 0)
noncomputable def actA (W : WS) (k a b : Int32) (P : PH) (D : DT) : Int32 × PH × DT :=
  if k = 0 then ((driveA W (C_to W (ix a b)) a b 576 P).1, (driveA W (C_to W (ix a b)) a b 576 P).2, D)
  else if k = 1 then takeI W P D a b else if k = 2 then takeT W P D a b else if k = 3 then transA W a P D
  else if k = 4 then ((restA W a true P).1, (restA W a true P).2, D) else if k = 5 then ((restA W a false P).1, (restA W a false P).2, D)
  else if k = 6 then (0, heatA a P, D) else ((cleanA W P).1, (cleanA W P).2, D)
noncomputable def perfA (W : WS) (k a b : Int32) (P : PH) (D : DT) : Int32 × PH × DT := if (actA W k a b P D).1 = 0 then actA W k a b P D else ((actA W k a b P D).1, P, D)
def actOk (W : WS) (k a b : Int32) : Prop := (k = 0 ∧ inP a b) ∨ ((k = 1 ∨ k = 2) ∧ isT W.tn a ∧ 1 ≤ b.toInt ∧ b.toInt ≤ 9) ∨ (k = 3 ∧ 1 ≤ a.toInt ∧ a.toInt ≤ 600 ∧ b = 0) ∨ ((k = 4 ∨ k = 5) ∧ 0 ≤ a.toInt ∧ a.toInt < 1440 ∧ b = 0) ∨ (k = 6 ∧ (a = 0 ∨ a = 1) ∧ b = 0) ∨ (k = 7 ∧ a = 0 ∧ b = 0)
/-! what holds of a rover at all times -/
def pOk (P : PH) : Prop := inP P.x P.y ∧ 0 ≤ P.t.toInt ∧ P.t.toInt ≤ 14400 ∧ (P.ht = 0 ∨ P.ht = 1)
def lS (f : Nat → Int32) : Nat → Int
  | 0 => 0
  | i + 1 => lS f i + (f i).toInt
def dOk (D : DT) : Prop := dT D ∧ gG D ∧ (∀ k, k < 12 → D.oc k &&& -513 = D.oc k) ∧ (∀ k, k < 12 → D.tc k = 0 ∨ D.tc k = 1) ∧
  (∀ i, i < D.n → 1 ≤ (D.pl i).toInt ∧ (D.pl i).toInt ≤ 90) ∧ (∀ i, i < D.n → 1 ≤ (D.pp i).toInt ∧ (D.pp i).toInt ≤ 9) ∧
  (∀ i j, i < D.n → (D.pl i).toInt < 40 → j < i → D.pp j ≠ D.pp i) ∧ lS D.pl D.n ≤ 5000
def rOk (P : PH) (D : DT) : Prop := pOk P ∧ dOk D
theorem passA_ok {cap use : Int32} {aw : Bool} {P : PH} (h : pOk P) : pOk (passA cap use aw P).2 := by
  obtain ⟨h1, h2, h3, h4⟩ := h
  unfold passA
  by_cases q : P.t < 14400
  · rw [if_pos q]
    split
    · refine ⟨h1, ?_, ?_, h4⟩
      · show 0 ≤ (P.t + 1).toInt
        rw [lt_i, L_14400] at q
        rw [fb_addI (by rw [L_1]; omega) (by rw [L_1]; omega), L_1]; omega
      · show (P.t + 1).toInt ≤ 14400
        rw [lt_i, L_14400] at q
        rw [fb_addI (by rw [L_1]; omega) (by rw [L_1]; omega), L_1]; omega
    · exact ⟨h1, h2, h3, h4⟩
  · rw [if_neg q]
    exact ⟨h1, h2, h3, h4⟩
theorem passN_ok {cap use : Int32} {aw : Bool} : ∀ (n : Nat) {P : PH}, pOk P → pOk (passN cap use aw n P).2 := by
  intro n
  induction n with
  | zero => exact fun h => h
  | succ n ih =>
    intro P h
    unfold passN
    split
    · exact ih (passA_ok h)
    · exact passA_ok h
theorem stepA_ok {W : WS} {p k : Nat} {P : PH} (h : pOk P) (h0 : (stepA W p k P).1 = 0) (hn : inP (P.x + q_dx k) (P.y + q_dy k)) : pOk (stepA W p k P).2 := by
  have sx := stepA_xy h0
  have key : ∀ P' : PH, pOk P' → (mvA P' k).x = P.x + q_dx k → (mvA P' k).y = P.y + q_dy k → pOk (mvA P' k) := fun P' g e1 e2 => ⟨by rw [e1, e2]; exact hn, g.2.1, g.2.2.1, g.2.2.2⟩
  unfold stepA at h0 sx ⊢
  by_cases h1 : -50 ≤ P.tp
  · rw [if_pos h1] at h0 sx ⊢
    by_cases h2 : (passN W.cap 0 true (wt W.H W.R p k - 1) P).1 = 0
    · rw [if_pos h2] at h0 sx ⊢
      exact key _ (passN_ok 1 (passN_ok _ h)) sx.1 sx.2
    · rw [if_neg h2] at h0
      exact absurd h0 h2
  · rw [if_neg h1] at h0
    exact absurd h0 (by decide : ¬ (3 : Int32) = 0)
theorem goal_0 {W : WS} (hw : wOk W) {x y gx gy : Int32} (hp : inP x y) (hg : inP gx gy) (ne : ¬ (x = gx ∧ y = gy)) : C_to W (ix gx gy) (ix x y) ≠ 0 := fun q => ne (by
  have q2 := lc_0 (gB_to hw.g) (C_to_lc hw (ix_lt hg)) (ix_lt hp) q
  have q3 := p_ix hp
  have q4 := p_ix hg
  rw [q2] at q3
  exact ⟨q3.1.symm.trans q4.1, q3.2.symm.trans q4.2⟩)
theorem driveA_ok {W : WS} (hw : wOk W) {gx gy : Int32} (hg : inP gx gy) : ∀ (n : Nat) (P : PH), pOk P → (driveA W (C_to W (ix gx gy)) gx gy n P).1 = 0 → pOk (driveA W (C_to W (ix gx gy)) gx gy n P).2 := by
  intro n
  induction n with
  | zero => exact fun P h _ => h
  | succ n ih =>
    intro P h h0
    unfold driveA at h0 ⊢
    by_cases e : P.x = gx ∧ P.y = gy
    · rw [if_pos e]; exact h
    rw [if_neg e] at h0 ⊢
    by_cases hf : C_to W (ix gx gy) (ix P.x P.y) < FARn
    · rw [if_pos hf] at h0 ⊢
      have dk := dir_ok hw.g (C_to_lc hw (ix_lt hg)) (ix_lt h.1) hf (goal_0 hw h.1 hg e)
      have nn := dk.2.1.1
      rw [(p_ix h.1).1, (p_ix h.1).2] at nn
      split at h0
      · rename_i q
        rw [if_pos q]
        exact ih _ (stepA_ok h q nn) h0
      · rename_i q
        exact absurd h0 q
    · rw [if_neg hf] at h0
      exact absurd h0 (by decide : ¬ (1 : Int32) = 0)
