/-! one step looked at: the cost of u may become less -/
theorem updN_at {f : Nat → Nat} {k v : Nat} : updN f k v k = v := by simp [updN]
theorem updN_ne {f : Nat → Nat} {k v j : Nat} (h : j ≠ k) : updN f k v j = f j := by simp [updN, h]
theorem DN_relax {B : Nat → Nat → Nat → Nat → Prop} (hB : gB B) {o n m v kd u w : Nat} {gs f c : Nat → Nat} (h : DN B o n gs m f c v kd) (b : B kd u v w) (hfun : ∀ u' w', B kd u' v w' → u' = u ∧ w' = w) :
    DN B o n gs (if c u < FARn then m else m + 1) (if c u < FARn then f else updN f m u) (updN c u (min (c u) (c v + w))) v (kd + 1) := by
  have hb := hB kd u v w b
  obtain ⟨⟨h1, h2, h3, h4, h5, h6, h7, h8, h9, h10⟩, g2, g3, g4, g5⟩ := id h
  have sm : ∀ x, x < 576 → c x < FARn → c x ≤ 46656 := fun x hx hc => DJ_small hB h.1 hx hc
  have hv : c v < FARn := (h8 v hb.2.2.1).mpr (Or.inl ⟨n, by omega, g2⟩)
  have hvs := sm v hb.2.2.1 hv
  have gv : ∀ i, i < n + 1 → c (gs i) ≤ c v := fun i hi => by
    by_cases e : i = n
    · subst e; rw [g2]; exact Nat.le_refl _
    · exact g3 i (by omega)
  have far : FARn = 1000000 := rfl
  by_cases hu : c u < FARn
  · rw [if_pos hu, if_pos hu]
    by_cases le : c u ≤ c v + w
    · have e : updN c u (min (c u) (c v + w)) = c := by
        funext j
        by_cases q : j = u
        · subst q; rw [updN_at]; omega
        · rw [updN_ne q]
      rw [e]
      exact DN_skip h (fun u' w' b' => by obtain ⟨rfl, rfl⟩ := hfun u' w' b'; exact le)
    · have e : min (c u) (c v + w) = c v + w := by omega
      rw [e]
      have notg : ∀ i, i < n + 1 → gs i ≠ u := fun i hi q => by
        have := gv i hi
        rw [q] at this
        omega
      have cg : ∀ i, i < n + 1 → updN c u (c v + w) (gs i) = c (gs i) := fun i hi => updN_ne (notg i hi)
      have cle : ∀ x, updN c u (c v + w) x ≤ c x := fun x => by
        by_cases q : x = u
        · subst q; rw [updN_at]; omega
        · rw [updN_ne q]; exact Nat.le_refl _
      have nuv : u ≠ v := fun q => by
        have := notg n (by omega)
        rw [g2] at this
        exact this q.symm
      have cv' : updN c u (c v + w) v = c v := updN_ne (fun q => nuv q.symm)
      refine ⟨⟨h1, ?_, h3, h4, h5, h6, h7, fun x hx => ?_, fun x hx q1 q2 => ?_, fun i j hi hj => ?_⟩, g2, fun i hi => ?_, fun i k x w' hi b' => ?_, fun k x w' hk b' => ?_⟩
      · have : o ≠ u := fun q => by rw [← q, h2] at le; omega
        rw [updN_ne this]; exact h2
      · rw [← h8 x hx]
        by_cases q : x = u
        · subst q; rw [updN_at]; constructor
          · exact fun _ => hu
          · intro _; omega
        · rw [updN_ne q]
      · by_cases q : x = u
        · subst q
          refine ⟨n, kd, w, by omega, by rw [g2]; exact b, ?_⟩
          rw [updN_at, cg n (by omega), g2]
        · rw [updN_ne q] at q1 ⊢
          obtain ⟨i, k, w', r1, r2, r3⟩ := h9 x hx q1 q2
          exact ⟨i, k, w', r1, r2, by rw [cg i r1]; exact r3⟩
      · rw [cg i hi]
        by_cases q : f j = u
        · rw [q, updN_at]
          have := gv i hi
          omega
        · rw [updN_ne q]; exact h10 i j hi hj
      · rw [cg i (by omega), cv']; exact g3 i hi
      · rw [cg i (by omega)]
        exact Nat.le_trans (cle x) (g4 i k x w' hi b')
      · rw [cv']
        by_cases q : k = kd
        · subst q
          obtain ⟨rfl, rfl⟩ := hfun x w' b'
          rw [updN_at]; exact Nat.le_refl _
        · exact Nat.le_trans (cle x) (g5 k x w' (by omega) b')
  · rw [if_neg hu, if_neg hu]
    have e : min (c u) (c v + w) = c v + w := by omega
    rw [e]
    have notg : ∀ i, i < n + 1 → gs i ≠ u := fun i hi q => hu ((h8 u hb.2.1).mpr (Or.inl ⟨i, hi, q⟩))
    have notf : ∀ j, j < m → f j ≠ u := fun j hj q => hu ((h8 u hb.2.1).mpr (Or.inr ⟨j, hj, q⟩))
    have cg : ∀ i, i < n + 1 → updN c u (c v + w) (gs i) = c (gs i) := fun i hi => updN_ne (notg i hi)
    have cle : ∀ x, updN c u (c v + w) x ≤ c x := fun x => by
      by_cases q : x = u
      · subst q; rw [updN_at]; omega
      · rw [updN_ne q]; exact Nat.le_refl _
    have nuv : u ≠ v := fun q => by rw [q] at hu; exact hu hv
    have cv' : updN c u (c v + w) v = c v := updN_ne (fun q => nuv q.symm)
    have fo : ∀ j, j < m → updN f m u j = f j := fun j hj => updN_ne (by omega)
    refine ⟨⟨h1, ?_, h3, fun j hj => ?_, h5, fun i j hi hj q => ?_, fun i j hi hj => ?_, fun x hx => ?_, fun x hx q1 q2 => ?_, fun i j hi hj => ?_⟩, g2, fun i hi => ?_, fun i k x w' hi b' => ?_, fun k x w' hk b' => ?_⟩
    · have : o ≠ u := fun q => by rw [← q, h2] at hu; omega
      rw [updN_ne this]; exact h2
    · by_cases q : j = m
      · subst q; rw [updN_at]; exact hb.2.1
      · rw [updN_ne q]; exact h4 j (by omega)
    · by_cases qi : i = m
      · by_cases qj : j = m
        · omega
        · rw [qi, updN_at, fo j (by omega)] at q
          exact absurd q.symm (notf j (by omega))
      · by_cases qj : j = m
        · rw [qj, updN_at, fo i (by omega)] at q
          exact absurd q (notf i (by omega))
        · rw [fo i (by omega), fo j (by omega)] at q
          exact h6 i j (by omega) (by omega) q
    · by_cases qj : j = m
      · subst qj; rw [updN_at]; exact notg i hi
      · rw [fo j (by omega)]; exact h7 i j hi (by omega)
    · by_cases q : x = u
      · subst q
        rw [updN_at]
        exact ⟨fun _ => Or.inr ⟨m, by omega, updN_at⟩, fun _ => by omega⟩
      · rw [updN_ne q, h8 x hx]
        constructor
        · rintro (r | ⟨j, r1, r2⟩)
          · exact Or.inl r
          · exact Or.inr ⟨j, by omega, by rw [fo j r1]; exact r2⟩
        · rintro (r | ⟨j, r1, r2⟩)
          · exact Or.inl r
          · by_cases qj : j = m
            · subst qj
              rw [updN_at] at r2
              exact absurd r2.symm q
            · rw [updN_ne qj] at r2
              exact Or.inr ⟨j, by omega, r2⟩
    · by_cases q : x = u
      · subst q
        refine ⟨n, kd, w, by omega, by rw [g2]; exact b, ?_⟩
        rw [updN_at, cg n (by omega), g2]
      · rw [updN_ne q] at q1 ⊢
        obtain ⟨i, k, w', r1, r2, r3⟩ := h9 x hx q1 q2
        exact ⟨i, k, w', r1, r2, by rw [cg i r1]; exact r3⟩
    · rw [cg i hi]
      by_cases q : j = m
      · subst q
        rw [updN_at, updN_at]
        have := gv i hi
        omega
      · rw [fo j (by omega), updN_ne (notf j (by omega))]
        exact h10 i j hi (by omega)
    · rw [cg i (by omega), cv']; exact g3 i hi
    · rw [cg i (by omega)]
      exact Nat.le_trans (cle x) (g4 i k x w' hi b')
    · rw [cv']
      by_cases q : k = kd
      · subst q
        obtain ⟨rfl, rfl⟩ := hfun x w' b'
        rw [updN_at]; exact Nat.le_refl _
      · exact Nat.le_trans (cle x) (g5 k x w' (by omega) b')
/-! the costs, as a function -/
noncomputable def theC (B : Nat → Nat → Nat → Nat → Prop) (o : Nat) : Nat → Nat := @dite _ (∃ c, lc B o c) (Classical.propDecidable _) (fun h => fun u => min (Classical.choose h u) FARn) (fun _ => fun _ => FARn)
theorem theC_le {B : Nat → Nat → Nat → Nat → Prop} {o u : Nat} : theC B o u ≤ FARn := by
  unfold theC
  by_cases h : ∃ c, lc B o c
  · rw [dif_pos h]; omega
  · rw [dif_neg h]; exact Nat.le_refl _
theorem theC_is {B : Nat → Nat → Nat → Nat → Prop} (hB : gB B) {o : Nat} {c : Nat → Nat} (h : lc B o c) {u : Nat} (hu : u < 576) : theC B o u = min (c u) FARn := by
  unfold theC
  rw [dif_pos ⟨c, h⟩]
  have hc := Classical.choose_spec (⟨c, h⟩ : ∃ c, lc B o c)
  have e := lc_one hB hc h hu
  by_cases q : c u < FARn
  · have := e.2 (e.1.mpr q)
    omega
  · have : ¬ Classical.choose (⟨c, h⟩ : ∃ c, lc B o c) u < FARn := fun r => q (e.1.mp r)
    omega
theorem theC_lc {B : Nat → Nat → Nat → Nat → Prop} (hB : gB B) {o : Nat} {c : Nat → Nat} (h : lc B o c) : lc B o (theC B o) := by
  have e : ∀ {u : Nat}, u < 576 → theC B o u = min (c u) FARn := fun hu => theC_is hB h hu
  have far : FARn = 1000000 := rfl
  obtain ⟨h1, h2, h3, h4⟩ := h
  refine ⟨h1, by rw [e h1]; omega, fun k u v w b hv => ?_, fun u hu hc ne => ?_⟩
  · have hb := hB k u v w b
    rw [e hb.2.2.1] at hv ⊢
    rw [e hb.2.1]
    have := h3 k u v w b (by omega)
    omega
  · rw [e hu] at hc
    obtain ⟨k, v, w, b, q1, q2, q3⟩ := h4 u hu (by omega) ne
    refine ⟨k, v, w, b, q1, ?_, ?_⟩
    · rw [e q1]; omega
    · rw [e q1, e hu]; omega
theorem lc_small {B : Nat → Nat → Nat → Nat → Prop} (hB : gB B) {o : Nat} {c : Nat → Nat} (h : lc B o c) {u : Nat} (hu : u < 576) (hc : c u < FARn) : c u ≤ 46656 := cost_small' hB h.2.1 h.2.2.2 hu hc
theorem lc_0 {B : Nat → Nat → Nat → Nat → Prop} (hB : gB B) {o : Nat} {c : Nat → Nat} (h : lc B o c) {u : Nat} (hu : u < 576) (hc : c u = 0) : u = o := by
  by_cases e : u = o
  · exact e
  · obtain ⟨k, v, w, b, q1, q2, q3⟩ := h.2.2.2 u hu (by rw [hc]; decide) e
    have := (hB k u v w b).2.2.2.1
    omega
/-! steps on the ground -/
def gOk (H R : Nat → Int32) : Prop := hOk H ∧ ∀ p, p < 576 → 0 ≤ (R p).toInt ∧ (R p).toInt ≤ 3
def stW (H R Z : Nat → Int32) (s : Int32) (u k v w : Nat) : Prop := k < 8 ∧ u < 576 ∧ sp_can H Z s (px u) (py u) k ∧ nb u k = v ∧ sp_min H R (px u) (py u) k = nI w ∧ w < 2 ^ 31
def B_to (H R Z : Nat → Int32) (s : Int32) : Nat → Nat → Nat → Nat → Prop := fun k u v w => stW H R Z s u k v w
def B_fr (H R Z : Nat → Int32) (s : Int32) : Nat → Nat → Nat → Nat → Prop := fun k u v w => stW H R Z s v k u w
theorem min_ok {H R Z : Nat → Int32} {s : Int32} (hg : gOk H R) {p k : Nat} (hp : p < 576) (hc : sp_can H Z s (px p) (py p) k) : 4 ≤ (sp_min H R (px p) (py p) k).toInt ∧ (sp_min H R (px p) (py p) k).toInt ≤ 81 := by
  have hn := hc.1
  have hl : nb p k < 576 := nb_lt hn
  have r := hg.2 _ hl
  have a := hg.1 _ hl
  have b := hg.1 p hp
  unfold sp_min sp_clb
  rw [ix_p hp]
  change 4 ≤ ((if k % 2 = 0 then 2 else 3) * (2 + R (nb p k)) + i_max 0 (H (nb p k) - H p) / 3).toInt ∧ ((if k % 2 = 0 then 2 else 3) * (2 + R (nb p k)) + i_max 0 (H (nb p k) - H p) / 3).toInt ≤ 81
  have e1 : (2 + R (nb p k)).toInt = 2 + (R (nb p k)).toInt := by
    have := fb_addI (x := (2 : Int32)) (y := R (nb p k)) (by rw [L_2]; omega) (by rw [L_2]; omega)
    rw [L_2] at this; exact this
  have e2 : (H (nb p k) - H p).toInt = (H (nb p k)).toInt - (H p).toInt := fb_subI (by omega) (by omega)
  have e3 : (i_max 0 (H (nb p k) - H p)).toInt = max 0 ((H (nb p k)).toInt - (H p).toInt) := by rw [i_max_t, e2, L_0]; split <;> omega
  have e4 : (i_max 0 (H (nb p k) - H p) / 3).toInt = (max 0 ((H (nb p k)).toInt - (H p).toInt)).tdiv 3 := by
    have := i_div (a := i_max 0 (H (nb p k) - H p)) (b := 3) (by rw [L_3]; omega)
    rw [this, e3, L_3]
  have d1 : (max 0 ((H (nb p k)).toInt - (H p).toInt)).tdiv 3 = (max 0 ((H (nb p k)).toInt - (H p).toInt)) / 3 := Int.tdiv_eq_ediv_of_nonneg (by omega)
  by_cases hk : k % 2 = 0
  · rw [if_pos hk]
    have m1 : ((2 : Int32) * (2 + R (nb p k))).toInt = 2 * (2 + (R (nb p k)).toInt) := by
      have := fb_mulI (x := (2 : Int32)) (y := 2 + R (nb p k)) (by rw [L_2, e1]; omega) (by rw [L_2, e1]; omega)
      rw [L_2, e1] at this; exact this
    rw [fb_addI (by rw [m1, e4, d1]; omega) (by rw [m1, e4, d1]; omega), m1, e4, d1]
    omega
  · rw [if_neg hk]
    have m1 : ((3 : Int32) * (2 + R (nb p k))).toInt = 3 * (2 + (R (nb p k)).toInt) := by
      have := fb_mulI (x := (3 : Int32)) (y := 2 + R (nb p k)) (by rw [L_3, e1]; omega) (by rw [L_3, e1]; omega)
      rw [L_3, e1] at this; exact this
    rw [fb_addI (by rw [m1, e4, d1]; omega) (by rw [m1, e4, d1]; omega), m1, e4, d1]
    omega
/-- the minutes of a step, as a number -/
def wt (H R : Nat → Int32) (p k : Nat) : Nat := (sp_min H R (px p) (py p) k).toNatClampNeg
theorem wt_ok {H R Z : Nat → Int32} {s : Int32} (hg : gOk H R) {p k : Nat} (hp : p < 576) (hc : sp_can H Z s (px p) (py p) k) : sp_min H R (px p) (py p) k = nI (wt H R p k) ∧ 4 ≤ wt H R p k ∧ wt H R p k ≤ 81 := by
  have h := min_ok hg hp hc
  have e : wt H R p k = (sp_min H R (px p) (py p) k).toInt.toNat := rfl
  exact ⟨nI_ofI (by omega), by omega, by omega⟩
theorem stW_wt {H R Z : Nat → Int32} {s : Int32} (hg : gOk H R) {u k v w : Nat} (h : stW H R Z s u k v w) : w = wt H R u k ∧ 4 ≤ w ∧ w ≤ 81 := by
  obtain ⟨h1, h2, h3, h4, h5, h6⟩ := h
  have q := wt_ok hg h2 h3
  have e : w = wt H R u k := by
    rw [q.1] at h5
    have := congrArg Int32.toNatClampNeg h5
    rw [nI_clamp (by omega), nI_clamp h6] at this
    exact this.symm
  exact ⟨e, by omega, by omega⟩
theorem stW_of {H R Z : Nat → Int32} {s : Int32} (hg : gOk H R) {u k : Nat} (hk : k < 8) (hu : u < 576) (hc : sp_can H Z s (px u) (py u) k) : stW H R Z s u k (nb u k) (wt H R u k) := by
  have q := wt_ok hg hu hc
  exact ⟨hk, hu, hc, rfl, q.1, by omega⟩
theorem gB_to {H R Z : Nat → Int32} {s : Int32} (hg : gOk H R) : gB (B_to H R Z s) := fun k u v w b => by
  have q := stW_wt hg b
  obtain ⟨h1, h2, h3, h4, h5, h6⟩ := b
  exact ⟨h1, h2, by rw [← h4]; exact nb_lt h3.1, q.2.1, q.2.2⟩
theorem gB_fr {H R Z : Nat → Int32} {s : Int32} (hg : gOk H R) : gB (B_fr H R Z s) := fun k u v w b => by
  have q := stW_wt hg b
  obtain ⟨h1, h2, h3, h4, h5, h6⟩ := b
  exact ⟨h1, by rw [← h4]; exact nb_lt h3.1, h2, q.2.1, q.2.2⟩
/-! the other way round -/
def opp (k : Nat) : Nat := (k + 4) % 8
theorem opp_d {k : Nat} (hk : k < 8) : q_dx (opp k) = - q_dx k ∧ q_dy (opp k) = - q_dy k := by
  match k, hk with
  | 0, _ => decide
  | 1, _ => decide
  | 2, _ => decide
  | 3, _ => decide
  | 4, _ => decide
  | 5, _ => decide
  | 6, _ => decide
  | 7, _ => decide
theorem nb_opp {p k : Nat} (hp : p < 576) (hk : k < 8) (hn : nP p k) : nP (nb p k) (opp k) ∧ nb (nb p k) (opp k) = p := by
  have e := p_ix hn
  have o := opp_d hk
  have q1 : px (nb p k) + q_dx (opp k) = px p := by
    unfold nb
    rw [e.1, o.1]; grind
  have q2 : py (nb p k) + q_dy (opp k) = py p := by
    unfold nb
    rw [e.2, o.2]; grind
  unfold nP
  refine ⟨by rw [q1, q2]; exact inP_p hp, ?_⟩
  show ix (px (nb p k) + q_dx (opp k)) (py (nb p k) + q_dy (opp k)) = p
  rw [q1, q2, ix_p hp]
theorem opp_lt {k : Nat} : opp k < 8 := by unfold opp; omega
theorem opp_opp {k : Nat} (hk : k < 8) : opp (opp k) = k := by unfold opp; omega
