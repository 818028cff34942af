/-! least costs over steps: B k u v w: by the direction k, u has the cost of v and w more -/
def FARn : Nat := 1000000
/-- costs that are as the document says: 0 at the origin; no step makes one less; each but the origin's comes by a step -/
def lc (B : Nat → Nat → Nat → Nat → Prop) (o : Nat) (c : Nat → Nat) : Prop := o < 576 ∧ c o = 0 ∧
  (∀ k u v w, B k u v w → c v < FARn → c u ≤ c v + w ∧ c u < FARn) ∧ ∀ u, u < 576 → c u < FARn → u ≠ o → ∃ k v w, B k u v w ∧ v < 576 ∧ c v < FARn ∧ c u = c v + w
/-- what is asked of the steps: places, weights 4 to 81 -/
def gB (B : Nat → Nat → Nat → Nat → Prop) : Prop := ∀ k u v w, B k u v w → k < 8 ∧ u < 576 ∧ v < 576 ∧ 4 ≤ w ∧ w ≤ 81
theorem lc_le {B : Nat → Nat → Nat → Nat → Prop} (hB : gB B) {o : Nat} {c c' : Nat → Nat} (h : lc B o c) (h' : lc B o c') : ∀ (n u : Nat), u < 576 → c u ≤ n → c u < FARn → c' u ≤ c u ∧ c' u < FARn := by
  intro n
  induction n with
  | zero =>
    intro u hu h1 h2
    by_cases e : u = o
    · subst e
      have := h'.2.1
      exact ⟨by omega, by unfold FARn at *; omega⟩
    · obtain ⟨k, v, w, b, -, -, e2⟩ := h.2.2.2 u hu h2 e
      have := (hB k u v w b).2.2.2.1
      omega
  | succ n ih =>
    intro u hu h1 h2
    by_cases e : u = o
    · subst e
      have := h'.2.1
      exact ⟨by omega, by unfold FARn at *; omega⟩
    · obtain ⟨k, v, w, b, q1, q2, e2⟩ := h.2.2.2 u hu h2 e
      have hw := (hB k u v w b).2.2.2.1
      have i1 := ih v q1 (by omega) q2
      have i2 := h'.2.2.1 k u v w b i1.2
      exact ⟨by omega, i2.2⟩
/-- they are the only ones -/
theorem lc_one {B : Nat → Nat → Nat → Nat → Prop} (hB : gB B) {o : Nat} {c c' : Nat → Nat} (h : lc B o c) (h' : lc B o c') {u : Nat} (hu : u < 576) : (c u < FARn ↔ c' u < FARn) ∧ (c u < FARn → c u = c' u) := by
  refine ⟨⟨fun q => (lc_le hB h h' _ u hu (Nat.le_refl _) q).2, fun q => (lc_le hB h' h _ u hu (Nat.le_refl _) q).2⟩, fun q => ?_⟩
  have h1 := lc_le hB h h' _ u hu (Nat.le_refl _) q
  have h2 := lc_le hB h' h _ u hu (Nat.le_refl _) h1.2
  omega
/-- how many places are cheaper than t -/
def chp (c : Nat → Nat) (t : Nat) : Nat := fb_ct (fun u => decide (c u < t)) 576
theorem chp_lt {c : Nat → Nat} {v t : Nat} (hv : v < 576) (h : c v < t) : chp c (c v) + 1 ≤ chp c t := by
  have h1 := fb_ct_upd (fun u => decide (c u < c v)) true hv
  simp only [Nat.lt_irrefl, decide_false, if_true, Bool.false_eq_true, if_false, Nat.add_zero] at h1
  unfold chp
  rw [← h1]
  refine fb_ct_sub fun k hk q => ?_
  by_cases e : k = v
  · subst e; simpa using h
  · rw [if_neg e] at q
    simp at q ⊢
    omega
theorem chp_le (c : Nat → Nat) (t : Nat) : chp c t ≤ 576 := fb_ct_le _ _
/-- each finite cost but the origin's comes by a step from a place that is cheaper: so costs are small -/
theorem cost_small {B : Nat → Nat → Nat → Nat → Prop} (hB : gB B) {o : Nat} {c : Nat → Nat} (h0 : c o = 0) (h : ∀ u, u < 576 → c u < FARn → u ≠ o → ∃ k v w, B k u v w ∧ v < 576 ∧ c v < FARn ∧ c u = c v + w) : ∀ (n u : Nat), u < 576 → c u ≤ n → c u < FARn → c u ≤ 81 * chp c (c u) := by
  intro n
  induction n with
  | zero => intro u hu h1 h2; omega
  | succ n ih =>
    intro u hu h1 h2
    by_cases e : u = o
    · subst e; omega
    · obtain ⟨k, v, w, b, q1, q2, e2⟩ := h u hu h2 e
      have hw := (hB k u v w b).2.2.2
      have i1 := ih v q1 (by omega) q2
      have i2 := chp_lt (c := c) (t := c u) q1 (by omega)
      omega
theorem cost_small' {B : Nat → Nat → Nat → Nat → Prop} (hB : gB B) {o : Nat} {c : Nat → Nat} (h0 : c o = 0) (h : ∀ u, u < 576 → c u < FARn → u ≠ o → ∃ k v w, B k u v w ∧ v < 576 ∧ c v < FARn ∧ c u = c v + w) {u : Nat} (hu : u < 576) (hc : c u < FARn) : c u ≤ 46656 := by
  have h1 := cost_small hB h0 h _ u hu (Nat.le_refl _) hc
  have h2 := chp_le c (c u)
  omega
/-! Dijkstra: n places gs are settled, m places f are open -/
def inj (f : Nat → Nat) (n : Nat) : Prop := ∀ i j, i < n → j < n → f i = f j → i = j
def updN (f : Nat → Nat) (k v : Nat) : Nat → Nat := fun j => if j = k then v else f j
/-- what holds of settled and open places; DN: the last settled one's steps are looked at up to the direction k -/
def DJ (B : Nat → Nat → Nat → Nat → Prop) (o n : Nat) (gs : Nat → Nat) (m : Nat) (f : Nat → Nat) (c : Nat → Nat) : Prop :=
  o < 576 ∧ c o = 0 ∧ (∀ i, i < n → gs i < 576) ∧ (∀ j, j < m → f j < 576) ∧ inj gs n ∧ inj f m ∧ (∀ i j, i < n → j < m → gs i ≠ f j) ∧
  (∀ u, u < 576 → (c u < FARn ↔ (∃ i, i < n ∧ gs i = u) ∨ ∃ j, j < m ∧ f j = u)) ∧
  (∀ u, u < 576 → c u < FARn → u ≠ o → ∃ i k w, i < n ∧ B k u (gs i) w ∧ c u = c (gs i) + w) ∧
  (∀ i j, i < n → j < m → c (gs i) ≤ c (f j))
def DO (B : Nat → Nat → Nat → Nat → Prop) (o n : Nat) (gs : Nat → Nat) (m : Nat) (f : Nat → Nat) (c : Nat → Nat) : Prop := DJ B o n gs m f c ∧ ∀ i k u w, i < n → B k u (gs i) w → c u ≤ c (gs i) + w
def DN (B : Nat → Nat → Nat → Nat → Prop) (o n : Nat) (gs : Nat → Nat) (m : Nat) (f : Nat → Nat) (c : Nat → Nat) (v kd : Nat) : Prop := DJ B o (n + 1) gs m f c ∧ gs n = v ∧ (∀ i, i < n → c (gs i) ≤ c v) ∧
  (∀ i k u w, i < n → B k u (gs i) w → c u ≤ c (gs i) + w) ∧ ∀ k u w, k < kd → B k u v w → c u ≤ c v + w
theorem DJ_par {B : Nat → Nat → Nat → Nat → Prop} {o n m : Nat} {gs f c : Nat → Nat} (h : DJ B o n gs m f c) : ∀ u, u < 576 → c u < FARn → u ≠ o → ∃ k v w, B k u v w ∧ v < 576 ∧ c v < FARn ∧ c u = c v + w := by
  obtain ⟨h1, h2, h3, h4, h5, h6, h7, h8, h9, h10⟩ := h
  intro u hu hc e
  obtain ⟨i, k, w, q1, q2, q3⟩ := h9 u hu hc e
  exact ⟨k, gs i, w, q2, h3 i q1, (h8 _ (h3 i q1)).mpr (Or.inl ⟨i, q1, rfl⟩), q3⟩
theorem DJ_small {B : Nat → Nat → Nat → Nat → Prop} (hB : gB B) {o n m : Nat} {gs f c : Nat → Nat} (h : DJ B o n gs m f c) {u : Nat} (hu : u < 576) (hc : c u < FARn) : c u ≤ 46656 := cost_small' hB h.2.1 (DJ_par h) hu hc
theorem DJ_room {B : Nat → Nat → Nat → Nat → Prop} {o n m : Nat} {gs f c : Nat → Nat} (h : DJ B o n gs m f c) : n + m ≤ 576 := by
  obtain ⟨h1, h2, h3, h4, h5, h6, h7, h8, h9, h10⟩ := h
  refine fb_holes 576 (n + m) (fun i => if i < n then gs i else f (i - n)) (fun i hi => ?_) (fun i j hij hj e => ?_)
  · by_cases q : i < n
    · simp [q]; exact h3 i q
    · simp [q]; exact h4 _ (by omega)
  · change (if i < n then gs i else f (i - n)) = (if j < n then gs j else f (j - n)) at e
    by_cases q : i < n
    · by_cases q2 : j < n
      · rw [if_pos q, if_pos q2] at e
        have := h5 i j q q2 e
        omega
      · rw [if_pos q, if_neg q2] at e
        exact h7 i (j - n) q (by omega) e
    · rw [if_neg q, if_neg (by omega)] at e
      have := h6 (i - n) (j - n) (by omega) (by omega) e
      omega
/-- the first: only the origin, open -/
theorem DO_begin {B : Nat → Nat → Nat → Nat → Prop} {o : Nat} {gs f c : Nat → Nat} (ho : o < 576) (hf : f 0 = o) (h0 : c o = 0) (hc : ∀ u, u < 576 → u ≠ o → c u = FARn) : DO B o 0 gs 1 f c := by
  refine ⟨⟨ho, h0, fun i hi => absurd hi (by omega), fun j hj => by rw [show j = 0 by omega, hf]; exact ho, fun i j hi => absurd hi (by omega), fun i j hi hj _ => by omega, fun i j hi => absurd hi (by omega), fun u hu => ?_, fun u hu h1 h2 => absurd (hc u hu h2) (by unfold FARn at *; omega), fun i j hi => absurd hi (by omega)⟩, fun i k u w hi => absurd hi (by omega)⟩
  constructor
  · intro q
    by_cases e : u = o
    · exact Or.inr ⟨0, by omega, by rw [hf, e]⟩
    · have := hc u hu e
      unfold FARn at *
      omega
  · rintro (⟨i, hi, -⟩ | ⟨j, hj, e⟩)
    · omega
    · have : j = 0 := by omega
      subst this
      rw [← e, hf, h0]
      decide
/-- the cheapest open one is settled -/
theorem DO_take {B : Nat → Nat → Nat → Nat → Prop} {o n m j : Nat} {gs f c : Nat → Nat} (h : DO B o n gs m f c) (hj : j < m) (hmin : ∀ i, i < m → c (f j) ≤ c (f i)) : DN B o n (updN gs n (f j)) (m - 1) (updN f j (f (m - 1))) c (f j) 0 := by
  obtain ⟨⟨h1, h2, h3, h4, h5, h6, h7, h8, h9, h10⟩, h11⟩ := h
  have g1 : ∀ i, i < n → updN gs n (f j) i = gs i := fun i hi => by simp [updN, Nat.ne_of_lt hi]
  have g2 : updN gs n (f j) n = f j := by simp [updN]
  have ff : ∀ i, i < m - 1 → ∃ i', i' < m ∧ i' ≠ j ∧ updN f j (f (m - 1)) i = f i' ∧ (i' = i ∨ (i = j ∧ i' = m - 1)) := by
    intro i hi
    by_cases e : i = j
    · subst e
      exact ⟨m - 1, by omega, by omega, by simp [updN], Or.inr ⟨rfl, rfl⟩⟩
    · exact ⟨i, by omega, e, by simp [updN, e], Or.inl rfl⟩
  refine ⟨⟨h1, h2, fun i hi => ?_, fun i hi => ?_, fun a b ha hb e => ?_, fun a b ha hb e => ?_, fun a b ha hb e => ?_, fun u hu => ?_, fun u hu q1 q2 => ?_, fun a b ha hb => ?_⟩, g2, fun i hi => by rw [g1 i hi]; exact h10 i j hi hj, fun i k u w hi b => by rw [g1 i hi] at b ⊢; exact h11 i k u w hi b, fun k u w hk => absurd hk (by omega)⟩
  · by_cases e : i = n
    · subst e; rw [g2]; exact h4 j hj
    · rw [g1 i (by omega)]; exact h3 i (by omega)
  · obtain ⟨i', q1, -, q3, -⟩ := ff i hi
    rw [q3]; exact h4 i' q1
  · by_cases ea : a = n
    · by_cases eb : b = n
      · omega
      · subst ea
        rw [g2, g1 b (by omega)] at e
        exact absurd e.symm (h7 b j (by omega) hj)
    · by_cases eb : b = n
      · subst eb
        rw [g2, g1 a (by omega)] at e
        exact absurd e (h7 a j (by omega) hj)
      · rw [g1 a (by omega), g1 b (by omega)] at e
        exact h5 a b (by omega) (by omega) e
  · obtain ⟨a', p1, p2, p3, p4⟩ := ff a ha
    obtain ⟨b', r1, r2, r3, r4⟩ := ff b hb
    rw [p3, r3] at e
    have := h6 a' b' p1 r1 e
    omega
  · obtain ⟨b', r1, r2, r3, r4⟩ := ff b hb
    rw [r3] at e
    by_cases ea : a = n
    · subst ea
      rw [g2] at e
      have := h6 j b' hj r1 e
      omega
    · rw [g1 a (by omega)] at e
      exact h7 a b' (by omega) r1 e
  · rw [h8 u hu]
    constructor
    · rintro (⟨i, q1, q2⟩ | ⟨i, q1, q2⟩)
      · exact Or.inl ⟨i, by omega, by rw [g1 i q1]; exact q2⟩
      · by_cases e : i = j
        · subst e
          exact Or.inl ⟨n, by omega, by rw [g2]; exact q2⟩
        · by_cases e2 : i = m - 1
          · refine Or.inr ⟨j, by omega, ?_⟩
            subst e2
            simp [updN]; exact q2
          · exact Or.inr ⟨i, by omega, by simp [updN, e]; exact q2⟩
    · rintro (⟨i, q1, q2⟩ | ⟨i, q1, q2⟩)
      · by_cases e : i = n
        · subst e
          rw [g2] at q2
          exact Or.inr ⟨j, hj, q2⟩
        · rw [g1 i (by omega)] at q2
          exact Or.inl ⟨i, by omega, q2⟩
      · obtain ⟨i', r1, r2, r3, r4⟩ := ff i q1
        rw [r3] at q2
        exact Or.inr ⟨i', r1, q2⟩
  · obtain ⟨i, k, w, r1, r2, r3⟩ := h9 u hu q1 q2
    exact ⟨i, k, w, by omega, by rw [g1 i r1]; exact r2, by rw [g1 i r1]; exact r3⟩
  · obtain ⟨b', r1, r2, r3, r4⟩ := ff b hb
    rw [r3]
    by_cases ea : a = n
    · subst ea; rw [g2]; exact hmin b' r1
    · rw [g1 a (by omega)]; exact h10 a b' (by omega) r1
theorem DN_skip {B : Nat → Nat → Nat → Nat → Prop} {o n m v kd : Nat} {gs f c : Nat → Nat} (h : DN B o n gs m f c v kd) (hs : ∀ u w, B kd u v w → c u ≤ c v + w) : DN B o n gs m f c v (kd + 1) := by
  obtain ⟨h1, h2, h3, h4, h5⟩ := h
  refine ⟨h1, h2, h3, h4, fun k u w hk b => ?_⟩
  by_cases e : k = kd
  · subst e; exact hs u w b
  · exact h5 k u w (by omega) b
theorem DN_end {B : Nat → Nat → Nat → Nat → Prop} (hB : gB B) {o n m v : Nat} {gs f c : Nat → Nat} (h : DN B o n gs m f c v 8) : DO B o (n + 1) gs m f c := by
  obtain ⟨h1, h2, h3, h4, h5⟩ := h
  refine ⟨h1, fun i k u w hi b => ?_⟩
  by_cases e : i = n
  · subst e
    rw [h2] at b ⊢
    exact h5 k u w (hB k u v w b).1 b
  · exact h4 i k u w (by omega) b
/-- at the end nothing is open -/
theorem DO_end {B : Nat → Nat → Nat → Nat → Prop} (hB : gB B) {o n : Nat} {gs f c : Nat → Nat} (h : DO B o n gs 0 f c) : lc B o c := by
  have hp := DJ_par h.1
  refine ⟨h.1.1, h.1.2.1, fun k u v w b hv => ?_, hp⟩
  have hb := hB k u v w b
  rcases (h.1.2.2.2.2.2.2.2.1 v hb.2.2.1).mp hv with ⟨i, q1, q2⟩ | ⟨j, q1, -⟩
  · subst q2
    have := h.2 i k u w q1 b
    have h2 := cost_small' hB h.1.2.1 hp hb.2.2.1 hv
    exact ⟨this, by unfold FARn; omega⟩
  · omega
