/-! what holds of the data at all times -/
theorem lS_cong {f g : Nat → Int32} : ∀ n, (∀ i, i < n → f i = g i) → lS f n = lS g n := by
  intro n
  induction n with
  | zero => exact fun _ => rfl
  | succ n ih =>
    intro h
    unfold lS
    rw [ih (fun i hi => h i (by omega)), h n (by omega)]
theorem lS_upd {f : Nat → Int32} {p : Nat} {v : Int32} : ∀ n, p < n → lS (upd f p v) n = lS f n - (f p).toInt + v.toInt := by
  intro n
  induction n with
  | zero => intro h; omega
  | succ n ih =>
    intro h
    unfold lS
    by_cases e : p = n
    · subst e
      rw [lS_cong (g := f) p (fun i hi => pk_un (by omega)), pk_us]
      omega
    · rw [ih (by omega), pk_un (by omega)]
      omega
theorem lS_del {f : Nat → Int32} {p : Nat} : ∀ m, p ≤ m → lS (del f p) m + (f p).toInt = lS f (m + 1) := by
  have key : ∀ k, lS (del f p) (p + k) + (f p).toInt = lS f (p + k + 1) := by
    intro k
    induction k with
    | zero =>
      have : lS (del f p) p = lS f p := lS_cong p (fun i hi => by unfold del; rw [if_pos hi])
      show lS (del f p) p + _ = lS f p + (f p).toInt
      rw [this]
    | succ k ih =>
      show lS (del f p) (p + k) + (del f p (p + k)).toInt + (f p).toInt = lS f (p + k + 1) + (f (p + k + 1)).toInt
      have : del f p (p + k) = f (p + k + 1) := by unfold del; rw [if_neg (by omega)]
      rw [this, ← ih]
      omega
  intro m hm
  have := key (m - p)
  rwa [show p + (m - p) = m by omega] at this
theorem lS_rng {f : Nat → Int32} : ∀ n, (∀ i, i < n → 1 ≤ (f i).toInt ∧ (f i).toInt ≤ 90) → 0 ≤ lS f n ∧ lS f n ≤ 90 * n := by
  intro n
  induction n with
  | zero => intro _; unfold lS; omega
  | succ n ih =>
    intro h
    have q := ih (fun i hi => h i (by omega))
    have r := h n (by omega)
    unfold lS
    omega
theorem unF_lS {f : Nat → Int32} : ∀ n, n ≤ 140 → (∀ i, i < n → 1 ≤ (f i).toInt ∧ (f i).toInt ≤ 90) → (unF f n).toInt = lS f n := by
  intro n
  induction n with
  | zero => intro _ _; rfl
  | succ n ih =>
    intro hn h
    have q := ih (by omega) (fun i hi => h i (by omega))
    have b := lS_rng n (fun i hi => h i (by omega))
    have r := h n (by omega)
    unfold unF lS
    rw [fb_addI (by rw [q]; omega) (by rw [q]; omega), q]
noncomputable def seen (pp : Nat → Int32) (n : Nat) : Nat := fb_ct (fun c => @decide (∃ i, i < n ∧ pp i = nI (c + 1)) (Classical.propDecidable _)) 9
theorem seen_mono {pp : Nat → Int32} {n : Nat} : seen pp n ≤ seen pp (n + 1) := fb_ct_sub fun c hc q => by
  have q := @of_decide_eq_true _ (Classical.propDecidable _) q
  obtain ⟨i, h1, h2⟩ := q
  exact @decide_eq_true _ (Classical.propDecidable _) ⟨i, by omega, h2⟩
theorem seen_new {pp : Nat → Int32} {n c : Nat} (hc : c < 9) (e : pp n = nI (c + 1)) (hn : ∀ i, i < n → pp i ≠ pp n) : seen pp n + 1 ≤ seen pp (n + 1) := by
  have h1 := fb_ct_upd (fun c => @decide (∃ i, i < n ∧ pp i = nI (c + 1)) (Classical.propDecidable _)) true hc
  have h0 : @decide (∃ i, i < n ∧ pp i = nI (c + 1)) (Classical.propDecidable _) = false := @decide_eq_false _ (Classical.propDecidable _) (by
    rintro ⟨i, h1, h2⟩
    exact hn i h1 (h2.trans e.symm))
  simp only [h0, if_true, Bool.false_eq_true, if_false, Nat.add_zero] at h1
  unfold seen
  rw [← h1]
  refine fb_ct_sub fun k hk q => ?_
  by_cases e2 : k = c
  · subst e2
    exact @decide_eq_true _ (Classical.propDecidable _) ⟨n, by omega, e⟩
  · rw [if_neg e2] at q
    have q := @of_decide_eq_true _ (Classical.propDecidable _) q
    obtain ⟨i, h1, h2⟩ := q
    exact @decide_eq_true _ (Classical.propDecidable _) ⟨i, by omega, h2⟩
theorem lS_least {pl pp : Nat → Int32} : ∀ n, (∀ i, i < n → 1 ≤ (pl i).toInt ∧ (pl i).toInt ≤ 90) → (∀ i, i < n → 1 ≤ (pp i).toInt ∧ (pp i).toInt ≤ 9) → (∀ i j, i < n → (pl i).toInt < 40 → j < i → pp j ≠ pp i) → 40 * (n : Int) ≤ lS pl n + 39 * (seen pp n : Int) := by
  intro n
  induction n with
  | zero => intro _ _ _; unfold lS; omega
  | succ n ih =>
    intro h1 h2 h3
    have q := ih (fun i hi => h1 i (by omega)) (fun i hi => h2 i (by omega)) (fun i j hi => h3 i j (by omega))
    have r := h1 n (by omega)
    have s := h2 n (by omega)
    unfold lS
    by_cases e : (pl n).toInt < 40
    · have e1 : (pp n).toNatClampNeg = (pp n).toInt.toNat := rfl
      have m := seen_new (pp := pp) (n := n) (c := (pp n).toNatClampNeg - 1) (by omega) (by
        rw [show (pp n).toNatClampNeg - 1 + 1 = (pp n).toNatClampNeg by omega]
        exact nI_ofI (by omega)) (fun i hi => h3 n i (by omega) e hi)
      omega
    · have m := seen_mono (pp := pp) (n := n)
      omega
theorem dOk_least {D : DT} (h : dOk D) : 40 * (D.n : Int) ≤ lS D.pl D.n + 351 := by
  obtain ⟨h1, h2, h3, h4, h5, h6, h7, h8⟩ := h
  have q := lS_least D.n h5 h6 h7
  have r : seen D.pp D.n ≤ 9 := fb_ct_le _ _
  omega
theorem dOk_n {D : DT} (h : dOk D) : D.n ≤ 133 := by
  have q := dOk_least h
  have := h.2.2.2.2.2.2.2
  omega
theorem dOk_un {D : DT} (h : dOk D) : (unA D).toInt = lS D.pl D.n := unF_lS _ (by have := dOk_n h; omega) h.2.2.2.2.1
/-- where there is room for so many units there is room for a piece -/
theorem dOk_room {W : WS} {D : DT} (hw : wOk W) (h : dOk D) {size : Int32} (h40 : 40 ≤ size.toInt) (h90 : size.toInt ≤ 90) (hs : unA D + size ≤ W.mem) : D.n < 133 ∧ lS D.pl D.n + size.toInt ≤ 5000 := by
  have q := dOk_least h
  have e := dOk_un h
  have b := h.2.2.2.2.2.2.2
  have b0 := (lS_rng D.n h.2.2.2.2.1).1
  have m := hw.mem
  rw [le_i, fb_addI (by rw [e]; omega) (by rw [e]; omega), e] at hs
  omega
theorem keep_ok {D : DT} (h : dOk D) {a size pr g : Int32} (h40 : 40 ≤ size.toInt) (h90 : size.toInt ≤ 90) (hs : lS D.pl D.n + size.toInt ≤ 5000) (ha : ∃ k : Nat, k < 12 ∧ a = nI k) (hp : 1 ≤ pr.toInt ∧ pr.toInt ≤ 9) (hg : ∃ k : Nat, k ≤ 9 ∧ g = nI k) : dOk (keepA D a size pr g) := by
  obtain ⟨h1, h2, h3, h4, h5, h6, h7, h8⟩ := h
  have up : ∀ {F : Nat → Int32} {v : Int32} {R : Int32 → Prop}, R v → (∀ i, i < D.n → R (F i)) → ∀ i, i < D.n + 1 → R (upd F D.n v i) := fun hv hF i hi => by
    by_cases e : i = D.n
    · subst e; rw [pk_us]; exact hv
    · rw [pk_un e]; exact hF i (by omega)
  refine ⟨up (R := fun z => ∃ k : Nat, k < 12 ∧ z = nI k) ha h1, up (R := fun z => ∃ k : Nat, k ≤ 9 ∧ z = nI k) hg h2, h3, h4, up (R := fun z => 1 ≤ z.toInt ∧ z.toInt ≤ 90) ⟨by omega, h90⟩ h5, up (R := fun z => 1 ≤ z.toInt ∧ z.toInt ≤ 9) hp h6, fun i j hi hl hj => ?_, ?_⟩
  · change i < D.n + 1 at hi
    change (upd D.pl D.n size i).toInt < 40 at hl
    show upd D.pp D.n pr j ≠ upd D.pp D.n pr i
    by_cases e : i = D.n
    · subst e; rw [pk_us] at hl; omega
    · rw [pk_un e] at hl
      rw [pk_un e, pk_un (by omega)]
      exact h7 i j (by omega) hl hj
  · show lS (upd D.pl D.n size) D.n + (upd D.pl D.n size D.n).toInt ≤ 5000
    rw [pk_us, lS_cong (g := D.pl) D.n (fun i hi => pk_un (by omega))]
    exact hs
theorem urg_spec (f : Nat → Int32) : ∀ n, ∀ j, j < n → f j ≤ f (urg f n) ∧ (j < urg f n → f j < f (urg f n)) := by
  intro n
  induction n with
  | zero => intro j h; omega
  | succ n ih =>
    intro j hj
    unfold urg
    by_cases q : f (urg f n) < f n
    · rw [if_pos q]
      by_cases e : j = n
      · subst e; exact ⟨Int32.le_refl _, fun h => absurd h (by omega)⟩
      · have := (ih j (by omega)).1
        have lt := Int32.lt_of_le_of_lt this q
        exact ⟨Int32.le_of_lt lt, fun _ => lt⟩
    · rw [if_neg q]
      by_cases e : j = n
      · subst e
        refine ⟨Int32.not_lt.mp q, fun h => ?_⟩
        by_cases z : j = 0
        · subst z; simp [urg] at h
        · have := urg_lt f j (by omega)
          omega
      · exact ih j (by omega)
theorem i_oa (a b m : Int32) : (a ||| b) &&& m = (a &&& m) ||| (b &&& m) := by
  apply Int32.toBitVec_inj.mp
  simp only [Int32.toBitVec_and, Int32.toBitVec_or]
  ext i
  simp [Bool.and_or_distrib_right]
theorem part_rng {D : DT} {p : Nat} {rest : Int32} (h : 1 ≤ (D.pl p).toInt ∧ (D.pl p).toInt ≤ 90) (hr : ¬ rest ≤ 0) : 1 ≤ (if D.pl p < rest then D.pl p else rest).toInt ∧ (if D.pl p < rest then D.pl p else rest).toInt ≤ (D.pl p).toInt := by
  rw [le_i, L_0] at hr
  split
  · omega
  · rename_i q
    rw [lt_i] at q
    omega
theorem part_ok {D : DT} (h : dOk D) {part : Int32} (hn : 0 < D.n) (hp : 1 ≤ part.toInt ∧ part.toInt ≤ (D.pl (urg D.pp D.n)).toInt) : (D.pl (urg D.pp D.n) - part = 0 → dOk (finA (partA D (urg D.pp D.n) part) (urg D.pp D.n))) ∧ (¬ D.pl (urg D.pp D.n) - part = 0 → dOk (partA D (urg D.pp D.n) part)) := by
  have up := urg_lt D.pp D.n hn
  have us := urg_spec D.pp D.n
  generalize urg D.pp D.n = p at up us hp ⊢
  obtain ⟨h1, h2, h3, h4, h5, h6, h7, h8⟩ := h
  have r := h5 p up
  have e1 : (D.pl p - part).toInt = (D.pl p).toInt - part.toInt := fb_subI (by omega) (by omega)
  constructor
  · intro e0
    have dl : del (upd D.pl p (D.pl p - part)) p = del D.pl p := by
      funext i
      unfold del
      split
      · rw [pk_un (by omega)]
      · rw [pk_un (by omega)]
    obtain ⟨k, hk, ek⟩ := h1 p up
    obtain ⟨g, hg, eg⟩ := h2 p up
    have ck : (D.pt p).toNatClampNeg = k := by rw [ek, nI_clamp (by omega)]
    have mp : ∀ i, i < D.n - 1 → ∃ i', i' < D.n ∧ (i' = i ∨ i' = i + 1) ∧ (∀ F : Nat → Int32, del F p i = F i') ∧ (i < p → i' = i) ∧ (p ≤ i → i' = i + 1) := fun i hi => by
      by_cases q : i < p
      · exact ⟨i, by omega, Or.inl rfl, fun F => if_pos q, fun _ => rfl, fun _ => by omega⟩
      · exact ⟨i + 1, by omega, Or.inr rfl, fun F => if_neg q, fun _ => by omega, fun _ => rfl⟩
    refine ⟨fun i hi => ?_, fun i hi => ?_, fun j hj => ?_, fun j hj => ?_, fun i hi => ?_, fun i hi => ?_, fun i j hi hl hj => ?_, ?_⟩
    · obtain ⟨i', q1, -, q3, -⟩ := mp i hi
      show ∃ k : Nat, k < 12 ∧ del D.pt p i = nI k
      rw [q3]; exact h1 i' q1
    · obtain ⟨i', q1, -, q3, -⟩ := mp i hi
      show ∃ k : Nat, k ≤ 9 ∧ del D.pg p i = nI k
      rw [q3]; exact h2 i' q1
    · show (if D.pg p = 9 then D.oc else upd D.oc (D.pt p).toNatClampNeg (D.oc (D.pt p).toNatClampNeg ||| ((1 : Int32) <<< (D.pg p &&& 31)))) j &&& -513 = (if D.pg p = 9 then D.oc else upd D.oc (D.pt p).toNatClampNeg (D.oc (D.pt p).toNatClampNeg ||| ((1 : Int32) <<< (D.pg p &&& 31)))) j
      by_cases e9 : D.pg p = 9
      · rw [if_pos e9]; exact h3 j hj
      · rw [if_neg e9, ck]
        by_cases ej : j = k
        · subst ej
          rw [pk_us]
          have eb : ((1 : Int32) <<< (D.pg p &&& 31)) &&& -513 = ((1 : Int32) <<< (D.pg p &&& 31)) := by
            rw [eg] at e9 ⊢
            match g, hg with
            | 0, _ => decide
            | 1, _ => decide
            | 2, _ => decide
            | 3, _ => decide
            | 4, _ => decide
            | 5, _ => decide
            | 6, _ => decide
            | 7, _ => decide
            | 8, _ => decide
            | 9, _ => exact absurd rfl e9
          rw [i_oa, h3 j hj, eb]
        · rw [pk_un ej]; exact h3 j hj
    · show (if D.pg p = 9 then upd D.tc (D.pt p).toNatClampNeg 1 else D.tc) j = 0 ∨ (if D.pg p = 9 then upd D.tc (D.pt p).toNatClampNeg 1 else D.tc) j = 1
      by_cases e9 : D.pg p = 9
      · rw [if_pos e9, ck]
        by_cases ej : j = k
        · subst ej; rw [pk_us]; exact Or.inr rfl
        · rw [pk_un ej]; exact h4 j hj
      · rw [if_neg e9]; exact h4 j hj
    · obtain ⟨i', q1, -, q3, -⟩ := mp i hi
      show 1 ≤ (del (upd D.pl p (D.pl p - part)) p i).toInt ∧ (del (upd D.pl p (D.pl p - part)) p i).toInt ≤ 90
      rw [dl, q3]; exact h5 i' q1
    · obtain ⟨i', q1, -, q3, -⟩ := mp i hi
      show 1 ≤ (del D.pp p i).toInt ∧ (del D.pp p i).toInt ≤ 9
      rw [q3]; exact h6 i' q1
    · change i < D.n - 1 at hi
      change (del (upd D.pl p (D.pl p - part)) p i).toInt < 40 at hl
      show del D.pp p j ≠ del D.pp p i
      obtain ⟨i', q1, q2, q3, q4, q5⟩ := mp i hi
      obtain ⟨j', r1, r2, r3, r4, r5⟩ := mp j (by omega)
      rw [dl, q3] at hl
      rw [q3, r3]
      refine h7 i' j' q1 hl ?_
      by_cases z : i < p
      · have := q4 z
        have := r4 (by omega)
        omega
      · have := q5 (by omega)
        omega
    · show lS (del (upd D.pl p (D.pl p - part)) p) (D.n - 1) ≤ 5000
      rw [dl]
      have := lS_del (f := D.pl) (p := p) (D.n - 1) (by omega)
      rw [show D.n - 1 + 1 = D.n by omega] at this
      omega
  · intro e0
    have e0' : ¬ (D.pl p - part).toInt = 0 := fun q => e0 (Int32.toInt_inj.mp (by rw [q, L_0]))
    refine ⟨h1, h2, h3, h4, fun i hi => ?_, h6, fun i j hi hl hj => ?_, ?_⟩
    · show 1 ≤ (upd D.pl p (D.pl p - part) i).toInt ∧ (upd D.pl p (D.pl p - part) i).toInt ≤ 90
      by_cases e : i = p
      · subst e; rw [pk_us, e1]; rw [e1] at e0'; omega
      · rw [pk_un e]; exact h5 i hi
    · change (upd D.pl p (D.pl p - part) i).toInt < 40 at hl
      show D.pp j ≠ D.pp i
      by_cases e : i = p
      · subst e
        have lt := (us j (by change i < D.n at hi; omega)).2 hj
        intro q
        rw [q] at lt
        exact Int32.lt_irrefl lt
      · rw [pk_un e] at hl; exact h7 i j hi hl hj
    · show lS (upd D.pl p (D.pl p - part)) D.n ≤ 5000
      rw [lS_upd D.n up, e1]
      omega
theorem sendF_ok : ∀ (f : Nat) (rest : Int32) {D : DT}, dOk D → dOk (sendF f rest D) := by
  intro f
  induction f with
  | zero => exact fun rest D h => h
  | succ f ih =>
    intro rest D h
    unfold sendF
    by_cases h1 : rest ≤ 0
    · rw [if_pos h1]; exact h
    rw [if_neg h1]
    by_cases h2 : D.n = 0
    · rw [if_pos h2]; exact h
    rw [if_neg h2]
    have hn : 0 < D.n := by omega
    have up := urg_lt D.pp D.n hn
    have pr := part_rng (p := urg D.pp D.n) (h.2.2.2.2.1 _ up) h1
    have po := part_ok h hn pr
    show dOk (if D.pl (urg D.pp D.n) - (if D.pl (urg D.pp D.n) < rest then D.pl (urg D.pp D.n) else rest) = 0 then _ else _)
    by_cases q : D.pl (urg D.pp D.n) - (if D.pl (urg D.pp D.n) < rest then D.pl (urg D.pp D.n) else rest) = 0
    · rw [if_pos q]; exact ih _ (po.1 q)
    · rw [if_neg q]; exact ih _ (po.2 q)
theorem transF_ok {W : WS} : ∀ (n : Nat) {P : PH} {D : DT}, pOk P → dOk D → rOk (transF W n P D).2.1 (transF W n P D).2.2 := by
  intro n
  induction n with
  | zero => exact fun h g => ⟨h, g⟩
  | succ n ih =>
    intro P D h g
    unfold transF
    by_cases h1 : D.n = 0
    · rw [if_pos h1]; exact ⟨h, g⟩
    rw [if_neg h1]
    split
    · exact ih (passN_ok 1 h) (sendF_ok _ _ g)
    · exact ⟨passN_ok 1 h, sendF_ok _ _ g⟩
theorem oct_le (a b : Int32) : ∃ k : Nat, k ≤ 9 ∧ nI (sp_oct a b) = nI k := ⟨_, by have := q_find_le (fun k => q_dx k = a ∧ q_dy k = b) 8 0; unfold sp_oct; omega, rfl⟩
theorem perf_ok {W : WS} (hw : wOk W) {k a b : Int32} {P : PH} {D : DT} (h : rOk P D) (ha : actOk W k a b) : rOk (perfA W k a b P D).2.1 (perfA W k a b P D).2.2 := by
  unfold perfA
  by_cases h0 : (actA W k a b P D).1 = 0
  rotate_left
  · rw [if_neg h0]; exact h
  rw [if_pos h0]
  obtain ⟨hp, hd⟩ := h
  have n1 : ¬ (1 : Int32) = 0 := by decide
  have n2 : ¬ (2 : Int32) = 0 ∧ ¬ (2 : Int32) = 1 := by decide
  have n3 : ¬ (3 : Int32) = 0 ∧ ¬ (3 : Int32) = 1 ∧ ¬ (3 : Int32) = 2 := by decide
  have n4 : ¬ (4 : Int32) = 0 ∧ ¬ (4 : Int32) = 1 ∧ ¬ (4 : Int32) = 2 ∧ ¬ (4 : Int32) = 3 := by decide
  have n5 : ¬ (5 : Int32) = 0 ∧ ¬ (5 : Int32) = 1 ∧ ¬ (5 : Int32) = 2 ∧ ¬ (5 : Int32) = 3 ∧ ¬ (5 : Int32) = 4 := by decide
  have n6 : ¬ (6 : Int32) = 0 ∧ ¬ (6 : Int32) = 1 ∧ ¬ (6 : Int32) = 2 ∧ ¬ (6 : Int32) = 3 ∧ ¬ (6 : Int32) = 4 ∧ ¬ (6 : Int32) = 5 := by decide
  have n7 : ¬ (7 : Int32) = 0 ∧ ¬ (7 : Int32) = 1 ∧ ¬ (7 : Int32) = 2 ∧ ¬ (7 : Int32) = 3 ∧ ¬ (7 : Int32) = 4 ∧ ¬ (7 : Int32) = 5 ∧ ¬ (7 : Int32) = 6 := by decide
  rcases ha with ⟨rfl, q⟩ | ⟨q1, q2, q3, q4⟩ | ⟨rfl, q⟩ | ⟨q1, q⟩ | ⟨rfl, q⟩ | ⟨rfl, q⟩
  · unfold actA at h0 ⊢
    rw [if_pos rfl] at h0 ⊢
    exact ⟨driveA_ok hw q 576 P hp h0, hd⟩
  · obtain ⟨t, ht, rfl⟩ := q2
    have tn := hw.tn
    have a12 : ∃ k : Nat, k < 12 ∧ nI t = nI k := ⟨t, by omega, rfl⟩
    have use : ∀ (size u : Int32) (n : Nat), 40 ≤ size.toInt → size.toInt ≤ 90 → (useA W size u n P D).1 = 0 → pOk (useA W size u n P D).2 ∧ lS D.pl D.n + size.toInt ≤ 5000 := by
      intro size u n s1 s2 h
      unfold useA at h ⊢
      by_cases c1 : -40 ≤ P.tp
      · rw [if_pos c1] at h ⊢
        by_cases c2 : D.n < 133
        · rw [if_pos c2] at h ⊢
          by_cases c3 : unA D + size ≤ W.mem
          · rw [if_pos c3]
            exact ⟨passN_ok n hp, (dOk_room hw hd s1 s2 c3).2⟩
          · rw [if_neg c3] at h
            exact absurd h (by decide : ¬ (4 : Int32) = 0)
        · rw [if_neg c2] at h
          exact absurd h (by decide : ¬ (4 : Int32) = 0)
      · rw [if_neg c1] at h
        exact absurd h (by decide : ¬ (3 : Int32) = 0)
    rcases q1 with rfl | rfl
    · unfold actA at h0 ⊢
      rw [if_neg n1, if_pos rfl] at h0 ⊢
      unfold takeI at h0 ⊢
      by_cases c1 : 6 < i_dist P.x P.y (W.tx (nI t).toNatClampNeg) (W.ty (nI t).toNatClampNeg)
      · rw [if_pos c1] at h0; exact absurd h0 (by decide : ¬ (5 : Int32) = 0)
      rw [if_neg c1] at h0 ⊢
      by_cases c2 : seeA W P.x P.y (W.tx (nI t).toNatClampNeg) (W.ty (nI t).toNatClampNeg) = true
      · rw [if_pos c2] at h0 ⊢
        by_cases c3 : (useA W 40 3 6 P D).1 = 0
        · rw [if_pos c3]
          have u := use 40 3 6 (by decide) (by decide) c3
          exact ⟨u.1, keep_ok hd (by decide) (by decide) u.2 a12 ⟨q3, q4⟩ (oct_le _ _)⟩
        · rw [if_neg c3] at h0; exact absurd h0 c3
      · rw [if_neg c2] at h0; exact absurd h0 (by decide : ¬ (5 : Int32) = 0)
    · unfold actA at h0 ⊢
      rw [if_neg n2.1, if_neg n2.2, if_pos rfl] at h0 ⊢
      unfold takeT at h0 ⊢
      by_cases c1 : i_dist P.x P.y (W.tx (nI t).toNatClampNeg) (W.ty (nI t).toNatClampNeg) ≤ 1
      · rw [if_pos c1] at h0 ⊢
        by_cases c3 : (useA W 90 5 25 P D).1 = 0
        · rw [if_pos c3]
          have u := use 90 5 25 (by decide) (by decide) c3
          exact ⟨u.1, keep_ok hd (by decide) (by decide) u.2 a12 ⟨q3, q4⟩ ⟨9, by omega, rfl⟩⟩
        · rw [if_neg c3] at h0; exact absurd h0 c3
      · rw [if_neg c1] at h0; exact absurd h0 (by decide : ¬ (5 : Int32) = 0)
  · unfold actA at h0 ⊢
    rw [if_neg n3.1, if_neg n3.2.1, if_neg n3.2.2, if_pos rfl] at h0 ⊢
    unfold transA at h0 ⊢
    by_cases c1 : rateA W (mnt P.t) = 0
    · rw [if_pos c1] at h0; exact absurd h0 (by decide : ¬ (6 : Int32) = 0)
    · rw [if_neg c1]; exact transF_ok _ hp hd
  · rcases q1 with rfl | rfl
    · unfold actA
      rw [if_neg n4.1, if_neg n4.2.1, if_neg n4.2.2.1, if_neg n4.2.2.2, if_pos rfl]
      exact ⟨passN_ok _ hp, hd⟩
    · unfold actA
      rw [if_neg n5.1, if_neg n5.2.1, if_neg n5.2.2.1, if_neg n5.2.2.2.1, if_neg n5.2.2.2.2, if_pos rfl]
      exact ⟨passN_ok _ hp, hd⟩
  · unfold actA
    rw [if_neg n6.1, if_neg n6.2.1, if_neg n6.2.2.1, if_neg n6.2.2.2.1, if_neg n6.2.2.2.2.1, if_neg n6.2.2.2.2.2, if_pos rfl]
    refine ⟨⟨hp.1, hp.2.1, hp.2.2.1, ?_⟩, hd⟩
    show (if a = 1 then (1 : Int32) else 0) = 0 ∨ (if a = 1 then (1 : Int32) else 0) = 1
    split
    · exact Or.inr rfl
    · exact Or.inl rfl
  · unfold actA
    rw [if_neg n7.1, if_neg n7.2.1, if_neg n7.2.2.1, if_neg n7.2.2.2.1, if_neg n7.2.2.2.2.1, if_neg n7.2.2.2.2.2.1, if_neg n7.2.2.2.2.2.2]
    refine ⟨?_, hd⟩
    show pOk (cleanA W P).2
    unfold cleanA
    split
    · exact passN_ok 15 hp
    · exact passN_ok 15 hp
