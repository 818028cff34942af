/-! the way that follows the costs -/
theorem q_find_at (p : Nat → Prop) [DecidablePred p] : ∀ (n i : Nat), q_find p i n < i + n → p (q_find p i n)
  | 0, i => by simp [q_find]
  | n + 1, i => by
    unfold q_find
    by_cases h : p i
    · rw [if_pos h]; exact fun _ => h
    · rw [if_neg h]; intro q; exact q_find_at p n (i + 1) (by omega)
theorem q_find_ex (p : Nat → Prop) [DecidablePred p] : ∀ (n i : Nat), (∃ j, i ≤ j ∧ j < i + n ∧ p j) → q_find p i n < i + n
  | 0, i => by rintro ⟨j, h1, h2, -⟩; omega
  | n + 1, i => by
    rintro ⟨j, h1, h2, h3⟩
    unfold q_find
    by_cases h : p i
    · rw [if_pos h]; omega
    · rw [if_neg h]
      have := q_find_ex p n (i + 1) ⟨j, by
        by_cases e : j = i
        · subst e; exact absurd h3 h
        · omega, by omega, h3⟩
      omega
def dirP (H R Z : Nat → Int32) (s : Int32) (c : Nat → Nat) (p k : Nat) : Prop := sp_can H Z s (px p) (py p) k ∧ c p = wt H R p k + c (nb p k)
noncomputable def dirA (H R Z : Nat → Int32) (s : Int32) (c : Nat → Nat) (p : Nat) : Nat := @q_find (dirP H R Z s c p) (fun _ => Classical.propDecidable _) 0 8
theorem dir_ok {H R Z : Nat → Int32} {s : Int32} {c : Nat → Nat} {o p : Nat} (gok : gOk H R) (L : lc (B_to H R Z s) o c) (hp : p < 576) (hc : c p < FARn) (h0 : c p ≠ 0) : dirA H R Z s c p < 8 ∧ dirP H R Z s c p (dirA H R Z s c p) := by
  have hne : p ≠ o := fun e => h0 (by rw [e]; exact L.2.1)
  obtain ⟨k, v, w, b, q1, q2, q3⟩ := L.2.2.2 p hp hc hne
  have e := stW_wt gok b
  have e1 : dirP H R Z s c p k := ⟨b.2.2.1, by rw [b.2.2.2.1, ← e.1]; omega⟩
  have lt := @q_find_ex (dirP H R Z s c p) (fun _ => Classical.propDecidable _) 8 0 ⟨k, by omega, by have := b.1; omega, e1⟩
  exact ⟨by unfold dirA; omega, @q_find_at (dirP H R Z s c p) (fun _ => Classical.propDecidable _) 8 0 lt⟩
/-- the place where the way goes on -/
noncomputable def nxt (H R Z : Nat → Int32) (s : Int32) (c : Nat → Nat) (p : Nat) : Nat := nb p (dirA H R Z s c p)
theorem nxt_ok {H R Z : Nat → Int32} {s : Int32} {c : Nat → Nat} {o p : Nat} (gok : gOk H R) (L : lc (B_to H R Z s) o c) (hp : p < 576) (hc : c p < FARn) (h0 : c p ≠ 0) : nxt H R Z s c p < 576 ∧ c (nxt H R Z s c p) < c p ∧ c (nxt H R Z s c p) < FARn ∧ nP p (dirA H R Z s c p) := by
  obtain ⟨h1, h2, h3⟩ := dir_ok gok L hp hc h0
  have w := wt_ok gok hp h2
  refine ⟨nb_lt h2.1, ?_, ?_, h2.1⟩
  · unfold nxt; omega
  · unfold nxt; omega
def sp_eng (H R : Nat → Int32) (p k : Nat) : Int32 := 4 * sp_min H R (px p) (py p) k + 2 * i_max 0 (H (nb p k) - H p)
noncomputable def sumA (H R Z : Nat → Int32) (s : Int32) (c : Nat → Nat) (isE : Bool) : Nat → Nat → Int32 → Int32
  | 0, _, a => a
  | n + 1, p, a => if c p = 0 then a else sumA H R Z s c isE n (nxt H R Z s c p) (a + (if isE then sp_eng H R p (dirA H R Z s c p) else 1))
section WY3
variable {l : Launch} {d mc ms : Nat} {Q : Option Value → qH → Prop} {QX : String → qH → Prop} {h : qH} {H R Z M : Nat → Int32} {s x y : Int32} {c : Nat → Nat}
theorem cv_0 {p : Nat} : (0 : Int32) < cv c p ↔ (c p < FARn ∧ c p ≠ 0) := by
  have far : FARn = 1000000 := rfl
  by_cases h : c p < FARn
  · rw [cv_t h, show (0 : Int32) = nI 0 from rfl, nI_ltI (by decide) (by omega)]
    constructor
    · exact fun q => ⟨h, by omega⟩
    · exact fun q => by omega
  · rw [cv_f h]
    exact ⟨fun q => absurd q (by decide), fun q => absurd q.1 h⟩
noncomputable def dirR (H R Z : Nat → Int32) (s : Int32) (c : Nat → Nat) (p : Nat) : Int32 := if c p < FARn ∧ c p ≠ 0 then nI (dirA H R Z s c p) else -1
theorem s_directionFrom {o p : Nat} (hg : gnd h H R Z (sp_M H R Z s) s) (gok : gOk H R) (hw : wys h c) (L : lc (B_to H R Z s) o c) (hp : p < 576) (hq : Q (some (.int (dirR H R Z s c p))) h) : q_Ct l (d + 2) mX8_directionFrom [.ref 6, .int (nI p)] h mc ms Q QX := by
  have far : FARn = 1000000 := rfl
  obtain ⟨m, w1⟩ := hw.1
  refine v_X8_directionFrom 6 (nI p) (e_ob w1 (s_costOf hw hp ⟨_, rfl, fun q => ?_, fun q => ?_⟩))
  rotate_left
  · rw [dirR, if_neg (fun r => q (cv_0.mpr r))] at hq
    exact hq
  have q2 := cv_0.mp q
  rw [dirR, if_pos q2] at hq
  have sm : ∀ {u : Nat}, u < 576 → c u < FARn → c u ≤ 46656 := fun hu hc => lc_small (gB_to gok) L hu hc
  refine q_loop (fun k h' => q_J l (d + 2) mX8_directionFrom mc ms Q QX h.2 12 [some (.ref 6), some (.int (nI p)), some (.int (nI k)), none, none] [] h' mc ms) (fun k h' => h' = h ∧ dirA H R Z s c p = @q_find (dirP H R Z s c p) (fun _ => Classical.propDecidable _) k (8 - k)) 8 ?_ ?_ 0 h (by omega) ⟨rfl, rfl⟩
  · rintro h' ⟨rfl, e⟩
    have := (dir_ok gok L hp q2.1 q2.2).1
    rw [e] at this
    exact absurd this (by simp [q_find])
  · rintro k h' hk ⟨rfl, e⟩ ih
    have e2 : 8 - k = (8 - (k + 1)) + 1 := by omega
    rw [e2, q_find] at e
    have no : ¬ dirP H R Z s c p k → q_J l (d + 2) mX8_directionFrom mc ms Q QX h'.2 12 [some (.ref 6), some (.int (nI p)), some (.int (nI k + 1)), none, none] [] h' mc ms := fun r => by
      rw [if_neg r] at e
      rw [nI_1]
      exact ih h' ⟨rfl, e⟩
    refine v_X8_directionFrom_12 6 _ (nI k) ⟨fun q => absurd q (nI_ge hk (by decide)), fun _ => ?_⟩
    refine e_gr w1 rfl (e_ob hg.1 (s_minutesOf hg hp hk ⟨_, rfl, ?_⟩))
    rw [sp_M_at hk, sp_stp]
    by_cases hn : nP p k
    rotate_left
    · have hc : ¬ sp_can H Z s (px p) (py p) k := fun q => hn q.1
      rw [if_neg hc]
      exact s_neighbourOf_f hp hk hn ⟨_, rfl, e_ob w1 (s_costOf_f ⟨_, rfl, fun _ => no (fun q => hc q.1), fun q => absurd rfl q⟩)⟩
    have hu : nb p k < 576 := nb_lt hn
    refine s_neighbourOf_t hp hk hn ⟨_, rfl, e_ob w1 (s_costOf hw hu ⟨_, rfl, ?_⟩)⟩
    by_cases hc : sp_can H Z s (px p) (py p) k
    rotate_left
    · rw [if_neg hc]
      exact ⟨fun _ => no (fun q => hc q.1), fun q => absurd rfl q⟩
    have wk := wt_ok gok hp hc
    rw [if_pos hc, wk.1]
    refine ⟨fun q => absurd q (nI_nm1 (by omega)), fun _ => ?_⟩
    by_cases hcu : c (nb p k) < FARn
    rotate_left
    · rw [cv_f hcu]
      exact ⟨fun _ => no (fun q => by have := q.2; omega), fun q => absurd rfl q⟩
    rw [cv_t hcu]
    have s1 := sm hu hcu
    have s2 := sm hp q2.1
    refine ⟨fun q => absurd q (nI_nm1 (by omega)), fun _ => e_gr w1 rfl (e_al hw.2.1 rfl hp (by decide) ?_)⟩
    rw [cv_t q2.1, nI_add]
    refine ⟨fun q => ?_, fun q => no (fun r => q ?_)⟩
    · have r : dirP H R Z s c p k := ⟨hc, ((nI_eq (by omega) (by omega)).mp q).symm⟩
      rw [if_pos r] at e
      rw [e] at hq
      exact hq
    · rw [r.2]
theorem s_sumFrom {o p : Nat} (isE : Bool) (hg : gnd h H R Z (sp_M H R Z s) s) (gok : gOk H R) (hw : wys h c) (L : lc (B_to H R Z s) o c) (hp : p < 576) (hq : Q (some (.int (if c p < FARn then sumA H R Z s c isE 576 p 0 else -1))) h) : q_Ct l (d + 3) mX8_sumFrom [.ref 6, .int (nI p), .int (if isE then 1 else 0)] h mc ms Q QX := by
  have far : FARn = 1000000 := rfl
  obtain ⟨m, w1⟩ := hw.1
  refine v_X8_sumFrom 6 (nI p) _ (e_ob w1 (s_costOf hw hp ⟨_, rfl, fun q => ?_, fun q => ?_⟩))
  · by_cases hc : c p < FARn
    · rw [cv_t hc] at q
      exact absurd q (nI_nm1 (by omega))
    · rw [if_neg hc] at hq; exact hq
  have hc : c p < FARn := by
    by_cases hc : c p < FARn
    · exact hc
    · exact absurd (cv_f hc) q
  rw [if_pos hc] at hq
  refine e_ob w1 (s_directionFrom hg gok hw L hp ⟨_, rfl, ?_⟩)
  have key := q_loop (fun n (st : Nat × Int32) => q_J l (d + 3) mX8_sumFrom mc ms Q QX h.2 27 [some (.ref 6), some (.int (nI p)), some (.int (if isE then 1 else 0)), some (.int st.2), some (.int (nI st.1)), some (.int (dirR H R Z s c st.1)), some (.int (nI n))] [] h mc ms)
    (fun n st => st.1 < 576 ∧ c st.1 < FARn ∧ sumA H R Z s c isE (576 - n) st.1 st.2 = sumA H R Z s c isE 576 p 0) 576 ?_ ?_ 0 (p, 0) (by omega) ⟨hp, hc, rfl⟩
  · exact key
  · rintro ⟨u, a⟩ ⟨h1, h2, h3⟩
    refine v_X8_sumFrom_27 6 _ _ _ _ _ (nI 576) ⟨fun _ => ?_, fun q => absurd (Int32.le_refl _) q⟩
    rw [Nat.sub_self, sumA] at h3
    rw [← h3] at hq
    exact hq
  · rintro n ⟨u, a⟩ hn ⟨h1, h2, h3⟩ ih
    dsimp only at h1 h2 h3
    have e2 : 576 - n = (576 - (n + 1)) + 1 := by omega
    rw [e2, sumA] at h3
    refine v_X8_sumFrom_27 6 _ _ _ _ _ (nI n) ⟨fun q => absurd q (nI_ge hn (by decide)), fun _ => ?_⟩
    by_cases h0 : c u = 0
    · rw [if_pos h0] at h3
      refine ⟨fun _ => ?_, fun q => absurd ?_ q⟩
      · rw [← h3] at hq; exact hq
      · unfold dirR
        rw [if_neg (fun r => r.2 h0)]
    rw [if_neg h0] at h3
    have dk := dir_ok gok L h1 h2 h0
    have nx := nxt_ok gok L h1 h2 h0
    have ed : dirR H R Z s c u = nI (dirA H R Z s c u) := by unfold dirR; rw [if_pos ⟨h2, h0⟩]
    rw [ed]
    refine ⟨fun q => absurd q (nI_nm1 (by omega)), fun _ => ?_⟩
    have go : ∀ v : Int32, v = (if isE then sp_eng H R u (dirA H R Z s c u) else 1) → q_J l (d + 3) mX8_sumFrom mc ms Q QX h.2 61 [some (.ref 6), some (.int (nI p)), some (.int (if isE then 1 else 0)), some (.int a), some (.int (nI u)), some (.int (nI (dirA H R Z s c u))), some (.int (nI n))] [.int v, .int a] h mc ms := by
      intro v hv
      refine v_X8_sumFrom_61 6 _ _ _ _ _ _ _ _ (s_neighbourOf_t h1 dk.1 nx.2.2.2 ⟨_, rfl, e_ob w1 (s_directionFrom hg gok hw L nx.1 ⟨_, rfl, ?_⟩)⟩)
      rw [nI_1]
      refine ih (_, _) ⟨nx.1, nx.2.2.1, ?_⟩
      rw [hv]
      exact h3
    refine ⟨fun q => go 1 ?_, fun q => e_gr w1 rfl (e_ob hg.1 (s_energyOf hg h1 dk.1 dk.2.1 ?_ ⟨_, rfl, go _ ?_⟩))⟩
    · cases isE
      · rfl
      · exact absurd q (by decide)
    · have wk := wt_ok gok h1 dk.2.1
      rw [wk.1]
      exact nI_nm1 (by omega)
    · cases isE
      · exact absurd rfl q
      · rfl
end WY3
