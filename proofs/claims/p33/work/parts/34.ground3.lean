/-- b is seen from a: at every place between the height is low enough -/
def sp_see (H : Nat → Int32) (ax ay bx by' : Int32) : Prop := ∀ k : Nat, 1 ≤ k → k < 24 → nI k < i_dist ax ay bx by' →
  H (ix (ax + i_fdiv (2 * nI k * (bx - ax) + i_dist ax ay bx by') (2 * i_dist ax ay bx by')) (ay + i_fdiv (2 * nI k * (by' - ay) + i_dist ax ay bx by') (2 * i_dist ax ay bx by'))) ≤ H (ix ax ay) + 3 + (H (ix bx by') - (H (ix ax ay) + 3)) * nI k / i_dist ax ay bx by'
theorem see_in {ax ay bx by' : Int32} (ha : inP ax ay) (hb : inP bx by') {n k : Nat} (en : i_dist ax ay bx by' = nI n) (hn : n < 24) (h1 : -(n : Int) ≤ bx.toInt - ax.toInt) (h2 : bx.toInt - ax.toInt ≤ n) (h3 : -(n : Int) ≤ by'.toInt - ay.toInt) (h4 : by'.toInt - ay.toInt ≤ n) (hk : 1 ≤ k) (hkn : k < n) :
    inP (ax + i_fdiv (2 * nI k * (bx - ax) + nI n) (2 * nI n)) (ay + i_fdiv (2 * nI k * (by' - ay) + nI n) (2 * nI n)) := by
  obtain ⟨a1, a2, a3, a4⟩ := ha
  obtain ⟨b1, b2, b3, b4⟩ := hb
  have e1 : (bx - ax).toInt = bx.toInt - ax.toInt := fb_subI (by omega) (by omega)
  have e2 : (by' - ay).toInt = by'.toInt - ay.toInt := fb_subI (by omega) (by omega)
  have m1 := mid_in (dx := bx - ax) hn (by omega) (by omega) hk hkn
  have m2 := mid_in (dx := by' - ay) hn (by omega) (by omega) hk hkn
  generalize i_fdiv (2 * nI k * (bx - ax) + nI n) (2 * nI n) = f at m1 ⊢
  generalize i_fdiv (2 * nI k * (by' - ay) + nI n) (2 * nI n) = g at m2 ⊢
  have f1 : (ax + f).toInt = ax.toInt + f.toInt := by
    rcases Int.lt_or_le (bx - ax).toInt 0 with q | q
    · have := m1.2 q; exact fb_addI (by omega) (by omega)
    · have := m1.1 q; exact fb_addI (by omega) (by omega)
  have g1 : (ay + g).toInt = ay.toInt + g.toInt := by
    rcases Int.lt_or_le (by' - ay).toInt 0 with q | q
    · have := m2.2 q; exact fb_addI (by omega) (by omega)
    · have := m2.1 q; exact fb_addI (by omega) (by omega)
  unfold inP
  rw [f1, g1]
  refine ⟨?_, ?_, ?_, ?_⟩
  · rcases Int.lt_or_le (bx - ax).toInt 0 with q | q
    · have := m1.2 q; omega
    · have := m1.1 q; omega
  · rcases Int.lt_or_le (bx - ax).toInt 0 with q | q
    · have := m1.2 q; omega
    · have := m1.1 q; omega
  · rcases Int.lt_or_le (by' - ay).toInt 0 with q | q
    · have := m2.2 q; omega
    · have := m2.1 q; omega
  · rcases Int.lt_or_le (by' - ay).toInt 0 with q | q
    · have := m2.2 q; omega
    · have := m2.1 q; omega
section GR3
variable {l : Launch} {d mc ms : Nat} {Q : Option Value → qH → Prop} {QX : String → qH → Prop} {h : qH} {H R Z M : Nat → Int32} {s x y : Int32}
theorem s_isSeen {ax ay bx by' : Int32} (hg : gnd h H R Z M s) (ha : inP ax ay) (hb : inP bx by') (hq : ∀ r : Int32, (r = 1 ∧ sp_see H ax ay bx by') ∨ (r = 0 ∧ ¬ sp_see H ax ay bx by') → Q (some (.int r)) h) : q_Ct l (d + 2) mX1_isSeen [.ref 1, .int ax, .int ay, .int bx, .int by'] h mc ms Q QX := by
  refine v_X1_isSeen 1 ax ay bx by' (s_distance ⟨_, rfl, e_ob hg.1 (s_heightAt hg ha ⟨_, rfl, e_ob hg.1 (s_heightAt hg hb ⟨_, rfl, ?_⟩)⟩)⟩)
  obtain ⟨n, hn, en, h1, h2, h3, h4, -, -⟩ := i_dist_t ha hb
  have hq2 := hq
  unfold sp_see at hq2
  rw [en] at hq2 ⊢
  refine q_loop (fun k0 h' => q_J l (d + 2) mX1_isSeen mc ms Q QX h.2 35 [some (.ref 1), some (.int ax), some (.int ay), some (.int bx), some (.int by'), some (.int (nI n)), some (.int (H (ix ax ay) + 3)), some (.int (H (ix bx by') - (H (ix ax ay) + 3))), some (.int (nI k0)), none, none] [] h' mc ms)
    (fun k0 h' => (h' = h ∧ 1 ≤ k0) ∧ ∀ j : Nat, 1 ≤ j → j < k0 → H (ix (ax + i_fdiv (2 * nI j * (bx - ax) + nI n) (2 * nI n)) (ay + i_fdiv (2 * nI j * (by' - ay) + nI n) (2 * nI n))) ≤ H (ix ax ay) + 3 + (H (ix bx by') - (H (ix ax ay) + 3)) * nI j / nI n) (max n 1) ?_ ?_ 1 h (by omega) ⟨⟨rfl, by omega⟩, fun j q1 q2 => absurd q1 (by omega)⟩
  · rintro h' ⟨⟨rfl, -⟩, hI⟩
    refine v_X1_isSeen_35 _ _ _ _ _ _ _ _ _ ⟨fun _ => hq2 1 (Or.inl ⟨rfl, fun k q1 q0 q2 => hI k q1 ?_⟩), fun q => absurd (nI_le (by omega) (by omega)) q⟩
    have := (nI_ltI (by omega) (by omega)).mp q2
    omega
  · rintro k h' hk ⟨⟨rfl, hk1⟩, hI⟩ ih
    by_cases hkn : n ≤ k
    · refine v_X1_isSeen_35 _ _ _ _ _ _ _ _ _ ⟨fun _ => hq2 1 (Or.inl ⟨rfl, fun k q1 q0 q2 => hI k q1 ?_⟩), fun q => absurd (nI_le hkn (by omega)) q⟩
      have := (nI_ltI (by omega) (by omega)).mp q2
      omega
    have n0 : ¬ nI n = 0 := nI_ne0 (by omega) (by omega)
    have n2 : ¬ (2 : Int32) * nI n = 0 := by
      rw [show (2 : Int32) = nI 2 from rfl, pk_mul]
      exact nI_ne0 (by omega) (by omega)
    refine v_X1_isSeen_35 _ _ _ _ _ _ _ _ _ ⟨fun q => absurd q (nI_ge (by omega) (by omega)), fun _ => ?_⟩
    refine s_floorDiv n2 ⟨_, rfl, s_floorDiv n2 ⟨_, rfl, e_ob hg.1 (s_heightAt hg (see_in ha hb en hn h1 h2 h3 h4 hk1 (by omega)) ⟨_, rfl, n0, fun c => ?_, fun c => ?_⟩)⟩⟩
    · rw [nI_1]
      refine ih _ ⟨⟨rfl, by omega⟩, fun j q1 q2 => ?_⟩
      by_cases e : j = k
      · subst e; exact c
      · exact hI j q1 (by omega)
    · exact hq2 0 (Or.inr ⟨rfl, fun q => c (q k hk1 (by omega) (nI_lt (by omega) (by omega)))⟩)
end GR3
