/-! the model's digest -/
theorem pcF {F : Nat → Int32} {P : PH} {D : DT} {k : Nat} (m : mR F P D) (hk : k < 4 * D.n) : F (34 + k) = pcA D (k / 4) (nI (k % 4)) := by
  have e := m.pc (k / 4) (by omega)
  unfold pcA
  have k4 : k % 4 = 0 ∨ k % 4 = 1 ∨ k % 4 = 2 ∨ k % 4 = 3 := by omega
  rcases k4 with q | q | q | q
  · rw [q, if_pos (show nI 0 = 0 from rfl), ← e.1]; congr 1; omega
  · rw [q, if_neg (show ¬ nI 1 = 0 by decide), if_pos (show nI 1 = 1 from rfl), ← e.2.1]; congr 1; omega
  · rw [q, if_neg (show ¬ nI 2 = 0 by decide), if_neg (show ¬ nI 2 = 1 by decide), if_pos (show nI 2 = 2 from rfl), ← e.2.2.1]; congr 1; omega
  · rw [q, if_neg (show ¬ nI 3 = 0 by decide), if_neg (show ¬ nI 3 = 1 by decide), if_neg (show ¬ nI 3 = 2 by decide), ← e.2.2.2]; congr 1; omega
theorem plF {F : Nat → Int32} {L : PL} {k : Nat} (m : ∀ j, j < L.n → F (3 * j) = L.k j ∧ F (3 * j + 1) = L.a j ∧ F (3 * j + 2) = L.b j) (hk : k < 3 * L.n) : F k = plA L (k / 3) (nI (k % 3)) := by
  have e := m (k / 3) (by omega)
  have k4 : k % 3 = 0 ∨ k % 3 = 1 ∨ k % 3 = 2 := by omega
  rcases k4 with q | q | q
  · rw [q, show nI 0 = 0 from rfl, plA_0, ← e.1]; congr 1; omega
  · rw [q, show nI 1 = 1 from rfl, plA_1, ← e.2.1]; congr 1; omega
  · rw [q, show nI 2 = 2 from rfl, plA_2, ← e.2.2]; congr 1; omega
section MP4
variable {l : Launch} {d mc ms : Nat} {Q : Option Value → qH → Prop} {QX : String → qH → Prop} {h : qH} {A : ST} {s0 s : Int64} {n0 : Nat}
theorem d_5 (st : MSt h A 0) (ok : aOk A) (hq : ∀ s, s = dgF (fun w => cntA A (nI w)) 4 s0 → Q (some (.long (s * 31 + (scoF A A.W.tn).toInt64))) h) (hs : s = s0) : q_J l (d + 3) mX10_digest mc ms Q QX n0 158 [some (.ref 49), some (.long s), none, some (.int 0), none] [] h mc ms := by
  subst hs
  obtain ⟨wy, B⟩ := st.2.1
  have key := q_loop (fun i (st : qH) => ∀ s1, s1 = dgF (fun w => cntA A (nI w)) i s → q_J l (d + 3) mX10_digest mc ms Q QX n0 158 [some (.ref 49), some (.long s1), none, some (.int (nI i)), none] [] st mc ms) (fun i st => st = h) 4 ?_ ?_ 0 h (by omega) rfl
  · exact key s (by rw [dgF_0])
  · rintro h' rfl s1 es
    exact v_X10_digest_158 49 _ (nI 4) ⟨fun _ => e_ob B.1 (m_scoreOf st ok ⟨_, rfl, hq s1 es⟩), fun q => absurd (by decide) q⟩
  · rintro i h' hi rfl ih s1 es
    refine v_X10_digest_158 49 _ (nI i) ⟨fun q => absurd q (nI_nlt (a := 3) (by omega) (by decide)), fun _ => e_ob B.1 (m_counted st ⟨_, rfl, ?_⟩)⟩
    rw [nI_1]
    exact ih h' rfl _ (by rw [es, dgF_s])
theorem d_4 (st : MSt h A 0) (ok : aOk A) (nx : ∀ s, s = dgF (fun k => plA A.L (k / 3) (nI (k % 3))) (3 * A.L.n) s0 → q_J l (d + 3) mX10_digest mc ms Q QX n0 158 [some (.ref 49), some (.long s), none, some (.int 0), none] [] h mc ms) (hs : s = s0) : q_J l (d + 3) mX10_digest mc ms Q QX n0 126 [some (.ref 49), some (.long s), none, some (.int 0), none] [] h mc ms := by
  subst hs
  obtain ⟨wy, B⟩ := st.2.1
  have n9 := ok.2.2.2.1
  have e3 : (3 : Int32) * nI A.L.n = nI (3 * A.L.n) := n30
  obtain ⟨F, b0, eF⟩ := st.2.2.2.2.1
  have key := q_loop (fun i (st : qH) => ∀ s1, s1 = dgF (fun k => plA A.L (k / 3) (nI (k % 3))) i s → q_J l (d + 3) mX10_digest mc ms Q QX n0 126 [some (.ref 49), some (.long s1), none, some (.int (nI i)), none] [] st mc ms) (fun i st => st = h) (3 * A.L.n) ?_ ?_ 0 h (by omega) rfl
  · exact key s (by rw [dgF_0])
  · rintro h' rfl s1 es
    refine v_X10_digest_126 49 _ (nI (3 * A.L.n)) (e_gi B.1 rfl ⟨fun _ => nx s1 es, fun q => absurd ?_ q⟩)
    rw [e3]; exact Int32.le_refl _
  · rintro i h' hi rfl ih s1 es
    refine v_X10_digest_126 49 _ (nI i) (e_gi B.1 rfl ⟨fun q => absurd q ?_, fun _ => e_gr B.1 rfl (e_al (k := i) b0 rfl (by omega) (by decide) ?_)⟩)
    · rw [e3]; exact nI_ge hi (by omega)
    · rw [nI_1, plF eF hi]
      exact ih h' rfl _ (by rw [es, dgF_s])
theorem d_3 (st : MSt h A 0) (ok : aOk A) (nx : ∀ s, s = dgF (fun k => tellT A (k / 6) (nI (k % 6))) (6 * A.W.tn) s0 → q_J l (d + 3) mX10_digest mc ms Q QX n0 126 [some (.ref 49), some (.long s), none, some (.int 0), none] [] h mc ms) (hs : s = s0) : q_J l (d + 3) mX10_digest mc ms Q QX n0 79 [some (.ref 49), some (.long s), none, some (.int 0), none] [] h mc ms := by
  subst hs
  obtain ⟨wy, B⟩ := st.2.1
  have tn := ok.1.tn
  have key := q_loop (fun i (st : qH) => ∀ s1, s1 = dgF (fun k => tellT A (k / 6) (nI (k % 6))) (6 * i) s → q_J l (d + 3) mX10_digest mc ms Q QX n0 79 [some (.ref 49), some (.long s1), none, some (.int (nI i)), none] [] st mc ms) (fun i st => st = h) A.W.tn ?_ ?_ 0 h (by omega) rfl
  · exact key s (by rw [Nat.mul_zero, dgF_0])
  · rintro h' rfl s1 es
    exact v_X10_digest_79 49 _ (nI A.W.tn) (e_gi B.1 rfl ⟨fun _ => nx s1 es, fun q => absurd (Int32.le_refl _) q⟩)
  · rintro i h' hi rfl ih s1 es
    refine v_X10_digest_79 49 _ (nI i) (e_gi B.1 rfl ⟨fun q => absurd q (nI_ge hi (by omega)), fun _ => ?_⟩)
    have ih := ih h' rfl
    refine q_loop (fun w (st : qH) => ∀ s1, s1 = dgF (fun k => tellT A (k / 6) (nI (k % 6))) (6 * i + w) s → q_J l (d + 3) mX10_digest mc ms Q QX n0 90 [some (.ref 49), some (.long s1), none, some (.int (nI i)), some (.int (nI w))] [] st mc ms) (fun w st => st = h') 6 ?_ ?_ 0 h' (by omega) rfl s1 es
    · rintro h rfl s2 es
      refine v_X10_digest_90 49 _ _ (nI 6) ⟨fun _ => ?_, fun q => absurd (by decide) q⟩
      rw [nI_1]
      exact ih s2 es
    · rintro w h hw rfl ih2 s2 es
      refine v_X10_digest_90 49 _ _ (nI w) ⟨fun q => absurd q (nI_nlt (a := 5) (by omega) (by decide)), fun _ => ?_⟩
      have ih2 := ih2 h rfl (s2 * 31 + (tellT A i (nI w)).toInt64) (by
        rw [es, show 6 * i + (w + 1) = (6 * i + w) + 1 by omega, dgF_s, show (6 * i + w) / 6 = i by omega, show (6 * i + w) % 6 = w by omega])
      rw [nI_1]
      exact e_ob B.1 (m_targetTold st ok hi ⟨_, rfl, ih2⟩)
theorem d_2 (st : MSt h A 0) (ok : aOk A) (nx : ∀ s, s = dgF (fun k => pcA A.D (k / 4) (nI (k % 4))) (4 * A.D.n) s0 → q_J l (d + 3) mX10_digest mc ms Q QX n0 79 [some (.ref 49), some (.long s), none, some (.int 0), none] [] h mc ms) (hs : s = s0) : q_J l (d + 3) mX10_digest mc ms Q QX n0 41 [some (.ref 49), some (.long s), none, some (.int 0), none] [] h mc ms := by
  subst hs
  obtain ⟨wy, B⟩ := st.2.1
  have n9 := dOk_n ok.2.1.2
  have v := st.2.2.1
  have e4 : (4 : Int32) * nI A.D.n = nI (4 * A.D.n) := n40
  have key := q_loop (fun i (st : qH) => ∀ s1, s1 = dgF (fun k => pcA A.D (k / 4) (nI (k % 4))) i s → q_J l (d + 3) mX10_digest mc ms Q QX n0 41 [some (.ref 49), some (.long s1), none, some (.int (nI i)), none] [] st mc ms) (fun i st => st = h) (4 * A.D.n) ?_ ?_ 0 h (by omega) rfl
  · exact key s (by rw [dgF_0])
  · rintro h' rfl s1 es
    refine v_X10_digest_41 49 _ (nI (4 * A.D.n)) (e_gr B.1 rfl (mr_n v rfl ⟨fun _ => nx s1 es, fun q => absurd ?_ q⟩))
    rw [e4]; exact Int32.le_refl _
  · rintro i h' hi rfl ih s1 es
    refine v_X10_digest_41 49 _ (nI i) (e_gr B.1 rfl (mr_n v rfl ⟨fun q => absurd q ?_, fun _ => e_gr B.1 rfl (mr_rd (k := 34 + i) v ?_ (by omega) (fun F m => pcF m hi) ?_)⟩))
    · rw [e4]; exact nI_ge hi (by omega)
    · rw [show (34 : Int32) = nI 34 from rfl, nI_add]
    · rw [nI_1]
      exact ih h' rfl _ (by rw [es, dgF_s])
theorem m_digest {th : Int32} (st : MSt h A th) (ok : aOk A) (hq : ∀ h', q_fr mS h h' → MSt h' A 0 → Q (some (.long (R_digest A))) h') : q_Ct l (d + 3) mX10_digest [.ref 49] h mc ms Q QX := by
  refine v_X10_digest 49 (m_set st (fun h1 f1 st => ?_))
  obtain ⟨wy, B⟩ := st.2.1
  have hq := hq h1 f1 st
  have key := q_loop (fun i (st : qH) => ∀ s1, s1 = dgF (fun w => tellA A.P A.D (nI w)) i 337 → q_J l (d + 3) mX10_digest mc ms Q QX h.2 11 [some (.ref 49), some (.long s1), none, some (.int (nI i)), none] [] st mc ms) (fun i st => st = h1) 10 ?_ ?_ 0 h1 (by omega) rfl
  · exact key 337 (by rw [dgF_0])
  · rintro h' rfl s1 es
    refine v_X10_digest_11 49 _ (nI 10) ⟨fun _ => ?_, fun q => absurd (by decide) q⟩
    refine d_2 (s0 := dg1 A) st ok (fun s2 e2 => d_3 (s0 := dg2 A) st ok (fun s3 e3 => d_4 (s0 := dg3 A) st ok (fun s4 e4 => d_5 (s0 := dg4 A) st ok (fun s5 e5 => ?_) ?_) ?_) ?_) ?_
    · rw [e5]; exact hq
    · exact e4
    · exact e3
    · exact e2
    · exact es
  · rintro i h' hi rfl ih s1 es
    refine v_X10_digest_11 49 _ (nI i) ⟨fun q => absurd q (nI_nlt (a := 9) (by omega) (by decide)), fun _ => e_gr B.1 rfl (m_roverTold st.2.2.1 ok.2.1.2 ?_ ⟨_, rfl, ?_⟩)⟩
    · exact ⟨by rw [nI_toInt (by omega)]; omega, by rw [nI_toInt (by omega)]; omega⟩
    · rw [nI_1]
      exact ih h' rfl _ (by rw [es, dgF_s])
end MP4
