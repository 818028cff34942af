/-! the model: activities -/
theorem mR_cong {F G : Nat → Int32} {P : PH} {D : DT} (m : mR F P D) (hn : D.n ≤ 139) (e : ∀ k, k < 594 → G k = F k) : mR G P D := by
  obtain ⟨m0, m1, m2, m3, m4, m5, m6, m7, m8, m9, m10, m11⟩ := m
  refine ⟨(e 0 (by decide)).trans m0, (e 1 (by decide)).trans m1, (e 2 (by decide)).trans m2, (e 3 (by decide)).trans m3, (e 4 (by decide)).trans m4, (e 5 (by decide)).trans m5, (e 6 (by decide)).trans m6, (e 7 (by decide)).trans m7, (e 8 (by decide)).trans m8, (e 9 (by decide)).trans m9, fun k hk => ⟨(e _ (by omega)).trans (m10 k hk).1, (e _ (by omega)).trans (m10 k hk).2⟩, fun i hi => ?_⟩
  have q := m11 i hi
  exact ⟨(e _ (by omega)).trans q.1, (e _ (by omega)).trans q.2.1, (e _ (by omega)).trans q.2.2.1, (e _ (by omega)).trans q.2.2.2⟩
/-- a whole row is copied -/
theorem e_cpR {h : qH} {i j : Nat} {P : PH} {D : DT} {Pr : qH → Prop} (v : MR h i P D) (hn : D.n ≤ 139) (o : arA h j 594) (hp : ∀ h', q_fr (fun x => x = j) h h' → h'.2 = h.2 → MR h' j P D → Pr h') : qCP h i 0 j 0 594 Pr := by
  obtain ⟨F, a, mF⟩ := v
  obtain ⟨G, b⟩ := o
  refine e_cp (a := 0) (b := 0) (n := 594) a b rfl rfl rfl (by decide) (by decide) (by decide) (by decide) (fun h' f z c => hp h' f z ⟨_, c, mR_cong mF hn (fun k hk => ?_)⟩)
  rw [if_pos (by omega), Nat.zero_add, Nat.sub_zero]
theorem mRw_oc {F : Nat → Int32} {P : PH} {D : DT} {k : Nat} {v : Int32} (m : mR F P D) (hk : k < 12) : mR (upd F (10 + k) v) P (DT.mk D.us D.ut D.n D.pt D.pl D.pp D.pg (upd D.oc k v) D.tc) := by
  obtain ⟨m0, m1, m2, m3, m4, m5, m6, m7, m8, m9, m10, m11⟩ := m
  refine ⟨(pk_un (by omega)).trans m0, (pk_un (by omega)).trans m1, (pk_un (by omega)).trans m2, (pk_un (by omega)).trans m3, (pk_un (by omega)).trans m4, (pk_un (by omega)).trans m5, (pk_un (by omega)).trans m6, (pk_un (by omega)).trans m7, (pk_un (by omega)).trans m8, (pk_un (by omega)).trans m9, fun j hj => ⟨?_, (pk_un (by omega)).trans (m10 j hj).2⟩, fun i hi => ?_⟩
  · show upd F (10 + k) v (10 + j) = upd D.oc k v j
    by_cases e : j = k
    · subst e; rw [pk_us, pk_us]
    · rw [pk_un e, pk_un (by omega)]; exact (m10 j hj).1
  · have q := m11 i hi
    exact ⟨(pk_un (by omega)).trans q.1, (pk_un (by omega)).trans q.2.1, (pk_un (by omega)).trans q.2.2.1, (pk_un (by omega)).trans q.2.2.2⟩
theorem mRw_tc {F : Nat → Int32} {P : PH} {D : DT} {k : Nat} {v : Int32} (m : mR F P D) (hk : k < 12) : mR (upd F (22 + k) v) P (DT.mk D.us D.ut D.n D.pt D.pl D.pp D.pg D.oc (upd D.tc k v)) := by
  obtain ⟨m0, m1, m2, m3, m4, m5, m6, m7, m8, m9, m10, m11⟩ := m
  refine ⟨(pk_un (by omega)).trans m0, (pk_un (by omega)).trans m1, (pk_un (by omega)).trans m2, (pk_un (by omega)).trans m3, (pk_un (by omega)).trans m4, (pk_un (by omega)).trans m5, (pk_un (by omega)).trans m6, (pk_un (by omega)).trans m7, (pk_un (by omega)).trans m8, (pk_un (by omega)).trans m9, fun j hj => ⟨(pk_un (by omega)).trans (m10 j hj).1, ?_⟩, fun i hi => ?_⟩
  · show upd F (22 + k) v (22 + j) = upd D.tc k v j
    by_cases e : j = k
    · subst e; rw [pk_us, pk_us]
    · rw [pk_un e, pk_un (by omega)]; exact (m10 j hj).2
  · have q := m11 i hi
    exact ⟨(pk_un (by omega)).trans q.1, (pk_un (by omega)).trans q.2.1, (pk_un (by omega)).trans q.2.2.1, (pk_un (by omega)).trans q.2.2.2⟩
theorem mRw_pl {F : Nat → Int32} {P : PH} {D : DT} {p : Nat} {v : Int32} (m : mR F P D) : mR (upd F (34 + 4 * p + 1) v) P (DT.mk D.us D.ut D.n D.pt (upd D.pl p v) D.pp D.pg D.oc D.tc) := by
  obtain ⟨m0, m1, m2, m3, m4, m5, m6, m7, m8, m9, m10, m11⟩ := m
  refine ⟨(pk_un (by omega)).trans m0, (pk_un (by omega)).trans m1, (pk_un (by omega)).trans m2, (pk_un (by omega)).trans m3, (pk_un (by omega)).trans m4, (pk_un (by omega)).trans m5, (pk_un (by omega)).trans m6, (pk_un (by omega)).trans m7, (pk_un (by omega)).trans m8, (pk_un (by omega)).trans m9, fun j hj => ⟨(pk_un (by omega)).trans (m10 j hj).1, (pk_un (by omega)).trans (m10 j hj).2⟩, fun i hi => ?_⟩
  have q := m11 i hi
  refine ⟨(pk_un (by omega)).trans q.1, ?_, (pk_un (by omega)).trans q.2.2.1, (pk_un (by omega)).trans q.2.2.2⟩
  show upd F (34 + 4 * p + 1) v (34 + 4 * i + 1) = upd D.pl p v i
  by_cases e : i = p
  · subst e; rw [pk_us, pk_us]
  · rw [pk_un e, pk_un (by omega)]; exact q.2.1
def delD (D : DT) (p : Nat) : DT := DT.mk D.us D.ut (D.n - 1) (del D.pt p) (del D.pl p) (del D.pp p) (del D.pg p) D.oc D.tc
theorem mR_gone {F G : Nat → Int32} {P : PH} {D : DT} {p : Nat} (m : mR F P D) (hp : p < D.n) (e9 : G 9 = nI (D.n - 1)) (e : ∀ k, k ≠ 9 → (k < 34 + 4 * p ∨ 34 + 4 * p + 4 * (D.n - 1 - p) ≤ k) → G k = F k) (e2 : ∀ k, 34 + 4 * p ≤ k → k < 34 + 4 * p + 4 * (D.n - 1 - p) → G k = F (k + 4)) : mR G P (delD D p) := by
  obtain ⟨m0, m1, m2, m3, m4, m5, m6, m7, m8, m9, m10, m11⟩ := m
  refine ⟨(e 0 (by omega) (by omega)).trans m0, (e 1 (by omega) (by omega)).trans m1, (e 2 (by omega) (by omega)).trans m2, (e 3 (by omega) (by omega)).trans m3, (e 4 (by omega) (by omega)).trans m4, (e 5 (by omega) (by omega)).trans m5, (e 6 (by omega) (by omega)).trans m6, (e 7 (by omega) (by omega)).trans m7, (e 8 (by omega) (by omega)).trans m8, e9, fun k hk => ⟨(e _ (by omega) (by omega)).trans (m10 k hk).1, (e _ (by omega) (by omega)).trans (m10 k hk).2⟩, fun i hi => ?_⟩
  change i < D.n - 1 at hi
  show G (34 + 4 * i) = del D.pt p i ∧ G (34 + 4 * i + 1) = del D.pl p i ∧ G (34 + 4 * i + 2) = del D.pp p i ∧ G (34 + 4 * i + 3) = del D.pg p i
  unfold del
  by_cases q : i < p
  · rw [if_pos q, if_pos q, if_pos q, if_pos q]
    have r := m11 i (by omega)
    exact ⟨(e _ (by omega) (by omega)).trans r.1, (e _ (by omega) (by omega)).trans r.2.1, (e _ (by omega) (by omega)).trans r.2.2.1, (e _ (by omega) (by omega)).trans r.2.2.2⟩
  · rw [if_neg q, if_neg q, if_neg q, if_neg q]
    have r := m11 (i + 1) (by omega)
    exact ⟨(e2 _ (by omega) (by omega)).trans r.1, (e2 _ (by omega) (by omega)).trans r.2.1, (e2 _ (by omega) (by omega)).trans r.2.2.1, (e2 _ (by omega) (by omega)).trans r.2.2.2⟩
theorem mR_keep {F G : Nat → Int32} {P : PH} {D : DT} {tg size pr sg : Int32} (m : mR F P D) (e8 : G 8 = D.ut + size) (e9 : G 9 = nI (D.n + 1)) (e : ∀ k, k ≠ 8 → k ≠ 9 → k < 34 + 4 * D.n → G k = F k) (a0 : G (34 + 4 * D.n) = tg) (a1 : G (34 + 4 * D.n + 1) = size) (a2 : G (34 + 4 * D.n + 2) = pr) (a3 : G (34 + 4 * D.n + 3) = sg) : mR G P (keepA D tg size pr sg) := by
  obtain ⟨m0, m1, m2, m3, m4, m5, m6, m7, m8, m9, m10, m11⟩ := m
  refine ⟨(e 0 (by omega) (by omega) (by omega)).trans m0, (e 1 (by omega) (by omega) (by omega)).trans m1, (e 2 (by omega) (by omega) (by omega)).trans m2, (e 3 (by omega) (by omega) (by omega)).trans m3, (e 4 (by omega) (by omega) (by omega)).trans m4, (e 5 (by omega) (by omega) (by omega)).trans m5, (e 6 (by omega) (by omega) (by omega)).trans m6, (e 7 (by omega) (by omega) (by omega)).trans m7, e8, e9, fun k hk => ⟨(e _ (by omega) (by omega) (by omega)).trans (m10 k hk).1, (e _ (by omega) (by omega) (by omega)).trans (m10 k hk).2⟩, fun i hi => ?_⟩
  change i < D.n + 1 at hi
  show G (34 + 4 * i) = upd D.pt D.n tg i ∧ G (34 + 4 * i + 1) = upd D.pl D.n size i ∧ G (34 + 4 * i + 2) = upd D.pp D.n pr i ∧ G (34 + 4 * i + 3) = upd D.pg D.n sg i
  by_cases q : i = D.n
  · subst q; rw [pk_us, pk_us, pk_us, pk_us]; exact ⟨a0, a1, a2, a3⟩
  · rw [pk_un q, pk_un q, pk_un q, pk_un q]
    have r := m11 i (by omega)
    exact ⟨(e _ (by omega) (by omega) (by omega)).trans r.1, (e _ (by omega) (by omega) (by omega)).trans r.2.1, (e _ (by omega) (by omega) (by omega)).trans r.2.2.1, (e _ (by omega) (by omega) (by omega)).trans r.2.2.2⟩
theorem passA_t {cap use : Int32} {aw : Bool} {P : PH} (h : pOk P) (h0 : (passA cap use aw P).1 = 0) : (passA cap use aw P).2.t.toInt = P.t.toInt + 1 := by
  unfold passA at h0 ⊢
  by_cases q : P.t < 14400
  · rw [if_pos q] at h0 ⊢
    by_cases q2 : 0 ≤ btA use aw P
    · rw [if_pos q2]
      show (P.t + 1).toInt = _
      have := h.2.1
      have := h.2.2.1
      rw [fb_addI (by rw [L_1]; omega) (by rw [L_1]; omega), L_1]
    · rw [if_neg q2] at h0
      exact absurd h0 (by decide : ¬ (2 : Int32) = 0)
  · rw [if_neg q] at h0
    exact absurd h0 (by decide : ¬ (7 : Int32) = 0)
theorem sendF_0 {f : Nat} {D : DT} {z : Int32} (hz : z ≤ 0) : sendF f z D = D := by
  cases f with
  | zero => rfl
  | succ f => unfold sendF; rw [if_pos hz]
section MD5
variable {l : Launch} {d mc ms : Nat} {Q : Option Value → qH → Prop} {QX : String → qH → Prop} {h : qH} {W : WS} {n m r : Nat} {th wy : Int32} {P : PH} {D : DT}
theorem m_isGone {p : Nat} (v : MR h r P D) (hn : D.n ≤ 133) (hT : dT D) (hp : p < D.n) (hq : ∀ h', q_fr (fun j => j = r) h h' → h'.2 = h.2 → MR h' r P (finA D p) → Q none h') : q_Ct l (d + 1) mX10_isGone [.ref r, .int (nI p)] h mc ms Q QX := by
  obtain ⟨k, hk, ek⟩ := hT p hp
  have ck : (D.pt p).toNatClampNeg = k := by rw [ek, nI_clamp (by omega)]
  have tail : ∀ (h1 : qH) (D1 : DT) (z9 : Int32), q_fr (fun j => j = r) h h1 → h1.2 = h.2 → MR h1 r P D1 → D1.n = D.n → delD D1 p = finA D p → q_J l (d + 1) mX10_isGone mc ms Q QX h.2 48 [some (.ref r), some (.int (nI p)), some (.int (nI k)), some (.int z9)] [] h1 mc ms := by
    rintro h1 D1 z9 f1 z1 ⟨F, a, mF⟩ en ed
    have e9 := mF.n
    refine v_X10_isGone_48 r _ _ _ (e_al (k := 9) a rfl (by decide) (by decide) ?_)
    rw [e9, en]
    have em : nI D.n - 1 = nI (D.n - 1) := by
      obtain ⟨n', e⟩ : ∃ n', D.n = n' + 1 := ⟨D.n - 1, by omega⟩
      rw [e, nI_pred]; rfl
    rw [em]
    refine e_as (k := 9) a rfl (by decide) (by decide) (fun h2 f2 z2 b => ?_)
    refine e_al (k := 9) b rfl (by decide) (by decide) ?_
    rw [pk_us, pk_sub (by omega)]
    refine e_cp (a := 34 + 4 * (p + 1)) (b := 34 + 4 * p) (n := 4 * (D.n - 1 - p)) b b ?_ n34 ?_ (by omega) (by omega) (by decide) (by decide) (fun h3 f3 z3 c => ?_)
    · rw [nI_1, n34]
    · rw [show (4 : Int32) = nI 4 from rfl, pk_mul]
    refine hq h3 ((f1.tt f2).tt f3) (by rw [z3, z2, z1]) ⟨_, c, ?_⟩
    rw [← ed]
    refine mR_gone mF (by omega) ?_ (fun k hk q => ?_) (fun k q1 q2 => ?_)
    · rw [if_neg (by omega), pk_us, en]
    · rw [en] at q
      rw [if_neg (by omega), pk_un hk]
    · rw [en] at q2
      rw [if_pos (by omega), pk_un (by omega), show 34 + 4 * (p + 1) + (k - (34 + 4 * p)) = k + 4 by omega]
  refine v_X10_isGone r _ (mr_pt v hn hp n34 (mr_pg v hn hp (n34' (b := 3) rfl) ?_))
  rw [ek]
  refine ⟨fun q => ?_, fun q => mr_oc (k := k) v hk (by rw [show (10 : Int32) = nI 10 from rfl, nI_add]) ?_⟩
  · refine mr_wr (k := 22 + k) v (by rw [show (22 : Int32) = nI 22 from rfl, nI_add]) (by omega) (fun F m => mRw_tc m hk) (fun h1 f1 z1 v1 => tail h1 _ _ f1 z1 v1 rfl ?_)
    unfold finA delD
    rw [ck]
    simp only [if_pos q]
    rfl
  · refine mr_wr (k := 10 + k) v (by rw [show (10 : Int32) = nI 10 from rfl, nI_add]) (by omega) (fun F m => mRw_oc m hk) (fun h1 f1 z1 v1 => tail h1 _ _ f1 z1 v1 rfl ?_)
    unfold finA delD
    rw [ck]
    simp only [if_neg q]
    rfl
/-- the units of one minute -/
theorem m_send60 {z y k : Int32} {cnt : Int32} {h0 : qH} (hf : q_fr (fun j => j = r) h0 h) (hz : h.2 = h0.2) (v : MR h r P D) (hd : dOk D)
    (hq : ∀ h', q_fr (fun j => j = r) h0 h' → h'.2 = h0.2 → MR h' r P (sendF 133 z D) → q_J l (d + 4) mX10_send mc ms Q QX h0.2 22 [some (.ref 49), some (.ref r), some (.int cnt), some (.int y), some (.int (k + 1)), none, none, none] [] h' mc ms) :
    q_J l (d + 4) mX10_send mc ms Q QX h0.2 60 [some (.ref 49), some (.ref r), some (.int cnt), some (.int y), some (.int k), some (.int z), none, none] [] h mc ms := by
  refine q_loop (fun i (st : (Int32 × DT) × qH) => q_J l (d + 4) mX10_send mc ms Q QX h0.2 60 [some (.ref 49), some (.ref r), some (.int cnt), some (.int y), some (.int k), some (.int st.1.1), none, none] [] st.2 mc ms)
    (fun i st => q_fr (fun j => j = r) h0 st.2 ∧ st.2.2 = h0.2 ∧ MR st.2 r P st.1.2 ∧ dOk st.1.2 ∧ (st.1.2.n + i ≤ 133 ∨ st.1.1 ≤ 0) ∧ sendF (133 - i) st.1.1 st.1.2 = sendF 133 z D) 133 ?_ ?_ 0 ((z, D), h) (by omega) ⟨hf, hz, v, hd, Or.inl (by have := dOk_n hd; simpa using this), rfl⟩
  · rintro ⟨⟨rest, D'⟩, h'⟩ ⟨f, zz, v', hd', hc, e⟩
    rw [Nat.sub_self, sendF] at e
    dsimp only at f zz v' hd' hc e ⊢
    rw [← e] at hq
    refine v_X10_send_60 49 r _ _ _ _ ⟨fun _ => hq h' f zz v', fun q => mr_n v' rfl ⟨fun _ => hq h' f zz v', fun q2 => absurd ?_ q2⟩⟩
    have : D'.n = 0 := by
      rcases hc with c | c
      · omega
      · exact absurd c q
    rw [this]; decide
  · rintro i ⟨⟨rest, D'⟩, h'⟩ hi ⟨f, zz, v', hd', hc, e⟩ ih
    rw [show 133 - i = (133 - (i + 1)) + 1 by omega, sendF] at e
    dsimp only at f zz v' hd' hc e ⊢
    have n0 := dOk_n hd'
    refine v_X10_send_60 49 r _ _ _ _ ⟨fun q => ?_, fun q => mr_n v' rfl ⟨fun q2 => ?_, fun q2 => ?_⟩⟩
    · rw [if_pos q] at e
      rw [← e] at hq
      exact hq h' f zz v'
    · rw [if_neg q] at e
      have en : D'.n = 0 := by
        by_cases en : D'.n = 0
        · exact en
        · exact absurd q2 (nI_nle (by omega) (by omega))
      rw [if_pos en] at e
      rw [← e] at hq
      exact hq h' f zz v'
    rw [if_neg q] at e
    have en : ¬ D'.n = 0 := fun en => by rw [en] at q2; exact absurd (by decide) q2
    rw [if_neg en] at e
    have hn : 0 < D'.n := by omega
    have up := urg_lt D'.pp D'.n hn
    have pr := part_rng (p := urg D'.pp D'.n) (hd'.2.2.2.2.1 _ up) q
    have po := part_ok hd' hn pr
    refine m_nextPiece v' hd' hn ⟨_, rfl, ?_⟩
    generalize urg D'.pp D'.n = p at e up pr po ⊢
    refine mr_pl v' n0 up (n34' (b := 1) rfl) (mr_pl v' n0 up (n34' (b := 1) rfl) ?_)
    generalize hpart : (if D'.pl p < rest then D'.pl p else rest) = part at e pr po ⊢
    refine mr_wr (k := 34 + 4 * p + 1) v' (n34' (b := 1) rfl) (by omega) (fun F q => mRw_pl q) (fun h1 f1 z1 v1 => ?_)
    refine mr_rd (k := 7) v1 rfl (by decide) (fun F q => q.us) (mr_wr (k := 7) v1 rfl (by decide) (fun F q => mRw_us q) (fun h2 f2 z2 v2 => ?_))
    have v2 : MR h2 r P (partA D' p part) := v2
    have F2 : q_fr (fun j => j = r) h0 h2 := (f.tt f1).tt f2
    have Z2 : h2.2 = h0.2 := by rw [z2, z1, zz]
    refine mr_pl v2 n0 up (n34' (b := 1) rfl) ?_
    show qIF (upd D'.pl p (D'.pl p - part) p = 0) _ _
    rw [pk_us]
    refine ⟨fun q5 => ?_, fun q5 => ?_⟩
    · rw [if_pos q5] at e
      refine m_isGone v2 n0 hd'.1 up (fun h3 f3 z3 v3 => ⟨rfl, ?_⟩)
      refine ih ((rest - part, finA (partA D' p part) p), h3) ⟨F2.tt f3, z3.trans Z2, v3, po.1 q5, ?_, e⟩
      rcases hc with c | c
      · left
        show D'.n - 1 + (i + 1) ≤ 133
        omega
      · exact absurd c q
    · rw [if_neg q5] at e
      refine ih ((rest - part, partA D' p part), h2) ⟨F2, Z2, v2, po.2 q5, Or.inr ?_, e⟩
      have ep : part = rest := by
        rw [← hpart] at q5 ⊢
        by_cases c : D'.pl p < rest
        · rw [if_pos c] at q5
          exact absurd (by grind) q5
        · rw [if_neg c]
      show rest - part ≤ 0
      rw [ep, show rest - rest = (0 : Int32) by grind]
      decide
theorem m_send {k : Nat} (hr : r ≠ 49 ∧ r ≠ 54) (mo : MO h W n m th wy) (t : MPs h W) (hw : wOk W) (v : MR h r P D) (hp : pOk P) (hd : dOk D) (hk : k < 2 ^ 31)
    (hq : ∀ h', q_fr (fun j => j = r) h h' → h'.2 = h.2 → ((transA W (nI k) P D).1 = 0 → MR h' r (transA W (nI k) P D).2.1 (transA W (nI k) P D).2.2) → (∃ P' D', MR h' r P' D') → Q (some (.int (transA W (nI k) P D).1)) h') : q_Ct l (d + 4) mX10_send [.ref 49, .ref r, .int (nI k)] h mc ms Q QX := by
  unfold transA at hq
  rw [nI_clamp hk] at hq
  refine v_X10_send 49 r _ (mr_rd (k := 0) v rfl (by decide) (fun F q => q.t) (e_ob mo (m_rateAt (z := mnt P.t) mo t hw ⟨_, rfl, fun q1 => ?_, fun q1 => ?_⟩)))
  · rw [if_pos q1] at hq
    exact hq h q_fr.rf rfl (fun q => absurd q (by decide : ¬ (6 : Int32) = 0)) ⟨_, _, v⟩
  rw [if_neg q1] at hq
  refine q_loop (fun i (st : (PH × DT) × qH) => q_J l (d + 4) mX10_send mc ms Q QX h.2 22 [some (.ref 49), some (.ref r), some (.int (nI k)), some (.int 0), some (.int (nI i)), none, none, none] [] st.2 mc ms)
    (fun i st => q_fr (fun j => j = r) h st.2 ∧ st.2.2 = h.2 ∧ MR st.2 r st.1.1 st.1.2 ∧ pOk st.1.1 ∧ dOk st.1.2 ∧ transF W (k - i) st.1.1 st.1.2 = transF W k P D) k ?_ ?_ 0 ((P, D), h) (by omega) ⟨q_fr.rf, rfl, v, hp, hd, rfl⟩
  · rintro ⟨⟨P', D'⟩, h'⟩ ⟨f, z, v', hp', hd', e⟩
    rw [Nat.sub_self, transF] at e
    dsimp only at f z v' hp' hd' e ⊢
    rw [← e] at hq
    exact v_X10_send_22 49 r _ _ (nI k) ⟨fun _ => hq h' f z (fun _ => v') ⟨_, _, v'⟩, fun q => absurd (Int32.le_refl _) q⟩
  · rintro i ⟨⟨P', D'⟩, h'⟩ hi ⟨f, z, v', hp', hd', e⟩ ih
    rw [show k - i = (k - (i + 1)) + 1 by omega, transF] at e
    dsimp only at f z v' hp' hd' e ⊢
    have n0 := dOk_n hd'
    have mo' := mo.fr f (fun e => hr.1 e.symm)
    have t' := t.fr f (fun e => hr.2 e.symm)
    refine v_X10_send_22 49 r _ _ (nI i) ⟨fun q => absurd q (nI_ge hi hk), fun _ => ⟨fun _ => mr_n v' rfl ⟨fun q2 => ?_, fun q2 => ?_⟩, fun q => absurd rfl q⟩⟩
    · have en : D'.n = 0 := by
        by_cases en : D'.n = 0
        · exact en
        · exact absurd q2 (nI_nle (by omega) (by omega))
      rw [if_pos en] at e
      rw [← e] at hq
      exact hq h' f z (fun _ => v') ⟨_, _, v'⟩
    have en : ¬ D'.n = 0 := fun en => by rw [en] at q2; exact absurd (by decide) q2
    rw [if_neg en, passN_1] at e
    refine mr_rd (k := 0) v' rfl (by decide) (fun F q => q.t) (e_ob mo' (m_rateAt (z := mnt P'.t) mo' t' hw ⟨_, rfl, e_ob mo' (m_pass (aw := true) hr.1 mo' v' hp' (fun h2 f2 z2 v2 u2 => ⟨_, rfl, ?_⟩))⟩))
    by_cases q3 : (passA W.cap 4 true P').1 = 0
    · rw [if_pos q3] at e
      refine m_send60 (f.tt f2) (z2.trans z) (v2 q3) hd' (fun h3 f3 z3 v3 => ?_)
      rw [nI_1, q3]
      exact ih (((passA W.cap 4 true P').2, sendF 133 (rateA W (mnt P'.t)) D'), h3) ⟨f3, z3, v3, passA_ok hp', sendF_ok _ _ hd', e⟩
    · rw [if_neg q3] at e
      obtain ⟨P2, u2⟩ := u2
      refine m_send60 (f.tt f2) (z2.trans z) u2 hd' (fun h3 f3 z3 v3 => ?_)
      rw [← e] at hq
      have fin := hq h3 f3 z3 (fun q => absurd q q3) ⟨_, _, v3⟩
      exact v_X10_send_22 49 r _ _ _ ⟨fun _ => fin, fun _ => ⟨fun q => absurd q q3, fun _ => fin⟩⟩
theorem m_rest {a : Int32} {aw : Bool} (hr : r ≠ 49) (mo : MO h W n m th wy) (v : MR h r P D) (hp : pOk P) (ha : 0 ≤ a.toInt ∧ a.toInt < 1440)
    (hq : ∀ h', q_fr (fun j => j = r) h h' → h'.2 = h.2 → ((restA W a aw P).1 = 0 → MR h' r (restA W a aw P).2 D) → (∃ P', MR h' r P' D) → Q (some (.int (restA W a aw P).1)) h') : q_Ct l (d + 4) mX10_rest [.ref 49, .ref r, .int a, .int (i_aw aw)] h mc ms Q QX := by
  obtain ⟨k, k1, k2, en, ek⟩ := rest_n ha ⟨hp.2.1, hp.2.2.1⟩
  unfold restA at hq
  rw [en, nI_clamp (by omega)] at hq
  -- behind a minute
  have after : ∀ (i : Nat) (P' : PH) (h' : qH), q_fr (fun j => j = r) h h' → h'.2 = h.2 → MR h' r P' D → pOk P' → i < k → passN W.cap 0 aw (k - i) P' = passN W.cap 0 aw k P →
      (∀ P2 h2, q_fr (fun j => j = r) h h2 → h2.2 = h.2 → MR h2 r P2 D → pOk P2 → P2.t.toInt = P'.t.toInt + 1 → passN W.cap 0 aw (k - (i + 1)) P2 = passN W.cap 0 aw k P → q_J l (d + 4) mX10_rest mc ms Q QX h.2 9 [some (.ref 49), some (.ref r), some (.int a), some (.int (i_aw aw)), some (.int 0)] [] h2 mc ms) →
      qCI l (d + 3) mX10_pass [.ref 49, .ref r, .int 0, .int (i_aw aw)] h' 0 0 (fun z3 h2 => q_J l (d + 4) mX10_rest mc ms Q QX h.2 9 [some (.ref 49), some (.ref r), some (.int a), some (.int (i_aw aw)), some (.int z3)] [] h2 mc ms) := by
    intro i P' h' f z v' hp' hi e go
    rw [show k - i = (k - (i + 1)) + 1 by omega, passN] at e
    refine m_pass hr (mo.fr f (fun e => hr e.symm)) v' hp' (fun h2 f2 z2 v2 u2 => ⟨_, rfl, ?_⟩)
    by_cases q : (passA W.cap 0 aw P').1 = 0
    · rw [if_pos q] at e
      rw [q]
      exact go _ h2 (f.tt f2) (z2.trans z) (v2 q) (passA_ok hp') (passA_t hp' q) e
    · rw [if_neg q] at e
      rw [← e] at hq
      exact v_X10_rest_9 49 r _ _ _ ⟨fun r => absurd r q, fun _ => hq h2 (f.tt f2) (z2.trans z) (fun r => absurd r q) u2⟩
  refine v_X10_rest 49 r _ _ (e_ob mo (after 0 P h q_fr.rf rfl v hp (by omega) rfl (fun P1 h1 f1 z1 v1 hp1 t1 e1 => ?_)))
  refine q_loop (fun i (st : PH × qH) => q_J l (d + 4) mX10_rest mc ms Q QX h.2 9 [some (.ref 49), some (.ref r), some (.int a), some (.int (i_aw aw)), some (.int 0)] [] st.2 mc ms)
    (fun i st => 1 ≤ i ∧ q_fr (fun j => j = r) h st.2 ∧ st.2.2 = h.2 ∧ MR st.2 r st.1 D ∧ pOk st.1 ∧ st.1.t.toInt = P.t.toInt + i ∧ passN W.cap 0 aw (k - i) st.1 = passN W.cap 0 aw k P) k ?_ ?_ 1 (P1, h1) k1 ⟨by omega, f1, z1, v1, hp1, t1, e1⟩
  · rintro ⟨P', h'⟩ ⟨-, f, z, v', hp', ht, e⟩
    rw [Nat.sub_self, passN] at e
    dsimp only at f z v' hp' ht e ⊢
    rw [← e] at hq
    have mt := mnt_t ⟨hp'.2.1, hp'.2.2.1⟩
    refine v_X10_rest_9 49 r _ _ _ ⟨fun _ => mr_rd (k := 0) v' rfl (by decide) (fun F q => q.t) ⟨fun _ => hq h' f z (fun _ => v') ⟨_, v'⟩, fun q => absurd ?_ q⟩, fun q => absurd rfl q⟩
    show mnt P'.t = a
    exact Int32.toInt_inj.mp (by rw [mt, ht]; omega)
  · rintro i ⟨P', h'⟩ hi ⟨i1, f, z, v', hp', ht, e⟩ ih
    dsimp only at f z v' hp' ht e ⊢
    have mt := mnt_t ⟨hp'.2.1, hp'.2.2.1⟩
    refine v_X10_rest_9 49 r _ _ _ ⟨fun _ => mr_rd (k := 0) v' rfl (by decide) (fun F q => q.t) ⟨fun q => ?_, fun _ => ?_⟩, fun q => absurd rfl q⟩
    · have q2 : mnt P'.t = a := q
      rw [q2, ht] at mt
      exfalso
      omega
    · exact e_ob (mo.fr f (fun e => hr e.symm)) (after i P' h' f z v' hp' hi e (fun P2 h2 f2 z2 v2 hp2 t2 e2 => ih (P2, h2) ⟨by omega, f2, z2, v2, hp2, by show P2.t.toInt = _; rw [t2, ht]; omega, e2⟩))
theorem m_clean (hr : r ≠ 49) (mo : MO h W n m th wy) (v : MR h r P D) (hp : pOk P)
    (hq : ∀ h', q_fr (fun j => j = r) h h' → h'.2 = h.2 → ((cleanA W P).1 = 0 → MR h' r (cleanA W P).2 D) → (∃ P', MR h' r P' D) → Q (some (.int (cleanA W P).1)) h') : q_Ct l (d + 5) mX10_clean [.ref 49, .ref r] h mc ms Q QX := by
  unfold cleanA at hq
  refine v_X10_clean 49 r (e_ob mo (m_passMany (k := 15) (aw := true) hr mo v hp (by decide) (fun h1 f1 z1 v1 u1 => ⟨_, rfl, ?_⟩)))
  by_cases q : (passN W.cap 6 true 15 P).1 = 0
  · rw [if_pos q] at hq
    have v1 := v1 q
    refine mr_rd (k := 6) v1 rfl (by decide) (fun F q => q.cl) (mr_wr (k := 6) v1 rfl (by decide) (fun F q => mRw_cl q) (fun h2 f2 z2 v2 => ?_))
    rw [q]
    exact hq h2 (f1.tt f2) (z2.trans z1) (fun _ => v2) ⟨_, v2⟩
  · rw [if_neg q] at hq
    obtain ⟨P1, u1⟩ := u1
    refine mr_rd (k := 6) u1 rfl (by decide) (fun F q => q.cl) (mr_wr (k := 6) u1 rfl (by decide) (fun F q => mRw_cl q) (fun h2 f2 z2 v2 => ?_))
    exact hq h2 (f1.tt f2) (z2.trans z1) (fun r => absurd r q) ⟨_, v2⟩
/-- a piece is kept -/
theorem m_said {size pr sg x5 x6 x7 : Int32} {tch : Bool} {k : Nat} {h0 : qH} (hkc : 1 ≤ mc) (hks : 4 ≤ ms) (hk : k < 12) (v : MR h r P D) (hn : D.n < 133) (f0 : q_fr (fun j => j = r) h0 h) (z0 : h.2 = h0.2)
    (ht : tch = true → sg = 9) (hf : tch = false → inP P.x P.y ∧ inP x5 x6 ∧ sg = nI (sp_oct (i_cmp P.x x5) (i_cmp P.y x6)))
    (fin : ∀ h2, q_fr (fun j => j = r) h0 h2 → MR h2 r P (keepA D (nI k) size pr sg) → Q (some (.int 0)) h2) :
    q_J l (d + 5) mX10_take mc ms Q QX h0.2 140 [some (.ref 49), some (.ref r), some (.int (i_aw tch)), some (.int (nI k)), some (.int pr), some (.int x5), some (.int x6), some (.int x7), some (.int size), none, none] [.int 0] h mc ms := by
  have hrl : r < h.2 := v.elim fun F q => q.1.1
  refine v_X10_take_140 hkc hks 49 r _ _ _ _ _ _ _ _ ⟨fun _ => e_ni (S := fun _ => False) (fun h2 f2 z2 a2 => ?_), fun q => absurd rfl q⟩
  have ra : r ≠ h.2 := by omega
  have v2 := v.fr f2 (fun q => q)
  generalize ha : h.2 = a at z0 hrl z2 a2 ra ⊢
  refine e_as (k := 0) a2 rfl (by decide) (by decide) (fun h3 f3 z3 a3 => ?_)
  refine e_as (k := 1) a3 rfl (by decide) (by decide) (fun h4 f4 z4 a4 => ?_)
  refine e_as (k := 2) a4 rfl (by decide) (by decide) (fun h5 f5 z5 a5 => ?_)
  have v5 : MR h5 r P D := ((v2.fr f3 ra).fr f4 ra).fr f5 ra
  have g0 : q_fr (fun j => j = r) h0 h5 := by
    refine f0.tr ((f2.tr f3 (fun _ _ q => absurd q (fun q => q)) (fun i _ q => q) (S3 := fun j => j = a)).tr (f4.tt f5) (fun _ _ q => q) (fun _ _ q => q)) (fun _ _ q => q) (fun i hi q => ?_)
    exact absurd hi (by rw [show i = a from q]; omega)
  -- the fourth, and all of it into the row
  have last : q_J l (d + 5) mX10_take mc ms Q QX h0.2 191 [some (.ref 49), some (.ref r), some (.int (i_aw tch)), some (.int (nI k)), some (.int pr), some (.int x5), some (.int x6), some (.int x7), some (.int size), some (.int 0), none] [.int sg, .int 3, .ref a, .ref a] h5 (mc - 1) (ms - 4) := by
    refine v_X10_take_191 49 r _ _ _ _ _ _ _ _ _ _ _ _ (e_as (k := 3) a5 rfl (by decide) (by decide) (fun h6 f6 z6 a6 => ?_))
    have v6 : MR h6 r P D := v5.fr f6 ra
    obtain ⟨F, b, mF⟩ := v6
    refine e_al (k := 9) b rfl (by decide) (by decide) ?_
    rw [mF.n]
    refine e_cp (a := 0) (b := 34 + 4 * D.n) (n := 4) a6 b rfl n34 rfl (by decide) (by omega) (by decide) (by decide) (fun h7 f7 z7 c => ?_)
    refine e_al (k := 9) c rfl (by decide) (by decide) ?_
    rw [if_neg (by omega), mF.n, nI_1]
    refine e_as (k := 9) c rfl (by decide) (by decide) (fun h8 f8 z8 c8 => ?_)
    refine e_al (k := 8) c8 rfl (by decide) (by decide) ?_
    rw [pk_un (by decide), if_neg (by omega), mF.ut]
    refine e_as (k := 8) c8 rfl (by decide) (by decide) (fun h9 f9 z9 c9 => ?_)
    have g9 : q_fr (fun j => j = r) h0 h9 := by
      refine (g0.tr f6 (fun _ _ q => q) (fun i hi q => ?_)).tt ((f7.tt f8).tt f9)
      exact absurd hi (by rw [show i = a from q]; omega)
    refine fin h9 g9 ⟨_, c9, mR_keep mF pk_us ?_ (fun j j8 j9 hj => ?_) ?_ ?_ ?_ ?_⟩
    · rw [pk_un (by decide), pk_us]
    · rw [pk_un j8, pk_un j9, if_neg (by omega)]
    · rw [pk_un (by omega), pk_un (by omega), if_pos (by omega), show 0 + (34 + 4 * D.n - (34 + 4 * D.n)) = 0 by omega]; simp [upd]
    · rw [pk_un (by omega), pk_un (by omega), if_pos (by omega), show 0 + (34 + 4 * D.n + 1 - (34 + 4 * D.n)) = 1 by omega]; simp [upd]
    · rw [pk_un (by omega), pk_un (by omega), if_pos (by omega), show 0 + (34 + 4 * D.n + 2 - (34 + 4 * D.n)) = 2 by omega]; simp [upd]
    · rw [pk_un (by omega), pk_un (by omega), if_pos (by omega), show 0 + (34 + 4 * D.n + 3 - (34 + 4 * D.n)) = 3 by omega]; simp [upd]
  refine ⟨fun q => ?_, fun q => ?_⟩
  · have tf : tch = false := by
      cases tch
      · rfl
      · exact absurd q z10
    obtain ⟨p1, p2, es⟩ := hf tf
    refine mr_rd (k := 1) v5 rfl (by decide) (fun F q => q.x) (mr_rd (k := 2) v5 rfl (by decide) (fun F q => q.y) (m_octant p1 p2 ⟨_, rfl, ?_⟩))
    rw [← es]
    exact last
  · have tt : tch = true := by
      cases tch
      · exact absurd rfl q
      · rfl
    rw [← ht tt]
    exact last
/-- the tool's test and its minutes -/
theorem m_tool {size us pr x5 x6 x7 : Int32} {tch : Bool} {k k9 : Nat} {h0 : qH} (hkc : 1 ≤ mc) (hks : 4 ≤ ms) (es : size = (if tch = true then 90 else 40)) (eu : us = (if tch = true then 5 else 3)) (ek : k9 = (if tch = true then 25 else 6)) (hr : r ≠ 49) (mo : MO h W n m th wy) (hw : wOk W) (v : MR h r P D) (hp : pOk P) (hd : dOk D) (f0 : q_fr (fun j => j = r) h0 h) (z0 : h.2 = h0.2)
    (h3 : ¬ (useA W size us k9 P D).1 = 0 → ∀ h2 P2, q_fr (fun j => j = r) h0 h2 → MR h2 r P2 D → Q (some (.int (useA W size us k9 P D).1)) h2)
    (h4 : (useA W size us k9 P D).1 = 0 → D.n < 133 → ∀ h2, q_fr (fun j => j = r) h0 h2 → h2.2 = h0.2 → MR h2 r (useA W size us k9 P D).2 D → q_J l (d + 5) mX10_take mc ms Q QX h0.2 140 [some (.ref 49), some (.ref r), some (.int (i_aw tch)), some (.int (nI k)), some (.int pr), some (.int x5), some (.int x6), some (.int x7), some (.int size), none, none] [.int 0] h2 mc ms) :
    q_J l (d + 5) mX10_take mc ms Q QX h0.2 76 [some (.ref 49), some (.ref r), some (.int (i_aw tch)), some (.int (nI k)), some (.int pr), some (.int x5), some (.int x6), some (.int x7), none, none, none] [] h mc ms := by
  have n0 := dOk_n hd
  have s40 : 40 ≤ size.toInt ∧ size.toInt ≤ 90 := by
    rw [es]
    cases tch
    · exact ⟨by decide, by decide⟩
    · exact ⟨by decide, by decide⟩
  unfold useA at h3 h4
  refine v_X10_take_76 49 r _ _ _ _ _ _ (mr_rd (k := 4) v rfl (by decide) (fun F q => q.tp) ⟨fun q1 => ?_, fun q1 => ?_⟩)
  rotate_left
  · rw [if_neg q1] at h3
    exact h3 (by decide : ¬ (3 : Int32) = 0) h P f0 v
  rw [if_pos q1] at h3 h4
  have go : q_J l (d + 5) mX10_take mc ms Q QX h0.2 97 [some (.ref 49), some (.ref r), some (.int (i_aw tch)), some (.int (nI k)), some (.int pr), some (.int x5), some (.int x6), some (.int x7), none, none, none] [.int size] h mc ms := by
    refine v_X10_take_97 49 r _ _ _ _ _ _ _ (m_units v hd ⟨_, rfl, e_gi mo rfl ⟨fun q2 => ?_, fun q2 => ?_⟩⟩)
    rotate_left
    · by_cases n1 : D.n < 133
      · rw [if_pos n1, if_neg q2] at h3
        exact h3 (by decide : ¬ (4 : Int32) = 0) h P f0 v
      · rw [if_neg n1] at h3
        exact h3 (by decide : ¬ (4 : Int32) = 0) h P f0 v
    have n1 := (dOk_room hw hd s40.1 s40.2 q2).1
    rw [if_pos n1, if_pos q2] at h3 h4
    have step : qCI l (d + 4) mX10_passMany [.ref 49, .ref r, .int (nI k9), .int us, .int (i_aw true)] h 0 0 (fun z5 h4 => q_J l (d + 5) mX10_take mc ms Q QX h0.2 140 [some (.ref 49), some (.ref r), some (.int (i_aw tch)), some (.int (nI k)), some (.int pr), some (.int x5), some (.int x6), some (.int x7), some (.int size), none, none] [.int z5] h4 mc ms) := by
      refine m_passMany (aw := true) hr mo v hp (by rw [ek]; split <;> omega) (fun h1 f1 z1 v1 u1 => ⟨_, rfl, ?_⟩)
      by_cases q : (passN W.cap us true k9 P).1 = 0
      · rw [q]
        exact h4 q n1 h1 (f0.tt f1) (z1.trans z0) (v1 q)
      · obtain ⟨P1, u1⟩ := u1
        have := h3 q h1 P1 (f0.tt f1) u1
        exact v_X10_take_140 hkc hks 49 r _ _ _ _ _ _ _ _ ⟨fun r => absurd r q, fun _ => this⟩
    cases tch
    · rw [eu, ek] at step
      exact ⟨fun _ => e_ob mo step, fun q => absurd rfl q⟩
    · rw [eu, ek] at step
      exact ⟨fun q => absurd q z10, fun _ => e_ob mo step⟩
  cases tch
  · rw [es] at go
    exact ⟨fun _ => go, fun q => absurd rfl q⟩
  · rw [es] at go
    exact ⟨fun q => absurd q z10, fun _ => go⟩
theorem m_takeI {k : Nat} {pr : Int32} (hkc : 1 ≤ mc) (hks : 4 ≤ ms) (hr : 55 ≤ r) (mo : MO h W n m th wy) (g : MG h W) (t : MT h W) (hw : wOk W) (v : MR h r P D) (hp : pOk P) (hd : dOk D) (hk : k < W.tn)
    (hq : ∀ h', q_fr (fun j => j = r) h h' → ((takeI W P D (nI k) pr).1 = 0 → MR h' r (takeI W P D (nI k) pr).2.1 (takeI W P D (nI k) pr).2.2) → (∃ P' D', MR h' r P' D') → Q (some (.int (takeI W P D (nI k) pr).1)) h') : q_Ct l (d + 5) mX10_take [.ref 49, .ref r, .int 0, .int (nI k), .int pr] h mc ms Q QX := by
  have tn := hw.tn
  have ck : (nI k).toNatClampNeg = k := nI_clamp (by omega)
  have tp := hw.tp k hk
  unfold takeI at hq
  rw [ck] at hq
  refine v_X10_take 49 r _ _ _ (e_gr mo rfl (t.rd hw hk (b := 0) (by decide) n40 (fun F q => q.1) (e_gr mo rfl (t.rd hw hk (b := 1) (by decide) (n4 rfl) (fun F q => q.2.1) (mr_rd (k := 1) v rfl (by decide) (fun F q => q.x) (mr_rd (k := 2) v rfl (by decide) (fun F q => q.y) (m_distance hp.1 tp ⟨_, rfl, ⟨fun _ => ⟨fun q1 => ?_, fun q1 => ?_⟩, fun q => absurd rfl q⟩⟩)))))))
  · rw [if_pos q1] at hq
    exact hq h q_fr.rf (fun q => absurd q (by decide : ¬ (5 : Int32) = 0)) ⟨_, _, v⟩
  rw [if_neg q1] at hq
  refine mr_rd (k := 1) v rfl (by decide) (fun F q => q.x) (mr_rd (k := 2) v rfl (by decide) (fun F q => q.y) (e_ob mo (m_isSeen mo g hp.1 tp ⟨_, rfl, ?_⟩)))
  by_cases see : seeA W P.x P.y (W.tx k) (W.ty k) = true
  rotate_left
  · rw [if_neg see] at hq ⊢
    exact ⟨fun _ => hq h q_fr.rf (fun q => absurd q (by decide : ¬ (5 : Int32) = 0)) ⟨_, _, v⟩, fun q => absurd rfl q⟩
  rw [if_pos see] at hq ⊢
  refine ⟨fun q => absurd q z10, fun _ => ?_⟩
  have xy := useA_xy (W := W) (P := P) (D := D) (size := 40) (use := 3) (n := 6)
  refine m_tool (tch := false) (size := 40) (us := 3) (k9 := 6) hkc hks rfl rfl rfl (by omega) mo hw v hp hd q_fr.rf rfl (fun q h2 P2 f2 v2 => ?_) (fun q hn h2 f2 z2 v2 => ?_)
  · rw [if_neg q] at hq
    exact hq h2 f2 (fun r => absurd r q) ⟨_, _, v2⟩
  · rw [if_pos q] at hq
    refine m_said (tch := false) (sg := nI (sp_oct (i_cmp P.x (W.tx k)) (i_cmp P.y (W.ty k)))) hkc hks (by omega) v2 hn f2 z2 (fun q => absurd q (by decide)) (fun _ => ⟨by rw [xy.1, xy.2]; exact hp.1, tp, by rw [xy.1, xy.2]⟩) (fun h3 f3 v3 => ?_)
    exact hq h3 f3 (fun _ => v3) ⟨_, _, v3⟩
theorem m_takeT {k : Nat} {pr : Int32} (hkc : 1 ≤ mc) (hks : 4 ≤ ms) (hr : 55 ≤ r) (mo : MO h W n m th wy) (t : MT h W) (hw : wOk W) (v : MR h r P D) (hp : pOk P) (hd : dOk D) (hk : k < W.tn)
    (hq : ∀ h', q_fr (fun j => j = r) h h' → ((takeT W P D (nI k) pr).1 = 0 → MR h' r (takeT W P D (nI k) pr).2.1 (takeT W P D (nI k) pr).2.2) → (∃ P' D', MR h' r P' D') → Q (some (.int (takeT W P D (nI k) pr).1)) h') : q_Ct l (d + 5) mX10_take [.ref 49, .ref r, .int 1, .int (nI k), .int pr] h mc ms Q QX := by
  have tn := hw.tn
  have ck : (nI k).toNatClampNeg = k := nI_clamp (by omega)
  have tp := hw.tp k hk
  unfold takeT at hq
  rw [ck] at hq
  refine v_X10_take 49 r _ _ _ (e_gr mo rfl (t.rd hw hk (b := 0) (by decide) n40 (fun F q => q.1) (e_gr mo rfl (t.rd hw hk (b := 1) (by decide) (n4 rfl) (fun F q => q.2.1) (mr_rd (k := 1) v rfl (by decide) (fun F q => q.x) (mr_rd (k := 2) v rfl (by decide) (fun F q => q.y) (m_distance hp.1 tp ⟨_, rfl, ⟨fun q => absurd q z10, fun _ => ⟨fun q1 => ?_, fun q1 => ?_⟩⟩⟩)))))))
  rotate_left
  · rw [if_neg q1] at hq
    exact hq h q_fr.rf (fun q => absurd q (by decide : ¬ (5 : Int32) = 0)) ⟨_, _, v⟩
  rw [if_pos q1] at hq
  refine m_tool (tch := true) (size := 90) (us := 5) (k9 := 25) hkc hks rfl rfl rfl (by omega) mo hw v hp hd q_fr.rf rfl (fun q h2 P2 f2 v2 => ?_) (fun q hn h2 f2 z2 v2 => ?_)
  · rw [if_neg q] at hq
    exact hq h2 f2 (fun r => absurd r q) ⟨_, _, v2⟩
  · rw [if_pos q] at hq
    refine m_said (tch := true) (sg := 9) hkc hks (by omega) v2 hn f2 z2 (fun _ => rfl) (fun q => absurd q (by decide)) (fun h3 f3 v3 => ?_)
    exact hq h3 f3 (fun _ => v3) ⟨_, _, v3⟩
end MD5
/-! an activity as a whole -/
def aM (r i : Nat) : Prop := rS i ∨ i = 80 ∨ i = r
section MD6
variable {l : Launch} {d mc ms : Nat} {Q : Option Value → qH → Prop} {QX : String → qH → Prop} {h : qH} {W : WS} {n m r : Nat} {th wy : Int32} {P : PH} {D : DT}
theorem m_act {k a b : Int32} (hkc : 1 ≤ mc) (hks : 4 ≤ ms) (hr : 55 ≤ r ∧ r ≤ 76) (mo : MO h W n m th wy) (g : MG h W) (t : MT h W) (tp : MPs h W) (hw : wOk W) (v : MR h r P D) (hR : rOk P D) (c1 : arA h 77 576) (c2 : arA h 78 576) (c3 : br h 79 576 (fun _ => 0)) (c4 : arA h 80 594) (ha : actOk W k a b)
    (hq : ∀ h', q_fr (aM r) h h' → MR h' r (perfA W k a b P D).2.1 (perfA W k a b P D).2.2 → arA h' 77 576 → arA h' 78 576 → br h' 79 576 (fun _ => 0) → arA h' 80 594 → Q (some (.int (perfA W k a b P D).1)) h') : q_Ct l (d + 6) mX10_act [.ref 49, .ref r, .int k, .int a, .int b] h mc ms Q QX := by
  obtain ⟨hp, hd⟩ := hR
  have n0 := dOk_n hd
  have r49 : r ≠ 49 := by omega
  refine v_X10_act 49 r _ _ _ (e_gr mo rfl (e_cpR v (by omega) c4 (fun h1 f1 z1 u1 => ?_)))
  have A80 : aM r 80 := Or.inr (Or.inl rfl)
  have F1 : q_fr (aM r) h h1 := q_fr.rf.t1 f1 A80
  have mo1 := mo.fr f1 (by omega)
  have g1 : MG h1 W := g.fr f1 (fun i a b => by omega)
  have t1 : MT h1 W := t.fr f1 (by omega)
  have tp1 : MPs h1 W := tp.fr f1 (by omega)
  have v1 := v.fr f1 (by omega)
  have d1 := c1.fr f1 (by omega)
  have d2 := c2.fr f1 (by omega)
  have d3 := c3.fr f1 (by omega)
  -- behind an activity
  have fin : ∀ (h2 : qH) (kc ks : Nat), q_fr (fun i => rS i ∨ i = r) h1 h2 → arA h2 77 576 → arA h2 78 576 → br h2 79 576 (fun _ => 0) → ((actA W k a b P D).1 = 0 → MR h2 r (actA W k a b P D).2.1 (actA W k a b P D).2.2) → (∃ P' D', MR h2 r P' D') →
      q_J l (d + 6) mX10_act mc ms Q QX h.2 142 [some (.ref 49), some (.ref r), some (.int k), some (.int a), some (.int b), some (.int (actA W k a b P D).1)] [] h2 kc ks := by
    intro h2 kc ks f2 e1 e2 e3 ok nok
    have F2 : q_fr (aM r) h h2 := F1.tt (f2.mono (fun i _ q => q.elim Or.inl (fun q => Or.inr (Or.inr q))))
    have u2 : MR h2 80 P D := u1.fr f2 (by unfold rS; omega)
    unfold perfA at hq
    refine v_X10_act_142 49 r _ _ _ _ ⟨fun q => ?_, fun q => ?_⟩
    · rw [if_pos q] at hq
      exact hq h2 F2 (ok q) e1 e2 e3 u2.A
    · rw [if_neg q] at hq
      obtain ⟨P', D', nok⟩ := nok
      refine e_gr (mo1.fr f2 (by unfold rS; omega)) rfl (e_cpR u2 (by omega) nok.A (fun h3 f3 z3 v3 => ?_))
      exact hq h3 (F2.t1 f3 (Or.inr (Or.inr rfl))) v3 (e1.fr f3 (by omega)) (e2.fr f3 (by omega)) (e3.fr f3 (by omega)) (u2.A.fr f3 (by omega))
  have fin1 : ∀ (h2 : qH) (kc ks : Nat), q_fr (fun i => i = r) h1 h2 → ((actA W k a b P D).1 = 0 → MR h2 r (actA W k a b P D).2.1 (actA W k a b P D).2.2) → (∃ P' D', MR h2 r P' D') →
      q_J l (d + 6) mX10_act mc ms Q QX h.2 142 [some (.ref 49), some (.ref r), some (.int k), some (.int a), some (.int b), some (.int (actA W k a b P D).1)] [] h2 kc ks := fun h2 kc ks f2 ok nok =>
    fin h2 kc ks (f2.mono (fun i _ q => Or.inr q)) (d1.fr f2 (by omega)) (d2.fr f2 (by omega)) (d3.fr f2 (by omega)) ok nok
  refine ⟨fun k0 => ?_, fun k0 => ⟨fun k1 => ?_, fun k1 => ⟨fun k2 => ?_, fun k2 => ⟨fun k3 => ?_, fun k3 => ⟨fun k4 => ?_, fun k4 => ⟨fun k5 => ?_, fun k5 => ⟨fun k6 => ?_, fun k6 => ?_⟩⟩⟩⟩⟩⟩⟩
  · subst k0
    have hg := ao_0.mp ha
    have er : actA W 0 a b P D = ((driveA W (C_to W (ix a b)) a b 576 P).1, (driveA W (C_to W (ix a b)) a b 576 P).2, D) := by unfold actA; rw [if_pos rfl]
    rw [er] at fin
    exact e_ob mo1 (m_drive ⟨by omega, by omega⟩ mo1 g1 hw v1 hp hg d1 d2 d3 (fun h2 f2 z2 ok nok e1 e2 e3 => ⟨_, rfl, fin h2 _ _ f2 e1 e2 e3 ok (nok.elim fun P' q => ⟨P', D, q⟩)⟩))
  · subst k1
    obtain ⟨hT, -, -⟩ := ao_1.mp ha
    have er : actA W 1 a b P D = takeI W P D a b := by unfold actA; rw [if_neg k0, if_pos rfl]
    rw [er] at fin1
    obtain ⟨j, hj, rfl⟩ := hT
    refine ⟨fun q => absurd q (by decide), fun _ => v_X10_act_85 hkc hks 49 r _ _ _ _ _ _ _ (e_ob mo1 (m_takeI (by omega) (by omega) hr.1 mo1 g1 t1 hw v1 hp hd hj (fun h2 f2 ok nok => ⟨_, rfl, fin1 h2 _ _ f2 ok nok⟩)))⟩
  · subst k2
    obtain ⟨hT, -, -⟩ := ao_2.mp ha
    have er : actA W 2 a b P D = takeT W P D a b := by unfold actA; rw [if_neg k0, if_neg k1, if_pos rfl]
    rw [er] at fin1
    obtain ⟨j, hj, rfl⟩ := hT
    refine ⟨fun _ => v_X10_act_85 hkc hks 49 r _ _ _ _ _ _ _ (e_ob mo1 (m_takeT (by omega) (by omega) hr.1 mo1 t1 hw v1 hp hd hj (fun h2 f2 ok nok => ⟨_, rfl, fin1 h2 _ _ f2 ok nok⟩))), fun q => absurd rfl q⟩
  · subst k3
    obtain ⟨a1, a2, -⟩ := ao_3.mp ha
    have er : actA W 3 a b P D = transA W a P D := by unfold actA; rw [if_neg k0, if_neg k1, if_neg k2, if_pos rfl]
    rw [er] at fin1
    have ea := nI_ofI (z := a) (by omega)
    have ea2 : a.toNatClampNeg = a.toInt.toNat := rfl
    generalize a.toNatClampNeg = j at ea ea2
    subst ea
    exact e_ob mo1 (m_send ⟨by omega, by omega⟩ mo1 tp1 hw v1 hp hd (by omega) (fun h2 f2 z2 ok nok => ⟨_, rfl, fin1 h2 _ _ f2 ok nok⟩))
  · subst k4
    obtain ⟨a1, a2, -⟩ := ao_4.mp ha
    have er : actA W 4 a b P D = ((restA W a true P).1, (restA W a true P).2, D) := by unfold actA; rw [if_neg k0, if_neg k1, if_neg k2, if_neg k3, if_pos rfl]
    rw [er] at fin1
    exact ⟨fun _ => v_X10_act_120 49 r _ _ _ _ _ _ _ _ (e_ob mo1 (m_rest (aw := true) r49 mo1 v1 hp ⟨a1, a2⟩ (fun h2 f2 z2 ok nok => ⟨_, rfl, fin1 h2 _ _ f2 ok (nok.elim fun P' q => ⟨P', D, q⟩)⟩))), fun q => absurd rfl q⟩
  · subst k5
    obtain ⟨a1, a2, -⟩ := ao_5.mp ha
    have er : actA W 5 a b P D = ((restA W a false P).1, (restA W a false P).2, D) := by unfold actA; rw [if_neg k0, if_neg k1, if_neg k2, if_neg k3, if_neg k4, if_pos rfl]
    rw [er] at fin1
    exact ⟨fun q => absurd q (by decide), fun _ => v_X10_act_120 49 r _ _ _ _ _ _ _ _ (e_ob mo1 (m_rest (aw := false) r49 mo1 v1 hp ⟨a1, a2⟩ (fun h2 f2 z2 ok nok => ⟨_, rfl, fin1 h2 _ _ f2 ok (nok.elim fun P' q => ⟨P', D, q⟩)⟩)))⟩
  · subst k6
    obtain ⟨a1, -⟩ := ao_6.mp ha
    have er : actA W 6 a b P D = (0, heatA a P, D) := by unfold actA; rw [if_neg k0, if_neg k1, if_neg k2, if_neg k3, if_neg k4, if_neg k5, if_pos rfl]
    rw [er] at fin1
    refine mr_wr (k := 5) v1 rfl (by decide) (fun F q => mRw_ht q) (fun h2 f2 z2 v2 => ?_)
    have eh : (if a = 1 then (1 : Int32) else 0) = a := by
      rcases a1 with e | e
      · rw [e]; decide
      · rw [e]; decide
    have v3 : MR h2 r (heatA a P) D := by
      unfold heatA
      rw [eh]
      exact v2
    exact fin1 h2 _ _ f2 (fun _ => v3) ⟨_, _, v3⟩
  · have er : actA W k a b P D = ((cleanA W P).1, (cleanA W P).2, D) := by unfold actA; rw [if_neg k0, if_neg k1, if_neg k2, if_neg k3, if_neg k4, if_neg k5, if_neg k6]
    rw [er] at fin1
    exact e_ob mo1 (m_clean r49 mo1 v1 hp (fun h2 f2 z2 ok nok => ⟨_, rfl, fin1 h2 _ _ f2 ok (nok.elim fun P' q => ⟨P', D, q⟩)⟩))
end MD6
