/-! nearest places -/
def octA (W : WS) (k p : Nat) : Nat := sp_oct (i_cmp (px p) (W.tx k)) (i_cmp (py p) (W.ty k))
/-- the target k can have what it needs from p; near: how far p is, in any case -/
def srvx (W : WS) (g : Int32) (k p : Nat) : Prop := W.td k = 4 ∨ (((g >>> (nI (octA W k p) &&& 31)) &&& 1) = 0 ∧ seeA W (px p) (py p) (W.tx k) (W.ty k) = true)
def rchA (W : WS) (k : Nat) : Nat := if W.td k = 4 then 1 else 6
def boxA (W : WS) (k p : Nat) : Prop := (W.tx k).toInt - rchA W k ≤ (px p).toInt ∧ (px p).toInt ≤ (W.tx k).toInt + rchA W k ∧ (W.ty k).toInt - rchA W k ≤ (py p).toInt ∧ (py p).toInt ≤ (W.ty k).toInt + rchA W k
def goodA (W : WS) (c : Nat → Nat) (g : Int32) (k p : Nat) : Prop := p < 576 ∧ c p < FARn ∧ srvx W g k p ∧ boxA W k p
/-- b is the best place of those that S has (576: none of them is good) -/
def isB (G : Nat → Prop) (c : Nat → Nat) (S : Nat → Prop) (b : Nat) : Prop := (b = 576 ∧ ∀ p, S p → ¬ G p) ∨ (b < 576 ∧ S b ∧ G b ∧ ∀ p, S p → G p → c b < c p ∨ (c b = c p ∧ b ≤ p))
theorem isB_one {G : Nat → Prop} {c : Nat → Nat} {S : Nat → Prop} {a b : Nat} (ha : isB G c S a) (hb : isB G c S b) : a = b := by
  rcases ha with ⟨a1, a2⟩ | ⟨a1, a2, a3, a4⟩ <;> rcases hb with ⟨b1, b2⟩ | ⟨b1, b2, b3, b4⟩
  · omega
  · exact absurd b3 (a2 b b2)
  · exact absurd a3 (b2 a a2)
  · have q1 := a4 b b2 b3
    have q2 := b4 a a2 a3
    omega
/-- one place more is looked at, behind all others -/
theorem isB_no {G : Nat → Prop} {c : Nat → Nat} {S S' : Nat → Prop} {b p : Nat} (h : isB G c S b) (hs : ∀ q, S' q ↔ S q ∨ q = p) (hp : ¬ (G p ∧ (b = 576 ∨ c p < c b))) (hlt : ∀ q, S q → q < p) : isB G c S' b := by
  rcases h with ⟨a1, a2⟩ | ⟨a1, a2, a3, a4⟩
  · refine Or.inl ⟨a1, fun q hq => ?_⟩
    rcases (hs q).mp hq with r | rfl
    · exact a2 q r
    · exact fun g => hp ⟨g, Or.inl a1⟩
  · refine Or.inr ⟨a1, (hs b).mpr (Or.inl a2), a3, fun q hq hg => ?_⟩
    rcases (hs q).mp hq with r | rfl
    · exact a4 q r hg
    · have := hlt b a2
      have : ¬ c q < c b := fun r => hp ⟨hg, Or.inr r⟩
      omega
theorem isB_yes {G : Nat → Prop} {c : Nat → Nat} {S S' : Nat → Prop} {b p : Nat} (h : isB G c S b) (hs : ∀ q, S' q ↔ S q ∨ q = p) (h576 : p < 576) (hg : G p) (hb : b = 576 ∨ c p < c b) : isB G c S' p := by
  refine Or.inr ⟨h576, (hs p).mpr (Or.inr rfl), hg, fun q hq gq => ?_⟩
  rcases (hs q).mp hq with r | rfl
  · rcases h with ⟨a1, a2⟩ | ⟨a1, a2, a3, a4⟩
    · exact absurd gq (a2 q r)
    · have := a4 q r gq
      omega
  · exact Or.inr ⟨rfl, Nat.le_refl _⟩
theorem isB_cong {G G' : Nat → Prop} {c : Nat → Nat} {S S' : Nat → Prop} {b : Nat} (h : isB G c S b) (hg : ∀ p, (S p ∧ G p) ↔ (S' p ∧ G' p)) : isB G' c S' b := by
  rcases h with ⟨a1, a2⟩ | ⟨a1, a2, a3, a4⟩
  · exact Or.inl ⟨a1, fun p hp g => a2 p ((hg p).mpr ⟨hp, g⟩).1 ((hg p).mpr ⟨hp, g⟩).2⟩
  · have := (hg b).mp ⟨a2, a3⟩
    exact Or.inr ⟨a1, this.1, this.2, fun p hp g => a4 p ((hg p).mpr ⟨hp, g⟩).1 ((hg p).mpr ⟨hp, g⟩).2⟩
noncomputable def nearF (G : Nat → Prop) (c : Nat → Nat) : Nat → Nat
  | 0 => 576
  | p + 1 => @ite _ (G p ∧ (nearF G c p = 576 ∨ c p < c (nearF G c p))) (Classical.propDecidable _) p (nearF G c p)
theorem nearF_is {G : Nat → Prop} {c : Nat → Nat} : ∀ n, n ≤ 576 → isB G c (fun p => p < n) (nearF G c n) := by
  intro n
  induction n with
  | zero => exact fun _ => Or.inl ⟨rfl, fun p hp => absurd hp (by omega)⟩
  | succ n ih =>
    intro hn
    unfold nearF
    by_cases q : G n ∧ (nearF G c n = 576 ∨ c n < c (nearF G c n))
    · rw [if_pos q]
      exact isB_yes (ih (by omega)) (fun x => by omega) (by omega) q.1 q.2
    · rw [if_neg q]
      exact isB_no (ih (by omega)) (fun x => by omega) q (fun x hx => hx)
noncomputable def nearA (W : WS) (c : Nat → Nat) (D : DT) (k : Nat) : Nat := @ite _ (metA W k (sgA D k)) (Classical.propDecidable _) 576 (nearF (goodA W c (sgA D k) k) c 576)
theorem nearA_t {W : WS} {c : Nat → Nat} {D : DT} {k : Nat} (h : nearA W c D k ≠ 576) : nearA W c D k < 576 ∧ goodA W c (sgA D k) k (nearA W c D k) := by
  unfold nearA at h ⊢
  by_cases q : metA W k (sgA D k)
  · rw [if_pos q] at h; exact absurd rfl h
  · rw [if_neg q] at h ⊢
    rcases nearF_is (G := goodA W c (sgA D k) k) (c := c) 576 (Nat.le_refl _) with ⟨a1, -⟩ | ⟨a1, -, a3, -⟩
    · exact absurd a1 h
    · exact ⟨a1, a3⟩
/-- a place as an answer: -1 where there is none -/
def rP (b : Nat) : Int32 := if b = 576 then -1 else nI b
def mOb (h : qH) : Prop := ob h 25 2 [.ref 1, .ref 6, .ref 9, .ref 18, .ref 26]
section MK1
variable {l : Launch} {d mc ms : Nat} {Q : Option Value → qH → Prop} {QX : String → qH → Prop} {h : qH} {W : WS} {r : Nat} {P : PH} {D : DT} {c : Nat → Nat}
theorem s_isNearer {p b : Nat} (hm : mOb h) (hy : wys h c) (hp : p < 576) (hb : b ≤ 576) (hbc : b ≠ 576 → c b < FARn) (ht : c p < FARn ∧ (b = 576 ∨ c p < c b) → Q (some (.int 1)) h) (hf : ¬ (c p < FARn ∧ (b = 576 ∨ c p < c b)) → Q (some (.int 0)) h) : q_Ct l (d + 1) mX2_isNearer [.ref 25, .int (nI p), .int (rP b)] h mc ms Q QX := by
  obtain ⟨m, w1⟩ := hy.1
  refine v_X2_isNearer 25 _ _ (e_gr hm rfl (e_ob w1 (s_costOf hy hp ⟨_, rfl, fun q => hf ?_, fun q => ?_⟩)))
  · rintro ⟨q1, -⟩
    rw [cv_t q1] at q
    exact absurd q (nI_nm1 (Nat.lt_trans q1 (by decide)))
  have q1 : c p < FARn := by
    by_cases q1 : c p < FARn
    · exact q1
    · exact absurd (cv_f q1) q
  refine ⟨fun q2 => ht ⟨q1, Or.inl ?_⟩, fun q2 => ?_⟩
  · unfold rP at q2
    by_cases e : b = 576
    · exact e
    · rw [if_neg e] at q2
      exact absurd q2 (nI_nm1 (by omega))
  have e : b ≠ 576 := fun e => q2 (by unfold rP; rw [if_pos e])
  have er : rP b = nI b := by unfold rP; rw [if_neg e]
  rw [er]
  refine e_gr hm rfl (e_ob w1 (s_costOf hy (by omega) ⟨_, rfl, fun q3 => hf ?_, fun q3 => ht ⟨q1, Or.inr ((cv_lt q1 (hbc e)).mp (Int32.not_le.mp q3))⟩⟩))
  rintro ⟨-, q4 | q4⟩
  · exact e q4
  · exact absurd ((cv_lt q1 (hbc e)).mpr q4) (Int32.not_lt.mpr q3)
theorem s_isNearer_f {b : Int32} (hm : mOb h) (hy : wys h c) (hf : Q (some (.int 0)) h) : q_Ct l (d + 1) mX2_isNearer [.ref 25, .int (-1), .int b] h mc ms Q QX := by
  obtain ⟨m, w1⟩ := hy.1
  exact v_X2_isNearer 25 _ _ (e_gr hm rfl (e_ob w1 (s_costOf_f ⟨_, rfl, fun _ => hf, fun q => absurd rfl q⟩)))
theorem s_serves {p k : Nat} {g : Int32} (hm : mOb h) (hc : cS h W) (hw : wOk W) (hp : p < 576) (hk : k < W.tn) (ht : srvx W g k p → Q (some (.int 1)) h) (hf : ¬ srvx W g k p → Q (some (.int 0)) h) : q_Ct l (d + 3) mX2_serves [.ref 25, .int (px p), .int (py p), .int (nI k), .int g] h mc ms Q QX := by
  refine v_X2_serves 25 _ _ _ _ (e_gr hm rfl (e_ob hc.2.1.1 (s_needOf hc.2.1 hw hk ⟨_, rfl, fun q => ht (Or.inl q), fun q => ?_⟩)))
  refine e_gr hm rfl (e_ob hc.2.1.1 (s_xOf hc.2.1 hw hk ⟨_, rfl, e_gr hm rfl (e_ob hc.2.1.1 (s_yOf hc.2.1 hw hk ⟨_, rfl, s_octantOf ⟨_, rfl, fun q2 => ?_, fun q2 => hf ?_⟩⟩))⟩))
  rotate_left
  · rintro (r | ⟨r, -⟩)
    · exact q r
    · exact q2 r
  refine e_gr hm rfl (e_ob hc.1.1 (s_isSeen hc.1 (inP_p hp) (hw.tp k hk) (fun b hb => ⟨_, rfl, fun q3 => hf ?_, fun q3 => ht (Or.inr ⟨q2, ?_⟩)⟩)))
  · rintro (r | ⟨-, r⟩)
    · exact q r
    · rcases hb with ⟨e, -⟩ | ⟨-, e⟩
      · rw [e] at q3; exact absurd q3 z10
      · exact e (seeA_t.mp r)
  · rcases hb with ⟨-, e⟩ | ⟨e, -⟩
    · exact seeA_t.mpr e
    · exact absurd e q3
theorem s_nearestPlace_n (hm : mOb h) (hc : cS h W) (hw : wOk W) (v : RV h r P D) (hq : Q (some (.int (-1))) h) : q_Ct l (d + 4) mX2_nearestPlace [.ref 25, .ref r, .int (-1)] h mc ms Q QX := by
  refine v_X2_nearestPlace 25 r _ (e_ob v.1 (s_signsOfAll_n v (fun b => ⟨_, rfl, e_gr hm rfl (e_ob hc.2.1.1 (s_has hc.2.1 hw (fun q => ?_) (fun _ => ⟨_, rfl, fun _ => hq, fun q => absurd rfl q⟩)))⟩)))
  obtain ⟨k, hk, e⟩ := q
  have := hw.tn
  exact absurd e.symm (nI_nm1 (by omega))
theorem s_nearestPlace {k : Nat} (hm : mOb h) (hc : cS h W) (hw : wOk W) (hy : wys h c) (v : RV h r P D) (hk : k < W.tn) (hq : Q (some (.int (rP (nearA W c D k)))) h) : q_Ct l (d + 4) mX2_nearestPlace [.ref 25, .ref r, .int (nI k)] h mc ms Q QX := by
  have tn := hw.tn
  obtain ⟨t1, t2, t3, t4⟩ := hw.tp k hk
  unfold nearA at hq
  refine v_X2_nearestPlace 25 r _ (e_ob v.1 (s_signsOfAll v (by omega) ⟨_, rfl, e_gr hm rfl (e_ob hc.2.1.1 (s_has_t hc.2.1 hw hk ⟨_, rfl, fun q => absurd q z10, fun _ => ?_⟩))⟩))
  refine e_gr hm rfl (e_ob hc.2.1.1 (s_isMet hc.2.1 hw hk (fun met => ⟨_, rfl, fun q => absurd q z10, fun _ => ?_⟩) (fun met => ⟨_, rfl, fun _ => ?_, fun q => absurd rfl q⟩)))
  · rw [if_pos met] at hq; exact hq
  rw [if_neg met] at hq
  generalize sgA D k = g at hq ⊢
  -- the two loops
  have go : ∀ R : Int32, R = nI (rchA W k) → q_J l (d + 4) mX2_nearestPlace mc ms Q QX h.2 49 [some (.ref 25), some (.ref r), some (.int (nI k)), some (.int g), none, none, none, none, none, none, none] [.int R] h mc ms := by
    rintro R rfl
    refine v_X2_nearestPlace_49 25 r _ _ _ (e_gr hm rfl (e_ob hc.2.1.1 (s_xOf hc.2.1 hw hk ⟨_, rfl, e_gr hm rfl (e_ob hc.2.1.1 (s_yOf hc.2.1 hw hk ⟨_, rfl, ?_⟩))⟩)))
    have rr : rchA W k ≤ 6 := by unfold rchA; split <;> omega
    generalize hK : rchA W k = K at rr
    have eK : (nI K).toInt = K := nI_toInt (by omega)
    have x9 : (W.tx k + nI K).toInt = (W.tx k).toInt + K := by rw [fb_addI, eK] <;> rw [eK] <;> omega
    have y9 : (W.ty k + nI K).toInt = (W.ty k).toInt + K := by rw [fb_addI, eK] <;> rw [eK] <;> omega
    have x0 : ∀ i : Nat, i ≤ 13 → (W.tx k - nI K + nI i).toInt = (W.tx k).toInt - K + i := fun i hi => by
      have a : (W.tx k - nI K).toInt = (W.tx k).toInt - K := by rw [fb_subI, eK] <;> rw [eK] <;> omega
      have b : (nI i).toInt = i := nI_toInt (by omega)
      rw [fb_addI, a, b] <;> rw [a, b] <;> omega
    have y0 : ∀ i : Nat, i ≤ 13 → (W.ty k - nI K + nI i).toInt = (W.ty k).toInt - K + i := fun i hi => by
      have a : (W.ty k - nI K).toInt = (W.ty k).toInt - K := by rw [fb_subI, eK] <;> rw [eK] <;> omega
      have b : (nI i).toInt = i := nI_toInt (by omega)
      rw [fb_addI, a, b] <;> rw [a, b] <;> omega
    have one : ∀ (x : Int32) (i : Nat), x + nI i + 1 = x + nI (i + 1) := fun x i => by rw [nI_succ, Int32.add_assoc]
    let G : Nat → Prop := fun p => c p < FARn ∧ srvx W g k p
    let S : Nat → Nat → Nat → Prop := fun j i p => p < 576 ∧ boxA W k p ∧ ((py p).toInt < (W.ty k).toInt - K + j ∨ ((py p).toInt = (W.ty k).toInt - K + j ∧ (px p).toInt < (W.tx k).toInt - K + i))
    have Gb : ∀ {j i b : Nat}, isB G c (S j i) b → b ≠ 576 → c b < FARn := fun h e => by
      rcases h with ⟨a1, -⟩ | ⟨-, -, a3, -⟩
      · exact absurd a1 e
      · exact a3.1
    have Gl : ∀ {j i b : Nat}, isB G c (S j i) b → b ≤ 576 := fun h => by
      rcases h with ⟨a1, -⟩ | ⟨a1, -, a3, -⟩ <;> omega
    have pxy : ∀ p, p < 576 → (px p).toInt = ((p % 24 : Nat) : Int) ∧ (py p).toInt = ((p / 24 : Nat) : Int) := fun p hp => ⟨nI_toInt (by omega), nI_toInt (by omega)⟩
    have inner : ∀ j, j ≤ 2 * K → (∀ b, isB G c (S (j + 1) 0) b → q_J l (d + 4) mX2_nearestPlace mc ms Q QX h.2 81 [some (.ref 25), some (.ref r), some (.int (nI k)), some (.int g), some (.int (nI K)), some (.int (W.tx k)), some (.int (W.ty k)), some (.int (rP b)), some (.int (W.ty k - nI K + nI (j + 1))), none, none] [] h mc ms) →
        ∀ (i : Nat) (b : Nat), i ≤ 2 * K + 1 → isB G c (S j i) b → q_J l (d + 4) mX2_nearestPlace mc ms Q QX h.2 98 [some (.ref 25), some (.ref r), some (.int (nI k)), some (.int g), some (.int (nI K)), some (.int (W.tx k)), some (.int (W.ty k)), some (.int (rP b)), some (.int (W.ty k - nI K + nI j)), some (.int (W.tx k - nI K + nI i)), none] [] h mc ms := by
      intro j hj hout
      refine q_loop (fun i b => q_J l (d + 4) mX2_nearestPlace mc ms Q QX h.2 98 [some (.ref 25), some (.ref r), some (.int (nI k)), some (.int g), some (.int (nI K)), some (.int (W.tx k)), some (.int (W.ty k)), some (.int (rP b)), some (.int (W.ty k - nI K + nI j)), some (.int (W.tx k - nI K + nI i)), none] [] h mc ms) (fun i b => isB G c (S j i) b) (2 * K + 1) ?_ ?_
      · intro b hb
        have e1 := x0 (2 * K + 1) (by omega)
        refine v_X2_nearestPlace_98 25 r _ _ _ _ _ _ _ _ ⟨fun _ => ?_, fun q => absurd ?_ q⟩
        · rw [one]
          refine hout b (isB_cong hb (fun p => ?_))
          constructor
          · rintro ⟨⟨q1, q2, q3⟩, q4⟩
            exact ⟨⟨q1, q2, by omega⟩, q4⟩
          · rintro ⟨⟨q1, q2, q3⟩, q4⟩
            have q5 := q2
            unfold boxA at q5
            rw [hK] at q5
            exact ⟨⟨q1, q2, by omega⟩, q4⟩
        · rw [lt_i, x9, e1]; omega
      · intro i b hi hb ih
        have e1 := x0 i (by omega)
        have e2 := y0 j (by omega)
        refine v_X2_nearestPlace_98 25 r _ _ _ _ _ _ _ _ ⟨fun q => absurd q ?_, fun _ => ?_⟩
        · rw [lt_i, x9, e1]; omega
        rw [one]
        by_cases hin : inP (W.tx k - nI K + nI i) (W.ty k - nI K + nI j)
        rotate_left
        · refine s_placeOf_f hin ⟨_, rfl, e_ob hm (s_isNearer_f hm hy ⟨_, rfl, fun _ => ?_, fun q => absurd rfl q⟩)⟩
          refine ih b (isB_cong hb (fun p => ?_))
          constructor
          · rintro ⟨⟨q1, q2, q3⟩, q4⟩
            exact ⟨⟨q1, q2, by omega⟩, q4⟩
          · rintro ⟨⟨q1, q2, q3⟩, q4⟩
            refine ⟨⟨q1, q2, ?_⟩, q4⟩
            by_cases z : (py p).toInt = (W.ty k).toInt - K + j ∧ (px p).toInt = (W.tx k).toInt - K + i
            · exfalso
              apply hin
              have q6 := inP_p q1
              unfold inP at q6 ⊢
              rw [e1, e2]
              omega
            · omega
        generalize hpp : ix (W.tx k - nI K + nI i) (W.ty k - nI K + nI j) = p
        have hp : p < 576 := by rw [← hpp]; exact ix_lt hin
        have pe := p_ix hin
        rw [hpp] at pe
        have ppx : (px p).toInt = (W.tx k).toInt - K + i := by rw [pe.1, e1]
        have ppy : (py p).toInt = (W.ty k).toInt - K + j := by rw [pe.2, e2]
        have box : boxA W k p := by unfold boxA; rw [hK, ppx, ppy]; omega
        have hs : ∀ q, S j (i + 1) q ↔ S j i q ∨ q = p := fun q => by
          constructor
          · rintro ⟨q1, q2, q3⟩
            by_cases z : (py q).toInt = (W.ty k).toInt - K + j ∧ (px q).toInt = (W.tx k).toInt - K + i
            · right
              have a1 := pxy q q1
              have a2 := pxy p hp
              omega
            · left
              exact ⟨q1, q2, by omega⟩
          · rintro (⟨q1, q2, q3⟩ | rfl)
            · exact ⟨q1, q2, by omega⟩
            · exact ⟨hp, box, by omega⟩
        have hlt : ∀ q, S j i q → q < p := fun q hq => by
          obtain ⟨q1, q2, q3⟩ := hq
          have a1 := pxy q q1
          have a2 := pxy p hp
          omega
        refine s_placeOf_t hin ⟨_, rfl, ?_⟩
        rw [hpp]
        refine e_ob hm (s_isNearer hm hy hp (Gl hb) (Gb hb) (fun n1 => ⟨_, rfl, fun q => absurd q z10, fun _ => ?_⟩) (fun n1 => ⟨_, rfl, fun _ => ?_, fun q => absurd rfl q⟩))
        rotate_left
        · exact ih b (isB_no hb hs (fun q => n1 ⟨q.1.1, q.2⟩) hlt)
        rw [← pe.1, ← pe.2]
        refine e_ob hm (s_serves hm hc hw hp hk (fun s1 => ⟨_, rfl, fun q => absurd q z10, fun _ => ?_⟩) (fun s1 => ⟨_, rfl, fun _ => ?_, fun q => absurd rfl q⟩))
        · rw [pe.2]
          have er : nI p = rP p := by unfold rP; rw [if_neg (by omega)]
          rw [er]
          exact ih p (isB_yes hb hs hp ⟨n1.1, s1⟩ n1.2)
        · rw [pe.2]
          exact ih b (isB_no hb hs (fun q => s1 q.1.2) hlt)
    have key := q_loop (fun j b => q_J l (d + 4) mX2_nearestPlace mc ms Q QX h.2 81 [some (.ref 25), some (.ref r), some (.int (nI k)), some (.int g), some (.int (nI K)), some (.int (W.tx k)), some (.int (W.ty k)), some (.int (rP b)), some (.int (W.ty k - nI K + nI j)), none, none] [] h mc ms) (fun j b => isB G c (S j 0) b) (2 * K + 1) ?_ ?_ 0 576 (by omega) ?_
    · have z0 : W.ty k - nI K + nI 0 = W.ty k - nI K := by rw [nI_0, Int32.add_zero]
      rw [z0] at key
      exact key
    · intro b hb
      have e1 := y0 (2 * K + 1) (by omega)
      refine v_X2_nearestPlace_81 25 r _ _ _ _ _ _ _ ⟨fun _ => ?_, fun q => absurd ?_ q⟩
      · have eb : b = nearF (goodA W c g k) c 576 := isB_one (isB_cong (G' := goodA W c g k) (S' := fun p => p < 576) hb (fun p => by
          constructor
          · rintro ⟨⟨q1, q2, q3⟩, q4⟩
            exact ⟨q1, q1, q4.1, q4.2, q2⟩
          · rintro ⟨q0, q1, q2, q3, q4⟩
            have q5 := q4
            unfold boxA at q5
            rw [hK] at q5
            exact ⟨⟨q1, q4, by omega⟩, q2, q3⟩)) (nearF_is 576 (Nat.le_refl _))
        rw [eb]
        exact hq
      · rw [lt_i, y9, e1]; omega
    · intro j b hj hb ih
      have e1 := y0 j (by omega)
      refine v_X2_nearestPlace_81 25 r _ _ _ _ _ _ _ ⟨fun q => absurd q ?_, fun _ => ?_⟩
      · rw [lt_i, y9, e1]; omega
      have z0 : W.tx k - nI K + nI 0 = W.tx k - nI K := by rw [nI_0, Int32.add_zero]
      have := inner j (by omega) (fun b hb => ih b hb) 0 b (by omega) hb
      rw [z0] at this
      exact this
    · refine Or.inl ⟨rfl, ?_⟩
      rintro p ⟨q1, q2, q3⟩
      unfold boxA at q2
      rw [hK] at q2
      omega
  refine e_gr hm rfl (e_ob hc.2.1.1 (s_needOf hc.2.1 hw hk ⟨_, rfl, fun q => go 1 ?_, fun q => go 6 ?_⟩))
  · unfold rchA; rw [if_pos q]; rfl
  · unfold rchA; rw [if_neg q]; rfl
end MK1
