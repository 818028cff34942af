/-! what a made plan is: ways there and back cost the same; the chosen target; the chain of pairs -/
def pw (B : Nat → Nat → Nat → Nat → Prop) : Nat → Nat → Nat → Nat → Prop
  | 0, u, v, t => u = v ∧ t = 0
  | n + 1, u, v, t => ∃ k m w t', B k u m w ∧ pw B n m v t' ∧ t = w + t'
theorem pw_le {B : Nat → Nat → Nat → Nat → Prop} {o : Nat} {c : Nat → Nat} (L : lc B o c) : ∀ (n u t : Nat), pw B n u o t → c u ≤ t ∧ c u < FARn := by
  intro n
  induction n with
  | zero =>
    rintro u t ⟨rfl, rfl⟩
    rw [L.2.1]
    exact ⟨Nat.le_refl _, by decide⟩
  | succ n ih =>
    rintro u t ⟨k, m, w, t', b, p, rfl⟩
    have h1 := ih m t' p
    have h2 := L.2.2.1 k u m w b h1.2
    exact ⟨by omega, h2.2⟩
theorem pw_ex {B : Nat → Nat → Nat → Nat → Prop} (hB : gB B) {o : Nat} {c : Nat → Nat} (L : lc B o c) : ∀ (x u : Nat), u < 576 → c u ≤ x → c u < FARn → ∃ n, pw B n u o (c u) := by
  intro x
  induction x with
  | zero =>
    intro u hu h1 h2
    by_cases e : u = o
    · subst e
      exact ⟨0, rfl, L.2.1⟩
    · obtain ⟨k, v, w, b, q1, q2, q3⟩ := L.2.2.2 u hu h2 e
      have := hB k u v w b
      omega
  | succ x ih =>
    intro u hu h1 h2
    by_cases e : u = o
    · subst e
      exact ⟨0, rfl, L.2.1⟩
    · obtain ⟨k, v, w, b, q1, q2, q3⟩ := L.2.2.2 u hu h2 e
      have hb := hB k u v w b
      obtain ⟨n, p⟩ := ih v q1 (by omega) q2
      exact ⟨n + 1, k, v, w, c v, b, p, by omega⟩
theorem pw_snoc {B : Nat → Nat → Nat → Nat → Prop} : ∀ (n u m v t k w : Nat), pw B n u m t → B k m v w → pw B (n + 1) u v (t + w) := by
  intro n
  induction n with
  | zero =>
    rintro u m v t k w ⟨rfl, rfl⟩ b
    exact ⟨k, v, w, 0, b, ⟨rfl, rfl⟩, by omega⟩
  | succ n ih =>
    rintro u m v t k w ⟨k1, m1, w1, t1, b1, p1, rfl⟩ b
    exact ⟨k1, m1, w1, t1 + w, b1, ih m1 m v t1 k w p1 b, by omega⟩
theorem pw_rev {B B' : Nat → Nat → Nat → Nat → Prop} (e : ∀ k u v w, B k u v w → B' k v u w) : ∀ (n u v t : Nat), pw B n u v t → pw B' n v u t := by
  intro n
  induction n with
  | zero =>
    rintro u v t ⟨rfl, rfl⟩
    exact ⟨rfl, rfl⟩
  | succ n ih =>
    rintro u v t ⟨k, m, w, t', b, p, rfl⟩
    have := pw_snoc n v m u t' k w (ih m v t' p) (e k u m w b)
    rw [Nat.add_comm w t']
    exact this
theorem C_dual {W : WS} (hw : wOk W) {o p : Nat} (ho : o < 576) (hp : p < 576) : C_to W o p = C_fr W p o := by
  have L1 := C_to_lc hw ho
  have L2 := C_fr_lc hw hp
  have l1 : C_to W o p ≤ FARn := theC_le
  have l2 : C_fr W p o ≤ FARn := theC_le
  have a1 : C_to W o p < FARn → C_fr W p o ≤ C_to W o p := fun q => by
    obtain ⟨n, r⟩ := pw_ex (gB_to hw.g) L1 _ p hp (Nat.le_refl _) q
    exact (pw_le L2 n o _ (pw_rev (B' := B_fr W.H W.R W.Z W.s) (fun k u v w b => b) n p o _ r)).1
  have a2 : C_fr W p o < FARn → C_to W o p ≤ C_fr W p o := fun q => by
    obtain ⟨n, r⟩ := pw_ex (gB_fr hw.g) L2 _ o ho (Nat.le_refl _) q
    exact (pw_le L1 n p _ (pw_rev (B' := B_to W.H W.R W.Z W.s) (fun k u v w b => b) n o p _ r)).1
  by_cases q1 : C_to W o p < FARn
  · have := a1 q1
    have := a2 (by omega)
    omega
  · by_cases q2 : C_fr W p o < FARn
    · have := a2 q2; omega
    · omega
/-! the chosen target -/
theorem its_pos {W : WS} (hw : wOk W) {c : Nat → Nat} {t p : Nat} (ht : t < W.tn) (hc : c p ≤ 46656) : 0 ≤ (itsA W c t p).toInt := by
  have v := hw.2.2.2.1 t ht
  have e1 : (1 : Int32) + nI (c p) = nI (1 + c p) := by rw [show (1 : Int32) = nI 1 from rfl, nI_add]
  have e2 : (1000 * W.tv t).toInt = 1000 * (W.tv t).toInt := by
    rw [fb_mulI (by rw [L_1000]; omega) (by rw [L_1000]; omega), L_1000]
  have e3 : (nI (1 + c p)).toInt = ((1 + c p : Nat) : Int) := nI_toInt (by omega)
  unfold itsA
  rw [e1, i_div (by rw [e3]; omega), e2, e3]
  exact Int.tdiv_nonneg (by omega) (by omega)
theorem cho_none {W : WS} {c : Nat → Nat} {D : DT} {out : Nat → Bool} : ∀ n, n ≤ 12 → (choF W c D out n).1 = 99 → (choF W c D out n).2 = -1 := by
  intro n
  induction n with
  | zero => exact fun _ _ => rfl
  | succ n ih =>
    intro hn h
    unfold choF at h ⊢
    by_cases q : out n = false ∧ nearA W c D n ≠ 576 ∧ (choF W c D out n).2 < itsA W c n (nearA W c D n)
    · rw [if_pos q] at h
      have : n = 99 := h
      omega
    · rw [if_neg q] at h ⊢
      exact ih (by omega) h
theorem cho_val {W : WS} {c : Nat → Nat} {D : DT} {out : Nat → Bool} : ∀ n, (choF W c D out n).1 ≠ 99 → (choF W c D out n).2 = itsA W c (choF W c D out n).1 (nearA W c D (choF W c D out n).1) := by
  intro n
  induction n with
  | zero => exact fun h => absurd rfl h
  | succ n ih =>
    intro h
    unfold choF at h ⊢
    by_cases q : out n = false ∧ nearA W c D n ≠ 576 ∧ (choF W c D out n).2 < itsA W c n (nearA W c D n)
    · rw [if_pos q]
    · rw [if_neg q] at h ⊢
      exact ih h
/-- u is worth more than t, or as much with a smaller number -/
def btr (W : WS) (c : Nat → Nat) (D : DT) (u t : Nat) : Prop := (itsA W c t (nearA W c D t)).toInt < (itsA W c u (nearA W c D u)).toInt ∨ ((itsA W c u (nearA W c D u)).toInt = (itsA W c t (nearA W c D t)).toInt ∧ u < t)
theorem cho_max {W : WS} (hw : wOk W) {c : Nat → Nat} {D : DT} {out : Nat → Bool} (hcs : ∀ p, p < 576 → c p < FARn → c p ≤ 46656) : ∀ n, n ≤ W.tn → ∀ u, u < n → out u = false → nearA W c D u ≠ 576 → (itsA W c u (nearA W c D u)).toInt < (choF W c D out n).2.toInt ∨ ((itsA W c u (nearA W c D u)).toInt = (choF W c D out n).2.toInt ∧ (choF W c D out n).1 ≤ u) := by
  have tn := hw.tn
  intro n
  induction n with
  | zero => intro _ u hu; omega
  | succ n ih =>
    intro hn u hu ho hnr
    have ih := ih (by omega)
    unfold choF
    by_cases q : out n = false ∧ nearA W c D n ≠ 576 ∧ (choF W c D out n).2 < itsA W c n (nearA W c D n)
    · rw [if_pos q]
      have q3 := q.2.2
      rw [lt_i] at q3
      by_cases e : u = n
      · subst e; exact Or.inr ⟨rfl, Nat.le_refl _⟩
      · have := ih u (by omega) ho hnr
        exact Or.inl (by show _ < (itsA W c n (nearA W c D n)).toInt; omega)
    · rw [if_neg q]
      by_cases e : u = n
      · subst e
        have nl : ¬ (choF W c D out u).2 < itsA W c u (nearA W c D u) := fun r => q ⟨ho, hnr, r⟩
        rw [lt_i] at nl
        by_cases e99 : (choF W c D out u).1 = 99
        · have v := cho_none u (by omega) e99
          have g := (nearA_t hnr).2
          have := its_pos hw (c := c) (t := u) (p := nearA W c D u) (by omega) (hcs _ g.1 g.2.1)
          rw [v, M_1] at nl
          omega
        · have := (choF_t u (by omega) e99).1
          by_cases e2 : (itsA W c u (nearA W c D u)).toInt = (choF W c D out u).2.toInt
          · exact Or.inr ⟨e2, by omega⟩
          · exact Or.inl (by omega)
      · exact ih u (by omega) ho hnr
theorem cho_btr {W : WS} (hw : wOk W) {c : Nat → Nat} {D : DT} {out : Nat → Bool} (hcs : ∀ p, p < 576 → c p < FARn → c p ≤ 46656) (h99 : (choF W c D out W.tn).1 ≠ 99) {u : Nat} (hu : u < W.tn) (hnr : nearA W c D u ≠ 576) (hb : btr W c D u (choF W c D out W.tn).1) : out u = true := by
  cases ho : out u with
  | true => rfl
  | false =>
    have h1 := cho_max hw hcs W.tn (Nat.le_refl _) u hu ho hnr
    have h2 := cho_val W.tn h99
    rw [h2] at h1
    unfold btr at hb
    omega
/-! the chain of pairs -/
noncomputable def nrA (W : WS) (P : PH) (D : DT) (t : Nat) : Nat := nearA W (C_fr W (ix P.x P.y)) D t
noncomputable def dr1 (W : WS) (t : Nat) (P : PH) (D : DT) : Int32 × PH × DT := perfA W 0 (px (nrA W P D t)) (py (nrA W P D t)) P D
noncomputable def dr2 (W : WS) (t : Nat) (P : PH) (D : DT) : Int32 × PH × DT := perfA W (kdA W t) (nI t) 5 (dr1 W t P D).2.1 (dr1 W t P D).2.2
def chn (W : WS) (e : Int32) (L : PL) : Nat → (Nat → Bool) → Nat → PH → DT → Prop
  | 0, _, i, _, _ => L.n = i
  | m + 1, out, i, P, D => ∃ (t : Nat) (out' : Nat → Bool), (t < W.tn ∧ nrA W P D t ≠ 576) ∧ (L.k i = 0 ∧ L.a i = px (nrA W P D t) ∧ L.b i = py (nrA W P D t)) ∧ (L.k (i + 1) = kdA W t ∧ L.a (i + 1) = nI t ∧ L.b (i + 1) = 5) ∧
      ((dr1 W t P D).1 = 0 ∧ (dr2 W t P D).1 = 0 ∧ (dr2 W t P D).2.1.t ≤ e) ∧ (∀ u, u < W.tn → nrA W P D u ≠ 576 → btr W (C_fr W (ix P.x P.y)) D u t → out' u = true) ∧ out' t = false ∧ (∀ u, out u = true → out' u = true) ∧ chn W e L m out' (i + 2) (dr2 W t P D).2.1 (dr2 W t P D).2.2
theorem chn_n {W : WS} {e : Int32} {L : PL} : ∀ (m : Nat) (out : Nat → Bool) (i : Nat) (P : PH) (D : DT), chn W e L m out i P D → L.n = i + 2 * m := by
  intro m
  induction m with
  | zero => intro out i P D h; exact h
  | succ m ih =>
    rintro out i P D ⟨t, out', -, -, -, -, -, -, -, h⟩
    have := ih out' _ _ _ h
    omega
theorem chn_mono {W : WS} {e : Int32} {L : PL} : ∀ (m : Nat) (out out2 : Nat → Bool) (i : Nat) (P : PH) (D : DT), (∀ u, out u = true → out2 u = true) → chn W e L m out2 i P D → chn W e L m out i P D := by
  intro m
  cases m with
  | zero => intro out out2 i P D _ h; exact h
  | succ m =>
    rintro out out2 i P D ho ⟨t, out', h1, h2, h3, h4, h5, h6, h7, h8⟩
    exact ⟨t, out', h1, h2, h3, h4, h5, h6, fun u q => h7 u (ho u q), h8⟩
theorem chn_shift {W : WS} {e : Int32} {L L' : PL} {s : Nat} (hk : ∀ j, L'.k j = L.k (s + j) ∧ L'.a j = L.a (s + j) ∧ L'.b j = L.b (s + j)) (hn : L'.n = L.n - s) : ∀ (m : Nat) (out : Nat → Bool) (i : Nat) (P : PH) (D : DT), chn W e L m out (s + i) P D → chn W e L' m out i P D := by
  intro m
  induction m with
  | zero =>
    intro out i P D h
    have h : L.n = s + i := h
    show L'.n = i
    omega
  | succ m ih =>
    rintro out i P D ⟨t, out', h1, h2, h3, h4, h5, h6, h7, h8⟩
    refine ⟨t, out', h1, ?_, ?_, h4, h5, h6, h7, ih out' _ _ _ (by rw [show s + (i + 2) = s + i + 2 by omega]; exact h8)⟩
    · rw [(hk i).1, (hk i).2.1, (hk i).2.2]; exact h2
    · have e9 : s + (i + 1) = s + i + 1 := by omega
      rw [(hk (i + 1)).1, (hk (i + 1)).2.1, (hk (i + 1)).2.2, e9]; exact h3
theorem chn_not {W : WS} {e : Int32} {L : PL} (htn : W.tn ≤ 12) {u : Nat} (hu : u < 12) : ∀ (m : Nat) (out : Nat → Bool) (i : Nat) (P : PH) (D : DT), chn W e L m out i P D → out u = true → ∀ j, j < m → L.a (i + 2 * j + 1) ≠ nI u := by
  intro m
  induction m with
  | zero => intro out i P D _ _ j hj; omega
  | succ m ih =>
    rintro out i P D ⟨t, out', h1, h2, h3, h4, h5, h6, h7, h8⟩ ho j hj
    by_cases e0 : j = 0
    · subst e0
      rw [show i + 2 * 0 + 1 = i + 1 by omega, h3.2.1]
      intro q
      have := (nI_eq (by omega) (by omega)).mp q
      subst this
      have := h7 t ho
      rw [h6] at this
      cases this
    · have := ih out' _ _ _ h8 (h7 u ho) (j - 1) (by omega)
      rw [show i + 2 + 2 * (j - 1) + 1 = i + 2 * j + 1 by omega] at this
      exact this
theorem acts_1 {W : WS} {L : PL} {i n : Nat} {P : PH} {D : DT} {r : Int32 × PH × DT} (e : perfA W (L.k i) (L.a i) (L.b i) P D = r) (h : r.1 = 0) : actsF W L i (n + 1) P D = actsF W L (i + 1) n r.2.1 r.2.2 := by
  rw [actsF, e, if_pos h]
theorem chn_acts {W : WS} {e : Int32} {L : PL} : ∀ (m : Nat) (out : Nat → Bool) (i : Nat) (P : PH) (D : DT), chn W e L m out i P D → (actsF W L i (2 * m) P D).1 = (i + 2 * m, 0) ∧ (P.t ≤ e → (actsF W L i (2 * m) P D).2.1.t ≤ e) := by
  intro m
  induction m with
  | zero => intro out i P D _; exact ⟨rfl, fun q => q⟩
  | succ m ih =>
    rintro out i P D ⟨t, out', h1, ⟨a1, a2, a3⟩, ⟨b1, b2, b3⟩, ⟨c1, c2, c3⟩, h5, h6, h7, h8⟩
    have ih := ih out' _ _ _ h8
    have es : actsF W L i (2 * (m + 1)) P D = actsF W L (i + 2) (2 * m) (dr2 W t P D).2.1 (dr2 W t P D).2.2 := by
      rw [show 2 * (m + 1) = (2 * m + 1) + 1 by omega, acts_1 (r := dr1 W t P D) (by rw [a1, a2, a3]; rfl) c1, acts_1 (r := dr2 W t P D) (by rw [b1, b2, b3]; rfl) c2]
    rw [es, ih.1]
    exact ⟨by rw [show i + 2 + 2 * m = i + 2 * (m + 1) by omega], fun _ => ih.2 c3⟩
theorem ext_chn {W : WS} (hw : wOk W) {e : Int32} : ∀ (f : Nat) (out : Nat → Bool) (L : PL) (P : PH) (D : DT), plOk W L → rOk P D → L.n ≤ (extF W e f out L P D).1.n ∧ (∀ j, j < L.n → (extF W e f out L P D).1.k j = L.k j ∧ (extF W e f out L P D).1.a j = L.a j ∧ (extF W e f out L P D).1.b j = L.b j) ∧ ∃ m, chn W e (extF W e f out L P D).1 m out L.n P D := by
  intro f
  induction f with
  | zero => intro out L P D _ _; exact ⟨Nat.le_refl _, fun j _ => ⟨rfl, rfl, rfl⟩, 0, rfl⟩
  | succ f ih =>
    intro out L P D hL hR
    unfold extF
    by_cases hroom : L.n + 2 ≤ 40
    rotate_left
    · rw [if_neg hroom]
      exact ⟨Nat.le_refl _, fun j _ => ⟨rfl, rfl, rfl⟩, 0, rfl⟩
    rw [if_pos hroom]
    by_cases h99 : (choF W (C_fr W (ix P.x P.y)) D out W.tn).1 = 99
    · rw [if_pos h99]
      exact ⟨Nat.le_refl _, fun j _ => ⟨rfl, rfl, rfl⟩, 0, rfl⟩
    rw [if_neg h99]
    have hp := hR.1.1
    have LF := C_fr_lc hw (ix_lt hp)
    have hcs : ∀ p, p < 576 → C_fr W (ix P.x P.y) p < FARn → C_fr W (ix P.x P.y) p ≤ 46656 := fun p h1 h2 => lc_small (gB_fr hw.g) LF h1 h2
    have ct := choF_t W.tn hw.tn h99
    have bt := fun {u : Nat} (hu : u < W.tn) (hn : nearA W (C_fr W (ix P.x P.y)) D u ≠ 576) (hb) => cho_btr hw hcs h99 hu hn hb
    generalize ht : (choF W (C_fr W (ix P.x P.y)) D out W.tn).1 = t at ct bt ⊢
    have np := (nearA_t ct.2.2).1
    have vk := vis_ok hw (e := e) hR hL ct.1 np
    -- tried and left aside
    have fail : visA W L t (nearA W (C_fr W (ix P.x P.y)) D t) e P D = (false, L, P, D) → L.n ≤ (extF W e f (if (visA W L t (nearA W (C_fr W (ix P.x P.y)) D t) e P D).1 = true then out else outU out t) (visA W L t (nearA W (C_fr W (ix P.x P.y)) D t) e P D).2.1 (visA W L t (nearA W (C_fr W (ix P.x P.y)) D t) e P D).2.2.1 (visA W L t (nearA W (C_fr W (ix P.x P.y)) D t) e P D).2.2.2).1.n ∧
        (∀ j, j < L.n → (extF W e f (if (visA W L t (nearA W (C_fr W (ix P.x P.y)) D t) e P D).1 = true then out else outU out t) (visA W L t (nearA W (C_fr W (ix P.x P.y)) D t) e P D).2.1 (visA W L t (nearA W (C_fr W (ix P.x P.y)) D t) e P D).2.2.1 (visA W L t (nearA W (C_fr W (ix P.x P.y)) D t) e P D).2.2.2).1.k j = L.k j ∧ (extF W e f (if (visA W L t (nearA W (C_fr W (ix P.x P.y)) D t) e P D).1 = true then out else outU out t) (visA W L t (nearA W (C_fr W (ix P.x P.y)) D t) e P D).2.1 (visA W L t (nearA W (C_fr W (ix P.x P.y)) D t) e P D).2.2.1 (visA W L t (nearA W (C_fr W (ix P.x P.y)) D t) e P D).2.2.2).1.a j = L.a j ∧ (extF W e f (if (visA W L t (nearA W (C_fr W (ix P.x P.y)) D t) e P D).1 = true then out else outU out t) (visA W L t (nearA W (C_fr W (ix P.x P.y)) D t) e P D).2.1 (visA W L t (nearA W (C_fr W (ix P.x P.y)) D t) e P D).2.2.1 (visA W L t (nearA W (C_fr W (ix P.x P.y)) D t) e P D).2.2.2).1.b j = L.b j) ∧
        ∃ m, chn W e (extF W e f (if (visA W L t (nearA W (C_fr W (ix P.x P.y)) D t) e P D).1 = true then out else outU out t) (visA W L t (nearA W (C_fr W (ix P.x P.y)) D t) e P D).2.1 (visA W L t (nearA W (C_fr W (ix P.x P.y)) D t) e P D).2.2.1 (visA W L t (nearA W (C_fr W (ix P.x P.y)) D t) e P D).2.2.2).1 m out L.n P D := fun ev => by
      rw [ev, if_neg (show ¬ false = true by decide)]
      obtain ⟨g1, g2, m, g3⟩ := ih (outU out t) L P D hL hR
      refine ⟨g1, g2, m, chn_mono m out (outU out t) _ _ _ (fun u q => ?_) g3⟩
      unfold outU
      split
      · rfl
      · exact q
    by_cases q1 : (dr1 W t P D).1 = 0
    rotate_left
    · exact fail (by unfold visA; exact if_neg q1)
    by_cases q2 : (dr2 W t P D).1 = 0
    rotate_left
    · exact fail (by unfold visA; exact (if_pos q1).trans (if_neg q2))
    by_cases q3 : (dr2 W t P D).2.1.t ≤ e
    rotate_left
    · exact fail (by unfold visA; exact (if_pos q1).trans ((if_pos q2).trans (if_neg q3)))
    have ev : visA W L t (nearA W (C_fr W (ix P.x P.y)) D t) e P D = (true, insA (insA L L.n 0 (px (nrA W P D t)) (py (nrA W P D t))) (L.n + 1) (kdA W t) (nI t) 5, (dr2 W t P D).2) := by unfold visA; exact (if_pos q1).trans ((if_pos q2).trans (if_pos q3))
    rw [ev] at vk ⊢
    dsimp only at vk ⊢
    rw [if_pos rfl]
    obtain ⟨g1, g2, m, g3⟩ := ih out _ _ _ vk.1 vk.2.1
    generalize extF W e f out (insA (insA L L.n 0 (px (nrA W P D t)) (py (nrA W P D t))) (L.n + 1) (kdA W t) (nI t) 5) (dr2 W t P D).2.1 (dr2 W t P D).2.2 = R at g1 g2 g3 ⊢
    have n2 : (insA (insA L L.n 0 (px (nrA W P D t)) (py (nrA W P D t))) (L.n + 1) (kdA W t) (nI t) 5).n = L.n + 2 := rfl
    rw [n2] at g1 g2 g3
    have i1 : ∀ {f : Nat → Int32} {a b : Int32}, ins (ins f L.n a) (L.n + 1) b L.n = a := fun {f a b} => by
      unfold ins
      rw [if_pos (by omega), if_neg (by omega), if_pos rfl]
    have i2 : ∀ {f : Nat → Int32} {a b : Int32}, ins (ins f L.n a) (L.n + 1) b (L.n + 1) = b := fun {f a b} => by
      unfold ins
      rw [if_neg (by omega), if_pos rfl]
    have i3 : ∀ {f : Nat → Int32} {a b : Int32} {j : Nat}, j < L.n → ins (ins f L.n a) (L.n + 1) b j = f j := fun {f a b j} hj => by
      unfold ins
      rw [if_pos (by omega), if_pos hj]
    have y1 := g2 L.n (by omega)
    have y2 := g2 (L.n + 1) (by omega)
    refine ⟨by omega, fun j hj => ?_, m + 1, t, out, ⟨ct.1, ct.2.2⟩, ⟨y1.1.trans i1, y1.2.1.trans i1, y1.2.2.trans i1⟩, ⟨y2.1.trans i2, y2.2.1.trans i2, y2.2.2.trans i2⟩, ⟨q1, q2, q3⟩, fun u hu hn hb => bt hu hn hb, ct.2.1, fun u q => q, g3⟩
    have y := g2 j (by omega)
    exact ⟨y.1.trans (i3 hj), y.2.1.trans (i3 hj), y.2.2.trans (i3 hj)⟩
