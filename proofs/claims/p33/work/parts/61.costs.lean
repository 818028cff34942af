/-! THE LAW: the least costs, sweep by sweep -/
def sumC (c : Nat → Nat) : Nat → Nat
  | 0 => 0
  | n + 1 => sumC c n + c n
theorem sumC_cong {c c' : Nat → Nat} : ∀ n, (∀ i, i < n → c i = c' i) → sumC c n = sumC c' n := by
  intro n
  induction n with
  | zero => exact fun _ => rfl
  | succ n ih =>
    intro h
    unfold sumC
    rw [ih (fun i hi => h i (by omega)), h n (by omega)]
theorem sumC_upd {c : Nat → Nat} {u v : Nat} : ∀ n, u < n → sumC (updN c u v) n + c u = sumC c n + v := by
  intro n
  induction n with
  | zero => intro h; omega
  | succ n ih =>
    intro h
    unfold sumC
    by_cases e : u = n
    · subst e
      rw [sumC_cong (c' := c) u (fun i hi => updN_ne (by omega)), updN_at]
      omega
    · have := ih (by omega)
      rw [updN_ne (k := u) (j := n) (by omega)]
      omega
def SJ (B : Nat → Nat → Nat → Nat → Prop) (o : Nat) (c : Nat → Nat) (X : Nat → Prop) : Prop := o < 576 ∧ c o = 0 ∧ (∀ u, u < 576 → c u ≤ FARn) ∧
  (∀ u, u < 576 → c u < FARn → u ≠ o → ∃ k v w, B k u v w ∧ c v < FARn ∧ c v + w ≤ c u) ∧ (∀ v, v < 576 → c v < FARn → ¬ X v → ∀ k u w, B k u v w → c u ≤ c v + w)
theorem SJ_X {B : Nat → Nat → Nat → Nat → Prop} {o : Nat} {c : Nat → Nat} {X Y : Nat → Prop} (h : SJ B o c X) (hy : ∀ v, v < 576 → c v < FARn → X v → ¬ Y v → ∀ k u w, B k u v w → c u ≤ c v + w) : SJ B o c Y := by
  obtain ⟨h1, h2, h3, h4, h5⟩ := h
  refine ⟨h1, h2, h3, h4, fun v hv hc ny k u w b => ?_⟩
  by_cases q : X v
  · exact hy v hv hc q ny k u w b
  · exact h5 v hv hc q k u w b
theorem SJ_relax {B : Nat → Nat → Nat → Nat → Prop} (hB : gB B) {o k u p w : Nat} {c : Nat → Nat} {X : Nat → Prop} (h : SJ B o c X) (hp : c p < FARn) (b : B k u p w) (lt : c p + w < c u) : u ≠ p ∧ SJ B o (updN c u (c p + w)) (fun v => X v ∨ v = u) := by
  obtain ⟨h1, h2, h3, h4, h5⟩ := h
  have hb := hB k u p w b
  have nup : u ≠ p := fun e => by rw [e] at lt; omega
  have nuo : u ≠ o := fun e => by rw [e, h2] at lt; omega
  have le : ∀ x, updN c u (c p + w) x ≤ c x := fun x => by
    by_cases q : x = u
    · subst q; rw [updN_at]; omega
    · rw [updN_ne q]; exact Nat.le_refl _
  have h3u := h3 u hb.2.1
  refine ⟨nup, h1, by rw [updN_ne (fun q => nuo q.symm)]; exact h2, fun x hx => Nat.le_trans (le x) (h3 x hx), fun x hx hc ne => ?_, fun v hv hc nx k' x w' b' => ?_⟩
  · by_cases q : x = u
    · subst q
      refine ⟨k, p, w, b, ?_, ?_⟩
      · rw [updN_ne (fun q => nup q.symm)]; exact hp
      · rw [updN_at, updN_ne (fun q => nup q.symm)]; exact Nat.le_refl _
    · rw [updN_ne q] at hc ⊢
      obtain ⟨k', v, w', b', q1, q2⟩ := h4 x hx hc ne
      exact ⟨k', v, w', b', Nat.lt_of_le_of_lt (le v) q1, by have := le v; omega⟩
  · have vu : v ≠ u := fun e => nx (Or.inr e)
    rw [updN_ne vu] at hc ⊢
    exact Nat.le_trans (le x) (h5 v hv hc (fun q => nx (Or.inl q)) k' x w' b')
theorem SJ_end {B : Nat → Nat → Nat → Nat → Prop} (hB : gB B) {o : Nat} {c : Nat → Nat} (h : SJ B o c (fun _ => False)) : lc B o c := by
  obtain ⟨h1, h2, h3, h4, h5⟩ := h
  have par : ∀ u, u < 576 → c u < FARn → u ≠ o → ∃ k v w, B k u v w ∧ v < 576 ∧ c v < FARn ∧ c u = c v + w := fun u hu hc ne => by
    obtain ⟨k, v, w, b, q1, q2⟩ := h4 u hu hc ne
    have hb := hB k u v w b
    have := h5 v hb.2.2.1 q1 (fun q => q) k u w b
    exact ⟨k, v, w, b, hb.2.2.1, q1, by omega⟩
  refine ⟨h1, h2, fun k u v w b hv => ?_, par⟩
  have hb := hB k u v w b
  have s := cost_small' hB h2 par hb.2.2.1 hv
  have := h5 v hb.2.2.1 hv (fun q => q) k u w b
  exact ⟨this, by unfold FARn; omega⟩
theorem SJ_begin {B : Nat → Nat → Nat → Nat → Prop} {o : Nat} (ho : o < 576) : SJ B o (fun u => if u = o then 0 else FARn) (fun v => v = o) := by
  refine ⟨ho, if_pos rfl, fun u _ => ?_, fun u hu hc ne => ?_, fun v hv hc nx => ?_⟩
  · show (if u = o then 0 else FARn) ≤ FARn
    split <;> omega
  · have hc : (if u = o then 0 else FARn) < FARn := hc
    rw [if_neg ne] at hc; omega
  · have hc : (if v = o then 0 else FARn) < FARn := hc
    have nx : ¬ v = o := nx
    rw [if_neg nx] at hc; omega
def cntF (c : Nat → Nat) : Nat := fb_ct (fun u => decide (c u < FARn)) 576
theorem cntF_le {c : Nat → Nat} : cntF c ≤ 576 := fb_ct_le _ _
theorem cntF_new {c : Nat → Nat} {p v : Nat} (hp : p < 576) (hv : v < FARn) : cntF (updN c p v) + (if c p < FARn then 1 else 0) = cntF c + 1 := by
  have h1 := fb_ct_upd (fun u => decide (c u < FARn)) true hp
  have h2 : fb_ct (fun k => if k = p then true else decide (c k < FARn)) 576 = cntF (updN c p v) := fb_ct_cong fun k _ => by
    by_cases e : k = p
    · rw [if_pos e, e, updN_at]; exact (decide_eq_true hv).symm
    · rw [if_neg e, updN_ne e]
  rw [h2] at h1
  simp only [decide_eq_true_eq] at h1
  exact h1
def BF (B : Nat → Nat → Nat → Nat → Prop) (o : Nat) (c : Nat → Nat) : Prop := SJ B o c (fun _ => True) ∧ ∀ u, u < 576 → c u < FARn → c u + 81 ≤ 81 * cntF c
theorem BF_begin {B : Nat → Nat → Nat → Nat → Prop} {o : Nat} (ho : o < 576) : BF B o (fun u => if u = o then 0 else FARn) := by
  refine ⟨SJ_X (SJ_begin ho) (fun v _ _ _ q => absurd trivial q), fun u hu hc => ?_⟩
  have e : u = o := Classical.byContradiction fun r => by
    have hc : (if u = o then 0 else FARn) < FARn := hc
    rw [if_neg r] at hc; omega
  subst e
  have : 0 < cntF (fun v => if v = u then 0 else FARn) := fb_ct_pos.mpr ⟨u, hu, decide_eq_true hc⟩
  show (if u = u then 0 else FARn) + 81 ≤ _
  rw [if_pos rfl]
  omega
theorem BF_relax {B : Nat → Nat → Nat → Nat → Prop} (hB : gB B) {o k p v w : Nat} {c : Nat → Nat} (h : BF B o c) (hv : c v < FARn) (b : B k p v w) (lt : ¬ c p < FARn ∨ c v + w < c p) : c v + w < c p ∧ c v + w < FARn ∧ BF B o (updN c p (c v + w)) ∧ sumC (updN c p (c v + w)) 576 < sumC c 576 := by
  obtain ⟨h1, h2⟩ := h
  have far : FARn = 1000000 := rfl
  have hb := hB k p v w b
  have le := cntF_le (c := c)
  have bv := h2 v hb.2.2.1 hv
  have cp := h1.2.2.1 p hb.2.1
  have lt' : c v + w < c p := by
    rcases lt with q | q
    · omega
    · exact q
  have sm := sumC_upd (c := c) (u := p) (v := c v + w) 576 hb.2.1
  have cn := cntF_new (c := c) (p := p) (v := c v + w) hb.2.1 (by omega)
  refine ⟨lt', by omega, ⟨SJ_X (SJ_relax hB h1 hv b lt').2 (fun v _ _ _ q => absurd trivial q), fun u hu hc => ?_⟩, by omega⟩
  by_cases e : u = p
  · subst e
    rw [updN_at]
    by_cases q : c u < FARn
    · rw [if_pos q] at cn
      have := h2 u hu q
      omega
    · rw [if_neg q] at cn
      omega
  · rw [updN_ne e] at hc ⊢
    have := h2 u hu hc
    by_cases q : c p < FARn
    · rw [if_pos q] at cn; omega
    · rw [if_neg q] at cn; omega
/-- the steps ahead of the k-th one of p add nothing -/
def rlx (B : Nat → Nat → Nat → Nat → Prop) (c : Nat → Nat) (p k : Nat) : Prop := ∀ p' k' v w, (p' < p ∨ (p' = p ∧ k' < k)) → B k' p' v w → c v < FARn → c p' ≤ c v + w
def BI (B : Nat → Nat → Nat → Nat → Prop) (o : Nat) (h0 h : qH) (c0 c : Nat → Nat) (fl : Int32) (p k : Nat) : Prop := q_fr (fun _ => False) h0 h ∧ h.2 = h0.2 + 1 ∧ ar h h0.2 576 (cv c) ∧ BF B o c ∧ ((fl = 0 ∧ c = c0 ∧ rlx B c p k) ∨ (fl = 1 ∧ sumC c 576 < sumC c0 576))
section LA2
variable {l : Launch} {d mc ms : Nat} {Q : Option Value → qH → Prop} {QX : String → qH → Prop} {h : qH} {i : Nat} {H R Z : Nat → Int32} {s x y : Int32}
theorem cv_upd {h : qH} {r p n : Nat} {c : Nat → Nat} (a : ar h r 576 (upd (cv c) p (nI n))) (hn : n < FARn) : ar h r 576 (cv (updN c p n)) := a.to (fun u _ => by
  by_cases e : u = p
  · subst e
    rw [pk_us, cv_t (by rw [updN_at]; exact hn), updN_at]
  · rw [pk_un e]
    unfold cv
    rw [updN_ne e])
theorem s_costs {o : Nat} (g : GV h i H R Z s) (gok : gOk H R) (ho : inP x y) (eo : ix x y = o) (hkc : 1 ≤ mc) (hks : 576 ≤ ms) (hq : ∀ h', q_fr (fun _ => False) h h' → h'.2 = h.2 + 1 → ar h' h.2 576 (cv (theC (B_to H R Z s) o)) → lc (B_to H R Z s) o (theC (B_to H R Z s) o) → Q (some (.ref h.2)) h') : q_Ct l (d + 1) mL_costs [.ref i, .int x, .int y] h mc ms Q QX := by
  have far : FARn = 1000000 := rfl
  have hB : gB (B_to H R Z s) := gB_to gok
  have ho9 : o < 576 := by rw [← eo]; exact ix_lt ho
  refine v_L_costs hkc hks i x y (e_nin rfl (fun h1 f1 z1 a1 => ?_))
  -- one step looked at
  have one : ∀ (c0 : Nat → Nat) (p k : Nat) (h2 : qH) (c : Nat → Nat) (fl : Int32), p < 576 → k < 8 → BI (B_to H R Z s) o h h2 c0 c fl p k → (∀ (h3 : qH) (c' : Nat → Nat) (fl' : Int32), BI (B_to H R Z s) o h h3 c0 c' fl' p (k + 1) → q_J l (d + 1) mL_costs mc ms Q QX h.2 62 [some (.ref i), some (.int x), some (.int y), some (.ref h.2), some (.int fl'), some (.int (nI p)), some (.int (nI (k + 1))), none, none] [] h3 (mc - 1) (ms - 576)) →
      q_J l (d + 1) mL_costs mc ms Q QX h.2 62 [some (.ref i), some (.int x), some (.int y), some (.ref h.2), some (.int fl), some (.int (nI p)), some (.int (nI k)), none, none] [] h2 (mc - 1) (ms - 576) := by
    intro c0 p k h2 c fl hp hk bi ih
    obtain ⟨f2, z2, a2, bf, alt⟩ := id bi
    have g2 : GV h2 i H R Z s := ar.fr g f2 (fun q => q)
    have skip : (∀ v w, B_to H R Z s k p v w → c v < FARn → c p ≤ c v + w) → q_J l (d + 1) mL_costs mc ms Q QX h.2 62 [some (.ref i), some (.int x), some (.int y), some (.ref h.2), some (.int fl), some (.int (nI p)), some (.int (nI k + 1)), none, none] [] h2 (mc - 1) (ms - 576) := fun hs => by
      rw [nI_1]
      refine ih h2 c fl ⟨f2, z2, a2, bf, alt.imp (fun q => ⟨q.1, q.2.1, fun p' k' v w hlt b hv => ?_⟩) id⟩
      rcases hlt with q1 | ⟨q1, q2⟩
      · exact q.2.2 p' k' v w (Or.inl q1) b hv
      · by_cases e : k' = k
        · subst q1 e; exact hs v w b hv
        · exact q.2.2 p' k' v w (Or.inr ⟨q1, by omega⟩) b hv
    have e24 : nI p - nI p / 24 * 24 = px p := r24 (by omega)
    have d24' : nI p / 24 = py p := d24 (by omega)
    refine v_L_costs_62 i x y _ _ _ (nI k) ⟨fun q => absurd q (nI_ge hk (by decide)), fun _ => ?_⟩
    rw [e24, d24']
    refine s_step0 g2 gok.1 (inP_p hp) hk ⟨_, rfl, fun q => ?_, fun q => ?_⟩
    · by_cases hc : sp_can H Z s (px p) (py p) k
      · rw [stL_t hc] at q
        have := (min_ok gok hp hc).1
        rw [q, L_0] at this
        omega
      · exact skip (fun v w b => absurd b.2.2.1 hc)
    have hc : sp_can H Z s (px p) (py p) k := Classical.byContradiction fun r => q (stL_f r)
    have b := stW_of gok hk hp hc
    have wk := wt_ok gok hp hc
    have hv := nb_lt hc.1
    have only : ∀ v w, B_to H R Z s k p v w → v = nb p k ∧ w = wt H R p k := fun v w b' => ⟨b'.2.2.2.1.symm, (stW_wt gok b').1⟩
    have eix : nI p + q_dx k + 24 * q_dy k = nI (nb p k) := by rw [← nb_sum hp hc.1]; grind
    rw [stL_t hc, wk.1]
    refine e_sl rfl hk (e_sl rfl hk (e_al a2 eix hv (by decide) ⟨fun q1 => skip (fun v w b' hvf => ?_), fun q1 => ?_⟩))
    · rw [(only v w b').1] at hvf
      rw [cv_t hvf] at q1
      exact absurd q1 (nI_pos (by omega))
    have hvf : c (nb p k) < FARn := Classical.byContradiction fun r => q1 (by rw [cv_f r]; decide)
    have bb := BF_relax hB (k := k) (p := p) (v := nb p k) (w := wt H R p k) bf hvf b
    have put : (¬ c p < FARn ∨ c (nb p k) + wt H R p k < c p) → ∀ h3, q_fr (fun j => j = h.2) h2 h3 → h3.2 = h2.2 → ar h3 h.2 576 (upd (cv c) p (nI (c (nb p k) + wt H R p k))) → q_J l (d + 1) mL_costs mc ms Q QX h.2 62 [some (.ref i), some (.int x), some (.int y), some (.ref h.2), some (.int 1), some (.int (nI p)), some (.int (nI k + 1)), none, none] [] h3 (mc - 1) (ms - 576) := fun lt h3 f3 z3 a3 => by
      obtain ⟨b1, b2, b3, b4⟩ := bb lt
      rw [nI_1]
      refine ih h3 _ 1 ⟨f2.tr f3 (fun i _ q => q) (fun i hi q => by omega), by omega, cv_upd a3 b2, b3, Or.inr ⟨rfl, ?_⟩⟩
      rcases alt with ⟨-, e, -⟩ | ⟨-, q⟩
      · rw [← e]; exact b4
      · omega
    rw [cv_t hvf, nI_add]
    refine e_al a2 rfl hp (by decide) ⟨fun q2 => ?_, fun q2 => e_al a2 rfl hp (by decide) ⟨fun q3 => ?_, fun q3 => skip (fun v w b' hvf' => ?_)⟩⟩
    · refine e_as a2 rfl hp (by decide) (fun h3 f3 z3 a3 => put (Or.inl (fun r => ?_)) h3 f3 z3 a3)
      rw [cv_t r] at q2
      exact absurd q2 (nI_pos (by omega))
    · have cf : c p < FARn := Classical.byContradiction fun r => q2 (by rw [cv_f r]; decide)
      rw [cv_t cf] at q3
      exact e_as a2 rfl hp (by decide) (fun h3 f3 z3 a3 => put (Or.inr ((nI_ltI (by omega) (by omega)).mp q3)) h3 f3 z3 a3)
    · have cf : c p < FARn := Classical.byContradiction fun r => q2 (by rw [cv_f r]; decide)
      obtain ⟨rfl, rfl⟩ := only v w b'
      rw [cv_t cf] at q3
      have : ¬ c (nb p k) + wt H R p k < c p := fun r => q3 (nI_lt r (by omega))
      omega
  -- the sweeps
  have main : ∀ st : qH × (Nat → Nat), (q_fr (fun _ => False) h st.1 ∧ st.1.2 = h.2 + 1 ∧ ar st.1 h.2 576 (cv st.2) ∧ BF (B_to H R Z s) o st.2) → q_J l (d + 1) mL_costs mc ms Q QX h.2 40 [some (.ref i), some (.int x), some (.int y), some (.ref h.2), some (.int 1), none, none, none, none] [] st.1 (mc - 1) (ms - 576) := by
    refine q_while _ _ (fun st => sumC st.2 576) ?_
    rintro ⟨h2, c0⟩ ⟨f2, z2, a2, bf⟩ again
    dsimp only at f2 z2 a2 bf again ⊢
    refine v_L_costs_40 i x y _ _ ⟨fun q => absurd q z10, fun _ => ?_⟩
    refine q_loop (fun p (st : qH × (Nat → Nat) × Int32) => q_J l (d + 1) mL_costs mc ms Q QX h.2 51 [some (.ref i), some (.int x), some (.int y), some (.ref h.2), some (.int st.2.2), some (.int (nI p)), none, none, none] [] st.1 (mc - 1) (ms - 576)) (fun p st => BI (B_to H R Z s) o h st.1 c0 st.2.1 st.2.2 p 0) 576 ?_ ?_ 0 (h2, c0, 0) (by omega) ⟨f2, z2, a2, bf, Or.inl ⟨rfl, rfl, fun p' k' v w q => absurd q (by omega)⟩⟩
    · rintro ⟨h3, c, fl⟩ ⟨f3, z3, a3, bf3, alt⟩
      dsimp only at f3 z3 a3 bf3 alt ⊢
      refine v_L_costs_51 i x y _ _ (nI 576) ⟨fun _ => ?_, fun q => absurd (Int32.le_refl _) q⟩
      rcases alt with ⟨rfl, e, rl⟩ | ⟨rfl, lt⟩
      · refine v_L_costs_40 i x y _ _ ⟨fun _ => ?_, fun q => absurd rfl q⟩
        have L := SJ_end hB (SJ_X bf3.1 (Y := fun _ => False) (fun v hv hvc _ _ k u w b => rl u k v w (Or.inl (hB k u v w b).2.1) b hvc))
        refine hq h3 f3 z3 (a3.to (fun u hu => ?_)) (theC_lc hB L)
        have e1 := theC_is hB L hu
        have le := bf3.1.2.2.1 u hu
        have e2 : theC (B_to H R Z s) o u = c u := by omega
        unfold cv
        rw [e2]
      · exact again (h3, c) ⟨f3, z3, a3, bf3⟩ lt
    · rintro p ⟨h3, c, fl⟩ hp bi ih
      dsimp only at bi ⊢
      refine v_L_costs_51 i x y _ _ (nI p) ⟨fun q => absurd q (nI_ge hp (by decide)), fun _ => ?_⟩
      refine q_loop (fun k (st : qH × (Nat → Nat) × Int32) => q_J l (d + 1) mL_costs mc ms Q QX h.2 62 [some (.ref i), some (.int x), some (.int y), some (.ref h.2), some (.int st.2.2), some (.int (nI p)), some (.int (nI k)), none, none] [] st.1 (mc - 1) (ms - 576)) (fun k st => BI (B_to H R Z s) o h st.1 c0 st.2.1 st.2.2 p k) 8 ?_ ?_ 0 (h3, c, fl) (by omega) bi
      · rintro ⟨h4, c4, fl4⟩ ⟨f4, z4, a4, bf4, alt⟩
        dsimp only at f4 z4 a4 bf4 alt ⊢
        refine v_L_costs_62 i x y _ _ _ (nI 8) ⟨fun _ => ?_, fun q => absurd (Int32.le_refl _) q⟩
        rw [nI_1]
        refine ih (h4, c4, fl4) ⟨f4, z4, a4, bf4, alt.imp (fun q => ⟨q.1, q.2.1, fun p' k' v w hlt b hv => q.2.2 p' k' v w ?_ b hv⟩) id⟩
        have := (hB k' p' v w b).1
        omega
      · rintro k ⟨h4, c4, fl4⟩ hk bi4 ih4
        exact one c0 p k h4 c4 fl4 hp hk bi4 (fun h5 c5 fl5 b5 => ih4 (h5, c5, fl5) b5)
  -- the row filled
  refine q_loop (fun j (h2 : qH) => q_J l (d + 1) mL_costs mc ms Q QX h.2 9 [some (.ref i), some (.int x), some (.int y), some (.ref h.2), some (.int (nI j)), none, none, none, none] [] h2 (mc - 1) (ms - 576)) (fun j h2 => q_fr (fun _ => False) h h2 ∧ h2.2 = h.2 + 1 ∧ ∃ F, ar h2 h.2 576 F ∧ ∀ u, u < j → F u = -1) 576 ?_ ?_ 0 h1 (by omega) ⟨f1 _, z1, _, a1, fun u q => absurd q (by omega)⟩
  · rintro h2 ⟨f2, z2, F, a2, e2⟩
    refine v_L_costs_9 i x y _ (nI 576) ⟨fun _ => ?_, fun q => absurd (Int32.le_refl _) q⟩
    refine e_as a2 (ix_at' ho) (ix_lt ho) (by decide) (fun h3 f3 z3 a3 => main (h3, fun u => if u = o then 0 else FARn) ⟨f2.tr f3 (fun i _ q => q) (fun i hi q => by omega), z3.trans z2, a3.to (fun u hu => ?_), BF_begin ho9⟩)
    rw [eo]
    unfold cv
    by_cases e : u = o
    · subst e
      rw [pk_us]
      show (0 : Int32) = if (if u = u then 0 else FARn) < FARn then nI (if u = u then 0 else FARn) else -1
      rw [if_pos rfl, if_pos (by decide)]; rfl
    · rw [pk_un e, e2 u hu]
      show (-1 : Int32) = if (if u = o then 0 else FARn) < FARn then nI (if u = o then 0 else FARn) else -1
      rw [if_neg e, if_neg (by omega)]
  · rintro j h2 hj ⟨f2, z2, F, a2, e2⟩ ih
    refine v_L_costs_9 i x y _ (nI j) ⟨fun q => absurd q (nI_ge hj (by decide)), fun _ => ?_⟩
    refine e_as a2 rfl hj (by decide) (fun h3 f3 z3 a3 => ?_)
    rw [nI_1]
    refine ih h3 ⟨f2.tr f3 (fun i _ q => q) (fun i hi q => by omega), by omega, _, a3, fun u hu => ?_⟩
    by_cases e : u = j
    · subst e; rw [pk_us]
    · rw [pk_un e]; exact e2 u (by omega)
end LA2
