/-! the model's search: places in a line, each looked at again when its cost falls -/
def sumC (c : Nat → Nat) : Nat → Nat
  | 0 => 0
  | n + 1 => sumC c n + c n
theorem sumC_cong {c c' : Nat → Nat} : ∀ n, (∀ i, i < n → c i = c' i) → sumC c n = sumC c' n := by
  intro n
  induction n with
  | zero => exact fun _ => rfl
  | succ n ih =>
    intro h
    unfold sumC
    rw [ih (fun i hi => h i (by omega)), h n (by omega)]
theorem sumC_upd {c : Nat → Nat} {u v : Nat} : ∀ n, u < n → sumC (updN c u v) n + c u = sumC c n + v := by
  intro n
  induction n with
  | zero => intro h; omega
  | succ n ih =>
    intro h
    unfold sumC
    by_cases e : u = n
    · subst e
      rw [sumC_cong (c' := c) u (fun i hi => updN_ne (by omega)), updN_at]
      omega
    · have := ih (by omega)
      rw [updN_ne (k := u) (j := n) (by omega)]
      omega
def SJ (B : Nat → Nat → Nat → Nat → Prop) (o : Nat) (c : Nat → Nat) (X : Nat → Prop) : Prop := o < 576 ∧ c o = 0 ∧ (∀ u, u < 576 → c u ≤ FARn) ∧
  (∀ u, u < 576 → c u < FARn → u ≠ o → ∃ k v w, B k u v w ∧ c v < FARn ∧ c v + w ≤ c u) ∧ (∀ v, v < 576 → c v < FARn → ¬ X v → ∀ k u w, B k u v w → c u ≤ c v + w)
theorem SJ_X {B : Nat → Nat → Nat → Nat → Prop} {o : Nat} {c : Nat → Nat} {X Y : Nat → Prop} (h : SJ B o c X) (hy : ∀ v, v < 576 → c v < FARn → X v → ¬ Y v → ∀ k u w, B k u v w → c u ≤ c v + w) : SJ B o c Y := by
  obtain ⟨h1, h2, h3, h4, h5⟩ := h
  refine ⟨h1, h2, h3, h4, fun v hv hc ny k u w b => ?_⟩
  by_cases q : X v
  · exact hy v hv hc q ny k u w b
  · exact h5 v hv hc q k u w b
theorem SJ_relax {B : Nat → Nat → Nat → Nat → Prop} (hB : gB B) {o k u p w : Nat} {c : Nat → Nat} {X : Nat → Prop} (h : SJ B o c X) (hp : c p < FARn) (b : B k u p w) (lt : c p + w < c u) : u ≠ p ∧ SJ B o (updN c u (c p + w)) (fun v => X v ∨ v = u) := by
  obtain ⟨h1, h2, h3, h4, h5⟩ := h
  have hb := hB k u p w b
  have nup : u ≠ p := fun e => by rw [e] at lt; omega
  have nuo : u ≠ o := fun e => by rw [e, h2] at lt; omega
  have le : ∀ x, updN c u (c p + w) x ≤ c x := fun x => by
    by_cases q : x = u
    · subst q; rw [updN_at]; omega
    · rw [updN_ne q]; exact Nat.le_refl _
  have h3u := h3 u hb.2.1
  refine ⟨nup, h1, by rw [updN_ne (fun q => nuo q.symm)]; exact h2, fun x hx => Nat.le_trans (le x) (h3 x hx), fun x hx hc ne => ?_, fun v hv hc nx k' x w' b' => ?_⟩
  · by_cases q : x = u
    · subst q
      refine ⟨k, p, w, b, ?_, ?_⟩
      · rw [updN_ne (fun q => nup q.symm)]; exact hp
      · rw [updN_at, updN_ne (fun q => nup q.symm)]; exact Nat.le_refl _
    · rw [updN_ne q] at hc ⊢
      obtain ⟨k', v, w', b', q1, q2⟩ := h4 x hx hc ne
      exact ⟨k', v, w', b', Nat.lt_of_le_of_lt (le v) q1, by have := le v; omega⟩
  · have vu : v ≠ u := fun e => nx (Or.inr e)
    rw [updN_ne vu] at hc ⊢
    exact Nat.le_trans (le x) (h5 v hv hc (fun q => nx (Or.inl q)) k' x w' b')
theorem SJ_end {B : Nat → Nat → Nat → Nat → Prop} (hB : gB B) {o : Nat} {c : Nat → Nat} (h : SJ B o c (fun _ => False)) : lc B o c := by
  obtain ⟨h1, h2, h3, h4, h5⟩ := h
  have par : ∀ u, u < 576 → c u < FARn → u ≠ o → ∃ k v w, B k u v w ∧ v < 576 ∧ c v < FARn ∧ c u = c v + w := fun u hu hc ne => by
    obtain ⟨k, v, w, b, q1, q2⟩ := h4 u hu hc ne
    have hb := hB k u v w b
    have := h5 v hb.2.2.1 q1 (fun q => q) k u w b
    exact ⟨k, v, w, b, hb.2.2.1, q1, by omega⟩
  refine ⟨h1, h2, fun k u v w b hv => ?_, par⟩
  have hb := hB k u v w b
  have s := cost_small' hB h2 par hb.2.2.1 hv
  have := h5 v hb.2.2.1 hv (fun q => q) k u w b
  exact ⟨this, by unfold FARn; omega⟩
theorem SJ_begin {B : Nat → Nat → Nat → Nat → Prop} {o : Nat} (ho : o < 576) : SJ B o (fun u => if u = o then 0 else FARn) (fun v => v = o) := by
  refine ⟨ho, if_pos rfl, fun u _ => ?_, fun u hu hc ne => ?_, fun v hv hc nx => ?_⟩
  · show (if u = o then 0 else FARn) ≤ FARn
    split <;> omega
  · have hc : (if u = o then 0 else FARn) < FARn := hc
    rw [if_neg ne] at hc; omega
  · have hc : (if v = o then 0 else FARn) < FARn := hc
    have nx : ¬ v = o := nx
    rw [if_neg nx] at hc; omega
/-- the line: m places f, and the flags -/
def inL (f : Nat → Nat) (m u : Nat) : Prop := ∃ j, j < m ∧ f j = u
def SQ (m : Nat) (f : Nat → Nat) (il : Nat → Int32) : Prop := (∀ j, j < m → f j < 576) ∧ inj f m ∧ ∀ u, u < 576 → (inL f m u → il u = 1) ∧ (¬ inL f m u → il u = 0)
theorem SQ_room {m u : Nat} {f : Nat → Nat} {il : Nat → Int32} (h : SQ m f il) (hu : u < 576) (hn : ¬ inL f m u) : m < 576 := by
  refine fb_holes 576 (m + 1) (fun i => if i < m then f i else u) (fun i hi => ?_) (fun i j hij hj e => ?_)
  · by_cases q : i < m
    · simp [q]; exact h.1 i q
    · simp [q]; exact hu
  · change (if i < m then f i else u) = (if j < m then f j else u) at e
    rw [if_pos (by omega)] at e
    by_cases q : j < m
    · rw [if_pos q] at e
      have := h.2.1 i j (by omega) q e
      omega
    · rw [if_neg q] at e
      exact hn ⟨i, by omega, e⟩
theorem SQ_push {m u : Nat} {f : Nat → Nat} {il : Nat → Int32} (h : SQ m f il) (hu : u < 576) (hn : ¬ inL f m u) : SQ (m + 1) (updN f m u) (upd il u 1) ∧ ∀ v, inL (updN f m u) (m + 1) v ↔ inL f m v ∨ v = u := by
  obtain ⟨h1, h2, h3⟩ := h
  have fo : ∀ j, j < m → updN f m u j = f j := fun j hj => updN_ne (by omega)
  have hin : ∀ v, inL (updN f m u) (m + 1) v ↔ inL f m v ∨ v = u := fun v => by
    constructor
    · rintro ⟨j, hj, e⟩
      by_cases q : j = m
      · subst q; rw [updN_at] at e; exact Or.inr e.symm
      · rw [fo j (by omega)] at e; exact Or.inl ⟨j, by omega, e⟩
    · rintro (⟨j, hj, e⟩ | rfl)
      · exact ⟨j, by omega, by rw [fo j hj]; exact e⟩
      · exact ⟨m, by omega, updN_at⟩
  refine ⟨⟨fun j hj => ?_, fun i j hi hj e => ?_, fun v hv => ⟨fun q => ?_, fun q => ?_⟩⟩, hin⟩
  · by_cases q : j = m
    · subst q; rw [updN_at]; exact hu
    · rw [fo j (by omega)]; exact h1 j (by omega)
  · by_cases qi : i = m
    · by_cases qj : j = m
      · omega
      · rw [qi, updN_at, fo j (by omega)] at e
        exact absurd ⟨j, by omega, e.symm⟩ hn
    · by_cases qj : j = m
      · rw [qj, updN_at, fo i (by omega)] at e
        exact absurd ⟨i, by omega, e⟩ hn
      · rw [fo i (by omega), fo j (by omega)] at e
        exact h2 i j (by omega) (by omega) e
  · by_cases e : v = u
    · subst e; rw [pk_us]
    · rw [pk_un e]; exact (h3 v hv).1 (((hin v).mp q).resolve_right e)
  · have nu : v ≠ u := fun e => q ((hin v).mpr (Or.inr e))
    rw [pk_un nu]
    exact (h3 v hv).2 (fun r => q ((hin v).mpr (Or.inl r)))
theorem SQ_pop {m : Nat} {f : Nat → Nat} {il : Nat → Int32} (hm : 0 < m) (h : SQ m f il ∨ (m = 1 ∧ f 0 < 576 ∧ ∀ u, u < 576 → il u = 0)) : SQ (m - 1) (fun j => f (j + 1)) (upd il (f 0) 0) ∧ (¬ inL (fun j => f (j + 1)) (m - 1) (f 0)) ∧ f 0 < 576 ∧ ∀ v, inL f m v ↔ inL (fun j => f (j + 1)) (m - 1) v ∨ v = f 0 := by
  have hin : ∀ v, inL f m v ↔ inL (fun j => f (j + 1)) (m - 1) v ∨ v = f 0 := fun v => by
    constructor
    · rintro ⟨j, hj, e⟩
      by_cases q : j = 0
      · subst q; exact Or.inr e.symm
      · exact Or.inl ⟨j - 1, by omega, by show f (j - 1 + 1) = v; rw [show j - 1 + 1 = j by omega]; exact e⟩
    · rintro (⟨j, hj, e⟩ | rfl)
      · exact ⟨j + 1, by omega, e⟩
      · exact ⟨0, hm, rfl⟩
  rcases h with ⟨h1, h2, h3⟩ | ⟨h1, h2, h3⟩
  · have nin : ¬ inL (fun j => f (j + 1)) (m - 1) (f 0) := by
      rintro ⟨j, hj, e⟩
      have := h2 (j + 1) 0 (by omega) hm e
      omega
    refine ⟨⟨fun j hj => h1 _ (by omega), fun i j hi hj e => by have := h2 (i + 1) (j + 1) (by omega) (by omega) e; omega, fun u hu => ⟨fun q => ?_, fun q => ?_⟩⟩, nin, h1 0 hm, hin⟩
    · have nu : u ≠ f 0 := fun e => nin (e ▸ q)
      rw [pk_un nu]
      exact (h3 u hu).1 ((hin u).mpr (Or.inl q))
    · by_cases e : u = f 0
      · rw [e, pk_us]
      · rw [pk_un e]
        exact (h3 u hu).2 (fun r => ((hin u).mp r).elim q e)
  · subst h1
    have nin : ∀ v, ¬ inL (fun j => f (j + 1)) (1 - 1) v := by
      rintro v ⟨j, hj, -⟩
      omega
    refine ⟨⟨fun j hj => absurd hj (by omega), fun i j hi => absurd hi (by omega), fun u hu => ⟨fun q => absurd q (nin u), fun _ => ?_⟩⟩, nin _, h2, hin⟩
    by_cases e : u = f 0
    · rw [e, pk_us]
    · rw [pk_un e]; exact h3 u hu
def rS (i : Nat) : Prop := 77 ≤ i ∧ i ≤ 79
/-- while p is looked at, up to the direction k -/
def RI (B : Nat → Nat → Nat → Nat → Prop) (o M : Nat) (h0 h : qH) (hd m p k : Nat) (c : Nat → Nat) : Prop := q_fr rS h0 h ∧ h.2 = h0.2 ∧ ar h 77 576 (fun u => nI (c u)) ∧
  ∃ (f : Nat → Nat) (il : Nat → Int32), (∃ F, ar h 78 576 F ∧ ∀ j, j < m → F ((hd + j) % 576) = nI (f j)) ∧ br h 79 576 il ∧ SQ m f il ∧ SJ B o c (fun v => inL f m v ∨ v = p) ∧ (¬ inL f m p) ∧
    (∀ k', k' < k → ∀ u w, B k' u p w → c u ≤ c p + w) ∧ c p < FARn ∧ 2 * sumC c 576 + m < M ∧ ∀ j, j < m → c (f j) < FARn
section MD2
variable {l : Launch} {d mc ms : Nat} {Q : Option Value → qH → Prop} {QX : String → qH → Prop} {h : qH} {W : WS} {n m : Nat} {th wy : Int32}
theorem rk_tail {B : Nat → Nat → Nat → Nat → Prop} (hB : gB B) (hf : ∀ k u v w u' w', B k u v w → B k u' v w' → u' = u ∧ w' = w) {o M hd mm p k u : Nat} {c : Nat → Nat} {h0 : qH} {X Y T fx fy ox oy : Int32} (mo : MO h W n m th wy) (g : MG h W)
    (ri : RI B o M h0 h hd mm p k c) (hhd : hd < 576) (hp : p < 576) (hk : k < 8) (hfp : inP fx fy) (hop : inP ox oy) (eu : ix ox oy = u)
    (hE : sp_can W.H W.Z W.s fx fy k → ∃ w, sp_min W.H W.R fx fy k = nI w ∧ B k u p w) (hN : ¬ sp_can W.H W.Z W.s fx fy k → ∀ u' w', ¬ B k u' p w')
    (out : ∀ h' mm' c', RI B o M h0 h' hd mm' p (k + 1) c' → q_J l (d + 3) mX10_reckonCosts mc ms Q QX h0.2 92 [some (.ref 49), some (.int X), some (.int Y), some (.int T), some (.int (nI hd)), some (.int (nI mm')), some (.int (nI p)), some (.int (nI (k + 1))), none, none, none, none, none, none] [] h' mc ms) :
    q_J l (d + 3) mX10_reckonCosts mc ms Q QX h0.2 198 [some (.ref 49), some (.int X), some (.int Y), some (.int T), some (.int (nI hd)), some (.int (nI mm)), some (.int (nI p)), some (.int (nI k)), some (.int ox), some (.int oy), some (.int fx), none, none, none] [.int fy] h mc ms := by
  obtain ⟨f1, z1, a1, f, il, ⟨F, a2, e2⟩, a3, sq, sj, nin, rel, cp, me, fn⟩ := id ri
  have far : FARn = 1000000 := rfl
  have hu : u < 576 := by rw [← eu]; exact ix_lt hop
  have skip : (∀ u' w', B k u' p w' → c u' ≤ c p + w') → q_J l (d + 3) mX10_reckonCosts mc ms Q QX h0.2 92 [some (.ref 49), some (.int X), some (.int Y), some (.int T), some (.int (nI hd)), some (.int (nI mm)), some (.int (nI p)), some (.int (nI k + 1)), none, none, none, none, none, none] [] h mc ms := fun hs => by
    rw [nI_1]
    refine out h mm c ⟨f1, z1, a1, f, il, ⟨F, a2, e2⟩, a3, sq, sj, nin, fun k' hk' u' w' b => ?_, cp, me, fn⟩
    by_cases e : k' = k
    · subst e; exact hs u' w' b
    · exact rel k' (by omega) u' w' b
  refine v_X10_reckonCosts_198 49 _ _ _ _ _ _ _ _ _ _ _ (e_ob mo (m_canStep mo g hfp hk (fun hc => ⟨_, rfl, fun q => absurd q z10, fun _ => ?_⟩) (fun hc => ⟨_, rfl, fun _ => skip (fun u' w' b => absurd b (hN hc u' w')), fun q => absurd rfl q⟩)))
  obtain ⟨w, ew, b⟩ := hE hc
  have hb := hB k u p w b
  have cu := sj.2.2.1 u hu
  refine e_gr mo rfl (e_al a1 rfl hp (by decide) (e_ob mo (m_minutes mo g hfp hk hc.1 ⟨_, rfl, m_at hop ⟨_, rfl, e_gr mo rfl (e_al a1 (by rw [eu]) hu (by decide) ?_)⟩⟩)))
  rw [ew, nI_add, eu]
  refine ⟨fun q => ?_, fun q => skip (fun u' w' b' => ?_)⟩
  rotate_left
  · obtain ⟨rfl, rfl⟩ := hf k u p w u' w' b b'
    have : ¬ c p + w' < c u' := fun r => q (nI_lt r (by omega))
    omega
  have lt : c p + w < c u := (nI_ltI (by omega) (by omega)).mp q
  have sr := SJ_relax hB sj cp b lt
  have sm := sumC_upd (c := c) (u := u) (v := c p + w) 576 hu
  have rel' : ∀ k', k' < k + 1 → ∀ u' w', B k' u' p w' → updN c u (c p + w) u' ≤ updN c u (c p + w) p + w' := fun k' hk' u' w' b' => by
    rw [updN_ne (j := p) (fun q => sr.1 q.symm)]
    by_cases e : k' = k
    · subst e
      obtain ⟨rfl, rfl⟩ := hf k' u p w u' w' b b'
      rw [updN_at]; exact Nat.le_refl _
    · have := rel k' (by omega) u' w' b'
      by_cases e3 : u' = u
      · subst e3; rw [updN_at]; omega
      · rw [updN_ne e3]; exact this
  have le : ∀ x, updN c u (c p + w) x ≤ c x := fun x => by
    by_cases q : x = u
    · subst q; rw [updN_at]; omega
    · rw [updN_ne q]; exact Nat.le_refl _
  have cp' : updN c u (c p + w) p < FARn := by rw [updN_ne (fun q => sr.1 q.symm)]; exact cp
  refine e_gr mo rfl (e_as a1 rfl hu (by decide) (fun h2 f2 z2 b1 => ?_))
  have b1' : ar h2 77 576 (fun x => nI (updN c u (c p + w) x)) := b1.to (fun x hx => by
    by_cases e : x = u
    · subst e; simp [upd, updN]
    · simp [upd, updN, e])
  have mo2 := mo.fr f2 (by decide)
  have F2 : q_fr rS h0 h2 := f1.t1 f2 (by unfold rS; omega)
  have a2' := a2.fr f2 (by decide)
  have a3' := a3.fr f2 (by decide)
  refine e_gr mo2 rfl (e_zl a3' rfl hu (by decide) ⟨fun q5 => ?_, fun q5 => ?_⟩)
  rotate_left
  · have inn : inL f mm u := Classical.byContradiction fun r => q5 ((sq.2.2 u hu).2 r)
    rw [nI_1]
    refine out h2 mm _ ⟨F2, z2.trans z1, b1', f, il, ⟨F, a2', e2⟩, a3', sq, SJ_X sr.2 (fun v hv hc hx ny => absurd hx (fun r => ?_)), nin, rel', cp', by omega, fun j hj => Nat.lt_of_le_of_lt (le _) (fn j hj)⟩
    rcases r with r | r
    · exact ny r
    · exact ny (Or.inl (r ▸ inn))
  have nil : ¬ inL f mm u := fun r => by
    rw [(sq.2.2 u hu).1 r] at q5
    exact absurd q5 z10
  have room := SQ_room sq hu nil
  have sp := SQ_push sq hu nil
  refine e_gr mo2 rfl (e_zs (Or.inr rfl) a3' rfl hu (by decide) (fun h3 f3 z3 b3 => ?_))
  have mo3 := mo2.fr f3 (by decide)
  refine e_gr mo3 rfl (e_as (k := (hd + mm) % 576) (a2'.fr f3 (by decide)) ?_ (by omega) (by decide) (fun h4 f4 z4 b4 => ?_))
  · rw [nI_add, show (576 : Int32) = nI 576 from rfl]
    exact pk_rem (by omega) (by decide) (by decide)
  rw [nI_1, nI_1]
  refine out h4 (mm + 1) _ ⟨(F2.t1 f3 (by unfold rS; omega)).t1 f4 (by unfold rS; omega), by rw [z4, z3, z2, z1], (b1'.fr f3 (by decide)).fr f4 (by decide), updN f mm u, _, ⟨_, b4, fun j hj => ?_⟩, b3.fr f4 (by decide), sp.1, SJ_X sr.2 (fun v hv hc hx ny => absurd hx (fun r => ?_)), fun r => ?_, rel', cp', by omega, fun j hj => ?_⟩
  · by_cases e : j = mm
    · subst e; rw [pk_us, updN_at]
    · rw [pk_un (by omega), updN_ne e]; exact e2 j (by omega)
  · rcases r with (r | r) | r
    · exact ny (Or.inl ((sp.2 v).mpr (Or.inl r)))
    · exact ny (Or.inr r)
    · exact ny (Or.inl ((sp.2 v).mpr (Or.inr r)))
  · rcases (sp.2 p).mp r with r | r
    · exact nin r
    · exact sr.1 r.symm
  · by_cases e : j = mm
    · subst e; rw [updN_at, updN_at]; omega
    · rw [updN_ne (k := mm) e]; exact Nat.lt_of_le_of_lt (le _) (fn j (by omega))
theorem m_reckon_to {o : Nat} {x y : Int32} (mo : MO h W n m th wy) (g : MG h W) (gok : gOk W.H W.R) (hw : wOk W) (ho : inP x y) (eo : ix x y = o) (c1 : arA h 77 576) (c2 : arA h 78 576) (c3 : br h 79 576 (fun _ => 0))
    (hq : ∀ h', q_fr rS h h' → h'.2 = h.2 → lc (B_to W.H W.R W.Z W.s) o (C_to W o) → ar h' 77 576 (fun p => nI (C_to W o p)) → arA h' 78 576 → br h' 79 576 (fun _ => 0) → Q none h') : q_Ct l (d + 3) mX10_reckonCosts [.ref 49, .int x, .int y, .int 1] h mc ms Q QX := by
  have far : FARn = 1000000 := rfl
  have hB : gB (B_to W.H W.R W.Z W.s) := gB_to gok
  have hf := B_to_fun hw
  have ho9 : o < 576 := by rw [← eo]; exact ix_lt ho
  obtain ⟨F1, c1⟩ := c1
  obtain ⟨F2, c2⟩ := c2
  refine v_X10_reckonCosts 49 x y _ ?_
  -- the line's loop
  have main : ∀ s : (qH × Nat × Nat) × (Nat → Nat), (s.1.2.1 < 576 ∧ q_fr rS h s.1.1 ∧ s.1.1.2 = h.2 ∧ ar s.1.1 77 576 (fun u => nI (s.2 u)) ∧ ∃ (f : Nat → Nat) (il : Nat → Int32), (∃ F, ar s.1.1 78 576 F ∧ ∀ j, j < s.1.2.2 → F ((s.1.2.1 + j) % 576) = nI (f j)) ∧ br s.1.1 79 576 il ∧ (SQ s.1.2.2 f il ∨ (s.1.2.2 = 1 ∧ f 0 < 576 ∧ ∀ u, u < 576 → il u = 0)) ∧ SJ (B_to W.H W.R W.Z W.s) o s.2 (inL f s.1.2.2) ∧ s.1.2.2 ≤ 576 ∧ ∀ j, j < s.1.2.2 → s.2 (f j) < FARn) →
      q_J l (d + 3) mX10_reckonCosts mc ms Q QX h.2 54 [some (.ref 49), some (.int x), some (.int y), some (.int 1), some (.int (nI s.1.2.1)), some (.int (nI s.1.2.2)), none, none, none, none, none, none, none, none] [] s.1.1 mc ms := by
    refine q_while _ _ (fun s => 2 * sumC s.2 576 + s.1.2.2) ?_
    rintro ⟨⟨h1, hd, mm⟩, c⟩ ⟨hhd, f1, z1, a1, f, il, ⟨F, a2, e2⟩, a3, sq, sj, hmm, fin⟩ ih
    dsimp only at hhd f1 z1 a1 a2 e2 a3 sq sj hmm fin ih ⊢
    have mo1 := mo.fr f1 (by unfold rS; omega)
    by_cases m0 : mm = 0
    · subst m0
      refine v_X10_reckonCosts_54 49 _ _ _ _ _ ⟨fun _ => ?_, fun q => absurd (by decide) q⟩
      have e0 : ∀ v, ¬ inL f 0 v := by rintro v ⟨j, hj, -⟩; omega
      have L := SJ_end hB (SJ_X sj (fun v hv hc hx ny => absurd hx (e0 v)))
      have sq' : SQ 0 f il := sq.resolve_right (fun q => by have := q.1; omega)
      refine hq h1 f1 z1 (theC_lc hB L) (a1.to (fun u hu => ?_)) ⟨F, a2⟩ (a3.to (fun u hu => (sq'.2.2 u hu).2 (e0 u)))
      have := theC_is hB L hu
      have le := sj.2.2.1 u hu
      show nI (c u) = nI (theC (B_to W.H W.R W.Z W.s) o u)
      rw [this, show min (c u) FARn = c u by omega]
    have pop := SQ_pop (by omega) sq
    refine v_X10_reckonCosts_54 49 _ _ _ _ _ ⟨fun q => absurd q (nI_nle (by omega) (by omega)), fun _ => ?_⟩
    have e20 := e2 0 (by omega)
    rw [show (hd + 0) % 576 = hd by omega] at e20
    refine e_gr mo1 rfl (e_al a2 rfl hhd (by decide) ?_)
    rw [e20]
    generalize hp0 : f 0 = p at pop ⊢
    obtain ⟨pq, pn, hp, pin⟩ := pop
    refine e_gr mo1 rfl (e_zs (Or.inl rfl) a3 rfl hp (by decide) (fun h2 f2 z2 b2 => ?_))
    have ehd : nI hd + 1 - (nI hd + 1) / 576 * 576 = nI ((hd + 1) % 576) := by
      rw [nI_1, show (576 : Int32) = nI 576 from rfl]
      exact pk_rem (by omega) (by decide) (by decide)
    have em : nI mm + -1 = nI (mm - 1) := by
      obtain ⟨m', rfl⟩ : ∃ m', mm = m' + 1 := ⟨mm - 1, by omega⟩
      exact pk_m1 m'
    rw [ehd, em]
    have cp : c p < FARn := by rw [← hp0]; exact fin 0 (by omega)
    have ri0 : RI (B_to W.H W.R W.Z W.s) o (2 * sumC c 576 + mm) h h2 ((hd + 1) % 576) (mm - 1) p 0 c := by
      refine ⟨f1.t1 f2 (by unfold rS; omega), z2.trans z1, a1.fr f2 (by decide), fun j => f (j + 1), _, ⟨F, a2.fr f2 (by decide), fun j hj => ?_⟩, b2, pq, SJ_X sj (fun v hv hc hx ny => absurd ((pin v).mp hx) ny), pn, fun k' hk' => absurd hk' (by omega), cp, by omega, fun j hj => fin (j + 1) (by omega)⟩
      rw [show ((hd + 1) % 576 + j) % 576 = (hd + (j + 1)) % 576 by omega]
      exact e2 (j + 1) (by omega)
    have inner := q_loop (fun k (st : (qH × Nat) × (Nat → Nat)) => q_J l (d + 3) mX10_reckonCosts mc ms Q QX h.2 92 [some (.ref 49), some (.int x), some (.int y), some (.int 1), some (.int (nI ((hd + 1) % 576))), some (.int (nI st.1.2)), some (.int (nI p)), some (.int (nI k)), none, none, none, none, none, none] [] st.1.1 mc ms) (fun k st => RI (B_to W.H W.R W.Z W.s) o (2 * sumC c 576 + mm) h st.1.1 ((hd + 1) % 576) st.1.2 p k st.2) 8 ?_ ?_ 0 ((h2, mm - 1), c) (by omega) ri0
    · exact inner
    · rintro ⟨⟨h3, m3⟩, c3'⟩ ⟨g1, g2, g3, f', il', g4, g5, g6, g7, g8, g9, g10, g11, g12⟩
      dsimp only at g1 g2 g3 g4 g5 g6 g7 g8 g9 g10 g11 g12 ⊢
      refine v_X10_reckonCosts_92 49 _ _ _ _ _ _ (nI 8) ⟨fun _ => ?_, fun q => absurd (Int32.le_refl _) q⟩
      refine ih ((h3, (hd + 1) % 576, m3), c3') ⟨Nat.mod_lt _ (by omega), g1, g2, g3, f', il', g4, g5, Or.inl g6, SJ_X g7 (fun v hv hc hx ny k u w b => ?_), ?_, g12⟩ g11
      · have ev : v = p := hx.resolve_left ny
        subst ev
        exact g9 k (hB k u v w b).1 u w b
      · show m3 ≤ 576
        exact Nat.le_of_not_lt fun q => by
          have := fb_holes 576 m3 f' (fun i hi => g6.1 i hi) (fun i j hij hj e => by have := g6.2.1 i j (by omega) hj e; omega)
          omega
    · rintro k ⟨⟨h3, m3⟩, c3'⟩ hk ri ih2
      dsimp only at ri ⊢
      have F3 := ri.1
      have mo3 := mo.fr F3 (by unfold rS; omega)
      have g3 : MG h3 W := g.fr F3 (fun i a b => by unfold rS; omega)
      have e24 : nI p - nI p / 24 * 24 = px p := r24 (by omega)
      have d24' : nI p / 24 = py p := d24 (by omega)
      refine v_X10_reckonCosts_92 49 _ _ _ _ _ _ (nI k) ⟨fun q => absurd q (nI_ge hk (by decide)), fun _ => ⟨fun q => absurd q z10, fun _ => e_sl rfl hk ?_⟩⟩
      rw [e24]
      refine v_X10_reckonCosts_124 49 _ _ _ _ _ _ _ _ _ ⟨fun q => absurd q z10, fun _ => e_sl rfl hk ?_⟩
      rw [d24']
      have only : ∀ u w, B_to W.H W.R W.Z W.s k u p w → u < 576 ∧ px u = px p + -q_dx k ∧ py u = py p + -q_dy k := fun u w b => by
        have e := p_ix b.2.2.1.1
        have e3 : ix (px u + q_dx k) (py u + q_dy k) = p := b.2.2.2.1
        rw [e3] at e
        refine ⟨b.2.1, ?_, ?_⟩
        · rw [e.1]; grind
        · rw [e.2]; grind
      refine v_X10_reckonCosts_152 49 _ _ _ _ _ _ _ _ _ _ (m_isPlace (fun hin => ⟨_, rfl, fun q => absurd q z10, fun _ => ?_⟩) (fun hin => ⟨_, rfl, fun _ => ?_, fun q => absurd rfl q⟩))
      rotate_left
      · rw [nI_1]
        obtain ⟨g1, g2, g3, f', il', g4, g5, g6, g7, g8, g9, g10, g11, g12⟩ := ri
        refine ih2 ((h3, m3), c3') ⟨g1, g2, g3, f', il', g4, g5, g6, g7, g8, fun k' hk' u w b => ?_, g10, g11, g12⟩
        by_cases e : k' = k
        · subst e; exact absurd (only u w b) (fun r => hin (by have q := inP_p r.1; rw [r.2.1, r.2.2] at q; exact q))
        · exact g9 k' (by omega) u w b
      refine ⟨fun q => absurd q z10, fun _ => ?_⟩
      refine v_X10_reckonCosts_182 49 _ _ _ _ _ _ _ _ _ _ ⟨fun q => absurd q z10, fun _ => ?_⟩
      change inP (px p + -q_dx k) (py p + -q_dy k) at hin
      have hu := ix_lt hin
      have pe := p_ix hin
      have back : nb (ix (px p + -q_dx k) (py p + -q_dy k)) k = p := by
        unfold nb
        rw [pe.1, pe.2, show px p + -q_dx k + q_dx k = px p by grind, show py p + -q_dy k + q_dy k = py p by grind, ix_p hp]
      refine rk_tail hB hf mo3 g3 ri (Nat.mod_lt _ (by omega)) hp hk hin hin rfl (fun hc => ?_) (fun hc u' w' b => hc ?_) (fun h' mm' c' r => ih2 ((h', mm'), c') r)
      · have hc2 : sp_can W.H W.Z W.s (px (ix (px p + -q_dx k) (py p + -q_dy k))) (py (ix (px p + -q_dx k) (py p + -q_dy k))) k := by rw [pe.1, pe.2]; exact hc
        have q := stW_of gok hk hu hc2
        rw [back] at q
        refine ⟨_, ?_, q⟩
        have := (wt_ok gok hu hc2).1
        rw [pe.1, pe.2] at this
        exact this
      · have q := only u' w' b
        have r := b.2.2.1
        rw [q.2.1, q.2.2] at r
        exact r
  -- its beginning
  have start := q_loop (fun i (st : qH) => q_J l (d + 3) mX10_reckonCosts mc ms Q QX h.2 3 [some (.ref 49), some (.int x), some (.int y), some (.int 1), some (.int (nI i)), none, none, none, none, none, none, none, none, none] [] st mc ms)
    (fun i st => q_fr rS h st ∧ st.2 = h.2 ∧ (∃ F, ar st 77 576 F ∧ ∀ j, j < i → F j = nI FARn) ∧ ar st 78 576 F2 ∧ br st 79 576 (fun _ => 0)) 576 ?_ ?_ 0 h (by omega) ⟨q_fr.rf, rfl, ⟨F1, c1, fun j hj => absurd hj (by omega)⟩, c2, c3⟩
  · exact start
  · rintro h1 ⟨f1, z1, ⟨F, a1, e1⟩, a2, a3⟩
    have mo1 := mo.fr f1 (by unfold rS; omega)
    refine v_X10_reckonCosts_3 49 _ _ _ (nI 576) ⟨fun _ => ?_, fun q => absurd (Int32.le_refl _) q⟩
    refine e_gr mo1 rfl (m_at ho ⟨_, rfl, ?_⟩)
    rw [eo]
    refine e_as a1 rfl ho9 (by decide) (fun h2 f2 z2 b2 => ?_)
    have mo2 := mo1.fr f2 (by decide)
    refine e_gr mo2 rfl (m_at ho ⟨_, rfl, ?_⟩)
    rw [eo]
    refine e_as (k := 0) (a2.fr f2 (by decide)) rfl (by decide) (by decide) (fun h3 f3 z3 b3 => ?_)
    refine main ((h3, 0, 1), fun u => if u = o then 0 else FARn) ⟨(show 0 < 576 by decide), (f1.t1 f2 (by unfold rS; omega)).t1 f3 (by unfold rS; omega), by rw [z3, z2, z1], (b2.fr f3 (by decide)).to (fun u hu => ?_), fun _ => o, fun _ => 0, ⟨_, b3, fun j hj => ?_⟩, (a3.fr f2 (by decide)).fr f3 (by decide), Or.inr ⟨rfl, ho9, fun _ _ => rfl⟩, SJ_X (SJ_begin ho9) (fun v hv hc hx ny => absurd ⟨0, (show 0 < 1 by decide), hx.symm⟩ ny), (show 1 ≤ 576 by decide), fun j hj => by show (if o = o then 0 else FARn) < FARn; rw [if_pos rfl]; decide⟩
    · by_cases e : u = o
      · subst e; simp [upd]; rfl
      · simp [upd, e]; exact e1 u hu
    · have : j = 0 := by change j < 1 at hj; omega
      subst this
      simp [upd]
  · rintro i h1 hi ⟨f1, z1, ⟨F, a1, e1⟩, a2, a3⟩ ih
    have mo1 := mo.fr f1 (by unfold rS; omega)
    refine v_X10_reckonCosts_3 49 _ _ _ (nI i) ⟨fun q => absurd q (nI_ge hi (by decide)), fun _ => e_gr mo1 rfl (e_as a1 rfl hi (by decide) (fun h2 f2 z2 b2 => ?_))⟩
    rw [nI_1]
    refine ih h2 ⟨f1.t1 f2 (by unfold rS; omega), z2.trans z1, ⟨_, b2, fun j hj => ?_⟩, a2.fr f2 (by decide), a3.fr f2 (by decide)⟩
    by_cases e : j = i
    · subst e; simp [upd]; rfl
    · simp [upd, e]; exact e1 j (by omega)
theorem m_reckon_fr {o : Nat} {x y : Int32} (mo : MO h W n m th wy) (g : MG h W) (gok : gOk W.H W.R) (hw : wOk W) (ho : inP x y) (eo : ix x y = o) (c1 : arA h 77 576) (c2 : arA h 78 576) (c3 : br h 79 576 (fun _ => 0))
    (hq : ∀ h', q_fr rS h h' → h'.2 = h.2 → lc (B_fr W.H W.R W.Z W.s) o (C_fr W o) → ar h' 77 576 (fun p => nI (C_fr W o p)) → arA h' 78 576 → br h' 79 576 (fun _ => 0) → Q none h') : q_Ct l (d + 3) mX10_reckonCosts [.ref 49, .int x, .int y, .int 0] h mc ms Q QX := by
  have far : FARn = 1000000 := rfl
  have hB : gB (B_fr W.H W.R W.Z W.s) := gB_fr gok
  have hf := B_fr_fun hw
  have ho9 : o < 576 := by rw [← eo]; exact ix_lt ho
  obtain ⟨F1, c1⟩ := c1
  obtain ⟨F2, c2⟩ := c2
  refine v_X10_reckonCosts 49 x y _ ?_
  -- the line's loop
  have main : ∀ s : (qH × Nat × Nat) × (Nat → Nat), (s.1.2.1 < 576 ∧ q_fr rS h s.1.1 ∧ s.1.1.2 = h.2 ∧ ar s.1.1 77 576 (fun u => nI (s.2 u)) ∧ ∃ (f : Nat → Nat) (il : Nat → Int32), (∃ F, ar s.1.1 78 576 F ∧ ∀ j, j < s.1.2.2 → F ((s.1.2.1 + j) % 576) = nI (f j)) ∧ br s.1.1 79 576 il ∧ (SQ s.1.2.2 f il ∨ (s.1.2.2 = 1 ∧ f 0 < 576 ∧ ∀ u, u < 576 → il u = 0)) ∧ SJ (B_fr W.H W.R W.Z W.s) o s.2 (inL f s.1.2.2) ∧ s.1.2.2 ≤ 576 ∧ ∀ j, j < s.1.2.2 → s.2 (f j) < FARn) →
      q_J l (d + 3) mX10_reckonCosts mc ms Q QX h.2 54 [some (.ref 49), some (.int x), some (.int y), some (.int 0), some (.int (nI s.1.2.1)), some (.int (nI s.1.2.2)), none, none, none, none, none, none, none, none] [] s.1.1 mc ms := by
    refine q_while _ _ (fun s => 2 * sumC s.2 576 + s.1.2.2) ?_
    rintro ⟨⟨h1, hd, mm⟩, c⟩ ⟨hhd, f1, z1, a1, f, il, ⟨F, a2, e2⟩, a3, sq, sj, hmm, fin⟩ ih
    dsimp only at hhd f1 z1 a1 a2 e2 a3 sq sj hmm fin ih ⊢
    have mo1 := mo.fr f1 (by unfold rS; omega)
    by_cases m0 : mm = 0
    · subst m0
      refine v_X10_reckonCosts_54 49 _ _ _ _ _ ⟨fun _ => ?_, fun q => absurd (by decide) q⟩
      have e0 : ∀ v, ¬ inL f 0 v := by rintro v ⟨j, hj, -⟩; omega
      have L := SJ_end hB (SJ_X sj (fun v hv hc hx ny => absurd hx (e0 v)))
      have sq' : SQ 0 f il := sq.resolve_right (fun q => by have := q.1; omega)
      refine hq h1 f1 z1 (theC_lc hB L) (a1.to (fun u hu => ?_)) ⟨F, a2⟩ (a3.to (fun u hu => (sq'.2.2 u hu).2 (e0 u)))
      have := theC_is hB L hu
      have le := sj.2.2.1 u hu
      show nI (c u) = nI (theC (B_fr W.H W.R W.Z W.s) o u)
      rw [this, show min (c u) FARn = c u by omega]
    have pop := SQ_pop (by omega) sq
    refine v_X10_reckonCosts_54 49 _ _ _ _ _ ⟨fun q => absurd q (nI_nle (by omega) (by omega)), fun _ => ?_⟩
    have e20 := e2 0 (by omega)
    rw [show (hd + 0) % 576 = hd by omega] at e20
    refine e_gr mo1 rfl (e_al a2 rfl hhd (by decide) ?_)
    rw [e20]
    generalize hp0 : f 0 = p at pop ⊢
    obtain ⟨pq, pn, hp, pin⟩ := pop
    refine e_gr mo1 rfl (e_zs (Or.inl rfl) a3 rfl hp (by decide) (fun h2 f2 z2 b2 => ?_))
    have ehd : nI hd + 1 - (nI hd + 1) / 576 * 576 = nI ((hd + 1) % 576) := by
      rw [nI_1, show (576 : Int32) = nI 576 from rfl]
      exact pk_rem (by omega) (by decide) (by decide)
    have em : nI mm + -1 = nI (mm - 1) := by
      obtain ⟨m', rfl⟩ : ∃ m', mm = m' + 1 := ⟨mm - 1, by omega⟩
      exact pk_m1 m'
    rw [ehd, em]
    have cp : c p < FARn := by rw [← hp0]; exact fin 0 (by omega)
    have ri0 : RI (B_fr W.H W.R W.Z W.s) o (2 * sumC c 576 + mm) h h2 ((hd + 1) % 576) (mm - 1) p 0 c := by
      refine ⟨f1.t1 f2 (by unfold rS; omega), z2.trans z1, a1.fr f2 (by decide), fun j => f (j + 1), _, ⟨F, a2.fr f2 (by decide), fun j hj => ?_⟩, b2, pq, SJ_X sj (fun v hv hc hx ny => absurd ((pin v).mp hx) ny), pn, fun k' hk' => absurd hk' (by omega), cp, by omega, fun j hj => fin (j + 1) (by omega)⟩
      rw [show ((hd + 1) % 576 + j) % 576 = (hd + (j + 1)) % 576 by omega]
      exact e2 (j + 1) (by omega)
    have inner := q_loop (fun k (st : (qH × Nat) × (Nat → Nat)) => q_J l (d + 3) mX10_reckonCosts mc ms Q QX h.2 92 [some (.ref 49), some (.int x), some (.int y), some (.int 0), some (.int (nI ((hd + 1) % 576))), some (.int (nI st.1.2)), some (.int (nI p)), some (.int (nI k)), none, none, none, none, none, none] [] st.1.1 mc ms) (fun k st => RI (B_fr W.H W.R W.Z W.s) o (2 * sumC c 576 + mm) h st.1.1 ((hd + 1) % 576) st.1.2 p k st.2) 8 ?_ ?_ 0 ((h2, mm - 1), c) (by omega) ri0
    · exact inner
    · rintro ⟨⟨h3, m3⟩, c3'⟩ ⟨g1, g2, g3, f', il', g4, g5, g6, g7, g8, g9, g10, g11, g12⟩
      dsimp only at g1 g2 g3 g4 g5 g6 g7 g8 g9 g10 g11 g12 ⊢
      refine v_X10_reckonCosts_92 49 _ _ _ _ _ _ (nI 8) ⟨fun _ => ?_, fun q => absurd (Int32.le_refl _) q⟩
      refine ih ((h3, (hd + 1) % 576, m3), c3') ⟨Nat.mod_lt _ (by omega), g1, g2, g3, f', il', g4, g5, Or.inl g6, SJ_X g7 (fun v hv hc hx ny k u w b => ?_), ?_, g12⟩ g11
      · have ev : v = p := hx.resolve_left ny
        subst ev
        exact g9 k (hB k u v w b).1 u w b
      · show m3 ≤ 576
        exact Nat.le_of_not_lt fun q => by
          have := fb_holes 576 m3 f' (fun i hi => g6.1 i hi) (fun i j hij hj e => by have := g6.2.1 i j (by omega) hj e; omega)
          omega
    · rintro k ⟨⟨h3, m3⟩, c3'⟩ hk ri ih2
      dsimp only at ri ⊢
      have F3 := ri.1
      have mo3 := mo.fr F3 (by unfold rS; omega)
      have g3 : MG h3 W := g.fr F3 (fun i a b => by unfold rS; omega)
      have e24 : nI p - nI p / 24 * 24 = px p := r24 (by omega)
      have d24' : nI p / 24 = py p := d24 (by omega)
      refine v_X10_reckonCosts_92 49 _ _ _ _ _ _ (nI k) ⟨fun q => absurd q (nI_ge hk (by decide)), fun _ => ⟨fun _ => e_sl rfl hk ?_, fun q => absurd rfl q⟩⟩
      rw [e24]
      refine v_X10_reckonCosts_124 49 _ _ _ _ _ _ _ _ _ ⟨fun _ => e_sl rfl hk ?_, fun q => absurd rfl q⟩
      rw [d24']
      have only : ∀ u w, B_fr W.H W.R W.Z W.s k u p w → nP p k ∧ nb p k = u := fun u w b => by
        exact ⟨b.2.2.1.1, b.2.2.2.1⟩
      refine v_X10_reckonCosts_152 49 _ _ _ _ _ _ _ _ _ _ (m_isPlace (fun hin => ⟨_, rfl, fun q => absurd q z10, fun _ => ?_⟩) (fun hin => ⟨_, rfl, fun _ => ?_, fun q => absurd rfl q⟩))
      rotate_left
      · rw [nI_1]
        obtain ⟨g1, g2, g3, f', il', g4, g5, g6, g7, g8, g9, g10, g11, g12⟩ := ri
        refine ih2 ((h3, m3), c3') ⟨g1, g2, g3, f', il', g4, g5, g6, g7, g8, fun k' hk' u w b => ?_, g10, g11, g12⟩
        by_cases e : k' = k
        · subst e; exact absurd (only u w b) (fun r => hin r.1)
        · exact g9 k' (by omega) u w b
      refine ⟨fun _ => ?_, fun q => absurd rfl q⟩
      rw [e24]
      refine v_X10_reckonCosts_182 49 _ _ _ _ _ _ _ _ _ _ ⟨fun _ => ?_, fun q => absurd rfl q⟩
      rw [d24']
      change nP p k at hin
      exact rk_tail hB hf mo3 g3 ri (Nat.mod_lt _ (by omega)) hp hk (inP_p hp) hin rfl (fun hc => ⟨wt W.H W.R p k, (wt_ok gok hp hc).1, stW_of gok hk hp hc⟩) (fun hc u' w' b => hc b.2.2.1) (fun h' mm' c' r => ih2 ((h', mm'), c') r)
  -- its beginning
  have start := q_loop (fun i (st : qH) => q_J l (d + 3) mX10_reckonCosts mc ms Q QX h.2 3 [some (.ref 49), some (.int x), some (.int y), some (.int 0), some (.int (nI i)), none, none, none, none, none, none, none, none, none] [] st mc ms)
    (fun i st => q_fr rS h st ∧ st.2 = h.2 ∧ (∃ F, ar st 77 576 F ∧ ∀ j, j < i → F j = nI FARn) ∧ ar st 78 576 F2 ∧ br st 79 576 (fun _ => 0)) 576 ?_ ?_ 0 h (by omega) ⟨q_fr.rf, rfl, ⟨F1, c1, fun j hj => absurd hj (by omega)⟩, c2, c3⟩
  · exact start
  · rintro h1 ⟨f1, z1, ⟨F, a1, e1⟩, a2, a3⟩
    have mo1 := mo.fr f1 (by unfold rS; omega)
    refine v_X10_reckonCosts_3 49 _ _ _ (nI 576) ⟨fun _ => ?_, fun q => absurd (Int32.le_refl _) q⟩
    refine e_gr mo1 rfl (m_at ho ⟨_, rfl, ?_⟩)
    rw [eo]
    refine e_as a1 rfl ho9 (by decide) (fun h2 f2 z2 b2 => ?_)
    have mo2 := mo1.fr f2 (by decide)
    refine e_gr mo2 rfl (m_at ho ⟨_, rfl, ?_⟩)
    rw [eo]
    refine e_as (k := 0) (a2.fr f2 (by decide)) rfl (by decide) (by decide) (fun h3 f3 z3 b3 => ?_)
    refine main ((h3, 0, 1), fun u => if u = o then 0 else FARn) ⟨(show 0 < 576 by decide), (f1.t1 f2 (by unfold rS; omega)).t1 f3 (by unfold rS; omega), by rw [z3, z2, z1], (b2.fr f3 (by decide)).to (fun u hu => ?_), fun _ => o, fun _ => 0, ⟨_, b3, fun j hj => ?_⟩, (a3.fr f2 (by decide)).fr f3 (by decide), Or.inr ⟨rfl, ho9, fun _ _ => rfl⟩, SJ_X (SJ_begin ho9) (fun v hv hc hx ny => absurd ⟨0, (show 0 < 1 by decide), hx.symm⟩ ny), (show 1 ≤ 576 by decide), fun j hj => by show (if o = o then 0 else FARn) < FARn; rw [if_pos rfl]; decide⟩
    · by_cases e : u = o
      · subst e; simp [upd]; rfl
      · simp [upd, e]; exact e1 u hu
    · have : j = 0 := by change j < 1 at hj; omega
      subst this
      simp [upd]
  · rintro i h1 hi ⟨f1, z1, ⟨F, a1, e1⟩, a2, a3⟩ ih
    have mo1 := mo.fr f1 (by unfold rS; omega)
    refine v_X10_reckonCosts_3 49 _ _ _ (nI i) ⟨fun q => absurd q (nI_ge hi (by decide)), fun _ => e_gr mo1 rfl (e_as a1 rfl hi (by decide) (fun h2 f2 z2 b2 => ?_))⟩
    rw [nI_1]
    refine ih h2 ⟨f1.t1 f2 (by unfold rS; omega), z2.trans z1, ⟨_, b2, fun j hj => ?_⟩, a2.fr f2 (by decide), a3.fr f2 (by decide)⟩
    by_cases e : j = i
    · subst e; simp [upd]; rfl
    · simp [upd, e]; exact e1 j (by omega)
end MD2
