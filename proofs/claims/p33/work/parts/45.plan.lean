/-! the class's Plan -/
def PL : Type := Nat × (Nat → Int32) × (Nat → Int32) × (Nat → Int32)
def PL.n (L : PL) : Nat := L.1
def PL.k (L : PL) : Nat → Int32 := L.2.1
def PL.a (L : PL) : Nat → Int32 := L.2.2.1
def PL.b (L : PL) : Nat → Int32 := L.2.2.2
def PL.mk (n : Nat) (k a b : Nat → Int32) : PL := (n, k, a, b)
def PV (h : qH) (r : Nat) (L : PL) : Prop := ob h r 5 [.ref (r + 1), .ref (r + 2), .ref (r + 3), .int (nI L.n)] ∧ arN h (r + 1) 40 L.n L.k ∧ arN h (r + 2) 40 L.n L.a ∧ arN h (r + 3) 40 L.n L.b ∧ L.n ≤ 40
def sP (r i : Nat) : Prop := r ≤ i ∧ i ≤ r + 3
theorem sP_i {r i : Nat} (h1 : r ≤ i) (h2 : i ≤ r + 3) : sP r i := ⟨h1, h2⟩
theorem PV.fr {h h' : qH} {r : Nat} {L : PL} {S : Nat → Prop} (v : PV h r L) (f : q_fr S h h') (hs : ∀ i, r ≤ i → i ≤ r + 3 → ¬ S i) : PV h' r L :=
  ⟨v.1.fr f (hs _ (by omega) (by omega)), v.2.1.fr f (hs _ (by omega) (by omega)), v.2.2.1.fr f (hs _ (by omega) (by omega)), v.2.2.2.1.fr f (hs _ (by omega) (by omega)), v.2.2.2.2⟩
def ins (f : Nat → Int32) (p : Nat) (v : Int32) : Nat → Int32 := fun j => if j < p then f j else if j = p then v else f (j - 1)
def insA (L : PL) (p : Nat) (k a b : Int32) : PL := PL.mk (L.n + 1) (ins L.k p k) (ins L.a p a) (ins L.b p b)
def delA (L : PL) (p : Nat) : PL := PL.mk (L.n - 1) (del L.k p) (del L.a p) (del L.b p)
def plA (L : PL) (i : Nat) (w : Int32) : Int32 := if w = 0 then L.k i else if w = 1 then L.a i else L.b i
/-- while a place is made: the rows behind i are one further -/
def mku (f : Nat → Int32) (i : Nat) : Nat → Int32 := fun j => if i < j then f (j - 1) else f j
theorem mku_0 {f : Nat → Int32} {n j : Nat} (h : j < n + 1) : mku f n j = f j := by unfold mku; rw [if_neg (by omega)]
theorem mku_at {f : Nat → Int32} {i j : Nat} (h : j ≤ i) : mku f i j = f j := by unfold mku; rw [if_neg (by omega)]
theorem mku_up {f : Nat → Int32} {i : Nat} (j : Nat) : upd (mku f (i + 1)) (i + 1) (f i) j = mku f i j := by
  unfold mku
  by_cases e : j = i + 1
  · subst e; rw [pk_us, if_pos (by omega)]; congr 1
  · rw [pk_un e]
    by_cases q : i + 1 < j
    · rw [if_pos q, if_pos (by omega)]
    · rw [if_neg q, if_neg (by omega)]
theorem mku_ins {f : Nat → Int32} {p : Nat} {v : Int32} (j : Nat) : upd (mku f p) p v j = ins f p v j := by
  unfold mku ins
  by_cases e : j = p
  · subst e; rw [pk_us, if_neg (by omega), if_pos rfl]
  · rw [pk_un e]
    by_cases q : j < p
    · rw [if_neg (by omega), if_pos q]
    · rw [if_pos (by omega), if_neg q, if_neg e]
section PVS
variable {l : Launch} {d mc ms : Nat} {Q : Option Value → qH → Prop} {QX : String → qH → Prop} {h : qH} {r : Nat} {L : PL}
theorem s_phas {z : Int32} (v : PV h r L) (ht : isT L.n z → Q (some (.int 1)) h) (hf : ¬ isT L.n z → Q (some (.int 0)) h) : q_Ct l d mX5_has [.ref r, .int z] h mc ms Q QX := by
  have o := v.1
  have n0 := v.2.2.2.2
  refine v_X5_has (d := d) r z ⟨fun q => hf ?_, fun q => e_gi o rfl ⟨fun q2 => hf ?_, fun q2 => ⟨fun q3 => hf ?_, fun q3 => ht ?_⟩⟩⟩
  · rintro ⟨k, hk, rfl⟩; exact absurd q (nI_pos (by omega))
  · rintro ⟨k, hk, rfl⟩; exact absurd q2 (nI_ge hk (by omega))
  · rintro ⟨k, hk, rfl⟩; exact absurd q3 (nI_ge (b := 40) (by omega) (by decide))
  · rcases pk_ix z (n := L.n) (by omega) with q4 | q4 | q4
    · exact absurd q4 q
    · exact absurd q4 q2
    · exact q4
theorem s_hasRoom {m : Nat} (v : PV h r L) (hm : m ≤ 40) (hq : Q (some (.int (if L.n + m ≤ 40 then 1 else 0))) h) : q_Ct l d mX5_hasRoom [.ref r, .int (nI m)] h mc ms Q QX := by
  have o := v.1
  have n0 := v.2.2.2.2
  refine v_X5_hasRoom (d := d) r (nI m) (e_gi o rfl ?_)
  rw [nI_add]
  refine ⟨fun q => ?_, fun q => ?_⟩
  · have := (nI_ltI (a := 40) (by decide) (by omega)).mp q
    rw [if_neg (by omega)] at hq; exact hq
  · have : ¬ 40 < L.n + m := fun r => q ((nI_ltI (a := 40) (by decide) (by omega)).mpr r)
    rw [if_pos (by omega)] at hq; exact hq
theorem s_ptell {k : Nat} {w : Int32} (v : PV h r L) (hk : k < L.n) (hq : Q (some (.int (plA L k w))) h) : q_Ct l (d + 1) mX5_tell [.ref r, .int (nI k), .int w] h mc ms Q QX := by
  obtain ⟨o, a, b, c, n0⟩ := id v
  unfold plA at hq
  refine v_X5_tell r (nI k) w (e_ob o (s_phas v (fun _ => ⟨_, rfl, fun q => absurd q z10, fun _ => ?_⟩) (fun q => absurd ⟨k, hk, rfl⟩ q)))
  refine ⟨fun q => ?_, fun q => ?_⟩
  · rw [if_pos q] at hq; exact e_gr o rfl (e_alN a rfl hk n0 (by decide) hq)
  rw [if_neg q] at hq
  refine ⟨fun q => ?_, fun q => ?_⟩
  · rw [if_pos q] at hq; exact e_gr o rfl (e_alN b rfl hk n0 (by decide) hq)
  rw [if_neg q] at hq
  exact e_gr o rfl (e_alN c rfl hk n0 (by decide) hq)
theorem s_insert {p : Nat} {k a' b' : Int32} (v : PV h r L) (hp : p ≤ L.n) (hn : L.n < 40) (hq : ∀ h', q_fr (sP r) h h' → h'.2 = h.2 → PV h' r (insA L p k a' b') → Q none h') : q_Ct l (d + 1) mX5_insert [.ref r, .int (nI p), .int k, .int a', .int b'] h mc ms Q QX := by
  obtain ⟨o, a, b, c, n0⟩ := id v
  refine v_X5_insert r _ _ _ _ ⟨fun q => absurd q (nI_pos (by omega)), fun _ => e_gi o rfl ⟨fun q => absurd q (nI_nlt hp (by omega)), fun _ => e_ob o (s_hasRoom (m := 1) v (by omega) ⟨_, rfl, ?_⟩)⟩⟩
  rw [if_pos (by omega)]
  refine ⟨fun q => absurd q z10, fun _ => e_gi o rfl ?_⟩
  have w0 : ∀ {i : Nat} {F : Nat → Int32}, arN h i 40 L.n F → ∃ G, ar h i 40 G ∧ ∀ j, j < L.n → G j = F j := fun q => q
  refine q_loop (fun i h' => q_J l (d + 1) mX5_insert mc ms Q QX h.2 27 [some (.ref r), some (.int (nI p)), some (.int k), some (.int a'), some (.int b'), some (.int (nI (L.n - i)))] [] h' mc ms)
    (fun i h' => q_fr (sP r) h h' ∧ h'.2 = h.2 ∧ ob h' r 5 [.ref (r + 1), .ref (r + 2), .ref (r + 3), .int (nI L.n)] ∧ (∃ G, ar h' (r + 1) 40 G ∧ (∀ j, j ≤ L.n → j ≠ L.n - i → G j = mku L.k (L.n - i) j) ∧ (L.n - i < L.n → G (L.n - i) = L.k (L.n - i))) ∧ (∃ G, ar h' (r + 2) 40 G ∧ (∀ j, j ≤ L.n → j ≠ L.n - i → G j = mku L.a (L.n - i) j) ∧ (L.n - i < L.n → G (L.n - i) = L.a (L.n - i))) ∧ (∃ G, ar h' (r + 3) 40 G ∧ (∀ j, j ≤ L.n → j ≠ L.n - i → G j = mku L.b (L.n - i) j) ∧ (L.n - i < L.n → G (L.n - i) = L.b (L.n - i)))) (L.n - p) ?_ ?_ 0 h (by omega) ?_
  · rintro h' ⟨f, z, x1, ⟨F1, x2, y2, -⟩, ⟨F2, x3, y3, -⟩, ⟨F3, x4, y4, -⟩⟩
    have ep : L.n - (L.n - p) = p := by omega
    rw [ep] at y2 y3 y4
    show q_J l (d + 1) mX5_insert mc ms Q QX h.2 27 [some (.ref r), some (.int (nI p)), some (.int k), some (.int a'), some (.int b'), some (.int (nI (L.n - (L.n - p))))] [] h' mc ms
    rw [ep]
    refine v_X5_insert_27 r _ _ _ _ (nI p) ⟨fun _ => ?_, fun q => absurd (Int32.le_refl _) q⟩
    refine e_gr x1 rfl (e_as x2 rfl (by omega) (by decide) (fun h1 f1 z1 a1 => ?_))
    refine e_gr (x1.f1 f1 (by omega)) rfl (e_as (x3.f1 f1 (by omega)) rfl (by omega) (by decide) (fun h2 f2 z2 a2 => ?_))
    have o2 := (x1.f1 f1 (by omega)).f1 f2 (by omega)
    refine e_gr o2 rfl (e_as ((x4.f1 f1 (by omega)).f1 f2 (by omega)) rfl (by omega) (by decide) (fun h3 f3 z3 a3 => ?_))
    have o3 := o2.f1 f3 (by omega)
    refine e_gi o3 rfl (e_pi o3 (Nat.le_of_ble_eq_true rfl) (fun h4 f4 z4 o4 => ?_))
    rw [nI_1] at o4
    have fin : ∀ (F G : Nat → Int32) (vv : Int32), (∀ j, j ≤ L.n → j ≠ p → F j = mku G p j) → ∀ j, j < L.n + 1 → upd F p vv j = ins G p vv j := fun F G vv hF j hj => by
      rw [← mku_ins j]
      by_cases e : j = p
      · subst e; rw [pk_us, pk_us]
      · rw [pk_un e, pk_un e]; exact hF j (by omega) e
    exact hq h4 ((((f.t1 f1 (sP_i (by omega) (by omega))).t1 f2 (sP_i (by omega) (by omega))).t1 f3 (sP_i (by omega) (by omega))).t1 f4 (sP_i (by omega) (by omega))) (by rw [z4, z3, z2, z1, z])
      ⟨o4, ⟨_, ((a1.f1 f2 (by omega)).f1 f3 (by omega)).f1 f4 (by omega), fin F1 L.k k y2⟩, ⟨_, (a2.f1 f3 (by omega)).f1 f4 (by omega), fin F2 L.a a' y3⟩, ⟨_, a3.f1 f4 (by omega), fin F3 L.b b' y4⟩, hn⟩
  · rintro i h' hi ⟨f, z, x1, ⟨F1, x2, y2, w2⟩, ⟨F2, x3, y3, w3⟩, ⟨F3, x4, y4, w4⟩⟩ ih
    obtain ⟨m, em⟩ : ∃ m, L.n - i = m + 1 := ⟨L.n - i - 1, by omega⟩
    have em2 : L.n - (i + 1) = m := by omega
    have ih2 : ∀ h', _ → q_J l (d + 1) mX5_insert mc ms Q QX h.2 27 [some (.ref r), some (.int (nI p)), some (.int k), some (.int a'), some (.int b'), some (.int (nI (L.n - (i + 1))))] [] h' mc ms := ih
    rw [em2] at ih2
    rw [em] at y2 w2 y3 w3 y4 w4
    show q_J l (d + 1) mX5_insert mc ms Q QX h.2 27 [some (.ref r), some (.int (nI p)), some (.int k), some (.int a'), some (.int b'), some (.int (nI (L.n - i)))] [] h' mc ms
    rw [em]
    refine v_X5_insert_27 r _ _ _ _ (nI (m + 1)) ⟨fun q => absurd q (nI_ge (by omega) (by omega)), fun _ => ?_⟩
    refine e_gr x1 rfl (e_gr x1 rfl (e_al x2 (nI_pred m) (by omega) (by decide) (e_as x2 rfl (by omega) (by decide) (fun h1 f1 z1 a1 => ?_))))
    have o1 := x1.f1 f1 (by omega)
    refine e_gr o1 rfl (e_gr o1 rfl (e_al (x3.f1 f1 (by omega)) (nI_pred m) (by omega) (by decide) (e_as (x3.f1 f1 (by omega)) rfl (by omega) (by decide) (fun h2 f2 z2 a2 => ?_))))
    have o2 := o1.f1 f2 (by omega)
    refine e_gr o2 rfl (e_gr o2 rfl (e_al ((x4.f1 f1 (by omega)).f1 f2 (by omega)) (nI_pred m) (by omega) (by decide) (e_as ((x4.f1 f1 (by omega)).f1 f2 (by omega)) rfl (by omega) (by decide) (fun h3 f3 z3 a3 => ?_))))
    have o3 := o2.f1 f3 (by omega)
    rw [pk_m1]
    have fin : ∀ (F G : Nat → Int32), (∀ j, j ≤ L.n → j ≠ m + 1 → F j = mku G (m + 1) j) → (∀ j, j ≤ L.n → j ≠ m → upd F (m + 1) (F m) j = mku G m j) ∧ (m < L.n → upd F (m + 1) (F m) m = G m) := fun F G hF => by
      have em3 : F m = G m := (hF m (by omega) (by omega)).trans (mku_at (by omega))
      refine ⟨fun j hj hjm => ?_, fun _ => ?_⟩
      · rw [em3, ← mku_up j]
        by_cases e : j = m + 1
        · subst e; rw [pk_us, pk_us]
        · rw [pk_un e, pk_un e]; exact hF j hj e
      · rw [pk_un (by omega)]; exact em3
    exact ih2 h3 ⟨((f.t1 f1 (sP_i (by omega) (by omega))).t1 f2 (sP_i (by omega) (by omega))).t1 f3 (sP_i (by omega) (by omega)), by rw [z3, z2, z1, z], o3, ⟨_, (a1.f1 f2 (by omega)).f1 f3 (by omega), fin F1 L.k y2⟩, ⟨_, a2.f1 f3 (by omega), fin F2 L.a y3⟩, ⟨_, a3, fin F3 L.b y4⟩⟩
  · obtain ⟨G1, g1, e1⟩ := w0 a
    obtain ⟨G2, g2, e2⟩ := w0 b
    obtain ⟨G3, g3, e3⟩ := w0 c
    refine ⟨q_fr.rf, rfl, o, ⟨G1, g1, fun j hj hne => ?_, fun q => absurd q (by omega)⟩, ⟨G2, g2, fun j hj hne => ?_, fun q => absurd q (by omega)⟩, ⟨G3, g3, fun j hj hne => ?_, fun q => absurd q (by omega)⟩⟩
    · rw [mku_at (by omega)]; exact e1 j (by omega)
    · rw [mku_at (by omega)]; exact e2 j (by omega)
    · rw [mku_at (by omega)]; exact e3 j (by omega)
theorem s_takeOut {p : Nat} (v : PV h r L) (hp : p < L.n) (hq : ∀ h', q_fr (sP r) h h' → h'.2 = h.2 → PV h' r (delA L p) → Q none h') : q_Ct l (d + 1) mX5_takeOut [.ref r, .int (nI p)] h mc ms Q QX := by
  obtain ⟨o, a, b, c, n0⟩ := id v
  refine v_X5_takeOut r _ (e_ob o (s_phas v (fun _ => ⟨_, rfl, fun q => absurd q z10, fun _ => ?_⟩) (fun q => absurd ⟨p, hp, rfl⟩ q)))
  refine q_loop (fun i h' => q_J l (d + 1) mX5_takeOut mc ms Q QX h.2 11 [some (.ref r), some (.int (nI p)), some (.int (nI i))] [] h' mc ms)
    (fun i h' => p ≤ i ∧ q_fr (sP r) h h' ∧ h'.2 = h.2 ∧ ob h' r 5 [.ref (r + 1), .ref (r + 2), .ref (r + 3), .int (nI L.n)] ∧ arN h' (r + 1) 40 L.n (mid L.k p i) ∧ arN h' (r + 2) 40 L.n (mid L.a p i) ∧ arN h' (r + 3) 40 L.n (mid L.b p i)) (L.n - 1) ?_ ?_ p h (by omega) ⟨Nat.le_refl _, q_fr.rf, rfl, o, by rw [mid_0]; exact a, by rw [mid_0]; exact b, by rw [mid_0]; exact c⟩
  · rintro h' ⟨-, f, z, x1, x2, x3, x4⟩
    have en : nI (L.n - 1) + 1 = nI L.n := by rw [nI_1, show L.n - 1 + 1 = L.n by omega]
    refine v_X5_takeOut_11 r _ (nI (L.n - 1)) (e_gi x1 rfl ⟨fun _ => ?_, fun q => absurd ?_ q⟩)
    · refine e_gi x1 rfl (e_pi x1 (Nat.le_of_ble_eq_true rfl) (fun h2 f2 z2 o2 => ?_))
      have em : nI L.n - 1 = nI (L.n - 1) := by
        rw [← en]; grind
      rw [em] at o2
      have hle : (delA L p).n ≤ L.n := by show L.n - 1 ≤ L.n; omega
      exact hq h2 (f.t1 f2 (sP_i (by omega) (by omega))) (z2.trans z) ⟨o2, (x2.f1 f2 (by omega)).to hle (fun j hj => mid_del hj), (x3.f1 f2 (by omega)).to hle (fun j hj => mid_del hj), (x4.f1 f2 (by omega)).to hle (fun j hj => mid_del hj), by omega⟩
    · rw [en]; exact Int32.le_refl _
  · rintro i h' hi ⟨hpi, f, z, x1, x2, x3, x4⟩ ih
    refine v_X5_takeOut_11 r _ (nI i) (e_gi x1 rfl ?_)
    rw [nI_1]
    refine ⟨fun q => absurd q (nI_ge (by omega) (by omega)), fun _ => ⟨fun q => absurd q (nI_ge (b := 40) (by omega) (by decide)), fun _ => ?_⟩⟩
    refine e_gr x1 rfl (e_gr x1 rfl (e_alN x2 rfl (by omega) n0 (by decide) (e_asN x2 rfl (by omega) (by decide) (fun h1 f1 z1 y1 => ?_))))
    have o1 := x1.f1 f1 (by omega)
    refine e_gr o1 rfl (e_gr o1 rfl (e_alN (x3.f1 f1 (by omega)) rfl (by omega) n0 (by decide) (e_asN (x3.f1 f1 (by omega)) rfl (by omega) (by decide) (fun h2 f2 z2 y2 => ?_))))
    have o2 := o1.f1 f2 (by omega)
    refine e_gr o2 rfl (e_gr o2 rfl (e_alN ((x4.f1 f1 (by omega)).f1 f2 (by omega)) rfl (by omega) n0 (by decide) (e_asN ((x4.f1 f1 (by omega)).f1 f2 (by omega)) rfl (by omega) (by decide) (fun h3 f3 z3 y3 => ?_))))
    rw [mid_at (by omega)] at y1 y2 y3
    exact ih h3 ⟨by omega, ((f.t1 f1 (sP_i (by omega) (by omega))).t1 f2 (sP_i (by omega) (by omega))).t1 f3 (sP_i (by omega) (by omega)), by rw [z3, z2, z1, z], o2.f1 f3 (by omega),
      ((y1.f1 f2 (by omega)).f1 f3 (by omega)).to (Nat.le_refl _) (fun j _ => mid_up hpi j), (y2.f1 f3 (by omega)).to (Nat.le_refl _) (fun j _ => mid_up hpi j), y3.to (Nat.le_refl _) (fun j _ => mid_up hpi j)⟩
end PVS
