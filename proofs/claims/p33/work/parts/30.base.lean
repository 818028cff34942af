/-! reading and writing the quiet heap by what is known of it -/
def q_fr (S : Nat → Prop) (h h' : qH) : Prop := h.2 ≤ h'.2 ∧ ∀ i : Nat, i < h.2 → ¬ S i → h'.1 i = h.1 i
theorem q_fr.rf {S : Nat → Prop} {h : qH} : q_fr S h h := ⟨Nat.le_refl _, fun _ _ _ => rfl⟩
theorem q_fr.tr {S S2 S3 : Nat → Prop} {h h1 h2 : qH} (a : q_fr S h h1) (b : q_fr S2 h1 h2) (hs : ∀ i, i < h.2 → S i → S3 i) (hs2 : ∀ i, i < h.2 → S2 i → S3 i) : q_fr S3 h h2 :=
  ⟨Nat.le_trans a.1 b.1, fun i hi hn => (b.2 i (Nat.lt_of_lt_of_le hi a.1) (fun q => hn (hs2 i hi q))).trans (a.2 i hi (fun q => hn (hs i hi q)))⟩
theorem q_fr.mono {S S2 : Nat → Prop} {h h1 : qH} (a : q_fr S h h1) (hs : ∀ i, i < h.2 → S i → S2 i) : q_fr S2 h h1 := ⟨a.1, fun i hi hn => a.2 i hi (fun q => hn (hs i hi q))⟩
/-- an object's fields; a row of ints; a row of booleans -/
def ob (h : qH) (i ci : Nat) (fs : List Value) : Prop := i < h.2 ∧ h.1 i = .inr (ci, fs)
def ar (h : qH) (i N : Nat) (F : Nat → Int32) : Prop := i < h.2 ∧ ∃ f, h.1 i = .inl (0, (N, .inl f)) ∧ ∀ p, p < N → f p = F p
def br (h : qH) (i N : Nat) (F : Nat → Int32) : Prop := i < h.2 ∧ ∃ f, h.1 i = .inl (2, (N, .inl f)) ∧ ∀ p, p < N → f p = F p
theorem ob.fr {h h' : qH} {i ci : Nat} {fs : List Value} {S : Nat → Prop} (o : ob h i ci fs) (f : q_fr S h h') (hs : ¬ S i) : ob h' i ci fs := ⟨Nat.lt_of_lt_of_le o.1 f.1, (f.2 i o.1 hs).trans o.2⟩
theorem ar.fr {h h' : qH} {i N : Nat} {F : Nat → Int32} {S : Nat → Prop} (o : ar h i N F) (f : q_fr S h h') (hs : ¬ S i) : ar h' i N F := ⟨Nat.lt_of_lt_of_le o.1 f.1, o.2.elim fun g hg => ⟨g, (f.2 i o.1 hs).trans hg.1, hg.2⟩⟩
theorem br.fr {h h' : qH} {i N : Nat} {F : Nat → Int32} {S : Nat → Prop} (o : br h i N F) (f : q_fr S h h') (hs : ¬ S i) : br h' i N F := ⟨Nat.lt_of_lt_of_le o.1 f.1, o.2.elim fun g hg => ⟨g, (f.2 i o.1 hs).trans hg.1, hg.2⟩⟩
theorem ar.to {h : qH} {i N : Nat} {F G : Nat → Int32} (o : ar h i N F) (e : ∀ p, p < N → F p = G p) : ar h i N G := ⟨o.1, o.2.elim fun g hg => ⟨g, hg.1, fun p hp => (hg.2 p hp).trans (e p hp)⟩⟩
theorem br.to {h : qH} {i N : Nat} {F G : Nat → Int32} (o : br h i N F) (e : ∀ p, p < N → F p = G p) : br h i N G := ⟨o.1, o.2.elim fun g hg => ⟨g, hg.1, fun p hp => (hg.2 p hp).trans (e p hp)⟩⟩
section EV
variable {h : qH} {i ci k N : Nat} {fs : List Value} {z v : Int32} {F : Nat → Int32}
theorem e_gi {P : Int32 → Prop} (o : ob h i ci fs) (hv : fs[k]? = some (.int z)) (hp : P z) : qGI h i ci k P := ⟨fs, z, o.2, hv, hp⟩
theorem e_gr {P : Nat → Prop} {r : Nat} (o : ob h i ci fs) (hv : fs[k]? = some (.ref r)) (hp : P r) : qGR h i ci k P := ⟨fs, r, o.2, hv, hp⟩
theorem q_fr1 {c : qC} : q_fr (fun j => j = i) h (q_set h i c) := ⟨Nat.le_refl _, fun _ _ hj => if_neg hj⟩
theorem e_pi {P : qH → Prop} (o : ob h i ci fs) (hk : k < fs.length) (hp : ∀ h', q_fr (fun j => j = i) h h' → h'.2 = h.2 → ob h' i ci (fs.set k (.int v)) → P h') : qPI h i ci k v P := ⟨fs, o.2, hk, hp _ q_fr1 rfl ⟨o.1, if_pos rfl⟩⟩
theorem e_pz {P : qH → Prop} (hz : v = 0 ∨ v = 1) (o : ob h i ci fs) (hk : k < fs.length) (hp : ∀ h', q_fr (fun j => j = i) h h' → h'.2 = h.2 → ob h' i ci (fs.set k (.int v)) → P h') : qPZ h i ci k v P := ⟨hz, fs, o.2, hk, hp _ q_fr1 rfl ⟨o.1, if_pos rfl⟩⟩
theorem e_al {P : Int32 → Prop} (o : ar h i N F) (hz : z = nI k) (hk : k < N) (hN : N < 2 ^ 31) (hp : P (F k)) : qAL h i z P := by
  subst hz
  obtain ⟨hi, f, e1, e2⟩ := o
  exact ⟨N, f, e1, vp_in_nI hk hN, by rw [nI_clamp (Nat.lt_trans hk hN), e2 k hk]; exact hp⟩
theorem e_zl {P : Int32 → Prop} (o : br h i N F) (hz : z = nI k) (hk : k < N) (hN : N < 2 ^ 31) (hp : P (F k)) : qZL h i z P := by
  subst hz
  obtain ⟨hi, f, e1, e2⟩ := o
  exact ⟨N, f, e1, vp_in_nI hk hN, by rw [nI_clamp (Nat.lt_trans hk hN), e2 k hk]; exact hp⟩
theorem e_as {P : qH → Prop} (o : ar h i N F) (hz : z = nI k) (hk : k < N) (hN : N < 2 ^ 31) (hp : ∀ h', q_fr (fun j => j = i) h h' → h'.2 = h.2 → ar h' i N (upd F k v) → P h') : qAS h i z v P := by
  subst hz
  obtain ⟨hi, f, e1, e2⟩ := o
  refine ⟨N, f, e1, vp_in_nI hk hN, hp _ q_fr1 rfl ⟨hi, _, if_pos rfl, fun p hpN => ?_⟩⟩
  rw [nI_clamp (Nat.lt_trans hk hN)]
  by_cases e : p = k
  · simp [upd, e]
  · simp [upd, e, e2 p hpN]
theorem e_zs {P : qH → Prop} (hv : v = 0 ∨ v = 1) (o : br h i N F) (hz : z = nI k) (hk : k < N) (hN : N < 2 ^ 31) (hp : ∀ h', q_fr (fun j => j = i) h h' → h'.2 = h.2 → br h' i N (upd F k v) → P h') : qZS h i z v P := by
  subst hz
  obtain ⟨hi, f, e1, e2⟩ := o
  refine ⟨hv, N, f, e1, vp_in_nI hk hN, hp _ q_fr1 rfl ⟨hi, _, if_pos rfl, fun p hpN => ?_⟩⟩
  rw [nI_clamp (Nat.lt_trans hk hN)]
  by_cases e : p = k
  · simp [upd, e]
  · simp [upd, e, e2 p hpN]
theorem e_sl {P : Int32 → Prop} {kk : Nat} (hz : z = nI k) (hk : k < 8) (hp : P (q_sF kk k)) : qSL kk z P := by
  subst hz
  exact ⟨vp_in_nI hk (by decide), by rw [nI_clamp (Nat.lt_trans hk (by decide))]; exact hp⟩
theorem e_ob {P : Prop} (o : ob h i ci fs) (hp : P) : qOB h i ci P := ⟨⟨fs, o.2⟩, hp⟩
/-- a copy from the row i0 (n ints from a on) to the row i1 (from b on) -/
theorem e_cp {P : qH → Prop} {i0 i1 N0 N1 a b n : Nat} {F0 F1 : Nat → Int32} {sp dp m : Int32} (o0 : ar h i0 N0 F0) (o1 : ar h i1 N1 F1) (h1 : sp = nI a) (h2 : dp = nI b) (h3 : m = nI n) (ha : a + n ≤ N0) (hb : b + n ≤ N1) (hN0 : N0 < 2 ^ 31) (hN1 : N1 < 2 ^ 31)
    (hp : ∀ h', q_fr (fun j => j = i1) h h' → h'.2 = h.2 → ar h' i1 N1 (fun k => if b ≤ k ∧ k < b + n then F0 (a + (k - b)) else F1 k) → P h') : qCP h i0 sp i1 dp m P := by
  subst h1 h2 h3
  obtain ⟨hi0, f0, e0, g0⟩ := o0
  obtain ⟨hi1, f1, e1, g1⟩ := o1
  have ca : (nI a).toNatClampNeg = a := nI_clamp (by omega)
  have cb : (nI b).toNatClampNeg = b := nI_clamp (by omega)
  have cn : (nI n).toNatClampNeg = n := nI_clamp (by omega)
  refine ⟨N0, N1, f0, f1, e0, e1, nI_pos (by omega), nI_pos (by omega), nI_pos (by omega), by omega, by omega, hp _ q_fr1 rfl ⟨hi1, _, if_pos rfl, fun p hpN => ?_⟩⟩
  rw [ca, cb, cn]
  unfold va_cpy
  dsimp only
  by_cases e : b ≤ p ∧ p < b + n
  · rw [if_pos e, if_pos e, g0 _ (by omega)]
  · rw [if_neg e, if_neg e, g1 _ hpN]
end EV
/-! loops -/
theorem q_loop {σ : Type} (F : Nat → σ → Prop) (I : Nat → σ → Prop) (N : Nat) (hx : ∀ s, I N s → F N s) (hs : ∀ i s, i < N → I i s → (∀ s', I (i + 1) s' → F (i + 1) s') → F i s) : ∀ (i : Nat) (s : σ), i ≤ N → I i s → F i s := by
  have key : ∀ (n i : Nat) (s : σ), N - i = n → i ≤ N → I i s → F i s := by
    intro n
    induction n with
    | zero =>
      intro i s h1 h2 h3
      have : i = N := by omega
      subst this
      exact hx s h3
    | succ n ih =>
      intro i s h1 h2 h3
      exact hs i s (by omega) h3 (fun s' h4 => ih (i + 1) s' (by omega) (by omega) h4)
  exact fun i s h1 h2 => key _ i s rfl h1 h2
theorem q_while {σ : Type} (F : σ → Prop) (I : σ → Prop) (μ : σ → Nat) (hs : ∀ s, I s → (∀ s', I s' → μ s' < μ s → F s') → F s) : ∀ s, I s → F s := by
  have key : ∀ (n : Nat) (s : σ), μ s ≤ n → I s → F s := by
    intro n
    induction n with
    | zero => exact fun s h1 h2 => hs s h2 (fun s' _ h4 => absurd h4 (by omega))
    | succ n ih => exact fun s h1 h2 => hs s h2 (fun s' h3 h4 => ih s' (by omega) h3)
  exact fun s h => key _ s (Nat.le_refl _) h
/-! numbers -/
theorem lt_i (a b : Int32) : a < b ↔ a.toInt < b.toInt := Int32.lt_iff_toInt_lt
theorem le_i (a b : Int32) : a ≤ b ↔ a.toInt ≤ b.toInt := Int32.le_iff_toInt_le
theorem eq_i (a b : Int32) : a = b ↔ a.toInt = b.toInt := Int32.toInt_inj.symm
theorem nI_lit (n : Nat) : (OfNat.ofNat n : Int32) = nI n := rfl
theorem nI_ofI {z : Int32} (h : 0 ≤ z.toInt) : z = nI z.toNatClampNeg := by
  apply Int32.toInt_inj.mp
  have h1 : z.toInt < 2147483648 := (fb_rng z).2
  have h2 : z.toNatClampNeg = z.toInt.toNat := rfl
  rw [nI_toInt (by omega)]
  omega
/-- a place: the coordinates of two ints -/
def inP (x y : Int32) : Prop := 0 ≤ x.toInt ∧ x.toInt < 24 ∧ 0 ≤ y.toInt ∧ y.toInt < 24
def ix (x y : Int32) : Nat := 24 * y.toNatClampNeg + x.toNatClampNeg
theorem ix_lt {x y : Int32} (h : inP x y) : ix x y < 576 := by
  obtain ⟨h1, h2, h3, h4⟩ := h
  have e1 : x.toNatClampNeg = x.toInt.toNat := rfl
  have e2 : y.toNatClampNeg = y.toInt.toNat := rfl
  unfold ix
  omega
theorem ix_at {x y : Int32} (h : inP x y) : y * (24 : Int32) + x = nI (ix x y) := by
  obtain ⟨h1, h2, h3, h4⟩ := h
  have e1 := nI_ofI h1
  have e2 := nI_ofI h3
  rw [e1, e2, show (24 : Int32) = nI 24 from rfl, pk_mul, nI_add]
  have c1 : (nI x.toNatClampNeg).toNatClampNeg = x.toNatClampNeg := by rw [← e1]
  have c2 : (nI y.toNatClampNeg).toNatClampNeg = y.toNatClampNeg := by rw [← e2]
  unfold ix
  rw [c1, c2, Nat.mul_comm]
theorem ix_at' {x y : Int32} (h : inP x y) : (24 : Int32) * y + x = nI (ix x y) := by
  rw [Int32.mul_comm, ix_at h]
theorem inP_nI {a b : Nat} (ha : a < 24) (hb : b < 24) : inP (nI a) (nI b) := by
  unfold inP
  rw [nI_toInt (by omega), nI_toInt (by omega)]
  omega
theorem ix_nI {a b : Nat} (ha : a < 24) (hb : b < 24) : ix (nI a) (nI b) = 24 * b + a := by
  unfold ix
  rw [nI_clamp (by omega), nI_clamp (by omega)]
theorem inP_of {x y : Int32} (h : inP x y) : ∃ a b : Nat, a < 24 ∧ b < 24 ∧ x = nI a ∧ y = nI b := by
  obtain ⟨h1, h2, h3, h4⟩ := h
  have e1 : x.toNatClampNeg = x.toInt.toNat := rfl
  have e2 : y.toNatClampNeg = y.toInt.toNat := rfl
  exact ⟨_, _, by omega, by omega, nI_ofI h1, nI_ofI h3⟩
theorem L_0 : (0 : Int32).toInt = 0 := by decide +kernel
theorem L_1 : (1 : Int32).toInt = 1 := by decide +kernel
theorem L_2 : (2 : Int32).toInt = 2 := by decide +kernel
theorem L_3 : (3 : Int32).toInt = 3 := by decide +kernel
theorem L_4 : (4 : Int32).toInt = 4 := by decide +kernel
theorem L_5 : (5 : Int32).toInt = 5 := by decide +kernel
theorem L_6 : (6 : Int32).toInt = 6 := by decide +kernel
theorem L_7 : (7 : Int32).toInt = 7 := by decide +kernel
theorem L_8 : (8 : Int32).toInt = 8 := by decide +kernel
theorem L_9 : (9 : Int32).toInt = 9 := by decide +kernel
theorem L_10 : (10 : Int32).toInt = 10 := by decide +kernel
theorem L_11 : (11 : Int32).toInt = 11 := by decide +kernel
theorem L_12 : (12 : Int32).toInt = 12 := by decide +kernel
theorem L_15 : (15 : Int32).toInt = 15 := by decide +kernel
theorem L_20 : (20 : Int32).toInt = 20 := by decide +kernel
theorem L_24 : (24 : Int32).toInt = 24 := by decide +kernel
theorem L_25 : (25 : Int32).toInt = 25 := by decide +kernel
theorem L_31 : (31 : Int32).toInt = 31 := by decide +kernel
theorem L_40 : (40 : Int32).toInt = 40 := by decide +kernel
theorem L_50 : (50 : Int32).toInt = 50 := by decide +kernel
theorem L_60 : (60 : Int32).toInt = 60 := by decide +kernel
theorem L_90 : (90 : Int32).toInt = 90 := by decide +kernel
theorem L_99 : (99 : Int32).toInt = 99 := by decide +kernel
theorem L_100 : (100 : Int32).toInt = 100 := by decide +kernel
theorem L_133 : (133 : Int32).toInt = 133 := by decide +kernel
theorem L_198 : (198 : Int32).toInt = 198 := by decide +kernel
theorem L_360 : (360 : Int32).toInt = 360 := by decide +kernel
theorem L_576 : (576 : Int32).toInt = 576 := by decide +kernel
theorem L_600 : (600 : Int32).toInt = 600 := by decide +kernel
theorem L_720 : (720 : Int32).toInt = 720 := by decide +kernel
theorem L_800 : (800 : Int32).toInt = 800 := by decide +kernel
theorem L_1000 : (1000 : Int32).toInt = 1000 := by decide +kernel
theorem L_1079 : (1079 : Int32).toInt = 1079 := by decide +kernel
theorem L_1080 : (1080 : Int32).toInt = 1080 := by decide +kernel
theorem L_1439 : (1439 : Int32).toInt = 1439 := by decide +kernel
theorem L_1440 : (1440 : Int32).toInt = 1440 := by decide +kernel
theorem L_2880 : (2880 : Int32).toInt = 2880 := by decide +kernel
theorem L_3000 : (3000 : Int32).toInt = 3000 := by decide +kernel
theorem L_3600 : (3600 : Int32).toInt = 3600 := by decide +kernel
theorem L_4000 : (4000 : Int32).toInt = 4000 := by decide +kernel
theorem L_4608 : (4608 : Int32).toInt = 4608 := by decide +kernel
theorem L_5000 : (5000 : Int32).toInt = 5000 := by decide +kernel
theorem L_14400 : (14400 : Int32).toInt = 14400 := by decide +kernel
theorem L_20000 : (20000 : Int32).toInt = 20000 := by decide +kernel
theorem L_1000000 : (1000000 : Int32).toInt = 1000000 := by decide +kernel
theorem M_1 : (-1 : Int32).toInt = -1 := by decide +kernel
theorem M_2 : (-2 : Int32).toInt = -2 := by decide +kernel
theorem M_20 : (-20 : Int32).toInt = -20 := by decide +kernel
theorem M_40 : (-40 : Int32).toInt = -40 := by decide +kernel
theorem M_50 : (-50 : Int32).toInt = -50 := by decide +kernel
theorem M_70 : (-70 : Int32).toInt = -70 := by decide +kernel
theorem M_99 : (-99 : Int32).toInt = -99 := by decide +kernel
theorem M_100 : (-100 : Int32).toInt = -100 := by decide +kernel
theorem M_198 : (-198 : Int32).toInt = -198 := by decide +kernel
