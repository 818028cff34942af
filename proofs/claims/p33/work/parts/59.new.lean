/-! new rows and objects; rows of rows -/
def rr (h : qH) (i N : Nat) (F : Nat → Option Nat) : Prop := i < h.2 ∧ ∃ g, h.1 i = .inl (4, (N, .inr (.inr (.inr (.inr g))))) ∧ ∀ k, k < N → g k = F k
theorem rr.fr {h h' : qH} {i N : Nat} {F : Nat → Option Nat} {S : Nat → Prop} (o : rr h i N F) (f : q_fr S h h') (hs : ¬ S i) : rr h' i N F := ⟨Nat.lt_of_lt_of_le o.1 f.1, o.2.elim fun g hg => ⟨g, (f.2 i o.1 hs).trans hg.1, hg.2⟩⟩
theorem rr.to {h : qH} {i N : Nat} {F G : Nat → Option Nat} (o : rr h i N F) (e : ∀ p, p < N → F p = G p) : rr h i N G := ⟨o.1, o.2.elim fun g hg => ⟨g, hg.1, fun p hp => (hg.2 p hp).trans (e p hp)⟩⟩
section CT
variable {h : qH} {n N ci i j k r M cap : Nat} {fs : List Value} {z : Int32} {F : Nat → Option Nat} {G : Nat → Int32}
theorem e_nin {P : Nat → qH → Prop} (hn : h.2 = n) (hp : ∀ h', (∀ S : Nat → Prop, q_fr S h h') → h'.2 = n + 1 → ar h' n N (fun _ => 0) → P n h') : qNI h N P := by subst hn; exact hp _ (fun S => ⟨Nat.le_succ _, fun i hi _ => if_neg (Nat.ne_of_lt hi)⟩) rfl ⟨Nat.lt_succ_self _, _, if_pos rfl, fun _ _ => rfl⟩
theorem e_nzn {P : Nat → qH → Prop} (hn : h.2 = n) (hp : ∀ h', (∀ S : Nat → Prop, q_fr S h h') → h'.2 = n + 1 → br h' n N (fun _ => 0) → P n h') : qNZ h N P := by subst hn; exact hp _ (fun S => ⟨Nat.le_succ _, fun i hi _ => if_neg (Nat.ne_of_lt hi)⟩) rfl ⟨Nat.lt_succ_self _, _, if_pos rfl, fun _ _ => rfl⟩
theorem e_nwn {P : Nat → qH → Prop} (hn : h.2 = n) (hp : ∀ h', (∀ S : Nat → Prop, q_fr S h h') → h'.2 = n + 1 → ob h' n ci fs → P n h') : qNW h ci fs P := by
  subst hn
  exact hp _ (fun S => ⟨Nat.le_succ _, fun i hi _ => if_neg (Nat.ne_of_lt hi)⟩) rfl ⟨Nat.lt_succ_self _, if_pos rfl⟩
theorem e_nan {P : Nat → qH → Prop} (hn : h.2 = n) (hz : z = nI N) (hN : N ≤ cap) (hN2 : N < 2 ^ 31) (hp : ∀ h', (∀ S : Nat → Prop, q_fr S h h') → h'.2 = n + 1 → rr h' n N (fun _ => none) → P n h') : qNA h z cap P := by
  subst hn hz
  have e := nI_clamp hN2
  refine ⟨nI_pos hN2, by rw [e]; exact hN, ?_⟩
  rw [e]
  exact hp _ (fun S => ⟨Nat.le_succ _, fun i hi _ => if_neg (Nat.ne_of_lt hi)⟩) rfl ⟨Nat.lt_succ_self _, _, if_pos rfl, fun _ _ => rfl⟩
theorem e_mnn {P : Nat → qH → Prop} (hn : h.2 = n) (hz : z = nI N) (hN : N ≤ cap) (hN2 : N < 2 ^ 31) (hp : ∀ h', (∀ S : Nat → Prop, q_fr S h h') → h'.2 = n + 1 + N → rr h' n N (fun i => some (n + 1 + i)) → (∀ i, i < N → ar h' (n + 1 + i) M (fun _ => 0)) → P n h') : qMN h z M cap P := by
  subst hn hz
  have e := nI_clamp hN2
  refine ⟨nI_pos hN2, by rw [e]; exact hN, ?_⟩
  rw [e]
  refine hp _ (fun S => ⟨show h.2 ≤ h.2 + 1 + N by omega, fun i hi _ => ?_⟩) rfl ⟨(show h.2 < h.2 + 1 + N by omega), _, if_pos rfl, fun j hj => if_pos hj⟩ (fun i hi => ⟨(show h.2 + 1 + i < h.2 + 1 + N by omega), _, ?_, fun p hp => rfl⟩)
  · show (if i = h.2 then _ else if h.2 < i ∧ i ≤ h.2 + N then _ else h.1 i) = _
    rw [if_neg (by omega), if_neg (by omega)]
  · show (if h.2 + 1 + i = h.2 then _ else if h.2 < h.2 + 1 + i ∧ h.2 + 1 + i ≤ h.2 + N then _ else _) = _
    rw [if_neg (by omega), if_pos (by omega)]
theorem e_pr {P : qH → Prop} (o : ob h i ci fs) (hk : k < fs.length) (hp : ∀ h', q_fr (fun j => j = i) h h' → h'.2 = h.2 → ob h' i ci (fs.set k (.ref r)) → P h') : qPR h i ci k r P := ⟨fs, o.2, hk, hp _ q_fr1 rfl ⟨o.1, if_pos rfl⟩⟩
theorem e_o4 {P : Nat → Prop} (o : rr h i N F) (hz : z = nI k) (hk : k < N) (hN : N < 2 ^ 31) (hv : F k = some j) (hp : P j) : qO4 h i z P := by
  subst hz
  obtain ⟨hi, f, e1, e2⟩ := o
  exact ⟨N, f, j, e1, vp_in_nI hk hN, by rw [nI_clamp (Nat.lt_trans hk hN), e2 k hk]; exact hv, hp⟩
theorem e_o4n {P : Nat → Prop} {B : Prop} (o : rr h i N F) (hz : z = nI k) (hk : k < N) (hN : N < 2 ^ 31) (hA : ∀ j, F k = some j → P j) (hB : F k = none → B) : qO4n h i z P B := by
  subst hz
  obtain ⟨hi, f, e1, e2⟩ := o
  refine ⟨N, f, e1, vp_in_nI hk hN, fun j q => ?_, fun q => ?_⟩
  · rw [nI_clamp (Nat.lt_trans hk hN), e2 k hk] at q; exact hA j q
  · rw [nI_clamp (Nat.lt_trans hk hN), e2 k hk] at q; exact hB q
theorem e_a4 {P : qH → Prop} (o : rr h i N F) (a : ar h j M G) (hz : z = nI k) (hk : k < N) (hN : N < 2 ^ 31) (hp : ∀ h', q_fr (fun j => j = i) h h' → h'.2 = h.2 → rr h' i N (fun q => if q = k then some j else F q) → P h') : qA4 h i z j P := by
  subst hz
  obtain ⟨hi, f, e1, e2⟩ := o
  obtain ⟨hj, g, e3, -⟩ := a
  refine ⟨N, f, M, g, e1, e3, vp_in_nI hk hN, hp _ q_fr1 rfl ⟨hi, _, if_pos rfl, fun p hpN => ?_⟩⟩
  rw [nI_clamp (Nat.lt_trans hk hN)]
  by_cases e : p = k
  · simp [va_up, e]
  · simp [va_up, e, e2 p hpN]
theorem e_lnA {P : Int32 → Prop} (o : ar h i N G) (hp : P (nI N)) : qLN h i P := by
  obtain ⟨hi, f, e1, -⟩ := o
  exact ⟨0, _, e1, by decide, hp⟩
theorem e_lnR {P : Int32 → Prop} (o : rr h i N F) (hp : P (nI N)) : qLN h i P := by
  obtain ⟨hi, f, e1, -⟩ := o
  exact ⟨4, _, e1, by decide, hp⟩
end CT
