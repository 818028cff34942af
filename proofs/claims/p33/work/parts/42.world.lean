/-! what the class's Targets and Passes are and answer -/
def i_bc (x0 : Int32) : Int32 := ((((((((x0 - ((x0.toUInt32 >>> ((1 : Int32).toUInt32 &&& Int32.toUInt32 31)).toInt32 &&& (1431655765 : Int32))) &&& (858993459 : Int32)) + (((x0 - ((x0.toUInt32 >>> ((1 : Int32).toUInt32 &&& Int32.toUInt32 31)).toInt32 &&& (1431655765 : Int32))).toUInt32 >>> ((2 : Int32).toUInt32 &&& Int32.toUInt32 31)).toInt32 &&& (858993459 : Int32))) + ((((x0 - ((x0.toUInt32 >>> ((1 : Int32).toUInt32 &&& Int32.toUInt32 31)).toInt32 &&& (1431655765 : Int32))) &&& (858993459 : Int32)) + (((x0 - ((x0.toUInt32 >>> ((1 : Int32).toUInt32 &&& Int32.toUInt32 31)).toInt32 &&& (1431655765 : Int32))).toUInt32 >>> ((2 : Int32).toUInt32 &&& Int32.toUInt32 31)).toInt32 &&& (858993459 : Int32))).toUInt32 >>> ((4 : Int32).toUInt32 &&& Int32.toUInt32 31)).toInt32) &&& (252645135 : Int32)) + ((((((x0 - ((x0.toUInt32 >>> ((1 : Int32).toUInt32 &&& Int32.toUInt32 31)).toInt32 &&& (1431655765 : Int32))) &&& (858993459 : Int32)) + (((x0 - ((x0.toUInt32 >>> ((1 : Int32).toUInt32 &&& Int32.toUInt32 31)).toInt32 &&& (1431655765 : Int32))).toUInt32 >>> ((2 : Int32).toUInt32 &&& Int32.toUInt32 31)).toInt32 &&& (858993459 : Int32))) + ((((x0 - ((x0.toUInt32 >>> ((1 : Int32).toUInt32 &&& Int32.toUInt32 31)).toInt32 &&& (1431655765 : Int32))) &&& (858993459 : Int32)) + (((x0 - ((x0.toUInt32 >>> ((1 : Int32).toUInt32 &&& Int32.toUInt32 31)).toInt32 &&& (1431655765 : Int32))).toUInt32 >>> ((2 : Int32).toUInt32 &&& Int32.toUInt32 31)).toInt32 &&& (858993459 : Int32))).toUInt32 >>> ((4 : Int32).toUInt32 &&& Int32.toUInt32 31)).toInt32) &&& (252645135 : Int32)).toUInt32 >>> ((8 : Int32).toUInt32 &&& Int32.toUInt32 31)).toInt32) + (((((((x0 - ((x0.toUInt32 >>> ((1 : Int32).toUInt32 &&& Int32.toUInt32 31)).toInt32 &&& (1431655765 : Int32))) &&& (858993459 : Int32)) + (((x0 - ((x0.toUInt32 >>> ((1 : Int32).toUInt32 &&& Int32.toUInt32 31)).toInt32 &&& (1431655765 : Int32))).toUInt32 >>> ((2 : Int32).toUInt32 &&& Int32.toUInt32 31)).toInt32 &&& (858993459 : Int32))) + ((((x0 - ((x0.toUInt32 >>> ((1 : Int32).toUInt32 &&& Int32.toUInt32 31)).toInt32 &&& (1431655765 : Int32))) &&& (858993459 : Int32)) + (((x0 - ((x0.toUInt32 >>> ((1 : Int32).toUInt32 &&& Int32.toUInt32 31)).toInt32 &&& (1431655765 : Int32))).toUInt32 >>> ((2 : Int32).toUInt32 &&& Int32.toUInt32 31)).toInt32 &&& (858993459 : Int32))).toUInt32 >>> ((4 : Int32).toUInt32 &&& Int32.toUInt32 31)).toInt32) &&& (252645135 : Int32)) + ((((((x0 - ((x0.toUInt32 >>> ((1 : Int32).toUInt32 &&& Int32.toUInt32 31)).toInt32 &&& (1431655765 : Int32))) &&& (858993459 : Int32)) + (((x0 - ((x0.toUInt32 >>> ((1 : Int32).toUInt32 &&& Int32.toUInt32 31)).toInt32 &&& (1431655765 : Int32))).toUInt32 >>> ((2 : Int32).toUInt32 &&& Int32.toUInt32 31)).toInt32 &&& (858993459 : Int32))) + ((((x0 - ((x0.toUInt32 >>> ((1 : Int32).toUInt32 &&& Int32.toUInt32 31)).toInt32 &&& (1431655765 : Int32))) &&& (858993459 : Int32)) + (((x0 - ((x0.toUInt32 >>> ((1 : Int32).toUInt32 &&& Int32.toUInt32 31)).toInt32 &&& (1431655765 : Int32))).toUInt32 >>> ((2 : Int32).toUInt32 &&& Int32.toUInt32 31)).toInt32 &&& (858993459 : Int32))).toUInt32 >>> ((4 : Int32).toUInt32 &&& Int32.toUInt32 31)).toInt32) &&& (252645135 : Int32)).toUInt32 >>> ((8 : Int32).toUInt32 &&& Int32.toUInt32 31)).toInt32).toUInt32 >>> ((16 : Int32).toUInt32 &&& Int32.toUInt32 31)).toInt32) &&& (63 : Int32))
def i_sgn (x0 : Int32) : Int32 := ((x0 >>> ((31 : Int32) &&& 31)) ||| ((-x0).toUInt32 >>> ((31 : Int32).toUInt32 &&& Int32.toUInt32 31)).toInt32)
def WS : Type := (Nat → Int32) × (Nat → Int32) × (Nat → Int32) × (Int32) × (Nat) × (Nat → Int32) × (Nat → Int32) × (Nat → Int32) × (Nat → Int32) × (Nat) × (Nat → Int32) × (Nat → Int32) × (Nat → Int32) × (Int32) × (Int32)
def WS.H (W : WS) : Nat → Int32 := W.1
def WS.R (W : WS) : Nat → Int32 := W.2.1
def WS.Z (W : WS) : Nat → Int32 := W.2.2.1
def WS.s (W : WS) : Int32 := W.2.2.2.1
def WS.tn (W : WS) : Nat := W.2.2.2.2.1
def WS.tx (W : WS) : Nat → Int32 := W.2.2.2.2.2.1
def WS.ty (W : WS) : Nat → Int32 := W.2.2.2.2.2.2.1
def WS.tv (W : WS) : Nat → Int32 := W.2.2.2.2.2.2.2.1
def WS.td (W : WS) : Nat → Int32 := W.2.2.2.2.2.2.2.2.1
def WS.pn (W : WS) : Nat := W.2.2.2.2.2.2.2.2.2.1
def WS.pf (W : WS) : Nat → Int32 := W.2.2.2.2.2.2.2.2.2.2.1
def WS.pt (W : WS) : Nat → Int32 := W.2.2.2.2.2.2.2.2.2.2.2.1
def WS.pr (W : WS) : Nat → Int32 := W.2.2.2.2.2.2.2.2.2.2.2.2.1
def WS.cap (W : WS) : Int32 := W.2.2.2.2.2.2.2.2.2.2.2.2.2.1
def WS.mem (W : WS) : Int32 := W.2.2.2.2.2.2.2.2.2.2.2.2.2.2
def WS.mk (H : Nat → Int32) (R : Nat → Int32) (Z : Nat → Int32) (s : Int32) (tn : Nat) (tx : Nat → Int32) (ty : Nat → Int32) (tv : Nat → Int32) (td : Nat → Int32) (pn : Nat) (pf : Nat → Int32) (pt : Nat → Int32) (pr : Nat → Int32) (cap : Int32) (mem : Int32) : WS := (H, R, Z, s, tn, tx, ty, tv, td, pn, pf, pt, pr, cap, mem)
def tgt (h : qH) (W : WS) : Prop := ob h 9 7 [.ref 10, .ref 11, .ref 12, .ref 13, .int (nI W.tn)] ∧ (∃ F, ar h 10 12 F ∧ ∀ i, i < W.tn → F i = W.tx i) ∧ (∃ F, ar h 11 12 F ∧ ∀ i, i < W.tn → F i = W.ty i) ∧ (∃ F, ar h 12 12 F ∧ ∀ i, i < W.tn → F i = W.tv i) ∧ (∃ F, ar h 13 12 F ∧ ∀ i, i < W.tn → F i = W.td i)
def pss (h : qH) (W : WS) : Prop := ob h 14 4 [.ref 15, .ref 16, .ref 17, .int (nI W.pn)] ∧ (∃ F, ar h 15 6 F ∧ ∀ i, i < W.pn → F i = W.pf i) ∧ (∃ F, ar h 16 6 F ∧ ∀ i, i < W.pn → F i = W.pt i) ∧ (∃ F, ar h 17 6 F ∧ ∀ i, i < W.pn → F i = W.pr i)
/-- what holds of the world at all times -/
def wOk (W : WS) : Prop := (gOk W.H W.R) ∧ (W.tn ≤ 12) ∧ (∀ i, i < W.tn → inP (W.tx i) (W.ty i)) ∧ (∀ i, i < W.tn → 1 ≤ (W.tv i).toInt ∧ (W.tv i).toInt ≤ 100) ∧ (∀ i, i < W.tn → 1 ≤ (W.td i).toInt ∧ (W.td i).toInt ≤ 4) ∧ (W.pn ≤ 6) ∧ (∀ i, i < W.pn → 1 ≤ (W.pr i).toInt ∧ (W.pr i).toInt ≤ 20) ∧ (100 ≤ W.cap.toInt ∧ W.cap.toInt ≤ 20000) ∧ (40 ≤ W.mem.toInt ∧ W.mem.toInt ≤ 5000) ∧ (∀ i, i < W.pn → 0 ≤ (W.pf i).toInt ∧ (W.pf i).toInt < (W.pt i).toInt ∧ (W.pt i).toInt ≤ 1440)
theorem wOk.g {W : WS} (h : wOk W) : gOk W.H W.R := h.1
theorem wOk.tn {W : WS} (h : wOk W) : W.tn ≤ 12 := h.2.1
theorem wOk.tp {W : WS} (h : wOk W) : ∀ i, i < W.tn → inP (W.tx i) (W.ty i) := h.2.2.1
theorem wOk.tv {W : WS} (h : wOk W) : ∀ i, i < W.tn → 1 ≤ (W.tv i).toInt ∧ (W.tv i).toInt ≤ 100 := h.2.2.2.1
theorem wOk.td {W : WS} (h : wOk W) : ∀ i, i < W.tn → 1 ≤ (W.td i).toInt ∧ (W.td i).toInt ≤ 4 := h.2.2.2.2.1
theorem wOk.pn {W : WS} (h : wOk W) : W.pn ≤ 6 := h.2.2.2.2.2.1
theorem wOk.pr {W : WS} (h : wOk W) : ∀ i, i < W.pn → 1 ≤ (W.pr i).toInt ∧ (W.pr i).toInt ≤ 20 := h.2.2.2.2.2.2.1
theorem wOk.cap {W : WS} (h : wOk W) : 100 ≤ W.cap.toInt ∧ W.cap.toInt ≤ 20000 := h.2.2.2.2.2.2.2.1
theorem wOk.mem {W : WS} (h : wOk W) : 40 ≤ W.mem.toInt ∧ W.mem.toInt ≤ 5000 := h.2.2.2.2.2.2.2.2.1
theorem wOk.ps {W : WS} (h : wOk W) : ∀ i, i < W.pn → 0 ≤ (W.pf i).toInt ∧ (W.pf i).toInt < (W.pt i).toInt ∧ (W.pt i).toInt ≤ 1440 := h.2.2.2.2.2.2.2.2.2
/-- a row of which the first n are known -/
def arN (h : qH) (i N n : Nat) (G : Nat → Int32) : Prop := ∃ F, ar h i N F ∧ ∀ j, j < n → F j = G j
theorem arN.fr {h h' : qH} {i N n : Nat} {G : Nat → Int32} {S : Nat → Prop} (o : arN h i N n G) (f : q_fr S h h') (hs : ¬ S i) : arN h' i N n G := o.elim fun F q => ⟨F, q.1.fr f hs, q.2⟩
theorem e_alN {h : qH} {i N n k : Nat} {G : Nat → Int32} {z : Int32} {P : Int32 → Prop} (o : arN h i N n G) (hz : z = nI k) (hk : k < n) (hn : n ≤ N) (hN : N < 2 ^ 31) (hp : P (G k)) : qAL h i z P := by
  obtain ⟨F, a, b⟩ := o
  refine e_al a hz (by omega) hN ?_
  rw [b k hk]
  exact hp
theorem e_asN {h : qH} {i N n k : Nat} {G : Nat → Int32} {z v : Int32} {P : qH → Prop} (o : arN h i N n G) (hz : z = nI k) (hk : k < N) (hN : N < 2 ^ 31) (hp : ∀ h', q_fr (fun j => j = i) h h' → h'.2 = h.2 → arN h' i N n (upd G k v) → P h') : qAS h i z v P := by
  obtain ⟨F, a, b⟩ := o
  refine e_as a hz hk hN (fun h' f q a' => hp h' f q ⟨_, a', fun j hj => ?_⟩)
  by_cases e : j = k
  · simp [upd, e]
  · simp [upd, e, b j hj]
/-- one more of it is known -/
theorem e_asN1 {h : qH} {i N n : Nat} {G : Nat → Int32} {z v : Int32} {P : qH → Prop} (o : arN h i N n G) (hz : z = nI n) (hk : n < N) (hN : N < 2 ^ 31) (hp : ∀ h', q_fr (fun j => j = i) h h' → h'.2 = h.2 → arN h' i N (n + 1) (upd G n v) → P h') : qAS h i z v P := by
  obtain ⟨F, a, b⟩ := o
  refine e_as a hz hk hN (fun h' f q a' => hp h' f q ⟨_, a', fun j hj => ?_⟩)
  by_cases e : j = n
  · simp [upd, e]
  · simp [upd, e, b j (by omega)]
theorem arN.to {h : qH} {i N n m : Nat} {G G' : Nat → Int32} (o : arN h i N n G) (hm : m ≤ n) (e : ∀ j, j < m → G j = G' j) : arN h i N m G' := o.elim fun F q => ⟨F, q.1, fun j hj => (q.2 j (by omega)).trans (e j hj)⟩
theorem arN.le {h : qH} {i N n m : Nat} {G : Nat → Int32} (o : arN h i N n G) (hm : m ≤ n) : arN h i N m G := o.to hm (fun _ _ => rfl)
theorem arN.any {h : qH} {i N n : Nat} {G : Nat → Int32} (o : arN h i N n G) : ∃ F, ar h i N F := o.elim fun F q => ⟨F, q.1⟩
theorem ar.N {h : qH} {i N n : Nat} {G : Nat → Int32} (o : ar h i N G) : arN h i N n G := ⟨G, o, fun _ _ => rfl⟩
theorem tgt.fr {h h' : qH} {W : WS} {S : Nat → Prop} (g : tgt h W) (f : q_fr S h h') (hs : ∀ i, 9 ≤ i → i ≤ 13 → ¬ S i) : tgt h' W :=
  ⟨g.1.fr f (hs 9 (by omega) (by omega)), arN.fr g.2.1 f (hs 10 (by omega) (by omega)), arN.fr g.2.2.1 f (hs 11 (by omega) (by omega)), arN.fr g.2.2.2.1 f (hs 12 (by omega) (by omega)), arN.fr g.2.2.2.2 f (hs 13 (by omega) (by omega))⟩
theorem pss.fr {h h' : qH} {W : WS} {S : Nat → Prop} (g : pss h W) (f : q_fr S h h') (hs : ∀ i, 14 ≤ i → i ≤ 17 → ¬ S i) : pss h' W :=
  ⟨g.1.fr f (hs 14 (by omega) (by omega)), arN.fr g.2.1 f (hs 15 (by omega) (by omega)), arN.fr g.2.2.1 f (hs 16 (by omega) (by omega)), arN.fr g.2.2.2 f (hs 17 (by omega) (by omega))⟩
/-- a target's number -/
def isT (n : Nat) (z : Int32) : Prop := ∃ k : Nat, k < n ∧ z = nI k
/-- the greatest rate of a minute -/
def rateF (W : WS) (m : Int32) : Nat → Int32
  | 0 => 0
  | i + 1 => if W.pf i ≤ m ∧ m < W.pt i then i_max (rateF W m i) (W.pr i) else rateF W m i
def rateA (W : WS) (m : Int32) : Int32 := rateF W m W.pn
theorem rateF_ok {W : WS} {m : Int32} (hw : wOk W) : ∀ i, i ≤ W.pn → 0 ≤ (rateF W m i).toInt ∧ (rateF W m i).toInt ≤ 20 := by
  intro i
  induction i with
  | zero => intro _; unfold rateF; rw [L_0]; omega
  | succ i ih =>
    intro hi
    have q := ih (by omega)
    have r := hw.pr i (by omega)
    unfold rateF
    split
    · rw [i_max_t]; split <;> omega
    · exact q
theorem rateA_ok {W : WS} {m : Int32} (hw : wOk W) : 0 ≤ (rateA W m).toInt ∧ (rateA W m).toInt ≤ 20 := rateF_ok hw _ (Nat.le_refl _)
/-- whether a target's need is met by such signs -/
def metA (W : WS) (k : Nat) (g : Int32) : Prop := (W.td k = 4 ∧ ¬ g &&& 512 = 0) ∨ (¬ W.td k = 4 ∧ W.td k ≤ i_bc (g &&& -513))
section TG
variable {l : Launch} {d mc ms : Nat} {Q : Option Value → qH → Prop} {QX : String → qH → Prop} {h : qH} {W : WS}
theorem isT_dec {n : Nat} (hn : n ≤ 40) (z : Int32) : (∃ k : Nat, k < n ∧ z = nI k) ∨ (z < 0 ∨ nI n ≤ z) := by
  rcases pk_ix z (n := n) (by omega) with q | q | q
  · exact Or.inr (Or.inl q)
  · exact Or.inr (Or.inr q)
  · exact Or.inl q
theorem s_has {z : Int32} (hg : tgt h W) (hw : wOk W) (ht : isT W.tn z → Q (some (.int 1)) h) (hf : ¬ isT W.tn z → Q (some (.int 0)) h) : q_Ct l d mX7_has [.ref 9, .int z] h mc ms Q QX := by
  have tn := hw.tn
  refine v_X7_has (d := d) 9 z ⟨fun q => hf ?_, fun q => e_gi hg.1 rfl ⟨fun q2 => hf ?_, fun q2 => ⟨fun q3 => hf ?_, fun q3 => ht ?_⟩⟩⟩
  · rintro ⟨k, hk, rfl⟩; exact absurd q (nI_pos (by omega))
  · rintro ⟨k, hk, rfl⟩; exact absurd q2 (nI_ge hk (by omega))
  · rintro ⟨k, hk, rfl⟩; exact absurd q3 (nI_ge (b := 12) (by omega) (by decide))
  · rcases isT_dec (n := W.tn) (by omega) z with r | r | r
    · exact r
    · exact absurd r q
    · exact absurd r q2
theorem s_has_t {k : Nat} (hg : tgt h W) (hw : wOk W) (hk : k < W.tn) (hq : Q (some (.int 1)) h) : q_Ct l d mX7_has [.ref 9, .int (nI k)] h mc ms Q QX := s_has hg hw (fun _ => hq) (fun q => absurd ⟨k, hk, rfl⟩ q)
theorem s_xOf {k : Nat} (hg : tgt h W) (hw : wOk W) (hk : k < W.tn) (hq : Q (some (.int (W.tx k))) h) : q_Ct l (d + 1) mX7_xOf [.ref 9, .int (nI k)] h mc ms Q QX :=
  v_X7_xOf 9 (nI k) (e_ob hg.1 (s_has_t hg hw hk ⟨_, rfl, fun q => absurd q z10, fun _ => e_gr hg.1 rfl (e_alN hg.2.1 rfl hk hw.tn (by decide) hq)⟩))
theorem s_yOf {k : Nat} (hg : tgt h W) (hw : wOk W) (hk : k < W.tn) (hq : Q (some (.int (W.ty k))) h) : q_Ct l (d + 1) mX7_yOf [.ref 9, .int (nI k)] h mc ms Q QX :=
  v_X7_yOf 9 (nI k) (e_ob hg.1 (s_has_t hg hw hk ⟨_, rfl, fun q => absurd q z10, fun _ => e_gr hg.1 rfl (e_alN hg.2.2.1 rfl hk hw.tn (by decide) hq)⟩))
theorem s_valueOf {k : Nat} (hg : tgt h W) (hw : wOk W) (hk : k < W.tn) (hq : Q (some (.int (W.tv k))) h) : q_Ct l (d + 1) mX7_valueOf [.ref 9, .int (nI k)] h mc ms Q QX :=
  v_X7_valueOf 9 (nI k) (e_ob hg.1 (s_has_t hg hw hk ⟨_, rfl, fun q => absurd q z10, fun _ => e_gr hg.1 rfl (e_alN hg.2.2.2.1 rfl hk hw.tn (by decide) hq)⟩))
theorem s_needOf {k : Nat} (hg : tgt h W) (hw : wOk W) (hk : k < W.tn) (hq : Q (some (.int (W.td k))) h) : q_Ct l (d + 1) mX7_needOf [.ref 9, .int (nI k)] h mc ms Q QX :=
  v_X7_needOf 9 (nI k) (e_ob hg.1 (s_has_t hg hw hk ⟨_, rfl, fun q => absurd q z10, fun _ => e_gr hg.1 rfl (e_alN hg.2.2.2.2 rfl hk hw.tn (by decide) hq)⟩))
theorem s_bitCount {x : Int32} (hq : Q (some (.int (i_bc x))) h) : q_Ct l d mJ6_bitCount_0f7a4 [.int x] h mc ms Q QX := v_J6_bitCount_0f7a4 (d := d) x hq
theorem s_octantsOf {x : Int32} (hq : Q (some (.int (i_bc (x &&& -513)))) h) : q_Ct l (d + 1) mX7_octantsOf [.int x] h mc ms Q QX := v_X7_octantsOf x (s_bitCount ⟨_, rfl, hq⟩)
theorem s_hasTouch {x : Int32} (hq : Q (some (.int (if x &&& 512 = 0 then 0 else 1))) h) : q_Ct l d mX7_hasTouch [.int x] h mc ms Q QX := v_X7_hasTouch (d := d) x ⟨fun q => by rw [if_pos q] at hq; exact hq, fun q => by rw [if_neg q] at hq; exact hq⟩
theorem s_isMet {k : Nat} {x : Int32} (hg : tgt h W) (hw : wOk W) (hk : k < W.tn) (ht : metA W k x → Q (some (.int 1)) h) (hf : ¬ metA W k x → Q (some (.int 0)) h) : q_Ct l (d + 2) mX7_isMet [.ref 9, .int (nI k), .int x] h mc ms Q QX := by
  refine v_X7_isMet 9 (nI k) x (e_ob hg.1 (s_needOf hg hw hk ⟨_, rfl, fun q => s_hasTouch ⟨_, rfl, ?_⟩, fun q => s_octantsOf ⟨_, rfl, fun q2 => hf ?_, fun q2 => ht (Or.inr ⟨q, Int32.not_lt.mp q2⟩)⟩⟩))
  · by_cases e : x &&& 512 = 0
    · rw [if_pos e]
      exact ⟨Or.inl rfl, hf (fun r => r.elim (fun r => r.2 e) (fun r => r.1 q))⟩
    · rw [if_neg e]
      exact ⟨Or.inr rfl, ht (Or.inl ⟨q, e⟩)⟩
  · exact fun r => r.elim (fun r => q r.1) (fun r => absurd q2 (Int32.not_lt.mpr r.2))
theorem s_tFull (hg : tgt h W) (hw : wOk W) (hq : Q (some (.int (if W.tn < 12 then 0 else 1))) h) : q_Ct l d mX7_isFull [.ref 9] h mc ms Q QX := by
  have tn := hw.tn
  refine v_X7_isFull (d := d) 9 (e_gi hg.1 rfl ⟨fun q => ?_, fun q => ?_⟩)
  · have := (nI_ltI (b := 12) (by omega) (by decide)).mp q
    rw [if_pos this] at hq; exact hq
  · have : ¬ W.tn < 12 := fun r => q ((nI_ltI (b := 12) (by omega) (by decide)).mpr r)
    rw [if_neg this] at hq; exact hq
theorem s_pFull (hg : pss h W) (hw : wOk W) (hq : Q (some (.int (if W.pn < 6 then 0 else 1))) h) : q_Ct l d mX4_isFull [.ref 14] h mc ms Q QX := by
  have tn := hw.pn
  refine v_X4_isFull (d := d) 14 (e_gi hg.1 rfl ⟨fun q => ?_, fun q => ?_⟩)
  · have := (nI_ltI (b := 6) (by omega) (by decide)).mp q
    rw [if_pos this] at hq; exact hq
  · have : ¬ W.pn < 6 := fun r => q ((nI_ltI (b := 6) (by omega) (by decide)).mpr r)
    rw [if_neg this] at hq; exact hq
def tS (i : Nat) : Prop := 9 ≤ i ∧ i ≤ 13
def pS (i : Nat) : Prop := 14 ≤ i ∧ i ≤ 17
def addT (W : WS) (x y v n : Int32) : WS := WS.mk W.H W.R W.Z W.s (W.tn + 1) (upd W.tx W.tn x) (upd W.ty W.tn y) (upd W.tv W.tn v) (upd W.td W.tn n) W.pn W.pf W.pt W.pr W.cap W.mem
def addP (W : WS) (a b c : Int32) : WS := WS.mk W.H W.R W.Z W.s W.tn W.tx W.ty W.tv W.td (W.pn + 1) (upd W.pf W.pn a) (upd W.pt W.pn b) (upd W.pr W.pn c) W.cap W.mem
theorem s_tAppend {x y v n : Int32} (hg : tgt h W) (hw : wOk W) (hn : W.tn < 12) (hq : ∀ h', q_fr tS h h' → h'.2 = h.2 → tgt h' (addT W x y v n) → Q (some (.int (nI W.tn))) h') : q_Ct l (d + 1) mX7_append [.ref 9, .int x, .int y, .int v, .int n] h mc ms Q QX := by
  obtain ⟨o, a, b, c, e⟩ := hg
  refine v_X7_append 9 x y v n (e_ob o (s_tFull ⟨o, a, b, c, e⟩ hw ⟨_, rfl, ?_⟩))
  rw [if_pos hn]
  refine ⟨fun _ => e_gi o rfl ⟨fun _ => ?_, fun q => absurd (nI_pos' (by omega)) q⟩, fun q => absurd rfl q⟩
  refine e_gr o rfl (e_gi o rfl (e_asN1 a rfl hn (by decide) (fun h1 f1 z1 a1 => ?_)))
  have o1 := o.fr f1 (by decide)
  refine e_gr o1 rfl (e_gi o1 rfl (e_asN1 (arN.fr b f1 (by decide)) rfl hn (by decide) (fun h2 f2 z2 a2 => ?_)))
  have o2 := o1.fr f2 (by decide)
  refine e_gr o2 rfl (e_gi o2 rfl (e_asN1 ((arN.fr c f1 (by decide)).fr f2 (by decide)) rfl hn (by decide) (fun h3 f3 z3 a3 => ?_)))
  have o3 := o2.fr f3 (by decide)
  refine e_gr o3 rfl (e_gi o3 rfl (e_asN1 (((arN.fr e f1 (by decide)).fr f2 (by decide)).fr f3 (by decide)) rfl hn (by decide) (fun h4 f4 z4 a4 => ?_)))
  have o4 := o3.fr f4 (by decide)
  refine e_gi o4 rfl (e_pi o4 (Nat.le_of_ble_eq_true rfl) (fun h5 f5 z5 o5 => e_gi o5 rfl ?_))
  rw [nI_1] at o5
  rw [nI_1, nI_pred]
  have m : ∀ i j : Nat, 9 ≤ j → j ≤ 13 → i = j → tS i := fun i j q1 q2 q3 => by unfold tS; omega
  refine hq h5 ?_ (z5.trans (z4.trans (z3.trans (z2.trans z1)))) ⟨o5, (((a1.fr f2 (by decide)).fr f3 (by decide)).fr f4 (by decide)).fr f5 (by decide), ((a2.fr f3 (by decide)).fr f4 (by decide)).fr f5 (by decide), (a3.fr f4 (by decide)).fr f5 (by decide), a4.fr f5 (by decide)⟩
  exact ((((f1.mono (fun i _ => m i 10 (by omega) (by omega))).tr (f2.mono (fun i _ => m i 11 (by omega) (by omega))) (fun _ _ q => q) (fun _ _ q => q)).tr (f3.mono (fun i _ => m i 12 (by omega) (by omega))) (fun _ _ q => q) (fun _ _ q => q)).tr (f4.mono (fun i _ => m i 13 (by omega) (by omega))) (fun _ _ q => q) (fun _ _ q => q)).tr (f5.mono (fun i _ => m i 9 (by omega) (by omega))) (fun _ _ q => q) (fun _ _ q => q)
theorem s_pAppend {x y v : Int32} (hg : pss h W) (hw : wOk W) (hn : W.pn < 6) (hq : ∀ h', q_fr pS h h' → h'.2 = h.2 → pss h' (addP W x y v) → Q (some (.int (nI (W.pn + 1)))) h') : q_Ct l (d + 1) mX4_append [.ref 14, .int x, .int y, .int v] h mc ms Q QX := by
  obtain ⟨o, a, b, c⟩ := hg
  refine v_X4_append 14 x y v (e_ob o (s_pFull ⟨o, a, b, c⟩ hw ⟨_, rfl, ?_⟩))
  rw [if_pos hn]
  refine ⟨fun _ => e_gi o rfl ⟨fun q => absurd q (nI_pos (by omega)), fun _ => ?_⟩, fun q => absurd rfl q⟩
  refine e_gr o rfl (e_gi o rfl (e_asN1 a rfl hn (by decide) (fun h1 f1 z1 a1 => ?_)))
  have o1 := o.fr f1 (by decide)
  refine e_gr o1 rfl (e_gi o1 rfl (e_asN1 (arN.fr b f1 (by decide)) rfl hn (by decide) (fun h2 f2 z2 a2 => ?_)))
  have o2 := o1.fr f2 (by decide)
  refine e_gr o2 rfl (e_gi o2 rfl (e_asN1 ((arN.fr c f1 (by decide)).fr f2 (by decide)) rfl hn (by decide) (fun h3 f3 z3 a3 => ?_)))
  have o3 := o2.fr f3 (by decide)
  refine e_gi o3 rfl (e_pi o3 (Nat.le_of_ble_eq_true rfl) (fun h5 f5 z5 o5 => e_gi o5 rfl ?_))
  rw [nI_1] at o5 ⊢
  have m : ∀ i j : Nat, 14 ≤ j → j ≤ 17 → i = j → pS i := fun i j q1 q2 q3 => by unfold pS; omega
  refine hq h5 ?_ (z5.trans (z3.trans (z2.trans z1))) ⟨o5, ((a1.fr f2 (by decide)).fr f3 (by decide)).fr f5 (by decide), (a2.fr f3 (by decide)).fr f5 (by decide), a3.fr f5 (by decide)⟩
  exact (((f1.mono (fun i _ => m i 15 (by omega) (by omega))).tr (f2.mono (fun i _ => m i 16 (by omega) (by omega))) (fun _ _ q => q) (fun _ _ q => q)).tr (f3.mono (fun i _ => m i 17 (by omega) (by omega))) (fun _ _ q => q) (fun _ _ q => q)).tr (f5.mono (fun i _ => m i 14 (by omega) (by omega))) (fun _ _ q => q) (fun _ _ q => q)
theorem s_rateAt {m : Int32} (hg : pss h W) (hw : wOk W) (hq : Q (some (.int (rateA W m))) h) : q_Ct l (d + 1) mX4_rateAt [.ref 14, .int m] h mc ms Q QX := by
  obtain ⟨o, a, b, c⟩ := hg
  have pn := hw.pn
  refine v_X4_rateAt 14 m ?_
  refine q_loop (fun i h' => q_J l (d + 1) mX4_rateAt mc ms Q QX h.2 4 [some (.ref 14), some (.int m), some (.int (rateF W m i)), some (.int (nI i))] [] h' mc ms) (fun i h' => h' = h) W.pn ?_ ?_ 0 h (by omega) rfl
  · rintro h' rfl
    exact v_X4_rateAt_4 14 m _ (nI W.pn) (e_gi o rfl ⟨fun _ => hq, fun q => absurd (Int32.le_refl _) q⟩)
  · rintro i h' hi rfl ih
    refine v_X4_rateAt_4 14 m _ (nI i) (e_gi o rfl ⟨fun q => absurd q (nI_ge hi (by omega)), fun _ => ⟨fun q => absurd q (nI_ge (b := 6) (by omega) (by decide)), fun _ => ?_⟩⟩)
    have ih := ih h' rfl
    rw [rateF] at ih
    rw [nI_1]
    refine e_gr o rfl (e_alN a rfl hi pn (by decide) ⟨fun q => ?_, fun q => e_gr o rfl (e_alN b rfl hi pn (by decide) ⟨fun q2 => ?_, fun q2 => e_gr o rfl (e_alN c rfl hi pn (by decide) ?_)⟩)⟩)
    · rw [if_neg (fun r => absurd q (Int32.not_lt.mpr r.1))] at ih; exact ih
    · rw [if_neg (fun r => absurd r.2 (Int32.not_lt.mpr q2))] at ih; exact ih
    · rw [if_pos ⟨Int32.not_lt.mp q, Int32.not_le.mp q2⟩] at ih; exact ih
end TG
