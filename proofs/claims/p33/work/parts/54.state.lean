/-! the whole state, and what each call answers -/
def ST : Type := (WS) × (PH) × (DT) × (PL) × (Nat) × (Nat → PH) × (Nat → DT) × (Nat → PL)
def ST.W (A : ST) : WS := A.1
def ST.P (A : ST) : PH := A.2.1
def ST.D (A : ST) : DT := A.2.2.1
def ST.L (A : ST) : PL := A.2.2.2.1
def ST.m (A : ST) : Nat := A.2.2.2.2.1
def ST.mP (A : ST) : Nat → PH := A.2.2.2.2.2.1
def ST.mD (A : ST) : Nat → DT := A.2.2.2.2.2.2.1
def ST.mL (A : ST) : Nat → PL := A.2.2.2.2.2.2.2
def ST.mk (W : WS) (P : PH) (D : DT) (L : PL) (m : Nat) (mP : Nat → PH) (mD : Nat → DT) (mL : Nat → PL) : ST := (W, P, D, L, m, mP, mD, mL)
def ST.uW (A : ST) (v : WS) : ST := ST.mk v A.P A.D A.L A.m A.mP A.mD A.mL
def ST.uP (A : ST) (v : PH) : ST := ST.mk A.W v A.D A.L A.m A.mP A.mD A.mL
def ST.uD (A : ST) (v : DT) : ST := ST.mk A.W A.P v A.L A.m A.mP A.mD A.mL
def ST.uL (A : ST) (v : PL) : ST := ST.mk A.W A.P A.D v A.m A.mP A.mD A.mL
def ST.um (A : ST) (v : Nat) : ST := ST.mk A.W A.P A.D A.L v A.mP A.mD A.mL
noncomputable def pif {α : Type} (c : Prop) (a b : α) : α := @ite α c (Classical.propDecidable c) a b
theorem pif_t {α : Type} {c : Prop} {a b : α} (h : c) : pif c a b = a := if_pos h
theorem pif_f {α : Type} {c : Prop} {a b : α} (h : ¬ c) : pif c a b = b := if_neg h
def aOk (A : ST) : Prop := wOk A.W ∧ rOk A.P A.D ∧ plOk A.W A.L ∧ A.L.n ≤ 40 ∧ A.m ≤ 8 ∧ ∀ i, i < A.m → rOk (A.mP i) (A.mD i) ∧ plOk A.W (A.mL i) ∧ (A.mL i).n ≤ 40
/-- the marks: the row 48 of references; none is made here -/
def MK (h : qH) (B : Nat) (A : ST) (f : Nat → Option Nat) : Prop := 48 < h.2 ∧ ∃ g, h.1 48 = .inl (3, (8, .inr (.inr (.inr (.inr g)))))
def CS (h : qH) (B : Nat) (A : ST) : Prop := ob h 0 9 [.ref 1, .ref 6, .ref 9, .ref 14, .ref 18, .ref 25, .ref 32, .ref 38, .ref 44, .ref 48, .int (nI A.m)] ∧ cS h A.W ∧ mOb h ∧ wyr h ∧ (∃ P D, RV h 19 P D) ∧ (∃ P D, RV h 26 P D) ∧ RV h 32 A.P A.D ∧ (∃ P D, RV h 38 P D) ∧ PV h 44 A.L ∧ ∃ f, MK h B A f
/-- where the class writes -/
def clS (_ i : Nat) : Prop := i < 49
/-- what an answer R is worth: its number 0 and the value, or the exception -/
def rs (h : qH) (B : Nat) (Q : Option Value → qH → Prop) (QX : String → qH → Prop) (E : Nat → String) (R : Nat × Int32 × ST) : Prop :=
  (R.1 = 0 → ∀ h', q_fr (clS B) h h' → CS h' B R.2.2 → Q (some (.int R.2.1)) h') ∧ (R.1 ≠ 0 → ∀ h', q_fr (clS B) h h' → CS h' B R.2.2 → QX (E R.1) h')
def E1 (a : String) : Nat → String := fun _ => a
def E2 (a b : String) : Nat → String := fun k => if k = 1 then a else b
def E3 (a b c : String) : Nat → String := fun k => if k = 1 then a else if k = 2 then b else c
abbrev nIA : String := "java/lang/IllegalArgumentException"
abbrev nIS : String := "java/lang/IllegalStateException"
abbrev nIX : String := "java/lang/IndexOutOfBoundsException"
def isW (w : Int32) (n : Nat) : Prop := 0 ≤ w.toInt ∧ w.toInt ≤ (n : Int)
noncomputable def mxA (H : Nat → Int32) (a0 a1 b0 b1 : Nat) : Int32 := @dite _ (∃ m, isMx H a0 a1 b0 b1 m) (Classical.propDecidable _) (fun h => Classical.choose h) (fun _ => 0)
theorem mxA_is {H : Nat → Int32} {a0 a1 b0 b1 : Nat} {m : Int32} (h : isMx H a0 a1 b0 b1 m) : mxA H a0 a1 b0 b1 = m := by
  unfold mxA
  rw [dif_pos ⟨m, h⟩]
  exact isMx_one (Classical.choose_spec (⟨m, h⟩ : ∃ m, isMx H a0 a1 b0 b1 m)) h
def WS.uH (W : WS) (H : Nat → Int32) : WS := WS.mk H W.R W.Z W.s W.tn W.tx W.ty W.tv W.td W.pn W.pf W.pt W.pr W.cap W.mem
def WS.uRZ (W : WS) (R Z : Nat → Int32) : WS := WS.mk W.H R Z W.s W.tn W.tx W.ty W.tv W.td W.pn W.pf W.pt W.pr W.cap W.mem
def WS.us (W : WS) (s : Int32) : WS := WS.mk W.H W.R W.Z s W.tn W.tx W.ty W.tv W.td W.pn W.pf W.pt W.pr W.cap W.mem
def WS.uc (W : WS) (cap mem : Int32) : WS := WS.mk W.H W.R W.Z W.s W.tn W.tx W.ty W.tv W.td W.pn W.pf W.pt W.pr cap mem
noncomputable def R_raise (A : ST) (x0 x1 y0 y1 w : Int32) : Nat × Int32 × ST := pif (isR x0 x1 y0 y1 ∧ sp_ok A.W.H x0.toNatClampNeg x1.toNatClampNeg y0.toNatClampNeg y1.toNatClampNeg w)
  (0, mxA (sp_up A.W.H x0.toNatClampNeg x1.toNatClampNeg y0.toNatClampNeg y1.toNatClampNeg w) x0.toNatClampNeg x1.toNatClampNeg y0.toNatClampNeg y1.toNatClampNeg, A.uW (A.W.uH (sp_up A.W.H x0.toNatClampNeg x1.toNatClampNeg y0.toNatClampNeg y1.toNatClampNeg w))) (1, 0, A)
noncomputable def R_pave (A : ST) (x0 x1 y0 y1 q z : Int32) : Nat × Int32 × ST := pif (isR x0 x1 y0 y1 ∧ isW q 3)
  (0, (x1 - x0 + 1) * (y1 - y0 + 1), A.uW (A.W.uRZ (sp_set A.W.R x0.toNatClampNeg x1.toNatClampNeg y0.toNatClampNeg y1.toNatClampNeg q) (sp_set A.W.Z x0.toNatClampNeg x1.toNatClampNeg y0.toNatClampNeg y1.toNatClampNeg z))) (1, 0, A)
noncomputable def R_ground (A : ST) (x y w : Int32) : Nat × Int32 × ST := pif (inP x y ∧ isW w 2) (0, (if w = 0 then A.W.H (ix x y) else if w = 1 then A.W.R (ix x y) else if A.W.Z (ix x y) = 0 then 0 else 1), A) (1, 0, A)
noncomputable def R_setSlope (A : ST) (w : Int32) : Nat × Int32 × ST := pif (isW w 99) (0, A.W.s, A.uW (A.W.us w)) (1, 0, A)
noncomputable def wayA (W : WS) (p o : Nat) (w : Int32) : Int32 := if w = 0 then cv (C_to W o) p else if w = 3 then dirR W.H W.R W.Z W.s (C_to W o) p else if C_to W o p < FARn then sumA W.H W.R W.Z W.s (C_to W o) (decide (w = 1)) 576 p 0 else -1
noncomputable def R_way (A : ST) (x0 y0 x1 y1 w : Int32) : Nat × Int32 × ST := pif (inP x0 y0 ∧ inP x1 y1 ∧ isW w 3) (0, wayA A.W (ix x0 y0) (ix x1 y1) w, A) (1, 0, A)
noncomputable def R_sees (A : ST) (x0 y0 x1 y1 : Int32) : Nat × Int32 × ST := pif (inP x0 y0 ∧ inP x1 y1) (0, (if seeA A.W x0 y0 x1 y1 = true then 1 else 0), A) (1, 0, A)
def bt (z : Int32) (a b : Int) : Prop := a ≤ z.toInt ∧ z.toInt ≤ b
noncomputable def R_addTarget (A : ST) (x y v n : Int32) : Nat × Int32 × ST := pif (inP x y) (pif (bt v 1 100 ∧ bt n 1 4) (pif (A.W.tn < 12) (0, nI A.W.tn, A.uW (addT A.W x y v n)) (3, 0, A)) (2, 0, A)) (1, 0, A)
noncomputable def tellT (A : ST) (k : Nat) (w : Int32) : Int32 := if w = 0 then A.W.tv k else if w = 1 then A.W.td k else if w = 2 then i_bc (sgn A.D k &&& -513) else if w = 3 then i_bc (sgA A.D k &&& -513) else if w = 4 then (if sgn A.D k &&& 512 = 0 then 0 else 1) else pif (metA A.W k (sgn A.D k)) 1 0
noncomputable def R_target (A : ST) (t w : Int32) : Nat × Int32 × ST := pif (isT A.W.tn t ∧ isW w 5) (0, tellT A t.toNatClampNeg w, A) (1, 0, A)
noncomputable def R_addPass (A : ST) (a b c : Int32) : Nat × Int32 × ST := pif (bt a 0 1439 ∧ a.toInt < b.toInt ∧ b.toInt ≤ 1440 ∧ bt c 1 20) (pif (A.W.pn < 6) (0, nI (A.W.pn + 1), A.uW (addP A.W a b c)) (2, 0, A)) (1, 0, A)
noncomputable def R_rate (A : ST) (m : Int32) : Nat × Int32 × ST := pif (bt m 0 1439) (0, rateA A.W m, A) (1, 0, A)
noncomputable def R_sky (A : ST) (m z : Int32) : Nat × Int32 × ST := pif (bt m 0 1439) (0, (if z = 0 then pow (lgt m) A.P.cl else air (lgt m)), A) (1, 0, A)
def limB (c : Int32) (P : PH) : PH := PH.mk P.t P.x P.y (if c < P.b then c else P.b) P.tp P.cl P.ht
noncomputable def R_setRover (A : ST) (c m : Int32) : Nat × Int32 × ST := pif (bt c 100 20000 ∧ bt m 40 5000) (pif (unA A.D ≤ m) (0, A.W.cap, (A.uW (A.W.uc c m)).uP (limB c A.P)) (2, 0, A)) (1, 0, A)
noncomputable def R_rover (A : ST) (w : Int32) : Nat × Int32 × ST := pif (isW w 9) (0, tellA A.P A.D w, A) (1, 0, A)
noncomputable def R_piece (A : ST) (p w : Int32) : Nat × Int32 × ST := pif (isT A.D.n p ∧ isW w 3) (0, pcA A.D p.toNatClampNeg w, A) (1, 0, A)
noncomputable def scoF (A : ST) : Nat → Int32
  | 0 => 0
  | k + 1 => pif (metA A.W k (sgn A.D k)) (scoF A k + A.W.tv k) (scoF A k)
noncomputable def R_score (A : ST) : Nat × Int32 × ST := (0, scoF A A.W.tn, A)
noncomputable def R_put (A : ST) (p k a b : Int32) : Nat × Int32 × ST := pif (isT (A.L.n + 1) p) (pif (actOk A.W k a b) (pif (A.L.n < 40) (0, nI (A.L.n + 1), A.uL (insA A.L p.toNatClampNeg k a b)) (3, 0, A)) (2, 0, A)) (1, 0, A)
noncomputable def R_remove (A : ST) (p : Int32) : Nat × Int32 × ST := pif (isT A.L.n p) (0, A.L.k p.toNatClampNeg, A.uL (delA A.L p.toNatClampNeg)) (1, 0, A)
noncomputable def R_move (A : ST) (p q : Int32) : Nat × Int32 × ST := pif (isT A.L.n p ∧ isT A.L.n q) (0, A.L.k p.toNatClampNeg, A.uL (insA (delA A.L p.toNatClampNeg) q.toNatClampNeg (A.L.k p.toNatClampNeg) (A.L.a p.toNatClampNeg) (A.L.b p.toNatClampNeg))) (1, 0, A)
noncomputable def R_activity (A : ST) (p w : Int32) : Nat × Int32 × ST := pif (isT A.L.n p ∧ isW w 2) (0, plA A.L p.toNatClampNeg w, A) (1, 0, A)
def cntA (A : ST) (w : Int32) : Int32 := if w = 0 then nI A.W.tn else if w = 1 then nI A.W.pn else if w = 2 then nI A.L.n else nI A.m
noncomputable def R_count (A : ST) (w : Int32) : Nat × Int32 × ST := pif (isW w 3) (0, cntA A w, A) (1, 0, A)
/-- what the plan does on a copy, its first m activities -/
noncomputable def tryA (A : ST) (m : Nat) : (Nat × Int32) × PH × DT := actsF A.W A.L 0 m A.P A.D
noncomputable def R_check (A : ST) : Nat × Int32 × ST := (0, (if (tryA A A.L.n).1.1 < A.L.n then nI (tryA A A.L.n).1.1 else -1), A)
noncomputable def R_reason (A : ST) : Nat × Int32 × ST := (0, (tryA A A.L.n).1.2, A)
noncomputable def R_foretell (A : ST) (m w : Int32) : Nat × Int32 × ST := pif (isW w 9) (pif (isT (A.L.n + 1) m) (pif ((tryA A m.toNatClampNeg).1.1 < m.toNatClampNeg) (3, 0, A) (0, tellA (tryA A m.toNatClampNeg).2.1 (tryA A m.toNatClampNeg).2.2 w, A)) (2, 0, A)) (1, 0, A)
def dropA (L : PL) : Nat → PL
  | 0 => L
  | n + 1 => dropA (delA L 0) n
noncomputable def R_run (A : ST) (m : Int32) : Nat × Int32 × ST := pif (bt m 1 40) (0, nI (tryA A (min m.toNatClampNeg A.L.n)).1.1, ((A.uP (tryA A (min m.toNatClampNeg A.L.n)).2.1).uD (tryA A (min m.toNatClampNeg A.L.n)).2.2).uL (dropA A.L (tryA A (min m.toNatClampNeg A.L.n)).1.1)) (1, 0, A)
noncomputable def R_make (A : ST) (n : Int32) : Nat × Int32 × ST := pif (bt n 1 2880) (pif ((tryA A A.L.n).1.1 < A.L.n) (0, 0, A) (0, nI (extF A.W ((tryA A A.L.n).2.1.t + n) 52 (fun _ => false) A.L (tryA A A.L.n).2.1 (tryA A A.L.n).2.2).1.n - nI A.L.n, A.uL (extF A.W ((tryA A A.L.n).2.1.t + n) 52 (fun _ => false) A.L (tryA A A.L.n).2.1 (tryA A A.L.n).2.2).1)) (1, 0, A)
noncomputable def neaA (A : ST) (k : Nat) : Int32 := if nearA A.W (C_fr A.W (ix A.P.x A.P.y)) A.D k = 576 then -1 else 100 * px (nearA A.W (C_fr A.W (ix A.P.x A.P.y)) A.D k) + py (nearA A.W (C_fr A.W (ix A.P.x A.P.y)) A.D k)
noncomputable def R_nearest (A : ST) (t : Int32) : Nat × Int32 × ST := pif (isT A.W.tn t) (0, neaA A t.toNatClampNeg, A) (1, 0, A)
def updM {α : Type} (f : Nat → α) (k : Nat) (v : α) : Nat → α := fun j => if j = k then v else f j
noncomputable def R_mark (A : ST) : Nat × Int32 × ST := pif (A.m < 8) (0, nI A.m, ST.mk A.W A.P A.D A.L (A.m + 1) (updM A.mP A.m A.P) (updM A.mD A.m A.D) (updM A.mL A.m A.L)) (1, 0, A)
noncomputable def R_back (A : ST) (k : Int32) : Nat × Int32 × ST := pif (isT A.m k) (0, (A.mP k.toNatClampNeg).t, ST.mk A.W (limB A.W.cap (A.mP k.toNatClampNeg)) (A.mD k.toNatClampNeg) (A.mL k.toNatClampNeg) (k.toNatClampNeg + 1) A.mP A.mD A.mL) (1, 0, A)
theorem isW_of {w : Int32} {n : Nat} (hn : n < 2 ^ 31) : ¬ w < 0 → w ≤ nI n → isW w n := fun a b => by
  rw [lt_i, L_0] at a
  rw [le_i, nI_toInt hn] at b
  exact ⟨by omega, b⟩
theorem isW_n {w : Int32} {n : Nat} (hn : n < 2 ^ 31) (h : isW w n) : ¬ w < 0 ∧ w ≤ nI n := by
  rw [lt_i, L_0, le_i, nI_toInt hn]
  exact ⟨by have := h.1; omega, h.2⟩
theorem isT_nI {n : Nat} {z : Int32} (hn : n < 2 ^ 31) (h : isT n z) : z = nI z.toNatClampNeg ∧ z.toNatClampNeg < n := by
  obtain ⟨k, hk, rfl⟩ := h
  rw [nI_clamp (by omega)]
  exact ⟨rfl, hk⟩
theorem MK.fr {h h' : qH} {B : Nat} {A A' : ST} {f : Nat → Option Nat} {S : Nat → Prop} (k : MK h B A f) (g : q_fr S h h') (h48 : ¬ S 48) (hB : ∀ i, B ≤ i → ¬ S i) (em : A'.m = A.m) (e1 : A'.mP = A.mP) (e2 : A'.mD = A.mD) (e3 : A'.mL = A.mL) : MK h' B A' f := ⟨Nat.lt_of_lt_of_le k.1 g.1, k.2.elim fun gg q => ⟨gg, (g.2 48 k.1 h48).trans q⟩⟩
theorem CS_up {h h' : qH} {B : Nat} {A : ST} {W' : WS} {P' : PH} {D' : DT} {L' : PL} {S : Nat → Prop} (hB : 49 ≤ B) (c : CS h B A) (g : q_fr S h h') (hS : ∀ i, S i → 1 ≤ i ∧ i ≤ 47 ∧ i ≠ 25) (n1 : cS h' W') (n2 : wyr h') (n3 : ∃ P D, RV h' 19 P D) (n4 : ∃ P D, RV h' 26 P D) (n5 : ∃ P D, RV h' 38 P D) (n6 : RV h' 32 P' D') (n7 : PV h' 44 L') : CS h' B (ST.mk W' P' D' L' A.m A.mP A.mD A.mL) := by
  obtain ⟨c1, c2, c3, c4, c5, c6, c7, c8, c9, f, c10⟩ := c
  exact ⟨c1.fr g (fun q => by have := hS _ q; omega), n1, ob.fr c3 g (fun q => by have := hS _ q; omega), n2, n3, n4, n6, n5, n7, f, c10.fr g (fun q => by have := hS _ q; omega) (fun i hi q => by have := hS _ q; omega) rfl rfl rfl rfl⟩
theorem CS.un {h : qH} {B : Nat} {A : ST} (c : CS h B A) {h' : qH} {S : Nat → Prop} (g : q_fr S h h') (hS : ∀ i, 19 ≤ i → i ≤ 24 → ¬ S i) : ∃ P D, RV h' 19 P D := c.2.2.2.2.1.elim fun P q => q.elim fun D q => ⟨P, D, q.fr g hS⟩
theorem CS.ah {h : qH} {B : Nat} {A : ST} (c : CS h B A) {h' : qH} {S : Nat → Prop} (g : q_fr S h h') (hS : ∀ i, 26 ≤ i → i ≤ 31 → ¬ S i) : ∃ P D, RV h' 26 P D := c.2.2.2.2.2.1.elim fun P q => q.elim fun D q => ⟨P, D, q.fr g hS⟩
theorem CS.cp {h : qH} {B : Nat} {A : ST} (c : CS h B A) {h' : qH} {S : Nat → Prop} (g : q_fr S h h') (hS : ∀ i, 38 ≤ i → i ≤ 43 → ¬ S i) : ∃ P D, RV h' 38 P D := c.2.2.2.2.2.2.2.1.elim fun P q => q.elim fun D q => ⟨P, D, q.fr g hS⟩
theorem CS.rv {h : qH} {B : Nat} {A : ST} (c : CS h B A) : RV h 32 A.P A.D := c.2.2.2.2.2.2.1
theorem CS.pv {h : qH} {B : Nat} {A : ST} (c : CS h B A) : PV h 44 A.L := c.2.2.2.2.2.2.2.2.1
theorem CS.o {h : qH} {B : Nat} {A : ST} (c : CS h B A) : ob h 0 9 [.ref 1, .ref 6, .ref 9, .ref 14, .ref 18, .ref 25, .ref 32, .ref 38, .ref 44, .ref 48, .int (nI A.m)] := c.1
theorem CS.s {h : qH} {B : Nat} {A : ST} (c : CS h B A) : cS h A.W := c.2.1
theorem CS.wy {h : qH} {B : Nat} {A : ST} (c : CS h B A) : wyr h := c.2.2.2.1
theorem CS.mo {h : qH} {B : Nat} {A : ST} (c : CS h B A) : mOb h := c.2.2.1
/-- a part of the world is new: 1 to 18 -/
theorem CS_W {h h' : qH} {B : Nat} {A : ST} {W' : WS} {S : Nat → Prop} (hB : 49 ≤ B) (c : CS h B A) (g : q_fr S h h') (hS : ∀ i, S i → 1 ≤ i ∧ i ≤ 18) (n1 : cS h' W') (n2 : wyr h') : CS h' B (A.uW W') :=
  CS_up hB c g (fun i q => by have := hS i q; omega) n1 n2 (c.un g (fun i a b q => by have := hS i q; omega)) (c.ah g (fun i a b q => by have := hS i q; omega)) (c.cp g (fun i a b q => by have := hS i q; omega)) (c.rv.fr g (fun i a b q => by have := hS i q; omega)) (c.pv.fr g (fun i a b q => by have := hS i q; omega))
theorem cl_fr {S : Nat → Prop} {h h' : qH} {B : Nat} (g : q_fr S h h') (hS : ∀ i, S i → i < 49) : q_fr (clS B) h h' := g.mono (fun i _ q => hS i q)
