/-! a rover: what it is (PH) and its data (DT) -/
def PH : Type := (Int32) × (Int32) × (Int32) × (Int32) × (Int32) × (Int32) × (Int32)
def PH.t (W : PH) : Int32 := W.1
def PH.x (W : PH) : Int32 := W.2.1
def PH.y (W : PH) : Int32 := W.2.2.1
def PH.b (W : PH) : Int32 := W.2.2.2.1
def PH.tp (W : PH) : Int32 := W.2.2.2.2.1
def PH.cl (W : PH) : Int32 := W.2.2.2.2.2.1
def PH.ht (W : PH) : Int32 := W.2.2.2.2.2.2
def PH.mk (t : Int32) (x : Int32) (y : Int32) (b : Int32) (tp : Int32) (cl : Int32) (ht : Int32) : PH := (t, x, y, b, tp, cl, ht)
def DT : Type := (Int32) × (Int32) × (Nat) × (Nat → Int32) × (Nat → Int32) × (Nat → Int32) × (Nat → Int32) × (Nat → Int32) × (Nat → Int32)
def DT.us (W : DT) : Int32 := W.1
def DT.ut (W : DT) : Int32 := W.2.1
def DT.n (W : DT) : Nat := W.2.2.1
def DT.pt (W : DT) : Nat → Int32 := W.2.2.2.1
def DT.pl (W : DT) : Nat → Int32 := W.2.2.2.2.1
def DT.pp (W : DT) : Nat → Int32 := W.2.2.2.2.2.1
def DT.pg (W : DT) : Nat → Int32 := W.2.2.2.2.2.2.1
def DT.oc (W : DT) : Nat → Int32 := W.2.2.2.2.2.2.2.1
def DT.tc (W : DT) : Nat → Int32 := W.2.2.2.2.2.2.2.2
def DT.mk (us : Int32) (ut : Int32) (n : Nat) (pt : Nat → Int32) (pl : Nat → Int32) (pp : Nat → Int32) (pg : Nat → Int32) (oc : Nat → Int32) (tc : Nat → Int32) : DT := (us, ut, n, pt, pl, pp, pg, oc, tc)
theorem ob.f1 {h h' : qH} {i k ci : Nat} {fs : List Value} (o : ob h i ci fs) (f : q_fr (fun j => j = k) h h') (hs : i ≠ k) : ob h' i ci fs := o.fr f hs
theorem ar.f1 {h h' : qH} {i k N : Nat} {F : Nat → Int32} (o : ar h i N F) (f : q_fr (fun j => j = k) h h') (hs : i ≠ k) : ar h' i N F := o.fr f hs
theorem arN.f1 {h h' : qH} {i k N n : Nat} {F : Nat → Int32} (o : arN h i N n F) (f : q_fr (fun j => j = k) h h') (hs : i ≠ k) : arN h' i N n F := o.fr f hs
theorem q_fr.t1 {S : Nat → Prop} {h h1 h2 : qH} {k : Nat} (a : q_fr S h h1) (b : q_fr (fun j => j = k) h1 h2) (hs : S k) : q_fr S h h2 := a.tr b (fun _ _ q => q) (fun i _ q => by rw [show i = k from q]; exact hs)
theorem q_fr.tt {S : Nat → Prop} {h h1 h2 : qH} (a : q_fr S h h1) (b : q_fr S h1 h2) : q_fr S h h2 := a.tr b (fun _ _ q => q) (fun _ _ q => q)
def sR (r i : Nat) : Prop := r ≤ i ∧ i ≤ r + 5
theorem sR_i {r i : Nat} (h1 : r ≤ i) (h2 : i ≤ r + 5) : sR r i := ⟨h1, h2⟩
def sgn (D : DT) (k : Nat) : Int32 := D.oc k ||| (if D.tc k = 0 then 0 else 512)
def RV (h : qH) (r : Nat) (P : PH) (D : DT) : Prop := ob h r 6 [.int P.t, .int P.x, .int P.y, .int P.b, .int P.tp, .int P.cl, .int P.ht, .int D.us, .int D.ut, .int (nI D.n), .ref (r + 1), .ref (r + 2), .ref (r + 3), .ref (r + 4), .ref (r + 5)] ∧ arN h (r + 1) 133 D.n D.pt ∧ arN h (r + 2) 133 D.n D.pl ∧ arN h (r + 3) 133 D.n D.pp ∧ arN h (r + 4) 133 D.n D.pg ∧ arN h (r + 5) 12 12 (sgn D) ∧ D.n ≤ 133 ∧ (P.ht = 0 ∨ P.ht = 1)
theorem RV.fr {h h' : qH} {r : Nat} {P : PH} {D : DT} {S : Nat → Prop} (v : RV h r P D) (f : q_fr S h h') (hs : ∀ i, r ≤ i → i ≤ r + 5 → ¬ S i) : RV h' r P D :=
  ⟨v.1.fr f (hs _ (by omega) (by omega)), v.2.1.fr f (hs _ (by omega) (by omega)), v.2.2.1.fr f (hs _ (by omega) (by omega)), v.2.2.2.1.fr f (hs _ (by omega) (by omega)), v.2.2.2.2.1.fr f (hs _ (by omega) (by omega)), v.2.2.2.2.2.1.fr f (hs _ (by omega) (by omega)), v.2.2.2.2.2.2.1, v.2.2.2.2.2.2.2⟩
/-- the sum of a row -/
def unF (f : Nat → Int32) : Nat → Int32
  | 0 => 0
  | i + 1 => unF f i + f i
def unA (D : DT) : Int32 := unF D.pl D.n
def tellA (P : PH) (D : DT) (w : Int32) : Int32 := if w = 0 then P.t else if w = 1 then P.x else if w = 2 then P.y else if w = 3 then P.b else if w = 4 then P.tp else if w = 5 then P.ht else if w = 6 then P.cl else if w = 7 then unA D else if w = 8 then nI D.n else D.us
def pcA (D : DT) (k : Nat) (w : Int32) : Int32 := if w = 0 then D.pt k else if w = 1 then D.pl k else if w = 2 then D.pp k else D.pg k
def allF (D : DT) (z b : Int32) : Nat → Int32
  | 0 => b
  | i + 1 => if D.pt i = z then allF D z b i ||| ((1 : Int32) <<< (D.pg i &&& 31)) else allF D z b i
/-- the signs of all pieces of a target, kept or sent -/
def sgA (D : DT) (k : Nat) : Int32 := allF D (nI k) (sgn D k) D.n
def keepA (D : DT) (tg size pr sg : Int32) : DT := DT.mk D.us (D.ut + size) (D.n + 1) (upd D.pt D.n tg) (upd D.pl D.n size) (upd D.pp D.n pr) (upd D.pg D.n sg) D.oc D.tc
/-- the first of the pieces of the greatest priority -/
def urg (f : Nat → Int32) : Nat → Nat
  | 0 => 0
  | i + 1 => if f (urg f i) < f i then i else urg f i
theorem urg_lt (f : Nat → Int32) : ∀ n, 0 < n → urg f n < n := by
  intro n
  induction n with
  | zero => intro h; omega
  | succ n ih =>
    intro _
    unfold urg
    split
    · omega
    · by_cases e : n = 0
      · subst e; simp [urg]
      · have := ih (by omega); omega
def del (f : Nat → Int32) (p : Nat) : Nat → Int32 := fun i => if i < p then f i else f (i + 1)
def mid (f : Nat → Int32) (p i : Nat) : Nat → Int32 := fun j => if p ≤ j ∧ j < i then f (j + 1) else f j
/-- a piece is gone: its sign is kept -/
def finA (D : DT) (p : Nat) : DT :=
  let k := (D.pt p).toNatClampNeg
  DT.mk D.us D.ut (D.n - 1) (del D.pt p) (del D.pl p) (del D.pp p) (del D.pg p) (if D.pg p = 9 then D.oc else upd D.oc k (D.oc k ||| ((1 : Int32) <<< (D.pg p &&& 31)))) (if D.pg p = 9 then upd D.tc k 1 else D.tc)
def partA (D : DT) (p : Nat) (part : Int32) : DT := DT.mk (D.us + part) D.ut D.n D.pt (upd D.pl p (D.pl p - part)) D.pp D.pg D.oc D.tc
def sendF : Nat → Int32 → DT → DT
  | 0, _, D => D
  | f + 1, rest, D => if rest ≤ 0 then D else if D.n = 0 then D else
      let p := urg D.pp D.n
      let part := if D.pl p < rest then D.pl p else rest
      if D.pl p - part = 0 then sendF f (rest - part) (finA (partA D p part) p) else sendF f (rest - part) (partA D p part)
def dT (D : DT) : Prop := ∀ i, i < D.n → ∃ k : Nat, k < 12 ∧ D.pt i = nI k
theorem del_ex {f : Nat → Int32} {p n : Nat} {R : Int32 → Prop} (h : ∀ i, i < n → R (f i)) : ∀ i, i < n - 1 → R (del f p i) := by
  intro i hi
  unfold del
  split
  · exact h i (by omega)
  · exact h (i + 1) (by omega)
section RVS
variable {l : Launch} {d mc ms : Nat} {Q : Option Value → qH → Prop} {QX : String → qH → Prop} {h : qH} {W : WS} {r : Nat} {P : PH} {D : DT}
theorem s_copyFrom {r0 r1 : Nat} {P' : PH} {D' : DT} (hd : r0 + 5 < r1 ∨ r1 + 5 < r0) (v0 : RV h r0 P D) (v1 : RV h r1 P' D') (hq : ∀ h', q_fr (sR r1) h h' → h'.2 = h.2 → RV h' r1 P D → Q none h') : q_Ct l d mX6_copyFrom [.ref r1, .ref r0] h mc ms Q QX := by
  obtain ⟨o0, a0, b0, c0, e0, g0, n0, t0⟩ := v0
  obtain ⟨o1, a1, b1, c1, e1, g1, n1, t1⟩ := v1
  have M0 : sR r1 r1 := sR_i (by omega) (by omega)
  have last : ∀ h', q_fr (sR r1) h h' ∧ h'.2 = h.2 ∧ ob h' r1 6 [.int P.t, .int P.x, .int P.y, .int P.b, .int P.tp, .int P.cl, .int P.ht, .int D.us, .int D.ut, .int (nI D.n), .ref (r1 + 1), .ref (r1 + 2), .ref (r1 + 3), .ref (r1 + 4), .ref (r1 + 5)] ∧ arN h' (r1 + 1) 133 D.n D.pt ∧ arN h' (r1 + 2) 133 D.n D.pl ∧ arN h' (r1 + 3) 133 D.n D.pp ∧ arN h' (r1 + 4) 133 D.n D.pg ∧ arN h' (r1 + 5) 12 0 (sgn D) → q_J l d mX6_copyFrom mc ms Q QX h.2 158 [some (.ref r1), some (.ref r0), some (.int 0)] [] h' mc ms := by
    rintro h' ⟨f, z, x1, x2, x3, x4, x5, x6⟩
    refine q_loop (fun i h' => q_J l d mX6_copyFrom mc ms Q QX h.2 158 [some (.ref r1), some (.ref r0), some (.int (nI i))] [] h' mc ms) (fun i h' => q_fr (sR r1) h h' ∧ h'.2 = h.2 ∧ ob h' r1 6 [.int P.t, .int P.x, .int P.y, .int P.b, .int P.tp, .int P.cl, .int P.ht, .int D.us, .int D.ut, .int (nI D.n), .ref (r1 + 1), .ref (r1 + 2), .ref (r1 + 3), .ref (r1 + 4), .ref (r1 + 5)] ∧ arN h' (r1 + 1) 133 D.n D.pt ∧ arN h' (r1 + 2) 133 D.n D.pl ∧ arN h' (r1 + 3) 133 D.n D.pp ∧ arN h' (r1 + 4) 133 D.n D.pg ∧ arN h' (r1 + 5) 12 i (sgn D)) 12 ?_ ?_ 0 h' (by omega) ⟨f, z, x1, x2, x3, x4, x5, x6⟩
    · rintro h' ⟨f, z, x1, x2, x3, x4, x5, x6⟩
      exact v_X6_copyFrom_158 (d := d) r1 r0 (nI 12) ⟨fun _ => hq h' f z ⟨x1, x2, x3, x4, x5, x6, n0, t0⟩, fun q => absurd (Int32.le_refl _) q⟩
    · rintro i h' hi ⟨f, z, x1, x2, x3, x4, x5, x6⟩ ih
      refine v_X6_copyFrom_158 (d := d) r1 r0 (nI i) ⟨fun q => absurd q (nI_ge hi (by decide)), fun _ => ?_⟩
      refine e_gr x1 rfl (e_gr (o0.fr f (by unfold sR; omega)) rfl (e_alN (g0.fr f (by unfold sR; omega)) rfl hi (by decide) (by decide) (e_asN1 x6 rfl hi (by decide) (fun h1 f1 z1 y1 => ?_))))
      rw [nI_1]
      exact ih h1 ⟨f.t1 f1 (sR_i (by omega) (by omega)), z1.trans z, x1.f1 f1 (by omega), x2.f1 f1 (by omega), x3.f1 f1 (by omega), x4.f1 f1 (by omega), x5.f1 f1 (by omega), y1.to (Nat.le_refl _) (fun j hj => by
        by_cases e : j = i
        · subst e; simp [upd]
        · simp [upd, e])⟩
  refine v_X6_copyFrom (d := d) r1 r0 ?_
  refine e_gi o0 rfl (e_pi o1 (Nat.le_of_ble_eq_true rfl) (fun h0 f0 z0 p0 => ?_))
  have y0 := o0.f1 f0 (by omega)
  refine e_gi y0 rfl (e_pi p0 (Nat.le_of_ble_eq_true rfl) (fun h1 f1 z1 p1 => ?_))
  have y1 := y0.f1 f1 (by omega)
  refine e_gi y1 rfl (e_pi p1 (Nat.le_of_ble_eq_true rfl) (fun h2 f2 z2 p2 => ?_))
  have y2 := y1.f1 f2 (by omega)
  refine e_gi y2 rfl (e_pi p2 (Nat.le_of_ble_eq_true rfl) (fun h3 f3 z3 p3 => ?_))
  have y3 := y2.f1 f3 (by omega)
  refine e_gi y3 rfl (e_pi p3 (Nat.le_of_ble_eq_true rfl) (fun h4 f4 z4 p4 => ?_))
  have y4 := y3.f1 f4 (by omega)
  refine e_gi y4 rfl (e_pi p4 (Nat.le_of_ble_eq_true rfl) (fun h5 f5 z5 p5 => ?_))
  have y5 := y4.f1 f5 (by omega)
  refine e_gi y5 rfl (e_pz t0 p5 (Nat.le_of_ble_eq_true rfl) (fun h6 f6 z6 p6 => ?_))
  have y6 := y5.f1 f6 (by omega)
  refine e_gi y6 rfl (e_pi p6 (Nat.le_of_ble_eq_true rfl) (fun h7 f7 z7 p7 => ?_))
  have y7 := y6.f1 f7 (by omega)
  refine e_gi y7 rfl (e_pi p7 (Nat.le_of_ble_eq_true rfl) (fun h8 f8 z8 p8 => ?_))
  have y8 := y7.f1 f8 (by omega)
  refine e_gi y8 rfl (e_pi p8 (Nat.le_of_ble_eq_true rfl) (fun h9 f9 z9 p9 => ?_))
  have y9 := y8.f1 f9 (by omega)
  have fz : q_fr (sR r1) h h9 := (((((((((q_fr.rf.t1 f0 M0).t1 f1 M0).t1 f2 M0).t1 f3 M0).t1 f4 M0).t1 f5 M0).t1 f6 M0).t1 f7 M0).t1 f8 M0).t1 f9 M0
  have zz : h9.2 = h.2 := by rw [z9, z8, z7, z6, z5, z4, z3, z2, z1, z0]
  have w1 := ((((((((((a1.f1 f0 (by omega)).f1 f1 (by omega)).f1 f2 (by omega)).f1 f3 (by omega)).f1 f4 (by omega)).f1 f5 (by omega)).f1 f6 (by omega)).f1 f7 (by omega)).f1 f8 (by omega)).f1 f9 (by omega))
  have w2 := ((((((((((b1.f1 f0 (by omega)).f1 f1 (by omega)).f1 f2 (by omega)).f1 f3 (by omega)).f1 f4 (by omega)).f1 f5 (by omega)).f1 f6 (by omega)).f1 f7 (by omega)).f1 f8 (by omega)).f1 f9 (by omega))
  have w3 := ((((((((((c1.f1 f0 (by omega)).f1 f1 (by omega)).f1 f2 (by omega)).f1 f3 (by omega)).f1 f4 (by omega)).f1 f5 (by omega)).f1 f6 (by omega)).f1 f7 (by omega)).f1 f8 (by omega)).f1 f9 (by omega))
  have w4 := ((((((((((e1.f1 f0 (by omega)).f1 f1 (by omega)).f1 f2 (by omega)).f1 f3 (by omega)).f1 f4 (by omega)).f1 f5 (by omega)).f1 f6 (by omega)).f1 f7 (by omega)).f1 f8 (by omega)).f1 f9 (by omega))
  have w5 := ((((((((((g1.f1 f0 (by omega)).f1 f1 (by omega)).f1 f2 (by omega)).f1 f3 (by omega)).f1 f4 (by omega)).f1 f5 (by omega)).f1 f6 (by omega)).f1 f7 (by omega)).f1 f8 (by omega)).f1 f9 (by omega))
  have k0 : ∀ {h : qH} {i N n : Nat} {G G' : Nat → Int32}, arN h i N n G → arN h i N 0 G' := fun o => o.to (Nat.zero_le _) (fun j hj => absurd hj (by omega))
  refine q_loop (fun i h' => q_J l d mX6_copyFrom mc ms Q QX h.2 87 [some (.ref r1), some (.ref r0), some (.int (nI i))] [] h' mc ms) (fun i h' => q_fr (sR r1) h h' ∧ h'.2 = h.2 ∧ ob h' r1 6 [.int P.t, .int P.x, .int P.y, .int P.b, .int P.tp, .int P.cl, .int P.ht, .int D.us, .int D.ut, .int (nI D.n), .ref (r1 + 1), .ref (r1 + 2), .ref (r1 + 3), .ref (r1 + 4), .ref (r1 + 5)] ∧ arN h' (r1 + 1) 133 i D.pt ∧ arN h' (r1 + 2) 133 i D.pl ∧ arN h' (r1 + 3) 133 i D.pp ∧ arN h' (r1 + 4) 133 i D.pg ∧ arN h' (r1 + 5) 12 0 (sgn D)) D.n ?_ ?_ 0 h9 (by omega) ⟨fz, zz, p9, k0 w1, k0 w2, k0 w3, k0 w4, k0 w5⟩
  · rintro h' ⟨f, z, x1, x2, x3, x4, x5, x6⟩
    exact v_X6_copyFrom_87 (d := d) r1 r0 (nI D.n) (e_gi x1 rfl ⟨fun _ => last h' ⟨f, z, x1, x2, x3, x4, x5, x6⟩, fun q => absurd (Int32.le_refl _) q⟩)
  · rintro i h' hi ⟨f, z, x1, x2, x3, x4, x5, x6⟩ ih
    refine v_X6_copyFrom_87 (d := d) r1 r0 (nI i) (e_gi x1 rfl ⟨fun q => absurd q (nI_ge hi (by omega)), fun _ => ⟨fun q => absurd q (nI_ge (b := 133) (by omega) (by decide)), fun _ => ?_⟩⟩)
    have q0 := o0.fr f (by unfold sR; omega)
    have qa := a0.fr f (by unfold sR; omega)
    have qb := b0.fr f (by unfold sR; omega)
    have qc := c0.fr f (by unfold sR; omega)
    have qe := e0.fr f (by unfold sR; omega)
    refine e_gr x1 rfl (e_gr q0 rfl (e_alN qa rfl hi n0 (by decide) (e_asN1 x2 rfl (by omega) (by decide) (fun h1 f1 z1 y1 => ?_))))
    refine e_gr (x1.f1 f1 (by omega)) rfl (e_gr (q0.f1 f1 (by omega)) rfl (e_alN (qb.f1 f1 (by omega)) rfl hi n0 (by decide) (e_asN1 (x3.f1 f1 (by omega)) rfl (by omega) (by decide) (fun h2 f2 z2 y2 => ?_))))
    refine e_gr ((x1.f1 f1 (by omega)).f1 f2 (by omega)) rfl (e_gr ((q0.f1 f1 (by omega)).f1 f2 (by omega)) rfl (e_alN ((qc.f1 f1 (by omega)).f1 f2 (by omega)) rfl hi n0 (by decide) (e_asN1 ((x4.f1 f1 (by omega)).f1 f2 (by omega)) rfl (by omega) (by decide) (fun h3 f3 z3 y3 => ?_))))
    refine e_gr (((x1.f1 f1 (by omega)).f1 f2 (by omega)).f1 f3 (by omega)) rfl (e_gr (((q0.f1 f1 (by omega)).f1 f2 (by omega)).f1 f3 (by omega)) rfl (e_alN (((qe.f1 f1 (by omega)).f1 f2 (by omega)).f1 f3 (by omega)) rfl hi n0 (by decide) (e_asN1 (((x5.f1 f1 (by omega)).f1 f2 (by omega)).f1 f3 (by omega)) rfl (by omega) (by decide) (fun h4 f4 z4 y4 => ?_))))
    rw [nI_1]
    have up : ∀ (G : Nat → Int32) (j : Nat), j < i + 1 → upd G i (G i) j = G j := fun G j hj => by
      by_cases e : j = i
      · subst e; simp [upd]
      · simp [upd, e]
    refine ih h4 ⟨(((f.t1 f1 (sR_i (by omega) (by omega))).t1 f2 (sR_i (by omega) (by omega))).t1 f3 (sR_i (by omega) (by omega))).t1 f4 (sR_i (by omega) (by omega)), by rw [z4, z3, z2, z1, z], (((x1.f1 f1 (by omega)).f1 f2 (by omega)).f1 f3 (by omega)).f1 f4 (by omega), (((y1.f1 f2 (by omega)).f1 f3 (by omega)).f1 f4 (by omega)).to (Nat.le_refl _) (up _), ((y2.f1 f3 (by omega)).f1 f4 (by omega)).to (Nat.le_refl _) (up _), (y3.f1 f4 (by omega)).to (Nat.le_refl _) (up _), y4.to (Nat.le_refl _) (up _), (((x6.f1 f1 (by omega)).f1 f2 (by omega)).f1 f3 (by omega)).f1 f4 (by omega)⟩
theorem s_unitsKept (v : RV h r P D) (hq : Q (some (.int (unA D))) h) : q_Ct l d mX6_unitsKept [.ref r] h mc ms Q QX := by
  obtain ⟨o, a, b, c, e, g, n0, t0⟩ := v
  refine v_X6_unitsKept (d := d) r ?_
  refine q_loop (fun i h' => q_J l d mX6_unitsKept mc ms Q QX h.2 4 [some (.ref r), some (.int (unF D.pl i)), some (.int (nI i))] [] h' mc ms) (fun i h' => h' = h) D.n ?_ ?_ 0 h (by omega) rfl
  · rintro h' rfl
    exact v_X6_unitsKept_4 (d := d) r _ (nI D.n) (e_gi o rfl ⟨fun _ => hq, fun q => absurd (Int32.le_refl _) q⟩)
  · rintro i h' hi rfl ih
    refine v_X6_unitsKept_4 (d := d) r _ (nI i) (e_gi o rfl ⟨fun q => absurd q (nI_ge hi (by omega)), fun _ => ⟨fun q => absurd q (nI_ge (b := 133) (by omega) (by decide)), fun _ => e_gr o rfl (e_alN b rfl hi n0 (by decide) ?_)⟩⟩)
    rw [nI_1]
    exact ih h' rfl
theorem s_rtell {w : Int32} (v : RV h r P D) (hq : Q (some (.int (tellA P D w))) h) : q_Ct l (d + 1) mX6_tell [.ref r, .int w] h mc ms Q QX := by
  have o := v.1
  have t0 := v.2.2.2.2.2.2.2
  unfold tellA at hq
  refine v_X6_tell r w ⟨fun q => ?_, fun q => ?_⟩
  · rw [if_pos q] at hq; exact e_gi o rfl hq
  rw [if_neg q] at hq
  refine ⟨fun q => ?_, fun q => ?_⟩
  · rw [if_pos q] at hq; exact e_gi o rfl hq
  rw [if_neg q] at hq
  refine ⟨fun q => ?_, fun q => ?_⟩
  · rw [if_pos q] at hq; exact e_gi o rfl hq
  rw [if_neg q] at hq
  refine ⟨fun q => ?_, fun q => ?_⟩
  · rw [if_pos q] at hq; exact e_gi o rfl hq
  rw [if_neg q] at hq
  refine ⟨fun q => ?_, fun q => ?_⟩
  · rw [if_pos q] at hq; exact e_gi o rfl hq
  rw [if_neg q] at hq
  refine ⟨fun q => ?_, fun q => ?_⟩
  · rw [if_pos q] at hq
    refine e_gi o rfl ⟨fun q => ?_, fun q => ?_⟩
    · rw [q] at hq; exact hq
    · rw [t0.resolve_left q] at hq; exact hq
  rw [if_neg q] at hq
  refine ⟨fun q => ?_, fun q => ?_⟩
  · rw [if_pos q] at hq; exact e_gi o rfl hq
  rw [if_neg q] at hq
  refine ⟨fun q => ?_, fun q => ?_⟩
  · rw [if_pos q] at hq; exact e_ob o (s_unitsKept v ⟨_, rfl, hq⟩)
  rw [if_neg q] at hq
  refine ⟨fun q => ?_, fun q => ?_⟩
  · rw [if_pos q] at hq; exact e_gi o rfl hq
  rw [if_neg q] at hq
  exact e_gi o rfl hq
theorem s_hasPiece {z : Int32} (v : RV h r P D) (ht : isT D.n z → Q (some (.int 1)) h) (hf : ¬ isT D.n z → Q (some (.int 0)) h) : q_Ct l d mX6_hasPiece [.ref r, .int z] h mc ms Q QX := by
  have o := v.1
  have n0 := v.2.2.2.2.2.2.1
  refine v_X6_hasPiece (d := d) r z ⟨fun q => hf ?_, fun q => e_gi o rfl ⟨fun q2 => hf ?_, fun q2 => ⟨fun q3 => hf ?_, fun q3 => ht ?_⟩⟩⟩
  · rintro ⟨k, hk, rfl⟩; exact absurd q (nI_pos (by omega))
  · rintro ⟨k, hk, rfl⟩; exact absurd q2 (nI_ge hk (by omega))
  · rintro ⟨k, hk, rfl⟩; exact absurd q3 (nI_ge (b := 133) (by omega) (by decide))
  · rcases pk_ix z (n := D.n) (by omega) with q4 | q4 | q4
    · exact absurd q4 q
    · exact absurd q4 q2
    · exact q4
theorem s_tellPiece {k : Nat} {w : Int32} (v : RV h r P D) (hk : k < D.n) (hq : Q (some (.int (pcA D k w))) h) : q_Ct l (d + 1) mX6_tellPiece [.ref r, .int (nI k), .int w] h mc ms Q QX := by
  obtain ⟨o, a, b, c, e, g, n0, t0⟩ := id v
  unfold pcA at hq
  refine v_X6_tellPiece r (nI k) w (e_ob o (s_hasPiece v (fun _ => ⟨_, rfl, fun q => absurd q z10, fun _ => ?_⟩) (fun q => absurd ⟨k, hk, rfl⟩ q)))
  refine ⟨fun q => ?_, fun q => ?_⟩
  · rw [if_pos q] at hq; exact e_gr o rfl (e_alN a rfl hk n0 (by decide) hq)
  rw [if_neg q] at hq
  refine ⟨fun q => ?_, fun q => ?_⟩
  · rw [if_pos q] at hq; exact e_gr o rfl (e_alN b rfl hk n0 (by decide) hq)
  rw [if_neg q] at hq
  refine ⟨fun q => ?_, fun q => ?_⟩
  · rw [if_pos q] at hq; exact e_gr o rfl (e_alN c rfl hk n0 (by decide) hq)
  rw [if_neg q] at hq
  exact e_gr o rfl (e_alN e rfl hk n0 (by decide) hq)
theorem s_signsSent {k : Nat} (v : RV h r P D) (hk : k < 12) (hq : Q (some (.int (sgn D k))) h) : q_Ct l d mX6_signsSent [.ref r, .int (nI k)] h mc ms Q QX := by
  obtain ⟨o, a, b, c, e, g, n0, t0⟩ := id v
  exact v_X6_signsSent (d := d) r (nI k) ⟨fun q => absurd q (nI_pos (by omega)), fun _ => ⟨fun _ => e_gr o rfl (e_alN g rfl hk (by decide) (by decide) hq), fun q => absurd (nI_lt (b := 12) hk (by decide)) q⟩⟩
theorem s_signsOf0 {z b : Int32} (v : RV h r P D) (hq : Q (some (.int (allF D z b D.n))) h) : q_J l (d + 1) mX6_signsOfAll mc ms Q QX h.2 8 [some (.ref r), some (.int z), some (.int b), some (.int 0)] [] h mc ms := by
  obtain ⟨o, a, b, c, e, g, n0, t0⟩ := id v
  refine q_loop (fun i h' => q_J l (d + 1) mX6_signsOfAll mc ms Q QX h.2 8 [some (.ref r), some (.int z), some (.int (allF D z _ i)), some (.int (nI i))] [] h' mc ms) (fun i h' => h' = h) D.n ?_ ?_ 0 h (by omega) rfl
  · rintro h' rfl
    exact v_X6_signsOfAll_8 r z _ (nI D.n) (e_gi o rfl ⟨fun _ => hq, fun q => absurd (Int32.le_refl _) q⟩)
  · rintro i h' hi rfl ih
    have ih := ih h' rfl
    rw [allF] at ih
    refine v_X6_signsOfAll_8 r z _ (nI i) (e_gi o rfl ⟨fun q => absurd q (nI_ge hi (by omega)), fun _ => ⟨fun q => absurd q (nI_ge (b := 133) (by omega) (by decide)), fun _ => e_gr o rfl (e_alN a rfl hi n0 (by decide) ?_)⟩⟩)
    rw [nI_1]
    refine ⟨fun q => e_gr o rfl (e_alN e rfl hi n0 (by decide) ?_), fun q => ?_⟩
    · rw [if_pos q] at ih; exact ih
    · rw [if_neg q] at ih; exact ih
theorem s_signsOfAll {k : Nat} (v : RV h r P D) (hk : k < 12) (hq : Q (some (.int (sgA D k))) h) : q_Ct l (d + 1) mX6_signsOfAll [.ref r, .int (nI k)] h mc ms Q QX :=
  v_X6_signsOfAll r (nI k) (e_ob v.1 (s_signsSent v hk ⟨_, rfl, s_signsOf0 v hq⟩))
theorem s_signsOfAll_n (v : RV h r P D) (hq : ∀ b, Q (some (.int b)) h) : q_Ct l (d + 1) mX6_signsOfAll [.ref r, .int (-1)] h mc ms Q QX :=
  v_X6_signsOfAll r (-1) (e_ob v.1 (v_X6_signsSent (d := d) r (-1) ⟨fun _ => ⟨_, rfl, s_signsOf0 v (hq _)⟩, fun q => absurd (by decide) q⟩))
theorem s_rFull (v : RV h r P D) (hq : Q (some (.int (if D.n < 133 then 0 else 1))) h) : q_Ct l d mX6_isFull [.ref r] h mc ms Q QX := by
  have o := v.1
  have n0 := v.2.2.2.2.2.2.1
  refine v_X6_isFull (d := d) r (e_gi o rfl ⟨fun q => absurd q (nI_pos (by omega)), fun _ => e_gi o rfl ⟨fun q => ?_, fun q => ?_⟩⟩)
  · have := (nI_ltI (b := 133) (by omega) (by decide)).mp q
    rw [if_pos this] at hq; exact hq
  · have : ¬ D.n < 133 := fun r => q ((nI_ltI (b := 133) (by omega) (by decide)).mpr r)
    rw [if_neg this] at hq; exact hq
theorem s_keep {tg size pr sg : Int32} (v : RV h r P D) (hn : D.n < 133) (hq : ∀ h', q_fr (sR r) h h' → h'.2 = h.2 → RV h' r P (keepA D tg size pr sg) → Q none h') : q_Ct l (d + 1) mX6_keep [.ref r, .int tg, .int size, .int pr, .int sg] h mc ms Q QX := by
  obtain ⟨o, a, b, c, e, g, n0, t0⟩ := id v
  refine v_X6_keep r _ _ _ _ (e_ob o (s_rFull v ⟨_, rfl, ?_⟩))
  rw [if_pos hn]
  refine ⟨fun _ => ?_, fun q => absurd rfl q⟩
  refine e_gr o rfl (e_gi o rfl (e_asN1 a rfl hn (by decide) (fun h1 f1 z1 a1 => ?_)))
  have o1 := o.f1 f1 (by omega)
  refine e_gr o1 rfl (e_gi o1 rfl (e_asN1 (b.f1 f1 (by omega)) rfl hn (by decide) (fun h2 f2 z2 a2 => ?_)))
  have o2 := o1.f1 f2 (by omega)
  refine e_gr o2 rfl (e_gi o2 rfl (e_asN1 ((c.f1 f1 (by omega)).f1 f2 (by omega)) rfl hn (by decide) (fun h3 f3 z3 a3 => ?_)))
  have o3 := o2.f1 f3 (by omega)
  refine e_gr o3 rfl (e_gi o3 rfl (e_asN1 (((e.f1 f1 (by omega)).f1 f2 (by omega)).f1 f3 (by omega)) rfl hn (by decide) (fun h4 f4 z4 a4 => ?_)))
  have o4 := o3.f1 f4 (by omega)
  refine e_gi o4 rfl (e_pi o4 (Nat.le_of_ble_eq_true rfl) (fun h5 f5 z5 o5 => e_gi o5 rfl (e_pi o5 (Nat.le_of_ble_eq_true rfl) (fun h6 f6 z6 o6 => ?_))))
  rw [nI_1] at o6
  refine hq h6 ((((((q_fr.rf.t1 f1 (sR_i (by omega) (by omega))).t1 f2 (sR_i (by omega) (by omega))).t1 f3 (sR_i (by omega) (by omega))).t1 f4 (sR_i (by omega) (by omega))).t1 f5 (sR_i (by omega) (by omega))).t1 f6 (sR_i (by omega) (by omega))) (by rw [z6, z5, z4, z3, z2, z1])
    ⟨o6, ((((a1.f1 f2 (by omega)).f1 f3 (by omega)).f1 f4 (by omega)).f1 f5 (by omega)).f1 f6 (by omega), (((a2.f1 f3 (by omega)).f1 f4 (by omega)).f1 f5 (by omega)).f1 f6 (by omega), ((a3.f1 f4 (by omega)).f1 f5 (by omega)).f1 f6 (by omega), (a4.f1 f5 (by omega)).f1 f6 (by omega), (((((g.f1 f1 (by omega)).f1 f2 (by omega)).f1 f3 (by omega)).f1 f4 (by omega)).f1 f5 (by omega)).f1 f6 (by omega), hn, t0⟩
theorem s_limitBattery {z : Int32} (v : RV h r P D) (hq : ∀ h', q_fr (sR r) h h' → h'.2 = h.2 → RV h' r (PH.mk P.t P.x P.y (if z < P.b then z else P.b) P.tp P.cl P.ht) D → Q none h') : q_Ct l (d + 1) mX6_limitBattery [.ref r, .int z] h mc ms Q QX := by
  obtain ⟨o, a, b, c, e, g, n0, t0⟩ := id v
  refine v_X6_limitBattery r z (e_gi o rfl (e_pi o (Nat.le_of_ble_eq_true rfl) (fun h1 f1 z1 o1 => ?_)))
  exact hq h1 (q_fr.rf.t1 f1 (sR_i (by omega) (by omega))) z1 ⟨o1, a.f1 f1 (by omega), b.f1 f1 (by omega), c.f1 f1 (by omega), e.f1 f1 (by omega), g.f1 f1 (by omega), n0, t0⟩
theorem s_mostUrgent (v : RV h r P D) (hn : 0 < D.n) (hq : Q (some (.int (nI (urg D.pp D.n)))) h) : q_Ct l d mX6_mostUrgent [.ref r] h mc ms Q QX := by
  obtain ⟨o, a, b, c, e, g, n0, t0⟩ := id v
  refine v_X6_mostUrgent (d := d) r ?_
  have u1 : urg D.pp 1 = 0 := by simp [urg]
  have key := q_loop (fun i h' => q_J l d mX6_mostUrgent mc ms Q QX h.2 4 [some (.ref r), some (.int (nI (urg D.pp i))), some (.int (nI i))] [] h' mc ms) (fun i h' => h' = h ∧ 1 ≤ i) D.n ?_ ?_ 1 h (by omega) ⟨rfl, by omega⟩
  · rw [u1] at key; exact key
  · rintro h' ⟨rfl, -⟩
    exact v_X6_mostUrgent_4 (d := d) r _ (nI D.n) (e_gi o rfl ⟨fun _ => hq, fun q => absurd (Int32.le_refl _) q⟩)
  · rintro i h' hi ⟨rfl, h1⟩ ih
    have ih := ih h' ⟨rfl, by omega⟩
    rw [urg] at ih
    have lt := urg_lt D.pp i h1
    refine v_X6_mostUrgent_4 (d := d) r _ (nI i) (e_gi o rfl ⟨fun q => absurd q (nI_ge hi (by omega)), fun _ => ⟨fun q => absurd q (nI_ge (b := 133) (by omega) (by decide)), fun _ => e_gr o rfl (e_alN c rfl hi n0 (by decide) (e_gr o rfl (e_alN c rfl (by omega) n0 (by decide) ?_)))⟩⟩)
    rw [nI_1]
    refine ⟨fun q => ?_, fun q => ?_⟩
    · rw [if_neg (Int32.not_lt.mpr q)] at ih; exact ih
    · rw [if_pos (Int32.not_le.mp q)] at ih; exact ih
theorem fin_sgn {p k : Nat} (hk : D.pt p = nI k) (hk2 : k < 12) (hg : ∃ g : Nat, g ≤ 9 ∧ D.pg p = nI g) (j : Nat) : upd (sgn D) k (sgn D k ||| ((1 : Int32) <<< (D.pg p &&& 31))) j = sgn (finA D p) j := by
  have ek : (D.pt p).toNatClampNeg = k := by rw [hk, nI_clamp (by omega)]
  unfold finA
  rw [ek]
  by_cases e9 : D.pg p = 9
  · simp only [if_pos e9]
    have e5 : ((1 : Int32) <<< (D.pg p &&& 31)) = 512 := by rw [e9]; decide
    rw [e5]
    by_cases e : j = k
    · subst e
      show upd (sgn D) j (sgn D j ||| 512) j = D.oc j ||| (if upd D.tc j 1 j = 0 then 0 else 512)
      rw [show upd D.tc j 1 j = 1 from by simp [upd], if_neg z10]
      rw [show upd (sgn D) j (sgn D j ||| 512) j = sgn D j ||| 512 from by simp [upd]]
      unfold sgn
      rw [Int32.or_assoc]
      split
      · rfl
      · rfl
    · show upd (sgn D) k (sgn D k ||| 512) j = D.oc j ||| (if upd D.tc k 1 j = 0 then 0 else 512)
      rw [show upd D.tc k 1 j = D.tc j from by simp [upd, e], show upd (sgn D) k (sgn D k ||| 512) j = sgn D j from by simp [upd, e]]
      rfl
  · simp only [if_neg e9]
    by_cases e : j = k
    · subst e
      show upd (sgn D) j _ j = upd D.oc j _ j ||| (if D.tc j = 0 then 0 else 512)
      rw [pk_us, pk_us]
      unfold sgn
      rw [Int32.or_assoc, Int32.or_assoc, Int32.or_comm (if D.tc j = 0 then 0 else 512)]
    · show upd (sgn D) k _ j = upd D.oc k _ j ||| (if D.tc j = 0 then 0 else 512)
      rw [pk_un e, pk_un e]
      rfl
end RVS
