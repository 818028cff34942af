/-! the model: its whole state; ways, plans made -/
def rr (h : qH) (i N : Nat) (f : Nat → Option Nat) : Prop := i < h.2 ∧ ∃ g, h.1 i = .inl (4, (N, .inr (.inr (.inr (.inr g))))) ∧ ∀ j, j < N → g j = f j
theorem rr.fr {h h' : qH} {i N : Nat} {f : Nat → Option Nat} {S : Nat → Prop} (o : rr h i N f) (g : q_fr S h h') (hs : ¬ S i) : rr h' i N f := ⟨Nat.lt_of_lt_of_le o.1 g.1, o.2.elim fun x hx => ⟨x, (g.2 i o.1 hs).trans hx.1, hx.2⟩⟩
theorem e_o4 {h : qH} {i N k j : Nat} {f : Nat → Option Nat} {z : Int32} {P : Nat → Prop} (o : rr h i N f) (hz : z = nI k) (hk : k < N) (hN : N < 2 ^ 31) (hj : f k = some j) (hp : P j) : qO4 h i z P := by
  subst hz
  obtain ⟨hi, g, e1, e2⟩ := o
  exact ⟨N, g, j, e1, vp_in_nI hk hN, by rw [nI_clamp (Nat.lt_trans hk hN), e2 k hk]; exact hj, hp⟩
/-- the model's marks -/
def MMk (h : qH) (A : ST) : Prop := rr h 58 8 (fun i => some (59 + i)) ∧ rr h 67 8 (fun i => some (68 + i)) ∧ (∃ F, ar h 76 8 F ∧ ∀ i, i < A.m → F i = nI (A.mL i).n) ∧
  (∀ i, i < 8 → arA h (59 + i) 594 ∧ arA h (68 + i) 120) ∧ ∀ i, i < A.m → i < 8 → MR h (59 + i) (A.mP i) (A.mD i) ∧ ML h (68 + i) (A.mL i)
theorem MMk.fr {h h' : qH} {A A' : ST} {S : Nat → Prop} (g : MMk h A) (f : q_fr S h h') (hs : ∀ i, 58 ≤ i → i ≤ 76 → ¬ S i) (em : A'.m = A.m) (e1 : A'.mP = A.mP) (e2 : A'.mD = A.mD) (e3 : A'.mL = A.mL) : MMk h' A' := by
  obtain ⟨g1, g2, ⟨F, g3, g4⟩, g5, g6⟩ := g
  unfold MMk
  rw [em, e1, e2, e3]
  exact ⟨g1.fr f (hs _ (by omega) (by omega)), g2.fr f (hs _ (by omega) (by omega)), ⟨F, g3.fr f (hs _ (by omega) (by omega)), g4⟩, fun i hi => ⟨(g5 i hi).1.fr f (hs _ (by omega) (by omega)), (g5 i hi).2.fr f (hs _ (by omega) (by omega))⟩, fun i hi h8 => ⟨(g6 i hi h8).1.fr f (hs _ (by omega) (by omega)), (g6 i hi h8).2.fr f (hs _ (by omega) (by omega))⟩⟩
def MSt (h : qH) (A : ST) (th : Int32) : Prop := 83 ≤ h.2 ∧ (∃ wy, MB h A.W A.L.n A.m th wy) ∧ MR h 55 A.P A.D ∧ arA h 56 594 ∧ ML h 57 A.L ∧ MMk h A ∧ arA h 81 594
/-- where the model writes -/
def mS (i : Nat) : Prop := 49 ≤ i ∧ i ≤ 81
def rm (h : qH) (Q : Option Value → qH → Prop) (R : Nat × Int32 × ST) : Prop := ∀ h', q_fr mS h h' → MSt h' R.2.2 (nI R.1) → Q (some (.int R.2.1)) h'
theorem MSt.up {h h' : qH} {A : ST} {th th' : Int32} {S : Nat → Prop} (s : MSt h A th) (f : q_fr S h h') (hS : ∀ i, S i → 49 ≤ i → i ≤ 82 → i ≤ 54 ∨ i = 56 ∨ 77 ≤ i) (b : ∃ wy, MB h' A.W A.L.n A.m th' wy) (u : arA h' 56 594) (w : arA h' 81 594) : MSt h' A th' :=
  ⟨Nat.le_trans s.1 f.1, b, s.2.2.1.fr f (fun q => by have := hS _ q; omega), u, s.2.2.2.2.1.fr f (fun q => by have := hS _ q; omega), s.2.2.2.2.2.1.fr f (fun i a c q => by have := hS _ q; omega) rfl rfl rfl rfl, w⟩
section MD9
variable {l : Launch} {d mc ms : Nat} {Q : Option Value → qH → Prop} {QX : String → qH → Prop} {h : qH} {A : ST} {th : Int32}
theorem rm.tr {h' : qH} {R : Nat × Int32 × ST} (q : rm h Q R) (f : q_fr mS h h') : rm h' Q R := fun h2 f2 s => q h2 (f.tt f2) s
theorem m_start {P : qH → Prop} {R : Nat × Int32 × ST} (s : MSt h A th) (hq : rm h Q R) (hp : ∀ h', MSt h' A 0 → rm h' Q R → P h') : qPI h 49 10 0 0 P := by
  obtain ⟨wy, b⟩ := s.2.1
  exact e_pi b.1 (Nat.le_of_ble_eq_true rfl) (fun h1 f1 z1 o1 => hp h1 (s.up f1 (fun i q a c => by omega) ⟨wy, b.ob f1 o1⟩ (s.2.2.2.1.fr f1 (by omega)) (s.2.2.2.2.2.2.fr f1 (by omega))) (hq.tr (f1.mono (fun i _ q => by unfold mS; omega))))
theorem m_no (k : Nat) {kk : Int32} (hk : kk = nI k) (s : MSt h A th) (hq : rm h Q (k, 0, A)) : qOB h 49 10 (qCI l d mX10_fail [.ref 49, .int kk] h 0 0 (fun z h' => Q (some (.int z)) h')) := by
  subst hk
  obtain ⟨wy, b⟩ := s.2.1
  exact e_ob b.1 (m_fail b.1 (fun h1 f1 z1 o1 => ⟨_, rfl, hq h1 (f1.mono (fun i _ q => by unfold mO1 at q; unfold mS; omega)) (s.up f1 (fun i q a c => by unfold mO1 at q; omega) ⟨wy, b.ob f1 o1⟩ (s.2.2.2.1.fr f1 (by unfold mO1; omega)) (s.2.2.2.2.2.2.fr f1 (by unfold mO1; omega)))⟩))
theorem m_ok {v : Int32} (s : MSt h A 0) (hq : rm h Q (0, v, A)) : Q (some (.int v)) h := hq h q_fr.rf s
theorem g_t {X Y : Prop} (a : Y) : qIF ((1 : Int32) = 0) X Y := ⟨fun q => absurd q z10, fun _ => a⟩
theorem g_f {X Y : Prop} (a : X) : qIF ((0 : Int32) = 0) X Y := ⟨fun _ => a, fun q => absurd rfl q⟩
theorem m_isBt {z k j : Int32} {a b : Int} (hk : k.toInt = a) (hj : j.toInt = b) (ht : bt z a b → Q (some (.int 1)) h) (hf : ¬ bt z a b → Q (some (.int 0)) h) : q_Ct l d mX10_isIn [.int z, .int k, .int j] h mc ms Q QX :=
  m_isIn (fun p q => ht (bt_of hk hj p q)) (fun c => hf (fun r => c ⟨bt_lo hk r, bt_hi hj r⟩))
theorem m_isW {w : Int32} (n : Nat) {k : Int32} (hn : n < 2 ^ 31) (hk : k = nI n) (ht : isW w n → Q (some (.int 1)) h) (hf : ¬ isW w n → Q (some (.int 0)) h) : q_Ct l d mX10_isIn [.int w, .int 0, .int k] h mc ms Q QX := by
  subst hk
  exact m_isIn (fun p q => ht (isW_of hn p (Int32.not_lt.mp q))) (fun c => hf (fun r => c ⟨(isW_n hn r).1, Int32.not_lt.mpr (isW_n hn r).2⟩))
theorem MB_rS {h h' : qH} {W : WS} {n m : Nat} {th wy : Int32} (b : MB h W n m th wy) (f : q_fr rS h h') (c1 : arA h' 77 576) (c2 : arA h' 78 576) (c3 : br h' 79 576 (fun _ => 0)) : MB h' W n m th wy :=
  ⟨b.1.fr f (by unfold rS; omega), b.2.1.fr f (fun i a c => by unfold rS; omega), b.2.2.1.fr f (by unfold rS; omega), b.2.2.2.1.fr f (by unfold rS; omega), c1, c2, c3, b.2.2.2.2.2.2.2.fr f (by unfold rS; omega)⟩
/-- how many targets are not out -/
def cnO (out : Nat → Bool) : Nat → Nat
  | 0 => 0
  | t + 1 => cnO out t + (if out t = true then 0 else 1)
theorem cnO_U {out : Nat → Bool} {t : Nat} (ho : out t = false) : ∀ n, cnO (outU out t) n + (if t < n then 1 else 0) = cnO out n := by
  intro n
  induction n with
  | zero => rfl
  | succ n ih =>
    show cnO (outU out t) n + (if outU out t n = true then 0 else 1) + (if t < n + 1 then 1 else 0) = cnO out n + (if out n = true then 0 else 1)
    by_cases e : n = t
    · subst e
      rw [if_neg (Nat.lt_irrefl n)] at ih
      have e1 : outU out n n = true := by unfold outU; rw [if_pos rfl]
      rw [ho, e1, if_pos rfl, if_pos (Nat.lt_succ_self n), if_neg (by decide)]
      omega
    · have e1 : outU out t n = out n := by unfold outU; rw [if_neg e]
      rw [e1]
      by_cases q : t < n
      · rw [if_pos q] at ih; rw [if_pos (show t < n + 1 by omega)]; omega
      · rw [if_neg q] at ih; rw [if_neg (show ¬ t < n + 1 by omega)]; omega
theorem m_make {n : Int32} (hkc : 200 ≤ mc) (hks : 800 ≤ ms) (s : MSt h A th) (ok : aOk A) (hq : rm h Q (R_make A n)) : q_Ct l (d + 8) mX10_make [.ref 49, .int n] h mc ms Q QX := by
  unfold R_make at hq
  refine v_X10_make (by omega) (by omega) 49 n (m_start s hq (fun h1 s1 hq => m_isBt L_1 L_2880 (fun t => ⟨_, rfl, g_t ?_⟩) (fun t => ⟨_, rfl, g_f (m_no 1 rfl s1 (by rw [pif_f t] at hq; exact hq))⟩)))
  rw [pif_t t] at hq
  obtain ⟨ok1, ok2, ok3, ok4, ok5⟩ := ok
  obtain ⟨s83, ⟨wy1, B1⟩, v1, u1, p1, k1, w1⟩ := id s1
  have le := tryA_le (A := A) (m := A.L.n)
  refine e_gi B1.1 rfl (e_gi B1.1 rfl (e_ob B1.1 (m_tryOut (by omega) (by omega) B1 ok1 v1 ok2 u1 p1 ok3 (Nat.le_refl _) ok4 (fun h2 f2 B2 v2 R2 => ⟨_, rfl, ?_⟩))))
  change q_fr tM h1 h2 at f2
  have T8 : ∀ i, tM i → mS i := fun i q => by unfold tM rS at q; unfold mS; omega
  have T9 : ∀ i, tM i → 49 ≤ i → i ≤ 82 → i ≤ 54 ∨ i = 56 ∨ 77 ≤ i := fun i q _ _ => by unfold tM rS at q; omega
  change MB h2 A.W A.L.n A.m 0 (tryA A A.L.n).1.2 at B2
  change MR h2 56 (tryA A A.L.n).2.1 (tryA A A.L.n).2.2 at v2
  change rOk (tryA A A.L.n).2.1 (tryA A A.L.n).2.2 at R2
  show qIF ((if (tryA A A.L.n).1.1 < A.L.n then nI (tryA A A.L.n).1.1 else -1) = -1) _ _
  generalize tryA A A.L.n = T at hq le B2 v2 R2 ⊢
  have w2 : arA h2 81 594 := w1.fr f2 (by unfold tM rS; omega)
  by_cases lt : T.1.1 < A.L.n
  · rw [pif_t lt] at hq
    rw [if_pos lt]
    exact ⟨fun q => absurd q (nI_nm1 (by omega)), fun _ => hq h2 (f2.mono (fun i _ q => T8 i q)) (s1.up f2 T9 ⟨_, B2⟩ v2.A w2)⟩
  rw [pif_f lt] at hq
  rw [if_neg lt]
  refine ⟨fun _ => ?_, fun q => absurd rfl q⟩
  refine e_gr B2.1 rfl (mr_rd (k := 0) v2 rfl (by decide) (fun F q => q.t) (e_nz (S := fun _ => False) (fun h3 f3 z3 b3 => ?_)))
  have h12 : h1.2 ≤ h2.2 := f2.1
  have ha : 83 ≤ h2.2 := by omega
  have tb := R2.1
  have tb1 := tb.2.1
  have tb2 := tb.2.2.1
  generalize hX : (extF A.W (T.2.1.t + n) 52 (fun _ => false) A.L T.2.1 T.2.2).1 = X at hq
  have hk1 : 100 ≤ mc - 42 := by omega
  have hk2 : 400 ≤ ms - 176 := by omega
  generalize mc - 42 = kc9 at hk1 ⊢
  generalize ms - 176 = ks9 at hk2 ⊢
  refine q_loop (fun i (st : ((Nat → Bool) × PL × PH × DT) × qH) => q_J l (d + 8) mX10_make mc ms Q QX h.2 57 [some (.ref 49), some (.int n), some (.int (nI A.L.n)), some (.int T.2.1.t), some (.ref h2.2), some (.int 1)] [] st.2 (kc9 - 2 * i) (ks9 - 8 * i))
    (fun i st => q_fr mS h1 st.2 ∧ MB st.2 A.W st.1.2.1.n A.m 0 T.1.2 ∧ MR st.2 55 A.P A.D ∧ MR st.2 56 st.1.2.2.1 st.1.2.2.2 ∧ rOk st.1.2.2.1 st.1.2.2.2 ∧ arA st.2 81 594 ∧ ML st.2 57 st.1.2.1 ∧ plOk A.W st.1.2.1 ∧ st.1.2.1.n ≤ 40 ∧ br st.2 h2.2 12 (outB st.1.1) ∧ MMk st.2 A ∧ (40 - st.1.2.1.n) + 2 * cnO st.1.1 12 + 2 * i ≤ 64 ∧ (extF A.W (T.2.1.t + n) (52 - i) st.1.1 st.1.2.1 st.1.2.2.1 st.1.2.2.2).1 = X) 33 ?_ ?_ 0 ((fun _ => false, A.L, T.2.1, T.2.2), h3) (by omega)
    ⟨(f2.mono (fun i _ q => T8 i q)).tt (f3.mono (fun i _ q => q.elim)), B2.fr f3 (fun i a b q => q) (fun i a b q => q), (v1.fr f2 (by unfold tM rS; omega)).fr f3 (fun q => q), v2.fr f3 (fun q => q), R2, w2.fr f3 (fun q => q), (p1.fr f2 (by unfold tM rS; omega)).fr f3 (fun q => q), ok3, ok4, b3, (k1.fr f2 (fun i a b => by unfold tM rS; omega) rfl rfl rfl rfl).fr f3 (fun i a b q => q) rfl rfl rfl rfl, by show (40 - A.L.n) + 2 * cnO (fun _ => false) 12 + 2 * 0 ≤ 64; have : cnO (fun _ => false) 12 = 12 := rfl; omega, hX⟩
  · rintro ⟨⟨out, L', P', D'⟩, h'⟩ ⟨f, B', v', c', R', u', p', L9, n9, b', k', po, e⟩
    exact absurd po (by omega)
  · rintro i ⟨⟨out, L', P', D'⟩, h'⟩ hi ⟨f, B', v', c', R', u', p', L9, n9, b', k', po, e⟩ ih
    dsimp only at f B' v' c' R' u' p' L9 n9 b' k' po e ⊢
    have f83 : 83 ≤ h'.2 := Nat.le_trans s83 f.1
    have fin : ∀ (h4 : qH) (kc ks : Nat), 2 ≤ kc → 8 ≤ ks → q_fr mS h1 h4 → MB h4 A.W L'.n A.m 0 T.1.2 → MR h4 55 A.P A.D → arA h4 56 594 → arA h4 81 594 → ML h4 57 L' → MMk h4 A → L' = X → q_J l (d + 8) mX10_make mc ms Q QX h.2 57 [some (.ref 49), some (.int n), some (.int (nI A.L.n)), some (.int T.2.1.t), some (.ref h2.2), some (.int 0)] [] h4 kc ks := by
      intro h4 kc ks hk1 hk2 f4 B4 v4 c4 u4 p4 k4 eX
      refine v_X10_make_57 hk1 hk2 49 _ _ _ _ 0 (g_f (e_gi B4.1 rfl ?_))
      rw [← eX] at hq
      exact hq h4 f4 ⟨Nat.le_trans s83 f4.1, ⟨_, B4⟩, v4, c4, p4, k4.fr (q_fr.rf (S := fun _ => False)) (fun i a b q => q) rfl rfl rfl rfl, u4⟩
    have lift : ∀ {h4 : qH}, q_fr (oM h2.2) h' h4 → q_fr mS h1 h4 := fun f4 => f.tr f4 (fun i _ q => q) (fun i hi q => by unfold oM tM rS at q; unfold mS; omega)
    rw [show 52 - i = (52 - (i + 1)) + 1 by omega, extF] at e
    refine v_X10_make_57 (by omega) (by omega) 49 _ _ _ _ 1 (g_t (e_ob B'.1 (m_makeOne (by omega) (by omega) ha B' ok1 c' R' u' p' L9 n9 b' ⟨tb1, tb2⟩ t ?_ ?_ ?_)))
    · intro room
      rw [if_neg room] at e
      exact ⟨_, rfl, fin h' _ _ (by omega) (by omega) f B' v' c'.A u' p' k' e⟩
    · intro room h99 h4 f4 B4 v4 u4 p4 b4
      rw [if_pos room, if_pos h99] at e
      exact ⟨_, rfl, fin h4 _ _ (by omega) (by omega) (lift f4) B4 (v'.fr f4 (by unfold oM tM rS; omega)) v4.A u4 p4 (k'.fr f4 (fun i a b => by unfold oM tM rS; omega) rfl rfl rfl rfl) e⟩
    · intro room t9 p9 et ep ht hp ho h4 f4 B4 v4 u4 p4 b4
      have tn := ok1.tn
      rw [if_pos room, ← et, ← ep, if_neg (by omega)] at e
      have vo := vis_ok (e := T.2.1.t + n) ok1 R' L9 ht hp
      have v5 := v'.fr f4 (show ¬ oM h2.2 55 by unfold oM tM rS; omega)
      have k5 : MMk h4 A := k'.fr f4 (fun i a b => by unfold oM tM rS; omega) rfl rfl rfl rfl
      refine ⟨_, rfl, ?_⟩
      have cu := cnO_U ho 12
      rw [if_pos (by omega)] at cu
      have e1 : kc9 - 2 * i - 2 = kc9 - 2 * (i + 1) := by omega
      have e2 : ks9 - 8 * i - 8 = ks9 - 8 * (i + 1) := by omega
      rw [e1, e2]
      generalize visA A.W L' t9 p9 (T.2.1.t + n) P' D' = V at e B4 v4 p4 b4 vo
      by_cases b : V.1 = true
      · rw [if_pos b] at b4 e
        have n5 := vo.2.2.1 b
        have l1 : V.2.1.n ≤ 40 := by omega
        have l2 : (40 - V.2.1.n) + 2 * cnO out 12 + 2 * (i + 1) ≤ 64 := by omega
        exact ih ((out, _, _, _), h4) ⟨lift f4, B4, v5, v4, vo.2.1, u4, p4, vo.1, l1, b4, k5, l2, e⟩
      · rw [if_neg b] at b4 e
        have n5 := vo.2.2.2 (by cases q : V.1 with | false => rfl | true => exact absurd q b)
        have n6 : V.2.1.n = L'.n := by rw [n5]
        have l1 : V.2.1.n ≤ 40 := by omega
        have l2 : (40 - V.2.1.n) + 2 * cnO (outU out t9) 12 + 2 * (i + 1) ≤ 64 := by omega
        exact ih ((outU out t9, _, _, _), h4) ⟨lift f4, B4, v5, v4, vo.2.1, u4, p4, vo.1, l1, b4, k5, l2, e⟩
end MD9
