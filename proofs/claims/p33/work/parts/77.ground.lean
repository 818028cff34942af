/-! THE LAW'S GROUND -/
theorem gF_uH {H R Z : Nat → Int32} {s v : Int32} {p : Nat} (hp : p < 576) : upd (gF H R Z s) p v = gF (upd H p v) R Z s := by
  funext j
  by_cases e : j = p
  · subst e; rw [pk_us, gF_H hp, pk_us]
  · rw [pk_un e]
    unfold gF
    by_cases c : j < 576
    · rw [if_pos c, if_pos c, pk_un e]
    · rw [if_neg c, if_neg c]
theorem gF_uR {H R Z : Nat → Int32} {s v : Int32} {p : Nat} (hp : p < 576) : upd (gF H R Z s) (576 + p) v = gF H (upd R p v) Z s := by
  funext j
  by_cases e : j = 576 + p
  · subst e; rw [pk_us, gF_R hp, pk_us]
  · rw [pk_un e]
    unfold gF
    by_cases c : j < 576
    · rw [if_pos c, if_pos c]
    · rw [if_neg c, if_neg c]
      by_cases c2 : j < 1152
      · rw [if_pos c2, if_pos c2, pk_un (by omega)]
      · rw [if_neg c2, if_neg c2]
theorem gF_uZ {H R Z : Nat → Int32} {s v : Int32} {p : Nat} (hp : p < 576) (hv : v = 0 ∨ v = 1) : upd (gF H R Z s) (1152 + p) v = gF H R (upd Z p v) s := by
  have ez : zb v = v := by rcases hv with rfl | rfl <;> decide
  funext j
  by_cases e : j = 1152 + p
  · subst e; rw [pk_us, gF_Z hp, pk_us, ez]
  · rw [pk_un e]
    unfold gF
    by_cases c : j < 576
    · rw [if_pos c, if_pos c]
    · rw [if_neg c, if_neg c]
      by_cases c2 : j < 1152
      · rw [if_pos c2, if_pos c2]
      · rw [if_neg c2, if_neg c2]
        by_cases c3 : j < 1728
        · rw [if_pos c3, if_pos c3, pk_un (by omega)]
        · rw [if_neg c3, if_neg c3]
theorem gF_us {H R Z : Nat → Int32} {s v : Int32} : ∀ j, j < 1729 → upd (gF H R Z s) 1728 v j = gF H R Z v j := fun j hj => by
  by_cases e : j = 1728
  · subst e; rw [pk_us, gF_s]
  · rw [pk_un e]
    unfold gF
    by_cases c : j < 576
    · rw [if_pos c, if_pos c]
    · rw [if_neg c, if_neg c]
      by_cases c2 : j < 1152
      · rw [if_pos c2, if_pos c2]
      · rw [if_neg c2, if_neg c2, if_pos (by omega), if_pos (by omega)]
def WG (H R Z : Nat → Int32) (s : Int32) : WS := WS.mk H R Z s 0 (fun _ => 0) (fun _ => 0) (fun _ => 0) (fun _ => 0) 0 (fun _ => 0) (fun _ => 0) (fun _ => 0) 4000 800
def AG (H R Z : Nat → Int32) (s : Int32) : ST := A0.uW (WG H R Z s)
theorem mn23 {a b : Nat} (ha : a < 24) (hb : b < 24) : (if nI a + nI b < 23 then nI a + nI b else 23) = nI (min (a + b) 23) := by
  rw [nI_add]
  by_cases q : a + b < 23
  · rw [if_pos (show nI (a + b) < 23 from nI_lt (b := 23) q (by decide)), Nat.min_eq_left (by omega)]
  · rw [if_neg (show ¬ nI (a + b) < 23 from nI_nlt (b := 23) (by omega) (by omega)), Nat.min_eq_right (by omega)]; rfl
def mxB (H : Nat → Int32) (a0 a1 b0 b1 : Nat) (w : Int32) (a b : Nat) (m : Int32) : Prop := (∀ p, p < 576 → dn a0 a1 b0 b1 a b p → H p + w ≤ m) ∧ (m = -999 ∨ ∃ p, p < 576 ∧ dn a0 a1 b0 b1 a b p ∧ H p + w = m)
theorem mxB_step {H : Nat → Int32} {a0 a1 b0 b1 a b : Nat} {w m : Int32} (ha0 : a0 ≤ a) (ha : a ≤ a1) (hb0 : b0 ≤ b) (hb : b ≤ b1) (ha1 : a1 < 24) (hb1 : b1 < 24) (hm : mxB H a0 a1 b0 b1 w a b m) : mxB H a0 a1 b0 b1 w (a + 1) b (if m < H (24 * b + a) + w then H (24 * b + a) + w else m) := by
  obtain ⟨h2, h3⟩ := hm
  by_cases c : m < H (24 * b + a) + w
  · rw [if_pos c]
    refine ⟨fun p hp hd => ?_, Or.inr ⟨_, by omega, (dn_step ha0 ha hb0 hb ha1).mpr (Or.inr rfl), rfl⟩⟩
    rcases (dn_step ha0 ha hb0 hb ha1).mp hd with hd | rfl
    · exact Int32.le_trans (h2 p hp hd) (Int32.le_of_lt c)
    · exact Int32.le_refl _
  · rw [if_neg c]
    refine ⟨fun p hp hd => ?_, h3.elim Or.inl (fun ⟨p, q1, q2, q3⟩ => Or.inr ⟨p, q1, (dn_step ha0 ha hb0 hb ha1).mpr (Or.inl q2), q3⟩)⟩
    rcases (dn_step ha0 ha hb0 hb ha1).mp hd with hd | rfl
    · exact h2 p hp hd
    · exact Int32.not_lt.mp c
theorem M_999 : (-999 : Int32).toInt = -999 := by decide +kernel
section GR
variable {l : Launch} {d mc ms : Nat} {Q : Option Value → qH → Prop} {QX : String → qH → Prop} {h : qH} {H R Z : Nat → Int32} {s : Int32}
theorem g_raise {a0 a1 b0 b1 n0 kc ks : Nat} {w x2 x4 x5 : Int32} (hl0 : l.stackTraces = false) (hkc : 1 ≤ kc) (hks : 6 ≤ ks) (c : CS h 49 (AG H R Z s)) (ok : aOk (AG H R Z s)) (g : GV h 56 H R Z s) (hw : sp_ok H a0 a1 b0 b1 w) (ha : a0 ≤ a1) (ha1 : a1 < 24) (hb : b0 ≤ b1) (hb1 : b1 < 24)
    (hq : ∀ h', q_fr (fun i => i < 49 ∨ i = 56) h h' → CS h' 49 (AG (sp_up H a0 a1 b0 b1 w) R Z s) → GV h' 56 (sp_up H a0 a1 b0 b1 w) R Z s → q_J l (d + 7) mL_ground mc ms Q QX n0 16 [some (.ref 0), some (.float 4), some (.int x2), some (.ref 56), some (.int (x4 + 1)), none, none, none, none, none, none, none, none, none] [] h' (kc - 1) (ks - 6)) :
    q_J l (d + 7) mL_ground mc ms Q QX n0 134 [some (.ref 0), some (.float 4), some (.int x2), some (.ref 56), some (.int x4), some (.int x5), some (.int (nI a0)), some (.int (nI a1)), some (.int (nI b0)), some (.int (nI b1)), some (.int w), some (.int (-999)), some (.int (nI b0)), none] [] h kc ks := by
  have hH := ok.1.g.1
  change hOk H at hH
  have inner : ∀ b, b0 ≤ b → b ≤ b1 → (∀ (t : Int32 × qH), (q_fr (fun j => j = 56) h t.2 ∧ GV t.2 56 (up_at H a0 a1 b0 b1 w a0 (b + 1)) R Z s ∧ mxB H a0 a1 b0 b1 w a0 (b + 1) t.1) → q_J l (d + 7) mL_ground mc ms Q QX n0 134 [some (.ref 0), some (.float 4), some (.int x2), some (.ref 56), some (.int x4), some (.int x5), some (.int (nI a0)), some (.int (nI a1)), some (.int (nI b0)), some (.int (nI b1)), some (.int w), some (.int t.1), some (.int (nI (b + 1))), none] [] t.2 kc ks) →
      ∀ (a : Nat) (t : Int32 × qH), a ≤ a1 + 1 → (a0 ≤ a ∧ q_fr (fun j => j = 56) h t.2 ∧ GV t.2 56 (up_at H a0 a1 b0 b1 w a b) R Z s ∧ mxB H a0 a1 b0 b1 w a b t.1) → q_J l (d + 7) mL_ground mc ms Q QX n0 145 [some (.ref 0), some (.float 4), some (.int x2), some (.ref 56), some (.int x4), some (.int x5), some (.int (nI a0)), some (.int (nI a1)), some (.int (nI b0)), some (.int (nI b1)), some (.int w), some (.int t.1), some (.int (nI b)), some (.int (nI a))] [] t.2 kc ks := by
    intro b hb2 hb3 hout
    refine q_loop (fun (a : Nat) (t : Int32 × qH) => q_J l (d + 7) mL_ground mc ms Q QX n0 145 [some (.ref 0), some (.float 4), some (.int x2), some (.ref 56), some (.int x4), some (.int x5), some (.int (nI a0)), some (.int (nI a1)), some (.int (nI b0)), some (.int (nI b1)), some (.int w), some (.int t.1), some (.int (nI b)), some (.int (nI a))] [] t.2 kc ks) (fun a t => a0 ≤ a ∧ q_fr (fun j => j = 56) h t.2 ∧ GV t.2 56 (up_at H a0 a1 b0 b1 w a b) R Z s ∧ mxB H a0 a1 b0 b1 w a b t.1) (a1 + 1) ?_ ?_
    · rintro ⟨m, h'⟩ ⟨-, f1, g1, m1⟩
      refine v_L_ground_145 0 x2 56 x4 x5 _ _ _ _ w m (nI b) (nI (a1 + 1)) ⟨fun _ => ?_, fun q => absurd (nI_lt (by omega) (by omega)) q⟩
      rw [nI_1]
      rw [up_row (by omega)] at g1
      exact hout (m, h') ⟨f1, g1, fun p hp hd => m1.1 p hp ((dn_row (by omega)).mpr hd), m1.2.elim Or.inl (fun ⟨p, q1, q2, q3⟩ => Or.inr ⟨p, q1, (dn_row (by omega)).mp q2, q3⟩)⟩
    · rintro a ⟨m, h'⟩ ha2 ⟨ha3, f1, g1, m1⟩ ih
      have hin : inP (nI a) (nI b) := inP_nI (by omega) (by omega)
      have hx : ix (nI a) (nI b) = 24 * b + a := ix_nI (by omega) (by omega)
      have hat := ix_at' hin
      rw [hx] at hat
      have hp : 24 * b + a < 576 := by omega
      refine v_L_ground_145 0 x2 56 x4 x5 _ _ _ _ w m (nI b) (nI a) ⟨fun q => absurd q (nI_nlt (by omega) (by omega)), fun _ => ?_⟩
      refine e_al g1 hat (by omega) (by decide) (e_as g1 hat (by omega) (by decide) (fun h1 fr1 sz1 ar1 => ?_))
      rw [gF_H hp, gF_uH hp, up_step ha3 (by omega) hb2 hb3 ha1] at ar1
      refine e_al ar1 hat (by omega) (by decide) ?_
      have hv : up_at H a0 a1 b0 b1 w (a + 1) b (24 * b + a) = H (24 * b + a) + w := by
        have h2 := (dn_step (p := 24 * b + a) ha3 (show a ≤ a1 by omega) hb2 hb3 ha1).mpr (Or.inr rfl)
        simp [up_at, h2]
      rw [gF_H hp, hv, nI_1]
      exact ih (_, h1) ⟨by omega, f1.tr fr1 (fun _ _ q => q) (fun _ _ q => q), ar1, mxB_step ha3 (by omega) hb2 hb3 ha1 hb1 m1⟩
  refine q_loop (fun (b : Nat) (t : Int32 × qH) => q_J l (d + 7) mL_ground mc ms Q QX n0 134 [some (.ref 0), some (.float 4), some (.int x2), some (.ref 56), some (.int x4), some (.int x5), some (.int (nI a0)), some (.int (nI a1)), some (.int (nI b0)), some (.int (nI b1)), some (.int w), some (.int t.1), some (.int (nI b)), none] [] t.2 kc ks) (fun b t => b0 ≤ b ∧ q_fr (fun j => j = 56) h t.2 ∧ GV t.2 56 (up_at H a0 a1 b0 b1 w a0 b) R Z s ∧ mxB H a0 a1 b0 b1 w a0 b t.1) (b1 + 1) ?_ ?_ b0 (-999, h) (by omega) ⟨Nat.le_refl _, q_fr.rf, by rw [up_0]; exact g, fun p hp hd => absurd hd dn_0, Or.inl rfl⟩
  · rintro ⟨m, h'⟩ ⟨-, f1, g1, m1⟩
    rw [up_all (by omega)] at g1
    have mx : isMx (sp_up H a0 a1 b0 b1 w) a0 a1 b0 b1 m := by
      obtain ⟨m3, m4⟩ := m1
      have hup : ∀ p, inR a0 a1 b0 b1 p → sp_up H a0 a1 b0 b1 w p = H p + w := fun p hp => by simp [sp_up, hp]
      refine ⟨fun p hp hc => by rw [hup p hc]; exact m3 p hp ((dn_all (by omega)).mpr hc), ?_⟩
      rcases m4 with rfl | ⟨p, q1, q2, q3⟩
      · have c0 : inR a0 a1 b0 b1 (24 * b0 + a0) := by unfold inR; omega
        have h5 := m3 (24 * b0 + a0) (by omega) ((dn_all (by omega)).mpr c0)
        have h6 := hw (24 * b0 + a0) (by omega) c0
        have h7 := hH (24 * b0 + a0) (by omega)
        have h8 : (H (24 * b0 + a0) + w).toInt = (H (24 * b0 + a0)).toInt + w.toInt := fb_addI (by omega) (by omega)
        rw [le_i, h8, M_999] at h5
        omega
      · exact ⟨p, q1, (dn_all (by omega)).mp q2, by rw [hup p ((dn_all (by omega)).mp q2)]; exact q3⟩
    have c1 := CS_law c f1 (fun i q => by omega)
    refine v_L_ground_134 hkc hks 0 x2 56 x4 x5 _ _ _ _ w m (nI (b1 + 1)) ⟨fun _ => e_ob c1.o (c_raise (d := d) hl0 (by decide) (by decide) (by decide) c1 ok ?_), fun q => absurd (nI_lt (by omega) (by omega)) q⟩
    have er : R_raise (AG H R Z s) (nI a0) (nI a1) (nI b0) (nI b1) w = (0, m, AG (sp_up H a0 a1 b0 b1 w) R Z s) := by
      unfold R_raise
      rw [nI_clamp (by omega), nI_clamp (by omega), nI_clamp (by omega), nI_clamp (by omega), pif_t ⟨⟨by rw [nI_toInt (by omega)]; omega, by rw [nI_toInt (by omega), nI_toInt (by omega)]; omega, by rw [nI_toInt (by omega)]; omega, by rw [nI_toInt (by omega)]; omega, by rw [nI_toInt (by omega), nI_toInt (by omega)]; omega, by rw [nI_toInt (by omega)]; omega⟩, hw⟩]
      show (0, mxA (sp_up H a0 a1 b0 b1 w) a0 a1 b0 b1, _) = _
      rw [mxA_is mx]
      rfl
    rw [er]
    exact rs_i (fun h2 f2 c2 => ⟨fun _ => hq h2 (f1.tr f2 (fun i _ q => Or.inr q) (fun i _ q => Or.inl q)) c2 (ar.fr g1 f2 (fun q => by unfold clS at q; omega)), fun q => absurd rfl q⟩)
  · rintro b ⟨m, h'⟩ hb2 ⟨hb3, f1, g1, m1⟩ ih
    refine v_L_ground_134 hkc hks 0 x2 56 x4 x5 _ _ _ _ w m (nI b) ⟨fun q => absurd q (nI_nlt (by omega) (by omega)), fun _ => ?_⟩
    exact inner b hb3 (by omega) (fun t hI => ih t ⟨by omega, hI⟩) a0 (m, h') (by omega) ⟨Nat.le_refl _, f1, g1, m1⟩
theorem set_at_1 {H : Nat → Int32} {a0 a1 b0 b1 a b : Nat} {w : Int32} (ha0 : a0 ≤ a) (ha : a ≤ a1) (hb0 : b0 ≤ b) (hb : b ≤ b1) (ha1 : a1 < 24) : upd (set_at H a0 a1 b0 b1 w a b) (24 * b + a) w = set_at H a0 a1 b0 b1 w (a + 1) b := set_step ha0 ha hb0 hb ha1
theorem g_pave {a0 a1 b0 b1 n0 kc ks : Nat} {z x2 x4 x5 : Int32} {r : Nat} (hl0 : l.stackTraces = false) (hkc : 1 ≤ kc) (hks : 6 ≤ ks) (c : CS h 49 (AG H R Z s)) (ok : aOk (AG H R Z s)) (g : GV h 56 H R Z s) (hr : r < 4) (hz : z = 0 ∨ z = 1) (ha : a0 ≤ a1) (ha1 : a1 < 24) (hb : b0 ≤ b1) (hb1 : b1 < 24)
    (hq : ∀ h', q_fr (fun i => i < 49 ∨ i = 56) h h' → CS h' 49 (AG H (sp_set R a0 a1 b0 b1 (nI r)) (sp_set Z a0 a1 b0 b1 z) s) → GV h' 56 H (sp_set R a0 a1 b0 b1 (nI r)) (sp_set Z a0 a1 b0 b1 z) s → q_J l (d + 7) mL_ground mc ms Q QX n0 16 [some (.ref 0), some (.float 4), some (.int x2), some (.ref 56), some (.int (x4 + 1)), none, none, none, none, none, none, none, none, none] [] h' (kc - 1) (ks - 6)) :
    q_J l (d + 7) mL_ground mc ms Q QX n0 253 [some (.ref 0), some (.float 4), some (.int x2), some (.ref 56), some (.int x4), some (.int x5), some (.int (nI a0)), some (.int (nI a1)), some (.int (nI b0)), some (.int (nI b1)), some (.int (nI r)), some (.int z), some (.int (nI b0)), none] [] h kc ks := by
  have inner : ∀ b, b0 ≤ b → b ≤ b1 → (∀ (h1 : qH), (q_fr (fun j => j = 56) h h1 ∧ GV h1 56 H (set_at R a0 a1 b0 b1 (nI r) a0 (b + 1)) (set_at Z a0 a1 b0 b1 z a0 (b + 1)) s) → q_J l (d + 7) mL_ground mc ms Q QX n0 253 [some (.ref 0), some (.float 4), some (.int x2), some (.ref 56), some (.int x4), some (.int x5), some (.int (nI a0)), some (.int (nI a1)), some (.int (nI b0)), some (.int (nI b1)), some (.int (nI r)), some (.int z), some (.int (nI (b + 1))), none] [] h1 kc ks) →
      ∀ (a : Nat) (h1 : qH), a ≤ a1 + 1 → (a0 ≤ a ∧ q_fr (fun j => j = 56) h h1 ∧ GV h1 56 H (set_at R a0 a1 b0 b1 (nI r) a b) (set_at Z a0 a1 b0 b1 z a b) s) → q_J l (d + 7) mL_ground mc ms Q QX n0 264 [some (.ref 0), some (.float 4), some (.int x2), some (.ref 56), some (.int x4), some (.int x5), some (.int (nI a0)), some (.int (nI a1)), some (.int (nI b0)), some (.int (nI b1)), some (.int (nI r)), some (.int z), some (.int (nI b)), some (.int (nI a))] [] h1 kc ks := by
    intro b hb2 hb3 hout
    refine q_loop (fun (a : Nat) (h1 : qH) => q_J l (d + 7) mL_ground mc ms Q QX n0 264 [some (.ref 0), some (.float 4), some (.int x2), some (.ref 56), some (.int x4), some (.int x5), some (.int (nI a0)), some (.int (nI a1)), some (.int (nI b0)), some (.int (nI b1)), some (.int (nI r)), some (.int z), some (.int (nI b)), some (.int (nI a))] [] h1 kc ks) (fun a h1 => a0 ≤ a ∧ q_fr (fun j => j = 56) h h1 ∧ GV h1 56 H (set_at R a0 a1 b0 b1 (nI r) a b) (set_at Z a0 a1 b0 b1 z a b) s) (a1 + 1) ?_ ?_
    · rintro h' ⟨-, f1, g1⟩
      refine v_L_ground_264 0 x2 56 x4 x5 _ _ _ _ (nI r) z (nI b) (nI (a1 + 1)) ⟨fun _ => ?_, fun q => absurd (nI_lt (by omega) (by omega)) q⟩
      rw [nI_1]
      rw [set_row (H := R) (by omega), set_row (H := Z) (by omega)] at g1
      exact hout h' ⟨f1, g1⟩
    · rintro a h' ha2 ⟨ha3, f1, g1⟩ ih
      have hin : inP (nI a) (nI b) := inP_nI (by omega) (by omega)
      have hx : ix (nI a) (nI b) = 24 * b + a := ix_nI (by omega) (by omega)
      have hR := ix_R hin
      have hZ := ix_Z hin
      rw [hx] at hR hZ
      have hp : 24 * b + a < 576 := by omega
      refine v_L_ground_264 0 x2 56 x4 x5 _ _ _ _ (nI r) z (nI b) (nI a) ⟨fun q => absurd q (nI_nlt (by omega) (by omega)), fun _ => ?_⟩
      refine e_as g1 hR (by omega) (by decide) (fun h1 fr1 sz1 ar1 => ?_)
      rw [gF_uR hp, set_step ha3 (by omega) hb2 hb3 ha1] at ar1
      refine ⟨fun q => ?_, fun q => ?_⟩
      · refine e_as ar1 hZ (by omega) (by decide) (fun h2 fr2 sz2 ar2 => ?_)
        subst q
        rw [gF_uZ hp (Or.inl rfl), set_step ha3 (by omega) hb2 hb3 ha1] at ar2
        rw [nI_1]
        exact ih h2 ⟨by omega, (f1.tt fr1).tt fr2, ar2⟩
      · refine e_as ar1 hZ (by omega) (by decide) (fun h2 fr2 sz2 ar2 => ?_)
        have e1 : z = 1 := hz.resolve_left q
        subst e1
        rw [gF_uZ hp (Or.inr rfl), set_step ha3 (by omega) hb2 hb3 ha1] at ar2
        rw [nI_1]
        exact ih h2 ⟨by omega, (f1.tt fr1).tt fr2, ar2⟩
  refine q_loop (fun (b : Nat) (h1 : qH) => q_J l (d + 7) mL_ground mc ms Q QX n0 253 [some (.ref 0), some (.float 4), some (.int x2), some (.ref 56), some (.int x4), some (.int x5), some (.int (nI a0)), some (.int (nI a1)), some (.int (nI b0)), some (.int (nI b1)), some (.int (nI r)), some (.int z), some (.int (nI b)), none] [] h1 kc ks) (fun b h1 => b0 ≤ b ∧ q_fr (fun j => j = 56) h h1 ∧ GV h1 56 H (set_at R a0 a1 b0 b1 (nI r) a0 b) (set_at Z a0 a1 b0 b1 z a0 b) s) (b1 + 1) ?_ ?_ b0 h (by omega) ⟨Nat.le_refl _, q_fr.rf, by rw [set_0, set_0]; exact g⟩
  · rintro h' ⟨-, f1, g1⟩
    rw [set_all (H := R) (by omega), set_all (H := Z) (by omega)] at g1
    have c1 := CS_law c f1 (fun i q => by omega)
    refine v_L_ground_253 hkc hks 0 x2 56 x4 x5 _ _ _ _ (nI r) z (nI (b1 + 1)) ⟨fun _ => e_ob c1.o (c_pave (d := d) hl0 (by decide) (by decide) (by decide) c1 ok hz ?_), fun q => absurd (nI_lt (by omega) (by omega)) q⟩
    have er : R_pave (AG H R Z s) (nI a0) (nI a1) (nI b0) (nI b1) (nI r) z = (0, (nI a1 - nI a0 + 1) * (nI b1 - nI b0 + 1), AG H (sp_set R a0 a1 b0 b1 (nI r)) (sp_set Z a0 a1 b0 b1 z) s) := by
      unfold R_pave
      rw [nI_clamp (by omega), nI_clamp (by omega), nI_clamp (by omega), nI_clamp (by omega), pif_t ⟨⟨by rw [nI_toInt (by omega)]; omega, by rw [nI_toInt (by omega), nI_toInt (by omega)]; omega, by rw [nI_toInt (by omega)]; omega, by rw [nI_toInt (by omega)]; omega, by rw [nI_toInt (by omega), nI_toInt (by omega)]; omega, by rw [nI_toInt (by omega)]; omega⟩, isW_nI (by omega) (by decide)⟩]
      rfl
    rw [er]
    exact rs_i (fun h2 f2 c2 => ⟨fun _ => hq h2 (f1.tr f2 (fun i _ q => Or.inr q) (fun i _ q => Or.inl q)) c2 (ar.fr g1 f2 (fun q => by unfold clS at q; omega)), fun q => absurd rfl q⟩)
  · rintro b h' hb2 ⟨hb3, f1, g1⟩ ih
    refine v_L_ground_253 hkc hks 0 x2 56 x4 x5 _ _ _ _ (nI r) z (nI b) ⟨fun q => absurd q (nI_nlt (by omega) (by omega)), fun _ => ?_⟩
    exact inner b hb3 (by omega) (fun t hI => ih t ⟨by omega, hI⟩) a0 h' (by omega) ⟨Nat.le_refl _, f1, g1⟩
end GR
