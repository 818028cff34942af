/-! places by their numbers; the rest of Ground -/
def px (p : Nat) : Int32 := nI (p % 24)
def py (p : Nat) : Int32 := nI (p / 24)
theorem inP_p {p : Nat} (hp : p < 576) : inP (px p) (py p) := inP_nI (by omega) (by omega)
theorem ix_p {p : Nat} (hp : p < 576) : ix (px p) (py p) = p := by
  unfold px py
  rw [ix_nI (by omega) (by omega)]
  omega
theorem p_ix {x y : Int32} (h : inP x y) : px (ix x y) = x ∧ py (ix x y) = y := by
  obtain ⟨a, b, ha, hb, rfl, rfl⟩ := inP_of h
  rw [ix_nI ha hb]
  unfold px py
  rw [show (24 * b + a) % 24 = a by omega, show (24 * b + a) / 24 = b by omega]
  exact ⟨rfl, rfl⟩
/-- the place beside p in the direction k: whether there is one, and which -/
def nP (p k : Nat) : Prop := inP (px p + q_dx k) (py p + q_dy k)
def nb (p k : Nat) : Nat := ix (px p + q_dx k) (py p + q_dy k)
theorem nb_lt {p k : Nat} (h : nP p k) : nb p k < 576 := ix_lt h
def i_fdiv (a b : Int32) : Int32 := if 0 ≤ (a ^^^ b) then a / b else if a / b * b = a then a / b else a / b - 1
def i_dist (ax ay bx by' : Int32) : Int32 := i_max (i_abs (bx - ax)) (i_abs (by' - ay))
def i_cmp (a b : Int32) : Int32 := if b ≤ a then (if a = b then 0 else 1) else -1
/-- the first of i .. i + n - 1 that has p; i + n if none has -/
def q_find (p : Nat → Prop) [DecidablePred p] : Nat → Nat → Nat
  | i, 0 => i
  | i, n + 1 => if p i then i else q_find p (i + 1) n
theorem q_find_le (p : Nat → Prop) [DecidablePred p] : ∀ (n i : Nat), q_find p i n ≤ i + n
  | 0, i => by simp [q_find]
  | n + 1, i => by
    unfold q_find
    split
    · omega
    · have := q_find_le p n (i + 1)
      omega
def sp_oct (sx sy : Int32) : Nat := q_find (fun k => q_dx k = sx ∧ q_dy k = sy) 0 8
section GR2
variable {l : Launch} {d mc ms : Nat} {Q : Option Value → qH → Prop} {QX : String → qH → Prop} {h : qH} {H R Z M : Nat → Int32} {s x y : Int32}
theorem s_placeOf_t (hp : inP x y) (hq : Q (some (.int (nI (ix x y)))) h) : q_Ct l (d + 1) mX1_placeOf [.int x, .int y] h mc ms Q QX := by
  refine v_X1_placeOf x y (s_isPlace_t hp ⟨_, rfl, fun q => absurd q z10, fun _ => ?_⟩)
  rw [ix_at hp]
  exact hq
theorem s_placeOf_f (hp : ¬ inP x y) (hq : Q (some (.int (-1))) h) : q_Ct l (d + 1) mX1_placeOf [.int x, .int y] h mc ms Q QX :=
  v_X1_placeOf x y (s_isPlace_f hp ⟨_, rfl, fun _ => hq, fun q => absurd rfl q⟩)
theorem r24 {p : Nat} (hp : p < 2 ^ 31) : nI p - nI p / (24 : Int32) * (24 : Int32) = px p := pk_rem hp (by decide) (by decide)
theorem d24 {p : Nat} (hp : p < 2 ^ 31) : nI p / (24 : Int32) = py p := pk_div hp (by decide) (by decide)
theorem s_neighbourOf_t {p k : Nat} (hp : p < 576) (hk : k < 8) (hn : nP p k) (hq : Q (some (.int (nI (nb p k)))) h) : q_Ct l (d + 1) mX1_neighbourOf [.int (nI p), .int (nI k)] h mc ms Q QX := by
  refine v_X1_neighbourOf (nI p) (nI k) ⟨fun q => absurd q (nI_pos (by omega)), fun _ => ⟨fun q => absurd q (nI_ge hp (by decide)), fun _ => ⟨fun q => absurd q (nI_pos (by omega)), fun _ => ⟨fun _ => ?_, fun q => absurd (nI_lt hk (by decide)) q⟩⟩⟩⟩
  refine e_sl rfl hk (e_sl rfl hk ?_)
  rw [r24 (by omega), d24 (by omega)]
  refine s_isPlace_t hn ⟨_, rfl, fun q => absurd q z10, fun _ => ?_⟩
  have e := ix_at hn
  show Q (some (.int ((py p + q_dy k) * 24 + (px p + q_dx k)))) h
  rw [e]
  exact hq
theorem s_neighbourOf_f {p k : Nat} (hp : p < 576) (hk : k < 8) (hn : ¬ nP p k) (hq : Q (some (.int (-1))) h) : q_Ct l (d + 1) mX1_neighbourOf [.int (nI p), .int (nI k)] h mc ms Q QX := by
  refine v_X1_neighbourOf (nI p) (nI k) ⟨fun q => absurd q (nI_pos (by omega)), fun _ => ⟨fun q => absurd q (nI_ge hp (by decide)), fun _ => ⟨fun q => absurd q (nI_pos (by omega)), fun _ => ⟨fun _ => ?_, fun q => absurd (nI_lt hk (by decide)) q⟩⟩⟩⟩
  refine e_sl rfl hk (e_sl rfl hk ?_)
  rw [r24 (by omega), d24 (by omega)]
  exact s_isPlace_f hn ⟨_, rfl, fun _ => hq, fun q => absurd rfl q⟩
theorem s_distance {ax ay bx by' : Int32} (hq : Q (some (.int (i_dist ax ay bx by'))) h) : q_Ct l (d + 1) mX1_distance [.int ax, .int ay, .int bx, .int by'] h mc ms Q QX := v_X1_distance ax ay bx by' hq
theorem s_compare {a b : Int32} (hq : Q (some (.int (i_cmp a b))) h) : q_Ct l d mJ6_compare_7cf53 [.int a, .int b] h mc ms Q QX := by
  refine v_J6_compare_7cf53 (d := d) a b ⟨fun c => ⟨fun e => ?_, fun e => ?_⟩, fun c => ?_⟩
  · rw [i_cmp, if_pos c, if_pos e] at hq; exact hq
  · rw [i_cmp, if_pos c, if_neg e] at hq; exact hq
  · rw [i_cmp, if_neg c] at hq; exact hq
theorem s_floorDiv {a b : Int32} (hb : ¬ b = 0) (hq : Q (some (.int (i_fdiv a b))) h) : q_Ct l d mJ9_floorDiv_7cf53 [.int a, .int b] h mc ms Q QX := by
  refine v_J9_floorDiv_7cf53 (d := d) a b ⟨hb, fun c => ?_, fun c => ⟨fun e => ?_, fun e => ?_⟩⟩
  · rw [i_fdiv, if_pos c] at hq; exact hq
  · rw [i_fdiv, if_neg c, if_pos e] at hq; exact hq
  · rw [i_fdiv, if_neg c, if_neg e] at hq; exact hq
theorem s_octantOf {ax ay bx by' : Int32} (hq : Q (some (.int (nI (sp_oct (i_cmp ax bx) (i_cmp ay by'))))) h) : q_Ct l (d + 1) mX1_octantOf [.int ax, .int ay, .int bx, .int by'] h mc ms Q QX := by
  refine v_X1_octantOf ax ay bx by' (s_compare ⟨_, rfl, s_compare ⟨_, rfl, ?_⟩⟩)
  generalize i_cmp ax bx = sx at hq ⊢
  generalize i_cmp ay by' = sy at hq ⊢
  refine q_loop (fun k h' => q_J l (d + 1) mX1_octantOf mc ms Q QX h.2 17 [some (.int ax), some (.int ay), some (.int bx), some (.int by'), some (.int sx), some (.int sy), some (.int (nI k))] [] h' mc ms) (fun k h' => h' = h ∧ sp_oct sx sy = q_find (fun k => q_dx k = sx ∧ q_dy k = sy) k (8 - k)) 8 ?_ ?_ 0 h (by omega) ⟨rfl, rfl⟩
  · rintro h' ⟨rfl, e⟩
    refine v_X1_octantOf_17 _ _ _ _ _ _ (nI 8) ⟨fun _ => ?_, fun q => absurd (Int32.le_refl _) q⟩
    rw [e] at hq
    exact hq
  · rintro k h' hk ⟨rfl, e⟩ ih
    refine v_X1_octantOf_17 _ _ _ _ _ _ (nI k) ⟨fun q => absurd q (nI_ge hk (by decide)), fun _ => ?_⟩
    have e2 : 8 - k = (8 - (k + 1)) + 1 := by omega
    rw [e2, q_find] at e
    refine e_sl rfl hk ⟨fun c1 => e_sl rfl hk ⟨fun c2 => ?_, fun c2 => ?_⟩, fun c1 => ?_⟩
    · rw [if_pos ⟨c1, c2⟩] at e
      rw [e] at hq
      exact hq
    · rw [if_neg (fun q => c2 q.2)] at e
      rw [nI_1]
      exact ih _ ⟨rfl, e⟩
    · rw [if_neg (fun q => c1 q.1)] at e
      rw [nI_1]
      exact ih _ ⟨rfl, e⟩
theorem s_minutesOf {p k : Nat} (hg : gnd h H R Z M s) (hp : p < 576) (hk : k < 8) (hq : Q (some (.int (M (8 * p + k)))) h) : q_Ct l d mX1_minutesOf [.ref 1, .int (nI p), .int (nI k)] h mc ms Q QX := by
  refine v_X1_minutesOf (d := d) 1 (nI p) (nI k) ⟨fun q => absurd q (nI_pos (by omega)), fun _ => ⟨fun q => absurd q (nI_ge hp (by decide)), fun _ => ⟨fun q => absurd q (nI_pos (by omega)), fun _ => ⟨fun _ => ?_, fun q => absurd (nI_lt hk (by decide)) q⟩⟩⟩⟩
  exact e_gr hg.1 rfl (e_al hg.2.2.2.2 (k := 8 * p + k) (by rw [show (8 : Int32) = nI 8 from rfl, pk_mul, nI_add, Nat.mul_comm]) (by omega) (by decide) hq)
theorem s_minutesOf_f {k : Int32} (hq : Q (some (.int (-1))) h) : q_Ct l d mX1_minutesOf [.ref 1, .int (-1), .int k] h mc ms Q QX :=
  v_X1_minutesOf (d := d) 1 (-1) k ⟨fun _ => hq, fun q => absurd (by decide) q⟩
theorem sp_can_p {p k : Nat} (hp : p < 576) (hc : sp_can H Z s (px p) (py p) k) : nP p k := hc.1
theorem sp_M_at {p k : Nat} (hk : k < 8) : sp_M H R Z s (8 * p + k) = sp_stp H R Z s (px p) (py p) k := by
  unfold sp_M px py
  rw [show (8 * p + k) / 8 = p by omega, show (8 * p + k) % 8 = k by omega]
/-- p + dy * 24 + dx, as the class reckons it -/
theorem nb_sum {p k : Nat} (hp : p < 576) (hn : nP p k) : nI p + q_dy k * (24 : Int32) + q_dx k = nI (nb p k) := by
  have e := ix_at hn
  have e0 := ix_at (inP_p hp)
  rw [ix_p hp] at e0
  show _ = nI (ix (px p + q_dx k) (py p + q_dy k))
  rw [← e, ← e0]
  grind
theorem s_energyOf {p k : Nat} (hg : gnd h H R Z (sp_M H R Z s) s) (hp : p < 576) (hk : k < 8) (hc : sp_can H Z s (px p) (py p) k) (hne : ¬ sp_min H R (px p) (py p) k = -1) (hq : Q (some (.int (4 * sp_min H R (px p) (py p) k + 2 * i_max 0 (H (nb p k) - H p)))) h) : q_Ct l (d + 1) mX1_energyOf [.ref 1, .int (nI p), .int (nI k)] h mc ms Q QX := by
  refine v_X1_energyOf 1 (nI p) (nI k) (e_ob hg.1 (s_minutesOf hg hp hk ⟨_, rfl, ?_⟩))
  rw [sp_M_at hk, sp_stp, if_pos hc]
  refine ⟨fun q => absurd q hne, fun _ => e_sl rfl hk (e_sl rfl hk ?_)⟩
  have hn := sp_can_p hp hc
  have hnl := nb_lt hn
  show qIF (nI p + q_dy k * (24 : Int32) + q_dx k < 0) _ _
  have e9 : nI p + q_sF 1 k * (24 : Int32) + q_sF 0 k = nI (nb p k) := nb_sum hp hn
  rw [show q_dy k = q_sF 1 k from rfl, show q_dx k = q_sF 0 k from rfl, e9]
  refine ⟨fun q => absurd q (nI_pos (by omega)), fun _ => ⟨fun _ => ?_, fun q => absurd (nI_lt hnl (by decide)) q⟩⟩
  refine e_gr hg.1 rfl (e_al hg.2.1 rfl hnl (by decide) (e_gr hg.1 rfl (e_al hg.2.1 rfl hp (by decide) ?_)))
  exact v_X1_energyOf_63 1 _ _ _ _ _ hq
end GR2
