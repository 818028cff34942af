/-! new int[n][k]: the outer row at h.2, the inner ones behind it; a nest mate's static method -/
def q_pushM (h : qH) (N K : Nat) : qH := (fun j => if j = h.2 then .inl (4, (N, .inr (.inr (.inr (.inr (fun i => if i < N then some (h.2 + 1 + i) else none)))))) else if h.2 < j ∧ j ≤ h.2 + N then .inl (0, (K, .inl (fun _ => 0))) else h.1 j, h.2 + 1 + N)
def q_upM (ad : Nat → Nat) (n N q : Nat) (r : Nat → Nat) : Nat → Nat := fun j => if j = n then q else if n < j ∧ j ≤ n + N then r (j - (n + 1)) else ad j
theorem q_wsM {g : qG} {ad : Nat → Nat} {h : qH} (hw : q_wh h) (q N K : Nat) (r : Nat → Nat) : (q_ws g ad h ++ [(q, .inl (g.2.1 4, N, .inr (.inr (.inr (.inr (fun i => if i < N then some (r i) else none))))))]) ++ va_pl ((List.range N).map r) (fun _ => .inl (g.2.1 0, (K, .inl (fun _ => 0)))) = q_ws g (q_upM ad h.2 N q r) (q_pushM h N K) := by
  have ag : q_ag h.2 ad (q_upM ad h.2 N q r) := fun i hi => by
    unfold q_upM
    rw [if_neg (by omega), if_neg (by omega)]
  have e : (List.range h.2).map (fun i => (q_upM ad h.2 N q r i, q_tc g (q_upM ad h.2 N q r) ((q_pushM h N K).1 i))) = q_ws g ad h := by
    apply List.map_congr_left
    intro i hi
    have hi : i < h.2 := List.mem_range.mp hi
    have h1 : (q_pushM h N K).1 i = h.1 i := by
      show (if i = h.2 then _ else if h.2 < i ∧ i ≤ h.2 + N then _ else h.1 i) = _
      rw [if_neg (by omega), if_neg (by omega)]
    rw [h1, q_tc_ag ag (hw i hi), ag i hi]
  have en : q_upM ad h.2 N q r h.2 = q := if_pos rfl
  have ei : ∀ i, i < N → q_upM ad h.2 N q r (h.2 + 1 + i) = r i := fun i hi => by
    unfold q_upM
    rw [if_neg (by omega), if_pos (by omega)]
    congr 1
    omega
  have cn : q_tc g (q_upM ad h.2 N q r) ((q_pushM h N K).1 h.2) = .inl (g.2.1 4, N, .inr (.inr (.inr (.inr (fun i => if i < N then some (r i) else none))))) := by
    have h1 : (q_pushM h N K).1 h.2 = .inl (4, (N, .inr (.inr (.inr (.inr (fun i => if i < N then some (h.2 + 1 + i) else none)))))) := if_pos rfl
    rw [h1]
    show Sum.inl (_, (N, Sum.inr (Sum.inr (Sum.inr (Sum.inr _))))) = Sum.inl (_, (N, Sum.inr (Sum.inr (Sum.inr (Sum.inr _)))))
    congr 7
    funext i
    show Option.map (q_upM ad h.2 N q r) (if i < N then some (h.2 + 1 + i) else none) = (if i < N then some (r i) else none)
    by_cases hi : i < N
    · rw [if_pos hi, if_pos hi, Option.map_some, ei i hi]
    · rw [if_neg hi, if_neg hi]; rfl
  have ci : ∀ i, i < N → q_tc g (q_upM ad h.2 N q r) ((q_pushM h N K).1 (h.2 + 1 + i)) = .inl (g.2.1 0, (K, .inl (fun _ => 0))) := fun i hi => by
    have h1 : (q_pushM h N K).1 (h.2 + 1 + i) = .inl (0, (K, .inl (fun _ => 0))) := by
      show (if h.2 + 1 + i = h.2 then _ else if h.2 < h.2 + 1 + i ∧ h.2 + 1 + i ≤ h.2 + N then _ else _) = _
      rw [if_neg (by omega), if_pos (by omega)]
    rw [h1]; rfl
  show _ = (List.range (h.2 + 1 + N)).map _
  rw [List.range_add, List.map_append, List.range_succ (n := h.2), List.map_append, e, List.map_map]
  congr 1
  · rw [List.map_cons, List.map_nil, en, cn]
  · unfold va_pl
    rw [List.map_map]
    apply List.map_congr_left
    intro i hi
    have hi : i < N := List.mem_range.mp hi
    show (r i, _) = (q_upM ad h.2 N q r (h.2 + 1 + i), q_tc g (q_upM ad h.2 N q r) ((q_pushM h N K).1 (h.2 + 1 + i)))
    rw [ei i hi, ci i hi]
section QR8
variable {l : Launch} {d : Nat} {Y : qM} {mc ms : Nat} {Q : Option Value → qH → Prop} {QX : String → qH → Prop} {n0 pc : Nat} {lo : List (Option Value)} {st : List Value} {h : qH} {kc ks : Nat}
theorem j_mna {N K idx : Nat} {y z : Int32} (hl : Cond.classLink Y.1.cls idx "[[I" ∈ q_W) (ha : Cond.arrayClass .int ∈ q_W) (hd : decode Y.2.1 pc = .ok (.multianewarray idx 2, 4)) (hy : ¬ y < 0) (hN : y.toNatClampNeg = N) (hNb : N ≤ 1000) (hz : ¬ z < 0) (hK : z.toNatClampNeg = K) (hb : K ≤ 1000) {kc' ks' : Nat} (hk1 : kc' + (1 + N) ≤ kc) (hk2 : ks' + (N + N * K) ≤ ks)
    (k : q_J l d Y mc ms Q QX n0 (pc + 4) lo (.ref h.2 :: st) (q_pushM h N K) kc' ks') : q_J l d Y mc ms Q QX n0 pc lo (.int z :: .int y :: st) h kc ks := by
  intro p e s m args below meth c H locs cells slots ls g ad0 ad C0 S h1 h2
  obtain ⟨s1, s2, s3, s4, s5, s6, s7, s8, s9⟩ := id S
  obtain ⟨c1, c2, c3, c4, c5, c6, c7, c8, c9, c10, c11, c12⟩ := id C0
  have f0 : s.vm.findClass (FieldType.array .int).toString = some (g.2.1 0) := (c10.2 0 (g.2.1 0, .int) rfl).2
  have hP0 : va_P g.1 q_cls (q_ws g ad h ++ va_pl [] (fun _ => .inl (g.2.1 0, (K, .inl (fun _ => 0))))) H := by
    rw [show va_pl [] _ = [] from rfl, List.append_nil]; exact s1
  have hD0 : va_D (q_A g) (q_ws g ad h ++ va_pl [] (fun _ => .inl (g.2.1 0, (K, .inl (fun _ => 0))))) := by
    rw [show va_pl [] _ = [] from rfl, List.append_nil]; exact s2
  refine va_mna (D := g.1) (cl := q_cls) (tys := q_ty g) (A := q_A g) (H0 := s.heap) (ty := .int) (z := (K, .inl (fun _ => 0))) (N' := N) (K' := K) c1 c2 c5 (c8 _ hl) c11.2.2.2.2.2.2.1 (c8 _ ha) f0 c10 hP0 hD0 s4 (fun q hq => Nat.le_trans c12 hq) hy hz hN hK (show N * 4 ≤ 536870912 by omega) (show K * 4 ≤ 536870912 by omega) (by omega) rfl rfl (show cells + (1 + N) ≤ mc by omega) (show slots + (N + N * K) ≤ ms by omega) (fun c => ?_) hd (fun q r cA H1 hr1 hr2 hK2 hP hD hS => ?_)
  · show ({ cls := c, slots := Array.replicate K _, vm := .none } : Cell) = _
    rw [arrV_new]; rfl
  have hcA : cA = g.2.1 4 := by
    have e1 := (hK2.2 5 (cA, .array .int) rfl).2
    have e2 := (hK2.2 4 (g.2.1 4, .array .int) rfl).2
    exact Option.some.inj (e1.symm.trans e2)
  subst hcA
  have eu : ∀ a, vr_up (fun _ => (Sum.inl (g.2.1 0, (K, .inl (fun _ => 0))) : va_E)) ((List.range N).map r) (Sum.inl (g.2.1 0, (K, .inl (fun _ => 0))) : va_E) a = (Sum.inl (g.2.1 0, (K, .inl (fun _ => 0))) : va_E) := fun a => by
    unfold vr_up; split <;> rfl
  rw [List.nil_append, funext eu, q_wsM s3] at hP hD
  have ag : q_ag h.2 ad (q_upM ad h.2 N q r) := fun i hi => by
    unfold q_upM
    rw [if_neg (by omega), if_neg (by omega)]
  have en : q_upM ad h.2 N q r h.2 = q := if_pos rfl
  have st7 : ∀ v ∈ st, q_wv h.2 v := q_tl (q_tl s7)
  have hle : h.2 ≤ h.2 + 1 + N := by omega
  have hwh : q_wh (q_pushM h N K) := by
    intro j hj
    have hj : j < h.2 + 1 + N := hj
    show q_wc (h.2 + 1 + N) (if j = h.2 then _ else if h.2 < j ∧ j ≤ h.2 + N then _ else h.1 j)
    by_cases e1 : j = h.2
    · rw [if_pos e1]
      intro k i hk
      replace hk : (if k < N then some (h.2 + 1 + k) else none) = some i := hk
      by_cases hk8 : k < N
      · rw [if_pos hk8] at hk
        cases hk
        omega
      · rw [if_neg hk8] at hk
        cases hk
    · rw [if_neg e1]
      by_cases e2 : h.2 < j ∧ j ≤ h.2 + N
      · rw [if_pos e2]; trivial
      · rw [if_neg e2]
        exact q_wc_mono (s3 j (by omega)) (by omega)
  have h9 := k p e s m args below meth c H1 locs (cells + (1 + N)) (slots + (N + N * K)) ls g ad0 (q_upM ad h.2 N q r) C0
    ⟨hP, hD, hwh, hS, ⟨s5.1, s5.2.1, fun i w hi => by rw [q_tv_ag ag (s6 w (List.mem_of_getElem? hi))]; exact s5.2.2 i w hi⟩, fun w hw => q_wv_mono (s6 w hw) hle, q_cn (q_wr (show h.2 < h.2 + 1 + N by omega)) (fun w hw => q_wv_mono (st7 w hw) hle), q_ag_tr s8 ag s9, Nat.le_trans s9 hle⟩ (by omega) (by omega)
  rw [List.map_cons, q_tvs_ag ag st7, show q_tv g (q_upM ad h.2 N q r) (.ref h.2) = .ref q from congrArg Value.ref en] at h9
  rw [show cells + 1 + N = cells + (1 + N) by omega, show slots + N + N * K = slots + (N + N * K) by omega]
  exact h9
theorem j_staticN {Z : qM} {n idx d' mc' ms' kc' ks' : Nat} {host : String} {avs rest : List Value} {QZ : Option Value → qH → Prop} {QXZ : String → qH → Prop} (hd : decode Y.2.1 pc = .ok (.invokestatic idx, 3)) (hZ : q_mt Z n) (hl : Cond.methodLinkNest Y.1.cls idx Z.1 host ∈ q_N) (hst : Cond.static Z.1 ∈ q_W) (hn : avs.length = n) (he : st = avs.reverse ++ rest) (hr : (rest.map fun v => v.category).sum ≤ 8) (hdd : d' + 1 ≤ d) (hk1 : mc' + kc' ≤ kc) (hk2 : ms' + ks' ≤ ks)
    (hC : q_Ct l d' Z avs h mc' ms' QZ QXZ) (hx : ∀ E h', ¬ QXZ E h') (k : ∀ (v : Option Value) (h' : qH), QZ v h' → h.2 ≤ h'.2 → q_J l d Y mc ms Q QX n0 (pc + 3) lo (v.toList ++ rest) h' kc' ks') : q_J l d Y mc ms Q QX n0 pc lo st h kc ks := by
  intro p e s m args below meth c H locs cells slots ls g ad0 ad C0 S h1 h2
  obtain ⟨s1, s2, s3, s4, s5, s6, s7, s8, s9⟩ := S
  obtain ⟨c1, c2, c3, c4, c5, c6, c7, c8, c9, c10, c11, c12⟩ := id C0
  obtain ⟨w1, w2⟩ := q_wv_app he s7
  obtain ⟨z1, z2, z3, z4, z5⟩ := id hZ
  have hB : va_CN (q_R d mc ms) s args Y.1.cls idx Z.1 host Z.2.1 Z.2.2.1 Z.2.2.2 (Cond.code Z.1 Z.2.1 Z.2.2.1 Z.2.2.2 :: q_W) (q_R d' mc' ms') mc' ms' n :=
    ⟨⟨rfl, rfl, hdd, (show 8 + (Z.2.2.1 + 11) + 42 * d' ≤ 42 * d by omega), q_pay c8 z1, List.mem_cons_self⟩, c8 _ z1, c8 _ z2, z3, fun sig hs => by rw [hs] at z4; exact (Option.some.inj z4).symm, va_Nw.use rfl (c11.2.2.2.2.1 _ hl)⟩
  have hM := q_met (hC g ad s3 w1) (fun E u t ⟨h', ad', hX, _⟩ => hx E h' hX)
  rw [he, q_map_rev]
  refine q_afterI C0 s4 s5 s6 w2 s8 s9 (va_runSN (As := avs.map (q_tv g ad)) (nL := Y.2.2.1) (rest := rest.map (q_tv g ad)) ⟨c1, c2, c4, c5, c8⟩ hM ⟨hB, c8 _ hst, trivial⟩ ⟨q_blind g ad avs h, fun U hU hW => ⟨rfl, by rw [hU]; exact s1, s2, va_K.moved hW.alike c10, by rw [hU]; exact (c11.kp (fun q a b => s4.2.1 q a b)).mv hW, by rw [hU]; exact Nat.le_trans c12 s4.1⟩⟩ rfl (by rw [List.length_map]; exact hn) s5.1 rfl ?_ hd ⟨?_, ?_⟩) (by omega) (by omega) k
  · rw [q_cats]
    show 2 * 0 + _ ≤ 8
    omega
  · show cells + mc' ≤ mc
    omega
  · show slots + ms' ≤ ms
    omega
end QR8
