/-! THE QUIET MACHINE: a heap of numbered cells under the real one (ad: where each lies), a contract and a judgement over it; the kit's rows said of it once. -/
/-- the classes by their numbers (3, the marks, is never made here: a stand-in) -/
abbrev q_cls : List vw_C := [(RX0, TX0, 8), (RX1, TX1, 5), (RX2, TX2, 5), (RX0, TX0, 8), (RX4, TX4, 4), (RX5, TX5, 4), (RX6, TX6, 15), (RX7, TX7, 5), (RX8, TX8, 4), (RX9, TX9, 11), (RX10, TX10, 9)]
/-- a cell: an array (its type's number; contents), or an object (its class's place in q_cls; its fields). A reference is a cell's number; .float k stands for a fixed reference (a static's array) -/
abbrev qC : Type := (Nat × vp_A) ⊕ (Nat × List Value)
abbrev qH : Type := (Nat → qC) × Nat
/-- what a run has fixed: the classes' numbers and slots, the array classes, the fixed references, where the run's own cells begin -/
abbrev qG : Type := va_G × (Nat → ClassId) × (Nat → Nat) × Nat
def q_A (g : qG) : Nat → Prop := fun q => g.2.2.2 ≤ q
def q_wv (n : Nat) (v : Value) : Prop := ∀ i : Nat, v = .ref i → i < n
def q_tv (g : qG) (ad : Nat → Nat) (v : Value) : Value := match v with
  | .ref i => .ref (ad i)
  | .float k => .ref (g.2.2.1 k.toNat)
  | .int z => .int z
  | .long z => .long z
  | .double z => .double z
  | .null => .null
  | .retAddr z => .retAddr z
theorem q_tv_cat (g : qG) (ad : Nat → Nat) (v : Value) : (q_tv g ad v).category = v.category := by cases v <;> rfl
def q_wc (n : Nat) (c : qC) : Prop := match c with
  | .inl (_, (_, .inr (.inr (.inr (.inr f))))) => ∀ k i : Nat, f k = some i → i < n
  | .inl _ => True
  | .inr (_, fs) => ∀ v ∈ fs, q_wv n v
def q_ta (ad : Nat → Nat) (a : vp_A) : vp_A := match a with
  | (N, .inl f) => (N, .inl f)
  | (N, .inr (.inl f)) => (N, .inr (.inl f))
  | (N, .inr (.inr (.inl f))) => (N, .inr (.inr (.inl f)))
  | (N, .inr (.inr (.inr (.inl f)))) => (N, .inr (.inr (.inr (.inl f))))
  | (N, .inr (.inr (.inr (.inr f)))) => (N, .inr (.inr (.inr (.inr (fun k => (f k).map ad)))))
def q_tc (g : qG) (ad : Nat → Nat) (c : qC) : va_E := match c with
  | .inl (k, a) => .inl (g.2.1 k, q_ta ad a)
  | .inr (ci, fs) => .inr (ci, fs.map (q_tv g ad))
def q_ws (g : qG) (ad : Nat → Nat) (h : qH) : va_W := (List.range h.2).map fun i => (ad i, q_tc g ad (h.1 i))
def q_set (h : qH) (i : Nat) (c : qC) : qH := (fun j => if j = i then c else h.1 j, h.2)
def q_push (h : qH) (c : qC) : qH := (fun j => if j = h.2 then c else h.1 j, h.2 + 1)
def q_up (ad : Nat → Nat) (n q : Nat) : Nat → Nat := fun j => if j = n then q else ad j
def q_wh (h : qH) : Prop := ∀ i : Nat, i < h.2 → q_wc h.2 (h.1 i)
def q_ag (n : Nat) (ad ad' : Nat → Nat) : Prop := ∀ i : Nat, i < n → ad' i = ad i
theorem q_ag_rf {n : Nat} {ad : Nat → Nat} : q_ag n ad ad := fun _ _ => rfl
theorem q_ag_tr {n n1 : Nat} {a b c : Nat → Nat} (h : q_ag n a b) (h1 : q_ag n1 b c) (hn : n ≤ n1) : q_ag n a c := fun i hi => (h1 i (Nat.lt_of_lt_of_le hi hn)).trans (h i hi)
theorem q_ag_up {n n1 q : Nat} {a b : Nat → Nat} (h : q_ag n a b) (hn : n ≤ n1) : q_ag n a (q_up b n1 q) := fun i hi => by
  unfold q_up
  rw [if_neg (by omega)]
  exact h i hi
theorem q_wv_mono {n m : Nat} {v : Value} (h : q_wv n v) (hm : n ≤ m) : q_wv m v := fun i hi => Nat.lt_of_lt_of_le (h i hi) hm
theorem q_wc_mono {n m : Nat} {c : qC} (h : q_wc n c) (hm : n ≤ m) : q_wc m c := by
  unfold q_wc at h ⊢
  split
  · rename_i f
    exact fun k i hk => Nat.lt_of_lt_of_le (h k i hk) hm
  · trivial
  · rename_i fs
    exact fun v hv => q_wv_mono (h v hv) hm
theorem q_wi (n : Nat) (z : Int32) : q_wv n (.int z) := fun _ h => by cases h
theorem q_wl (n : Nat) (z : Int64) : q_wv n (.long z) := fun _ h => by cases h
theorem q_wd (n : Nat) (z : UInt64) : q_wv n (.double z) := fun _ h => by cases h
theorem q_wf (n : Nat) (z : UInt32) : q_wv n (.float z) := fun _ h => by cases h
theorem q_wn (n : Nat) : q_wv n .null := fun _ h => by cases h
theorem q_wr {n i : Nat} (h : i < n) : q_wv n (.ref i) := fun _ h1 => by cases h1; exact h
theorem q_tv_ag {g : qG} {n : Nat} {ad ad' : Nat → Nat} (h : q_ag n ad ad') {v : Value} (hv : q_wv n v) : q_tv g ad' v = q_tv g ad v := by
  cases v <;> first | rfl | (rename_i a; show Value.ref _ = Value.ref _; rw [h a (hv a rfl)])
theorem q_tvs_ag {g : qG} {n : Nat} {ad ad' : Nat → Nat} (h : q_ag n ad ad') {vs : List Value} (hv : ∀ v ∈ vs, q_wv n v) : vs.map (q_tv g ad') = vs.map (q_tv g ad) := List.map_congr_left fun v hm => q_tv_ag h (hv v hm)
theorem q_tc_ag {g : qG} {n : Nat} {ad ad' : Nat → Nat} (h : q_ag n ad ad') {c : qC} (hc : q_wc n c) : q_tc g ad' c = q_tc g ad c := by
  rcases c with ⟨k, N, f | f | f | f | f⟩ | ⟨ci, fs⟩
  · rfl
  · rfl
  · rfl
  · rfl
  · show Sum.inl (_, (N, Sum.inr (Sum.inr (Sum.inr (Sum.inr _))))) = Sum.inl (_, (N, Sum.inr (Sum.inr (Sum.inr (Sum.inr _)))))
    congr 7
    funext j
    cases hf : f j with
    | none => rfl
    | some i => show some _ = some _; rw [h i (hc j i hf)]
  · show Sum.inr (ci, _) = Sum.inr (ci, _)
    rw [q_tvs_ag h hc]
theorem q_ws_get {g : qG} {ad : Nat → Nat} {h : qH} {i : Nat} (hi : i < h.2) : (q_ws g ad h)[i]? = some (ad i, q_tc g ad (h.1 i)) := by
  simp [q_ws, hi]
theorem q_ws_set {g : qG} {ad : Nat → Nat} {h : qH} {i : Nat} {c : qC} (hi : i < h.2) : (q_ws g ad h).set i (ad i, q_tc g ad c) = q_ws g ad (q_set h i c) := by
  apply List.ext_getElem?
  intro k
  have hlen : (q_ws g ad h).length = h.2 := by simp [q_ws]
  by_cases hk : k < h.2
  · rw [q_ws_get (h := q_set h i c) hk]
    by_cases e : k = i
    · subst e
      rw [List.getElem?_set_self (by rw [hlen]; exact hk)]
      simp [q_set]
    · rw [List.getElem?_set_ne (Ne.symm e), q_ws_get hk]
      simp [q_set, e]
  · rw [List.getElem?_eq_none (by rw [List.length_set, hlen]; omega), List.getElem?_eq_none (by simp [q_ws, q_set]; omega)]
theorem q_ws_push {g : qG} {ad : Nat → Nat} {h : qH} (hw : q_wh h) (q : Nat) (c : qC) : q_ws g ad h ++ [(q, q_tc g (q_up ad h.2 q) c)] = q_ws g (q_up ad h.2 q) (q_push h c) := by
  have e : (List.range h.2).map (fun i => (q_up ad h.2 q i, q_tc g (q_up ad h.2 q) ((q_push h c).1 i))) = q_ws g ad h := by
    apply List.map_congr_left
    intro i hi
    have hi : i < h.2 := List.mem_range.mp hi
    have h1 : (q_push h c).1 i = h.1 i := by simp [q_push, Nat.ne_of_lt hi]
    rw [h1, q_tc_ag (q_ag_up q_ag_rf (Nat.le_refl h.2)) (hw i hi)]
    simp [q_up, Nat.ne_of_lt hi]
  show _ = (List.range (h.2 + 1)).map _
  rw [List.range_succ, List.map_append, e]
  simp [q_push, q_up]
theorem q_wh_set {h : qH} (hw : q_wh h) {i : Nat} {c : qC} (hc : q_wc h.2 c) : q_wh (q_set h i c) := by
  intro j hj
  by_cases e : j = i
  · simpa [q_set, e] using hc
  · simpa [q_set, e] using hw j hj
theorem q_wh_push {h : qH} (hw : q_wh h) {c : qC} (hc : q_wc (h.2 + 1) c) : q_wh (q_push h c) := by
  intro j hj
  by_cases e : j = h.2
  · simpa [q_push, e] using hc
  · have : j < h.2 := by
      have : j < h.2 + 1 := hj
      omega
    simpa [q_push, e] using q_wc_mono (hw j this) (Nat.le_succ _)
/-! locals -/
def q_lo (g : qG) (ad : Nat → Nat) (ls : Array Slot) (nL : Nat) (lo : List (Option Value)) : Prop := ls.size = nL ∧ lv_wf ls ∧ ∀ (i : Nat) (v : Value), lo[i]? = some (some v) → ls[i]? = some (.val (q_tv g ad v))
def q_as (g : qG) (ad : Nat → Nat) (lo : List (Option Value)) : List (Nat × Value) := (List.range lo.length).filterMap fun i => match lo[i]? with
  | some (some v) => some (i, q_tv g ad v)
  | _ => none
theorem q_as_mem {g : qG} {ad : Nat → Nat} {lo : List (Option Value)} {i : Nat} {w : Value} : (i, w) ∈ q_as g ad lo ↔ ∃ v, lo[i]? = some (some v) ∧ w = q_tv g ad v := by
  constructor
  · intro h
    obtain ⟨j, -, hj⟩ := List.mem_filterMap.mp h
    split at hj
    · rename_i v hv
      cases hj
      exact ⟨v, hv, rfl⟩
    · cases hj
  · rintro ⟨v, hv, rfl⟩
    refine List.mem_filterMap.mpr ⟨i, List.mem_range.mpr (List.getElem?_eq_some_iff.mp hv).1, ?_⟩
    rw [hv]
theorem q_lo_has {g : qG} {ad : Nat → Nat} {ls : Array Slot} {nL : Nat} {lo : List (Option Value)} (h : q_lo g ad ls nL lo) : lv_has ls nL (q_as g ad lo) :=
  ⟨h.1, h.2.1, fun q hq => by
    obtain ⟨v, h1, h2⟩ := q_as_mem.mp (show (q.1, q.2) ∈ _ from hq)
    rw [h2]
    exact h.2.2 _ _ h1⟩
def q_ok1 (lo : List (Option Value)) (i : Nat) : Bool := match i with
  | 0 => true
  | j + 1 => match lo[j]? with
    | some (some (.long _)) => false
    | some (some (.double _)) => false
    | _ => true
theorem q_ok1_cat {lo : List (Option Value)} {j : Nat} {v : Value} (h : q_ok1 lo (j + 1) = true) (hv : lo[j]? = some (some v)) : v.category = 1 := by
  simp only [q_ok1, hv] at h
  cases v <;> simp_all [Value.category]
theorem q_lo_st1 {g : qG} {ad : Nat → Nat} {ls : Array Slot} {nL i : Nat} {lo : List (Option Value)} {v : Value} (ho : q_ok1 lo i = true)
    (h : lv_has ls nL ((i, q_tv g ad v) :: (q_as g ad lo).filter (fun q => !(q.1 == i) && !(q.1 + 1 == i && q.2.category == 2)))) : q_lo g ad ls nL (lo.set i (some v)) := by
  refine ⟨h.1, h.2.1, fun j w hj => ?_⟩
  by_cases e : j = i
  · subst e
    have hl : j < lo.length := by
      have := (List.getElem?_eq_some_iff.mp hj).1
      rwa [List.length_set] at this
    rw [List.getElem?_set_self hl] at hj
    cases hj
    exact h.2.2 (j, _) List.mem_cons_self
  · rw [List.getElem?_set_ne (Ne.symm e)] at hj
    refine h.2.2 (j, q_tv g ad w) (List.mem_cons_of_mem _ (List.mem_filter.mpr ⟨q_as_mem.mpr ⟨w, hj, rfl⟩, ?_⟩))
    have h2 : ¬ (j + 1 = i ∧ w.category = 2) := by
      rintro ⟨e1, e2⟩
      subst e1
      have := q_ok1_cat ho hj
      omega
    show (!(j == i) && !(j + 1 == i && (q_tv g ad w).category == 2)) = true
    rw [q_tv_cat]
    by_cases e1 : j + 1 = i
    · have : ¬ w.category = 2 := fun q => h2 ⟨e1, q⟩
      simp [e, this]
    · simp [e, e1]
theorem q_lo_st2 {g : qG} {ad : Nat → Nat} {ls : Array Slot} {nL i : Nat} {lo : List (Option Value)} {v : Value} (ho : q_ok1 lo i = true)
    (h : lv_has ls nL ((i, q_tv g ad v) :: (q_as g ad lo).filter (fun q => !(q.1 == i) && (!(q.1 == i + 1) && !(q.1 + 1 == i && q.2.category == 2))))) : q_lo g ad ls nL ((lo.set i (some v)).set (i + 1) none) := by
  refine ⟨h.1, h.2.1, fun j w hj => ?_⟩
  by_cases e2 : j = i + 1
  · subst e2
    by_cases hl : i + 1 < (lo.set i (some v)).length
    · rw [List.getElem?_set_self hl] at hj
      cases hj
    · rw [List.getElem?_eq_none (by rw [List.length_set]; omega)] at hj
      cases hj
  · rw [List.getElem?_set_ne (Ne.symm e2)] at hj
    by_cases e : j = i
    · subst e
      have hl : j < lo.length := by
        have := (List.getElem?_eq_some_iff.mp hj).1
        rwa [List.length_set] at this
      rw [List.getElem?_set_self hl] at hj
      cases hj
      exact h.2.2 (j, _) List.mem_cons_self
    · rw [List.getElem?_set_ne (Ne.symm e)] at hj
      refine h.2.2 (j, q_tv g ad w) (List.mem_cons_of_mem _ (List.mem_filter.mpr ⟨q_as_mem.mpr ⟨w, hj, rfl⟩, ?_⟩))
      have h2 : ¬ (j + 1 = i ∧ w.category = 2) := by
        rintro ⟨e1, e3⟩
        subst e1
        have := q_ok1_cat ho hj
        omega
      show (!(j == i) && (!(j == i + 1) && !(j + 1 == i && (q_tv g ad w).category == 2))) = true
      rw [q_tv_cat]
      by_cases e1 : j + 1 = i
      · have : ¬ w.category = 2 := fun q => h2 ⟨e1, q⟩
        simp [e, e2, this]
      · simp [e, e1, e2]
