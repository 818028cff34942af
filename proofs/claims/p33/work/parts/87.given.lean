/-! what the statement gives of the start (printed by wip/p33/gen5.py) -/
abbrev nw_1 : List Cond := flatC (Jvm.Cond.and given_1 narrow_1)
section NW1
variable {args : Array Value} {s : State} {A : Nat → Prop}
theorem nw_row0 (hts : ∀ w ∈ lw_tbl, w.before args s = true) (hs : ∀ w ∈ nw_1, w.before args s = true) (hA : ∀ a : Nat, a < s.heap.size → ¬ A a) : ∃ t : Nat, va_Z (q_sC 0).1 (q_sC 0).2 "[I" (.ref t) A s s.heap ∧ va_T .int t 8 (fun j => .int (q_sF 0 j)) A s s.heap := by
  have he : ∀ j : Nat, j < 8 → (Term.elem (.static "RoverPlanner" "STEP_X" "[I") (.int (Int32.ofNat j))).eval args s none [] s = some (.int (q_sF 0 j)) := fun j hj => by
    rcases (show j = 0 ∨ j = 1 ∨ j = 2 ∨ j = 3 ∨ j = 4 ∨ j = 5 ∨ j = 6 ∨ j = 7 by omega) with rfl | rfl | rfl | rfl | rfl | rfl | rfl | rfl
    · exact va_eqt (hs _ (List.mem_of_getElem? (i := 7) (by decide +kernel)))
    · exact va_eqt (hs _ (List.mem_of_getElem? (i := 8) (by decide +kernel)))
    · exact va_eqt (hs _ (List.mem_of_getElem? (i := 9) (by decide +kernel)))
    · exact va_eqt (hs _ (List.mem_of_getElem? (i := 10) (by decide +kernel)))
    · exact va_eqt (hs _ (List.mem_of_getElem? (i := 11) (by decide +kernel)))
    · exact va_eqt (hs _ (List.mem_of_getElem? (i := 12) (by decide +kernel)))
    · exact va_eqt (hs _ (List.mem_of_getElem? (i := 13) (by decide +kernel)))
    · exact va_eqt (hs _ (List.mem_of_getElem? (i := 14) (by decide +kernel)))
  obtain ⟨t, ht, hT⟩ := va_Tof (args := args) (s := s) (tm := .static "RoverPlanner" "STEP_X" "[I") (ty := .int) (N := 8) (f := fun j => .int (q_sF 0 j)) (A := A) (by decide) (hs _ (List.mem_of_getElem? (i := 5) (by decide +kernel))) (va_eqt (hs _ (List.mem_of_getElem? (i := 6) (by decide +kernel)))) he hA
  exact ⟨t, va_Zref (hts _ (List.mem_of_getElem? (i := 65) (by decide +kernel))) (hts _ (List.mem_of_getElem? (i := 24) (by decide +kernel))) ht hA, hT⟩
theorem nw_row1 (hts : ∀ w ∈ lw_tbl, w.before args s = true) (hs : ∀ w ∈ nw_1, w.before args s = true) (hA : ∀ a : Nat, a < s.heap.size → ¬ A a) : ∃ t : Nat, va_Z (q_sC 1).1 (q_sC 1).2 "[I" (.ref t) A s s.heap ∧ va_T .int t 8 (fun j => .int (q_sF 1 j)) A s s.heap := by
  have he : ∀ j : Nat, j < 8 → (Term.elem (.static "RoverPlanner" "STEP_Y" "[I") (.int (Int32.ofNat j))).eval args s none [] s = some (.int (q_sF 1 j)) := fun j hj => by
    rcases (show j = 0 ∨ j = 1 ∨ j = 2 ∨ j = 3 ∨ j = 4 ∨ j = 5 ∨ j = 6 ∨ j = 7 by omega) with rfl | rfl | rfl | rfl | rfl | rfl | rfl | rfl
    · exact va_eqt (hs _ (List.mem_of_getElem? (i := 18) (by decide +kernel)))
    · exact va_eqt (hs _ (List.mem_of_getElem? (i := 19) (by decide +kernel)))
    · exact va_eqt (hs _ (List.mem_of_getElem? (i := 20) (by decide +kernel)))
    · exact va_eqt (hs _ (List.mem_of_getElem? (i := 21) (by decide +kernel)))
    · exact va_eqt (hs _ (List.mem_of_getElem? (i := 22) (by decide +kernel)))
    · exact va_eqt (hs _ (List.mem_of_getElem? (i := 23) (by decide +kernel)))
    · exact va_eqt (hs _ (List.mem_of_getElem? (i := 24) (by decide +kernel)))
    · exact va_eqt (hs _ (List.mem_of_getElem? (i := 25) (by decide +kernel)))
  obtain ⟨t, ht, hT⟩ := va_Tof (args := args) (s := s) (tm := .static "RoverPlanner" "STEP_Y" "[I") (ty := .int) (N := 8) (f := fun j => .int (q_sF 1 j)) (A := A) (by decide) (hs _ (List.mem_of_getElem? (i := 16) (by decide +kernel))) (va_eqt (hs _ (List.mem_of_getElem? (i := 17) (by decide +kernel)))) he hA
  exact ⟨t, va_Zref (hts _ (List.mem_of_getElem? (i := 67) (by decide +kernel))) (hts _ (List.mem_of_getElem? (i := 24) (by decide +kernel))) ht hA, hT⟩
theorem nw_row2 (hts : ∀ w ∈ lw_tbl, w.before args s = true) (hs : ∀ w ∈ nw_1, w.before args s = true) (hA : ∀ a : Nat, a < s.heap.size → ¬ A a) : ∃ t : Nat, va_Z (q_sC 2).1 (q_sC 2).2 "[I" (.ref t) A s s.heap ∧ va_T .int t 8 (fun j => .int (q_sF 2 j)) A s s.heap := by
  have he : ∀ j : Nat, j < 8 → (Term.elem (.static "RoverPlannerLaw" "SX" "[I") (.int (Int32.ofNat j))).eval args s none [] s = some (.int (q_sF 2 j)) := fun j hj => by
    rcases (show j = 0 ∨ j = 1 ∨ j = 2 ∨ j = 3 ∨ j = 4 ∨ j = 5 ∨ j = 6 ∨ j = 7 by omega) with rfl | rfl | rfl | rfl | rfl | rfl | rfl | rfl
    · exact va_eqt (hs _ (List.mem_of_getElem? (i := 31) (by decide +kernel)))
    · exact va_eqt (hs _ (List.mem_of_getElem? (i := 32) (by decide +kernel)))
    · exact va_eqt (hs _ (List.mem_of_getElem? (i := 33) (by decide +kernel)))
    · exact va_eqt (hs _ (List.mem_of_getElem? (i := 34) (by decide +kernel)))
    · exact va_eqt (hs _ (List.mem_of_getElem? (i := 35) (by decide +kernel)))
    · exact va_eqt (hs _ (List.mem_of_getElem? (i := 36) (by decide +kernel)))
    · exact va_eqt (hs _ (List.mem_of_getElem? (i := 37) (by decide +kernel)))
    · exact va_eqt (hs _ (List.mem_of_getElem? (i := 38) (by decide +kernel)))
  obtain ⟨t, ht, hT⟩ := va_Tof (args := args) (s := s) (tm := .static "RoverPlannerLaw" "SX" "[I") (ty := .int) (N := 8) (f := fun j => .int (q_sF 2 j)) (A := A) (by decide) (hs _ (List.mem_of_getElem? (i := 29) (by decide +kernel))) (va_eqt (hs _ (List.mem_of_getElem? (i := 30) (by decide +kernel)))) he hA
  exact ⟨t, va_Zref (hts _ (List.mem_of_getElem? (i := 792) (by decide +kernel))) (hts _ (List.mem_of_getElem? (i := 23) (by decide +kernel))) ht hA, hT⟩
theorem nw_row3 (hts : ∀ w ∈ lw_tbl, w.before args s = true) (hs : ∀ w ∈ nw_1, w.before args s = true) (hA : ∀ a : Nat, a < s.heap.size → ¬ A a) : ∃ t : Nat, va_Z (q_sC 3).1 (q_sC 3).2 "[I" (.ref t) A s s.heap ∧ va_T .int t 8 (fun j => .int (q_sF 3 j)) A s s.heap := by
  have he : ∀ j : Nat, j < 8 → (Term.elem (.static "RoverPlannerLaw" "SY" "[I") (.int (Int32.ofNat j))).eval args s none [] s = some (.int (q_sF 3 j)) := fun j hj => by
    rcases (show j = 0 ∨ j = 1 ∨ j = 2 ∨ j = 3 ∨ j = 4 ∨ j = 5 ∨ j = 6 ∨ j = 7 by omega) with rfl | rfl | rfl | rfl | rfl | rfl | rfl | rfl
    · exact va_eqt (hs _ (List.mem_of_getElem? (i := 42) (by decide +kernel)))
    · exact va_eqt (hs _ (List.mem_of_getElem? (i := 43) (by decide +kernel)))
    · exact va_eqt (hs _ (List.mem_of_getElem? (i := 44) (by decide +kernel)))
    · exact va_eqt (hs _ (List.mem_of_getElem? (i := 45) (by decide +kernel)))
    · exact va_eqt (hs _ (List.mem_of_getElem? (i := 46) (by decide +kernel)))
    · exact va_eqt (hs _ (List.mem_of_getElem? (i := 47) (by decide +kernel)))
    · exact va_eqt (hs _ (List.mem_of_getElem? (i := 48) (by decide +kernel)))
    · exact va_eqt (hs _ (List.mem_of_getElem? (i := 49) (by decide +kernel)))
  obtain ⟨t, ht, hT⟩ := va_Tof (args := args) (s := s) (tm := .static "RoverPlannerLaw" "SY" "[I") (ty := .int) (N := 8) (f := fun j => .int (q_sF 3 j)) (A := A) (by decide) (hs _ (List.mem_of_getElem? (i := 40) (by decide +kernel))) (va_eqt (hs _ (List.mem_of_getElem? (i := 41) (by decide +kernel)))) he hA
  exact ⟨t, va_Zref (hts _ (List.mem_of_getElem? (i := 794) (by decide +kernel))) (hts _ (List.mem_of_getElem? (i := 23) (by decide +kernel))) ht hA, hT⟩
theorem nw_zU (hts : ∀ w ∈ lw_tbl, w.before args s = true) (hs : ∀ w ∈ nw_1, w.before args s = true) (hA : ∀ a : Nat, a < s.heap.size → ¬ A a) : vx_Zq Bundle.tN "UNASSIGNED_STACK" Bundle.steD A s s.heap := vx_Zqof (hts _ (List.mem_of_getElem? (i := 386) (by decide +kernel))) (hts _ (List.mem_of_getElem? (i := 35) (by decide +kernel))) (hs _ (List.mem_of_getElem? (i := 26) (by decide +kernel))) hA
theorem nw_zL (hts : ∀ w ∈ lw_tbl, w.before args s = true) (hs : ∀ w ∈ nw_1, w.before args s = true) (hA : ∀ a : Nat, a < s.heap.size → ¬ A a) : vx_Zq Bundle.tN "SUPPRESSED_SENTINEL" Bundle.listD A s s.heap := vx_Zqof (hts _ (List.mem_of_getElem? (i := 388) (by decide +kernel))) (hts _ (List.mem_of_getElem? (i := 35) (by decide +kernel))) (hs _ (List.mem_of_getElem? (i := 27) (by decide +kernel))) hA
theorem nw_ref {t : Term} {cls : String} (h : (Cond.exactly t cls).before args s = true) : ∃ a, t.eval args s none [] s = some (.ref a) := by
  obtain ⟨a, c, cA, kA, q1, -⟩ := Cond.exactly_spec (args := args) (first := s) (o := none) (s := s) (idx := []) (t := t) (cls := cls) h
  exact ⟨a, q1⟩
theorem nw_str (hts : ∀ w ∈ lw_tbl, w.before args s = true) (hs : ∀ w ∈ nw_1, w.before args s = true) : ∀ q ∈ q_str, ∃ sa : Nat, vk_R "RoverPlanner" q.1 q.2 sa s := List.forall_mem_cons.mpr ⟨(nw_ref (args := args) (s := s) (t := .string "RoverPlanner" 90) (cls := "java/lang/String") (hs _ (List.mem_of_getElem? (i := 269) (by decide +kernel)))).elim (fun a q => ⟨a, vk_R.of (hts _ (List.mem_of_getElem? (i := 953) (by decide +kernel))) q⟩), List.forall_mem_cons.mpr ⟨(nw_ref (args := args) (s := s) (t := .string "RoverPlanner" 99) (cls := "java/lang/String") (hs _ (List.mem_of_getElem? (i := 329) (by decide +kernel)))).elim (fun a q => ⟨a, vk_R.of (hts _ (List.mem_of_getElem? (i := 962) (by decide +kernel))) q⟩), List.forall_mem_cons.mpr ⟨(nw_ref (args := args) (s := s) (t := .string "RoverPlanner" 111) (cls := "java/lang/String") (hs _ (List.mem_of_getElem? (i := 666) (by decide +kernel)))).elim (fun a q => ⟨a, vk_R.of (hts _ (List.mem_of_getElem? (i := 1026) (by decide +kernel))) q⟩), List.forall_mem_cons.mpr ⟨(nw_ref (args := args) (s := s) (t := .string "RoverPlanner" 124) (cls := "java/lang/String") (hs _ (List.mem_of_getElem? (i := 372) (by decide +kernel)))).elim (fun a q => ⟨a, vk_R.of (hts _ (List.mem_of_getElem? (i := 971) (by decide +kernel))) q⟩), List.forall_mem_cons.mpr ⟨(nw_ref (args := args) (s := s) (t := .string "RoverPlanner" 151) (cls := "java/lang/String") (hs _ (List.mem_of_getElem? (i := 399) (by decide +kernel)))).elim (fun a q => ⟨a, vk_R.of (hts _ (List.mem_of_getElem? (i := 981) (by decide +kernel))) q⟩), List.forall_mem_cons.mpr ⟨(nw_ref (args := args) (s := s) (t := .string "RoverPlanner" 156) (cls := "java/lang/String") (hs _ (List.mem_of_getElem? (i := 427) (by decide +kernel)))).elim (fun a q => ⟨a, vk_R.of (hts _ (List.mem_of_getElem? (i := 982) (by decide +kernel))) q⟩), List.forall_mem_cons.mpr ⟨(nw_ref (args := args) (s := s) (t := .string "RoverPlanner" 164) (cls := "java/lang/String") (hs _ (List.mem_of_getElem? (i := 464) (by decide +kernel)))).elim (fun a q => ⟨a, vk_R.of (hts _ (List.mem_of_getElem? (i := 987) (by decide +kernel))) q⟩), List.forall_mem_cons.mpr ⟨(nw_ref (args := args) (s := s) (t := .string "RoverPlanner" 175) (cls := "java/lang/String") (hs _ (List.mem_of_getElem? (i := 234) (by decide +kernel)))).elim (fun a q => ⟨a, vk_R.of (hts _ (List.mem_of_getElem? (i := 874) (by decide +kernel))) q⟩), List.forall_mem_cons.mpr ⟨(nw_ref (args := args) (s := s) (t := .string "RoverPlanner" 181) (cls := "java/lang/String") (hs _ (List.mem_of_getElem? (i := 501) (by decide +kernel)))).elim (fun a q => ⟨a, vk_R.of (hts _ (List.mem_of_getElem? (i := 997) (by decide +kernel))) q⟩), List.forall_mem_cons.mpr ⟨(nw_ref (args := args) (s := s) (t := .string "RoverPlanner" 184) (cls := "java/lang/String") (hs _ (List.mem_of_getElem? (i := 531) (by decide +kernel)))).elim (fun a q => ⟨a, vk_R.of (hts _ (List.mem_of_getElem? (i := 1002) (by decide +kernel))) q⟩), List.forall_mem_cons.mpr ⟨(nw_ref (args := args) (s := s) (t := .string "RoverPlanner" 206) (cls := "java/lang/String") (hs _ (List.mem_of_getElem? (i := 568) (by decide +kernel)))).elim (fun a q => ⟨a, vk_R.of (hts _ (List.mem_of_getElem? (i := 1012) (by decide +kernel))) q⟩), List.forall_mem_cons.mpr ⟨(nw_ref (args := args) (s := s) (t := .string "RoverPlanner" 212) (cls := "java/lang/String") (hs _ (List.mem_of_getElem? (i := 614) (by decide +kernel)))).elim (fun a q => ⟨a, vk_R.of (hts _ (List.mem_of_getElem? (i := 1014) (by decide +kernel))) q⟩), List.forall_mem_cons.mpr ⟨(nw_ref (args := args) (s := s) (t := .string "RoverPlanner" 223) (cls := "java/lang/String") (hs _ (List.mem_of_getElem? (i := 50) (by decide +kernel)))).elim (fun a q => ⟨a, vk_R.of (hts _ (List.mem_of_getElem? (i := 400) (by decide +kernel))) q⟩), List.forall_mem_cons.mpr ⟨(nw_ref (args := args) (s := s) (t := .string "RoverPlanner" 230) (cls := "java/lang/String") (hs _ (List.mem_of_getElem? (i := 201) (by decide +kernel)))).elim (fun a q => ⟨a, vk_R.of (hts _ (List.mem_of_getElem? (i := 864) (by decide +kernel))) q⟩), List.forall_mem_cons.mpr ⟨(nw_ref (args := args) (s := s) (t := .string "RoverPlanner" 273) (cls := "java/lang/String") (hs _ (List.mem_of_getElem? (i := 68) (by decide +kernel)))).elim (fun a q => ⟨a, vk_R.of (hts _ (List.mem_of_getElem? (i := 443) (by decide +kernel))) q⟩), List.forall_mem_cons.mpr ⟨(nw_ref (args := args) (s := s) (t := .string "RoverPlanner" 284) (cls := "java/lang/String") (hs _ (List.mem_of_getElem? (i := 99) (by decide +kernel)))).elim (fun a q => ⟨a, vk_R.of (hts _ (List.mem_of_getElem? (i := 648) (by decide +kernel))) q⟩), List.forall_mem_cons.mpr ⟨(nw_ref (args := args) (s := s) (t := .string "RoverPlanner" 286) (cls := "java/lang/String") (hs _ (List.mem_of_getElem? (i := 127) (by decide +kernel)))).elim (fun a q => ⟨a, vk_R.of (hts _ (List.mem_of_getElem? (i := 664) (by decide +kernel))) q⟩), List.forall_mem_cons.mpr ⟨(nw_ref (args := args) (s := s) (t := .string "RoverPlanner" 292) (cls := "java/lang/String") (hs _ (List.mem_of_getElem? (i := 151) (by decide +kernel)))).elim (fun a q => ⟨a, vk_R.of (hts _ (List.mem_of_getElem? (i := 683) (by decide +kernel))) q⟩), List.forall_mem_cons.mpr ⟨(nw_ref (args := args) (s := s) (t := .string "RoverPlanner" 298) (cls := "java/lang/String") (hs _ (List.mem_of_getElem? (i := 178) (by decide +kernel)))).elim (fun a q => ⟨a, vk_R.of (hts _ (List.mem_of_getElem? (i := 769) (by decide +kernel))) q⟩), fun _ h => absurd h List.not_mem_nil⟩⟩⟩⟩⟩⟩⟩⟩⟩⟩⟩⟩⟩⟩⟩⟩⟩⟩⟩
theorem q_nest_tab {w : Cond} (h : q_nest w = true) : w.onTables = true := by
  cases w <;> first | rfl | (exact absurd h (by simp [q_nest]))
theorem nw_N (hts : ∀ w ∈ lw_tbl, w.before args s = true) : ∀ w ∈ q_N, va_Nw w s := fun w hw => va_Nw.of (q_nest_tab (List.mem_filter.mp hw).2) (hts w (List.mem_filter.mp hw).1)
theorem nw_AO (hts : ∀ w ∈ lw_tbl, w.before args s = true) : va_AO "RoverPlanner$Mark" s := va_AO.of (hts _ (List.mem_of_getElem? (i := 320) (by decide +kernel)))
theorem nw_AOA (hts : ∀ w ∈ lw_tbl, w.before args s = true) : va_AOA .int s := ((hts _ (List.mem_of_getElem? (i := 832) (by decide +kernel))) : (Cond.arrayOver (.array .int)).before args s = true)
theorem nw_a_int (hts : ∀ w ∈ lw_tbl, w.before args s = true) : ∃ cA, ArrOfT s cA .int ∧ va_RA s cA .int := by
  obtain ⟨c, k, comp, h1, h2, h3⟩ := Cond.arrayClass_spec (args := args) (first := s) (o := none) (s := s) (idx := []) (type := .int) (hts _ (List.mem_of_getElem? (i := 106) (by decide +kernel)))
  exact ⟨c, fun n z => ⟨fun k h => (by cases h), k, h2, comp, h3⟩, h1⟩
theorem nw_a_boolean (hts : ∀ w ∈ lw_tbl, w.before args s = true) : ∃ cA, ArrOfT s cA .boolean ∧ va_RA s cA .boolean := by
  obtain ⟨c, k, comp, h1, h2, h3⟩ := Cond.arrayClass_spec (args := args) (first := s) (o := none) (s := s) (idx := []) (type := .boolean) (hts _ (List.mem_of_getElem? (i := 107) (by decide +kernel)))
  exact ⟨c, fun n z => ⟨fun k h => (by cases h), k, h2, comp, h3⟩, h1⟩
theorem nw_a_M (hts : ∀ w ∈ lw_tbl, w.before args s = true) : ∃ cA, ArrOfT s cA (.object "RoverPlanner$Mark") ∧ va_RA s cA (.object "RoverPlanner$Mark") := by
  obtain ⟨comp, c, k, h1, -, h2, h3, h4⟩ := Cond.arrayOver_spec (args := args) (first := s) (o := none) (s := s) (idx := []) (n := "RoverPlanner$Mark") (hts _ (List.mem_of_getElem? (i := 320) (by decide +kernel)))
  exact ⟨c, fun n z => ⟨fun k h => (by cases h), k, h2, comp, h3⟩, k, comp, h2, h3, h1, h4⟩
theorem nw_a_A (hts : ∀ w ∈ lw_tbl, w.before args s = true) : ∃ cA, ArrOfT s cA (.array .int) ∧ va_RA s cA (.array .int) := by
  have h := nw_AOA hts
  unfold va_AOA Cond.before Cond.holds at h
  simp only [Cond.value, beq_iff_eq] at h
  cases hc : s.vm.findClass (FieldType.array .int).toString with
  | none => simp [hc] at h
  | some comp =>
    simp only [hc, Option.bind_some, Option.bind_eq_some_iff, Option.map_eq_some_iff] at h
    obtain ⟨c, hi, k, hk, hb⟩ := h
    cases hkind : k.kind with
    | array component ty =>
      rw [hkind] at hb
      simp at hb
      exact ⟨c, fun n z => ⟨fun k h => (by cases h), k, hk, component, by rw [hkind, hb.1]⟩, hb.2⟩
    | _ => rw [hkind] at hb; simp at hb
theorem nw_Q (hts : ∀ w ∈ lw_tbl, w.before args s = true) : ∀ w ∈ q_W, w.before args s = true := fun w hw => hts w (List.mem_filter.mp hw).1
theorem nw_K (hts : ∀ w ∈ lw_tbl, w.before args s = true) : ∃ (D : va_G) (a : Nat → ClassId), ∀ r n, va_K D q_cls (q_ty (D, a, r, n)) s := by
  obtain ⟨c0, i0, k0⟩ := u_known (nw_Q hts) cl_X0.2 (nw_Q hts _ w_iq_X0)
  obtain ⟨c1, i1, k1⟩ := u_known (nw_Q hts) cl_X1.2 (nw_Q hts _ w_iq_X1)
  obtain ⟨c2, i2, k2⟩ := u_known (nw_Q hts) cl_X2.2 (nw_Q hts _ w_iq_X2)
  obtain ⟨c3, i3, k3⟩ := u_known (nw_Q hts) cl_X0.2 (nw_Q hts _ w_iq_X0)
  obtain ⟨c4, i4, k4⟩ := u_known (nw_Q hts) cl_X4.2 (nw_Q hts _ w_iq_X4)
  obtain ⟨c5, i5, k5⟩ := u_known (nw_Q hts) cl_X5.2 (nw_Q hts _ w_iq_X5)
  obtain ⟨c6, i6, k6⟩ := u_known (nw_Q hts) cl_X6.2 (nw_Q hts _ w_iq_X6)
  obtain ⟨c7, i7, k7⟩ := u_known (nw_Q hts) cl_X7.2 (nw_Q hts _ w_iq_X7)
  obtain ⟨c8, i8, k8⟩ := u_known (nw_Q hts) cl_X8.2 (nw_Q hts _ w_iq_X8)
  obtain ⟨c9, i9, k9⟩ := u_known (nw_Q hts) cl_X9.2 (nw_Q hts _ w_iq_X9)
  obtain ⟨c10, i10, k10⟩ := u_known (nw_Q hts) cl_X10.2 (nw_Q hts _ w_iq_X10)
  obtain ⟨a0, b0, d0⟩ := nw_a_int hts
  obtain ⟨a1, b1, d1⟩ := nw_a_int hts
  obtain ⟨a2, b2, d2⟩ := nw_a_boolean hts
  obtain ⟨a3, b3, d3⟩ := nw_a_M hts
  obtain ⟨a4, b4, d4⟩ := nw_a_A hts
  refine ⟨(fun k => [c0, c1, c2, c3, c4, c5, c6, c7, c8, c9, c10].getD k 0, fun k => [i0, i1, i2, i3, i4, i5, i6, i7, i8, i9, i10].getD k i0), fun k => [a0, a1, a2, a3, a4].getD k 0, fun r n => ⟨fun k q hq => ?_, fun k q hq => ?_⟩⟩
  · match k, hq with
    | 0, hq => cases hq; exact k0
    | 1, hq => cases hq; exact k1
    | 2, hq => cases hq; exact k2
    | 3, hq => cases hq; exact k3
    | 4, hq => cases hq; exact k4
    | 5, hq => cases hq; exact k5
    | 6, hq => cases hq; exact k6
    | 7, hq => cases hq; exact k7
    | 8, hq => cases hq; exact k8
    | 9, hq => cases hq; exact k9
    | 10, hq => cases hq; exact k10
    | k + 11, hq => simp [q_cls] at hq
  · match k, hq with
    | 0, hq => cases hq; exact ⟨b0, d0⟩
    | 1, hq => cases hq; exact ⟨b1, d1⟩
    | 2, hq => cases hq; exact ⟨b2, d2⟩
    | 3, hq => cases hq; exact ⟨b3, d3⟩
    | 4, hq => cases hq; exact ⟨b4, d4⟩
    | k + 5, hq => simp [q_ty] at hq
end NW1
