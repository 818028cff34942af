section
-- ===== PART A: goes FIRST, ahead of the names: the tables' words, and 'selects' of the private methods out of them =====
/-- a private method of a class that the tables say can be made, by its rows of tables_1 -/
def lw_okq (q : MethodName × Nat) : Prop := (q.1.cls ≠ "java/lang/invoke/MethodHandle" ∧ q.1.cls ≠ "java/lang/invoke/VarHandle") ∧ Cond.instantiable q.1.cls q.2 ∈ tables_1 ∧ Cond.privateMethod q.1 ∈ tables_1 ∧ Cond.instanceMethod q.1 ∈ tables_1
theorem lw_p0 : lw_okq (⟨"RoverPlanner$Ground", "measureSteps", "()V"⟩, 5) := ⟨⟨by decide +kernel, by decide +kernel⟩, List.mem_of_getElem? (i := 28) (by decide +kernel), List.mem_of_getElem? (i := 34) (by decide +kernel), List.mem_of_getElem? (i := 35) (by decide +kernel)⟩
theorem lw_p1 : lw_okq (⟨"RoverPlanner$Ground", "measureStep", "(III)I"⟩, 5) := ⟨⟨by decide +kernel, by decide +kernel⟩, List.mem_of_getElem? (i := 28) (by decide +kernel), List.mem_of_getElem? (i := 38) (by decide +kernel), List.mem_of_getElem? (i := 39) (by decide +kernel)⟩
theorem lw_p2 : lw_okq (⟨"java/lang/Throwable", "fillInStackTrace", "(I)Ljava/lang/Throwable;"⟩, 6) := ⟨⟨by decide +kernel, by decide +kernel⟩, List.mem_of_getElem? (i := 375) (by decide +kernel), List.mem_of_getElem? (i := 373) (by decide +kernel), List.mem_of_getElem? (i := 374) (by decide +kernel)⟩
theorem lw_p3 : lw_okq (⟨"RoverPlanner", "numberOf", "(I)I"⟩, 11) := ⟨⟨by decide +kernel, by decide +kernel⟩, List.mem_of_getElem? (i := 20) (by decide +kernel), List.mem_of_getElem? (i := 431) (by decide +kernel), List.mem_of_getElem? (i := 432) (by decide +kernel)⟩
theorem lw_p4 : lw_okq (⟨"RoverPlanner", "doOnCopy", "(I)I"⟩, 11) := ⟨⟨by decide +kernel, by decide +kernel⟩, List.mem_of_getElem? (i := 20) (by decide +kernel), List.mem_of_getElem? (i := 439) (by decide +kernel), List.mem_of_getElem? (i := 440) (by decide +kernel)⟩
theorem lw_p5 : lw_okq (⟨"RoverPlanner$Doer", "drive", "(LRoverPlanner$Rover;II)I"⟩, 8) := ⟨⟨by decide +kernel, by decide +kernel⟩, List.mem_of_getElem? (i := 149) (by decide +kernel), List.mem_of_getElem? (i := 458) (by decide +kernel), List.mem_of_getElem? (i := 459) (by decide +kernel)⟩
theorem lw_p6 : lw_okq (⟨"RoverPlanner$Ways", "begin", "(I)V"⟩, 4) := ⟨⟨by decide +kernel, by decide +kernel⟩, List.mem_of_getElem? (i := 86) (by decide +kernel), List.mem_of_getElem? (i := 469) (by decide +kernel), List.mem_of_getElem? (i := 470) (by decide +kernel)⟩
theorem lw_p7 : lw_okq (⟨"RoverPlanner$Ways", "takeCheapest", "()I"⟩, 4) := ⟨⟨by decide +kernel, by decide +kernel⟩, List.mem_of_getElem? (i := 86) (by decide +kernel), List.mem_of_getElem? (i := 473) (by decide +kernel), List.mem_of_getElem? (i := 474) (by decide +kernel)⟩
theorem lw_p8 : lw_okq (⟨"RoverPlanner$Ways", "reach", "(III)V"⟩, 4) := ⟨⟨by decide +kernel, by decide +kernel⟩, List.mem_of_getElem? (i := 86) (by decide +kernel), List.mem_of_getElem? (i := 488) (by decide +kernel), List.mem_of_getElem? (i := 489) (by decide +kernel)⟩
theorem lw_p9 : lw_okq (⟨"RoverPlanner$Doer", "step", "(LRoverPlanner$Rover;I)I"⟩, 8) := ⟨⟨by decide +kernel, by decide +kernel⟩, List.mem_of_getElem? (i := 149) (by decide +kernel), List.mem_of_getElem? (i := 496) (by decide +kernel), List.mem_of_getElem? (i := 497) (by decide +kernel)⟩
theorem lw_p10 : lw_okq (⟨"RoverPlanner$Doer", "passMinutes", "(LRoverPlanner$Rover;IZI)I"⟩, 8) := ⟨⟨by decide +kernel, by decide +kernel⟩, List.mem_of_getElem? (i := 149) (by decide +kernel), List.mem_of_getElem? (i := 501) (by decide +kernel), List.mem_of_getElem? (i := 502) (by decide +kernel)⟩
theorem lw_p11 : lw_okq (⟨"RoverPlanner$Doer", "takeImage", "(LRoverPlanner$Rover;II)I"⟩, 8) := ⟨⟨by decide +kernel, by decide +kernel⟩, List.mem_of_getElem? (i := 149) (by decide +kernel), List.mem_of_getElem? (i := 525) (by decide +kernel), List.mem_of_getElem? (i := 526) (by decide +kernel)⟩
theorem lw_p12 : lw_okq (⟨"RoverPlanner$Doer", "useTool", "(LRoverPlanner$Rover;III)I"⟩, 8) := ⟨⟨by decide +kernel, by decide +kernel⟩, List.mem_of_getElem? (i := 149) (by decide +kernel), List.mem_of_getElem? (i := 552) (by decide +kernel), List.mem_of_getElem? (i := 553) (by decide +kernel)⟩
theorem lw_p13 : lw_okq (⟨"RoverPlanner$Doer", "takeTouch", "(LRoverPlanner$Rover;II)I"⟩, 8) := ⟨⟨by decide +kernel, by decide +kernel⟩, List.mem_of_getElem? (i := 149) (by decide +kernel), List.mem_of_getElem? (i := 572) (by decide +kernel), List.mem_of_getElem? (i := 573) (by decide +kernel)⟩
theorem lw_p14 : lw_okq (⟨"RoverPlanner$Doer", "transmit", "(LRoverPlanner$Rover;I)I"⟩, 8) := ⟨⟨by decide +kernel, by decide +kernel⟩, List.mem_of_getElem? (i := 149) (by decide +kernel), List.mem_of_getElem? (i := 576) (by decide +kernel), List.mem_of_getElem? (i := 577) (by decide +kernel)⟩
theorem lw_p15 : lw_okq (⟨"RoverPlanner$Rover", "mostUrgent", "()I"⟩, 15) := ⟨⟨by decide +kernel, by decide +kernel⟩, List.mem_of_getElem? (i := 155) (by decide +kernel), List.mem_of_getElem? (i := 593) (by decide +kernel), List.mem_of_getElem? (i := 594) (by decide +kernel)⟩
def lw_privs_1 : List (MethodName × Nat) := [(⟨"RoverPlanner$Ground", "measureSteps", "()V"⟩, 5), (⟨"RoverPlanner$Ground", "measureStep", "(III)I"⟩, 5), (⟨"java/lang/Throwable", "fillInStackTrace", "(I)Ljava/lang/Throwable;"⟩, 6), (⟨"RoverPlanner", "numberOf", "(I)I"⟩, 11), (⟨"RoverPlanner", "doOnCopy", "(I)I"⟩, 11), (⟨"RoverPlanner$Doer", "drive", "(LRoverPlanner$Rover;II)I"⟩, 8), (⟨"RoverPlanner$Ways", "begin", "(I)V"⟩, 4), (⟨"RoverPlanner$Ways", "takeCheapest", "()I"⟩, 4), (⟨"RoverPlanner$Ways", "reach", "(III)V"⟩, 4), (⟨"RoverPlanner$Doer", "step", "(LRoverPlanner$Rover;I)I"⟩, 8), (⟨"RoverPlanner$Doer", "passMinutes", "(LRoverPlanner$Rover;IZI)I"⟩, 8), (⟨"RoverPlanner$Doer", "takeImage", "(LRoverPlanner$Rover;II)I"⟩, 8), (⟨"RoverPlanner$Doer", "useTool", "(LRoverPlanner$Rover;III)I"⟩, 8), (⟨"RoverPlanner$Doer", "takeTouch", "(LRoverPlanner$Rover;II)I"⟩, 8), (⟨"RoverPlanner$Doer", "transmit", "(LRoverPlanner$Rover;I)I"⟩, 8), (⟨"RoverPlanner$Rover", "mostUrgent", "()I"⟩, 15)]
theorem lw_r1 : ∀ q ∈ lw_privs_1, lw_okq q := List.forall_mem_cons.mpr ⟨lw_p0, List.forall_mem_cons.mpr ⟨lw_p1, List.forall_mem_cons.mpr ⟨lw_p2, List.forall_mem_cons.mpr ⟨lw_p3, List.forall_mem_cons.mpr ⟨lw_p4, List.forall_mem_cons.mpr ⟨lw_p5, List.forall_mem_cons.mpr ⟨lw_p6, List.forall_mem_cons.mpr ⟨lw_p7, List.forall_mem_cons.mpr ⟨lw_p8, List.forall_mem_cons.mpr ⟨lw_p9, List.forall_mem_cons.mpr ⟨lw_p10, List.forall_mem_cons.mpr ⟨lw_p11, List.forall_mem_cons.mpr ⟨lw_p12, List.forall_mem_cons.mpr ⟨lw_p13, List.forall_mem_cons.mpr ⟨lw_p14, List.forall_mem_cons.mpr ⟨lw_p15, fun _ h => absurd h List.not_mem_nil⟩⟩⟩⟩⟩⟩⟩⟩⟩⟩⟩⟩⟩⟩⟩⟩
theorem lw_p16 : lw_okq (⟨"RoverPlanner$Rover", "finishPiece", "(I)V"⟩, 15) := ⟨⟨by decide +kernel, by decide +kernel⟩, List.mem_of_getElem? (i := 155) (by decide +kernel), List.mem_of_getElem? (i := 598) (by decide +kernel), List.mem_of_getElem? (i := 599) (by decide +kernel)⟩
theorem lw_p17 : lw_okq (⟨"RoverPlanner$Doer", "rest", "(LRoverPlanner$Rover;IZ)I"⟩, 8) := ⟨⟨by decide +kernel, by decide +kernel⟩, List.mem_of_getElem? (i := 149) (by decide +kernel), List.mem_of_getElem? (i := 602) (by decide +kernel), List.mem_of_getElem? (i := 603) (by decide +kernel)⟩
theorem lw_p18 : lw_okq (⟨"RoverPlanner$Doer", "clean", "(LRoverPlanner$Rover;)I"⟩, 8) := ⟨⟨by decide +kernel, by decide +kernel⟩, List.mem_of_getElem? (i := 149) (by decide +kernel), List.mem_of_getElem? (i := 609) (by decide +kernel), List.mem_of_getElem? (i := 610) (by decide +kernel)⟩
theorem lw_p19 : lw_okq (⟨"RoverPlanner$Maker", "choose", "(LRoverPlanner$Rover;I)I"⟩, 5) := ⟨⟨by decide +kernel, by decide +kernel⟩, List.mem_of_getElem? (i := 249) (by decide +kernel), List.mem_of_getElem? (i := 675) (by decide +kernel), List.mem_of_getElem? (i := 676) (by decide +kernel)⟩
theorem lw_p20 : lw_okq (⟨"RoverPlanner$Maker", "isNearer", "(II)Z"⟩, 5) := ⟨⟨by decide +kernel, by decide +kernel⟩, List.mem_of_getElem? (i := 249) (by decide +kernel), List.mem_of_getElem? (i := 715) (by decide +kernel), List.mem_of_getElem? (i := 716) (by decide +kernel)⟩
theorem lw_p21 : lw_okq (⟨"RoverPlanner$Maker", "serves", "(IIII)Z"⟩, 5) := ⟨⟨by decide +kernel, by decide +kernel⟩, List.mem_of_getElem? (i := 249) (by decide +kernel), List.mem_of_getElem? (i := 720) (by decide +kernel), List.mem_of_getElem? (i := 721) (by decide +kernel)⟩
theorem lw_p22 : lw_okq (⟨"RoverPlanner$Maker", "visit", "(LRoverPlanner$Plan;LRoverPlanner$Rover;III)Z"⟩, 5) := ⟨⟨by decide +kernel, by decide +kernel⟩, List.mem_of_getElem? (i := 249) (by decide +kernel), List.mem_of_getElem? (i := 731) (by decide +kernel), List.mem_of_getElem? (i := 732) (by decide +kernel)⟩
def lw_privs_2 : List (MethodName × Nat) := [(⟨"RoverPlanner$Rover", "finishPiece", "(I)V"⟩, 15), (⟨"RoverPlanner$Doer", "rest", "(LRoverPlanner$Rover;IZ)I"⟩, 8), (⟨"RoverPlanner$Doer", "clean", "(LRoverPlanner$Rover;)I"⟩, 8), (⟨"RoverPlanner$Maker", "choose", "(LRoverPlanner$Rover;I)I"⟩, 5), (⟨"RoverPlanner$Maker", "isNearer", "(II)Z"⟩, 5), (⟨"RoverPlanner$Maker", "serves", "(IIII)Z"⟩, 5), (⟨"RoverPlanner$Maker", "visit", "(LRoverPlanner$Plan;LRoverPlanner$Rover;III)Z"⟩, 5)]
theorem lw_r2 : ∀ q ∈ lw_privs_2, lw_okq q := List.forall_mem_cons.mpr ⟨lw_p16, List.forall_mem_cons.mpr ⟨lw_p17, List.forall_mem_cons.mpr ⟨lw_p18, List.forall_mem_cons.mpr ⟨lw_p19, List.forall_mem_cons.mpr ⟨lw_p20, List.forall_mem_cons.mpr ⟨lw_p21, List.forall_mem_cons.mpr ⟨lw_p22, fun _ h => absurd h List.not_mem_nil⟩⟩⟩⟩⟩⟩⟩
def lw_privs : List (MethodName × Nat) := lw_privs_1 ++ (lw_privs_2)
def lw_tbl : List Cond := k2_sels lw_privs ++ tables_1
theorem lw_privs_ok : ∀ q ∈ lw_privs, lw_okq q := by
  show ∀ q ∈ lw_privs_1 ++ (lw_privs_2), lw_okq q
  exact List.forall_mem_append.mpr ⟨lw_r1, lw_r2⟩
/-- the streams that the claim lets the run draw from -/
abbrev lw_cs : List Choice := [Jvm.Choice.named "NaN.bits"]
theorem lw_bits : nanBits ∈ lw_cs := by first | decide | exact List.mem_cons_self | simp [lw_cs, nanBits]
-- ===== end of PART A; then your names; then what follows =====
/-! ===== BEGIN words of one list among another's, by their places ===== -/
theorem goodIn_r {big : List Cond} (ws : List Cond) (ps : List Nat) (hp : ws = ps.filterMap (fun i => big[i]?)) (h : ws.all goodWord = true) : GoodIn big ws := by
  intro w hw
  have h1 := List.all_eq_true.mp h w hw
  rw [hp] at hw
  obtain ⟨i, -, hi⟩ := List.mem_filterMap.mp hw
  have hm : w ∈ big := by first | exact List.mem_of_getElem? hi | exact List.getElem?_mem hi
  exact ⟨hm, good_of_word h1⟩
theorem goodIn_app {big a b : List Cond} (ha : GoodIn big a) (hb : GoodIn big b) : GoodIn big (a ++ b) := fun w h => (List.mem_append.mp h).elim (ha w) (hb w)
theorem goodIn_ca {big a b : List Cond} {c : Cond} (ha : GoodIn big (c :: a)) (hb : GoodIn big b) : GoodIn big (c :: (a ++ b)) := fun w h => (List.mem_cons.mp h).elim (fun e => ha w (List.mem_cons.mpr (Or.inl e))) (fun h => (List.mem_append.mp h).elim (fun h => ha w (List.mem_cons.mpr (Or.inr h))) (hb w))
theorem goodIn_sub {big ws : List Cond} (hm : ∀ w ∈ ws, w ∈ big) (h : ws.all goodWord = true) : GoodIn big ws := fun w hw => ⟨hm w hw, good_of_word (List.all_eq_true.mp h w hw)⟩
/-! ===== END ===== -/

/-- 'arrayOver' of an array of arrays holds (the printed names use it and don't say it) -/
def va_AOA (t : FieldType) (U : State) : Prop := (Cond.arrayOver (.array t)).before #[] U = true
theorem va_AOA.use {t : FieldType} {A : Array Value} {U : State} (h : va_AOA t U) : (Cond.arrayOver (.array t)).before A U = true := h
/-! ===== BEGIN new T[n][m]: the outer array a place, the inner ones among the pooled ===== -/
/-- f, but v at every address of l -/
def vr_up {α : Type} (f : Nat → α) (l : List Nat) (v : α) : Nat → α := fun a => if a ∈ l then v else f a
theorem vr_up_in {α : Type} {f : Nat → α} {l : List Nat} {v : α} {a : Nat} (h : a ∈ l) : vr_up f l v a = v := if_pos h
theorem vr_up_ne {α : Type} {f : Nat → α} {l : List Nat} {v : α} {a : Nat} (h : a ∉ l) : vr_up f l v a = f a := if_neg h
theorem vr_rows {L l : List Nat} {f : Nat → va_E} {e : va_E} (h : ∀ a, a ∈ l → a ∉ L) : va_pl L f ++ l.map (fun a => (a, e)) = va_pl (L ++ l) (vr_up f l e) := by
  unfold va_pl
  rw [List.map_append]
  congr 1
  · apply List.map_congr_left
    intro a ha
    rw [vr_up_ne (fun q => h a q ha)]
  · apply List.map_congr_left
    intro a ha
    rw [vr_up_in ha]
theorem vr_lay {X rows : va_W} {x : Nat × va_E} {pl : va_W} {D : va_G} {cl : List vw_C} {H : Heap} (hP : va_P D cl (((X ++ pl) ++ [x]) ++ rows) H) : va_P D cl ((X ++ [x]) ++ (pl ++ rows)) H := by
  rw [List.append_assoc (X ++ pl)] at hP
  have h := va_P.swap hP
  rw [← List.append_assoc X] at h
  have h2 := va_P.swap h
  rw [List.append_assoc (X ++ [x])] at h2
  exact h2
theorem vr_layD {X rows : va_W} {x : Nat × va_E} {pl : va_W} {A : Nat → Prop} (hD : va_D A (((X ++ pl) ++ [x]) ++ rows)) : va_D A ((X ++ [x]) ++ (pl ++ rows)) := by
  rw [List.append_assoc (X ++ pl)] at hD
  have h := va_D.swap hD
  rw [← List.append_assoc X] at h
  have h2 := va_D.swap h
  rw [List.append_assoc (X ++ [x])] at h2
  exact h2
theorem vr_outer (c : ClassId) (N h0 : Nat) : ∀ i : Nat, Jvm.Free.Multi.outerC c N h0 i = arrV c N (fun j => va_rf (if j < i then some (h0 + 1 + j) else none))
  | 0 => by
    show ({ cls := c, slots := Array.replicate N .null, vm := .none } : Cell) = _
    rw [arrV_new]
    refine congrArg (arrV c N) (funext fun j => ?_)
    simp [va_rf]
  | i + 1 => by
    show (Jvm.Free.Multi.outerC c N h0 i).setSlot i (.ref (h0 + 1 + i)) = _
    rw [vr_outer c N h0 i, arrV_store]
    refine congrArg (arrV c N) (funext fun j => ?_)
    by_cases e : j = i
    · subst e
      simp [updV, va_rf]
    · by_cases h : j < i
      · simp [updV, e, h, Nat.lt_succ_of_lt h]
      · simp [updV, e, h, show ¬ j < i + 1 by omega]
section VGM
variable {p : Program} {l : Launch} {e : Env} {R : Room} {s : State} {m : MethodId} {args : Array Value} {below : List Frame} {meth : Method} {c : Code} {H : Heap} {locs : List Loc} {cells slots : Nat} {Q : State → Prop}
variable {cc : ByteArray} {pc : Nat} {ls : Array Slot} {rest : List Value} {D : va_G} {cl : List vw_C} {A : Nat → Prop} {a : Nat} {tys : List (ClassId × FieldType)} {ws : va_W} {H0 : Heap}
theorem va_mna {X : va_W} {L : List Nat} {f : Nat → va_E} {cc : ByteArray} (hexec : p.tables.exec = Jvm.exec) (hb : c.code = cc) {own : String} {index : Nat} {ty : FieldType} {cy : ClassId} (hown : s.vm.findClass own = some m.cls) (hclink : (Cond.classLink own index ("[" ++ (FieldType.array ty).toString)).before args s = true) (hover : va_AOA ty s) (harr : (Cond.arrayClass ty).before args s = true) (hcy : s.vm.findClass (FieldType.array ty).toString = some cy)
    (hK : va_K D cl tys s) (hP : va_P D cl (X ++ va_pl L f) H) (hD : va_D A (X ++ va_pl L f)) (hS : va_S A H0 H locs) (hA : ∀ q, H0.size ≤ q → A q) {n k : Int32} {N' K' : Nat} {z : vp_A} (hn : ¬ n < 0) (hk : ¬ k < 0) (hN : n.toNatClampNeg = N') (hM : k.toNatClampNeg = K')
    (hb1 : N' * 4 ≤ 536870912) (hb2 : K' * componentBytes ty ≤ 536870912) (hb3 : K' ≤ 536870912) (hdf : fits ty (defaultValue ty) = true) (hdd : (defaultValue ty).isDefault = true) (hcells : cells + (1 + N') ≤ R.cells) (hslots : slots + (N' + N' * K') ≤ R.slots) (hz : ∀ c : ClassId, Jvm.Free.Multi.innerC c K' (defaultValue ty) = vp_cell c z) (hdg : decode cc pc = .ok (.multianewarray index 2, 4))
    (kk : ∀ (q : Nat) (r : Nat → Nat) (cA : ClassId) (H1 : Heap), (∀ i j : Nat, i < N' → j < N' → r i = r j → i = j) → (∀ i : Nat, i < N' → r i ∉ L) → va_K D cl (tys ++ [(cA, .array ty)]) s →
      va_P D cl ((X ++ [(q, .inl (cA, N', .inr (.inr (.inr (.inr (fun i => if i < N' then some (r i) else none))))))]) ++ va_pl (L ++ (List.range N').map r) (vr_up f ((List.range N').map r) (.inl (cy, z)))) H1 → va_D A ((X ++ [(q, .inl (cA, N', .inr (.inr (.inr (.inr (fun i => if i < N' then some (r i) else none))))))]) ++ va_pl (L ++ (List.range N').map r) (vr_up f ((List.range N').map r) (.inl (cy, z)))) → va_S A H0 H1 locs →
      W p l e R s m args below meth c H1 locs (cells + 1 + N') (slots + N' + N' * K') Q (F0 m (pc + 4) ls (.ref q :: rest))) : W p l e R s m args below meth c H locs cells slots Q (F0 m pc ls (.int k :: .int n :: rest)) := by
  subst hN
  subst hM
  intro T hT Xs
  obtain ⟨vm₁, cA, comp, -, fA, fC, hO, -, X', step⟩ := Xs.multianewarray2F hexec hown hclink (va_AOA.use hover) harr (g := F0 m pc ls (.int k :: .int n :: rest)) rfl (by rw [hb]; exact hdg) rfl hn hk hb1 hb2 hb3 hdf hdd hcells hslots
  have ec : some cy = some comp := hcy.symm.trans fC
  cases ec
  generalize hF : Jvm.Free.Multi.fill (T.setVm vm₁) cA cy n.toNatClampNeg k.toNatClampNeg (defaultValue ty) n.toNatClampNeg = F at X' step
  have hTh : (T.setVm vm₁).heap = H := hT
  obtain ⟨f1, f2, -, -⟩ := Jvm.Free.Multi.fill_facts (T.setVm vm₁) cA cy n.toNatClampNeg k.toNatClampNeg (defaultValue ty) n.toNatClampNeg
  rw [hF, hTh] at f1 f2
  have hold : ∀ x : Nat, x < H.size → F.heap[x]? = H[x]? := fun x hx => by
    have := Jvm.Free.Multi.fill_old (T.setVm vm₁) cA cy n.toNatClampNeg k.toNatClampNeg (defaultValue ty) (a := x) (by rw [hTh]; exact hx) n.toNatClampNeg
    rw [hF, hTh] at this
    exact this
  have hrow : ∀ j : Nat, j < n.toNatClampNeg → F.heap[H.size + 1 + j]? = some (vp_cell cy z) := fun j hj => by
    have := Jvm.Free.Multi.fill_inner (T.setVm vm₁) cA cy n.toNatClampNeg k.toNatClampNeg (defaultValue ty) n.toNatClampNeg j hj
    rw [hF, hTh, hz] at this
    exact this
  have hout : Jvm.Free.Multi.outerC cA n.toNatClampNeg H.size n.toNatClampNeg = vp_cell cA (n.toNatClampNeg, .inr (.inr (.inr (.inr (fun i => if i < n.toNatClampNeg then some (H.size + 1 + i) else none))))) := by
    rw [vp_cell_q]
    exact vr_outer cA n.toNatClampNeg H.size n.toNatClampNeg
  rw [hout] at f2
  have hlt : ∀ a, a ∈ L → a < H.size := fun a ha => by
    obtain ⟨k9, hk9⟩ := va_pl_get (X := X) (f := f) ha
    exact (hP k9 _ hk9).lt
  have hnl : ∀ i : Nat, i < n.toNatClampNeg → H.size + 1 + i ∉ L := fun i _ h => by
    have := hlt _ h
    omega
  have hnm : ∀ a, a ∈ (List.range n.toNatClampNeg).map (fun i => H.size + 1 + i) → a ∉ L := fun a ha h => by
    obtain ⟨i, -, rfl⟩ := List.mem_map.mp ha
    have := hlt _ h
    omega
  have hP0 : va_P D cl (X ++ va_pl L f) F.heap := hP.kept (fun k9 x hx => hold x.1 ((hP k9 x hx).lt))
  have hP1 : va_P D cl ((X ++ va_pl L f) ++ [(H.size, .inl (cA, n.toNatClampNeg, .inr (.inr (.inr (.inr (fun i => if i < n.toNatClampNeg then some (H.size + 1 + i) else none))))))]) F.heap := hP0.app (fun k9 x hx => by
    have h0 : k9 < 1 := (List.getElem?_eq_some_iff.mp hx).1
    rw [show k9 = 0 by omega] at hx
    cases hx
    exact f2)
  have hP2 : va_P D cl (((X ++ va_pl L f) ++ [(H.size, .inl (cA, n.toNatClampNeg, .inr (.inr (.inr (.inr (fun i => if i < n.toNatClampNeg then some (H.size + 1 + i) else none))))))]) ++ ((List.range n.toNatClampNeg).map (fun i => H.size + 1 + i)).map (fun a => (a, .inl (cy, z)))) F.heap := hP1.app (fun k9 x hx => by
    obtain ⟨a, ha, rfl⟩ := List.mem_map.mp (List.mem_of_getElem? hx)
    obtain ⟨i, hi, rfl⟩ := List.mem_map.mp ha
    exact hrow i (List.mem_range.mp hi))
  have hD2 : va_D A (((X ++ va_pl L f) ++ [(H.size, .inl (cA, n.toNatClampNeg, .inr (.inr (.inr (.inr (fun i => if i < n.toNatClampNeg then some (H.size + 1 + i) else none))))))]) ++ ((List.range n.toNatClampNeg).map (fun i => H.size + 1 + i)).map (fun a => (a, .inl (cy, z)))) := by
    have hD1 := hD.push (e := .inl (cA, n.toNatClampNeg, .inr (.inr (.inr (.inr (fun i => if i < n.toNatClampNeg then some (H.size + 1 + i) else none)))))) hP rfl (hA _ hS.1)
    generalize hW1 : (X ++ va_pl L f) ++ [(H.size, .inl (cA, n.toNatClampNeg, .inr (.inr (.inr (.inr (fun i => if i < n.toNatClampNeg then some (H.size + 1 + i) else none))))))] = W1 at hD1 hP1 ⊢
    have hle : ∀ (k9 : Nat) (x : Nat × va_E), W1[k9]? = some x → x.1 ≤ H.size := fun k9 x hx => by
      rw [← hW1] at hx
      by_cases hl : k9 < (X ++ va_pl L f).length
      · rw [List.getElem?_append_left hl] at hx
        exact Nat.le_of_lt ((hP k9 x hx).lt)
      · rw [List.getElem?_append_right (by omega)] at hx
        have h0 : k9 - (X ++ va_pl L f).length < 1 := (List.getElem?_eq_some_iff.mp hx).1
        rw [show k9 - (X ++ va_pl L f).length = 0 by omega] at hx
        cases hx
        exact Nat.le_refl _
    have hr : ∀ (k9 : Nat) (x : Nat × va_E), (((List.range n.toNatClampNeg).map (fun i => H.size + 1 + i)).map (fun a => ((a, .inl (cy, z)) : Nat × va_E)))[k9]? = some x → x.1 = H.size + 1 + k9 := fun k9 x hx => by
      rw [List.getElem?_map, List.getElem?_map] at hx
      by_cases h9 : k9 < n.toNatClampNeg
      · rw [List.getElem?_range h9] at hx
        cases hx
        rfl
      · have hn0 : (List.range n.toNatClampNeg)[k9]? = none := List.getElem?_eq_none (by rw [List.length_range]; omega)
        rw [hn0] at hx
        cases hx
    refine ⟨fun i j x y hi hj hxy => ?_, fun k9 x hx => ?_⟩
    · by_cases h1 : i < W1.length <;> by_cases h2 : j < W1.length
      · rw [List.getElem?_append_left h1] at hi
        rw [List.getElem?_append_left h2] at hj
        exact hD1.1 i j x y hi hj hxy
      · rw [List.getElem?_append_left h1] at hi
        rw [List.getElem?_append_right (by omega)] at hj
        have := hle _ _ hi
        have := hr _ _ hj
        omega
      · rw [List.getElem?_append_right (by omega)] at hi
        rw [List.getElem?_append_left h2] at hj
        have := hle _ _ hj
        have := hr _ _ hi
        omega
      · rw [List.getElem?_append_right (by omega)] at hi hj
        have := hr _ _ hi
        have := hr _ _ hj
        omega
    · by_cases h1 : k9 < W1.length
      · rw [List.getElem?_append_left h1] at hx
        exact hD1.2 k9 x hx
      · rw [List.getElem?_append_right (by omega)] at hx
        have := hr _ _ hx
        exact hA _ (by have := hS.1; omega)
  have hAr : ArrOfT s cA (.array ty) := fun N9 z9 => by
    obtain ⟨-, k9, hk9, cm9, hkk9⟩ := (hO 0 0 0).1
    exact ⟨(fun q hq => by cases hq), k9, hk9, cm9, hkk9⟩
  have hK2 : va_K D cl (tys ++ [(cA, .array ty)]) s := ⟨hK.1, fun k9 x hx => by
    by_cases hl : k9 < tys.length
    · rw [List.getElem?_append_left hl] at hx
      exact hK.2 k9 x hx
    · rw [List.getElem?_append_right (by omega)] at hx
      have h0 : k9 - tys.length < 1 := (List.getElem?_eq_some_iff.mp hx).1
      rw [show k9 - tys.length = 0 by omega] at hx
      cases hx
      exact ⟨hAr, fA⟩⟩
  obtain ⟨t, a1, b1⟩ := kk H.size (fun i => H.size + 1 + i) cA F.heap (fun i j _ _ h => by have h9 : H.size + 1 + i = H.size + 1 + j := h; omega) hnl hK2 (by rw [← vr_rows hnm]; exact vr_lay hP2) (by rw [← vr_rows hnm]; exact vr_layD hD2) ⟨by rw [f1]; have := hS.1; omega, fun x h1 h2 => (hold x (Nat.lt_of_lt_of_le h1 hS.1)).trans (hS.2.1 x h1 h2), hS.2.2⟩ F rfl X'
  refine ⟨t, step t ?_, b1⟩
  have e : T.heap.size = H.size := by rw [hT]
  rw [e]
  exact a1
end VGM
/-! ===== END ===== -/

/-! ===== BEGIN exceptions that leave a method, and their catching by the caller (launches without stack traces) ===== -/
section VXA
/-! The laws vx_back, vx_callV, vx_callS, vx_callSW, vx_throw0, vx_throwS follow proofs of the library, with one case more: JvmDerived/Free/Laws.lean (Back.of_free), Shelf42/LK1.lean (callV, callS), Shelf/KitTraced.lean (throwNew0V, throwNewS). -/
/-- where a method has thrown q: the class by its name, the cell, what was written, the world -/
def vx_T (XC : String → State → State → Prop) (st : State) (q : Addr) (t : State) (mc ms : Nat) (free : Addr → Prop) : Prop :=
  ∃ (E : String) (ce : Cell) (L : List Loc), XC E st t ∧ t.heap[q]? = some ce ∧ ce.vm = .none ∧ st.vm.findClass E = some ce.cls ∧ st.WarmedH t.vm ∧ st.sameButNew ({ t with vm := st.vm } : State) L mc ms ∧ ∀ z ∈ L, free z.base
def vx_Q (Qc : Array Value → State → Outcome → State → Prop) (XC : String → State → State → Prop) (mc ms : Nat) (free : Addr → Prop) : Array Value → State → Outcome → State → Prop := fun a st o t =>
  (Qc a st o t ∧ ∃ L, FrameEnd st o t L mc ms ∧ ∀ q ∈ L, free q.base) ∨ ∃ q, o = .threw q ∧ vx_T XC st q t mc ms free
/-- a callee that returns or throws -/
def vx_Met (l : Launch) (y : MethodName) (ws : List Cond) (rm : Room) (Pc : Array Value → State → Prop) (Qc : Array Value → State → Outcome → State → Prop) (XC : String → State → State → Prop) (mc ms : Nat) (free : Addr → Prop) : Prop :=
  MetFree l y (headSpec ws rm) Pc (fun _ _ _ _ _ => True) (vx_Q Qc XC mc ms free)
def vx_Post (XC : String → State → State → Prop) (mc ms : Nat) (free : Addr → Prop) : Pt → Array Value → Addr → Pt → Prop := fun A a q B =>
  ∃ (g : JFrame) (mk : MethodId) (t : State) (L : List Loc) (E : String) (ce : Cell), B.U.heap = t.heap ∧ B.U.vm = t.vm ∧ XC E (A.U.calling g mk a) t ∧ t.heap[q]? = some ce ∧ ce.vm = .none ∧ A.U.vm.findClass E = some ce.cls ∧ B.locs = A.locs ++ L ∧ (∀ z ∈ L, free z.base) ∧ B.cells = A.cells + mc ∧ B.slots = A.slots + ms
def vx_Back (l : Launch) (R : Room) (p : Program) (e : Env) (below : List Frame) (s : State) (sargs : Array Value) (y : MethodName) (len W9 : Nat)
    (Pre : Pt → Array Value → Prop) (Post : Pt → Array Value → Option Value → Pt → Prop) (PostX : Pt → Array Value → Addr → Pt → Prop) : Prop :=
  ∀ (m : MethodId) (meth : Method) (c : Code) (A : Pt) (g : JFrame) (ig : Instr) (mk : MethodId) (a : Array Value),
    Stand p l e R s m sargs below meth c A.U A.locs A.cells A.slots → g.method = m → g.locals.size = c.maxLocals → decode c.code g.pc = .ok (ig, len) →
    2 * g.monitorRoom + (g.stack.map fun v => v.category).sum ≤ W9 → A.U.methodNamed? y = some mk → Pre A a →
    (∃ (v : Option Value) (B : Pt), Stand p l e R s m sargs below meth c B.U B.locs B.cells B.slots ∧ Post A a v B ∧
      Steps p.tables e below (doInvoke e (A.U.setTop g) [] mk a).1 (B.U.setTop { g with pc := g.pc + len, stack := v.toList ++ g.stack })) ∨
    (∃ (q : Addr) (B : Pt), Stand p l e R s m sargs below meth c B.U B.locs B.cells B.slots ∧ PostX A a q B ∧
      Steps p.tables e below (doInvoke e (A.U.setTop g) [] mk a).1 ((B.U.setTop g).pushFrame (.throwing q)))
section Payer
variable {l : Launch} {R : Room} {p : Program} {e : Env} {below : List Frame} {s : State} {sargs : Array Value} {y : MethodName} {len W9 : Nat}
theorem vx_back {ws : List Cond} {rm : Room} {Pc : Array Value → State → Prop} {Qc : Array Value → State → Outcome → State → Prop} {XC : String → State → State → Prop} {mc ms : Nat} {free : Addr → Prop} {bytes : ByteArray} {maxL : Nat} {ret : Option FieldType}
    (hM : vx_Met l y ws rm Pc Qc XC mc ms free) (hblind : FrameBlind Pc) (hrc : rm.cells = mc) (hrs : rm.slots = ms)
    (hframes : rm.frames + 1 ≤ R.frames) (hlocals : W9 + (maxL + 11) + rm.locals ≤ R.locals)
    (hws : ∀ w ∈ ws, ∀ a' U, s.WarmedH U.vm → w.before a' U = true) (hcode : Cond.code y bytes maxL ret ∈ ws) (hinit : ∀ a' U, s.WarmedH U.vm → (Cond.initialized y.cls).before a' U = true) :
    vx_Back l R p e below s sargs y len W9 (PreOf R mc ms Pc) (PostOf Qc mc ms free) (vx_Post XC mc ms free) := by
  intro m meth c A g ig mk a X hg hsize hdg hW hn hp
  have h1 : (headSpec ws rm).pre.before a A.U = true := atoms_intro fun w hw => hws w hw _ _ X.warmed
  have h2 : (Cond.code y bytes maxL ret).before a A.U = true := hws _ hcode _ _ X.warmed
  have h3 : (Cond.initialized y.cls).before a A.U = true := hinit _ _ X.warmed
  have h4 : A.cells + (headSpec ws rm).room.cells ≤ R.cells := by rw [show (headSpec ws rm).room.cells = mc from hrc]; exact hp.1
  have h5 : A.slots + (headSpec ws rm).room.slots ≤ R.slots := by rw [show (headSpec ws rm).room.slots = ms from hrs]; exact hp.2.1
  have hPc : Pc a (A.U.calling g mk a) := hblind _ _ _ _ hp.2.2
  obtain ⟨U, Ls, c0, s0⟩ := A
  dsimp only [Pt.U, Pt.locs, Pt.cells, Pt.slots] at h1 h2 h3 h4 h5 X hn hPc ⊢
  obtain ⟨methY, cY, hmY, hcY, -, hlY, -, -, -, -⟩ := Cond.code_spec hn h2
  obtain ⟨kY, hkY, -⟩ := className_of_methodNamed hn
  have hinitY : kY.init = .initialized := Cond.initialized_spec (findClass_of_methodNamed hn) hkY h3
  have h : At U g.method c below := by rw [hg]; exact X.here
  have hlocals9 : W9 + (maxL + 11) + (headSpec ws rm).room.locals ≤ R.locals := hlocals
  have happ : (headSpec ws rm).appliesLoose y e.platform (U.calling g mk a) = true :=
    Spec.appliesLoose_calling (g := g) h hdg hn hkY hinitY
      (X.room_calling (g := g) (R' := (headSpec ws rm).room) hsize hmY hcY hframes (by rw [hlY]; omega) h4 h5) h1
  obtain ⟨mid, hmid⟩ := h.above
  have hfr : (U.setTop g).frames = (.java g :: mid) ++ below := by rw [State.frames_setTop' g h.top, hmid]; rfl
  obtain ⟨o, s₂, hsteps, -, hend, hq⟩ := Steps.callFree hM p X.admits X.cas X.clock (acts := []) hfr happ hPc trivial
  have hq' : vx_Q Qc XC mc ms free a (U.calling g mk a) o s₂ := hq
  rw [State.frames_setTop' g h.top] at hend
  obtain ⟨g₀, hg0⟩ := Option.isSome_iff_exists.mp h.top
  obtain ⟨r, hr⟩ := State.topJava?_eq_some.mp hg0
  have hr' : (({ U with heap := s₂.heap, slotsUsed := s₂.slotsUsed } : State).setVm s₂.vm).frames = .java g₀ :: r := hr
  rcases hq' with ⟨hqc, L, hfe, hL⟩ | ⟨q, rfl, E, ce, L, hx, hce, hcv, hcl, hW₂, hsm, hL⟩
  · obtain ⟨⟨v, rfl⟩, hW₂, e2, q2, q3, q4, q5, q6⟩ := id hfe
    have e3 : s₂ = ({ (U.calling g mk a).setFrames s₂.frames with heap := s₂.heap, slotsUsed := s₂.slotsUsed } : State).setVm s₂.vm := by
      have : s₂ = ({ s₂ with vm := (U.calling g mk a).vm } : State).setVm s₂.vm := rfl
      rw [e2] at this
      exact this
    obtain ⟨c₂, i₂, len₂, hc₂, hd₂, hf₂⟩ := hend
    have hW' : U.WarmedH s₂.vm := hW₂
    have hcc : c₂ = c := by
      have h1 : s₂.code? g.method = U.code? g.method := by
        rw [State.code?_eq, State.code?_eq, hW'.alike.method?]
      exact Option.some.inj (hc₂.symm.trans (h1.trans h.code))
    subst hcc
    have hlen : len₂ = len := by rw [hdg] at hd₂; cases hd₂; rfl
    subst hlen
    have hs₂ : s₂ = (({ U with heap := s₂.heap, slotsUsed := s₂.slotsUsed } : State).setVm s₂.vm).setTop { g with pc := g.pc + len₂, stack := v.toList ++ g.stack } := by
      refine e3.trans ?_
      rw [hf₂, State.calling_eq h.top, State.setFrames_setFrames, State.setTop_of_frames _ hr', hr]
      rfl
    have hsame : U.sameButNew ({ U with heap := s₂.heap, slotsUsed := s₂.slotsUsed } : State) L mc ms := by
      refine ⟨?_, q2, q3, q4, q5, q6⟩
      obtain ⟨t, ht, -⟩ := State.frames_cons hr
      show ({ U with heap := s₂.heap, slotsUsed := s₂.slotsUsed } : State) = { U.setFrames U.frames with heap := s₂.heap, slotsUsed := s₂.slotsUsed }
      rw [State.setFrames_self ht]
    subst hg
    refine Or.inl ⟨v, ⟨(({ U with heap := s₂.heap, slotsUsed := s₂.slotsUsed } : State).setVm s₂.vm), Ls ++ L, c0 + mc, s0 + ms⟩,
      ⟨X.admits, X.cas, X.clock, X.frames, X.room, X.hears, X.method, X.code, (X.here.setHeapUsed s₂.heap s₂.slotsUsed).setVm hW'.alike, X.tail, State.WarmedH.trans X.warmed hW', X.limits, X.bytes, X.same.trans (hsame.setVm s.vm)⟩,
      ⟨g, mk, s₂, L, rfl, rfl, hqc, rfl, hL, rfl, rfl⟩, ?_⟩
    show Steps p.tables e below _ ((({ U with heap := s₂.heap, slotsUsed := s₂.slotsUsed } : State).setVm s₂.vm).setTop { g with pc := g.pc + len₂, stack := v.toList ++ g.stack })
    rw [← hs₂]
    exact hsteps
  · obtain ⟨e2, q2, q3, q4, q5, q6⟩ := id hsm
    have e3 : s₂ = ({ (U.calling g mk a).setFrames s₂.frames with heap := s₂.heap, slotsUsed := s₂.slotsUsed } : State).setVm s₂.vm := by
      have : s₂ = ({ s₂ with vm := (U.calling g mk a).vm } : State).setVm s₂.vm := rfl
      rw [e2] at this
      exact this
    have hf₂ : s₂.frames = .throwing q :: .java g :: U.frames.tail := hend
    have hW' : U.WarmedH s₂.vm := hW₂
    have hs₂ : s₂ = ((({ U with heap := s₂.heap, slotsUsed := s₂.slotsUsed } : State).setVm s₂.vm).setTop g).pushFrame (.throwing q) := by
      refine e3.trans ?_
      rw [hf₂, State.calling_eq h.top, State.setFrames_setFrames, State.pushFrame, State.frames_setTop _ hr', State.setTop_of_frames _ hr', State.setFrames_setFrames, hr]
      rfl
    have hsame : U.sameButNew ({ U with heap := s₂.heap, slotsUsed := s₂.slotsUsed } : State) L mc ms := by
      refine ⟨?_, q2, q3, q4, q5, q6⟩
      obtain ⟨t, ht, -⟩ := State.frames_cons hr
      show ({ U with heap := s₂.heap, slotsUsed := s₂.slotsUsed } : State) = { U.setFrames U.frames with heap := s₂.heap, slotsUsed := s₂.slotsUsed }
      rw [State.setFrames_self ht]
    subst hg
    refine Or.inr ⟨q, ⟨(({ U with heap := s₂.heap, slotsUsed := s₂.slotsUsed } : State).setVm s₂.vm), Ls ++ L, c0 + mc, s0 + ms⟩,
      ⟨X.admits, X.cas, X.clock, X.frames, X.room, X.hears, X.method, X.code, (X.here.setHeapUsed s₂.heap s₂.slotsUsed).setVm hW'.alike, X.tail, State.WarmedH.trans X.warmed hW', X.limits, X.bytes, X.same.trans (hsame.setVm s.vm)⟩,
      ⟨g, mk, s₂, L, E, ce, rfl, rfl, hx, hce, hcv, hcl, rfl, hL, rfl, rfl⟩, ?_⟩
    show Steps p.tables e below _ (((({ U with heap := s₂.heap, slotsUsed := s₂.slotsUsed } : State).setVm s₂.vm).setTop g).pushFrame (.throwing q))
    rw [← hs₂]
    exact hsteps
end Payer
section Calls
variable {p : Program} {l : Launch} {e : Env} {R : Room} {s : State} {m : MethodId} {args : Array Value} {below : List Frame} {meth : Method} {c : Code} {T : State} {locs : List Loc} {cells slots : Nat}
theorem vx_callV (X : Stand p l e R s m args below meth c T locs cells slots) (hexec : p.tables.exec = Jvm.exec) {own C : String} {index : Nat} {y : MethodName} {bytes : ByteArray} {maxL : Nat} {ret : Option FieldType}
    (hown : s.vm.findClass own = some m.cls) (hlink : (Cond.methodLink own index y).before args s = true) (hinst : (Cond.instanceMethod y).before args s = true) (hsel : (Cond.selects C y y).before args s = true)
    (hcode : (Cond.code y bytes maxL ret).before args s = true) (hy : y.cls ≠ "java/lang/invoke/MethodHandle" ∧ y.cls ≠ "java/lang/invoke/VarHandle")
    {W9 : Nat} {Pre : Pt → Array Value → Prop} {Post : Pt → Array Value → Option Value → Pt → Prop} {PostX : Pt → Array Value → Addr → Pt → Prop} (hK : vx_Back l R p e below s args y 3 W9 Pre Post PostX)
    {b : Addr} {cellB : Cell} (hcell : T.heap[b]? = some cellB) (hobj : cellB.vm.isStatics = false) (hcls : s.vm.findClass C = some cellB.cls)
    {g : JFrame} (hg : g.method = m) (hsize : g.locals.size = c.maxLocals) {argsL rest : List Value} (hlen : ∀ sig, parseMethodDescriptor y.desc = some sig → argsL.length = sig.parameters.length)
    (hstack : g.stack = argsL.reverse ++ .ref b :: rest) (hW : 2 * g.monitorRoom + (rest.map fun v => v.category).sum ≤ W9) (hdg : decode c.code g.pc = .ok (.invokevirtual index, 3))
    (hpre : ∀ vm₁, s.WarmedH vm₁ → Pre ⟨T.setVm vm₁, locs, cells, slots⟩ (Value.ref b :: argsL).toArray) :
    (∃ (v : Option Value) (vm₁ : Vm) (B : Pt), s.WarmedH vm₁ ∧ Stand p l e R s m args below meth c B.U B.locs B.cells B.slots ∧ Post ⟨T.setVm vm₁, locs, cells, slots⟩ (Value.ref b :: argsL).toArray v B ∧
      ∀ target, Steps p.tables e below (B.U.setTop { g with pc := g.pc + 3, stack := v.toList ++ rest }) target → Steps p.tables e below (T.setTop g) target) ∨
    (∃ (q : Addr) (vm₁ : Vm) (B : Pt), s.WarmedH vm₁ ∧ Stand p l e R s m args below meth c B.U B.locs B.cells B.slots ∧ PostX ⟨T.setVm vm₁, locs, cells, slots⟩ (Value.ref b :: argsL).toArray q B ∧
      Steps p.tables e below (T.setTop g) ((B.U.setTop { g with stack := rest }).pushFrame (.throwing q))) := by
  obtain ⟨mk, methM, hnamed, hmethM, hstM, habM⟩ := Cond.instanceMethod_spec hinst
  obtain ⟨methM', cM, hmethM', -, -, -, -, -, -, hsigM⟩ := Cond.code_spec hnamed hcode
  cases hmethM.symm.trans hmethM'
  obtain ⟨c2, r2, m2, q1, q2, q3, q4, kP, hkP, hkPi⟩ := Cond.selects_spec hsel
  cases hcls.symm.trans q1
  cases (State.methodFound?_of_named hnamed hy).symm.trans q2
  cases hnamed.symm.trans q3
  have hselP : selectMethod e.platform s.vm cellB.cls mk = .method mk := by rw [Launch.admits_selectMethod X.admits]; exact q4
  obtain ⟨vm₁, X₁, hstep₁⟩ := X.invokevirtual hexec hown hlink hnamed hmethM hstM hkP hkPi hy (a := b) (cell := cellB) hcell
    (fun z h => by rw [h] at hobj; cases hobj) hselP hmethM habM hkP hkPi (g := g) hg (argsL := argsL) (rest := rest) (hlen _ hsigM) hstack hdg
  rcases hK m meth c ⟨T.setVm vm₁, locs, cells, slots⟩ { g with stack := rest } (.invokevirtual index) mk (Value.ref b :: argsL).toArray X₁ hg hsize hdg hW (X₁.named hnamed) (hpre vm₁ X₁.warmed) with ⟨v, B, X', hpost, hsteps⟩ | ⟨q, B, X', hpost, hsteps⟩
  · exact Or.inl ⟨v, vm₁, B, X₁.warmed, X', hpost, fun target h => hstep₁ _ fun acts => by rw [doInvoke_state]; exact hsteps.trans h⟩
  · exact Or.inr ⟨q, vm₁, B, X₁.warmed, X', hpost, hstep₁ _ fun acts => by rw [doInvoke_state]; exact hsteps⟩
theorem vx_callS (X : Stand p l e R s m args below meth c T locs cells slots) (hexec : p.tables.exec = Jvm.exec) {own : String} {index : Nat} {y : MethodName} {bytes : ByteArray} {maxL : Nat} {ret : Option FieldType}
    (hown : s.vm.findClass own = some m.cls) (hlink : (Cond.methodLink own index y).before args s = true) (hstat : (Cond.static y).before args s = true) (hinit : (Cond.initialized y.cls).before args s = true)
    (hcode : (Cond.code y bytes maxL ret).before args s = true) (hy : y.cls ≠ "java/lang/invoke/MethodHandle" ∧ y.cls ≠ "java/lang/invoke/VarHandle")
    {W9 : Nat} {Pre : Pt → Array Value → Prop} {Post : Pt → Array Value → Option Value → Pt → Prop} {PostX : Pt → Array Value → Addr → Pt → Prop} (hK : vx_Back l R p e below s args y 3 W9 Pre Post PostX)
    {g : JFrame} (hg : g.method = m) (hsize : g.locals.size = c.maxLocals) {argsL rest : List Value} (hlen : ∀ sig, parseMethodDescriptor y.desc = some sig → argsL.length = sig.parameters.length)
    (hstack : g.stack = argsL.reverse ++ rest) (hW : 2 * g.monitorRoom + (rest.map fun v => v.category).sum ≤ W9) (hdg : decode c.code g.pc = .ok (.invokestatic index, 3))
    (hpre : ∀ vm₁, s.WarmedH vm₁ → Pre ⟨T.setVm vm₁, locs, cells, slots⟩ argsL.toArray) :
    (∃ (v : Option Value) (vm₁ : Vm) (B : Pt), s.WarmedH vm₁ ∧ Stand p l e R s m args below meth c B.U B.locs B.cells B.slots ∧ Post ⟨T.setVm vm₁, locs, cells, slots⟩ argsL.toArray v B ∧
      ∀ target, Steps p.tables e below (B.U.setTop { g with pc := g.pc + 3, stack := v.toList ++ rest }) target → Steps p.tables e below (T.setTop g) target) ∨
    (∃ (q : Addr) (vm₁ : Vm) (B : Pt), s.WarmedH vm₁ ∧ Stand p l e R s m args below meth c B.U B.locs B.cells B.slots ∧ PostX ⟨T.setVm vm₁, locs, cells, slots⟩ argsL.toArray q B ∧
      Steps p.tables e below (T.setTop g) ((B.U.setTop { g with stack := rest }).pushFrame (.throwing q))) := by
  obtain ⟨mk, hnamed⟩ := Cond.code_named hcode
  obtain ⟨methM, cM, hmethM, -, -, -, -, -, -, hsigM⟩ := Cond.code_spec hnamed hcode
  have hstatic : methM.isStatic = true := Cond.static_spec hnamed hmethM hstat
  obtain ⟨kP, hkP, -⟩ := className_of_methodNamed hnamed
  have hinitP : kP.init = .initialized := Cond.initialized_spec (findClass_of_methodNamed hnamed) hkP hinit
  obtain ⟨vm₁, X₁, hstep₁⟩ := X.invokestatic hexec hown hlink hnamed hmethM hstatic hkP hinitP hy (g := g) hg (argsL := argsL) (rest := rest) (hlen _ hsigM) hstack hdg
  rcases hK m meth c ⟨T.setVm vm₁, locs, cells, slots⟩ { g with stack := rest } (.invokestatic index) mk argsL.toArray X₁ hg hsize hdg hW (X₁.named hnamed) (hpre vm₁ X₁.warmed) with ⟨v, B, X', hpost, hsteps⟩ | ⟨q, B, X', hpost, hsteps⟩
  · exact Or.inl ⟨v, vm₁, B, X₁.warmed, X', hpost, fun target h => hstep₁ _ fun acts => by rw [doInvoke_state]; exact hsteps.trans h⟩
  · exact Or.inr ⟨q, vm₁, B, X₁.warmed, X', hpost, hstep₁ _ fun acts => by rw [doInvoke_state]; exact hsteps⟩
end Calls
theorem vx_cls {s : State} {T : State} {vm₁ : Vm} {E : String} {k : ClassId} (hW : s.WarmedH vm₁) (h : (T.setVm vm₁).vm.findClass E = some k) : s.vm.findClass E = some k := by
  have h1 : vm₁.findClass E = some k := h
  rw [hW.alike.findClass] at h1
  exact h1
/-- the method's frame g, with q thrown over it -/
def vx_W (p : Program) (l : Launch) (e : Env) (R : Room) (s : State) (m : MethodId) (args : Array Value) (below : List Frame) (meth : Method) (c : Code) (H : Heap) (locs : List Loc) (cells slots : Nat) (Q : State → Prop) (g : JFrame) (q : Addr) : Prop :=
  ∀ T : State, T.heap = H → Stand p l e R s m args below meth c T locs cells slots → ∃ t, Steps p.tables e below ((T.setTop g).pushFrame (.throwing q)) t ∧ Q t
def vx_Run (p : Program) (l : Launch) (e : Env) (R : Room) (s : State) (m : MethodId) (args : Array Value) (below : List Frame) (meth : Method) (c : Code) (H : Heap) (locs : List Loc) (cells slots mc ms : Nat) (g : JFrame) (rest : List Value) (Qa : State → Outcome → State → Prop) (XC : String → State → State → Prop) (free : Addr → Prop) : Prop :=
  ∀ T : State, T.heap = H → Stand p l e R s m args below meth c T locs cells slots →
    (∃ (v : Option Value) (st₀ t T' : State) (L : List Loc), st₀.heap = H ∧ Stand p l e R s m args below meth c T' (locs ++ L) (cells + mc) (slots + ms) ∧ (∀ q ∈ L, free q.base) ∧ T'.heap = t.heap ∧ T'.vm = t.vm ∧ Qa st₀ (.returned v) t ∧
      Goes p e below T g T' { g with pc := g.pc + 3, stack := v.toList ++ rest }) ∨
    (∃ (q : Addr) (st₀ t T' : State) (L : List Loc) (E : String) (ce : Cell), st₀.heap = H ∧ Stand p l e R s m args below meth c T' (locs ++ L) (cells + mc) (slots + ms) ∧ (∀ z ∈ L, free z.base) ∧ T'.heap = t.heap ∧ T'.vm = t.vm ∧ XC E st₀ t ∧ t.heap[q]? = some ce ∧ ce.vm = .none ∧ s.vm.findClass E = some ce.cls ∧
      Steps p.tables e below (T.setTop g) ((T'.setTop { g with stack := rest }).pushFrame (.throwing q)))
def vx_X {S : Type} (px : S → Prop) (B : String → S → State → Prop) (A : Nat → Prop) : String → State → State → Prop := fun E st t => ∃ u : S, px u ∧ B E u t ∧ va_F A st t
section Runs
variable {p : Program} {l : Launch} {e : Env} {R : Room} {s : State} {m : MethodId} {args : Array Value} {below : List Frame} {meth : Method} {c : Code} {H : Heap} {locs : List Loc} {cells slots : Nat}
variable {y : MethodName} {bytes cc : ByteArray} {maxL nL mc ms n index : Nat} {ret : Option FieldType} {ws : List Cond} {rm : Room} {Pc : Array Value → State → Prop} {Qc : Array Value → State → Outcome → State → Prop} {XC : String → State → State → Prop} {free : Addr → Prop} {Ts : List Cond} {own C : String} {b : Addr} {As rest : List Value} {g : JFrame}
theorem vx_callBack (cb : CallB R s args own index y bytes maxL ret ws rm mc ms n) (hM : vx_Met l y ws rm Pc Qc XC mc ms free) (hbl : FrameBlind Pc) : vx_Back l R p e below s args y 3 8 (PreOf R mc ms Pc) (PostOf Qc mc ms free) (vx_Post XC mc ms free) := by
  obtain ⟨hrc, hrs, hfr, hlo, hws, hcw, -, hini, -⟩ := cb
  exact vx_back (bytes := bytes) (maxL := maxL) (ret := ret) hM hbl hrc hrs hfr hlo hws hcw (fun a' U hW => word_at hW (Or.inl (by first | rfl | simp [Cond.onTables, Cond.keeps, Cond.steady])) hini)
theorem vx_runV (S : CallFix p m c cc nL s args Ts own) (hM : vx_Met l y ws rm Pc Qc XC mc ms free) (cw : CallW R s args own C index y bytes maxL ret ws rm mc ms n) (hp : PreV s H C b Pc As)
    (hg : g.method = m) (hn : As.length = n) (hsize : g.locals.size = nL) (hstack : g.stack = As.reverse ++ .ref b :: rest) (hW : 2 * g.monitorRoom + (rest.map fun v => v.category).sum ≤ 8) (hdg : decode cc g.pc = .ok (.invokevirtual index, 3)) (hf : cells + mc ≤ R.cells ∧ slots + ms ≤ R.slots) :
    vx_Run p l e R s m args below meth c H locs cells slots mc ms g rest (Qc (Value.ref b :: As).toArray) XC free := by
  have hK : vx_Back l R p e below s args y 3 8 (PreOf R mc ms Pc) (PostOf Qc mc ms free) (vx_Post XC mc ms free) := vx_callBack cw.1 hM hp.1
  obtain ⟨⟨-, -, -, -, -, -, hcode, -, hy, hlen, hl⟩, hin, hse⟩ := cw
  obtain ⟨hx, hb, hml, ho, -⟩ := S
  obtain ⟨-, ⟨cellB, hcB, hoB, hclB⟩, hPc⟩ := hp
  intro T hT X
  rcases vx_callV X hx (C := C) (bytes := bytes) (maxL := maxL) (ret := ret) ho hl hin hse hcode hy hK (by rw [hT]; exact hcB) hoB hclB hg (hsize.trans hml.symm) (argsL := As) (rest := rest) (fun sig h => hn.trans (hlen sig h)) hstack hW (by rw [hb]; exact hdg)
    (fun vm₁ hW₁ => ⟨hf.1, hf.2, hPc (T.setVm vm₁) hT hW₁⟩) with ⟨v, vm₁, ⟨U', l2, c2, s2⟩, hW₁, X', ⟨g', mk, t, L, e1, e2, hq, h1, hL, h2, h3⟩, st⟩ | ⟨q, vm₁, ⟨U', l2, c2, s2⟩, hW₁, X', ⟨g', mk, t, L, E, ce, e1, e2, hq, hce, hcv, hcl, h1, hL, h2, h3⟩, st⟩
  · dsimp only [Pt.U, Pt.locs, Pt.cells, Pt.slots] at X' e1 e2 h1 h2 h3 st
    subst h1; subst h2; subst h3
    exact Or.inl ⟨v, (T.setVm vm₁).calling g' mk (Value.ref b :: As).toArray, t, U', L, hT, X', hL, e1, e2, hq, st⟩
  · dsimp only [Pt.U, Pt.locs, Pt.cells, Pt.slots] at X' e1 e2 h1 h2 h3 st hcl
    subst h1; subst h2; subst h3
    exact Or.inr ⟨q, (T.setVm vm₁).calling g' mk (Value.ref b :: As).toArray, t, U', L, E, ce, hT, X', hL, e1, e2, hq, hce, hcv, vx_cls hW₁ hcl, st⟩
theorem vx_runS (S : CallFix p m c cc nL s args Ts own) (hM : vx_Met l y ws rm Pc Qc XC mc ms free) (cw : CallB R s args own index y bytes maxL ret ws rm mc ms n ∧ (Cond.static y).before args s = true) (hp : PreS s H Pc As)
    (hg : g.method = m) (hn : As.length = n) (hsize : g.locals.size = nL) (hstack : g.stack = As.reverse ++ rest) (hW : 2 * g.monitorRoom + (rest.map fun v => v.category).sum ≤ 8) (hdg : decode cc g.pc = .ok (.invokestatic index, 3)) (hf : cells + mc ≤ R.cells ∧ slots + ms ≤ R.slots) :
    vx_Run p l e R s m args below meth c H locs cells slots mc ms g rest (Qc As.toArray) XC free := by
  have hK : vx_Back l R p e below s args y 3 8 (PreOf R mc ms Pc) (PostOf Qc mc ms free) (vx_Post XC mc ms free) := vx_callBack cw.1 hM hp.1
  obtain ⟨⟨-, -, -, -, -, -, hcode, hini, hy, hlen, hl⟩, hstt⟩ := cw
  obtain ⟨hx, hb, hml, ho, -⟩ := S
  intro T hT X
  rcases vx_callS X hx (bytes := bytes) (maxL := maxL) (ret := ret) ho hl hstt hini hcode hy hK hg (hsize.trans hml.symm) (argsL := As) (rest := rest) (fun sig h => hn.trans (hlen sig h)) hstack hW (by rw [hb]; exact hdg)
    (fun vm₁ hW₁ => ⟨hf.1, hf.2, hp.2 (T.setVm vm₁) hT hW₁⟩) with ⟨v, vm₁, ⟨U', l2, c2, s2⟩, hW₁, X', ⟨g', mk, t, L, e1, e2, hq, h1, hL, h2, h3⟩, st⟩ | ⟨q, vm₁, ⟨U', l2, c2, s2⟩, hW₁, X', ⟨g', mk, t, L, E, ce, e1, e2, hq, hce, hcv, hcl, h1, hL, h2, h3⟩, st⟩
  · dsimp only [Pt.U, Pt.locs, Pt.cells, Pt.slots] at X' e1 e2 h1 h2 h3 st
    subst h1; subst h2; subst h3
    exact Or.inl ⟨v, (T.setVm vm₁).calling g' mk As.toArray, t, U', L, hT, X', hL, e1, e2, hq, st⟩
  · dsimp only [Pt.U, Pt.locs, Pt.cells, Pt.slots] at X' e1 e2 h1 h2 h3 st hcl
    subst h1; subst h2; subst h3
    exact Or.inr ⟨q, (T.setVm vm₁).calling g' mk As.toArray, t, U', L, E, ce, hT, X', hL, e1, e2, hq, hce, hcv, vx_cls hW₁ hcl, st⟩
end Runs
section Rows
variable {p : Program} {l : Launch} {e : Env} {R : Room} {s : State} {m : MethodId} {args : Array Value} {below : List Frame} {meth : Method} {c : Code} {H : Heap} {locs : List Loc} {cells slots : Nat} {Q : State → Prop}
variable {mc ms : Nat} {free : Addr → Prop} {A0 A1 : Nat → Prop} {H0 : Heap} {a : Array Value} {pc : Nat} {ls : Array Slot} {st0 rest : List Value}
theorem vx_keep {st₀ t T' : State} {L : List Loc} (h0 : st₀.heap = H) (e1 : T'.heap = t.heap) (hS : va_S A0 H0 H locs) (hA : ∀ q, q < H.size → A1 q → A0 q) (hf : ∀ q, free q → A0 q) (hL : ∀ q ∈ L, free q.base) (hF : va_F A1 st₀ t) :
    H.size ≤ T'.heap.size ∧ (∀ q : Nat, q < H.size → ¬ A1 q → T'.heap[q]? = H[q]?) ∧ va_S A0 H0 T'.heap (locs ++ L) := by
  obtain ⟨hz, hk⟩ := hF
  rw [h0] at hz hk
  exact ⟨by rw [e1]; exact hz, fun q h1 h2 => by rw [e1]; exact hk q h1 h2,
    ⟨Nat.le_trans hS.1 (by rw [e1]; exact hz), fun q h1 h2 => by rw [e1, hk q (Nat.lt_of_lt_of_le h1 hS.1) (fun z => h2 (hA q (Nat.lt_of_lt_of_le h1 hS.1) z))]; exact hS.2.1 q h1 h2, fun q hq => by
      rcases List.mem_append.mp hq with h | h
      · exact hS.2.2 q h
      · exact hf _ (hL q h)⟩⟩
theorem vx_calli {S SX : Type} {post : Int32 → S → Prop} {px : SX → Prop} {B : S → State → Prop} {BX : String → SX → State → Prop} {AX : Nat → Prop} (hr : vx_Run p l e R s m args below meth c H locs cells slots mc ms (F0 m pc ls st0) rest (va_Qi post B A1 a) (vx_X px BX AX) free) (hS : va_S A0 H0 H locs) (hA : ∀ q, q < H.size → A1 q → A0 q) (hf : ∀ q, free q → A0 q) (hAX : ∀ q, q < H.size → AX q → A0 q)
    (kx : ∀ (E : String) (ce : Cell) (q9 : Addr) (u : SX) (t : State) (H1 : Heap) (locs1 : List Loc), t.heap = H1 → s.vm.Alike t.vm → px u → BX E u t → H.size ≤ H1.size → (∀ q : Nat, q < H.size → ¬ AX q → H1[q]? = H[q]?) → va_S A0 H0 H1 locs1 → H1[q9]? = some ce → ce.vm = .none → s.vm.findClass E = some ce.cls → vx_W p l e R s m args below meth c H1 locs1 (cells + mc) (slots + ms) Q (F0 m pc ls rest) q9)
    (kk : ∀ (r : Int32) (u : S) (t : State) (H1 : Heap) (locs1 : List Loc), t.heap = H1 → s.vm.Alike t.vm → post r u → B u t → H.size ≤ H1.size → (∀ q : Nat, q < H.size → ¬ A1 q → H1[q]? = H[q]?) → va_S A0 H0 H1 locs1 → W p l e R s m args below meth c H1 locs1 (cells + mc) (slots + ms) Q (F0 m (pc + 3) ls (.int r :: rest))) : W p l e R s m args below meth c H locs cells slots Q (F0 m pc ls st0) := by
  intro T hT X
  rcases hr T hT X with ⟨v, st₀, t, T', L, h0, X', hL, e1, e2, ⟨⟨r, u, hv, hp, hb⟩, hF⟩, st⟩ | ⟨q, st₀, t, T', L, E, ce, h0, X', hL, e1, e2, ⟨u, hp, hb, hF⟩, hce, hcv, hcl, st⟩
  · cases hv
    obtain ⟨k1, k2, k3⟩ := vx_keep h0 e1 hS hA hf hL hF
    obtain ⟨t2, a1, b1⟩ := kk r u t T'.heap (locs ++ L) e1.symm (by rw [← e2]; exact X'.warmed.alike) hp hb k1 k2 k3 T' rfl X'
    exact ⟨t2, st t2 a1, b1⟩
  · obtain ⟨k1, k2, k3⟩ := vx_keep h0 e1 hS hAX hf hL hF
    obtain ⟨t2, a1, b1⟩ := kx E ce q u t T'.heap (locs ++ L) e1.symm (by rw [← e2]; exact X'.warmed.alike) hp hb k1 k2 k3 (by rw [e1]; exact hce) hcv hcl T' rfl X'
    exact ⟨t2, st.trans a1, b1⟩
theorem vx_calll {S SX : Type} {post : Int64 → S → Prop} {px : SX → Prop} {B : S → State → Prop} {BX : String → SX → State → Prop} {AX : Nat → Prop} (hr : vx_Run p l e R s m args below meth c H locs cells slots mc ms (F0 m pc ls st0) rest (va_Ql post B A1 a) (vx_X px BX AX) free) (hS : va_S A0 H0 H locs) (hA : ∀ q, q < H.size → A1 q → A0 q) (hf : ∀ q, free q → A0 q) (hAX : ∀ q, q < H.size → AX q → A0 q)
    (kx : ∀ (E : String) (ce : Cell) (q9 : Addr) (u : SX) (t : State) (H1 : Heap) (locs1 : List Loc), t.heap = H1 → s.vm.Alike t.vm → px u → BX E u t → H.size ≤ H1.size → (∀ q : Nat, q < H.size → ¬ AX q → H1[q]? = H[q]?) → va_S A0 H0 H1 locs1 → H1[q9]? = some ce → ce.vm = .none → s.vm.findClass E = some ce.cls → vx_W p l e R s m args below meth c H1 locs1 (cells + mc) (slots + ms) Q (F0 m pc ls rest) q9)
    (kk : ∀ (r : Int64) (u : S) (t : State) (H1 : Heap) (locs1 : List Loc), t.heap = H1 → s.vm.Alike t.vm → post r u → B u t → H.size ≤ H1.size → (∀ q : Nat, q < H.size → ¬ A1 q → H1[q]? = H[q]?) → va_S A0 H0 H1 locs1 → W p l e R s m args below meth c H1 locs1 (cells + mc) (slots + ms) Q (F0 m (pc + 3) ls (.long r :: rest))) : W p l e R s m args below meth c H locs cells slots Q (F0 m pc ls st0) := by
  intro T hT X
  rcases hr T hT X with ⟨v, st₀, t, T', L, h0, X', hL, e1, e2, ⟨⟨r, u, hv, hp, hb⟩, hF⟩, st⟩ | ⟨q, st₀, t, T', L, E, ce, h0, X', hL, e1, e2, ⟨u, hp, hb, hF⟩, hce, hcv, hcl, st⟩
  · cases hv
    obtain ⟨k1, k2, k3⟩ := vx_keep h0 e1 hS hA hf hL hF
    obtain ⟨t2, a1, b1⟩ := kk r u t T'.heap (locs ++ L) e1.symm (by rw [← e2]; exact X'.warmed.alike) hp hb k1 k2 k3 T' rfl X'
    exact ⟨t2, st t2 a1, b1⟩
  · obtain ⟨k1, k2, k3⟩ := vx_keep h0 e1 hS hAX hf hL hF
    obtain ⟨t2, a1, b1⟩ := kx E ce q u t T'.heap (locs ++ L) e1.symm (by rw [← e2]; exact X'.warmed.alike) hp hb k1 k2 k3 (by rw [e1]; exact hce) hcv hcl T' rfl X'
    exact ⟨t2, st.trans a1, b1⟩
theorem vx_callf {S SX : Type} {post : UInt32 → S → Prop} {px : SX → Prop} {B : S → State → Prop} {BX : String → SX → State → Prop} {AX : Nat → Prop} (hr : vx_Run p l e R s m args below meth c H locs cells slots mc ms (F0 m pc ls st0) rest (va_Qf post B A1 a) (vx_X px BX AX) free) (hS : va_S A0 H0 H locs) (hA : ∀ q, q < H.size → A1 q → A0 q) (hf : ∀ q, free q → A0 q) (hAX : ∀ q, q < H.size → AX q → A0 q)
    (kx : ∀ (E : String) (ce : Cell) (q9 : Addr) (u : SX) (t : State) (H1 : Heap) (locs1 : List Loc), t.heap = H1 → s.vm.Alike t.vm → px u → BX E u t → H.size ≤ H1.size → (∀ q : Nat, q < H.size → ¬ AX q → H1[q]? = H[q]?) → va_S A0 H0 H1 locs1 → H1[q9]? = some ce → ce.vm = .none → s.vm.findClass E = some ce.cls → vx_W p l e R s m args below meth c H1 locs1 (cells + mc) (slots + ms) Q (F0 m pc ls rest) q9)
    (kk : ∀ (r : UInt32) (u : S) (t : State) (H1 : Heap) (locs1 : List Loc), t.heap = H1 → s.vm.Alike t.vm → post r u → B u t → H.size ≤ H1.size → (∀ q : Nat, q < H.size → ¬ A1 q → H1[q]? = H[q]?) → va_S A0 H0 H1 locs1 → W p l e R s m args below meth c H1 locs1 (cells + mc) (slots + ms) Q (F0 m (pc + 3) ls (.float r :: rest))) : W p l e R s m args below meth c H locs cells slots Q (F0 m pc ls st0) := by
  intro T hT X
  rcases hr T hT X with ⟨v, st₀, t, T', L, h0, X', hL, e1, e2, ⟨⟨r, u, hv, hp, hb⟩, hF⟩, st⟩ | ⟨q, st₀, t, T', L, E, ce, h0, X', hL, e1, e2, ⟨u, hp, hb, hF⟩, hce, hcv, hcl, st⟩
  · cases hv
    obtain ⟨k1, k2, k3⟩ := vx_keep h0 e1 hS hA hf hL hF
    obtain ⟨t2, a1, b1⟩ := kk r u t T'.heap (locs ++ L) e1.symm (by rw [← e2]; exact X'.warmed.alike) hp hb k1 k2 k3 T' rfl X'
    exact ⟨t2, st t2 a1, b1⟩
  · obtain ⟨k1, k2, k3⟩ := vx_keep h0 e1 hS hAX hf hL hF
    obtain ⟨t2, a1, b1⟩ := kx E ce q u t T'.heap (locs ++ L) e1.symm (by rw [← e2]; exact X'.warmed.alike) hp hb k1 k2 k3 (by rw [e1]; exact hce) hcv hcl T' rfl X'
    exact ⟨t2, st.trans a1, b1⟩
theorem vx_calld {S SX : Type} {post : UInt64 → S → Prop} {px : SX → Prop} {B : S → State → Prop} {BX : String → SX → State → Prop} {AX : Nat → Prop} (hr : vx_Run p l e R s m args below meth c H locs cells slots mc ms (F0 m pc ls st0) rest (va_Qd post B A1 a) (vx_X px BX AX) free) (hS : va_S A0 H0 H locs) (hA : ∀ q, q < H.size → A1 q → A0 q) (hf : ∀ q, free q → A0 q) (hAX : ∀ q, q < H.size → AX q → A0 q)
    (kx : ∀ (E : String) (ce : Cell) (q9 : Addr) (u : SX) (t : State) (H1 : Heap) (locs1 : List Loc), t.heap = H1 → s.vm.Alike t.vm → px u → BX E u t → H.size ≤ H1.size → (∀ q : Nat, q < H.size → ¬ AX q → H1[q]? = H[q]?) → va_S A0 H0 H1 locs1 → H1[q9]? = some ce → ce.vm = .none → s.vm.findClass E = some ce.cls → vx_W p l e R s m args below meth c H1 locs1 (cells + mc) (slots + ms) Q (F0 m pc ls rest) q9)
    (kk : ∀ (r : UInt64) (u : S) (t : State) (H1 : Heap) (locs1 : List Loc), t.heap = H1 → s.vm.Alike t.vm → post r u → B u t → H.size ≤ H1.size → (∀ q : Nat, q < H.size → ¬ A1 q → H1[q]? = H[q]?) → va_S A0 H0 H1 locs1 → W p l e R s m args below meth c H1 locs1 (cells + mc) (slots + ms) Q (F0 m (pc + 3) ls (.double r :: rest))) : W p l e R s m args below meth c H locs cells slots Q (F0 m pc ls st0) := by
  intro T hT X
  rcases hr T hT X with ⟨v, st₀, t, T', L, h0, X', hL, e1, e2, ⟨⟨r, u, hv, hp, hb⟩, hF⟩, st⟩ | ⟨q, st₀, t, T', L, E, ce, h0, X', hL, e1, e2, ⟨u, hp, hb, hF⟩, hce, hcv, hcl, st⟩
  · cases hv
    obtain ⟨k1, k2, k3⟩ := vx_keep h0 e1 hS hA hf hL hF
    obtain ⟨t2, a1, b1⟩ := kk r u t T'.heap (locs ++ L) e1.symm (by rw [← e2]; exact X'.warmed.alike) hp hb k1 k2 k3 T' rfl X'
    exact ⟨t2, st t2 a1, b1⟩
  · obtain ⟨k1, k2, k3⟩ := vx_keep h0 e1 hS hAX hf hL hF
    obtain ⟨t2, a1, b1⟩ := kx E ce q u t T'.heap (locs ++ L) e1.symm (by rw [← e2]; exact X'.warmed.alike) hp hb k1 k2 k3 (by rw [e1]; exact hce) hcv hcl T' rfl X'
    exact ⟨t2, st.trans a1, b1⟩
theorem vx_callv {S SX : Type} {post : S → Prop} {px : SX → Prop} {B : S → State → Prop} {BX : String → SX → State → Prop} {AX : Nat → Prop} (hr : vx_Run p l e R s m args below meth c H locs cells slots mc ms (F0 m pc ls st0) rest (va_Qv post B A1 a) (vx_X px BX AX) free) (hS : va_S A0 H0 H locs) (hA : ∀ q, q < H.size → A1 q → A0 q) (hf : ∀ q, free q → A0 q) (hAX : ∀ q, q < H.size → AX q → A0 q)
    (kx : ∀ (E : String) (ce : Cell) (q9 : Addr) (u : SX) (t : State) (H1 : Heap) (locs1 : List Loc), t.heap = H1 → s.vm.Alike t.vm → px u → BX E u t → H.size ≤ H1.size → (∀ q : Nat, q < H.size → ¬ AX q → H1[q]? = H[q]?) → va_S A0 H0 H1 locs1 → H1[q9]? = some ce → ce.vm = .none → s.vm.findClass E = some ce.cls → vx_W p l e R s m args below meth c H1 locs1 (cells + mc) (slots + ms) Q (F0 m pc ls rest) q9)
    (kk : ∀ (u : S) (t : State) (H1 : Heap) (locs1 : List Loc), t.heap = H1 → s.vm.Alike t.vm → post u → B u t → H.size ≤ H1.size → (∀ q : Nat, q < H.size → ¬ A1 q → H1[q]? = H[q]?) → va_S A0 H0 H1 locs1 → W p l e R s m args below meth c H1 locs1 (cells + mc) (slots + ms) Q (F0 m (pc + 3) ls (rest))) : W p l e R s m args below meth c H locs cells slots Q (F0 m pc ls st0) := by
  intro T hT X
  rcases hr T hT X with ⟨v, st₀, t, T', L, h0, X', hL, e1, e2, ⟨⟨u, hv, hp, hb⟩, hF⟩, st⟩ | ⟨q, st₀, t, T', L, E, ce, h0, X', hL, e1, e2, ⟨u, hp, hb, hF⟩, hce, hcv, hcl, st⟩
  · cases hv
    obtain ⟨k1, k2, k3⟩ := vx_keep h0 e1 hS hA hf hL hF
    obtain ⟨t2, a1, b1⟩ := kk u t T'.heap (locs ++ L) e1.symm (by rw [← e2]; exact X'.warmed.alike) hp hb k1 k2 k3 T' rfl X'
    exact ⟨t2, st t2 a1, b1⟩
  · obtain ⟨k1, k2, k3⟩ := vx_keep h0 e1 hS hAX hf hL hF
    obtain ⟨t2, a1, b1⟩ := kx E ce q u t T'.heap (locs ++ L) e1.symm (by rw [← e2]; exact X'.warmed.alike) hp hb k1 k2 k3 (by rw [e1]; exact hce) hcv hcl T' rfl X'
    exact ⟨t2, st.trans a1, b1⟩
/-- caught by the row x of this method's table; the rows ahead don't take it -/
theorem vx_catch {own name : String} {E : String} {ce : Cell} {q : Addr} (hown : s.vm.findClass own = some m.cls) (pre : List ExceptionTableEntry) (x : ExceptionTableEntry) (suf : List ExceptionTableEntry) (hsplit : c.exceptionTable.toList = pre ++ x :: suf)
    (hpass : ∀ z ∈ pre, covers z pc = false ∨ (z.catchType ≠ 0 ∧ ∃ nm : String, (Cond.classLink own z.catchType nm).before args s = true ∧ va_Nc E nm s)) (hx : covers x pc = true) (h0 : x.catchType ≠ 0)
    (hlink : (Cond.classLink own x.catchType name).before args s = true) (hcast : (Cond.castable E name).before args s = true) (hcell : H[q]? = some ce) (hv : ce.vm = .none) (hcl : s.vm.findClass E = some ce.cls)
    (kk : W p l e R s m args below meth c H locs cells slots Q (F0 m x.handlerPc ls [.ref q])) : vx_W p l e R s m args below meth c H locs cells slots Q (F0 m pc ls rest) q := by
  intro T hT X
  have hpl : e.platform.magicAccessors = ({} : Platform).magicAccessors := by rw [X.admits.platform]
  obtain ⟨c3, c4, hc3, hc4, hasg⟩ := Cond.castable_spec hcast
  cases Option.some.inj (hc3.symm.trans hcl)
  obtain ⟨c5, hc5, hcl5⟩ := Cond.classLink_spec hown hlink e.platform hpl
  cases Option.some.inj (hc4.symm.trans hc5)
  obtain ⟨vm', X', st⟩ := X.thenCaughtThrough q (g := F0 m pc ls rest) rfl (Steps.refl _) (by rw [hT]; exact hcell) (by rw [hv]; rfl) (by obtain ⟨k9, h9, -⟩ := Vm.findClass_spec hcl; exact ⟨k9, h9⟩) pre x suf hsplit
    (fun z hz => by
      rcases hpass z hz with h | ⟨hz0, nm, hl1, hn1⟩
      · exact Or.inl h
      · obtain ⟨c6, hc6, hcl6⟩ := Cond.classLink_spec hown hl1 e.platform hpl
        obtain ⟨a8, b8, h1, h2, h3⟩ := hn1
        cases Option.some.inj (h1.symm.trans hcl)
        cases Option.some.inj (h2.symm.trans hc6)
        exact Or.inr ⟨hz0, _, hcl6, h3⟩) hx (Or.inr ⟨h0, c4, hcl5, hasg⟩)
  obtain ⟨t, a1, b1⟩ := kk (T.setVm vm') hT X'
  exact ⟨t, st.trans a1, b1⟩
end Rows
section Ends
variable {p : Program} {l : Launch} {e : Env} {R : Room} {s : State} {m : MethodId} {args : Array Value} {below : List Frame} {meth : Method} {c : Code} {H : Heap} {locs : List Loc} {cells slots : Nat} {Q : State → Prop}
variable {mc ms : Nat} {free : Addr → Prop} {A0 A1 : Nat → Prop} {H0 : Heap} {a : Array Value} {ls : Array Slot} {st0 rest : List Value}
variable {Qc : Array Value → State → Outcome → State → Prop} {XC : String → State → State → Prop}
/-- what a body that may throw owes at its end -/
def vx_MQ (below : List Frame) (Qc : Array Value → State → Outcome → State → Prop) (XC : String → State → State → Prop) (a : Array Value) (s : State) (mc ms : Nat) (free : Addr → Prop) : State → Prop := fun t =>
  ∃ o, t.status = .running ∧ Ended t below o ∧ vx_Q Qc XC mc ms free a s o t
theorem vx_ret {g : JFrame} {mc ms : Nat} (k : W p l e R s m args below meth c H locs cells slots (MQ below Qc args s mc ms free) g) : W p l e R s m args below meth c H locs cells slots (vx_MQ below Qc XC args s mc ms free) g := by
  intro T hT X
  obtain ⟨t, a1, o, b1, b2, b3, b4⟩ := k T hT X
  exact ⟨t, a1, o, b1, b2, Or.inl ⟨b3, b4⟩⟩
/-- not caught here: it goes on to the caller -/
theorem vx_widen {g : JFrame} {q : Addr} {k n : Nat} (h1 : cells ≤ k) (h2 : slots ≤ n) (kk : vx_W p l e R s m args below meth c H locs k n Q g q) : vx_W p l e R s m args below meth c H locs cells slots Q g q := fun T hT X => kk T hT (stand_widen X h1 h2)
theorem vx_out {pc : Nat} {E : String} {ce : Cell} {q : Addr} {mc ms : Nat} (hout : ∀ x ∈ c.exceptionTable.toList, covers x pc = false) (hlocks : meth.locks = false) (hcell : H[q]? = some ce) (hv : ce.vm = .none) (hcl : s.vm.findClass E = some ce.cls)
    (hx : ∀ t : State, t.heap = H → s.vm.Alike t.vm → XC E s t) (hf : ∀ z ∈ locs, free z.base) (hc : cells ≤ mc) (hs : slots ≤ ms) :
    vx_W p l e R s m args below meth c H locs cells slots (vx_MQ below Qc XC args s mc ms free) (F0 m pc ls rest) q := by
  intro T hT X
  obtain ⟨st1, hrun, hend, hW, hsm⟩ := X.leaveThrown q (g := F0 m pc ls rest) rfl rfl rfl hout hlocks
  have hcell9 : (T.setFrames (.throwing q :: below)).heap[q]? = some ce := by
    show T.heap[q]? = some ce
    rw [hT]; exact hcell
  exact ⟨_, st1, .threw q, hrun, hend, Or.inr ⟨q, rfl, E, ce, locs, hx _ hT hW.alike, hcell9, hv, hcl, hW, hsm.mono hc hs, hf⟩⟩
theorem vx_frame {U : State} {k n : Nat} (h : s.sameButNew ({ U with vm := s.vm } : State) locs k n) : s.heap.size ≤ U.heap.size ∧ ∀ q : Nat, q < s.heap.size → (∀ z ∈ locs, z.base ≠ q) → U.heap[q]? = s.heap[q]? := by
  obtain ⟨-, h2, -, -, -, h6⟩ := h
  refine ⟨h2, fun q hq hz => ?_⟩
  obtain ⟨c9, e1, e2, e3, e4⟩ := h6 q _ (Array.getElem?_eq_getElem hq)
  have hs : c9.slots = (s.heap[q]).slots := Array.ext_getElem? fun i => e4 i fun hm => hz _ hm rfl
  have h9 : c9 = s.heap[q] := by
    rw [hs] at e2
    exact e2
  have e5 : U.heap[q]? = some c9 := e1
  rw [e5, h9, Array.getElem?_eq_getElem hq]
/-- the words of a throw but the four that speak of the heap -/
def vx_no (w : Cond) : Bool := decide (w ≠ .isRef (.static Bundle.tN "UNASSIGNED_STACK" Bundle.steD)) && decide (w ≠ .isRef (.static Bundle.tN "SUPPRESSED_SENTINEL" Bundle.listD)) && decide (w ≠ .laysStatic Bundle.tN "UNASSIGNED_STACK" Bundle.steD) && decide (w ≠ .laysStatic Bundle.tN "SUPPRESSED_SENTINEL" Bundle.listD)
def vx_at0 (own : String) (ic : Nat) (X : String) (names : List String) : List Cond := (Bundle.ownAtoms0 own ic X names).filter vx_no
def vx_atS (own : String) (ic : Nat) (X : String) (names : List String) : List Cond := (Bundle.ownAtoms own ic X names).filter vx_no
/-- a word that the tables alone decide, or a good one -/
def vx_ot (w : Cond) : Bool := w.onTables || goodWord w
theorem vx_ot_at {args a' : Array Value} {s U : State} {w : Cond} (hW : s.WarmedH U.vm) (hvm : s.vm = U.vm) (hg : vx_ot w = true) (h : w.before args s = true) : w.before a' U = true := by
  simp only [vx_ot, Bool.or_eq_true] at hg
  rcases hg with hg | hg
  · exact va_tabs hg hvm h
  · exact word_at hW (good_of_word hg) h
/-- a list's words: the good ones out of the method's own list, the others by premises of their own -/
theorem vx_hat {args : Array Value} {s : State} {L B : List Cond} (h1 : ∀ w ∈ L.filter goodWord, w.before args s = true) (h2 : ∀ w ∈ L.filter (fun w => !goodWord w), w ∈ B) (h3 : ∀ w ∈ B, w.before args s = true) : ∀ w ∈ L, w.before args s = true := by
  intro w hw
  by_cases g : goodWord w = true
  · exact h1 w (List.mem_filter.mpr ⟨hw, g⟩)
  · refine h3 w (h2 w (List.mem_filter.mpr ⟨hw, ?_⟩))
    show (!goodWord w) = true
    cases hgw : goodWord w
    · rfl
    · exact absurd hgw g
theorem vx_c {args : Array Value} {s : State} {w : Cond} {B : List Cond} (h : w.before args s = true) (t : ∀ w ∈ B, w.before args s = true) : ∀ w' ∈ w :: B, w'.before args s = true := fun w' h' => (List.mem_cons.mp h').elim (fun e => by rw [e]; exact h) (t w')
theorem vx_n {args : Array Value} {s : State} : ∀ w ∈ ([] : List Cond), w.before args s = true := fun _ h => nomatch h
theorem vx_own {args : Array Value} {s : State} {L : List Cond} (h1 : ∀ w ∈ L.filter vx_no, w.before args s = true)
    (hU : (Cond.isRef (.static Bundle.tN "UNASSIGNED_STACK" Bundle.steD)).before args s = true) (hN : (Cond.isRef (.static Bundle.tN "SUPPRESSED_SENTINEL" Bundle.listD)).before args s = true)
    (lU : (Cond.laysStatic Bundle.tN "UNASSIGNED_STACK" Bundle.steD).before args s = true) (lN : (Cond.laysStatic Bundle.tN "SUPPRESSED_SENTINEL" Bundle.listD).before args s = true) : ∀ w ∈ L, w.before args s = true := by
  intro w hw
  by_cases e1 : w = .isRef (.static Bundle.tN "UNASSIGNED_STACK" Bundle.steD)
  · rw [e1]; exact hU
  · by_cases e2 : w = .isRef (.static Bundle.tN "SUPPRESSED_SENTINEL" Bundle.listD)
    · rw [e2]; exact hN
    · by_cases e3 : w = .laysStatic Bundle.tN "UNASSIGNED_STACK" Bundle.steD
      · rw [e3]; exact lU
      · by_cases e4 : w = .laysStatic Bundle.tN "SUPPRESSED_SENTINEL" Bundle.listD
        · rw [e4]; exact lN
        · exact h1 w (List.mem_filter.mpr ⟨hw, by unfold vx_no; rw [decide_eq_true e1, decide_eq_true e2, decide_eq_true e3, decide_eq_true e4]; rfl⟩)
/-- where a static field lies, its class's statics cell in H -/
def vx_L (C n d : String) (A : Nat → Prop) (U : State) (H : Heap) : Prop := ∃ (c : ClassId) (k : Class) (i : Nat) (f : Field) (a : Nat) (cell : Cell), U.vm.findClass C = some c ∧ U.fieldFound? C n d = some (c, k, i, f) ∧ f.isStatic = true ∧ k.statics = some a ∧ H[a]? = some cell ∧ cell.vm.isStatics = true ∧ cell.cls = c ∧ f.slot < cell.slots.size ∧ k.staticTypes[f.slot]? = some f.type ∧ ¬ A a
theorem vx_L.moved {C n d : String} {A : Nat → Prop} {u U : State} {H : Heap} (hvm : u.vm.Alike U.vm) (h : vx_L C n d A u H) : vx_L C n d A U H := by
  obtain ⟨c, k, i, f, a, cell, h1, h2, h3, h4, h5, h6, h7, h8, h9, h10⟩ := h
  obtain ⟨k', hi', he⟩ := State.fieldFound?_setVm hvm h2
  exact ⟨c, k', i, f, a, cell, by rw [hvm.findClass]; exact h1, hi', h3, by rw [he]; exact h4, h5, h6, h7, h8, by rw [he]; exact h9, h10⟩
theorem vx_L.kept {C n d : String} {A : Nat → Prop} {U : State} {H H1 : Heap} (h : vx_L C n d A U H) (hq : ∀ a : Nat, a < H.size → ¬ A a → H1[a]? = H[a]?) : vx_L C n d A U H1 := by
  obtain ⟨c, k, i, f, a, cell, h1, h2, h3, h4, h5, h6, h7, h8, h9, h10⟩ := h
  exact ⟨c, k, i, f, a, cell, h1, h2, h3, h4, by rw [hq a (Array.getElem?_eq_some_iff.mp h5).1 h10]; exact h5, h6, h7, h8, h9, h10⟩
theorem vx_L.narrow {C n d : String} {A B : Nat → Prop} {U : State} {H : Heap} (h : vx_L C n d A U H) (hAB : ∀ q, B q → A q) : vx_L C n d B U H := by
  obtain ⟨c, k, i, f, a, cell, h1, h2, h3, h4, h5, h6, h7, h8, h9, h10⟩ := h
  exact ⟨c, k, i, f, a, cell, h1, h2, h3, h4, h5, h6, h7, h8, h9, fun z => h10 (hAB _ z)⟩
theorem vx_L.word {C n d : String} {A : Nat → Prop} {s : State} {args : Array Value} (h : vx_L C n d A s s.heap) : (Cond.laysStatic C n d).before args s = true := by
  obtain ⟨c, k, i, f, a, cell, h1, h2, h3, h4, h5, h6, h7, h8, h9, -⟩ := h
  show (Cond.laysStatic C n d).holds args s none s [] = true
  exact Cond.laysStatic_of h1 h2 h3 h4 h5 h6 h7 h8 h9
/-- .. and what it holds: null or some reference -/
def vx_Zq (C n d : String) (A : Nat → Prop) (U : State) (H : Heap) : Prop := va_Zq C n d A U H ∧ vx_L C n d A U H
theorem vx_Zq.moved {C n d : String} {A : Nat → Prop} {u U : State} {H : Heap} (hvm : u.vm.Alike U.vm) (h : vx_Zq C n d A u H) : vx_Zq C n d A U H := ⟨va_Zq.moved hvm h.1, vx_L.moved hvm h.2⟩
theorem vx_Zq.kept {C n d : String} {A : Nat → Prop} {U : State} {H H1 : Heap} (h : vx_Zq C n d A U H) (hq : ∀ a : Nat, a < H.size → ¬ A a → H1[a]? = H[a]?) : vx_Zq C n d A U H1 := ⟨va_Zq.kept h.1 hq, vx_L.kept h.2 hq⟩
theorem vx_Zq.narrow {C n d : String} {A B : Nat → Prop} {U : State} {H : Heap} (h : vx_Zq C n d A U H) (hAB : ∀ q, B q → A q) : vx_Zq C n d B U H := ⟨va_Zq.narrow h.1 hAB, vx_L.narrow h.2 hAB⟩
theorem vx_Zqof {args : Array Value} {s : State} {C n d : String} {A : Nat → Prop} (hl : (Cond.laysStatic C n d).before args s = true) (hini : (Cond.initialized C).before args s = true) (h : (Cond.isRef (.static C n d)).before args s = true) (hA : ∀ a : Nat, a < s.heap.size → ¬ A a) : vx_Zq C n d A s s.heap := by
  refine ⟨va_Zqof hl hini h hA, ?_⟩
  obtain ⟨c, k, i, f, a, cell, h1, h2, h3, h4, h5, h6, h7, h8, h9⟩ := Cond.laysStatic_spec hl
  exact ⟨c, k, i, f, a, cell, h1, h2, h3, h4, h5, h6, h7, h8, h9, hA a (Array.getElem?_eq_some_iff.mp h5).1⟩
theorem vx_isRef {C n d : String} {v : Value} {A : Nat → Prop} {s : State} {args : Array Value} (h : va_Z C n d v A s s.heap) (hv : v.isRef = true) : (Cond.isRef (.static C n d)).before args s = true := by
  obtain ⟨cf, kf, fi, f, a, cell, h1, h2, h3, h4, h5, h6, h7, -⟩ := h
  have he : (Term.static C n d).eval args s none [] s = some v := by
    simp [Term.eval, State.fieldNamed?, h1, h2, h4, h5, h6, h7]
  simp only [Cond.before, Cond.holds, Cond.value, he]
  cases v <;> simp_all [Value.isRef]
theorem vx_isRefq {C n d : String} {A : Nat → Prop} {s : State} {args : Array Value} (h : va_Zq C n d A s s.heap) : (Cond.isRef (.static C n d)).before args s = true := by
  rcases h with h | ⟨t, h⟩
  · exact vx_isRef h rfl
  · exact vx_isRef h rfl
/-- the same frame, seen from here: as if the method were called anew in this heap -/
theorem vx_rebase {T : State} (X : Stand p l e R s m args below meth c T locs cells slots) {R' : Room} (hf : R'.frames ≤ R.frames) (hl : R'.locals ≤ R.locals) (hc : cells + R'.cells ≤ R.cells) (hs : slots + R'.slots ≤ R.slots) :
    Stand p l e R' ((T.setVm s.vm).setFrames (.invoking m args :: below)) m args below meth c T [] 0 0 := by
  have htop : (T.setVm s.vm).topJava?.isSome := X.here.top
  have hF : ((T.setVm s.vm).setFrames (.invoking m args :: below)).frames = .invoking m args :: below := State.frames_setFrames _ (State.cur_lt_of_top htop)
  obtain ⟨g₀, hg0⟩ := Option.isSome_iff_exists.mp htop
  obtain ⟨r, hr⟩ := State.topJava?_eq_some.mp hg0
  have hl9 : e.platform.stackLimits (T.setVm s.vm).me = e.platform.stackLimits s.me := X.limits
  have hb9 : (T.setVm s.vm).me.stackBytes = s.me.stackBytes := X.bytes
  refine ⟨X.admits, X.cas, X.clock, hF, ?_, X.hears, X.method, X.code, X.here, X.tail, X.warmed, ?_, ?_, ?_⟩
  · have h := X.room
    have hU : ((T.setVm s.vm).setFrames (.invoking m args :: below)).localsInUse = s.localsInUse := by
      rw [State.localsInUse_invoking hF (meth := meth) (c := c) X.method X.code, State.localsInUse_invoking X.frames X.method X.code]
    simp only [State.hasRoom, Bool.and_eq_true, decide_eq_true_eq] at h ⊢
    obtain ⟨⟨⟨⟨h1, h2, h3, h4, h5, h6⟩, h7⟩, h8⟩, h9⟩ := h
    rw [X.frames, List.length_cons] at h2 h3
    have q1 := X.heapSize
    have q2 := X.used
    simp only [hF, hU, List.length_cons, State.stackLimits_setFrames, State.stackBytes_setFrames, hl9, hb9]
    refine ⟨⟨⟨⟨by omega, by omega, by omega, by omega, by omega, h6⟩, ?_⟩, ?_⟩, X.book⟩
    · show T.heap.size + R'.cells ≤ e.platform.maxCells
      omega
    · show T.slotsUsed + R'.slots ≤ e.platform.maxSlots
      omega
  · rw [State.stackLimits_setFrames]; rfl
  · rw [State.stackBytes_setFrames]; rfl
  · refine ⟨?_, Nat.le_refl _, Nat.le_refl _, ?_, ?_, fun a c9 h9 => ⟨c9, h9, rfl, rfl, fun _ _ => rfl⟩⟩
    · obtain ⟨t, ht, -⟩ := State.frames_cons hr
      show T.setVm s.vm = { ((T.setVm s.vm).setFrames (.invoking m args :: below)).setFrames (T.setVm s.vm).frames with heap := T.heap, slotsUsed := T.slotsUsed }
      rw [State.setFrames_setFrames, State.setFrames_self ht]
      rfl
    · show T.slotsUsed = T.slotsUsed + ((T.heap.toList.drop T.heap.size).map (·.slots.size)).sum
      rw [List.drop_eq_nil_of_le (Nat.le_of_eq Array.length_toList)]
      rfl
    · show ((T.heap.toList.drop T.heap.size).map (·.slots.size)).sum ≤ 0
      rw [List.drop_eq_nil_of_le (Nat.le_of_eq Array.length_toList)]
      exact Nat.le_refl _
/-- 'throw new E()': new; dup; invokespecial; athrow -/
theorem vx_throw0 {cc : ByteArray} {pc : Nat} (hexec : p.tables.exec = Jvm.exec) (hb : c.code = cc) (hl : l.stackTraces = false) {own cls : String} {names : List String} {ik ic mc ms : Nat} {A : Nat → Prop}
    (hown : s.vm.findClass own = some m.cls) (hcls : Bundle.fit cls = true) (hnames : ∀ n ∈ names, Bundle.fit n = true)
    (hk : (Cond.classLink own ik cls).before args s = true) (hini : (Cond.initialized cls).before args s = true) (hat : ∀ w ∈ vx_at0 own ic cls names, w.before args s = true)
    (hgood : ∀ w ∈ Cond.classLink own ik cls :: Cond.initialized cls :: vx_at0 own ic cls names, vx_ot w = true)
    (hU : vx_Zq Bundle.tN "UNASSIGNED_STACK" Bundle.steD A s s.heap) (hN : vx_Zq Bundle.tN "SUPPRESSED_SENTINEL" Bundle.listD A s s.heap) (hS : va_S A s.heap H locs) (hsize : ls.size = c.maxLocals)
    (d0 : decode cc pc = .ok (.new ik, 3)) (d3 : decode cc (pc + 3) = .ok (.dup, 1)) (d4 : decode cc (pc + 4) = .ok (.invokespecial ic, 3)) (d7 : decode cc (pc + 7) = .ok (.athrow, 1))
    (hout : ∀ x ∈ c.exceptionTable.toList, covers x (pc + 7) = false)
    (hRframes : names.length + 3 < R.frames) (hRlocals : (rest.map fun v => v.category).sum + (13 * (names.length + 1) + 42) ≤ R.locals) (hRcells : cells + 1 ≤ R.cells) (hRslots : slots + 6 ≤ R.slots) (hlocks : meth.locks = false)
    (hx : ∀ t : State, s.vm.Alike t.vm → H.size ≤ t.heap.size → (∀ q : Nat, q < H.size → t.heap[q]? = H[q]?) → XC cls s t)
    (hf : ∀ z ∈ locs, free z.base) (hc : cells + 1 ≤ mc) (hs : slots + 6 ≤ ms) :
    W p l e R s m args below meth c H locs cells slots (vx_MQ below Qc XC args s mc ms free) (F0 m pc ls rest) := by
  intro T hT X
  have htr : e.platform.stackTraces = false := (show e.platform.stackTraces = l.stackTraces by rw [X.admits.platform]).trans hl
  have Y := vx_rebase X (R' := { frames := R.frames, locals := R.locals, cells := 1, slots := 6 }) (Nat.le_refl _) (Nat.le_refl _) hRcells hRslots
  obtain ⟨s', hA⟩ : ∃ z, z = (T.setVm s.vm).setFrames (.invoking m args :: below) := ⟨_, rfl⟩
  rw [← hA] at Y
  have hvm : s'.vm = s.vm := by rw [hA]; rfl
  have hhp : s'.heap = H := by rw [hA]; exact hT
  have hW0 : s.WarmedH s'.vm := by rw [hvm]; exact State.WarmedH.refl s
  have hat' : ∀ w ∈ vx_at0 own ic cls names, w.before args s' = true := fun w hw => vx_ot_at hW0 hvm.symm (hgood w (List.mem_cons_of_mem _ (List.mem_cons_of_mem _ hw))) (hat w hw)
  have hk' : (Cond.classLink own ik cls).before args s' = true := vx_ot_at hW0 hvm.symm (hgood _ List.mem_cons_self) hk
  have hini' : (Cond.initialized cls).before args s' = true := vx_ot_at hW0 hvm.symm (hgood _ (List.mem_cons_of_mem _ List.mem_cons_self)) hini
  have hU' : vx_Zq Bundle.tN "UNASSIGNED_STACK" Bundle.steD A s' s'.heap := by rw [hhp]; exact vx_Zq.moved hW0.alike (hU.kept hS.2.1)
  have hN' : vx_Zq Bundle.tN "SUPPRESSED_SENTINEL" Bundle.listD A s' s'.heap := by rw [hhp]; exact vx_Zq.moved hW0.alike (hN.kept hS.2.1)
  have h : ∀ w ∈ Bundle.ownAtoms0 own ic cls names, w.before args s' = true := vx_own hat' (vx_isRefq hU'.1) (vx_isRefq hN'.1) hU'.2.word hN'.2.word
  have hown' : s'.vm.findClass own = some m.cls := by rw [hvm]; exact hown
  have hins : (Cond.instantiable cls 6).before args s' = true := h _ (by simp [Bundle.ownAtoms0])
  obtain ⟨vm₁, cX, kX, hfX, hkX, -, -, X₁, st1⟩ := Y.newCold hexec (own := own) (C := cls) (index := ik) (n := 6) hown' hk' hins hini'
    (g := F0 m pc ls rest) rfl (by rw [hb]; exact d0) (Nat.le_refl _) (Nat.le_refl _)
  generalize hT1 : (T.setVm vm₁).pushCell { cls := cX, slots := kX.instanceTypes.map defaultValue, vm := .none } = T1 at X₁ st1
  have hcat : (Value.ref T.heap.size).category = 1 := rfl
  have hcellA : T1.heap[T.heap.size]? = some (freshCell cX kX) := by rw [← hT1]; exact State.heap_pushCell_size _ _
  have d3' : decode c.code (pc + 3) = .ok (.dup, 1) := by rw [hb]; exact d3
  obtain ⟨U, hsteps, hrun, hend, hW, hsame, ce, hce, hO⟩ := X₁.ctorThrow0 hexec htr (own := own) (cls := cls) (names := names) (ic := ic) hown' hcls hnames h (fun x hx => nomatch hx) hfX hkX hcellA (by rw [hhp, hT]; exact Nat.le_refl _)
    (g := { method := m, pc := pc + 4, locals := ls, stack := .ref T.heap.size :: .ref T.heap.size :: rest, locked := none }) rfl hsize rfl rfl (rest := rest) rfl
    (by rw [hb]; exact d4) (by rw [hb]; exact d7) hout hRframes (by simp only [List.map_cons, List.sum_cons, hcat]; omega) hlocks
  obtain ⟨f1, f2⟩ := vx_frame hsame
  rw [hhp] at f1 f2
  have hWs : s.WarmedH U.vm := State.WarmedH.trans hW0 hW
  have hcl : s.vm.findClass cls = some ce.cls := by
    have h9 := hO.cls
    rw [hvm] at h9
    exact h9
  have hall : s.sameButNew ({ U with vm := s.vm } : State) locs mc ms := by
    subst hA
    obtain ⟨e1, e2⟩ := hsame
    rw [State.setFrames_setFrames] at e1
    have h2 : (T.setVm s.vm).sameButNew ({ U with vm := s.vm } : State) [] (0 + 1) (0 + 6) := ⟨e1, e2⟩
    have h3 := X.same.trans h2
    rw [List.append_nil] at h3
    exact h3.mono hc hs
  refine ⟨U, ?_, .threw T.heap.size, hrun, hend, Or.inr ⟨T.heap.size, rfl, cls, ce, locs, hx U hWs.alike f1 (fun q hq => f2 q hq (fun z hz => nomatch hz)), hce, hO.vm, hcl, hWs, hall, hf⟩⟩
  refine st1 _ ?_
  show Steps p.tables e below (T1.setTop { method := m, pc := pc + 3, locals := ls, stack := .ref T.heap.size :: rest, locked := none }) _
  jvm_step X₁.here [X₁.here.top, hexec, d3', Value.category]
  exact hsteps
/-- 'throw new E("text")': new; dup; ldc; invokespecial; athrow -/
theorem vx_throwS {cc : ByteArray} {pc : Nat} (hexec : p.tables.exec = Jvm.exec) (hb : c.code = cc) (hl : l.stackTraces = false) {own cls text : String} {names : List String} {ik is ic mc ms sa : Nat} {A : Nat → Prop}
    (hown : s.vm.findClass own = some m.cls) (hcls : Bundle.fit cls = true) (hnames : ∀ n ∈ names, Bundle.fit n = true)
    (hk : (Cond.classLink own ik cls).before args s = true) (hini : (Cond.initialized cls).before args s = true) (hstr : vk_R own is text sa s) (hat : ∀ w ∈ vx_atS own ic cls names, w.before args s = true)
    (hgood : ∀ w ∈ Cond.classLink own ik cls :: Cond.initialized cls :: vx_atS own ic cls names, vx_ot w = true)
    (hU : vx_Zq Bundle.tN "UNASSIGNED_STACK" Bundle.steD A s s.heap) (hN : vx_Zq Bundle.tN "SUPPRESSED_SENTINEL" Bundle.listD A s s.heap) (hS : va_S A s.heap H locs) (hsize : ls.size = c.maxLocals)
    (d0 : decode cc pc = .ok (.new ik, 3)) (d3 : decode cc (pc + 3) = .ok (.dup, 1)) (d4 : decode cc (pc + 4) = .ok (.ldc is, 2)) (d6 : decode cc (pc + 6) = .ok (.invokespecial ic, 3)) (d9 : decode cc (pc + 9) = .ok (.athrow, 1))
    (hout : ∀ x ∈ c.exceptionTable.toList, covers x (pc + 9) = false)
    (hRframes : names.length + 3 < R.frames) (hRlocals : (rest.map fun v => v.category).sum + (13 * (names.length + 1) + 43) ≤ R.locals) (hRcells : cells + 1 ≤ R.cells) (hRslots : slots + 6 ≤ R.slots) (hlocks : meth.locks = false)
    (hx : ∀ t : State, s.vm.Alike t.vm → H.size ≤ t.heap.size → (∀ q : Nat, q < H.size → t.heap[q]? = H[q]?) → XC cls s t)
    (hf : ∀ z ∈ locs, free z.base) (hc : cells + 1 ≤ mc) (hs : slots + 6 ≤ ms) :
    W p l e R s m args below meth c H locs cells slots (vx_MQ below Qc XC args s mc ms free) (F0 m pc ls rest) := by
  intro T hT X
  have htr : e.platform.stackTraces = false := (show e.platform.stackTraces = l.stackTraces by rw [X.admits.platform]).trans hl
  have Y := vx_rebase X (R' := { frames := R.frames, locals := R.locals, cells := 1, slots := 6 }) (Nat.le_refl _) (Nat.le_refl _) hRcells hRslots
  obtain ⟨s', hA⟩ : ∃ z, z = (T.setVm s.vm).setFrames (.invoking m args :: below) := ⟨_, rfl⟩
  rw [← hA] at Y
  have hvm : s'.vm = s.vm := by rw [hA]; rfl
  have hhp : s'.heap = H := by rw [hA]; exact hT
  have hW0 : s.WarmedH s'.vm := by rw [hvm]; exact State.WarmedH.refl s
  have hat' : ∀ w ∈ vx_atS own ic cls names, w.before args s' = true := fun w hw => vx_ot_at hW0 hvm.symm (hgood w (List.mem_cons_of_mem _ (List.mem_cons_of_mem _ hw))) (hat w hw)
  have hk' : (Cond.classLink own ik cls).before args s' = true := vx_ot_at hW0 hvm.symm (hgood _ List.mem_cons_self) hk
  have hini' : (Cond.initialized cls).before args s' = true := vx_ot_at hW0 hvm.symm (hgood _ (List.mem_cons_of_mem _ List.mem_cons_self)) hini
  have hU' : vx_Zq Bundle.tN "UNASSIGNED_STACK" Bundle.steD A s' s'.heap := by rw [hhp]; exact vx_Zq.moved hW0.alike (hU.kept hS.2.1)
  have hN' : vx_Zq Bundle.tN "SUPPRESSED_SENTINEL" Bundle.listD A s' s'.heap := by rw [hhp]; exact vx_Zq.moved hW0.alike (hN.kept hS.2.1)
  have h : ∀ w ∈ Bundle.ownAtoms own ic cls names, w.before args s' = true := vx_own hat' (vx_isRefq hU'.1) (vx_isRefq hN'.1) hU'.2.word hN'.2.word
  have hown' : s'.vm.findClass own = some m.cls := by rw [hvm]; exact hown
  have hins : (Cond.instantiable cls 6).before args s' = true := h _ (by simp [Bundle.ownAtoms])
  obtain ⟨vm₁, cX, kX, hfX, hkX, -, -, X₁, st1⟩ := Y.newCold hexec (own := own) (C := cls) (index := ik) (n := 6) hown' hk' hins hini'
    (g := F0 m pc ls rest) rfl (by rw [hb]; exact d0) (Nat.le_refl _) (Nat.le_refl _)
  generalize hT1 : (T.setVm vm₁).pushCell { cls := cX, slots := kX.instanceTypes.map defaultValue, vm := .none } = T1 at X₁ st1
  have hcat : (Value.ref T.heap.size).category = 1 := rfl
  have hcellA : T1.heap[T.heap.size]? = some (freshCell cX kX) := by rw [← hT1]; exact State.heap_pushCell_size _ _
  have d3' : decode c.code (pc + 3) = .ok (.dup, 1) := by rw [hb]; exact d3
  have d4' : decode c.code (pc + 4) = .ok (.ldc is, 2) := by rw [hb]; exact d4
  have hstr' : vk_R own is text sa s' := vk_R.warm hW0 hstr
  obtain ⟨U, hsteps, hrun, hend, hW, hsame, ce, hce, hO⟩ := X₁.ctorThrowS hexec htr (own := own) (cls := cls) (names := names) (ic := ic) hown' hcls hnames h (fun x hx => nomatch hx) hfX hkX hcellA (by rw [hhp, hT]; exact Nat.le_refl _) (msg := .ref sa) rfl
    (g := { method := m, pc := pc + 6, locals := ls, stack := .ref sa :: .ref T.heap.size :: .ref T.heap.size :: rest, locked := none }) rfl hsize rfl rfl (rest := rest) rfl
    (by rw [hb]; exact d6) (by rw [hb]; exact d9) hout hRframes (by simp only [List.map_cons, List.sum_cons, hcat]; omega) hlocks
  obtain ⟨f1, f2⟩ := vx_frame hsame
  rw [hhp] at f1 f2
  have hWs : s.WarmedH U.vm := State.WarmedH.trans hW0 hW
  have hcl : s.vm.findClass cls = some ce.cls := by
    have h9 := hO.cls
    rw [hvm] at h9
    exact h9
  have hall : s.sameButNew ({ U with vm := s.vm } : State) locs mc ms := by
    subst hA
    obtain ⟨e1, e2⟩ := hsame
    rw [State.setFrames_setFrames] at e1
    have h2 : (T.setVm s.vm).sameButNew ({ U with vm := s.vm } : State) [] (0 + 1) (0 + 6) := ⟨e1, e2⟩
    have h3 := X.same.trans h2
    rw [List.append_nil] at h3
    exact h3.mono hc hs
  refine ⟨U, ?_, .threw T.heap.size, hrun, hend, Or.inr ⟨T.heap.size, rfl, cls, ce, locs, hx U hWs.alike f1 (fun q hq => f2 q hq (fun z hz => nomatch hz)), hce, hO.vm, hcl, hWs, hall, hf⟩⟩
  refine st1 _ ?_
  show Steps p.tables e below (T1.setTop { method := m, pc := pc + 3, locals := ls, stack := .ref T.heap.size :: rest, locked := none }) _
  jvm_step X₁.here [X₁.here.top, hexec, d3', Value.category]
  exact X₁.ldcString hexec (own := own) (text := text) (index := is) (a := sa) hown' hstr'.1 hstr'.2
    (g := { method := m, pc := pc + 4, locals := ls, stack := .ref T.heap.size :: .ref T.heap.size :: rest, locked := none }) rfl d4' _ hsteps
/-- 'throw new E("text")', the text by a wide index -/
theorem vx_throwSW {cc : ByteArray} {pc : Nat} (hexec : p.tables.exec = Jvm.exec) (hb : c.code = cc) (hl : l.stackTraces = false) {own cls text : String} {names : List String} {ik is ic mc ms sa : Nat} {A : Nat → Prop}
    (hown : s.vm.findClass own = some m.cls) (hcls : Bundle.fit cls = true) (hnames : ∀ n ∈ names, Bundle.fit n = true)
    (hk : (Cond.classLink own ik cls).before args s = true) (hini : (Cond.initialized cls).before args s = true) (hstr : vk_R own is text sa s) (hat : ∀ w ∈ vx_atS own ic cls names, w.before args s = true)
    (hgood : ∀ w ∈ Cond.classLink own ik cls :: Cond.initialized cls :: vx_atS own ic cls names, vx_ot w = true)
    (hU : vx_Zq Bundle.tN "UNASSIGNED_STACK" Bundle.steD A s s.heap) (hN : vx_Zq Bundle.tN "SUPPRESSED_SENTINEL" Bundle.listD A s s.heap) (hS : va_S A s.heap H locs) (hsize : ls.size = c.maxLocals)
    (d0 : decode cc pc = .ok (.new ik, 3)) (d3 : decode cc (pc + 3) = .ok (.dup, 1)) (d4 : decode cc (pc + 4) = .ok (.ldc_w is, 3)) (d7 : decode cc (pc + 7) = .ok (.invokespecial ic, 3)) (d10 : decode cc (pc + 10) = .ok (.athrow, 1))
    (hout : ∀ x ∈ c.exceptionTable.toList, covers x (pc + 10) = false)
    (hRframes : names.length + 3 < R.frames) (hRlocals : (rest.map fun v => v.category).sum + (13 * (names.length + 1) + 43) ≤ R.locals) (hRcells : cells + 1 ≤ R.cells) (hRslots : slots + 6 ≤ R.slots) (hlocks : meth.locks = false)
    (hx : ∀ t : State, s.vm.Alike t.vm → H.size ≤ t.heap.size → (∀ q : Nat, q < H.size → t.heap[q]? = H[q]?) → XC cls s t)
    (hf : ∀ z ∈ locs, free z.base) (hc : cells + 1 ≤ mc) (hs : slots + 6 ≤ ms) :
    W p l e R s m args below meth c H locs cells slots (vx_MQ below Qc XC args s mc ms free) (F0 m pc ls rest) := by
  intro T hT X
  have htr : e.platform.stackTraces = false := (show e.platform.stackTraces = l.stackTraces by rw [X.admits.platform]).trans hl
  have Y := vx_rebase X (R' := { frames := R.frames, locals := R.locals, cells := 1, slots := 6 }) (Nat.le_refl _) (Nat.le_refl _) hRcells hRslots
  obtain ⟨s', hA⟩ : ∃ z, z = (T.setVm s.vm).setFrames (.invoking m args :: below) := ⟨_, rfl⟩
  rw [← hA] at Y
  have hvm : s'.vm = s.vm := by rw [hA]; rfl
  have hhp : s'.heap = H := by rw [hA]; exact hT
  have hW0 : s.WarmedH s'.vm := by rw [hvm]; exact State.WarmedH.refl s
  have hat' : ∀ w ∈ vx_atS own ic cls names, w.before args s' = true := fun w hw => vx_ot_at hW0 hvm.symm (hgood w (List.mem_cons_of_mem _ (List.mem_cons_of_mem _ hw))) (hat w hw)
  have hk' : (Cond.classLink own ik cls).before args s' = true := vx_ot_at hW0 hvm.symm (hgood _ List.mem_cons_self) hk
  have hini' : (Cond.initialized cls).before args s' = true := vx_ot_at hW0 hvm.symm (hgood _ (List.mem_cons_of_mem _ List.mem_cons_self)) hini
  have hU' : vx_Zq Bundle.tN "UNASSIGNED_STACK" Bundle.steD A s' s'.heap := by rw [hhp]; exact vx_Zq.moved hW0.alike (hU.kept hS.2.1)
  have hN' : vx_Zq Bundle.tN "SUPPRESSED_SENTINEL" Bundle.listD A s' s'.heap := by rw [hhp]; exact vx_Zq.moved hW0.alike (hN.kept hS.2.1)
  have h : ∀ w ∈ Bundle.ownAtoms own ic cls names, w.before args s' = true := vx_own hat' (vx_isRefq hU'.1) (vx_isRefq hN'.1) hU'.2.word hN'.2.word
  have hown' : s'.vm.findClass own = some m.cls := by rw [hvm]; exact hown
  have hins : (Cond.instantiable cls 6).before args s' = true := h _ (by simp [Bundle.ownAtoms])
  obtain ⟨vm₁, cX, kX, hfX, hkX, -, -, X₁, st1⟩ := Y.newCold hexec (own := own) (C := cls) (index := ik) (n := 6) hown' hk' hins hini'
    (g := F0 m pc ls rest) rfl (by rw [hb]; exact d0) (Nat.le_refl _) (Nat.le_refl _)
  generalize hT1 : (T.setVm vm₁).pushCell { cls := cX, slots := kX.instanceTypes.map defaultValue, vm := .none } = T1 at X₁ st1
  have hcat : (Value.ref T.heap.size).category = 1 := rfl
  have hcellA : T1.heap[T.heap.size]? = some (freshCell cX kX) := by rw [← hT1]; exact State.heap_pushCell_size _ _
  have d3' : decode c.code (pc + 3) = .ok (.dup, 1) := by rw [hb]; exact d3
  have d4' : decode c.code (pc + 4) = .ok (.ldc_w is, 3) := by rw [hb]; exact d4
  have hstr' : vk_R own is text sa s' := vk_R.warm hW0 hstr
  obtain ⟨U, hsteps, hrun, hend, hW, hsame, ce, hce, hO⟩ := X₁.ctorThrowS hexec htr (own := own) (cls := cls) (names := names) (ic := ic) hown' hcls hnames h (fun x hx => nomatch hx) hfX hkX hcellA (by rw [hhp, hT]; exact Nat.le_refl _) (msg := .ref sa) rfl
    (g := { method := m, pc := pc + 7, locals := ls, stack := .ref sa :: .ref T.heap.size :: .ref T.heap.size :: rest, locked := none }) rfl hsize rfl rfl (rest := rest) rfl
    (by rw [hb]; exact d7) (by rw [hb]; exact d10) hout hRframes (by simp only [List.map_cons, List.sum_cons, hcat]; omega) hlocks
  obtain ⟨f1, f2⟩ := vx_frame hsame
  rw [hhp] at f1 f2
  have hWs : s.WarmedH U.vm := State.WarmedH.trans hW0 hW
  have hcl : s.vm.findClass cls = some ce.cls := by
    have h9 := hO.cls
    rw [hvm] at h9
    exact h9
  have hall : s.sameButNew ({ U with vm := s.vm } : State) locs mc ms := by
    subst hA
    obtain ⟨e1, e2⟩ := hsame
    rw [State.setFrames_setFrames] at e1
    have h2 : (T.setVm s.vm).sameButNew ({ U with vm := s.vm } : State) [] (0 + 1) (0 + 6) := ⟨e1, e2⟩
    have h3 := X.same.trans h2
    rw [List.append_nil] at h3
    exact h3.mono hc hs
  refine ⟨U, ?_, .threw T.heap.size, hrun, hend, Or.inr ⟨T.heap.size, rfl, cls, ce, locs, hx U hWs.alike f1 (fun q hq => f2 q hq (fun z hz => nomatch hz)), hce, hO.vm, hcl, hWs, hall, hf⟩⟩
  refine st1 _ ?_
  show Steps p.tables e below (T1.setTop { method := m, pc := pc + 3, locals := ls, stack := .ref T.heap.size :: rest, locked := none }) _
  jvm_step X₁.here [X₁.here.top, hexec, d3', Value.category]
  exact X₁.ldcStringW hexec (own := own) (text := text) (index := is) (a := sa) hown' hstr'.1 hstr'.2
    (g := { method := m, pc := pc + 4, locals := ls, stack := .ref T.heap.size :: .ref T.heap.size :: rest, locked := none }) rfl d4' _ hsteps
end Ends
section Bodies
variable {l : Launch}
theorem vx_ofW {y : MethodName} {ws ws' : List Cond} {rm : Room} {Pc : Array Value → State → Prop} {Qc : Array Value → State → Outcome → State → Prop} {XC : String → State → State → Prop} {mc ms : Nat} {free : Addr → Prop} {cc : ByteArray} {maxL : Nat} {ret : Option FieldType}
    (hy : plainName y.cls = true) (hw : ws = Cond.code y cc maxL ret :: ws')
    (body : ∀ p e s m args below meth c s₁, BodyLoose p l y (headSpec ws rm) cc maxL ret e s m args below meth c s₁ → c.maxLocals = maxL → (∀ x ∈ c.exceptionTable.toList, False) → Pc args s →
      W p l e (headSpec ws rm).room s m args below meth c s.heap [] 0 0 (vx_MQ below Qc XC args s mc ms free) (entryFrame m args maxL)) : vx_Met l y ws rm Pc Qc XC mc ms free := by
  refine MetFree.of_bodyS (code := cc) (maxLocals := maxL) (ret := ret) hy ?_ ?_
  · intro args s m h hn
    obtain ⟨meth, c, h1, h2, h3, h4, h5, h6, -, -⟩ := Cond.code_spec hn (atoms_spec (ws := ws) h _ (by rw [hw]; exact List.mem_cons_self))
    exact ⟨meth, c, h1, h2, h3, h4, h5, h6⟩
  · intro p e s m args below meth c s₁ B hml hP _
    have hh0 : s₁.heap = s.heap := by rw [B.state]; rfl
    have ht : ∀ x ∈ c.exceptionTable.toList, False := by
      obtain ⟨meth9, c9, h1, h2, -, -, -, -, h7, -⟩ := Cond.code_spec B.named (atoms_spec (ws := ws) B.pre _ (by rw [hw]; exact List.mem_cons_self))
      cases Option.some.inj (h1.symm.trans B.method)
      cases Option.some.inj (h2.symm.trans (Stand.of_body B).code)
      intro x hx
      rw [Array.isEmpty_iff.mp h7] at hx
      cases hx
    obtain ⟨t, a1, o, b1, b2, b3⟩ := body p e s m args below meth c s₁ B hml ht hP s₁ hh0 (Stand.of_body B)
    exact ⟨t, o, a1, b1, b2, b3⟩
/-- the table of a body with handlers -/
theorem vx_table {p : Program} {x y : MethodName} {S : Spec} {cc bytes : ByteArray} {maxL maxL' : Nat} {ret ret' : Option FieldType} {e : Env} {s s₁ : State} {m : MethodId} {args : Array Value} {below : List Frame} {meth : Method} {c : Code} {hh : List (Nat × Nat × Nat × Nat)}
    (B : BodyLoose p l y S cc maxL ret e s m args below meth c s₁) (h : (Cond.codeWith y bytes maxL' ret' hh).before args s = true) : c.exceptionTable.toList = tableOf hh := by
  obtain ⟨m9, meth9, c9, hn9, h1, h2, -, -, h6, -⟩ := Cond.codeWith_spec h
  cases Option.some.inj (hn9.symm.trans B.named)
  cases Option.some.inj (h1.symm.trans B.method)
  cases Option.some.inj (h2.symm.trans (Stand.of_body B).code)
  rw [← h6, table_eq]
end Bodies
end VXA
/-! ===== END ===== -/
/-! ===== BEGIN a static call of a method with an exception table ===== -/
section VXS
variable {p : Program} {l : Launch} {e : Env} {R : Room} {s : State} {m : MethodId} {args : Array Value} {below : List Frame} {meth : Method} {c : Code} {T : State} {H : Heap} {locs : List Loc} {cells slots : Nat}
abbrev vx_CSW (R : Room) (s : State) (args : Array Value) (own : String) (index : Nat) (y : MethodName) (bytes : ByteArray) (maxL : Nat) (ret : Option FieldType) (hh : List (Nat × Nat × Nat × Nat)) (ws : List Cond) (rm : Room) (mc ms n : Nat) : Prop :=
  (rm.cells = mc ∧ rm.slots = ms ∧ rm.frames + 1 ≤ R.frames ∧ 8 + (maxL + 11) + rm.locals ≤ R.locals ∧ (∀ w ∈ ws, ∀ (a' : Array Value) (U : State), s.WarmedH U.vm → w.before a' U = true) ∧ Cond.codeWith y bytes maxL ret hh ∈ ws) ∧
  (Cond.codeWith y bytes maxL ret hh).before args s = true ∧ (Cond.initialized y.cls).before args s = true ∧ (y.cls ≠ "java/lang/invoke/MethodHandle" ∧ y.cls ≠ "java/lang/invoke/VarHandle") ∧
  (∀ sig, parseMethodDescriptor y.desc = some sig → n = sig.parameters.length) ∧ (Cond.methodLink own index y).before args s = true ∧ (Cond.static y).before args s = true
theorem vx_cwSW {own : String} {index maxL mc ms : Nat} {y : MethodName} {bytes : ByteArray} {ret : Option FieldType} {hh : List (Nat × Nat × Nat × Nat)} {Ts ws ws' : List Cond} {rm : Room} (n : Nat) (ht : ∀ w ∈ Ts, w.before args s = true) (hT : GoodIn Ts (va_wsS own index y ws)) (hw : ws = Cond.codeWith y bytes maxL ret hh :: ws') (hrc : rm.cells = mc) (hrs : rm.slots = ms)
    (hd : y.cls ≠ "java/lang/invoke/MethodHandle" ∧ y.cls ≠ "java/lang/invoke/VarHandle" ∧ (parseMethodDescriptor y.desc).map (fun d => d.parameters.length) = some n) (hR : rm.frames + 1 ≤ R.frames ∧ 8 + (maxL + 11) + rm.locals ≤ R.locals) :
    vx_CSW R s args own index y bytes maxL ret hh ws rm mc ms n := by
  have ok : ∀ w ∈ va_wsS own index y ws, w.before args s = true := fun w h => ht w (hT w h).1
  have hG : GoodIn Ts ws := fun w h => hT w (by unfold va_wsS; exact List.mem_append_right _ h)
  have hc : Cond.codeWith y bytes maxL ret hh ∈ ws := by rw [hw]; exact List.mem_cons_self
  refine ⟨⟨hrc, hrs, hR.1, hR.2, pay_in ht hG, hc⟩, ht _ (hG _ hc).1, ok _ (by simp [va_wsS]), ⟨hd.1, hd.2.1⟩, fun sig h => ?_, ok _ (by simp [va_wsS]), ok _ (by simp [va_wsS])⟩
  have h2 := hd.2.2
  rw [h] at h2
  exact (Option.some.inj h2).symm
theorem vx_callSW (X : Stand p l e R s m args below meth c T locs cells slots) (hexec : p.tables.exec = Jvm.exec) {own : String} {index : Nat} {y : MethodName} {bytes : ByteArray} {maxL : Nat} {ret : Option FieldType} {hh : List (Nat × Nat × Nat × Nat)}
    (hown : s.vm.findClass own = some m.cls) (hlink : (Cond.methodLink own index y).before args s = true) (hstat : (Cond.static y).before args s = true) (hinit : (Cond.initialized y.cls).before args s = true)
    (hcode : (Cond.codeWith y bytes maxL ret hh).before args s = true) (hy : y.cls ≠ "java/lang/invoke/MethodHandle" ∧ y.cls ≠ "java/lang/invoke/VarHandle")
    {W9 : Nat} {Pre : Pt → Array Value → Prop} {Post : Pt → Array Value → Option Value → Pt → Prop} (hK : Back l R p e below s args y 3 W9 Pre Post)
    {g : JFrame} (hg : g.method = m) (hsize : g.locals.size = c.maxLocals) {argsL rest : List Value} (hlen : ∀ sig, parseMethodDescriptor y.desc = some sig → argsL.length = sig.parameters.length)
    (hstack : g.stack = argsL.reverse ++ rest) (hW : 2 * g.monitorRoom + (rest.map fun v => v.category).sum ≤ W9) (hdg : decode c.code g.pc = .ok (.invokestatic index, 3))
    (hpre : ∀ vm₁, s.WarmedH vm₁ → Pre ⟨T.setVm vm₁, locs, cells, slots⟩ argsL.toArray) :
    ∃ (v : Option Value) (vm₁ : Vm) (B : Pt), s.WarmedH vm₁ ∧ Stand p l e R s m args below meth c B.U B.locs B.cells B.slots ∧ Post ⟨T.setVm vm₁, locs, cells, slots⟩ argsL.toArray v B ∧
      ∀ target, Steps p.tables e below (B.U.setTop { g with pc := g.pc + 3, stack := v.toList ++ rest }) target → Steps p.tables e below (T.setTop g) target := by
  obtain ⟨mk, methM, cM, hnamed, hmethM, -, -, -, -, -, -, hsigM⟩ := Cond.codeWith_spec hcode
  have hstatic : methM.isStatic = true := Cond.static_spec hnamed hmethM hstat
  obtain ⟨kP, hkP, -⟩ := className_of_methodNamed hnamed
  have hinitP : kP.init = .initialized := Cond.initialized_spec (findClass_of_methodNamed hnamed) hkP hinit
  obtain ⟨vm₁, X₁, hstep₁⟩ := X.invokestatic hexec hown hlink hnamed hmethM hstatic hkP hinitP hy (g := g) hg (argsL := argsL) (rest := rest) (hlen _ hsigM) hstack hdg
  obtain ⟨v, B, X', hpost, hsteps⟩ := hK m meth c ⟨T.setVm vm₁, locs, cells, slots⟩ { g with stack := rest } (.invokestatic index) mk argsL.toArray X₁ hg hsize hdg hW (X₁.named hnamed) (hpre vm₁ X₁.warmed)
  exact ⟨v, vm₁, B, X₁.warmed, X', hpost, fun target h => hstep₁ _ fun acts => by rw [doInvoke_state]; exact hsteps.trans h⟩
theorem vx_runSW {y : MethodName} {bytes cc : ByteArray} {maxL nL mc ms n index : Nat} {ret : Option FieldType} {hh : List (Nat × Nat × Nat × Nat)} {ws : List Cond} {rm : Room} {Pc : Array Value → State → Prop} {Qc : Array Value → State → Outcome → State → Prop} {free : Addr → Prop} {Ts : List Cond} {own : String} {As rest : List Value} {g : JFrame}
    (S : CallFix p m c cc nL s args Ts own) (hM : Met l y ws rm Pc Qc mc ms free) (cw : vx_CSW R s args own index y bytes maxL ret hh ws rm mc ms n) (hp : PreS s H Pc As)
    (hg : g.method = m) (hn : As.length = n) (hsize : g.locals.size = nL) (hstack : g.stack = As.reverse ++ rest) (hW : 2 * g.monitorRoom + (rest.map fun v => v.category).sum ≤ 8) (hdg : decode cc g.pc = .ok (.invokestatic index, 3)) (hf : cells + mc ≤ R.cells ∧ slots + ms ≤ R.slots) :
    va_Run p l e R s m args below meth c H locs cells slots mc ms g rest (Qc As.toArray) (free) := by
  obtain ⟨⟨hrc, hrs, hfr, hlo, hws, hcw⟩, hcode, hini, hy, hlen, hl, hstt⟩ := cw
  have hK : Back l R p e below s args y 3 8 (PreOf R mc ms Pc) (PostOf Qc mc ms free) := va_backW (hh := hh) (bytes := bytes) (maxL := maxL) (ret := ret) hM hp.1 hrc hrs hfr hlo hws hcw (fun a' U hW => word_at hW (Or.inl (by first | rfl | simp [Cond.onTables, Cond.keeps, Cond.steady])) hini)
  obtain ⟨hx, hb, hml, ho, -⟩ := S
  intro T hT X
  obtain ⟨v, vm₁, ⟨U', l2, c2, s2⟩, hW₁, X', ⟨g', mk, t, L, e1, e2, hq, h1, hL, h2, h3⟩, st⟩ := vx_callSW X hx (hh := hh) (bytes := bytes) (maxL := maxL) (ret := ret) ho hl hstt hini hcode hy hK hg (hsize.trans hml.symm) (argsL := As) (rest := rest) (fun sig h => hn.trans (hlen sig h)) hstack hW (by rw [hb]; exact hdg)
    (fun vm₁ hW₁ => ⟨hf.1, hf.2, hp.2 (T.setVm vm₁) hT hW₁⟩)
  dsimp only [Pt.U, Pt.locs, Pt.cells, Pt.slots] at X' e1 e2 h1 h2 h3 st
  subst h1; subst h2; subst h3
  exact ⟨v, (T.setVm vm₁).calling g' mk As.toArray, t, U', L, hT, X', hL, e1, e2, hq, st⟩
/-- not caught here, past rows that name other classes: it goes on to the caller -/
theorem vx_outP {p : Program} {l : Launch} {e : Env} {R : Room} {s : State} {m : MethodId} {args : Array Value} {below : List Frame} {meth : Method} {c : Code} {H : Heap} {locs : List Loc} {cells slots : Nat} {free : Addr → Prop} {ls : Array Slot} {rest : List Value} {Qc : Array Value → State → Outcome → State → Prop} {XC : String → State → State → Prop}
    {pc : Nat} {own E : String} {ce : Cell} {q : Addr} {mc ms : Nat} (hown : s.vm.findClass own = some m.cls) (hlocks : meth.locks = false)
    (hpass : ∀ z ∈ c.exceptionTable.toList, covers z pc = false ∨ (z.catchType ≠ 0 ∧ ∃ nm : String, (Cond.classLink own z.catchType nm).before args s = true ∧ va_Nc E nm s)) (hcell : H[q]? = some ce) (hv : ce.vm = .none) (hcl : s.vm.findClass E = some ce.cls)
    (hx : ∀ t : State, t.heap = H → s.vm.Alike t.vm → XC E s t) (hf : ∀ z ∈ locs, free z.base) (hc : cells ≤ mc) (hs : slots ≤ ms) :
    vx_W p l e R s m args below meth c H locs cells slots (vx_MQ below Qc XC args s mc ms free) (F0 m pc ls rest) q := by
  intro T hT X
  have hpl : e.platform.magicAccessors = ({} : Platform).magicAccessors := by rw [X.admits.platform]
  obtain ⟨vm', hW', X', st⟩ := X.outThrough hlocks q (g := F0 m pc ls rest) rfl rfl rfl (cell := ce) (by rw [hT]; exact hcell) (by rw [hv]; rfl)
    (by obtain ⟨k9, h9, -⟩ := Vm.findClass_spec hcl; exact ⟨k9, h9⟩) (fun z hz => by
      rcases hpass z hz with h | ⟨hz0, nm, hl1, hn1⟩
      · exact Or.inl h
      · obtain ⟨c6, hc6, hcl6⟩ := Cond.classLink_spec hown hl1 e.platform hpl
        obtain ⟨a8, b8, h1, h2, h3⟩ := hn1
        cases Option.some.inj (h1.symm.trans hcl)
        cases Option.some.inj (h2.symm.trans hc6)
        exact Or.inr ⟨hz0, _, hcl6, h3⟩)
  obtain ⟨g₀, hfr⟩ := X'.frames_eq
  have hcell9 : ((T.setVm vm').setFrames (.throwing q :: below)).heap[q]? = some ce := by
    show T.heap[q]? = some ce
    rw [hT]; exact hcell
  have hend : Ended ((T.setVm vm').setFrames (.throwing q :: below)) below (.threw q) := State.frames_setFrames _ (State.cur_lt_of_frames hfr)
  refine ⟨(T.setVm vm').setFrames (.throwing q :: below), ?_, .threw q, X'.here.running, hend, Or.inr ⟨q, rfl, E, ce, locs, hx _ hT (X'.ends _).1.alike, hcell9, hv, hcl, (X'.ends _).1, (X'.ends _).2.mono hc hs, hf⟩⟩
  rw [X.pushThrowing_eq]
  exact st
/-- a thing of a world lies in the heap -/
theorem vx_lt {D : va_G} {cl : List vw_C} {ws : va_W} {H1 : Heap} (h : va_P D cl ws H1) {k : Nat} {q : Nat × va_E} (hk : ws[k]? = some q) : q.1 < H1.size := (h k q hk).lt
end VXS
/-! ===== END ===== -/
/-! ===== BEGIN methods with a table of their own: called by a name, returning or throwing ===== -/
section VXH
/-! vx_backW, vx_callVX, vx_callSX, vx_callVW, vx_runVW, vx_runVX, vx_runSX, vx_ofWH follow the same proofs as their sisters above (Free/Laws.lean, Shelf42/LK1.lean); vx_outP calls Shelf42/NT130.lean (outThrough). -/
section
variable {l : Launch} {R : Room} {p : Program} {e : Env} {below : List Frame} {s : State} {sargs : Array Value} {y : MethodName} {len W9 : Nat}
theorem vx_backW {ws : List Cond} {rm : Room} {Pc : Array Value → State → Prop} {Qc : Array Value → State → Outcome → State → Prop} {XC : String → State → State → Prop} {mc ms : Nat} {free : Addr → Prop} {bytes : ByteArray} {maxL : Nat} {ret : Option FieldType} {hh : List (Nat × Nat × Nat × Nat)}
    (hM : vx_Met l y ws rm Pc Qc XC mc ms free) (hblind : FrameBlind Pc) (hrc : rm.cells = mc) (hrs : rm.slots = ms)
    (hframes : rm.frames + 1 ≤ R.frames) (hlocals : W9 + (maxL + 11) + rm.locals ≤ R.locals)
    (hws : ∀ w ∈ ws, ∀ a' U, s.WarmedH U.vm → w.before a' U = true) (hcode : Cond.codeWith y bytes maxL ret hh ∈ ws) (hinit : ∀ a' U, s.WarmedH U.vm → (Cond.initialized y.cls).before a' U = true) :
    vx_Back l R p e below s sargs y len W9 (PreOf R mc ms Pc) (PostOf Qc mc ms free) (vx_Post XC mc ms free) := by
  intro m meth c A g ig mk a X hg hsize hdg hW hn hp
  have h1 : (headSpec ws rm).pre.before a A.U = true := atoms_intro fun w hw => hws w hw _ _ X.warmed
  have h2 : (Cond.codeWith y bytes maxL ret hh).before a A.U = true := hws _ hcode _ _ X.warmed
  have h3 : (Cond.initialized y.cls).before a A.U = true := hinit _ _ X.warmed
  have h4 : A.cells + (headSpec ws rm).room.cells ≤ R.cells := by rw [show (headSpec ws rm).room.cells = mc from hrc]; exact hp.1
  have h5 : A.slots + (headSpec ws rm).room.slots ≤ R.slots := by rw [show (headSpec ws rm).room.slots = ms from hrs]; exact hp.2.1
  have hPc : Pc a (A.U.calling g mk a) := hblind _ _ _ _ hp.2.2
  obtain ⟨U, Ls, c0, s0⟩ := A
  dsimp only [Pt.U, Pt.locs, Pt.cells, Pt.slots] at h1 h2 h3 h4 h5 X hn hPc ⊢
  obtain ⟨m9, methY, cY, hn9, hmY, hcY, -, hlY, -⟩ := Cond.codeWith_spec h2
  cases Option.some.inj (hn9.symm.trans hn)
  obtain ⟨kY, hkY, -⟩ := className_of_methodNamed hn
  have hinitY : kY.init = .initialized := Cond.initialized_spec (findClass_of_methodNamed hn) hkY h3
  have h : At U g.method c below := by rw [hg]; exact X.here
  have hlocals9 : W9 + (maxL + 11) + (headSpec ws rm).room.locals ≤ R.locals := hlocals
  have happ : (headSpec ws rm).appliesLoose y e.platform (U.calling g mk a) = true :=
    Spec.appliesLoose_calling (g := g) h hdg hn hkY hinitY
      (X.room_calling (g := g) (R' := (headSpec ws rm).room) hsize hmY hcY hframes (by rw [hlY]; omega) h4 h5) h1
  obtain ⟨mid, hmid⟩ := h.above
  have hfr : (U.setTop g).frames = (.java g :: mid) ++ below := by rw [State.frames_setTop' g h.top, hmid]; rfl
  obtain ⟨o, s₂, hsteps, -, hend, hq⟩ := Steps.callFree hM p X.admits X.cas X.clock (acts := []) hfr happ hPc trivial
  have hq' : vx_Q Qc XC mc ms free a (U.calling g mk a) o s₂ := hq
  rw [State.frames_setTop' g h.top] at hend
  obtain ⟨g₀, hg0⟩ := Option.isSome_iff_exists.mp h.top
  obtain ⟨r, hr⟩ := State.topJava?_eq_some.mp hg0
  have hr' : (({ U with heap := s₂.heap, slotsUsed := s₂.slotsUsed } : State).setVm s₂.vm).frames = .java g₀ :: r := hr
  rcases hq' with ⟨hqc, L, hfe, hL⟩ | ⟨q, rfl, E, ce, L, hx, hce, hcv, hcl, hW₂, hsm, hL⟩
  · obtain ⟨⟨v, rfl⟩, hW₂, e2, q2, q3, q4, q5, q6⟩ := id hfe
    have e3 : s₂ = ({ (U.calling g mk a).setFrames s₂.frames with heap := s₂.heap, slotsUsed := s₂.slotsUsed } : State).setVm s₂.vm := by
      have : s₂ = ({ s₂ with vm := (U.calling g mk a).vm } : State).setVm s₂.vm := rfl
      rw [e2] at this
      exact this
    obtain ⟨c₂, i₂, len₂, hc₂, hd₂, hf₂⟩ := hend
    have hW' : U.WarmedH s₂.vm := hW₂
    have hcc : c₂ = c := by
      have h1 : s₂.code? g.method = U.code? g.method := by
        rw [State.code?_eq, State.code?_eq, hW'.alike.method?]
      exact Option.some.inj (hc₂.symm.trans (h1.trans h.code))
    subst hcc
    have hlen : len₂ = len := by rw [hdg] at hd₂; cases hd₂; rfl
    subst hlen
    have hs₂ : s₂ = (({ U with heap := s₂.heap, slotsUsed := s₂.slotsUsed } : State).setVm s₂.vm).setTop { g with pc := g.pc + len₂, stack := v.toList ++ g.stack } := by
      refine e3.trans ?_
      rw [hf₂, State.calling_eq h.top, State.setFrames_setFrames, State.setTop_of_frames _ hr', hr]
      rfl
    have hsame : U.sameButNew ({ U with heap := s₂.heap, slotsUsed := s₂.slotsUsed } : State) L mc ms := by
      refine ⟨?_, q2, q3, q4, q5, q6⟩
      obtain ⟨t, ht, -⟩ := State.frames_cons hr
      show ({ U with heap := s₂.heap, slotsUsed := s₂.slotsUsed } : State) = { U.setFrames U.frames with heap := s₂.heap, slotsUsed := s₂.slotsUsed }
      rw [State.setFrames_self ht]
    subst hg
    refine Or.inl ⟨v, ⟨(({ U with heap := s₂.heap, slotsUsed := s₂.slotsUsed } : State).setVm s₂.vm), Ls ++ L, c0 + mc, s0 + ms⟩,
      ⟨X.admits, X.cas, X.clock, X.frames, X.room, X.hears, X.method, X.code, (X.here.setHeapUsed s₂.heap s₂.slotsUsed).setVm hW'.alike, X.tail, State.WarmedH.trans X.warmed hW', X.limits, X.bytes, X.same.trans (hsame.setVm s.vm)⟩,
      ⟨g, mk, s₂, L, rfl, rfl, hqc, rfl, hL, rfl, rfl⟩, ?_⟩
    show Steps p.tables e below _ ((({ U with heap := s₂.heap, slotsUsed := s₂.slotsUsed } : State).setVm s₂.vm).setTop { g with pc := g.pc + len₂, stack := v.toList ++ g.stack })
    rw [← hs₂]
    exact hsteps
  · obtain ⟨e2, q2, q3, q4, q5, q6⟩ := id hsm
    have e3 : s₂ = ({ (U.calling g mk a).setFrames s₂.frames with heap := s₂.heap, slotsUsed := s₂.slotsUsed } : State).setVm s₂.vm := by
      have : s₂ = ({ s₂ with vm := (U.calling g mk a).vm } : State).setVm s₂.vm := rfl
      rw [e2] at this
      exact this
    have hf₂ : s₂.frames = .throwing q :: .java g :: U.frames.tail := hend
    have hW' : U.WarmedH s₂.vm := hW₂
    have hs₂ : s₂ = ((({ U with heap := s₂.heap, slotsUsed := s₂.slotsUsed } : State).setVm s₂.vm).setTop g).pushFrame (.throwing q) := by
      refine e3.trans ?_
      rw [hf₂, State.calling_eq h.top, State.setFrames_setFrames, State.pushFrame, State.frames_setTop _ hr', State.setTop_of_frames _ hr', State.setFrames_setFrames, hr]
      rfl
    have hsame : U.sameButNew ({ U with heap := s₂.heap, slotsUsed := s₂.slotsUsed } : State) L mc ms := by
      refine ⟨?_, q2, q3, q4, q5, q6⟩
      obtain ⟨t, ht, -⟩ := State.frames_cons hr
      show ({ U with heap := s₂.heap, slotsUsed := s₂.slotsUsed } : State) = { U.setFrames U.frames with heap := s₂.heap, slotsUsed := s₂.slotsUsed }
      rw [State.setFrames_self ht]
    subst hg
    refine Or.inr ⟨q, ⟨(({ U with heap := s₂.heap, slotsUsed := s₂.slotsUsed } : State).setVm s₂.vm), Ls ++ L, c0 + mc, s0 + ms⟩,
      ⟨X.admits, X.cas, X.clock, X.frames, X.room, X.hears, X.method, X.code, (X.here.setHeapUsed s₂.heap s₂.slotsUsed).setVm hW'.alike, X.tail, State.WarmedH.trans X.warmed hW', X.limits, X.bytes, X.same.trans (hsame.setVm s.vm)⟩,
      ⟨g, mk, s₂, L, E, ce, rfl, rfl, hx, hce, hcv, hcl, rfl, hL, rfl, rfl⟩, ?_⟩
    show Steps p.tables e below _ (((({ U with heap := s₂.heap, slotsUsed := s₂.slotsUsed } : State).setVm s₂.vm).setTop g).pushFrame (.throwing q))
    rw [← hs₂]
    exact hsteps
end
variable {p : Program} {l : Launch} {e : Env} {R : Room} {s : State} {m : MethodId} {args : Array Value} {below : List Frame} {meth : Method} {c : Code} {T : State} {H : Heap} {locs : List Loc} {cells slots : Nat}
theorem vx_callVX (X : Stand p l e R s m args below meth c T locs cells slots) (hexec : p.tables.exec = Jvm.exec) {own C : String} {index : Nat} {y : MethodName} {bytes : ByteArray} {maxL : Nat} {ret : Option FieldType} {hh : List (Nat × Nat × Nat × Nat)}
    (hown : s.vm.findClass own = some m.cls) (hlink : (Cond.methodLink own index y).before args s = true) (hinst : (Cond.instanceMethod y).before args s = true) (hsel : (Cond.selects C y y).before args s = true)
    (hcode : (Cond.codeWith y bytes maxL ret hh).before args s = true) (hy : y.cls ≠ "java/lang/invoke/MethodHandle" ∧ y.cls ≠ "java/lang/invoke/VarHandle")
    {W9 : Nat} {Pre : Pt → Array Value → Prop} {Post : Pt → Array Value → Option Value → Pt → Prop} {PostX : Pt → Array Value → Addr → Pt → Prop} (hK : vx_Back l R p e below s args y 3 W9 Pre Post PostX)
    {b : Addr} {cellB : Cell} (hcell : T.heap[b]? = some cellB) (hobj : cellB.vm.isStatics = false) (hcls : s.vm.findClass C = some cellB.cls)
    {g : JFrame} (hg : g.method = m) (hsize : g.locals.size = c.maxLocals) {argsL rest : List Value} (hlen : ∀ sig, parseMethodDescriptor y.desc = some sig → argsL.length = sig.parameters.length)
    (hstack : g.stack = argsL.reverse ++ .ref b :: rest) (hW : 2 * g.monitorRoom + (rest.map fun v => v.category).sum ≤ W9) (hdg : decode c.code g.pc = .ok (.invokevirtual index, 3))
    (hpre : ∀ vm₁, s.WarmedH vm₁ → Pre ⟨T.setVm vm₁, locs, cells, slots⟩ (Value.ref b :: argsL).toArray) :
    (∃ (v : Option Value) (vm₁ : Vm) (B : Pt), s.WarmedH vm₁ ∧ Stand p l e R s m args below meth c B.U B.locs B.cells B.slots ∧ Post ⟨T.setVm vm₁, locs, cells, slots⟩ (Value.ref b :: argsL).toArray v B ∧
      ∀ target, Steps p.tables e below (B.U.setTop { g with pc := g.pc + 3, stack := v.toList ++ rest }) target → Steps p.tables e below (T.setTop g) target) ∨
    (∃ (q : Addr) (vm₁ : Vm) (B : Pt), s.WarmedH vm₁ ∧ Stand p l e R s m args below meth c B.U B.locs B.cells B.slots ∧ PostX ⟨T.setVm vm₁, locs, cells, slots⟩ (Value.ref b :: argsL).toArray q B ∧
      Steps p.tables e below (T.setTop g) ((B.U.setTop { g with stack := rest }).pushFrame (.throwing q))) := by
  obtain ⟨mk, methM, hnamed, hmethM, hstM, habM⟩ := Cond.instanceMethod_spec hinst
  obtain ⟨m8, methM', cM, hn8, hmethM', -, -, -, -, -, -, hsigM⟩ := Cond.codeWith_spec hcode
  cases Option.some.inj (hn8.symm.trans hnamed)
  cases hmethM.symm.trans hmethM'
  obtain ⟨c2, r2, m2, q1, q2, q3, q4, kP, hkP, hkPi⟩ := Cond.selects_spec hsel
  cases hcls.symm.trans q1
  cases (State.methodFound?_of_named hnamed hy).symm.trans q2
  cases hnamed.symm.trans q3
  have hselP : selectMethod e.platform s.vm cellB.cls mk = .method mk := by rw [Launch.admits_selectMethod X.admits]; exact q4
  obtain ⟨vm₁, X₁, hstep₁⟩ := X.invokevirtual hexec hown hlink hnamed hmethM hstM hkP hkPi hy (a := b) (cell := cellB) hcell
    (fun z h => by rw [h] at hobj; cases hobj) hselP hmethM habM hkP hkPi (g := g) hg (argsL := argsL) (rest := rest) (hlen _ hsigM) hstack hdg
  rcases hK m meth c ⟨T.setVm vm₁, locs, cells, slots⟩ { g with stack := rest } (.invokevirtual index) mk (Value.ref b :: argsL).toArray X₁ hg hsize hdg hW (X₁.named hnamed) (hpre vm₁ X₁.warmed) with ⟨v, B, X', hpost, hsteps⟩ | ⟨q, B, X', hpost, hsteps⟩
  · exact Or.inl ⟨v, vm₁, B, X₁.warmed, X', hpost, fun target h => hstep₁ _ fun acts => by rw [doInvoke_state]; exact hsteps.trans h⟩
  · exact Or.inr ⟨q, vm₁, B, X₁.warmed, X', hpost, hstep₁ _ fun acts => by rw [doInvoke_state]; exact hsteps⟩
theorem vx_callSX (X : Stand p l e R s m args below meth c T locs cells slots) (hexec : p.tables.exec = Jvm.exec) {own : String} {index : Nat} {y : MethodName} {bytes : ByteArray} {maxL : Nat} {ret : Option FieldType} {hh : List (Nat × Nat × Nat × Nat)}
    (hown : s.vm.findClass own = some m.cls) (hlink : (Cond.methodLink own index y).before args s = true) (hstat : (Cond.static y).before args s = true) (hinit : (Cond.initialized y.cls).before args s = true)
    (hcode : (Cond.codeWith y bytes maxL ret hh).before args s = true) (hy : y.cls ≠ "java/lang/invoke/MethodHandle" ∧ y.cls ≠ "java/lang/invoke/VarHandle")
    {W9 : Nat} {Pre : Pt → Array Value → Prop} {Post : Pt → Array Value → Option Value → Pt → Prop} {PostX : Pt → Array Value → Addr → Pt → Prop} (hK : vx_Back l R p e below s args y 3 W9 Pre Post PostX)
    {g : JFrame} (hg : g.method = m) (hsize : g.locals.size = c.maxLocals) {argsL rest : List Value} (hlen : ∀ sig, parseMethodDescriptor y.desc = some sig → argsL.length = sig.parameters.length)
    (hstack : g.stack = argsL.reverse ++ rest) (hW : 2 * g.monitorRoom + (rest.map fun v => v.category).sum ≤ W9) (hdg : decode c.code g.pc = .ok (.invokestatic index, 3))
    (hpre : ∀ vm₁, s.WarmedH vm₁ → Pre ⟨T.setVm vm₁, locs, cells, slots⟩ argsL.toArray) :
    (∃ (v : Option Value) (vm₁ : Vm) (B : Pt), s.WarmedH vm₁ ∧ Stand p l e R s m args below meth c B.U B.locs B.cells B.slots ∧ Post ⟨T.setVm vm₁, locs, cells, slots⟩ argsL.toArray v B ∧
      ∀ target, Steps p.tables e below (B.U.setTop { g with pc := g.pc + 3, stack := v.toList ++ rest }) target → Steps p.tables e below (T.setTop g) target) ∨
    (∃ (q : Addr) (vm₁ : Vm) (B : Pt), s.WarmedH vm₁ ∧ Stand p l e R s m args below meth c B.U B.locs B.cells B.slots ∧ PostX ⟨T.setVm vm₁, locs, cells, slots⟩ argsL.toArray q B ∧
      Steps p.tables e below (T.setTop g) ((B.U.setTop { g with stack := rest }).pushFrame (.throwing q))) := by
  obtain ⟨mk, methM, cM, hnamed, hmethM, -, -, -, -, -, -, hsigM⟩ := Cond.codeWith_spec hcode
  have hstatic : methM.isStatic = true := Cond.static_spec hnamed hmethM hstat
  obtain ⟨kP, hkP, -⟩ := className_of_methodNamed hnamed
  have hinitP : kP.init = .initialized := Cond.initialized_spec (findClass_of_methodNamed hnamed) hkP hinit
  obtain ⟨vm₁, X₁, hstep₁⟩ := X.invokestatic hexec hown hlink hnamed hmethM hstatic hkP hinitP hy (g := g) hg (argsL := argsL) (rest := rest) (hlen _ hsigM) hstack hdg
  rcases hK m meth c ⟨T.setVm vm₁, locs, cells, slots⟩ { g with stack := rest } (.invokestatic index) mk argsL.toArray X₁ hg hsize hdg hW (X₁.named hnamed) (hpre vm₁ X₁.warmed) with ⟨v, B, X', hpost, hsteps⟩ | ⟨q, B, X', hpost, hsteps⟩
  · exact Or.inl ⟨v, vm₁, B, X₁.warmed, X', hpost, fun target h => hstep₁ _ fun acts => by rw [doInvoke_state]; exact hsteps.trans h⟩
  · exact Or.inr ⟨q, vm₁, B, X₁.warmed, X', hpost, hstep₁ _ fun acts => by rw [doInvoke_state]; exact hsteps⟩
theorem vx_callVW (X : Stand p l e R s m args below meth c T locs cells slots) (hexec : p.tables.exec = Jvm.exec) {own C : String} {index : Nat} {y : MethodName} {bytes : ByteArray} {maxL : Nat} {ret : Option FieldType} {hh : List (Nat × Nat × Nat × Nat)}
    (hown : s.vm.findClass own = some m.cls) (hlink : (Cond.methodLink own index y).before args s = true) (hinst : (Cond.instanceMethod y).before args s = true) (hsel : (Cond.selects C y y).before args s = true)
    (hcode : (Cond.codeWith y bytes maxL ret hh).before args s = true) (hy : y.cls ≠ "java/lang/invoke/MethodHandle" ∧ y.cls ≠ "java/lang/invoke/VarHandle")
    {W9 : Nat} {Pre : Pt → Array Value → Prop} {Post : Pt → Array Value → Option Value → Pt → Prop} (hK : Back l R p e below s args y 3 W9 Pre Post)
    {b : Addr} {cellB : Cell} (hcell : T.heap[b]? = some cellB) (hobj : cellB.vm.isStatics = false) (hcls : s.vm.findClass C = some cellB.cls)
    {g : JFrame} (hg : g.method = m) (hsize : g.locals.size = c.maxLocals) {argsL rest : List Value} (hlen : ∀ sig, parseMethodDescriptor y.desc = some sig → argsL.length = sig.parameters.length)
    (hstack : g.stack = argsL.reverse ++ .ref b :: rest) (hW : 2 * g.monitorRoom + (rest.map fun v => v.category).sum ≤ W9) (hdg : decode c.code g.pc = .ok (.invokevirtual index, 3))
    (hpre : ∀ vm₁, s.WarmedH vm₁ → Pre ⟨T.setVm vm₁, locs, cells, slots⟩ (Value.ref b :: argsL).toArray) :
    ∃ (v : Option Value) (vm₁ : Vm) (B : Pt), s.WarmedH vm₁ ∧ Stand p l e R s m args below meth c B.U B.locs B.cells B.slots ∧ Post ⟨T.setVm vm₁, locs, cells, slots⟩ (Value.ref b :: argsL).toArray v B ∧
      ∀ target, Steps p.tables e below (B.U.setTop { g with pc := g.pc + 3, stack := v.toList ++ rest }) target → Steps p.tables e below (T.setTop g) target := by
  obtain ⟨mk, methM, hnamed, hmethM, hstM, habM⟩ := Cond.instanceMethod_spec hinst
  obtain ⟨m8, methM', cM, hn8, hmethM', -, -, -, -, -, -, hsigM⟩ := Cond.codeWith_spec hcode
  cases Option.some.inj (hn8.symm.trans hnamed)
  cases hmethM.symm.trans hmethM'
  obtain ⟨c2, r2, m2, q1, q2, q3, q4, kP, hkP, hkPi⟩ := Cond.selects_spec hsel
  cases hcls.symm.trans q1
  cases (State.methodFound?_of_named hnamed hy).symm.trans q2
  cases hnamed.symm.trans q3
  have hselP : selectMethod e.platform s.vm cellB.cls mk = .method mk := by rw [Launch.admits_selectMethod X.admits]; exact q4
  obtain ⟨vm₁, X₁, hstep₁⟩ := X.invokevirtual hexec hown hlink hnamed hmethM hstM hkP hkPi hy (a := b) (cell := cellB) hcell
    (fun z h => by rw [h] at hobj; cases hobj) hselP hmethM habM hkP hkPi (g := g) hg (argsL := argsL) (rest := rest) (hlen _ hsigM) hstack hdg
  obtain ⟨v, B, X', hpost, hsteps⟩ := hK m meth c ⟨T.setVm vm₁, locs, cells, slots⟩ { g with stack := rest } (.invokevirtual index) mk (Value.ref b :: argsL).toArray X₁ hg hsize hdg hW (X₁.named hnamed) (hpre vm₁ X₁.warmed)
  exact ⟨v, vm₁, B, X₁.warmed, X', hpost, fun target h => hstep₁ _ fun acts => by rw [doInvoke_state]; exact hsteps.trans h⟩
abbrev vx_CVW (R : Room) (s : State) (args : Array Value) (own C : String) (index : Nat) (y : MethodName) (bytes : ByteArray) (maxL : Nat) (ret : Option FieldType) (hh : List (Nat × Nat × Nat × Nat)) (ws : List Cond) (rm : Room) (mc ms n : Nat) : Prop :=
  (rm.cells = mc ∧ rm.slots = ms ∧ rm.frames + 1 ≤ R.frames ∧ 8 + (maxL + 11) + rm.locals ≤ R.locals ∧ (∀ w ∈ ws, ∀ (a' : Array Value) (U : State), s.WarmedH U.vm → w.before a' U = true) ∧ Cond.codeWith y bytes maxL ret hh ∈ ws) ∧
  (Cond.codeWith y bytes maxL ret hh).before args s = true ∧ (Cond.initialized y.cls).before args s = true ∧ (y.cls ≠ "java/lang/invoke/MethodHandle" ∧ y.cls ≠ "java/lang/invoke/VarHandle") ∧
  (∀ sig, parseMethodDescriptor y.desc = some sig → n = sig.parameters.length) ∧ (Cond.methodLink own index y).before args s = true ∧ (Cond.instanceMethod y).before args s = true ∧ (Cond.selects C y y).before args s = true
theorem vx_cwVW {own C : String} {index maxL mc ms : Nat} {y : MethodName} {bytes : ByteArray} {ret : Option FieldType} {hh : List (Nat × Nat × Nat × Nat)} {Ts ws ws' : List Cond} {rm : Room} (n : Nat) (ht : ∀ w ∈ Ts, w.before args s = true) (hT : GoodIn Ts (wsV own index C y ws)) (hw : ws = Cond.codeWith y bytes maxL ret hh :: ws') (hrc : rm.cells = mc) (hrs : rm.slots = ms)
    (hd : y.cls = C ∧ y.cls ≠ "java/lang/invoke/MethodHandle" ∧ y.cls ≠ "java/lang/invoke/VarHandle" ∧ (parseMethodDescriptor y.desc).map (fun d => d.parameters.length) = some n) (hR : rm.frames + 1 ≤ R.frames ∧ 8 + (maxL + 11) + rm.locals ≤ R.locals) :
    vx_CVW R s args own C index y bytes maxL ret hh ws rm mc ms n := by
  obtain ⟨hC, hd⟩ := hd
  subst hC
  have ok : ∀ w ∈ wsV own index y.cls y ws, w.before args s = true := fun w h => ht w (hT w h).1
  have hG : GoodIn Ts ws := fun w h => hT w (by unfold wsV; exact List.mem_append_right _ h)
  have hc : Cond.codeWith y bytes maxL ret hh ∈ ws := by rw [hw]; exact List.mem_cons_self
  refine ⟨⟨hrc, hrs, hR.1, hR.2, pay_in ht hG, hc⟩, ht _ (hG _ hc).1, ok _ (by simp [wsV]), ⟨hd.1, hd.2.1⟩, fun sig h => ?_, ok _ (by simp [wsV]), ok _ (by simp [wsV]), ok _ (by simp [wsV])⟩
  have h2 := hd.2.2
  rw [h] at h2
  exact (Option.some.inj h2).symm
theorem vx_runVW {y : MethodName} {bytes cc : ByteArray} {maxL nL mc ms n index : Nat} {ret : Option FieldType} {hh : List (Nat × Nat × Nat × Nat)} {ws : List Cond} {rm : Room} {Pc : Array Value → State → Prop} {Qc : Array Value → State → Outcome → State → Prop} {free : Addr → Prop} {Ts : List Cond} {own C : String} {b : Addr} {As rest : List Value} {g : JFrame}
    (S : CallFix p m c cc nL s args Ts own) (hM : Met l y ws rm Pc Qc mc ms free) (cw : vx_CVW R s args own C index y bytes maxL ret hh ws rm mc ms n) (hp : PreV s H C b Pc As)
    (hg : g.method = m) (hn : As.length = n) (hsize : g.locals.size = nL) (hstack : g.stack = As.reverse ++ .ref b :: rest) (hW : 2 * g.monitorRoom + (rest.map fun v => v.category).sum ≤ 8) (hdg : decode cc g.pc = .ok (.invokevirtual index, 3)) (hf : cells + mc ≤ R.cells ∧ slots + ms ≤ R.slots) :
    va_Run p l e R s m args below meth c H locs cells slots mc ms g rest (Qc (Value.ref b :: As).toArray) free := by
  obtain ⟨⟨hrc, hrs, hfr, hlo, hws, hcw⟩, hcode, hini, hy, hlen, hl, hin, hse⟩ := cw
  have hK : Back l R p e below s args y 3 8 (PreOf R mc ms Pc) (PostOf Qc mc ms free) := va_backW (hh := hh) (bytes := bytes) (maxL := maxL) (ret := ret) hM hp.1 hrc hrs hfr hlo hws hcw (fun a' U hW => word_at hW (Or.inl (by first | rfl | simp [Cond.onTables, Cond.keeps, Cond.steady])) hini)
  obtain ⟨hx, hb, hml, ho, -⟩ := S
  obtain ⟨-, ⟨cellB, hcB, hoB, hclB⟩, hPc⟩ := hp
  intro T hT X
  obtain ⟨v, vm₁, ⟨U', l2, c2, s2⟩, hW₁, X', ⟨g', mk, t, L, e1, e2, hq, h1, hL, h2, h3⟩, st⟩ := vx_callVW X hx (C := C) (hh := hh) (bytes := bytes) (maxL := maxL) (ret := ret) ho hl hin hse hcode hy hK (by rw [hT]; exact hcB) hoB hclB hg (hsize.trans hml.symm) (argsL := As) (rest := rest) (fun sig h => hn.trans (hlen sig h)) hstack hW (by rw [hb]; exact hdg)
    (fun vm₁ hW₁ => ⟨hf.1, hf.2, hPc (T.setVm vm₁) hT hW₁⟩)
  dsimp only [Pt.U, Pt.locs, Pt.cells, Pt.slots] at X' e1 e2 h1 h2 h3 st
  subst h1; subst h2; subst h3
  exact ⟨v, (T.setVm vm₁).calling g' mk (Value.ref b :: As).toArray, t, U', L, hT, X', hL, e1, e2, hq, st⟩
section
variable {y : MethodName} {bytes cc : ByteArray} {maxL nL mc ms n index : Nat} {ret : Option FieldType} {ws : List Cond} {rm : Room} {Pc : Array Value → State → Prop} {Qc : Array Value → State → Outcome → State → Prop} {XC : String → State → State → Prop} {free : Addr → Prop} {Ts : List Cond} {own C : String} {b : Addr} {As rest : List Value} {g : JFrame}
theorem vx_runVX {hh : List (Nat × Nat × Nat × Nat)} (S : CallFix p m c cc nL s args Ts own) (hM : vx_Met l y ws rm Pc Qc XC mc ms free) (cw : vx_CVW R s args own C index y bytes maxL ret hh ws rm mc ms n) (hp : PreV s H C b Pc As)
    (hg : g.method = m) (hn : As.length = n) (hsize : g.locals.size = nL) (hstack : g.stack = As.reverse ++ .ref b :: rest) (hW : 2 * g.monitorRoom + (rest.map fun v => v.category).sum ≤ 8) (hdg : decode cc g.pc = .ok (.invokevirtual index, 3)) (hf : cells + mc ≤ R.cells ∧ slots + ms ≤ R.slots) :
    vx_Run p l e R s m args below meth c H locs cells slots mc ms g rest (Qc (Value.ref b :: As).toArray) XC free := by
  obtain ⟨⟨hrc, hrs, hfr, hlo, hws, hcw⟩, hcode, hini, hy, hlen, hl, hin, hse⟩ := cw
  have hK : vx_Back l R p e below s args y 3 8 (PreOf R mc ms Pc) (PostOf Qc mc ms free) (vx_Post XC mc ms free) := vx_backW (hh := hh) (bytes := bytes) (maxL := maxL) (ret := ret) hM hp.1 hrc hrs hfr hlo hws hcw (fun a' U hW => word_at hW (Or.inl (by first | rfl | simp [Cond.onTables, Cond.keeps, Cond.steady])) hini)
  obtain ⟨hx, hb, hml, ho, -⟩ := S
  obtain ⟨-, ⟨cellB, hcB, hoB, hclB⟩, hPc⟩ := hp
  intro T hT X
  rcases vx_callVX X hx (C := C) (hh := hh) (bytes := bytes) (maxL := maxL) (ret := ret) ho hl hin hse hcode hy hK (by rw [hT]; exact hcB) hoB hclB hg (hsize.trans hml.symm) (argsL := As) (rest := rest) (fun sig h => hn.trans (hlen sig h)) hstack hW (by rw [hb]; exact hdg)
    (fun vm₁ hW₁ => ⟨hf.1, hf.2, hPc (T.setVm vm₁) hT hW₁⟩) with ⟨v, vm₁, ⟨U', l2, c2, s2⟩, hW₁, X', ⟨g', mk, t, L, e1, e2, hq, h1, hL, h2, h3⟩, st⟩ | ⟨q, vm₁, ⟨U', l2, c2, s2⟩, hW₁, X', ⟨g', mk, t, L, E, ce, e1, e2, hq, hce, hcv, hcl, h1, hL, h2, h3⟩, st⟩
  · dsimp only [Pt.U, Pt.locs, Pt.cells, Pt.slots] at X' e1 e2 h1 h2 h3 st
    subst h1; subst h2; subst h3
    exact Or.inl ⟨v, (T.setVm vm₁).calling g' mk (Value.ref b :: As).toArray, t, U', L, hT, X', hL, e1, e2, hq, st⟩
  · dsimp only [Pt.U, Pt.locs, Pt.cells, Pt.slots] at X' e1 e2 h1 h2 h3 st hcl
    subst h1; subst h2; subst h3
    exact Or.inr ⟨q, (T.setVm vm₁).calling g' mk (Value.ref b :: As).toArray, t, U', L, E, ce, hT, X', hL, e1, e2, hq, hce, hcv, vx_cls hW₁ hcl, st⟩
theorem vx_runSX {hh : List (Nat × Nat × Nat × Nat)} (S : CallFix p m c cc nL s args Ts own) (hM : vx_Met l y ws rm Pc Qc XC mc ms free) (cw : vx_CSW R s args own index y bytes maxL ret hh ws rm mc ms n) (hp : PreS s H Pc As)
    (hg : g.method = m) (hn : As.length = n) (hsize : g.locals.size = nL) (hstack : g.stack = As.reverse ++ rest) (hW : 2 * g.monitorRoom + (rest.map fun v => v.category).sum ≤ 8) (hdg : decode cc g.pc = .ok (.invokestatic index, 3)) (hf : cells + mc ≤ R.cells ∧ slots + ms ≤ R.slots) :
    vx_Run p l e R s m args below meth c H locs cells slots mc ms g rest (Qc As.toArray) XC free := by
  obtain ⟨⟨hrc, hrs, hfr, hlo, hws, hcw⟩, hcode, hini, hy, hlen, hl, hstt⟩ := cw
  have hK : vx_Back l R p e below s args y 3 8 (PreOf R mc ms Pc) (PostOf Qc mc ms free) (vx_Post XC mc ms free) := vx_backW (hh := hh) (bytes := bytes) (maxL := maxL) (ret := ret) hM hp.1 hrc hrs hfr hlo hws hcw (fun a' U hW => word_at hW (Or.inl (by first | rfl | simp [Cond.onTables, Cond.keeps, Cond.steady])) hini)
  obtain ⟨hx, hb, hml, ho, -⟩ := S
  intro T hT X
  rcases vx_callSX X hx (hh := hh) (bytes := bytes) (maxL := maxL) (ret := ret) ho hl hstt hini hcode hy hK hg (hsize.trans hml.symm) (argsL := As) (rest := rest) (fun sig h => hn.trans (hlen sig h)) hstack hW (by rw [hb]; exact hdg)
    (fun vm₁ hW₁ => ⟨hf.1, hf.2, hp.2 (T.setVm vm₁) hT hW₁⟩) with ⟨v, vm₁, ⟨U', l2, c2, s2⟩, hW₁, X', ⟨g', mk, t, L, e1, e2, hq, h1, hL, h2, h3⟩, st⟩ | ⟨q, vm₁, ⟨U', l2, c2, s2⟩, hW₁, X', ⟨g', mk, t, L, E, ce, e1, e2, hq, hce, hcv, hcl, h1, hL, h2, h3⟩, st⟩
  · dsimp only [Pt.U, Pt.locs, Pt.cells, Pt.slots] at X' e1 e2 h1 h2 h3 st
    subst h1; subst h2; subst h3
    exact Or.inl ⟨v, (T.setVm vm₁).calling g' mk As.toArray, t, U', L, hT, X', hL, e1, e2, hq, st⟩
  · dsimp only [Pt.U, Pt.locs, Pt.cells, Pt.slots] at X' e1 e2 h1 h2 h3 st hcl
    subst h1; subst h2; subst h3
    exact Or.inr ⟨q, (T.setVm vm₁).calling g' mk As.toArray, t, U', L, E, ce, hT, X', hL, e1, e2, hq, hce, hcv, vx_cls hW₁ hcl, st⟩
end
end VXH
theorem vx_ofWH {l : Launch} {y : MethodName} {ws ws' : List Cond} {rm : Room} {Pc : Array Value → State → Prop} {Qc : Array Value → State → Outcome → State → Prop} {XC : String → State → State → Prop} {mc ms : Nat} {free : Addr → Prop} {cc : ByteArray} {maxL : Nat} {ret : Option FieldType} {hh : List (Nat × Nat × Nat × Nat)}
    (hy : plainName y.cls = true) (hw : ws = Cond.codeWith y cc maxL ret hh :: ws')
    (body : ∀ p e s m args below meth c s₁, BodyLoose p l y (headSpec ws rm) cc maxL ret e s m args below meth c s₁ → c.maxLocals = maxL → Pc args s →
      W p l e (headSpec ws rm).room s m args below meth c s.heap [] 0 0 (vx_MQ below Qc XC args s mc ms free) (entryFrame m args maxL)) : vx_Met l y ws rm Pc Qc XC mc ms free := by
  refine MetFree.of_bodyS (code := cc) (maxLocals := maxL) (ret := ret) hy ?_ ?_
  · intro args s m h hn
    obtain ⟨m9, meth, c, hn9, h1, h2, h3, h4, -, h5, h6, -⟩ := Cond.codeWith_spec (atoms_spec (ws := ws) h _ (by rw [hw]; exact List.mem_cons_self))
    cases hn.symm.trans hn9
    exact ⟨meth, c, h1, h2, h3, h4, h5, h6⟩
  · intro p e s m args below meth c s₁ B hml hP _
    have hh0 : s₁.heap = s.heap := by rw [B.state]; rfl
    obtain ⟨t, a1, o, b1, b2, b3⟩ := body p e s m args below meth c s₁ B hml hP s₁ hh0 (Stand.of_body B)
    exact ⟨t, o, a1, b1, b2, b3⟩
/-! ===== END ===== -/
end
section
/-! ===== BEGIN printed: names, fields, word lists, decode rows ===== -/
def RX0 : String := "RoverPlanner$Doer"
def TX0 : u_T := fun k => match k with
  | 0 => ("RoverPlanner$Doer", "ground", "LRoverPlanner$Ground;", true)
  | 1 => ("RoverPlanner$Doer", "ways", "LRoverPlanner$Ways;", true)
  | 2 => ("RoverPlanner$Doer", "targets", "LRoverPlanner$Targets;", true)
  | 3 => ("RoverPlanner$Doer", "passes", "LRoverPlanner$Passes;", true)
  | 4 => ("RoverPlanner$Doer", "undo", "LRoverPlanner$Rover;", true)
  | 5 => ("RoverPlanner$Doer", "capacity", "I", false)
  | 6 => ("RoverPlanner$Doer", "memory", "I", false)
  | _ => ("RoverPlanner$Doer", "lastReason", "I", false)
def tyX0 : Nat → FieldType := fun k => match k with
  | 0 => .object "RoverPlanner$Ground"
  | 1 => .object "RoverPlanner$Ways"
  | 2 => .object "RoverPlanner$Targets"
  | 3 => .object "RoverPlanner$Passes"
  | 4 => .object "RoverPlanner$Rover"
  | 5 => .int
  | 6 => .int
  | _ => .int
abbrev wsX00 : List Cond := u_ws RX0 TX0 8
theorem nmX0 : ∀ a, a < 8 → ∀ b, b < 8 → a ≠ b → (TX0 a).2.1 ≠ (TX0 b).2.1 := by decide +kernel
theorem tyX0_ok : ∀ k, k < 8 → parseFieldDescriptor (TX0 k).2.2.1 = some (tyX0 k) := by decide +kernel
abbrev cX0_init : ByteArray := prog_2_method_1_code
def yX0_init : MethodName := ⟨RX0, "<init>", "(LRoverPlanner$Ground;LRoverPlanner$Ways;LRoverPlanner$Targets;LRoverPlanner$Passes;)V"⟩
abbrev cX0_lightAt : ByteArray := prog_2_method_2_code
def yX0_lightAt : MethodName := ⟨RX0, "lightAt", "(I)I"⟩
abbrev cX0_airBy : ByteArray := prog_2_method_3_code
def yX0_airBy : MethodName := ⟨RX0, "airBy", "(I)I"⟩
abbrev cX0_powerBy : ByteArray := prog_2_method_4_code
def yX0_powerBy : MethodName := ⟨RX0, "powerBy", "(II)I"⟩
abbrev cX0_performAll : ByteArray := prog_2_method_5_code
def yX0_performAll : MethodName := ⟨RX0, "performAll", "(LRoverPlanner$Rover;LRoverPlanner$Plan;I)I"⟩
abbrev cX0_perform : ByteArray := prog_2_method_6_code
def yX0_perform : MethodName := ⟨RX0, "perform", "(LRoverPlanner$Rover;III)I"⟩
abbrev cX0_passMinutes : ByteArray := prog_2_method_7_code
def yX0_passMinutes : MethodName := ⟨RX0, "passMinutes", "(LRoverPlanner$Rover;IZI)I"⟩
abbrev cX0_drive : ByteArray := prog_2_method_8_code
def yX0_drive : MethodName := ⟨RX0, "drive", "(LRoverPlanner$Rover;II)I"⟩
abbrev cX0_step : ByteArray := prog_2_method_9_code
def yX0_step : MethodName := ⟨RX0, "step", "(LRoverPlanner$Rover;I)I"⟩
abbrev cX0_takeImage : ByteArray := prog_2_method_10_code
def yX0_takeImage : MethodName := ⟨RX0, "takeImage", "(LRoverPlanner$Rover;II)I"⟩
abbrev cX0_takeTouch : ByteArray := prog_2_method_11_code
def yX0_takeTouch : MethodName := ⟨RX0, "takeTouch", "(LRoverPlanner$Rover;II)I"⟩
abbrev cX0_useTool : ByteArray := prog_2_method_12_code
def yX0_useTool : MethodName := ⟨RX0, "useTool", "(LRoverPlanner$Rover;III)I"⟩
abbrev cX0_transmit : ByteArray := prog_2_method_13_code
def yX0_transmit : MethodName := ⟨RX0, "transmit", "(LRoverPlanner$Rover;I)I"⟩
abbrev cX0_rest : ByteArray := prog_2_method_14_code
def yX0_rest : MethodName := ⟨RX0, "rest", "(LRoverPlanner$Rover;IZ)I"⟩
abbrev cX0_clean : ByteArray := prog_2_method_15_code
def yX0_clean : MethodName := ⟨RX0, "clean", "(LRoverPlanner$Rover;)I"⟩
def RX1 : String := "RoverPlanner$Ground"
def TX1 : u_T := fun k => match k with
  | 0 => ("RoverPlanner$Ground", "heights", "[I", true)
  | 1 => ("RoverPlanner$Ground", "roughs", "[I", true)
  | 2 => ("RoverPlanner$Ground", "hazards", "[Z", true)
  | 3 => ("RoverPlanner$Ground", "stepMinutes", "[I", true)
  | _ => ("RoverPlanner$Ground", "slope", "I", false)
def tyX1 : Nat → FieldType := fun k => match k with
  | 0 => .array .int
  | 1 => .array .int
  | 2 => .array .boolean
  | 3 => .array .int
  | _ => .int
abbrev wsX10 : List Cond := u_ws RX1 TX1 5
theorem nmX1 : ∀ a, a < 5 → ∀ b, b < 5 → a ≠ b → (TX1 a).2.1 ≠ (TX1 b).2.1 := by decide +kernel
theorem tyX1_ok : ∀ k, k < 5 → parseFieldDescriptor (TX1 k).2.2.1 = some (tyX1 k) := by decide +kernel
abbrev cX1_init : ByteArray := prog_3_method_1_code
def yX1_init : MethodName := ⟨RX1, "<init>", "()V"⟩
abbrev cX1_isPlace : ByteArray := prog_3_method_2_code
def yX1_isPlace : MethodName := ⟨RX1, "isPlace", "(II)Z"⟩
abbrev cX1_isRectangle : ByteArray := prog_3_method_3_code
def yX1_isRectangle : MethodName := ⟨RX1, "isRectangle", "(IIII)Z"⟩
abbrev cX1_placeOf : ByteArray := prog_3_method_4_code
def yX1_placeOf : MethodName := ⟨RX1, "placeOf", "(II)I"⟩
abbrev cX1_neighbourOf : ByteArray := prog_3_method_5_code
def yX1_neighbourOf : MethodName := ⟨RX1, "neighbourOf", "(II)I"⟩
abbrev cX1_distance : ByteArray := prog_3_method_6_code
def yX1_distance : MethodName := ⟨RX1, "distance", "(IIII)I"⟩
abbrev cX1_octantOf : ByteArray := prog_3_method_7_code
def yX1_octantOf : MethodName := ⟨RX1, "octantOf", "(IIII)I"⟩
abbrev cX1_heightAt : ByteArray := prog_3_method_8_code
def yX1_heightAt : MethodName := ⟨RX1, "heightAt", "(II)I"⟩
abbrev cX1_roughAt : ByteArray := prog_3_method_9_code
def yX1_roughAt : MethodName := ⟨RX1, "roughAt", "(II)I"⟩
abbrev cX1_isHazardAt : ByteArray := prog_3_method_10_code
def yX1_isHazardAt : MethodName := ⟨RX1, "isHazardAt", "(II)Z"⟩
abbrev cX1_canLift : ByteArray := prog_3_method_11_code
def yX1_canLift : MethodName := ⟨RX1, "canLift", "(IIIII)Z"⟩
abbrev cX1_lift : ByteArray := prog_3_method_12_code
def yX1_lift : MethodName := ⟨RX1, "lift", "(IIIII)I"⟩
abbrev cX1_cover : ByteArray := prog_3_method_13_code
def yX1_cover : MethodName := ⟨RX1, "cover", "(IIIIIZ)V"⟩
abbrev cX1_limitSlope : ByteArray := prog_3_method_14_code
def yX1_limitSlope : MethodName := ⟨RX1, "limitSlope", "(I)V"⟩
abbrev cX1_measureSteps : ByteArray := prog_3_method_15_code
def yX1_measureSteps : MethodName := ⟨RX1, "measureSteps", "()V"⟩
abbrev cX1_measureStep : ByteArray := prog_3_method_16_code
def yX1_measureStep : MethodName := ⟨RX1, "measureStep", "(III)I"⟩
abbrev cX1_minutesOf : ByteArray := prog_3_method_17_code
def yX1_minutesOf : MethodName := ⟨RX1, "minutesOf", "(II)I"⟩
abbrev cX1_energyOf : ByteArray := prog_3_method_18_code
def yX1_energyOf : MethodName := ⟨RX1, "energyOf", "(II)I"⟩
abbrev cX1_isSeen : ByteArray := prog_3_method_19_code
def yX1_isSeen : MethodName := ⟨RX1, "isSeen", "(IIII)Z"⟩
def RX2 : String := "RoverPlanner$Maker"
def TX2 : u_T := fun k => match k with
  | 0 => ("RoverPlanner$Maker", "ground", "LRoverPlanner$Ground;", true)
  | 1 => ("RoverPlanner$Maker", "ways", "LRoverPlanner$Ways;", true)
  | 2 => ("RoverPlanner$Maker", "targets", "LRoverPlanner$Targets;", true)
  | 3 => ("RoverPlanner$Maker", "doer", "LRoverPlanner$Doer;", true)
  | _ => ("RoverPlanner$Maker", "ahead", "LRoverPlanner$Rover;", true)
def tyX2 : Nat → FieldType := fun k => match k with
  | 0 => .object "RoverPlanner$Ground"
  | 1 => .object "RoverPlanner$Ways"
  | 2 => .object "RoverPlanner$Targets"
  | 3 => .object "RoverPlanner$Doer"
  | _ => .object "RoverPlanner$Rover"
abbrev wsX20 : List Cond := u_ws RX2 TX2 5
theorem nmX2 : ∀ a, a < 5 → ∀ b, b < 5 → a ≠ b → (TX2 a).2.1 ≠ (TX2 b).2.1 := by decide +kernel
theorem tyX2_ok : ∀ k, k < 5 → parseFieldDescriptor (TX2 k).2.2.1 = some (tyX2 k) := by decide +kernel
abbrev cX2_init : ByteArray := prog_4_method_1_code
def yX2_init : MethodName := ⟨RX2, "<init>", "(LRoverPlanner$Ground;LRoverPlanner$Ways;LRoverPlanner$Targets;LRoverPlanner$Doer;)V"⟩
abbrev cX2_extend : ByteArray := prog_4_method_2_code
def yX2_extend : MethodName := ⟨RX2, "extend", "(LRoverPlanner$Plan;LRoverPlanner$Rover;I)I"⟩
abbrev cX2_choose : ByteArray := prog_4_method_3_code
def yX2_choose : MethodName := ⟨RX2, "choose", "(LRoverPlanner$Rover;I)I"⟩
abbrev cX2_visit : ByteArray := prog_4_method_4_code
def yX2_visit : MethodName := ⟨RX2, "visit", "(LRoverPlanner$Plan;LRoverPlanner$Rover;III)Z"⟩
abbrev cX2_nearestPlace : ByteArray := prog_4_method_5_code
def yX2_nearestPlace : MethodName := ⟨RX2, "nearestPlace", "(LRoverPlanner$Rover;I)I"⟩
abbrev cX2_isNearer : ByteArray := prog_4_method_6_code
def yX2_isNearer : MethodName := ⟨RX2, "isNearer", "(II)Z"⟩
abbrev cX2_serves : ByteArray := prog_4_method_7_code
def yX2_serves : MethodName := ⟨RX2, "serves", "(IIII)Z"⟩
def RX3 : String := "RoverPlanner$Mark"
def TX3 : u_T := fun k => match k with
  | _ => ("", "", "", false)
def tyX3 : Nat → FieldType := fun k => match k with
  | _ => .int
abbrev wsX30 : List Cond := u_ws RX3 TX3 0
theorem nmX3 : ∀ a, a < 0 → ∀ b, b < 0 → a ≠ b → (TX3 a).2.1 ≠ (TX3 b).2.1 := by decide +kernel
theorem tyX3_ok : ∀ k, k < 0 → parseFieldDescriptor (TX3 k).2.2.1 = some (tyX3 k) := by decide +kernel
def RX4 : String := "RoverPlanner$Passes"
def TX4 : u_T := fun k => match k with
  | 0 => ("RoverPlanner$Passes", "froms", "[I", true)
  | 1 => ("RoverPlanner$Passes", "tos", "[I", true)
  | 2 => ("RoverPlanner$Passes", "rates", "[I", true)
  | _ => ("RoverPlanner$Passes", "number", "I", false)
def tyX4 : Nat → FieldType := fun k => match k with
  | 0 => .array .int
  | 1 => .array .int
  | 2 => .array .int
  | _ => .int
abbrev wsX40 : List Cond := u_ws RX4 TX4 4
theorem nmX4 : ∀ a, a < 4 → ∀ b, b < 4 → a ≠ b → (TX4 a).2.1 ≠ (TX4 b).2.1 := by decide +kernel
theorem tyX4_ok : ∀ k, k < 4 → parseFieldDescriptor (TX4 k).2.2.1 = some (tyX4 k) := by decide +kernel
abbrev cX4_init : ByteArray := prog_6_method_1_code
def yX4_init : MethodName := ⟨RX4, "<init>", "()V"⟩
abbrev cX4_isFull : ByteArray := prog_6_method_2_code
def yX4_isFull : MethodName := ⟨RX4, "isFull", "()Z"⟩
abbrev cX4_append : ByteArray := prog_6_method_3_code
def yX4_append : MethodName := ⟨RX4, "append", "(III)I"⟩
abbrev cX4_rateAt : ByteArray := prog_6_method_4_code
def yX4_rateAt : MethodName := ⟨RX4, "rateAt", "(I)I"⟩
def RX5 : String := "RoverPlanner$Plan"
def TX5 : u_T := fun k => match k with
  | 0 => ("RoverPlanner$Plan", "kinds", "[I", true)
  | 1 => ("RoverPlanner$Plan", "as", "[I", true)
  | 2 => ("RoverPlanner$Plan", "bs", "[I", true)
  | _ => ("RoverPlanner$Plan", "number", "I", false)
def tyX5 : Nat → FieldType := fun k => match k with
  | 0 => .array .int
  | 1 => .array .int
  | 2 => .array .int
  | _ => .int
abbrev wsX50 : List Cond := u_ws RX5 TX5 4
theorem nmX5 : ∀ a, a < 4 → ∀ b, b < 4 → a ≠ b → (TX5 a).2.1 ≠ (TX5 b).2.1 := by decide +kernel
theorem tyX5_ok : ∀ k, k < 4 → parseFieldDescriptor (TX5 k).2.2.1 = some (tyX5 k) := by decide +kernel
abbrev cX5_init : ByteArray := prog_7_method_1_code
def yX5_init : MethodName := ⟨RX5, "<init>", "()V"⟩
abbrev cX5_has : ByteArray := prog_7_method_2_code
def yX5_has : MethodName := ⟨RX5, "has", "(I)Z"⟩
abbrev cX5_hasRoom : ByteArray := prog_7_method_3_code
def yX5_hasRoom : MethodName := ⟨RX5, "hasRoom", "(I)Z"⟩
abbrev cX5_insert : ByteArray := prog_7_method_4_code
def yX5_insert : MethodName := ⟨RX5, "insert", "(IIII)V"⟩
abbrev cX5_takeOut : ByteArray := prog_7_method_5_code
def yX5_takeOut : MethodName := ⟨RX5, "takeOut", "(I)V"⟩
abbrev cX5_tell : ByteArray := prog_7_method_6_code
def yX5_tell : MethodName := ⟨RX5, "tell", "(II)I"⟩
def RX6 : String := "RoverPlanner$Rover"
def TX6 : u_T := fun k => match k with
  | 0 => ("RoverPlanner$Rover", "time", "I", false)
  | 1 => ("RoverPlanner$Rover", "x", "I", false)
  | 2 => ("RoverPlanner$Rover", "y", "I", false)
  | 3 => ("RoverPlanner$Rover", "battery", "I", false)
  | 4 => ("RoverPlanner$Rover", "temperature", "I", false)
  | 5 => ("RoverPlanner$Rover", "clearness", "I", false)
  | 6 => ("RoverPlanner$Rover", "isHeating", "Z", false)
  | 7 => ("RoverPlanner$Rover", "unitsSent", "I", false)
  | 8 => ("RoverPlanner$Rover", "unitsTaken", "I", false)
  | 9 => ("RoverPlanner$Rover", "pieceCount", "I", false)
  | 10 => ("RoverPlanner$Rover", "pieceTargets", "[I", true)
  | 11 => ("RoverPlanner$Rover", "pieceLefts", "[I", true)
  | 12 => ("RoverPlanner$Rover", "piecePriorities", "[I", true)
  | 13 => ("RoverPlanner$Rover", "pieceSigns", "[I", true)
  | _ => ("RoverPlanner$Rover", "sentSigns", "[I", true)
def tyX6 : Nat → FieldType := fun k => match k with
  | 0 => .int
  | 1 => .int
  | 2 => .int
  | 3 => .int
  | 4 => .int
  | 5 => .int
  | 6 => .boolean
  | 7 => .int
  | 8 => .int
  | 9 => .int
  | 10 => .array .int
  | 11 => .array .int
  | 12 => .array .int
  | 13 => .array .int
  | _ => .array .int
abbrev wsX60 : List Cond := u_ws RX6 TX6 15
theorem nmX6 : ∀ a, a < 15 → ∀ b, b < 15 → a ≠ b → (TX6 a).2.1 ≠ (TX6 b).2.1 := by decide +kernel
theorem tyX6_ok : ∀ k, k < 15 → parseFieldDescriptor (TX6 k).2.2.1 = some (tyX6 k) := by decide +kernel
abbrev cX6_init : ByteArray := prog_8_method_1_code
def yX6_init : MethodName := ⟨RX6, "<init>", "()V"⟩
abbrev cX6_copyFrom : ByteArray := prog_8_method_2_code
def yX6_copyFrom : MethodName := ⟨RX6, "copyFrom", "(LRoverPlanner$Rover;)V"⟩
abbrev cX6_limitBattery : ByteArray := prog_8_method_3_code
def yX6_limitBattery : MethodName := ⟨RX6, "limitBattery", "(I)V"⟩
abbrev cX6_hasPiece : ByteArray := prog_8_method_4_code
def yX6_hasPiece : MethodName := ⟨RX6, "hasPiece", "(I)Z"⟩
abbrev cX6_unitsKept : ByteArray := prog_8_method_5_code
def yX6_unitsKept : MethodName := ⟨RX6, "unitsKept", "()I"⟩
abbrev cX6_tell : ByteArray := prog_8_method_6_code
def yX6_tell : MethodName := ⟨RX6, "tell", "(I)I"⟩
abbrev cX6_tellPiece : ByteArray := prog_8_method_7_code
def yX6_tellPiece : MethodName := ⟨RX6, "tellPiece", "(II)I"⟩
abbrev cX6_signsSent : ByteArray := prog_8_method_8_code
def yX6_signsSent : MethodName := ⟨RX6, "signsSent", "(I)I"⟩
abbrev cX6_signsOfAll : ByteArray := prog_8_method_9_code
def yX6_signsOfAll : MethodName := ⟨RX6, "signsOfAll", "(I)I"⟩
abbrev cX6_isFull : ByteArray := prog_8_method_10_code
def yX6_isFull : MethodName := ⟨RX6, "isFull", "()Z"⟩
abbrev cX6_keep : ByteArray := prog_8_method_11_code
def yX6_keep : MethodName := ⟨RX6, "keep", "(IIII)V"⟩
abbrev cX6_sendUnits : ByteArray := prog_8_method_12_code
def yX6_sendUnits : MethodName := ⟨RX6, "sendUnits", "(I)V"⟩
abbrev cX6_mostUrgent : ByteArray := prog_8_method_13_code
def yX6_mostUrgent : MethodName := ⟨RX6, "mostUrgent", "()I"⟩
abbrev cX6_finishPiece : ByteArray := prog_8_method_14_code
def yX6_finishPiece : MethodName := ⟨RX6, "finishPiece", "(I)V"⟩
def RX7 : String := "RoverPlanner$Targets"
def TX7 : u_T := fun k => match k with
  | 0 => ("RoverPlanner$Targets", "xs", "[I", true)
  | 1 => ("RoverPlanner$Targets", "ys", "[I", true)
  | 2 => ("RoverPlanner$Targets", "values", "[I", true)
  | 3 => ("RoverPlanner$Targets", "needs", "[I", true)
  | _ => ("RoverPlanner$Targets", "number", "I", false)
def tyX7 : Nat → FieldType := fun k => match k with
  | 0 => .array .int
  | 1 => .array .int
  | 2 => .array .int
  | 3 => .array .int
  | _ => .int
abbrev wsX70 : List Cond := u_ws RX7 TX7 5
theorem nmX7 : ∀ a, a < 5 → ∀ b, b < 5 → a ≠ b → (TX7 a).2.1 ≠ (TX7 b).2.1 := by decide +kernel
theorem tyX7_ok : ∀ k, k < 5 → parseFieldDescriptor (TX7 k).2.2.1 = some (tyX7 k) := by decide +kernel
abbrev cX7_init : ByteArray := prog_9_method_1_code
def yX7_init : MethodName := ⟨RX7, "<init>", "()V"⟩
abbrev cX7_isFull : ByteArray := prog_9_method_2_code
def yX7_isFull : MethodName := ⟨RX7, "isFull", "()Z"⟩
abbrev cX7_has : ByteArray := prog_9_method_3_code
def yX7_has : MethodName := ⟨RX7, "has", "(I)Z"⟩
abbrev cX7_append : ByteArray := prog_9_method_4_code
def yX7_append : MethodName := ⟨RX7, "append", "(IIII)I"⟩
abbrev cX7_xOf : ByteArray := prog_9_method_5_code
def yX7_xOf : MethodName := ⟨RX7, "xOf", "(I)I"⟩
abbrev cX7_yOf : ByteArray := prog_9_method_6_code
def yX7_yOf : MethodName := ⟨RX7, "yOf", "(I)I"⟩
abbrev cX7_valueOf : ByteArray := prog_9_method_7_code
def yX7_valueOf : MethodName := ⟨RX7, "valueOf", "(I)I"⟩
abbrev cX7_needOf : ByteArray := prog_9_method_8_code
def yX7_needOf : MethodName := ⟨RX7, "needOf", "(I)I"⟩
abbrev cX7_isMet : ByteArray := prog_9_method_9_code
def yX7_isMet : MethodName := ⟨RX7, "isMet", "(II)Z"⟩
abbrev cX7_tell : ByteArray := prog_9_method_10_code
def yX7_tell : MethodName := ⟨RX7, "tell", "(IILRoverPlanner$Rover;)I"⟩
abbrev cX7_octantsOf : ByteArray := prog_9_method_11_code
def yX7_octantsOf : MethodName := ⟨RX7, "octantsOf", "(I)I"⟩
abbrev cX7_hasTouch : ByteArray := prog_9_method_12_code
def yX7_hasTouch : MethodName := ⟨RX7, "hasTouch", "(I)Z"⟩
def RX8 : String := "RoverPlanner$Ways"
def TX8 : u_T := fun k => match k with
  | 0 => ("RoverPlanner$Ways", "ground", "LRoverPlanner$Ground;", true)
  | 1 => ("RoverPlanner$Ways", "costs", "[I", true)
  | 2 => ("RoverPlanner$Ways", "open", "[I", true)
  | _ => ("RoverPlanner$Ways", "openCount", "I", false)
def tyX8 : Nat → FieldType := fun k => match k with
  | 0 => .object "RoverPlanner$Ground"
  | 1 => .array .int
  | 2 => .array .int
  | _ => .int
abbrev wsX80 : List Cond := u_ws RX8 TX8 4
theorem nmX8 : ∀ a, a < 4 → ∀ b, b < 4 → a ≠ b → (TX8 a).2.1 ≠ (TX8 b).2.1 := by decide +kernel
theorem tyX8_ok : ∀ k, k < 4 → parseFieldDescriptor (TX8 k).2.2.1 = some (tyX8 k) := by decide +kernel
abbrev cX8_init : ByteArray := prog_10_method_1_code
def yX8_init : MethodName := ⟨RX8, "<init>", "(LRoverPlanner$Ground;)V"⟩
abbrev cX8_measureTo : ByteArray := prog_10_method_2_code
def yX8_measureTo : MethodName := ⟨RX8, "measureTo", "(I)V"⟩
abbrev cX8_measureFrom : ByteArray := prog_10_method_3_code
def yX8_measureFrom : MethodName := ⟨RX8, "measureFrom", "(I)V"⟩
abbrev cX8_begin : ByteArray := prog_10_method_4_code
def yX8_begin : MethodName := ⟨RX8, "begin", "(I)V"⟩
abbrev cX8_takeCheapest : ByteArray := prog_10_method_5_code
def yX8_takeCheapest : MethodName := ⟨RX8, "takeCheapest", "()I"⟩
abbrev cX8_reach : ByteArray := prog_10_method_6_code
def yX8_reach : MethodName := ⟨RX8, "reach", "(III)V"⟩
abbrev cX8_costOf : ByteArray := prog_10_method_7_code
def yX8_costOf : MethodName := ⟨RX8, "costOf", "(I)I"⟩
abbrev cX8_directionFrom : ByteArray := prog_10_method_8_code
def yX8_directionFrom : MethodName := ⟨RX8, "directionFrom", "(I)I"⟩
abbrev cX8_sumFrom : ByteArray := prog_10_method_9_code
def yX8_sumFrom : MethodName := ⟨RX8, "sumFrom", "(IZ)I"⟩
def RX9 : String := "RoverPlanner"
def TX9 : u_T := fun k => match k with
  | 0 => ("RoverPlanner", "land", "LRoverPlanner$Ground;", true)
  | 1 => ("RoverPlanner", "ways", "LRoverPlanner$Ways;", true)
  | 2 => ("RoverPlanner", "aims", "LRoverPlanner$Targets;", true)
  | 3 => ("RoverPlanner", "passes", "LRoverPlanner$Passes;", true)
  | 4 => ("RoverPlanner", "doer", "LRoverPlanner$Doer;", true)
  | 5 => ("RoverPlanner", "maker", "LRoverPlanner$Maker;", true)
  | 6 => ("RoverPlanner", "now", "LRoverPlanner$Rover;", true)
  | 7 => ("RoverPlanner", "copy", "LRoverPlanner$Rover;", true)
  | 8 => ("RoverPlanner", "plan", "LRoverPlanner$Plan;", true)
  | 9 => ("RoverPlanner", "marks", "[LRoverPlanner$Mark;", true)
  | _ => ("RoverPlanner", "markCount", "I", false)
def tyX9 : Nat → FieldType := fun k => match k with
  | 0 => .object "RoverPlanner$Ground"
  | 1 => .object "RoverPlanner$Ways"
  | 2 => .object "RoverPlanner$Targets"
  | 3 => .object "RoverPlanner$Passes"
  | 4 => .object "RoverPlanner$Doer"
  | 5 => .object "RoverPlanner$Maker"
  | 6 => .object "RoverPlanner$Rover"
  | 7 => .object "RoverPlanner$Rover"
  | 8 => .object "RoverPlanner$Plan"
  | 9 => .array (.object "RoverPlanner$Mark")
  | _ => .int
abbrev wsX90 : List Cond := u_ws RX9 TX9 11
theorem nmX9 : ∀ a, a < 11 → ∀ b, b < 11 → a ≠ b → (TX9 a).2.1 ≠ (TX9 b).2.1 := by decide +kernel
theorem tyX9_ok : ∀ k, k < 11 → parseFieldDescriptor (TX9 k).2.2.1 = some (tyX9 k) := by decide +kernel
abbrev cX9_init : ByteArray := prog_1_method_1_code
def yX9_init : MethodName := ⟨RX9, "<init>", "()V"⟩
abbrev cX9_raise : ByteArray := prog_1_method_2_code
def yX9_raise : MethodName := ⟨RX9, "raise", "(IIIII)I"⟩
abbrev cX9_pave : ByteArray := prog_1_method_3_code
def yX9_pave : MethodName := ⟨RX9, "pave", "(IIIIIZ)I"⟩
abbrev cX9_setSlope : ByteArray := prog_1_method_5_code
def yX9_setSlope : MethodName := ⟨RX9, "setSlope", "(I)I"⟩
abbrev cX9_way : ByteArray := prog_1_method_6_code
def yX9_way : MethodName := ⟨RX9, "way", "(IIIII)I"⟩
abbrev cX9_addTarget : ByteArray := prog_1_method_8_code
def yX9_addTarget : MethodName := ⟨RX9, "addTarget", "(IIII)I"⟩
abbrev cX9_target : ByteArray := prog_1_method_9_code
def yX9_target : MethodName := ⟨RX9, "target", "(II)I"⟩
abbrev cX9_addPass : ByteArray := prog_1_method_10_code
def yX9_addPass : MethodName := ⟨RX9, "addPass", "(III)I"⟩
abbrev cX9_setRover : ByteArray := prog_1_method_13_code
def yX9_setRover : MethodName := ⟨RX9, "setRover", "(II)I"⟩
abbrev cX9_rover : ByteArray := prog_1_method_14_code
def yX9_rover : MethodName := ⟨RX9, "rover", "(I)I"⟩
abbrev cX9_piece : ByteArray := prog_1_method_15_code
def yX9_piece : MethodName := ⟨RX9, "piece", "(II)I"⟩
abbrev cX9_activity : ByteArray := prog_1_method_20_code
def yX9_activity : MethodName := ⟨RX9, "activity", "(II)I"⟩
abbrev cX9_count : ByteArray := prog_1_method_21_code
def yX9_count : MethodName := ⟨RX9, "count", "(I)I"⟩
abbrev cX9_check : ByteArray := prog_1_method_22_code
def yX9_check : MethodName := ⟨RX9, "check", "()I"⟩
abbrev cX9_foretell : ByteArray := prog_1_method_24_code
def yX9_foretell : MethodName := ⟨RX9, "foretell", "(II)I"⟩
abbrev cX9_run : ByteArray := prog_1_method_25_code
def yX9_run : MethodName := ⟨RX9, "run", "(I)I"⟩
abbrev cX9_make : ByteArray := prog_1_method_26_code
def yX9_make : MethodName := ⟨RX9, "make", "(I)I"⟩
abbrev cX9_nearest : ByteArray := prog_1_method_27_code
def yX9_nearest : MethodName := ⟨RX9, "nearest", "(I)I"⟩
abbrev cX9_sent : ByteArray := prog_1_method_30_code
def yX9_sent : MethodName := ⟨RX9, "sent", "()D"⟩
abbrev cX9_numberOf : ByteArray := prog_1_method_32_code
def yX9_numberOf : MethodName := ⟨RX9, "numberOf", "(I)I"⟩
abbrev cX9_doOnCopy : ByteArray := prog_1_method_34_code
def yX9_doOnCopy : MethodName := ⟨RX9, "doOnCopy", "(I)I"⟩
def RX10 : String := "RoverPlannerLaw$Sim"
def TX10 : u_T := fun k => match k with
  | 0 => ("RoverPlannerLaw$Sim", "r", "[I", false)
  | 1 => ("RoverPlannerLaw$Sim", "pieces", "[[I", false)
  | 2 => ("RoverPlannerLaw$Sim", "octants", "[I", false)
  | 3 => ("RoverPlannerLaw$Sim", "touches", "[Z", false)
  | 4 => ("RoverPlannerLaw$Sim", "made", "I", false)
  | 5 => ("RoverPlannerLaw$Sim", "memory", "I", false)
  | 6 => ("RoverPlannerLaw$Sim", "rates", "[I", false)
  | 7 => ("RoverPlannerLaw$Sim", "g", "[I", false)
  | _ => ("RoverPlannerLaw$Sim", "targets", "[[I", false)
def tyX10 : Nat → FieldType := fun k => match k with
  | 0 => .array .int
  | 1 => .array (.array .int)
  | 2 => .array .int
  | 3 => .array .boolean
  | 4 => .int
  | 5 => .int
  | 6 => .array .int
  | 7 => .array .int
  | _ => .array (.array .int)
abbrev wsX100 : List Cond := u_ws RX10 TX10 9
theorem nmX10 : ∀ a, a < 9 → ∀ b, b < 9 → a ≠ b → (TX10 a).2.1 ≠ (TX10 b).2.1 := by decide +kernel
theorem tyX10_ok : ∀ k, k < 9 → parseFieldDescriptor (TX10 k).2.2.1 = some (tyX10 k) := by decide +kernel
abbrev cX10_init : ByteArray := prog_12_method_1_code
def yX10_init : MethodName := ⟨RX10, "<init>", "()V"⟩
abbrev cX10_light : ByteArray := prog_12_method_3_code
def yX10_light : MethodName := ⟨RX10, "light", "()I"⟩
abbrev cX10_minute : ByteArray := prog_12_method_4_code
def yX10_minute : MethodName := ⟨RX10, "minute", "(IZ)I"⟩
abbrev cX10_minutes : ByteArray := prog_12_method_5_code
def yX10_minutes : MethodName := ⟨RX10, "minutes", "(II)I"⟩
abbrev cX10_units : ByteArray := prog_12_method_6_code
def yX10_units : MethodName := ⟨RX10, "units", "()I"⟩
abbrev cX10_images : ByteArray := prog_12_method_7_code
def yX10_images : MethodName := ⟨RX10, "images", "(I)I"⟩
abbrev cX10_octant : ByteArray := prog_12_method_8_code
def yX10_octant : MethodName := ⟨RX10, "octant", "(I)I"⟩
abbrev cX10_picture : ByteArray := prog_12_method_9_code
def yX10_picture : MethodName := ⟨RX10, "picture", "(ZII)I"⟩
abbrev cX10_unit : ByteArray := prog_12_method_10_code
def yX10_unit : MethodName := ⟨RX10, "unit", "()V"⟩
abbrev cX10_send : ByteArray := prog_12_method_11_code
def yX10_send : MethodName := ⟨RX10, "send", "(I)I"⟩
abbrev cX10_drive : ByteArray := prog_12_method_12_code
def yX10_drive : MethodName := ⟨RX10, "drive", "(II)I"⟩
abbrev cX10_rest : ByteArray := prog_12_method_13_code
def yX10_rest : MethodName := ⟨RX10, "rest", "(IZ)I"⟩
abbrev cX10_act : ByteArray := prog_12_method_14_code
def yX10_act : MethodName := ⟨RX10, "act", "(III)I"⟩
abbrev cX10_told : ByteArray := prog_12_method_15_code
def yX10_told : MethodName := ⟨RX10, "told", "(I)I"⟩
abbrev cX10_isSame : ByteArray := prog_12_method_16_code
def yX10_isSame : MethodName := ⟨RX10, "isSame", "(LRoverPlanner;)Z"⟩
def RX11 : String := "RoverPlannerModel"
def TX11 : u_T := fun k => match k with
  | _ => ("", "", "", false)
def tyX11 : Nat → FieldType := fun k => match k with
  | _ => .int
abbrev wsX110 : List Cond := u_ws RX11 TX11 0
theorem nmX11 : ∀ a, a < 0 → ∀ b, b < 0 → a ≠ b → (TX11 a).2.1 ≠ (TX11 b).2.1 := by decide +kernel
theorem tyX11_ok : ∀ k, k < 0 → parseFieldDescriptor (TX11 k).2.2.1 = some (tyX11 k) := by decide +kernel
def RJ6 : String := "java/lang/Integer"
def TJ6 : u_T := fun k => match k with
  | _ => ("", "", "", false)
def tyJ6 : Nat → FieldType := fun k => match k with
  | _ => .int
abbrev wsJ60 : List Cond := u_ws RJ6 TJ6 0
theorem nmJ6 : ∀ a, a < 0 → ∀ b, b < 0 → a ≠ b → (TJ6 a).2.1 ≠ (TJ6 b).2.1 := by decide +kernel
theorem tyJ6_ok : ∀ k, k < 0 → parseFieldDescriptor (TJ6 k).2.2.1 = some (tyJ6 k) := by decide +kernel
abbrev cJ6_compare_7cf53 : ByteArray := prog_18_method_40_code
def yJ6_compare_7cf53 : MethodName := ⟨RJ6, "compare", "(II)I"⟩
abbrev cJ6_bitCount_0f7a4 : ByteArray := prog_18_method_49_code
def yJ6_bitCount_0f7a4 : MethodName := ⟨RJ6, "bitCount", "(I)I"⟩
def RJ9 : String := "java/lang/Math"
def TJ9 : u_T := fun k => match k with
  | _ => ("", "", "", false)
def tyJ9 : Nat → FieldType := fun k => match k with
  | _ => .int
abbrev wsJ90 : List Cond := u_ws RJ9 TJ9 0
theorem nmJ9 : ∀ a, a < 0 → ∀ b, b < 0 → a ≠ b → (TJ9 a).2.1 ≠ (TJ9 b).2.1 := by decide +kernel
theorem tyJ9_ok : ∀ k, k < 0 → parseFieldDescriptor (TJ9 k).2.2.1 = some (tyJ9 k) := by decide +kernel
abbrev cJ9_floorDiv_7cf53 : ByteArray := prog_19_method_47_code
def yJ9_floorDiv_7cf53 : MethodName := ⟨RJ9, "floorDiv", "(II)I"⟩
abbrev cJ9_floorMod_7cf53 : ByteArray := prog_19_method_50_code
def yJ9_floorMod_7cf53 : MethodName := ⟨RJ9, "floorMod", "(II)I"⟩
abbrev cJ9_abs_0f7a4 : ByteArray := prog_19_method_59_code
def yJ9_abs_0f7a4 : MethodName := ⟨RJ9, "abs", "(I)I"⟩
abbrev cJ9_max_7cf53 : ByteArray := prog_19_method_65_code
def yJ9_max_7cf53 : MethodName := ⟨RJ9, "max", "(II)I"⟩
abbrev cJ9_min_7cf53 : ByteArray := prog_19_method_69_code
def yJ9_min_7cf53 : MethodName := ⟨RJ9, "min", "(II)I"⟩
def RJ0 : String := "java/lang/String"
def TJ0 : u_T := fun k => match k with
  | _ => ("", "", "", false)
def tyJ0 : Nat → FieldType := fun k => match k with
  | _ => .int
abbrev wsJ00 : List Cond := u_ws RJ0 TJ0 0
theorem nmJ0 : ∀ a, a < 0 → ∀ b, b < 0 → a ≠ b → (TJ0 a).2.1 ≠ (TJ0 b).2.1 := by decide +kernel
theorem tyJ0_ok : ∀ k, k < 0 → parseFieldDescriptor (TJ0 k).2.2.1 = some (tyJ0 k) := by decide +kernel
def RL : String := "RoverPlannerLaw"
abbrev cL_below : ByteArray := method_2_code
def yL_below : MethodName := ⟨RL, "below", "(II)I"⟩
abbrev cL_cell : ByteArray := method_3_code
def yL_cell : MethodName := ⟨RL, "cell", "([II)I"⟩
abbrev cL_ground : ByteArray := method_4_code
def yL_ground : MethodName := ⟨RL, "ground", "(LRoverPlanner;[II)[I"⟩
abbrev cL_step : ByteArray := method_5_code
def yL_step : MethodName := ⟨RL, "step", "([IIII)I"⟩
abbrev cL_costs : ByteArray := method_6_code
def yL_costs : MethodName := ⟨RL, "costs", "([III)[I"⟩
abbrev cL_next : ByteArray := method_7_code
def yL_next : MethodName := ⟨RL, "next", "([I[III)I"⟩
abbrev cL_energy : ByteArray := method_8_code
def yL_energy : MethodName := ⟨RL, "energy", "([IIII)I"⟩
abbrev cL_sees : ByteArray := method_9_code
def yL_sees : MethodName := ⟨RL, "sees", "([IIIII)Z"⟩
abbrev cL_build : ByteArray := method_10_code
def yL_build : MethodName := ⟨RL, "build", "(LRoverPlanner;[I)LRoverPlannerLaw$Sim;"⟩
abbrev cL_law : ByteArray := code
def yL_law : MethodName := ⟨RL, "law", "([I)Z"⟩
abbrev cL_worth : ByteArray := method_13_code
def yL_worth : MethodName := ⟨RL, "worth", "(LRoverPlanner;LRoverPlannerLaw$Sim;I)I"⟩
theorem inX0 : ∀ w ∈ wsX00, w ∈ lw_tbl := by decide +kernel
theorem inX1 : ∀ w ∈ wsX10, w ∈ lw_tbl := by decide +kernel
theorem inX2 : ∀ w ∈ wsX20, w ∈ lw_tbl := by decide +kernel
theorem inX3 : ∀ w ∈ wsX30, w ∈ lw_tbl := by decide +kernel
theorem inX4 : ∀ w ∈ wsX40, w ∈ lw_tbl := by decide +kernel
theorem inX5 : ∀ w ∈ wsX50, w ∈ lw_tbl := by decide +kernel
theorem inX6 : ∀ w ∈ wsX60, w ∈ lw_tbl := by decide +kernel
theorem inX7 : ∀ w ∈ wsX70, w ∈ lw_tbl := by decide +kernel
theorem inX8 : ∀ w ∈ wsX80, w ∈ lw_tbl := by decide +kernel
theorem inX9 : ∀ w ∈ wsX90, w ∈ lw_tbl := by decide +kernel
theorem inX10 : ∀ w ∈ wsX100, w ∈ lw_tbl := by decide +kernel
theorem inX11 : ∀ w ∈ wsX110, w ∈ lw_tbl := by decide +kernel
theorem inJ6 : ∀ w ∈ wsJ60, w ∈ lw_tbl := by decide +kernel
theorem inJ9 : ∀ w ∈ wsJ90, w ∈ lw_tbl := by decide +kernel
theorem inJ0 : ∀ w ∈ wsJ00, w ∈ lw_tbl := by decide +kernel
abbrev vwCl : List vw_C := [(RX0, TX0, 8), (RX1, TX1, 5), (RX2, TX2, 5), (RX4, TX4, 4), (RX5, TX5, 4), (RX6, TX6, 15), (RX7, TX7, 5), (RX8, TX8, 4), (RX9, TX9, 11), (RX10, TX10, 9)]
end
section
theorem dX0_init_0 : decode cX0_init 0 = .ok (.aload_n 0, 1) := by decide +kernel
theorem dX0_init_1 : decode cX0_init 1 = .ok (.invokespecial 3, 3) := by decide +kernel
theorem dX0_init_4 : decode cX0_init 4 = .ok (.aload_n 0, 1) := by decide +kernel
theorem dX0_init_5 : decode cX0_init 5 = .ok (.new 9, 3) := by decide +kernel
theorem dX0_init_8 : decode cX0_init 8 = .ok (.dup, 1) := by decide +kernel
theorem dX0_init_9 : decode cX0_init 9 = .ok (.invokespecial 11, 3) := by decide +kernel
theorem dX0_init_12 : decode cX0_init 12 = .ok (.putfield 12, 3) := by decide +kernel
theorem dX0_init_15 : decode cX0_init 15 = .ok (.aload_n 0, 1) := by decide +kernel
theorem dX0_init_16 : decode cX0_init 16 = .ok (.sipush 4000, 3) := by decide +kernel
theorem dX0_init_19 : decode cX0_init 19 = .ok (.putfield 18, 3) := by decide +kernel
theorem dX0_init_22 : decode cX0_init 22 = .ok (.aload_n 0, 1) := by decide +kernel
theorem dX0_init_23 : decode cX0_init 23 = .ok (.sipush 800, 3) := by decide +kernel
theorem dX0_init_26 : decode cX0_init 26 = .ok (.putfield 22, 3) := by decide +kernel
theorem dX0_init_29 : decode cX0_init 29 = .ok (.aload_n 0, 1) := by decide +kernel
theorem dX0_init_30 : decode cX0_init 30 = .ok (.iconst 0, 1) := by decide +kernel
theorem dX0_init_31 : decode cX0_init 31 = .ok (.putfield 25, 3) := by decide +kernel
theorem dX0_init_34 : decode cX0_init 34 = .ok (.aload_n 0, 1) := by decide +kernel
theorem dX0_init_35 : decode cX0_init 35 = .ok (.aload_n 1, 1) := by decide +kernel
theorem dX0_init_36 : decode cX0_init 36 = .ok (.putfield 28, 3) := by decide +kernel
theorem dX0_init_39 : decode cX0_init 39 = .ok (.aload_n 0, 1) := by decide +kernel
theorem dX0_init_40 : decode cX0_init 40 = .ok (.aload_n 2, 1) := by decide +kernel
theorem dX0_init_41 : decode cX0_init 41 = .ok (.putfield 32, 3) := by decide +kernel
theorem dX0_init_44 : decode cX0_init 44 = .ok (.aload_n 0, 1) := by decide +kernel
theorem dX0_init_45 : decode cX0_init 45 = .ok (.aload_n 3, 1) := by decide +kernel
theorem dX0_init_46 : decode cX0_init 46 = .ok (.putfield 36, 3) := by decide +kernel
theorem dX0_init_49 : decode cX0_init 49 = .ok (.aload_n 0, 1) := by decide +kernel
theorem dX0_init_50 : decode cX0_init 50 = .ok (.aload 4, 2) := by decide +kernel
theorem dX0_init_52 : decode cX0_init 52 = .ok (.putfield 40, 3) := by decide +kernel
theorem dX0_init_55 : decode cX0_init 55 = .ok (.return_, 1) := by decide +kernel
theorem dX0_lightAt_0 : decode cX0_lightAt 0 = .ok (.iload_n 0, 1) := by decide +kernel
theorem dX0_lightAt_1 : decode cX0_lightAt 1 = .ok (.sipush 360, 3) := by decide +kernel
theorem dX0_lightAt_4 : decode cX0_lightAt 4 = .ok (.if_icmp .lt 10, 3) := by decide +kernel
theorem dX0_lightAt_7 : decode cX0_lightAt 7 = .ok (.iload_n 0, 1) := by decide +kernel
theorem dX0_lightAt_8 : decode cX0_lightAt 8 = .ok (.sipush 1080, 3) := by decide +kernel
theorem dX0_lightAt_11 : decode cX0_lightAt 11 = .ok (.if_icmp .lt 5, 3) := by decide +kernel
theorem dX0_lightAt_14 : decode cX0_lightAt 14 = .ok (.iconst 0, 1) := by decide +kernel
theorem dX0_lightAt_15 : decode cX0_lightAt 15 = .ok (.ireturn, 1) := by decide +kernel
theorem dX0_lightAt_16 : decode cX0_lightAt 16 = .ok (.iload_n 0, 1) := by decide +kernel
theorem dX0_lightAt_17 : decode cX0_lightAt 17 = .ok (.sipush 720, 3) := by decide +kernel
theorem dX0_lightAt_20 : decode cX0_lightAt 20 = .ok (.if_icmp .ge 11, 3) := by decide +kernel
theorem dX0_lightAt_23 : decode cX0_lightAt 23 = .ok (.iload_n 0, 1) := by decide +kernel
theorem dX0_lightAt_24 : decode cX0_lightAt 24 = .ok (.sipush 360, 3) := by decide +kernel
theorem dX0_lightAt_27 : decode cX0_lightAt 27 = .ok (.isub, 1) := by decide +kernel
theorem dX0_lightAt_28 : decode cX0_lightAt 28 = .ok (.goto 8, 3) := by decide +kernel
theorem dX0_lightAt_31 : decode cX0_lightAt 31 = .ok (.sipush 1080, 3) := by decide +kernel
theorem dX0_lightAt_34 : decode cX0_lightAt 34 = .ok (.iload_n 0, 1) := by decide +kernel
theorem dX0_lightAt_35 : decode cX0_lightAt 35 = .ok (.isub, 1) := by decide +kernel
theorem dX0_lightAt_36 : decode cX0_lightAt 36 = .ok (.ireturn, 1) := by decide +kernel
theorem dX0_airBy_0 : decode cX0_airBy 0 = .ok (.bipush (-70), 2) := by decide +kernel
theorem dX0_airBy_2 : decode cX0_airBy 2 = .ok (.iload_n 0, 1) := by decide +kernel
theorem dX0_airBy_3 : decode cX0_airBy 3 = .ok (.bipush 6, 2) := by decide +kernel
theorem dX0_airBy_5 : decode cX0_airBy 5 = .ok (.idiv, 1) := by decide +kernel
theorem dX0_airBy_6 : decode cX0_airBy 6 = .ok (.iadd, 1) := by decide +kernel
theorem dX0_airBy_7 : decode cX0_airBy 7 = .ok (.ireturn, 1) := by decide +kernel
theorem dX0_powerBy_0 : decode cX0_powerBy 0 = .ok (.iload_n 0, 1) := by decide +kernel
theorem dX0_powerBy_1 : decode cX0_powerBy 1 = .ok (.iload_n 1, 1) := by decide +kernel
theorem dX0_powerBy_2 : decode cX0_powerBy 2 = .ok (.imul, 1) := by decide +kernel
theorem dX0_powerBy_3 : decode cX0_powerBy 3 = .ok (.sipush 3600, 3) := by decide +kernel
theorem dX0_powerBy_6 : decode cX0_powerBy 6 = .ok (.idiv, 1) := by decide +kernel
theorem dX0_powerBy_7 : decode cX0_powerBy 7 = .ok (.ireturn, 1) := by decide +kernel
theorem dX0_performAll_0 : decode cX0_performAll 0 = .ok (.aload_n 0, 1) := by decide +kernel
theorem dX0_performAll_1 : decode cX0_performAll 1 = .ok (.iconst 0, 1) := by decide +kernel
theorem dX0_performAll_2 : decode cX0_performAll 2 = .ok (.putfield 25, 3) := by decide +kernel
theorem dX0_performAll_5 : decode cX0_performAll 5 = .ok (.iconst 0, 1) := by decide +kernel
theorem dX0_performAll_6 : decode cX0_performAll 6 = .ok (.istore 4, 2) := by decide +kernel
theorem dX0_performAll_8 : decode cX0_performAll 8 = .ok (.iload 4, 2) := by decide +kernel
theorem dX0_performAll_10 : decode cX0_performAll 10 = .ok (.iload_n 3, 1) := by decide +kernel
theorem dX0_performAll_11 : decode cX0_performAll 11 = .ok (.if_icmp .ge 58, 3) := by decide +kernel
theorem dX0_performAll_14 : decode cX0_performAll 14 = .ok (.aload_n 2, 1) := by decide +kernel
theorem dX0_performAll_15 : decode cX0_performAll 15 = .ok (.iload 4, 2) := by decide +kernel
theorem dX0_performAll_17 : decode cX0_performAll 17 = .ok (.invokevirtual 44, 3) := by decide +kernel
theorem dX0_performAll_20 : decode cX0_performAll 20 = .ok (.ifCond .eq 49, 3) := by decide +kernel
theorem dX0_performAll_23 : decode cX0_performAll 23 = .ok (.aload_n 0, 1) := by decide +kernel
theorem dX0_performAll_24 : decode cX0_performAll 24 = .ok (.aload_n 0, 1) := by decide +kernel
theorem dX0_performAll_25 : decode cX0_performAll 25 = .ok (.aload_n 1, 1) := by decide +kernel
theorem dX0_performAll_26 : decode cX0_performAll 26 = .ok (.aload_n 2, 1) := by decide +kernel
theorem dX0_performAll_27 : decode cX0_performAll 27 = .ok (.iload 4, 2) := by decide +kernel
theorem dX0_performAll_29 : decode cX0_performAll 29 = .ok (.iconst 0, 1) := by decide +kernel
theorem dX0_performAll_30 : decode cX0_performAll 30 = .ok (.invokevirtual 50, 3) := by decide +kernel
theorem dX0_performAll_33 : decode cX0_performAll 33 = .ok (.aload_n 2, 1) := by decide +kernel
theorem dX0_performAll_34 : decode cX0_performAll 34 = .ok (.iload 4, 2) := by decide +kernel
theorem dX0_performAll_36 : decode cX0_performAll 36 = .ok (.iconst 1, 1) := by decide +kernel
theorem dX0_performAll_37 : decode cX0_performAll 37 = .ok (.invokevirtual 50, 3) := by decide +kernel
theorem dX0_performAll_40 : decode cX0_performAll 40 = .ok (.aload_n 2, 1) := by decide +kernel
theorem dX0_performAll_41 : decode cX0_performAll 41 = .ok (.iload 4, 2) := by decide +kernel
theorem dX0_performAll_43 : decode cX0_performAll 43 = .ok (.iconst 2, 1) := by decide +kernel
theorem dX0_performAll_44 : decode cX0_performAll 44 = .ok (.invokevirtual 50, 3) := by decide +kernel
theorem dX0_performAll_47 : decode cX0_performAll 47 = .ok (.invokevirtual 54, 3) := by decide +kernel
theorem dX0_performAll_50 : decode cX0_performAll 50 = .ok (.putfield 25, 3) := by decide +kernel
theorem dX0_performAll_53 : decode cX0_performAll 53 = .ok (.aload_n 0, 1) := by decide +kernel
theorem dX0_performAll_54 : decode cX0_performAll 54 = .ok (.getfield 25, 3) := by decide +kernel
theorem dX0_performAll_57 : decode cX0_performAll 57 = .ok (.ifCond .eq 6, 3) := by decide +kernel
theorem dX0_performAll_60 : decode cX0_performAll 60 = .ok (.iload 4, 2) := by decide +kernel
theorem dX0_performAll_62 : decode cX0_performAll 62 = .ok (.ireturn, 1) := by decide +kernel
theorem dX0_performAll_63 : decode cX0_performAll 63 = .ok (.iinc 4 1, 3) := by decide +kernel
theorem dX0_performAll_66 : decode cX0_performAll 66 = .ok (.goto (-58), 3) := by decide +kernel
theorem dX0_performAll_69 : decode cX0_performAll 69 = .ok (.iload_n 3, 1) := by decide +kernel
theorem dX0_performAll_70 : decode cX0_performAll 70 = .ok (.aload_n 2, 1) := by decide +kernel
theorem dX0_performAll_71 : decode cX0_performAll 71 = .ok (.getfield 58, 3) := by decide +kernel
theorem dX0_performAll_74 : decode cX0_performAll 74 = .ok (.invokestatic 61, 3) := by decide +kernel
theorem dX0_performAll_77 : decode cX0_performAll 77 = .ok (.ireturn, 1) := by decide +kernel
theorem dX0_perform_0 : decode cX0_perform 0 = .ok (.aload_n 0, 1) := by decide +kernel
theorem dX0_perform_1 : decode cX0_perform 1 = .ok (.getfield 12, 3) := by decide +kernel
theorem dX0_perform_4 : decode cX0_perform 4 = .ok (.aload_n 1, 1) := by decide +kernel
theorem dX0_perform_5 : decode cX0_perform 5 = .ok (.invokevirtual 66, 3) := by decide +kernel
theorem dX0_perform_8 : decode cX0_perform 8 = .ok (.iconst 0, 1) := by decide +kernel
theorem dX0_perform_9 : decode cX0_perform 9 = .ok (.istore 5, 2) := by decide +kernel
theorem dX0_perform_11 : decode cX0_perform 11 = .ok (.iload_n 2, 1) := by decide +kernel
theorem dX0_perform_12 : decode cX0_perform 12 = .ok (.tableswitch 135 0 6 #[44, 57, 70, 83, 94, 106, 118], 44) := by decide +kernel
theorem dX0_perform_56 : decode cX0_perform 56 = .ok (.aload_n 0, 1) := by decide +kernel
theorem dX0_perform_57 : decode cX0_perform 57 = .ok (.aload_n 1, 1) := by decide +kernel
theorem dX0_perform_58 : decode cX0_perform 58 = .ok (.iload_n 3, 1) := by decide +kernel
theorem dX0_perform_59 : decode cX0_perform 59 = .ok (.iload 4, 2) := by decide +kernel
theorem dX0_perform_61 : decode cX0_perform 61 = .ok (.invokevirtual 70, 3) := by decide +kernel
theorem dX0_perform_64 : decode cX0_perform 64 = .ok (.istore 5, 2) := by decide +kernel
theorem dX0_perform_66 : decode cX0_perform 66 = .ok (.goto 88, 3) := by decide +kernel
theorem dX0_perform_69 : decode cX0_perform 69 = .ok (.aload_n 0, 1) := by decide +kernel
theorem dX0_perform_70 : decode cX0_perform 70 = .ok (.aload_n 1, 1) := by decide +kernel
theorem dX0_perform_71 : decode cX0_perform 71 = .ok (.iload_n 3, 1) := by decide +kernel
theorem dX0_perform_72 : decode cX0_perform 72 = .ok (.iload 4, 2) := by decide +kernel
theorem dX0_perform_74 : decode cX0_perform 74 = .ok (.invokevirtual 74, 3) := by decide +kernel
theorem dX0_perform_77 : decode cX0_perform 77 = .ok (.istore 5, 2) := by decide +kernel
theorem dX0_perform_79 : decode cX0_perform 79 = .ok (.goto 75, 3) := by decide +kernel
theorem dX0_perform_82 : decode cX0_perform 82 = .ok (.aload_n 0, 1) := by decide +kernel
theorem dX0_perform_83 : decode cX0_perform 83 = .ok (.aload_n 1, 1) := by decide +kernel
theorem dX0_perform_84 : decode cX0_perform 84 = .ok (.iload_n 3, 1) := by decide +kernel
theorem dX0_perform_85 : decode cX0_perform 85 = .ok (.iload 4, 2) := by decide +kernel
theorem dX0_perform_87 : decode cX0_perform 87 = .ok (.invokevirtual 77, 3) := by decide +kernel
theorem dX0_perform_90 : decode cX0_perform 90 = .ok (.istore 5, 2) := by decide +kernel
theorem dX0_perform_92 : decode cX0_perform 92 = .ok (.goto 62, 3) := by decide +kernel
theorem dX0_perform_95 : decode cX0_perform 95 = .ok (.aload_n 0, 1) := by decide +kernel
theorem dX0_perform_96 : decode cX0_perform 96 = .ok (.aload_n 1, 1) := by decide +kernel
theorem dX0_perform_97 : decode cX0_perform 97 = .ok (.iload_n 3, 1) := by decide +kernel
theorem dX0_perform_98 : decode cX0_perform 98 = .ok (.invokevirtual 80, 3) := by decide +kernel
theorem dX0_perform_101 : decode cX0_perform 101 = .ok (.istore 5, 2) := by decide +kernel
theorem dX0_perform_103 : decode cX0_perform 103 = .ok (.goto 51, 3) := by decide +kernel
theorem dX0_perform_106 : decode cX0_perform 106 = .ok (.aload_n 0, 1) := by decide +kernel
theorem dX0_perform_107 : decode cX0_perform 107 = .ok (.aload_n 1, 1) := by decide +kernel
theorem dX0_perform_108 : decode cX0_perform 108 = .ok (.iload_n 3, 1) := by decide +kernel
theorem dX0_perform_109 : decode cX0_perform 109 = .ok (.iconst 1, 1) := by decide +kernel
theorem dX0_perform_110 : decode cX0_perform 110 = .ok (.invokevirtual 84, 3) := by decide +kernel
theorem dX0_perform_113 : decode cX0_perform 113 = .ok (.istore 5, 2) := by decide +kernel
theorem dX0_perform_115 : decode cX0_perform 115 = .ok (.goto 39, 3) := by decide +kernel
theorem dX0_perform_118 : decode cX0_perform 118 = .ok (.aload_n 0, 1) := by decide +kernel
theorem dX0_perform_119 : decode cX0_perform 119 = .ok (.aload_n 1, 1) := by decide +kernel
theorem dX0_perform_120 : decode cX0_perform 120 = .ok (.iload_n 3, 1) := by decide +kernel
theorem dX0_perform_121 : decode cX0_perform 121 = .ok (.iconst 0, 1) := by decide +kernel
theorem dX0_perform_122 : decode cX0_perform 122 = .ok (.invokevirtual 84, 3) := by decide +kernel
theorem dX0_perform_125 : decode cX0_perform 125 = .ok (.istore 5, 2) := by decide +kernel
theorem dX0_perform_127 : decode cX0_perform 127 = .ok (.goto 27, 3) := by decide +kernel
theorem dX0_perform_130 : decode cX0_perform 130 = .ok (.aload_n 1, 1) := by decide +kernel
theorem dX0_perform_131 : decode cX0_perform 131 = .ok (.iload_n 3, 1) := by decide +kernel
theorem dX0_perform_132 : decode cX0_perform 132 = .ok (.iconst 1, 1) := by decide +kernel
theorem dX0_perform_133 : decode cX0_perform 133 = .ok (.if_icmp .ne 7, 3) := by decide +kernel
theorem dX0_perform_136 : decode cX0_perform 136 = .ok (.iconst 1, 1) := by decide +kernel
theorem dX0_perform_137 : decode cX0_perform 137 = .ok (.goto 4, 3) := by decide +kernel
theorem dX0_perform_140 : decode cX0_perform 140 = .ok (.iconst 0, 1) := by decide +kernel
theorem dX0_perform_141 : decode cX0_perform 141 = .ok (.putfield 88, 3) := by decide +kernel
theorem dX0_perform_144 : decode cX0_perform 144 = .ok (.goto 10, 3) := by decide +kernel
theorem dX0_perform_147 : decode cX0_perform 147 = .ok (.aload_n 0, 1) := by decide +kernel
theorem dX0_perform_148 : decode cX0_perform 148 = .ok (.aload_n 1, 1) := by decide +kernel
theorem dX0_perform_149 : decode cX0_perform 149 = .ok (.invokevirtual 92, 3) := by decide +kernel
theorem dX0_perform_152 : decode cX0_perform 152 = .ok (.istore 5, 2) := by decide +kernel
theorem dX0_perform_154 : decode cX0_perform 154 = .ok (.iload 5, 2) := by decide +kernel
theorem dX0_perform_156 : decode cX0_perform 156 = .ok (.ifCond .eq 11, 3) := by decide +kernel
theorem dX0_perform_159 : decode cX0_perform 159 = .ok (.aload_n 1, 1) := by decide +kernel
theorem dX0_perform_160 : decode cX0_perform 160 = .ok (.aload_n 0, 1) := by decide +kernel
theorem dX0_perform_161 : decode cX0_perform 161 = .ok (.getfield 12, 3) := by decide +kernel
theorem dX0_perform_164 : decode cX0_perform 164 = .ok (.invokevirtual 66, 3) := by decide +kernel
theorem dX0_perform_167 : decode cX0_perform 167 = .ok (.iload 5, 2) := by decide +kernel
theorem dX0_perform_169 : decode cX0_perform 169 = .ok (.ireturn, 1) := by decide +kernel
theorem dX0_passMinutes_0 : decode cX0_passMinutes 0 = .ok (.iconst 0, 1) := by decide +kernel
theorem dX0_passMinutes_1 : decode cX0_passMinutes 1 = .ok (.istore 5, 2) := by decide +kernel
theorem dX0_passMinutes_3 : decode cX0_passMinutes 3 = .ok (.iload 5, 2) := by decide +kernel
theorem dX0_passMinutes_5 : decode cX0_passMinutes 5 = .ok (.iload_n 2, 1) := by decide +kernel
theorem dX0_passMinutes_6 : decode cX0_passMinutes 6 = .ok (.if_icmp .ge 182, 3) := by decide +kernel
theorem dX0_passMinutes_9 : decode cX0_passMinutes 9 = .ok (.aload_n 1, 1) := by decide +kernel
theorem dX0_passMinutes_10 : decode cX0_passMinutes 10 = .ok (.getfield 96, 3) := by decide +kernel
theorem dX0_passMinutes_13 : decode cX0_passMinutes 13 = .ok (.sipush 14400, 3) := by decide +kernel
theorem dX0_passMinutes_16 : decode cX0_passMinutes 16 = .ok (.if_icmp .lt 6, 3) := by decide +kernel
theorem dX0_passMinutes_19 : decode cX0_passMinutes 19 = .ok (.bipush 7, 2) := by decide +kernel
theorem dX0_passMinutes_21 : decode cX0_passMinutes 21 = .ok (.ireturn, 1) := by decide +kernel
theorem dX0_passMinutes_22 : decode cX0_passMinutes 22 = .ok (.aload_n 1, 1) := by decide +kernel
theorem dX0_passMinutes_23 : decode cX0_passMinutes 23 = .ok (.getfield 96, 3) := by decide +kernel
theorem dX0_passMinutes_26 : decode cX0_passMinutes 26 = .ok (.sipush 1440, 3) := by decide +kernel
theorem dX0_passMinutes_29 : decode cX0_passMinutes 29 = .ok (.irem, 1) := by decide +kernel
theorem dX0_passMinutes_30 : decode cX0_passMinutes 30 = .ok (.invokestatic 99, 3) := by decide +kernel
theorem dX0_passMinutes_33 : decode cX0_passMinutes 33 = .ok (.istore 6, 2) := by decide +kernel
theorem dX0_passMinutes_35 : decode cX0_passMinutes 35 = .ok (.iload_n 3, 1) := by decide +kernel
theorem dX0_passMinutes_36 : decode cX0_passMinutes 36 = .ok (.ifCond .eq 7, 3) := by decide +kernel
theorem dX0_passMinutes_39 : decode cX0_passMinutes 39 = .ok (.iconst 2, 1) := by decide +kernel
theorem dX0_passMinutes_40 : decode cX0_passMinutes 40 = .ok (.goto 4, 3) := by decide +kernel
theorem dX0_passMinutes_43 : decode cX0_passMinutes 43 = .ok (.iconst 1, 1) := by decide +kernel
theorem dX0_passMinutes_44 : decode cX0_passMinutes 44 = .ok (.aload_n 1, 1) := by decide +kernel
theorem dX0_passMinutes_45 : decode cX0_passMinutes 45 = .ok (.getfield 88, 3) := by decide +kernel
theorem dX0_passMinutes_48 : decode cX0_passMinutes 48 = .ok (.ifCond .eq 7, 3) := by decide +kernel
theorem dX0_passMinutes_51 : decode cX0_passMinutes 51 = .ok (.iconst 3, 1) := by decide +kernel
theorem dX0_passMinutes_52 : decode cX0_passMinutes 52 = .ok (.goto 4, 3) := by decide +kernel
theorem dX0_passMinutes_55 : decode cX0_passMinutes 55 = .ok (.iconst 0, 1) := by decide +kernel
theorem dX0_passMinutes_56 : decode cX0_passMinutes 56 = .ok (.iadd, 1) := by decide +kernel
theorem dX0_passMinutes_57 : decode cX0_passMinutes 57 = .ok (.iload 4, 2) := by decide +kernel
theorem dX0_passMinutes_59 : decode cX0_passMinutes 59 = .ok (.iadd, 1) := by decide +kernel
theorem dX0_passMinutes_60 : decode cX0_passMinutes 60 = .ok (.istore 7, 2) := by decide +kernel
theorem dX0_passMinutes_62 : decode cX0_passMinutes 62 = .ok (.aload_n 1, 1) := by decide +kernel
theorem dX0_passMinutes_63 : decode cX0_passMinutes 63 = .ok (.getfield 103, 3) := by decide +kernel
theorem dX0_passMinutes_66 : decode cX0_passMinutes 66 = .ok (.iload 6, 2) := by decide +kernel
theorem dX0_passMinutes_68 : decode cX0_passMinutes 68 = .ok (.aload_n 1, 1) := by decide +kernel
theorem dX0_passMinutes_69 : decode cX0_passMinutes 69 = .ok (.getfield 106, 3) := by decide +kernel
theorem dX0_passMinutes_72 : decode cX0_passMinutes 72 = .ok (.invokestatic 109, 3) := by decide +kernel
theorem dX0_passMinutes_75 : decode cX0_passMinutes 75 = .ok (.iadd, 1) := by decide +kernel
theorem dX0_passMinutes_76 : decode cX0_passMinutes 76 = .ok (.iload 7, 2) := by decide +kernel
theorem dX0_passMinutes_78 : decode cX0_passMinutes 78 = .ok (.isub, 1) := by decide +kernel
theorem dX0_passMinutes_79 : decode cX0_passMinutes 79 = .ok (.istore 8, 2) := by decide +kernel
theorem dX0_passMinutes_81 : decode cX0_passMinutes 81 = .ok (.iload 8, 2) := by decide +kernel
theorem dX0_passMinutes_83 : decode cX0_passMinutes 83 = .ok (.ifCond .ge 5, 3) := by decide +kernel
theorem dX0_passMinutes_86 : decode cX0_passMinutes 86 = .ok (.iconst 2, 1) := by decide +kernel
theorem dX0_passMinutes_87 : decode cX0_passMinutes 87 = .ok (.ireturn, 1) := by decide +kernel
theorem dX0_passMinutes_88 : decode cX0_passMinutes 88 = .ok (.aload_n 1, 1) := by decide +kernel
theorem dX0_passMinutes_89 : decode cX0_passMinutes 89 = .ok (.iload 8, 2) := by decide +kernel
theorem dX0_passMinutes_91 : decode cX0_passMinutes 91 = .ok (.aload_n 0, 1) := by decide +kernel
theorem dX0_passMinutes_92 : decode cX0_passMinutes 92 = .ok (.getfield 18, 3) := by decide +kernel
theorem dX0_passMinutes_95 : decode cX0_passMinutes 95 = .ok (.invokestatic 61, 3) := by decide +kernel
theorem dX0_passMinutes_98 : decode cX0_passMinutes 98 = .ok (.putfield 103, 3) := by decide +kernel
theorem dX0_passMinutes_101 : decode cX0_passMinutes 101 = .ok (.aload_n 1, 1) := by decide +kernel
theorem dX0_passMinutes_102 : decode cX0_passMinutes 102 = .ok (.dup, 1) := by decide +kernel
theorem dX0_passMinutes_103 : decode cX0_passMinutes 103 = .ok (.getfield 112, 3) := by decide +kernel
theorem dX0_passMinutes_106 : decode cX0_passMinutes 106 = .ok (.iload 6, 2) := by decide +kernel
theorem dX0_passMinutes_108 : decode cX0_passMinutes 108 = .ok (.invokestatic 115, 3) := by decide +kernel
theorem dX0_passMinutes_111 : decode cX0_passMinutes 111 = .ok (.aload_n 1, 1) := by decide +kernel
theorem dX0_passMinutes_112 : decode cX0_passMinutes 112 = .ok (.getfield 112, 3) := by decide +kernel
theorem dX0_passMinutes_115 : decode cX0_passMinutes 115 = .ok (.isub, 1) := by decide +kernel
theorem dX0_passMinutes_116 : decode cX0_passMinutes 116 = .ok (.bipush 20, 2) := by decide +kernel
theorem dX0_passMinutes_118 : decode cX0_passMinutes 118 = .ok (.idiv, 1) := by decide +kernel
theorem dX0_passMinutes_119 : decode cX0_passMinutes 119 = .ok (.aload_n 1, 1) := by decide +kernel
theorem dX0_passMinutes_120 : decode cX0_passMinutes 120 = .ok (.getfield 88, 3) := by decide +kernel
theorem dX0_passMinutes_123 : decode cX0_passMinutes 123 = .ok (.ifCond .eq 7, 3) := by decide +kernel
theorem dX0_passMinutes_126 : decode cX0_passMinutes 126 = .ok (.iconst 2, 1) := by decide +kernel
theorem dX0_passMinutes_127 : decode cX0_passMinutes 127 = .ok (.goto 4, 3) := by decide +kernel
theorem dX0_passMinutes_130 : decode cX0_passMinutes 130 = .ok (.iconst 0, 1) := by decide +kernel
theorem dX0_passMinutes_131 : decode cX0_passMinutes 131 = .ok (.iadd, 1) := by decide +kernel
theorem dX0_passMinutes_132 : decode cX0_passMinutes 132 = .ok (.iload_n 3, 1) := by decide +kernel
theorem dX0_passMinutes_133 : decode cX0_passMinutes 133 = .ok (.ifCond .eq 7, 3) := by decide +kernel
theorem dX0_passMinutes_136 : decode cX0_passMinutes 136 = .ok (.iconst 1, 1) := by decide +kernel
theorem dX0_passMinutes_137 : decode cX0_passMinutes 137 = .ok (.goto 4, 3) := by decide +kernel
theorem dX0_passMinutes_140 : decode cX0_passMinutes 140 = .ok (.iconst 0, 1) := by decide +kernel
theorem dX0_passMinutes_141 : decode cX0_passMinutes 141 = .ok (.iadd, 1) := by decide +kernel
theorem dX0_passMinutes_142 : decode cX0_passMinutes 142 = .ok (.iadd, 1) := by decide +kernel
theorem dX0_passMinutes_143 : decode cX0_passMinutes 143 = .ok (.putfield 112, 3) := by decide +kernel
theorem dX0_passMinutes_146 : decode cX0_passMinutes 146 = .ok (.aload_n 1, 1) := by decide +kernel
theorem dX0_passMinutes_147 : decode cX0_passMinutes 147 = .ok (.dup, 1) := by decide +kernel
theorem dX0_passMinutes_148 : decode cX0_passMinutes 148 = .ok (.getfield 96, 3) := by decide +kernel
theorem dX0_passMinutes_151 : decode cX0_passMinutes 151 = .ok (.iconst 1, 1) := by decide +kernel
theorem dX0_passMinutes_152 : decode cX0_passMinutes 152 = .ok (.iadd, 1) := by decide +kernel
theorem dX0_passMinutes_153 : decode cX0_passMinutes 153 = .ok (.putfield 96, 3) := by decide +kernel
theorem dX0_passMinutes_156 : decode cX0_passMinutes 156 = .ok (.aload_n 1, 1) := by decide +kernel
theorem dX0_passMinutes_157 : decode cX0_passMinutes 157 = .ok (.getfield 96, 3) := by decide +kernel
theorem dX0_passMinutes_160 : decode cX0_passMinutes 160 = .ok (.sipush 1440, 3) := by decide +kernel
theorem dX0_passMinutes_163 : decode cX0_passMinutes 163 = .ok (.irem, 1) := by decide +kernel
theorem dX0_passMinutes_164 : decode cX0_passMinutes 164 = .ok (.ifCond .ne 18, 3) := by decide +kernel
theorem dX0_passMinutes_167 : decode cX0_passMinutes 167 = .ok (.aload_n 1, 1) := by decide +kernel
theorem dX0_passMinutes_168 : decode cX0_passMinutes 168 = .ok (.bipush 20, 2) := by decide +kernel
theorem dX0_passMinutes_170 : decode cX0_passMinutes 170 = .ok (.aload_n 1, 1) := by decide +kernel
theorem dX0_passMinutes_171 : decode cX0_passMinutes 171 = .ok (.getfield 106, 3) := by decide +kernel
theorem dX0_passMinutes_174 : decode cX0_passMinutes 174 = .ok (.iconst 1, 1) := by decide +kernel
theorem dX0_passMinutes_175 : decode cX0_passMinutes 175 = .ok (.isub, 1) := by decide +kernel
theorem dX0_passMinutes_176 : decode cX0_passMinutes 176 = .ok (.invokestatic 118, 3) := by decide +kernel
theorem dX0_passMinutes_179 : decode cX0_passMinutes 179 = .ok (.putfield 106, 3) := by decide +kernel
theorem dX0_passMinutes_182 : decode cX0_passMinutes 182 = .ok (.iinc 5 1, 3) := by decide +kernel
theorem dX0_passMinutes_185 : decode cX0_passMinutes 185 = .ok (.goto (-182), 3) := by decide +kernel
theorem dX0_passMinutes_188 : decode cX0_passMinutes 188 = .ok (.iconst 0, 1) := by decide +kernel
theorem dX0_passMinutes_189 : decode cX0_passMinutes 189 = .ok (.ireturn, 1) := by decide +kernel
theorem dX0_drive_0 : decode cX0_drive 0 = .ok (.aload_n 0, 1) := by decide +kernel
theorem dX0_drive_1 : decode cX0_drive 1 = .ok (.getfield 32, 3) := by decide +kernel
theorem dX0_drive_4 : decode cX0_drive 4 = .ok (.iload_n 2, 1) := by decide +kernel
theorem dX0_drive_5 : decode cX0_drive 5 = .ok (.iload_n 3, 1) := by decide +kernel
theorem dX0_drive_6 : decode cX0_drive 6 = .ok (.invokestatic 121, 3) := by decide +kernel
theorem dX0_drive_9 : decode cX0_drive 9 = .ok (.invokevirtual 126, 3) := by decide +kernel
theorem dX0_drive_12 : decode cX0_drive 12 = .ok (.iconst 0, 1) := by decide +kernel
theorem dX0_drive_13 : decode cX0_drive 13 = .ok (.istore 4, 2) := by decide +kernel
theorem dX0_drive_15 : decode cX0_drive 15 = .ok (.iload 4, 2) := by decide +kernel
theorem dX0_drive_17 : decode cX0_drive 17 = .ok (.sipush 576, 3) := by decide +kernel
theorem dX0_drive_20 : decode cX0_drive 20 = .ok (.if_icmp .ge 76, 3) := by decide +kernel
theorem dX0_drive_23 : decode cX0_drive 23 = .ok (.aload_n 1, 1) := by decide +kernel
theorem dX0_drive_24 : decode cX0_drive 24 = .ok (.getfield 132, 3) := by decide +kernel
theorem dX0_drive_27 : decode cX0_drive 27 = .ok (.iload_n 2, 1) := by decide +kernel
theorem dX0_drive_28 : decode cX0_drive 28 = .ok (.if_icmp .ne 11, 3) := by decide +kernel
theorem dX0_drive_31 : decode cX0_drive 31 = .ok (.aload_n 1, 1) := by decide +kernel
theorem dX0_drive_32 : decode cX0_drive 32 = .ok (.getfield 135, 3) := by decide +kernel
theorem dX0_drive_35 : decode cX0_drive 35 = .ok (.iload_n 3, 1) := by decide +kernel
theorem dX0_drive_36 : decode cX0_drive 36 = .ok (.if_icmp .eq 60, 3) := by decide +kernel
theorem dX0_drive_39 : decode cX0_drive 39 = .ok (.aload_n 0, 1) := by decide +kernel
theorem dX0_drive_40 : decode cX0_drive 40 = .ok (.getfield 32, 3) := by decide +kernel
theorem dX0_drive_43 : decode cX0_drive 43 = .ok (.aload_n 1, 1) := by decide +kernel
theorem dX0_drive_44 : decode cX0_drive 44 = .ok (.getfield 132, 3) := by decide +kernel
theorem dX0_drive_47 : decode cX0_drive 47 = .ok (.aload_n 1, 1) := by decide +kernel
theorem dX0_drive_48 : decode cX0_drive 48 = .ok (.getfield 135, 3) := by decide +kernel
theorem dX0_drive_51 : decode cX0_drive 51 = .ok (.invokestatic 121, 3) := by decide +kernel
theorem dX0_drive_54 : decode cX0_drive 54 = .ok (.invokevirtual 138, 3) := by decide +kernel
theorem dX0_drive_57 : decode cX0_drive 57 = .ok (.istore 5, 2) := by decide +kernel
theorem dX0_drive_59 : decode cX0_drive 59 = .ok (.iload 5, 2) := by decide +kernel
theorem dX0_drive_61 : decode cX0_drive 61 = .ok (.ifCond .lt 10, 3) := by decide +kernel
theorem dX0_drive_64 : decode cX0_drive 64 = .ok (.iload 5, 2) := by decide +kernel
theorem dX0_drive_66 : decode cX0_drive 66 = .ok (.bipush 8, 2) := by decide +kernel
theorem dX0_drive_68 : decode cX0_drive 68 = .ok (.if_icmp .lt 5, 3) := by decide +kernel
theorem dX0_drive_71 : decode cX0_drive 71 = .ok (.iconst 1, 1) := by decide +kernel
theorem dX0_drive_72 : decode cX0_drive 72 = .ok (.ireturn, 1) := by decide +kernel
theorem dX0_drive_73 : decode cX0_drive 73 = .ok (.aload_n 0, 1) := by decide +kernel
theorem dX0_drive_74 : decode cX0_drive 74 = .ok (.aload_n 1, 1) := by decide +kernel
theorem dX0_drive_75 : decode cX0_drive 75 = .ok (.iload 5, 2) := by decide +kernel
theorem dX0_drive_77 : decode cX0_drive 77 = .ok (.invokevirtual 141, 3) := by decide +kernel
theorem dX0_drive_80 : decode cX0_drive 80 = .ok (.istore 6, 2) := by decide +kernel
theorem dX0_drive_82 : decode cX0_drive 82 = .ok (.iload 6, 2) := by decide +kernel
theorem dX0_drive_84 : decode cX0_drive 84 = .ok (.ifCond .eq 6, 3) := by decide +kernel
theorem dX0_drive_87 : decode cX0_drive 87 = .ok (.iload 6, 2) := by decide +kernel
theorem dX0_drive_89 : decode cX0_drive 89 = .ok (.ireturn, 1) := by decide +kernel
theorem dX0_drive_90 : decode cX0_drive 90 = .ok (.iinc 4 1, 3) := by decide +kernel
theorem dX0_drive_93 : decode cX0_drive 93 = .ok (.goto (-78), 3) := by decide +kernel
theorem dX0_drive_96 : decode cX0_drive 96 = .ok (.iconst 0, 1) := by decide +kernel
theorem dX0_drive_97 : decode cX0_drive 97 = .ok (.ireturn, 1) := by decide +kernel
theorem dX0_step_0 : decode cX0_step 0 = .ok (.aload_n 1, 1) := by decide +kernel
theorem dX0_step_1 : decode cX0_step 1 = .ok (.getfield 112, 3) := by decide +kernel
theorem dX0_step_4 : decode cX0_step 4 = .ok (.bipush (-50), 2) := by decide +kernel
theorem dX0_step_6 : decode cX0_step 6 = .ok (.if_icmp .ge 5, 3) := by decide +kernel
theorem dX0_step_9 : decode cX0_step 9 = .ok (.iconst 3, 1) := by decide +kernel
theorem dX0_step_10 : decode cX0_step 10 = .ok (.ireturn, 1) := by decide +kernel
theorem dX0_step_11 : decode cX0_step 11 = .ok (.aload_n 1, 1) := by decide +kernel
theorem dX0_step_12 : decode cX0_step 12 = .ok (.getfield 132, 3) := by decide +kernel
theorem dX0_step_15 : decode cX0_step 15 = .ok (.aload_n 1, 1) := by decide +kernel
theorem dX0_step_16 : decode cX0_step 16 = .ok (.getfield 135, 3) := by decide +kernel
theorem dX0_step_19 : decode cX0_step 19 = .ok (.invokestatic 121, 3) := by decide +kernel
theorem dX0_step_22 : decode cX0_step 22 = .ok (.istore_n 3, 1) := by decide +kernel
theorem dX0_step_23 : decode cX0_step 23 = .ok (.aload_n 0, 1) := by decide +kernel
theorem dX0_step_24 : decode cX0_step 24 = .ok (.aload_n 1, 1) := by decide +kernel
theorem dX0_step_25 : decode cX0_step 25 = .ok (.aload_n 0, 1) := by decide +kernel
theorem dX0_step_26 : decode cX0_step 26 = .ok (.getfield 28, 3) := by decide +kernel
theorem dX0_step_29 : decode cX0_step 29 = .ok (.iload_n 3, 1) := by decide +kernel
theorem dX0_step_30 : decode cX0_step 30 = .ok (.iload_n 2, 1) := by decide +kernel
theorem dX0_step_31 : decode cX0_step 31 = .ok (.invokevirtual 144, 3) := by decide +kernel
theorem dX0_step_34 : decode cX0_step 34 = .ok (.iconst 1, 1) := by decide +kernel
theorem dX0_step_35 : decode cX0_step 35 = .ok (.isub, 1) := by decide +kernel
theorem dX0_step_36 : decode cX0_step 36 = .ok (.iconst 1, 1) := by decide +kernel
theorem dX0_step_37 : decode cX0_step 37 = .ok (.iconst 0, 1) := by decide +kernel
theorem dX0_step_38 : decode cX0_step 38 = .ok (.invokevirtual 147, 3) := by decide +kernel
theorem dX0_step_41 : decode cX0_step 41 = .ok (.istore 4, 2) := by decide +kernel
theorem dX0_step_43 : decode cX0_step 43 = .ok (.iload 4, 2) := by decide +kernel
theorem dX0_step_45 : decode cX0_step 45 = .ok (.ifCond .ne 21, 3) := by decide +kernel
theorem dX0_step_48 : decode cX0_step 48 = .ok (.aload_n 0, 1) := by decide +kernel
theorem dX0_step_49 : decode cX0_step 49 = .ok (.aload_n 1, 1) := by decide +kernel
theorem dX0_step_50 : decode cX0_step 50 = .ok (.iconst 1, 1) := by decide +kernel
theorem dX0_step_51 : decode cX0_step 51 = .ok (.iconst 1, 1) := by decide +kernel
theorem dX0_step_52 : decode cX0_step 52 = .ok (.aload_n 0, 1) := by decide +kernel
theorem dX0_step_53 : decode cX0_step 53 = .ok (.getfield 28, 3) := by decide +kernel
theorem dX0_step_56 : decode cX0_step 56 = .ok (.iload_n 3, 1) := by decide +kernel
theorem dX0_step_57 : decode cX0_step 57 = .ok (.iload_n 2, 1) := by decide +kernel
theorem dX0_step_58 : decode cX0_step 58 = .ok (.invokevirtual 151, 3) := by decide +kernel
theorem dX0_step_61 : decode cX0_step 61 = .ok (.invokevirtual 147, 3) := by decide +kernel
theorem dX0_step_64 : decode cX0_step 64 = .ok (.istore 4, 2) := by decide +kernel
theorem dX0_step_66 : decode cX0_step 66 = .ok (.aload_n 1, 1) := by decide +kernel
theorem dX0_step_67 : decode cX0_step 67 = .ok (.dup, 1) := by decide +kernel
theorem dX0_step_68 : decode cX0_step 68 = .ok (.getfield 132, 3) := by decide +kernel
theorem dX0_step_71 : decode cX0_step 71 = .ok (.getstatic 154, 3) := by decide +kernel
theorem dX0_step_74 : decode cX0_step 74 = .ok (.iload_n 2, 1) := by decide +kernel
theorem dX0_step_75 : decode cX0_step 75 = .ok (.iaload, 1) := by decide +kernel
theorem dX0_step_76 : decode cX0_step 76 = .ok (.iadd, 1) := by decide +kernel
theorem dX0_step_77 : decode cX0_step 77 = .ok (.putfield 132, 3) := by decide +kernel
theorem dX0_step_80 : decode cX0_step 80 = .ok (.aload_n 1, 1) := by decide +kernel
theorem dX0_step_81 : decode cX0_step 81 = .ok (.dup, 1) := by decide +kernel
theorem dX0_step_82 : decode cX0_step 82 = .ok (.getfield 135, 3) := by decide +kernel
theorem dX0_step_85 : decode cX0_step 85 = .ok (.getstatic 158, 3) := by decide +kernel
theorem dX0_step_88 : decode cX0_step 88 = .ok (.iload_n 2, 1) := by decide +kernel
theorem dX0_step_89 : decode cX0_step 89 = .ok (.iaload, 1) := by decide +kernel
theorem dX0_step_90 : decode cX0_step 90 = .ok (.iadd, 1) := by decide +kernel
theorem dX0_step_91 : decode cX0_step 91 = .ok (.putfield 135, 3) := by decide +kernel
theorem dX0_step_94 : decode cX0_step 94 = .ok (.iload 4, 2) := by decide +kernel
theorem dX0_step_96 : decode cX0_step 96 = .ok (.ireturn, 1) := by decide +kernel
theorem dX0_takeImage_0 : decode cX0_takeImage 0 = .ok (.aload_n 0, 1) := by decide +kernel
theorem dX0_takeImage_1 : decode cX0_takeImage 1 = .ok (.getfield 36, 3) := by decide +kernel
theorem dX0_takeImage_4 : decode cX0_takeImage 4 = .ok (.iload_n 2, 1) := by decide +kernel
theorem dX0_takeImage_5 : decode cX0_takeImage 5 = .ok (.invokevirtual 161, 3) := by decide +kernel
theorem dX0_takeImage_8 : decode cX0_takeImage 8 = .ok (.istore 4, 2) := by decide +kernel
theorem dX0_takeImage_10 : decode cX0_takeImage 10 = .ok (.aload_n 0, 1) := by decide +kernel
theorem dX0_takeImage_11 : decode cX0_takeImage 11 = .ok (.getfield 36, 3) := by decide +kernel
theorem dX0_takeImage_14 : decode cX0_takeImage 14 = .ok (.iload_n 2, 1) := by decide +kernel
theorem dX0_takeImage_15 : decode cX0_takeImage 15 = .ok (.invokevirtual 166, 3) := by decide +kernel
theorem dX0_takeImage_18 : decode cX0_takeImage 18 = .ok (.istore 5, 2) := by decide +kernel
theorem dX0_takeImage_20 : decode cX0_takeImage 20 = .ok (.aload_n 1, 1) := by decide +kernel
theorem dX0_takeImage_21 : decode cX0_takeImage 21 = .ok (.getfield 132, 3) := by decide +kernel
theorem dX0_takeImage_24 : decode cX0_takeImage 24 = .ok (.aload_n 1, 1) := by decide +kernel
theorem dX0_takeImage_25 : decode cX0_takeImage 25 = .ok (.getfield 135, 3) := by decide +kernel
theorem dX0_takeImage_28 : decode cX0_takeImage 28 = .ok (.iload 4, 2) := by decide +kernel
theorem dX0_takeImage_30 : decode cX0_takeImage 30 = .ok (.iload 5, 2) := by decide +kernel
theorem dX0_takeImage_32 : decode cX0_takeImage 32 = .ok (.invokestatic 169, 3) := by decide +kernel
theorem dX0_takeImage_35 : decode cX0_takeImage 35 = .ok (.bipush 6, 2) := by decide +kernel
theorem dX0_takeImage_37 : decode cX0_takeImage 37 = .ok (.if_icmp .gt 25, 3) := by decide +kernel
theorem dX0_takeImage_40 : decode cX0_takeImage 40 = .ok (.aload_n 0, 1) := by decide +kernel
theorem dX0_takeImage_41 : decode cX0_takeImage 41 = .ok (.getfield 28, 3) := by decide +kernel
theorem dX0_takeImage_44 : decode cX0_takeImage 44 = .ok (.aload_n 1, 1) := by decide +kernel
theorem dX0_takeImage_45 : decode cX0_takeImage 45 = .ok (.getfield 132, 3) := by decide +kernel
theorem dX0_takeImage_48 : decode cX0_takeImage 48 = .ok (.aload_n 1, 1) := by decide +kernel
theorem dX0_takeImage_49 : decode cX0_takeImage 49 = .ok (.getfield 135, 3) := by decide +kernel
theorem dX0_takeImage_52 : decode cX0_takeImage 52 = .ok (.iload 4, 2) := by decide +kernel
theorem dX0_takeImage_54 : decode cX0_takeImage 54 = .ok (.iload 5, 2) := by decide +kernel
theorem dX0_takeImage_56 : decode cX0_takeImage 56 = .ok (.invokevirtual 173, 3) := by decide +kernel
theorem dX0_takeImage_59 : decode cX0_takeImage 59 = .ok (.ifCond .ne 5, 3) := by decide +kernel
theorem dX0_takeImage_62 : decode cX0_takeImage 62 = .ok (.iconst 5, 1) := by decide +kernel
theorem dX0_takeImage_63 : decode cX0_takeImage 63 = .ok (.ireturn, 1) := by decide +kernel
theorem dX0_takeImage_64 : decode cX0_takeImage 64 = .ok (.aload_n 0, 1) := by decide +kernel
theorem dX0_takeImage_65 : decode cX0_takeImage 65 = .ok (.aload_n 1, 1) := by decide +kernel
theorem dX0_takeImage_66 : decode cX0_takeImage 66 = .ok (.bipush 40, 2) := by decide +kernel
theorem dX0_takeImage_68 : decode cX0_takeImage 68 = .ok (.bipush 6, 2) := by decide +kernel
theorem dX0_takeImage_70 : decode cX0_takeImage 70 = .ok (.iconst 3, 1) := by decide +kernel
theorem dX0_takeImage_71 : decode cX0_takeImage 71 = .ok (.invokevirtual 177, 3) := by decide +kernel
theorem dX0_takeImage_74 : decode cX0_takeImage 74 = .ok (.istore 6, 2) := by decide +kernel
theorem dX0_takeImage_76 : decode cX0_takeImage 76 = .ok (.iload 6, 2) := by decide +kernel
theorem dX0_takeImage_78 : decode cX0_takeImage 78 = .ok (.ifCond .ne 26, 3) := by decide +kernel
theorem dX0_takeImage_81 : decode cX0_takeImage 81 = .ok (.aload_n 1, 1) := by decide +kernel
theorem dX0_takeImage_82 : decode cX0_takeImage 82 = .ok (.iload_n 2, 1) := by decide +kernel
theorem dX0_takeImage_83 : decode cX0_takeImage 83 = .ok (.bipush 40, 2) := by decide +kernel
theorem dX0_takeImage_85 : decode cX0_takeImage 85 = .ok (.iload_n 3, 1) := by decide +kernel
theorem dX0_takeImage_86 : decode cX0_takeImage 86 = .ok (.aload_n 1, 1) := by decide +kernel
theorem dX0_takeImage_87 : decode cX0_takeImage 87 = .ok (.getfield 132, 3) := by decide +kernel
theorem dX0_takeImage_90 : decode cX0_takeImage 90 = .ok (.aload_n 1, 1) := by decide +kernel
theorem dX0_takeImage_91 : decode cX0_takeImage 91 = .ok (.getfield 135, 3) := by decide +kernel
theorem dX0_takeImage_94 : decode cX0_takeImage 94 = .ok (.iload 4, 2) := by decide +kernel
theorem dX0_takeImage_96 : decode cX0_takeImage 96 = .ok (.iload 5, 2) := by decide +kernel
theorem dX0_takeImage_98 : decode cX0_takeImage 98 = .ok (.invokestatic 180, 3) := by decide +kernel
theorem dX0_takeImage_101 : decode cX0_takeImage 101 = .ok (.invokevirtual 183, 3) := by decide +kernel
theorem dX0_takeImage_104 : decode cX0_takeImage 104 = .ok (.iload 6, 2) := by decide +kernel
theorem dX0_takeImage_106 : decode cX0_takeImage 106 = .ok (.ireturn, 1) := by decide +kernel
theorem dX0_takeTouch_0 : decode cX0_takeTouch 0 = .ok (.aload_n 1, 1) := by decide +kernel
theorem dX0_takeTouch_1 : decode cX0_takeTouch 1 = .ok (.getfield 132, 3) := by decide +kernel
theorem dX0_takeTouch_4 : decode cX0_takeTouch 4 = .ok (.aload_n 1, 1) := by decide +kernel
theorem dX0_takeTouch_5 : decode cX0_takeTouch 5 = .ok (.getfield 135, 3) := by decide +kernel
theorem dX0_takeTouch_8 : decode cX0_takeTouch 8 = .ok (.aload_n 0, 1) := by decide +kernel
theorem dX0_takeTouch_9 : decode cX0_takeTouch 9 = .ok (.getfield 36, 3) := by decide +kernel
theorem dX0_takeTouch_12 : decode cX0_takeTouch 12 = .ok (.iload_n 2, 1) := by decide +kernel
theorem dX0_takeTouch_13 : decode cX0_takeTouch 13 = .ok (.invokevirtual 161, 3) := by decide +kernel
theorem dX0_takeTouch_16 : decode cX0_takeTouch 16 = .ok (.aload_n 0, 1) := by decide +kernel
theorem dX0_takeTouch_17 : decode cX0_takeTouch 17 = .ok (.getfield 36, 3) := by decide +kernel
theorem dX0_takeTouch_20 : decode cX0_takeTouch 20 = .ok (.iload_n 2, 1) := by decide +kernel
theorem dX0_takeTouch_21 : decode cX0_takeTouch 21 = .ok (.invokevirtual 166, 3) := by decide +kernel
theorem dX0_takeTouch_24 : decode cX0_takeTouch 24 = .ok (.invokestatic 169, 3) := by decide +kernel
theorem dX0_takeTouch_27 : decode cX0_takeTouch 27 = .ok (.iconst 1, 1) := by decide +kernel
theorem dX0_takeTouch_28 : decode cX0_takeTouch 28 = .ok (.if_icmp .le 5, 3) := by decide +kernel
theorem dX0_takeTouch_31 : decode cX0_takeTouch 31 = .ok (.iconst 5, 1) := by decide +kernel
theorem dX0_takeTouch_32 : decode cX0_takeTouch 32 = .ok (.ireturn, 1) := by decide +kernel
theorem dX0_takeTouch_33 : decode cX0_takeTouch 33 = .ok (.aload_n 0, 1) := by decide +kernel
theorem dX0_takeTouch_34 : decode cX0_takeTouch 34 = .ok (.aload_n 1, 1) := by decide +kernel
theorem dX0_takeTouch_35 : decode cX0_takeTouch 35 = .ok (.bipush 90, 2) := by decide +kernel
theorem dX0_takeTouch_37 : decode cX0_takeTouch 37 = .ok (.bipush 25, 2) := by decide +kernel
theorem dX0_takeTouch_39 : decode cX0_takeTouch 39 = .ok (.iconst 5, 1) := by decide +kernel
theorem dX0_takeTouch_40 : decode cX0_takeTouch 40 = .ok (.invokevirtual 177, 3) := by decide +kernel
theorem dX0_takeTouch_43 : decode cX0_takeTouch 43 = .ok (.istore 4, 2) := by decide +kernel
theorem dX0_takeTouch_45 : decode cX0_takeTouch 45 = .ok (.iload 4, 2) := by decide +kernel
theorem dX0_takeTouch_47 : decode cX0_takeTouch 47 = .ok (.ifCond .ne 13, 3) := by decide +kernel
theorem dX0_takeTouch_50 : decode cX0_takeTouch 50 = .ok (.aload_n 1, 1) := by decide +kernel
theorem dX0_takeTouch_51 : decode cX0_takeTouch 51 = .ok (.iload_n 2, 1) := by decide +kernel
theorem dX0_takeTouch_52 : decode cX0_takeTouch 52 = .ok (.bipush 90, 2) := by decide +kernel
theorem dX0_takeTouch_54 : decode cX0_takeTouch 54 = .ok (.iload_n 3, 1) := by decide +kernel
theorem dX0_takeTouch_55 : decode cX0_takeTouch 55 = .ok (.bipush 9, 2) := by decide +kernel
theorem dX0_takeTouch_57 : decode cX0_takeTouch 57 = .ok (.invokevirtual 183, 3) := by decide +kernel
theorem dX0_takeTouch_60 : decode cX0_takeTouch 60 = .ok (.iload 4, 2) := by decide +kernel
theorem dX0_takeTouch_62 : decode cX0_takeTouch 62 = .ok (.ireturn, 1) := by decide +kernel
theorem dX0_useTool_0 : decode cX0_useTool 0 = .ok (.aload_n 1, 1) := by decide +kernel
theorem dX0_useTool_1 : decode cX0_useTool 1 = .ok (.getfield 112, 3) := by decide +kernel
theorem dX0_useTool_4 : decode cX0_useTool 4 = .ok (.bipush (-40), 2) := by decide +kernel
theorem dX0_useTool_6 : decode cX0_useTool 6 = .ok (.if_icmp .ge 5, 3) := by decide +kernel
theorem dX0_useTool_9 : decode cX0_useTool 9 = .ok (.iconst 3, 1) := by decide +kernel
theorem dX0_useTool_10 : decode cX0_useTool 10 = .ok (.ireturn, 1) := by decide +kernel
theorem dX0_useTool_11 : decode cX0_useTool 11 = .ok (.aload_n 1, 1) := by decide +kernel
theorem dX0_useTool_12 : decode cX0_useTool 12 = .ok (.invokevirtual 187, 3) := by decide +kernel
theorem dX0_useTool_15 : decode cX0_useTool 15 = .ok (.ifCond .ne 16, 3) := by decide +kernel
theorem dX0_useTool_18 : decode cX0_useTool 18 = .ok (.aload_n 1, 1) := by decide +kernel
theorem dX0_useTool_19 : decode cX0_useTool 19 = .ok (.invokevirtual 191, 3) := by decide +kernel
theorem dX0_useTool_22 : decode cX0_useTool 22 = .ok (.iload_n 2, 1) := by decide +kernel
theorem dX0_useTool_23 : decode cX0_useTool 23 = .ok (.iadd, 1) := by decide +kernel
theorem dX0_useTool_24 : decode cX0_useTool 24 = .ok (.aload_n 0, 1) := by decide +kernel
theorem dX0_useTool_25 : decode cX0_useTool 25 = .ok (.getfield 22, 3) := by decide +kernel
theorem dX0_useTool_28 : decode cX0_useTool 28 = .ok (.if_icmp .le 5, 3) := by decide +kernel
theorem dX0_useTool_31 : decode cX0_useTool 31 = .ok (.iconst 4, 1) := by decide +kernel
theorem dX0_useTool_32 : decode cX0_useTool 32 = .ok (.ireturn, 1) := by decide +kernel
theorem dX0_useTool_33 : decode cX0_useTool 33 = .ok (.aload_n 0, 1) := by decide +kernel
theorem dX0_useTool_34 : decode cX0_useTool 34 = .ok (.aload_n 1, 1) := by decide +kernel
theorem dX0_useTool_35 : decode cX0_useTool 35 = .ok (.iload_n 3, 1) := by decide +kernel
theorem dX0_useTool_36 : decode cX0_useTool 36 = .ok (.iconst 1, 1) := by decide +kernel
theorem dX0_useTool_37 : decode cX0_useTool 37 = .ok (.iload 4, 2) := by decide +kernel
theorem dX0_useTool_39 : decode cX0_useTool 39 = .ok (.invokevirtual 147, 3) := by decide +kernel
theorem dX0_useTool_42 : decode cX0_useTool 42 = .ok (.ireturn, 1) := by decide +kernel
theorem dX0_transmit_0 : decode cX0_transmit 0 = .ok (.aload_n 0, 1) := by decide +kernel
theorem dX0_transmit_1 : decode cX0_transmit 1 = .ok (.getfield 40, 3) := by decide +kernel
theorem dX0_transmit_4 : decode cX0_transmit 4 = .ok (.aload_n 1, 1) := by decide +kernel
theorem dX0_transmit_5 : decode cX0_transmit 5 = .ok (.getfield 96, 3) := by decide +kernel
theorem dX0_transmit_8 : decode cX0_transmit 8 = .ok (.sipush 1440, 3) := by decide +kernel
theorem dX0_transmit_11 : decode cX0_transmit 11 = .ok (.irem, 1) := by decide +kernel
theorem dX0_transmit_12 : decode cX0_transmit 12 = .ok (.invokevirtual 195, 3) := by decide +kernel
theorem dX0_transmit_15 : decode cX0_transmit 15 = .ok (.ifCond .ne 6, 3) := by decide +kernel
theorem dX0_transmit_18 : decode cX0_transmit 18 = .ok (.bipush 6, 2) := by decide +kernel
theorem dX0_transmit_20 : decode cX0_transmit 20 = .ok (.ireturn, 1) := by decide +kernel
theorem dX0_transmit_21 : decode cX0_transmit 21 = .ok (.iconst 0, 1) := by decide +kernel
theorem dX0_transmit_22 : decode cX0_transmit 22 = .ok (.istore_n 3, 1) := by decide +kernel
theorem dX0_transmit_23 : decode cX0_transmit 23 = .ok (.iload_n 3, 1) := by decide +kernel
theorem dX0_transmit_24 : decode cX0_transmit 24 = .ok (.iload_n 2, 1) := by decide +kernel
theorem dX0_transmit_25 : decode cX0_transmit 25 = .ok (.if_icmp .ge 53, 3) := by decide +kernel
theorem dX0_transmit_28 : decode cX0_transmit 28 = .ok (.aload_n 1, 1) := by decide +kernel
theorem dX0_transmit_29 : decode cX0_transmit 29 = .ok (.getfield 200, 3) := by decide +kernel
theorem dX0_transmit_32 : decode cX0_transmit 32 = .ok (.ifCond .le 46, 3) := by decide +kernel
theorem dX0_transmit_35 : decode cX0_transmit 35 = .ok (.aload_n 1, 1) := by decide +kernel
theorem dX0_transmit_36 : decode cX0_transmit 36 = .ok (.aload_n 0, 1) := by decide +kernel
theorem dX0_transmit_37 : decode cX0_transmit 37 = .ok (.getfield 40, 3) := by decide +kernel
theorem dX0_transmit_40 : decode cX0_transmit 40 = .ok (.aload_n 1, 1) := by decide +kernel
theorem dX0_transmit_41 : decode cX0_transmit 41 = .ok (.getfield 96, 3) := by decide +kernel
theorem dX0_transmit_44 : decode cX0_transmit 44 = .ok (.sipush 1440, 3) := by decide +kernel
theorem dX0_transmit_47 : decode cX0_transmit 47 = .ok (.irem, 1) := by decide +kernel
theorem dX0_transmit_48 : decode cX0_transmit 48 = .ok (.invokevirtual 195, 3) := by decide +kernel
theorem dX0_transmit_51 : decode cX0_transmit 51 = .ok (.invokevirtual 203, 3) := by decide +kernel
theorem dX0_transmit_54 : decode cX0_transmit 54 = .ok (.aload_n 0, 1) := by decide +kernel
theorem dX0_transmit_55 : decode cX0_transmit 55 = .ok (.aload_n 1, 1) := by decide +kernel
theorem dX0_transmit_56 : decode cX0_transmit 56 = .ok (.iconst 1, 1) := by decide +kernel
theorem dX0_transmit_57 : decode cX0_transmit 57 = .ok (.iconst 1, 1) := by decide +kernel
theorem dX0_transmit_58 : decode cX0_transmit 58 = .ok (.iconst 4, 1) := by decide +kernel
theorem dX0_transmit_59 : decode cX0_transmit 59 = .ok (.invokevirtual 147, 3) := by decide +kernel
theorem dX0_transmit_62 : decode cX0_transmit 62 = .ok (.istore 4, 2) := by decide +kernel
theorem dX0_transmit_64 : decode cX0_transmit 64 = .ok (.iload 4, 2) := by decide +kernel
theorem dX0_transmit_66 : decode cX0_transmit 66 = .ok (.ifCond .eq 6, 3) := by decide +kernel
theorem dX0_transmit_69 : decode cX0_transmit 69 = .ok (.iload 4, 2) := by decide +kernel
theorem dX0_transmit_71 : decode cX0_transmit 71 = .ok (.ireturn, 1) := by decide +kernel
theorem dX0_transmit_72 : decode cX0_transmit 72 = .ok (.iinc 3 1, 3) := by decide +kernel
theorem dX0_transmit_75 : decode cX0_transmit 75 = .ok (.goto (-52), 3) := by decide +kernel
theorem dX0_transmit_78 : decode cX0_transmit 78 = .ok (.iconst 0, 1) := by decide +kernel
theorem dX0_transmit_79 : decode cX0_transmit 79 = .ok (.ireturn, 1) := by decide +kernel
theorem dX0_rest_0 : decode cX0_rest 0 = .ok (.iconst 1, 1) := by decide +kernel
theorem dX0_rest_1 : decode cX0_rest 1 = .ok (.iload_n 2, 1) := by decide +kernel
theorem dX0_rest_2 : decode cX0_rest 2 = .ok (.aload_n 1, 1) := by decide +kernel
theorem dX0_rest_3 : decode cX0_rest 3 = .ok (.getfield 96, 3) := by decide +kernel
theorem dX0_rest_6 : decode cX0_rest 6 = .ok (.isub, 1) := by decide +kernel
theorem dX0_rest_7 : decode cX0_rest 7 = .ok (.iconst 1, 1) := by decide +kernel
theorem dX0_rest_8 : decode cX0_rest 8 = .ok (.isub, 1) := by decide +kernel
theorem dX0_rest_9 : decode cX0_rest 9 = .ok (.sipush 1440, 3) := by decide +kernel
theorem dX0_rest_12 : decode cX0_rest 12 = .ok (.invokestatic 206, 3) := by decide +kernel
theorem dX0_rest_15 : decode cX0_rest 15 = .ok (.iadd, 1) := by decide +kernel
theorem dX0_rest_16 : decode cX0_rest 16 = .ok (.istore 4, 2) := by decide +kernel
theorem dX0_rest_18 : decode cX0_rest 18 = .ok (.aload_n 0, 1) := by decide +kernel
theorem dX0_rest_19 : decode cX0_rest 19 = .ok (.aload_n 1, 1) := by decide +kernel
theorem dX0_rest_20 : decode cX0_rest 20 = .ok (.iload 4, 2) := by decide +kernel
theorem dX0_rest_22 : decode cX0_rest 22 = .ok (.iload_n 3, 1) := by decide +kernel
theorem dX0_rest_23 : decode cX0_rest 23 = .ok (.iconst 0, 1) := by decide +kernel
theorem dX0_rest_24 : decode cX0_rest 24 = .ok (.invokevirtual 147, 3) := by decide +kernel
theorem dX0_rest_27 : decode cX0_rest 27 = .ok (.ireturn, 1) := by decide +kernel
theorem dX0_clean_0 : decode cX0_clean 0 = .ok (.aload_n 0, 1) := by decide +kernel
theorem dX0_clean_1 : decode cX0_clean 1 = .ok (.aload_n 1, 1) := by decide +kernel
theorem dX0_clean_2 : decode cX0_clean 2 = .ok (.bipush 15, 2) := by decide +kernel
theorem dX0_clean_4 : decode cX0_clean 4 = .ok (.iconst 1, 1) := by decide +kernel
theorem dX0_clean_5 : decode cX0_clean 5 = .ok (.bipush 6, 2) := by decide +kernel
theorem dX0_clean_7 : decode cX0_clean 7 = .ok (.invokevirtual 147, 3) := by decide +kernel
theorem dX0_clean_10 : decode cX0_clean 10 = .ok (.istore_n 2, 1) := by decide +kernel
theorem dX0_clean_11 : decode cX0_clean 11 = .ok (.iload_n 2, 1) := by decide +kernel
theorem dX0_clean_12 : decode cX0_clean 12 = .ok (.ifCond .ne 19, 3) := by decide +kernel
theorem dX0_clean_15 : decode cX0_clean 15 = .ok (.aload_n 1, 1) := by decide +kernel
theorem dX0_clean_16 : decode cX0_clean 16 = .ok (.bipush 100, 2) := by decide +kernel
theorem dX0_clean_18 : decode cX0_clean 18 = .ok (.aload_n 1, 1) := by decide +kernel
theorem dX0_clean_19 : decode cX0_clean 19 = .ok (.getfield 106, 3) := by decide +kernel
theorem dX0_clean_22 : decode cX0_clean 22 = .ok (.bipush 10, 2) := by decide +kernel
theorem dX0_clean_24 : decode cX0_clean 24 = .ok (.iadd, 1) := by decide +kernel
theorem dX0_clean_25 : decode cX0_clean 25 = .ok (.invokestatic 61, 3) := by decide +kernel
theorem dX0_clean_28 : decode cX0_clean 28 = .ok (.putfield 106, 3) := by decide +kernel
theorem dX0_clean_31 : decode cX0_clean 31 = .ok (.iload_n 2, 1) := by decide +kernel
theorem dX0_clean_32 : decode cX0_clean 32 = .ok (.ireturn, 1) := by decide +kernel
theorem dX1_init_0 : decode cX1_init 0 = .ok (.aload_n 0, 1) := by decide +kernel
theorem dX1_init_1 : decode cX1_init 1 = .ok (.invokespecial 3, 3) := by decide +kernel
theorem dX1_init_4 : decode cX1_init 4 = .ok (.aload_n 0, 1) := by decide +kernel
theorem dX1_init_5 : decode cX1_init 5 = .ok (.sipush 576, 3) := by decide +kernel
theorem dX1_init_8 : decode cX1_init 8 = .ok (.newarray .int, 2) := by decide +kernel
theorem dX1_init_10 : decode cX1_init 10 = .ok (.putfield 9, 3) := by decide +kernel
theorem dX1_init_13 : decode cX1_init 13 = .ok (.aload_n 0, 1) := by decide +kernel
theorem dX1_init_14 : decode cX1_init 14 = .ok (.sipush 576, 3) := by decide +kernel
theorem dX1_init_17 : decode cX1_init 17 = .ok (.newarray .int, 2) := by decide +kernel
theorem dX1_init_19 : decode cX1_init 19 = .ok (.putfield 15, 3) := by decide +kernel
theorem dX1_init_22 : decode cX1_init 22 = .ok (.aload_n 0, 1) := by decide +kernel
theorem dX1_init_23 : decode cX1_init 23 = .ok (.sipush 576, 3) := by decide +kernel
theorem dX1_init_26 : decode cX1_init 26 = .ok (.newarray .boolean, 2) := by decide +kernel
theorem dX1_init_28 : decode cX1_init 28 = .ok (.putfield 18, 3) := by decide +kernel
theorem dX1_init_31 : decode cX1_init 31 = .ok (.aload_n 0, 1) := by decide +kernel
theorem dX1_init_32 : decode cX1_init 32 = .ok (.sipush 4608, 3) := by decide +kernel
theorem dX1_init_35 : decode cX1_init 35 = .ok (.newarray .int, 2) := by decide +kernel
theorem dX1_init_37 : decode cX1_init 37 = .ok (.putfield 22, 3) := by decide +kernel
theorem dX1_init_40 : decode cX1_init 40 = .ok (.aload_n 0, 1) := by decide +kernel
theorem dX1_init_41 : decode cX1_init 41 = .ok (.bipush 12, 2) := by decide +kernel
theorem dX1_init_43 : decode cX1_init 43 = .ok (.putfield 25, 3) := by decide +kernel
theorem dX1_init_46 : decode cX1_init 46 = .ok (.aload_n 0, 1) := by decide +kernel
theorem dX1_init_47 : decode cX1_init 47 = .ok (.invokevirtual 29, 3) := by decide +kernel
theorem dX1_init_50 : decode cX1_init 50 = .ok (.return_, 1) := by decide +kernel
theorem dX1_isPlace_0 : decode cX1_isPlace 0 = .ok (.iload_n 0, 1) := by decide +kernel
theorem dX1_isPlace_1 : decode cX1_isPlace 1 = .ok (.ifCond .lt 23, 3) := by decide +kernel
theorem dX1_isPlace_4 : decode cX1_isPlace 4 = .ok (.iload_n 0, 1) := by decide +kernel
theorem dX1_isPlace_5 : decode cX1_isPlace 5 = .ok (.bipush 24, 2) := by decide +kernel
theorem dX1_isPlace_7 : decode cX1_isPlace 7 = .ok (.if_icmp .ge 17, 3) := by decide +kernel
theorem dX1_isPlace_10 : decode cX1_isPlace 10 = .ok (.iload_n 1, 1) := by decide +kernel
theorem dX1_isPlace_11 : decode cX1_isPlace 11 = .ok (.ifCond .lt 13, 3) := by decide +kernel
theorem dX1_isPlace_14 : decode cX1_isPlace 14 = .ok (.iload_n 1, 1) := by decide +kernel
theorem dX1_isPlace_15 : decode cX1_isPlace 15 = .ok (.bipush 24, 2) := by decide +kernel
theorem dX1_isPlace_17 : decode cX1_isPlace 17 = .ok (.if_icmp .ge 7, 3) := by decide +kernel
theorem dX1_isPlace_20 : decode cX1_isPlace 20 = .ok (.iconst 1, 1) := by decide +kernel
theorem dX1_isPlace_21 : decode cX1_isPlace 21 = .ok (.goto 4, 3) := by decide +kernel
theorem dX1_isPlace_24 : decode cX1_isPlace 24 = .ok (.iconst 0, 1) := by decide +kernel
theorem dX1_isPlace_25 : decode cX1_isPlace 25 = .ok (.ireturn, 1) := by decide +kernel
theorem dX1_isRectangle_0 : decode cX1_isRectangle 0 = .ok (.iload_n 0, 1) := by decide +kernel
theorem dX1_isRectangle_1 : decode cX1_isRectangle 1 = .ok (.ifCond .lt 33, 3) := by decide +kernel
theorem dX1_isRectangle_4 : decode cX1_isRectangle 4 = .ok (.iload_n 0, 1) := by decide +kernel
theorem dX1_isRectangle_5 : decode cX1_isRectangle 5 = .ok (.iload_n 1, 1) := by decide +kernel
theorem dX1_isRectangle_6 : decode cX1_isRectangle 6 = .ok (.if_icmp .gt 28, 3) := by decide +kernel
theorem dX1_isRectangle_9 : decode cX1_isRectangle 9 = .ok (.iload_n 1, 1) := by decide +kernel
theorem dX1_isRectangle_10 : decode cX1_isRectangle 10 = .ok (.bipush 24, 2) := by decide +kernel
theorem dX1_isRectangle_12 : decode cX1_isRectangle 12 = .ok (.if_icmp .ge 22, 3) := by decide +kernel
theorem dX1_isRectangle_15 : decode cX1_isRectangle 15 = .ok (.iload_n 2, 1) := by decide +kernel
theorem dX1_isRectangle_16 : decode cX1_isRectangle 16 = .ok (.ifCond .lt 18, 3) := by decide +kernel
theorem dX1_isRectangle_19 : decode cX1_isRectangle 19 = .ok (.iload_n 2, 1) := by decide +kernel
theorem dX1_isRectangle_20 : decode cX1_isRectangle 20 = .ok (.iload_n 3, 1) := by decide +kernel
theorem dX1_isRectangle_21 : decode cX1_isRectangle 21 = .ok (.if_icmp .gt 13, 3) := by decide +kernel
theorem dX1_isRectangle_24 : decode cX1_isRectangle 24 = .ok (.iload_n 3, 1) := by decide +kernel
theorem dX1_isRectangle_25 : decode cX1_isRectangle 25 = .ok (.bipush 24, 2) := by decide +kernel
theorem dX1_isRectangle_27 : decode cX1_isRectangle 27 = .ok (.if_icmp .ge 7, 3) := by decide +kernel
theorem dX1_isRectangle_30 : decode cX1_isRectangle 30 = .ok (.iconst 1, 1) := by decide +kernel
theorem dX1_isRectangle_31 : decode cX1_isRectangle 31 = .ok (.goto 4, 3) := by decide +kernel
theorem dX1_isRectangle_34 : decode cX1_isRectangle 34 = .ok (.iconst 0, 1) := by decide +kernel
theorem dX1_isRectangle_35 : decode cX1_isRectangle 35 = .ok (.ireturn, 1) := by decide +kernel
theorem dX1_placeOf_0 : decode cX1_placeOf 0 = .ok (.iload_n 0, 1) := by decide +kernel
theorem dX1_placeOf_1 : decode cX1_placeOf 1 = .ok (.iload_n 1, 1) := by decide +kernel
theorem dX1_placeOf_2 : decode cX1_placeOf 2 = .ok (.invokestatic 32, 3) := by decide +kernel
theorem dX1_placeOf_5 : decode cX1_placeOf 5 = .ok (.ifCond .eq 12, 3) := by decide +kernel
theorem dX1_placeOf_8 : decode cX1_placeOf 8 = .ok (.iload_n 1, 1) := by decide +kernel
theorem dX1_placeOf_9 : decode cX1_placeOf 9 = .ok (.bipush 24, 2) := by decide +kernel
theorem dX1_placeOf_11 : decode cX1_placeOf 11 = .ok (.imul, 1) := by decide +kernel
theorem dX1_placeOf_12 : decode cX1_placeOf 12 = .ok (.iload_n 0, 1) := by decide +kernel
theorem dX1_placeOf_13 : decode cX1_placeOf 13 = .ok (.iadd, 1) := by decide +kernel
theorem dX1_placeOf_14 : decode cX1_placeOf 14 = .ok (.goto 4, 3) := by decide +kernel
theorem dX1_placeOf_17 : decode cX1_placeOf 17 = .ok (.iconst (-1), 1) := by decide +kernel
theorem dX1_placeOf_18 : decode cX1_placeOf 18 = .ok (.ireturn, 1) := by decide +kernel
theorem dX1_neighbourOf_0 : decode cX1_neighbourOf 0 = .ok (.iload_n 0, 1) := by decide +kernel
theorem dX1_neighbourOf_1 : decode cX1_neighbourOf 1 = .ok (.ifCond .lt 20, 3) := by decide +kernel
theorem dX1_neighbourOf_4 : decode cX1_neighbourOf 4 = .ok (.iload_n 0, 1) := by decide +kernel
theorem dX1_neighbourOf_5 : decode cX1_neighbourOf 5 = .ok (.sipush 576, 3) := by decide +kernel
theorem dX1_neighbourOf_8 : decode cX1_neighbourOf 8 = .ok (.if_icmp .ge 13, 3) := by decide +kernel
theorem dX1_neighbourOf_11 : decode cX1_neighbourOf 11 = .ok (.iload_n 1, 1) := by decide +kernel
theorem dX1_neighbourOf_12 : decode cX1_neighbourOf 12 = .ok (.ifCond .lt 9, 3) := by decide +kernel
theorem dX1_neighbourOf_15 : decode cX1_neighbourOf 15 = .ok (.iload_n 1, 1) := by decide +kernel
theorem dX1_neighbourOf_16 : decode cX1_neighbourOf 16 = .ok (.bipush 8, 2) := by decide +kernel
theorem dX1_neighbourOf_18 : decode cX1_neighbourOf 18 = .ok (.if_icmp .lt 5, 3) := by decide +kernel
theorem dX1_neighbourOf_21 : decode cX1_neighbourOf 21 = .ok (.iconst (-1), 1) := by decide +kernel
theorem dX1_neighbourOf_22 : decode cX1_neighbourOf 22 = .ok (.ireturn, 1) := by decide +kernel
theorem dX1_neighbourOf_23 : decode cX1_neighbourOf 23 = .ok (.iload_n 0, 1) := by decide +kernel
theorem dX1_neighbourOf_24 : decode cX1_neighbourOf 24 = .ok (.bipush 24, 2) := by decide +kernel
theorem dX1_neighbourOf_26 : decode cX1_neighbourOf 26 = .ok (.irem, 1) := by decide +kernel
theorem dX1_neighbourOf_27 : decode cX1_neighbourOf 27 = .ok (.getstatic 36, 3) := by decide +kernel
theorem dX1_neighbourOf_30 : decode cX1_neighbourOf 30 = .ok (.iload_n 1, 1) := by decide +kernel
theorem dX1_neighbourOf_31 : decode cX1_neighbourOf 31 = .ok (.iaload, 1) := by decide +kernel
theorem dX1_neighbourOf_32 : decode cX1_neighbourOf 32 = .ok (.iadd, 1) := by decide +kernel
theorem dX1_neighbourOf_33 : decode cX1_neighbourOf 33 = .ok (.istore_n 2, 1) := by decide +kernel
theorem dX1_neighbourOf_34 : decode cX1_neighbourOf 34 = .ok (.iload_n 0, 1) := by decide +kernel
theorem dX1_neighbourOf_35 : decode cX1_neighbourOf 35 = .ok (.bipush 24, 2) := by decide +kernel
theorem dX1_neighbourOf_37 : decode cX1_neighbourOf 37 = .ok (.idiv, 1) := by decide +kernel
theorem dX1_neighbourOf_38 : decode cX1_neighbourOf 38 = .ok (.getstatic 39, 3) := by decide +kernel
theorem dX1_neighbourOf_41 : decode cX1_neighbourOf 41 = .ok (.iload_n 1, 1) := by decide +kernel
theorem dX1_neighbourOf_42 : decode cX1_neighbourOf 42 = .ok (.iaload, 1) := by decide +kernel
theorem dX1_neighbourOf_43 : decode cX1_neighbourOf 43 = .ok (.iadd, 1) := by decide +kernel
theorem dX1_neighbourOf_44 : decode cX1_neighbourOf 44 = .ok (.istore_n 3, 1) := by decide +kernel
theorem dX1_neighbourOf_45 : decode cX1_neighbourOf 45 = .ok (.iload_n 2, 1) := by decide +kernel
theorem dX1_neighbourOf_46 : decode cX1_neighbourOf 46 = .ok (.iload_n 3, 1) := by decide +kernel
theorem dX1_neighbourOf_47 : decode cX1_neighbourOf 47 = .ok (.invokestatic 32, 3) := by decide +kernel
theorem dX1_neighbourOf_50 : decode cX1_neighbourOf 50 = .ok (.ifCond .eq 12, 3) := by decide +kernel
theorem dX1_neighbourOf_53 : decode cX1_neighbourOf 53 = .ok (.iload_n 3, 1) := by decide +kernel
theorem dX1_neighbourOf_54 : decode cX1_neighbourOf 54 = .ok (.bipush 24, 2) := by decide +kernel
theorem dX1_neighbourOf_56 : decode cX1_neighbourOf 56 = .ok (.imul, 1) := by decide +kernel
theorem dX1_neighbourOf_57 : decode cX1_neighbourOf 57 = .ok (.iload_n 2, 1) := by decide +kernel
theorem dX1_neighbourOf_58 : decode cX1_neighbourOf 58 = .ok (.iadd, 1) := by decide +kernel
theorem dX1_neighbourOf_59 : decode cX1_neighbourOf 59 = .ok (.goto 4, 3) := by decide +kernel
theorem dX1_neighbourOf_62 : decode cX1_neighbourOf 62 = .ok (.iconst (-1), 1) := by decide +kernel
theorem dX1_neighbourOf_63 : decode cX1_neighbourOf 63 = .ok (.ireturn, 1) := by decide +kernel
theorem dX1_distance_0 : decode cX1_distance 0 = .ok (.iload_n 2, 1) := by decide +kernel
theorem dX1_distance_1 : decode cX1_distance 1 = .ok (.iload_n 0, 1) := by decide +kernel
theorem dX1_distance_2 : decode cX1_distance 2 = .ok (.isub, 1) := by decide +kernel
theorem dX1_distance_3 : decode cX1_distance 3 = .ok (.invokestatic 42, 3) := by decide +kernel
theorem dX1_distance_6 : decode cX1_distance 6 = .ok (.iload_n 3, 1) := by decide +kernel
theorem dX1_distance_7 : decode cX1_distance 7 = .ok (.iload_n 1, 1) := by decide +kernel
theorem dX1_distance_8 : decode cX1_distance 8 = .ok (.isub, 1) := by decide +kernel
theorem dX1_distance_9 : decode cX1_distance 9 = .ok (.invokestatic 42, 3) := by decide +kernel
theorem dX1_distance_12 : decode cX1_distance 12 = .ok (.invokestatic 48, 3) := by decide +kernel
theorem dX1_distance_15 : decode cX1_distance 15 = .ok (.ireturn, 1) := by decide +kernel
theorem dX1_octantOf_0 : decode cX1_octantOf 0 = .ok (.iload_n 0, 1) := by decide +kernel
theorem dX1_octantOf_1 : decode cX1_octantOf 1 = .ok (.iload_n 2, 1) := by decide +kernel
theorem dX1_octantOf_2 : decode cX1_octantOf 2 = .ok (.invokestatic 52, 3) := by decide +kernel
theorem dX1_octantOf_5 : decode cX1_octantOf 5 = .ok (.istore 4, 2) := by decide +kernel
theorem dX1_octantOf_7 : decode cX1_octantOf 7 = .ok (.iload_n 1, 1) := by decide +kernel
theorem dX1_octantOf_8 : decode cX1_octantOf 8 = .ok (.iload_n 3, 1) := by decide +kernel
theorem dX1_octantOf_9 : decode cX1_octantOf 9 = .ok (.invokestatic 52, 3) := by decide +kernel
theorem dX1_octantOf_12 : decode cX1_octantOf 12 = .ok (.istore 5, 2) := by decide +kernel
theorem dX1_octantOf_14 : decode cX1_octantOf 14 = .ok (.iconst 0, 1) := by decide +kernel
theorem dX1_octantOf_15 : decode cX1_octantOf 15 = .ok (.istore 6, 2) := by decide +kernel
theorem dX1_octantOf_17 : decode cX1_octantOf 17 = .ok (.iload 6, 2) := by decide +kernel
theorem dX1_octantOf_19 : decode cX1_octantOf 19 = .ok (.bipush 8, 2) := by decide +kernel
theorem dX1_octantOf_21 : decode cX1_octantOf 21 = .ok (.if_icmp .ge 34, 3) := by decide +kernel
theorem dX1_octantOf_24 : decode cX1_octantOf 24 = .ok (.getstatic 36, 3) := by decide +kernel
theorem dX1_octantOf_27 : decode cX1_octantOf 27 = .ok (.iload 6, 2) := by decide +kernel
theorem dX1_octantOf_29 : decode cX1_octantOf 29 = .ok (.iaload, 1) := by decide +kernel
theorem dX1_octantOf_30 : decode cX1_octantOf 30 = .ok (.iload 4, 2) := by decide +kernel
theorem dX1_octantOf_32 : decode cX1_octantOf 32 = .ok (.if_icmp .ne 17, 3) := by decide +kernel
theorem dX1_octantOf_35 : decode cX1_octantOf 35 = .ok (.getstatic 39, 3) := by decide +kernel
theorem dX1_octantOf_38 : decode cX1_octantOf 38 = .ok (.iload 6, 2) := by decide +kernel
theorem dX1_octantOf_40 : decode cX1_octantOf 40 = .ok (.iaload, 1) := by decide +kernel
theorem dX1_octantOf_41 : decode cX1_octantOf 41 = .ok (.iload 5, 2) := by decide +kernel
theorem dX1_octantOf_43 : decode cX1_octantOf 43 = .ok (.if_icmp .ne 6, 3) := by decide +kernel
theorem dX1_octantOf_46 : decode cX1_octantOf 46 = .ok (.iload 6, 2) := by decide +kernel
theorem dX1_octantOf_48 : decode cX1_octantOf 48 = .ok (.ireturn, 1) := by decide +kernel
theorem dX1_octantOf_49 : decode cX1_octantOf 49 = .ok (.iinc 6 1, 3) := by decide +kernel
theorem dX1_octantOf_52 : decode cX1_octantOf 52 = .ok (.goto (-35), 3) := by decide +kernel
theorem dX1_octantOf_55 : decode cX1_octantOf 55 = .ok (.bipush 8, 2) := by decide +kernel
theorem dX1_octantOf_57 : decode cX1_octantOf 57 = .ok (.ireturn, 1) := by decide +kernel
theorem dX1_heightAt_0 : decode cX1_heightAt 0 = .ok (.iload_n 1, 1) := by decide +kernel
theorem dX1_heightAt_1 : decode cX1_heightAt 1 = .ok (.iload_n 2, 1) := by decide +kernel
theorem dX1_heightAt_2 : decode cX1_heightAt 2 = .ok (.invokestatic 32, 3) := by decide +kernel
theorem dX1_heightAt_5 : decode cX1_heightAt 5 = .ok (.ifCond .eq 17, 3) := by decide +kernel
theorem dX1_heightAt_8 : decode cX1_heightAt 8 = .ok (.aload_n 0, 1) := by decide +kernel
theorem dX1_heightAt_9 : decode cX1_heightAt 9 = .ok (.getfield 9, 3) := by decide +kernel
theorem dX1_heightAt_12 : decode cX1_heightAt 12 = .ok (.iload_n 2, 1) := by decide +kernel
theorem dX1_heightAt_13 : decode cX1_heightAt 13 = .ok (.bipush 24, 2) := by decide +kernel
theorem dX1_heightAt_15 : decode cX1_heightAt 15 = .ok (.imul, 1) := by decide +kernel
theorem dX1_heightAt_16 : decode cX1_heightAt 16 = .ok (.iload_n 1, 1) := by decide +kernel
theorem dX1_heightAt_17 : decode cX1_heightAt 17 = .ok (.iadd, 1) := by decide +kernel
theorem dX1_heightAt_18 : decode cX1_heightAt 18 = .ok (.iaload, 1) := by decide +kernel
theorem dX1_heightAt_19 : decode cX1_heightAt 19 = .ok (.goto 4, 3) := by decide +kernel
theorem dX1_heightAt_22 : decode cX1_heightAt 22 = .ok (.iconst 0, 1) := by decide +kernel
theorem dX1_heightAt_23 : decode cX1_heightAt 23 = .ok (.ireturn, 1) := by decide +kernel
theorem dX1_roughAt_0 : decode cX1_roughAt 0 = .ok (.iload_n 1, 1) := by decide +kernel
theorem dX1_roughAt_1 : decode cX1_roughAt 1 = .ok (.iload_n 2, 1) := by decide +kernel
theorem dX1_roughAt_2 : decode cX1_roughAt 2 = .ok (.invokestatic 32, 3) := by decide +kernel
theorem dX1_roughAt_5 : decode cX1_roughAt 5 = .ok (.ifCond .eq 17, 3) := by decide +kernel
theorem dX1_roughAt_8 : decode cX1_roughAt 8 = .ok (.aload_n 0, 1) := by decide +kernel
theorem dX1_roughAt_9 : decode cX1_roughAt 9 = .ok (.getfield 15, 3) := by decide +kernel
theorem dX1_roughAt_12 : decode cX1_roughAt 12 = .ok (.iload_n 2, 1) := by decide +kernel
theorem dX1_roughAt_13 : decode cX1_roughAt 13 = .ok (.bipush 24, 2) := by decide +kernel
theorem dX1_roughAt_15 : decode cX1_roughAt 15 = .ok (.imul, 1) := by decide +kernel
theorem dX1_roughAt_16 : decode cX1_roughAt 16 = .ok (.iload_n 1, 1) := by decide +kernel
theorem dX1_roughAt_17 : decode cX1_roughAt 17 = .ok (.iadd, 1) := by decide +kernel
theorem dX1_roughAt_18 : decode cX1_roughAt 18 = .ok (.iaload, 1) := by decide +kernel
theorem dX1_roughAt_19 : decode cX1_roughAt 19 = .ok (.goto 4, 3) := by decide +kernel
theorem dX1_roughAt_22 : decode cX1_roughAt 22 = .ok (.iconst 0, 1) := by decide +kernel
theorem dX1_roughAt_23 : decode cX1_roughAt 23 = .ok (.ireturn, 1) := by decide +kernel
theorem dX1_isHazardAt_0 : decode cX1_isHazardAt 0 = .ok (.iload_n 1, 1) := by decide +kernel
theorem dX1_isHazardAt_1 : decode cX1_isHazardAt 1 = .ok (.iload_n 2, 1) := by decide +kernel
theorem dX1_isHazardAt_2 : decode cX1_isHazardAt 2 = .ok (.invokestatic 32, 3) := by decide +kernel
theorem dX1_isHazardAt_5 : decode cX1_isHazardAt 5 = .ok (.ifCond .eq 21, 3) := by decide +kernel
theorem dX1_isHazardAt_8 : decode cX1_isHazardAt 8 = .ok (.aload_n 0, 1) := by decide +kernel
theorem dX1_isHazardAt_9 : decode cX1_isHazardAt 9 = .ok (.getfield 18, 3) := by decide +kernel
theorem dX1_isHazardAt_12 : decode cX1_isHazardAt 12 = .ok (.iload_n 2, 1) := by decide +kernel
theorem dX1_isHazardAt_13 : decode cX1_isHazardAt 13 = .ok (.bipush 24, 2) := by decide +kernel
theorem dX1_isHazardAt_15 : decode cX1_isHazardAt 15 = .ok (.imul, 1) := by decide +kernel
theorem dX1_isHazardAt_16 : decode cX1_isHazardAt 16 = .ok (.iload_n 1, 1) := by decide +kernel
theorem dX1_isHazardAt_17 : decode cX1_isHazardAt 17 = .ok (.iadd, 1) := by decide +kernel
theorem dX1_isHazardAt_18 : decode cX1_isHazardAt 18 = .ok (.baload, 1) := by decide +kernel
theorem dX1_isHazardAt_19 : decode cX1_isHazardAt 19 = .ok (.ifCond .eq 7, 3) := by decide +kernel
theorem dX1_isHazardAt_22 : decode cX1_isHazardAt 22 = .ok (.iconst 1, 1) := by decide +kernel
theorem dX1_isHazardAt_23 : decode cX1_isHazardAt 23 = .ok (.goto 4, 3) := by decide +kernel
theorem dX1_isHazardAt_26 : decode cX1_isHazardAt 26 = .ok (.iconst 0, 1) := by decide +kernel
theorem dX1_isHazardAt_27 : decode cX1_isHazardAt 27 = .ok (.ireturn, 1) := by decide +kernel
theorem dX1_canLift_0 : decode cX1_canLift 0 = .ok (.iload 5, 2) := by decide +kernel
theorem dX1_canLift_2 : decode cX1_canLift 2 = .ok (.sipush (-198), 3) := by decide +kernel
theorem dX1_canLift_5 : decode cX1_canLift 5 = .ok (.if_icmp .lt 11, 3) := by decide +kernel
theorem dX1_canLift_8 : decode cX1_canLift 8 = .ok (.iload 5, 2) := by decide +kernel
theorem dX1_canLift_10 : decode cX1_canLift 10 = .ok (.sipush 198, 3) := by decide +kernel
theorem dX1_canLift_13 : decode cX1_canLift 13 = .ok (.if_icmp .le 5, 3) := by decide +kernel
theorem dX1_canLift_16 : decode cX1_canLift 16 = .ok (.iconst 0, 1) := by decide +kernel
theorem dX1_canLift_17 : decode cX1_canLift 17 = .ok (.ireturn, 1) := by decide +kernel
theorem dX1_canLift_18 : decode cX1_canLift 18 = .ok (.iload_n 3, 1) := by decide +kernel
theorem dX1_canLift_19 : decode cX1_canLift 19 = .ok (.istore 6, 2) := by decide +kernel
theorem dX1_canLift_21 : decode cX1_canLift 21 = .ok (.iload 6, 2) := by decide +kernel
theorem dX1_canLift_23 : decode cX1_canLift 23 = .ok (.iload 4, 2) := by decide +kernel
theorem dX1_canLift_25 : decode cX1_canLift 25 = .ok (.if_icmp .gt 53, 3) := by decide +kernel
theorem dX1_canLift_28 : decode cX1_canLift 28 = .ok (.iload_n 1, 1) := by decide +kernel
theorem dX1_canLift_29 : decode cX1_canLift 29 = .ok (.istore 7, 2) := by decide +kernel
theorem dX1_canLift_31 : decode cX1_canLift 31 = .ok (.iload 7, 2) := by decide +kernel
theorem dX1_canLift_33 : decode cX1_canLift 33 = .ok (.iload_n 2, 1) := by decide +kernel
theorem dX1_canLift_34 : decode cX1_canLift 34 = .ok (.if_icmp .gt 38, 3) := by decide +kernel
theorem dX1_canLift_37 : decode cX1_canLift 37 = .ok (.aload_n 0, 1) := by decide +kernel
theorem dX1_canLift_38 : decode cX1_canLift 38 = .ok (.iload 7, 2) := by decide +kernel
theorem dX1_canLift_40 : decode cX1_canLift 40 = .ok (.iload 6, 2) := by decide +kernel
theorem dX1_canLift_42 : decode cX1_canLift 42 = .ok (.invokevirtual 57, 3) := by decide +kernel
theorem dX1_canLift_45 : decode cX1_canLift 45 = .ok (.iload 5, 2) := by decide +kernel
theorem dX1_canLift_47 : decode cX1_canLift 47 = .ok (.iadd, 1) := by decide +kernel
theorem dX1_canLift_48 : decode cX1_canLift 48 = .ok (.istore 8, 2) := by decide +kernel
theorem dX1_canLift_50 : decode cX1_canLift 50 = .ok (.iload 8, 2) := by decide +kernel
theorem dX1_canLift_52 : decode cX1_canLift 52 = .ok (.bipush (-99), 2) := by decide +kernel
theorem dX1_canLift_54 : decode cX1_canLift 54 = .ok (.if_icmp .lt 10, 3) := by decide +kernel
theorem dX1_canLift_57 : decode cX1_canLift 57 = .ok (.iload 8, 2) := by decide +kernel
theorem dX1_canLift_59 : decode cX1_canLift 59 = .ok (.bipush 99, 2) := by decide +kernel
theorem dX1_canLift_61 : decode cX1_canLift 61 = .ok (.if_icmp .le 5, 3) := by decide +kernel
theorem dX1_canLift_64 : decode cX1_canLift 64 = .ok (.iconst 0, 1) := by decide +kernel
theorem dX1_canLift_65 : decode cX1_canLift 65 = .ok (.ireturn, 1) := by decide +kernel
theorem dX1_canLift_66 : decode cX1_canLift 66 = .ok (.iinc 7 1, 3) := by decide +kernel
theorem dX1_canLift_69 : decode cX1_canLift 69 = .ok (.goto (-38), 3) := by decide +kernel
theorem dX1_canLift_72 : decode cX1_canLift 72 = .ok (.iinc 6 1, 3) := by decide +kernel
theorem dX1_canLift_75 : decode cX1_canLift 75 = .ok (.goto (-54), 3) := by decide +kernel
theorem dX1_canLift_78 : decode cX1_canLift 78 = .ok (.iconst 1, 1) := by decide +kernel
theorem dX1_canLift_79 : decode cX1_canLift 79 = .ok (.ireturn, 1) := by decide +kernel
theorem dX1_lift_0 : decode cX1_lift 0 = .ok (.bipush (-99), 2) := by decide +kernel
theorem dX1_lift_2 : decode cX1_lift 2 = .ok (.istore 6, 2) := by decide +kernel
theorem dX1_lift_4 : decode cX1_lift 4 = .ok (.iload_n 3, 1) := by decide +kernel
theorem dX1_lift_5 : decode cX1_lift 5 = .ok (.istore 7, 2) := by decide +kernel
theorem dX1_lift_7 : decode cX1_lift 7 = .ok (.iload 7, 2) := by decide +kernel
theorem dX1_lift_9 : decode cX1_lift 9 = .ok (.iload 4, 2) := by decide +kernel
theorem dX1_lift_11 : decode cX1_lift 11 = .ok (.if_icmp .gt 72, 3) := by decide +kernel
theorem dX1_lift_14 : decode cX1_lift 14 = .ok (.iload_n 1, 1) := by decide +kernel
theorem dX1_lift_15 : decode cX1_lift 15 = .ok (.istore 8, 2) := by decide +kernel
theorem dX1_lift_17 : decode cX1_lift 17 = .ok (.iload 8, 2) := by decide +kernel
theorem dX1_lift_19 : decode cX1_lift 19 = .ok (.iload_n 2, 1) := by decide +kernel
theorem dX1_lift_20 : decode cX1_lift 20 = .ok (.if_icmp .gt 57, 3) := by decide +kernel
theorem dX1_lift_23 : decode cX1_lift 23 = .ok (.iload 8, 2) := by decide +kernel
theorem dX1_lift_25 : decode cX1_lift 25 = .ok (.iload 7, 2) := by decide +kernel
theorem dX1_lift_27 : decode cX1_lift 27 = .ok (.invokestatic 32, 3) := by decide +kernel
theorem dX1_lift_30 : decode cX1_lift 30 = .ok (.ifCond .eq 41, 3) := by decide +kernel
theorem dX1_lift_33 : decode cX1_lift 33 = .ok (.aload_n 0, 1) := by decide +kernel
theorem dX1_lift_34 : decode cX1_lift 34 = .ok (.getfield 9, 3) := by decide +kernel
theorem dX1_lift_37 : decode cX1_lift 37 = .ok (.iload 7, 2) := by decide +kernel
theorem dX1_lift_39 : decode cX1_lift 39 = .ok (.bipush 24, 2) := by decide +kernel
theorem dX1_lift_41 : decode cX1_lift 41 = .ok (.imul, 1) := by decide +kernel
theorem dX1_lift_42 : decode cX1_lift 42 = .ok (.iload 8, 2) := by decide +kernel
theorem dX1_lift_44 : decode cX1_lift 44 = .ok (.iadd, 1) := by decide +kernel
theorem dX1_lift_45 : decode cX1_lift 45 = .ok (.dup2, 1) := by decide +kernel
theorem dX1_lift_46 : decode cX1_lift 46 = .ok (.iaload, 1) := by decide +kernel
theorem dX1_lift_47 : decode cX1_lift 47 = .ok (.iload 5, 2) := by decide +kernel
theorem dX1_lift_49 : decode cX1_lift 49 = .ok (.iadd, 1) := by decide +kernel
theorem dX1_lift_50 : decode cX1_lift 50 = .ok (.iastore, 1) := by decide +kernel
theorem dX1_lift_51 : decode cX1_lift 51 = .ok (.iload 6, 2) := by decide +kernel
theorem dX1_lift_53 : decode cX1_lift 53 = .ok (.aload_n 0, 1) := by decide +kernel
theorem dX1_lift_54 : decode cX1_lift 54 = .ok (.getfield 9, 3) := by decide +kernel
theorem dX1_lift_57 : decode cX1_lift 57 = .ok (.iload 7, 2) := by decide +kernel
theorem dX1_lift_59 : decode cX1_lift 59 = .ok (.bipush 24, 2) := by decide +kernel
theorem dX1_lift_61 : decode cX1_lift 61 = .ok (.imul, 1) := by decide +kernel
theorem dX1_lift_62 : decode cX1_lift 62 = .ok (.iload 8, 2) := by decide +kernel
theorem dX1_lift_64 : decode cX1_lift 64 = .ok (.iadd, 1) := by decide +kernel
theorem dX1_lift_65 : decode cX1_lift 65 = .ok (.iaload, 1) := by decide +kernel
theorem dX1_lift_66 : decode cX1_lift 66 = .ok (.invokestatic 48, 3) := by decide +kernel
theorem dX1_lift_69 : decode cX1_lift 69 = .ok (.istore 6, 2) := by decide +kernel
theorem dX1_lift_71 : decode cX1_lift 71 = .ok (.iinc 8 1, 3) := by decide +kernel
theorem dX1_lift_74 : decode cX1_lift 74 = .ok (.goto (-57), 3) := by decide +kernel
theorem dX1_lift_77 : decode cX1_lift 77 = .ok (.iinc 7 1, 3) := by decide +kernel
theorem dX1_lift_80 : decode cX1_lift 80 = .ok (.goto (-73), 3) := by decide +kernel
theorem dX1_lift_83 : decode cX1_lift 83 = .ok (.aload_n 0, 1) := by decide +kernel
theorem dX1_lift_84 : decode cX1_lift 84 = .ok (.invokevirtual 29, 3) := by decide +kernel
theorem dX1_lift_87 : decode cX1_lift 87 = .ok (.iload 6, 2) := by decide +kernel
theorem dX1_lift_89 : decode cX1_lift 89 = .ok (.ireturn, 1) := by decide +kernel
theorem dX1_cover_0 : decode cX1_cover 0 = .ok (.iload_n 3, 1) := by decide +kernel
theorem dX1_cover_1 : decode cX1_cover 1 = .ok (.istore 7, 2) := by decide +kernel
theorem dX1_cover_3 : decode cX1_cover 3 = .ok (.iload 7, 2) := by decide +kernel
theorem dX1_cover_5 : decode cX1_cover 5 = .ok (.iload 4, 2) := by decide +kernel
theorem dX1_cover_7 : decode cX1_cover 7 = .ok (.if_icmp .gt 64, 3) := by decide +kernel
theorem dX1_cover_10 : decode cX1_cover 10 = .ok (.iload_n 1, 1) := by decide +kernel
theorem dX1_cover_11 : decode cX1_cover 11 = .ok (.istore 8, 2) := by decide +kernel
theorem dX1_cover_13 : decode cX1_cover 13 = .ok (.iload 8, 2) := by decide +kernel
theorem dX1_cover_15 : decode cX1_cover 15 = .ok (.iload_n 2, 1) := by decide +kernel
theorem dX1_cover_16 : decode cX1_cover 16 = .ok (.if_icmp .gt 49, 3) := by decide +kernel
theorem dX1_cover_19 : decode cX1_cover 19 = .ok (.iload 8, 2) := by decide +kernel
theorem dX1_cover_21 : decode cX1_cover 21 = .ok (.iload 7, 2) := by decide +kernel
theorem dX1_cover_23 : decode cX1_cover 23 = .ok (.invokestatic 32, 3) := by decide +kernel
theorem dX1_cover_26 : decode cX1_cover 26 = .ok (.ifCond .eq 33, 3) := by decide +kernel
theorem dX1_cover_29 : decode cX1_cover 29 = .ok (.aload_n 0, 1) := by decide +kernel
theorem dX1_cover_30 : decode cX1_cover 30 = .ok (.getfield 15, 3) := by decide +kernel
theorem dX1_cover_33 : decode cX1_cover 33 = .ok (.iload 7, 2) := by decide +kernel
theorem dX1_cover_35 : decode cX1_cover 35 = .ok (.bipush 24, 2) := by decide +kernel
theorem dX1_cover_37 : decode cX1_cover 37 = .ok (.imul, 1) := by decide +kernel
theorem dX1_cover_38 : decode cX1_cover 38 = .ok (.iload 8, 2) := by decide +kernel
theorem dX1_cover_40 : decode cX1_cover 40 = .ok (.iadd, 1) := by decide +kernel
theorem dX1_cover_41 : decode cX1_cover 41 = .ok (.iload 5, 2) := by decide +kernel
theorem dX1_cover_43 : decode cX1_cover 43 = .ok (.iastore, 1) := by decide +kernel
theorem dX1_cover_44 : decode cX1_cover 44 = .ok (.aload_n 0, 1) := by decide +kernel
theorem dX1_cover_45 : decode cX1_cover 45 = .ok (.getfield 18, 3) := by decide +kernel
theorem dX1_cover_48 : decode cX1_cover 48 = .ok (.iload 7, 2) := by decide +kernel
theorem dX1_cover_50 : decode cX1_cover 50 = .ok (.bipush 24, 2) := by decide +kernel
theorem dX1_cover_52 : decode cX1_cover 52 = .ok (.imul, 1) := by decide +kernel
theorem dX1_cover_53 : decode cX1_cover 53 = .ok (.iload 8, 2) := by decide +kernel
theorem dX1_cover_55 : decode cX1_cover 55 = .ok (.iadd, 1) := by decide +kernel
theorem dX1_cover_56 : decode cX1_cover 56 = .ok (.iload 6, 2) := by decide +kernel
theorem dX1_cover_58 : decode cX1_cover 58 = .ok (.bastore, 1) := by decide +kernel
theorem dX1_cover_59 : decode cX1_cover 59 = .ok (.iinc 8 1, 3) := by decide +kernel
theorem dX1_cover_62 : decode cX1_cover 62 = .ok (.goto (-49), 3) := by decide +kernel
theorem dX1_cover_65 : decode cX1_cover 65 = .ok (.iinc 7 1, 3) := by decide +kernel
theorem dX1_cover_68 : decode cX1_cover 68 = .ok (.goto (-65), 3) := by decide +kernel
theorem dX1_cover_71 : decode cX1_cover 71 = .ok (.aload_n 0, 1) := by decide +kernel
theorem dX1_cover_72 : decode cX1_cover 72 = .ok (.invokevirtual 29, 3) := by decide +kernel
theorem dX1_cover_75 : decode cX1_cover 75 = .ok (.return_, 1) := by decide +kernel
theorem dX1_limitSlope_0 : decode cX1_limitSlope 0 = .ok (.aload_n 0, 1) := by decide +kernel
theorem dX1_limitSlope_1 : decode cX1_limitSlope 1 = .ok (.iload_n 1, 1) := by decide +kernel
theorem dX1_limitSlope_2 : decode cX1_limitSlope 2 = .ok (.putfield 25, 3) := by decide +kernel
theorem dX1_limitSlope_5 : decode cX1_limitSlope 5 = .ok (.aload_n 0, 1) := by decide +kernel
theorem dX1_limitSlope_6 : decode cX1_limitSlope 6 = .ok (.invokevirtual 29, 3) := by decide +kernel
theorem dX1_limitSlope_9 : decode cX1_limitSlope 9 = .ok (.return_, 1) := by decide +kernel
theorem dX1_measureSteps_0 : decode cX1_measureSteps 0 = .ok (.iconst 0, 1) := by decide +kernel
theorem dX1_measureSteps_1 : decode cX1_measureSteps 1 = .ok (.istore_n 1, 1) := by decide +kernel
theorem dX1_measureSteps_2 : decode cX1_measureSteps 2 = .ok (.iload_n 1, 1) := by decide +kernel
theorem dX1_measureSteps_3 : decode cX1_measureSteps 3 = .ok (.sipush 576, 3) := by decide +kernel
theorem dX1_measureSteps_6 : decode cX1_measureSteps 6 = .ok (.if_icmp .ge 47, 3) := by decide +kernel
theorem dX1_measureSteps_9 : decode cX1_measureSteps 9 = .ok (.iconst 0, 1) := by decide +kernel
theorem dX1_measureSteps_10 : decode cX1_measureSteps 10 = .ok (.istore_n 2, 1) := by decide +kernel
theorem dX1_measureSteps_11 : decode cX1_measureSteps 11 = .ok (.iload_n 2, 1) := by decide +kernel
theorem dX1_measureSteps_12 : decode cX1_measureSteps 12 = .ok (.bipush 8, 2) := by decide +kernel
theorem dX1_measureSteps_14 : decode cX1_measureSteps 14 = .ok (.if_icmp .ge 33, 3) := by decide +kernel
theorem dX1_measureSteps_17 : decode cX1_measureSteps 17 = .ok (.aload_n 0, 1) := by decide +kernel
theorem dX1_measureSteps_18 : decode cX1_measureSteps 18 = .ok (.getfield 22, 3) := by decide +kernel
theorem dX1_measureSteps_21 : decode cX1_measureSteps 21 = .ok (.iload_n 1, 1) := by decide +kernel
theorem dX1_measureSteps_22 : decode cX1_measureSteps 22 = .ok (.bipush 8, 2) := by decide +kernel
theorem dX1_measureSteps_24 : decode cX1_measureSteps 24 = .ok (.imul, 1) := by decide +kernel
theorem dX1_measureSteps_25 : decode cX1_measureSteps 25 = .ok (.iload_n 2, 1) := by decide +kernel
theorem dX1_measureSteps_26 : decode cX1_measureSteps 26 = .ok (.iadd, 1) := by decide +kernel
theorem dX1_measureSteps_27 : decode cX1_measureSteps 27 = .ok (.aload_n 0, 1) := by decide +kernel
theorem dX1_measureSteps_28 : decode cX1_measureSteps 28 = .ok (.iload_n 1, 1) := by decide +kernel
theorem dX1_measureSteps_29 : decode cX1_measureSteps 29 = .ok (.bipush 24, 2) := by decide +kernel
theorem dX1_measureSteps_31 : decode cX1_measureSteps 31 = .ok (.irem, 1) := by decide +kernel
theorem dX1_measureSteps_32 : decode cX1_measureSteps 32 = .ok (.iload_n 1, 1) := by decide +kernel
theorem dX1_measureSteps_33 : decode cX1_measureSteps 33 = .ok (.bipush 24, 2) := by decide +kernel
theorem dX1_measureSteps_35 : decode cX1_measureSteps 35 = .ok (.idiv, 1) := by decide +kernel
theorem dX1_measureSteps_36 : decode cX1_measureSteps 36 = .ok (.iload_n 2, 1) := by decide +kernel
theorem dX1_measureSteps_37 : decode cX1_measureSteps 37 = .ok (.invokevirtual 60, 3) := by decide +kernel
theorem dX1_measureSteps_40 : decode cX1_measureSteps 40 = .ok (.iastore, 1) := by decide +kernel
theorem dX1_measureSteps_41 : decode cX1_measureSteps 41 = .ok (.iinc 2 1, 3) := by decide +kernel
theorem dX1_measureSteps_44 : decode cX1_measureSteps 44 = .ok (.goto (-33), 3) := by decide +kernel
theorem dX1_measureSteps_47 : decode cX1_measureSteps 47 = .ok (.iinc 1 1, 3) := by decide +kernel
theorem dX1_measureSteps_50 : decode cX1_measureSteps 50 = .ok (.goto (-48), 3) := by decide +kernel
theorem dX1_measureSteps_53 : decode cX1_measureSteps 53 = .ok (.return_, 1) := by decide +kernel
theorem dX1_measureStep_0 : decode cX1_measureStep 0 = .ok (.iload_n 1, 1) := by decide +kernel
theorem dX1_measureStep_1 : decode cX1_measureStep 1 = .ok (.getstatic 36, 3) := by decide +kernel
theorem dX1_measureStep_4 : decode cX1_measureStep 4 = .ok (.iload_n 3, 1) := by decide +kernel
theorem dX1_measureStep_5 : decode cX1_measureStep 5 = .ok (.iaload, 1) := by decide +kernel
theorem dX1_measureStep_6 : decode cX1_measureStep 6 = .ok (.iadd, 1) := by decide +kernel
theorem dX1_measureStep_7 : decode cX1_measureStep 7 = .ok (.istore 4, 2) := by decide +kernel
theorem dX1_measureStep_9 : decode cX1_measureStep 9 = .ok (.iload_n 2, 1) := by decide +kernel
theorem dX1_measureStep_10 : decode cX1_measureStep 10 = .ok (.getstatic 39, 3) := by decide +kernel
theorem dX1_measureStep_13 : decode cX1_measureStep 13 = .ok (.iload_n 3, 1) := by decide +kernel
theorem dX1_measureStep_14 : decode cX1_measureStep 14 = .ok (.iaload, 1) := by decide +kernel
theorem dX1_measureStep_15 : decode cX1_measureStep 15 = .ok (.iadd, 1) := by decide +kernel
theorem dX1_measureStep_16 : decode cX1_measureStep 16 = .ok (.istore 5, 2) := by decide +kernel
theorem dX1_measureStep_18 : decode cX1_measureStep 18 = .ok (.iload 4, 2) := by decide +kernel
theorem dX1_measureStep_20 : decode cX1_measureStep 20 = .ok (.iload 5, 2) := by decide +kernel
theorem dX1_measureStep_22 : decode cX1_measureStep 22 = .ok (.invokestatic 32, 3) := by decide +kernel
theorem dX1_measureStep_25 : decode cX1_measureStep 25 = .ok (.ifCond .eq 14, 3) := by decide +kernel
theorem dX1_measureStep_28 : decode cX1_measureStep 28 = .ok (.aload_n 0, 1) := by decide +kernel
theorem dX1_measureStep_29 : decode cX1_measureStep 29 = .ok (.iload 4, 2) := by decide +kernel
theorem dX1_measureStep_31 : decode cX1_measureStep 31 = .ok (.iload 5, 2) := by decide +kernel
theorem dX1_measureStep_33 : decode cX1_measureStep 33 = .ok (.invokevirtual 64, 3) := by decide +kernel
theorem dX1_measureStep_36 : decode cX1_measureStep 36 = .ok (.ifCond .eq 5, 3) := by decide +kernel
theorem dX1_measureStep_39 : decode cX1_measureStep 39 = .ok (.iconst (-1), 1) := by decide +kernel
theorem dX1_measureStep_40 : decode cX1_measureStep 40 = .ok (.ireturn, 1) := by decide +kernel
theorem dX1_measureStep_41 : decode cX1_measureStep 41 = .ok (.aload_n 0, 1) := by decide +kernel
theorem dX1_measureStep_42 : decode cX1_measureStep 42 = .ok (.iload 4, 2) := by decide +kernel
theorem dX1_measureStep_44 : decode cX1_measureStep 44 = .ok (.iload 5, 2) := by decide +kernel
theorem dX1_measureStep_46 : decode cX1_measureStep 46 = .ok (.invokevirtual 57, 3) := by decide +kernel
theorem dX1_measureStep_49 : decode cX1_measureStep 49 = .ok (.aload_n 0, 1) := by decide +kernel
theorem dX1_measureStep_50 : decode cX1_measureStep 50 = .ok (.iload_n 1, 1) := by decide +kernel
theorem dX1_measureStep_51 : decode cX1_measureStep 51 = .ok (.iload_n 2, 1) := by decide +kernel
theorem dX1_measureStep_52 : decode cX1_measureStep 52 = .ok (.invokevirtual 57, 3) := by decide +kernel
theorem dX1_measureStep_55 : decode cX1_measureStep 55 = .ok (.isub, 1) := by decide +kernel
theorem dX1_measureStep_56 : decode cX1_measureStep 56 = .ok (.istore 6, 2) := by decide +kernel
theorem dX1_measureStep_58 : decode cX1_measureStep 58 = .ok (.iload 6, 2) := by decide +kernel
theorem dX1_measureStep_60 : decode cX1_measureStep 60 = .ok (.invokestatic 42, 3) := by decide +kernel
theorem dX1_measureStep_63 : decode cX1_measureStep 63 = .ok (.aload_n 0, 1) := by decide +kernel
theorem dX1_measureStep_64 : decode cX1_measureStep 64 = .ok (.getfield 25, 3) := by decide +kernel
theorem dX1_measureStep_67 : decode cX1_measureStep 67 = .ok (.if_icmp .le 5, 3) := by decide +kernel
theorem dX1_measureStep_70 : decode cX1_measureStep 70 = .ok (.iconst (-1), 1) := by decide +kernel
theorem dX1_measureStep_71 : decode cX1_measureStep 71 = .ok (.ireturn, 1) := by decide +kernel
theorem dX1_measureStep_72 : decode cX1_measureStep 72 = .ok (.iload 4, 2) := by decide +kernel
theorem dX1_measureStep_74 : decode cX1_measureStep 74 = .ok (.iload_n 1, 1) := by decide +kernel
theorem dX1_measureStep_75 : decode cX1_measureStep 75 = .ok (.if_icmp .eq 13, 3) := by decide +kernel
theorem dX1_measureStep_78 : decode cX1_measureStep 78 = .ok (.iload 5, 2) := by decide +kernel
theorem dX1_measureStep_80 : decode cX1_measureStep 80 = .ok (.iload_n 2, 1) := by decide +kernel
theorem dX1_measureStep_81 : decode cX1_measureStep 81 = .ok (.if_icmp .eq 7, 3) := by decide +kernel
theorem dX1_measureStep_84 : decode cX1_measureStep 84 = .ok (.iconst 1, 1) := by decide +kernel
theorem dX1_measureStep_85 : decode cX1_measureStep 85 = .ok (.goto 4, 3) := by decide +kernel
theorem dX1_measureStep_88 : decode cX1_measureStep 88 = .ok (.iconst 0, 1) := by decide +kernel
theorem dX1_measureStep_89 : decode cX1_measureStep 89 = .ok (.istore 7, 2) := by decide +kernel
theorem dX1_measureStep_91 : decode cX1_measureStep 91 = .ok (.iload 7, 2) := by decide +kernel
theorem dX1_measureStep_93 : decode cX1_measureStep 93 = .ok (.ifCond .eq 25, 3) := by decide +kernel
theorem dX1_measureStep_96 : decode cX1_measureStep 96 = .ok (.aload_n 0, 1) := by decide +kernel
theorem dX1_measureStep_97 : decode cX1_measureStep 97 = .ok (.iload 4, 2) := by decide +kernel
theorem dX1_measureStep_99 : decode cX1_measureStep 99 = .ok (.iload_n 2, 1) := by decide +kernel
theorem dX1_measureStep_100 : decode cX1_measureStep 100 = .ok (.invokevirtual 64, 3) := by decide +kernel
theorem dX1_measureStep_103 : decode cX1_measureStep 103 = .ok (.ifCond .ne 13, 3) := by decide +kernel
theorem dX1_measureStep_106 : decode cX1_measureStep 106 = .ok (.aload_n 0, 1) := by decide +kernel
theorem dX1_measureStep_107 : decode cX1_measureStep 107 = .ok (.iload_n 1, 1) := by decide +kernel
theorem dX1_measureStep_108 : decode cX1_measureStep 108 = .ok (.iload 5, 2) := by decide +kernel
theorem dX1_measureStep_110 : decode cX1_measureStep 110 = .ok (.invokevirtual 64, 3) := by decide +kernel
theorem dX1_measureStep_113 : decode cX1_measureStep 113 = .ok (.ifCond .eq 5, 3) := by decide +kernel
theorem dX1_measureStep_116 : decode cX1_measureStep 116 = .ok (.iconst (-1), 1) := by decide +kernel
theorem dX1_measureStep_117 : decode cX1_measureStep 117 = .ok (.ireturn, 1) := by decide +kernel
theorem dX1_measureStep_118 : decode cX1_measureStep 118 = .ok (.iload 7, 2) := by decide +kernel
theorem dX1_measureStep_120 : decode cX1_measureStep 120 = .ok (.ifCond .eq 7, 3) := by decide +kernel
theorem dX1_measureStep_123 : decode cX1_measureStep 123 = .ok (.iconst 3, 1) := by decide +kernel
theorem dX1_measureStep_124 : decode cX1_measureStep 124 = .ok (.goto 4, 3) := by decide +kernel
theorem dX1_measureStep_127 : decode cX1_measureStep 127 = .ok (.iconst 2, 1) := by decide +kernel
theorem dX1_measureStep_128 : decode cX1_measureStep 128 = .ok (.iconst 2, 1) := by decide +kernel
theorem dX1_measureStep_129 : decode cX1_measureStep 129 = .ok (.aload_n 0, 1) := by decide +kernel
theorem dX1_measureStep_130 : decode cX1_measureStep 130 = .ok (.iload 4, 2) := by decide +kernel
theorem dX1_measureStep_132 : decode cX1_measureStep 132 = .ok (.iload 5, 2) := by decide +kernel
theorem dX1_measureStep_134 : decode cX1_measureStep 134 = .ok (.invokevirtual 67, 3) := by decide +kernel
theorem dX1_measureStep_137 : decode cX1_measureStep 137 = .ok (.iadd, 1) := by decide +kernel
theorem dX1_measureStep_138 : decode cX1_measureStep 138 = .ok (.imul, 1) := by decide +kernel
theorem dX1_measureStep_139 : decode cX1_measureStep 139 = .ok (.iconst 0, 1) := by decide +kernel
theorem dX1_measureStep_140 : decode cX1_measureStep 140 = .ok (.iload 6, 2) := by decide +kernel
theorem dX1_measureStep_142 : decode cX1_measureStep 142 = .ok (.invokestatic 48, 3) := by decide +kernel
theorem dX1_measureStep_145 : decode cX1_measureStep 145 = .ok (.iconst 3, 1) := by decide +kernel
theorem dX1_measureStep_146 : decode cX1_measureStep 146 = .ok (.idiv, 1) := by decide +kernel
theorem dX1_measureStep_147 : decode cX1_measureStep 147 = .ok (.iadd, 1) := by decide +kernel
theorem dX1_measureStep_148 : decode cX1_measureStep 148 = .ok (.ireturn, 1) := by decide +kernel
theorem dX1_minutesOf_0 : decode cX1_minutesOf 0 = .ok (.iload_n 1, 1) := by decide +kernel
theorem dX1_minutesOf_1 : decode cX1_minutesOf 1 = .ok (.ifCond .lt 20, 3) := by decide +kernel
theorem dX1_minutesOf_4 : decode cX1_minutesOf 4 = .ok (.iload_n 1, 1) := by decide +kernel
theorem dX1_minutesOf_5 : decode cX1_minutesOf 5 = .ok (.sipush 576, 3) := by decide +kernel
theorem dX1_minutesOf_8 : decode cX1_minutesOf 8 = .ok (.if_icmp .ge 13, 3) := by decide +kernel
theorem dX1_minutesOf_11 : decode cX1_minutesOf 11 = .ok (.iload_n 2, 1) := by decide +kernel
theorem dX1_minutesOf_12 : decode cX1_minutesOf 12 = .ok (.ifCond .lt 9, 3) := by decide +kernel
theorem dX1_minutesOf_15 : decode cX1_minutesOf 15 = .ok (.iload_n 2, 1) := by decide +kernel
theorem dX1_minutesOf_16 : decode cX1_minutesOf 16 = .ok (.bipush 8, 2) := by decide +kernel
theorem dX1_minutesOf_18 : decode cX1_minutesOf 18 = .ok (.if_icmp .lt 5, 3) := by decide +kernel
theorem dX1_minutesOf_21 : decode cX1_minutesOf 21 = .ok (.iconst (-1), 1) := by decide +kernel
theorem dX1_minutesOf_22 : decode cX1_minutesOf 22 = .ok (.ireturn, 1) := by decide +kernel
theorem dX1_minutesOf_23 : decode cX1_minutesOf 23 = .ok (.aload_n 0, 1) := by decide +kernel
theorem dX1_minutesOf_24 : decode cX1_minutesOf 24 = .ok (.getfield 22, 3) := by decide +kernel
theorem dX1_minutesOf_27 : decode cX1_minutesOf 27 = .ok (.iload_n 1, 1) := by decide +kernel
theorem dX1_minutesOf_28 : decode cX1_minutesOf 28 = .ok (.bipush 8, 2) := by decide +kernel
theorem dX1_minutesOf_30 : decode cX1_minutesOf 30 = .ok (.imul, 1) := by decide +kernel
theorem dX1_minutesOf_31 : decode cX1_minutesOf 31 = .ok (.iload_n 2, 1) := by decide +kernel
theorem dX1_minutesOf_32 : decode cX1_minutesOf 32 = .ok (.iadd, 1) := by decide +kernel
theorem dX1_minutesOf_33 : decode cX1_minutesOf 33 = .ok (.iaload, 1) := by decide +kernel
theorem dX1_minutesOf_34 : decode cX1_minutesOf 34 = .ok (.ireturn, 1) := by decide +kernel
theorem dX1_energyOf_0 : decode cX1_energyOf 0 = .ok (.aload_n 0, 1) := by decide +kernel
theorem dX1_energyOf_1 : decode cX1_energyOf 1 = .ok (.iload_n 1, 1) := by decide +kernel
theorem dX1_energyOf_2 : decode cX1_energyOf 2 = .ok (.iload_n 2, 1) := by decide +kernel
theorem dX1_energyOf_3 : decode cX1_energyOf 3 = .ok (.invokevirtual 70, 3) := by decide +kernel
theorem dX1_energyOf_6 : decode cX1_energyOf 6 = .ok (.istore_n 3, 1) := by decide +kernel
theorem dX1_energyOf_7 : decode cX1_energyOf 7 = .ok (.iload_n 3, 1) := by decide +kernel
theorem dX1_energyOf_8 : decode cX1_energyOf 8 = .ok (.iconst (-1), 1) := by decide +kernel
theorem dX1_energyOf_9 : decode cX1_energyOf 9 = .ok (.if_icmp .ne 5, 3) := by decide +kernel
theorem dX1_energyOf_12 : decode cX1_energyOf 12 = .ok (.iconst 0, 1) := by decide +kernel
theorem dX1_energyOf_13 : decode cX1_energyOf 13 = .ok (.ireturn, 1) := by decide +kernel
theorem dX1_energyOf_14 : decode cX1_energyOf 14 = .ok (.iload_n 1, 1) := by decide +kernel
theorem dX1_energyOf_15 : decode cX1_energyOf 15 = .ok (.getstatic 39, 3) := by decide +kernel
theorem dX1_energyOf_18 : decode cX1_energyOf 18 = .ok (.iload_n 2, 1) := by decide +kernel
theorem dX1_energyOf_19 : decode cX1_energyOf 19 = .ok (.iaload, 1) := by decide +kernel
theorem dX1_energyOf_20 : decode cX1_energyOf 20 = .ok (.bipush 24, 2) := by decide +kernel
theorem dX1_energyOf_22 : decode cX1_energyOf 22 = .ok (.imul, 1) := by decide +kernel
theorem dX1_energyOf_23 : decode cX1_energyOf 23 = .ok (.iadd, 1) := by decide +kernel
theorem dX1_energyOf_24 : decode cX1_energyOf 24 = .ok (.getstatic 36, 3) := by decide +kernel
theorem dX1_energyOf_27 : decode cX1_energyOf 27 = .ok (.iload_n 2, 1) := by decide +kernel
theorem dX1_energyOf_28 : decode cX1_energyOf 28 = .ok (.iaload, 1) := by decide +kernel
theorem dX1_energyOf_29 : decode cX1_energyOf 29 = .ok (.iadd, 1) := by decide +kernel
theorem dX1_energyOf_30 : decode cX1_energyOf 30 = .ok (.istore 4, 2) := by decide +kernel
theorem dX1_energyOf_32 : decode cX1_energyOf 32 = .ok (.iload 4, 2) := by decide +kernel
theorem dX1_energyOf_34 : decode cX1_energyOf 34 = .ok (.ifCond .lt 11, 3) := by decide +kernel
theorem dX1_energyOf_37 : decode cX1_energyOf 37 = .ok (.iload 4, 2) := by decide +kernel
theorem dX1_energyOf_39 : decode cX1_energyOf 39 = .ok (.sipush 576, 3) := by decide +kernel
theorem dX1_energyOf_42 : decode cX1_energyOf 42 = .ok (.if_icmp .lt 7, 3) := by decide +kernel
theorem dX1_energyOf_45 : decode cX1_energyOf 45 = .ok (.iconst 0, 1) := by decide +kernel
theorem dX1_energyOf_46 : decode cX1_energyOf 46 = .ok (.goto 17, 3) := by decide +kernel
theorem dX1_energyOf_49 : decode cX1_energyOf 49 = .ok (.aload_n 0, 1) := by decide +kernel
theorem dX1_energyOf_50 : decode cX1_energyOf 50 = .ok (.getfield 9, 3) := by decide +kernel
theorem dX1_energyOf_53 : decode cX1_energyOf 53 = .ok (.iload 4, 2) := by decide +kernel
theorem dX1_energyOf_55 : decode cX1_energyOf 55 = .ok (.iaload, 1) := by decide +kernel
theorem dX1_energyOf_56 : decode cX1_energyOf 56 = .ok (.aload_n 0, 1) := by decide +kernel
theorem dX1_energyOf_57 : decode cX1_energyOf 57 = .ok (.getfield 9, 3) := by decide +kernel
theorem dX1_energyOf_60 : decode cX1_energyOf 60 = .ok (.iload_n 1, 1) := by decide +kernel
theorem dX1_energyOf_61 : decode cX1_energyOf 61 = .ok (.iaload, 1) := by decide +kernel
theorem dX1_energyOf_62 : decode cX1_energyOf 62 = .ok (.isub, 1) := by decide +kernel
theorem dX1_energyOf_63 : decode cX1_energyOf 63 = .ok (.istore 5, 2) := by decide +kernel
theorem dX1_energyOf_65 : decode cX1_energyOf 65 = .ok (.iconst 4, 1) := by decide +kernel
theorem dX1_energyOf_66 : decode cX1_energyOf 66 = .ok (.iload_n 3, 1) := by decide +kernel
theorem dX1_energyOf_67 : decode cX1_energyOf 67 = .ok (.imul, 1) := by decide +kernel
theorem dX1_energyOf_68 : decode cX1_energyOf 68 = .ok (.iconst 2, 1) := by decide +kernel
theorem dX1_energyOf_69 : decode cX1_energyOf 69 = .ok (.iconst 0, 1) := by decide +kernel
theorem dX1_energyOf_70 : decode cX1_energyOf 70 = .ok (.iload 5, 2) := by decide +kernel
theorem dX1_energyOf_72 : decode cX1_energyOf 72 = .ok (.invokestatic 48, 3) := by decide +kernel
theorem dX1_energyOf_75 : decode cX1_energyOf 75 = .ok (.imul, 1) := by decide +kernel
theorem dX1_energyOf_76 : decode cX1_energyOf 76 = .ok (.iadd, 1) := by decide +kernel
theorem dX1_energyOf_77 : decode cX1_energyOf 77 = .ok (.ireturn, 1) := by decide +kernel
theorem dX1_isSeen_0 : decode cX1_isSeen 0 = .ok (.iload_n 1, 1) := by decide +kernel
theorem dX1_isSeen_1 : decode cX1_isSeen 1 = .ok (.iload_n 2, 1) := by decide +kernel
theorem dX1_isSeen_2 : decode cX1_isSeen 2 = .ok (.iload_n 3, 1) := by decide +kernel
theorem dX1_isSeen_3 : decode cX1_isSeen 3 = .ok (.iload 4, 2) := by decide +kernel
theorem dX1_isSeen_5 : decode cX1_isSeen 5 = .ok (.invokestatic 73, 3) := by decide +kernel
theorem dX1_isSeen_8 : decode cX1_isSeen 8 = .ok (.istore 5, 2) := by decide +kernel
theorem dX1_isSeen_10 : decode cX1_isSeen 10 = .ok (.aload_n 0, 1) := by decide +kernel
theorem dX1_isSeen_11 : decode cX1_isSeen 11 = .ok (.iload_n 1, 1) := by decide +kernel
theorem dX1_isSeen_12 : decode cX1_isSeen 12 = .ok (.iload_n 2, 1) := by decide +kernel
theorem dX1_isSeen_13 : decode cX1_isSeen 13 = .ok (.invokevirtual 57, 3) := by decide +kernel
theorem dX1_isSeen_16 : decode cX1_isSeen 16 = .ok (.iconst 3, 1) := by decide +kernel
theorem dX1_isSeen_17 : decode cX1_isSeen 17 = .ok (.iadd, 1) := by decide +kernel
theorem dX1_isSeen_18 : decode cX1_isSeen 18 = .ok (.istore 6, 2) := by decide +kernel
theorem dX1_isSeen_20 : decode cX1_isSeen 20 = .ok (.aload_n 0, 1) := by decide +kernel
theorem dX1_isSeen_21 : decode cX1_isSeen 21 = .ok (.iload_n 3, 1) := by decide +kernel
theorem dX1_isSeen_22 : decode cX1_isSeen 22 = .ok (.iload 4, 2) := by decide +kernel
theorem dX1_isSeen_24 : decode cX1_isSeen 24 = .ok (.invokevirtual 57, 3) := by decide +kernel
theorem dX1_isSeen_27 : decode cX1_isSeen 27 = .ok (.iload 6, 2) := by decide +kernel
theorem dX1_isSeen_29 : decode cX1_isSeen 29 = .ok (.isub, 1) := by decide +kernel
theorem dX1_isSeen_30 : decode cX1_isSeen 30 = .ok (.istore 7, 2) := by decide +kernel
theorem dX1_isSeen_32 : decode cX1_isSeen 32 = .ok (.iconst 1, 1) := by decide +kernel
theorem dX1_isSeen_33 : decode cX1_isSeen 33 = .ok (.istore 8, 2) := by decide +kernel
theorem dX1_isSeen_35 : decode cX1_isSeen 35 = .ok (.iload 8, 2) := by decide +kernel
theorem dX1_isSeen_37 : decode cX1_isSeen 37 = .ok (.iload 5, 2) := by decide +kernel
theorem dX1_isSeen_39 : decode cX1_isSeen 39 = .ok (.if_icmp .ge 78, 3) := by decide +kernel
theorem dX1_isSeen_42 : decode cX1_isSeen 42 = .ok (.iload_n 1, 1) := by decide +kernel
theorem dX1_isSeen_43 : decode cX1_isSeen 43 = .ok (.iconst 2, 1) := by decide +kernel
theorem dX1_isSeen_44 : decode cX1_isSeen 44 = .ok (.iload 8, 2) := by decide +kernel
theorem dX1_isSeen_46 : decode cX1_isSeen 46 = .ok (.imul, 1) := by decide +kernel
theorem dX1_isSeen_47 : decode cX1_isSeen 47 = .ok (.iload_n 3, 1) := by decide +kernel
theorem dX1_isSeen_48 : decode cX1_isSeen 48 = .ok (.iload_n 1, 1) := by decide +kernel
theorem dX1_isSeen_49 : decode cX1_isSeen 49 = .ok (.isub, 1) := by decide +kernel
theorem dX1_isSeen_50 : decode cX1_isSeen 50 = .ok (.imul, 1) := by decide +kernel
theorem dX1_isSeen_51 : decode cX1_isSeen 51 = .ok (.iload 5, 2) := by decide +kernel
theorem dX1_isSeen_53 : decode cX1_isSeen 53 = .ok (.iadd, 1) := by decide +kernel
theorem dX1_isSeen_54 : decode cX1_isSeen 54 = .ok (.iconst 2, 1) := by decide +kernel
theorem dX1_isSeen_55 : decode cX1_isSeen 55 = .ok (.iload 5, 2) := by decide +kernel
theorem dX1_isSeen_57 : decode cX1_isSeen 57 = .ok (.imul, 1) := by decide +kernel
theorem dX1_isSeen_58 : decode cX1_isSeen 58 = .ok (.invokestatic 77, 3) := by decide +kernel
theorem dX1_isSeen_61 : decode cX1_isSeen 61 = .ok (.iadd, 1) := by decide +kernel
theorem dX1_isSeen_62 : decode cX1_isSeen 62 = .ok (.istore 9, 2) := by decide +kernel
theorem dX1_isSeen_64 : decode cX1_isSeen 64 = .ok (.iload_n 2, 1) := by decide +kernel
theorem dX1_isSeen_65 : decode cX1_isSeen 65 = .ok (.iconst 2, 1) := by decide +kernel
theorem dX1_isSeen_66 : decode cX1_isSeen 66 = .ok (.iload 8, 2) := by decide +kernel
theorem dX1_isSeen_68 : decode cX1_isSeen 68 = .ok (.imul, 1) := by decide +kernel
theorem dX1_isSeen_69 : decode cX1_isSeen 69 = .ok (.iload 4, 2) := by decide +kernel
theorem dX1_isSeen_71 : decode cX1_isSeen 71 = .ok (.iload_n 2, 1) := by decide +kernel
theorem dX1_isSeen_72 : decode cX1_isSeen 72 = .ok (.isub, 1) := by decide +kernel
theorem dX1_isSeen_73 : decode cX1_isSeen 73 = .ok (.imul, 1) := by decide +kernel
theorem dX1_isSeen_74 : decode cX1_isSeen 74 = .ok (.iload 5, 2) := by decide +kernel
theorem dX1_isSeen_76 : decode cX1_isSeen 76 = .ok (.iadd, 1) := by decide +kernel
theorem dX1_isSeen_77 : decode cX1_isSeen 77 = .ok (.iconst 2, 1) := by decide +kernel
theorem dX1_isSeen_78 : decode cX1_isSeen 78 = .ok (.iload 5, 2) := by decide +kernel
theorem dX1_isSeen_80 : decode cX1_isSeen 80 = .ok (.imul, 1) := by decide +kernel
theorem dX1_isSeen_81 : decode cX1_isSeen 81 = .ok (.invokestatic 77, 3) := by decide +kernel
theorem dX1_isSeen_84 : decode cX1_isSeen 84 = .ok (.iadd, 1) := by decide +kernel
theorem dX1_isSeen_85 : decode cX1_isSeen 85 = .ok (.istore 10, 2) := by decide +kernel
theorem dX1_isSeen_87 : decode cX1_isSeen 87 = .ok (.aload_n 0, 1) := by decide +kernel
theorem dX1_isSeen_88 : decode cX1_isSeen 88 = .ok (.iload 9, 2) := by decide +kernel
theorem dX1_isSeen_90 : decode cX1_isSeen 90 = .ok (.iload 10, 2) := by decide +kernel
theorem dX1_isSeen_92 : decode cX1_isSeen 92 = .ok (.invokevirtual 57, 3) := by decide +kernel
theorem dX1_isSeen_95 : decode cX1_isSeen 95 = .ok (.iload 6, 2) := by decide +kernel
theorem dX1_isSeen_97 : decode cX1_isSeen 97 = .ok (.iload 7, 2) := by decide +kernel
theorem dX1_isSeen_99 : decode cX1_isSeen 99 = .ok (.iload 8, 2) := by decide +kernel
theorem dX1_isSeen_101 : decode cX1_isSeen 101 = .ok (.imul, 1) := by decide +kernel
theorem dX1_isSeen_102 : decode cX1_isSeen 102 = .ok (.iload 5, 2) := by decide +kernel
theorem dX1_isSeen_104 : decode cX1_isSeen 104 = .ok (.idiv, 1) := by decide +kernel
theorem dX1_isSeen_105 : decode cX1_isSeen 105 = .ok (.iadd, 1) := by decide +kernel
theorem dX1_isSeen_106 : decode cX1_isSeen 106 = .ok (.if_icmp .le 5, 3) := by decide +kernel
theorem dX1_isSeen_109 : decode cX1_isSeen 109 = .ok (.iconst 0, 1) := by decide +kernel
theorem dX1_isSeen_110 : decode cX1_isSeen 110 = .ok (.ireturn, 1) := by decide +kernel
theorem dX1_isSeen_111 : decode cX1_isSeen 111 = .ok (.iinc 8 1, 3) := by decide +kernel
theorem dX1_isSeen_114 : decode cX1_isSeen 114 = .ok (.goto (-79), 3) := by decide +kernel
theorem dX1_isSeen_117 : decode cX1_isSeen 117 = .ok (.iconst 1, 1) := by decide +kernel
theorem dX1_isSeen_118 : decode cX1_isSeen 118 = .ok (.ireturn, 1) := by decide +kernel
theorem dX2_init_0 : decode cX2_init 0 = .ok (.aload_n 0, 1) := by decide +kernel
theorem dX2_init_1 : decode cX2_init 1 = .ok (.invokespecial 3, 3) := by decide +kernel
theorem dX2_init_4 : decode cX2_init 4 = .ok (.aload_n 0, 1) := by decide +kernel
theorem dX2_init_5 : decode cX2_init 5 = .ok (.new 9, 3) := by decide +kernel
theorem dX2_init_8 : decode cX2_init 8 = .ok (.dup, 1) := by decide +kernel
theorem dX2_init_9 : decode cX2_init 9 = .ok (.invokespecial 11, 3) := by decide +kernel
theorem dX2_init_12 : decode cX2_init 12 = .ok (.putfield 12, 3) := by decide +kernel
theorem dX2_init_15 : decode cX2_init 15 = .ok (.aload_n 0, 1) := by decide +kernel
theorem dX2_init_16 : decode cX2_init 16 = .ok (.aload_n 1, 1) := by decide +kernel
theorem dX2_init_17 : decode cX2_init 17 = .ok (.putfield 18, 3) := by decide +kernel
theorem dX2_init_20 : decode cX2_init 20 = .ok (.aload_n 0, 1) := by decide +kernel
theorem dX2_init_21 : decode cX2_init 21 = .ok (.aload_n 2, 1) := by decide +kernel
theorem dX2_init_22 : decode cX2_init 22 = .ok (.putfield 22, 3) := by decide +kernel
theorem dX2_init_25 : decode cX2_init 25 = .ok (.aload_n 0, 1) := by decide +kernel
theorem dX2_init_26 : decode cX2_init 26 = .ok (.aload_n 3, 1) := by decide +kernel
theorem dX2_init_27 : decode cX2_init 27 = .ok (.putfield 26, 3) := by decide +kernel
theorem dX2_init_30 : decode cX2_init 30 = .ok (.aload_n 0, 1) := by decide +kernel
theorem dX2_init_31 : decode cX2_init 31 = .ok (.aload 4, 2) := by decide +kernel
theorem dX2_init_33 : decode cX2_init 33 = .ok (.putfield 30, 3) := by decide +kernel
theorem dX2_init_36 : decode cX2_init 36 = .ok (.return_, 1) := by decide +kernel
theorem dX2_extend_0 : decode cX2_extend 0 = .ok (.aload_n 1, 1) := by decide +kernel
theorem dX2_extend_1 : decode cX2_extend 1 = .ok (.getfield 34, 3) := by decide +kernel
theorem dX2_extend_4 : decode cX2_extend 4 = .ok (.istore 4, 2) := by decide +kernel
theorem dX2_extend_6 : decode cX2_extend 6 = .ok (.aload_n 2, 1) := by decide +kernel
theorem dX2_extend_7 : decode cX2_extend 7 = .ok (.getfield 40, 3) := by decide +kernel
theorem dX2_extend_10 : decode cX2_extend 10 = .ok (.iload_n 3, 1) := by decide +kernel
theorem dX2_extend_11 : decode cX2_extend 11 = .ok (.iadd, 1) := by decide +kernel
theorem dX2_extend_12 : decode cX2_extend 12 = .ok (.istore 5, 2) := by decide +kernel
theorem dX2_extend_14 : decode cX2_extend 14 = .ok (.iconst 0, 1) := by decide +kernel
theorem dX2_extend_15 : decode cX2_extend 15 = .ok (.istore 6, 2) := by decide +kernel
theorem dX2_extend_17 : decode cX2_extend 17 = .ok (.iconst 0, 1) := by decide +kernel
theorem dX2_extend_18 : decode cX2_extend 18 = .ok (.istore 7, 2) := by decide +kernel
theorem dX2_extend_20 : decode cX2_extend 20 = .ok (.iload 7, 2) := by decide +kernel
theorem dX2_extend_22 : decode cX2_extend 22 = .ok (.bipush 52, 2) := by decide +kernel
theorem dX2_extend_24 : decode cX2_extend 24 = .ok (.if_icmp .ge 86, 3) := by decide +kernel
theorem dX2_extend_27 : decode cX2_extend 27 = .ok (.aload_n 1, 1) := by decide +kernel
theorem dX2_extend_28 : decode cX2_extend 28 = .ok (.iconst 2, 1) := by decide +kernel
theorem dX2_extend_29 : decode cX2_extend 29 = .ok (.invokevirtual 43, 3) := by decide +kernel
theorem dX2_extend_32 : decode cX2_extend 32 = .ok (.ifCond .eq 78, 3) := by decide +kernel
theorem dX2_extend_35 : decode cX2_extend 35 = .ok (.aload_n 0, 1) := by decide +kernel
theorem dX2_extend_36 : decode cX2_extend 36 = .ok (.getfield 22, 3) := by decide +kernel
theorem dX2_extend_39 : decode cX2_extend 39 = .ok (.aload_n 2, 1) := by decide +kernel
theorem dX2_extend_40 : decode cX2_extend 40 = .ok (.getfield 47, 3) := by decide +kernel
theorem dX2_extend_43 : decode cX2_extend 43 = .ok (.aload_n 2, 1) := by decide +kernel
theorem dX2_extend_44 : decode cX2_extend 44 = .ok (.getfield 50, 3) := by decide +kernel
theorem dX2_extend_47 : decode cX2_extend 47 = .ok (.invokestatic 53, 3) := by decide +kernel
theorem dX2_extend_50 : decode cX2_extend 50 = .ok (.invokevirtual 59, 3) := by decide +kernel
theorem dX2_extend_53 : decode cX2_extend 53 = .ok (.aload_n 0, 1) := by decide +kernel
theorem dX2_extend_54 : decode cX2_extend 54 = .ok (.aload_n 2, 1) := by decide +kernel
theorem dX2_extend_55 : decode cX2_extend 55 = .ok (.iload 6, 2) := by decide +kernel
theorem dX2_extend_57 : decode cX2_extend 57 = .ok (.invokevirtual 65, 3) := by decide +kernel
theorem dX2_extend_60 : decode cX2_extend 60 = .ok (.istore 8, 2) := by decide +kernel
theorem dX2_extend_62 : decode cX2_extend 62 = .ok (.aload_n 0, 1) := by decide +kernel
theorem dX2_extend_63 : decode cX2_extend 63 = .ok (.aload_n 2, 1) := by decide +kernel
theorem dX2_extend_64 : decode cX2_extend 64 = .ok (.iload 8, 2) := by decide +kernel
theorem dX2_extend_66 : decode cX2_extend 66 = .ok (.invokevirtual 69, 3) := by decide +kernel
theorem dX2_extend_69 : decode cX2_extend 69 = .ok (.istore 9, 2) := by decide +kernel
theorem dX2_extend_71 : decode cX2_extend 71 = .ok (.iload 9, 2) := by decide +kernel
theorem dX2_extend_73 : decode cX2_extend 73 = .ok (.iconst (-1), 1) := by decide +kernel
theorem dX2_extend_74 : decode cX2_extend 74 = .ok (.if_icmp .ne 6, 3) := by decide +kernel
theorem dX2_extend_77 : decode cX2_extend 77 = .ok (.goto 33, 3) := by decide +kernel
theorem dX2_extend_80 : decode cX2_extend 80 = .ok (.aload_n 0, 1) := by decide +kernel
theorem dX2_extend_81 : decode cX2_extend 81 = .ok (.aload_n 1, 1) := by decide +kernel
theorem dX2_extend_82 : decode cX2_extend 82 = .ok (.aload_n 2, 1) := by decide +kernel
theorem dX2_extend_83 : decode cX2_extend 83 = .ok (.iload 8, 2) := by decide +kernel
theorem dX2_extend_85 : decode cX2_extend 85 = .ok (.iload 9, 2) := by decide +kernel
theorem dX2_extend_87 : decode cX2_extend 87 = .ok (.iload 5, 2) := by decide +kernel
theorem dX2_extend_89 : decode cX2_extend 89 = .ok (.invokevirtual 72, 3) := by decide +kernel
theorem dX2_extend_92 : decode cX2_extend 92 = .ok (.ifCond .ne 12, 3) := by decide +kernel
theorem dX2_extend_95 : decode cX2_extend 95 = .ok (.iload 6, 2) := by decide +kernel
theorem dX2_extend_97 : decode cX2_extend 97 = .ok (.iconst 1, 1) := by decide +kernel
theorem dX2_extend_98 : decode cX2_extend 98 = .ok (.iload 8, 2) := by decide +kernel
theorem dX2_extend_100 : decode cX2_extend 100 = .ok (.ishl, 1) := by decide +kernel
theorem dX2_extend_101 : decode cX2_extend 101 = .ok (.ior, 1) := by decide +kernel
theorem dX2_extend_102 : decode cX2_extend 102 = .ok (.istore 6, 2) := by decide +kernel
theorem dX2_extend_104 : decode cX2_extend 104 = .ok (.iinc 7 1, 3) := by decide +kernel
theorem dX2_extend_107 : decode cX2_extend 107 = .ok (.goto (-87), 3) := by decide +kernel
theorem dX2_extend_110 : decode cX2_extend 110 = .ok (.aload_n 1, 1) := by decide +kernel
theorem dX2_extend_111 : decode cX2_extend 111 = .ok (.getfield 34, 3) := by decide +kernel
theorem dX2_extend_114 : decode cX2_extend 114 = .ok (.iload 4, 2) := by decide +kernel
theorem dX2_extend_116 : decode cX2_extend 116 = .ok (.isub, 1) := by decide +kernel
theorem dX2_extend_117 : decode cX2_extend 117 = .ok (.ireturn, 1) := by decide +kernel
theorem dX2_choose_0 : decode cX2_choose 0 = .ok (.iconst (-1), 1) := by decide +kernel
theorem dX2_choose_1 : decode cX2_choose 1 = .ok (.istore_n 3, 1) := by decide +kernel
theorem dX2_choose_2 : decode cX2_choose 2 = .ok (.iconst (-1), 1) := by decide +kernel
theorem dX2_choose_3 : decode cX2_choose 3 = .ok (.istore 4, 2) := by decide +kernel
theorem dX2_choose_5 : decode cX2_choose 5 = .ok (.iconst 0, 1) := by decide +kernel
theorem dX2_choose_6 : decode cX2_choose 6 = .ok (.istore 5, 2) := by decide +kernel
theorem dX2_choose_8 : decode cX2_choose 8 = .ok (.iload 5, 2) := by decide +kernel
theorem dX2_choose_10 : decode cX2_choose 10 = .ok (.aload_n 0, 1) := by decide +kernel
theorem dX2_choose_11 : decode cX2_choose 11 = .ok (.getfield 26, 3) := by decide +kernel
theorem dX2_choose_14 : decode cX2_choose 14 = .ok (.getfield 76, 3) := by decide +kernel
theorem dX2_choose_17 : decode cX2_choose 17 = .ok (.if_icmp .ge 83, 3) := by decide +kernel
theorem dX2_choose_20 : decode cX2_choose 20 = .ok (.iload_n 2, 1) := by decide +kernel
theorem dX2_choose_21 : decode cX2_choose 21 = .ok (.iload 5, 2) := by decide +kernel
theorem dX2_choose_23 : decode cX2_choose 23 = .ok (.ishr, 1) := by decide +kernel
theorem dX2_choose_24 : decode cX2_choose 24 = .ok (.iconst 1, 1) := by decide +kernel
theorem dX2_choose_25 : decode cX2_choose 25 = .ok (.iand, 1) := by decide +kernel
theorem dX2_choose_26 : decode cX2_choose 26 = .ok (.iconst 1, 1) := by decide +kernel
theorem dX2_choose_27 : decode cX2_choose 27 = .ok (.if_icmp .ne 7, 3) := by decide +kernel
theorem dX2_choose_30 : decode cX2_choose 30 = .ok (.iconst (-1), 1) := by decide +kernel
theorem dX2_choose_31 : decode cX2_choose 31 = .ok (.goto 10, 3) := by decide +kernel
theorem dX2_choose_34 : decode cX2_choose 34 = .ok (.aload_n 0, 1) := by decide +kernel
theorem dX2_choose_35 : decode cX2_choose 35 = .ok (.aload_n 1, 1) := by decide +kernel
theorem dX2_choose_36 : decode cX2_choose 36 = .ok (.iload 5, 2) := by decide +kernel
theorem dX2_choose_38 : decode cX2_choose 38 = .ok (.invokevirtual 69, 3) := by decide +kernel
theorem dX2_choose_41 : decode cX2_choose 41 = .ok (.istore 6, 2) := by decide +kernel
theorem dX2_choose_43 : decode cX2_choose 43 = .ok (.iload 6, 2) := by decide +kernel
theorem dX2_choose_45 : decode cX2_choose 45 = .ok (.iconst (-1), 1) := by decide +kernel
theorem dX2_choose_46 : decode cX2_choose 46 = .ok (.if_icmp .eq 48, 3) := by decide +kernel
theorem dX2_choose_49 : decode cX2_choose 49 = .ok (.sipush 1000, 3) := by decide +kernel
theorem dX2_choose_52 : decode cX2_choose 52 = .ok (.aload_n 0, 1) := by decide +kernel
theorem dX2_choose_53 : decode cX2_choose 53 = .ok (.getfield 26, 3) := by decide +kernel
theorem dX2_choose_56 : decode cX2_choose 56 = .ok (.iload 5, 2) := by decide +kernel
theorem dX2_choose_58 : decode cX2_choose 58 = .ok (.invokevirtual 79, 3) := by decide +kernel
theorem dX2_choose_61 : decode cX2_choose 61 = .ok (.imul, 1) := by decide +kernel
theorem dX2_choose_62 : decode cX2_choose 62 = .ok (.iconst 1, 1) := by decide +kernel
theorem dX2_choose_63 : decode cX2_choose 63 = .ok (.iconst 0, 1) := by decide +kernel
theorem dX2_choose_64 : decode cX2_choose 64 = .ok (.aload_n 0, 1) := by decide +kernel
theorem dX2_choose_65 : decode cX2_choose 65 = .ok (.getfield 22, 3) := by decide +kernel
theorem dX2_choose_68 : decode cX2_choose 68 = .ok (.iload 6, 2) := by decide +kernel
theorem dX2_choose_70 : decode cX2_choose 70 = .ok (.invokevirtual 83, 3) := by decide +kernel
theorem dX2_choose_73 : decode cX2_choose 73 = .ok (.invokestatic 86, 3) := by decide +kernel
theorem dX2_choose_76 : decode cX2_choose 76 = .ok (.iadd, 1) := by decide +kernel
theorem dX2_choose_77 : decode cX2_choose 77 = .ok (.idiv, 1) := by decide +kernel
theorem dX2_choose_78 : decode cX2_choose 78 = .ok (.istore 7, 2) := by decide +kernel
theorem dX2_choose_80 : decode cX2_choose 80 = .ok (.iload 7, 2) := by decide +kernel
theorem dX2_choose_82 : decode cX2_choose 82 = .ok (.iload 4, 2) := by decide +kernel
theorem dX2_choose_84 : decode cX2_choose 84 = .ok (.if_icmp .le 10, 3) := by decide +kernel
theorem dX2_choose_87 : decode cX2_choose 87 = .ok (.iload 5, 2) := by decide +kernel
theorem dX2_choose_89 : decode cX2_choose 89 = .ok (.istore_n 3, 1) := by decide +kernel
theorem dX2_choose_90 : decode cX2_choose 90 = .ok (.iload 7, 2) := by decide +kernel
theorem dX2_choose_92 : decode cX2_choose 92 = .ok (.istore 4, 2) := by decide +kernel
theorem dX2_choose_94 : decode cX2_choose 94 = .ok (.iinc 5 1, 3) := by decide +kernel
theorem dX2_choose_97 : decode cX2_choose 97 = .ok (.goto (-89), 3) := by decide +kernel
theorem dX2_choose_100 : decode cX2_choose 100 = .ok (.iload_n 3, 1) := by decide +kernel
theorem dX2_choose_101 : decode cX2_choose 101 = .ok (.ireturn, 1) := by decide +kernel
theorem dX2_visit_0 : decode cX2_visit 0 = .ok (.aload_n 0, 1) := by decide +kernel
theorem dX2_visit_1 : decode cX2_visit 1 = .ok (.getfield 26, 3) := by decide +kernel
theorem dX2_visit_4 : decode cX2_visit 4 = .ok (.iload_n 3, 1) := by decide +kernel
theorem dX2_visit_5 : decode cX2_visit 5 = .ok (.invokevirtual 91, 3) := by decide +kernel
theorem dX2_visit_8 : decode cX2_visit 8 = .ok (.iconst 4, 1) := by decide +kernel
theorem dX2_visit_9 : decode cX2_visit 9 = .ok (.if_icmp .ne 7, 3) := by decide +kernel
theorem dX2_visit_12 : decode cX2_visit 12 = .ok (.iconst 2, 1) := by decide +kernel
theorem dX2_visit_13 : decode cX2_visit 13 = .ok (.goto 4, 3) := by decide +kernel
theorem dX2_visit_16 : decode cX2_visit 16 = .ok (.iconst 1, 1) := by decide +kernel
theorem dX2_visit_17 : decode cX2_visit 17 = .ok (.istore 6, 2) := by decide +kernel
theorem dX2_visit_19 : decode cX2_visit 19 = .ok (.iload 4, 2) := by decide +kernel
theorem dX2_visit_21 : decode cX2_visit 21 = .ok (.bipush 24, 2) := by decide +kernel
theorem dX2_visit_23 : decode cX2_visit 23 = .ok (.irem, 1) := by decide +kernel
theorem dX2_visit_24 : decode cX2_visit 24 = .ok (.istore 7, 2) := by decide +kernel
theorem dX2_visit_26 : decode cX2_visit 26 = .ok (.iload 4, 2) := by decide +kernel
theorem dX2_visit_28 : decode cX2_visit 28 = .ok (.bipush 24, 2) := by decide +kernel
theorem dX2_visit_30 : decode cX2_visit 30 = .ok (.idiv, 1) := by decide +kernel
theorem dX2_visit_31 : decode cX2_visit 31 = .ok (.istore 8, 2) := by decide +kernel
theorem dX2_visit_33 : decode cX2_visit 33 = .ok (.aload_n 0, 1) := by decide +kernel
theorem dX2_visit_34 : decode cX2_visit 34 = .ok (.getfield 12, 3) := by decide +kernel
theorem dX2_visit_37 : decode cX2_visit 37 = .ok (.aload_n 2, 1) := by decide +kernel
theorem dX2_visit_38 : decode cX2_visit 38 = .ok (.invokevirtual 94, 3) := by decide +kernel
theorem dX2_visit_41 : decode cX2_visit 41 = .ok (.aload_n 0, 1) := by decide +kernel
theorem dX2_visit_42 : decode cX2_visit 42 = .ok (.getfield 30, 3) := by decide +kernel
theorem dX2_visit_45 : decode cX2_visit 45 = .ok (.aload_n 2, 1) := by decide +kernel
theorem dX2_visit_46 : decode cX2_visit 46 = .ok (.iconst 0, 1) := by decide +kernel
theorem dX2_visit_47 : decode cX2_visit 47 = .ok (.iload 7, 2) := by decide +kernel
theorem dX2_visit_49 : decode cX2_visit 49 = .ok (.iload 8, 2) := by decide +kernel
theorem dX2_visit_51 : decode cX2_visit 51 = .ok (.invokevirtual 98, 3) := by decide +kernel
theorem dX2_visit_54 : decode cX2_visit 54 = .ok (.ifCond .ne 27, 3) := by decide +kernel
theorem dX2_visit_57 : decode cX2_visit 57 = .ok (.aload_n 0, 1) := by decide +kernel
theorem dX2_visit_58 : decode cX2_visit 58 = .ok (.getfield 30, 3) := by decide +kernel
theorem dX2_visit_61 : decode cX2_visit 61 = .ok (.aload_n 2, 1) := by decide +kernel
theorem dX2_visit_62 : decode cX2_visit 62 = .ok (.iload 6, 2) := by decide +kernel
theorem dX2_visit_64 : decode cX2_visit 64 = .ok (.iload_n 3, 1) := by decide +kernel
theorem dX2_visit_65 : decode cX2_visit 65 = .ok (.iconst 5, 1) := by decide +kernel
theorem dX2_visit_66 : decode cX2_visit 66 = .ok (.invokevirtual 98, 3) := by decide +kernel
theorem dX2_visit_69 : decode cX2_visit 69 = .ok (.ifCond .ne 12, 3) := by decide +kernel
theorem dX2_visit_72 : decode cX2_visit 72 = .ok (.aload_n 2, 1) := by decide +kernel
theorem dX2_visit_73 : decode cX2_visit 73 = .ok (.getfield 40, 3) := by decide +kernel
theorem dX2_visit_76 : decode cX2_visit 76 = .ok (.iload 5, 2) := by decide +kernel
theorem dX2_visit_78 : decode cX2_visit 78 = .ok (.if_icmp .le 13, 3) := by decide +kernel
theorem dX2_visit_81 : decode cX2_visit 81 = .ok (.aload_n 2, 1) := by decide +kernel
theorem dX2_visit_82 : decode cX2_visit 82 = .ok (.aload_n 0, 1) := by decide +kernel
theorem dX2_visit_83 : decode cX2_visit 83 = .ok (.getfield 12, 3) := by decide +kernel
theorem dX2_visit_86 : decode cX2_visit 86 = .ok (.invokevirtual 94, 3) := by decide +kernel
theorem dX2_visit_89 : decode cX2_visit 89 = .ok (.iconst 0, 1) := by decide +kernel
theorem dX2_visit_90 : decode cX2_visit 90 = .ok (.ireturn, 1) := by decide +kernel
theorem dX2_visit_91 : decode cX2_visit 91 = .ok (.aload_n 1, 1) := by decide +kernel
theorem dX2_visit_92 : decode cX2_visit 92 = .ok (.aload_n 1, 1) := by decide +kernel
theorem dX2_visit_93 : decode cX2_visit 93 = .ok (.getfield 34, 3) := by decide +kernel
theorem dX2_visit_96 : decode cX2_visit 96 = .ok (.iconst 0, 1) := by decide +kernel
theorem dX2_visit_97 : decode cX2_visit 97 = .ok (.iload 7, 2) := by decide +kernel
theorem dX2_visit_99 : decode cX2_visit 99 = .ok (.iload 8, 2) := by decide +kernel
theorem dX2_visit_101 : decode cX2_visit 101 = .ok (.invokevirtual 104, 3) := by decide +kernel
theorem dX2_visit_104 : decode cX2_visit 104 = .ok (.aload_n 1, 1) := by decide +kernel
theorem dX2_visit_105 : decode cX2_visit 105 = .ok (.aload_n 1, 1) := by decide +kernel
theorem dX2_visit_106 : decode cX2_visit 106 = .ok (.getfield 34, 3) := by decide +kernel
theorem dX2_visit_109 : decode cX2_visit 109 = .ok (.iload 6, 2) := by decide +kernel
theorem dX2_visit_111 : decode cX2_visit 111 = .ok (.iload_n 3, 1) := by decide +kernel
theorem dX2_visit_112 : decode cX2_visit 112 = .ok (.iconst 5, 1) := by decide +kernel
theorem dX2_visit_113 : decode cX2_visit 113 = .ok (.invokevirtual 104, 3) := by decide +kernel
theorem dX2_visit_116 : decode cX2_visit 116 = .ok (.iconst 1, 1) := by decide +kernel
theorem dX2_visit_117 : decode cX2_visit 117 = .ok (.ireturn, 1) := by decide +kernel
theorem dX2_nearestPlace_0 : decode cX2_nearestPlace 0 = .ok (.aload_n 1, 1) := by decide +kernel
theorem dX2_nearestPlace_1 : decode cX2_nearestPlace 1 = .ok (.iload_n 2, 1) := by decide +kernel
theorem dX2_nearestPlace_2 : decode cX2_nearestPlace 2 = .ok (.invokevirtual 108, 3) := by decide +kernel
theorem dX2_nearestPlace_5 : decode cX2_nearestPlace 5 = .ok (.istore_n 3, 1) := by decide +kernel
theorem dX2_nearestPlace_6 : decode cX2_nearestPlace 6 = .ok (.aload_n 0, 1) := by decide +kernel
theorem dX2_nearestPlace_7 : decode cX2_nearestPlace 7 = .ok (.getfield 26, 3) := by decide +kernel
theorem dX2_nearestPlace_10 : decode cX2_nearestPlace 10 = .ok (.iload_n 2, 1) := by decide +kernel
theorem dX2_nearestPlace_11 : decode cX2_nearestPlace 11 = .ok (.invokevirtual 111, 3) := by decide +kernel
theorem dX2_nearestPlace_14 : decode cX2_nearestPlace 14 = .ok (.ifCond .eq 15, 3) := by decide +kernel
theorem dX2_nearestPlace_17 : decode cX2_nearestPlace 17 = .ok (.aload_n 0, 1) := by decide +kernel
theorem dX2_nearestPlace_18 : decode cX2_nearestPlace 18 = .ok (.getfield 26, 3) := by decide +kernel
theorem dX2_nearestPlace_21 : decode cX2_nearestPlace 21 = .ok (.iload_n 2, 1) := by decide +kernel
theorem dX2_nearestPlace_22 : decode cX2_nearestPlace 22 = .ok (.iload_n 3, 1) := by decide +kernel
theorem dX2_nearestPlace_23 : decode cX2_nearestPlace 23 = .ok (.invokevirtual 114, 3) := by decide +kernel
theorem dX2_nearestPlace_26 : decode cX2_nearestPlace 26 = .ok (.ifCond .eq 5, 3) := by decide +kernel
theorem dX2_nearestPlace_29 : decode cX2_nearestPlace 29 = .ok (.iconst (-1), 1) := by decide +kernel
theorem dX2_nearestPlace_30 : decode cX2_nearestPlace 30 = .ok (.ireturn, 1) := by decide +kernel
theorem dX2_nearestPlace_31 : decode cX2_nearestPlace 31 = .ok (.aload_n 0, 1) := by decide +kernel
theorem dX2_nearestPlace_32 : decode cX2_nearestPlace 32 = .ok (.getfield 26, 3) := by decide +kernel
theorem dX2_nearestPlace_35 : decode cX2_nearestPlace 35 = .ok (.iload_n 2, 1) := by decide +kernel
theorem dX2_nearestPlace_36 : decode cX2_nearestPlace 36 = .ok (.invokevirtual 91, 3) := by decide +kernel
theorem dX2_nearestPlace_39 : decode cX2_nearestPlace 39 = .ok (.iconst 4, 1) := by decide +kernel
theorem dX2_nearestPlace_40 : decode cX2_nearestPlace 40 = .ok (.if_icmp .ne 7, 3) := by decide +kernel
theorem dX2_nearestPlace_43 : decode cX2_nearestPlace 43 = .ok (.iconst 1, 1) := by decide +kernel
theorem dX2_nearestPlace_44 : decode cX2_nearestPlace 44 = .ok (.goto 5, 3) := by decide +kernel
theorem dX2_nearestPlace_47 : decode cX2_nearestPlace 47 = .ok (.bipush 6, 2) := by decide +kernel
theorem dX2_nearestPlace_49 : decode cX2_nearestPlace 49 = .ok (.istore 4, 2) := by decide +kernel
theorem dX2_nearestPlace_51 : decode cX2_nearestPlace 51 = .ok (.aload_n 0, 1) := by decide +kernel
theorem dX2_nearestPlace_52 : decode cX2_nearestPlace 52 = .ok (.getfield 26, 3) := by decide +kernel
theorem dX2_nearestPlace_55 : decode cX2_nearestPlace 55 = .ok (.iload_n 2, 1) := by decide +kernel
theorem dX2_nearestPlace_56 : decode cX2_nearestPlace 56 = .ok (.invokevirtual 118, 3) := by decide +kernel
theorem dX2_nearestPlace_59 : decode cX2_nearestPlace 59 = .ok (.istore 5, 2) := by decide +kernel
theorem dX2_nearestPlace_61 : decode cX2_nearestPlace 61 = .ok (.aload_n 0, 1) := by decide +kernel
theorem dX2_nearestPlace_62 : decode cX2_nearestPlace 62 = .ok (.getfield 26, 3) := by decide +kernel
theorem dX2_nearestPlace_65 : decode cX2_nearestPlace 65 = .ok (.iload_n 2, 1) := by decide +kernel
theorem dX2_nearestPlace_66 : decode cX2_nearestPlace 66 = .ok (.invokevirtual 121, 3) := by decide +kernel
theorem dX2_nearestPlace_69 : decode cX2_nearestPlace 69 = .ok (.istore 6, 2) := by decide +kernel
theorem dX2_nearestPlace_71 : decode cX2_nearestPlace 71 = .ok (.iconst (-1), 1) := by decide +kernel
theorem dX2_nearestPlace_72 : decode cX2_nearestPlace 72 = .ok (.istore 7, 2) := by decide +kernel
theorem dX2_nearestPlace_74 : decode cX2_nearestPlace 74 = .ok (.iload 6, 2) := by decide +kernel
theorem dX2_nearestPlace_76 : decode cX2_nearestPlace 76 = .ok (.iload 4, 2) := by decide +kernel
theorem dX2_nearestPlace_78 : decode cX2_nearestPlace 78 = .ok (.isub, 1) := by decide +kernel
theorem dX2_nearestPlace_79 : decode cX2_nearestPlace 79 = .ok (.istore 8, 2) := by decide +kernel
theorem dX2_nearestPlace_81 : decode cX2_nearestPlace 81 = .ok (.iload 8, 2) := by decide +kernel
theorem dX2_nearestPlace_83 : decode cX2_nearestPlace 83 = .ok (.iload 6, 2) := by decide +kernel
theorem dX2_nearestPlace_85 : decode cX2_nearestPlace 85 = .ok (.iload 4, 2) := by decide +kernel
theorem dX2_nearestPlace_87 : decode cX2_nearestPlace 87 = .ok (.iadd, 1) := by decide +kernel
theorem dX2_nearestPlace_88 : decode cX2_nearestPlace 88 = .ok (.if_icmp .gt 69, 3) := by decide +kernel
theorem dX2_nearestPlace_91 : decode cX2_nearestPlace 91 = .ok (.iload 5, 2) := by decide +kernel
theorem dX2_nearestPlace_93 : decode cX2_nearestPlace 93 = .ok (.iload 4, 2) := by decide +kernel
theorem dX2_nearestPlace_95 : decode cX2_nearestPlace 95 = .ok (.isub, 1) := by decide +kernel
theorem dX2_nearestPlace_96 : decode cX2_nearestPlace 96 = .ok (.istore 9, 2) := by decide +kernel
theorem dX2_nearestPlace_98 : decode cX2_nearestPlace 98 = .ok (.iload 9, 2) := by decide +kernel
theorem dX2_nearestPlace_100 : decode cX2_nearestPlace 100 = .ok (.iload 5, 2) := by decide +kernel
theorem dX2_nearestPlace_102 : decode cX2_nearestPlace 102 = .ok (.iload 4, 2) := by decide +kernel
theorem dX2_nearestPlace_104 : decode cX2_nearestPlace 104 = .ok (.iadd, 1) := by decide +kernel
theorem dX2_nearestPlace_105 : decode cX2_nearestPlace 105 = .ok (.if_icmp .gt 46, 3) := by decide +kernel
theorem dX2_nearestPlace_108 : decode cX2_nearestPlace 108 = .ok (.iload 9, 2) := by decide +kernel
theorem dX2_nearestPlace_110 : decode cX2_nearestPlace 110 = .ok (.iload 8, 2) := by decide +kernel
theorem dX2_nearestPlace_112 : decode cX2_nearestPlace 112 = .ok (.invokestatic 53, 3) := by decide +kernel
theorem dX2_nearestPlace_115 : decode cX2_nearestPlace 115 = .ok (.istore 10, 2) := by decide +kernel
theorem dX2_nearestPlace_117 : decode cX2_nearestPlace 117 = .ok (.aload_n 0, 1) := by decide +kernel
theorem dX2_nearestPlace_118 : decode cX2_nearestPlace 118 = .ok (.iload 10, 2) := by decide +kernel
theorem dX2_nearestPlace_120 : decode cX2_nearestPlace 120 = .ok (.iload 7, 2) := by decide +kernel
theorem dX2_nearestPlace_122 : decode cX2_nearestPlace 122 = .ok (.invokevirtual 124, 3) := by decide +kernel
theorem dX2_nearestPlace_125 : decode cX2_nearestPlace 125 = .ok (.ifCond .eq 20, 3) := by decide +kernel
theorem dX2_nearestPlace_128 : decode cX2_nearestPlace 128 = .ok (.aload_n 0, 1) := by decide +kernel
theorem dX2_nearestPlace_129 : decode cX2_nearestPlace 129 = .ok (.iload 9, 2) := by decide +kernel
theorem dX2_nearestPlace_131 : decode cX2_nearestPlace 131 = .ok (.iload 8, 2) := by decide +kernel
theorem dX2_nearestPlace_133 : decode cX2_nearestPlace 133 = .ok (.iload_n 2, 1) := by decide +kernel
theorem dX2_nearestPlace_134 : decode cX2_nearestPlace 134 = .ok (.iload_n 3, 1) := by decide +kernel
theorem dX2_nearestPlace_135 : decode cX2_nearestPlace 135 = .ok (.invokevirtual 127, 3) := by decide +kernel
theorem dX2_nearestPlace_138 : decode cX2_nearestPlace 138 = .ok (.ifCond .eq 7, 3) := by decide +kernel
theorem dX2_nearestPlace_141 : decode cX2_nearestPlace 141 = .ok (.iload 10, 2) := by decide +kernel
theorem dX2_nearestPlace_143 : decode cX2_nearestPlace 143 = .ok (.istore 7, 2) := by decide +kernel
theorem dX2_nearestPlace_145 : decode cX2_nearestPlace 145 = .ok (.iinc 9 1, 3) := by decide +kernel
theorem dX2_nearestPlace_148 : decode cX2_nearestPlace 148 = .ok (.goto (-50), 3) := by decide +kernel
theorem dX2_nearestPlace_151 : decode cX2_nearestPlace 151 = .ok (.iinc 8 1, 3) := by decide +kernel
theorem dX2_nearestPlace_154 : decode cX2_nearestPlace 154 = .ok (.goto (-73), 3) := by decide +kernel
theorem dX2_nearestPlace_157 : decode cX2_nearestPlace 157 = .ok (.iload 7, 2) := by decide +kernel
theorem dX2_nearestPlace_159 : decode cX2_nearestPlace 159 = .ok (.ireturn, 1) := by decide +kernel
theorem dX2_isNearer_0 : decode cX2_isNearer 0 = .ok (.aload_n 0, 1) := by decide +kernel
theorem dX2_isNearer_1 : decode cX2_isNearer 1 = .ok (.getfield 22, 3) := by decide +kernel
theorem dX2_isNearer_4 : decode cX2_isNearer 4 = .ok (.iload_n 1, 1) := by decide +kernel
theorem dX2_isNearer_5 : decode cX2_isNearer 5 = .ok (.invokevirtual 83, 3) := by decide +kernel
theorem dX2_isNearer_8 : decode cX2_isNearer 8 = .ok (.istore_n 3, 1) := by decide +kernel
theorem dX2_isNearer_9 : decode cX2_isNearer 9 = .ok (.iload_n 3, 1) := by decide +kernel
theorem dX2_isNearer_10 : decode cX2_isNearer 10 = .ok (.iconst (-1), 1) := by decide +kernel
theorem dX2_isNearer_11 : decode cX2_isNearer 11 = .ok (.if_icmp .eq 24, 3) := by decide +kernel
theorem dX2_isNearer_14 : decode cX2_isNearer 14 = .ok (.iload_n 2, 1) := by decide +kernel
theorem dX2_isNearer_15 : decode cX2_isNearer 15 = .ok (.iconst (-1), 1) := by decide +kernel
theorem dX2_isNearer_16 : decode cX2_isNearer 16 = .ok (.if_icmp .eq 15, 3) := by decide +kernel
theorem dX2_isNearer_19 : decode cX2_isNearer 19 = .ok (.iload_n 3, 1) := by decide +kernel
theorem dX2_isNearer_20 : decode cX2_isNearer 20 = .ok (.aload_n 0, 1) := by decide +kernel
theorem dX2_isNearer_21 : decode cX2_isNearer 21 = .ok (.getfield 22, 3) := by decide +kernel
theorem dX2_isNearer_24 : decode cX2_isNearer 24 = .ok (.iload_n 2, 1) := by decide +kernel
theorem dX2_isNearer_25 : decode cX2_isNearer 25 = .ok (.invokevirtual 83, 3) := by decide +kernel
theorem dX2_isNearer_28 : decode cX2_isNearer 28 = .ok (.if_icmp .ge 7, 3) := by decide +kernel
theorem dX2_isNearer_31 : decode cX2_isNearer 31 = .ok (.iconst 1, 1) := by decide +kernel
theorem dX2_isNearer_32 : decode cX2_isNearer 32 = .ok (.goto 4, 3) := by decide +kernel
theorem dX2_isNearer_35 : decode cX2_isNearer 35 = .ok (.iconst 0, 1) := by decide +kernel
theorem dX2_isNearer_36 : decode cX2_isNearer 36 = .ok (.ireturn, 1) := by decide +kernel
theorem dX2_serves_0 : decode cX2_serves 0 = .ok (.aload_n 0, 1) := by decide +kernel
theorem dX2_serves_1 : decode cX2_serves 1 = .ok (.getfield 26, 3) := by decide +kernel
theorem dX2_serves_4 : decode cX2_serves 4 = .ok (.iload_n 3, 1) := by decide +kernel
theorem dX2_serves_5 : decode cX2_serves 5 = .ok (.invokevirtual 91, 3) := by decide +kernel
theorem dX2_serves_8 : decode cX2_serves 8 = .ok (.iconst 4, 1) := by decide +kernel
theorem dX2_serves_9 : decode cX2_serves 9 = .ok (.if_icmp .ne 5, 3) := by decide +kernel
theorem dX2_serves_12 : decode cX2_serves 12 = .ok (.iconst 1, 1) := by decide +kernel
theorem dX2_serves_13 : decode cX2_serves 13 = .ok (.ireturn, 1) := by decide +kernel
theorem dX2_serves_14 : decode cX2_serves 14 = .ok (.aload_n 0, 1) := by decide +kernel
theorem dX2_serves_15 : decode cX2_serves 15 = .ok (.getfield 26, 3) := by decide +kernel
theorem dX2_serves_18 : decode cX2_serves 18 = .ok (.iload_n 3, 1) := by decide +kernel
theorem dX2_serves_19 : decode cX2_serves 19 = .ok (.invokevirtual 118, 3) := by decide +kernel
theorem dX2_serves_22 : decode cX2_serves 22 = .ok (.istore 5, 2) := by decide +kernel
theorem dX2_serves_24 : decode cX2_serves 24 = .ok (.aload_n 0, 1) := by decide +kernel
theorem dX2_serves_25 : decode cX2_serves 25 = .ok (.getfield 26, 3) := by decide +kernel
theorem dX2_serves_28 : decode cX2_serves 28 = .ok (.iload_n 3, 1) := by decide +kernel
theorem dX2_serves_29 : decode cX2_serves 29 = .ok (.invokevirtual 121, 3) := by decide +kernel
theorem dX2_serves_32 : decode cX2_serves 32 = .ok (.istore 6, 2) := by decide +kernel
theorem dX2_serves_34 : decode cX2_serves 34 = .ok (.iload_n 1, 1) := by decide +kernel
theorem dX2_serves_35 : decode cX2_serves 35 = .ok (.iload_n 2, 1) := by decide +kernel
theorem dX2_serves_36 : decode cX2_serves 36 = .ok (.iload 5, 2) := by decide +kernel
theorem dX2_serves_38 : decode cX2_serves 38 = .ok (.iload 6, 2) := by decide +kernel
theorem dX2_serves_40 : decode cX2_serves 40 = .ok (.invokestatic 131, 3) := by decide +kernel
theorem dX2_serves_43 : decode cX2_serves 43 = .ok (.istore 7, 2) := by decide +kernel
theorem dX2_serves_45 : decode cX2_serves 45 = .ok (.iload 4, 2) := by decide +kernel
theorem dX2_serves_47 : decode cX2_serves 47 = .ok (.iload 7, 2) := by decide +kernel
theorem dX2_serves_49 : decode cX2_serves 49 = .ok (.ishr, 1) := by decide +kernel
theorem dX2_serves_50 : decode cX2_serves 50 = .ok (.iconst 1, 1) := by decide +kernel
theorem dX2_serves_51 : decode cX2_serves 51 = .ok (.iand, 1) := by decide +kernel
theorem dX2_serves_52 : decode cX2_serves 52 = .ok (.ifCond .ne 23, 3) := by decide +kernel
theorem dX2_serves_55 : decode cX2_serves 55 = .ok (.aload_n 0, 1) := by decide +kernel
theorem dX2_serves_56 : decode cX2_serves 56 = .ok (.getfield 18, 3) := by decide +kernel
theorem dX2_serves_59 : decode cX2_serves 59 = .ok (.iload_n 1, 1) := by decide +kernel
theorem dX2_serves_60 : decode cX2_serves 60 = .ok (.iload_n 2, 1) := by decide +kernel
theorem dX2_serves_61 : decode cX2_serves 61 = .ok (.iload 5, 2) := by decide +kernel
theorem dX2_serves_63 : decode cX2_serves 63 = .ok (.iload 6, 2) := by decide +kernel
theorem dX2_serves_65 : decode cX2_serves 65 = .ok (.invokevirtual 135, 3) := by decide +kernel
theorem dX2_serves_68 : decode cX2_serves 68 = .ok (.ifCond .eq 7, 3) := by decide +kernel
theorem dX2_serves_71 : decode cX2_serves 71 = .ok (.iconst 1, 1) := by decide +kernel
theorem dX2_serves_72 : decode cX2_serves 72 = .ok (.goto 4, 3) := by decide +kernel
theorem dX2_serves_75 : decode cX2_serves 75 = .ok (.iconst 0, 1) := by decide +kernel
theorem dX2_serves_76 : decode cX2_serves 76 = .ok (.ireturn, 1) := by decide +kernel
theorem dX4_init_0 : decode cX4_init 0 = .ok (.aload_n 0, 1) := by decide +kernel
theorem dX4_init_1 : decode cX4_init 1 = .ok (.invokespecial 3, 3) := by decide +kernel
theorem dX4_init_4 : decode cX4_init 4 = .ok (.aload_n 0, 1) := by decide +kernel
theorem dX4_init_5 : decode cX4_init 5 = .ok (.bipush 6, 2) := by decide +kernel
theorem dX4_init_7 : decode cX4_init 7 = .ok (.newarray .int, 2) := by decide +kernel
theorem dX4_init_9 : decode cX4_init 9 = .ok (.putfield 9, 3) := by decide +kernel
theorem dX4_init_12 : decode cX4_init 12 = .ok (.aload_n 0, 1) := by decide +kernel
theorem dX4_init_13 : decode cX4_init 13 = .ok (.bipush 6, 2) := by decide +kernel
theorem dX4_init_15 : decode cX4_init 15 = .ok (.newarray .int, 2) := by decide +kernel
theorem dX4_init_17 : decode cX4_init 17 = .ok (.putfield 15, 3) := by decide +kernel
theorem dX4_init_20 : decode cX4_init 20 = .ok (.aload_n 0, 1) := by decide +kernel
theorem dX4_init_21 : decode cX4_init 21 = .ok (.bipush 6, 2) := by decide +kernel
theorem dX4_init_23 : decode cX4_init 23 = .ok (.newarray .int, 2) := by decide +kernel
theorem dX4_init_25 : decode cX4_init 25 = .ok (.putfield 18, 3) := by decide +kernel
theorem dX4_init_28 : decode cX4_init 28 = .ok (.return_, 1) := by decide +kernel
theorem dX4_isFull_0 : decode cX4_isFull 0 = .ok (.aload_n 0, 1) := by decide +kernel
theorem dX4_isFull_1 : decode cX4_isFull 1 = .ok (.getfield 21, 3) := by decide +kernel
theorem dX4_isFull_4 : decode cX4_isFull 4 = .ok (.bipush 6, 2) := by decide +kernel
theorem dX4_isFull_6 : decode cX4_isFull 6 = .ok (.if_icmp .lt 7, 3) := by decide +kernel
theorem dX4_isFull_9 : decode cX4_isFull 9 = .ok (.iconst 1, 1) := by decide +kernel
theorem dX4_isFull_10 : decode cX4_isFull 10 = .ok (.goto 4, 3) := by decide +kernel
theorem dX4_isFull_13 : decode cX4_isFull 13 = .ok (.iconst 0, 1) := by decide +kernel
theorem dX4_isFull_14 : decode cX4_isFull 14 = .ok (.ireturn, 1) := by decide +kernel
theorem dX4_append_0 : decode cX4_append 0 = .ok (.aload_n 0, 1) := by decide +kernel
theorem dX4_append_1 : decode cX4_append 1 = .ok (.invokevirtual 25, 3) := by decide +kernel
theorem dX4_append_4 : decode cX4_append 4 = .ok (.ifCond .ne 50, 3) := by decide +kernel
theorem dX4_append_7 : decode cX4_append 7 = .ok (.aload_n 0, 1) := by decide +kernel
theorem dX4_append_8 : decode cX4_append 8 = .ok (.getfield 21, 3) := by decide +kernel
theorem dX4_append_11 : decode cX4_append 11 = .ok (.ifCond .lt 43, 3) := by decide +kernel
theorem dX4_append_14 : decode cX4_append 14 = .ok (.aload_n 0, 1) := by decide +kernel
theorem dX4_append_15 : decode cX4_append 15 = .ok (.getfield 9, 3) := by decide +kernel
theorem dX4_append_18 : decode cX4_append 18 = .ok (.aload_n 0, 1) := by decide +kernel
theorem dX4_append_19 : decode cX4_append 19 = .ok (.getfield 21, 3) := by decide +kernel
theorem dX4_append_22 : decode cX4_append 22 = .ok (.iload_n 1, 1) := by decide +kernel
theorem dX4_append_23 : decode cX4_append 23 = .ok (.iastore, 1) := by decide +kernel
theorem dX4_append_24 : decode cX4_append 24 = .ok (.aload_n 0, 1) := by decide +kernel
theorem dX4_append_25 : decode cX4_append 25 = .ok (.getfield 15, 3) := by decide +kernel
theorem dX4_append_28 : decode cX4_append 28 = .ok (.aload_n 0, 1) := by decide +kernel
theorem dX4_append_29 : decode cX4_append 29 = .ok (.getfield 21, 3) := by decide +kernel
theorem dX4_append_32 : decode cX4_append 32 = .ok (.iload_n 2, 1) := by decide +kernel
theorem dX4_append_33 : decode cX4_append 33 = .ok (.iastore, 1) := by decide +kernel
theorem dX4_append_34 : decode cX4_append 34 = .ok (.aload_n 0, 1) := by decide +kernel
theorem dX4_append_35 : decode cX4_append 35 = .ok (.getfield 18, 3) := by decide +kernel
theorem dX4_append_38 : decode cX4_append 38 = .ok (.aload_n 0, 1) := by decide +kernel
theorem dX4_append_39 : decode cX4_append 39 = .ok (.getfield 21, 3) := by decide +kernel
theorem dX4_append_42 : decode cX4_append 42 = .ok (.iload_n 3, 1) := by decide +kernel
theorem dX4_append_43 : decode cX4_append 43 = .ok (.iastore, 1) := by decide +kernel
theorem dX4_append_44 : decode cX4_append 44 = .ok (.aload_n 0, 1) := by decide +kernel
theorem dX4_append_45 : decode cX4_append 45 = .ok (.dup, 1) := by decide +kernel
theorem dX4_append_46 : decode cX4_append 46 = .ok (.getfield 21, 3) := by decide +kernel
theorem dX4_append_49 : decode cX4_append 49 = .ok (.iconst 1, 1) := by decide +kernel
theorem dX4_append_50 : decode cX4_append 50 = .ok (.iadd, 1) := by decide +kernel
theorem dX4_append_51 : decode cX4_append 51 = .ok (.putfield 21, 3) := by decide +kernel
theorem dX4_append_54 : decode cX4_append 54 = .ok (.aload_n 0, 1) := by decide +kernel
theorem dX4_append_55 : decode cX4_append 55 = .ok (.getfield 21, 3) := by decide +kernel
theorem dX4_append_58 : decode cX4_append 58 = .ok (.ireturn, 1) := by decide +kernel
theorem dX4_rateAt_0 : decode cX4_rateAt 0 = .ok (.iconst 0, 1) := by decide +kernel
theorem dX4_rateAt_1 : decode cX4_rateAt 1 = .ok (.istore_n 2, 1) := by decide +kernel
theorem dX4_rateAt_2 : decode cX4_rateAt 2 = .ok (.iconst 0, 1) := by decide +kernel
theorem dX4_rateAt_3 : decode cX4_rateAt 3 = .ok (.istore_n 3, 1) := by decide +kernel
theorem dX4_rateAt_4 : decode cX4_rateAt 4 = .ok (.iload_n 3, 1) := by decide +kernel
theorem dX4_rateAt_5 : decode cX4_rateAt 5 = .ok (.aload_n 0, 1) := by decide +kernel
theorem dX4_rateAt_6 : decode cX4_rateAt 6 = .ok (.getfield 21, 3) := by decide +kernel
theorem dX4_rateAt_9 : decode cX4_rateAt 9 = .ok (.if_icmp .ge 46, 3) := by decide +kernel
theorem dX4_rateAt_12 : decode cX4_rateAt 12 = .ok (.iload_n 3, 1) := by decide +kernel
theorem dX4_rateAt_13 : decode cX4_rateAt 13 = .ok (.bipush 6, 2) := by decide +kernel
theorem dX4_rateAt_15 : decode cX4_rateAt 15 = .ok (.if_icmp .ge 40, 3) := by decide +kernel
theorem dX4_rateAt_18 : decode cX4_rateAt 18 = .ok (.aload_n 0, 1) := by decide +kernel
theorem dX4_rateAt_19 : decode cX4_rateAt 19 = .ok (.getfield 9, 3) := by decide +kernel
theorem dX4_rateAt_22 : decode cX4_rateAt 22 = .ok (.iload_n 3, 1) := by decide +kernel
theorem dX4_rateAt_23 : decode cX4_rateAt 23 = .ok (.iaload, 1) := by decide +kernel
theorem dX4_rateAt_24 : decode cX4_rateAt 24 = .ok (.iload_n 1, 1) := by decide +kernel
theorem dX4_rateAt_25 : decode cX4_rateAt 25 = .ok (.if_icmp .gt 24, 3) := by decide +kernel
theorem dX4_rateAt_28 : decode cX4_rateAt 28 = .ok (.iload_n 1, 1) := by decide +kernel
theorem dX4_rateAt_29 : decode cX4_rateAt 29 = .ok (.aload_n 0, 1) := by decide +kernel
theorem dX4_rateAt_30 : decode cX4_rateAt 30 = .ok (.getfield 15, 3) := by decide +kernel
theorem dX4_rateAt_33 : decode cX4_rateAt 33 = .ok (.iload_n 3, 1) := by decide +kernel
theorem dX4_rateAt_34 : decode cX4_rateAt 34 = .ok (.iaload, 1) := by decide +kernel
theorem dX4_rateAt_35 : decode cX4_rateAt 35 = .ok (.if_icmp .ge 14, 3) := by decide +kernel
theorem dX4_rateAt_38 : decode cX4_rateAt 38 = .ok (.iload_n 2, 1) := by decide +kernel
theorem dX4_rateAt_39 : decode cX4_rateAt 39 = .ok (.aload_n 0, 1) := by decide +kernel
theorem dX4_rateAt_40 : decode cX4_rateAt 40 = .ok (.getfield 18, 3) := by decide +kernel
theorem dX4_rateAt_43 : decode cX4_rateAt 43 = .ok (.iload_n 3, 1) := by decide +kernel
theorem dX4_rateAt_44 : decode cX4_rateAt 44 = .ok (.iaload, 1) := by decide +kernel
theorem dX4_rateAt_45 : decode cX4_rateAt 45 = .ok (.invokestatic 29, 3) := by decide +kernel
theorem dX4_rateAt_48 : decode cX4_rateAt 48 = .ok (.istore_n 2, 1) := by decide +kernel
theorem dX4_rateAt_49 : decode cX4_rateAt 49 = .ok (.iinc 3 1, 3) := by decide +kernel
theorem dX4_rateAt_52 : decode cX4_rateAt 52 = .ok (.goto (-48), 3) := by decide +kernel
theorem dX4_rateAt_55 : decode cX4_rateAt 55 = .ok (.iload_n 2, 1) := by decide +kernel
theorem dX4_rateAt_56 : decode cX4_rateAt 56 = .ok (.ireturn, 1) := by decide +kernel
theorem dX5_init_0 : decode cX5_init 0 = .ok (.aload_n 0, 1) := by decide +kernel
theorem dX5_init_1 : decode cX5_init 1 = .ok (.invokespecial 3, 3) := by decide +kernel
theorem dX5_init_4 : decode cX5_init 4 = .ok (.aload_n 0, 1) := by decide +kernel
theorem dX5_init_5 : decode cX5_init 5 = .ok (.bipush 40, 2) := by decide +kernel
theorem dX5_init_7 : decode cX5_init 7 = .ok (.newarray .int, 2) := by decide +kernel
theorem dX5_init_9 : decode cX5_init 9 = .ok (.putfield 9, 3) := by decide +kernel
theorem dX5_init_12 : decode cX5_init 12 = .ok (.aload_n 0, 1) := by decide +kernel
theorem dX5_init_13 : decode cX5_init 13 = .ok (.bipush 40, 2) := by decide +kernel
theorem dX5_init_15 : decode cX5_init 15 = .ok (.newarray .int, 2) := by decide +kernel
theorem dX5_init_17 : decode cX5_init 17 = .ok (.putfield 15, 3) := by decide +kernel
theorem dX5_init_20 : decode cX5_init 20 = .ok (.aload_n 0, 1) := by decide +kernel
end
section
theorem dX5_init_21 : decode cX5_init 21 = .ok (.bipush 40, 2) := by decide +kernel
theorem dX5_init_23 : decode cX5_init 23 = .ok (.newarray .int, 2) := by decide +kernel
theorem dX5_init_25 : decode cX5_init 25 = .ok (.putfield 18, 3) := by decide +kernel
theorem dX5_init_28 : decode cX5_init 28 = .ok (.return_, 1) := by decide +kernel
theorem dX5_has_0 : decode cX5_has 0 = .ok (.iload_n 1, 1) := by decide +kernel
theorem dX5_has_1 : decode cX5_has 1 = .ok (.ifCond .lt 21, 3) := by decide +kernel
theorem dX5_has_4 : decode cX5_has 4 = .ok (.iload_n 1, 1) := by decide +kernel
theorem dX5_has_5 : decode cX5_has 5 = .ok (.aload_n 0, 1) := by decide +kernel
theorem dX5_has_6 : decode cX5_has 6 = .ok (.getfield 21, 3) := by decide +kernel
theorem dX5_has_9 : decode cX5_has 9 = .ok (.if_icmp .ge 13, 3) := by decide +kernel
theorem dX5_has_12 : decode cX5_has 12 = .ok (.iload_n 1, 1) := by decide +kernel
theorem dX5_has_13 : decode cX5_has 13 = .ok (.bipush 40, 2) := by decide +kernel
theorem dX5_has_15 : decode cX5_has 15 = .ok (.if_icmp .ge 7, 3) := by decide +kernel
theorem dX5_has_18 : decode cX5_has 18 = .ok (.iconst 1, 1) := by decide +kernel
theorem dX5_has_19 : decode cX5_has 19 = .ok (.goto 4, 3) := by decide +kernel
theorem dX5_has_22 : decode cX5_has 22 = .ok (.iconst 0, 1) := by decide +kernel
theorem dX5_has_23 : decode cX5_has 23 = .ok (.ireturn, 1) := by decide +kernel
theorem dX5_hasRoom_0 : decode cX5_hasRoom 0 = .ok (.aload_n 0, 1) := by decide +kernel
theorem dX5_hasRoom_1 : decode cX5_hasRoom 1 = .ok (.getfield 21, 3) := by decide +kernel
theorem dX5_hasRoom_4 : decode cX5_hasRoom 4 = .ok (.iload_n 1, 1) := by decide +kernel
theorem dX5_hasRoom_5 : decode cX5_hasRoom 5 = .ok (.iadd, 1) := by decide +kernel
theorem dX5_hasRoom_6 : decode cX5_hasRoom 6 = .ok (.bipush 40, 2) := by decide +kernel
theorem dX5_hasRoom_8 : decode cX5_hasRoom 8 = .ok (.if_icmp .gt 7, 3) := by decide +kernel
theorem dX5_hasRoom_11 : decode cX5_hasRoom 11 = .ok (.iconst 1, 1) := by decide +kernel
theorem dX5_hasRoom_12 : decode cX5_hasRoom 12 = .ok (.goto 4, 3) := by decide +kernel
theorem dX5_hasRoom_15 : decode cX5_hasRoom 15 = .ok (.iconst 0, 1) := by decide +kernel
theorem dX5_hasRoom_16 : decode cX5_hasRoom 16 = .ok (.ireturn, 1) := by decide +kernel
theorem dX5_insert_0 : decode cX5_insert 0 = .ok (.iload_n 1, 1) := by decide +kernel
theorem dX5_insert_1 : decode cX5_insert 1 = .ok (.ifCond .lt 19, 3) := by decide +kernel
theorem dX5_insert_4 : decode cX5_insert 4 = .ok (.iload_n 1, 1) := by decide +kernel
theorem dX5_insert_5 : decode cX5_insert 5 = .ok (.aload_n 0, 1) := by decide +kernel
theorem dX5_insert_6 : decode cX5_insert 6 = .ok (.getfield 21, 3) := by decide +kernel
theorem dX5_insert_9 : decode cX5_insert 9 = .ok (.if_icmp .gt 11, 3) := by decide +kernel
theorem dX5_insert_12 : decode cX5_insert 12 = .ok (.aload_n 0, 1) := by decide +kernel
theorem dX5_insert_13 : decode cX5_insert 13 = .ok (.iconst 1, 1) := by decide +kernel
theorem dX5_insert_14 : decode cX5_insert 14 = .ok (.invokevirtual 25, 3) := by decide +kernel
theorem dX5_insert_17 : decode cX5_insert 17 = .ok (.ifCond .ne 4, 3) := by decide +kernel
theorem dX5_insert_20 : decode cX5_insert 20 = .ok (.return_, 1) := by decide +kernel
theorem dX5_insert_21 : decode cX5_insert 21 = .ok (.aload_n 0, 1) := by decide +kernel
theorem dX5_insert_22 : decode cX5_insert 22 = .ok (.getfield 21, 3) := by decide +kernel
theorem dX5_insert_25 : decode cX5_insert 25 = .ok (.istore 5, 2) := by decide +kernel
theorem dX5_insert_27 : decode cX5_insert 27 = .ok (.iload 5, 2) := by decide +kernel
theorem dX5_insert_29 : decode cX5_insert 29 = .ok (.iload_n 1, 1) := by decide +kernel
theorem dX5_insert_30 : decode cX5_insert 30 = .ok (.if_icmp .le 57, 3) := by decide +kernel
theorem dX5_insert_33 : decode cX5_insert 33 = .ok (.aload_n 0, 1) := by decide +kernel
theorem dX5_insert_34 : decode cX5_insert 34 = .ok (.getfield 9, 3) := by decide +kernel
theorem dX5_insert_37 : decode cX5_insert 37 = .ok (.iload 5, 2) := by decide +kernel
theorem dX5_insert_39 : decode cX5_insert 39 = .ok (.aload_n 0, 1) := by decide +kernel
theorem dX5_insert_40 : decode cX5_insert 40 = .ok (.getfield 9, 3) := by decide +kernel
theorem dX5_insert_43 : decode cX5_insert 43 = .ok (.iload 5, 2) := by decide +kernel
theorem dX5_insert_45 : decode cX5_insert 45 = .ok (.iconst 1, 1) := by decide +kernel
theorem dX5_insert_46 : decode cX5_insert 46 = .ok (.isub, 1) := by decide +kernel
theorem dX5_insert_47 : decode cX5_insert 47 = .ok (.iaload, 1) := by decide +kernel
theorem dX5_insert_48 : decode cX5_insert 48 = .ok (.iastore, 1) := by decide +kernel
theorem dX5_insert_49 : decode cX5_insert 49 = .ok (.aload_n 0, 1) := by decide +kernel
theorem dX5_insert_50 : decode cX5_insert 50 = .ok (.getfield 15, 3) := by decide +kernel
theorem dX5_insert_53 : decode cX5_insert 53 = .ok (.iload 5, 2) := by decide +kernel
theorem dX5_insert_55 : decode cX5_insert 55 = .ok (.aload_n 0, 1) := by decide +kernel
theorem dX5_insert_56 : decode cX5_insert 56 = .ok (.getfield 15, 3) := by decide +kernel
theorem dX5_insert_59 : decode cX5_insert 59 = .ok (.iload 5, 2) := by decide +kernel
theorem dX5_insert_61 : decode cX5_insert 61 = .ok (.iconst 1, 1) := by decide +kernel
theorem dX5_insert_62 : decode cX5_insert 62 = .ok (.isub, 1) := by decide +kernel
theorem dX5_insert_63 : decode cX5_insert 63 = .ok (.iaload, 1) := by decide +kernel
theorem dX5_insert_64 : decode cX5_insert 64 = .ok (.iastore, 1) := by decide +kernel
theorem dX5_insert_65 : decode cX5_insert 65 = .ok (.aload_n 0, 1) := by decide +kernel
theorem dX5_insert_66 : decode cX5_insert 66 = .ok (.getfield 18, 3) := by decide +kernel
theorem dX5_insert_69 : decode cX5_insert 69 = .ok (.iload 5, 2) := by decide +kernel
theorem dX5_insert_71 : decode cX5_insert 71 = .ok (.aload_n 0, 1) := by decide +kernel
theorem dX5_insert_72 : decode cX5_insert 72 = .ok (.getfield 18, 3) := by decide +kernel
theorem dX5_insert_75 : decode cX5_insert 75 = .ok (.iload 5, 2) := by decide +kernel
theorem dX5_insert_77 : decode cX5_insert 77 = .ok (.iconst 1, 1) := by decide +kernel
theorem dX5_insert_78 : decode cX5_insert 78 = .ok (.isub, 1) := by decide +kernel
theorem dX5_insert_79 : decode cX5_insert 79 = .ok (.iaload, 1) := by decide +kernel
theorem dX5_insert_80 : decode cX5_insert 80 = .ok (.iastore, 1) := by decide +kernel
theorem dX5_insert_81 : decode cX5_insert 81 = .ok (.iinc 5 (-1), 3) := by decide +kernel
theorem dX5_insert_84 : decode cX5_insert 84 = .ok (.goto (-57), 3) := by decide +kernel
theorem dX5_insert_87 : decode cX5_insert 87 = .ok (.aload_n 0, 1) := by decide +kernel
theorem dX5_insert_88 : decode cX5_insert 88 = .ok (.getfield 9, 3) := by decide +kernel
theorem dX5_insert_91 : decode cX5_insert 91 = .ok (.iload_n 1, 1) := by decide +kernel
theorem dX5_insert_92 : decode cX5_insert 92 = .ok (.iload_n 2, 1) := by decide +kernel
theorem dX5_insert_93 : decode cX5_insert 93 = .ok (.iastore, 1) := by decide +kernel
theorem dX5_insert_94 : decode cX5_insert 94 = .ok (.aload_n 0, 1) := by decide +kernel
theorem dX5_insert_95 : decode cX5_insert 95 = .ok (.getfield 15, 3) := by decide +kernel
theorem dX5_insert_98 : decode cX5_insert 98 = .ok (.iload_n 1, 1) := by decide +kernel
theorem dX5_insert_99 : decode cX5_insert 99 = .ok (.iload_n 3, 1) := by decide +kernel
theorem dX5_insert_100 : decode cX5_insert 100 = .ok (.iastore, 1) := by decide +kernel
theorem dX5_insert_101 : decode cX5_insert 101 = .ok (.aload_n 0, 1) := by decide +kernel
theorem dX5_insert_102 : decode cX5_insert 102 = .ok (.getfield 18, 3) := by decide +kernel
theorem dX5_insert_105 : decode cX5_insert 105 = .ok (.iload_n 1, 1) := by decide +kernel
theorem dX5_insert_106 : decode cX5_insert 106 = .ok (.iload 4, 2) := by decide +kernel
theorem dX5_insert_108 : decode cX5_insert 108 = .ok (.iastore, 1) := by decide +kernel
theorem dX5_insert_109 : decode cX5_insert 109 = .ok (.aload_n 0, 1) := by decide +kernel
theorem dX5_insert_110 : decode cX5_insert 110 = .ok (.dup, 1) := by decide +kernel
theorem dX5_insert_111 : decode cX5_insert 111 = .ok (.getfield 21, 3) := by decide +kernel
theorem dX5_insert_114 : decode cX5_insert 114 = .ok (.iconst 1, 1) := by decide +kernel
theorem dX5_insert_115 : decode cX5_insert 115 = .ok (.iadd, 1) := by decide +kernel
theorem dX5_insert_116 : decode cX5_insert 116 = .ok (.putfield 21, 3) := by decide +kernel
theorem dX5_insert_119 : decode cX5_insert 119 = .ok (.return_, 1) := by decide +kernel
theorem dX5_takeOut_0 : decode cX5_takeOut 0 = .ok (.aload_n 0, 1) := by decide +kernel
theorem dX5_takeOut_1 : decode cX5_takeOut 1 = .ok (.iload_n 1, 1) := by decide +kernel
theorem dX5_takeOut_2 : decode cX5_takeOut 2 = .ok (.invokevirtual 29, 3) := by decide +kernel
theorem dX5_takeOut_5 : decode cX5_takeOut 5 = .ok (.ifCond .ne 4, 3) := by decide +kernel
theorem dX5_takeOut_8 : decode cX5_takeOut 8 = .ok (.return_, 1) := by decide +kernel
theorem dX5_takeOut_9 : decode cX5_takeOut 9 = .ok (.iload_n 1, 1) := by decide +kernel
theorem dX5_takeOut_10 : decode cX5_takeOut 10 = .ok (.istore_n 2, 1) := by decide +kernel
theorem dX5_takeOut_11 : decode cX5_takeOut 11 = .ok (.iload_n 2, 1) := by decide +kernel
theorem dX5_takeOut_12 : decode cX5_takeOut 12 = .ok (.iconst 1, 1) := by decide +kernel
theorem dX5_takeOut_13 : decode cX5_takeOut 13 = .ok (.iadd, 1) := by decide +kernel
theorem dX5_takeOut_14 : decode cX5_takeOut 14 = .ok (.aload_n 0, 1) := by decide +kernel
theorem dX5_takeOut_15 : decode cX5_takeOut 15 = .ok (.getfield 21, 3) := by decide +kernel
theorem dX5_takeOut_18 : decode cX5_takeOut 18 = .ok (.if_icmp .ge 59, 3) := by decide +kernel
theorem dX5_takeOut_21 : decode cX5_takeOut 21 = .ok (.iload_n 2, 1) := by decide +kernel
theorem dX5_takeOut_22 : decode cX5_takeOut 22 = .ok (.iconst 1, 1) := by decide +kernel
theorem dX5_takeOut_23 : decode cX5_takeOut 23 = .ok (.iadd, 1) := by decide +kernel
theorem dX5_takeOut_24 : decode cX5_takeOut 24 = .ok (.bipush 40, 2) := by decide +kernel
theorem dX5_takeOut_26 : decode cX5_takeOut 26 = .ok (.if_icmp .ge 51, 3) := by decide +kernel
theorem dX5_takeOut_29 : decode cX5_takeOut 29 = .ok (.aload_n 0, 1) := by decide +kernel
theorem dX5_takeOut_30 : decode cX5_takeOut 30 = .ok (.getfield 9, 3) := by decide +kernel
theorem dX5_takeOut_33 : decode cX5_takeOut 33 = .ok (.iload_n 2, 1) := by decide +kernel
theorem dX5_takeOut_34 : decode cX5_takeOut 34 = .ok (.aload_n 0, 1) := by decide +kernel
theorem dX5_takeOut_35 : decode cX5_takeOut 35 = .ok (.getfield 9, 3) := by decide +kernel
theorem dX5_takeOut_38 : decode cX5_takeOut 38 = .ok (.iload_n 2, 1) := by decide +kernel
theorem dX5_takeOut_39 : decode cX5_takeOut 39 = .ok (.iconst 1, 1) := by decide +kernel
theorem dX5_takeOut_40 : decode cX5_takeOut 40 = .ok (.iadd, 1) := by decide +kernel
theorem dX5_takeOut_41 : decode cX5_takeOut 41 = .ok (.iaload, 1) := by decide +kernel
theorem dX5_takeOut_42 : decode cX5_takeOut 42 = .ok (.iastore, 1) := by decide +kernel
theorem dX5_takeOut_43 : decode cX5_takeOut 43 = .ok (.aload_n 0, 1) := by decide +kernel
theorem dX5_takeOut_44 : decode cX5_takeOut 44 = .ok (.getfield 15, 3) := by decide +kernel
theorem dX5_takeOut_47 : decode cX5_takeOut 47 = .ok (.iload_n 2, 1) := by decide +kernel
theorem dX5_takeOut_48 : decode cX5_takeOut 48 = .ok (.aload_n 0, 1) := by decide +kernel
theorem dX5_takeOut_49 : decode cX5_takeOut 49 = .ok (.getfield 15, 3) := by decide +kernel
theorem dX5_takeOut_52 : decode cX5_takeOut 52 = .ok (.iload_n 2, 1) := by decide +kernel
theorem dX5_takeOut_53 : decode cX5_takeOut 53 = .ok (.iconst 1, 1) := by decide +kernel
theorem dX5_takeOut_54 : decode cX5_takeOut 54 = .ok (.iadd, 1) := by decide +kernel
theorem dX5_takeOut_55 : decode cX5_takeOut 55 = .ok (.iaload, 1) := by decide +kernel
theorem dX5_takeOut_56 : decode cX5_takeOut 56 = .ok (.iastore, 1) := by decide +kernel
theorem dX5_takeOut_57 : decode cX5_takeOut 57 = .ok (.aload_n 0, 1) := by decide +kernel
theorem dX5_takeOut_58 : decode cX5_takeOut 58 = .ok (.getfield 18, 3) := by decide +kernel
theorem dX5_takeOut_61 : decode cX5_takeOut 61 = .ok (.iload_n 2, 1) := by decide +kernel
theorem dX5_takeOut_62 : decode cX5_takeOut 62 = .ok (.aload_n 0, 1) := by decide +kernel
theorem dX5_takeOut_63 : decode cX5_takeOut 63 = .ok (.getfield 18, 3) := by decide +kernel
theorem dX5_takeOut_66 : decode cX5_takeOut 66 = .ok (.iload_n 2, 1) := by decide +kernel
theorem dX5_takeOut_67 : decode cX5_takeOut 67 = .ok (.iconst 1, 1) := by decide +kernel
theorem dX5_takeOut_68 : decode cX5_takeOut 68 = .ok (.iadd, 1) := by decide +kernel
theorem dX5_takeOut_69 : decode cX5_takeOut 69 = .ok (.iaload, 1) := by decide +kernel
theorem dX5_takeOut_70 : decode cX5_takeOut 70 = .ok (.iastore, 1) := by decide +kernel
theorem dX5_takeOut_71 : decode cX5_takeOut 71 = .ok (.iinc 2 1, 3) := by decide +kernel
theorem dX5_takeOut_74 : decode cX5_takeOut 74 = .ok (.goto (-63), 3) := by decide +kernel
theorem dX5_takeOut_77 : decode cX5_takeOut 77 = .ok (.aload_n 0, 1) := by decide +kernel
theorem dX5_takeOut_78 : decode cX5_takeOut 78 = .ok (.dup, 1) := by decide +kernel
theorem dX5_takeOut_79 : decode cX5_takeOut 79 = .ok (.getfield 21, 3) := by decide +kernel
theorem dX5_takeOut_82 : decode cX5_takeOut 82 = .ok (.iconst 1, 1) := by decide +kernel
theorem dX5_takeOut_83 : decode cX5_takeOut 83 = .ok (.isub, 1) := by decide +kernel
theorem dX5_takeOut_84 : decode cX5_takeOut 84 = .ok (.putfield 21, 3) := by decide +kernel
theorem dX5_takeOut_87 : decode cX5_takeOut 87 = .ok (.return_, 1) := by decide +kernel
theorem dX5_tell_0 : decode cX5_tell 0 = .ok (.aload_n 0, 1) := by decide +kernel
theorem dX5_tell_1 : decode cX5_tell 1 = .ok (.iload_n 1, 1) := by decide +kernel
theorem dX5_tell_2 : decode cX5_tell 2 = .ok (.invokevirtual 29, 3) := by decide +kernel
theorem dX5_tell_5 : decode cX5_tell 5 = .ok (.ifCond .ne 5, 3) := by decide +kernel
theorem dX5_tell_8 : decode cX5_tell 8 = .ok (.iconst (-1), 1) := by decide +kernel
theorem dX5_tell_9 : decode cX5_tell 9 = .ok (.ireturn, 1) := by decide +kernel
theorem dX5_tell_10 : decode cX5_tell 10 = .ok (.iload_n 2, 1) := by decide +kernel
theorem dX5_tell_11 : decode cX5_tell 11 = .ok (.lookupswitch 39 #[(0, 25), (1, 32)], 25) := by decide +kernel
theorem dX5_tell_36 : decode cX5_tell 36 = .ok (.aload_n 0, 1) := by decide +kernel
theorem dX5_tell_37 : decode cX5_tell 37 = .ok (.getfield 9, 3) := by decide +kernel
theorem dX5_tell_40 : decode cX5_tell 40 = .ok (.iload_n 1, 1) := by decide +kernel
theorem dX5_tell_41 : decode cX5_tell 41 = .ok (.iaload, 1) := by decide +kernel
theorem dX5_tell_42 : decode cX5_tell 42 = .ok (.ireturn, 1) := by decide +kernel
theorem dX5_tell_43 : decode cX5_tell 43 = .ok (.aload_n 0, 1) := by decide +kernel
theorem dX5_tell_44 : decode cX5_tell 44 = .ok (.getfield 15, 3) := by decide +kernel
theorem dX5_tell_47 : decode cX5_tell 47 = .ok (.iload_n 1, 1) := by decide +kernel
theorem dX5_tell_48 : decode cX5_tell 48 = .ok (.iaload, 1) := by decide +kernel
theorem dX5_tell_49 : decode cX5_tell 49 = .ok (.ireturn, 1) := by decide +kernel
theorem dX5_tell_50 : decode cX5_tell 50 = .ok (.aload_n 0, 1) := by decide +kernel
theorem dX5_tell_51 : decode cX5_tell 51 = .ok (.getfield 18, 3) := by decide +kernel
theorem dX5_tell_54 : decode cX5_tell 54 = .ok (.iload_n 1, 1) := by decide +kernel
theorem dX5_tell_55 : decode cX5_tell 55 = .ok (.iaload, 1) := by decide +kernel
theorem dX5_tell_56 : decode cX5_tell 56 = .ok (.ireturn, 1) := by decide +kernel
theorem dX6_init_0 : decode cX6_init 0 = .ok (.aload_n 0, 1) := by decide +kernel
theorem dX6_init_1 : decode cX6_init 1 = .ok (.invokespecial 3, 3) := by decide +kernel
theorem dX6_init_4 : decode cX6_init 4 = .ok (.aload_n 0, 1) := by decide +kernel
theorem dX6_init_5 : decode cX6_init 5 = .ok (.sipush 3000, 3) := by decide +kernel
theorem dX6_init_8 : decode cX6_init 8 = .ok (.putfield 9, 3) := by decide +kernel
theorem dX6_init_11 : decode cX6_init 11 = .ok (.aload_n 0, 1) := by decide +kernel
theorem dX6_init_12 : decode cX6_init 12 = .ok (.bipush (-20), 2) := by decide +kernel
theorem dX6_init_14 : decode cX6_init 14 = .ok (.putfield 15, 3) := by decide +kernel
theorem dX6_init_17 : decode cX6_init 17 = .ok (.aload_n 0, 1) := by decide +kernel
theorem dX6_init_18 : decode cX6_init 18 = .ok (.bipush 100, 2) := by decide +kernel
theorem dX6_init_20 : decode cX6_init 20 = .ok (.putfield 18, 3) := by decide +kernel
theorem dX6_init_23 : decode cX6_init 23 = .ok (.aload_n 0, 1) := by decide +kernel
theorem dX6_init_24 : decode cX6_init 24 = .ok (.sipush 133, 3) := by decide +kernel
theorem dX6_init_27 : decode cX6_init 27 = .ok (.newarray .int, 2) := by decide +kernel
theorem dX6_init_29 : decode cX6_init 29 = .ok (.putfield 21, 3) := by decide +kernel
theorem dX6_init_32 : decode cX6_init 32 = .ok (.aload_n 0, 1) := by decide +kernel
theorem dX6_init_33 : decode cX6_init 33 = .ok (.sipush 133, 3) := by decide +kernel
theorem dX6_init_36 : decode cX6_init 36 = .ok (.newarray .int, 2) := by decide +kernel
theorem dX6_init_38 : decode cX6_init 38 = .ok (.putfield 25, 3) := by decide +kernel
theorem dX6_init_41 : decode cX6_init 41 = .ok (.aload_n 0, 1) := by decide +kernel
theorem dX6_init_42 : decode cX6_init 42 = .ok (.sipush 133, 3) := by decide +kernel
theorem dX6_init_45 : decode cX6_init 45 = .ok (.newarray .int, 2) := by decide +kernel
theorem dX6_init_47 : decode cX6_init 47 = .ok (.putfield 28, 3) := by decide +kernel
theorem dX6_init_50 : decode cX6_init 50 = .ok (.aload_n 0, 1) := by decide +kernel
theorem dX6_init_51 : decode cX6_init 51 = .ok (.sipush 133, 3) := by decide +kernel
theorem dX6_init_54 : decode cX6_init 54 = .ok (.newarray .int, 2) := by decide +kernel
theorem dX6_init_56 : decode cX6_init 56 = .ok (.putfield 31, 3) := by decide +kernel
theorem dX6_init_59 : decode cX6_init 59 = .ok (.aload_n 0, 1) := by decide +kernel
theorem dX6_init_60 : decode cX6_init 60 = .ok (.bipush 12, 2) := by decide +kernel
theorem dX6_init_62 : decode cX6_init 62 = .ok (.newarray .int, 2) := by decide +kernel
theorem dX6_init_64 : decode cX6_init 64 = .ok (.putfield 34, 3) := by decide +kernel
theorem dX6_init_67 : decode cX6_init 67 = .ok (.return_, 1) := by decide +kernel
theorem dX6_copyFrom_0 : decode cX6_copyFrom 0 = .ok (.aload_n 1, 1) := by decide +kernel
theorem dX6_copyFrom_1 : decode cX6_copyFrom 1 = .ok (.ifnonnull 4, 3) := by decide +kernel
theorem dX6_copyFrom_4 : decode cX6_copyFrom 4 = .ok (.return_, 1) := by decide +kernel
theorem dX6_copyFrom_5 : decode cX6_copyFrom 5 = .ok (.aload_n 0, 1) := by decide +kernel
theorem dX6_copyFrom_6 : decode cX6_copyFrom 6 = .ok (.aload_n 1, 1) := by decide +kernel
theorem dX6_copyFrom_7 : decode cX6_copyFrom 7 = .ok (.getfield 37, 3) := by decide +kernel
theorem dX6_copyFrom_10 : decode cX6_copyFrom 10 = .ok (.putfield 37, 3) := by decide +kernel
theorem dX6_copyFrom_13 : decode cX6_copyFrom 13 = .ok (.aload_n 0, 1) := by decide +kernel
theorem dX6_copyFrom_14 : decode cX6_copyFrom 14 = .ok (.aload_n 1, 1) := by decide +kernel
theorem dX6_copyFrom_15 : decode cX6_copyFrom 15 = .ok (.getfield 40, 3) := by decide +kernel
theorem dX6_copyFrom_18 : decode cX6_copyFrom 18 = .ok (.putfield 40, 3) := by decide +kernel
theorem dX6_copyFrom_21 : decode cX6_copyFrom 21 = .ok (.aload_n 0, 1) := by decide +kernel
theorem dX6_copyFrom_22 : decode cX6_copyFrom 22 = .ok (.aload_n 1, 1) := by decide +kernel
theorem dX6_copyFrom_23 : decode cX6_copyFrom 23 = .ok (.getfield 43, 3) := by decide +kernel
theorem dX6_copyFrom_26 : decode cX6_copyFrom 26 = .ok (.putfield 43, 3) := by decide +kernel
theorem dX6_copyFrom_29 : decode cX6_copyFrom 29 = .ok (.aload_n 0, 1) := by decide +kernel
theorem dX6_copyFrom_30 : decode cX6_copyFrom 30 = .ok (.aload_n 1, 1) := by decide +kernel
theorem dX6_copyFrom_31 : decode cX6_copyFrom 31 = .ok (.getfield 9, 3) := by decide +kernel
theorem dX6_copyFrom_34 : decode cX6_copyFrom 34 = .ok (.putfield 9, 3) := by decide +kernel
theorem dX6_copyFrom_37 : decode cX6_copyFrom 37 = .ok (.aload_n 0, 1) := by decide +kernel
theorem dX6_copyFrom_38 : decode cX6_copyFrom 38 = .ok (.aload_n 1, 1) := by decide +kernel
theorem dX6_copyFrom_39 : decode cX6_copyFrom 39 = .ok (.getfield 15, 3) := by decide +kernel
theorem dX6_copyFrom_42 : decode cX6_copyFrom 42 = .ok (.putfield 15, 3) := by decide +kernel
theorem dX6_copyFrom_45 : decode cX6_copyFrom 45 = .ok (.aload_n 0, 1) := by decide +kernel
theorem dX6_copyFrom_46 : decode cX6_copyFrom 46 = .ok (.aload_n 1, 1) := by decide +kernel
theorem dX6_copyFrom_47 : decode cX6_copyFrom 47 = .ok (.getfield 18, 3) := by decide +kernel
theorem dX6_copyFrom_50 : decode cX6_copyFrom 50 = .ok (.putfield 18, 3) := by decide +kernel
theorem dX6_copyFrom_53 : decode cX6_copyFrom 53 = .ok (.aload_n 0, 1) := by decide +kernel
theorem dX6_copyFrom_54 : decode cX6_copyFrom 54 = .ok (.aload_n 1, 1) := by decide +kernel
theorem dX6_copyFrom_55 : decode cX6_copyFrom 55 = .ok (.getfield 46, 3) := by decide +kernel
theorem dX6_copyFrom_58 : decode cX6_copyFrom 58 = .ok (.putfield 46, 3) := by decide +kernel
theorem dX6_copyFrom_61 : decode cX6_copyFrom 61 = .ok (.aload_n 0, 1) := by decide +kernel
theorem dX6_copyFrom_62 : decode cX6_copyFrom 62 = .ok (.aload_n 1, 1) := by decide +kernel
theorem dX6_copyFrom_63 : decode cX6_copyFrom 63 = .ok (.getfield 50, 3) := by decide +kernel
theorem dX6_copyFrom_66 : decode cX6_copyFrom 66 = .ok (.putfield 50, 3) := by decide +kernel
theorem dX6_copyFrom_69 : decode cX6_copyFrom 69 = .ok (.aload_n 0, 1) := by decide +kernel
theorem dX6_copyFrom_70 : decode cX6_copyFrom 70 = .ok (.aload_n 1, 1) := by decide +kernel
theorem dX6_copyFrom_71 : decode cX6_copyFrom 71 = .ok (.getfield 53, 3) := by decide +kernel
theorem dX6_copyFrom_74 : decode cX6_copyFrom 74 = .ok (.putfield 53, 3) := by decide +kernel
theorem dX6_copyFrom_77 : decode cX6_copyFrom 77 = .ok (.aload_n 0, 1) := by decide +kernel
theorem dX6_copyFrom_78 : decode cX6_copyFrom 78 = .ok (.aload_n 1, 1) := by decide +kernel
theorem dX6_copyFrom_79 : decode cX6_copyFrom 79 = .ok (.getfield 56, 3) := by decide +kernel
theorem dX6_copyFrom_82 : decode cX6_copyFrom 82 = .ok (.putfield 56, 3) := by decide +kernel
theorem dX6_copyFrom_85 : decode cX6_copyFrom 85 = .ok (.iconst 0, 1) := by decide +kernel
theorem dX6_copyFrom_86 : decode cX6_copyFrom 86 = .ok (.istore_n 2, 1) := by decide +kernel
theorem dX6_copyFrom_87 : decode cX6_copyFrom 87 = .ok (.iload_n 2, 1) := by decide +kernel
theorem dX6_copyFrom_88 : decode cX6_copyFrom 88 = .ok (.aload_n 0, 1) := by decide +kernel
theorem dX6_copyFrom_89 : decode cX6_copyFrom 89 = .ok (.getfield 56, 3) := by decide +kernel
theorem dX6_copyFrom_92 : decode cX6_copyFrom 92 = .ok (.if_icmp .ge 64, 3) := by decide +kernel
theorem dX6_copyFrom_95 : decode cX6_copyFrom 95 = .ok (.iload_n 2, 1) := by decide +kernel
theorem dX6_copyFrom_96 : decode cX6_copyFrom 96 = .ok (.sipush 133, 3) := by decide +kernel
theorem dX6_copyFrom_99 : decode cX6_copyFrom 99 = .ok (.if_icmp .ge 57, 3) := by decide +kernel
theorem dX6_copyFrom_102 : decode cX6_copyFrom 102 = .ok (.aload_n 0, 1) := by decide +kernel
theorem dX6_copyFrom_103 : decode cX6_copyFrom 103 = .ok (.getfield 21, 3) := by decide +kernel
theorem dX6_copyFrom_106 : decode cX6_copyFrom 106 = .ok (.iload_n 2, 1) := by decide +kernel
theorem dX6_copyFrom_107 : decode cX6_copyFrom 107 = .ok (.aload_n 1, 1) := by decide +kernel
theorem dX6_copyFrom_108 : decode cX6_copyFrom 108 = .ok (.getfield 21, 3) := by decide +kernel
theorem dX6_copyFrom_111 : decode cX6_copyFrom 111 = .ok (.iload_n 2, 1) := by decide +kernel
theorem dX6_copyFrom_112 : decode cX6_copyFrom 112 = .ok (.iaload, 1) := by decide +kernel
theorem dX6_copyFrom_113 : decode cX6_copyFrom 113 = .ok (.iastore, 1) := by decide +kernel
theorem dX6_copyFrom_114 : decode cX6_copyFrom 114 = .ok (.aload_n 0, 1) := by decide +kernel
theorem dX6_copyFrom_115 : decode cX6_copyFrom 115 = .ok (.getfield 25, 3) := by decide +kernel
theorem dX6_copyFrom_118 : decode cX6_copyFrom 118 = .ok (.iload_n 2, 1) := by decide +kernel
theorem dX6_copyFrom_119 : decode cX6_copyFrom 119 = .ok (.aload_n 1, 1) := by decide +kernel
theorem dX6_copyFrom_120 : decode cX6_copyFrom 120 = .ok (.getfield 25, 3) := by decide +kernel
theorem dX6_copyFrom_123 : decode cX6_copyFrom 123 = .ok (.iload_n 2, 1) := by decide +kernel
theorem dX6_copyFrom_124 : decode cX6_copyFrom 124 = .ok (.iaload, 1) := by decide +kernel
theorem dX6_copyFrom_125 : decode cX6_copyFrom 125 = .ok (.iastore, 1) := by decide +kernel
theorem dX6_copyFrom_126 : decode cX6_copyFrom 126 = .ok (.aload_n 0, 1) := by decide +kernel
theorem dX6_copyFrom_127 : decode cX6_copyFrom 127 = .ok (.getfield 28, 3) := by decide +kernel
theorem dX6_copyFrom_130 : decode cX6_copyFrom 130 = .ok (.iload_n 2, 1) := by decide +kernel
theorem dX6_copyFrom_131 : decode cX6_copyFrom 131 = .ok (.aload_n 1, 1) := by decide +kernel
theorem dX6_copyFrom_132 : decode cX6_copyFrom 132 = .ok (.getfield 28, 3) := by decide +kernel
theorem dX6_copyFrom_135 : decode cX6_copyFrom 135 = .ok (.iload_n 2, 1) := by decide +kernel
theorem dX6_copyFrom_136 : decode cX6_copyFrom 136 = .ok (.iaload, 1) := by decide +kernel
theorem dX6_copyFrom_137 : decode cX6_copyFrom 137 = .ok (.iastore, 1) := by decide +kernel
theorem dX6_copyFrom_138 : decode cX6_copyFrom 138 = .ok (.aload_n 0, 1) := by decide +kernel
theorem dX6_copyFrom_139 : decode cX6_copyFrom 139 = .ok (.getfield 31, 3) := by decide +kernel
theorem dX6_copyFrom_142 : decode cX6_copyFrom 142 = .ok (.iload_n 2, 1) := by decide +kernel
theorem dX6_copyFrom_143 : decode cX6_copyFrom 143 = .ok (.aload_n 1, 1) := by decide +kernel
theorem dX6_copyFrom_144 : decode cX6_copyFrom 144 = .ok (.getfield 31, 3) := by decide +kernel
theorem dX6_copyFrom_147 : decode cX6_copyFrom 147 = .ok (.iload_n 2, 1) := by decide +kernel
theorem dX6_copyFrom_148 : decode cX6_copyFrom 148 = .ok (.iaload, 1) := by decide +kernel
theorem dX6_copyFrom_149 : decode cX6_copyFrom 149 = .ok (.iastore, 1) := by decide +kernel
theorem dX6_copyFrom_150 : decode cX6_copyFrom 150 = .ok (.iinc 2 1, 3) := by decide +kernel
theorem dX6_copyFrom_153 : decode cX6_copyFrom 153 = .ok (.goto (-66), 3) := by decide +kernel
theorem dX6_copyFrom_156 : decode cX6_copyFrom 156 = .ok (.iconst 0, 1) := by decide +kernel
theorem dX6_copyFrom_157 : decode cX6_copyFrom 157 = .ok (.istore_n 2, 1) := by decide +kernel
theorem dX6_copyFrom_158 : decode cX6_copyFrom 158 = .ok (.iload_n 2, 1) := by decide +kernel
theorem dX6_copyFrom_159 : decode cX6_copyFrom 159 = .ok (.bipush 12, 2) := by decide +kernel
theorem dX6_copyFrom_161 : decode cX6_copyFrom 161 = .ok (.if_icmp .ge 21, 3) := by decide +kernel
theorem dX6_copyFrom_164 : decode cX6_copyFrom 164 = .ok (.aload_n 0, 1) := by decide +kernel
theorem dX6_copyFrom_165 : decode cX6_copyFrom 165 = .ok (.getfield 34, 3) := by decide +kernel
theorem dX6_copyFrom_168 : decode cX6_copyFrom 168 = .ok (.iload_n 2, 1) := by decide +kernel
theorem dX6_copyFrom_169 : decode cX6_copyFrom 169 = .ok (.aload_n 1, 1) := by decide +kernel
theorem dX6_copyFrom_170 : decode cX6_copyFrom 170 = .ok (.getfield 34, 3) := by decide +kernel
theorem dX6_copyFrom_173 : decode cX6_copyFrom 173 = .ok (.iload_n 2, 1) := by decide +kernel
theorem dX6_copyFrom_174 : decode cX6_copyFrom 174 = .ok (.iaload, 1) := by decide +kernel
theorem dX6_copyFrom_175 : decode cX6_copyFrom 175 = .ok (.iastore, 1) := by decide +kernel
theorem dX6_copyFrom_176 : decode cX6_copyFrom 176 = .ok (.iinc 2 1, 3) := by decide +kernel
theorem dX6_copyFrom_179 : decode cX6_copyFrom 179 = .ok (.goto (-21), 3) := by decide +kernel
theorem dX6_copyFrom_182 : decode cX6_copyFrom 182 = .ok (.return_, 1) := by decide +kernel
theorem dX6_limitBattery_0 : decode cX6_limitBattery 0 = .ok (.aload_n 0, 1) := by decide +kernel
theorem dX6_limitBattery_1 : decode cX6_limitBattery 1 = .ok (.aload_n 0, 1) := by decide +kernel
theorem dX6_limitBattery_2 : decode cX6_limitBattery 2 = .ok (.getfield 9, 3) := by decide +kernel
theorem dX6_limitBattery_5 : decode cX6_limitBattery 5 = .ok (.iload_n 1, 1) := by decide +kernel
theorem dX6_limitBattery_6 : decode cX6_limitBattery 6 = .ok (.invokestatic 59, 3) := by decide +kernel
theorem dX6_limitBattery_9 : decode cX6_limitBattery 9 = .ok (.putfield 9, 3) := by decide +kernel
theorem dX6_limitBattery_12 : decode cX6_limitBattery 12 = .ok (.return_, 1) := by decide +kernel
theorem dX6_hasPiece_0 : decode cX6_hasPiece 0 = .ok (.iload_n 1, 1) := by decide +kernel
theorem dX6_hasPiece_1 : decode cX6_hasPiece 1 = .ok (.ifCond .lt 22, 3) := by decide +kernel
theorem dX6_hasPiece_4 : decode cX6_hasPiece 4 = .ok (.iload_n 1, 1) := by decide +kernel
theorem dX6_hasPiece_5 : decode cX6_hasPiece 5 = .ok (.aload_n 0, 1) := by decide +kernel
theorem dX6_hasPiece_6 : decode cX6_hasPiece 6 = .ok (.getfield 56, 3) := by decide +kernel
theorem dX6_hasPiece_9 : decode cX6_hasPiece 9 = .ok (.if_icmp .ge 14, 3) := by decide +kernel
theorem dX6_hasPiece_12 : decode cX6_hasPiece 12 = .ok (.iload_n 1, 1) := by decide +kernel
theorem dX6_hasPiece_13 : decode cX6_hasPiece 13 = .ok (.sipush 133, 3) := by decide +kernel
theorem dX6_hasPiece_16 : decode cX6_hasPiece 16 = .ok (.if_icmp .ge 7, 3) := by decide +kernel
theorem dX6_hasPiece_19 : decode cX6_hasPiece 19 = .ok (.iconst 1, 1) := by decide +kernel
theorem dX6_hasPiece_20 : decode cX6_hasPiece 20 = .ok (.goto 4, 3) := by decide +kernel
theorem dX6_hasPiece_23 : decode cX6_hasPiece 23 = .ok (.iconst 0, 1) := by decide +kernel
theorem dX6_hasPiece_24 : decode cX6_hasPiece 24 = .ok (.ireturn, 1) := by decide +kernel
theorem dX6_unitsKept_0 : decode cX6_unitsKept 0 = .ok (.iconst 0, 1) := by decide +kernel
theorem dX6_unitsKept_1 : decode cX6_unitsKept 1 = .ok (.istore_n 1, 1) := by decide +kernel
theorem dX6_unitsKept_2 : decode cX6_unitsKept 2 = .ok (.iconst 0, 1) := by decide +kernel
theorem dX6_unitsKept_3 : decode cX6_unitsKept 3 = .ok (.istore_n 2, 1) := by decide +kernel
theorem dX6_unitsKept_4 : decode cX6_unitsKept 4 = .ok (.iload_n 2, 1) := by decide +kernel
theorem dX6_unitsKept_5 : decode cX6_unitsKept 5 = .ok (.aload_n 0, 1) := by decide +kernel
theorem dX6_unitsKept_6 : decode cX6_unitsKept 6 = .ok (.getfield 56, 3) := by decide +kernel
theorem dX6_unitsKept_9 : decode cX6_unitsKept 9 = .ok (.if_icmp .ge 25, 3) := by decide +kernel
theorem dX6_unitsKept_12 : decode cX6_unitsKept 12 = .ok (.iload_n 2, 1) := by decide +kernel
theorem dX6_unitsKept_13 : decode cX6_unitsKept 13 = .ok (.sipush 133, 3) := by decide +kernel
theorem dX6_unitsKept_16 : decode cX6_unitsKept 16 = .ok (.if_icmp .ge 18, 3) := by decide +kernel
theorem dX6_unitsKept_19 : decode cX6_unitsKept 19 = .ok (.iload_n 1, 1) := by decide +kernel
theorem dX6_unitsKept_20 : decode cX6_unitsKept 20 = .ok (.aload_n 0, 1) := by decide +kernel
theorem dX6_unitsKept_21 : decode cX6_unitsKept 21 = .ok (.getfield 25, 3) := by decide +kernel
theorem dX6_unitsKept_24 : decode cX6_unitsKept 24 = .ok (.iload_n 2, 1) := by decide +kernel
theorem dX6_unitsKept_25 : decode cX6_unitsKept 25 = .ok (.iaload, 1) := by decide +kernel
theorem dX6_unitsKept_26 : decode cX6_unitsKept 26 = .ok (.iadd, 1) := by decide +kernel
theorem dX6_unitsKept_27 : decode cX6_unitsKept 27 = .ok (.istore_n 1, 1) := by decide +kernel
theorem dX6_unitsKept_28 : decode cX6_unitsKept 28 = .ok (.iinc 2 1, 3) := by decide +kernel
theorem dX6_unitsKept_31 : decode cX6_unitsKept 31 = .ok (.goto (-27), 3) := by decide +kernel
theorem dX6_unitsKept_34 : decode cX6_unitsKept 34 = .ok (.iload_n 1, 1) := by decide +kernel
theorem dX6_unitsKept_35 : decode cX6_unitsKept 35 = .ok (.ireturn, 1) := by decide +kernel
theorem dX6_tell_0 : decode cX6_tell 0 = .ok (.iload_n 1, 1) := by decide +kernel
theorem dX6_tell_1 : decode cX6_tell 1 = .ok (.tableswitch 104 0 8 #[51, 56, 61, 66, 71, 76, 89, 94, 99], 51) := by decide +kernel
theorem dX6_tell_52 : decode cX6_tell 52 = .ok (.aload_n 0, 1) := by decide +kernel
theorem dX6_tell_53 : decode cX6_tell 53 = .ok (.getfield 37, 3) := by decide +kernel
theorem dX6_tell_56 : decode cX6_tell 56 = .ok (.ireturn, 1) := by decide +kernel
theorem dX6_tell_57 : decode cX6_tell 57 = .ok (.aload_n 0, 1) := by decide +kernel
theorem dX6_tell_58 : decode cX6_tell 58 = .ok (.getfield 40, 3) := by decide +kernel
theorem dX6_tell_61 : decode cX6_tell 61 = .ok (.ireturn, 1) := by decide +kernel
theorem dX6_tell_62 : decode cX6_tell 62 = .ok (.aload_n 0, 1) := by decide +kernel
theorem dX6_tell_63 : decode cX6_tell 63 = .ok (.getfield 43, 3) := by decide +kernel
theorem dX6_tell_66 : decode cX6_tell 66 = .ok (.ireturn, 1) := by decide +kernel
theorem dX6_tell_67 : decode cX6_tell 67 = .ok (.aload_n 0, 1) := by decide +kernel
theorem dX6_tell_68 : decode cX6_tell 68 = .ok (.getfield 9, 3) := by decide +kernel
theorem dX6_tell_71 : decode cX6_tell 71 = .ok (.ireturn, 1) := by decide +kernel
theorem dX6_tell_72 : decode cX6_tell 72 = .ok (.aload_n 0, 1) := by decide +kernel
theorem dX6_tell_73 : decode cX6_tell 73 = .ok (.getfield 15, 3) := by decide +kernel
theorem dX6_tell_76 : decode cX6_tell 76 = .ok (.ireturn, 1) := by decide +kernel
theorem dX6_tell_77 : decode cX6_tell 77 = .ok (.aload_n 0, 1) := by decide +kernel
theorem dX6_tell_78 : decode cX6_tell 78 = .ok (.getfield 46, 3) := by decide +kernel
theorem dX6_tell_81 : decode cX6_tell 81 = .ok (.ifCond .eq 7, 3) := by decide +kernel
theorem dX6_tell_84 : decode cX6_tell 84 = .ok (.iconst 1, 1) := by decide +kernel
theorem dX6_tell_85 : decode cX6_tell 85 = .ok (.goto 4, 3) := by decide +kernel
theorem dX6_tell_88 : decode cX6_tell 88 = .ok (.iconst 0, 1) := by decide +kernel
theorem dX6_tell_89 : decode cX6_tell 89 = .ok (.ireturn, 1) := by decide +kernel
theorem dX6_tell_90 : decode cX6_tell 90 = .ok (.aload_n 0, 1) := by decide +kernel
theorem dX6_tell_91 : decode cX6_tell 91 = .ok (.getfield 18, 3) := by decide +kernel
theorem dX6_tell_94 : decode cX6_tell 94 = .ok (.ireturn, 1) := by decide +kernel
theorem dX6_tell_95 : decode cX6_tell 95 = .ok (.aload_n 0, 1) := by decide +kernel
theorem dX6_tell_96 : decode cX6_tell 96 = .ok (.invokevirtual 65, 3) := by decide +kernel
theorem dX6_tell_99 : decode cX6_tell 99 = .ok (.ireturn, 1) := by decide +kernel
theorem dX6_tell_100 : decode cX6_tell 100 = .ok (.aload_n 0, 1) := by decide +kernel
theorem dX6_tell_101 : decode cX6_tell 101 = .ok (.getfield 56, 3) := by decide +kernel
theorem dX6_tell_104 : decode cX6_tell 104 = .ok (.ireturn, 1) := by decide +kernel
theorem dX6_tell_105 : decode cX6_tell 105 = .ok (.aload_n 0, 1) := by decide +kernel
theorem dX6_tell_106 : decode cX6_tell 106 = .ok (.getfield 50, 3) := by decide +kernel
theorem dX6_tell_109 : decode cX6_tell 109 = .ok (.ireturn, 1) := by decide +kernel
theorem dX6_tellPiece_0 : decode cX6_tellPiece 0 = .ok (.aload_n 0, 1) := by decide +kernel
theorem dX6_tellPiece_1 : decode cX6_tellPiece 1 = .ok (.iload_n 1, 1) := by decide +kernel
theorem dX6_tellPiece_2 : decode cX6_tellPiece 2 = .ok (.invokevirtual 69, 3) := by decide +kernel
theorem dX6_tellPiece_5 : decode cX6_tellPiece 5 = .ok (.ifCond .ne 5, 3) := by decide +kernel
theorem dX6_tellPiece_8 : decode cX6_tellPiece 8 = .ok (.iconst (-1), 1) := by decide +kernel
theorem dX6_tellPiece_9 : decode cX6_tellPiece 9 = .ok (.ireturn, 1) := by decide +kernel
theorem dX6_tellPiece_10 : decode cX6_tellPiece 10 = .ok (.iload_n 2, 1) := by decide +kernel
theorem dX6_tellPiece_11 : decode cX6_tellPiece 11 = .ok (.tableswitch 46 0 2 #[25, 32, 39], 25) := by decide +kernel
theorem dX6_tellPiece_36 : decode cX6_tellPiece 36 = .ok (.aload_n 0, 1) := by decide +kernel
theorem dX6_tellPiece_37 : decode cX6_tellPiece 37 = .ok (.getfield 21, 3) := by decide +kernel
theorem dX6_tellPiece_40 : decode cX6_tellPiece 40 = .ok (.iload_n 1, 1) := by decide +kernel
theorem dX6_tellPiece_41 : decode cX6_tellPiece 41 = .ok (.iaload, 1) := by decide +kernel
theorem dX6_tellPiece_42 : decode cX6_tellPiece 42 = .ok (.ireturn, 1) := by decide +kernel
theorem dX6_tellPiece_43 : decode cX6_tellPiece 43 = .ok (.aload_n 0, 1) := by decide +kernel
theorem dX6_tellPiece_44 : decode cX6_tellPiece 44 = .ok (.getfield 25, 3) := by decide +kernel
theorem dX6_tellPiece_47 : decode cX6_tellPiece 47 = .ok (.iload_n 1, 1) := by decide +kernel
theorem dX6_tellPiece_48 : decode cX6_tellPiece 48 = .ok (.iaload, 1) := by decide +kernel
theorem dX6_tellPiece_49 : decode cX6_tellPiece 49 = .ok (.ireturn, 1) := by decide +kernel
theorem dX6_tellPiece_50 : decode cX6_tellPiece 50 = .ok (.aload_n 0, 1) := by decide +kernel
theorem dX6_tellPiece_51 : decode cX6_tellPiece 51 = .ok (.getfield 28, 3) := by decide +kernel
theorem dX6_tellPiece_54 : decode cX6_tellPiece 54 = .ok (.iload_n 1, 1) := by decide +kernel
theorem dX6_tellPiece_55 : decode cX6_tellPiece 55 = .ok (.iaload, 1) := by decide +kernel
theorem dX6_tellPiece_56 : decode cX6_tellPiece 56 = .ok (.ireturn, 1) := by decide +kernel
theorem dX6_tellPiece_57 : decode cX6_tellPiece 57 = .ok (.aload_n 0, 1) := by decide +kernel
theorem dX6_tellPiece_58 : decode cX6_tellPiece 58 = .ok (.getfield 31, 3) := by decide +kernel
theorem dX6_tellPiece_61 : decode cX6_tellPiece 61 = .ok (.iload_n 1, 1) := by decide +kernel
theorem dX6_tellPiece_62 : decode cX6_tellPiece 62 = .ok (.iaload, 1) := by decide +kernel
theorem dX6_tellPiece_63 : decode cX6_tellPiece 63 = .ok (.ireturn, 1) := by decide +kernel
theorem dX6_signsSent_0 : decode cX6_signsSent 0 = .ok (.iload_n 1, 1) := by decide +kernel
theorem dX6_signsSent_1 : decode cX6_signsSent 1 = .ok (.ifCond .lt 9, 3) := by decide +kernel
theorem dX6_signsSent_4 : decode cX6_signsSent 4 = .ok (.iload_n 1, 1) := by decide +kernel
theorem dX6_signsSent_5 : decode cX6_signsSent 5 = .ok (.bipush 12, 2) := by decide +kernel
theorem dX6_signsSent_7 : decode cX6_signsSent 7 = .ok (.if_icmp .lt 7, 3) := by decide +kernel
theorem dX6_signsSent_10 : decode cX6_signsSent 10 = .ok (.iconst 0, 1) := by decide +kernel
theorem dX6_signsSent_11 : decode cX6_signsSent 11 = .ok (.goto 9, 3) := by decide +kernel
theorem dX6_signsSent_14 : decode cX6_signsSent 14 = .ok (.aload_n 0, 1) := by decide +kernel
theorem dX6_signsSent_15 : decode cX6_signsSent 15 = .ok (.getfield 34, 3) := by decide +kernel
theorem dX6_signsSent_18 : decode cX6_signsSent 18 = .ok (.iload_n 1, 1) := by decide +kernel
theorem dX6_signsSent_19 : decode cX6_signsSent 19 = .ok (.iaload, 1) := by decide +kernel
theorem dX6_signsSent_20 : decode cX6_signsSent 20 = .ok (.ireturn, 1) := by decide +kernel
theorem dX6_signsOfAll_0 : decode cX6_signsOfAll 0 = .ok (.aload_n 0, 1) := by decide +kernel
theorem dX6_signsOfAll_1 : decode cX6_signsOfAll 1 = .ok (.iload_n 1, 1) := by decide +kernel
theorem dX6_signsOfAll_2 : decode cX6_signsOfAll 2 = .ok (.invokevirtual 73, 3) := by decide +kernel
theorem dX6_signsOfAll_5 : decode cX6_signsOfAll 5 = .ok (.istore_n 2, 1) := by decide +kernel
theorem dX6_signsOfAll_6 : decode cX6_signsOfAll 6 = .ok (.iconst 0, 1) := by decide +kernel
theorem dX6_signsOfAll_7 : decode cX6_signsOfAll 7 = .ok (.istore_n 3, 1) := by decide +kernel
theorem dX6_signsOfAll_8 : decode cX6_signsOfAll 8 = .ok (.iload_n 3, 1) := by decide +kernel
theorem dX6_signsOfAll_9 : decode cX6_signsOfAll 9 = .ok (.aload_n 0, 1) := by decide +kernel
theorem dX6_signsOfAll_10 : decode cX6_signsOfAll 10 = .ok (.getfield 56, 3) := by decide +kernel
theorem dX6_signsOfAll_13 : decode cX6_signsOfAll 13 = .ok (.if_icmp .ge 37, 3) := by decide +kernel
theorem dX6_signsOfAll_16 : decode cX6_signsOfAll 16 = .ok (.iload_n 3, 1) := by decide +kernel
theorem dX6_signsOfAll_17 : decode cX6_signsOfAll 17 = .ok (.sipush 133, 3) := by decide +kernel
theorem dX6_signsOfAll_20 : decode cX6_signsOfAll 20 = .ok (.if_icmp .ge 30, 3) := by decide +kernel
theorem dX6_signsOfAll_23 : decode cX6_signsOfAll 23 = .ok (.aload_n 0, 1) := by decide +kernel
theorem dX6_signsOfAll_24 : decode cX6_signsOfAll 24 = .ok (.getfield 21, 3) := by decide +kernel
theorem dX6_signsOfAll_27 : decode cX6_signsOfAll 27 = .ok (.iload_n 3, 1) := by decide +kernel
theorem dX6_signsOfAll_28 : decode cX6_signsOfAll 28 = .ok (.iaload, 1) := by decide +kernel
theorem dX6_signsOfAll_29 : decode cX6_signsOfAll 29 = .ok (.iload_n 1, 1) := by decide +kernel
theorem dX6_signsOfAll_30 : decode cX6_signsOfAll 30 = .ok (.if_icmp .ne 14, 3) := by decide +kernel
theorem dX6_signsOfAll_33 : decode cX6_signsOfAll 33 = .ok (.iload_n 2, 1) := by decide +kernel
theorem dX6_signsOfAll_34 : decode cX6_signsOfAll 34 = .ok (.iconst 1, 1) := by decide +kernel
theorem dX6_signsOfAll_35 : decode cX6_signsOfAll 35 = .ok (.aload_n 0, 1) := by decide +kernel
theorem dX6_signsOfAll_36 : decode cX6_signsOfAll 36 = .ok (.getfield 31, 3) := by decide +kernel
theorem dX6_signsOfAll_39 : decode cX6_signsOfAll 39 = .ok (.iload_n 3, 1) := by decide +kernel
theorem dX6_signsOfAll_40 : decode cX6_signsOfAll 40 = .ok (.iaload, 1) := by decide +kernel
theorem dX6_signsOfAll_41 : decode cX6_signsOfAll 41 = .ok (.ishl, 1) := by decide +kernel
theorem dX6_signsOfAll_42 : decode cX6_signsOfAll 42 = .ok (.ior, 1) := by decide +kernel
theorem dX6_signsOfAll_43 : decode cX6_signsOfAll 43 = .ok (.istore_n 2, 1) := by decide +kernel
theorem dX6_signsOfAll_44 : decode cX6_signsOfAll 44 = .ok (.iinc 3 1, 3) := by decide +kernel
theorem dX6_signsOfAll_47 : decode cX6_signsOfAll 47 = .ok (.goto (-39), 3) := by decide +kernel
theorem dX6_signsOfAll_50 : decode cX6_signsOfAll 50 = .ok (.iload_n 2, 1) := by decide +kernel
theorem dX6_signsOfAll_51 : decode cX6_signsOfAll 51 = .ok (.ireturn, 1) := by decide +kernel
theorem dX6_isFull_0 : decode cX6_isFull 0 = .ok (.aload_n 0, 1) := by decide +kernel
theorem dX6_isFull_1 : decode cX6_isFull 1 = .ok (.getfield 56, 3) := by decide +kernel
theorem dX6_isFull_4 : decode cX6_isFull 4 = .ok (.ifCond .lt 13, 3) := by decide +kernel
theorem dX6_isFull_7 : decode cX6_isFull 7 = .ok (.aload_n 0, 1) := by decide +kernel
theorem dX6_isFull_8 : decode cX6_isFull 8 = .ok (.getfield 56, 3) := by decide +kernel
theorem dX6_isFull_11 : decode cX6_isFull 11 = .ok (.sipush 133, 3) := by decide +kernel
theorem dX6_isFull_14 : decode cX6_isFull 14 = .ok (.if_icmp .lt 7, 3) := by decide +kernel
theorem dX6_isFull_17 : decode cX6_isFull 17 = .ok (.iconst 1, 1) := by decide +kernel
theorem dX6_isFull_18 : decode cX6_isFull 18 = .ok (.goto 4, 3) := by decide +kernel
theorem dX6_isFull_21 : decode cX6_isFull 21 = .ok (.iconst 0, 1) := by decide +kernel
theorem dX6_isFull_22 : decode cX6_isFull 22 = .ok (.ireturn, 1) := by decide +kernel
theorem dX6_keep_0 : decode cX6_keep 0 = .ok (.aload_n 0, 1) := by decide +kernel
theorem dX6_keep_1 : decode cX6_keep 1 = .ok (.invokevirtual 77, 3) := by decide +kernel
theorem dX6_keep_4 : decode cX6_keep 4 = .ok (.ifCond .eq 4, 3) := by decide +kernel
theorem dX6_keep_7 : decode cX6_keep 7 = .ok (.return_, 1) := by decide +kernel
theorem dX6_keep_8 : decode cX6_keep 8 = .ok (.aload_n 0, 1) := by decide +kernel
theorem dX6_keep_9 : decode cX6_keep 9 = .ok (.getfield 21, 3) := by decide +kernel
theorem dX6_keep_12 : decode cX6_keep 12 = .ok (.aload_n 0, 1) := by decide +kernel
theorem dX6_keep_13 : decode cX6_keep 13 = .ok (.getfield 56, 3) := by decide +kernel
theorem dX6_keep_16 : decode cX6_keep 16 = .ok (.iload_n 1, 1) := by decide +kernel
theorem dX6_keep_17 : decode cX6_keep 17 = .ok (.iastore, 1) := by decide +kernel
theorem dX6_keep_18 : decode cX6_keep 18 = .ok (.aload_n 0, 1) := by decide +kernel
theorem dX6_keep_19 : decode cX6_keep 19 = .ok (.getfield 25, 3) := by decide +kernel
theorem dX6_keep_22 : decode cX6_keep 22 = .ok (.aload_n 0, 1) := by decide +kernel
theorem dX6_keep_23 : decode cX6_keep 23 = .ok (.getfield 56, 3) := by decide +kernel
theorem dX6_keep_26 : decode cX6_keep 26 = .ok (.iload_n 2, 1) := by decide +kernel
theorem dX6_keep_27 : decode cX6_keep 27 = .ok (.iastore, 1) := by decide +kernel
theorem dX6_keep_28 : decode cX6_keep 28 = .ok (.aload_n 0, 1) := by decide +kernel
theorem dX6_keep_29 : decode cX6_keep 29 = .ok (.getfield 28, 3) := by decide +kernel
theorem dX6_keep_32 : decode cX6_keep 32 = .ok (.aload_n 0, 1) := by decide +kernel
theorem dX6_keep_33 : decode cX6_keep 33 = .ok (.getfield 56, 3) := by decide +kernel
theorem dX6_keep_36 : decode cX6_keep 36 = .ok (.iload_n 3, 1) := by decide +kernel
theorem dX6_keep_37 : decode cX6_keep 37 = .ok (.iastore, 1) := by decide +kernel
theorem dX6_keep_38 : decode cX6_keep 38 = .ok (.aload_n 0, 1) := by decide +kernel
theorem dX6_keep_39 : decode cX6_keep 39 = .ok (.getfield 31, 3) := by decide +kernel
theorem dX6_keep_42 : decode cX6_keep 42 = .ok (.aload_n 0, 1) := by decide +kernel
theorem dX6_keep_43 : decode cX6_keep 43 = .ok (.getfield 56, 3) := by decide +kernel
theorem dX6_keep_46 : decode cX6_keep 46 = .ok (.iload 4, 2) := by decide +kernel
theorem dX6_keep_48 : decode cX6_keep 48 = .ok (.iastore, 1) := by decide +kernel
theorem dX6_keep_49 : decode cX6_keep 49 = .ok (.aload_n 0, 1) := by decide +kernel
theorem dX6_keep_50 : decode cX6_keep 50 = .ok (.dup, 1) := by decide +kernel
theorem dX6_keep_51 : decode cX6_keep 51 = .ok (.getfield 56, 3) := by decide +kernel
theorem dX6_keep_54 : decode cX6_keep 54 = .ok (.iconst 1, 1) := by decide +kernel
theorem dX6_keep_55 : decode cX6_keep 55 = .ok (.iadd, 1) := by decide +kernel
theorem dX6_keep_56 : decode cX6_keep 56 = .ok (.putfield 56, 3) := by decide +kernel
theorem dX6_keep_59 : decode cX6_keep 59 = .ok (.aload_n 0, 1) := by decide +kernel
theorem dX6_keep_60 : decode cX6_keep 60 = .ok (.dup, 1) := by decide +kernel
theorem dX6_keep_61 : decode cX6_keep 61 = .ok (.getfield 53, 3) := by decide +kernel
theorem dX6_keep_64 : decode cX6_keep 64 = .ok (.iload_n 2, 1) := by decide +kernel
theorem dX6_keep_65 : decode cX6_keep 65 = .ok (.iadd, 1) := by decide +kernel
theorem dX6_keep_66 : decode cX6_keep 66 = .ok (.putfield 53, 3) := by decide +kernel
theorem dX6_keep_69 : decode cX6_keep 69 = .ok (.return_, 1) := by decide +kernel
theorem dX6_sendUnits_0 : decode cX6_sendUnits 0 = .ok (.iload_n 1, 1) := by decide +kernel
theorem dX6_sendUnits_1 : decode cX6_sendUnits 1 = .ok (.istore_n 2, 1) := by decide +kernel
theorem dX6_sendUnits_2 : decode cX6_sendUnits 2 = .ok (.iconst 0, 1) := by decide +kernel
theorem dX6_sendUnits_3 : decode cX6_sendUnits 3 = .ok (.istore_n 3, 1) := by decide +kernel
theorem dX6_sendUnits_4 : decode cX6_sendUnits 4 = .ok (.iload_n 3, 1) := by decide +kernel
theorem dX6_sendUnits_5 : decode cX6_sendUnits 5 = .ok (.sipush 133, 3) := by decide +kernel
theorem dX6_sendUnits_8 : decode cX6_sendUnits 8 = .ok (.if_icmp .ge 84, 3) := by decide +kernel
theorem dX6_sendUnits_11 : decode cX6_sendUnits 11 = .ok (.iload_n 2, 1) := by decide +kernel
theorem dX6_sendUnits_12 : decode cX6_sendUnits 12 = .ok (.ifCond .le 80, 3) := by decide +kernel
theorem dX6_sendUnits_15 : decode cX6_sendUnits 15 = .ok (.aload_n 0, 1) := by decide +kernel
theorem dX6_sendUnits_16 : decode cX6_sendUnits 16 = .ok (.iconst 0, 1) := by decide +kernel
theorem dX6_sendUnits_17 : decode cX6_sendUnits 17 = .ok (.invokevirtual 69, 3) := by decide +kernel
theorem dX6_sendUnits_20 : decode cX6_sendUnits 20 = .ok (.ifCond .eq 72, 3) := by decide +kernel
theorem dX6_sendUnits_23 : decode cX6_sendUnits 23 = .ok (.aload_n 0, 1) := by decide +kernel
theorem dX6_sendUnits_24 : decode cX6_sendUnits 24 = .ok (.invokevirtual 81, 3) := by decide +kernel
theorem dX6_sendUnits_27 : decode cX6_sendUnits 27 = .ok (.istore 4, 2) := by decide +kernel
theorem dX6_sendUnits_29 : decode cX6_sendUnits 29 = .ok (.iload_n 2, 1) := by decide +kernel
theorem dX6_sendUnits_30 : decode cX6_sendUnits 30 = .ok (.aload_n 0, 1) := by decide +kernel
theorem dX6_sendUnits_31 : decode cX6_sendUnits 31 = .ok (.getfield 25, 3) := by decide +kernel
theorem dX6_sendUnits_34 : decode cX6_sendUnits 34 = .ok (.iload 4, 2) := by decide +kernel
theorem dX6_sendUnits_36 : decode cX6_sendUnits 36 = .ok (.iaload, 1) := by decide +kernel
theorem dX6_sendUnits_37 : decode cX6_sendUnits 37 = .ok (.invokestatic 59, 3) := by decide +kernel
theorem dX6_sendUnits_40 : decode cX6_sendUnits 40 = .ok (.istore 5, 2) := by decide +kernel
theorem dX6_sendUnits_42 : decode cX6_sendUnits 42 = .ok (.iload_n 2, 1) := by decide +kernel
theorem dX6_sendUnits_43 : decode cX6_sendUnits 43 = .ok (.iload 5, 2) := by decide +kernel
theorem dX6_sendUnits_45 : decode cX6_sendUnits 45 = .ok (.isub, 1) := by decide +kernel
theorem dX6_sendUnits_46 : decode cX6_sendUnits 46 = .ok (.istore_n 2, 1) := by decide +kernel
theorem dX6_sendUnits_47 : decode cX6_sendUnits 47 = .ok (.aload_n 0, 1) := by decide +kernel
theorem dX6_sendUnits_48 : decode cX6_sendUnits 48 = .ok (.dup, 1) := by decide +kernel
theorem dX6_sendUnits_49 : decode cX6_sendUnits 49 = .ok (.getfield 50, 3) := by decide +kernel
theorem dX6_sendUnits_52 : decode cX6_sendUnits 52 = .ok (.iload 5, 2) := by decide +kernel
theorem dX6_sendUnits_54 : decode cX6_sendUnits 54 = .ok (.iadd, 1) := by decide +kernel
theorem dX6_sendUnits_55 : decode cX6_sendUnits 55 = .ok (.putfield 50, 3) := by decide +kernel
theorem dX6_sendUnits_58 : decode cX6_sendUnits 58 = .ok (.aload_n 0, 1) := by decide +kernel
theorem dX6_sendUnits_59 : decode cX6_sendUnits 59 = .ok (.getfield 25, 3) := by decide +kernel
theorem dX6_sendUnits_62 : decode cX6_sendUnits 62 = .ok (.iload 4, 2) := by decide +kernel
theorem dX6_sendUnits_64 : decode cX6_sendUnits 64 = .ok (.dup2, 1) := by decide +kernel
theorem dX6_sendUnits_65 : decode cX6_sendUnits 65 = .ok (.iaload, 1) := by decide +kernel
theorem dX6_sendUnits_66 : decode cX6_sendUnits 66 = .ok (.iload 5, 2) := by decide +kernel
theorem dX6_sendUnits_68 : decode cX6_sendUnits 68 = .ok (.isub, 1) := by decide +kernel
theorem dX6_sendUnits_69 : decode cX6_sendUnits 69 = .ok (.iastore, 1) := by decide +kernel
theorem dX6_sendUnits_70 : decode cX6_sendUnits 70 = .ok (.aload_n 0, 1) := by decide +kernel
theorem dX6_sendUnits_71 : decode cX6_sendUnits 71 = .ok (.getfield 25, 3) := by decide +kernel
theorem dX6_sendUnits_74 : decode cX6_sendUnits 74 = .ok (.iload 4, 2) := by decide +kernel
theorem dX6_sendUnits_76 : decode cX6_sendUnits 76 = .ok (.iaload, 1) := by decide +kernel
theorem dX6_sendUnits_77 : decode cX6_sendUnits 77 = .ok (.ifCond .ne 9, 3) := by decide +kernel
theorem dX6_sendUnits_80 : decode cX6_sendUnits 80 = .ok (.aload_n 0, 1) := by decide +kernel
theorem dX6_sendUnits_81 : decode cX6_sendUnits 81 = .ok (.iload 4, 2) := by decide +kernel
theorem dX6_sendUnits_83 : decode cX6_sendUnits 83 = .ok (.invokevirtual 84, 3) := by decide +kernel
theorem dX6_sendUnits_86 : decode cX6_sendUnits 86 = .ok (.iinc 3 1, 3) := by decide +kernel
theorem dX6_sendUnits_89 : decode cX6_sendUnits 89 = .ok (.goto (-85), 3) := by decide +kernel
theorem dX6_sendUnits_92 : decode cX6_sendUnits 92 = .ok (.return_, 1) := by decide +kernel
theorem dX6_mostUrgent_0 : decode cX6_mostUrgent 0 = .ok (.iconst 0, 1) := by decide +kernel
theorem dX6_mostUrgent_1 : decode cX6_mostUrgent 1 = .ok (.istore_n 1, 1) := by decide +kernel
theorem dX6_mostUrgent_2 : decode cX6_mostUrgent 2 = .ok (.iconst 1, 1) := by decide +kernel
theorem dX6_mostUrgent_3 : decode cX6_mostUrgent 3 = .ok (.istore_n 2, 1) := by decide +kernel
theorem dX6_mostUrgent_4 : decode cX6_mostUrgent 4 = .ok (.iload_n 2, 1) := by decide +kernel
theorem dX6_mostUrgent_5 : decode cX6_mostUrgent 5 = .ok (.aload_n 0, 1) := by decide +kernel
theorem dX6_mostUrgent_6 : decode cX6_mostUrgent 6 = .ok (.getfield 56, 3) := by decide +kernel
theorem dX6_mostUrgent_9 : decode cX6_mostUrgent 9 = .ok (.if_icmp .ge 33, 3) := by decide +kernel
theorem dX6_mostUrgent_12 : decode cX6_mostUrgent 12 = .ok (.iload_n 2, 1) := by decide +kernel
theorem dX6_mostUrgent_13 : decode cX6_mostUrgent 13 = .ok (.sipush 133, 3) := by decide +kernel
theorem dX6_mostUrgent_16 : decode cX6_mostUrgent 16 = .ok (.if_icmp .ge 26, 3) := by decide +kernel
theorem dX6_mostUrgent_19 : decode cX6_mostUrgent 19 = .ok (.aload_n 0, 1) := by decide +kernel
theorem dX6_mostUrgent_20 : decode cX6_mostUrgent 20 = .ok (.getfield 28, 3) := by decide +kernel
theorem dX6_mostUrgent_23 : decode cX6_mostUrgent 23 = .ok (.iload_n 2, 1) := by decide +kernel
theorem dX6_mostUrgent_24 : decode cX6_mostUrgent 24 = .ok (.iaload, 1) := by decide +kernel
theorem dX6_mostUrgent_25 : decode cX6_mostUrgent 25 = .ok (.aload_n 0, 1) := by decide +kernel
theorem dX6_mostUrgent_26 : decode cX6_mostUrgent 26 = .ok (.getfield 28, 3) := by decide +kernel
theorem dX6_mostUrgent_29 : decode cX6_mostUrgent 29 = .ok (.iload_n 1, 1) := by decide +kernel
theorem dX6_mostUrgent_30 : decode cX6_mostUrgent 30 = .ok (.iaload, 1) := by decide +kernel
theorem dX6_mostUrgent_31 : decode cX6_mostUrgent 31 = .ok (.if_icmp .le 5, 3) := by decide +kernel
theorem dX6_mostUrgent_34 : decode cX6_mostUrgent 34 = .ok (.iload_n 2, 1) := by decide +kernel
theorem dX6_mostUrgent_35 : decode cX6_mostUrgent 35 = .ok (.istore_n 1, 1) := by decide +kernel
theorem dX6_mostUrgent_36 : decode cX6_mostUrgent 36 = .ok (.iinc 2 1, 3) := by decide +kernel
theorem dX6_mostUrgent_39 : decode cX6_mostUrgent 39 = .ok (.goto (-35), 3) := by decide +kernel
theorem dX6_mostUrgent_42 : decode cX6_mostUrgent 42 = .ok (.iload_n 1, 1) := by decide +kernel
theorem dX6_mostUrgent_43 : decode cX6_mostUrgent 43 = .ok (.ireturn, 1) := by decide +kernel
theorem dX6_finishPiece_0 : decode cX6_finishPiece 0 = .ok (.aload_n 0, 1) := by decide +kernel
theorem dX6_finishPiece_1 : decode cX6_finishPiece 1 = .ok (.iload_n 1, 1) := by decide +kernel
theorem dX6_finishPiece_2 : decode cX6_finishPiece 2 = .ok (.invokevirtual 69, 3) := by decide +kernel
theorem dX6_finishPiece_5 : decode cX6_finishPiece 5 = .ok (.ifCond .ne 4, 3) := by decide +kernel
theorem dX6_finishPiece_8 : decode cX6_finishPiece 8 = .ok (.return_, 1) := by decide +kernel
theorem dX6_finishPiece_9 : decode cX6_finishPiece 9 = .ok (.aload_n 0, 1) := by decide +kernel
theorem dX6_finishPiece_10 : decode cX6_finishPiece 10 = .ok (.getfield 21, 3) := by decide +kernel
theorem dX6_finishPiece_13 : decode cX6_finishPiece 13 = .ok (.iload_n 1, 1) := by decide +kernel
theorem dX6_finishPiece_14 : decode cX6_finishPiece 14 = .ok (.iaload, 1) := by decide +kernel
theorem dX6_finishPiece_15 : decode cX6_finishPiece 15 = .ok (.istore_n 2, 1) := by decide +kernel
theorem dX6_finishPiece_16 : decode cX6_finishPiece 16 = .ok (.iload_n 2, 1) := by decide +kernel
theorem dX6_finishPiece_17 : decode cX6_finishPiece 17 = .ok (.ifCond .lt 26, 3) := by decide +kernel
theorem dX6_finishPiece_20 : decode cX6_finishPiece 20 = .ok (.iload_n 2, 1) := by decide +kernel
theorem dX6_finishPiece_21 : decode cX6_finishPiece 21 = .ok (.bipush 12, 2) := by decide +kernel
theorem dX6_finishPiece_23 : decode cX6_finishPiece 23 = .ok (.if_icmp .ge 20, 3) := by decide +kernel
theorem dX6_finishPiece_26 : decode cX6_finishPiece 26 = .ok (.aload_n 0, 1) := by decide +kernel
theorem dX6_finishPiece_27 : decode cX6_finishPiece 27 = .ok (.getfield 34, 3) := by decide +kernel
theorem dX6_finishPiece_30 : decode cX6_finishPiece 30 = .ok (.iload_n 2, 1) := by decide +kernel
theorem dX6_finishPiece_31 : decode cX6_finishPiece 31 = .ok (.dup2, 1) := by decide +kernel
theorem dX6_finishPiece_32 : decode cX6_finishPiece 32 = .ok (.iaload, 1) := by decide +kernel
theorem dX6_finishPiece_33 : decode cX6_finishPiece 33 = .ok (.iconst 1, 1) := by decide +kernel
theorem dX6_finishPiece_34 : decode cX6_finishPiece 34 = .ok (.aload_n 0, 1) := by decide +kernel
theorem dX6_finishPiece_35 : decode cX6_finishPiece 35 = .ok (.getfield 31, 3) := by decide +kernel
theorem dX6_finishPiece_38 : decode cX6_finishPiece 38 = .ok (.iload_n 1, 1) := by decide +kernel
theorem dX6_finishPiece_39 : decode cX6_finishPiece 39 = .ok (.iaload, 1) := by decide +kernel
theorem dX6_finishPiece_40 : decode cX6_finishPiece 40 = .ok (.ishl, 1) := by decide +kernel
theorem dX6_finishPiece_41 : decode cX6_finishPiece 41 = .ok (.ior, 1) := by decide +kernel
theorem dX6_finishPiece_42 : decode cX6_finishPiece 42 = .ok (.iastore, 1) := by decide +kernel
theorem dX6_finishPiece_43 : decode cX6_finishPiece 43 = .ok (.iload_n 1, 1) := by decide +kernel
theorem dX6_finishPiece_44 : decode cX6_finishPiece 44 = .ok (.istore_n 3, 1) := by decide +kernel
theorem dX6_finishPiece_45 : decode cX6_finishPiece 45 = .ok (.iload_n 3, 1) := by decide +kernel
theorem dX6_finishPiece_46 : decode cX6_finishPiece 46 = .ok (.iconst 1, 1) := by decide +kernel
theorem dX6_finishPiece_47 : decode cX6_finishPiece 47 = .ok (.iadd, 1) := by decide +kernel
theorem dX6_finishPiece_48 : decode cX6_finishPiece 48 = .ok (.aload_n 0, 1) := by decide +kernel
theorem dX6_finishPiece_49 : decode cX6_finishPiece 49 = .ok (.getfield 56, 3) := by decide +kernel
theorem dX6_finishPiece_52 : decode cX6_finishPiece 52 = .ok (.if_icmp .ge 74, 3) := by decide +kernel
theorem dX6_finishPiece_55 : decode cX6_finishPiece 55 = .ok (.iload_n 3, 1) := by decide +kernel
theorem dX6_finishPiece_56 : decode cX6_finishPiece 56 = .ok (.iconst 1, 1) := by decide +kernel
theorem dX6_finishPiece_57 : decode cX6_finishPiece 57 = .ok (.iadd, 1) := by decide +kernel
theorem dX6_finishPiece_58 : decode cX6_finishPiece 58 = .ok (.sipush 133, 3) := by decide +kernel
theorem dX6_finishPiece_61 : decode cX6_finishPiece 61 = .ok (.if_icmp .ge 65, 3) := by decide +kernel
theorem dX6_finishPiece_64 : decode cX6_finishPiece 64 = .ok (.aload_n 0, 1) := by decide +kernel
theorem dX6_finishPiece_65 : decode cX6_finishPiece 65 = .ok (.getfield 21, 3) := by decide +kernel
theorem dX6_finishPiece_68 : decode cX6_finishPiece 68 = .ok (.iload_n 3, 1) := by decide +kernel
theorem dX6_finishPiece_69 : decode cX6_finishPiece 69 = .ok (.aload_n 0, 1) := by decide +kernel
theorem dX6_finishPiece_70 : decode cX6_finishPiece 70 = .ok (.getfield 21, 3) := by decide +kernel
theorem dX6_finishPiece_73 : decode cX6_finishPiece 73 = .ok (.iload_n 3, 1) := by decide +kernel
theorem dX6_finishPiece_74 : decode cX6_finishPiece 74 = .ok (.iconst 1, 1) := by decide +kernel
theorem dX6_finishPiece_75 : decode cX6_finishPiece 75 = .ok (.iadd, 1) := by decide +kernel
theorem dX6_finishPiece_76 : decode cX6_finishPiece 76 = .ok (.iaload, 1) := by decide +kernel
theorem dX6_finishPiece_77 : decode cX6_finishPiece 77 = .ok (.iastore, 1) := by decide +kernel
theorem dX6_finishPiece_78 : decode cX6_finishPiece 78 = .ok (.aload_n 0, 1) := by decide +kernel
theorem dX6_finishPiece_79 : decode cX6_finishPiece 79 = .ok (.getfield 25, 3) := by decide +kernel
theorem dX6_finishPiece_82 : decode cX6_finishPiece 82 = .ok (.iload_n 3, 1) := by decide +kernel
theorem dX6_finishPiece_83 : decode cX6_finishPiece 83 = .ok (.aload_n 0, 1) := by decide +kernel
theorem dX6_finishPiece_84 : decode cX6_finishPiece 84 = .ok (.getfield 25, 3) := by decide +kernel
theorem dX6_finishPiece_87 : decode cX6_finishPiece 87 = .ok (.iload_n 3, 1) := by decide +kernel
theorem dX6_finishPiece_88 : decode cX6_finishPiece 88 = .ok (.iconst 1, 1) := by decide +kernel
theorem dX6_finishPiece_89 : decode cX6_finishPiece 89 = .ok (.iadd, 1) := by decide +kernel
theorem dX6_finishPiece_90 : decode cX6_finishPiece 90 = .ok (.iaload, 1) := by decide +kernel
theorem dX6_finishPiece_91 : decode cX6_finishPiece 91 = .ok (.iastore, 1) := by decide +kernel
theorem dX6_finishPiece_92 : decode cX6_finishPiece 92 = .ok (.aload_n 0, 1) := by decide +kernel
theorem dX6_finishPiece_93 : decode cX6_finishPiece 93 = .ok (.getfield 28, 3) := by decide +kernel
theorem dX6_finishPiece_96 : decode cX6_finishPiece 96 = .ok (.iload_n 3, 1) := by decide +kernel
theorem dX6_finishPiece_97 : decode cX6_finishPiece 97 = .ok (.aload_n 0, 1) := by decide +kernel
theorem dX6_finishPiece_98 : decode cX6_finishPiece 98 = .ok (.getfield 28, 3) := by decide +kernel
theorem dX6_finishPiece_101 : decode cX6_finishPiece 101 = .ok (.iload_n 3, 1) := by decide +kernel
theorem dX6_finishPiece_102 : decode cX6_finishPiece 102 = .ok (.iconst 1, 1) := by decide +kernel
theorem dX6_finishPiece_103 : decode cX6_finishPiece 103 = .ok (.iadd, 1) := by decide +kernel
theorem dX6_finishPiece_104 : decode cX6_finishPiece 104 = .ok (.iaload, 1) := by decide +kernel
theorem dX6_finishPiece_105 : decode cX6_finishPiece 105 = .ok (.iastore, 1) := by decide +kernel
theorem dX6_finishPiece_106 : decode cX6_finishPiece 106 = .ok (.aload_n 0, 1) := by decide +kernel
theorem dX6_finishPiece_107 : decode cX6_finishPiece 107 = .ok (.getfield 31, 3) := by decide +kernel
theorem dX6_finishPiece_110 : decode cX6_finishPiece 110 = .ok (.iload_n 3, 1) := by decide +kernel
theorem dX6_finishPiece_111 : decode cX6_finishPiece 111 = .ok (.aload_n 0, 1) := by decide +kernel
theorem dX6_finishPiece_112 : decode cX6_finishPiece 112 = .ok (.getfield 31, 3) := by decide +kernel
theorem dX6_finishPiece_115 : decode cX6_finishPiece 115 = .ok (.iload_n 3, 1) := by decide +kernel
theorem dX6_finishPiece_116 : decode cX6_finishPiece 116 = .ok (.iconst 1, 1) := by decide +kernel
theorem dX6_finishPiece_117 : decode cX6_finishPiece 117 = .ok (.iadd, 1) := by decide +kernel
theorem dX6_finishPiece_118 : decode cX6_finishPiece 118 = .ok (.iaload, 1) := by decide +kernel
theorem dX6_finishPiece_119 : decode cX6_finishPiece 119 = .ok (.iastore, 1) := by decide +kernel
theorem dX6_finishPiece_120 : decode cX6_finishPiece 120 = .ok (.iinc 3 1, 3) := by decide +kernel
theorem dX6_finishPiece_123 : decode cX6_finishPiece 123 = .ok (.goto (-78), 3) := by decide +kernel
theorem dX6_finishPiece_126 : decode cX6_finishPiece 126 = .ok (.aload_n 0, 1) := by decide +kernel
theorem dX6_finishPiece_127 : decode cX6_finishPiece 127 = .ok (.dup, 1) := by decide +kernel
theorem dX6_finishPiece_128 : decode cX6_finishPiece 128 = .ok (.getfield 56, 3) := by decide +kernel
theorem dX6_finishPiece_131 : decode cX6_finishPiece 131 = .ok (.iconst 1, 1) := by decide +kernel
theorem dX6_finishPiece_132 : decode cX6_finishPiece 132 = .ok (.isub, 1) := by decide +kernel
theorem dX6_finishPiece_133 : decode cX6_finishPiece 133 = .ok (.putfield 56, 3) := by decide +kernel
theorem dX6_finishPiece_136 : decode cX6_finishPiece 136 = .ok (.return_, 1) := by decide +kernel
theorem dX7_init_0 : decode cX7_init 0 = .ok (.aload_n 0, 1) := by decide +kernel
theorem dX7_init_1 : decode cX7_init 1 = .ok (.invokespecial 3, 3) := by decide +kernel
theorem dX7_init_4 : decode cX7_init 4 = .ok (.aload_n 0, 1) := by decide +kernel
theorem dX7_init_5 : decode cX7_init 5 = .ok (.bipush 12, 2) := by decide +kernel
theorem dX7_init_7 : decode cX7_init 7 = .ok (.newarray .int, 2) := by decide +kernel
theorem dX7_init_9 : decode cX7_init 9 = .ok (.putfield 9, 3) := by decide +kernel
theorem dX7_init_12 : decode cX7_init 12 = .ok (.aload_n 0, 1) := by decide +kernel
theorem dX7_init_13 : decode cX7_init 13 = .ok (.bipush 12, 2) := by decide +kernel
theorem dX7_init_15 : decode cX7_init 15 = .ok (.newarray .int, 2) := by decide +kernel
theorem dX7_init_17 : decode cX7_init 17 = .ok (.putfield 15, 3) := by decide +kernel
theorem dX7_init_20 : decode cX7_init 20 = .ok (.aload_n 0, 1) := by decide +kernel
theorem dX7_init_21 : decode cX7_init 21 = .ok (.bipush 12, 2) := by decide +kernel
theorem dX7_init_23 : decode cX7_init 23 = .ok (.newarray .int, 2) := by decide +kernel
theorem dX7_init_25 : decode cX7_init 25 = .ok (.putfield 18, 3) := by decide +kernel
theorem dX7_init_28 : decode cX7_init 28 = .ok (.aload_n 0, 1) := by decide +kernel
theorem dX7_init_29 : decode cX7_init 29 = .ok (.bipush 12, 2) := by decide +kernel
theorem dX7_init_31 : decode cX7_init 31 = .ok (.newarray .int, 2) := by decide +kernel
theorem dX7_init_33 : decode cX7_init 33 = .ok (.putfield 21, 3) := by decide +kernel
theorem dX7_init_36 : decode cX7_init 36 = .ok (.return_, 1) := by decide +kernel
theorem dX7_isFull_0 : decode cX7_isFull 0 = .ok (.aload_n 0, 1) := by decide +kernel
theorem dX7_isFull_1 : decode cX7_isFull 1 = .ok (.getfield 24, 3) := by decide +kernel
theorem dX7_isFull_4 : decode cX7_isFull 4 = .ok (.bipush 12, 2) := by decide +kernel
theorem dX7_isFull_6 : decode cX7_isFull 6 = .ok (.if_icmp .lt 7, 3) := by decide +kernel
theorem dX7_isFull_9 : decode cX7_isFull 9 = .ok (.iconst 1, 1) := by decide +kernel
theorem dX7_isFull_10 : decode cX7_isFull 10 = .ok (.goto 4, 3) := by decide +kernel
theorem dX7_isFull_13 : decode cX7_isFull 13 = .ok (.iconst 0, 1) := by decide +kernel
theorem dX7_isFull_14 : decode cX7_isFull 14 = .ok (.ireturn, 1) := by decide +kernel
theorem dX7_has_0 : decode cX7_has 0 = .ok (.iload_n 1, 1) := by decide +kernel
theorem dX7_has_1 : decode cX7_has 1 = .ok (.ifCond .lt 21, 3) := by decide +kernel
theorem dX7_has_4 : decode cX7_has 4 = .ok (.iload_n 1, 1) := by decide +kernel
theorem dX7_has_5 : decode cX7_has 5 = .ok (.aload_n 0, 1) := by decide +kernel
theorem dX7_has_6 : decode cX7_has 6 = .ok (.getfield 24, 3) := by decide +kernel
theorem dX7_has_9 : decode cX7_has 9 = .ok (.if_icmp .ge 13, 3) := by decide +kernel
theorem dX7_has_12 : decode cX7_has 12 = .ok (.iload_n 1, 1) := by decide +kernel
theorem dX7_has_13 : decode cX7_has 13 = .ok (.bipush 12, 2) := by decide +kernel
theorem dX7_has_15 : decode cX7_has 15 = .ok (.if_icmp .ge 7, 3) := by decide +kernel
theorem dX7_has_18 : decode cX7_has 18 = .ok (.iconst 1, 1) := by decide +kernel
theorem dX7_has_19 : decode cX7_has 19 = .ok (.goto 4, 3) := by decide +kernel
theorem dX7_has_22 : decode cX7_has 22 = .ok (.iconst 0, 1) := by decide +kernel
theorem dX7_has_23 : decode cX7_has 23 = .ok (.ireturn, 1) := by decide +kernel
theorem dX7_append_0 : decode cX7_append 0 = .ok (.aload_n 0, 1) := by decide +kernel
theorem dX7_append_1 : decode cX7_append 1 = .ok (.invokevirtual 28, 3) := by decide +kernel
theorem dX7_append_4 : decode cX7_append 4 = .ok (.ifCond .ne 10, 3) := by decide +kernel
theorem dX7_append_7 : decode cX7_append 7 = .ok (.aload_n 0, 1) := by decide +kernel
theorem dX7_append_8 : decode cX7_append 8 = .ok (.getfield 24, 3) := by decide +kernel
theorem dX7_append_11 : decode cX7_append 11 = .ok (.ifCond .ge 5, 3) := by decide +kernel
theorem dX7_append_14 : decode cX7_append 14 = .ok (.iconst (-1), 1) := by decide +kernel
theorem dX7_append_15 : decode cX7_append 15 = .ok (.ireturn, 1) := by decide +kernel
theorem dX7_append_16 : decode cX7_append 16 = .ok (.aload_n 0, 1) := by decide +kernel
theorem dX7_append_17 : decode cX7_append 17 = .ok (.getfield 9, 3) := by decide +kernel
theorem dX7_append_20 : decode cX7_append 20 = .ok (.aload_n 0, 1) := by decide +kernel
theorem dX7_append_21 : decode cX7_append 21 = .ok (.getfield 24, 3) := by decide +kernel
theorem dX7_append_24 : decode cX7_append 24 = .ok (.iload_n 1, 1) := by decide +kernel
theorem dX7_append_25 : decode cX7_append 25 = .ok (.iastore, 1) := by decide +kernel
theorem dX7_append_26 : decode cX7_append 26 = .ok (.aload_n 0, 1) := by decide +kernel
theorem dX7_append_27 : decode cX7_append 27 = .ok (.getfield 15, 3) := by decide +kernel
theorem dX7_append_30 : decode cX7_append 30 = .ok (.aload_n 0, 1) := by decide +kernel
theorem dX7_append_31 : decode cX7_append 31 = .ok (.getfield 24, 3) := by decide +kernel
theorem dX7_append_34 : decode cX7_append 34 = .ok (.iload_n 2, 1) := by decide +kernel
theorem dX7_append_35 : decode cX7_append 35 = .ok (.iastore, 1) := by decide +kernel
theorem dX7_append_36 : decode cX7_append 36 = .ok (.aload_n 0, 1) := by decide +kernel
theorem dX7_append_37 : decode cX7_append 37 = .ok (.getfield 18, 3) := by decide +kernel
theorem dX7_append_40 : decode cX7_append 40 = .ok (.aload_n 0, 1) := by decide +kernel
theorem dX7_append_41 : decode cX7_append 41 = .ok (.getfield 24, 3) := by decide +kernel
theorem dX7_append_44 : decode cX7_append 44 = .ok (.iload_n 3, 1) := by decide +kernel
theorem dX7_append_45 : decode cX7_append 45 = .ok (.iastore, 1) := by decide +kernel
theorem dX7_append_46 : decode cX7_append 46 = .ok (.aload_n 0, 1) := by decide +kernel
theorem dX7_append_47 : decode cX7_append 47 = .ok (.getfield 21, 3) := by decide +kernel
theorem dX7_append_50 : decode cX7_append 50 = .ok (.aload_n 0, 1) := by decide +kernel
theorem dX7_append_51 : decode cX7_append 51 = .ok (.getfield 24, 3) := by decide +kernel
theorem dX7_append_54 : decode cX7_append 54 = .ok (.iload 4, 2) := by decide +kernel
theorem dX7_append_56 : decode cX7_append 56 = .ok (.iastore, 1) := by decide +kernel
theorem dX7_append_57 : decode cX7_append 57 = .ok (.aload_n 0, 1) := by decide +kernel
theorem dX7_append_58 : decode cX7_append 58 = .ok (.dup, 1) := by decide +kernel
theorem dX7_append_59 : decode cX7_append 59 = .ok (.getfield 24, 3) := by decide +kernel
theorem dX7_append_62 : decode cX7_append 62 = .ok (.iconst 1, 1) := by decide +kernel
theorem dX7_append_63 : decode cX7_append 63 = .ok (.iadd, 1) := by decide +kernel
theorem dX7_append_64 : decode cX7_append 64 = .ok (.putfield 24, 3) := by decide +kernel
theorem dX7_append_67 : decode cX7_append 67 = .ok (.aload_n 0, 1) := by decide +kernel
theorem dX7_append_68 : decode cX7_append 68 = .ok (.getfield 24, 3) := by decide +kernel
theorem dX7_append_71 : decode cX7_append 71 = .ok (.iconst 1, 1) := by decide +kernel
theorem dX7_append_72 : decode cX7_append 72 = .ok (.isub, 1) := by decide +kernel
theorem dX7_append_73 : decode cX7_append 73 = .ok (.ireturn, 1) := by decide +kernel
theorem dX7_xOf_0 : decode cX7_xOf 0 = .ok (.aload_n 0, 1) := by decide +kernel
theorem dX7_xOf_1 : decode cX7_xOf 1 = .ok (.iload_n 1, 1) := by decide +kernel
theorem dX7_xOf_2 : decode cX7_xOf 2 = .ok (.invokevirtual 32, 3) := by decide +kernel
theorem dX7_xOf_5 : decode cX7_xOf 5 = .ok (.ifCond .eq 12, 3) := by decide +kernel
theorem dX7_xOf_8 : decode cX7_xOf 8 = .ok (.aload_n 0, 1) := by decide +kernel
theorem dX7_xOf_9 : decode cX7_xOf 9 = .ok (.getfield 9, 3) := by decide +kernel
theorem dX7_xOf_12 : decode cX7_xOf 12 = .ok (.iload_n 1, 1) := by decide +kernel
theorem dX7_xOf_13 : decode cX7_xOf 13 = .ok (.iaload, 1) := by decide +kernel
theorem dX7_xOf_14 : decode cX7_xOf 14 = .ok (.goto 4, 3) := by decide +kernel
theorem dX7_xOf_17 : decode cX7_xOf 17 = .ok (.iconst (-1), 1) := by decide +kernel
theorem dX7_xOf_18 : decode cX7_xOf 18 = .ok (.ireturn, 1) := by decide +kernel
theorem dX7_yOf_0 : decode cX7_yOf 0 = .ok (.aload_n 0, 1) := by decide +kernel
theorem dX7_yOf_1 : decode cX7_yOf 1 = .ok (.iload_n 1, 1) := by decide +kernel
theorem dX7_yOf_2 : decode cX7_yOf 2 = .ok (.invokevirtual 32, 3) := by decide +kernel
theorem dX7_yOf_5 : decode cX7_yOf 5 = .ok (.ifCond .eq 12, 3) := by decide +kernel
theorem dX7_yOf_8 : decode cX7_yOf 8 = .ok (.aload_n 0, 1) := by decide +kernel
theorem dX7_yOf_9 : decode cX7_yOf 9 = .ok (.getfield 15, 3) := by decide +kernel
theorem dX7_yOf_12 : decode cX7_yOf 12 = .ok (.iload_n 1, 1) := by decide +kernel
theorem dX7_yOf_13 : decode cX7_yOf 13 = .ok (.iaload, 1) := by decide +kernel
theorem dX7_yOf_14 : decode cX7_yOf 14 = .ok (.goto 4, 3) := by decide +kernel
theorem dX7_yOf_17 : decode cX7_yOf 17 = .ok (.iconst (-1), 1) := by decide +kernel
theorem dX7_yOf_18 : decode cX7_yOf 18 = .ok (.ireturn, 1) := by decide +kernel
theorem dX7_valueOf_0 : decode cX7_valueOf 0 = .ok (.aload_n 0, 1) := by decide +kernel
theorem dX7_valueOf_1 : decode cX7_valueOf 1 = .ok (.iload_n 1, 1) := by decide +kernel
theorem dX7_valueOf_2 : decode cX7_valueOf 2 = .ok (.invokevirtual 32, 3) := by decide +kernel
theorem dX7_valueOf_5 : decode cX7_valueOf 5 = .ok (.ifCond .eq 12, 3) := by decide +kernel
theorem dX7_valueOf_8 : decode cX7_valueOf 8 = .ok (.aload_n 0, 1) := by decide +kernel
theorem dX7_valueOf_9 : decode cX7_valueOf 9 = .ok (.getfield 18, 3) := by decide +kernel
theorem dX7_valueOf_12 : decode cX7_valueOf 12 = .ok (.iload_n 1, 1) := by decide +kernel
theorem dX7_valueOf_13 : decode cX7_valueOf 13 = .ok (.iaload, 1) := by decide +kernel
theorem dX7_valueOf_14 : decode cX7_valueOf 14 = .ok (.goto 4, 3) := by decide +kernel
theorem dX7_valueOf_17 : decode cX7_valueOf 17 = .ok (.iconst 0, 1) := by decide +kernel
theorem dX7_valueOf_18 : decode cX7_valueOf 18 = .ok (.ireturn, 1) := by decide +kernel
theorem dX7_needOf_0 : decode cX7_needOf 0 = .ok (.aload_n 0, 1) := by decide +kernel
theorem dX7_needOf_1 : decode cX7_needOf 1 = .ok (.iload_n 1, 1) := by decide +kernel
theorem dX7_needOf_2 : decode cX7_needOf 2 = .ok (.invokevirtual 32, 3) := by decide +kernel
theorem dX7_needOf_5 : decode cX7_needOf 5 = .ok (.ifCond .eq 12, 3) := by decide +kernel
theorem dX7_needOf_8 : decode cX7_needOf 8 = .ok (.aload_n 0, 1) := by decide +kernel
theorem dX7_needOf_9 : decode cX7_needOf 9 = .ok (.getfield 21, 3) := by decide +kernel
theorem dX7_needOf_12 : decode cX7_needOf 12 = .ok (.iload_n 1, 1) := by decide +kernel
theorem dX7_needOf_13 : decode cX7_needOf 13 = .ok (.iaload, 1) := by decide +kernel
theorem dX7_needOf_14 : decode cX7_needOf 14 = .ok (.goto 4, 3) := by decide +kernel
theorem dX7_needOf_17 : decode cX7_needOf 17 = .ok (.iconst 0, 1) := by decide +kernel
theorem dX7_needOf_18 : decode cX7_needOf 18 = .ok (.ireturn, 1) := by decide +kernel
theorem dX7_isMet_0 : decode cX7_isMet 0 = .ok (.aload_n 0, 1) := by decide +kernel
theorem dX7_isMet_1 : decode cX7_isMet 1 = .ok (.iload_n 1, 1) := by decide +kernel
theorem dX7_isMet_2 : decode cX7_isMet 2 = .ok (.invokevirtual 36, 3) := by decide +kernel
theorem dX7_isMet_5 : decode cX7_isMet 5 = .ok (.istore_n 3, 1) := by decide +kernel
theorem dX7_isMet_6 : decode cX7_isMet 6 = .ok (.iload_n 3, 1) := by decide +kernel
theorem dX7_isMet_7 : decode cX7_isMet 7 = .ok (.iconst 4, 1) := by decide +kernel
theorem dX7_isMet_8 : decode cX7_isMet 8 = .ok (.if_icmp .ne 10, 3) := by decide +kernel
theorem dX7_isMet_11 : decode cX7_isMet 11 = .ok (.iload_n 2, 1) := by decide +kernel
theorem dX7_isMet_12 : decode cX7_isMet 12 = .ok (.invokestatic 40, 3) := by decide +kernel
theorem dX7_isMet_15 : decode cX7_isMet 15 = .ok (.goto 16, 3) := by decide +kernel
theorem dX7_isMet_18 : decode cX7_isMet 18 = .ok (.iload_n 2, 1) := by decide +kernel
theorem dX7_isMet_19 : decode cX7_isMet 19 = .ok (.invokestatic 43, 3) := by decide +kernel
theorem dX7_isMet_22 : decode cX7_isMet 22 = .ok (.iload_n 3, 1) := by decide +kernel
theorem dX7_isMet_23 : decode cX7_isMet 23 = .ok (.if_icmp .lt 7, 3) := by decide +kernel
theorem dX7_isMet_26 : decode cX7_isMet 26 = .ok (.iconst 1, 1) := by decide +kernel
theorem dX7_isMet_27 : decode cX7_isMet 27 = .ok (.goto 4, 3) := by decide +kernel
theorem dX7_isMet_30 : decode cX7_isMet 30 = .ok (.iconst 0, 1) := by decide +kernel
theorem dX7_isMet_31 : decode cX7_isMet 31 = .ok (.ireturn, 1) := by decide +kernel
theorem dX7_tell_0 : decode cX7_tell 0 = .ok (.aload_n 3, 1) := by decide +kernel
theorem dX7_tell_1 : decode cX7_tell 1 = .ok (.iload_n 1, 1) := by decide +kernel
theorem dX7_tell_2 : decode cX7_tell 2 = .ok (.invokevirtual 46, 3) := by decide +kernel
theorem dX7_tell_5 : decode cX7_tell 5 = .ok (.istore 4, 2) := by decide +kernel
theorem dX7_tell_7 : decode cX7_tell 7 = .ok (.iload_n 2, 1) := by decide +kernel
theorem dX7_tell_8 : decode cX7_tell 8 = .ok (.tableswitch 77 0 4 #[36, 42, 48, 54, 63], 36) := by decide +kernel
theorem dX7_tell_44 : decode cX7_tell 44 = .ok (.aload_n 0, 1) := by decide +kernel
theorem dX7_tell_45 : decode cX7_tell 45 = .ok (.iload_n 1, 1) := by decide +kernel
theorem dX7_tell_46 : decode cX7_tell 46 = .ok (.invokevirtual 51, 3) := by decide +kernel
theorem dX7_tell_49 : decode cX7_tell 49 = .ok (.ireturn, 1) := by decide +kernel
theorem dX7_tell_50 : decode cX7_tell 50 = .ok (.aload_n 0, 1) := by decide +kernel
theorem dX7_tell_51 : decode cX7_tell 51 = .ok (.iload_n 1, 1) := by decide +kernel
theorem dX7_tell_52 : decode cX7_tell 52 = .ok (.invokevirtual 36, 3) := by decide +kernel
theorem dX7_tell_55 : decode cX7_tell 55 = .ok (.ireturn, 1) := by decide +kernel
theorem dX7_tell_56 : decode cX7_tell 56 = .ok (.iload 4, 2) := by decide +kernel
theorem dX7_tell_58 : decode cX7_tell 58 = .ok (.invokestatic 43, 3) := by decide +kernel
theorem dX7_tell_61 : decode cX7_tell 61 = .ok (.ireturn, 1) := by decide +kernel
theorem dX7_tell_62 : decode cX7_tell 62 = .ok (.aload_n 3, 1) := by decide +kernel
theorem dX7_tell_63 : decode cX7_tell 63 = .ok (.iload_n 1, 1) := by decide +kernel
theorem dX7_tell_64 : decode cX7_tell 64 = .ok (.invokevirtual 54, 3) := by decide +kernel
theorem dX7_tell_67 : decode cX7_tell 67 = .ok (.invokestatic 43, 3) := by decide +kernel
theorem dX7_tell_70 : decode cX7_tell 70 = .ok (.ireturn, 1) := by decide +kernel
theorem dX7_tell_71 : decode cX7_tell 71 = .ok (.iload 4, 2) := by decide +kernel
theorem dX7_tell_73 : decode cX7_tell 73 = .ok (.invokestatic 40, 3) := by decide +kernel
theorem dX7_tell_76 : decode cX7_tell 76 = .ok (.ifCond .eq 7, 3) := by decide +kernel
theorem dX7_tell_79 : decode cX7_tell 79 = .ok (.iconst 1, 1) := by decide +kernel
theorem dX7_tell_80 : decode cX7_tell 80 = .ok (.goto 4, 3) := by decide +kernel
theorem dX7_tell_83 : decode cX7_tell 83 = .ok (.iconst 0, 1) := by decide +kernel
theorem dX7_tell_84 : decode cX7_tell 84 = .ok (.ireturn, 1) := by decide +kernel
theorem dX7_tell_85 : decode cX7_tell 85 = .ok (.aload_n 0, 1) := by decide +kernel
theorem dX7_tell_86 : decode cX7_tell 86 = .ok (.iload_n 1, 1) := by decide +kernel
theorem dX7_tell_87 : decode cX7_tell 87 = .ok (.iload 4, 2) := by decide +kernel
theorem dX7_tell_89 : decode cX7_tell 89 = .ok (.invokevirtual 57, 3) := by decide +kernel
theorem dX7_tell_92 : decode cX7_tell 92 = .ok (.ifCond .eq 7, 3) := by decide +kernel
theorem dX7_tell_95 : decode cX7_tell 95 = .ok (.iconst 1, 1) := by decide +kernel
theorem dX7_tell_96 : decode cX7_tell 96 = .ok (.goto 4, 3) := by decide +kernel
theorem dX7_tell_99 : decode cX7_tell 99 = .ok (.iconst 0, 1) := by decide +kernel
theorem dX7_tell_100 : decode cX7_tell 100 = .ok (.ireturn, 1) := by decide +kernel
theorem dX7_octantsOf_0 : decode cX7_octantsOf 0 = .ok (.iload_n 0, 1) := by decide +kernel
theorem dX7_octantsOf_1 : decode cX7_octantsOf 1 = .ok (.sipush (-513), 3) := by decide +kernel
theorem dX7_octantsOf_4 : decode cX7_octantsOf 4 = .ok (.iand, 1) := by decide +kernel
theorem dX7_octantsOf_5 : decode cX7_octantsOf 5 = .ok (.invokestatic 61, 3) := by decide +kernel
theorem dX7_octantsOf_8 : decode cX7_octantsOf 8 = .ok (.ireturn, 1) := by decide +kernel
theorem dX7_hasTouch_0 : decode cX7_hasTouch 0 = .ok (.iload_n 0, 1) := by decide +kernel
theorem dX7_hasTouch_1 : decode cX7_hasTouch 1 = .ok (.sipush 512, 3) := by decide +kernel
theorem dX7_hasTouch_4 : decode cX7_hasTouch 4 = .ok (.iand, 1) := by decide +kernel
theorem dX7_hasTouch_5 : decode cX7_hasTouch 5 = .ok (.ifCond .eq 7, 3) := by decide +kernel
theorem dX7_hasTouch_8 : decode cX7_hasTouch 8 = .ok (.iconst 1, 1) := by decide +kernel
theorem dX7_hasTouch_9 : decode cX7_hasTouch 9 = .ok (.goto 4, 3) := by decide +kernel
theorem dX7_hasTouch_12 : decode cX7_hasTouch 12 = .ok (.iconst 0, 1) := by decide +kernel
theorem dX7_hasTouch_13 : decode cX7_hasTouch 13 = .ok (.ireturn, 1) := by decide +kernel
theorem dX8_init_0 : decode cX8_init 0 = .ok (.aload_n 0, 1) := by decide +kernel
theorem dX8_init_1 : decode cX8_init 1 = .ok (.invokespecial 3, 3) := by decide +kernel
theorem dX8_init_4 : decode cX8_init 4 = .ok (.aload_n 0, 1) := by decide +kernel
theorem dX8_init_5 : decode cX8_init 5 = .ok (.sipush 576, 3) := by decide +kernel
theorem dX8_init_8 : decode cX8_init 8 = .ok (.newarray .int, 2) := by decide +kernel
theorem dX8_init_10 : decode cX8_init 10 = .ok (.putfield 9, 3) := by decide +kernel
theorem dX8_init_13 : decode cX8_init 13 = .ok (.aload_n 0, 1) := by decide +kernel
theorem dX8_init_14 : decode cX8_init 14 = .ok (.sipush 576, 3) := by decide +kernel
theorem dX8_init_17 : decode cX8_init 17 = .ok (.newarray .int, 2) := by decide +kernel
theorem dX8_init_19 : decode cX8_init 19 = .ok (.putfield 15, 3) := by decide +kernel
theorem dX8_init_22 : decode cX8_init 22 = .ok (.aload_n 0, 1) := by decide +kernel
theorem dX8_init_23 : decode cX8_init 23 = .ok (.aload_n 1, 1) := by decide +kernel
theorem dX8_init_24 : decode cX8_init 24 = .ok (.putfield 18, 3) := by decide +kernel
theorem dX8_init_27 : decode cX8_init 27 = .ok (.return_, 1) := by decide +kernel
theorem dX8_measureTo_0 : decode cX8_measureTo 0 = .ok (.aload_n 0, 1) := by decide +kernel
theorem dX8_measureTo_1 : decode cX8_measureTo 1 = .ok (.iload_n 1, 1) := by decide +kernel
theorem dX8_measureTo_2 : decode cX8_measureTo 2 = .ok (.invokevirtual 22, 3) := by decide +kernel
theorem dX8_measureTo_5 : decode cX8_measureTo 5 = .ok (.iconst 0, 1) := by decide +kernel
theorem dX8_measureTo_6 : decode cX8_measureTo 6 = .ok (.istore_n 2, 1) := by decide +kernel
theorem dX8_measureTo_7 : decode cX8_measureTo 7 = .ok (.iload_n 2, 1) := by decide +kernel
theorem dX8_measureTo_8 : decode cX8_measureTo 8 = .ok (.sipush 576, 3) := by decide +kernel
theorem dX8_measureTo_11 : decode cX8_measureTo 11 = .ok (.if_icmp .ge 68, 3) := by decide +kernel
theorem dX8_measureTo_14 : decode cX8_measureTo 14 = .ok (.aload_n 0, 1) := by decide +kernel
theorem dX8_measureTo_15 : decode cX8_measureTo 15 = .ok (.getfield 26, 3) := by decide +kernel
theorem dX8_measureTo_18 : decode cX8_measureTo 18 = .ok (.ifCond .le 61, 3) := by decide +kernel
theorem dX8_measureTo_21 : decode cX8_measureTo 21 = .ok (.aload_n 0, 1) := by decide +kernel
theorem dX8_measureTo_22 : decode cX8_measureTo 22 = .ok (.invokevirtual 30, 3) := by decide +kernel
theorem dX8_measureTo_25 : decode cX8_measureTo 25 = .ok (.istore_n 3, 1) := by decide +kernel
theorem dX8_measureTo_26 : decode cX8_measureTo 26 = .ok (.iconst 0, 1) := by decide +kernel
theorem dX8_measureTo_27 : decode cX8_measureTo 27 = .ok (.istore 4, 2) := by decide +kernel
theorem dX8_measureTo_29 : decode cX8_measureTo 29 = .ok (.iload 4, 2) := by decide +kernel
theorem dX8_measureTo_31 : decode cX8_measureTo 31 = .ok (.bipush 8, 2) := by decide +kernel
theorem dX8_measureTo_33 : decode cX8_measureTo 33 = .ok (.if_icmp .ge 40, 3) := by decide +kernel
theorem dX8_measureTo_36 : decode cX8_measureTo 36 = .ok (.iload_n 3, 1) := by decide +kernel
theorem dX8_measureTo_37 : decode cX8_measureTo 37 = .ok (.iload 4, 2) := by decide +kernel
theorem dX8_measureTo_39 : decode cX8_measureTo 39 = .ok (.iconst 4, 1) := by decide +kernel
theorem dX8_measureTo_40 : decode cX8_measureTo 40 = .ok (.iadd, 1) := by decide +kernel
theorem dX8_measureTo_41 : decode cX8_measureTo 41 = .ok (.bipush 8, 2) := by decide +kernel
theorem dX8_measureTo_43 : decode cX8_measureTo 43 = .ok (.irem, 1) := by decide +kernel
theorem dX8_measureTo_44 : decode cX8_measureTo 44 = .ok (.invokestatic 34, 3) := by decide +kernel
theorem dX8_measureTo_47 : decode cX8_measureTo 47 = .ok (.istore 5, 2) := by decide +kernel
theorem dX8_measureTo_49 : decode cX8_measureTo 49 = .ok (.aload_n 0, 1) := by decide +kernel
theorem dX8_measureTo_50 : decode cX8_measureTo 50 = .ok (.iload 5, 2) := by decide +kernel
theorem dX8_measureTo_52 : decode cX8_measureTo 52 = .ok (.iload_n 3, 1) := by decide +kernel
theorem dX8_measureTo_53 : decode cX8_measureTo 53 = .ok (.aload_n 0, 1) := by decide +kernel
theorem dX8_measureTo_54 : decode cX8_measureTo 54 = .ok (.getfield 18, 3) := by decide +kernel
theorem dX8_measureTo_57 : decode cX8_measureTo 57 = .ok (.iload 5, 2) := by decide +kernel
theorem dX8_measureTo_59 : decode cX8_measureTo 59 = .ok (.iload 4, 2) := by decide +kernel
theorem dX8_measureTo_61 : decode cX8_measureTo 61 = .ok (.invokevirtual 40, 3) := by decide +kernel
theorem dX8_measureTo_64 : decode cX8_measureTo 64 = .ok (.invokevirtual 43, 3) := by decide +kernel
theorem dX8_measureTo_67 : decode cX8_measureTo 67 = .ok (.iinc 4 1, 3) := by decide +kernel
theorem dX8_measureTo_70 : decode cX8_measureTo 70 = .ok (.goto (-41), 3) := by decide +kernel
theorem dX8_measureTo_73 : decode cX8_measureTo 73 = .ok (.iinc 2 1, 3) := by decide +kernel
theorem dX8_measureTo_76 : decode cX8_measureTo 76 = .ok (.goto (-69), 3) := by decide +kernel
theorem dX8_measureTo_79 : decode cX8_measureTo 79 = .ok (.return_, 1) := by decide +kernel
theorem dX8_measureFrom_0 : decode cX8_measureFrom 0 = .ok (.aload_n 0, 1) := by decide +kernel
theorem dX8_measureFrom_1 : decode cX8_measureFrom 1 = .ok (.iload_n 1, 1) := by decide +kernel
theorem dX8_measureFrom_2 : decode cX8_measureFrom 2 = .ok (.invokevirtual 22, 3) := by decide +kernel
theorem dX8_measureFrom_5 : decode cX8_measureFrom 5 = .ok (.iconst 0, 1) := by decide +kernel
theorem dX8_measureFrom_6 : decode cX8_measureFrom 6 = .ok (.istore_n 2, 1) := by decide +kernel
theorem dX8_measureFrom_7 : decode cX8_measureFrom 7 = .ok (.iload_n 2, 1) := by decide +kernel
theorem dX8_measureFrom_8 : decode cX8_measureFrom 8 = .ok (.sipush 576, 3) := by decide +kernel
theorem dX8_measureFrom_11 : decode cX8_measureFrom 11 = .ok (.if_icmp .ge 62, 3) := by decide +kernel
theorem dX8_measureFrom_14 : decode cX8_measureFrom 14 = .ok (.aload_n 0, 1) := by decide +kernel
theorem dX8_measureFrom_15 : decode cX8_measureFrom 15 = .ok (.getfield 26, 3) := by decide +kernel
theorem dX8_measureFrom_18 : decode cX8_measureFrom 18 = .ok (.ifCond .le 55, 3) := by decide +kernel
theorem dX8_measureFrom_21 : decode cX8_measureFrom 21 = .ok (.aload_n 0, 1) := by decide +kernel
theorem dX8_measureFrom_22 : decode cX8_measureFrom 22 = .ok (.invokevirtual 30, 3) := by decide +kernel
theorem dX8_measureFrom_25 : decode cX8_measureFrom 25 = .ok (.istore_n 3, 1) := by decide +kernel
theorem dX8_measureFrom_26 : decode cX8_measureFrom 26 = .ok (.iconst 0, 1) := by decide +kernel
theorem dX8_measureFrom_27 : decode cX8_measureFrom 27 = .ok (.istore 4, 2) := by decide +kernel
theorem dX8_measureFrom_29 : decode cX8_measureFrom 29 = .ok (.iload 4, 2) := by decide +kernel
theorem dX8_measureFrom_31 : decode cX8_measureFrom 31 = .ok (.bipush 8, 2) := by decide +kernel
theorem dX8_measureFrom_33 : decode cX8_measureFrom 33 = .ok (.if_icmp .ge 34, 3) := by decide +kernel
theorem dX8_measureFrom_36 : decode cX8_measureFrom 36 = .ok (.iload_n 3, 1) := by decide +kernel
theorem dX8_measureFrom_37 : decode cX8_measureFrom 37 = .ok (.iload 4, 2) := by decide +kernel
theorem dX8_measureFrom_39 : decode cX8_measureFrom 39 = .ok (.invokestatic 34, 3) := by decide +kernel
theorem dX8_measureFrom_42 : decode cX8_measureFrom 42 = .ok (.istore 5, 2) := by decide +kernel
theorem dX8_measureFrom_44 : decode cX8_measureFrom 44 = .ok (.aload_n 0, 1) := by decide +kernel
theorem dX8_measureFrom_45 : decode cX8_measureFrom 45 = .ok (.iload 5, 2) := by decide +kernel
theorem dX8_measureFrom_47 : decode cX8_measureFrom 47 = .ok (.iload_n 3, 1) := by decide +kernel
theorem dX8_measureFrom_48 : decode cX8_measureFrom 48 = .ok (.aload_n 0, 1) := by decide +kernel
theorem dX8_measureFrom_49 : decode cX8_measureFrom 49 = .ok (.getfield 18, 3) := by decide +kernel
theorem dX8_measureFrom_52 : decode cX8_measureFrom 52 = .ok (.iload_n 3, 1) := by decide +kernel
theorem dX8_measureFrom_53 : decode cX8_measureFrom 53 = .ok (.iload 4, 2) := by decide +kernel
theorem dX8_measureFrom_55 : decode cX8_measureFrom 55 = .ok (.invokevirtual 40, 3) := by decide +kernel
theorem dX8_measureFrom_58 : decode cX8_measureFrom 58 = .ok (.invokevirtual 43, 3) := by decide +kernel
theorem dX8_measureFrom_61 : decode cX8_measureFrom 61 = .ok (.iinc 4 1, 3) := by decide +kernel
theorem dX8_measureFrom_64 : decode cX8_measureFrom 64 = .ok (.goto (-35), 3) := by decide +kernel
theorem dX8_measureFrom_67 : decode cX8_measureFrom 67 = .ok (.iinc 2 1, 3) := by decide +kernel
theorem dX8_measureFrom_70 : decode cX8_measureFrom 70 = .ok (.goto (-63), 3) := by decide +kernel
theorem dX8_measureFrom_73 : decode cX8_measureFrom 73 = .ok (.return_, 1) := by decide +kernel
theorem dX8_begin_0 : decode cX8_begin 0 = .ok (.iconst 0, 1) := by decide +kernel
theorem dX8_begin_1 : decode cX8_begin 1 = .ok (.istore_n 2, 1) := by decide +kernel
theorem dX8_begin_2 : decode cX8_begin 2 = .ok (.iload_n 2, 1) := by decide +kernel
theorem dX8_begin_3 : decode cX8_begin 3 = .ok (.sipush 576, 3) := by decide +kernel
theorem dX8_begin_6 : decode cX8_begin 6 = .ok (.if_icmp .ge 16, 3) := by decide +kernel
theorem dX8_begin_9 : decode cX8_begin 9 = .ok (.aload_n 0, 1) := by decide +kernel
theorem dX8_begin_10 : decode cX8_begin 10 = .ok (.getfield 9, 3) := by decide +kernel
theorem dX8_begin_13 : decode cX8_begin 13 = .ok (.iload_n 2, 1) := by decide +kernel
theorem dX8_begin_14 : decode cX8_begin 14 = .ok (.iconst (-1), 1) := by decide +kernel
theorem dX8_begin_15 : decode cX8_begin 15 = .ok (.iastore, 1) := by decide +kernel
theorem dX8_begin_16 : decode cX8_begin 16 = .ok (.iinc 2 1, 3) := by decide +kernel
theorem dX8_begin_19 : decode cX8_begin 19 = .ok (.goto (-17), 3) := by decide +kernel
theorem dX8_begin_22 : decode cX8_begin 22 = .ok (.aload_n 0, 1) := by decide +kernel
theorem dX8_begin_23 : decode cX8_begin 23 = .ok (.iconst 0, 1) := by decide +kernel
theorem dX8_begin_24 : decode cX8_begin 24 = .ok (.putfield 26, 3) := by decide +kernel
theorem dX8_begin_27 : decode cX8_begin 27 = .ok (.iload_n 1, 1) := by decide +kernel
theorem dX8_begin_28 : decode cX8_begin 28 = .ok (.ifCond .lt 29, 3) := by decide +kernel
theorem dX8_begin_31 : decode cX8_begin 31 = .ok (.iload_n 1, 1) := by decide +kernel
theorem dX8_begin_32 : decode cX8_begin 32 = .ok (.sipush 576, 3) := by decide +kernel
theorem dX8_begin_35 : decode cX8_begin 35 = .ok (.if_icmp .ge 22, 3) := by decide +kernel
theorem dX8_begin_38 : decode cX8_begin 38 = .ok (.aload_n 0, 1) := by decide +kernel
theorem dX8_begin_39 : decode cX8_begin 39 = .ok (.getfield 9, 3) := by decide +kernel
theorem dX8_begin_42 : decode cX8_begin 42 = .ok (.iload_n 1, 1) := by decide +kernel
theorem dX8_begin_43 : decode cX8_begin 43 = .ok (.iconst 0, 1) := by decide +kernel
theorem dX8_begin_44 : decode cX8_begin 44 = .ok (.iastore, 1) := by decide +kernel
theorem dX8_begin_45 : decode cX8_begin 45 = .ok (.aload_n 0, 1) := by decide +kernel
theorem dX8_begin_46 : decode cX8_begin 46 = .ok (.getfield 15, 3) := by decide +kernel
theorem dX8_begin_49 : decode cX8_begin 49 = .ok (.iconst 0, 1) := by decide +kernel
theorem dX8_begin_50 : decode cX8_begin 50 = .ok (.iload_n 1, 1) := by decide +kernel
theorem dX8_begin_51 : decode cX8_begin 51 = .ok (.iastore, 1) := by decide +kernel
theorem dX8_begin_52 : decode cX8_begin 52 = .ok (.aload_n 0, 1) := by decide +kernel
theorem dX8_begin_53 : decode cX8_begin 53 = .ok (.iconst 1, 1) := by decide +kernel
theorem dX8_begin_54 : decode cX8_begin 54 = .ok (.putfield 26, 3) := by decide +kernel
theorem dX8_begin_57 : decode cX8_begin 57 = .ok (.return_, 1) := by decide +kernel
theorem dX8_takeCheapest_0 : decode cX8_takeCheapest 0 = .ok (.iconst 0, 1) := by decide +kernel
theorem dX8_takeCheapest_1 : decode cX8_takeCheapest 1 = .ok (.istore_n 1, 1) := by decide +kernel
theorem dX8_takeCheapest_2 : decode cX8_takeCheapest 2 = .ok (.aload_n 0, 1) := by decide +kernel
theorem dX8_takeCheapest_3 : decode cX8_takeCheapest 3 = .ok (.aload_n 0, 1) := by decide +kernel
theorem dX8_takeCheapest_4 : decode cX8_takeCheapest 4 = .ok (.getfield 15, 3) := by decide +kernel
theorem dX8_takeCheapest_7 : decode cX8_takeCheapest 7 = .ok (.iconst 0, 1) := by decide +kernel
theorem dX8_takeCheapest_8 : decode cX8_takeCheapest 8 = .ok (.iaload, 1) := by decide +kernel
theorem dX8_takeCheapest_9 : decode cX8_takeCheapest 9 = .ok (.invokevirtual 47, 3) := by decide +kernel
theorem dX8_takeCheapest_12 : decode cX8_takeCheapest 12 = .ok (.istore_n 2, 1) := by decide +kernel
theorem dX8_takeCheapest_13 : decode cX8_takeCheapest 13 = .ok (.iconst 1, 1) := by decide +kernel
theorem dX8_takeCheapest_14 : decode cX8_takeCheapest 14 = .ok (.istore_n 3, 1) := by decide +kernel
theorem dX8_takeCheapest_15 : decode cX8_takeCheapest 15 = .ok (.iload_n 3, 1) := by decide +kernel
theorem dX8_takeCheapest_16 : decode cX8_takeCheapest 16 = .ok (.aload_n 0, 1) := by decide +kernel
theorem dX8_takeCheapest_17 : decode cX8_takeCheapest 17 = .ok (.getfield 26, 3) := by decide +kernel
theorem dX8_takeCheapest_20 : decode cX8_takeCheapest 20 = .ok (.if_icmp .ge 39, 3) := by decide +kernel
theorem dX8_takeCheapest_23 : decode cX8_takeCheapest 23 = .ok (.iload_n 3, 1) := by decide +kernel
theorem dX8_takeCheapest_24 : decode cX8_takeCheapest 24 = .ok (.sipush 576, 3) := by decide +kernel
theorem dX8_takeCheapest_27 : decode cX8_takeCheapest 27 = .ok (.if_icmp .ge 32, 3) := by decide +kernel
theorem dX8_takeCheapest_30 : decode cX8_takeCheapest 30 = .ok (.aload_n 0, 1) := by decide +kernel
theorem dX8_takeCheapest_31 : decode cX8_takeCheapest 31 = .ok (.aload_n 0, 1) := by decide +kernel
theorem dX8_takeCheapest_32 : decode cX8_takeCheapest 32 = .ok (.getfield 15, 3) := by decide +kernel
theorem dX8_takeCheapest_35 : decode cX8_takeCheapest 35 = .ok (.iload_n 3, 1) := by decide +kernel
theorem dX8_takeCheapest_36 : decode cX8_takeCheapest 36 = .ok (.iaload, 1) := by decide +kernel
theorem dX8_takeCheapest_37 : decode cX8_takeCheapest 37 = .ok (.invokevirtual 47, 3) := by decide +kernel
theorem dX8_takeCheapest_40 : decode cX8_takeCheapest 40 = .ok (.istore 4, 2) := by decide +kernel
theorem dX8_takeCheapest_42 : decode cX8_takeCheapest 42 = .ok (.iload 4, 2) := by decide +kernel
theorem dX8_takeCheapest_44 : decode cX8_takeCheapest 44 = .ok (.iload_n 2, 1) := by decide +kernel
theorem dX8_takeCheapest_45 : decode cX8_takeCheapest 45 = .ok (.if_icmp .ge 8, 3) := by decide +kernel
theorem dX8_takeCheapest_48 : decode cX8_takeCheapest 48 = .ok (.iload_n 3, 1) := by decide +kernel
theorem dX8_takeCheapest_49 : decode cX8_takeCheapest 49 = .ok (.istore_n 1, 1) := by decide +kernel
theorem dX8_takeCheapest_50 : decode cX8_takeCheapest 50 = .ok (.iload 4, 2) := by decide +kernel
theorem dX8_takeCheapest_52 : decode cX8_takeCheapest 52 = .ok (.istore_n 2, 1) := by decide +kernel
theorem dX8_takeCheapest_53 : decode cX8_takeCheapest 53 = .ok (.iinc 3 1, 3) := by decide +kernel
theorem dX8_takeCheapest_56 : decode cX8_takeCheapest 56 = .ok (.goto (-41), 3) := by decide +kernel
theorem dX8_takeCheapest_59 : decode cX8_takeCheapest 59 = .ok (.aload_n 0, 1) := by decide +kernel
theorem dX8_takeCheapest_60 : decode cX8_takeCheapest 60 = .ok (.getfield 15, 3) := by decide +kernel
theorem dX8_takeCheapest_63 : decode cX8_takeCheapest 63 = .ok (.iload_n 1, 1) := by decide +kernel
theorem dX8_takeCheapest_64 : decode cX8_takeCheapest 64 = .ok (.iaload, 1) := by decide +kernel
theorem dX8_takeCheapest_65 : decode cX8_takeCheapest 65 = .ok (.istore_n 3, 1) := by decide +kernel
theorem dX8_takeCheapest_66 : decode cX8_takeCheapest 66 = .ok (.aload_n 0, 1) := by decide +kernel
theorem dX8_takeCheapest_67 : decode cX8_takeCheapest 67 = .ok (.getfield 26, 3) := by decide +kernel
theorem dX8_takeCheapest_70 : decode cX8_takeCheapest 70 = .ok (.ifCond .le 38, 3) := by decide +kernel
theorem dX8_takeCheapest_73 : decode cX8_takeCheapest 73 = .ok (.aload_n 0, 1) := by decide +kernel
theorem dX8_takeCheapest_74 : decode cX8_takeCheapest 74 = .ok (.getfield 26, 3) := by decide +kernel
theorem dX8_takeCheapest_77 : decode cX8_takeCheapest 77 = .ok (.sipush 576, 3) := by decide +kernel
theorem dX8_takeCheapest_80 : decode cX8_takeCheapest 80 = .ok (.if_icmp .gt 28, 3) := by decide +kernel
theorem dX8_takeCheapest_83 : decode cX8_takeCheapest 83 = .ok (.aload_n 0, 1) := by decide +kernel
theorem dX8_takeCheapest_84 : decode cX8_takeCheapest 84 = .ok (.dup, 1) := by decide +kernel
theorem dX8_takeCheapest_85 : decode cX8_takeCheapest 85 = .ok (.getfield 26, 3) := by decide +kernel
theorem dX8_takeCheapest_88 : decode cX8_takeCheapest 88 = .ok (.iconst 1, 1) := by decide +kernel
theorem dX8_takeCheapest_89 : decode cX8_takeCheapest 89 = .ok (.isub, 1) := by decide +kernel
theorem dX8_takeCheapest_90 : decode cX8_takeCheapest 90 = .ok (.putfield 26, 3) := by decide +kernel
theorem dX8_takeCheapest_93 : decode cX8_takeCheapest 93 = .ok (.aload_n 0, 1) := by decide +kernel
theorem dX8_takeCheapest_94 : decode cX8_takeCheapest 94 = .ok (.getfield 15, 3) := by decide +kernel
theorem dX8_takeCheapest_97 : decode cX8_takeCheapest 97 = .ok (.iload_n 1, 1) := by decide +kernel
theorem dX8_takeCheapest_98 : decode cX8_takeCheapest 98 = .ok (.aload_n 0, 1) := by decide +kernel
theorem dX8_takeCheapest_99 : decode cX8_takeCheapest 99 = .ok (.getfield 15, 3) := by decide +kernel
theorem dX8_takeCheapest_102 : decode cX8_takeCheapest 102 = .ok (.aload_n 0, 1) := by decide +kernel
theorem dX8_takeCheapest_103 : decode cX8_takeCheapest 103 = .ok (.getfield 26, 3) := by decide +kernel
theorem dX8_takeCheapest_106 : decode cX8_takeCheapest 106 = .ok (.iaload, 1) := by decide +kernel
theorem dX8_takeCheapest_107 : decode cX8_takeCheapest 107 = .ok (.iastore, 1) := by decide +kernel
theorem dX8_takeCheapest_108 : decode cX8_takeCheapest 108 = .ok (.iload_n 3, 1) := by decide +kernel
theorem dX8_takeCheapest_109 : decode cX8_takeCheapest 109 = .ok (.ireturn, 1) := by decide +kernel
theorem dX8_reach_0 : decode cX8_reach 0 = .ok (.iload_n 3, 1) := by decide +kernel
theorem dX8_reach_1 : decode cX8_reach 1 = .ok (.iconst (-1), 1) := by decide +kernel
theorem dX8_reach_2 : decode cX8_reach 2 = .ok (.if_icmp .eq 14, 3) := by decide +kernel
theorem dX8_reach_5 : decode cX8_reach 5 = .ok (.iload_n 1, 1) := by decide +kernel
theorem dX8_reach_6 : decode cX8_reach 6 = .ok (.ifCond .lt 10, 3) := by decide +kernel
theorem dX8_reach_9 : decode cX8_reach 9 = .ok (.iload_n 1, 1) := by decide +kernel
theorem dX8_reach_10 : decode cX8_reach 10 = .ok (.sipush 576, 3) := by decide +kernel
theorem dX8_reach_13 : decode cX8_reach 13 = .ok (.if_icmp .lt 4, 3) := by decide +kernel
theorem dX8_reach_16 : decode cX8_reach 16 = .ok (.return_, 1) := by decide +kernel
theorem dX8_reach_17 : decode cX8_reach 17 = .ok (.aload_n 0, 1) := by decide +kernel
theorem dX8_reach_18 : decode cX8_reach 18 = .ok (.iload_n 2, 1) := by decide +kernel
theorem dX8_reach_19 : decode cX8_reach 19 = .ok (.invokevirtual 47, 3) := by decide +kernel
theorem dX8_reach_22 : decode cX8_reach 22 = .ok (.iload_n 3, 1) := by decide +kernel
theorem dX8_reach_23 : decode cX8_reach 23 = .ok (.iadd, 1) := by decide +kernel
theorem dX8_reach_24 : decode cX8_reach 24 = .ok (.istore 4, 2) := by decide +kernel
theorem dX8_reach_26 : decode cX8_reach 26 = .ok (.aload_n 0, 1) := by decide +kernel
theorem dX8_reach_27 : decode cX8_reach 27 = .ok (.getfield 9, 3) := by decide +kernel
theorem dX8_reach_30 : decode cX8_reach 30 = .ok (.iload_n 1, 1) := by decide +kernel
theorem dX8_reach_31 : decode cX8_reach 31 = .ok (.iaload, 1) := by decide +kernel
theorem dX8_reach_32 : decode cX8_reach 32 = .ok (.iconst (-1), 1) := by decide +kernel
theorem dX8_reach_33 : decode cX8_reach 33 = .ok (.if_icmp .ne 51, 3) := by decide +kernel
theorem dX8_reach_36 : decode cX8_reach 36 = .ok (.aload_n 0, 1) := by decide +kernel
theorem dX8_reach_37 : decode cX8_reach 37 = .ok (.getfield 26, 3) := by decide +kernel
theorem dX8_reach_40 : decode cX8_reach 40 = .ok (.ifCond .lt 44, 3) := by decide +kernel
theorem dX8_reach_43 : decode cX8_reach 43 = .ok (.aload_n 0, 1) := by decide +kernel
theorem dX8_reach_44 : decode cX8_reach 44 = .ok (.getfield 26, 3) := by decide +kernel
theorem dX8_reach_47 : decode cX8_reach 47 = .ok (.sipush 576, 3) := by decide +kernel
theorem dX8_reach_50 : decode cX8_reach 50 = .ok (.if_icmp .ge 34, 3) := by decide +kernel
theorem dX8_reach_53 : decode cX8_reach 53 = .ok (.aload_n 0, 1) := by decide +kernel
theorem dX8_reach_54 : decode cX8_reach 54 = .ok (.getfield 9, 3) := by decide +kernel
theorem dX8_reach_57 : decode cX8_reach 57 = .ok (.iload_n 1, 1) := by decide +kernel
theorem dX8_reach_58 : decode cX8_reach 58 = .ok (.iload 4, 2) := by decide +kernel
theorem dX8_reach_60 : decode cX8_reach 60 = .ok (.iastore, 1) := by decide +kernel
theorem dX8_reach_61 : decode cX8_reach 61 = .ok (.aload_n 0, 1) := by decide +kernel
theorem dX8_reach_62 : decode cX8_reach 62 = .ok (.getfield 15, 3) := by decide +kernel
theorem dX8_reach_65 : decode cX8_reach 65 = .ok (.aload_n 0, 1) := by decide +kernel
theorem dX8_reach_66 : decode cX8_reach 66 = .ok (.getfield 26, 3) := by decide +kernel
theorem dX8_reach_69 : decode cX8_reach 69 = .ok (.iload_n 1, 1) := by decide +kernel
theorem dX8_reach_70 : decode cX8_reach 70 = .ok (.iastore, 1) := by decide +kernel
theorem dX8_reach_71 : decode cX8_reach 71 = .ok (.aload_n 0, 1) := by decide +kernel
theorem dX8_reach_72 : decode cX8_reach 72 = .ok (.dup, 1) := by decide +kernel
theorem dX8_reach_73 : decode cX8_reach 73 = .ok (.getfield 26, 3) := by decide +kernel
theorem dX8_reach_76 : decode cX8_reach 76 = .ok (.iconst 1, 1) := by decide +kernel
theorem dX8_reach_77 : decode cX8_reach 77 = .ok (.iadd, 1) := by decide +kernel
theorem dX8_reach_78 : decode cX8_reach 78 = .ok (.putfield 26, 3) := by decide +kernel
theorem dX8_reach_81 : decode cX8_reach 81 = .ok (.goto 22, 3) := by decide +kernel
theorem dX8_reach_84 : decode cX8_reach 84 = .ok (.iload 4, 2) := by decide +kernel
theorem dX8_reach_86 : decode cX8_reach 86 = .ok (.aload_n 0, 1) := by decide +kernel
theorem dX8_reach_87 : decode cX8_reach 87 = .ok (.getfield 9, 3) := by decide +kernel
theorem dX8_reach_90 : decode cX8_reach 90 = .ok (.iload_n 1, 1) := by decide +kernel
theorem dX8_reach_91 : decode cX8_reach 91 = .ok (.iaload, 1) := by decide +kernel
theorem dX8_reach_92 : decode cX8_reach 92 = .ok (.if_icmp .ge 11, 3) := by decide +kernel
theorem dX8_reach_95 : decode cX8_reach 95 = .ok (.aload_n 0, 1) := by decide +kernel
theorem dX8_reach_96 : decode cX8_reach 96 = .ok (.getfield 9, 3) := by decide +kernel
theorem dX8_reach_99 : decode cX8_reach 99 = .ok (.iload_n 1, 1) := by decide +kernel
theorem dX8_reach_100 : decode cX8_reach 100 = .ok (.iload 4, 2) := by decide +kernel
theorem dX8_reach_102 : decode cX8_reach 102 = .ok (.iastore, 1) := by decide +kernel
theorem dX8_reach_103 : decode cX8_reach 103 = .ok (.return_, 1) := by decide +kernel
theorem dX8_costOf_0 : decode cX8_costOf 0 = .ok (.iload_n 1, 1) := by decide +kernel
theorem dX8_costOf_1 : decode cX8_costOf 1 = .ok (.ifCond .lt 10, 3) := by decide +kernel
theorem dX8_costOf_4 : decode cX8_costOf 4 = .ok (.iload_n 1, 1) := by decide +kernel
theorem dX8_costOf_5 : decode cX8_costOf 5 = .ok (.sipush 576, 3) := by decide +kernel
theorem dX8_costOf_8 : decode cX8_costOf 8 = .ok (.if_icmp .lt 7, 3) := by decide +kernel
theorem dX8_costOf_11 : decode cX8_costOf 11 = .ok (.iconst (-1), 1) := by decide +kernel
theorem dX8_costOf_12 : decode cX8_costOf 12 = .ok (.goto 9, 3) := by decide +kernel
theorem dX8_costOf_15 : decode cX8_costOf 15 = .ok (.aload_n 0, 1) := by decide +kernel
theorem dX8_costOf_16 : decode cX8_costOf 16 = .ok (.getfield 9, 3) := by decide +kernel
theorem dX8_costOf_19 : decode cX8_costOf 19 = .ok (.iload_n 1, 1) := by decide +kernel
theorem dX8_costOf_20 : decode cX8_costOf 20 = .ok (.iaload, 1) := by decide +kernel
theorem dX8_costOf_21 : decode cX8_costOf 21 = .ok (.ireturn, 1) := by decide +kernel
theorem dX8_directionFrom_0 : decode cX8_directionFrom 0 = .ok (.aload_n 0, 1) := by decide +kernel
theorem dX8_directionFrom_1 : decode cX8_directionFrom 1 = .ok (.iload_n 1, 1) := by decide +kernel
theorem dX8_directionFrom_2 : decode cX8_directionFrom 2 = .ok (.invokevirtual 47, 3) := by decide +kernel
theorem dX8_directionFrom_5 : decode cX8_directionFrom 5 = .ok (.ifCond .gt 5, 3) := by decide +kernel
theorem dX8_directionFrom_8 : decode cX8_directionFrom 8 = .ok (.iconst (-1), 1) := by decide +kernel
theorem dX8_directionFrom_9 : decode cX8_directionFrom 9 = .ok (.ireturn, 1) := by decide +kernel
theorem dX8_directionFrom_10 : decode cX8_directionFrom 10 = .ok (.iconst 0, 1) := by decide +kernel
theorem dX8_directionFrom_11 : decode cX8_directionFrom 11 = .ok (.istore_n 2, 1) := by decide +kernel
theorem dX8_directionFrom_12 : decode cX8_directionFrom 12 = .ok (.iload_n 2, 1) := by decide +kernel
theorem dX8_directionFrom_13 : decode cX8_directionFrom 13 = .ok (.bipush 8, 2) := by decide +kernel
theorem dX8_directionFrom_15 : decode cX8_directionFrom 15 = .ok (.if_icmp .ge 56, 3) := by decide +kernel
theorem dX8_directionFrom_18 : decode cX8_directionFrom 18 = .ok (.aload_n 0, 1) := by decide +kernel
theorem dX8_directionFrom_19 : decode cX8_directionFrom 19 = .ok (.getfield 18, 3) := by decide +kernel
theorem dX8_directionFrom_22 : decode cX8_directionFrom 22 = .ok (.iload_n 1, 1) := by decide +kernel
theorem dX8_directionFrom_23 : decode cX8_directionFrom 23 = .ok (.iload_n 2, 1) := by decide +kernel
theorem dX8_directionFrom_24 : decode cX8_directionFrom 24 = .ok (.invokevirtual 40, 3) := by decide +kernel
theorem dX8_directionFrom_27 : decode cX8_directionFrom 27 = .ok (.istore_n 3, 1) := by decide +kernel
theorem dX8_directionFrom_28 : decode cX8_directionFrom 28 = .ok (.aload_n 0, 1) := by decide +kernel
theorem dX8_directionFrom_29 : decode cX8_directionFrom 29 = .ok (.iload_n 1, 1) := by decide +kernel
theorem dX8_directionFrom_30 : decode cX8_directionFrom 30 = .ok (.iload_n 2, 1) := by decide +kernel
theorem dX8_directionFrom_31 : decode cX8_directionFrom 31 = .ok (.invokestatic 34, 3) := by decide +kernel
theorem dX8_directionFrom_34 : decode cX8_directionFrom 34 = .ok (.invokevirtual 47, 3) := by decide +kernel
theorem dX8_directionFrom_37 : decode cX8_directionFrom 37 = .ok (.istore 4, 2) := by decide +kernel
theorem dX8_directionFrom_39 : decode cX8_directionFrom 39 = .ok (.iload_n 3, 1) := by decide +kernel
theorem dX8_directionFrom_40 : decode cX8_directionFrom 40 = .ok (.iconst (-1), 1) := by decide +kernel
theorem dX8_directionFrom_41 : decode cX8_directionFrom 41 = .ok (.if_icmp .eq 24, 3) := by decide +kernel
theorem dX8_directionFrom_44 : decode cX8_directionFrom 44 = .ok (.iload 4, 2) := by decide +kernel
theorem dX8_directionFrom_46 : decode cX8_directionFrom 46 = .ok (.iconst (-1), 1) := by decide +kernel
theorem dX8_directionFrom_47 : decode cX8_directionFrom 47 = .ok (.if_icmp .eq 18, 3) := by decide +kernel
theorem dX8_directionFrom_50 : decode cX8_directionFrom 50 = .ok (.iload_n 3, 1) := by decide +kernel
theorem dX8_directionFrom_51 : decode cX8_directionFrom 51 = .ok (.iload 4, 2) := by decide +kernel
theorem dX8_directionFrom_53 : decode cX8_directionFrom 53 = .ok (.iadd, 1) := by decide +kernel
theorem dX8_directionFrom_54 : decode cX8_directionFrom 54 = .ok (.aload_n 0, 1) := by decide +kernel
theorem dX8_directionFrom_55 : decode cX8_directionFrom 55 = .ok (.getfield 9, 3) := by decide +kernel
theorem dX8_directionFrom_58 : decode cX8_directionFrom 58 = .ok (.iload_n 1, 1) := by decide +kernel
theorem dX8_directionFrom_59 : decode cX8_directionFrom 59 = .ok (.iaload, 1) := by decide +kernel
theorem dX8_directionFrom_60 : decode cX8_directionFrom 60 = .ok (.if_icmp .ne 5, 3) := by decide +kernel
theorem dX8_directionFrom_63 : decode cX8_directionFrom 63 = .ok (.iload_n 2, 1) := by decide +kernel
theorem dX8_directionFrom_64 : decode cX8_directionFrom 64 = .ok (.ireturn, 1) := by decide +kernel
theorem dX8_directionFrom_65 : decode cX8_directionFrom 65 = .ok (.iinc 2 1, 3) := by decide +kernel
theorem dX8_directionFrom_68 : decode cX8_directionFrom 68 = .ok (.goto (-56), 3) := by decide +kernel
theorem dX8_directionFrom_71 : decode cX8_directionFrom 71 = .ok (.iconst (-1), 1) := by decide +kernel
theorem dX8_directionFrom_72 : decode cX8_directionFrom 72 = .ok (.ireturn, 1) := by decide +kernel
theorem dX8_sumFrom_0 : decode cX8_sumFrom 0 = .ok (.aload_n 0, 1) := by decide +kernel
theorem dX8_sumFrom_1 : decode cX8_sumFrom 1 = .ok (.iload_n 1, 1) := by decide +kernel
theorem dX8_sumFrom_2 : decode cX8_sumFrom 2 = .ok (.invokevirtual 47, 3) := by decide +kernel
theorem dX8_sumFrom_5 : decode cX8_sumFrom 5 = .ok (.iconst (-1), 1) := by decide +kernel
theorem dX8_sumFrom_6 : decode cX8_sumFrom 6 = .ok (.if_icmp .ne 5, 3) := by decide +kernel
theorem dX8_sumFrom_9 : decode cX8_sumFrom 9 = .ok (.iconst (-1), 1) := by decide +kernel
theorem dX8_sumFrom_10 : decode cX8_sumFrom 10 = .ok (.ireturn, 1) := by decide +kernel
theorem dX8_sumFrom_11 : decode cX8_sumFrom 11 = .ok (.iconst 0, 1) := by decide +kernel
theorem dX8_sumFrom_12 : decode cX8_sumFrom 12 = .ok (.istore_n 3, 1) := by decide +kernel
theorem dX8_sumFrom_13 : decode cX8_sumFrom 13 = .ok (.iload_n 1, 1) := by decide +kernel
theorem dX8_sumFrom_14 : decode cX8_sumFrom 14 = .ok (.istore 4, 2) := by decide +kernel
theorem dX8_sumFrom_16 : decode cX8_sumFrom 16 = .ok (.aload_n 0, 1) := by decide +kernel
theorem dX8_sumFrom_17 : decode cX8_sumFrom 17 = .ok (.iload 4, 2) := by decide +kernel
theorem dX8_sumFrom_19 : decode cX8_sumFrom 19 = .ok (.invokevirtual 51, 3) := by decide +kernel
theorem dX8_sumFrom_22 : decode cX8_sumFrom 22 = .ok (.istore 5, 2) := by decide +kernel
theorem dX8_sumFrom_24 : decode cX8_sumFrom 24 = .ok (.iconst 0, 1) := by decide +kernel
theorem dX8_sumFrom_25 : decode cX8_sumFrom 25 = .ok (.istore 6, 2) := by decide +kernel
theorem dX8_sumFrom_27 : decode cX8_sumFrom 27 = .ok (.iload 6, 2) := by decide +kernel
theorem dX8_sumFrom_29 : decode cX8_sumFrom 29 = .ok (.sipush 576, 3) := by decide +kernel
theorem dX8_sumFrom_32 : decode cX8_sumFrom 32 = .ok (.if_icmp .ge 54, 3) := by decide +kernel
theorem dX8_sumFrom_35 : decode cX8_sumFrom 35 = .ok (.iload 5, 2) := by decide +kernel
theorem dX8_sumFrom_37 : decode cX8_sumFrom 37 = .ok (.iconst (-1), 1) := by decide +kernel
theorem dX8_sumFrom_38 : decode cX8_sumFrom 38 = .ok (.if_icmp .eq 48, 3) := by decide +kernel
theorem dX8_sumFrom_41 : decode cX8_sumFrom 41 = .ok (.iload_n 3, 1) := by decide +kernel
theorem dX8_sumFrom_42 : decode cX8_sumFrom 42 = .ok (.iload_n 2, 1) := by decide +kernel
theorem dX8_sumFrom_43 : decode cX8_sumFrom 43 = .ok (.ifCond .eq 17, 3) := by decide +kernel
theorem dX8_sumFrom_46 : decode cX8_sumFrom 46 = .ok (.aload_n 0, 1) := by decide +kernel
theorem dX8_sumFrom_47 : decode cX8_sumFrom 47 = .ok (.getfield 18, 3) := by decide +kernel
theorem dX8_sumFrom_50 : decode cX8_sumFrom 50 = .ok (.iload 4, 2) := by decide +kernel
theorem dX8_sumFrom_52 : decode cX8_sumFrom 52 = .ok (.iload 5, 2) := by decide +kernel
theorem dX8_sumFrom_54 : decode cX8_sumFrom 54 = .ok (.invokevirtual 54, 3) := by decide +kernel
theorem dX8_sumFrom_57 : decode cX8_sumFrom 57 = .ok (.goto 4, 3) := by decide +kernel
theorem dX8_sumFrom_60 : decode cX8_sumFrom 60 = .ok (.iconst 1, 1) := by decide +kernel
theorem dX8_sumFrom_61 : decode cX8_sumFrom 61 = .ok (.iadd, 1) := by decide +kernel
theorem dX8_sumFrom_62 : decode cX8_sumFrom 62 = .ok (.istore_n 3, 1) := by decide +kernel
theorem dX8_sumFrom_63 : decode cX8_sumFrom 63 = .ok (.iload 4, 2) := by decide +kernel
theorem dX8_sumFrom_65 : decode cX8_sumFrom 65 = .ok (.iload 5, 2) := by decide +kernel
theorem dX8_sumFrom_67 : decode cX8_sumFrom 67 = .ok (.invokestatic 34, 3) := by decide +kernel
theorem dX8_sumFrom_70 : decode cX8_sumFrom 70 = .ok (.istore 4, 2) := by decide +kernel
theorem dX8_sumFrom_72 : decode cX8_sumFrom 72 = .ok (.aload_n 0, 1) := by decide +kernel
theorem dX8_sumFrom_73 : decode cX8_sumFrom 73 = .ok (.iload 4, 2) := by decide +kernel
theorem dX8_sumFrom_75 : decode cX8_sumFrom 75 = .ok (.invokevirtual 51, 3) := by decide +kernel
theorem dX8_sumFrom_78 : decode cX8_sumFrom 78 = .ok (.istore 5, 2) := by decide +kernel
theorem dX8_sumFrom_80 : decode cX8_sumFrom 80 = .ok (.iinc 6 1, 3) := by decide +kernel
theorem dX8_sumFrom_83 : decode cX8_sumFrom 83 = .ok (.goto (-56), 3) := by decide +kernel
theorem dX8_sumFrom_86 : decode cX8_sumFrom 86 = .ok (.iload_n 3, 1) := by decide +kernel
theorem dX8_sumFrom_87 : decode cX8_sumFrom 87 = .ok (.ireturn, 1) := by decide +kernel
theorem dX9_init_0 : decode cX9_init 0 = .ok (.aload_n 0, 1) := by decide +kernel
theorem dX9_init_1 : decode cX9_init 1 = .ok (.invokespecial 1, 3) := by decide +kernel
theorem dX9_init_4 : decode cX9_init 4 = .ok (.aload_n 0, 1) := by decide +kernel
theorem dX9_init_5 : decode cX9_init 5 = .ok (.new 7, 3) := by decide +kernel
theorem dX9_init_8 : decode cX9_init 8 = .ok (.dup, 1) := by decide +kernel
theorem dX9_init_9 : decode cX9_init 9 = .ok (.invokespecial 9, 3) := by decide +kernel
theorem dX9_init_12 : decode cX9_init 12 = .ok (.putfield 10, 3) := by decide +kernel
theorem dX9_init_15 : decode cX9_init 15 = .ok (.aload_n 0, 1) := by decide +kernel
theorem dX9_init_16 : decode cX9_init 16 = .ok (.new 16, 3) := by decide +kernel
theorem dX9_init_19 : decode cX9_init 19 = .ok (.dup, 1) := by decide +kernel
theorem dX9_init_20 : decode cX9_init 20 = .ok (.aload_n 0, 1) := by decide +kernel
theorem dX9_init_21 : decode cX9_init 21 = .ok (.getfield 10, 3) := by decide +kernel
theorem dX9_init_24 : decode cX9_init 24 = .ok (.invokespecial 18, 3) := by decide +kernel
theorem dX9_init_27 : decode cX9_init 27 = .ok (.putfield 21, 3) := by decide +kernel
theorem dX9_init_30 : decode cX9_init 30 = .ok (.aload_n 0, 1) := by decide +kernel
theorem dX9_init_31 : decode cX9_init 31 = .ok (.new 25, 3) := by decide +kernel
theorem dX9_init_34 : decode cX9_init 34 = .ok (.dup, 1) := by decide +kernel
theorem dX9_init_35 : decode cX9_init 35 = .ok (.invokespecial 27, 3) := by decide +kernel
theorem dX9_init_38 : decode cX9_init 38 = .ok (.putfield 28, 3) := by decide +kernel
theorem dX9_init_41 : decode cX9_init 41 = .ok (.aload_n 0, 1) := by decide +kernel
theorem dX9_init_42 : decode cX9_init 42 = .ok (.new 32, 3) := by decide +kernel
theorem dX9_init_45 : decode cX9_init 45 = .ok (.dup, 1) := by decide +kernel
theorem dX9_init_46 : decode cX9_init 46 = .ok (.invokespecial 34, 3) := by decide +kernel
theorem dX9_init_49 : decode cX9_init 49 = .ok (.putfield 35, 3) := by decide +kernel
theorem dX9_init_52 : decode cX9_init 52 = .ok (.aload_n 0, 1) := by decide +kernel
theorem dX9_init_53 : decode cX9_init 53 = .ok (.new 39, 3) := by decide +kernel
theorem dX9_init_56 : decode cX9_init 56 = .ok (.dup, 1) := by decide +kernel
theorem dX9_init_57 : decode cX9_init 57 = .ok (.aload_n 0, 1) := by decide +kernel
theorem dX9_init_58 : decode cX9_init 58 = .ok (.getfield 10, 3) := by decide +kernel
theorem dX9_init_61 : decode cX9_init 61 = .ok (.aload_n 0, 1) := by decide +kernel
theorem dX9_init_62 : decode cX9_init 62 = .ok (.getfield 21, 3) := by decide +kernel
theorem dX9_init_65 : decode cX9_init 65 = .ok (.aload_n 0, 1) := by decide +kernel
theorem dX9_init_66 : decode cX9_init 66 = .ok (.getfield 28, 3) := by decide +kernel
theorem dX9_init_69 : decode cX9_init 69 = .ok (.aload_n 0, 1) := by decide +kernel
theorem dX9_init_70 : decode cX9_init 70 = .ok (.getfield 35, 3) := by decide +kernel
theorem dX9_init_73 : decode cX9_init 73 = .ok (.invokespecial 41, 3) := by decide +kernel
theorem dX9_init_76 : decode cX9_init 76 = .ok (.putfield 44, 3) := by decide +kernel
theorem dX9_init_79 : decode cX9_init 79 = .ok (.aload_n 0, 1) := by decide +kernel
theorem dX9_init_80 : decode cX9_init 80 = .ok (.new 48, 3) := by decide +kernel
theorem dX9_init_83 : decode cX9_init 83 = .ok (.dup, 1) := by decide +kernel
theorem dX9_init_84 : decode cX9_init 84 = .ok (.aload_n 0, 1) := by decide +kernel
theorem dX9_init_85 : decode cX9_init 85 = .ok (.getfield 10, 3) := by decide +kernel
theorem dX9_init_88 : decode cX9_init 88 = .ok (.aload_n 0, 1) := by decide +kernel
theorem dX9_init_89 : decode cX9_init 89 = .ok (.getfield 21, 3) := by decide +kernel
theorem dX9_init_92 : decode cX9_init 92 = .ok (.aload_n 0, 1) := by decide +kernel
theorem dX9_init_93 : decode cX9_init 93 = .ok (.getfield 28, 3) := by decide +kernel
theorem dX9_init_96 : decode cX9_init 96 = .ok (.aload_n 0, 1) := by decide +kernel
theorem dX9_init_97 : decode cX9_init 97 = .ok (.getfield 44, 3) := by decide +kernel
theorem dX9_init_100 : decode cX9_init 100 = .ok (.invokespecial 50, 3) := by decide +kernel
theorem dX9_init_103 : decode cX9_init 103 = .ok (.putfield 53, 3) := by decide +kernel
theorem dX9_init_106 : decode cX9_init 106 = .ok (.aload_n 0, 1) := by decide +kernel
theorem dX9_init_107 : decode cX9_init 107 = .ok (.new 57, 3) := by decide +kernel
theorem dX9_init_110 : decode cX9_init 110 = .ok (.dup, 1) := by decide +kernel
theorem dX9_init_111 : decode cX9_init 111 = .ok (.invokespecial 59, 3) := by decide +kernel
theorem dX9_init_114 : decode cX9_init 114 = .ok (.putfield 60, 3) := by decide +kernel
theorem dX9_init_117 : decode cX9_init 117 = .ok (.aload_n 0, 1) := by decide +kernel
theorem dX9_init_118 : decode cX9_init 118 = .ok (.new 57, 3) := by decide +kernel
theorem dX9_init_121 : decode cX9_init 121 = .ok (.dup, 1) := by decide +kernel
theorem dX9_init_122 : decode cX9_init 122 = .ok (.invokespecial 59, 3) := by decide +kernel
theorem dX9_init_125 : decode cX9_init 125 = .ok (.putfield 64, 3) := by decide +kernel
theorem dX9_init_128 : decode cX9_init 128 = .ok (.aload_n 0, 1) := by decide +kernel
theorem dX9_init_129 : decode cX9_init 129 = .ok (.new 67, 3) := by decide +kernel
theorem dX9_init_132 : decode cX9_init 132 = .ok (.dup, 1) := by decide +kernel
theorem dX9_init_133 : decode cX9_init 133 = .ok (.invokespecial 69, 3) := by decide +kernel
theorem dX9_init_136 : decode cX9_init 136 = .ok (.putfield 70, 3) := by decide +kernel
theorem dX9_init_139 : decode cX9_init 139 = .ok (.aload_n 0, 1) := by decide +kernel
theorem dX9_init_140 : decode cX9_init 140 = .ok (.bipush 8, 2) := by decide +kernel
theorem dX9_init_142 : decode cX9_init 142 = .ok (.anewarray 74, 3) := by decide +kernel
theorem dX9_init_145 : decode cX9_init 145 = .ok (.putfield 76, 3) := by decide +kernel
theorem dX9_init_148 : decode cX9_init 148 = .ok (.return_, 1) := by decide +kernel
theorem dX9_raise_0 : decode cX9_raise 0 = .ok (.iload_n 1, 1) := by decide +kernel
theorem dX9_raise_1 : decode cX9_raise 1 = .ok (.iload_n 2, 1) := by decide +kernel
theorem dX9_raise_2 : decode cX9_raise 2 = .ok (.iload_n 3, 1) := by decide +kernel
theorem dX9_raise_3 : decode cX9_raise 3 = .ok (.iload 4, 2) := by decide +kernel
theorem dX9_raise_5 : decode cX9_raise 5 = .ok (.invokestatic 80, 3) := by decide +kernel
theorem dX9_raise_8 : decode cX9_raise 8 = .ok (.ifCond .eq 20, 3) := by decide +kernel
theorem dX9_raise_11 : decode cX9_raise 11 = .ok (.aload_n 0, 1) := by decide +kernel
theorem dX9_raise_12 : decode cX9_raise 12 = .ok (.getfield 10, 3) := by decide +kernel
theorem dX9_raise_15 : decode cX9_raise 15 = .ok (.iload_n 1, 1) := by decide +kernel
theorem dX9_raise_16 : decode cX9_raise 16 = .ok (.iload_n 2, 1) := by decide +kernel
theorem dX9_raise_17 : decode cX9_raise 17 = .ok (.iload_n 3, 1) := by decide +kernel
theorem dX9_raise_18 : decode cX9_raise 18 = .ok (.iload 4, 2) := by decide +kernel
theorem dX9_raise_20 : decode cX9_raise 20 = .ok (.iload 5, 2) := by decide +kernel
theorem dX9_raise_22 : decode cX9_raise 22 = .ok (.invokevirtual 84, 3) := by decide +kernel
theorem dX9_raise_25 : decode cX9_raise 25 = .ok (.ifCond .ne 13, 3) := by decide +kernel
theorem dX9_raise_28 : decode cX9_raise 28 = .ok (.new 88, 3) := by decide +kernel
theorem dX9_raise_31 : decode cX9_raise 31 = .ok (.dup, 1) := by decide +kernel
theorem dX9_raise_32 : decode cX9_raise 32 = .ok (.ldc 90, 2) := by decide +kernel
theorem dX9_raise_34 : decode cX9_raise 34 = .ok (.invokespecial 92, 3) := by decide +kernel
theorem dX9_raise_37 : decode cX9_raise 37 = .ok (.athrow, 1) := by decide +kernel
theorem dX9_raise_38 : decode cX9_raise 38 = .ok (.aload_n 0, 1) := by decide +kernel
theorem dX9_raise_39 : decode cX9_raise 39 = .ok (.getfield 10, 3) := by decide +kernel
theorem dX9_raise_42 : decode cX9_raise 42 = .ok (.iload_n 1, 1) := by decide +kernel
theorem dX9_raise_43 : decode cX9_raise 43 = .ok (.iload_n 2, 1) := by decide +kernel
theorem dX9_raise_44 : decode cX9_raise 44 = .ok (.iload_n 3, 1) := by decide +kernel
theorem dX9_raise_45 : decode cX9_raise 45 = .ok (.iload 4, 2) := by decide +kernel
theorem dX9_raise_47 : decode cX9_raise 47 = .ok (.iload 5, 2) := by decide +kernel
theorem dX9_raise_49 : decode cX9_raise 49 = .ok (.invokevirtual 95, 3) := by decide +kernel
theorem dX9_raise_52 : decode cX9_raise 52 = .ok (.ireturn, 1) := by decide +kernel
theorem dX9_pave_0 : decode cX9_pave 0 = .ok (.iload_n 1, 1) := by decide +kernel
theorem dX9_pave_1 : decode cX9_pave 1 = .ok (.iload_n 2, 1) := by decide +kernel
theorem dX9_pave_2 : decode cX9_pave 2 = .ok (.iload_n 3, 1) := by decide +kernel
theorem dX9_pave_3 : decode cX9_pave 3 = .ok (.iload 4, 2) := by decide +kernel
theorem dX9_pave_5 : decode cX9_pave 5 = .ok (.invokestatic 80, 3) := by decide +kernel
theorem dX9_pave_8 : decode cX9_pave 8 = .ok (.ifCond .eq 14, 3) := by decide +kernel
theorem dX9_pave_11 : decode cX9_pave 11 = .ok (.iload 5, 2) := by decide +kernel
theorem dX9_pave_13 : decode cX9_pave 13 = .ok (.ifCond .lt 9, 3) := by decide +kernel
theorem dX9_pave_16 : decode cX9_pave 16 = .ok (.iload 5, 2) := by decide +kernel
theorem dX9_pave_18 : decode cX9_pave 18 = .ok (.iconst 3, 1) := by decide +kernel
theorem dX9_pave_19 : decode cX9_pave 19 = .ok (.if_icmp .le 13, 3) := by decide +kernel
theorem dX9_pave_22 : decode cX9_pave 22 = .ok (.new 88, 3) := by decide +kernel
theorem dX9_pave_25 : decode cX9_pave 25 = .ok (.dup, 1) := by decide +kernel
theorem dX9_pave_26 : decode cX9_pave 26 = .ok (.ldc 99, 2) := by decide +kernel
theorem dX9_pave_28 : decode cX9_pave 28 = .ok (.invokespecial 92, 3) := by decide +kernel
theorem dX9_pave_31 : decode cX9_pave 31 = .ok (.athrow, 1) := by decide +kernel
theorem dX9_pave_32 : decode cX9_pave 32 = .ok (.aload_n 0, 1) := by decide +kernel
theorem dX9_pave_33 : decode cX9_pave 33 = .ok (.getfield 10, 3) := by decide +kernel
theorem dX9_pave_36 : decode cX9_pave 36 = .ok (.iload_n 1, 1) := by decide +kernel
theorem dX9_pave_37 : decode cX9_pave 37 = .ok (.iload_n 2, 1) := by decide +kernel
theorem dX9_pave_38 : decode cX9_pave 38 = .ok (.iload_n 3, 1) := by decide +kernel
theorem dX9_pave_39 : decode cX9_pave 39 = .ok (.iload 4, 2) := by decide +kernel
theorem dX9_pave_41 : decode cX9_pave 41 = .ok (.iload 5, 2) := by decide +kernel
theorem dX9_pave_43 : decode cX9_pave 43 = .ok (.iload 6, 2) := by decide +kernel
theorem dX9_pave_45 : decode cX9_pave 45 = .ok (.invokevirtual 101, 3) := by decide +kernel
theorem dX9_pave_48 : decode cX9_pave 48 = .ok (.iload_n 2, 1) := by decide +kernel
theorem dX9_pave_49 : decode cX9_pave 49 = .ok (.iload_n 1, 1) := by decide +kernel
theorem dX9_pave_50 : decode cX9_pave 50 = .ok (.isub, 1) := by decide +kernel
theorem dX9_pave_51 : decode cX9_pave 51 = .ok (.iconst 1, 1) := by decide +kernel
theorem dX9_pave_52 : decode cX9_pave 52 = .ok (.iadd, 1) := by decide +kernel
theorem dX9_pave_53 : decode cX9_pave 53 = .ok (.iload 4, 2) := by decide +kernel
theorem dX9_pave_55 : decode cX9_pave 55 = .ok (.iload_n 3, 1) := by decide +kernel
theorem dX9_pave_56 : decode cX9_pave 56 = .ok (.isub, 1) := by decide +kernel
theorem dX9_pave_57 : decode cX9_pave 57 = .ok (.iconst 1, 1) := by decide +kernel
theorem dX9_pave_58 : decode cX9_pave 58 = .ok (.iadd, 1) := by decide +kernel
theorem dX9_pave_59 : decode cX9_pave 59 = .ok (.imul, 1) := by decide +kernel
theorem dX9_pave_60 : decode cX9_pave 60 = .ok (.ireturn, 1) := by decide +kernel
theorem dX9_setSlope_0 : decode cX9_setSlope 0 = .ok (.iload_n 1, 1) := by decide +kernel
theorem dX9_setSlope_1 : decode cX9_setSlope 1 = .ok (.ifCond .lt 9, 3) := by decide +kernel
theorem dX9_setSlope_4 : decode cX9_setSlope 4 = .ok (.iload_n 1, 1) := by decide +kernel
theorem dX9_setSlope_5 : decode cX9_setSlope 5 = .ok (.bipush 99, 2) := by decide +kernel
theorem dX9_setSlope_7 : decode cX9_setSlope 7 = .ok (.if_icmp .le 13, 3) := by decide +kernel
theorem dX9_setSlope_10 : decode cX9_setSlope 10 = .ok (.new 88, 3) := by decide +kernel
theorem dX9_setSlope_13 : decode cX9_setSlope 13 = .ok (.dup, 1) := by decide +kernel
theorem dX9_setSlope_14 : decode cX9_setSlope 14 = .ok (.ldc 124, 2) := by decide +kernel
theorem dX9_setSlope_16 : decode cX9_setSlope 16 = .ok (.invokespecial 92, 3) := by decide +kernel
theorem dX9_setSlope_19 : decode cX9_setSlope 19 = .ok (.athrow, 1) := by decide +kernel
theorem dX9_setSlope_20 : decode cX9_setSlope 20 = .ok (.aload_n 0, 1) := by decide +kernel
theorem dX9_setSlope_21 : decode cX9_setSlope 21 = .ok (.getfield 10, 3) := by decide +kernel
theorem dX9_setSlope_24 : decode cX9_setSlope 24 = .ok (.getfield 126, 3) := by decide +kernel
theorem dX9_setSlope_27 : decode cX9_setSlope 27 = .ok (.istore_n 2, 1) := by decide +kernel
theorem dX9_setSlope_28 : decode cX9_setSlope 28 = .ok (.aload_n 0, 1) := by decide +kernel
theorem dX9_setSlope_29 : decode cX9_setSlope 29 = .ok (.getfield 10, 3) := by decide +kernel
theorem dX9_setSlope_32 : decode cX9_setSlope 32 = .ok (.iload_n 1, 1) := by decide +kernel
theorem dX9_setSlope_33 : decode cX9_setSlope 33 = .ok (.invokevirtual 130, 3) := by decide +kernel
theorem dX9_setSlope_36 : decode cX9_setSlope 36 = .ok (.iload_n 2, 1) := by decide +kernel
theorem dX9_setSlope_37 : decode cX9_setSlope 37 = .ok (.ireturn, 1) := by decide +kernel
theorem dX9_way_0 : decode cX9_way 0 = .ok (.iload_n 1, 1) := by decide +kernel
theorem dX9_way_1 : decode cX9_way 1 = .ok (.iload_n 2, 1) := by decide +kernel
theorem dX9_way_2 : decode cX9_way 2 = .ok (.invokestatic 105, 3) := by decide +kernel
theorem dX9_way_5 : decode cX9_way 5 = .ok (.ifCond .eq 23, 3) := by decide +kernel
theorem dX9_way_8 : decode cX9_way 8 = .ok (.iload_n 3, 1) := by decide +kernel
theorem dX9_way_9 : decode cX9_way 9 = .ok (.iload 4, 2) := by decide +kernel
theorem dX9_way_11 : decode cX9_way 11 = .ok (.invokestatic 105, 3) := by decide +kernel
theorem dX9_way_14 : decode cX9_way 14 = .ok (.ifCond .eq 14, 3) := by decide +kernel
theorem dX9_way_17 : decode cX9_way 17 = .ok (.iload 5, 2) := by decide +kernel
theorem dX9_way_19 : decode cX9_way 19 = .ok (.ifCond .lt 9, 3) := by decide +kernel
theorem dX9_way_22 : decode cX9_way 22 = .ok (.iload 5, 2) := by decide +kernel
theorem dX9_way_24 : decode cX9_way 24 = .ok (.iconst 3, 1) := by decide +kernel
theorem dX9_way_25 : decode cX9_way 25 = .ok (.if_icmp .le 13, 3) := by decide +kernel
theorem dX9_way_28 : decode cX9_way 28 = .ok (.new 109, 3) := by decide +kernel
theorem dX9_way_31 : decode cX9_way 31 = .ok (.dup, 1) := by decide +kernel
theorem dX9_way_32 : decode cX9_way 32 = .ok (.ldc 111, 2) := by decide +kernel
theorem dX9_way_34 : decode cX9_way 34 = .ok (.invokespecial 113, 3) := by decide +kernel
theorem dX9_way_37 : decode cX9_way 37 = .ok (.athrow, 1) := by decide +kernel
theorem dX9_way_38 : decode cX9_way 38 = .ok (.iload_n 1, 1) := by decide +kernel
theorem dX9_way_39 : decode cX9_way 39 = .ok (.iload_n 2, 1) := by decide +kernel
theorem dX9_way_40 : decode cX9_way 40 = .ok (.invokestatic 134, 3) := by decide +kernel
theorem dX9_way_43 : decode cX9_way 43 = .ok (.istore 6, 2) := by decide +kernel
theorem dX9_way_45 : decode cX9_way 45 = .ok (.aload_n 0, 1) := by decide +kernel
theorem dX9_way_46 : decode cX9_way 46 = .ok (.getfield 21, 3) := by decide +kernel
theorem dX9_way_49 : decode cX9_way 49 = .ok (.iload_n 3, 1) := by decide +kernel
theorem dX9_way_50 : decode cX9_way 50 = .ok (.iload 4, 2) := by decide +kernel
theorem dX9_way_52 : decode cX9_way 52 = .ok (.invokestatic 134, 3) := by decide +kernel
theorem dX9_way_55 : decode cX9_way 55 = .ok (.invokevirtual 137, 3) := by decide +kernel
theorem dX9_way_58 : decode cX9_way 58 = .ok (.iload 5, 2) := by decide +kernel
theorem dX9_way_60 : decode cX9_way 60 = .ok (.ifCond .ne 13, 3) := by decide +kernel
theorem dX9_way_63 : decode cX9_way 63 = .ok (.aload_n 0, 1) := by decide +kernel
theorem dX9_way_64 : decode cX9_way 64 = .ok (.getfield 21, 3) := by decide +kernel
theorem dX9_way_67 : decode cX9_way 67 = .ok (.iload 6, 2) := by decide +kernel
theorem dX9_way_69 : decode cX9_way 69 = .ok (.invokevirtual 140, 3) := by decide +kernel
theorem dX9_way_72 : decode cX9_way 72 = .ok (.ireturn, 1) := by decide +kernel
theorem dX9_way_73 : decode cX9_way 73 = .ok (.iload 5, 2) := by decide +kernel
theorem dX9_way_75 : decode cX9_way 75 = .ok (.iconst 3, 1) := by decide +kernel
theorem dX9_way_76 : decode cX9_way 76 = .ok (.if_icmp .ne 13, 3) := by decide +kernel
theorem dX9_way_79 : decode cX9_way 79 = .ok (.aload_n 0, 1) := by decide +kernel
theorem dX9_way_80 : decode cX9_way 80 = .ok (.getfield 21, 3) := by decide +kernel
theorem dX9_way_83 : decode cX9_way 83 = .ok (.iload 6, 2) := by decide +kernel
theorem dX9_way_85 : decode cX9_way 85 = .ok (.invokevirtual 144, 3) := by decide +kernel
theorem dX9_way_88 : decode cX9_way 88 = .ok (.ireturn, 1) := by decide +kernel
theorem dX9_way_89 : decode cX9_way 89 = .ok (.aload_n 0, 1) := by decide +kernel
theorem dX9_way_90 : decode cX9_way 90 = .ok (.getfield 21, 3) := by decide +kernel
theorem dX9_way_93 : decode cX9_way 93 = .ok (.iload 6, 2) := by decide +kernel
theorem dX9_way_95 : decode cX9_way 95 = .ok (.iload 5, 2) := by decide +kernel
theorem dX9_way_97 : decode cX9_way 97 = .ok (.iconst 1, 1) := by decide +kernel
theorem dX9_way_98 : decode cX9_way 98 = .ok (.if_icmp .ne 7, 3) := by decide +kernel
theorem dX9_way_101 : decode cX9_way 101 = .ok (.iconst 1, 1) := by decide +kernel
theorem dX9_way_102 : decode cX9_way 102 = .ok (.goto 4, 3) := by decide +kernel
theorem dX9_way_105 : decode cX9_way 105 = .ok (.iconst 0, 1) := by decide +kernel
theorem dX9_way_106 : decode cX9_way 106 = .ok (.invokevirtual 147, 3) := by decide +kernel
theorem dX9_way_109 : decode cX9_way 109 = .ok (.ireturn, 1) := by decide +kernel
theorem dX9_addTarget_0 : decode cX9_addTarget 0 = .ok (.iload_n 1, 1) := by decide +kernel
theorem dX9_addTarget_1 : decode cX9_addTarget 1 = .ok (.iload_n 2, 1) := by decide +kernel
theorem dX9_addTarget_2 : decode cX9_addTarget 2 = .ok (.invokestatic 105, 3) := by decide +kernel
theorem dX9_addTarget_5 : decode cX9_addTarget 5 = .ok (.ifCond .ne 13, 3) := by decide +kernel
theorem dX9_addTarget_8 : decode cX9_addTarget 8 = .ok (.new 109, 3) := by decide +kernel
theorem dX9_addTarget_11 : decode cX9_addTarget 11 = .ok (.dup, 1) := by decide +kernel
theorem dX9_addTarget_12 : decode cX9_addTarget 12 = .ok (.ldc 151, 2) := by decide +kernel
theorem dX9_addTarget_14 : decode cX9_addTarget 14 = .ok (.invokespecial 113, 3) := by decide +kernel
theorem dX9_addTarget_17 : decode cX9_addTarget 17 = .ok (.athrow, 1) := by decide +kernel
theorem dX9_addTarget_18 : decode cX9_addTarget 18 = .ok (.iload_n 3, 1) := by decide +kernel
theorem dX9_addTarget_19 : decode cX9_addTarget 19 = .ok (.iconst 1, 1) := by decide +kernel
theorem dX9_addTarget_20 : decode cX9_addTarget 20 = .ok (.if_icmp .lt 21, 3) := by decide +kernel
theorem dX9_addTarget_23 : decode cX9_addTarget 23 = .ok (.iload_n 3, 1) := by decide +kernel
theorem dX9_addTarget_24 : decode cX9_addTarget 24 = .ok (.bipush 100, 2) := by decide +kernel
theorem dX9_addTarget_26 : decode cX9_addTarget 26 = .ok (.if_icmp .gt 15, 3) := by decide +kernel
theorem dX9_addTarget_29 : decode cX9_addTarget 29 = .ok (.iload 4, 2) := by decide +kernel
theorem dX9_addTarget_31 : decode cX9_addTarget 31 = .ok (.iconst 1, 1) := by decide +kernel
theorem dX9_addTarget_32 : decode cX9_addTarget 32 = .ok (.if_icmp .lt 9, 3) := by decide +kernel
theorem dX9_addTarget_35 : decode cX9_addTarget 35 = .ok (.iload 4, 2) := by decide +kernel
theorem dX9_addTarget_37 : decode cX9_addTarget 37 = .ok (.iconst 4, 1) := by decide +kernel
theorem dX9_addTarget_38 : decode cX9_addTarget 38 = .ok (.if_icmp .le 13, 3) := by decide +kernel
theorem dX9_addTarget_41 : decode cX9_addTarget 41 = .ok (.new 88, 3) := by decide +kernel
theorem dX9_addTarget_44 : decode cX9_addTarget 44 = .ok (.dup, 1) := by decide +kernel
theorem dX9_addTarget_45 : decode cX9_addTarget 45 = .ok (.ldc 156, 2) := by decide +kernel
theorem dX9_addTarget_47 : decode cX9_addTarget 47 = .ok (.invokespecial 92, 3) := by decide +kernel
theorem dX9_addTarget_50 : decode cX9_addTarget 50 = .ok (.athrow, 1) := by decide +kernel
theorem dX9_addTarget_51 : decode cX9_addTarget 51 = .ok (.aload_n 0, 1) := by decide +kernel
theorem dX9_addTarget_52 : decode cX9_addTarget 52 = .ok (.getfield 28, 3) := by decide +kernel
theorem dX9_addTarget_55 : decode cX9_addTarget 55 = .ok (.invokevirtual 158, 3) := by decide +kernel
theorem dX9_addTarget_58 : decode cX9_addTarget 58 = .ok (.ifCond .eq 13, 3) := by decide +kernel
theorem dX9_addTarget_61 : decode cX9_addTarget 61 = .ok (.new 162, 3) := by decide +kernel
theorem dX9_addTarget_64 : decode cX9_addTarget 64 = .ok (.dup, 1) := by decide +kernel
theorem dX9_addTarget_65 : decode cX9_addTarget 65 = .ok (.ldc 164, 2) := by decide +kernel
theorem dX9_addTarget_67 : decode cX9_addTarget 67 = .ok (.invokespecial 166, 3) := by decide +kernel
theorem dX9_addTarget_70 : decode cX9_addTarget 70 = .ok (.athrow, 1) := by decide +kernel
theorem dX9_addTarget_71 : decode cX9_addTarget 71 = .ok (.aload_n 0, 1) := by decide +kernel
theorem dX9_addTarget_72 : decode cX9_addTarget 72 = .ok (.getfield 28, 3) := by decide +kernel
theorem dX9_addTarget_75 : decode cX9_addTarget 75 = .ok (.iload_n 1, 1) := by decide +kernel
theorem dX9_addTarget_76 : decode cX9_addTarget 76 = .ok (.iload_n 2, 1) := by decide +kernel
theorem dX9_addTarget_77 : decode cX9_addTarget 77 = .ok (.iload_n 3, 1) := by decide +kernel
theorem dX9_addTarget_78 : decode cX9_addTarget 78 = .ok (.iload 4, 2) := by decide +kernel
theorem dX9_addTarget_80 : decode cX9_addTarget 80 = .ok (.invokevirtual 167, 3) := by decide +kernel
theorem dX9_addTarget_83 : decode cX9_addTarget 83 = .ok (.ireturn, 1) := by decide +kernel
theorem dX9_target_0 : decode cX9_target 0 = .ok (.aload_n 0, 1) := by decide +kernel
theorem dX9_target_1 : decode cX9_target 1 = .ok (.getfield 28, 3) := by decide +kernel
theorem dX9_target_4 : decode cX9_target 4 = .ok (.iload_n 1, 1) := by decide +kernel
theorem dX9_target_5 : decode cX9_target 5 = .ok (.invokevirtual 171, 3) := by decide +kernel
theorem dX9_target_8 : decode cX9_target 8 = .ok (.ifCond .eq 12, 3) := by decide +kernel
theorem dX9_target_11 : decode cX9_target 11 = .ok (.iload_n 2, 1) := by decide +kernel
theorem dX9_target_12 : decode cX9_target 12 = .ok (.ifCond .lt 8, 3) := by decide +kernel
theorem dX9_target_15 : decode cX9_target 15 = .ok (.iload_n 2, 1) := by decide +kernel
theorem dX9_target_16 : decode cX9_target 16 = .ok (.iconst 5, 1) := by decide +kernel
theorem dX9_target_17 : decode cX9_target 17 = .ok (.if_icmp .le 13, 3) := by decide +kernel
theorem dX9_target_20 : decode cX9_target 20 = .ok (.new 109, 3) := by decide +kernel
theorem dX9_target_23 : decode cX9_target 23 = .ok (.dup, 1) := by decide +kernel
theorem dX9_target_24 : decode cX9_target 24 = .ok (.ldc 175, 2) := by decide +kernel
theorem dX9_target_26 : decode cX9_target 26 = .ok (.invokespecial 113, 3) := by decide +kernel
theorem dX9_target_29 : decode cX9_target 29 = .ok (.athrow, 1) := by decide +kernel
theorem dX9_target_30 : decode cX9_target 30 = .ok (.aload_n 0, 1) := by decide +kernel
theorem dX9_target_31 : decode cX9_target 31 = .ok (.getfield 28, 3) := by decide +kernel
theorem dX9_target_34 : decode cX9_target 34 = .ok (.iload_n 1, 1) := by decide +kernel
theorem dX9_target_35 : decode cX9_target 35 = .ok (.iload_n 2, 1) := by decide +kernel
theorem dX9_target_36 : decode cX9_target 36 = .ok (.aload_n 0, 1) := by decide +kernel
theorem dX9_target_37 : decode cX9_target 37 = .ok (.getfield 60, 3) := by decide +kernel
theorem dX9_target_40 : decode cX9_target 40 = .ok (.invokevirtual 177, 3) := by decide +kernel
theorem dX9_target_43 : decode cX9_target 43 = .ok (.ireturn, 1) := by decide +kernel
theorem dX9_addPass_0 : decode cX9_addPass 0 = .ok (.iload_n 1, 1) := by decide +kernel
theorem dX9_addPass_1 : decode cX9_addPass 1 = .ok (.ifCond .lt 33, 3) := by decide +kernel
theorem dX9_addPass_4 : decode cX9_addPass 4 = .ok (.iload_n 1, 1) := by decide +kernel
theorem dX9_addPass_5 : decode cX9_addPass 5 = .ok (.sipush 1440, 3) := by decide +kernel
theorem dX9_addPass_8 : decode cX9_addPass 8 = .ok (.if_icmp .ge 26, 3) := by decide +kernel
theorem dX9_addPass_11 : decode cX9_addPass 11 = .ok (.iload_n 2, 1) := by decide +kernel
theorem dX9_addPass_12 : decode cX9_addPass 12 = .ok (.iload_n 1, 1) := by decide +kernel
theorem dX9_addPass_13 : decode cX9_addPass 13 = .ok (.if_icmp .le 21, 3) := by decide +kernel
theorem dX9_addPass_16 : decode cX9_addPass 16 = .ok (.iload_n 2, 1) := by decide +kernel
theorem dX9_addPass_17 : decode cX9_addPass 17 = .ok (.sipush 1440, 3) := by decide +kernel
theorem dX9_addPass_20 : decode cX9_addPass 20 = .ok (.if_icmp .gt 14, 3) := by decide +kernel
theorem dX9_addPass_23 : decode cX9_addPass 23 = .ok (.iload_n 3, 1) := by decide +kernel
theorem dX9_addPass_24 : decode cX9_addPass 24 = .ok (.iconst 1, 1) := by decide +kernel
theorem dX9_addPass_25 : decode cX9_addPass 25 = .ok (.if_icmp .lt 9, 3) := by decide +kernel
theorem dX9_addPass_28 : decode cX9_addPass 28 = .ok (.iload_n 3, 1) := by decide +kernel
theorem dX9_addPass_29 : decode cX9_addPass 29 = .ok (.bipush 20, 2) := by decide +kernel
theorem dX9_addPass_31 : decode cX9_addPass 31 = .ok (.if_icmp .le 13, 3) := by decide +kernel
theorem dX9_addPass_34 : decode cX9_addPass 34 = .ok (.new 88, 3) := by decide +kernel
theorem dX9_addPass_37 : decode cX9_addPass 37 = .ok (.dup, 1) := by decide +kernel
theorem dX9_addPass_38 : decode cX9_addPass 38 = .ok (.ldc 181, 2) := by decide +kernel
theorem dX9_addPass_40 : decode cX9_addPass 40 = .ok (.invokespecial 92, 3) := by decide +kernel
theorem dX9_addPass_43 : decode cX9_addPass 43 = .ok (.athrow, 1) := by decide +kernel
theorem dX9_addPass_44 : decode cX9_addPass 44 = .ok (.aload_n 0, 1) := by decide +kernel
theorem dX9_addPass_45 : decode cX9_addPass 45 = .ok (.getfield 35, 3) := by decide +kernel
theorem dX9_addPass_48 : decode cX9_addPass 48 = .ok (.invokevirtual 183, 3) := by decide +kernel
theorem dX9_addPass_51 : decode cX9_addPass 51 = .ok (.ifCond .eq 13, 3) := by decide +kernel
theorem dX9_addPass_54 : decode cX9_addPass 54 = .ok (.new 162, 3) := by decide +kernel
theorem dX9_addPass_57 : decode cX9_addPass 57 = .ok (.dup, 1) := by decide +kernel
theorem dX9_addPass_58 : decode cX9_addPass 58 = .ok (.ldc 184, 2) := by decide +kernel
theorem dX9_addPass_60 : decode cX9_addPass 60 = .ok (.invokespecial 166, 3) := by decide +kernel
theorem dX9_addPass_63 : decode cX9_addPass 63 = .ok (.athrow, 1) := by decide +kernel
theorem dX9_addPass_64 : decode cX9_addPass 64 = .ok (.aload_n 0, 1) := by decide +kernel
theorem dX9_addPass_65 : decode cX9_addPass 65 = .ok (.getfield 35, 3) := by decide +kernel
theorem dX9_addPass_68 : decode cX9_addPass 68 = .ok (.iload_n 1, 1) := by decide +kernel
theorem dX9_addPass_69 : decode cX9_addPass 69 = .ok (.iload_n 2, 1) := by decide +kernel
theorem dX9_addPass_70 : decode cX9_addPass 70 = .ok (.iload_n 3, 1) := by decide +kernel
theorem dX9_addPass_71 : decode cX9_addPass 71 = .ok (.invokevirtual 186, 3) := by decide +kernel
theorem dX9_addPass_74 : decode cX9_addPass 74 = .ok (.ireturn, 1) := by decide +kernel
theorem dX9_setRover_0 : decode cX9_setRover 0 = .ok (.iload_n 1, 1) := by decide +kernel
theorem dX9_setRover_1 : decode cX9_setRover 1 = .ok (.bipush 100, 2) := by decide +kernel
theorem dX9_setRover_3 : decode cX9_setRover 3 = .ok (.if_icmp .lt 23, 3) := by decide +kernel
theorem dX9_setRover_6 : decode cX9_setRover 6 = .ok (.iload_n 1, 1) := by decide +kernel
theorem dX9_setRover_7 : decode cX9_setRover 7 = .ok (.sipush 20000, 3) := by decide +kernel
theorem dX9_setRover_10 : decode cX9_setRover 10 = .ok (.if_icmp .gt 16, 3) := by decide +kernel
theorem dX9_setRover_13 : decode cX9_setRover 13 = .ok (.iload_n 2, 1) := by decide +kernel
theorem dX9_setRover_14 : decode cX9_setRover 14 = .ok (.bipush 40, 2) := by decide +kernel
theorem dX9_setRover_16 : decode cX9_setRover 16 = .ok (.if_icmp .lt 10, 3) := by decide +kernel
theorem dX9_setRover_19 : decode cX9_setRover 19 = .ok (.iload_n 2, 1) := by decide +kernel
theorem dX9_setRover_20 : decode cX9_setRover 20 = .ok (.sipush 5000, 3) := by decide +kernel
theorem dX9_setRover_23 : decode cX9_setRover 23 = .ok (.if_icmp .le 13, 3) := by decide +kernel
theorem dX9_setRover_26 : decode cX9_setRover 26 = .ok (.new 88, 3) := by decide +kernel
theorem dX9_setRover_29 : decode cX9_setRover 29 = .ok (.dup, 1) := by decide +kernel
theorem dX9_setRover_30 : decode cX9_setRover 30 = .ok (.ldc 206, 2) := by decide +kernel
theorem dX9_setRover_32 : decode cX9_setRover 32 = .ok (.invokespecial 92, 3) := by decide +kernel
theorem dX9_setRover_35 : decode cX9_setRover 35 = .ok (.athrow, 1) := by decide +kernel
theorem dX9_setRover_36 : decode cX9_setRover 36 = .ok (.aload_n 0, 1) := by decide +kernel
theorem dX9_setRover_37 : decode cX9_setRover 37 = .ok (.getfield 60, 3) := by decide +kernel
theorem dX9_setRover_40 : decode cX9_setRover 40 = .ok (.invokevirtual 208, 3) := by decide +kernel
theorem dX9_setRover_43 : decode cX9_setRover 43 = .ok (.iload_n 2, 1) := by decide +kernel
theorem dX9_setRover_44 : decode cX9_setRover 44 = .ok (.if_icmp .le 13, 3) := by decide +kernel
theorem dX9_setRover_47 : decode cX9_setRover 47 = .ok (.new 162, 3) := by decide +kernel
theorem dX9_setRover_50 : decode cX9_setRover 50 = .ok (.dup, 1) := by decide +kernel
theorem dX9_setRover_51 : decode cX9_setRover 51 = .ok (.ldc 212, 2) := by decide +kernel
theorem dX9_setRover_53 : decode cX9_setRover 53 = .ok (.invokespecial 166, 3) := by decide +kernel
theorem dX9_setRover_56 : decode cX9_setRover 56 = .ok (.athrow, 1) := by decide +kernel
theorem dX9_setRover_57 : decode cX9_setRover 57 = .ok (.aload_n 0, 1) := by decide +kernel
theorem dX9_setRover_58 : decode cX9_setRover 58 = .ok (.getfield 44, 3) := by decide +kernel
theorem dX9_setRover_61 : decode cX9_setRover 61 = .ok (.getfield 214, 3) := by decide +kernel
theorem dX9_setRover_64 : decode cX9_setRover 64 = .ok (.istore_n 3, 1) := by decide +kernel
theorem dX9_setRover_65 : decode cX9_setRover 65 = .ok (.aload_n 0, 1) := by decide +kernel
theorem dX9_setRover_66 : decode cX9_setRover 66 = .ok (.getfield 44, 3) := by decide +kernel
theorem dX9_setRover_69 : decode cX9_setRover 69 = .ok (.iload_n 1, 1) := by decide +kernel
theorem dX9_setRover_70 : decode cX9_setRover 70 = .ok (.putfield 214, 3) := by decide +kernel
theorem dX9_setRover_73 : decode cX9_setRover 73 = .ok (.aload_n 0, 1) := by decide +kernel
theorem dX9_setRover_74 : decode cX9_setRover 74 = .ok (.getfield 44, 3) := by decide +kernel
theorem dX9_setRover_77 : decode cX9_setRover 77 = .ok (.iload_n 2, 1) := by decide +kernel
theorem dX9_setRover_78 : decode cX9_setRover 78 = .ok (.putfield 217, 3) := by decide +kernel
theorem dX9_setRover_81 : decode cX9_setRover 81 = .ok (.aload_n 0, 1) := by decide +kernel
theorem dX9_setRover_82 : decode cX9_setRover 82 = .ok (.getfield 60, 3) := by decide +kernel
theorem dX9_setRover_85 : decode cX9_setRover 85 = .ok (.iload_n 1, 1) := by decide +kernel
theorem dX9_setRover_86 : decode cX9_setRover 86 = .ok (.invokevirtual 220, 3) := by decide +kernel
theorem dX9_setRover_89 : decode cX9_setRover 89 = .ok (.iload_n 3, 1) := by decide +kernel
theorem dX9_setRover_90 : decode cX9_setRover 90 = .ok (.ireturn, 1) := by decide +kernel
theorem dX9_rover_0 : decode cX9_rover 0 = .ok (.iload_n 1, 1) := by decide +kernel
theorem dX9_rover_1 : decode cX9_rover 1 = .ok (.ifCond .lt 9, 3) := by decide +kernel
theorem dX9_rover_4 : decode cX9_rover 4 = .ok (.iload_n 1, 1) := by decide +kernel
theorem dX9_rover_5 : decode cX9_rover 5 = .ok (.bipush 9, 2) := by decide +kernel
theorem dX9_rover_7 : decode cX9_rover 7 = .ok (.if_icmp .le 13, 3) := by decide +kernel
theorem dX9_rover_10 : decode cX9_rover 10 = .ok (.new 109, 3) := by decide +kernel
theorem dX9_rover_13 : decode cX9_rover 13 = .ok (.dup, 1) := by decide +kernel
theorem dX9_rover_14 : decode cX9_rover 14 = .ok (.ldc 223, 2) := by decide +kernel
theorem dX9_rover_16 : decode cX9_rover 16 = .ok (.invokespecial 113, 3) := by decide +kernel
theorem dX9_rover_19 : decode cX9_rover 19 = .ok (.athrow, 1) := by decide +kernel
theorem dX9_rover_20 : decode cX9_rover 20 = .ok (.aload_n 0, 1) := by decide +kernel
theorem dX9_rover_21 : decode cX9_rover 21 = .ok (.getfield 60, 3) := by decide +kernel
theorem dX9_rover_24 : decode cX9_rover 24 = .ok (.iload_n 1, 1) := by decide +kernel
theorem dX9_rover_25 : decode cX9_rover 25 = .ok (.invokevirtual 225, 3) := by decide +kernel
end
section
theorem dX9_rover_28 : decode cX9_rover 28 = .ok (.ireturn, 1) := by decide +kernel
theorem dX9_piece_0 : decode cX9_piece 0 = .ok (.aload_n 0, 1) := by decide +kernel
theorem dX9_piece_1 : decode cX9_piece 1 = .ok (.getfield 60, 3) := by decide +kernel
theorem dX9_piece_4 : decode cX9_piece 4 = .ok (.iload_n 1, 1) := by decide +kernel
theorem dX9_piece_5 : decode cX9_piece 5 = .ok (.invokevirtual 227, 3) := by decide +kernel
theorem dX9_piece_8 : decode cX9_piece 8 = .ok (.ifCond .eq 12, 3) := by decide +kernel
theorem dX9_piece_11 : decode cX9_piece 11 = .ok (.iload_n 2, 1) := by decide +kernel
theorem dX9_piece_12 : decode cX9_piece 12 = .ok (.ifCond .lt 8, 3) := by decide +kernel
theorem dX9_piece_15 : decode cX9_piece 15 = .ok (.iload_n 2, 1) := by decide +kernel
theorem dX9_piece_16 : decode cX9_piece 16 = .ok (.iconst 3, 1) := by decide +kernel
theorem dX9_piece_17 : decode cX9_piece 17 = .ok (.if_icmp .le 13, 3) := by decide +kernel
theorem dX9_piece_20 : decode cX9_piece 20 = .ok (.new 109, 3) := by decide +kernel
theorem dX9_piece_23 : decode cX9_piece 23 = .ok (.dup, 1) := by decide +kernel
theorem dX9_piece_24 : decode cX9_piece 24 = .ok (.ldc 230, 2) := by decide +kernel
theorem dX9_piece_26 : decode cX9_piece 26 = .ok (.invokespecial 113, 3) := by decide +kernel
theorem dX9_piece_29 : decode cX9_piece 29 = .ok (.athrow, 1) := by decide +kernel
theorem dX9_piece_30 : decode cX9_piece 30 = .ok (.aload_n 0, 1) := by decide +kernel
theorem dX9_piece_31 : decode cX9_piece 31 = .ok (.getfield 60, 3) := by decide +kernel
theorem dX9_piece_34 : decode cX9_piece 34 = .ok (.iload_n 1, 1) := by decide +kernel
theorem dX9_piece_35 : decode cX9_piece 35 = .ok (.iload_n 2, 1) := by decide +kernel
theorem dX9_piece_36 : decode cX9_piece 36 = .ok (.invokevirtual 232, 3) := by decide +kernel
theorem dX9_piece_39 : decode cX9_piece 39 = .ok (.ireturn, 1) := by decide +kernel
theorem dX9_activity_0 : decode cX9_activity 0 = .ok (.aload_n 0, 1) := by decide +kernel
theorem dX9_activity_1 : decode cX9_activity 1 = .ok (.getfield 70, 3) := by decide +kernel
theorem dX9_activity_4 : decode cX9_activity 4 = .ok (.iload_n 1, 1) := by decide +kernel
theorem dX9_activity_5 : decode cX9_activity 5 = .ok (.invokevirtual 265, 3) := by decide +kernel
theorem dX9_activity_8 : decode cX9_activity 8 = .ok (.ifCond .eq 12, 3) := by decide +kernel
theorem dX9_activity_11 : decode cX9_activity 11 = .ok (.iload_n 2, 1) := by decide +kernel
theorem dX9_activity_12 : decode cX9_activity 12 = .ok (.ifCond .lt 8, 3) := by decide +kernel
theorem dX9_activity_15 : decode cX9_activity 15 = .ok (.iload_n 2, 1) := by decide +kernel
theorem dX9_activity_16 : decode cX9_activity 16 = .ok (.iconst 2, 1) := by decide +kernel
theorem dX9_activity_17 : decode cX9_activity 17 = .ok (.if_icmp .le 14, 3) := by decide +kernel
theorem dX9_activity_20 : decode cX9_activity 20 = .ok (.new 109, 3) := by decide +kernel
theorem dX9_activity_23 : decode cX9_activity 23 = .ok (.dup, 1) := by decide +kernel
theorem dX9_activity_24 : decode cX9_activity 24 = .ok (.ldc_w 273, 3) := by decide +kernel
theorem dX9_activity_27 : decode cX9_activity 27 = .ok (.invokespecial 113, 3) := by decide +kernel
theorem dX9_activity_30 : decode cX9_activity 30 = .ok (.athrow, 1) := by decide +kernel
theorem dX9_activity_31 : decode cX9_activity 31 = .ok (.aload_n 0, 1) := by decide +kernel
theorem dX9_activity_32 : decode cX9_activity 32 = .ok (.getfield 70, 3) := by decide +kernel
theorem dX9_activity_35 : decode cX9_activity 35 = .ok (.iload_n 1, 1) := by decide +kernel
theorem dX9_activity_36 : decode cX9_activity 36 = .ok (.iload_n 2, 1) := by decide +kernel
theorem dX9_activity_37 : decode cX9_activity 37 = .ok (.invokevirtual 266, 3) := by decide +kernel
theorem dX9_activity_40 : decode cX9_activity 40 = .ok (.ireturn, 1) := by decide +kernel
theorem dX9_count_0 : decode cX9_count 0 = .ok (.iload_n 1, 1) := by decide +kernel
theorem dX9_count_1 : decode cX9_count 1 = .ok (.ifCond .lt 8, 3) := by decide +kernel
theorem dX9_count_4 : decode cX9_count 4 = .ok (.iload_n 1, 1) := by decide +kernel
theorem dX9_count_5 : decode cX9_count 5 = .ok (.iconst 3, 1) := by decide +kernel
theorem dX9_count_6 : decode cX9_count 6 = .ok (.if_icmp .le 13, 3) := by decide +kernel
theorem dX9_count_9 : decode cX9_count 9 = .ok (.new 109, 3) := by decide +kernel
theorem dX9_count_12 : decode cX9_count 12 = .ok (.dup, 1) := by decide +kernel
theorem dX9_count_13 : decode cX9_count 13 = .ok (.ldc 223, 2) := by decide +kernel
theorem dX9_count_15 : decode cX9_count 15 = .ok (.invokespecial 113, 3) := by decide +kernel
theorem dX9_count_18 : decode cX9_count 18 = .ok (.athrow, 1) := by decide +kernel
theorem dX9_count_19 : decode cX9_count 19 = .ok (.aload_n 0, 1) := by decide +kernel
theorem dX9_count_20 : decode cX9_count 20 = .ok (.iload_n 1, 1) := by decide +kernel
theorem dX9_count_21 : decode cX9_count 21 = .ok (.invokevirtual 275, 3) := by decide +kernel
theorem dX9_count_24 : decode cX9_count 24 = .ok (.ireturn, 1) := by decide +kernel
theorem dX9_check_0 : decode cX9_check 0 = .ok (.aload_n 0, 1) := by decide +kernel
theorem dX9_check_1 : decode cX9_check 1 = .ok (.aload_n 0, 1) := by decide +kernel
theorem dX9_check_2 : decode cX9_check 2 = .ok (.getfield 70, 3) := by decide +kernel
theorem dX9_check_5 : decode cX9_check 5 = .ok (.getfield 247, 3) := by decide +kernel
theorem dX9_check_8 : decode cX9_check 8 = .ok (.invokevirtual 278, 3) := by decide +kernel
theorem dX9_check_11 : decode cX9_check 11 = .ok (.istore_n 1, 1) := by decide +kernel
theorem dX9_check_12 : decode cX9_check 12 = .ok (.iload_n 1, 1) := by decide +kernel
theorem dX9_check_13 : decode cX9_check 13 = .ok (.aload_n 0, 1) := by decide +kernel
theorem dX9_check_14 : decode cX9_check 14 = .ok (.getfield 70, 3) := by decide +kernel
theorem dX9_check_17 : decode cX9_check 17 = .ok (.getfield 247, 3) := by decide +kernel
theorem dX9_check_20 : decode cX9_check 20 = .ok (.if_icmp .ge 7, 3) := by decide +kernel
theorem dX9_check_23 : decode cX9_check 23 = .ok (.iload_n 1, 1) := by decide +kernel
theorem dX9_check_24 : decode cX9_check 24 = .ok (.goto 4, 3) := by decide +kernel
theorem dX9_check_27 : decode cX9_check 27 = .ok (.iconst (-1), 1) := by decide +kernel
theorem dX9_check_28 : decode cX9_check 28 = .ok (.ireturn, 1) := by decide +kernel
theorem dX9_foretell_0 : decode cX9_foretell 0 = .ok (.iload_n 2, 1) := by decide +kernel
theorem dX9_foretell_1 : decode cX9_foretell 1 = .ok (.ifCond .lt 9, 3) := by decide +kernel
theorem dX9_foretell_4 : decode cX9_foretell 4 = .ok (.iload_n 2, 1) := by decide +kernel
theorem dX9_foretell_5 : decode cX9_foretell 5 = .ok (.bipush 9, 2) := by decide +kernel
theorem dX9_foretell_7 : decode cX9_foretell 7 = .ok (.if_icmp .le 13, 3) := by decide +kernel
theorem dX9_foretell_10 : decode cX9_foretell 10 = .ok (.new 109, 3) := by decide +kernel
theorem dX9_foretell_13 : decode cX9_foretell 13 = .ok (.dup, 1) := by decide +kernel
theorem dX9_foretell_14 : decode cX9_foretell 14 = .ok (.ldc 223, 2) := by decide +kernel
theorem dX9_foretell_16 : decode cX9_foretell 16 = .ok (.invokespecial 113, 3) := by decide +kernel
theorem dX9_foretell_19 : decode cX9_foretell 19 = .ok (.athrow, 1) := by decide +kernel
theorem dX9_foretell_20 : decode cX9_foretell 20 = .ok (.iload_n 1, 1) := by decide +kernel
theorem dX9_foretell_21 : decode cX9_foretell 21 = .ok (.ifCond .lt 14, 3) := by decide +kernel
theorem dX9_foretell_24 : decode cX9_foretell 24 = .ok (.iload_n 1, 1) := by decide +kernel
theorem dX9_foretell_25 : decode cX9_foretell 25 = .ok (.aload_n 0, 1) := by decide +kernel
theorem dX9_foretell_26 : decode cX9_foretell 26 = .ok (.getfield 70, 3) := by decide +kernel
theorem dX9_foretell_29 : decode cX9_foretell 29 = .ok (.getfield 247, 3) := by decide +kernel
theorem dX9_foretell_32 : decode cX9_foretell 32 = .ok (.if_icmp .le 14, 3) := by decide +kernel
theorem dX9_foretell_35 : decode cX9_foretell 35 = .ok (.new 88, 3) := by decide +kernel
theorem dX9_foretell_38 : decode cX9_foretell 38 = .ok (.dup, 1) := by decide +kernel
theorem dX9_foretell_39 : decode cX9_foretell 39 = .ok (.ldc_w 284, 3) := by decide +kernel
theorem dX9_foretell_42 : decode cX9_foretell 42 = .ok (.invokespecial 92, 3) := by decide +kernel
theorem dX9_foretell_45 : decode cX9_foretell 45 = .ok (.athrow, 1) := by decide +kernel
theorem dX9_foretell_46 : decode cX9_foretell 46 = .ok (.aload_n 0, 1) := by decide +kernel
theorem dX9_foretell_47 : decode cX9_foretell 47 = .ok (.iload_n 1, 1) := by decide +kernel
theorem dX9_foretell_48 : decode cX9_foretell 48 = .ok (.invokevirtual 278, 3) := by decide +kernel
theorem dX9_foretell_51 : decode cX9_foretell 51 = .ok (.iload_n 1, 1) := by decide +kernel
theorem dX9_foretell_52 : decode cX9_foretell 52 = .ok (.if_icmp .ge 14, 3) := by decide +kernel
theorem dX9_foretell_55 : decode cX9_foretell 55 = .ok (.new 162, 3) := by decide +kernel
theorem dX9_foretell_58 : decode cX9_foretell 58 = .ok (.dup, 1) := by decide +kernel
theorem dX9_foretell_59 : decode cX9_foretell 59 = .ok (.ldc_w 286, 3) := by decide +kernel
theorem dX9_foretell_62 : decode cX9_foretell 62 = .ok (.invokespecial 166, 3) := by decide +kernel
theorem dX9_foretell_65 : decode cX9_foretell 65 = .ok (.athrow, 1) := by decide +kernel
theorem dX9_foretell_66 : decode cX9_foretell 66 = .ok (.aload_n 0, 1) := by decide +kernel
theorem dX9_foretell_67 : decode cX9_foretell 67 = .ok (.getfield 64, 3) := by decide +kernel
theorem dX9_foretell_70 : decode cX9_foretell 70 = .ok (.iload_n 2, 1) := by decide +kernel
theorem dX9_foretell_71 : decode cX9_foretell 71 = .ok (.invokevirtual 225, 3) := by decide +kernel
theorem dX9_foretell_74 : decode cX9_foretell 74 = .ok (.ireturn, 1) := by decide +kernel
theorem dX9_run_0 : decode cX9_run 0 = .ok (.iload_n 1, 1) := by decide +kernel
theorem dX9_run_1 : decode cX9_run 1 = .ok (.iconst 1, 1) := by decide +kernel
theorem dX9_run_2 : decode cX9_run 2 = .ok (.if_icmp .lt 9, 3) := by decide +kernel
theorem dX9_run_5 : decode cX9_run 5 = .ok (.iload_n 1, 1) := by decide +kernel
theorem dX9_run_6 : decode cX9_run 6 = .ok (.bipush 40, 2) := by decide +kernel
theorem dX9_run_8 : decode cX9_run 8 = .ok (.if_icmp .le 14, 3) := by decide +kernel
theorem dX9_run_11 : decode cX9_run 11 = .ok (.new 88, 3) := by decide +kernel
theorem dX9_run_14 : decode cX9_run 14 = .ok (.dup, 1) := by decide +kernel
theorem dX9_run_15 : decode cX9_run 15 = .ok (.ldc_w 284, 3) := by decide +kernel
theorem dX9_run_18 : decode cX9_run 18 = .ok (.invokespecial 92, 3) := by decide +kernel
theorem dX9_run_21 : decode cX9_run 21 = .ok (.athrow, 1) := by decide +kernel
theorem dX9_run_22 : decode cX9_run 22 = .ok (.aload_n 0, 1) := by decide +kernel
theorem dX9_run_23 : decode cX9_run 23 = .ok (.getfield 44, 3) := by decide +kernel
theorem dX9_run_26 : decode cX9_run 26 = .ok (.aload_n 0, 1) := by decide +kernel
theorem dX9_run_27 : decode cX9_run 27 = .ok (.getfield 60, 3) := by decide +kernel
theorem dX9_run_30 : decode cX9_run 30 = .ok (.aload_n 0, 1) := by decide +kernel
theorem dX9_run_31 : decode cX9_run 31 = .ok (.getfield 70, 3) := by decide +kernel
theorem dX9_run_34 : decode cX9_run 34 = .ok (.iload_n 1, 1) := by decide +kernel
theorem dX9_run_35 : decode cX9_run 35 = .ok (.invokevirtual 288, 3) := by decide +kernel
theorem dX9_run_38 : decode cX9_run 38 = .ok (.istore_n 2, 1) := by decide +kernel
theorem dX9_run_39 : decode cX9_run 39 = .ok (.iconst 0, 1) := by decide +kernel
theorem dX9_run_40 : decode cX9_run 40 = .ok (.istore_n 3, 1) := by decide +kernel
theorem dX9_run_41 : decode cX9_run 41 = .ok (.iload_n 3, 1) := by decide +kernel
theorem dX9_run_42 : decode cX9_run 42 = .ok (.iload_n 2, 1) := by decide +kernel
theorem dX9_run_43 : decode cX9_run 43 = .ok (.if_icmp .ge 17, 3) := by decide +kernel
theorem dX9_run_46 : decode cX9_run 46 = .ok (.aload_n 0, 1) := by decide +kernel
theorem dX9_run_47 : decode cX9_run 47 = .ok (.getfield 70, 3) := by decide +kernel
theorem dX9_run_50 : decode cX9_run 50 = .ok (.iconst 0, 1) := by decide +kernel
theorem dX9_run_51 : decode cX9_run 51 = .ok (.invokevirtual 268, 3) := by decide +kernel
theorem dX9_run_54 : decode cX9_run 54 = .ok (.iinc 3 1, 3) := by decide +kernel
theorem dX9_run_57 : decode cX9_run 57 = .ok (.goto (-16), 3) := by decide +kernel
theorem dX9_run_60 : decode cX9_run 60 = .ok (.iload_n 2, 1) := by decide +kernel
theorem dX9_run_61 : decode cX9_run 61 = .ok (.ireturn, 1) := by decide +kernel
theorem dX9_make_0 : decode cX9_make 0 = .ok (.iload_n 1, 1) := by decide +kernel
theorem dX9_make_1 : decode cX9_make 1 = .ok (.iconst 1, 1) := by decide +kernel
theorem dX9_make_2 : decode cX9_make 2 = .ok (.if_icmp .lt 10, 3) := by decide +kernel
theorem dX9_make_5 : decode cX9_make 5 = .ok (.iload_n 1, 1) := by decide +kernel
theorem dX9_make_6 : decode cX9_make 6 = .ok (.sipush 2880, 3) := by decide +kernel
theorem dX9_make_9 : decode cX9_make 9 = .ok (.if_icmp .le 14, 3) := by decide +kernel
theorem dX9_make_12 : decode cX9_make 12 = .ok (.new 88, 3) := by decide +kernel
theorem dX9_make_15 : decode cX9_make 15 = .ok (.dup, 1) := by decide +kernel
theorem dX9_make_16 : decode cX9_make 16 = .ok (.ldc_w 292, 3) := by decide +kernel
theorem dX9_make_19 : decode cX9_make 19 = .ok (.invokespecial 92, 3) := by decide +kernel
theorem dX9_make_22 : decode cX9_make 22 = .ok (.athrow, 1) := by decide +kernel
theorem dX9_make_23 : decode cX9_make 23 = .ok (.aload_n 0, 1) := by decide +kernel
theorem dX9_make_24 : decode cX9_make 24 = .ok (.aload_n 0, 1) := by decide +kernel
theorem dX9_make_25 : decode cX9_make 25 = .ok (.getfield 70, 3) := by decide +kernel
theorem dX9_make_28 : decode cX9_make 28 = .ok (.getfield 247, 3) := by decide +kernel
theorem dX9_make_31 : decode cX9_make 31 = .ok (.invokevirtual 278, 3) := by decide +kernel
theorem dX9_make_34 : decode cX9_make 34 = .ok (.aload_n 0, 1) := by decide +kernel
theorem dX9_make_35 : decode cX9_make 35 = .ok (.getfield 70, 3) := by decide +kernel
theorem dX9_make_38 : decode cX9_make 38 = .ok (.getfield 247, 3) := by decide +kernel
theorem dX9_make_41 : decode cX9_make 41 = .ok (.if_icmp .ge 5, 3) := by decide +kernel
theorem dX9_make_44 : decode cX9_make 44 = .ok (.iconst 0, 1) := by decide +kernel
theorem dX9_make_45 : decode cX9_make 45 = .ok (.ireturn, 1) := by decide +kernel
theorem dX9_make_46 : decode cX9_make 46 = .ok (.aload_n 0, 1) := by decide +kernel
theorem dX9_make_47 : decode cX9_make 47 = .ok (.getfield 53, 3) := by decide +kernel
theorem dX9_make_50 : decode cX9_make 50 = .ok (.aload_n 0, 1) := by decide +kernel
theorem dX9_make_51 : decode cX9_make 51 = .ok (.getfield 70, 3) := by decide +kernel
theorem dX9_make_54 : decode cX9_make 54 = .ok (.aload_n 0, 1) := by decide +kernel
theorem dX9_make_55 : decode cX9_make 55 = .ok (.getfield 64, 3) := by decide +kernel
theorem dX9_make_58 : decode cX9_make 58 = .ok (.iload_n 1, 1) := by decide +kernel
theorem dX9_make_59 : decode cX9_make 59 = .ok (.invokevirtual 294, 3) := by decide +kernel
theorem dX9_make_62 : decode cX9_make 62 = .ok (.ireturn, 1) := by decide +kernel
theorem dX9_nearest_0 : decode cX9_nearest 0 = .ok (.aload_n 0, 1) := by decide +kernel
theorem dX9_nearest_1 : decode cX9_nearest 1 = .ok (.getfield 28, 3) := by decide +kernel
theorem dX9_nearest_4 : decode cX9_nearest 4 = .ok (.iload_n 1, 1) := by decide +kernel
theorem dX9_nearest_5 : decode cX9_nearest 5 = .ok (.invokevirtual 171, 3) := by decide +kernel
theorem dX9_nearest_8 : decode cX9_nearest 8 = .ok (.ifCond .ne 14, 3) := by decide +kernel
theorem dX9_nearest_11 : decode cX9_nearest 11 = .ok (.new 109, 3) := by decide +kernel
theorem dX9_nearest_14 : decode cX9_nearest 14 = .ok (.dup, 1) := by decide +kernel
theorem dX9_nearest_15 : decode cX9_nearest 15 = .ok (.ldc_w 298, 3) := by decide +kernel
theorem dX9_nearest_18 : decode cX9_nearest 18 = .ok (.invokespecial 113, 3) := by decide +kernel
theorem dX9_nearest_21 : decode cX9_nearest 21 = .ok (.athrow, 1) := by decide +kernel
theorem dX9_nearest_22 : decode cX9_nearest 22 = .ok (.aload_n 0, 1) := by decide +kernel
theorem dX9_nearest_23 : decode cX9_nearest 23 = .ok (.getfield 21, 3) := by decide +kernel
theorem dX9_nearest_26 : decode cX9_nearest 26 = .ok (.aload_n 0, 1) := by decide +kernel
theorem dX9_nearest_27 : decode cX9_nearest 27 = .ok (.getfield 60, 3) := by decide +kernel
theorem dX9_nearest_30 : decode cX9_nearest 30 = .ok (.getfield 300, 3) := by decide +kernel
theorem dX9_nearest_33 : decode cX9_nearest 33 = .ok (.aload_n 0, 1) := by decide +kernel
theorem dX9_nearest_34 : decode cX9_nearest 34 = .ok (.getfield 60, 3) := by decide +kernel
theorem dX9_nearest_37 : decode cX9_nearest 37 = .ok (.getfield 303, 3) := by decide +kernel
theorem dX9_nearest_40 : decode cX9_nearest 40 = .ok (.invokestatic 134, 3) := by decide +kernel
theorem dX9_nearest_43 : decode cX9_nearest 43 = .ok (.invokevirtual 306, 3) := by decide +kernel
theorem dX9_nearest_46 : decode cX9_nearest 46 = .ok (.aload_n 0, 1) := by decide +kernel
theorem dX9_nearest_47 : decode cX9_nearest 47 = .ok (.getfield 53, 3) := by decide +kernel
theorem dX9_nearest_50 : decode cX9_nearest 50 = .ok (.aload_n 0, 1) := by decide +kernel
theorem dX9_nearest_51 : decode cX9_nearest 51 = .ok (.getfield 60, 3) := by decide +kernel
theorem dX9_nearest_54 : decode cX9_nearest 54 = .ok (.iload_n 1, 1) := by decide +kernel
theorem dX9_nearest_55 : decode cX9_nearest 55 = .ok (.invokevirtual 309, 3) := by decide +kernel
theorem dX9_nearest_58 : decode cX9_nearest 58 = .ok (.istore_n 2, 1) := by decide +kernel
theorem dX9_nearest_59 : decode cX9_nearest 59 = .ok (.iload_n 2, 1) := by decide +kernel
theorem dX9_nearest_60 : decode cX9_nearest 60 = .ok (.iconst (-1), 1) := by decide +kernel
theorem dX9_nearest_61 : decode cX9_nearest 61 = .ok (.if_icmp .ne 7, 3) := by decide +kernel
theorem dX9_nearest_64 : decode cX9_nearest 64 = .ok (.iconst (-1), 1) := by decide +kernel
theorem dX9_nearest_65 : decode cX9_nearest 65 = .ok (.goto 15, 3) := by decide +kernel
theorem dX9_nearest_68 : decode cX9_nearest 68 = .ok (.bipush 100, 2) := by decide +kernel
theorem dX9_nearest_70 : decode cX9_nearest 70 = .ok (.iload_n 2, 1) := by decide +kernel
theorem dX9_nearest_71 : decode cX9_nearest 71 = .ok (.bipush 24, 2) := by decide +kernel
theorem dX9_nearest_73 : decode cX9_nearest 73 = .ok (.irem, 1) := by decide +kernel
theorem dX9_nearest_74 : decode cX9_nearest 74 = .ok (.imul, 1) := by decide +kernel
theorem dX9_nearest_75 : decode cX9_nearest 75 = .ok (.iload_n 2, 1) := by decide +kernel
theorem dX9_nearest_76 : decode cX9_nearest 76 = .ok (.bipush 24, 2) := by decide +kernel
theorem dX9_nearest_78 : decode cX9_nearest 78 = .ok (.idiv, 1) := by decide +kernel
theorem dX9_nearest_79 : decode cX9_nearest 79 = .ok (.iadd, 1) := by decide +kernel
theorem dX9_nearest_80 : decode cX9_nearest 80 = .ok (.ireturn, 1) := by decide +kernel
theorem dX9_sent_0 : decode cX9_sent 0 = .ok (.aload_n 0, 1) := by decide +kernel
theorem dX9_sent_1 : decode cX9_sent 1 = .ok (.getfield 60, 3) := by decide +kernel
theorem dX9_sent_4 : decode cX9_sent 4 = .ok (.getfield 335, 3) := by decide +kernel
theorem dX9_sent_7 : decode cX9_sent 7 = .ok (.ifCond .ne 7, 3) := by decide +kernel
theorem dX9_sent_10 : decode cX9_sent 10 = .ok (.dconst 1, 1) := by decide +kernel
theorem dX9_sent_11 : decode cX9_sent 11 = .ok (.goto 20, 3) := by decide +kernel
theorem dX9_sent_14 : decode cX9_sent 14 = .ok (.aload_n 0, 1) := by decide +kernel
theorem dX9_sent_15 : decode cX9_sent 15 = .ok (.getfield 60, 3) := by decide +kernel
theorem dX9_sent_18 : decode cX9_sent 18 = .ok (.getfield 338, 3) := by decide +kernel
theorem dX9_sent_21 : decode cX9_sent 21 = .ok (.i2d, 1) := by decide +kernel
theorem dX9_sent_22 : decode cX9_sent 22 = .ok (.aload_n 0, 1) := by decide +kernel
theorem dX9_sent_23 : decode cX9_sent 23 = .ok (.getfield 60, 3) := by decide +kernel
theorem dX9_sent_26 : decode cX9_sent 26 = .ok (.getfield 335, 3) := by decide +kernel
theorem dX9_sent_29 : decode cX9_sent 29 = .ok (.i2d, 1) := by decide +kernel
theorem dX9_sent_30 : decode cX9_sent 30 = .ok (.ddiv, 1) := by decide +kernel
theorem dX9_sent_31 : decode cX9_sent 31 = .ok (.dreturn, 1) := by decide +kernel
theorem dX9_numberOf_0 : decode cX9_numberOf 0 = .ok (.iload_n 1, 1) := by decide +kernel
theorem dX9_numberOf_1 : decode cX9_numberOf 1 = .ok (.tableswitch 51 0 2 #[27, 35, 43], 27) := by decide +kernel
theorem dX9_numberOf_28 : decode cX9_numberOf 28 = .ok (.aload_n 0, 1) := by decide +kernel
theorem dX9_numberOf_29 : decode cX9_numberOf 29 = .ok (.getfield 28, 3) := by decide +kernel
theorem dX9_numberOf_32 : decode cX9_numberOf 32 = .ok (.getfield 235, 3) := by decide +kernel
theorem dX9_numberOf_35 : decode cX9_numberOf 35 = .ok (.ireturn, 1) := by decide +kernel
theorem dX9_numberOf_36 : decode cX9_numberOf 36 = .ok (.aload_n 0, 1) := by decide +kernel
theorem dX9_numberOf_37 : decode cX9_numberOf 37 = .ok (.getfield 35, 3) := by decide +kernel
theorem dX9_numberOf_40 : decode cX9_numberOf 40 = .ok (.getfield 351, 3) := by decide +kernel
theorem dX9_numberOf_43 : decode cX9_numberOf 43 = .ok (.ireturn, 1) := by decide +kernel
theorem dX9_numberOf_44 : decode cX9_numberOf 44 = .ok (.aload_n 0, 1) := by decide +kernel
theorem dX9_numberOf_45 : decode cX9_numberOf 45 = .ok (.getfield 70, 3) := by decide +kernel
theorem dX9_numberOf_48 : decode cX9_numberOf 48 = .ok (.getfield 247, 3) := by decide +kernel
theorem dX9_numberOf_51 : decode cX9_numberOf 51 = .ok (.ireturn, 1) := by decide +kernel
theorem dX9_numberOf_52 : decode cX9_numberOf 52 = .ok (.aload_n 0, 1) := by decide +kernel
theorem dX9_numberOf_53 : decode cX9_numberOf 53 = .ok (.getfield 313, 3) := by decide +kernel
theorem dX9_numberOf_56 : decode cX9_numberOf 56 = .ok (.ireturn, 1) := by decide +kernel
theorem dX9_doOnCopy_0 : decode cX9_doOnCopy 0 = .ok (.aload_n 0, 1) := by decide +kernel
theorem dX9_doOnCopy_1 : decode cX9_doOnCopy 1 = .ok (.getfield 64, 3) := by decide +kernel
theorem dX9_doOnCopy_4 : decode cX9_doOnCopy 4 = .ok (.aload_n 0, 1) := by decide +kernel
theorem dX9_doOnCopy_5 : decode cX9_doOnCopy 5 = .ok (.getfield 60, 3) := by decide +kernel
theorem dX9_doOnCopy_8 : decode cX9_doOnCopy 8 = .ok (.invokevirtual 322, 3) := by decide +kernel
theorem dX9_doOnCopy_11 : decode cX9_doOnCopy 11 = .ok (.aload_n 0, 1) := by decide +kernel
theorem dX9_doOnCopy_12 : decode cX9_doOnCopy 12 = .ok (.getfield 44, 3) := by decide +kernel
theorem dX9_doOnCopy_15 : decode cX9_doOnCopy 15 = .ok (.aload_n 0, 1) := by decide +kernel
theorem dX9_doOnCopy_16 : decode cX9_doOnCopy 16 = .ok (.getfield 64, 3) := by decide +kernel
theorem dX9_doOnCopy_19 : decode cX9_doOnCopy 19 = .ok (.aload_n 0, 1) := by decide +kernel
theorem dX9_doOnCopy_20 : decode cX9_doOnCopy 20 = .ok (.getfield 70, 3) := by decide +kernel
theorem dX9_doOnCopy_23 : decode cX9_doOnCopy 23 = .ok (.iload_n 1, 1) := by decide +kernel
theorem dX9_doOnCopy_24 : decode cX9_doOnCopy 24 = .ok (.invokevirtual 288, 3) := by decide +kernel
theorem dX9_doOnCopy_27 : decode cX9_doOnCopy 27 = .ok (.ireturn, 1) := by decide +kernel
theorem dX10_init_0 : decode cX10_init 0 = .ok (.aload_n 0, 1) := by decide +kernel
theorem dX10_init_1 : decode cX10_init 1 = .ok (.invokespecial 1, 3) := by decide +kernel
theorem dX10_init_4 : decode cX10_init 4 = .ok (.aload_n 0, 1) := by decide +kernel
theorem dX10_init_5 : decode cX10_init 5 = .ok (.bipush 9, 2) := by decide +kernel
theorem dX10_init_7 : decode cX10_init 7 = .ok (.newarray .int, 2) := by decide +kernel
theorem dX10_init_9 : decode cX10_init 9 = .ok (.dup, 1) := by decide +kernel
theorem dX10_init_10 : decode cX10_init 10 = .ok (.iconst 0, 1) := by decide +kernel
theorem dX10_init_11 : decode cX10_init 11 = .ok (.iconst 0, 1) := by decide +kernel
theorem dX10_init_12 : decode cX10_init 12 = .ok (.iastore, 1) := by decide +kernel
theorem dX10_init_13 : decode cX10_init 13 = .ok (.dup, 1) := by decide +kernel
theorem dX10_init_14 : decode cX10_init 14 = .ok (.iconst 1, 1) := by decide +kernel
theorem dX10_init_15 : decode cX10_init 15 = .ok (.iconst 0, 1) := by decide +kernel
theorem dX10_init_16 : decode cX10_init 16 = .ok (.iastore, 1) := by decide +kernel
theorem dX10_init_17 : decode cX10_init 17 = .ok (.dup, 1) := by decide +kernel
theorem dX10_init_18 : decode cX10_init 18 = .ok (.iconst 2, 1) := by decide +kernel
theorem dX10_init_19 : decode cX10_init 19 = .ok (.iconst 0, 1) := by decide +kernel
theorem dX10_init_20 : decode cX10_init 20 = .ok (.iastore, 1) := by decide +kernel
theorem dX10_init_21 : decode cX10_init 21 = .ok (.dup, 1) := by decide +kernel
theorem dX10_init_22 : decode cX10_init 22 = .ok (.iconst 3, 1) := by decide +kernel
theorem dX10_init_23 : decode cX10_init 23 = .ok (.sipush 3000, 3) := by decide +kernel
theorem dX10_init_26 : decode cX10_init 26 = .ok (.iastore, 1) := by decide +kernel
theorem dX10_init_27 : decode cX10_init 27 = .ok (.dup, 1) := by decide +kernel
theorem dX10_init_28 : decode cX10_init 28 = .ok (.iconst 4, 1) := by decide +kernel
theorem dX10_init_29 : decode cX10_init 29 = .ok (.bipush (-20), 2) := by decide +kernel
theorem dX10_init_31 : decode cX10_init 31 = .ok (.iastore, 1) := by decide +kernel
theorem dX10_init_32 : decode cX10_init 32 = .ok (.dup, 1) := by decide +kernel
theorem dX10_init_33 : decode cX10_init 33 = .ok (.iconst 5, 1) := by decide +kernel
theorem dX10_init_34 : decode cX10_init 34 = .ok (.iconst 0, 1) := by decide +kernel
theorem dX10_init_35 : decode cX10_init 35 = .ok (.iastore, 1) := by decide +kernel
theorem dX10_init_36 : decode cX10_init 36 = .ok (.dup, 1) := by decide +kernel
theorem dX10_init_37 : decode cX10_init 37 = .ok (.bipush 6, 2) := by decide +kernel
theorem dX10_init_39 : decode cX10_init 39 = .ok (.bipush 100, 2) := by decide +kernel
theorem dX10_init_41 : decode cX10_init 41 = .ok (.iastore, 1) := by decide +kernel
theorem dX10_init_42 : decode cX10_init 42 = .ok (.dup, 1) := by decide +kernel
theorem dX10_init_43 : decode cX10_init 43 = .ok (.bipush 7, 2) := by decide +kernel
theorem dX10_init_45 : decode cX10_init 45 = .ok (.iconst 0, 1) := by decide +kernel
theorem dX10_init_46 : decode cX10_init 46 = .ok (.iastore, 1) := by decide +kernel
theorem dX10_init_47 : decode cX10_init 47 = .ok (.dup, 1) := by decide +kernel
theorem dX10_init_48 : decode cX10_init 48 = .ok (.bipush 8, 2) := by decide +kernel
theorem dX10_init_50 : decode cX10_init 50 = .ok (.sipush 4000, 3) := by decide +kernel
theorem dX10_init_53 : decode cX10_init 53 = .ok (.iastore, 1) := by decide +kernel
theorem dX10_init_54 : decode cX10_init 54 = .ok (.putfield 7, 3) := by decide +kernel
theorem dX10_init_57 : decode cX10_init 57 = .ok (.aload_n 0, 1) := by decide +kernel
theorem dX10_init_58 : decode cX10_init 58 = .ok (.iconst 0, 1) := by decide +kernel
theorem dX10_init_59 : decode cX10_init 59 = .ok (.anewarray 13, 3) := by decide +kernel
theorem dX10_init_62 : decode cX10_init 62 = .ok (.putfield 14, 3) := by decide +kernel
theorem dX10_init_65 : decode cX10_init 65 = .ok (.aload_n 0, 1) := by decide +kernel
theorem dX10_init_66 : decode cX10_init 66 = .ok (.bipush 12, 2) := by decide +kernel
theorem dX10_init_68 : decode cX10_init 68 = .ok (.newarray .int, 2) := by decide +kernel
theorem dX10_init_70 : decode cX10_init 70 = .ok (.putfield 18, 3) := by decide +kernel
theorem dX10_init_73 : decode cX10_init 73 = .ok (.aload_n 0, 1) := by decide +kernel
theorem dX10_init_74 : decode cX10_init 74 = .ok (.bipush 12, 2) := by decide +kernel
theorem dX10_init_76 : decode cX10_init 76 = .ok (.newarray .boolean, 2) := by decide +kernel
theorem dX10_init_78 : decode cX10_init 78 = .ok (.putfield 21, 3) := by decide +kernel
theorem dX10_init_81 : decode cX10_init 81 = .ok (.aload_n 0, 1) := by decide +kernel
theorem dX10_init_82 : decode cX10_init 82 = .ok (.sipush 800, 3) := by decide +kernel
theorem dX10_init_85 : decode cX10_init 85 = .ok (.putfield 25, 3) := by decide +kernel
theorem dX10_init_88 : decode cX10_init 88 = .ok (.aload_n 0, 1) := by decide +kernel
theorem dX10_init_89 : decode cX10_init 89 = .ok (.sipush 1440, 3) := by decide +kernel
theorem dX10_init_92 : decode cX10_init 92 = .ok (.newarray .int, 2) := by decide +kernel
theorem dX10_init_94 : decode cX10_init 94 = .ok (.putfield 29, 3) := by decide +kernel
theorem dX10_init_97 : decode cX10_init 97 = .ok (.aload_n 0, 1) := by decide +kernel
theorem dX10_init_98 : decode cX10_init 98 = .ok (.bipush 12, 2) := by decide +kernel
theorem dX10_init_100 : decode cX10_init 100 = .ok (.anewarray 13, 3) := by decide +kernel
theorem dX10_init_103 : decode cX10_init 103 = .ok (.putfield 32, 3) := by decide +kernel
theorem dX10_init_106 : decode cX10_init 106 = .ok (.return_, 1) := by decide +kernel
theorem dX10_light_0 : decode cX10_light 0 = .ok (.aload_n 0, 1) := by decide +kernel
theorem dX10_light_1 : decode cX10_light 1 = .ok (.getfield 7, 3) := by decide +kernel
theorem dX10_light_4 : decode cX10_light 4 = .ok (.iconst 0, 1) := by decide +kernel
theorem dX10_light_5 : decode cX10_light 5 = .ok (.iaload, 1) := by decide +kernel
theorem dX10_light_6 : decode cX10_light 6 = .ok (.sipush 1440, 3) := by decide +kernel
theorem dX10_light_9 : decode cX10_light 9 = .ok (.irem, 1) := by decide +kernel
theorem dX10_light_10 : decode cX10_light 10 = .ok (.istore_n 1, 1) := by decide +kernel
theorem dX10_light_11 : decode cX10_light 11 = .ok (.iload_n 1, 1) := by decide +kernel
theorem dX10_light_12 : decode cX10_light 12 = .ok (.sipush 360, 3) := by decide +kernel
theorem dX10_light_15 : decode cX10_light 15 = .ok (.if_icmp .lt 10, 3) := by decide +kernel
theorem dX10_light_18 : decode cX10_light 18 = .ok (.iload_n 1, 1) := by decide +kernel
theorem dX10_light_19 : decode cX10_light 19 = .ok (.sipush 1080, 3) := by decide +kernel
theorem dX10_light_22 : decode cX10_light 22 = .ok (.if_icmp .lt 7, 3) := by decide +kernel
theorem dX10_light_25 : decode cX10_light 25 = .ok (.iconst 0, 1) := by decide +kernel
theorem dX10_light_26 : decode cX10_light 26 = .ok (.goto 23, 3) := by decide +kernel
theorem dX10_light_29 : decode cX10_light 29 = .ok (.iload_n 1, 1) := by decide +kernel
theorem dX10_light_30 : decode cX10_light 30 = .ok (.sipush 720, 3) := by decide +kernel
theorem dX10_light_33 : decode cX10_light 33 = .ok (.if_icmp .gt 11, 3) := by decide +kernel
theorem dX10_light_36 : decode cX10_light 36 = .ok (.iload_n 1, 1) := by decide +kernel
theorem dX10_light_37 : decode cX10_light 37 = .ok (.sipush 360, 3) := by decide +kernel
theorem dX10_light_40 : decode cX10_light 40 = .ok (.isub, 1) := by decide +kernel
theorem dX10_light_41 : decode cX10_light 41 = .ok (.goto 8, 3) := by decide +kernel
theorem dX10_light_44 : decode cX10_light 44 = .ok (.sipush 1080, 3) := by decide +kernel
theorem dX10_light_47 : decode cX10_light 47 = .ok (.iload_n 1, 1) := by decide +kernel
theorem dX10_light_48 : decode cX10_light 48 = .ok (.isub, 1) := by decide +kernel
theorem dX10_light_49 : decode cX10_light 49 = .ok (.ireturn, 1) := by decide +kernel
theorem dX10_minute_0 : decode cX10_minute 0 = .ok (.aload_n 0, 1) := by decide +kernel
theorem dX10_minute_1 : decode cX10_minute 1 = .ok (.getfield 7, 3) := by decide +kernel
theorem dX10_minute_4 : decode cX10_minute 4 = .ok (.iconst 0, 1) := by decide +kernel
theorem dX10_minute_5 : decode cX10_minute 5 = .ok (.iaload, 1) := by decide +kernel
theorem dX10_minute_6 : decode cX10_minute 6 = .ok (.sipush 14400, 3) := by decide +kernel
theorem dX10_minute_9 : decode cX10_minute 9 = .ok (.if_icmp .lt 6, 3) := by decide +kernel
theorem dX10_minute_12 : decode cX10_minute 12 = .ok (.bipush 7, 2) := by decide +kernel
theorem dX10_minute_14 : decode cX10_minute 14 = .ok (.ireturn, 1) := by decide +kernel
theorem dX10_minute_15 : decode cX10_minute 15 = .ok (.aload_n 0, 1) := by decide +kernel
theorem dX10_minute_16 : decode cX10_minute 16 = .ok (.invokevirtual 48, 3) := by decide +kernel
theorem dX10_minute_19 : decode cX10_minute 19 = .ok (.aload_n 0, 1) := by decide +kernel
theorem dX10_minute_20 : decode cX10_minute 20 = .ok (.getfield 7, 3) := by decide +kernel
theorem dX10_minute_23 : decode cX10_minute 23 = .ok (.bipush 6, 2) := by decide +kernel
theorem dX10_minute_25 : decode cX10_minute 25 = .ok (.iaload, 1) := by decide +kernel
theorem dX10_minute_26 : decode cX10_minute 26 = .ok (.imul, 1) := by decide +kernel
theorem dX10_minute_27 : decode cX10_minute 27 = .ok (.sipush 3600, 3) := by decide +kernel
theorem dX10_minute_30 : decode cX10_minute 30 = .ok (.idiv, 1) := by decide +kernel
theorem dX10_minute_31 : decode cX10_minute 31 = .ok (.istore_n 3, 1) := by decide +kernel
theorem dX10_minute_32 : decode cX10_minute 32 = .ok (.aload_n 0, 1) := by decide +kernel
theorem dX10_minute_33 : decode cX10_minute 33 = .ok (.getfield 7, 3) := by decide +kernel
theorem dX10_minute_36 : decode cX10_minute 36 = .ok (.iconst 3, 1) := by decide +kernel
theorem dX10_minute_37 : decode cX10_minute 37 = .ok (.iaload, 1) := by decide +kernel
theorem dX10_minute_38 : decode cX10_minute 38 = .ok (.iload_n 3, 1) := by decide +kernel
theorem dX10_minute_39 : decode cX10_minute 39 = .ok (.iadd, 1) := by decide +kernel
theorem dX10_minute_40 : decode cX10_minute 40 = .ok (.iload_n 2, 1) := by decide +kernel
theorem dX10_minute_41 : decode cX10_minute 41 = .ok (.ifCond .eq 7, 3) := by decide +kernel
theorem dX10_minute_44 : decode cX10_minute 44 = .ok (.iconst 2, 1) := by decide +kernel
theorem dX10_minute_45 : decode cX10_minute 45 = .ok (.goto 4, 3) := by decide +kernel
theorem dX10_minute_48 : decode cX10_minute 48 = .ok (.iconst 1, 1) := by decide +kernel
theorem dX10_minute_49 : decode cX10_minute 49 = .ok (.isub, 1) := by decide +kernel
theorem dX10_minute_50 : decode cX10_minute 50 = .ok (.aload_n 0, 1) := by decide +kernel
theorem dX10_minute_51 : decode cX10_minute 51 = .ok (.getfield 7, 3) := by decide +kernel
theorem dX10_minute_54 : decode cX10_minute 54 = .ok (.iconst 5, 1) := by decide +kernel
theorem dX10_minute_55 : decode cX10_minute 55 = .ok (.iaload, 1) := by decide +kernel
theorem dX10_minute_56 : decode cX10_minute 56 = .ok (.iconst 1, 1) := by decide +kernel
theorem dX10_minute_57 : decode cX10_minute 57 = .ok (.if_icmp .ne 7, 3) := by decide +kernel
theorem dX10_minute_60 : decode cX10_minute 60 = .ok (.iconst 3, 1) := by decide +kernel
theorem dX10_minute_61 : decode cX10_minute 61 = .ok (.goto 4, 3) := by decide +kernel
theorem dX10_minute_64 : decode cX10_minute 64 = .ok (.iconst 0, 1) := by decide +kernel
theorem dX10_minute_65 : decode cX10_minute 65 = .ok (.isub, 1) := by decide +kernel
theorem dX10_minute_66 : decode cX10_minute 66 = .ok (.iload_n 1, 1) := by decide +kernel
theorem dX10_minute_67 : decode cX10_minute 67 = .ok (.isub, 1) := by decide +kernel
theorem dX10_minute_68 : decode cX10_minute 68 = .ok (.istore 4, 2) := by decide +kernel
theorem dX10_minute_70 : decode cX10_minute 70 = .ok (.iload 4, 2) := by decide +kernel
theorem dX10_minute_72 : decode cX10_minute 72 = .ok (.ifCond .ge 5, 3) := by decide +kernel
theorem dX10_minute_75 : decode cX10_minute 75 = .ok (.iconst 2, 1) := by decide +kernel
theorem dX10_minute_76 : decode cX10_minute 76 = .ok (.ireturn, 1) := by decide +kernel
theorem dX10_minute_77 : decode cX10_minute 77 = .ok (.aload_n 0, 1) := by decide +kernel
theorem dX10_minute_78 : decode cX10_minute 78 = .ok (.getfield 7, 3) := by decide +kernel
theorem dX10_minute_81 : decode cX10_minute 81 = .ok (.iconst 3, 1) := by decide +kernel
theorem dX10_minute_82 : decode cX10_minute 82 = .ok (.iload 4, 2) := by decide +kernel
theorem dX10_minute_84 : decode cX10_minute 84 = .ok (.aload_n 0, 1) := by decide +kernel
theorem dX10_minute_85 : decode cX10_minute 85 = .ok (.getfield 7, 3) := by decide +kernel
theorem dX10_minute_88 : decode cX10_minute 88 = .ok (.bipush 8, 2) := by decide +kernel
theorem dX10_minute_90 : decode cX10_minute 90 = .ok (.iaload, 1) := by decide +kernel
theorem dX10_minute_91 : decode cX10_minute 91 = .ok (.if_icmp .le 13, 3) := by decide +kernel
theorem dX10_minute_94 : decode cX10_minute 94 = .ok (.aload_n 0, 1) := by decide +kernel
theorem dX10_minute_95 : decode cX10_minute 95 = .ok (.getfield 7, 3) := by decide +kernel
theorem dX10_minute_98 : decode cX10_minute 98 = .ok (.bipush 8, 2) := by decide +kernel
theorem dX10_minute_100 : decode cX10_minute 100 = .ok (.iaload, 1) := by decide +kernel
theorem dX10_minute_101 : decode cX10_minute 101 = .ok (.goto 5, 3) := by decide +kernel
theorem dX10_minute_104 : decode cX10_minute 104 = .ok (.iload 4, 2) := by decide +kernel
theorem dX10_minute_106 : decode cX10_minute 106 = .ok (.iastore, 1) := by decide +kernel
theorem dX10_minute_107 : decode cX10_minute 107 = .ok (.aload_n 0, 1) := by decide +kernel
theorem dX10_minute_108 : decode cX10_minute 108 = .ok (.invokevirtual 48, 3) := by decide +kernel
theorem dX10_minute_111 : decode cX10_minute 111 = .ok (.bipush 6, 2) := by decide +kernel
theorem dX10_minute_113 : decode cX10_minute 113 = .ok (.idiv, 1) := by decide +kernel
theorem dX10_minute_114 : decode cX10_minute 114 = .ok (.bipush 70, 2) := by decide +kernel
theorem dX10_minute_116 : decode cX10_minute 116 = .ok (.isub, 1) := by decide +kernel
theorem dX10_minute_117 : decode cX10_minute 117 = .ok (.istore 5, 2) := by decide +kernel
theorem dX10_minute_119 : decode cX10_minute 119 = .ok (.aload_n 0, 1) := by decide +kernel
theorem dX10_minute_120 : decode cX10_minute 120 = .ok (.getfield 7, 3) := by decide +kernel
theorem dX10_minute_123 : decode cX10_minute 123 = .ok (.iconst 4, 1) := by decide +kernel
theorem dX10_minute_124 : decode cX10_minute 124 = .ok (.aload_n 0, 1) := by decide +kernel
theorem dX10_minute_125 : decode cX10_minute 125 = .ok (.getfield 7, 3) := by decide +kernel
theorem dX10_minute_128 : decode cX10_minute 128 = .ok (.iconst 4, 1) := by decide +kernel
theorem dX10_minute_129 : decode cX10_minute 129 = .ok (.iaload, 1) := by decide +kernel
theorem dX10_minute_130 : decode cX10_minute 130 = .ok (.iload 5, 2) := by decide +kernel
theorem dX10_minute_132 : decode cX10_minute 132 = .ok (.aload_n 0, 1) := by decide +kernel
theorem dX10_minute_133 : decode cX10_minute 133 = .ok (.getfield 7, 3) := by decide +kernel
theorem dX10_minute_136 : decode cX10_minute 136 = .ok (.iconst 4, 1) := by decide +kernel
theorem dX10_minute_137 : decode cX10_minute 137 = .ok (.iaload, 1) := by decide +kernel
theorem dX10_minute_138 : decode cX10_minute 138 = .ok (.isub, 1) := by decide +kernel
theorem dX10_minute_139 : decode cX10_minute 139 = .ok (.bipush 20, 2) := by decide +kernel
theorem dX10_minute_141 : decode cX10_minute 141 = .ok (.idiv, 1) := by decide +kernel
theorem dX10_minute_142 : decode cX10_minute 142 = .ok (.iadd, 1) := by decide +kernel
theorem dX10_minute_143 : decode cX10_minute 143 = .ok (.aload_n 0, 1) := by decide +kernel
theorem dX10_minute_144 : decode cX10_minute 144 = .ok (.getfield 7, 3) := by decide +kernel
theorem dX10_minute_147 : decode cX10_minute 147 = .ok (.iconst 5, 1) := by decide +kernel
theorem dX10_minute_148 : decode cX10_minute 148 = .ok (.iaload, 1) := by decide +kernel
theorem dX10_minute_149 : decode cX10_minute 149 = .ok (.iconst 1, 1) := by decide +kernel
theorem dX10_minute_150 : decode cX10_minute 150 = .ok (.if_icmp .ne 7, 3) := by decide +kernel
theorem dX10_minute_153 : decode cX10_minute 153 = .ok (.iconst 2, 1) := by decide +kernel
theorem dX10_minute_154 : decode cX10_minute 154 = .ok (.goto 4, 3) := by decide +kernel
theorem dX10_minute_157 : decode cX10_minute 157 = .ok (.iconst 0, 1) := by decide +kernel
theorem dX10_minute_158 : decode cX10_minute 158 = .ok (.iadd, 1) := by decide +kernel
theorem dX10_minute_159 : decode cX10_minute 159 = .ok (.iload_n 2, 1) := by decide +kernel
theorem dX10_minute_160 : decode cX10_minute 160 = .ok (.ifCond .eq 7, 3) := by decide +kernel
theorem dX10_minute_163 : decode cX10_minute 163 = .ok (.iconst 1, 1) := by decide +kernel
theorem dX10_minute_164 : decode cX10_minute 164 = .ok (.goto 4, 3) := by decide +kernel
theorem dX10_minute_167 : decode cX10_minute 167 = .ok (.iconst 0, 1) := by decide +kernel
theorem dX10_minute_168 : decode cX10_minute 168 = .ok (.iadd, 1) := by decide +kernel
theorem dX10_minute_169 : decode cX10_minute 169 = .ok (.iastore, 1) := by decide +kernel
theorem dX10_minute_170 : decode cX10_minute 170 = .ok (.aload_n 0, 1) := by decide +kernel
theorem dX10_minute_171 : decode cX10_minute 171 = .ok (.getfield 7, 3) := by decide +kernel
theorem dX10_minute_174 : decode cX10_minute 174 = .ok (.iconst 0, 1) := by decide +kernel
theorem dX10_minute_175 : decode cX10_minute 175 = .ok (.dup2, 1) := by decide +kernel
theorem dX10_minute_176 : decode cX10_minute 176 = .ok (.iaload, 1) := by decide +kernel
theorem dX10_minute_177 : decode cX10_minute 177 = .ok (.iconst 1, 1) := by decide +kernel
theorem dX10_minute_178 : decode cX10_minute 178 = .ok (.iadd, 1) := by decide +kernel
theorem dX10_minute_179 : decode cX10_minute 179 = .ok (.iastore, 1) := by decide +kernel
theorem dX10_minute_180 : decode cX10_minute 180 = .ok (.aload_n 0, 1) := by decide +kernel
theorem dX10_minute_181 : decode cX10_minute 181 = .ok (.getfield 7, 3) := by decide +kernel
theorem dX10_minute_184 : decode cX10_minute 184 = .ok (.iconst 0, 1) := by decide +kernel
theorem dX10_minute_185 : decode cX10_minute 185 = .ok (.iaload, 1) := by decide +kernel
theorem dX10_minute_186 : decode cX10_minute 186 = .ok (.sipush 1440, 3) := by decide +kernel
theorem dX10_minute_189 : decode cX10_minute 189 = .ok (.irem, 1) := by decide +kernel
theorem dX10_minute_190 : decode cX10_minute 190 = .ok (.ifCond .ne 26, 3) := by decide +kernel
theorem dX10_minute_193 : decode cX10_minute 193 = .ok (.aload_n 0, 1) := by decide +kernel
theorem dX10_minute_194 : decode cX10_minute 194 = .ok (.getfield 7, 3) := by decide +kernel
theorem dX10_minute_197 : decode cX10_minute 197 = .ok (.bipush 6, 2) := by decide +kernel
theorem dX10_minute_199 : decode cX10_minute 199 = .ok (.iaload, 1) := by decide +kernel
theorem dX10_minute_200 : decode cX10_minute 200 = .ok (.bipush 20, 2) := by decide +kernel
theorem dX10_minute_202 : decode cX10_minute 202 = .ok (.if_icmp .le 14, 3) := by decide +kernel
theorem dX10_minute_205 : decode cX10_minute 205 = .ok (.aload_n 0, 1) := by decide +kernel
theorem dX10_minute_206 : decode cX10_minute 206 = .ok (.getfield 7, 3) := by decide +kernel
theorem dX10_minute_209 : decode cX10_minute 209 = .ok (.bipush 6, 2) := by decide +kernel
theorem dX10_minute_211 : decode cX10_minute 211 = .ok (.dup2, 1) := by decide +kernel
theorem dX10_minute_212 : decode cX10_minute 212 = .ok (.iaload, 1) := by decide +kernel
theorem dX10_minute_213 : decode cX10_minute 213 = .ok (.iconst 1, 1) := by decide +kernel
theorem dX10_minute_214 : decode cX10_minute 214 = .ok (.isub, 1) := by decide +kernel
theorem dX10_minute_215 : decode cX10_minute 215 = .ok (.iastore, 1) := by decide +kernel
theorem dX10_minute_216 : decode cX10_minute 216 = .ok (.iconst 0, 1) := by decide +kernel
theorem dX10_minute_217 : decode cX10_minute 217 = .ok (.ireturn, 1) := by decide +kernel
theorem dX10_minutes_0 : decode cX10_minutes 0 = .ok (.iconst 0, 1) := by decide +kernel
theorem dX10_minutes_1 : decode cX10_minutes 1 = .ok (.istore_n 3, 1) := by decide +kernel
theorem dX10_minutes_2 : decode cX10_minutes 2 = .ok (.iload_n 3, 1) := by decide +kernel
theorem dX10_minutes_3 : decode cX10_minutes 3 = .ok (.iload_n 1, 1) := by decide +kernel
theorem dX10_minutes_4 : decode cX10_minutes 4 = .ok (.if_icmp .ge 25, 3) := by decide +kernel
theorem dX10_minutes_7 : decode cX10_minutes 7 = .ok (.aload_n 0, 1) := by decide +kernel
theorem dX10_minutes_8 : decode cX10_minutes 8 = .ok (.iload_n 2, 1) := by decide +kernel
theorem dX10_minutes_9 : decode cX10_minutes 9 = .ok (.iconst 1, 1) := by decide +kernel
theorem dX10_minutes_10 : decode cX10_minutes 10 = .ok (.invokevirtual 52, 3) := by decide +kernel
theorem dX10_minutes_13 : decode cX10_minutes 13 = .ok (.istore 4, 2) := by decide +kernel
theorem dX10_minutes_15 : decode cX10_minutes 15 = .ok (.iload 4, 2) := by decide +kernel
theorem dX10_minutes_17 : decode cX10_minutes 17 = .ok (.ifCond .le 6, 3) := by decide +kernel
theorem dX10_minutes_20 : decode cX10_minutes 20 = .ok (.iload 4, 2) := by decide +kernel
theorem dX10_minutes_22 : decode cX10_minutes 22 = .ok (.ireturn, 1) := by decide +kernel
theorem dX10_minutes_23 : decode cX10_minutes 23 = .ok (.iinc 3 1, 3) := by decide +kernel
theorem dX10_minutes_26 : decode cX10_minutes 26 = .ok (.goto (-24), 3) := by decide +kernel
theorem dX10_minutes_29 : decode cX10_minutes 29 = .ok (.iconst 0, 1) := by decide +kernel
theorem dX10_minutes_30 : decode cX10_minutes 30 = .ok (.ireturn, 1) := by decide +kernel
theorem dX10_units_0 : decode cX10_units 0 = .ok (.iconst 0, 1) := by decide +kernel
theorem dX10_units_1 : decode cX10_units 1 = .ok (.istore_n 1, 1) := by decide +kernel
theorem dX10_units_2 : decode cX10_units 2 = .ok (.aload_n 0, 1) := by decide +kernel
theorem dX10_units_3 : decode cX10_units 3 = .ok (.getfield 14, 3) := by decide +kernel
theorem dX10_units_6 : decode cX10_units 6 = .ok (.astore_n 2, 1) := by decide +kernel
theorem dX10_units_7 : decode cX10_units 7 = .ok (.aload_n 2, 1) := by decide +kernel
theorem dX10_units_8 : decode cX10_units 8 = .ok (.arraylength, 1) := by decide +kernel
theorem dX10_units_9 : decode cX10_units 9 = .ok (.istore_n 3, 1) := by decide +kernel
theorem dX10_units_10 : decode cX10_units 10 = .ok (.iconst 0, 1) := by decide +kernel
theorem dX10_units_11 : decode cX10_units 11 = .ok (.istore 4, 2) := by decide +kernel
theorem dX10_units_13 : decode cX10_units 13 = .ok (.iload 4, 2) := by decide +kernel
theorem dX10_units_15 : decode cX10_units 15 = .ok (.iload_n 3, 1) := by decide +kernel
theorem dX10_units_16 : decode cX10_units 16 = .ok (.if_icmp .ge 22, 3) := by decide +kernel
theorem dX10_units_19 : decode cX10_units 19 = .ok (.aload_n 2, 1) := by decide +kernel
theorem dX10_units_20 : decode cX10_units 20 = .ok (.iload 4, 2) := by decide +kernel
theorem dX10_units_22 : decode cX10_units 22 = .ok (.aaload, 1) := by decide +kernel
theorem dX10_units_23 : decode cX10_units 23 = .ok (.astore 5, 2) := by decide +kernel
theorem dX10_units_25 : decode cX10_units 25 = .ok (.iload_n 1, 1) := by decide +kernel
theorem dX10_units_26 : decode cX10_units 26 = .ok (.aload 5, 2) := by decide +kernel
theorem dX10_units_28 : decode cX10_units 28 = .ok (.iconst 1, 1) := by decide +kernel
theorem dX10_units_29 : decode cX10_units 29 = .ok (.iaload, 1) := by decide +kernel
theorem dX10_units_30 : decode cX10_units 30 = .ok (.iadd, 1) := by decide +kernel
theorem dX10_units_31 : decode cX10_units 31 = .ok (.istore_n 1, 1) := by decide +kernel
theorem dX10_units_32 : decode cX10_units 32 = .ok (.iinc 4 1, 3) := by decide +kernel
theorem dX10_units_35 : decode cX10_units 35 = .ok (.goto (-22), 3) := by decide +kernel
theorem dX10_units_38 : decode cX10_units 38 = .ok (.iload_n 1, 1) := by decide +kernel
theorem dX10_units_39 : decode cX10_units 39 = .ok (.ireturn, 1) := by decide +kernel
theorem dX10_images_0 : decode cX10_images 0 = .ok (.aload_n 0, 1) := by decide +kernel
theorem dX10_images_1 : decode cX10_images 1 = .ok (.getfield 18, 3) := by decide +kernel
theorem dX10_images_4 : decode cX10_images 4 = .ok (.iload_n 1, 1) := by decide +kernel
theorem dX10_images_5 : decode cX10_images 5 = .ok (.iaload, 1) := by decide +kernel
theorem dX10_images_6 : decode cX10_images 6 = .ok (.istore_n 2, 1) := by decide +kernel
theorem dX10_images_7 : decode cX10_images 7 = .ok (.aload_n 0, 1) := by decide +kernel
theorem dX10_images_8 : decode cX10_images 8 = .ok (.getfield 14, 3) := by decide +kernel
theorem dX10_images_11 : decode cX10_images 11 = .ok (.astore_n 3, 1) := by decide +kernel
theorem dX10_images_12 : decode cX10_images 12 = .ok (.aload_n 3, 1) := by decide +kernel
theorem dX10_images_13 : decode cX10_images 13 = .ok (.arraylength, 1) := by decide +kernel
theorem dX10_images_14 : decode cX10_images 14 = .ok (.istore 4, 2) := by decide +kernel
theorem dX10_images_16 : decode cX10_images 16 = .ok (.iconst 0, 1) := by decide +kernel
theorem dX10_images_17 : decode cX10_images 17 = .ok (.istore 5, 2) := by decide +kernel
theorem dX10_images_19 : decode cX10_images 19 = .ok (.iload 5, 2) := by decide +kernel
theorem dX10_images_21 : decode cX10_images 21 = .ok (.iload 4, 2) := by decide +kernel
theorem dX10_images_23 : decode cX10_images 23 = .ok (.if_icmp .ge 41, 3) := by decide +kernel
theorem dX10_images_26 : decode cX10_images 26 = .ok (.aload_n 3, 1) := by decide +kernel
theorem dX10_images_27 : decode cX10_images 27 = .ok (.iload 5, 2) := by decide +kernel
theorem dX10_images_29 : decode cX10_images 29 = .ok (.aaload, 1) := by decide +kernel
theorem dX10_images_30 : decode cX10_images 30 = .ok (.astore 6, 2) := by decide +kernel
theorem dX10_images_32 : decode cX10_images 32 = .ok (.aload 6, 2) := by decide +kernel
theorem dX10_images_34 : decode cX10_images 34 = .ok (.iconst 0, 1) := by decide +kernel
theorem dX10_images_35 : decode cX10_images 35 = .ok (.iaload, 1) := by decide +kernel
theorem dX10_images_36 : decode cX10_images 36 = .ok (.iload_n 1, 1) := by decide +kernel
theorem dX10_images_37 : decode cX10_images 37 = .ok (.if_icmp .ne 21, 3) := by decide +kernel
theorem dX10_images_40 : decode cX10_images 40 = .ok (.aload 6, 2) := by decide +kernel
theorem dX10_images_42 : decode cX10_images 42 = .ok (.iconst 3, 1) := by decide +kernel
theorem dX10_images_43 : decode cX10_images 43 = .ok (.iaload, 1) := by decide +kernel
theorem dX10_images_44 : decode cX10_images 44 = .ok (.bipush 9, 2) := by decide +kernel
theorem dX10_images_46 : decode cX10_images 46 = .ok (.if_icmp .eq 12, 3) := by decide +kernel
theorem dX10_images_49 : decode cX10_images 49 = .ok (.iload_n 2, 1) := by decide +kernel
theorem dX10_images_50 : decode cX10_images 50 = .ok (.iconst 1, 1) := by decide +kernel
theorem dX10_images_51 : decode cX10_images 51 = .ok (.aload 6, 2) := by decide +kernel
theorem dX10_images_53 : decode cX10_images 53 = .ok (.iconst 3, 1) := by decide +kernel
theorem dX10_images_54 : decode cX10_images 54 = .ok (.iaload, 1) := by decide +kernel
theorem dX10_images_55 : decode cX10_images 55 = .ok (.ishl, 1) := by decide +kernel
theorem dX10_images_56 : decode cX10_images 56 = .ok (.ior, 1) := by decide +kernel
theorem dX10_images_57 : decode cX10_images 57 = .ok (.istore_n 2, 1) := by decide +kernel
theorem dX10_images_58 : decode cX10_images 58 = .ok (.iinc 5 1, 3) := by decide +kernel
theorem dX10_images_61 : decode cX10_images 61 = .ok (.goto (-42), 3) := by decide +kernel
theorem dX10_images_64 : decode cX10_images 64 = .ok (.iload_n 2, 1) := by decide +kernel
theorem dX10_images_65 : decode cX10_images 65 = .ok (.ireturn, 1) := by decide +kernel
theorem dX10_octant_0 : decode cX10_octant 0 = .ok (.aload_n 0, 1) := by decide +kernel
theorem dX10_octant_1 : decode cX10_octant 1 = .ok (.getfield 7, 3) := by decide +kernel
theorem dX10_octant_4 : decode cX10_octant 4 = .ok (.iconst 1, 1) := by decide +kernel
theorem dX10_octant_5 : decode cX10_octant 5 = .ok (.iaload, 1) := by decide +kernel
theorem dX10_octant_6 : decode cX10_octant 6 = .ok (.aload_n 0, 1) := by decide +kernel
theorem dX10_octant_7 : decode cX10_octant 7 = .ok (.getfield 32, 3) := by decide +kernel
theorem dX10_octant_10 : decode cX10_octant 10 = .ok (.iload_n 1, 1) := by decide +kernel
theorem dX10_octant_11 : decode cX10_octant 11 = .ok (.aaload, 1) := by decide +kernel
theorem dX10_octant_12 : decode cX10_octant 12 = .ok (.iconst 0, 1) := by decide +kernel
theorem dX10_octant_13 : decode cX10_octant 13 = .ok (.iaload, 1) := by decide +kernel
theorem dX10_octant_14 : decode cX10_octant 14 = .ok (.invokestatic 56, 3) := by decide +kernel
theorem dX10_octant_17 : decode cX10_octant 17 = .ok (.istore_n 2, 1) := by decide +kernel
theorem dX10_octant_18 : decode cX10_octant 18 = .ok (.aload_n 0, 1) := by decide +kernel
theorem dX10_octant_19 : decode cX10_octant 19 = .ok (.getfield 7, 3) := by decide +kernel
theorem dX10_octant_22 : decode cX10_octant 22 = .ok (.iconst 2, 1) := by decide +kernel
theorem dX10_octant_23 : decode cX10_octant 23 = .ok (.iaload, 1) := by decide +kernel
theorem dX10_octant_24 : decode cX10_octant 24 = .ok (.aload_n 0, 1) := by decide +kernel
theorem dX10_octant_25 : decode cX10_octant 25 = .ok (.getfield 32, 3) := by decide +kernel
theorem dX10_octant_28 : decode cX10_octant 28 = .ok (.iload_n 1, 1) := by decide +kernel
theorem dX10_octant_29 : decode cX10_octant 29 = .ok (.aaload, 1) := by decide +kernel
theorem dX10_octant_30 : decode cX10_octant 30 = .ok (.iconst 1, 1) := by decide +kernel
theorem dX10_octant_31 : decode cX10_octant 31 = .ok (.iaload, 1) := by decide +kernel
theorem dX10_octant_32 : decode cX10_octant 32 = .ok (.invokestatic 56, 3) := by decide +kernel
theorem dX10_octant_35 : decode cX10_octant 35 = .ok (.istore_n 3, 1) := by decide +kernel
theorem dX10_octant_36 : decode cX10_octant 36 = .ok (.bipush 8, 2) := by decide +kernel
theorem dX10_octant_38 : decode cX10_octant 38 = .ok (.istore 4, 2) := by decide +kernel
theorem dX10_octant_40 : decode cX10_octant 40 = .ok (.iconst 0, 1) := by decide +kernel
theorem dX10_octant_41 : decode cX10_octant 41 = .ok (.istore 5, 2) := by decide +kernel
theorem dX10_octant_43 : decode cX10_octant 43 = .ok (.iload 5, 2) := by decide +kernel
theorem dX10_octant_45 : decode cX10_octant 45 = .ok (.bipush 8, 2) := by decide +kernel
theorem dX10_octant_47 : decode cX10_octant 47 = .ok (.if_icmp .ge 33, 3) := by decide +kernel
theorem dX10_octant_50 : decode cX10_octant 50 = .ok (.getstatic 62, 3) := by decide +kernel
theorem dX10_octant_53 : decode cX10_octant 53 = .ok (.iload 5, 2) := by decide +kernel
theorem dX10_octant_55 : decode cX10_octant 55 = .ok (.iaload, 1) := by decide +kernel
theorem dX10_octant_56 : decode cX10_octant 56 = .ok (.iload_n 2, 1) := by decide +kernel
theorem dX10_octant_57 : decode cX10_octant 57 = .ok (.if_icmp .ne 17, 3) := by decide +kernel
theorem dX10_octant_60 : decode cX10_octant 60 = .ok (.getstatic 67, 3) := by decide +kernel
theorem dX10_octant_63 : decode cX10_octant 63 = .ok (.iload 5, 2) := by decide +kernel
theorem dX10_octant_65 : decode cX10_octant 65 = .ok (.iaload, 1) := by decide +kernel
theorem dX10_octant_66 : decode cX10_octant 66 = .ok (.iload_n 3, 1) := by decide +kernel
theorem dX10_octant_67 : decode cX10_octant 67 = .ok (.if_icmp .ne 7, 3) := by decide +kernel
theorem dX10_octant_70 : decode cX10_octant 70 = .ok (.iload 5, 2) := by decide +kernel
theorem dX10_octant_72 : decode cX10_octant 72 = .ok (.istore 4, 2) := by decide +kernel
theorem dX10_octant_74 : decode cX10_octant 74 = .ok (.iinc 5 1, 3) := by decide +kernel
theorem dX10_octant_77 : decode cX10_octant 77 = .ok (.goto (-34), 3) := by decide +kernel
theorem dX10_octant_80 : decode cX10_octant 80 = .ok (.iload 4, 2) := by decide +kernel
theorem dX10_octant_82 : decode cX10_octant 82 = .ok (.ireturn, 1) := by decide +kernel
theorem dX10_picture_0 : decode cX10_picture 0 = .ok (.aload_n 0, 1) := by decide +kernel
theorem dX10_picture_1 : decode cX10_picture 1 = .ok (.getfield 32, 3) := by decide +kernel
theorem dX10_picture_4 : decode cX10_picture 4 = .ok (.iload_n 2, 1) := by decide +kernel
theorem dX10_picture_5 : decode cX10_picture 5 = .ok (.aaload, 1) := by decide +kernel
theorem dX10_picture_6 : decode cX10_picture 6 = .ok (.iconst 0, 1) := by decide +kernel
theorem dX10_picture_7 : decode cX10_picture 7 = .ok (.iaload, 1) := by decide +kernel
theorem dX10_picture_8 : decode cX10_picture 8 = .ok (.aload_n 0, 1) := by decide +kernel
theorem dX10_picture_9 : decode cX10_picture 9 = .ok (.getfield 7, 3) := by decide +kernel
theorem dX10_picture_12 : decode cX10_picture 12 = .ok (.iconst 1, 1) := by decide +kernel
theorem dX10_picture_13 : decode cX10_picture 13 = .ok (.iaload, 1) := by decide +kernel
theorem dX10_picture_14 : decode cX10_picture 14 = .ok (.isub, 1) := by decide +kernel
theorem dX10_picture_15 : decode cX10_picture 15 = .ok (.invokestatic 70, 3) := by decide +kernel
theorem dX10_picture_18 : decode cX10_picture 18 = .ok (.aload_n 0, 1) := by decide +kernel
theorem dX10_picture_19 : decode cX10_picture 19 = .ok (.getfield 32, 3) := by decide +kernel
theorem dX10_picture_22 : decode cX10_picture 22 = .ok (.iload_n 2, 1) := by decide +kernel
theorem dX10_picture_23 : decode cX10_picture 23 = .ok (.aaload, 1) := by decide +kernel
theorem dX10_picture_24 : decode cX10_picture 24 = .ok (.iconst 1, 1) := by decide +kernel
theorem dX10_picture_25 : decode cX10_picture 25 = .ok (.iaload, 1) := by decide +kernel
theorem dX10_picture_26 : decode cX10_picture 26 = .ok (.aload_n 0, 1) := by decide +kernel
theorem dX10_picture_27 : decode cX10_picture 27 = .ok (.getfield 7, 3) := by decide +kernel
theorem dX10_picture_30 : decode cX10_picture 30 = .ok (.iconst 2, 1) := by decide +kernel
theorem dX10_picture_31 : decode cX10_picture 31 = .ok (.iaload, 1) := by decide +kernel
theorem dX10_picture_32 : decode cX10_picture 32 = .ok (.isub, 1) := by decide +kernel
theorem dX10_picture_33 : decode cX10_picture 33 = .ok (.invokestatic 70, 3) := by decide +kernel
theorem dX10_picture_36 : decode cX10_picture 36 = .ok (.invokestatic 76, 3) := by decide +kernel
theorem dX10_picture_39 : decode cX10_picture 39 = .ok (.istore 4, 2) := by decide +kernel
theorem dX10_picture_41 : decode cX10_picture 41 = .ok (.iload_n 1, 1) := by decide +kernel
theorem dX10_picture_42 : decode cX10_picture 42 = .ok (.ifCond .eq 12, 3) := by decide +kernel
theorem dX10_picture_45 : decode cX10_picture 45 = .ok (.iload 4, 2) := by decide +kernel
theorem dX10_picture_47 : decode cX10_picture 47 = .ok (.iconst 1, 1) := by decide +kernel
theorem dX10_picture_48 : decode cX10_picture 48 = .ok (.if_icmp .le 53, 3) := by decide +kernel
theorem dX10_picture_51 : decode cX10_picture 51 = .ok (.goto 48, 3) := by decide +kernel
theorem dX10_picture_54 : decode cX10_picture 54 = .ok (.iload 4, 2) := by decide +kernel
theorem dX10_picture_56 : decode cX10_picture 56 = .ok (.bipush 6, 2) := by decide +kernel
theorem dX10_picture_58 : decode cX10_picture 58 = .ok (.if_icmp .gt 41, 3) := by decide +kernel
theorem dX10_picture_61 : decode cX10_picture 61 = .ok (.aload_n 0, 1) := by decide +kernel
theorem dX10_picture_62 : decode cX10_picture 62 = .ok (.getfield 45, 3) := by decide +kernel
theorem dX10_picture_65 : decode cX10_picture 65 = .ok (.aload_n 0, 1) := by decide +kernel
theorem dX10_picture_66 : decode cX10_picture 66 = .ok (.getfield 7, 3) := by decide +kernel
theorem dX10_picture_69 : decode cX10_picture 69 = .ok (.iconst 1, 1) := by decide +kernel
theorem dX10_picture_70 : decode cX10_picture 70 = .ok (.iaload, 1) := by decide +kernel
theorem dX10_picture_71 : decode cX10_picture 71 = .ok (.aload_n 0, 1) := by decide +kernel
theorem dX10_picture_72 : decode cX10_picture 72 = .ok (.getfield 7, 3) := by decide +kernel
theorem dX10_picture_75 : decode cX10_picture 75 = .ok (.iconst 2, 1) := by decide +kernel
theorem dX10_picture_76 : decode cX10_picture 76 = .ok (.iaload, 1) := by decide +kernel
theorem dX10_picture_77 : decode cX10_picture 77 = .ok (.aload_n 0, 1) := by decide +kernel
theorem dX10_picture_78 : decode cX10_picture 78 = .ok (.getfield 32, 3) := by decide +kernel
theorem dX10_picture_81 : decode cX10_picture 81 = .ok (.iload_n 2, 1) := by decide +kernel
theorem dX10_picture_82 : decode cX10_picture 82 = .ok (.aaload, 1) := by decide +kernel
theorem dX10_picture_83 : decode cX10_picture 83 = .ok (.iconst 0, 1) := by decide +kernel
theorem dX10_picture_84 : decode cX10_picture 84 = .ok (.iaload, 1) := by decide +kernel
theorem dX10_picture_85 : decode cX10_picture 85 = .ok (.aload_n 0, 1) := by decide +kernel
theorem dX10_picture_86 : decode cX10_picture 86 = .ok (.getfield 32, 3) := by decide +kernel
theorem dX10_picture_89 : decode cX10_picture 89 = .ok (.iload_n 2, 1) := by decide +kernel
theorem dX10_picture_90 : decode cX10_picture 90 = .ok (.aaload, 1) := by decide +kernel
theorem dX10_picture_91 : decode cX10_picture 91 = .ok (.iconst 1, 1) := by decide +kernel
theorem dX10_picture_92 : decode cX10_picture 92 = .ok (.iaload, 1) := by decide +kernel
theorem dX10_picture_93 : decode cX10_picture 93 = .ok (.invokestatic 79, 3) := by decide +kernel
theorem dX10_picture_96 : decode cX10_picture 96 = .ok (.ifCond .ne 5, 3) := by decide +kernel
theorem dX10_picture_99 : decode cX10_picture 99 = .ok (.iconst 5, 1) := by decide +kernel
theorem dX10_picture_100 : decode cX10_picture 100 = .ok (.ireturn, 1) := by decide +kernel
theorem dX10_picture_101 : decode cX10_picture 101 = .ok (.aload_n 0, 1) := by decide +kernel
theorem dX10_picture_102 : decode cX10_picture 102 = .ok (.getfield 7, 3) := by decide +kernel
theorem dX10_picture_105 : decode cX10_picture 105 = .ok (.iconst 4, 1) := by decide +kernel
theorem dX10_picture_106 : decode cX10_picture 106 = .ok (.iaload, 1) := by decide +kernel
theorem dX10_picture_107 : decode cX10_picture 107 = .ok (.bipush (-40), 2) := by decide +kernel
theorem dX10_picture_109 : decode cX10_picture 109 = .ok (.if_icmp .ge 5, 3) := by decide +kernel
theorem dX10_picture_112 : decode cX10_picture 112 = .ok (.iconst 3, 1) := by decide +kernel
theorem dX10_picture_113 : decode cX10_picture 113 = .ok (.ireturn, 1) := by decide +kernel
theorem dX10_picture_114 : decode cX10_picture 114 = .ok (.iload_n 1, 1) := by decide +kernel
theorem dX10_picture_115 : decode cX10_picture 115 = .ok (.ifCond .eq 8, 3) := by decide +kernel
theorem dX10_picture_118 : decode cX10_picture 118 = .ok (.bipush 90, 2) := by decide +kernel
theorem dX10_picture_120 : decode cX10_picture 120 = .ok (.goto 5, 3) := by decide +kernel
theorem dX10_picture_123 : decode cX10_picture 123 = .ok (.bipush 40, 2) := by decide +kernel
theorem dX10_picture_125 : decode cX10_picture 125 = .ok (.istore 5, 2) := by decide +kernel
theorem dX10_picture_127 : decode cX10_picture 127 = .ok (.aload_n 0, 1) := by decide +kernel
theorem dX10_picture_128 : decode cX10_picture 128 = .ok (.invokevirtual 83, 3) := by decide +kernel
theorem dX10_picture_131 : decode cX10_picture 131 = .ok (.iload 5, 2) := by decide +kernel
theorem dX10_picture_133 : decode cX10_picture 133 = .ok (.iadd, 1) := by decide +kernel
theorem dX10_picture_134 : decode cX10_picture 134 = .ok (.aload_n 0, 1) := by decide +kernel
theorem dX10_picture_135 : decode cX10_picture 135 = .ok (.getfield 25, 3) := by decide +kernel
theorem dX10_picture_138 : decode cX10_picture 138 = .ok (.if_icmp .le 5, 3) := by decide +kernel
theorem dX10_picture_141 : decode cX10_picture 141 = .ok (.iconst 4, 1) := by decide +kernel
theorem dX10_picture_142 : decode cX10_picture 142 = .ok (.ireturn, 1) := by decide +kernel
theorem dX10_picture_143 : decode cX10_picture 143 = .ok (.iload_n 1, 1) := by decide +kernel
theorem dX10_picture_144 : decode cX10_picture 144 = .ok (.ifCond .eq 13, 3) := by decide +kernel
theorem dX10_picture_147 : decode cX10_picture 147 = .ok (.aload_n 0, 1) := by decide +kernel
theorem dX10_picture_148 : decode cX10_picture 148 = .ok (.bipush 25, 2) := by decide +kernel
theorem dX10_picture_150 : decode cX10_picture 150 = .ok (.iconst 5, 1) := by decide +kernel
theorem dX10_picture_151 : decode cX10_picture 151 = .ok (.invokevirtual 86, 3) := by decide +kernel
theorem dX10_picture_154 : decode cX10_picture 154 = .ok (.goto 10, 3) := by decide +kernel
theorem dX10_picture_157 : decode cX10_picture 157 = .ok (.aload_n 0, 1) := by decide +kernel
theorem dX10_picture_158 : decode cX10_picture 158 = .ok (.bipush 6, 2) := by decide +kernel
theorem dX10_picture_160 : decode cX10_picture 160 = .ok (.iconst 3, 1) := by decide +kernel
theorem dX10_picture_161 : decode cX10_picture 161 = .ok (.invokevirtual 86, 3) := by decide +kernel
theorem dX10_picture_164 : decode cX10_picture 164 = .ok (.istore 6, 2) := by decide +kernel
theorem dX10_picture_166 : decode cX10_picture 166 = .ok (.iload 6, 2) := by decide +kernel
theorem dX10_picture_168 : decode cX10_picture 168 = .ok (.ifCond .le 6, 3) := by decide +kernel
theorem dX10_picture_171 : decode cX10_picture 171 = .ok (.iload 6, 2) := by decide +kernel
theorem dX10_picture_173 : decode cX10_picture 173 = .ok (.ireturn, 1) := by decide +kernel
theorem dX10_picture_174 : decode cX10_picture 174 = .ok (.aload_n 0, 1) := by decide +kernel
theorem dX10_picture_175 : decode cX10_picture 175 = .ok (.getfield 14, 3) := by decide +kernel
theorem dX10_picture_178 : decode cX10_picture 178 = .ok (.arraylength, 1) := by decide +kernel
theorem dX10_picture_179 : decode cX10_picture 179 = .ok (.iconst 1, 1) := by decide +kernel
theorem dX10_picture_180 : decode cX10_picture 180 = .ok (.iadd, 1) := by decide +kernel
theorem dX10_picture_181 : decode cX10_picture 181 = .ok (.anewarray 13, 3) := by decide +kernel
theorem dX10_picture_184 : decode cX10_picture 184 = .ok (.astore 7, 2) := by decide +kernel
theorem dX10_picture_186 : decode cX10_picture 186 = .ok (.iconst 0, 1) := by decide +kernel
theorem dX10_picture_187 : decode cX10_picture 187 = .ok (.istore 8, 2) := by decide +kernel
theorem dX10_picture_189 : decode cX10_picture 189 = .ok (.iload 8, 2) := by decide +kernel
theorem dX10_picture_191 : decode cX10_picture 191 = .ok (.aload_n 0, 1) := by decide +kernel
theorem dX10_picture_192 : decode cX10_picture 192 = .ok (.getfield 14, 3) := by decide +kernel
theorem dX10_picture_195 : decode cX10_picture 195 = .ok (.arraylength, 1) := by decide +kernel
theorem dX10_picture_196 : decode cX10_picture 196 = .ok (.if_icmp .ge 21, 3) := by decide +kernel
theorem dX10_picture_199 : decode cX10_picture 199 = .ok (.aload 7, 2) := by decide +kernel
theorem dX10_picture_201 : decode cX10_picture 201 = .ok (.iload 8, 2) := by decide +kernel
theorem dX10_picture_203 : decode cX10_picture 203 = .ok (.aload_n 0, 1) := by decide +kernel
theorem dX10_picture_204 : decode cX10_picture 204 = .ok (.getfield 14, 3) := by decide +kernel
theorem dX10_picture_207 : decode cX10_picture 207 = .ok (.iload 8, 2) := by decide +kernel
theorem dX10_picture_209 : decode cX10_picture 209 = .ok (.aaload, 1) := by decide +kernel
theorem dX10_picture_210 : decode cX10_picture 210 = .ok (.aastore, 1) := by decide +kernel
theorem dX10_picture_211 : decode cX10_picture 211 = .ok (.iinc 8 1, 3) := by decide +kernel
theorem dX10_picture_214 : decode cX10_picture 214 = .ok (.goto (-25), 3) := by decide +kernel
theorem dX10_picture_217 : decode cX10_picture 217 = .ok (.aload 7, 2) := by decide +kernel
theorem dX10_picture_219 : decode cX10_picture 219 = .ok (.aload_n 0, 1) := by decide +kernel
theorem dX10_picture_220 : decode cX10_picture 220 = .ok (.getfield 14, 3) := by decide +kernel
theorem dX10_picture_223 : decode cX10_picture 223 = .ok (.arraylength, 1) := by decide +kernel
theorem dX10_picture_224 : decode cX10_picture 224 = .ok (.iconst 4, 1) := by decide +kernel
theorem dX10_picture_225 : decode cX10_picture 225 = .ok (.newarray .int, 2) := by decide +kernel
theorem dX10_picture_227 : decode cX10_picture 227 = .ok (.dup, 1) := by decide +kernel
theorem dX10_picture_228 : decode cX10_picture 228 = .ok (.iconst 0, 1) := by decide +kernel
theorem dX10_picture_229 : decode cX10_picture 229 = .ok (.iload_n 2, 1) := by decide +kernel
theorem dX10_picture_230 : decode cX10_picture 230 = .ok (.iastore, 1) := by decide +kernel
theorem dX10_picture_231 : decode cX10_picture 231 = .ok (.dup, 1) := by decide +kernel
theorem dX10_picture_232 : decode cX10_picture 232 = .ok (.iconst 1, 1) := by decide +kernel
theorem dX10_picture_233 : decode cX10_picture 233 = .ok (.iload 5, 2) := by decide +kernel
theorem dX10_picture_235 : decode cX10_picture 235 = .ok (.iastore, 1) := by decide +kernel
theorem dX10_picture_236 : decode cX10_picture 236 = .ok (.dup, 1) := by decide +kernel
theorem dX10_picture_237 : decode cX10_picture 237 = .ok (.iconst 2, 1) := by decide +kernel
theorem dX10_picture_238 : decode cX10_picture 238 = .ok (.iload_n 3, 1) := by decide +kernel
theorem dX10_picture_239 : decode cX10_picture 239 = .ok (.iastore, 1) := by decide +kernel
theorem dX10_picture_240 : decode cX10_picture 240 = .ok (.dup, 1) := by decide +kernel
theorem dX10_picture_241 : decode cX10_picture 241 = .ok (.iconst 3, 1) := by decide +kernel
theorem dX10_picture_242 : decode cX10_picture 242 = .ok (.iload_n 1, 1) := by decide +kernel
theorem dX10_picture_243 : decode cX10_picture 243 = .ok (.ifCond .eq 8, 3) := by decide +kernel
theorem dX10_picture_246 : decode cX10_picture 246 = .ok (.bipush 9, 2) := by decide +kernel
theorem dX10_picture_248 : decode cX10_picture 248 = .ok (.goto 8, 3) := by decide +kernel
theorem dX10_picture_251 : decode cX10_picture 251 = .ok (.aload_n 0, 1) := by decide +kernel
theorem dX10_picture_252 : decode cX10_picture 252 = .ok (.iload_n 2, 1) := by decide +kernel
theorem dX10_picture_253 : decode cX10_picture 253 = .ok (.invokevirtual 89, 3) := by decide +kernel
theorem dX10_picture_256 : decode cX10_picture 256 = .ok (.iastore, 1) := by decide +kernel
theorem dX10_picture_257 : decode cX10_picture 257 = .ok (.aastore, 1) := by decide +kernel
theorem dX10_picture_258 : decode cX10_picture 258 = .ok (.aload_n 0, 1) := by decide +kernel
theorem dX10_picture_259 : decode cX10_picture 259 = .ok (.aload 7, 2) := by decide +kernel
theorem dX10_picture_261 : decode cX10_picture 261 = .ok (.putfield 14, 3) := by decide +kernel
theorem dX10_picture_264 : decode cX10_picture 264 = .ok (.aload_n 0, 1) := by decide +kernel
theorem dX10_picture_265 : decode cX10_picture 265 = .ok (.dup, 1) := by decide +kernel
theorem dX10_picture_266 : decode cX10_picture 266 = .ok (.getfield 42, 3) := by decide +kernel
theorem dX10_picture_269 : decode cX10_picture 269 = .ok (.iload 5, 2) := by decide +kernel
theorem dX10_picture_271 : decode cX10_picture 271 = .ok (.iadd, 1) := by decide +kernel
theorem dX10_picture_272 : decode cX10_picture 272 = .ok (.putfield 42, 3) := by decide +kernel
theorem dX10_picture_275 : decode cX10_picture 275 = .ok (.iconst 0, 1) := by decide +kernel
theorem dX10_picture_276 : decode cX10_picture 276 = .ok (.ireturn, 1) := by decide +kernel
theorem dX10_unit_0 : decode cX10_unit 0 = .ok (.iconst 0, 1) := by decide +kernel
theorem dX10_unit_1 : decode cX10_unit 1 = .ok (.istore_n 1, 1) := by decide +kernel
theorem dX10_unit_2 : decode cX10_unit 2 = .ok (.aload_n 0, 1) := by decide +kernel
theorem dX10_unit_3 : decode cX10_unit 3 = .ok (.getfield 14, 3) := by decide +kernel
theorem dX10_unit_6 : decode cX10_unit 6 = .ok (.arraylength, 1) := by decide +kernel
theorem dX10_unit_7 : decode cX10_unit 7 = .ok (.iconst 1, 1) := by decide +kernel
theorem dX10_unit_8 : decode cX10_unit 8 = .ok (.isub, 1) := by decide +kernel
theorem dX10_unit_9 : decode cX10_unit 9 = .ok (.istore_n 2, 1) := by decide +kernel
theorem dX10_unit_10 : decode cX10_unit 10 = .ok (.iload_n 2, 1) := by decide +kernel
theorem dX10_unit_11 : decode cX10_unit 11 = .ok (.ifCond .lt 30, 3) := by decide +kernel
theorem dX10_unit_14 : decode cX10_unit 14 = .ok (.aload_n 0, 1) := by decide +kernel
theorem dX10_unit_15 : decode cX10_unit 15 = .ok (.getfield 14, 3) := by decide +kernel
theorem dX10_unit_18 : decode cX10_unit 18 = .ok (.iload_n 2, 1) := by decide +kernel
theorem dX10_unit_19 : decode cX10_unit 19 = .ok (.aaload, 1) := by decide +kernel
theorem dX10_unit_20 : decode cX10_unit 20 = .ok (.iconst 2, 1) := by decide +kernel
theorem dX10_unit_21 : decode cX10_unit 21 = .ok (.iaload, 1) := by decide +kernel
theorem dX10_unit_22 : decode cX10_unit 22 = .ok (.aload_n 0, 1) := by decide +kernel
theorem dX10_unit_23 : decode cX10_unit 23 = .ok (.getfield 14, 3) := by decide +kernel
theorem dX10_unit_26 : decode cX10_unit 26 = .ok (.iload_n 1, 1) := by decide +kernel
theorem dX10_unit_27 : decode cX10_unit 27 = .ok (.aaload, 1) := by decide +kernel
theorem dX10_unit_28 : decode cX10_unit 28 = .ok (.iconst 2, 1) := by decide +kernel
theorem dX10_unit_29 : decode cX10_unit 29 = .ok (.iaload, 1) := by decide +kernel
theorem dX10_unit_30 : decode cX10_unit 30 = .ok (.if_icmp .lt 5, 3) := by decide +kernel
theorem dX10_unit_33 : decode cX10_unit 33 = .ok (.iload_n 2, 1) := by decide +kernel
theorem dX10_unit_34 : decode cX10_unit 34 = .ok (.istore_n 1, 1) := by decide +kernel
theorem dX10_unit_35 : decode cX10_unit 35 = .ok (.iinc 2 (-1), 3) := by decide +kernel
theorem dX10_unit_38 : decode cX10_unit 38 = .ok (.goto (-28), 3) := by decide +kernel
theorem dX10_unit_41 : decode cX10_unit 41 = .ok (.aload_n 0, 1) := by decide +kernel
theorem dX10_unit_42 : decode cX10_unit 42 = .ok (.getfield 14, 3) := by decide +kernel
theorem dX10_unit_45 : decode cX10_unit 45 = .ok (.iload_n 1, 1) := by decide +kernel
theorem dX10_unit_46 : decode cX10_unit 46 = .ok (.aaload, 1) := by decide +kernel
theorem dX10_unit_47 : decode cX10_unit 47 = .ok (.iconst 1, 1) := by decide +kernel
theorem dX10_unit_48 : decode cX10_unit 48 = .ok (.dup2, 1) := by decide +kernel
theorem dX10_unit_49 : decode cX10_unit 49 = .ok (.iaload, 1) := by decide +kernel
theorem dX10_unit_50 : decode cX10_unit 50 = .ok (.iconst 1, 1) := by decide +kernel
theorem dX10_unit_51 : decode cX10_unit 51 = .ok (.isub, 1) := by decide +kernel
theorem dX10_unit_52 : decode cX10_unit 52 = .ok (.iastore, 1) := by decide +kernel
theorem dX10_unit_53 : decode cX10_unit 53 = .ok (.aload_n 0, 1) := by decide +kernel
theorem dX10_unit_54 : decode cX10_unit 54 = .ok (.getfield 7, 3) := by decide +kernel
theorem dX10_unit_57 : decode cX10_unit 57 = .ok (.bipush 7, 2) := by decide +kernel
theorem dX10_unit_59 : decode cX10_unit 59 = .ok (.dup2, 1) := by decide +kernel
theorem dX10_unit_60 : decode cX10_unit 60 = .ok (.iaload, 1) := by decide +kernel
theorem dX10_unit_61 : decode cX10_unit 61 = .ok (.iconst 1, 1) := by decide +kernel
theorem dX10_unit_62 : decode cX10_unit 62 = .ok (.iadd, 1) := by decide +kernel
theorem dX10_unit_63 : decode cX10_unit 63 = .ok (.iastore, 1) := by decide +kernel
theorem dX10_unit_64 : decode cX10_unit 64 = .ok (.aload_n 0, 1) := by decide +kernel
theorem dX10_unit_65 : decode cX10_unit 65 = .ok (.getfield 14, 3) := by decide +kernel
theorem dX10_unit_68 : decode cX10_unit 68 = .ok (.iload_n 1, 1) := by decide +kernel
theorem dX10_unit_69 : decode cX10_unit 69 = .ok (.aaload, 1) := by decide +kernel
theorem dX10_unit_70 : decode cX10_unit 70 = .ok (.iconst 1, 1) := by decide +kernel
theorem dX10_unit_71 : decode cX10_unit 71 = .ok (.iaload, 1) := by decide +kernel
theorem dX10_unit_72 : decode cX10_unit 72 = .ok (.ifCond .le 4, 3) := by decide +kernel
theorem dX10_unit_75 : decode cX10_unit 75 = .ok (.return_, 1) := by decide +kernel
theorem dX10_unit_76 : decode cX10_unit 76 = .ok (.aload_n 0, 1) := by decide +kernel
theorem dX10_unit_77 : decode cX10_unit 77 = .ok (.getfield 14, 3) := by decide +kernel
theorem dX10_unit_80 : decode cX10_unit 80 = .ok (.iload_n 1, 1) := by decide +kernel
theorem dX10_unit_81 : decode cX10_unit 81 = .ok (.aaload, 1) := by decide +kernel
theorem dX10_unit_82 : decode cX10_unit 82 = .ok (.iconst 3, 1) := by decide +kernel
theorem dX10_unit_83 : decode cX10_unit 83 = .ok (.iaload, 1) := by decide +kernel
theorem dX10_unit_84 : decode cX10_unit 84 = .ok (.bipush 9, 2) := by decide +kernel
theorem dX10_unit_86 : decode cX10_unit 86 = .ok (.if_icmp .ne 20, 3) := by decide +kernel
theorem dX10_unit_89 : decode cX10_unit 89 = .ok (.aload_n 0, 1) := by decide +kernel
theorem dX10_unit_90 : decode cX10_unit 90 = .ok (.getfield 21, 3) := by decide +kernel
theorem dX10_unit_93 : decode cX10_unit 93 = .ok (.aload_n 0, 1) := by decide +kernel
theorem dX10_unit_94 : decode cX10_unit 94 = .ok (.getfield 14, 3) := by decide +kernel
theorem dX10_unit_97 : decode cX10_unit 97 = .ok (.iload_n 1, 1) := by decide +kernel
theorem dX10_unit_98 : decode cX10_unit 98 = .ok (.aaload, 1) := by decide +kernel
theorem dX10_unit_99 : decode cX10_unit 99 = .ok (.iconst 0, 1) := by decide +kernel
theorem dX10_unit_100 : decode cX10_unit 100 = .ok (.iaload, 1) := by decide +kernel
theorem dX10_unit_101 : decode cX10_unit 101 = .ok (.iconst 1, 1) := by decide +kernel
theorem dX10_unit_102 : decode cX10_unit 102 = .ok (.bastore, 1) := by decide +kernel
theorem dX10_unit_103 : decode cX10_unit 103 = .ok (.goto 29, 3) := by decide +kernel
theorem dX10_unit_106 : decode cX10_unit 106 = .ok (.aload_n 0, 1) := by decide +kernel
theorem dX10_unit_107 : decode cX10_unit 107 = .ok (.getfield 18, 3) := by decide +kernel
theorem dX10_unit_110 : decode cX10_unit 110 = .ok (.aload_n 0, 1) := by decide +kernel
theorem dX10_unit_111 : decode cX10_unit 111 = .ok (.getfield 14, 3) := by decide +kernel
theorem dX10_unit_114 : decode cX10_unit 114 = .ok (.iload_n 1, 1) := by decide +kernel
theorem dX10_unit_115 : decode cX10_unit 115 = .ok (.aaload, 1) := by decide +kernel
theorem dX10_unit_116 : decode cX10_unit 116 = .ok (.iconst 0, 1) := by decide +kernel
theorem dX10_unit_117 : decode cX10_unit 117 = .ok (.iaload, 1) := by decide +kernel
theorem dX10_unit_118 : decode cX10_unit 118 = .ok (.dup2, 1) := by decide +kernel
theorem dX10_unit_119 : decode cX10_unit 119 = .ok (.iaload, 1) := by decide +kernel
theorem dX10_unit_120 : decode cX10_unit 120 = .ok (.iconst 1, 1) := by decide +kernel
theorem dX10_unit_121 : decode cX10_unit 121 = .ok (.aload_n 0, 1) := by decide +kernel
theorem dX10_unit_122 : decode cX10_unit 122 = .ok (.getfield 14, 3) := by decide +kernel
theorem dX10_unit_125 : decode cX10_unit 125 = .ok (.iload_n 1, 1) := by decide +kernel
theorem dX10_unit_126 : decode cX10_unit 126 = .ok (.aaload, 1) := by decide +kernel
theorem dX10_unit_127 : decode cX10_unit 127 = .ok (.iconst 3, 1) := by decide +kernel
theorem dX10_unit_128 : decode cX10_unit 128 = .ok (.iaload, 1) := by decide +kernel
theorem dX10_unit_129 : decode cX10_unit 129 = .ok (.ishl, 1) := by decide +kernel
theorem dX10_unit_130 : decode cX10_unit 130 = .ok (.ior, 1) := by decide +kernel
theorem dX10_unit_131 : decode cX10_unit 131 = .ok (.iastore, 1) := by decide +kernel
theorem dX10_unit_132 : decode cX10_unit 132 = .ok (.aload_n 0, 1) := by decide +kernel
theorem dX10_unit_133 : decode cX10_unit 133 = .ok (.getfield 14, 3) := by decide +kernel
theorem dX10_unit_136 : decode cX10_unit 136 = .ok (.arraylength, 1) := by decide +kernel
theorem dX10_unit_137 : decode cX10_unit 137 = .ok (.iconst 1, 1) := by decide +kernel
theorem dX10_unit_138 : decode cX10_unit 138 = .ok (.isub, 1) := by decide +kernel
theorem dX10_unit_139 : decode cX10_unit 139 = .ok (.anewarray 13, 3) := by decide +kernel
theorem dX10_unit_142 : decode cX10_unit 142 = .ok (.astore_n 2, 1) := by decide +kernel
theorem dX10_unit_143 : decode cX10_unit 143 = .ok (.iconst 0, 1) := by decide +kernel
theorem dX10_unit_144 : decode cX10_unit 144 = .ok (.istore_n 3, 1) := by decide +kernel
theorem dX10_unit_145 : decode cX10_unit 145 = .ok (.iload_n 3, 1) := by decide +kernel
theorem dX10_unit_146 : decode cX10_unit 146 = .ok (.aload_n 2, 1) := by decide +kernel
theorem dX10_unit_147 : decode cX10_unit 147 = .ok (.arraylength, 1) := by decide +kernel
theorem dX10_unit_148 : decode cX10_unit 148 = .ok (.if_icmp .ge 29, 3) := by decide +kernel
theorem dX10_unit_151 : decode cX10_unit 151 = .ok (.aload_n 2, 1) := by decide +kernel
theorem dX10_unit_152 : decode cX10_unit 152 = .ok (.iload_n 3, 1) := by decide +kernel
theorem dX10_unit_153 : decode cX10_unit 153 = .ok (.aload_n 0, 1) := by decide +kernel
theorem dX10_unit_154 : decode cX10_unit 154 = .ok (.getfield 14, 3) := by decide +kernel
theorem dX10_unit_157 : decode cX10_unit 157 = .ok (.iload_n 3, 1) := by decide +kernel
theorem dX10_unit_158 : decode cX10_unit 158 = .ok (.iload_n 1, 1) := by decide +kernel
theorem dX10_unit_159 : decode cX10_unit 159 = .ok (.if_icmp .ge 7, 3) := by decide +kernel
theorem dX10_unit_162 : decode cX10_unit 162 = .ok (.iload_n 3, 1) := by decide +kernel
theorem dX10_unit_163 : decode cX10_unit 163 = .ok (.goto 6, 3) := by decide +kernel
theorem dX10_unit_166 : decode cX10_unit 166 = .ok (.iload_n 3, 1) := by decide +kernel
theorem dX10_unit_167 : decode cX10_unit 167 = .ok (.iconst 1, 1) := by decide +kernel
theorem dX10_unit_168 : decode cX10_unit 168 = .ok (.iadd, 1) := by decide +kernel
theorem dX10_unit_169 : decode cX10_unit 169 = .ok (.aaload, 1) := by decide +kernel
theorem dX10_unit_170 : decode cX10_unit 170 = .ok (.aastore, 1) := by decide +kernel
theorem dX10_unit_171 : decode cX10_unit 171 = .ok (.iinc 3 1, 3) := by decide +kernel
theorem dX10_unit_174 : decode cX10_unit 174 = .ok (.goto (-29), 3) := by decide +kernel
theorem dX10_unit_177 : decode cX10_unit 177 = .ok (.aload_n 0, 1) := by decide +kernel
theorem dX10_unit_178 : decode cX10_unit 178 = .ok (.aload_n 2, 1) := by decide +kernel
theorem dX10_unit_179 : decode cX10_unit 179 = .ok (.putfield 14, 3) := by decide +kernel
theorem dX10_unit_182 : decode cX10_unit 182 = .ok (.return_, 1) := by decide +kernel
theorem dX10_send_0 : decode cX10_send 0 = .ok (.aload_n 0, 1) := by decide +kernel
theorem dX10_send_1 : decode cX10_send 1 = .ok (.getfield 29, 3) := by decide +kernel
theorem dX10_send_4 : decode cX10_send 4 = .ok (.aload_n 0, 1) := by decide +kernel
theorem dX10_send_5 : decode cX10_send 5 = .ok (.getfield 7, 3) := by decide +kernel
theorem dX10_send_8 : decode cX10_send 8 = .ok (.iconst 0, 1) := by decide +kernel
theorem dX10_send_9 : decode cX10_send 9 = .ok (.iaload, 1) := by decide +kernel
theorem dX10_send_10 : decode cX10_send 10 = .ok (.sipush 1440, 3) := by decide +kernel
theorem dX10_send_13 : decode cX10_send 13 = .ok (.irem, 1) := by decide +kernel
theorem dX10_send_14 : decode cX10_send 14 = .ok (.iaload, 1) := by decide +kernel
theorem dX10_send_15 : decode cX10_send 15 = .ok (.ifCond .ne 6, 3) := by decide +kernel
theorem dX10_send_18 : decode cX10_send 18 = .ok (.bipush 6, 2) := by decide +kernel
theorem dX10_send_20 : decode cX10_send 20 = .ok (.ireturn, 1) := by decide +kernel
theorem dX10_send_21 : decode cX10_send 21 = .ok (.iconst 0, 1) := by decide +kernel
theorem dX10_send_22 : decode cX10_send 22 = .ok (.istore_n 2, 1) := by decide +kernel
theorem dX10_send_23 : decode cX10_send 23 = .ok (.iload_n 2, 1) := by decide +kernel
theorem dX10_send_24 : decode cX10_send 24 = .ok (.iload_n 1, 1) := by decide +kernel
theorem dX10_send_25 : decode cX10_send 25 = .ok (.if_icmp .ge 76, 3) := by decide +kernel
theorem dX10_send_28 : decode cX10_send 28 = .ok (.aload_n 0, 1) := by decide +kernel
theorem dX10_send_29 : decode cX10_send 29 = .ok (.getfield 14, 3) := by decide +kernel
theorem dX10_send_32 : decode cX10_send 32 = .ok (.arraylength, 1) := by decide +kernel
theorem dX10_send_33 : decode cX10_send 33 = .ok (.ifCond .le 68, 3) := by decide +kernel
theorem dX10_send_36 : decode cX10_send 36 = .ok (.aload_n 0, 1) := by decide +kernel
theorem dX10_send_37 : decode cX10_send 37 = .ok (.getfield 29, 3) := by decide +kernel
theorem dX10_send_40 : decode cX10_send 40 = .ok (.aload_n 0, 1) := by decide +kernel
theorem dX10_send_41 : decode cX10_send 41 = .ok (.getfield 7, 3) := by decide +kernel
theorem dX10_send_44 : decode cX10_send 44 = .ok (.iconst 0, 1) := by decide +kernel
theorem dX10_send_45 : decode cX10_send 45 = .ok (.iaload, 1) := by decide +kernel
theorem dX10_send_46 : decode cX10_send 46 = .ok (.sipush 1440, 3) := by decide +kernel
theorem dX10_send_49 : decode cX10_send 49 = .ok (.irem, 1) := by decide +kernel
theorem dX10_send_50 : decode cX10_send 50 = .ok (.iaload, 1) := by decide +kernel
theorem dX10_send_51 : decode cX10_send 51 = .ok (.istore_n 3, 1) := by decide +kernel
theorem dX10_send_52 : decode cX10_send 52 = .ok (.aload_n 0, 1) := by decide +kernel
theorem dX10_send_53 : decode cX10_send 53 = .ok (.iconst 4, 1) := by decide +kernel
theorem dX10_send_54 : decode cX10_send 54 = .ok (.iconst 1, 1) := by decide +kernel
theorem dX10_send_55 : decode cX10_send 55 = .ok (.invokevirtual 52, 3) := by decide +kernel
theorem dX10_send_58 : decode cX10_send 58 = .ok (.istore 4, 2) := by decide +kernel
theorem dX10_send_60 : decode cX10_send 60 = .ok (.iload 4, 2) := by decide +kernel
theorem dX10_send_62 : decode cX10_send 62 = .ok (.ifCond .le 6, 3) := by decide +kernel
theorem dX10_send_65 : decode cX10_send 65 = .ok (.iload 4, 2) := by decide +kernel
theorem dX10_send_67 : decode cX10_send 67 = .ok (.ireturn, 1) := by decide +kernel
theorem dX10_send_68 : decode cX10_send 68 = .ok (.iconst 0, 1) := by decide +kernel
theorem dX10_send_69 : decode cX10_send 69 = .ok (.istore 5, 2) := by decide +kernel
theorem dX10_send_71 : decode cX10_send 71 = .ok (.iload 5, 2) := by decide +kernel
theorem dX10_send_73 : decode cX10_send 73 = .ok (.iload_n 3, 1) := by decide +kernel
theorem dX10_send_74 : decode cX10_send 74 = .ok (.if_icmp .ge 21, 3) := by decide +kernel
theorem dX10_send_77 : decode cX10_send 77 = .ok (.aload_n 0, 1) := by decide +kernel
theorem dX10_send_78 : decode cX10_send 78 = .ok (.getfield 14, 3) := by decide +kernel
theorem dX10_send_81 : decode cX10_send 81 = .ok (.arraylength, 1) := by decide +kernel
theorem dX10_send_82 : decode cX10_send 82 = .ok (.ifCond .le 13, 3) := by decide +kernel
theorem dX10_send_85 : decode cX10_send 85 = .ok (.aload_n 0, 1) := by decide +kernel
theorem dX10_send_86 : decode cX10_send 86 = .ok (.invokevirtual 92, 3) := by decide +kernel
theorem dX10_send_89 : decode cX10_send 89 = .ok (.iinc 5 1, 3) := by decide +kernel
theorem dX10_send_92 : decode cX10_send 92 = .ok (.goto (-21), 3) := by decide +kernel
theorem dX10_send_95 : decode cX10_send 95 = .ok (.iinc 2 1, 3) := by decide +kernel
theorem dX10_send_98 : decode cX10_send 98 = .ok (.goto (-75), 3) := by decide +kernel
theorem dX10_send_101 : decode cX10_send 101 = .ok (.iconst 0, 1) := by decide +kernel
theorem dX10_send_102 : decode cX10_send 102 = .ok (.ireturn, 1) := by decide +kernel
theorem dX10_drive_0 : decode cX10_drive 0 = .ok (.aload_n 0, 1) := by decide +kernel
theorem dX10_drive_1 : decode cX10_drive 1 = .ok (.getfield 45, 3) := by decide +kernel
theorem dX10_drive_4 : decode cX10_drive 4 = .ok (.iload_n 1, 1) := by decide +kernel
theorem dX10_drive_5 : decode cX10_drive 5 = .ok (.iload_n 2, 1) := by decide +kernel
theorem dX10_drive_6 : decode cX10_drive 6 = .ok (.invokestatic 95, 3) := by decide +kernel
theorem dX10_drive_9 : decode cX10_drive 9 = .ok (.astore_n 3, 1) := by decide +kernel
theorem dX10_drive_10 : decode cX10_drive 10 = .ok (.aload_n 3, 1) := by decide +kernel
theorem dX10_drive_11 : decode cX10_drive 11 = .ok (.bipush 24, 2) := by decide +kernel
theorem dX10_drive_13 : decode cX10_drive 13 = .ok (.aload_n 0, 1) := by decide +kernel
theorem dX10_drive_14 : decode cX10_drive 14 = .ok (.getfield 7, 3) := by decide +kernel
theorem dX10_drive_17 : decode cX10_drive 17 = .ok (.iconst 2, 1) := by decide +kernel
theorem dX10_drive_18 : decode cX10_drive 18 = .ok (.iaload, 1) := by decide +kernel
theorem dX10_drive_19 : decode cX10_drive 19 = .ok (.imul, 1) := by decide +kernel
theorem dX10_drive_20 : decode cX10_drive 20 = .ok (.aload_n 0, 1) := by decide +kernel
theorem dX10_drive_21 : decode cX10_drive 21 = .ok (.getfield 7, 3) := by decide +kernel
theorem dX10_drive_24 : decode cX10_drive 24 = .ok (.iconst 1, 1) := by decide +kernel
theorem dX10_drive_25 : decode cX10_drive 25 = .ok (.iaload, 1) := by decide +kernel
theorem dX10_drive_26 : decode cX10_drive 26 = .ok (.iadd, 1) := by decide +kernel
theorem dX10_drive_27 : decode cX10_drive 27 = .ok (.iaload, 1) := by decide +kernel
theorem dX10_drive_28 : decode cX10_drive 28 = .ok (.ifCond .ge 5, 3) := by decide +kernel
theorem dX10_drive_31 : decode cX10_drive 31 = .ok (.iconst 1, 1) := by decide +kernel
theorem dX10_drive_32 : decode cX10_drive 32 = .ok (.ireturn, 1) := by decide +kernel
theorem dX10_drive_33 : decode cX10_drive 33 = .ok (.aload_n 0, 1) := by decide +kernel
theorem dX10_drive_34 : decode cX10_drive 34 = .ok (.getfield 7, 3) := by decide +kernel
theorem dX10_drive_37 : decode cX10_drive 37 = .ok (.iconst 1, 1) := by decide +kernel
theorem dX10_drive_38 : decode cX10_drive 38 = .ok (.iaload, 1) := by decide +kernel
theorem dX10_drive_39 : decode cX10_drive 39 = .ok (.iload_n 1, 1) := by decide +kernel
theorem dX10_drive_40 : decode cX10_drive 40 = .ok (.if_icmp .ne 13, 3) := by decide +kernel
theorem dX10_drive_43 : decode cX10_drive 43 = .ok (.aload_n 0, 1) := by decide +kernel
theorem dX10_drive_44 : decode cX10_drive 44 = .ok (.getfield 7, 3) := by decide +kernel
theorem dX10_drive_47 : decode cX10_drive 47 = .ok (.iconst 2, 1) := by decide +kernel
theorem dX10_drive_48 : decode cX10_drive 48 = .ok (.iaload, 1) := by decide +kernel
theorem dX10_drive_49 : decode cX10_drive 49 = .ok (.iload_n 2, 1) := by decide +kernel
theorem dX10_drive_50 : decode cX10_drive 50 = .ok (.if_icmp .eq 146, 3) := by decide +kernel
theorem dX10_drive_53 : decode cX10_drive 53 = .ok (.aload_n 0, 1) := by decide +kernel
theorem dX10_drive_54 : decode cX10_drive 54 = .ok (.getfield 7, 3) := by decide +kernel
theorem dX10_drive_57 : decode cX10_drive 57 = .ok (.iconst 4, 1) := by decide +kernel
theorem dX10_drive_58 : decode cX10_drive 58 = .ok (.iaload, 1) := by decide +kernel
theorem dX10_drive_59 : decode cX10_drive 59 = .ok (.bipush (-50), 2) := by decide +kernel
theorem dX10_drive_61 : decode cX10_drive 61 = .ok (.if_icmp .ge 5, 3) := by decide +kernel
theorem dX10_drive_64 : decode cX10_drive 64 = .ok (.iconst 3, 1) := by decide +kernel
theorem dX10_drive_65 : decode cX10_drive 65 = .ok (.ireturn, 1) := by decide +kernel
theorem dX10_drive_66 : decode cX10_drive 66 = .ok (.aload_n 0, 1) := by decide +kernel
theorem dX10_drive_67 : decode cX10_drive 67 = .ok (.getfield 45, 3) := by decide +kernel
theorem dX10_drive_70 : decode cX10_drive 70 = .ok (.aload_n 3, 1) := by decide +kernel
theorem dX10_drive_71 : decode cX10_drive 71 = .ok (.aload_n 0, 1) := by decide +kernel
theorem dX10_drive_72 : decode cX10_drive 72 = .ok (.getfield 7, 3) := by decide +kernel
theorem dX10_drive_75 : decode cX10_drive 75 = .ok (.iconst 1, 1) := by decide +kernel
theorem dX10_drive_76 : decode cX10_drive 76 = .ok (.iaload, 1) := by decide +kernel
theorem dX10_drive_77 : decode cX10_drive 77 = .ok (.aload_n 0, 1) := by decide +kernel
theorem dX10_drive_78 : decode cX10_drive 78 = .ok (.getfield 7, 3) := by decide +kernel
theorem dX10_drive_81 : decode cX10_drive 81 = .ok (.iconst 2, 1) := by decide +kernel
theorem dX10_drive_82 : decode cX10_drive 82 = .ok (.iaload, 1) := by decide +kernel
theorem dX10_drive_83 : decode cX10_drive 83 = .ok (.invokestatic 99, 3) := by decide +kernel
theorem dX10_drive_86 : decode cX10_drive 86 = .ok (.istore 4, 2) := by decide +kernel
theorem dX10_drive_88 : decode cX10_drive 88 = .ok (.aload_n 0, 1) := by decide +kernel
theorem dX10_drive_89 : decode cX10_drive 89 = .ok (.getfield 45, 3) := by decide +kernel
theorem dX10_drive_92 : decode cX10_drive 92 = .ok (.aload_n 0, 1) := by decide +kernel
theorem dX10_drive_93 : decode cX10_drive 93 = .ok (.getfield 7, 3) := by decide +kernel
theorem dX10_drive_96 : decode cX10_drive 96 = .ok (.iconst 1, 1) := by decide +kernel
theorem dX10_drive_97 : decode cX10_drive 97 = .ok (.iaload, 1) := by decide +kernel
theorem dX10_drive_98 : decode cX10_drive 98 = .ok (.aload_n 0, 1) := by decide +kernel
theorem dX10_drive_99 : decode cX10_drive 99 = .ok (.getfield 7, 3) := by decide +kernel
theorem dX10_drive_102 : decode cX10_drive 102 = .ok (.iconst 2, 1) := by decide +kernel
theorem dX10_drive_103 : decode cX10_drive 103 = .ok (.iaload, 1) := by decide +kernel
theorem dX10_drive_104 : decode cX10_drive 104 = .ok (.iload 4, 2) := by decide +kernel
theorem dX10_drive_106 : decode cX10_drive 106 = .ok (.invokestatic 103, 3) := by decide +kernel
theorem dX10_drive_109 : decode cX10_drive 109 = .ok (.istore 5, 2) := by decide +kernel
theorem dX10_drive_111 : decode cX10_drive 111 = .ok (.aload_n 0, 1) := by decide +kernel
theorem dX10_drive_112 : decode cX10_drive 112 = .ok (.iload 5, 2) := by decide +kernel
theorem dX10_drive_114 : decode cX10_drive 114 = .ok (.iconst 1, 1) := by decide +kernel
theorem dX10_drive_115 : decode cX10_drive 115 = .ok (.isub, 1) := by decide +kernel
theorem dX10_drive_116 : decode cX10_drive 116 = .ok (.iconst 0, 1) := by decide +kernel
theorem dX10_drive_117 : decode cX10_drive 117 = .ok (.invokevirtual 86, 3) := by decide +kernel
theorem dX10_drive_120 : decode cX10_drive 120 = .ok (.istore 6, 2) := by decide +kernel
theorem dX10_drive_122 : decode cX10_drive 122 = .ok (.iload 6, 2) := by decide +kernel
theorem dX10_drive_124 : decode cX10_drive 124 = .ok (.ifCond .ne 31, 3) := by decide +kernel
theorem dX10_drive_127 : decode cX10_drive 127 = .ok (.aload_n 0, 1) := by decide +kernel
theorem dX10_drive_128 : decode cX10_drive 128 = .ok (.aload_n 0, 1) := by decide +kernel
theorem dX10_drive_129 : decode cX10_drive 129 = .ok (.getfield 45, 3) := by decide +kernel
theorem dX10_drive_132 : decode cX10_drive 132 = .ok (.aload_n 0, 1) := by decide +kernel
theorem dX10_drive_133 : decode cX10_drive 133 = .ok (.getfield 7, 3) := by decide +kernel
theorem dX10_drive_136 : decode cX10_drive 136 = .ok (.iconst 1, 1) := by decide +kernel
theorem dX10_drive_137 : decode cX10_drive 137 = .ok (.iaload, 1) := by decide +kernel
theorem dX10_drive_138 : decode cX10_drive 138 = .ok (.aload_n 0, 1) := by decide +kernel
theorem dX10_drive_139 : decode cX10_drive 139 = .ok (.getfield 7, 3) := by decide +kernel
theorem dX10_drive_142 : decode cX10_drive 142 = .ok (.iconst 2, 1) := by decide +kernel
theorem dX10_drive_143 : decode cX10_drive 143 = .ok (.iaload, 1) := by decide +kernel
theorem dX10_drive_144 : decode cX10_drive 144 = .ok (.iload 4, 2) := by decide +kernel
theorem dX10_drive_146 : decode cX10_drive 146 = .ok (.invokestatic 107, 3) := by decide +kernel
theorem dX10_drive_149 : decode cX10_drive 149 = .ok (.iconst 1, 1) := by decide +kernel
theorem dX10_drive_150 : decode cX10_drive 150 = .ok (.invokevirtual 52, 3) := by decide +kernel
theorem dX10_drive_153 : decode cX10_drive 153 = .ok (.istore 6, 2) := by decide +kernel
theorem dX10_drive_155 : decode cX10_drive 155 = .ok (.iload 6, 2) := by decide +kernel
theorem dX10_drive_157 : decode cX10_drive 157 = .ok (.ifCond .le 6, 3) := by decide +kernel
theorem dX10_drive_160 : decode cX10_drive 160 = .ok (.iload 6, 2) := by decide +kernel
theorem dX10_drive_162 : decode cX10_drive 162 = .ok (.ireturn, 1) := by decide +kernel
theorem dX10_drive_163 : decode cX10_drive 163 = .ok (.aload_n 0, 1) := by decide +kernel
theorem dX10_drive_164 : decode cX10_drive 164 = .ok (.getfield 7, 3) := by decide +kernel
theorem dX10_drive_167 : decode cX10_drive 167 = .ok (.iconst 1, 1) := by decide +kernel
theorem dX10_drive_168 : decode cX10_drive 168 = .ok (.dup2, 1) := by decide +kernel
theorem dX10_drive_169 : decode cX10_drive 169 = .ok (.iaload, 1) := by decide +kernel
theorem dX10_drive_170 : decode cX10_drive 170 = .ok (.getstatic 62, 3) := by decide +kernel
theorem dX10_drive_173 : decode cX10_drive 173 = .ok (.iload 4, 2) := by decide +kernel
theorem dX10_drive_175 : decode cX10_drive 175 = .ok (.iaload, 1) := by decide +kernel
theorem dX10_drive_176 : decode cX10_drive 176 = .ok (.iadd, 1) := by decide +kernel
theorem dX10_drive_177 : decode cX10_drive 177 = .ok (.iastore, 1) := by decide +kernel
theorem dX10_drive_178 : decode cX10_drive 178 = .ok (.aload_n 0, 1) := by decide +kernel
theorem dX10_drive_179 : decode cX10_drive 179 = .ok (.getfield 7, 3) := by decide +kernel
theorem dX10_drive_182 : decode cX10_drive 182 = .ok (.iconst 2, 1) := by decide +kernel
theorem dX10_drive_183 : decode cX10_drive 183 = .ok (.dup2, 1) := by decide +kernel
theorem dX10_drive_184 : decode cX10_drive 184 = .ok (.iaload, 1) := by decide +kernel
theorem dX10_drive_185 : decode cX10_drive 185 = .ok (.getstatic 67, 3) := by decide +kernel
theorem dX10_drive_188 : decode cX10_drive 188 = .ok (.iload 4, 2) := by decide +kernel
theorem dX10_drive_190 : decode cX10_drive 190 = .ok (.iaload, 1) := by decide +kernel
theorem dX10_drive_191 : decode cX10_drive 191 = .ok (.iadd, 1) := by decide +kernel
theorem dX10_drive_192 : decode cX10_drive 192 = .ok (.iastore, 1) := by decide +kernel
theorem dX10_drive_193 : decode cX10_drive 193 = .ok (.goto (-160), 3) := by decide +kernel
theorem dX10_drive_196 : decode cX10_drive 196 = .ok (.iconst 0, 1) := by decide +kernel
theorem dX10_drive_197 : decode cX10_drive 197 = .ok (.ireturn, 1) := by decide +kernel
theorem dX10_rest_0 : decode cX10_rest 0 = .ok (.aload_n 0, 1) := by decide +kernel
theorem dX10_rest_1 : decode cX10_rest 1 = .ok (.iconst 0, 1) := by decide +kernel
theorem dX10_rest_2 : decode cX10_rest 2 = .ok (.iload_n 2, 1) := by decide +kernel
theorem dX10_rest_3 : decode cX10_rest 3 = .ok (.invokevirtual 52, 3) := by decide +kernel
theorem dX10_rest_6 : decode cX10_rest 6 = .ok (.istore_n 3, 1) := by decide +kernel
theorem dX10_rest_7 : decode cX10_rest 7 = .ok (.iload_n 3, 1) := by decide +kernel
theorem dX10_rest_8 : decode cX10_rest 8 = .ok (.ifCond .ne 17, 3) := by decide +kernel
theorem dX10_rest_11 : decode cX10_rest 11 = .ok (.aload_n 0, 1) := by decide +kernel
theorem dX10_rest_12 : decode cX10_rest 12 = .ok (.getfield 7, 3) := by decide +kernel
theorem dX10_rest_15 : decode cX10_rest 15 = .ok (.iconst 0, 1) := by decide +kernel
theorem dX10_rest_16 : decode cX10_rest 16 = .ok (.iaload, 1) := by decide +kernel
theorem dX10_rest_17 : decode cX10_rest 17 = .ok (.sipush 1440, 3) := by decide +kernel
theorem dX10_rest_20 : decode cX10_rest 20 = .ok (.irem, 1) := by decide +kernel
theorem dX10_rest_21 : decode cX10_rest 21 = .ok (.iload_n 1, 1) := by decide +kernel
theorem dX10_rest_22 : decode cX10_rest 22 = .ok (.if_icmp .ne (-22), 3) := by decide +kernel
theorem dX10_rest_25 : decode cX10_rest 25 = .ok (.iload_n 3, 1) := by decide +kernel
theorem dX10_rest_26 : decode cX10_rest 26 = .ok (.ireturn, 1) := by decide +kernel
theorem dX10_act_0 : decode cX10_act 0 = .ok (.iload_n 1, 1) := by decide +kernel
theorem dX10_act_1 : decode cX10_act 1 = .ok (.tableswitch 95 0 6 #[43, 50, 58, 66, 72, 79, 86], 43) := by decide +kernel
theorem dX10_act_44 : decode cX10_act 44 = .ok (.aload_n 0, 1) := by decide +kernel
theorem dX10_act_45 : decode cX10_act 45 = .ok (.iload_n 2, 1) := by decide +kernel
theorem dX10_act_46 : decode cX10_act 46 = .ok (.iload_n 3, 1) := by decide +kernel
theorem dX10_act_47 : decode cX10_act 47 = .ok (.invokevirtual 110, 3) := by decide +kernel
theorem dX10_act_50 : decode cX10_act 50 = .ok (.ireturn, 1) := by decide +kernel
theorem dX10_act_51 : decode cX10_act 51 = .ok (.aload_n 0, 1) := by decide +kernel
theorem dX10_act_52 : decode cX10_act 52 = .ok (.iconst 0, 1) := by decide +kernel
theorem dX10_act_53 : decode cX10_act 53 = .ok (.iload_n 2, 1) := by decide +kernel
theorem dX10_act_54 : decode cX10_act 54 = .ok (.iload_n 3, 1) := by decide +kernel
theorem dX10_act_55 : decode cX10_act 55 = .ok (.invokevirtual 113, 3) := by decide +kernel
theorem dX10_act_58 : decode cX10_act 58 = .ok (.ireturn, 1) := by decide +kernel
theorem dX10_act_59 : decode cX10_act 59 = .ok (.aload_n 0, 1) := by decide +kernel
theorem dX10_act_60 : decode cX10_act 60 = .ok (.iconst 1, 1) := by decide +kernel
theorem dX10_act_61 : decode cX10_act 61 = .ok (.iload_n 2, 1) := by decide +kernel
theorem dX10_act_62 : decode cX10_act 62 = .ok (.iload_n 3, 1) := by decide +kernel
theorem dX10_act_63 : decode cX10_act 63 = .ok (.invokevirtual 113, 3) := by decide +kernel
theorem dX10_act_66 : decode cX10_act 66 = .ok (.ireturn, 1) := by decide +kernel
theorem dX10_act_67 : decode cX10_act 67 = .ok (.aload_n 0, 1) := by decide +kernel
theorem dX10_act_68 : decode cX10_act 68 = .ok (.iload_n 2, 1) := by decide +kernel
theorem dX10_act_69 : decode cX10_act 69 = .ok (.invokevirtual 117, 3) := by decide +kernel
theorem dX10_act_72 : decode cX10_act 72 = .ok (.ireturn, 1) := by decide +kernel
theorem dX10_act_73 : decode cX10_act 73 = .ok (.aload_n 0, 1) := by decide +kernel
theorem dX10_act_74 : decode cX10_act 74 = .ok (.iload_n 2, 1) := by decide +kernel
theorem dX10_act_75 : decode cX10_act 75 = .ok (.iconst 1, 1) := by decide +kernel
theorem dX10_act_76 : decode cX10_act 76 = .ok (.invokevirtual 120, 3) := by decide +kernel
theorem dX10_act_79 : decode cX10_act 79 = .ok (.ireturn, 1) := by decide +kernel
theorem dX10_act_80 : decode cX10_act 80 = .ok (.aload_n 0, 1) := by decide +kernel
theorem dX10_act_81 : decode cX10_act 81 = .ok (.iload_n 2, 1) := by decide +kernel
theorem dX10_act_82 : decode cX10_act 82 = .ok (.iconst 0, 1) := by decide +kernel
theorem dX10_act_83 : decode cX10_act 83 = .ok (.invokevirtual 120, 3) := by decide +kernel
theorem dX10_act_86 : decode cX10_act 86 = .ok (.ireturn, 1) := by decide +kernel
theorem dX10_act_87 : decode cX10_act 87 = .ok (.aload_n 0, 1) := by decide +kernel
theorem dX10_act_88 : decode cX10_act 88 = .ok (.getfield 7, 3) := by decide +kernel
theorem dX10_act_91 : decode cX10_act 91 = .ok (.iconst 5, 1) := by decide +kernel
theorem dX10_act_92 : decode cX10_act 92 = .ok (.iload_n 2, 1) := by decide +kernel
theorem dX10_act_93 : decode cX10_act 93 = .ok (.iastore, 1) := by decide +kernel
theorem dX10_act_94 : decode cX10_act 94 = .ok (.iconst 0, 1) := by decide +kernel
theorem dX10_act_95 : decode cX10_act 95 = .ok (.ireturn, 1) := by decide +kernel
theorem dX10_act_96 : decode cX10_act 96 = .ok (.aload_n 0, 1) := by decide +kernel
theorem dX10_act_97 : decode cX10_act 97 = .ok (.bipush 15, 2) := by decide +kernel
theorem dX10_act_99 : decode cX10_act 99 = .ok (.bipush 6, 2) := by decide +kernel
theorem dX10_act_101 : decode cX10_act 101 = .ok (.invokevirtual 86, 3) := by decide +kernel
theorem dX10_act_104 : decode cX10_act 104 = .ok (.istore 4, 2) := by decide +kernel
theorem dX10_act_106 : decode cX10_act 106 = .ok (.aload_n 0, 1) := by decide +kernel
theorem dX10_act_107 : decode cX10_act 107 = .ok (.getfield 7, 3) := by decide +kernel
theorem dX10_act_110 : decode cX10_act 110 = .ok (.bipush 6, 2) := by decide +kernel
theorem dX10_act_112 : decode cX10_act 112 = .ok (.aload_n 0, 1) := by decide +kernel
theorem dX10_act_113 : decode cX10_act 113 = .ok (.getfield 7, 3) := by decide +kernel
theorem dX10_act_116 : decode cX10_act 116 = .ok (.bipush 6, 2) := by decide +kernel
theorem dX10_act_118 : decode cX10_act 118 = .ok (.iaload, 1) := by decide +kernel
theorem dX10_act_119 : decode cX10_act 119 = .ok (.bipush 90, 2) := by decide +kernel
theorem dX10_act_121 : decode cX10_act 121 = .ok (.if_icmp .le 8, 3) := by decide +kernel
theorem dX10_act_124 : decode cX10_act 124 = .ok (.bipush 100, 2) := by decide +kernel
theorem dX10_act_126 : decode cX10_act 126 = .ok (.goto 13, 3) := by decide +kernel
theorem dX10_act_129 : decode cX10_act 129 = .ok (.aload_n 0, 1) := by decide +kernel
theorem dX10_act_130 : decode cX10_act 130 = .ok (.getfield 7, 3) := by decide +kernel
theorem dX10_act_133 : decode cX10_act 133 = .ok (.bipush 6, 2) := by decide +kernel
theorem dX10_act_135 : decode cX10_act 135 = .ok (.iaload, 1) := by decide +kernel
theorem dX10_act_136 : decode cX10_act 136 = .ok (.bipush 10, 2) := by decide +kernel
theorem dX10_act_138 : decode cX10_act 138 = .ok (.iadd, 1) := by decide +kernel
theorem dX10_act_139 : decode cX10_act 139 = .ok (.iastore, 1) := by decide +kernel
theorem dX10_act_140 : decode cX10_act 140 = .ok (.iload 4, 2) := by decide +kernel
theorem dX10_act_142 : decode cX10_act 142 = .ok (.ireturn, 1) := by decide +kernel
theorem dX10_told_0 : decode cX10_told 0 = .ok (.iload_n 1, 1) := by decide +kernel
theorem dX10_told_1 : decode cX10_told 1 = .ok (.bipush 7, 2) := by decide +kernel
theorem dX10_told_3 : decode cX10_told 3 = .ok (.if_icmp .ge 12, 3) := by decide +kernel
theorem dX10_told_6 : decode cX10_told 6 = .ok (.aload_n 0, 1) := by decide +kernel
theorem dX10_told_7 : decode cX10_told 7 = .ok (.getfield 7, 3) := by decide +kernel
theorem dX10_told_10 : decode cX10_told 10 = .ok (.iload_n 1, 1) := by decide +kernel
theorem dX10_told_11 : decode cX10_told 11 = .ok (.iaload, 1) := by decide +kernel
theorem dX10_told_12 : decode cX10_told 12 = .ok (.goto 37, 3) := by decide +kernel
theorem dX10_told_15 : decode cX10_told 15 = .ok (.iload_n 1, 1) := by decide +kernel
theorem dX10_told_16 : decode cX10_told 16 = .ok (.bipush 7, 2) := by decide +kernel
theorem dX10_told_18 : decode cX10_told 18 = .ok (.if_icmp .ne 10, 3) := by decide +kernel
theorem dX10_told_21 : decode cX10_told 21 = .ok (.aload_n 0, 1) := by decide +kernel
theorem dX10_told_22 : decode cX10_told 22 = .ok (.invokevirtual 83, 3) := by decide +kernel
theorem dX10_told_25 : decode cX10_told 25 = .ok (.goto 24, 3) := by decide +kernel
theorem dX10_told_28 : decode cX10_told 28 = .ok (.iload_n 1, 1) := by decide +kernel
theorem dX10_told_29 : decode cX10_told 29 = .ok (.bipush 8, 2) := by decide +kernel
theorem dX10_told_31 : decode cX10_told 31 = .ok (.if_icmp .ne 11, 3) := by decide +kernel
theorem dX10_told_34 : decode cX10_told 34 = .ok (.aload_n 0, 1) := by decide +kernel
theorem dX10_told_35 : decode cX10_told 35 = .ok (.getfield 14, 3) := by decide +kernel
theorem dX10_told_38 : decode cX10_told 38 = .ok (.arraylength, 1) := by decide +kernel
theorem dX10_told_39 : decode cX10_told 39 = .ok (.goto 10, 3) := by decide +kernel
theorem dX10_told_42 : decode cX10_told 42 = .ok (.aload_n 0, 1) := by decide +kernel
theorem dX10_told_43 : decode cX10_told 43 = .ok (.getfield 7, 3) := by decide +kernel
theorem dX10_told_46 : decode cX10_told 46 = .ok (.bipush 7, 2) := by decide +kernel
theorem dX10_told_48 : decode cX10_told 48 = .ok (.iaload, 1) := by decide +kernel
theorem dX10_told_49 : decode cX10_told 49 = .ok (.ireturn, 1) := by decide +kernel
theorem dX10_isSame_0 : decode cX10_isSame 0 = .ok (.iconst 0, 1) := by decide +kernel
theorem dX10_isSame_1 : decode cX10_isSame 1 = .ok (.istore_n 2, 1) := by decide +kernel
theorem dX10_isSame_2 : decode cX10_isSame 2 = .ok (.iload_n 2, 1) := by decide +kernel
theorem dX10_isSame_3 : decode cX10_isSame 3 = .ok (.bipush 10, 2) := by decide +kernel
theorem dX10_isSame_5 : decode cX10_isSame 5 = .ok (.if_icmp .ge 24, 3) := by decide +kernel
theorem dX10_isSame_8 : decode cX10_isSame 8 = .ok (.aload_n 1, 1) := by decide +kernel
theorem dX10_isSame_9 : decode cX10_isSame 9 = .ok (.iload_n 2, 1) := by decide +kernel
theorem dX10_isSame_10 : decode cX10_isSame 10 = .ok (.invokevirtual 123, 3) := by decide +kernel
theorem dX10_isSame_13 : decode cX10_isSame 13 = .ok (.aload_n 0, 1) := by decide +kernel
theorem dX10_isSame_14 : decode cX10_isSame 14 = .ok (.iload_n 2, 1) := by decide +kernel
theorem dX10_isSame_15 : decode cX10_isSame 15 = .ok (.invokevirtual 128, 3) := by decide +kernel
theorem dX10_isSame_18 : decode cX10_isSame 18 = .ok (.if_icmp .eq 5, 3) := by decide +kernel
theorem dX10_isSame_21 : decode cX10_isSame 21 = .ok (.iconst 0, 1) := by decide +kernel
theorem dX10_isSame_22 : decode cX10_isSame 22 = .ok (.ireturn, 1) := by decide +kernel
theorem dX10_isSame_23 : decode cX10_isSame 23 = .ok (.iinc 2 1, 3) := by decide +kernel
theorem dX10_isSame_26 : decode cX10_isSame 26 = .ok (.goto (-24), 3) := by decide +kernel
theorem dX10_isSame_29 : decode cX10_isSame 29 = .ok (.iconst 0, 1) := by decide +kernel
theorem dX10_isSame_30 : decode cX10_isSame 30 = .ok (.istore_n 2, 1) := by decide +kernel
theorem dX10_isSame_31 : decode cX10_isSame 31 = .ok (.iload_n 2, 1) := by decide +kernel
theorem dX10_isSame_32 : decode cX10_isSame 32 = .ok (.aload_n 0, 1) := by decide +kernel
theorem dX10_isSame_33 : decode cX10_isSame 33 = .ok (.getfield 14, 3) := by decide +kernel
theorem dX10_isSame_36 : decode cX10_isSame 36 = .ok (.arraylength, 1) := by decide +kernel
theorem dX10_isSame_37 : decode cX10_isSame 37 = .ok (.if_icmp .ge 41, 3) := by decide +kernel
theorem dX10_isSame_40 : decode cX10_isSame 40 = .ok (.iconst 0, 1) := by decide +kernel
theorem dX10_isSame_41 : decode cX10_isSame 41 = .ok (.istore_n 3, 1) := by decide +kernel
theorem dX10_isSame_42 : decode cX10_isSame 42 = .ok (.iload_n 3, 1) := by decide +kernel
theorem dX10_isSame_43 : decode cX10_isSame 43 = .ok (.iconst 4, 1) := by decide +kernel
theorem dX10_isSame_44 : decode cX10_isSame 44 = .ok (.if_icmp .ge 28, 3) := by decide +kernel
theorem dX10_isSame_47 : decode cX10_isSame 47 = .ok (.aload_n 1, 1) := by decide +kernel
theorem dX10_isSame_48 : decode cX10_isSame 48 = .ok (.iload_n 2, 1) := by decide +kernel
theorem dX10_isSame_49 : decode cX10_isSame 49 = .ok (.iload_n 3, 1) := by decide +kernel
theorem dX10_isSame_50 : decode cX10_isSame 50 = .ok (.invokevirtual 131, 3) := by decide +kernel
theorem dX10_isSame_53 : decode cX10_isSame 53 = .ok (.aload_n 0, 1) := by decide +kernel
theorem dX10_isSame_54 : decode cX10_isSame 54 = .ok (.getfield 14, 3) := by decide +kernel
theorem dX10_isSame_57 : decode cX10_isSame 57 = .ok (.iload_n 2, 1) := by decide +kernel
theorem dX10_isSame_58 : decode cX10_isSame 58 = .ok (.aaload, 1) := by decide +kernel
theorem dX10_isSame_59 : decode cX10_isSame 59 = .ok (.iload_n 3, 1) := by decide +kernel
theorem dX10_isSame_60 : decode cX10_isSame 60 = .ok (.iaload, 1) := by decide +kernel
theorem dX10_isSame_61 : decode cX10_isSame 61 = .ok (.if_icmp .eq 5, 3) := by decide +kernel
theorem dX10_isSame_64 : decode cX10_isSame 64 = .ok (.iconst 0, 1) := by decide +kernel
theorem dX10_isSame_65 : decode cX10_isSame 65 = .ok (.ireturn, 1) := by decide +kernel
theorem dX10_isSame_66 : decode cX10_isSame 66 = .ok (.iinc 3 1, 3) := by decide +kernel
theorem dX10_isSame_69 : decode cX10_isSame 69 = .ok (.goto (-27), 3) := by decide +kernel
theorem dX10_isSame_72 : decode cX10_isSame 72 = .ok (.iinc 2 1, 3) := by decide +kernel
theorem dX10_isSame_75 : decode cX10_isSame 75 = .ok (.goto (-44), 3) := by decide +kernel
theorem dX10_isSame_78 : decode cX10_isSame 78 = .ok (.iconst 0, 1) := by decide +kernel
theorem dX10_isSame_79 : decode cX10_isSame 79 = .ok (.istore_n 2, 1) := by decide +kernel
theorem dX10_isSame_80 : decode cX10_isSame 80 = .ok (.iload_n 2, 1) := by decide +kernel
theorem dX10_isSame_81 : decode cX10_isSame 81 = .ok (.bipush 12, 2) := by decide +kernel
theorem dX10_isSame_83 : decode cX10_isSame 83 = .ok (.if_icmp .ge 139, 3) := by decide +kernel
theorem dX10_isSame_86 : decode cX10_isSame 86 = .ok (.aload_n 0, 1) := by decide +kernel
theorem dX10_isSame_87 : decode cX10_isSame 87 = .ok (.getfield 32, 3) := by decide +kernel
theorem dX10_isSame_90 : decode cX10_isSame 90 = .ok (.iload_n 2, 1) := by decide +kernel
theorem dX10_isSame_91 : decode cX10_isSame 91 = .ok (.aaload, 1) := by decide +kernel
theorem dX10_isSame_92 : decode cX10_isSame 92 = .ok (.ifnull 130, 3) := by decide +kernel
theorem dX10_isSame_95 : decode cX10_isSame 95 = .ok (.aload_n 0, 1) := by decide +kernel
theorem dX10_isSame_96 : decode cX10_isSame 96 = .ok (.getfield 18, 3) := by decide +kernel
theorem dX10_isSame_99 : decode cX10_isSame 99 = .ok (.iload_n 2, 1) := by decide +kernel
theorem dX10_isSame_100 : decode cX10_isSame 100 = .ok (.iaload, 1) := by decide +kernel
theorem dX10_isSame_101 : decode cX10_isSame 101 = .ok (.invokestatic 134, 3) := by decide +kernel
theorem dX10_isSame_104 : decode cX10_isSame 104 = .ok (.istore_n 3, 1) := by decide +kernel
theorem dX10_isSame_105 : decode cX10_isSame 105 = .ok (.aload_n 0, 1) := by decide +kernel
theorem dX10_isSame_106 : decode cX10_isSame 106 = .ok (.getfield 32, 3) := by decide +kernel
theorem dX10_isSame_109 : decode cX10_isSame 109 = .ok (.iload_n 2, 1) := by decide +kernel
theorem dX10_isSame_110 : decode cX10_isSame 110 = .ok (.aaload, 1) := by decide +kernel
theorem dX10_isSame_111 : decode cX10_isSame 111 = .ok (.iconst 3, 1) := by decide +kernel
theorem dX10_isSame_112 : decode cX10_isSame 112 = .ok (.iaload, 1) := by decide +kernel
theorem dX10_isSame_113 : decode cX10_isSame 113 = .ok (.iconst 4, 1) := by decide +kernel
theorem dX10_isSame_114 : decode cX10_isSame 114 = .ok (.if_icmp .ne 12, 3) := by decide +kernel
theorem dX10_isSame_117 : decode cX10_isSame 117 = .ok (.aload_n 0, 1) := by decide +kernel
theorem dX10_isSame_118 : decode cX10_isSame 118 = .ok (.getfield 21, 3) := by decide +kernel
theorem dX10_isSame_121 : decode cX10_isSame 121 = .ok (.iload_n 2, 1) := by decide +kernel
theorem dX10_isSame_122 : decode cX10_isSame 122 = .ok (.baload, 1) := by decide +kernel
theorem dX10_isSame_123 : decode cX10_isSame 123 = .ok (.goto 20, 3) := by decide +kernel
theorem dX10_isSame_126 : decode cX10_isSame 126 = .ok (.iload_n 3, 1) := by decide +kernel
theorem dX10_isSame_127 : decode cX10_isSame 127 = .ok (.aload_n 0, 1) := by decide +kernel
theorem dX10_isSame_128 : decode cX10_isSame 128 = .ok (.getfield 32, 3) := by decide +kernel
theorem dX10_isSame_131 : decode cX10_isSame 131 = .ok (.iload_n 2, 1) := by decide +kernel
theorem dX10_isSame_132 : decode cX10_isSame 132 = .ok (.aaload, 1) := by decide +kernel
theorem dX10_isSame_133 : decode cX10_isSame 133 = .ok (.iconst 3, 1) := by decide +kernel
theorem dX10_isSame_134 : decode cX10_isSame 134 = .ok (.iaload, 1) := by decide +kernel
theorem dX10_isSame_135 : decode cX10_isSame 135 = .ok (.if_icmp .lt 7, 3) := by decide +kernel
theorem dX10_isSame_138 : decode cX10_isSame 138 = .ok (.iconst 1, 1) := by decide +kernel
theorem dX10_isSame_139 : decode cX10_isSame 139 = .ok (.goto 4, 3) := by decide +kernel
theorem dX10_isSame_142 : decode cX10_isSame 142 = .ok (.iconst 0, 1) := by decide +kernel
theorem dX10_isSame_143 : decode cX10_isSame 143 = .ok (.istore 4, 2) := by decide +kernel
theorem dX10_isSame_145 : decode cX10_isSame 145 = .ok (.aload_n 1, 1) := by decide +kernel
theorem dX10_isSame_146 : decode cX10_isSame 146 = .ok (.iload_n 2, 1) := by decide +kernel
theorem dX10_isSame_147 : decode cX10_isSame 147 = .ok (.iconst 2, 1) := by decide +kernel
theorem dX10_isSame_148 : decode cX10_isSame 148 = .ok (.invokevirtual 137, 3) := by decide +kernel
theorem dX10_isSame_151 : decode cX10_isSame 151 = .ok (.iload_n 3, 1) := by decide +kernel
theorem dX10_isSame_152 : decode cX10_isSame 152 = .ok (.if_icmp .ne 62, 3) := by decide +kernel
theorem dX10_isSame_155 : decode cX10_isSame 155 = .ok (.aload_n 1, 1) := by decide +kernel
theorem dX10_isSame_156 : decode cX10_isSame 156 = .ok (.iload_n 2, 1) := by decide +kernel
theorem dX10_isSame_157 : decode cX10_isSame 157 = .ok (.iconst 3, 1) := by decide +kernel
theorem dX10_isSame_158 : decode cX10_isSame 158 = .ok (.invokevirtual 137, 3) := by decide +kernel
theorem dX10_isSame_161 : decode cX10_isSame 161 = .ok (.aload_n 0, 1) := by decide +kernel
theorem dX10_isSame_162 : decode cX10_isSame 162 = .ok (.iload_n 2, 1) := by decide +kernel
theorem dX10_isSame_163 : decode cX10_isSame 163 = .ok (.invokevirtual 140, 3) := by decide +kernel
theorem dX10_isSame_166 : decode cX10_isSame 166 = .ok (.invokestatic 134, 3) := by decide +kernel
theorem dX10_isSame_169 : decode cX10_isSame 169 = .ok (.if_icmp .ne 45, 3) := by decide +kernel
theorem dX10_isSame_172 : decode cX10_isSame 172 = .ok (.aload_n 1, 1) := by decide +kernel
theorem dX10_isSame_173 : decode cX10_isSame 173 = .ok (.iload_n 2, 1) := by decide +kernel
theorem dX10_isSame_174 : decode cX10_isSame 174 = .ok (.iconst 4, 1) := by decide +kernel
theorem dX10_isSame_175 : decode cX10_isSame 175 = .ok (.invokevirtual 137, 3) := by decide +kernel
theorem dX10_isSame_178 : decode cX10_isSame 178 = .ok (.aload_n 0, 1) := by decide +kernel
theorem dX10_isSame_179 : decode cX10_isSame 179 = .ok (.getfield 21, 3) := by decide +kernel
theorem dX10_isSame_182 : decode cX10_isSame 182 = .ok (.iload_n 2, 1) := by decide +kernel
theorem dX10_isSame_183 : decode cX10_isSame 183 = .ok (.baload, 1) := by decide +kernel
theorem dX10_isSame_184 : decode cX10_isSame 184 = .ok (.ifCond .eq 7, 3) := by decide +kernel
theorem dX10_isSame_187 : decode cX10_isSame 187 = .ok (.iconst 1, 1) := by decide +kernel
theorem dX10_isSame_188 : decode cX10_isSame 188 = .ok (.goto 4, 3) := by decide +kernel
theorem dX10_isSame_191 : decode cX10_isSame 191 = .ok (.iconst 0, 1) := by decide +kernel
theorem dX10_isSame_192 : decode cX10_isSame 192 = .ok (.if_icmp .ne 22, 3) := by decide +kernel
theorem dX10_isSame_195 : decode cX10_isSame 195 = .ok (.aload_n 1, 1) := by decide +kernel
theorem dX10_isSame_196 : decode cX10_isSame 196 = .ok (.iload_n 2, 1) := by decide +kernel
theorem dX10_isSame_197 : decode cX10_isSame 197 = .ok (.iconst 5, 1) := by decide +kernel
theorem dX10_isSame_198 : decode cX10_isSame 198 = .ok (.invokevirtual 137, 3) := by decide +kernel
theorem dX10_isSame_201 : decode cX10_isSame 201 = .ok (.iload 4, 2) := by decide +kernel
theorem dX10_isSame_203 : decode cX10_isSame 203 = .ok (.ifCond .eq 7, 3) := by decide +kernel
theorem dX10_isSame_206 : decode cX10_isSame 206 = .ok (.iconst 1, 1) := by decide +kernel
theorem dX10_isSame_207 : decode cX10_isSame 207 = .ok (.goto 4, 3) := by decide +kernel
theorem dX10_isSame_210 : decode cX10_isSame 210 = .ok (.iconst 0, 1) := by decide +kernel
theorem dX10_isSame_211 : decode cX10_isSame 211 = .ok (.if_icmp .eq 5, 3) := by decide +kernel
theorem dX10_isSame_214 : decode cX10_isSame 214 = .ok (.iconst 0, 1) := by decide +kernel
theorem dX10_isSame_215 : decode cX10_isSame 215 = .ok (.ireturn, 1) := by decide +kernel
theorem dX10_isSame_216 : decode cX10_isSame 216 = .ok (.iinc 2 1, 3) := by decide +kernel
theorem dX10_isSame_219 : decode cX10_isSame 219 = .ok (.goto (-139), 3) := by decide +kernel
theorem dX10_isSame_222 : decode cX10_isSame 222 = .ok (.aload_n 1, 1) := by decide +kernel
theorem dX10_isSame_223 : decode cX10_isSame 223 = .ok (.invokevirtual 143, 3) := by decide +kernel
theorem dX10_isSame_226 : decode cX10_isSame 226 = .ok (.aload_n 0, 1) := by decide +kernel
theorem dX10_isSame_227 : decode cX10_isSame 227 = .ok (.getfield 42, 3) := by decide +kernel
theorem dX10_isSame_230 : decode cX10_isSame 230 = .ok (.ifCond .ne 7, 3) := by decide +kernel
theorem dX10_isSame_233 : decode cX10_isSame 233 = .ok (.dconst 1, 1) := by decide +kernel
theorem dX10_isSame_234 : decode cX10_isSame 234 = .ok (.goto 17, 3) := by decide +kernel
theorem dX10_isSame_237 : decode cX10_isSame 237 = .ok (.aload_n 0, 1) := by decide +kernel
theorem dX10_isSame_238 : decode cX10_isSame 238 = .ok (.getfield 7, 3) := by decide +kernel
theorem dX10_isSame_241 : decode cX10_isSame 241 = .ok (.bipush 7, 2) := by decide +kernel
theorem dX10_isSame_243 : decode cX10_isSame 243 = .ok (.iaload, 1) := by decide +kernel
theorem dX10_isSame_244 : decode cX10_isSame 244 = .ok (.i2d, 1) := by decide +kernel
theorem dX10_isSame_245 : decode cX10_isSame 245 = .ok (.aload_n 0, 1) := by decide +kernel
theorem dX10_isSame_246 : decode cX10_isSame 246 = .ok (.getfield 42, 3) := by decide +kernel
theorem dX10_isSame_249 : decode cX10_isSame 249 = .ok (.i2d, 1) := by decide +kernel
theorem dX10_isSame_250 : decode cX10_isSame 250 = .ok (.ddiv, 1) := by decide +kernel
theorem dX10_isSame_251 : decode cX10_isSame 251 = .ok (.dcmp .l, 1) := by decide +kernel
theorem dX10_isSame_252 : decode cX10_isSame 252 = .ok (.ifCond .ne 7, 3) := by decide +kernel
theorem dX10_isSame_255 : decode cX10_isSame 255 = .ok (.iconst 1, 1) := by decide +kernel
theorem dX10_isSame_256 : decode cX10_isSame 256 = .ok (.goto 4, 3) := by decide +kernel
theorem dX10_isSame_259 : decode cX10_isSame 259 = .ok (.iconst 0, 1) := by decide +kernel
theorem dX10_isSame_260 : decode cX10_isSame 260 = .ok (.ireturn, 1) := by decide +kernel
theorem dJ6_compare_7cf53_0 : decode cJ6_compare_7cf53 0 = .ok (.iload_n 0, 1) := by decide +kernel
theorem dJ6_compare_7cf53_1 : decode cJ6_compare_7cf53 1 = .ok (.iload_n 1, 1) := by decide +kernel
theorem dJ6_compare_7cf53_2 : decode cJ6_compare_7cf53 2 = .ok (.if_icmp .ge 7, 3) := by decide +kernel
theorem dJ6_compare_7cf53_5 : decode cJ6_compare_7cf53 5 = .ok (.iconst (-1), 1) := by decide +kernel
theorem dJ6_compare_7cf53_6 : decode cJ6_compare_7cf53 6 = .ok (.goto 13, 3) := by decide +kernel
theorem dJ6_compare_7cf53_9 : decode cJ6_compare_7cf53 9 = .ok (.iload_n 0, 1) := by decide +kernel
theorem dJ6_compare_7cf53_10 : decode cJ6_compare_7cf53 10 = .ok (.iload_n 1, 1) := by decide +kernel
theorem dJ6_compare_7cf53_11 : decode cJ6_compare_7cf53 11 = .ok (.if_icmp .ne 7, 3) := by decide +kernel
theorem dJ6_compare_7cf53_14 : decode cJ6_compare_7cf53 14 = .ok (.iconst 0, 1) := by decide +kernel
theorem dJ6_compare_7cf53_15 : decode cJ6_compare_7cf53 15 = .ok (.goto 4, 3) := by decide +kernel
theorem dJ6_compare_7cf53_18 : decode cJ6_compare_7cf53 18 = .ok (.iconst 1, 1) := by decide +kernel
theorem dJ6_compare_7cf53_19 : decode cJ6_compare_7cf53 19 = .ok (.ireturn, 1) := by decide +kernel
theorem dJ6_bitCount_0f7a4_0 : decode cJ6_bitCount_0f7a4 0 = .ok (.iload_n 0, 1) := by decide +kernel
theorem dJ6_bitCount_0f7a4_1 : decode cJ6_bitCount_0f7a4 1 = .ok (.iload_n 0, 1) := by decide +kernel
theorem dJ6_bitCount_0f7a4_2 : decode cJ6_bitCount_0f7a4 2 = .ok (.iconst 1, 1) := by decide +kernel
theorem dJ6_bitCount_0f7a4_3 : decode cJ6_bitCount_0f7a4 3 = .ok (.iushr, 1) := by decide +kernel
theorem dJ6_bitCount_0f7a4_4 : decode cJ6_bitCount_0f7a4 4 = .ok (.ldc_w 265, 3) := by decide +kernel
theorem dJ6_bitCount_0f7a4_7 : decode cJ6_bitCount_0f7a4 7 = .ok (.iand, 1) := by decide +kernel
theorem dJ6_bitCount_0f7a4_8 : decode cJ6_bitCount_0f7a4 8 = .ok (.isub, 1) := by decide +kernel
theorem dJ6_bitCount_0f7a4_9 : decode cJ6_bitCount_0f7a4 9 = .ok (.istore_n 0, 1) := by decide +kernel
theorem dJ6_bitCount_0f7a4_10 : decode cJ6_bitCount_0f7a4 10 = .ok (.iload_n 0, 1) := by decide +kernel
theorem dJ6_bitCount_0f7a4_11 : decode cJ6_bitCount_0f7a4 11 = .ok (.ldc_w 266, 3) := by decide +kernel
theorem dJ6_bitCount_0f7a4_14 : decode cJ6_bitCount_0f7a4 14 = .ok (.iand, 1) := by decide +kernel
theorem dJ6_bitCount_0f7a4_15 : decode cJ6_bitCount_0f7a4 15 = .ok (.iload_n 0, 1) := by decide +kernel
theorem dJ6_bitCount_0f7a4_16 : decode cJ6_bitCount_0f7a4 16 = .ok (.iconst 2, 1) := by decide +kernel
theorem dJ6_bitCount_0f7a4_17 : decode cJ6_bitCount_0f7a4 17 = .ok (.iushr, 1) := by decide +kernel
theorem dJ6_bitCount_0f7a4_18 : decode cJ6_bitCount_0f7a4 18 = .ok (.ldc_w 266, 3) := by decide +kernel
theorem dJ6_bitCount_0f7a4_21 : decode cJ6_bitCount_0f7a4 21 = .ok (.iand, 1) := by decide +kernel
theorem dJ6_bitCount_0f7a4_22 : decode cJ6_bitCount_0f7a4 22 = .ok (.iadd, 1) := by decide +kernel
theorem dJ6_bitCount_0f7a4_23 : decode cJ6_bitCount_0f7a4 23 = .ok (.istore_n 0, 1) := by decide +kernel
theorem dJ6_bitCount_0f7a4_24 : decode cJ6_bitCount_0f7a4 24 = .ok (.iload_n 0, 1) := by decide +kernel
theorem dJ6_bitCount_0f7a4_25 : decode cJ6_bitCount_0f7a4 25 = .ok (.iload_n 0, 1) := by decide +kernel
theorem dJ6_bitCount_0f7a4_26 : decode cJ6_bitCount_0f7a4 26 = .ok (.iconst 4, 1) := by decide +kernel
theorem dJ6_bitCount_0f7a4_27 : decode cJ6_bitCount_0f7a4 27 = .ok (.iushr, 1) := by decide +kernel
theorem dJ6_bitCount_0f7a4_28 : decode cJ6_bitCount_0f7a4 28 = .ok (.iadd, 1) := by decide +kernel
theorem dJ6_bitCount_0f7a4_29 : decode cJ6_bitCount_0f7a4 29 = .ok (.ldc_w 267, 3) := by decide +kernel
theorem dJ6_bitCount_0f7a4_32 : decode cJ6_bitCount_0f7a4 32 = .ok (.iand, 1) := by decide +kernel
theorem dJ6_bitCount_0f7a4_33 : decode cJ6_bitCount_0f7a4 33 = .ok (.istore_n 0, 1) := by decide +kernel
theorem dJ6_bitCount_0f7a4_34 : decode cJ6_bitCount_0f7a4 34 = .ok (.iload_n 0, 1) := by decide +kernel
theorem dJ6_bitCount_0f7a4_35 : decode cJ6_bitCount_0f7a4 35 = .ok (.iload_n 0, 1) := by decide +kernel
theorem dJ6_bitCount_0f7a4_36 : decode cJ6_bitCount_0f7a4 36 = .ok (.bipush 8, 2) := by decide +kernel
theorem dJ6_bitCount_0f7a4_38 : decode cJ6_bitCount_0f7a4 38 = .ok (.iushr, 1) := by decide +kernel
theorem dJ6_bitCount_0f7a4_39 : decode cJ6_bitCount_0f7a4 39 = .ok (.iadd, 1) := by decide +kernel
theorem dJ6_bitCount_0f7a4_40 : decode cJ6_bitCount_0f7a4 40 = .ok (.istore_n 0, 1) := by decide +kernel
theorem dJ6_bitCount_0f7a4_41 : decode cJ6_bitCount_0f7a4 41 = .ok (.iload_n 0, 1) := by decide +kernel
theorem dJ6_bitCount_0f7a4_42 : decode cJ6_bitCount_0f7a4 42 = .ok (.iload_n 0, 1) := by decide +kernel
theorem dJ6_bitCount_0f7a4_43 : decode cJ6_bitCount_0f7a4 43 = .ok (.bipush 16, 2) := by decide +kernel
theorem dJ6_bitCount_0f7a4_45 : decode cJ6_bitCount_0f7a4 45 = .ok (.iushr, 1) := by decide +kernel
theorem dJ6_bitCount_0f7a4_46 : decode cJ6_bitCount_0f7a4 46 = .ok (.iadd, 1) := by decide +kernel
theorem dJ6_bitCount_0f7a4_47 : decode cJ6_bitCount_0f7a4 47 = .ok (.istore_n 0, 1) := by decide +kernel
theorem dJ6_bitCount_0f7a4_48 : decode cJ6_bitCount_0f7a4 48 = .ok (.iload_n 0, 1) := by decide +kernel
theorem dJ6_bitCount_0f7a4_49 : decode cJ6_bitCount_0f7a4 49 = .ok (.bipush 63, 2) := by decide +kernel
theorem dJ6_bitCount_0f7a4_51 : decode cJ6_bitCount_0f7a4 51 = .ok (.iand, 1) := by decide +kernel
theorem dJ6_bitCount_0f7a4_52 : decode cJ6_bitCount_0f7a4 52 = .ok (.ireturn, 1) := by decide +kernel
theorem dJ9_floorDiv_7cf53_0 : decode cJ9_floorDiv_7cf53 0 = .ok (.iload_n 0, 1) := by decide +kernel
theorem dJ9_floorDiv_7cf53_1 : decode cJ9_floorDiv_7cf53 1 = .ok (.iload_n 1, 1) := by decide +kernel
theorem dJ9_floorDiv_7cf53_2 : decode cJ9_floorDiv_7cf53 2 = .ok (.idiv, 1) := by decide +kernel
theorem dJ9_floorDiv_7cf53_3 : decode cJ9_floorDiv_7cf53 3 = .ok (.istore_n 2, 1) := by decide +kernel
theorem dJ9_floorDiv_7cf53_4 : decode cJ9_floorDiv_7cf53 4 = .ok (.iload_n 0, 1) := by decide +kernel
theorem dJ9_floorDiv_7cf53_5 : decode cJ9_floorDiv_7cf53 5 = .ok (.iload_n 1, 1) := by decide +kernel
theorem dJ9_floorDiv_7cf53_6 : decode cJ9_floorDiv_7cf53 6 = .ok (.ixor, 1) := by decide +kernel
theorem dJ9_floorDiv_7cf53_7 : decode cJ9_floorDiv_7cf53 7 = .ok (.ifCond .ge 14, 3) := by decide +kernel
theorem dJ9_floorDiv_7cf53_10 : decode cJ9_floorDiv_7cf53 10 = .ok (.iload_n 2, 1) := by decide +kernel
theorem dJ9_floorDiv_7cf53_11 : decode cJ9_floorDiv_7cf53 11 = .ok (.iload_n 1, 1) := by decide +kernel
theorem dJ9_floorDiv_7cf53_12 : decode cJ9_floorDiv_7cf53 12 = .ok (.imul, 1) := by decide +kernel
theorem dJ9_floorDiv_7cf53_13 : decode cJ9_floorDiv_7cf53 13 = .ok (.iload_n 0, 1) := by decide +kernel
theorem dJ9_floorDiv_7cf53_14 : decode cJ9_floorDiv_7cf53 14 = .ok (.if_icmp .eq 7, 3) := by decide +kernel
theorem dJ9_floorDiv_7cf53_17 : decode cJ9_floorDiv_7cf53 17 = .ok (.iload_n 2, 1) := by decide +kernel
theorem dJ9_floorDiv_7cf53_18 : decode cJ9_floorDiv_7cf53 18 = .ok (.iconst 1, 1) := by decide +kernel
theorem dJ9_floorDiv_7cf53_19 : decode cJ9_floorDiv_7cf53 19 = .ok (.isub, 1) := by decide +kernel
theorem dJ9_floorDiv_7cf53_20 : decode cJ9_floorDiv_7cf53 20 = .ok (.ireturn, 1) := by decide +kernel
theorem dJ9_floorDiv_7cf53_21 : decode cJ9_floorDiv_7cf53 21 = .ok (.iload_n 2, 1) := by decide +kernel
theorem dJ9_floorDiv_7cf53_22 : decode cJ9_floorDiv_7cf53 22 = .ok (.ireturn, 1) := by decide +kernel
theorem dJ9_floorMod_7cf53_0 : decode cJ9_floorMod_7cf53 0 = .ok (.iload_n 0, 1) := by decide +kernel
theorem dJ9_floorMod_7cf53_1 : decode cJ9_floorMod_7cf53 1 = .ok (.iload_n 1, 1) := by decide +kernel
theorem dJ9_floorMod_7cf53_2 : decode cJ9_floorMod_7cf53 2 = .ok (.irem, 1) := by decide +kernel
theorem dJ9_floorMod_7cf53_3 : decode cJ9_floorMod_7cf53 3 = .ok (.istore_n 2, 1) := by decide +kernel
theorem dJ9_floorMod_7cf53_4 : decode cJ9_floorMod_7cf53 4 = .ok (.iload_n 0, 1) := by decide +kernel
theorem dJ9_floorMod_7cf53_5 : decode cJ9_floorMod_7cf53 5 = .ok (.iload_n 1, 1) := by decide +kernel
theorem dJ9_floorMod_7cf53_6 : decode cJ9_floorMod_7cf53 6 = .ok (.ixor, 1) := by decide +kernel
theorem dJ9_floorMod_7cf53_7 : decode cJ9_floorMod_7cf53 7 = .ok (.ifCond .ge 11, 3) := by decide +kernel
theorem dJ9_floorMod_7cf53_10 : decode cJ9_floorMod_7cf53 10 = .ok (.iload_n 2, 1) := by decide +kernel
theorem dJ9_floorMod_7cf53_11 : decode cJ9_floorMod_7cf53 11 = .ok (.ifCond .eq 7, 3) := by decide +kernel
theorem dJ9_floorMod_7cf53_14 : decode cJ9_floorMod_7cf53 14 = .ok (.iload_n 2, 1) := by decide +kernel
theorem dJ9_floorMod_7cf53_15 : decode cJ9_floorMod_7cf53 15 = .ok (.iload_n 1, 1) := by decide +kernel
theorem dJ9_floorMod_7cf53_16 : decode cJ9_floorMod_7cf53 16 = .ok (.iadd, 1) := by decide +kernel
theorem dJ9_floorMod_7cf53_17 : decode cJ9_floorMod_7cf53 17 = .ok (.ireturn, 1) := by decide +kernel
theorem dJ9_floorMod_7cf53_18 : decode cJ9_floorMod_7cf53 18 = .ok (.iload_n 2, 1) := by decide +kernel
theorem dJ9_floorMod_7cf53_19 : decode cJ9_floorMod_7cf53 19 = .ok (.ireturn, 1) := by decide +kernel
theorem dJ9_abs_0f7a4_0 : decode cJ9_abs_0f7a4 0 = .ok (.iload_n 0, 1) := by decide +kernel
theorem dJ9_abs_0f7a4_1 : decode cJ9_abs_0f7a4 1 = .ok (.ifCond .ge 8, 3) := by decide +kernel
theorem dJ9_abs_0f7a4_4 : decode cJ9_abs_0f7a4 4 = .ok (.iload_n 0, 1) := by decide +kernel
theorem dJ9_abs_0f7a4_5 : decode cJ9_abs_0f7a4 5 = .ok (.ineg, 1) := by decide +kernel
theorem dJ9_abs_0f7a4_6 : decode cJ9_abs_0f7a4 6 = .ok (.goto 4, 3) := by decide +kernel
theorem dJ9_abs_0f7a4_9 : decode cJ9_abs_0f7a4 9 = .ok (.iload_n 0, 1) := by decide +kernel
theorem dJ9_abs_0f7a4_10 : decode cJ9_abs_0f7a4 10 = .ok (.ireturn, 1) := by decide +kernel
theorem dJ9_max_7cf53_0 : decode cJ9_max_7cf53 0 = .ok (.iload_n 0, 1) := by decide +kernel
theorem dJ9_max_7cf53_1 : decode cJ9_max_7cf53 1 = .ok (.iload_n 1, 1) := by decide +kernel
theorem dJ9_max_7cf53_2 : decode cJ9_max_7cf53 2 = .ok (.if_icmp .lt 7, 3) := by decide +kernel
theorem dJ9_max_7cf53_5 : decode cJ9_max_7cf53 5 = .ok (.iload_n 0, 1) := by decide +kernel
theorem dJ9_max_7cf53_6 : decode cJ9_max_7cf53 6 = .ok (.goto 4, 3) := by decide +kernel
theorem dJ9_max_7cf53_9 : decode cJ9_max_7cf53 9 = .ok (.iload_n 1, 1) := by decide +kernel
theorem dJ9_max_7cf53_10 : decode cJ9_max_7cf53 10 = .ok (.ireturn, 1) := by decide +kernel
theorem dJ9_min_7cf53_0 : decode cJ9_min_7cf53 0 = .ok (.iload_n 0, 1) := by decide +kernel
theorem dJ9_min_7cf53_1 : decode cJ9_min_7cf53 1 = .ok (.iload_n 1, 1) := by decide +kernel
theorem dJ9_min_7cf53_2 : decode cJ9_min_7cf53 2 = .ok (.if_icmp .gt 7, 3) := by decide +kernel
theorem dJ9_min_7cf53_5 : decode cJ9_min_7cf53 5 = .ok (.iload_n 0, 1) := by decide +kernel
theorem dJ9_min_7cf53_6 : decode cJ9_min_7cf53 6 = .ok (.goto 4, 3) := by decide +kernel
theorem dJ9_min_7cf53_9 : decode cJ9_min_7cf53 9 = .ok (.iload_n 1, 1) := by decide +kernel
theorem dJ9_min_7cf53_10 : decode cJ9_min_7cf53 10 = .ok (.ireturn, 1) := by decide +kernel
theorem dL_below_0 : decode cL_below 0 = .ok (.iload_n 0, 1) := by decide +kernel
theorem dL_below_1 : decode cL_below 1 = .ok (.ldc 7, 2) := by decide +kernel
theorem dL_below_3 : decode cL_below 3 = .ok (.iand, 1) := by decide +kernel
theorem dL_below_4 : decode cL_below 4 = .ok (.iload_n 1, 1) := by decide +kernel
theorem dL_below_5 : decode cL_below 5 = .ok (.irem, 1) := by decide +kernel
theorem dL_below_6 : decode cL_below 6 = .ok (.ireturn, 1) := by decide +kernel
theorem dL_cell_0 : decode cL_cell 0 = .ok (.iload_n 1, 1) := by decide +kernel
theorem dL_cell_1 : decode cL_cell 1 = .ok (.aload_n 0, 1) := by decide +kernel
theorem dL_cell_2 : decode cL_cell 2 = .ok (.arraylength, 1) := by decide +kernel
theorem dL_cell_3 : decode cL_cell 3 = .ok (.if_icmp .ge 9, 3) := by decide +kernel
theorem dL_cell_6 : decode cL_cell 6 = .ok (.aload_n 0, 1) := by decide +kernel
theorem dL_cell_7 : decode cL_cell 7 = .ok (.iload_n 1, 1) := by decide +kernel
theorem dL_cell_8 : decode cL_cell 8 = .ok (.iaload, 1) := by decide +kernel
theorem dL_cell_9 : decode cL_cell 9 = .ok (.goto 9, 3) := by decide +kernel
theorem dL_cell_12 : decode cL_cell 12 = .ok (.ldc 8, 2) := by decide +kernel
theorem dL_cell_14 : decode cL_cell 14 = .ok (.iload_n 1, 1) := by decide +kernel
theorem dL_cell_15 : decode cL_cell 15 = .ok (.iconst 3, 1) := by decide +kernel
theorem dL_cell_16 : decode cL_cell 16 = .ok (.iadd, 1) := by decide +kernel
theorem dL_cell_17 : decode cL_cell 17 = .ok (.imul, 1) := by decide +kernel
theorem dL_cell_18 : decode cL_cell 18 = .ok (.ireturn, 1) := by decide +kernel
theorem dL_ground_0 : decode cL_ground 0 = .ok (.sipush 1729, 3) := by decide +kernel
theorem dL_ground_3 : decode cL_ground 3 = .ok (.newarray .int, 2) := by decide +kernel
theorem dL_ground_5 : decode cL_ground 5 = .ok (.astore_n 3, 1) := by decide +kernel
theorem dL_ground_6 : decode cL_ground 6 = .ok (.aload_n 3, 1) := by decide +kernel
theorem dL_ground_7 : decode cL_ground 7 = .ok (.sipush 1728, 3) := by decide +kernel
theorem dL_ground_10 : decode cL_ground 10 = .ok (.bipush 12, 2) := by decide +kernel
theorem dL_ground_12 : decode cL_ground 12 = .ok (.iastore, 1) := by decide +kernel
theorem dL_ground_13 : decode cL_ground 13 = .ok (.iconst 0, 1) := by decide +kernel
theorem dL_ground_14 : decode cL_ground 14 = .ok (.istore 4, 2) := by decide +kernel
theorem dL_ground_16 : decode cL_ground 16 = .ok (.iload 4, 2) := by decide +kernel
theorem dL_ground_18 : decode cL_ground 18 = .ok (.bipush 10, 2) := by decide +kernel
theorem dL_ground_20 : decode cL_ground 20 = .ok (.if_icmp .ge 345, 3) := by decide +kernel
theorem dL_ground_23 : decode cL_ground 23 = .ok (.aload_n 1, 1) := by decide +kernel
theorem dL_ground_24 : decode cL_ground 24 = .ok (.iload_n 2, 1) := by decide +kernel
theorem dL_ground_25 : decode cL_ground 25 = .ok (.iload 4, 2) := by decide +kernel
theorem dL_ground_27 : decode cL_ground 27 = .ok (.bipush 8, 2) := by decide +kernel
theorem dL_ground_29 : decode cL_ground 29 = .ok (.irem, 1) := by decide +kernel
theorem dL_ground_30 : decode cL_ground 30 = .ok (.iadd, 1) := by decide +kernel
theorem dL_ground_31 : decode cL_ground 31 = .ok (.invokestatic 9, 3) := by decide +kernel
theorem dL_ground_34 : decode cL_ground 34 = .ok (.iload 4, 2) := by decide +kernel
theorem dL_ground_36 : decode cL_ground 36 = .ok (.bipush 8, 2) := by decide +kernel
theorem dL_ground_38 : decode cL_ground 38 = .ok (.idiv, 1) := by decide +kernel
theorem dL_ground_39 : decode cL_ground 39 = .ok (.bipush 9, 2) := by decide +kernel
theorem dL_ground_41 : decode cL_ground 41 = .ok (.imul, 1) := by decide +kernel
theorem dL_ground_42 : decode cL_ground 42 = .ok (.ishr, 1) := by decide +kernel
theorem dL_ground_43 : decode cL_ground 43 = .ok (.istore 5, 2) := by decide +kernel
theorem dL_ground_45 : decode cL_ground 45 = .ok (.iload 5, 2) := by decide +kernel
theorem dL_ground_47 : decode cL_ground 47 = .ok (.bipush 24, 2) := by decide +kernel
theorem dL_ground_49 : decode cL_ground 49 = .ok (.invokestatic 15, 3) := by decide +kernel
theorem dL_ground_52 : decode cL_ground 52 = .ok (.istore 6, 2) := by decide +kernel
theorem dL_ground_54 : decode cL_ground 54 = .ok (.bipush 23, 2) := by decide +kernel
theorem dL_ground_56 : decode cL_ground 56 = .ok (.iload 6, 2) := by decide +kernel
theorem dL_ground_58 : decode cL_ground 58 = .ok (.iload 5, 2) := by decide +kernel
theorem dL_ground_60 : decode cL_ground 60 = .ok (.iconst 3, 1) := by decide +kernel
theorem dL_ground_61 : decode cL_ground 61 = .ok (.ishr, 1) := by decide +kernel
theorem dL_ground_62 : decode cL_ground 62 = .ok (.bipush 9, 2) := by decide +kernel
theorem dL_ground_64 : decode cL_ground 64 = .ok (.invokestatic 15, 3) := by decide +kernel
theorem dL_ground_67 : decode cL_ground 67 = .ok (.iadd, 1) := by decide +kernel
theorem dL_ground_68 : decode cL_ground 68 = .ok (.invokestatic 19, 3) := by decide +kernel
theorem dL_ground_71 : decode cL_ground 71 = .ok (.istore 7, 2) := by decide +kernel
theorem dL_ground_73 : decode cL_ground 73 = .ok (.iload 5, 2) := by decide +kernel
theorem dL_ground_75 : decode cL_ground 75 = .ok (.iconst 5, 1) := by decide +kernel
theorem dL_ground_76 : decode cL_ground 76 = .ok (.ishr, 1) := by decide +kernel
theorem dL_ground_77 : decode cL_ground 77 = .ok (.bipush 24, 2) := by decide +kernel
theorem dL_ground_79 : decode cL_ground 79 = .ok (.invokestatic 15, 3) := by decide +kernel
theorem dL_ground_82 : decode cL_ground 82 = .ok (.istore 8, 2) := by decide +kernel
theorem dL_ground_84 : decode cL_ground 84 = .ok (.bipush 23, 2) := by decide +kernel
theorem dL_ground_86 : decode cL_ground 86 = .ok (.iload 8, 2) := by decide +kernel
theorem dL_ground_88 : decode cL_ground 88 = .ok (.iload 5, 2) := by decide +kernel
theorem dL_ground_90 : decode cL_ground 90 = .ok (.bipush 7, 2) := by decide +kernel
theorem dL_ground_92 : decode cL_ground 92 = .ok (.ishr, 1) := by decide +kernel
theorem dL_ground_93 : decode cL_ground 93 = .ok (.bipush 9, 2) := by decide +kernel
theorem dL_ground_95 : decode cL_ground 95 = .ok (.invokestatic 15, 3) := by decide +kernel
theorem dL_ground_98 : decode cL_ground 98 = .ok (.iadd, 1) := by decide +kernel
theorem dL_ground_99 : decode cL_ground 99 = .ok (.invokestatic 19, 3) := by decide +kernel
theorem dL_ground_102 : decode cL_ground 102 = .ok (.istore 9, 2) := by decide +kernel
theorem dL_ground_104 : decode cL_ground 104 = .ok (.iload 4, 2) := by decide +kernel
theorem dL_ground_106 : decode cL_ground 106 = .ok (.bipush 6, 2) := by decide +kernel
theorem dL_ground_108 : decode cL_ground 108 = .ok (.if_icmp .ge 112, 3) := by decide +kernel
theorem dL_ground_111 : decode cL_ground 111 = .ok (.iload 5, 2) := by decide +kernel
theorem dL_ground_113 : decode cL_ground 113 = .ok (.iconst 4, 1) := by decide +kernel
theorem dL_ground_114 : decode cL_ground 114 = .ok (.ishr, 1) := by decide +kernel
theorem dL_ground_115 : decode cL_ground 115 = .ok (.bipush 17, 2) := by decide +kernel
theorem dL_ground_117 : decode cL_ground 117 = .ok (.invokestatic 15, 3) := by decide +kernel
theorem dL_ground_120 : decode cL_ground 120 = .ok (.bipush 7, 2) := by decide +kernel
theorem dL_ground_122 : decode cL_ground 122 = .ok (.isub, 1) := by decide +kernel
theorem dL_ground_123 : decode cL_ground 123 = .ok (.istore 10, 2) := by decide +kernel
theorem dL_ground_125 : decode cL_ground 125 = .ok (.sipush (-999), 3) := by decide +kernel
theorem dL_ground_128 : decode cL_ground 128 = .ok (.istore 11, 2) := by decide +kernel
theorem dL_ground_130 : decode cL_ground 130 = .ok (.iload 8, 2) := by decide +kernel
theorem dL_ground_132 : decode cL_ground 132 = .ok (.istore 12, 2) := by decide +kernel
theorem dL_ground_134 : decode cL_ground 134 = .ok (.iload 12, 2) := by decide +kernel
theorem dL_ground_136 : decode cL_ground 136 = .ok (.iload 9, 2) := by decide +kernel
theorem dL_ground_138 : decode cL_ground 138 = .ok (.if_icmp .gt 58, 3) := by decide +kernel
theorem dL_ground_141 : decode cL_ground 141 = .ok (.iload 6, 2) := by decide +kernel
theorem dL_ground_143 : decode cL_ground 143 = .ok (.istore 13, 2) := by decide +kernel
theorem dL_ground_145 : decode cL_ground 145 = .ok (.iload 13, 2) := by decide +kernel
theorem dL_ground_147 : decode cL_ground 147 = .ok (.iload 7, 2) := by decide +kernel
theorem dL_ground_149 : decode cL_ground 149 = .ok (.if_icmp .gt 41, 3) := by decide +kernel
theorem dL_ground_152 : decode cL_ground 152 = .ok (.aload_n 3, 1) := by decide +kernel
theorem dL_ground_153 : decode cL_ground 153 = .ok (.bipush 24, 2) := by decide +kernel
theorem dL_ground_155 : decode cL_ground 155 = .ok (.iload 12, 2) := by decide +kernel
theorem dL_ground_157 : decode cL_ground 157 = .ok (.imul, 1) := by decide +kernel
theorem dL_ground_158 : decode cL_ground 158 = .ok (.iload 13, 2) := by decide +kernel
theorem dL_ground_160 : decode cL_ground 160 = .ok (.iadd, 1) := by decide +kernel
theorem dL_ground_161 : decode cL_ground 161 = .ok (.dup2, 1) := by decide +kernel
theorem dL_ground_162 : decode cL_ground 162 = .ok (.iaload, 1) := by decide +kernel
theorem dL_ground_163 : decode cL_ground 163 = .ok (.iload 10, 2) := by decide +kernel
theorem dL_ground_165 : decode cL_ground 165 = .ok (.iadd, 1) := by decide +kernel
theorem dL_ground_166 : decode cL_ground 166 = .ok (.iastore, 1) := by decide +kernel
theorem dL_ground_167 : decode cL_ground 167 = .ok (.iload 11, 2) := by decide +kernel
theorem dL_ground_169 : decode cL_ground 169 = .ok (.aload_n 3, 1) := by decide +kernel
theorem dL_ground_170 : decode cL_ground 170 = .ok (.bipush 24, 2) := by decide +kernel
theorem dL_ground_172 : decode cL_ground 172 = .ok (.iload 12, 2) := by decide +kernel
theorem dL_ground_174 : decode cL_ground 174 = .ok (.imul, 1) := by decide +kernel
theorem dL_ground_175 : decode cL_ground 175 = .ok (.iload 13, 2) := by decide +kernel
theorem dL_ground_177 : decode cL_ground 177 = .ok (.iadd, 1) := by decide +kernel
theorem dL_ground_178 : decode cL_ground 178 = .ok (.iaload, 1) := by decide +kernel
theorem dL_ground_179 : decode cL_ground 179 = .ok (.invokestatic 24, 3) := by decide +kernel
theorem dL_ground_182 : decode cL_ground 182 = .ok (.istore 11, 2) := by decide +kernel
theorem dL_ground_184 : decode cL_ground 184 = .ok (.iinc 13 1, 3) := by decide +kernel
theorem dL_ground_187 : decode cL_ground 187 = .ok (.goto (-42), 3) := by decide +kernel
theorem dL_ground_190 : decode cL_ground 190 = .ok (.iinc 12 1, 3) := by decide +kernel
theorem dL_ground_193 : decode cL_ground 193 = .ok (.goto (-59), 3) := by decide +kernel
theorem dL_ground_196 : decode cL_ground 196 = .ok (.aload_n 0, 1) := by decide +kernel
theorem dL_ground_197 : decode cL_ground 197 = .ok (.iload 6, 2) := by decide +kernel
theorem dL_ground_199 : decode cL_ground 199 = .ok (.iload 7, 2) := by decide +kernel
theorem dL_ground_201 : decode cL_ground 201 = .ok (.iload 8, 2) := by decide +kernel
theorem dL_ground_203 : decode cL_ground 203 = .ok (.iload 9, 2) := by decide +kernel
theorem dL_ground_205 : decode cL_ground 205 = .ok (.iload 10, 2) := by decide +kernel
theorem dL_ground_207 : decode cL_ground 207 = .ok (.invokevirtual 27, 3) := by decide +kernel
theorem dL_ground_210 : decode cL_ground 210 = .ok (.iload 11, 2) := by decide +kernel
theorem dL_ground_212 : decode cL_ground 212 = .ok (.if_icmp .eq 5, 3) := by decide +kernel
theorem dL_ground_215 : decode cL_ground 215 = .ok (.aconst_null, 1) := by decide +kernel
theorem dL_ground_216 : decode cL_ground 216 = .ok (.areturn, 1) := by decide +kernel
theorem dL_ground_217 : decode cL_ground 217 = .ok (.goto 142, 3) := by decide +kernel
theorem dL_ground_220 : decode cL_ground 220 = .ok (.iload 5, 2) := by decide +kernel
theorem dL_ground_222 : decode cL_ground 222 = .ok (.iconst 2, 1) := by decide +kernel
theorem dL_ground_223 : decode cL_ground 223 = .ok (.ishr, 1) := by decide +kernel
theorem dL_ground_224 : decode cL_ground 224 = .ok (.iconst 4, 1) := by decide +kernel
theorem dL_ground_225 : decode cL_ground 225 = .ok (.invokestatic 15, 3) := by decide +kernel
theorem dL_ground_228 : decode cL_ground 228 = .ok (.istore 10, 2) := by decide +kernel
theorem dL_ground_230 : decode cL_ground 230 = .ok (.iload 5, 2) := by decide +kernel
theorem dL_ground_232 : decode cL_ground 232 = .ok (.bipush 6, 2) := by decide +kernel
theorem dL_ground_234 : decode cL_ground 234 = .ok (.ishr, 1) := by decide +kernel
end
section
theorem dL_ground_235 : decode cL_ground 235 = .ok (.iconst 3, 1) := by decide +kernel
theorem dL_ground_236 : decode cL_ground 236 = .ok (.invokestatic 15, 3) := by decide +kernel
theorem dL_ground_239 : decode cL_ground 239 = .ok (.ifCond .ne 7, 3) := by decide +kernel
theorem dL_ground_242 : decode cL_ground 242 = .ok (.iconst 1, 1) := by decide +kernel
theorem dL_ground_243 : decode cL_ground 243 = .ok (.goto 4, 3) := by decide +kernel
theorem dL_ground_246 : decode cL_ground 246 = .ok (.iconst 0, 1) := by decide +kernel
theorem dL_ground_247 : decode cL_ground 247 = .ok (.istore 11, 2) := by decide +kernel
theorem dL_ground_249 : decode cL_ground 249 = .ok (.iload 8, 2) := by decide +kernel
theorem dL_ground_251 : decode cL_ground 251 = .ok (.istore 12, 2) := by decide +kernel
theorem dL_ground_253 : decode cL_ground 253 = .ok (.iload 12, 2) := by decide +kernel
theorem dL_ground_255 : decode cL_ground 255 = .ok (.iload 9, 2) := by decide +kernel
theorem dL_ground_257 : decode cL_ground 257 = .ok (.if_icmp .gt 66, 3) := by decide +kernel
theorem dL_ground_260 : decode cL_ground 260 = .ok (.iload 6, 2) := by decide +kernel
theorem dL_ground_262 : decode cL_ground 262 = .ok (.istore 13, 2) := by decide +kernel
theorem dL_ground_264 : decode cL_ground 264 = .ok (.iload 13, 2) := by decide +kernel
theorem dL_ground_266 : decode cL_ground 266 = .ok (.iload 7, 2) := by decide +kernel
theorem dL_ground_268 : decode cL_ground 268 = .ok (.if_icmp .gt 49, 3) := by decide +kernel
theorem dL_ground_271 : decode cL_ground 271 = .ok (.aload_n 3, 1) := by decide +kernel
theorem dL_ground_272 : decode cL_ground 272 = .ok (.sipush 576, 3) := by decide +kernel
theorem dL_ground_275 : decode cL_ground 275 = .ok (.bipush 24, 2) := by decide +kernel
theorem dL_ground_277 : decode cL_ground 277 = .ok (.iload 12, 2) := by decide +kernel
theorem dL_ground_279 : decode cL_ground 279 = .ok (.imul, 1) := by decide +kernel
theorem dL_ground_280 : decode cL_ground 280 = .ok (.iadd, 1) := by decide +kernel
theorem dL_ground_281 : decode cL_ground 281 = .ok (.iload 13, 2) := by decide +kernel
theorem dL_ground_283 : decode cL_ground 283 = .ok (.iadd, 1) := by decide +kernel
theorem dL_ground_284 : decode cL_ground 284 = .ok (.iload 10, 2) := by decide +kernel
theorem dL_ground_286 : decode cL_ground 286 = .ok (.iastore, 1) := by decide +kernel
theorem dL_ground_287 : decode cL_ground 287 = .ok (.aload_n 3, 1) := by decide +kernel
theorem dL_ground_288 : decode cL_ground 288 = .ok (.sipush 1152, 3) := by decide +kernel
theorem dL_ground_291 : decode cL_ground 291 = .ok (.bipush 24, 2) := by decide +kernel
theorem dL_ground_293 : decode cL_ground 293 = .ok (.iload 12, 2) := by decide +kernel
theorem dL_ground_295 : decode cL_ground 295 = .ok (.imul, 1) := by decide +kernel
theorem dL_ground_296 : decode cL_ground 296 = .ok (.iadd, 1) := by decide +kernel
theorem dL_ground_297 : decode cL_ground 297 = .ok (.iload 13, 2) := by decide +kernel
theorem dL_ground_299 : decode cL_ground 299 = .ok (.iadd, 1) := by decide +kernel
theorem dL_ground_300 : decode cL_ground 300 = .ok (.iload 11, 2) := by decide +kernel
theorem dL_ground_302 : decode cL_ground 302 = .ok (.ifCond .eq 7, 3) := by decide +kernel
theorem dL_ground_305 : decode cL_ground 305 = .ok (.iconst 1, 1) := by decide +kernel
theorem dL_ground_306 : decode cL_ground 306 = .ok (.goto 4, 3) := by decide +kernel
theorem dL_ground_309 : decode cL_ground 309 = .ok (.iconst 0, 1) := by decide +kernel
theorem dL_ground_310 : decode cL_ground 310 = .ok (.iastore, 1) := by decide +kernel
theorem dL_ground_311 : decode cL_ground 311 = .ok (.iinc 13 1, 3) := by decide +kernel
theorem dL_ground_314 : decode cL_ground 314 = .ok (.goto (-50), 3) := by decide +kernel
theorem dL_ground_317 : decode cL_ground 317 = .ok (.iinc 12 1, 3) := by decide +kernel
theorem dL_ground_320 : decode cL_ground 320 = .ok (.goto (-67), 3) := by decide +kernel
theorem dL_ground_323 : decode cL_ground 323 = .ok (.aload_n 0, 1) := by decide +kernel
theorem dL_ground_324 : decode cL_ground 324 = .ok (.iload 6, 2) := by decide +kernel
theorem dL_ground_326 : decode cL_ground 326 = .ok (.iload 7, 2) := by decide +kernel
theorem dL_ground_328 : decode cL_ground 328 = .ok (.iload 8, 2) := by decide +kernel
theorem dL_ground_330 : decode cL_ground 330 = .ok (.iload 9, 2) := by decide +kernel
theorem dL_ground_332 : decode cL_ground 332 = .ok (.iload 10, 2) := by decide +kernel
theorem dL_ground_334 : decode cL_ground 334 = .ok (.iload 11, 2) := by decide +kernel
theorem dL_ground_336 : decode cL_ground 336 = .ok (.invokevirtual 33, 3) := by decide +kernel
theorem dL_ground_339 : decode cL_ground 339 = .ok (.iload 7, 2) := by decide +kernel
theorem dL_ground_341 : decode cL_ground 341 = .ok (.iload 6, 2) := by decide +kernel
theorem dL_ground_343 : decode cL_ground 343 = .ok (.isub, 1) := by decide +kernel
theorem dL_ground_344 : decode cL_ground 344 = .ok (.iconst 1, 1) := by decide +kernel
theorem dL_ground_345 : decode cL_ground 345 = .ok (.iadd, 1) := by decide +kernel
theorem dL_ground_346 : decode cL_ground 346 = .ok (.iload 9, 2) := by decide +kernel
theorem dL_ground_348 : decode cL_ground 348 = .ok (.iload 8, 2) := by decide +kernel
theorem dL_ground_350 : decode cL_ground 350 = .ok (.isub, 1) := by decide +kernel
theorem dL_ground_351 : decode cL_ground 351 = .ok (.iconst 1, 1) := by decide +kernel
theorem dL_ground_352 : decode cL_ground 352 = .ok (.iadd, 1) := by decide +kernel
theorem dL_ground_353 : decode cL_ground 353 = .ok (.imul, 1) := by decide +kernel
theorem dL_ground_354 : decode cL_ground 354 = .ok (.if_icmp .eq 5, 3) := by decide +kernel
theorem dL_ground_357 : decode cL_ground 357 = .ok (.aconst_null, 1) := by decide +kernel
theorem dL_ground_358 : decode cL_ground 358 = .ok (.areturn, 1) := by decide +kernel
theorem dL_ground_359 : decode cL_ground 359 = .ok (.iinc 4 1, 3) := by decide +kernel
theorem dL_ground_362 : decode cL_ground 362 = .ok (.goto (-346), 3) := by decide +kernel
theorem dL_ground_365 : decode cL_ground 365 = .ok (.aload_n 1, 1) := by decide +kernel
theorem dL_ground_366 : decode cL_ground 366 = .ok (.iload_n 2, 1) := by decide +kernel
theorem dL_ground_367 : decode cL_ground 367 = .ok (.invokestatic 9, 3) := by decide +kernel
theorem dL_ground_370 : decode cL_ground 370 = .ok (.iconst 3, 1) := by decide +kernel
theorem dL_ground_371 : decode cL_ground 371 = .ok (.invokestatic 15, 3) := by decide +kernel
theorem dL_ground_374 : decode cL_ground 374 = .ok (.ifCond .ne 36, 3) := by decide +kernel
theorem dL_ground_377 : decode cL_ground 377 = .ok (.aload_n 3, 1) := by decide +kernel
theorem dL_ground_378 : decode cL_ground 378 = .ok (.sipush 1728, 3) := by decide +kernel
theorem dL_ground_381 : decode cL_ground 381 = .ok (.aload_n 1, 1) := by decide +kernel
theorem dL_ground_382 : decode cL_ground 382 = .ok (.iload_n 2, 1) := by decide +kernel
theorem dL_ground_383 : decode cL_ground 383 = .ok (.invokestatic 9, 3) := by decide +kernel
theorem dL_ground_386 : decode cL_ground 386 = .ok (.iconst 4, 1) := by decide +kernel
theorem dL_ground_387 : decode cL_ground 387 = .ok (.ishr, 1) := by decide +kernel
theorem dL_ground_388 : decode cL_ground 388 = .ok (.bipush 15, 2) := by decide +kernel
theorem dL_ground_390 : decode cL_ground 390 = .ok (.invokestatic 15, 3) := by decide +kernel
theorem dL_ground_393 : decode cL_ground 393 = .ok (.iastore, 1) := by decide +kernel
theorem dL_ground_394 : decode cL_ground 394 = .ok (.aload_n 0, 1) := by decide +kernel
theorem dL_ground_395 : decode cL_ground 395 = .ok (.aload_n 3, 1) := by decide +kernel
theorem dL_ground_396 : decode cL_ground 396 = .ok (.sipush 1728, 3) := by decide +kernel
theorem dL_ground_399 : decode cL_ground 399 = .ok (.iaload, 1) := by decide +kernel
theorem dL_ground_400 : decode cL_ground 400 = .ok (.invokevirtual 37, 3) := by decide +kernel
theorem dL_ground_403 : decode cL_ground 403 = .ok (.bipush 12, 2) := by decide +kernel
theorem dL_ground_405 : decode cL_ground 405 = .ok (.if_icmp .eq 5, 3) := by decide +kernel
theorem dL_ground_408 : decode cL_ground 408 = .ok (.aconst_null, 1) := by decide +kernel
theorem dL_ground_409 : decode cL_ground 409 = .ok (.areturn, 1) := by decide +kernel
theorem dL_ground_410 : decode cL_ground 410 = .ok (.aload_n 3, 1) := by decide +kernel
theorem dL_ground_411 : decode cL_ground 411 = .ok (.areturn, 1) := by decide +kernel
theorem dL_step_0 : decode cL_step 0 = .ok (.iload_n 1, 1) := by decide +kernel
theorem dL_step_1 : decode cL_step 1 = .ok (.getstatic 41, 3) := by decide +kernel
theorem dL_step_4 : decode cL_step 4 = .ok (.iload_n 3, 1) := by decide +kernel
theorem dL_step_5 : decode cL_step 5 = .ok (.iaload, 1) := by decide +kernel
theorem dL_step_6 : decode cL_step 6 = .ok (.iadd, 1) := by decide +kernel
theorem dL_step_7 : decode cL_step 7 = .ok (.istore 4, 2) := by decide +kernel
theorem dL_step_9 : decode cL_step 9 = .ok (.iload_n 2, 1) := by decide +kernel
theorem dL_step_10 : decode cL_step 10 = .ok (.getstatic 45, 3) := by decide +kernel
theorem dL_step_13 : decode cL_step 13 = .ok (.iload_n 3, 1) := by decide +kernel
theorem dL_step_14 : decode cL_step 14 = .ok (.iaload, 1) := by decide +kernel
theorem dL_step_15 : decode cL_step 15 = .ok (.iadd, 1) := by decide +kernel
theorem dL_step_16 : decode cL_step 16 = .ok (.istore 5, 2) := by decide +kernel
theorem dL_step_18 : decode cL_step 18 = .ok (.iload 4, 2) := by decide +kernel
theorem dL_step_20 : decode cL_step 20 = .ok (.ifCond .lt 40, 3) := by decide +kernel
theorem dL_step_23 : decode cL_step 23 = .ok (.iload 4, 2) := by decide +kernel
theorem dL_step_25 : decode cL_step 25 = .ok (.bipush 23, 2) := by decide +kernel
theorem dL_step_27 : decode cL_step 27 = .ok (.if_icmp .gt 33, 3) := by decide +kernel
theorem dL_step_30 : decode cL_step 30 = .ok (.iload 5, 2) := by decide +kernel
theorem dL_step_32 : decode cL_step 32 = .ok (.ifCond .lt 28, 3) := by decide +kernel
theorem dL_step_35 : decode cL_step 35 = .ok (.iload 5, 2) := by decide +kernel
theorem dL_step_37 : decode cL_step 37 = .ok (.bipush 23, 2) := by decide +kernel
theorem dL_step_39 : decode cL_step 39 = .ok (.if_icmp .gt 21, 3) := by decide +kernel
theorem dL_step_42 : decode cL_step 42 = .ok (.aload_n 0, 1) := by decide +kernel
theorem dL_step_43 : decode cL_step 43 = .ok (.sipush 1152, 3) := by decide +kernel
theorem dL_step_46 : decode cL_step 46 = .ok (.bipush 24, 2) := by decide +kernel
theorem dL_step_48 : decode cL_step 48 = .ok (.iload 5, 2) := by decide +kernel
theorem dL_step_50 : decode cL_step 50 = .ok (.imul, 1) := by decide +kernel
theorem dL_step_51 : decode cL_step 51 = .ok (.iadd, 1) := by decide +kernel
theorem dL_step_52 : decode cL_step 52 = .ok (.iload 4, 2) := by decide +kernel
theorem dL_step_54 : decode cL_step 54 = .ok (.iadd, 1) := by decide +kernel
theorem dL_step_55 : decode cL_step 55 = .ok (.iaload, 1) := by decide +kernel
theorem dL_step_56 : decode cL_step 56 = .ok (.iconst 1, 1) := by decide +kernel
theorem dL_step_57 : decode cL_step 57 = .ok (.if_icmp .ne 5, 3) := by decide +kernel
theorem dL_step_60 : decode cL_step 60 = .ok (.iconst 0, 1) := by decide +kernel
theorem dL_step_61 : decode cL_step 61 = .ok (.ireturn, 1) := by decide +kernel
theorem dL_step_62 : decode cL_step 62 = .ok (.getstatic 41, 3) := by decide +kernel
theorem dL_step_65 : decode cL_step 65 = .ok (.iload_n 3, 1) := by decide +kernel
theorem dL_step_66 : decode cL_step 66 = .ok (.iaload, 1) := by decide +kernel
theorem dL_step_67 : decode cL_step 67 = .ok (.ifCond .eq 47, 3) := by decide +kernel
theorem dL_step_70 : decode cL_step 70 = .ok (.getstatic 45, 3) := by decide +kernel
theorem dL_step_73 : decode cL_step 73 = .ok (.iload_n 3, 1) := by decide +kernel
theorem dL_step_74 : decode cL_step 74 = .ok (.iaload, 1) := by decide +kernel
theorem dL_step_75 : decode cL_step 75 = .ok (.ifCond .eq 39, 3) := by decide +kernel
theorem dL_step_78 : decode cL_step 78 = .ok (.aload_n 0, 1) := by decide +kernel
theorem dL_step_79 : decode cL_step 79 = .ok (.sipush 1152, 3) := by decide +kernel
theorem dL_step_82 : decode cL_step 82 = .ok (.bipush 24, 2) := by decide +kernel
theorem dL_step_84 : decode cL_step 84 = .ok (.iload_n 2, 1) := by decide +kernel
theorem dL_step_85 : decode cL_step 85 = .ok (.imul, 1) := by decide +kernel
theorem dL_step_86 : decode cL_step 86 = .ok (.iadd, 1) := by decide +kernel
theorem dL_step_87 : decode cL_step 87 = .ok (.iload 4, 2) := by decide +kernel
theorem dL_step_89 : decode cL_step 89 = .ok (.iadd, 1) := by decide +kernel
theorem dL_step_90 : decode cL_step 90 = .ok (.iaload, 1) := by decide +kernel
theorem dL_step_91 : decode cL_step 91 = .ok (.iconst 1, 1) := by decide +kernel
theorem dL_step_92 : decode cL_step 92 = .ok (.if_icmp .eq 20, 3) := by decide +kernel
theorem dL_step_95 : decode cL_step 95 = .ok (.aload_n 0, 1) := by decide +kernel
theorem dL_step_96 : decode cL_step 96 = .ok (.sipush 1152, 3) := by decide +kernel
theorem dL_step_99 : decode cL_step 99 = .ok (.bipush 24, 2) := by decide +kernel
theorem dL_step_101 : decode cL_step 101 = .ok (.iload 5, 2) := by decide +kernel
theorem dL_step_103 : decode cL_step 103 = .ok (.imul, 1) := by decide +kernel
theorem dL_step_104 : decode cL_step 104 = .ok (.iadd, 1) := by decide +kernel
theorem dL_step_105 : decode cL_step 105 = .ok (.iload_n 1, 1) := by decide +kernel
theorem dL_step_106 : decode cL_step 106 = .ok (.iadd, 1) := by decide +kernel
theorem dL_step_107 : decode cL_step 107 = .ok (.iaload, 1) := by decide +kernel
theorem dL_step_108 : decode cL_step 108 = .ok (.iconst 1, 1) := by decide +kernel
theorem dL_step_109 : decode cL_step 109 = .ok (.if_icmp .ne 5, 3) := by decide +kernel
theorem dL_step_112 : decode cL_step 112 = .ok (.iconst 0, 1) := by decide +kernel
theorem dL_step_113 : decode cL_step 113 = .ok (.ireturn, 1) := by decide +kernel
theorem dL_step_114 : decode cL_step 114 = .ok (.aload_n 0, 1) := by decide +kernel
theorem dL_step_115 : decode cL_step 115 = .ok (.bipush 24, 2) := by decide +kernel
theorem dL_step_117 : decode cL_step 117 = .ok (.iload 5, 2) := by decide +kernel
theorem dL_step_119 : decode cL_step 119 = .ok (.imul, 1) := by decide +kernel
theorem dL_step_120 : decode cL_step 120 = .ok (.iload 4, 2) := by decide +kernel
theorem dL_step_122 : decode cL_step 122 = .ok (.iadd, 1) := by decide +kernel
theorem dL_step_123 : decode cL_step 123 = .ok (.iaload, 1) := by decide +kernel
theorem dL_step_124 : decode cL_step 124 = .ok (.aload_n 0, 1) := by decide +kernel
theorem dL_step_125 : decode cL_step 125 = .ok (.bipush 24, 2) := by decide +kernel
theorem dL_step_127 : decode cL_step 127 = .ok (.iload_n 2, 1) := by decide +kernel
theorem dL_step_128 : decode cL_step 128 = .ok (.imul, 1) := by decide +kernel
theorem dL_step_129 : decode cL_step 129 = .ok (.iload_n 1, 1) := by decide +kernel
theorem dL_step_130 : decode cL_step 130 = .ok (.iadd, 1) := by decide +kernel
theorem dL_step_131 : decode cL_step 131 = .ok (.iaload, 1) := by decide +kernel
theorem dL_step_132 : decode cL_step 132 = .ok (.isub, 1) := by decide +kernel
theorem dL_step_133 : decode cL_step 133 = .ok (.istore 6, 2) := by decide +kernel
theorem dL_step_135 : decode cL_step 135 = .ok (.iload 6, 2) := by decide +kernel
theorem dL_step_137 : decode cL_step 137 = .ok (.aload_n 0, 1) := by decide +kernel
theorem dL_step_138 : decode cL_step 138 = .ok (.sipush 1728, 3) := by decide +kernel
theorem dL_step_141 : decode cL_step 141 = .ok (.iaload, 1) := by decide +kernel
theorem dL_step_142 : decode cL_step 142 = .ok (.if_icmp .gt 14, 3) := by decide +kernel
theorem dL_step_145 : decode cL_step 145 = .ok (.iload 6, 2) := by decide +kernel
theorem dL_step_147 : decode cL_step 147 = .ok (.ineg, 1) := by decide +kernel
theorem dL_step_148 : decode cL_step 148 = .ok (.aload_n 0, 1) := by decide +kernel
theorem dL_step_149 : decode cL_step 149 = .ok (.sipush 1728, 3) := by decide +kernel
theorem dL_step_152 : decode cL_step 152 = .ok (.iaload, 1) := by decide +kernel
theorem dL_step_153 : decode cL_step 153 = .ok (.if_icmp .le 5, 3) := by decide +kernel
theorem dL_step_156 : decode cL_step 156 = .ok (.iconst 0, 1) := by decide +kernel
theorem dL_step_157 : decode cL_step 157 = .ok (.ireturn, 1) := by decide +kernel
theorem dL_step_158 : decode cL_step 158 = .ok (.getstatic 41, 3) := by decide +kernel
theorem dL_step_161 : decode cL_step 161 = .ok (.iload_n 3, 1) := by decide +kernel
theorem dL_step_162 : decode cL_step 162 = .ok (.iaload, 1) := by decide +kernel
theorem dL_step_163 : decode cL_step 163 = .ok (.ifCond .eq 15, 3) := by decide +kernel
theorem dL_step_166 : decode cL_step 166 = .ok (.getstatic 45, 3) := by decide +kernel
theorem dL_step_169 : decode cL_step 169 = .ok (.iload_n 3, 1) := by decide +kernel
theorem dL_step_170 : decode cL_step 170 = .ok (.iaload, 1) := by decide +kernel
theorem dL_step_171 : decode cL_step 171 = .ok (.ifCond .eq 7, 3) := by decide +kernel
theorem dL_step_174 : decode cL_step 174 = .ok (.iconst 3, 1) := by decide +kernel
theorem dL_step_175 : decode cL_step 175 = .ok (.goto 4, 3) := by decide +kernel
theorem dL_step_178 : decode cL_step 178 = .ok (.iconst 2, 1) := by decide +kernel
theorem dL_step_179 : decode cL_step 179 = .ok (.iconst 2, 1) := by decide +kernel
theorem dL_step_180 : decode cL_step 180 = .ok (.aload_n 0, 1) := by decide +kernel
theorem dL_step_181 : decode cL_step 181 = .ok (.sipush 576, 3) := by decide +kernel
theorem dL_step_184 : decode cL_step 184 = .ok (.bipush 24, 2) := by decide +kernel
theorem dL_step_186 : decode cL_step 186 = .ok (.iload 5, 2) := by decide +kernel
theorem dL_step_188 : decode cL_step 188 = .ok (.imul, 1) := by decide +kernel
theorem dL_step_189 : decode cL_step 189 = .ok (.iadd, 1) := by decide +kernel
theorem dL_step_190 : decode cL_step 190 = .ok (.iload 4, 2) := by decide +kernel
theorem dL_step_192 : decode cL_step 192 = .ok (.iadd, 1) := by decide +kernel
theorem dL_step_193 : decode cL_step 193 = .ok (.iaload, 1) := by decide +kernel
theorem dL_step_194 : decode cL_step 194 = .ok (.iadd, 1) := by decide +kernel
theorem dL_step_195 : decode cL_step 195 = .ok (.imul, 1) := by decide +kernel
theorem dL_step_196 : decode cL_step 196 = .ok (.iload 6, 2) := by decide +kernel
theorem dL_step_198 : decode cL_step 198 = .ok (.ifCond .le 10, 3) := by decide +kernel
theorem dL_step_201 : decode cL_step 201 = .ok (.iload 6, 2) := by decide +kernel
theorem dL_step_203 : decode cL_step 203 = .ok (.iconst 3, 1) := by decide +kernel
theorem dL_step_204 : decode cL_step 204 = .ok (.idiv, 1) := by decide +kernel
theorem dL_step_205 : decode cL_step 205 = .ok (.goto 4, 3) := by decide +kernel
theorem dL_step_208 : decode cL_step 208 = .ok (.iconst 0, 1) := by decide +kernel
theorem dL_step_209 : decode cL_step 209 = .ok (.iadd, 1) := by decide +kernel
theorem dL_step_210 : decode cL_step 210 = .ok (.ireturn, 1) := by decide +kernel
theorem dL_costs_0 : decode cL_costs 0 = .ok (.sipush 576, 3) := by decide +kernel
theorem dL_costs_3 : decode cL_costs 3 = .ok (.newarray .int, 2) := by decide +kernel
theorem dL_costs_5 : decode cL_costs 5 = .ok (.astore_n 3, 1) := by decide +kernel
theorem dL_costs_6 : decode cL_costs 6 = .ok (.iconst 0, 1) := by decide +kernel
theorem dL_costs_7 : decode cL_costs 7 = .ok (.istore 4, 2) := by decide +kernel
theorem dL_costs_9 : decode cL_costs 9 = .ok (.iload 4, 2) := by decide +kernel
theorem dL_costs_11 : decode cL_costs 11 = .ok (.sipush 576, 3) := by decide +kernel
theorem dL_costs_14 : decode cL_costs 14 = .ok (.if_icmp .ge 14, 3) := by decide +kernel
theorem dL_costs_17 : decode cL_costs 17 = .ok (.aload_n 3, 1) := by decide +kernel
theorem dL_costs_18 : decode cL_costs 18 = .ok (.iload 4, 2) := by decide +kernel
theorem dL_costs_20 : decode cL_costs 20 = .ok (.iconst (-1), 1) := by decide +kernel
theorem dL_costs_21 : decode cL_costs 21 = .ok (.iastore, 1) := by decide +kernel
theorem dL_costs_22 : decode cL_costs 22 = .ok (.iinc 4 1, 3) := by decide +kernel
theorem dL_costs_25 : decode cL_costs 25 = .ok (.goto (-16), 3) := by decide +kernel
theorem dL_costs_28 : decode cL_costs 28 = .ok (.aload_n 3, 1) := by decide +kernel
theorem dL_costs_29 : decode cL_costs 29 = .ok (.bipush 24, 2) := by decide +kernel
theorem dL_costs_31 : decode cL_costs 31 = .ok (.iload_n 2, 1) := by decide +kernel
theorem dL_costs_32 : decode cL_costs 32 = .ok (.imul, 1) := by decide +kernel
theorem dL_costs_33 : decode cL_costs 33 = .ok (.iload_n 1, 1) := by decide +kernel
theorem dL_costs_34 : decode cL_costs 34 = .ok (.iadd, 1) := by decide +kernel
theorem dL_costs_35 : decode cL_costs 35 = .ok (.iconst 0, 1) := by decide +kernel
theorem dL_costs_36 : decode cL_costs 36 = .ok (.iastore, 1) := by decide +kernel
theorem dL_costs_37 : decode cL_costs 37 = .ok (.iconst 1, 1) := by decide +kernel
theorem dL_costs_38 : decode cL_costs 38 = .ok (.istore 4, 2) := by decide +kernel
theorem dL_costs_40 : decode cL_costs 40 = .ok (.iload 4, 2) := by decide +kernel
theorem dL_costs_42 : decode cL_costs 42 = .ok (.ifCond .eq 130, 3) := by decide +kernel
theorem dL_costs_45 : decode cL_costs 45 = .ok (.iconst 0, 1) := by decide +kernel
theorem dL_costs_46 : decode cL_costs 46 = .ok (.istore 4, 2) := by decide +kernel
theorem dL_costs_48 : decode cL_costs 48 = .ok (.iconst 0, 1) := by decide +kernel
theorem dL_costs_49 : decode cL_costs 49 = .ok (.istore 5, 2) := by decide +kernel
theorem dL_costs_51 : decode cL_costs 51 = .ok (.iload 5, 2) := by decide +kernel
theorem dL_costs_53 : decode cL_costs 53 = .ok (.sipush 576, 3) := by decide +kernel
theorem dL_costs_56 : decode cL_costs 56 = .ok (.if_icmp .ge 113, 3) := by decide +kernel
theorem dL_costs_59 : decode cL_costs 59 = .ok (.iconst 0, 1) := by decide +kernel
theorem dL_costs_60 : decode cL_costs 60 = .ok (.istore 6, 2) := by decide +kernel
theorem dL_costs_62 : decode cL_costs 62 = .ok (.iload 6, 2) := by decide +kernel
theorem dL_costs_64 : decode cL_costs 64 = .ok (.bipush 8, 2) := by decide +kernel
theorem dL_costs_66 : decode cL_costs 66 = .ok (.if_icmp .ge 97, 3) := by decide +kernel
theorem dL_costs_69 : decode cL_costs 69 = .ok (.aload_n 0, 1) := by decide +kernel
theorem dL_costs_70 : decode cL_costs 70 = .ok (.iload 5, 2) := by decide +kernel
theorem dL_costs_72 : decode cL_costs 72 = .ok (.bipush 24, 2) := by decide +kernel
theorem dL_costs_74 : decode cL_costs 74 = .ok (.irem, 1) := by decide +kernel
theorem dL_costs_75 : decode cL_costs 75 = .ok (.iload 5, 2) := by decide +kernel
theorem dL_costs_77 : decode cL_costs 77 = .ok (.bipush 24, 2) := by decide +kernel
theorem dL_costs_79 : decode cL_costs 79 = .ok (.idiv, 1) := by decide +kernel
theorem dL_costs_80 : decode cL_costs 80 = .ok (.iload 6, 2) := by decide +kernel
theorem dL_costs_82 : decode cL_costs 82 = .ok (.invokestatic 48, 3) := by decide +kernel
theorem dL_costs_85 : decode cL_costs 85 = .ok (.istore 7, 2) := by decide +kernel
theorem dL_costs_87 : decode cL_costs 87 = .ok (.iload 7, 2) := by decide +kernel
theorem dL_costs_89 : decode cL_costs 89 = .ok (.ifCond .ne 6, 3) := by decide +kernel
theorem dL_costs_92 : decode cL_costs 92 = .ok (.goto 65, 3) := by decide +kernel
theorem dL_costs_95 : decode cL_costs 95 = .ok (.aload_n 3, 1) := by decide +kernel
theorem dL_costs_96 : decode cL_costs 96 = .ok (.iload 5, 2) := by decide +kernel
theorem dL_costs_98 : decode cL_costs 98 = .ok (.getstatic 41, 3) := by decide +kernel
theorem dL_costs_101 : decode cL_costs 101 = .ok (.iload 6, 2) := by decide +kernel
theorem dL_costs_103 : decode cL_costs 103 = .ok (.iaload, 1) := by decide +kernel
theorem dL_costs_104 : decode cL_costs 104 = .ok (.iadd, 1) := by decide +kernel
theorem dL_costs_105 : decode cL_costs 105 = .ok (.bipush 24, 2) := by decide +kernel
theorem dL_costs_107 : decode cL_costs 107 = .ok (.getstatic 45, 3) := by decide +kernel
theorem dL_costs_110 : decode cL_costs 110 = .ok (.iload 6, 2) := by decide +kernel
theorem dL_costs_112 : decode cL_costs 112 = .ok (.iaload, 1) := by decide +kernel
theorem dL_costs_113 : decode cL_costs 113 = .ok (.imul, 1) := by decide +kernel
theorem dL_costs_114 : decode cL_costs 114 = .ok (.iadd, 1) := by decide +kernel
theorem dL_costs_115 : decode cL_costs 115 = .ok (.iaload, 1) := by decide +kernel
theorem dL_costs_116 : decode cL_costs 116 = .ok (.istore 8, 2) := by decide +kernel
theorem dL_costs_118 : decode cL_costs 118 = .ok (.iload 8, 2) := by decide +kernel
theorem dL_costs_120 : decode cL_costs 120 = .ok (.ifCond .lt 37, 3) := by decide +kernel
theorem dL_costs_123 : decode cL_costs 123 = .ok (.aload_n 3, 1) := by decide +kernel
theorem dL_costs_124 : decode cL_costs 124 = .ok (.iload 5, 2) := by decide +kernel
theorem dL_costs_126 : decode cL_costs 126 = .ok (.iaload, 1) := by decide +kernel
theorem dL_costs_127 : decode cL_costs 127 = .ok (.ifCond .lt 18, 3) := by decide +kernel
theorem dL_costs_130 : decode cL_costs 130 = .ok (.aload_n 3, 1) := by decide +kernel
theorem dL_costs_131 : decode cL_costs 131 = .ok (.iload 5, 2) := by decide +kernel
theorem dL_costs_133 : decode cL_costs 133 = .ok (.iaload, 1) := by decide +kernel
theorem dL_costs_134 : decode cL_costs 134 = .ok (.iload 8, 2) := by decide +kernel
theorem dL_costs_136 : decode cL_costs 136 = .ok (.iload 7, 2) := by decide +kernel
theorem dL_costs_138 : decode cL_costs 138 = .ok (.iadd, 1) := by decide +kernel
theorem dL_costs_139 : decode cL_costs 139 = .ok (.if_icmp .gt 6, 3) := by decide +kernel
theorem dL_costs_142 : decode cL_costs 142 = .ok (.goto 15, 3) := by decide +kernel
theorem dL_costs_145 : decode cL_costs 145 = .ok (.aload_n 3, 1) := by decide +kernel
theorem dL_costs_146 : decode cL_costs 146 = .ok (.iload 5, 2) := by decide +kernel
theorem dL_costs_148 : decode cL_costs 148 = .ok (.iload 8, 2) := by decide +kernel
theorem dL_costs_150 : decode cL_costs 150 = .ok (.iload 7, 2) := by decide +kernel
theorem dL_costs_152 : decode cL_costs 152 = .ok (.iadd, 1) := by decide +kernel
theorem dL_costs_153 : decode cL_costs 153 = .ok (.iastore, 1) := by decide +kernel
theorem dL_costs_154 : decode cL_costs 154 = .ok (.iconst 1, 1) := by decide +kernel
theorem dL_costs_155 : decode cL_costs 155 = .ok (.istore 4, 2) := by decide +kernel
theorem dL_costs_157 : decode cL_costs 157 = .ok (.iinc 6 1, 3) := by decide +kernel
theorem dL_costs_160 : decode cL_costs 160 = .ok (.goto (-98), 3) := by decide +kernel
theorem dL_costs_163 : decode cL_costs 163 = .ok (.iinc 5 1, 3) := by decide +kernel
theorem dL_costs_166 : decode cL_costs 166 = .ok (.goto (-115), 3) := by decide +kernel
theorem dL_costs_169 : decode cL_costs 169 = .ok (.goto (-129), 3) := by decide +kernel
theorem dL_costs_172 : decode cL_costs 172 = .ok (.aload_n 3, 1) := by decide +kernel
theorem dL_costs_173 : decode cL_costs 173 = .ok (.areturn, 1) := by decide +kernel
theorem dL_next_0 : decode cL_next 0 = .ok (.iconst 0, 1) := by decide +kernel
theorem dL_next_1 : decode cL_next 1 = .ok (.istore 4, 2) := by decide +kernel
theorem dL_next_3 : decode cL_next 3 = .ok (.iload 4, 2) := by decide +kernel
theorem dL_next_5 : decode cL_next 5 = .ok (.bipush 8, 2) := by decide +kernel
theorem dL_next_7 : decode cL_next 7 = .ok (.if_icmp .ge 88, 3) := by decide +kernel
theorem dL_next_10 : decode cL_next 10 = .ok (.aload_n 0, 1) := by decide +kernel
theorem dL_next_11 : decode cL_next 11 = .ok (.iload_n 2, 1) := by decide +kernel
theorem dL_next_12 : decode cL_next 12 = .ok (.iload_n 3, 1) := by decide +kernel
theorem dL_next_13 : decode cL_next 13 = .ok (.iload 4, 2) := by decide +kernel
theorem dL_next_15 : decode cL_next 15 = .ok (.invokestatic 48, 3) := by decide +kernel
theorem dL_next_18 : decode cL_next 18 = .ok (.istore 5, 2) := by decide +kernel
theorem dL_next_20 : decode cL_next 20 = .ok (.iload 5, 2) := by decide +kernel
theorem dL_next_22 : decode cL_next 22 = .ok (.ifCond .le 67, 3) := by decide +kernel
theorem dL_next_25 : decode cL_next 25 = .ok (.aload_n 1, 1) := by decide +kernel
theorem dL_next_26 : decode cL_next 26 = .ok (.bipush 24, 2) := by decide +kernel
theorem dL_next_28 : decode cL_next 28 = .ok (.iload_n 3, 1) := by decide +kernel
theorem dL_next_29 : decode cL_next 29 = .ok (.getstatic 45, 3) := by decide +kernel
theorem dL_next_32 : decode cL_next 32 = .ok (.iload 4, 2) := by decide +kernel
theorem dL_next_34 : decode cL_next 34 = .ok (.iaload, 1) := by decide +kernel
theorem dL_next_35 : decode cL_next 35 = .ok (.iadd, 1) := by decide +kernel
theorem dL_next_36 : decode cL_next 36 = .ok (.imul, 1) := by decide +kernel
theorem dL_next_37 : decode cL_next 37 = .ok (.iload_n 2, 1) := by decide +kernel
theorem dL_next_38 : decode cL_next 38 = .ok (.iadd, 1) := by decide +kernel
theorem dL_next_39 : decode cL_next 39 = .ok (.getstatic 41, 3) := by decide +kernel
theorem dL_next_42 : decode cL_next 42 = .ok (.iload 4, 2) := by decide +kernel
theorem dL_next_44 : decode cL_next 44 = .ok (.iaload, 1) := by decide +kernel
theorem dL_next_45 : decode cL_next 45 = .ok (.iadd, 1) := by decide +kernel
theorem dL_next_46 : decode cL_next 46 = .ok (.iaload, 1) := by decide +kernel
theorem dL_next_47 : decode cL_next 47 = .ok (.ifCond .lt 42, 3) := by decide +kernel
theorem dL_next_50 : decode cL_next 50 = .ok (.aload_n 1, 1) := by decide +kernel
theorem dL_next_51 : decode cL_next 51 = .ok (.bipush 24, 2) := by decide +kernel
theorem dL_next_53 : decode cL_next 53 = .ok (.iload_n 3, 1) := by decide +kernel
theorem dL_next_54 : decode cL_next 54 = .ok (.getstatic 45, 3) := by decide +kernel
theorem dL_next_57 : decode cL_next 57 = .ok (.iload 4, 2) := by decide +kernel
theorem dL_next_59 : decode cL_next 59 = .ok (.iaload, 1) := by decide +kernel
theorem dL_next_60 : decode cL_next 60 = .ok (.iadd, 1) := by decide +kernel
theorem dL_next_61 : decode cL_next 61 = .ok (.imul, 1) := by decide +kernel
theorem dL_next_62 : decode cL_next 62 = .ok (.iload_n 2, 1) := by decide +kernel
theorem dL_next_63 : decode cL_next 63 = .ok (.iadd, 1) := by decide +kernel
theorem dL_next_64 : decode cL_next 64 = .ok (.getstatic 41, 3) := by decide +kernel
theorem dL_next_67 : decode cL_next 67 = .ok (.iload 4, 2) := by decide +kernel
theorem dL_next_69 : decode cL_next 69 = .ok (.iaload, 1) := by decide +kernel
theorem dL_next_70 : decode cL_next 70 = .ok (.iadd, 1) := by decide +kernel
theorem dL_next_71 : decode cL_next 71 = .ok (.iaload, 1) := by decide +kernel
theorem dL_next_72 : decode cL_next 72 = .ok (.iload 5, 2) := by decide +kernel
theorem dL_next_74 : decode cL_next 74 = .ok (.iadd, 1) := by decide +kernel
theorem dL_next_75 : decode cL_next 75 = .ok (.aload_n 1, 1) := by decide +kernel
theorem dL_next_76 : decode cL_next 76 = .ok (.bipush 24, 2) := by decide +kernel
theorem dL_next_78 : decode cL_next 78 = .ok (.iload_n 3, 1) := by decide +kernel
theorem dL_next_79 : decode cL_next 79 = .ok (.imul, 1) := by decide +kernel
theorem dL_next_80 : decode cL_next 80 = .ok (.iload_n 2, 1) := by decide +kernel
theorem dL_next_81 : decode cL_next 81 = .ok (.iadd, 1) := by decide +kernel
theorem dL_next_82 : decode cL_next 82 = .ok (.iaload, 1) := by decide +kernel
theorem dL_next_83 : decode cL_next 83 = .ok (.if_icmp .ne 6, 3) := by decide +kernel
theorem dL_next_86 : decode cL_next 86 = .ok (.iload 4, 2) := by decide +kernel
theorem dL_next_88 : decode cL_next 88 = .ok (.ireturn, 1) := by decide +kernel
theorem dL_next_89 : decode cL_next 89 = .ok (.iinc 4 1, 3) := by decide +kernel
theorem dL_next_92 : decode cL_next 92 = .ok (.goto (-89), 3) := by decide +kernel
theorem dL_next_95 : decode cL_next 95 = .ok (.iconst (-1), 1) := by decide +kernel
theorem dL_next_96 : decode cL_next 96 = .ok (.ireturn, 1) := by decide +kernel
theorem dL_energy_0 : decode cL_energy 0 = .ok (.iconst 4, 1) := by decide +kernel
theorem dL_energy_1 : decode cL_energy 1 = .ok (.aload_n 0, 1) := by decide +kernel
theorem dL_energy_2 : decode cL_energy 2 = .ok (.iload_n 1, 1) := by decide +kernel
theorem dL_energy_3 : decode cL_energy 3 = .ok (.iload_n 2, 1) := by decide +kernel
theorem dL_energy_4 : decode cL_energy 4 = .ok (.iload_n 3, 1) := by decide +kernel
theorem dL_energy_5 : decode cL_energy 5 = .ok (.invokestatic 48, 3) := by decide +kernel
theorem dL_energy_8 : decode cL_energy 8 = .ok (.imul, 1) := by decide +kernel
theorem dL_energy_9 : decode cL_energy 9 = .ok (.iconst 2, 1) := by decide +kernel
theorem dL_energy_10 : decode cL_energy 10 = .ok (.iconst 0, 1) := by decide +kernel
theorem dL_energy_11 : decode cL_energy 11 = .ok (.aload_n 0, 1) := by decide +kernel
theorem dL_energy_12 : decode cL_energy 12 = .ok (.bipush 24, 2) := by decide +kernel
theorem dL_energy_14 : decode cL_energy 14 = .ok (.iload_n 2, 1) := by decide +kernel
theorem dL_energy_15 : decode cL_energy 15 = .ok (.getstatic 45, 3) := by decide +kernel
theorem dL_energy_18 : decode cL_energy 18 = .ok (.iload_n 3, 1) := by decide +kernel
theorem dL_energy_19 : decode cL_energy 19 = .ok (.iaload, 1) := by decide +kernel
theorem dL_energy_20 : decode cL_energy 20 = .ok (.iadd, 1) := by decide +kernel
theorem dL_energy_21 : decode cL_energy 21 = .ok (.imul, 1) := by decide +kernel
theorem dL_energy_22 : decode cL_energy 22 = .ok (.iload_n 1, 1) := by decide +kernel
theorem dL_energy_23 : decode cL_energy 23 = .ok (.iadd, 1) := by decide +kernel
theorem dL_energy_24 : decode cL_energy 24 = .ok (.getstatic 41, 3) := by decide +kernel
theorem dL_energy_27 : decode cL_energy 27 = .ok (.iload_n 3, 1) := by decide +kernel
theorem dL_energy_28 : decode cL_energy 28 = .ok (.iaload, 1) := by decide +kernel
theorem dL_energy_29 : decode cL_energy 29 = .ok (.iadd, 1) := by decide +kernel
theorem dL_energy_30 : decode cL_energy 30 = .ok (.iaload, 1) := by decide +kernel
theorem dL_energy_31 : decode cL_energy 31 = .ok (.aload_n 0, 1) := by decide +kernel
theorem dL_energy_32 : decode cL_energy 32 = .ok (.bipush 24, 2) := by decide +kernel
theorem dL_energy_34 : decode cL_energy 34 = .ok (.iload_n 2, 1) := by decide +kernel
theorem dL_energy_35 : decode cL_energy 35 = .ok (.imul, 1) := by decide +kernel
theorem dL_energy_36 : decode cL_energy 36 = .ok (.iload_n 1, 1) := by decide +kernel
theorem dL_energy_37 : decode cL_energy 37 = .ok (.iadd, 1) := by decide +kernel
theorem dL_energy_38 : decode cL_energy 38 = .ok (.iaload, 1) := by decide +kernel
theorem dL_energy_39 : decode cL_energy 39 = .ok (.isub, 1) := by decide +kernel
theorem dL_energy_40 : decode cL_energy 40 = .ok (.invokestatic 24, 3) := by decide +kernel
theorem dL_energy_43 : decode cL_energy 43 = .ok (.imul, 1) := by decide +kernel
theorem dL_energy_44 : decode cL_energy 44 = .ok (.iadd, 1) := by decide +kernel
theorem dL_energy_45 : decode cL_energy 45 = .ok (.ireturn, 1) := by decide +kernel
theorem dL_sees_0 : decode cL_sees 0 = .ok (.iload_n 3, 1) := by decide +kernel
theorem dL_sees_1 : decode cL_sees 1 = .ok (.iload_n 1, 1) := by decide +kernel
theorem dL_sees_2 : decode cL_sees 2 = .ok (.isub, 1) := by decide +kernel
theorem dL_sees_3 : decode cL_sees 3 = .ok (.invokestatic 52, 3) := by decide +kernel
theorem dL_sees_6 : decode cL_sees 6 = .ok (.iload 4, 2) := by decide +kernel
theorem dL_sees_8 : decode cL_sees 8 = .ok (.iload_n 2, 1) := by decide +kernel
theorem dL_sees_9 : decode cL_sees 9 = .ok (.isub, 1) := by decide +kernel
theorem dL_sees_10 : decode cL_sees 10 = .ok (.invokestatic 52, 3) := by decide +kernel
theorem dL_sees_13 : decode cL_sees 13 = .ok (.invokestatic 24, 3) := by decide +kernel
theorem dL_sees_16 : decode cL_sees 16 = .ok (.istore 5, 2) := by decide +kernel
theorem dL_sees_18 : decode cL_sees 18 = .ok (.iconst 1, 1) := by decide +kernel
theorem dL_sees_19 : decode cL_sees 19 = .ok (.istore 6, 2) := by decide +kernel
theorem dL_sees_21 : decode cL_sees 21 = .ok (.iload 6, 2) := by decide +kernel
theorem dL_sees_23 : decode cL_sees 23 = .ok (.iload 5, 2) := by decide +kernel
theorem dL_sees_25 : decode cL_sees 25 = .ok (.if_icmp .ge 193, 3) := by decide +kernel
theorem dL_sees_28 : decode cL_sees 28 = .ok (.iload_n 1, 1) := by decide +kernel
theorem dL_sees_29 : decode cL_sees 29 = .ok (.istore 7, 2) := by decide +kernel
theorem dL_sees_31 : decode cL_sees 31 = .ok (.iconst 2, 1) := by decide +kernel
theorem dL_sees_32 : decode cL_sees 32 = .ok (.iload 5, 2) := by decide +kernel
theorem dL_sees_34 : decode cL_sees 34 = .ok (.imul, 1) := by decide +kernel
theorem dL_sees_35 : decode cL_sees 35 = .ok (.iload 7, 2) := by decide +kernel
theorem dL_sees_37 : decode cL_sees 37 = .ok (.iconst 1, 1) := by decide +kernel
theorem dL_sees_38 : decode cL_sees 38 = .ok (.iadd, 1) := by decide +kernel
theorem dL_sees_39 : decode cL_sees 39 = .ok (.iload_n 1, 1) := by decide +kernel
theorem dL_sees_40 : decode cL_sees 40 = .ok (.isub, 1) := by decide +kernel
theorem dL_sees_41 : decode cL_sees 41 = .ok (.imul, 1) := by decide +kernel
theorem dL_sees_42 : decode cL_sees 42 = .ok (.iconst 2, 1) := by decide +kernel
theorem dL_sees_43 : decode cL_sees 43 = .ok (.iload 6, 2) := by decide +kernel
theorem dL_sees_45 : decode cL_sees 45 = .ok (.imul, 1) := by decide +kernel
theorem dL_sees_46 : decode cL_sees 46 = .ok (.iload_n 3, 1) := by decide +kernel
theorem dL_sees_47 : decode cL_sees 47 = .ok (.iload_n 1, 1) := by decide +kernel
theorem dL_sees_48 : decode cL_sees 48 = .ok (.isub, 1) := by decide +kernel
theorem dL_sees_49 : decode cL_sees 49 = .ok (.imul, 1) := by decide +kernel
theorem dL_sees_50 : decode cL_sees 50 = .ok (.iload 5, 2) := by decide +kernel
theorem dL_sees_52 : decode cL_sees 52 = .ok (.iadd, 1) := by decide +kernel
theorem dL_sees_53 : decode cL_sees 53 = .ok (.if_icmp .gt 9, 3) := by decide +kernel
theorem dL_sees_56 : decode cL_sees 56 = .ok (.iinc 7 1, 3) := by decide +kernel
theorem dL_sees_59 : decode cL_sees 59 = .ok (.goto (-28), 3) := by decide +kernel
theorem dL_sees_62 : decode cL_sees 62 = .ok (.iconst 2, 1) := by decide +kernel
theorem dL_sees_63 : decode cL_sees 63 = .ok (.iload 5, 2) := by decide +kernel
theorem dL_sees_65 : decode cL_sees 65 = .ok (.imul, 1) := by decide +kernel
theorem dL_sees_66 : decode cL_sees 66 = .ok (.iload 7, 2) := by decide +kernel
theorem dL_sees_68 : decode cL_sees 68 = .ok (.iload_n 1, 1) := by decide +kernel
theorem dL_sees_69 : decode cL_sees 69 = .ok (.isub, 1) := by decide +kernel
theorem dL_sees_70 : decode cL_sees 70 = .ok (.imul, 1) := by decide +kernel
theorem dL_sees_71 : decode cL_sees 71 = .ok (.iconst 2, 1) := by decide +kernel
theorem dL_sees_72 : decode cL_sees 72 = .ok (.iload 6, 2) := by decide +kernel
theorem dL_sees_74 : decode cL_sees 74 = .ok (.imul, 1) := by decide +kernel
theorem dL_sees_75 : decode cL_sees 75 = .ok (.iload_n 3, 1) := by decide +kernel
theorem dL_sees_76 : decode cL_sees 76 = .ok (.iload_n 1, 1) := by decide +kernel
theorem dL_sees_77 : decode cL_sees 77 = .ok (.isub, 1) := by decide +kernel
theorem dL_sees_78 : decode cL_sees 78 = .ok (.imul, 1) := by decide +kernel
theorem dL_sees_79 : decode cL_sees 79 = .ok (.iload 5, 2) := by decide +kernel
theorem dL_sees_81 : decode cL_sees 81 = .ok (.iadd, 1) := by decide +kernel
theorem dL_sees_82 : decode cL_sees 82 = .ok (.if_icmp .le 9, 3) := by decide +kernel
theorem dL_sees_85 : decode cL_sees 85 = .ok (.iinc 7 (-1), 3) := by decide +kernel
theorem dL_sees_88 : decode cL_sees 88 = .ok (.goto (-26), 3) := by decide +kernel
theorem dL_sees_91 : decode cL_sees 91 = .ok (.iload_n 2, 1) := by decide +kernel
theorem dL_sees_92 : decode cL_sees 92 = .ok (.istore 8, 2) := by decide +kernel
theorem dL_sees_94 : decode cL_sees 94 = .ok (.iconst 2, 1) := by decide +kernel
theorem dL_sees_95 : decode cL_sees 95 = .ok (.iload 5, 2) := by decide +kernel
theorem dL_sees_97 : decode cL_sees 97 = .ok (.imul, 1) := by decide +kernel
theorem dL_sees_98 : decode cL_sees 98 = .ok (.iload 8, 2) := by decide +kernel
theorem dL_sees_100 : decode cL_sees 100 = .ok (.iconst 1, 1) := by decide +kernel
theorem dL_sees_101 : decode cL_sees 101 = .ok (.iadd, 1) := by decide +kernel
theorem dL_sees_102 : decode cL_sees 102 = .ok (.iload_n 2, 1) := by decide +kernel
theorem dL_sees_103 : decode cL_sees 103 = .ok (.isub, 1) := by decide +kernel
theorem dL_sees_104 : decode cL_sees 104 = .ok (.imul, 1) := by decide +kernel
theorem dL_sees_105 : decode cL_sees 105 = .ok (.iconst 2, 1) := by decide +kernel
theorem dL_sees_106 : decode cL_sees 106 = .ok (.iload 6, 2) := by decide +kernel
theorem dL_sees_108 : decode cL_sees 108 = .ok (.imul, 1) := by decide +kernel
theorem dL_sees_109 : decode cL_sees 109 = .ok (.iload 4, 2) := by decide +kernel
theorem dL_sees_111 : decode cL_sees 111 = .ok (.iload_n 2, 1) := by decide +kernel
theorem dL_sees_112 : decode cL_sees 112 = .ok (.isub, 1) := by decide +kernel
theorem dL_sees_113 : decode cL_sees 113 = .ok (.imul, 1) := by decide +kernel
theorem dL_sees_114 : decode cL_sees 114 = .ok (.iload 5, 2) := by decide +kernel
theorem dL_sees_116 : decode cL_sees 116 = .ok (.iadd, 1) := by decide +kernel
theorem dL_sees_117 : decode cL_sees 117 = .ok (.if_icmp .gt 9, 3) := by decide +kernel
theorem dL_sees_120 : decode cL_sees 120 = .ok (.iinc 8 1, 3) := by decide +kernel
theorem dL_sees_123 : decode cL_sees 123 = .ok (.goto (-29), 3) := by decide +kernel
theorem dL_sees_126 : decode cL_sees 126 = .ok (.iconst 2, 1) := by decide +kernel
theorem dL_sees_127 : decode cL_sees 127 = .ok (.iload 5, 2) := by decide +kernel
theorem dL_sees_129 : decode cL_sees 129 = .ok (.imul, 1) := by decide +kernel
theorem dL_sees_130 : decode cL_sees 130 = .ok (.iload 8, 2) := by decide +kernel
theorem dL_sees_132 : decode cL_sees 132 = .ok (.iload_n 2, 1) := by decide +kernel
theorem dL_sees_133 : decode cL_sees 133 = .ok (.isub, 1) := by decide +kernel
theorem dL_sees_134 : decode cL_sees 134 = .ok (.imul, 1) := by decide +kernel
theorem dL_sees_135 : decode cL_sees 135 = .ok (.iconst 2, 1) := by decide +kernel
theorem dL_sees_136 : decode cL_sees 136 = .ok (.iload 6, 2) := by decide +kernel
theorem dL_sees_138 : decode cL_sees 138 = .ok (.imul, 1) := by decide +kernel
theorem dL_sees_139 : decode cL_sees 139 = .ok (.iload 4, 2) := by decide +kernel
theorem dL_sees_141 : decode cL_sees 141 = .ok (.iload_n 2, 1) := by decide +kernel
theorem dL_sees_142 : decode cL_sees 142 = .ok (.isub, 1) := by decide +kernel
theorem dL_sees_143 : decode cL_sees 143 = .ok (.imul, 1) := by decide +kernel
theorem dL_sees_144 : decode cL_sees 144 = .ok (.iload 5, 2) := by decide +kernel
theorem dL_sees_146 : decode cL_sees 146 = .ok (.iadd, 1) := by decide +kernel
theorem dL_sees_147 : decode cL_sees 147 = .ok (.if_icmp .le 9, 3) := by decide +kernel
theorem dL_sees_150 : decode cL_sees 150 = .ok (.iinc 8 (-1), 3) := by decide +kernel
theorem dL_sees_153 : decode cL_sees 153 = .ok (.goto (-27), 3) := by decide +kernel
theorem dL_sees_156 : decode cL_sees 156 = .ok (.aload_n 0, 1) := by decide +kernel
theorem dL_sees_157 : decode cL_sees 157 = .ok (.bipush 24, 2) := by decide +kernel
theorem dL_sees_159 : decode cL_sees 159 = .ok (.iload_n 2, 1) := by decide +kernel
theorem dL_sees_160 : decode cL_sees 160 = .ok (.imul, 1) := by decide +kernel
theorem dL_sees_161 : decode cL_sees 161 = .ok (.iload_n 1, 1) := by decide +kernel
theorem dL_sees_162 : decode cL_sees 162 = .ok (.iadd, 1) := by decide +kernel
theorem dL_sees_163 : decode cL_sees 163 = .ok (.iaload, 1) := by decide +kernel
theorem dL_sees_164 : decode cL_sees 164 = .ok (.iconst 3, 1) := by decide +kernel
theorem dL_sees_165 : decode cL_sees 165 = .ok (.iadd, 1) := by decide +kernel
theorem dL_sees_166 : decode cL_sees 166 = .ok (.aload_n 0, 1) := by decide +kernel
theorem dL_sees_167 : decode cL_sees 167 = .ok (.bipush 24, 2) := by decide +kernel
theorem dL_sees_169 : decode cL_sees 169 = .ok (.iload 4, 2) := by decide +kernel
theorem dL_sees_171 : decode cL_sees 171 = .ok (.imul, 1) := by decide +kernel
theorem dL_sees_172 : decode cL_sees 172 = .ok (.iload_n 3, 1) := by decide +kernel
theorem dL_sees_173 : decode cL_sees 173 = .ok (.iadd, 1) := by decide +kernel
theorem dL_sees_174 : decode cL_sees 174 = .ok (.iaload, 1) := by decide +kernel
theorem dL_sees_175 : decode cL_sees 175 = .ok (.aload_n 0, 1) := by decide +kernel
theorem dL_sees_176 : decode cL_sees 176 = .ok (.bipush 24, 2) := by decide +kernel
theorem dL_sees_178 : decode cL_sees 178 = .ok (.iload_n 2, 1) := by decide +kernel
theorem dL_sees_179 : decode cL_sees 179 = .ok (.imul, 1) := by decide +kernel
theorem dL_sees_180 : decode cL_sees 180 = .ok (.iload_n 1, 1) := by decide +kernel
theorem dL_sees_181 : decode cL_sees 181 = .ok (.iadd, 1) := by decide +kernel
theorem dL_sees_182 : decode cL_sees 182 = .ok (.iaload, 1) := by decide +kernel
theorem dL_sees_183 : decode cL_sees 183 = .ok (.isub, 1) := by decide +kernel
theorem dL_sees_184 : decode cL_sees 184 = .ok (.iconst 3, 1) := by decide +kernel
theorem dL_sees_185 : decode cL_sees 185 = .ok (.isub, 1) := by decide +kernel
theorem dL_sees_186 : decode cL_sees 186 = .ok (.iload 6, 2) := by decide +kernel
theorem dL_sees_188 : decode cL_sees 188 = .ok (.imul, 1) := by decide +kernel
theorem dL_sees_189 : decode cL_sees 189 = .ok (.iload 5, 2) := by decide +kernel
theorem dL_sees_191 : decode cL_sees 191 = .ok (.idiv, 1) := by decide +kernel
theorem dL_sees_192 : decode cL_sees 192 = .ok (.iadd, 1) := by decide +kernel
theorem dL_sees_193 : decode cL_sees 193 = .ok (.istore 9, 2) := by decide +kernel
theorem dL_sees_195 : decode cL_sees 195 = .ok (.aload_n 0, 1) := by decide +kernel
theorem dL_sees_196 : decode cL_sees 196 = .ok (.bipush 24, 2) := by decide +kernel
theorem dL_sees_198 : decode cL_sees 198 = .ok (.iload 8, 2) := by decide +kernel
theorem dL_sees_200 : decode cL_sees 200 = .ok (.imul, 1) := by decide +kernel
theorem dL_sees_201 : decode cL_sees 201 = .ok (.iload 7, 2) := by decide +kernel
theorem dL_sees_203 : decode cL_sees 203 = .ok (.iadd, 1) := by decide +kernel
theorem dL_sees_204 : decode cL_sees 204 = .ok (.iaload, 1) := by decide +kernel
theorem dL_sees_205 : decode cL_sees 205 = .ok (.iload 9, 2) := by decide +kernel
theorem dL_sees_207 : decode cL_sees 207 = .ok (.if_icmp .le 5, 3) := by decide +kernel
theorem dL_sees_210 : decode cL_sees 210 = .ok (.iconst 0, 1) := by decide +kernel
theorem dL_sees_211 : decode cL_sees 211 = .ok (.ireturn, 1) := by decide +kernel
theorem dL_sees_212 : decode cL_sees 212 = .ok (.iinc 6 1, 3) := by decide +kernel
theorem dL_sees_215 : decode cL_sees 215 = .ok (.goto (-194), 3) := by decide +kernel
theorem dL_sees_218 : decode cL_sees 218 = .ok (.iconst 1, 1) := by decide +kernel
theorem dL_sees_219 : decode cL_sees 219 = .ok (.ireturn, 1) := by decide +kernel
theorem dL_build_0 : decode cL_build 0 = .ok (.new 55, 3) := by decide +kernel
theorem dL_build_3 : decode cL_build 3 = .ok (.dup, 1) := by decide +kernel
theorem dL_build_4 : decode cL_build 4 = .ok (.invokespecial 57, 3) := by decide +kernel
theorem dL_build_7 : decode cL_build 7 = .ok (.astore_n 2, 1) := by decide +kernel
theorem dL_build_8 : decode cL_build 8 = .ok (.aload_n 2, 1) := by decide +kernel
theorem dL_build_9 : decode cL_build 9 = .ok (.aload_n 0, 1) := by decide +kernel
theorem dL_build_10 : decode cL_build 10 = .ok (.aload_n 1, 1) := by decide +kernel
theorem dL_build_11 : decode cL_build 11 = .ok (.iconst 0, 1) := by decide +kernel
theorem dL_build_12 : decode cL_build 12 = .ok (.invokestatic 58, 3) := by decide +kernel
theorem dL_build_15 : decode cL_build 15 = .ok (.putfield 62, 3) := by decide +kernel
theorem dL_build_18 : decode cL_build 18 = .ok (.aload_n 2, 1) := by decide +kernel
theorem dL_build_19 : decode cL_build 19 = .ok (.getfield 62, 3) := by decide +kernel
theorem dL_build_22 : decode cL_build 22 = .ok (.ifnonnull 5, 3) := by decide +kernel
theorem dL_build_25 : decode cL_build 25 = .ok (.aconst_null, 1) := by decide +kernel
theorem dL_build_26 : decode cL_build 26 = .ok (.areturn, 1) := by decide +kernel
theorem dL_build_27 : decode cL_build 27 = .ok (.iconst 1, 1) := by decide +kernel
theorem dL_build_28 : decode cL_build 28 = .ok (.aload_n 1, 1) := by decide +kernel
theorem dL_build_29 : decode cL_build 29 = .ok (.bipush 8, 2) := by decide +kernel
theorem dL_build_31 : decode cL_build 31 = .ok (.invokestatic 9, 3) := by decide +kernel
theorem dL_build_34 : decode cL_build 34 = .ok (.iconst 4, 1) := by decide +kernel
theorem dL_build_35 : decode cL_build 35 = .ok (.invokestatic 15, 3) := by decide +kernel
theorem dL_build_38 : decode cL_build 38 = .ok (.iadd, 1) := by decide +kernel
theorem dL_build_39 : decode cL_build 39 = .ok (.istore_n 3, 1) := by decide +kernel
theorem dL_build_40 : decode cL_build 40 = .ok (.iconst 0, 1) := by decide +kernel
theorem dL_build_41 : decode cL_build 41 = .ok (.istore 4, 2) := by decide +kernel
theorem dL_build_43 : decode cL_build 43 = .ok (.iload 4, 2) := by decide +kernel
theorem dL_build_45 : decode cL_build 45 = .ok (.iload_n 3, 1) := by decide +kernel
theorem dL_build_46 : decode cL_build 46 = .ok (.if_icmp .ge 137, 3) := by decide +kernel
theorem dL_build_49 : decode cL_build 49 = .ok (.aload_n 1, 1) := by decide +kernel
theorem dL_build_50 : decode cL_build 50 = .ok (.bipush 9, 2) := by decide +kernel
theorem dL_build_52 : decode cL_build 52 = .ok (.iload 4, 2) := by decide +kernel
theorem dL_build_54 : decode cL_build 54 = .ok (.iconst 3, 1) := by decide +kernel
theorem dL_build_55 : decode cL_build 55 = .ok (.irem, 1) := by decide +kernel
theorem dL_build_56 : decode cL_build 56 = .ok (.iadd, 1) := by decide +kernel
theorem dL_build_57 : decode cL_build 57 = .ok (.invokestatic 9, 3) := by decide +kernel
theorem dL_build_60 : decode cL_build 60 = .ok (.iload 4, 2) := by decide +kernel
theorem dL_build_62 : decode cL_build 62 = .ok (.iconst 3, 1) := by decide +kernel
theorem dL_build_63 : decode cL_build 63 = .ok (.idiv, 1) := by decide +kernel
theorem dL_build_64 : decode cL_build 64 = .ok (.bipush 9, 2) := by decide +kernel
theorem dL_build_66 : decode cL_build 66 = .ok (.imul, 1) := by decide +kernel
theorem dL_build_67 : decode cL_build 67 = .ok (.ishr, 1) := by decide +kernel
theorem dL_build_68 : decode cL_build 68 = .ok (.istore 5, 2) := by decide +kernel
theorem dL_build_70 : decode cL_build 70 = .ok (.aload_n 2, 1) := by decide +kernel
theorem dL_build_71 : decode cL_build 71 = .ok (.getfield 65, 3) := by decide +kernel
theorem dL_build_74 : decode cL_build 74 = .ok (.iload 4, 2) := by decide +kernel
theorem dL_build_76 : decode cL_build 76 = .ok (.iconst 4, 1) := by decide +kernel
theorem dL_build_77 : decode cL_build 77 = .ok (.newarray .int, 2) := by decide +kernel
theorem dL_build_79 : decode cL_build 79 = .ok (.dup, 1) := by decide +kernel
theorem dL_build_80 : decode cL_build 80 = .ok (.iconst 0, 1) := by decide +kernel
theorem dL_build_81 : decode cL_build 81 = .ok (.iload 5, 2) := by decide +kernel
theorem dL_build_83 : decode cL_build 83 = .ok (.bipush 9, 2) := by decide +kernel
theorem dL_build_85 : decode cL_build 85 = .ok (.invokestatic 15, 3) := by decide +kernel
theorem dL_build_88 : decode cL_build 88 = .ok (.iastore, 1) := by decide +kernel
theorem dL_build_89 : decode cL_build 89 = .ok (.dup, 1) := by decide +kernel
theorem dL_build_90 : decode cL_build 90 = .ok (.iconst 1, 1) := by decide +kernel
theorem dL_build_91 : decode cL_build 91 = .ok (.iload 5, 2) := by decide +kernel
theorem dL_build_93 : decode cL_build 93 = .ok (.iconst 3, 1) := by decide +kernel
theorem dL_build_94 : decode cL_build 94 = .ok (.ishr, 1) := by decide +kernel
theorem dL_build_95 : decode cL_build 95 = .ok (.bipush 9, 2) := by decide +kernel
theorem dL_build_97 : decode cL_build 97 = .ok (.invokestatic 15, 3) := by decide +kernel
theorem dL_build_100 : decode cL_build 100 = .ok (.iastore, 1) := by decide +kernel
theorem dL_build_101 : decode cL_build 101 = .ok (.dup, 1) := by decide +kernel
theorem dL_build_102 : decode cL_build 102 = .ok (.iconst 2, 1) := by decide +kernel
theorem dL_build_103 : decode cL_build 103 = .ok (.iconst 1, 1) := by decide +kernel
theorem dL_build_104 : decode cL_build 104 = .ok (.iload 5, 2) := by decide +kernel
theorem dL_build_106 : decode cL_build 106 = .ok (.iconst 5, 1) := by decide +kernel
theorem dL_build_107 : decode cL_build 107 = .ok (.ishr, 1) := by decide +kernel
theorem dL_build_108 : decode cL_build 108 = .ok (.bipush 100, 2) := by decide +kernel
theorem dL_build_110 : decode cL_build 110 = .ok (.invokestatic 15, 3) := by decide +kernel
theorem dL_build_113 : decode cL_build 113 = .ok (.iadd, 1) := by decide +kernel
theorem dL_build_114 : decode cL_build 114 = .ok (.iastore, 1) := by decide +kernel
theorem dL_build_115 : decode cL_build 115 = .ok (.dup, 1) := by decide +kernel
theorem dL_build_116 : decode cL_build 116 = .ok (.iconst 3, 1) := by decide +kernel
theorem dL_build_117 : decode cL_build 117 = .ok (.iconst 1, 1) := by decide +kernel
theorem dL_build_118 : decode cL_build 118 = .ok (.iload 5, 2) := by decide +kernel
theorem dL_build_120 : decode cL_build 120 = .ok (.bipush 7, 2) := by decide +kernel
theorem dL_build_122 : decode cL_build 122 = .ok (.ishr, 1) := by decide +kernel
theorem dL_build_123 : decode cL_build 123 = .ok (.iconst 4, 1) := by decide +kernel
theorem dL_build_124 : decode cL_build 124 = .ok (.invokestatic 15, 3) := by decide +kernel
theorem dL_build_127 : decode cL_build 127 = .ok (.iadd, 1) := by decide +kernel
theorem dL_build_128 : decode cL_build 128 = .ok (.iastore, 1) := by decide +kernel
theorem dL_build_129 : decode cL_build 129 = .ok (.aastore, 1) := by decide +kernel
theorem dL_build_130 : decode cL_build 130 = .ok (.aload_n 0, 1) := by decide +kernel
theorem dL_build_131 : decode cL_build 131 = .ok (.aload_n 2, 1) := by decide +kernel
theorem dL_build_132 : decode cL_build 132 = .ok (.getfield 65, 3) := by decide +kernel
theorem dL_build_135 : decode cL_build 135 = .ok (.iload 4, 2) := by decide +kernel
theorem dL_build_137 : decode cL_build 137 = .ok (.aaload, 1) := by decide +kernel
theorem dL_build_138 : decode cL_build 138 = .ok (.iconst 0, 1) := by decide +kernel
theorem dL_build_139 : decode cL_build 139 = .ok (.iaload, 1) := by decide +kernel
theorem dL_build_140 : decode cL_build 140 = .ok (.aload_n 2, 1) := by decide +kernel
theorem dL_build_141 : decode cL_build 141 = .ok (.getfield 65, 3) := by decide +kernel
theorem dL_build_144 : decode cL_build 144 = .ok (.iload 4, 2) := by decide +kernel
theorem dL_build_146 : decode cL_build 146 = .ok (.aaload, 1) := by decide +kernel
theorem dL_build_147 : decode cL_build 147 = .ok (.iconst 1, 1) := by decide +kernel
theorem dL_build_148 : decode cL_build 148 = .ok (.iaload, 1) := by decide +kernel
theorem dL_build_149 : decode cL_build 149 = .ok (.aload_n 2, 1) := by decide +kernel
theorem dL_build_150 : decode cL_build 150 = .ok (.getfield 65, 3) := by decide +kernel
theorem dL_build_153 : decode cL_build 153 = .ok (.iload 4, 2) := by decide +kernel
theorem dL_build_155 : decode cL_build 155 = .ok (.aaload, 1) := by decide +kernel
theorem dL_build_156 : decode cL_build 156 = .ok (.iconst 2, 1) := by decide +kernel
theorem dL_build_157 : decode cL_build 157 = .ok (.iaload, 1) := by decide +kernel
theorem dL_build_158 : decode cL_build 158 = .ok (.aload_n 2, 1) := by decide +kernel
theorem dL_build_159 : decode cL_build 159 = .ok (.getfield 65, 3) := by decide +kernel
theorem dL_build_162 : decode cL_build 162 = .ok (.iload 4, 2) := by decide +kernel
theorem dL_build_164 : decode cL_build 164 = .ok (.aaload, 1) := by decide +kernel
theorem dL_build_165 : decode cL_build 165 = .ok (.iconst 3, 1) := by decide +kernel
theorem dL_build_166 : decode cL_build 166 = .ok (.iaload, 1) := by decide +kernel
theorem dL_build_167 : decode cL_build 167 = .ok (.invokevirtual 69, 3) := by decide +kernel
theorem dL_build_170 : decode cL_build 170 = .ok (.iload 4, 2) := by decide +kernel
theorem dL_build_172 : decode cL_build 172 = .ok (.if_icmp .eq 5, 3) := by decide +kernel
theorem dL_build_175 : decode cL_build 175 = .ok (.aconst_null, 1) := by decide +kernel
theorem dL_build_176 : decode cL_build 176 = .ok (.areturn, 1) := by decide +kernel
theorem dL_build_177 : decode cL_build 177 = .ok (.iinc 4 1, 3) := by decide +kernel
theorem dL_build_180 : decode cL_build 180 = .ok (.goto (-137), 3) := by decide +kernel
theorem dL_build_183 : decode cL_build 183 = .ok (.aload_n 1, 1) := by decide +kernel
theorem dL_build_184 : decode cL_build 184 = .ok (.bipush 8, 2) := by decide +kernel
theorem dL_build_186 : decode cL_build 186 = .ok (.invokestatic 9, 3) := by decide +kernel
theorem dL_build_189 : decode cL_build 189 = .ok (.iconst 4, 1) := by decide +kernel
theorem dL_build_190 : decode cL_build 190 = .ok (.ishr, 1) := by decide +kernel
theorem dL_build_191 : decode cL_build 191 = .ok (.iconst 4, 1) := by decide +kernel
theorem dL_build_192 : decode cL_build 192 = .ok (.invokestatic 15, 3) := by decide +kernel
theorem dL_build_195 : decode cL_build 195 = .ok (.istore 4, 2) := by decide +kernel
theorem dL_build_197 : decode cL_build 197 = .ok (.iconst 0, 1) := by decide +kernel
theorem dL_build_198 : decode cL_build 198 = .ok (.istore 5, 2) := by decide +kernel
theorem dL_build_200 : decode cL_build 200 = .ok (.iload 5, 2) := by decide +kernel
theorem dL_build_202 : decode cL_build 202 = .ok (.iload 4, 2) := by decide +kernel
theorem dL_build_204 : decode cL_build 204 = .ok (.if_icmp .ge 121, 3) := by decide +kernel
theorem dL_build_207 : decode cL_build 207 = .ok (.aload_n 1, 1) := by decide +kernel
theorem dL_build_208 : decode cL_build 208 = .ok (.bipush 12, 2) := by decide +kernel
theorem dL_build_210 : decode cL_build 210 = .ok (.invokestatic 9, 3) := by decide +kernel
theorem dL_build_213 : decode cL_build 213 = .ok (.iconst 5, 1) := by decide +kernel
theorem dL_build_214 : decode cL_build 214 = .ok (.iload 5, 2) := by decide +kernel
theorem dL_build_216 : decode cL_build 216 = .ok (.imul, 1) := by decide +kernel
theorem dL_build_217 : decode cL_build 217 = .ok (.ishr, 1) := by decide +kernel
theorem dL_build_218 : decode cL_build 218 = .ok (.istore 6, 2) := by decide +kernel
theorem dL_build_220 : decode cL_build 220 = .ok (.iload 6, 2) := by decide +kernel
theorem dL_build_222 : decode cL_build 222 = .ok (.sipush 1400, 3) := by decide +kernel
theorem dL_build_225 : decode cL_build 225 = .ok (.invokestatic 15, 3) := by decide +kernel
theorem dL_build_228 : decode cL_build 228 = .ok (.istore 7, 2) := by decide +kernel
theorem dL_build_230 : decode cL_build 230 = .ok (.iload 7, 2) := by decide +kernel
theorem dL_build_232 : decode cL_build 232 = .ok (.iconst 1, 1) := by decide +kernel
theorem dL_build_233 : decode cL_build 233 = .ok (.iadd, 1) := by decide +kernel
theorem dL_build_234 : decode cL_build 234 = .ok (.iload 6, 2) := by decide +kernel
theorem dL_build_236 : decode cL_build 236 = .ok (.iconst 3, 1) := by decide +kernel
theorem dL_build_237 : decode cL_build 237 = .ok (.ishr, 1) := by decide +kernel
theorem dL_build_238 : decode cL_build 238 = .ok (.sipush 1440, 3) := by decide +kernel
theorem dL_build_241 : decode cL_build 241 = .ok (.iload 7, 2) := by decide +kernel
theorem dL_build_243 : decode cL_build 243 = .ok (.isub, 1) := by decide +kernel
theorem dL_build_244 : decode cL_build 244 = .ok (.invokestatic 15, 3) := by decide +kernel
theorem dL_build_247 : decode cL_build 247 = .ok (.iadd, 1) := by decide +kernel
theorem dL_build_248 : decode cL_build 248 = .ok (.istore 8, 2) := by decide +kernel
theorem dL_build_250 : decode cL_build 250 = .ok (.iconst 1, 1) := by decide +kernel
theorem dL_build_251 : decode cL_build 251 = .ok (.iload 6, 2) := by decide +kernel
theorem dL_build_253 : decode cL_build 253 = .ok (.bipush 7, 2) := by decide +kernel
theorem dL_build_255 : decode cL_build 255 = .ok (.ishr, 1) := by decide +kernel
theorem dL_build_256 : decode cL_build 256 = .ok (.bipush 20, 2) := by decide +kernel
theorem dL_build_258 : decode cL_build 258 = .ok (.invokestatic 15, 3) := by decide +kernel
theorem dL_build_261 : decode cL_build 261 = .ok (.iadd, 1) := by decide +kernel
theorem dL_build_262 : decode cL_build 262 = .ok (.istore 9, 2) := by decide +kernel
theorem dL_build_264 : decode cL_build 264 = .ok (.aload_n 0, 1) := by decide +kernel
theorem dL_build_265 : decode cL_build 265 = .ok (.iload 7, 2) := by decide +kernel
theorem dL_build_267 : decode cL_build 267 = .ok (.iload 8, 2) := by decide +kernel
theorem dL_build_269 : decode cL_build 269 = .ok (.iload 9, 2) := by decide +kernel
theorem dL_build_271 : decode cL_build 271 = .ok (.invokevirtual 73, 3) := by decide +kernel
theorem dL_build_274 : decode cL_build 274 = .ok (.iload 5, 2) := by decide +kernel
theorem dL_build_276 : decode cL_build 276 = .ok (.iconst 1, 1) := by decide +kernel
theorem dL_build_277 : decode cL_build 277 = .ok (.iadd, 1) := by decide +kernel
theorem dL_build_278 : decode cL_build 278 = .ok (.if_icmp .eq 5, 3) := by decide +kernel
theorem dL_build_281 : decode cL_build 281 = .ok (.aconst_null, 1) := by decide +kernel
theorem dL_build_282 : decode cL_build 282 = .ok (.areturn, 1) := by decide +kernel
theorem dL_build_283 : decode cL_build 283 = .ok (.iload 7, 2) := by decide +kernel
theorem dL_build_285 : decode cL_build 285 = .ok (.istore 10, 2) := by decide +kernel
theorem dL_build_287 : decode cL_build 287 = .ok (.iload 10, 2) := by decide +kernel
theorem dL_build_289 : decode cL_build 289 = .ok (.iload 8, 2) := by decide +kernel
theorem dL_build_291 : decode cL_build 291 = .ok (.if_icmp .ge 28, 3) := by decide +kernel
theorem dL_build_294 : decode cL_build 294 = .ok (.aload_n 2, 1) := by decide +kernel
theorem dL_build_295 : decode cL_build 295 = .ok (.getfield 77, 3) := by decide +kernel
theorem dL_build_298 : decode cL_build 298 = .ok (.iload 10, 2) := by decide +kernel
theorem dL_build_300 : decode cL_build 300 = .ok (.aload_n 2, 1) := by decide +kernel
theorem dL_build_301 : decode cL_build 301 = .ok (.getfield 77, 3) := by decide +kernel
theorem dL_build_304 : decode cL_build 304 = .ok (.iload 10, 2) := by decide +kernel
theorem dL_build_306 : decode cL_build 306 = .ok (.iaload, 1) := by decide +kernel
theorem dL_build_307 : decode cL_build 307 = .ok (.iload 9, 2) := by decide +kernel
theorem dL_build_309 : decode cL_build 309 = .ok (.invokestatic 24, 3) := by decide +kernel
theorem dL_build_312 : decode cL_build 312 = .ok (.iastore, 1) := by decide +kernel
theorem dL_build_313 : decode cL_build 313 = .ok (.iinc 10 1, 3) := by decide +kernel
theorem dL_build_316 : decode cL_build 316 = .ok (.goto (-29), 3) := by decide +kernel
theorem dL_build_319 : decode cL_build 319 = .ok (.iinc 5 1, 3) := by decide +kernel
theorem dL_build_322 : decode cL_build 322 = .ok (.goto (-122), 3) := by decide +kernel
theorem dL_build_325 : decode cL_build 325 = .ok (.aload_n 1, 1) := by decide +kernel
theorem dL_build_326 : decode cL_build 326 = .ok (.bipush 8, 2) := by decide +kernel
theorem dL_build_328 : decode cL_build 328 = .ok (.invokestatic 9, 3) := by decide +kernel
theorem dL_build_331 : decode cL_build 331 = .ok (.bipush 7, 2) := by decide +kernel
theorem dL_build_333 : decode cL_build 333 = .ok (.ishr, 1) := by decide +kernel
theorem dL_build_334 : decode cL_build 334 = .ok (.iconst 3, 1) := by decide +kernel
theorem dL_build_335 : decode cL_build 335 = .ok (.invokestatic 15, 3) := by decide +kernel
theorem dL_build_338 : decode cL_build 338 = .ok (.ifCond .ne 88, 3) := by decide +kernel
theorem dL_build_341 : decode cL_build 341 = .ok (.aload_n 2, 1) := by decide +kernel
theorem dL_build_342 : decode cL_build 342 = .ok (.getfield 80, 3) := by decide +kernel
theorem dL_build_345 : decode cL_build 345 = .ok (.bipush 8, 2) := by decide +kernel
theorem dL_build_347 : decode cL_build 347 = .ok (.bipush 100, 2) := by decide +kernel
theorem dL_build_349 : decode cL_build 349 = .ok (.aload_n 1, 1) := by decide +kernel
theorem dL_build_350 : decode cL_build 350 = .ok (.bipush 13, 2) := by decide +kernel
theorem dL_build_352 : decode cL_build 352 = .ok (.invokestatic 9, 3) := by decide +kernel
theorem dL_build_355 : decode cL_build 355 = .ok (.sipush 3000, 3) := by decide +kernel
theorem dL_build_358 : decode cL_build 358 = .ok (.invokestatic 15, 3) := by decide +kernel
theorem dL_build_361 : decode cL_build 361 = .ok (.iadd, 1) := by decide +kernel
theorem dL_build_362 : decode cL_build 362 = .ok (.iastore, 1) := by decide +kernel
theorem dL_build_363 : decode cL_build 363 = .ok (.aload_n 2, 1) := by decide +kernel
theorem dL_build_364 : decode cL_build 364 = .ok (.bipush 40, 2) := by decide +kernel
theorem dL_build_366 : decode cL_build 366 = .ok (.aload_n 1, 1) := by decide +kernel
theorem dL_build_367 : decode cL_build 367 = .ok (.bipush 13, 2) := by decide +kernel
theorem dL_build_369 : decode cL_build 369 = .ok (.invokestatic 9, 3) := by decide +kernel
theorem dL_build_372 : decode cL_build 372 = .ok (.iconst 5, 1) := by decide +kernel
theorem dL_build_373 : decode cL_build 373 = .ok (.ishr, 1) := by decide +kernel
theorem dL_build_374 : decode cL_build 374 = .ok (.sipush 400, 3) := by decide +kernel
theorem dL_build_377 : decode cL_build 377 = .ok (.invokestatic 15, 3) := by decide +kernel
theorem dL_build_380 : decode cL_build 380 = .ok (.iadd, 1) := by decide +kernel
theorem dL_build_381 : decode cL_build 381 = .ok (.putfield 83, 3) := by decide +kernel
theorem dL_build_384 : decode cL_build 384 = .ok (.aload_n 2, 1) := by decide +kernel
theorem dL_build_385 : decode cL_build 385 = .ok (.getfield 80, 3) := by decide +kernel
theorem dL_build_388 : decode cL_build 388 = .ok (.iconst 3, 1) := by decide +kernel
theorem dL_build_389 : decode cL_build 389 = .ok (.sipush 3000, 3) := by decide +kernel
theorem dL_build_392 : decode cL_build 392 = .ok (.aload_n 2, 1) := by decide +kernel
theorem dL_build_393 : decode cL_build 393 = .ok (.getfield 80, 3) := by decide +kernel
theorem dL_build_396 : decode cL_build 396 = .ok (.bipush 8, 2) := by decide +kernel
theorem dL_build_398 : decode cL_build 398 = .ok (.iaload, 1) := by decide +kernel
theorem dL_build_399 : decode cL_build 399 = .ok (.invokestatic 19, 3) := by decide +kernel
theorem dL_build_402 : decode cL_build 402 = .ok (.iastore, 1) := by decide +kernel
theorem dL_build_403 : decode cL_build 403 = .ok (.aload_n 0, 1) := by decide +kernel
theorem dL_build_404 : decode cL_build 404 = .ok (.aload_n 2, 1) := by decide +kernel
theorem dL_build_405 : decode cL_build 405 = .ok (.getfield 80, 3) := by decide +kernel
theorem dL_build_408 : decode cL_build 408 = .ok (.bipush 8, 2) := by decide +kernel
theorem dL_build_410 : decode cL_build 410 = .ok (.iaload, 1) := by decide +kernel
theorem dL_build_411 : decode cL_build 411 = .ok (.aload_n 2, 1) := by decide +kernel
theorem dL_build_412 : decode cL_build 412 = .ok (.getfield 83, 3) := by decide +kernel
theorem dL_build_415 : decode cL_build 415 = .ok (.invokevirtual 87, 3) := by decide +kernel
theorem dL_build_418 : decode cL_build 418 = .ok (.sipush 4000, 3) := by decide +kernel
theorem dL_build_421 : decode cL_build 421 = .ok (.if_icmp .eq 5, 3) := by decide +kernel
theorem dL_build_424 : decode cL_build 424 = .ok (.aconst_null, 1) := by decide +kernel
theorem dL_build_425 : decode cL_build 425 = .ok (.areturn, 1) := by decide +kernel
theorem dL_build_426 : decode cL_build 426 = .ok (.aload_n 2, 1) := by decide +kernel
theorem dL_build_427 : decode cL_build 427 = .ok (.areturn, 1) := by decide +kernel
theorem dL_law_0 : decode cL_law 0 = .ok (.new 28, 3) := by decide +kernel
theorem dL_law_3 : decode cL_law 3 = .ok (.dup, 1) := by decide +kernel
theorem dL_law_4 : decode cL_law 4 = .ok (.invokespecial 90, 3) := by decide +kernel
theorem dL_law_7 : decode cL_law 7 = .ok (.astore_n 1, 1) := by decide +kernel
theorem dL_law_8 : decode cL_law 8 = .ok (.aload_n 1, 1) := by decide +kernel
theorem dL_law_9 : decode cL_law 9 = .ok (.aload_n 0, 1) := by decide +kernel
theorem dL_law_10 : decode cL_law 10 = .ok (.invokestatic 91, 3) := by decide +kernel
theorem dL_law_13 : decode cL_law 13 = .ok (.astore_n 2, 1) := by decide +kernel
theorem dL_law_14 : decode cL_law 14 = .ok (.aload_n 2, 1) := by decide +kernel
theorem dL_law_15 : decode cL_law 15 = .ok (.ifnonnull 5, 3) := by decide +kernel
theorem dL_law_18 : decode cL_law 18 = .ok (.iconst 0, 1) := by decide +kernel
theorem dL_law_19 : decode cL_law 19 = .ok (.ireturn, 1) := by decide +kernel
theorem dL_law_20 : decode cL_law 20 = .ok (.iconst 1, 1) := by decide +kernel
theorem dL_law_21 : decode cL_law 21 = .ok (.aload_n 0, 1) := by decide +kernel
theorem dL_law_22 : decode cL_law 22 = .ok (.bipush 14, 2) := by decide +kernel
theorem dL_law_24 : decode cL_law 24 = .ok (.invokestatic 9, 3) := by decide +kernel
theorem dL_law_27 : decode cL_law 27 = .ok (.sipush 600, 3) := by decide +kernel
theorem dL_law_30 : decode cL_law 30 = .ok (.invokestatic 15, 3) := by decide +kernel
theorem dL_law_33 : decode cL_law 33 = .ok (.iadd, 1) := by decide +kernel
theorem dL_law_34 : decode cL_law 34 = .ok (.istore_n 3, 1) := by decide +kernel
theorem dL_law_35 : decode cL_law 35 = .ok (.aload_n 1, 1) := by decide +kernel
theorem dL_law_36 : decode cL_law 36 = .ok (.iload_n 3, 1) := by decide +kernel
theorem dL_law_37 : decode cL_law 37 = .ok (.invokevirtual 95, 3) := by decide +kernel
theorem dL_law_40 : decode cL_law 40 = .ok (.istore 4, 2) := by decide +kernel
theorem dL_law_42 : decode cL_law 42 = .ok (.iload 4, 2) := by decide +kernel
theorem dL_law_44 : decode cL_law 44 = .ok (.iconst 2, 1) := by decide +kernel
theorem dL_law_45 : decode cL_law 45 = .ok (.irem, 1) := by decide +kernel
theorem dL_law_46 : decode cL_law 46 = .ok (.ifCond .ne 40, 3) := by decide +kernel
theorem dL_law_49 : decode cL_law 49 = .ok (.iload 4, 2) := by decide +kernel
theorem dL_law_51 : decode cL_law 51 = .ok (.aload_n 1, 1) := by decide +kernel
theorem dL_law_52 : decode cL_law 52 = .ok (.iconst 2, 1) := by decide +kernel
theorem dL_law_53 : decode cL_law 53 = .ok (.invokevirtual 98, 3) := by decide +kernel
theorem dL_law_56 : decode cL_law 56 = .ok (.if_icmp .ne 30, 3) := by decide +kernel
theorem dL_law_59 : decode cL_law 59 = .ok (.aload_n 1, 1) := by decide +kernel
theorem dL_law_60 : decode cL_law 60 = .ok (.invokevirtual 101, 3) := by decide +kernel
theorem dL_law_63 : decode cL_law 63 = .ok (.iconst (-1), 1) := by decide +kernel
theorem dL_law_64 : decode cL_law 64 = .ok (.if_icmp .ne 22, 3) := by decide +kernel
theorem dL_law_67 : decode cL_law 67 = .ok (.aload_n 1, 1) := by decide +kernel
theorem dL_law_68 : decode cL_law 68 = .ok (.iload 4, 2) := by decide +kernel
theorem dL_law_70 : decode cL_law 70 = .ok (.iconst 0, 1) := by decide +kernel
theorem dL_law_71 : decode cL_law 71 = .ok (.invokevirtual 105, 3) := by decide +kernel
theorem dL_law_74 : decode cL_law 74 = .ok (.iload_n 3, 1) := by decide +kernel
theorem dL_law_75 : decode cL_law 75 = .ok (.if_icmp .gt 11, 3) := by decide +kernel
theorem dL_law_78 : decode cL_law 78 = .ok (.aload_n 1, 1) := by decide +kernel
theorem dL_law_79 : decode cL_law 79 = .ok (.iconst 0, 1) := by decide +kernel
theorem dL_law_80 : decode cL_law 80 = .ok (.invokevirtual 108, 3) := by decide +kernel
theorem dL_law_83 : decode cL_law 83 = .ok (.ifCond .eq 5, 3) := by decide +kernel
theorem dL_law_86 : decode cL_law 86 = .ok (.iconst 0, 1) := by decide +kernel
theorem dL_law_87 : decode cL_law 87 = .ok (.ireturn, 1) := by decide +kernel
theorem dL_law_88 : decode cL_law 88 = .ok (.iload 4, 2) := by decide +kernel
theorem dL_law_90 : decode cL_law 90 = .ok (.iconst 3, 1) := by decide +kernel
theorem dL_law_91 : decode cL_law 91 = .ok (.multianewarray 111 2, 4) := by decide +kernel
theorem dL_law_95 : decode cL_law 95 = .ok (.astore 5, 2) := by decide +kernel
theorem dL_law_97 : decode cL_law 97 = .ok (.iconst 0, 1) := by decide +kernel
theorem dL_law_98 : decode cL_law 98 = .ok (.istore 6, 2) := by decide +kernel
theorem dL_law_100 : decode cL_law 100 = .ok (.iload 6, 2) := by decide +kernel
theorem dL_law_102 : decode cL_law 102 = .ok (.iload 4, 2) := by decide +kernel
theorem dL_law_104 : decode cL_law 104 = .ok (.if_icmp .ge 40, 3) := by decide +kernel
theorem dL_law_107 : decode cL_law 107 = .ok (.iconst 0, 1) := by decide +kernel
theorem dL_law_108 : decode cL_law 108 = .ok (.istore 7, 2) := by decide +kernel
theorem dL_law_110 : decode cL_law 110 = .ok (.iload 7, 2) := by decide +kernel
theorem dL_law_112 : decode cL_law 112 = .ok (.iconst 3, 1) := by decide +kernel
theorem dL_law_113 : decode cL_law 113 = .ok (.if_icmp .ge 25, 3) := by decide +kernel
theorem dL_law_116 : decode cL_law 116 = .ok (.aload 5, 2) := by decide +kernel
theorem dL_law_118 : decode cL_law 118 = .ok (.iload 6, 2) := by decide +kernel
theorem dL_law_120 : decode cL_law 120 = .ok (.aaload, 1) := by decide +kernel
theorem dL_law_121 : decode cL_law 121 = .ok (.iload 7, 2) := by decide +kernel
theorem dL_law_123 : decode cL_law 123 = .ok (.aload_n 1, 1) := by decide +kernel
theorem dL_law_124 : decode cL_law 124 = .ok (.iload 6, 2) := by decide +kernel
theorem dL_law_126 : decode cL_law 126 = .ok (.iload 7, 2) := by decide +kernel
theorem dL_law_128 : decode cL_law 128 = .ok (.invokevirtual 112, 3) := by decide +kernel
theorem dL_law_131 : decode cL_law 131 = .ok (.iastore, 1) := by decide +kernel
theorem dL_law_132 : decode cL_law 132 = .ok (.iinc 7 1, 3) := by decide +kernel
theorem dL_law_135 : decode cL_law 135 = .ok (.goto (-25), 3) := by decide +kernel
theorem dL_law_138 : decode cL_law 138 = .ok (.iinc 6 1, 3) := by decide +kernel
theorem dL_law_141 : decode cL_law 141 = .ok (.goto (-41), 3) := by decide +kernel
theorem dL_law_144 : decode cL_law 144 = .ok (.iconst 0, 1) := by decide +kernel
theorem dL_law_145 : decode cL_law 145 = .ok (.istore 6, 2) := by decide +kernel
theorem dL_law_147 : decode cL_law 147 = .ok (.iload 6, 2) := by decide +kernel
theorem dL_law_149 : decode cL_law 149 = .ok (.iload 4, 2) := by decide +kernel
theorem dL_law_151 : decode cL_law 151 = .ok (.if_icmp .ge 321, 3) := by decide +kernel
theorem dL_law_154 : decode cL_law 154 = .ok (.aload 5, 2) := by decide +kernel
theorem dL_law_156 : decode cL_law 156 = .ok (.iload 6, 2) := by decide +kernel
theorem dL_law_158 : decode cL_law 158 = .ok (.iconst 1, 1) := by decide +kernel
theorem dL_law_159 : decode cL_law 159 = .ok (.iadd, 1) := by decide +kernel
theorem dL_law_160 : decode cL_law 160 = .ok (.aaload, 1) := by decide +kernel
theorem dL_law_161 : decode cL_law 161 = .ok (.iconst 1, 1) := by decide +kernel
theorem dL_law_162 : decode cL_law 162 = .ok (.iaload, 1) := by decide +kernel
theorem dL_law_163 : decode cL_law 163 = .ok (.istore 7, 2) := by decide +kernel
theorem dL_law_165 : decode cL_law 165 = .ok (.aload_n 2, 1) := by decide +kernel
theorem dL_law_166 : decode cL_law 166 = .ok (.getfield 65, 3) := by decide +kernel
theorem dL_law_169 : decode cL_law 169 = .ok (.iload 7, 2) := by decide +kernel
theorem dL_law_171 : decode cL_law 171 = .ok (.aaload, 1) := by decide +kernel
theorem dL_law_172 : decode cL_law 172 = .ok (.iconst 3, 1) := by decide +kernel
theorem dL_law_173 : decode cL_law 173 = .ok (.iaload, 1) := by decide +kernel
theorem dL_law_174 : decode cL_law 174 = .ok (.istore 8, 2) := by decide +kernel
theorem dL_law_176 : decode cL_law 176 = .ok (.aload 5, 2) := by decide +kernel
theorem dL_law_178 : decode cL_law 178 = .ok (.iload 6, 2) := by decide +kernel
theorem dL_law_180 : decode cL_law 180 = .ok (.aaload, 1) := by decide +kernel
theorem dL_law_181 : decode cL_law 181 = .ok (.iconst 0, 1) := by decide +kernel
theorem dL_law_182 : decode cL_law 182 = .ok (.iaload, 1) := by decide +kernel
theorem dL_law_183 : decode cL_law 183 = .ok (.ifCond .ne 39, 3) := by decide +kernel
theorem dL_law_186 : decode cL_law 186 = .ok (.aload 5, 2) := by decide +kernel
theorem dL_law_188 : decode cL_law 188 = .ok (.iload 6, 2) := by decide +kernel
theorem dL_law_190 : decode cL_law 190 = .ok (.iconst 1, 1) := by decide +kernel
theorem dL_law_191 : decode cL_law 191 = .ok (.iadd, 1) := by decide +kernel
theorem dL_law_192 : decode cL_law 192 = .ok (.aaload, 1) := by decide +kernel
theorem dL_law_193 : decode cL_law 193 = .ok (.iconst 0, 1) := by decide +kernel
theorem dL_law_194 : decode cL_law 194 = .ok (.iaload, 1) := by decide +kernel
theorem dL_law_195 : decode cL_law 195 = .ok (.iload 8, 2) := by decide +kernel
theorem dL_law_197 : decode cL_law 197 = .ok (.iconst 4, 1) := by decide +kernel
theorem dL_law_198 : decode cL_law 198 = .ok (.if_icmp .ne 7, 3) := by decide +kernel
theorem dL_law_201 : decode cL_law 201 = .ok (.iconst 2, 1) := by decide +kernel
theorem dL_law_202 : decode cL_law 202 = .ok (.goto 4, 3) := by decide +kernel
theorem dL_law_205 : decode cL_law 205 = .ok (.iconst 1, 1) := by decide +kernel
theorem dL_law_206 : decode cL_law 206 = .ok (.if_icmp .ne 16, 3) := by decide +kernel
theorem dL_law_209 : decode cL_law 209 = .ok (.aload 5, 2) := by decide +kernel
theorem dL_law_211 : decode cL_law 211 = .ok (.iload 6, 2) := by decide +kernel
theorem dL_law_213 : decode cL_law 213 = .ok (.iconst 1, 1) := by decide +kernel
theorem dL_law_214 : decode cL_law 214 = .ok (.iadd, 1) := by decide +kernel
theorem dL_law_215 : decode cL_law 215 = .ok (.aaload, 1) := by decide +kernel
theorem dL_law_216 : decode cL_law 216 = .ok (.iconst 2, 1) := by decide +kernel
theorem dL_law_217 : decode cL_law 217 = .ok (.iaload, 1) := by decide +kernel
theorem dL_law_218 : decode cL_law 218 = .ok (.iconst 5, 1) := by decide +kernel
theorem dL_law_219 : decode cL_law 219 = .ok (.if_icmp .eq 5, 3) := by decide +kernel
theorem dL_law_222 : decode cL_law 222 = .ok (.iconst 0, 1) := by decide +kernel
theorem dL_law_223 : decode cL_law 223 = .ok (.ireturn, 1) := by decide +kernel
theorem dL_law_224 : decode cL_law 224 = .ok (.aload_n 1, 1) := by decide +kernel
theorem dL_law_225 : decode cL_law 225 = .ok (.aload_n 2, 1) := by decide +kernel
theorem dL_law_226 : decode cL_law 226 = .ok (.iload 7, 2) := by decide +kernel
theorem dL_law_228 : decode cL_law 228 = .ok (.invokestatic 115, 3) := by decide +kernel
theorem dL_law_231 : decode cL_law 231 = .ok (.istore 9, 2) := by decide +kernel
theorem dL_law_233 : decode cL_law 233 = .ok (.iload 9, 2) := by decide +kernel
theorem dL_law_235 : decode cL_law 235 = .ok (.ifCond .lt 30, 3) := by decide +kernel
theorem dL_law_238 : decode cL_law 238 = .ok (.aload_n 1, 1) := by decide +kernel
theorem dL_law_239 : decode cL_law 239 = .ok (.iload 7, 2) := by decide +kernel
theorem dL_law_241 : decode cL_law 241 = .ok (.invokevirtual 119, 3) := by decide +kernel
theorem dL_law_244 : decode cL_law 244 = .ok (.bipush 100, 2) := by decide +kernel
theorem dL_law_246 : decode cL_law 246 = .ok (.aload 5, 2) := by decide +kernel
theorem dL_law_248 : decode cL_law 248 = .ok (.iload 6, 2) := by decide +kernel
theorem dL_law_250 : decode cL_law 250 = .ok (.aaload, 1) := by decide +kernel
theorem dL_law_251 : decode cL_law 251 = .ok (.iconst 1, 1) := by decide +kernel
theorem dL_law_252 : decode cL_law 252 = .ok (.iaload, 1) := by decide +kernel
theorem dL_law_253 : decode cL_law 253 = .ok (.imul, 1) := by decide +kernel
theorem dL_law_254 : decode cL_law 254 = .ok (.aload 5, 2) := by decide +kernel
theorem dL_law_256 : decode cL_law 256 = .ok (.iload 6, 2) := by decide +kernel
theorem dL_law_258 : decode cL_law 258 = .ok (.aaload, 1) := by decide +kernel
theorem dL_law_259 : decode cL_law 259 = .ok (.iconst 2, 1) := by decide +kernel
theorem dL_law_260 : decode cL_law 260 = .ok (.iaload, 1) := by decide +kernel
theorem dL_law_261 : decode cL_law 261 = .ok (.iadd, 1) := by decide +kernel
theorem dL_law_262 : decode cL_law 262 = .ok (.if_icmp .eq 5, 3) := by decide +kernel
theorem dL_law_265 : decode cL_law 265 = .ok (.iconst 0, 1) := by decide +kernel
theorem dL_law_266 : decode cL_law 266 = .ok (.ireturn, 1) := by decide +kernel
theorem dL_law_267 : decode cL_law 267 = .ok (.iconst 0, 1) := by decide +kernel
theorem dL_law_268 : decode cL_law 268 = .ok (.istore 10, 2) := by decide +kernel
theorem dL_law_270 : decode cL_law 270 = .ok (.iload 10, 2) := by decide +kernel
theorem dL_law_272 : decode cL_law 272 = .ok (.bipush 12, 2) := by decide +kernel
theorem dL_law_274 : decode cL_law 274 = .ok (.if_icmp .ge 85, 3) := by decide +kernel
theorem dL_law_277 : decode cL_law 277 = .ok (.aload_n 2, 1) := by decide +kernel
theorem dL_law_278 : decode cL_law 278 = .ok (.getfield 65, 3) := by decide +kernel
theorem dL_law_281 : decode cL_law 281 = .ok (.iload 10, 2) := by decide +kernel
theorem dL_law_283 : decode cL_law 283 = .ok (.aaload, 1) := by decide +kernel
theorem dL_law_284 : decode cL_law 284 = .ok (.ifnull 75, 3) := by decide +kernel
theorem dL_law_287 : decode cL_law 287 = .ok (.aload_n 1, 1) := by decide +kernel
theorem dL_law_288 : decode cL_law 288 = .ok (.aload_n 2, 1) := by decide +kernel
theorem dL_law_289 : decode cL_law 289 = .ok (.iload 10, 2) := by decide +kernel
theorem dL_law_291 : decode cL_law 291 = .ok (.invokestatic 115, 3) := by decide +kernel
theorem dL_law_294 : decode cL_law 294 = .ok (.istore 11, 2) := by decide +kernel
theorem dL_law_296 : decode cL_law 296 = .ok (.iload 11, 2) := by decide +kernel
theorem dL_law_298 : decode cL_law 298 = .ok (.iload 9, 2) := by decide +kernel
theorem dL_law_300 : decode cL_law 300 = .ok (.if_icmp .lt 53, 3) := by decide +kernel
theorem dL_law_303 : decode cL_law 303 = .ok (.iload 11, 2) := by decide +kernel
theorem dL_law_305 : decode cL_law 305 = .ok (.iload 9, 2) := by decide +kernel
theorem dL_law_307 : decode cL_law 307 = .ok (.if_icmp .ne 13, 3) := by decide +kernel
theorem dL_law_310 : decode cL_law 310 = .ok (.iload 10, 2) := by decide +kernel
theorem dL_law_312 : decode cL_law 312 = .ok (.iload 7, 2) := by decide +kernel
theorem dL_law_314 : decode cL_law 314 = .ok (.if_icmp .lt 6, 3) := by decide +kernel
theorem dL_law_317 : decode cL_law 317 = .ok (.goto 36, 3) := by decide +kernel
theorem dL_law_320 : decode cL_law 320 = .ok (.iload 6, 2) := by decide +kernel
theorem dL_law_322 : decode cL_law 322 = .ok (.istore 12, 2) := by decide +kernel
theorem dL_law_324 : decode cL_law 324 = .ok (.iload 12, 2) := by decide +kernel
theorem dL_law_326 : decode cL_law 326 = .ok (.iload 4, 2) := by decide +kernel
theorem dL_law_328 : decode cL_law 328 = .ok (.if_icmp .ge 25, 3) := by decide +kernel
theorem dL_law_331 : decode cL_law 331 = .ok (.aload 5, 2) := by decide +kernel
theorem dL_law_333 : decode cL_law 333 = .ok (.iload 12, 2) := by decide +kernel
theorem dL_law_335 : decode cL_law 335 = .ok (.iconst 1, 1) := by decide +kernel
theorem dL_law_336 : decode cL_law 336 = .ok (.iadd, 1) := by decide +kernel
theorem dL_law_337 : decode cL_law 337 = .ok (.aaload, 1) := by decide +kernel
theorem dL_law_338 : decode cL_law 338 = .ok (.iconst 1, 1) := by decide +kernel
theorem dL_law_339 : decode cL_law 339 = .ok (.iaload, 1) := by decide +kernel
theorem dL_law_340 : decode cL_law 340 = .ok (.iload 10, 2) := by decide +kernel
theorem dL_law_342 : decode cL_law 342 = .ok (.if_icmp .ne 5, 3) := by decide +kernel
theorem dL_law_345 : decode cL_law 345 = .ok (.iconst 0, 1) := by decide +kernel
theorem dL_law_346 : decode cL_law 346 = .ok (.ireturn, 1) := by decide +kernel
theorem dL_law_347 : decode cL_law 347 = .ok (.iinc 12 2, 3) := by decide +kernel
theorem dL_law_350 : decode cL_law 350 = .ok (.goto (-26), 3) := by decide +kernel
theorem dL_law_353 : decode cL_law 353 = .ok (.iinc 10 1, 3) := by decide +kernel
theorem dL_law_356 : decode cL_law 356 = .ok (.goto (-86), 3) := by decide +kernel
theorem dL_law_359 : decode cL_law 359 = .ok (.aload_n 2, 1) := by decide +kernel
theorem dL_law_360 : decode cL_law 360 = .ok (.iload 7, 2) := by decide +kernel
theorem dL_law_362 : decode cL_law 362 = .ok (.invokevirtual 122, 3) := by decide +kernel
theorem dL_law_365 : decode cL_law 365 = .ok (.invokestatic 125, 3) := by decide +kernel
theorem dL_law_368 : decode cL_law 368 = .ok (.istore 10, 2) := by decide +kernel
theorem dL_law_370 : decode cL_law 370 = .ok (.aload_n 2, 1) := by decide +kernel
theorem dL_law_371 : decode cL_law 371 = .ok (.iconst 0, 1) := by decide +kernel
theorem dL_law_372 : decode cL_law 372 = .ok (.aload 5, 2) := by decide +kernel
theorem dL_law_374 : decode cL_law 374 = .ok (.iload 6, 2) := by decide +kernel
theorem dL_law_376 : decode cL_law 376 = .ok (.aaload, 1) := by decide +kernel
theorem dL_law_377 : decode cL_law 377 = .ok (.iconst 1, 1) := by decide +kernel
theorem dL_law_378 : decode cL_law 378 = .ok (.iaload, 1) := by decide +kernel
theorem dL_law_379 : decode cL_law 379 = .ok (.aload 5, 2) := by decide +kernel
theorem dL_law_381 : decode cL_law 381 = .ok (.iload 6, 2) := by decide +kernel
theorem dL_law_383 : decode cL_law 383 = .ok (.aaload, 1) := by decide +kernel
theorem dL_law_384 : decode cL_law 384 = .ok (.iconst 2, 1) := by decide +kernel
theorem dL_law_385 : decode cL_law 385 = .ok (.iaload, 1) := by decide +kernel
theorem dL_law_386 : decode cL_law 386 = .ok (.invokevirtual 130, 3) := by decide +kernel
theorem dL_law_389 : decode cL_law 389 = .ok (.ifCond .ne 34, 3) := by decide +kernel
theorem dL_law_392 : decode cL_law 392 = .ok (.aload_n 2, 1) := by decide +kernel
theorem dL_law_393 : decode cL_law 393 = .ok (.iload 8, 2) := by decide +kernel
theorem dL_law_395 : decode cL_law 395 = .ok (.iconst 4, 1) := by decide +kernel
theorem dL_law_396 : decode cL_law 396 = .ok (.if_icmp .ne 7, 3) := by decide +kernel
theorem dL_law_399 : decode cL_law 399 = .ok (.iconst 2, 1) := by decide +kernel
theorem dL_law_400 : decode cL_law 400 = .ok (.goto 4, 3) := by decide +kernel
theorem dL_law_403 : decode cL_law 403 = .ok (.iconst 1, 1) := by decide +kernel
theorem dL_law_404 : decode cL_law 404 = .ok (.iload 7, 2) := by decide +kernel
theorem dL_law_406 : decode cL_law 406 = .ok (.iconst 5, 1) := by decide +kernel
theorem dL_law_407 : decode cL_law 407 = .ok (.invokevirtual 130, 3) := by decide +kernel
theorem dL_law_410 : decode cL_law 410 = .ok (.ifCond .ne 13, 3) := by decide +kernel
theorem dL_law_413 : decode cL_law 413 = .ok (.aload_n 2, 1) := by decide +kernel
theorem dL_law_414 : decode cL_law 414 = .ok (.getfield 80, 3) := by decide +kernel
theorem dL_law_417 : decode cL_law 417 = .ok (.iconst 0, 1) := by decide +kernel
theorem dL_law_418 : decode cL_law 418 = .ok (.iaload, 1) := by decide +kernel
theorem dL_law_419 : decode cL_law 419 = .ok (.iload_n 3, 1) := by decide +kernel
theorem dL_law_420 : decode cL_law 420 = .ok (.if_icmp .le 5, 3) := by decide +kernel
theorem dL_law_423 : decode cL_law 423 = .ok (.iconst 0, 1) := by decide +kernel
theorem dL_law_424 : decode cL_law 424 = .ok (.ireturn, 1) := by decide +kernel
theorem dL_law_425 : decode cL_law 425 = .ok (.iload 8, 2) := by decide +kernel
theorem dL_law_427 : decode cL_law 427 = .ok (.iconst 4, 1) := by decide +kernel
theorem dL_law_428 : decode cL_law 428 = .ok (.if_icmp .ge 19, 3) := by decide +kernel
theorem dL_law_431 : decode cL_law 431 = .ok (.aload_n 2, 1) := by decide +kernel
theorem dL_law_432 : decode cL_law 432 = .ok (.iload 7, 2) := by decide +kernel
theorem dL_law_434 : decode cL_law 434 = .ok (.invokevirtual 122, 3) := by decide +kernel
theorem dL_law_437 : decode cL_law 437 = .ok (.invokestatic 125, 3) := by decide +kernel
theorem dL_law_440 : decode cL_law 440 = .ok (.iload 10, 2) := by decide +kernel
theorem dL_law_442 : decode cL_law 442 = .ok (.iconst 1, 1) := by decide +kernel
theorem dL_law_443 : decode cL_law 443 = .ok (.iadd, 1) := by decide +kernel
theorem dL_law_444 : decode cL_law 444 = .ok (.if_icmp .ne 20, 3) := by decide +kernel
theorem dL_law_447 : decode cL_law 447 = .ok (.aload_n 1, 1) := by decide +kernel
theorem dL_law_448 : decode cL_law 448 = .ok (.iconst 2, 1) := by decide +kernel
theorem dL_law_449 : decode cL_law 449 = .ok (.invokevirtual 133, 3) := by decide +kernel
theorem dL_law_452 : decode cL_law 452 = .ok (.iconst 2, 1) := by decide +kernel
theorem dL_law_453 : decode cL_law 453 = .ok (.if_icmp .ne 11, 3) := by decide +kernel
theorem dL_law_456 : decode cL_law 456 = .ok (.aload_n 2, 1) := by decide +kernel
theorem dL_law_457 : decode cL_law 457 = .ok (.aload_n 1, 1) := by decide +kernel
theorem dL_law_458 : decode cL_law 458 = .ok (.invokevirtual 136, 3) := by decide +kernel
theorem dL_law_461 : decode cL_law 461 = .ok (.ifCond .ne 5, 3) := by decide +kernel
theorem dL_law_464 : decode cL_law 464 = .ok (.iconst 0, 1) := by decide +kernel
theorem dL_law_465 : decode cL_law 465 = .ok (.ireturn, 1) := by decide +kernel
theorem dL_law_466 : decode cL_law 466 = .ok (.iinc 6 2, 3) := by decide +kernel
theorem dL_law_469 : decode cL_law 469 = .ok (.goto (-322), 3) := by decide +kernel
theorem dL_law_472 : decode cL_law 472 = .ok (.aload_n 1, 1) := by decide +kernel
theorem dL_law_473 : decode cL_law 473 = .ok (.iconst 2, 1) := by decide +kernel
theorem dL_law_474 : decode cL_law 474 = .ok (.invokevirtual 98, 3) := by decide +kernel
theorem dL_law_477 : decode cL_law 477 = .ok (.ifCond .ne 7, 3) := by decide +kernel
theorem dL_law_480 : decode cL_law 480 = .ok (.iconst 1, 1) := by decide +kernel
theorem dL_law_481 : decode cL_law 481 = .ok (.goto 4, 3) := by decide +kernel
theorem dL_law_484 : decode cL_law 484 = .ok (.iconst 0, 1) := by decide +kernel
theorem dL_law_485 : decode cL_law 485 = .ok (.ireturn, 1) := by decide +kernel
theorem dL_worth_0 : decode cL_worth 0 = .ok (.aload_n 0, 1) := by decide +kernel
theorem dL_worth_1 : decode cL_worth 1 = .ok (.iload_n 2, 1) := by decide +kernel
theorem dL_worth_2 : decode cL_worth 2 = .ok (.invokevirtual 119, 3) := by decide +kernel
theorem dL_worth_5 : decode cL_worth 5 = .ok (.istore_n 3, 1) := by decide +kernel
theorem dL_worth_6 : decode cL_worth 6 = .ok (.iload_n 3, 1) := by decide +kernel
theorem dL_worth_7 : decode cL_worth 7 = .ok (.ifCond .ge 5, 3) := by decide +kernel
theorem dL_worth_10 : decode cL_worth 10 = .ok (.iconst (-1), 1) := by decide +kernel
theorem dL_worth_11 : decode cL_worth 11 = .ok (.ireturn, 1) := by decide +kernel
theorem dL_worth_12 : decode cL_worth 12 = .ok (.sipush 1000, 3) := by decide +kernel
theorem dL_worth_15 : decode cL_worth 15 = .ok (.aload_n 1, 1) := by decide +kernel
theorem dL_worth_16 : decode cL_worth 16 = .ok (.getfield 65, 3) := by decide +kernel
theorem dL_worth_19 : decode cL_worth 19 = .ok (.iload_n 2, 1) := by decide +kernel
theorem dL_worth_20 : decode cL_worth 20 = .ok (.aaload, 1) := by decide +kernel
theorem dL_worth_21 : decode cL_worth 21 = .ok (.iconst 2, 1) := by decide +kernel
theorem dL_worth_22 : decode cL_worth 22 = .ok (.iaload, 1) := by decide +kernel
theorem dL_worth_23 : decode cL_worth 23 = .ok (.imul, 1) := by decide +kernel
theorem dL_worth_24 : decode cL_worth 24 = .ok (.iconst 1, 1) := by decide +kernel
theorem dL_worth_25 : decode cL_worth 25 = .ok (.aload_n 0, 1) := by decide +kernel
theorem dL_worth_26 : decode cL_worth 26 = .ok (.aload_n 1, 1) := by decide +kernel
theorem dL_worth_27 : decode cL_worth 27 = .ok (.getfield 80, 3) := by decide +kernel
theorem dL_worth_30 : decode cL_worth 30 = .ok (.iconst 1, 1) := by decide +kernel
theorem dL_worth_31 : decode cL_worth 31 = .ok (.iaload, 1) := by decide +kernel
theorem dL_worth_32 : decode cL_worth 32 = .ok (.aload_n 1, 1) := by decide +kernel
theorem dL_worth_33 : decode cL_worth 33 = .ok (.getfield 80, 3) := by decide +kernel
theorem dL_worth_36 : decode cL_worth 36 = .ok (.iconst 2, 1) := by decide +kernel
theorem dL_worth_37 : decode cL_worth 37 = .ok (.iaload, 1) := by decide +kernel
theorem dL_worth_38 : decode cL_worth 38 = .ok (.iload_n 3, 1) := by decide +kernel
theorem dL_worth_39 : decode cL_worth 39 = .ok (.bipush 100, 2) := by decide +kernel
theorem dL_worth_41 : decode cL_worth 41 = .ok (.idiv, 1) := by decide +kernel
theorem dL_worth_42 : decode cL_worth 42 = .ok (.iload_n 3, 1) := by decide +kernel
theorem dL_worth_43 : decode cL_worth 43 = .ok (.bipush 100, 2) := by decide +kernel
theorem dL_worth_45 : decode cL_worth 45 = .ok (.irem, 1) := by decide +kernel
theorem dL_worth_46 : decode cL_worth 46 = .ok (.iconst 0, 1) := by decide +kernel
theorem dL_worth_47 : decode cL_worth 47 = .ok (.invokevirtual 140, 3) := by decide +kernel
theorem dL_worth_50 : decode cL_worth 50 = .ok (.iadd, 1) := by decide +kernel
theorem dL_worth_51 : decode cL_worth 51 = .ok (.idiv, 1) := by decide +kernel
theorem dL_worth_52 : decode cL_worth 52 = .ok (.ireturn, 1) := by decide +kernel
end
section
/-! THE QUIET MACHINE: a heap of numbered cells under the real one (ad: where each lies), a contract and a judgement over it; the kit's rows said of it once. -/
/-- the classes by their numbers (3, the marks, is never made here: a stand-in) -/
abbrev q_cls : List vw_C := [(RX0, TX0, 8), (RX1, TX1, 5), (RX2, TX2, 5), (RX0, TX0, 8), (RX4, TX4, 4), (RX5, TX5, 4), (RX6, TX6, 15), (RX7, TX7, 5), (RX8, TX8, 4), (RX9, TX9, 11), (RX10, TX10, 9)]
/-- a cell: an array (its type's number; contents), or an object (its class's place in q_cls; its fields). A reference is a cell's number; .float k stands for a fixed reference (a static's array) -/
abbrev qC : Type := (Nat × vp_A) ⊕ (Nat × List Value)
abbrev qH : Type := (Nat → qC) × Nat
/-- what a run has fixed: the classes' numbers and slots, the array classes, the fixed references, where the run's own cells begin -/
abbrev qG : Type := va_G × (Nat → ClassId) × (Nat → Nat) × Nat
def q_A (g : qG) : Nat → Prop := fun q => g.2.2.2 ≤ q
def q_wv (n : Nat) (v : Value) : Prop := ∀ i : Nat, v = .ref i → i < n
def q_tv (g : qG) (ad : Nat → Nat) (v : Value) : Value := match v with
  | .ref i => .ref (ad i)
  | .float k => .ref (g.2.2.1 k.toNat)
  | .int z => .int z
  | .long z => .long z
  | .double z => .double z
  | .null => .null
  | .retAddr z => .retAddr z
theorem q_tv_cat (g : qG) (ad : Nat → Nat) (v : Value) : (q_tv g ad v).category = v.category := by cases v <;> rfl
def q_wc (n : Nat) (c : qC) : Prop := match c with
  | .inl (_, (_, .inr (.inr (.inr (.inr f))))) => ∀ k i : Nat, f k = some i → i < n
  | .inl _ => True
  | .inr (_, fs) => ∀ v ∈ fs, q_wv n v
def q_ta (ad : Nat → Nat) (a : vp_A) : vp_A := match a with
  | (N, .inl f) => (N, .inl f)
  | (N, .inr (.inl f)) => (N, .inr (.inl f))
  | (N, .inr (.inr (.inl f))) => (N, .inr (.inr (.inl f)))
  | (N, .inr (.inr (.inr (.inl f)))) => (N, .inr (.inr (.inr (.inl f))))
  | (N, .inr (.inr (.inr (.inr f)))) => (N, .inr (.inr (.inr (.inr (fun k => (f k).map ad)))))
def q_tc (g : qG) (ad : Nat → Nat) (c : qC) : va_E := match c with
  | .inl (k, a) => .inl (g.2.1 k, q_ta ad a)
  | .inr (ci, fs) => .inr (ci, fs.map (q_tv g ad))
def q_ws (g : qG) (ad : Nat → Nat) (h : qH) : va_W := (List.range h.2).map fun i => (ad i, q_tc g ad (h.1 i))
def q_set (h : qH) (i : Nat) (c : qC) : qH := (fun j => if j = i then c else h.1 j, h.2)
def q_push (h : qH) (c : qC) : qH := (fun j => if j = h.2 then c else h.1 j, h.2 + 1)
def q_up (ad : Nat → Nat) (n q : Nat) : Nat → Nat := fun j => if j = n then q else ad j
def q_wh (h : qH) : Prop := ∀ i : Nat, i < h.2 → q_wc h.2 (h.1 i)
def q_ag (n : Nat) (ad ad' : Nat → Nat) : Prop := ∀ i : Nat, i < n → ad' i = ad i
theorem q_ag_rf {n : Nat} {ad : Nat → Nat} : q_ag n ad ad := fun _ _ => rfl
theorem q_ag_tr {n n1 : Nat} {a b c : Nat → Nat} (h : q_ag n a b) (h1 : q_ag n1 b c) (hn : n ≤ n1) : q_ag n a c := fun i hi => (h1 i (Nat.lt_of_lt_of_le hi hn)).trans (h i hi)
theorem q_ag_up {n n1 q : Nat} {a b : Nat → Nat} (h : q_ag n a b) (hn : n ≤ n1) : q_ag n a (q_up b n1 q) := fun i hi => by
  unfold q_up
  rw [if_neg (by omega)]
  exact h i hi
theorem q_wv_mono {n m : Nat} {v : Value} (h : q_wv n v) (hm : n ≤ m) : q_wv m v := fun i hi => Nat.lt_of_lt_of_le (h i hi) hm
theorem q_wc_mono {n m : Nat} {c : qC} (h : q_wc n c) (hm : n ≤ m) : q_wc m c := by
  unfold q_wc at h ⊢
  split
  · rename_i f
    exact fun k i hk => Nat.lt_of_lt_of_le (h k i hk) hm
  · trivial
  · rename_i fs
    exact fun v hv => q_wv_mono (h v hv) hm
theorem q_wi (n : Nat) (z : Int32) : q_wv n (.int z) := fun _ h => by cases h
theorem q_wl (n : Nat) (z : Int64) : q_wv n (.long z) := fun _ h => by cases h
theorem q_wd (n : Nat) (z : UInt64) : q_wv n (.double z) := fun _ h => by cases h
theorem q_wf (n : Nat) (z : UInt32) : q_wv n (.float z) := fun _ h => by cases h
theorem q_wn (n : Nat) : q_wv n .null := fun _ h => by cases h
theorem q_wr {n i : Nat} (h : i < n) : q_wv n (.ref i) := fun _ h1 => by cases h1; exact h
theorem q_tv_ag {g : qG} {n : Nat} {ad ad' : Nat → Nat} (h : q_ag n ad ad') {v : Value} (hv : q_wv n v) : q_tv g ad' v = q_tv g ad v := by
  cases v <;> first | rfl | (rename_i a; show Value.ref _ = Value.ref _; rw [h a (hv a rfl)])
theorem q_tvs_ag {g : qG} {n : Nat} {ad ad' : Nat → Nat} (h : q_ag n ad ad') {vs : List Value} (hv : ∀ v ∈ vs, q_wv n v) : vs.map (q_tv g ad') = vs.map (q_tv g ad) := List.map_congr_left fun v hm => q_tv_ag h (hv v hm)
theorem q_tc_ag {g : qG} {n : Nat} {ad ad' : Nat → Nat} (h : q_ag n ad ad') {c : qC} (hc : q_wc n c) : q_tc g ad' c = q_tc g ad c := by
  rcases c with ⟨k, N, f | f | f | f | f⟩ | ⟨ci, fs⟩
  · rfl
  · rfl
  · rfl
  · rfl
  · show Sum.inl (_, (N, Sum.inr (Sum.inr (Sum.inr (Sum.inr _))))) = Sum.inl (_, (N, Sum.inr (Sum.inr (Sum.inr (Sum.inr _)))))
    congr 7
    funext j
    cases hf : f j with
    | none => rfl
    | some i => show some _ = some _; rw [h i (hc j i hf)]
  · show Sum.inr (ci, _) = Sum.inr (ci, _)
    rw [q_tvs_ag h hc]
theorem q_ws_get {g : qG} {ad : Nat → Nat} {h : qH} {i : Nat} (hi : i < h.2) : (q_ws g ad h)[i]? = some (ad i, q_tc g ad (h.1 i)) := by
  simp [q_ws, hi]
theorem q_ws_set {g : qG} {ad : Nat → Nat} {h : qH} {i : Nat} {c : qC} (hi : i < h.2) : (q_ws g ad h).set i (ad i, q_tc g ad c) = q_ws g ad (q_set h i c) := by
  apply List.ext_getElem?
  intro k
  have hlen : (q_ws g ad h).length = h.2 := by simp [q_ws]
  by_cases hk : k < h.2
  · rw [q_ws_get (h := q_set h i c) hk]
    by_cases e : k = i
    · subst e
      rw [List.getElem?_set_self (by rw [hlen]; exact hk)]
      simp [q_set]
    · rw [List.getElem?_set_ne (Ne.symm e), q_ws_get hk]
      simp [q_set, e]
  · rw [List.getElem?_eq_none (by rw [List.length_set, hlen]; omega), List.getElem?_eq_none (by simp [q_ws, q_set]; omega)]
theorem q_ws_push {g : qG} {ad : Nat → Nat} {h : qH} (hw : q_wh h) (q : Nat) (c : qC) : q_ws g ad h ++ [(q, q_tc g (q_up ad h.2 q) c)] = q_ws g (q_up ad h.2 q) (q_push h c) := by
  have e : (List.range h.2).map (fun i => (q_up ad h.2 q i, q_tc g (q_up ad h.2 q) ((q_push h c).1 i))) = q_ws g ad h := by
    apply List.map_congr_left
    intro i hi
    have hi : i < h.2 := List.mem_range.mp hi
    have h1 : (q_push h c).1 i = h.1 i := by simp [q_push, Nat.ne_of_lt hi]
    rw [h1, q_tc_ag (q_ag_up q_ag_rf (Nat.le_refl h.2)) (hw i hi)]
    simp [q_up, Nat.ne_of_lt hi]
  show _ = (List.range (h.2 + 1)).map _
  rw [List.range_succ, List.map_append, e]
  simp [q_push, q_up]
theorem q_wh_set {h : qH} (hw : q_wh h) {i : Nat} {c : qC} (hc : q_wc h.2 c) : q_wh (q_set h i c) := by
  intro j hj
  by_cases e : j = i
  · simpa [q_set, e] using hc
  · simpa [q_set, e] using hw j hj
theorem q_wh_push {h : qH} (hw : q_wh h) {c : qC} (hc : q_wc (h.2 + 1) c) : q_wh (q_push h c) := by
  intro j hj
  by_cases e : j = h.2
  · simpa [q_push, e] using hc
  · have : j < h.2 := by
      have : j < h.2 + 1 := hj
      omega
    simpa [q_push, e] using q_wc_mono (hw j this) (Nat.le_succ _)
/-! locals -/
def q_lo (g : qG) (ad : Nat → Nat) (ls : Array Slot) (nL : Nat) (lo : List (Option Value)) : Prop := ls.size = nL ∧ lv_wf ls ∧ ∀ (i : Nat) (v : Value), lo[i]? = some (some v) → ls[i]? = some (.val (q_tv g ad v))
def q_as (g : qG) (ad : Nat → Nat) (lo : List (Option Value)) : List (Nat × Value) := (List.range lo.length).filterMap fun i => match lo[i]? with
  | some (some v) => some (i, q_tv g ad v)
  | _ => none
theorem q_as_mem {g : qG} {ad : Nat → Nat} {lo : List (Option Value)} {i : Nat} {w : Value} : (i, w) ∈ q_as g ad lo ↔ ∃ v, lo[i]? = some (some v) ∧ w = q_tv g ad v := by
  constructor
  · intro h
    obtain ⟨j, -, hj⟩ := List.mem_filterMap.mp h
    split at hj
    · rename_i v hv
      cases hj
      exact ⟨v, hv, rfl⟩
    · cases hj
  · rintro ⟨v, hv, rfl⟩
    refine List.mem_filterMap.mpr ⟨i, List.mem_range.mpr (List.getElem?_eq_some_iff.mp hv).1, ?_⟩
    rw [hv]
theorem q_lo_has {g : qG} {ad : Nat → Nat} {ls : Array Slot} {nL : Nat} {lo : List (Option Value)} (h : q_lo g ad ls nL lo) : lv_has ls nL (q_as g ad lo) :=
  ⟨h.1, h.2.1, fun q hq => by
    obtain ⟨v, h1, h2⟩ := q_as_mem.mp (show (q.1, q.2) ∈ _ from hq)
    rw [h2]
    exact h.2.2 _ _ h1⟩
def q_ok1 (lo : List (Option Value)) (i : Nat) : Bool := match i with
  | 0 => true
  | j + 1 => match lo[j]? with
    | some (some (.long _)) => false
    | some (some (.double _)) => false
    | _ => true
theorem q_ok1_cat {lo : List (Option Value)} {j : Nat} {v : Value} (h : q_ok1 lo (j + 1) = true) (hv : lo[j]? = some (some v)) : v.category = 1 := by
  simp only [q_ok1, hv] at h
  cases v <;> simp_all [Value.category]
theorem q_lo_st1 {g : qG} {ad : Nat → Nat} {ls : Array Slot} {nL i : Nat} {lo : List (Option Value)} {v : Value} (ho : q_ok1 lo i = true)
    (h : lv_has ls nL ((i, q_tv g ad v) :: (q_as g ad lo).filter (fun q => !(q.1 == i) && !(q.1 + 1 == i && q.2.category == 2)))) : q_lo g ad ls nL (lo.set i (some v)) := by
  refine ⟨h.1, h.2.1, fun j w hj => ?_⟩
  by_cases e : j = i
  · subst e
    have hl : j < lo.length := by
      have := (List.getElem?_eq_some_iff.mp hj).1
      rwa [List.length_set] at this
    rw [List.getElem?_set_self hl] at hj
    cases hj
    exact h.2.2 (j, _) List.mem_cons_self
  · rw [List.getElem?_set_ne (Ne.symm e)] at hj
    refine h.2.2 (j, q_tv g ad w) (List.mem_cons_of_mem _ (List.mem_filter.mpr ⟨q_as_mem.mpr ⟨w, hj, rfl⟩, ?_⟩))
    have h2 : ¬ (j + 1 = i ∧ w.category = 2) := by
      rintro ⟨e1, e2⟩
      subst e1
      have := q_ok1_cat ho hj
      omega
    show (!(j == i) && !(j + 1 == i && (q_tv g ad w).category == 2)) = true
    rw [q_tv_cat]
    by_cases e1 : j + 1 = i
    · have : ¬ w.category = 2 := fun q => h2 ⟨e1, q⟩
      simp [e, this]
    · simp [e, e1]
theorem q_lo_st2 {g : qG} {ad : Nat → Nat} {ls : Array Slot} {nL i : Nat} {lo : List (Option Value)} {v : Value} (ho : q_ok1 lo i = true)
    (h : lv_has ls nL ((i, q_tv g ad v) :: (q_as g ad lo).filter (fun q => !(q.1 == i) && (!(q.1 == i + 1) && !(q.1 + 1 == i && q.2.category == 2))))) : q_lo g ad ls nL ((lo.set i (some v)).set (i + 1) none) := by
  refine ⟨h.1, h.2.1, fun j w hj => ?_⟩
  by_cases e2 : j = i + 1
  · subst e2
    by_cases hl : i + 1 < (lo.set i (some v)).length
    · rw [List.getElem?_set_self hl] at hj
      cases hj
    · rw [List.getElem?_eq_none (by rw [List.length_set]; omega)] at hj
      cases hj
  · rw [List.getElem?_set_ne (Ne.symm e2)] at hj
    by_cases e : j = i
    · subst e
      have hl : j < lo.length := by
        have := (List.getElem?_eq_some_iff.mp hj).1
        rwa [List.length_set] at this
      rw [List.getElem?_set_self hl] at hj
      cases hj
      exact h.2.2 (j, _) List.mem_cons_self
    · rw [List.getElem?_set_ne (Ne.symm e)] at hj
      refine h.2.2 (j, q_tv g ad w) (List.mem_cons_of_mem _ (List.mem_filter.mpr ⟨q_as_mem.mpr ⟨w, hj, rfl⟩, ?_⟩))
      have h2 : ¬ (j + 1 = i ∧ w.category = 2) := by
        rintro ⟨e1, e3⟩
        subst e1
        have := q_ok1_cat ho hj
        omega
      show (!(j == i) && (!(j == i + 1) && !(j + 1 == i && (q_tv g ad w).category == 2))) = true
      rw [q_tv_cat]
      by_cases e1 : j + 1 = i
      · have : ¬ w.category = 2 := fun q => h2 ⟨e1, q⟩
        simp [e, e2, this]
      · simp [e, e1, e2]
end
section
/-! the words that stay, out of the tables -/
def q_W : List Cond := lw_tbl.filter goodWord
theorem q_in {w : Cond} (h1 : w ∈ lw_tbl) (h2 : goodWord w = true) : w ∈ q_W := List.mem_filter.mpr ⟨h1, h2⟩
/-- the words that aren't 'good' but stay all the same -/
def q_nest (w : Cond) : Bool := match w with
  | .fieldLinkNest .. => true
  | .methodLinkNest .. => true
  | .castable .. => true
  | .declares .. => true
  | _ => false
def q_N : List Cond := lw_tbl.filter q_nest
theorem q_inN {w : Cond} (h1 : w ∈ lw_tbl) (h2 : q_nest w = true) : w ∈ q_N := List.mem_filter.mpr ⟨h1, h2⟩
theorem q_nest_warm {w : Cond} (hw : q_nest w = true) {s U : State} (hW : s.WarmedH U.vm) (h : va_Nw w s) : va_Nw w U := by
  cases w <;> first | exact va_Nw.warmF hW h | exact va_Nw.warmM hW h | exact va_Nw.warmC hW h | exact va_Nw.warmD hW h | (exact absurd hw (by simp [q_nest]))
end
section
theorem w_fn_X0_58 : Cond.fieldLinkNest RX0 58 "RoverPlanner$Plan" "number" "I" "RoverPlanner" ∈ q_N := q_inN (List.mem_of_getElem? (i := 308) (by decide +kernel)) (by decide +kernel)
theorem w_m_X0_61 : Cond.methodLink RX0 61 Lib.Math.min.name ∈ q_W := q_in (List.mem_of_getElem? (i := 533) (by decide +kernel)) (by decide +kernel)
theorem w_m_X0_44 : Cond.methodLink RX0 44 yX5_has ∈ q_W := q_in (List.mem_of_getElem? (i := 473) (by decide +kernel)) (by decide +kernel)
theorem w_m_X0_50 : Cond.methodLink RX0 50 yX5_tell ∈ q_W := q_in (List.mem_of_getElem? (i := 474) (by decide +kernel)) (by decide +kernel)
theorem w_m_X0_54 : Cond.methodLink RX0 54 yX0_perform ∈ q_W := q_in (List.mem_of_getElem? (i := 475) (by decide +kernel)) (by decide +kernel)
theorem w_f_X0_25 : Cond.fieldLink RX0 25 "RoverPlanner$Doer" "lastReason" "I" ∈ q_W := q_in (List.mem_of_getElem? (i := 253) (by decide +kernel)) (by decide +kernel)
theorem w_in_X0_perform : Cond.instanceMethod yX0_perform ∈ q_W := q_in (List.mem_of_getElem? (i := 476) (by decide +kernel)) (by decide +kernel)
theorem w_se_X0_perform : Cond.selects RX0 yX0_perform yX0_perform ∈ q_W := q_in (List.mem_of_getElem? (i := 477) (by decide +kernel)) (by decide +kernel)
theorem w_in_X5_tell : Cond.instanceMethod yX5_tell ∈ q_W := q_in (List.mem_of_getElem? (i := 445) (by decide +kernel)) (by decide +kernel)
theorem w_se_X5_tell : Cond.selects RX5 yX5_tell yX5_tell ∈ q_W := q_in (List.mem_of_getElem? (i := 446) (by decide +kernel)) (by decide +kernel)
theorem w_in_X5_has : Cond.instanceMethod yX5_has ∈ q_W := q_in (List.mem_of_getElem? (i := 440) (by decide +kernel)) (by decide +kernel)
theorem w_se_X5_has : Cond.selects RX5 yX5_has yX5_has ∈ q_W := q_in (List.mem_of_getElem? (i := 441) (by decide +kernel)) (by decide +kernel)
theorem w_fn_X0_88 : Cond.fieldLinkNest RX0 88 "RoverPlanner$Rover" "isHeating" "Z" "RoverPlanner" ∈ q_N := q_inN (List.mem_of_getElem? (i := 201) (by decide +kernel)) (by decide +kernel)
theorem w_f_X0_12 : Cond.fieldLink RX0 12 "RoverPlanner$Doer" "undo" "LRoverPlanner$Rover;" ∈ q_W := q_in (List.mem_of_getElem? (i := 248) (by decide +kernel)) (by decide +kernel)
theorem w_m_X0_66 : Cond.methodLink RX0 66 yX6_copyFrom ∈ q_W := q_in (List.mem_of_getElem? (i := 479) (by decide +kernel)) (by decide +kernel)
theorem w_in_X6_copyFrom : Cond.instanceMethod yX6_copyFrom ∈ q_W := q_in (List.mem_of_getElem? (i := 466) (by decide +kernel)) (by decide +kernel)
theorem w_se_X6_copyFrom : Cond.selects RX6 yX6_copyFrom yX6_copyFrom ∈ q_W := q_in (List.mem_of_getElem? (i := 467) (by decide +kernel)) (by decide +kernel)
theorem w_m_X0_70 : Cond.methodLink RX0 70 yX0_drive ∈ q_W := q_in (List.mem_of_getElem? (i := 480) (by decide +kernel)) (by decide +kernel)
theorem w_in_X0_drive : Cond.instanceMethod yX0_drive ∈ q_W := q_in (List.mem_of_getElem? (i := 482) (by decide +kernel)) (by decide +kernel)
theorem w_se_X0_drive : Cond.selects RX0 yX0_drive yX0_drive ∈ q_W := q_in (List.mem_of_getElem? (i := 5) (by decide +kernel)) (by decide +kernel)
theorem w_m_X0_74 : Cond.methodLink RX0 74 yX0_takeImage ∈ q_W := q_in (List.mem_of_getElem? (i := 547) (by decide +kernel)) (by decide +kernel)
theorem w_in_X0_takeImage : Cond.instanceMethod yX0_takeImage ∈ q_W := q_in (List.mem_of_getElem? (i := 549) (by decide +kernel)) (by decide +kernel)
theorem w_se_X0_takeImage : Cond.selects RX0 yX0_takeImage yX0_takeImage ∈ q_W := q_in (List.mem_of_getElem? (i := 11) (by decide +kernel)) (by decide +kernel)
theorem w_m_X0_77 : Cond.methodLink RX0 77 yX0_takeTouch ∈ q_W := q_in (List.mem_of_getElem? (i := 594) (by decide +kernel)) (by decide +kernel)
theorem w_in_X0_takeTouch : Cond.instanceMethod yX0_takeTouch ∈ q_W := q_in (List.mem_of_getElem? (i := 596) (by decide +kernel)) (by decide +kernel)
theorem w_se_X0_takeTouch : Cond.selects RX0 yX0_takeTouch yX0_takeTouch ∈ q_W := q_in (List.mem_of_getElem? (i := 13) (by decide +kernel)) (by decide +kernel)
theorem w_m_X0_80 : Cond.methodLink RX0 80 yX0_transmit ∈ q_W := q_in (List.mem_of_getElem? (i := 598) (by decide +kernel)) (by decide +kernel)
theorem w_in_X0_transmit : Cond.instanceMethod yX0_transmit ∈ q_W := q_in (List.mem_of_getElem? (i := 600) (by decide +kernel)) (by decide +kernel)
theorem w_se_X0_transmit : Cond.selects RX0 yX0_transmit yX0_transmit ∈ q_W := q_in (List.mem_of_getElem? (i := 14) (by decide +kernel)) (by decide +kernel)
theorem w_m_X0_84 : Cond.methodLink RX0 84 yX0_rest ∈ q_W := q_in (List.mem_of_getElem? (i := 624) (by decide +kernel)) (by decide +kernel)
theorem w_in_X0_rest : Cond.instanceMethod yX0_rest ∈ q_W := q_in (List.mem_of_getElem? (i := 626) (by decide +kernel)) (by decide +kernel)
theorem w_se_X0_rest : Cond.selects RX0 yX0_rest yX0_rest ∈ q_W := q_in (List.mem_of_getElem? (i := 17) (by decide +kernel)) (by decide +kernel)
theorem w_m_X0_92 : Cond.methodLink RX0 92 yX0_clean ∈ q_W := q_in (List.mem_of_getElem? (i := 631) (by decide +kernel)) (by decide +kernel)
theorem w_in_X0_clean : Cond.instanceMethod yX0_clean ∈ q_W := q_in (List.mem_of_getElem? (i := 633) (by decide +kernel)) (by decide +kernel)
theorem w_se_X0_clean : Cond.selects RX0 yX0_clean yX0_clean ∈ q_W := q_in (List.mem_of_getElem? (i := 18) (by decide +kernel)) (by decide +kernel)
theorem w_fn_X0_112 : Cond.fieldLinkNest RX0 112 "RoverPlanner$Rover" "temperature" "I" "RoverPlanner" ∈ q_N := q_inN (List.mem_of_getElem? (i := 197) (by decide +kernel)) (by decide +kernel)
theorem w_fn_X0_96 : Cond.fieldLinkNest RX0 96 "RoverPlanner$Rover" "time" "I" "RoverPlanner" ∈ q_N := q_inN (List.mem_of_getElem? (i := 185) (by decide +kernel)) (by decide +kernel)
theorem w_fn_X0_106 : Cond.fieldLinkNest RX0 106 "RoverPlanner$Rover" "clearness" "I" "RoverPlanner" ∈ q_N := q_inN (List.mem_of_getElem? (i := 199) (by decide +kernel)) (by decide +kernel)
theorem w_m_X0_118 : Cond.methodLink RX0 118 Lib.Math.max.name ∈ q_W := q_in (List.mem_of_getElem? (i := 539) (by decide +kernel)) (by decide +kernel)
theorem w_fn_X0_103 : Cond.fieldLinkNest RX0 103 "RoverPlanner$Rover" "battery" "I" "RoverPlanner" ∈ q_N := q_inN (List.mem_of_getElem? (i := 195) (by decide +kernel)) (by decide +kernel)
theorem w_m_X0_109 : Cond.methodLink RX0 109 yX0_powerBy ∈ q_W := q_in (List.mem_of_getElem? (i := 530) (by decide +kernel)) (by decide +kernel)
theorem w_f_X0_18 : Cond.fieldLink RX0 18 "RoverPlanner$Doer" "capacity" "I" ∈ q_W := q_in (List.mem_of_getElem? (i := 249) (by decide +kernel)) (by decide +kernel)
theorem w_m_X0_115 : Cond.methodLink RX0 115 yX0_airBy ∈ q_W := q_in (List.mem_of_getElem? (i := 536) (by decide +kernel)) (by decide +kernel)
theorem w_st_X0_airBy : Cond.static yX0_airBy ∈ q_W := q_in (List.mem_of_getElem? (i := 537) (by decide +kernel)) (by decide +kernel)
theorem w_st_X0_powerBy : Cond.static yX0_powerBy ∈ q_W := q_in (List.mem_of_getElem? (i := 531) (by decide +kernel)) (by decide +kernel)
theorem w_m_X0_99 : Cond.methodLink RX0 99 yX0_lightAt ∈ q_W := q_in (List.mem_of_getElem? (i := 527) (by decide +kernel)) (by decide +kernel)
theorem w_st_X0_lightAt : Cond.static yX0_lightAt ∈ q_W := q_in (List.mem_of_getElem? (i := 528) (by decide +kernel)) (by decide +kernel)
theorem w_f_X0_32 : Cond.fieldLink RX0 32 "RoverPlanner$Doer" "ways" "LRoverPlanner$Ways;" ∈ q_W := q_in (List.mem_of_getElem? (i := 245) (by decide +kernel)) (by decide +kernel)
theorem w_fn_X0_132 : Cond.fieldLinkNest RX0 132 "RoverPlanner$Rover" "x" "I" "RoverPlanner" ∈ q_N := q_inN (List.mem_of_getElem? (i := 188) (by decide +kernel)) (by decide +kernel)
theorem w_fn_X0_135 : Cond.fieldLinkNest RX0 135 "RoverPlanner$Rover" "y" "I" "RoverPlanner" ∈ q_N := q_inN (List.mem_of_getElem? (i := 192) (by decide +kernel)) (by decide +kernel)
theorem w_m_X0_121 : Cond.methodLink RX0 121 yX1_placeOf ∈ q_W := q_in (List.mem_of_getElem? (i := 484) (by decide +kernel)) (by decide +kernel)
theorem w_m_X0_138 : Cond.methodLink RX0 138 yX8_directionFrom ∈ q_W := q_in (List.mem_of_getElem? (i := 514) (by decide +kernel)) (by decide +kernel)
theorem w_m_X0_141 : Cond.methodLink RX0 141 yX0_step ∈ q_W := q_in (List.mem_of_getElem? (i := 518) (by decide +kernel)) (by decide +kernel)
theorem w_in_X0_step : Cond.instanceMethod yX0_step ∈ q_W := q_in (List.mem_of_getElem? (i := 520) (by decide +kernel)) (by decide +kernel)
theorem w_se_X0_step : Cond.selects RX0 yX0_step yX0_step ∈ q_W := q_in (List.mem_of_getElem? (i := 9) (by decide +kernel)) (by decide +kernel)
theorem w_in_X8_directionFrom : Cond.instanceMethod yX8_directionFrom ∈ q_W := q_in (List.mem_of_getElem? (i := 515) (by decide +kernel)) (by decide +kernel)
theorem w_se_X8_directionFrom : Cond.selects RX8 yX8_directionFrom yX8_directionFrom ∈ q_W := q_in (List.mem_of_getElem? (i := 516) (by decide +kernel)) (by decide +kernel)
theorem w_st_X1_placeOf : Cond.static yX1_placeOf ∈ q_W := q_in (List.mem_of_getElem? (i := 485) (by decide +kernel)) (by decide +kernel)
theorem w_m_X0_126 : Cond.methodLink RX0 126 yX8_measureTo ∈ q_W := q_in (List.mem_of_getElem? (i := 487) (by decide +kernel)) (by decide +kernel)
theorem w_in_X8_measureTo : Cond.instanceMethod yX8_measureTo ∈ q_W := q_in (List.mem_of_getElem? (i := 488) (by decide +kernel)) (by decide +kernel)
theorem w_se_X8_measureTo : Cond.selects RX8 yX8_measureTo yX8_measureTo ∈ q_W := q_in (List.mem_of_getElem? (i := 489) (by decide +kernel)) (by decide +kernel)
theorem w_fn_X0_154 : Cond.fieldLinkNest RX0 154 "RoverPlanner" "STEP_X" "[I" "RoverPlanner" ∈ q_N := q_inN (List.mem_of_getElem? (i := 545) (by decide +kernel)) (by decide +kernel)
theorem w_fn_X0_158 : Cond.fieldLinkNest RX0 158 "RoverPlanner" "STEP_Y" "[I" "RoverPlanner" ∈ q_N := q_inN (List.mem_of_getElem? (i := 546) (by decide +kernel)) (by decide +kernel)
theorem w_f_X0_28 : Cond.fieldLink RX0 28 "RoverPlanner$Doer" "ground" "LRoverPlanner$Ground;" ∈ q_W := q_in (List.mem_of_getElem? (i := 244) (by decide +kernel)) (by decide +kernel)
theorem w_m_X0_144 : Cond.methodLink RX0 144 yX1_minutesOf ∈ q_W := q_in (List.mem_of_getElem? (i := 522) (by decide +kernel)) (by decide +kernel)
theorem w_m_X0_147 : Cond.methodLink RX0 147 yX0_passMinutes ∈ q_W := q_in (List.mem_of_getElem? (i := 523) (by decide +kernel)) (by decide +kernel)
theorem w_m_X0_151 : Cond.methodLink RX0 151 yX1_energyOf ∈ q_W := q_in (List.mem_of_getElem? (i := 540) (by decide +kernel)) (by decide +kernel)
theorem w_in_X0_passMinutes : Cond.instanceMethod yX0_passMinutes ∈ q_W := q_in (List.mem_of_getElem? (i := 525) (by decide +kernel)) (by decide +kernel)
theorem w_se_X0_passMinutes : Cond.selects RX0 yX0_passMinutes yX0_passMinutes ∈ q_W := q_in (List.mem_of_getElem? (i := 10) (by decide +kernel)) (by decide +kernel)
theorem w_in_X1_energyOf : Cond.instanceMethod yX1_energyOf ∈ q_W := q_in (List.mem_of_getElem? (i := 541) (by decide +kernel)) (by decide +kernel)
theorem w_se_X1_energyOf : Cond.selects RX1 yX1_energyOf yX1_energyOf ∈ q_W := q_in (List.mem_of_getElem? (i := 542) (by decide +kernel)) (by decide +kernel)
theorem w_in_X1_minutesOf : Cond.instanceMethod yX1_minutesOf ∈ q_W := q_in (List.mem_of_getElem? (i := 507) (by decide +kernel)) (by decide +kernel)
theorem w_se_X1_minutesOf : Cond.selects RX1 yX1_minutesOf yX1_minutesOf ∈ q_W := q_in (List.mem_of_getElem? (i := 508) (by decide +kernel)) (by decide +kernel)
theorem w_f_X0_36 : Cond.fieldLink RX0 36 "RoverPlanner$Doer" "targets" "LRoverPlanner$Targets;" ∈ q_W := q_in (List.mem_of_getElem? (i := 246) (by decide +kernel)) (by decide +kernel)
theorem w_m_X0_161 : Cond.methodLink RX0 161 yX7_xOf ∈ q_W := q_in (List.mem_of_getElem? (i := 551) (by decide +kernel)) (by decide +kernel)
theorem w_m_X0_166 : Cond.methodLink RX0 166 yX7_yOf ∈ q_W := q_in (List.mem_of_getElem? (i := 559) (by decide +kernel)) (by decide +kernel)
theorem w_m_X0_169 : Cond.methodLink RX0 169 yX1_distance ∈ q_W := q_in (List.mem_of_getElem? (i := 563) (by decide +kernel)) (by decide +kernel)
theorem w_m_X0_173 : Cond.methodLink RX0 173 yX1_isSeen ∈ q_W := q_in (List.mem_of_getElem? (i := 566) (by decide +kernel)) (by decide +kernel)
theorem w_m_X0_177 : Cond.methodLink RX0 177 yX0_useTool ∈ q_W := q_in (List.mem_of_getElem? (i := 574) (by decide +kernel)) (by decide +kernel)
theorem w_m_X0_180 : Cond.methodLink RX0 180 yX1_octantOf ∈ q_W := q_in (List.mem_of_getElem? (i := 583) (by decide +kernel)) (by decide +kernel)
theorem w_m_X0_183 : Cond.methodLink RX0 183 yX6_keep ∈ q_W := q_in (List.mem_of_getElem? (i := 589) (by decide +kernel)) (by decide +kernel)
theorem w_in_X6_keep : Cond.instanceMethod yX6_keep ∈ q_W := q_in (List.mem_of_getElem? (i := 590) (by decide +kernel)) (by decide +kernel)
theorem w_se_X6_keep : Cond.selects RX6 yX6_keep yX6_keep ∈ q_W := q_in (List.mem_of_getElem? (i := 591) (by decide +kernel)) (by decide +kernel)
theorem w_st_X1_octantOf : Cond.static yX1_octantOf ∈ q_W := q_in (List.mem_of_getElem? (i := 584) (by decide +kernel)) (by decide +kernel)
theorem w_in_X0_useTool : Cond.instanceMethod yX0_useTool ∈ q_W := q_in (List.mem_of_getElem? (i := 576) (by decide +kernel)) (by decide +kernel)
theorem w_se_X0_useTool : Cond.selects RX0 yX0_useTool yX0_useTool ∈ q_W := q_in (List.mem_of_getElem? (i := 12) (by decide +kernel)) (by decide +kernel)
theorem w_in_X1_isSeen : Cond.instanceMethod yX1_isSeen ∈ q_W := q_in (List.mem_of_getElem? (i := 567) (by decide +kernel)) (by decide +kernel)
theorem w_se_X1_isSeen : Cond.selects RX1 yX1_isSeen yX1_isSeen ∈ q_W := q_in (List.mem_of_getElem? (i := 568) (by decide +kernel)) (by decide +kernel)
theorem w_st_X1_distance : Cond.static yX1_distance ∈ q_W := q_in (List.mem_of_getElem? (i := 564) (by decide +kernel)) (by decide +kernel)
theorem w_in_X7_yOf : Cond.instanceMethod yX7_yOf ∈ q_W := q_in (List.mem_of_getElem? (i := 560) (by decide +kernel)) (by decide +kernel)
theorem w_se_X7_yOf : Cond.selects RX7 yX7_yOf yX7_yOf ∈ q_W := q_in (List.mem_of_getElem? (i := 561) (by decide +kernel)) (by decide +kernel)
theorem w_in_X7_xOf : Cond.instanceMethod yX7_xOf ∈ q_W := q_in (List.mem_of_getElem? (i := 552) (by decide +kernel)) (by decide +kernel)
theorem w_se_X7_xOf : Cond.selects RX7 yX7_xOf yX7_xOf ∈ q_W := q_in (List.mem_of_getElem? (i := 553) (by decide +kernel)) (by decide +kernel)
theorem w_m_X0_187 : Cond.methodLink RX0 187 yX6_isFull ∈ q_W := q_in (List.mem_of_getElem? (i := 578) (by decide +kernel)) (by decide +kernel)
theorem w_m_X0_191 : Cond.methodLink RX0 191 yX6_unitsKept ∈ q_W := q_in (List.mem_of_getElem? (i := 582) (by decide +kernel)) (by decide +kernel)
theorem w_f_X0_22 : Cond.fieldLink RX0 22 "RoverPlanner$Doer" "memory" "I" ∈ q_W := q_in (List.mem_of_getElem? (i := 251) (by decide +kernel)) (by decide +kernel)
theorem w_in_X6_unitsKept : Cond.instanceMethod yX6_unitsKept ∈ q_W := q_in (List.mem_of_getElem? (i := 432) (by decide +kernel)) (by decide +kernel)
theorem w_se_X6_unitsKept : Cond.selects RX6 yX6_unitsKept yX6_unitsKept ∈ q_W := q_in (List.mem_of_getElem? (i := 433) (by decide +kernel)) (by decide +kernel)
theorem w_in_X6_isFull : Cond.instanceMethod yX6_isFull ∈ q_W := q_in (List.mem_of_getElem? (i := 579) (by decide +kernel)) (by decide +kernel)
theorem w_se_X6_isFull : Cond.selects RX6 yX6_isFull yX6_isFull ∈ q_W := q_in (List.mem_of_getElem? (i := 580) (by decide +kernel)) (by decide +kernel)
theorem w_fn_X0_200 : Cond.fieldLinkNest RX0 200 "RoverPlanner$Rover" "pieceCount" "I" "RoverPlanner" ∈ q_N := q_inN (List.mem_of_getElem? (i := 207) (by decide +kernel)) (by decide +kernel)
theorem w_f_X0_40 : Cond.fieldLink RX0 40 "RoverPlanner$Doer" "passes" "LRoverPlanner$Passes;" ∈ q_W := q_in (List.mem_of_getElem? (i := 247) (by decide +kernel)) (by decide +kernel)
theorem w_m_X0_195 : Cond.methodLink RX0 195 yX4_rateAt ∈ q_W := q_in (List.mem_of_getElem? (i := 602) (by decide +kernel)) (by decide +kernel)
theorem w_m_X0_203 : Cond.methodLink RX0 203 yX6_sendUnits ∈ q_W := q_in (List.mem_of_getElem? (i := 607) (by decide +kernel)) (by decide +kernel)
theorem w_in_X6_sendUnits : Cond.instanceMethod yX6_sendUnits ∈ q_W := q_in (List.mem_of_getElem? (i := 608) (by decide +kernel)) (by decide +kernel)
theorem w_se_X6_sendUnits : Cond.selects RX6 yX6_sendUnits yX6_sendUnits ∈ q_W := q_in (List.mem_of_getElem? (i := 609) (by decide +kernel)) (by decide +kernel)
theorem w_in_X4_rateAt : Cond.instanceMethod yX4_rateAt ∈ q_W := q_in (List.mem_of_getElem? (i := 603) (by decide +kernel)) (by decide +kernel)
theorem w_se_X4_rateAt : Cond.selects RX4 yX4_rateAt yX4_rateAt ∈ q_W := q_in (List.mem_of_getElem? (i := 604) (by decide +kernel)) (by decide +kernel)
theorem w_m_X0_206 : Cond.methodLink RX0 206 yJ9_floorMod_7cf53 ∈ q_W := q_in (List.mem_of_getElem? (i := 628) (by decide +kernel)) (by decide +kernel)
theorem w_st_J9_floorMod_7cf53 : Cond.static yJ9_floorMod_7cf53 ∈ q_W := q_in (List.mem_of_getElem? (i := 629) (by decide +kernel)) (by decide +kernel)
theorem w_m_X1_32 : Cond.methodLink RX1 32 yX1_isPlace ∈ q_W := q_in (List.mem_of_getElem? (i := 68) (by decide +kernel)) (by decide +kernel)
theorem w_st_X1_isPlace : Cond.static yX1_isPlace ∈ q_W := q_in (List.mem_of_getElem? (i := 69) (by decide +kernel)) (by decide +kernel)
theorem w_fn_X1_36 : Cond.fieldLinkNest RX1 36 "RoverPlanner" "STEP_X" "[I" "RoverPlanner" ∈ q_N := q_inN (List.mem_of_getElem? (i := 64) (by decide +kernel)) (by decide +kernel)
theorem w_fn_X1_39 : Cond.fieldLinkNest RX1 39 "RoverPlanner" "STEP_Y" "[I" "RoverPlanner" ∈ q_N := q_inN (List.mem_of_getElem? (i := 66) (by decide +kernel)) (by decide +kernel)
theorem w_m_X1_42 : Cond.methodLink RX1 42 Lib.Math.abs.name ∈ q_W := q_in (List.mem_of_getElem? (i := 79) (by decide +kernel)) (by decide +kernel)
theorem w_m_X1_48 : Cond.methodLink RX1 48 Lib.Math.max.name ∈ q_W := q_in (List.mem_of_getElem? (i := 86) (by decide +kernel)) (by decide +kernel)
theorem w_m_X1_52 : Cond.methodLink RX1 52 yJ6_compare_7cf53 ∈ q_W := q_in (List.mem_of_getElem? (i := 586) (by decide +kernel)) (by decide +kernel)
theorem w_st_J6_compare_7cf53 : Cond.static yJ6_compare_7cf53 ∈ q_W := q_in (List.mem_of_getElem? (i := 587) (by decide +kernel)) (by decide +kernel)
theorem w_f_X1_9 : Cond.fieldLink RX1 9 "RoverPlanner$Ground" "heights" "[I" ∈ q_W := q_in (List.mem_of_getElem? (i := 89) (by decide +kernel)) (by decide +kernel)
theorem w_f_X1_15 : Cond.fieldLink RX1 15 "RoverPlanner$Ground" "roughs" "[I" ∈ q_W := q_in (List.mem_of_getElem? (i := 90) (by decide +kernel)) (by decide +kernel)
theorem w_f_X1_18 : Cond.fieldLink RX1 18 "RoverPlanner$Ground" "hazards" "[Z" ∈ q_W := q_in (List.mem_of_getElem? (i := 91) (by decide +kernel)) (by decide +kernel)
theorem w_m_X1_57 : Cond.methodLink RX1 57 yX1_heightAt ∈ q_W := q_in (List.mem_of_getElem? (i := 75) (by decide +kernel)) (by decide +kernel)
theorem w_in_X1_heightAt : Cond.instanceMethod yX1_heightAt ∈ q_W := q_in (List.mem_of_getElem? (i := 76) (by decide +kernel)) (by decide +kernel)
theorem w_se_X1_heightAt : Cond.selects RX1 yX1_heightAt yX1_heightAt ∈ q_W := q_in (List.mem_of_getElem? (i := 77) (by decide +kernel)) (by decide +kernel)
theorem w_m_X1_29 : Cond.methodLink RX1 29 yX1_measureSteps ∈ q_W := q_in (List.mem_of_getElem? (i := 56) (by decide +kernel)) (by decide +kernel)
theorem w_in_X1_measureSteps : Cond.instanceMethod yX1_measureSteps ∈ q_W := q_in (List.mem_of_getElem? (i := 58) (by decide +kernel)) (by decide +kernel)
theorem w_se_X1_measureSteps : Cond.selects RX1 yX1_measureSteps yX1_measureSteps ∈ q_W := q_in (List.mem_of_getElem? (i := 0) (by decide +kernel)) (by decide +kernel)
theorem w_f_X1_25 : Cond.fieldLink RX1 25 "RoverPlanner$Ground" "slope" "I" ∈ q_W := q_in (List.mem_of_getElem? (i := 93) (by decide +kernel)) (by decide +kernel)
theorem w_f_X1_22 : Cond.fieldLink RX1 22 "RoverPlanner$Ground" "stepMinutes" "[I" ∈ q_W := q_in (List.mem_of_getElem? (i := 92) (by decide +kernel)) (by decide +kernel)
theorem w_m_X1_60 : Cond.methodLink RX1 60 yX1_measureStep ∈ q_W := q_in (List.mem_of_getElem? (i := 60) (by decide +kernel)) (by decide +kernel)
theorem w_in_X1_measureStep : Cond.instanceMethod yX1_measureStep ∈ q_W := q_in (List.mem_of_getElem? (i := 62) (by decide +kernel)) (by decide +kernel)
theorem w_se_X1_measureStep : Cond.selects RX1 yX1_measureStep yX1_measureStep ∈ q_W := q_in (List.mem_of_getElem? (i := 1) (by decide +kernel)) (by decide +kernel)
theorem w_m_X1_67 : Cond.methodLink RX1 67 yX1_roughAt ∈ q_W := q_in (List.mem_of_getElem? (i := 82) (by decide +kernel)) (by decide +kernel)
theorem w_in_X1_roughAt : Cond.instanceMethod yX1_roughAt ∈ q_W := q_in (List.mem_of_getElem? (i := 83) (by decide +kernel)) (by decide +kernel)
theorem w_se_X1_roughAt : Cond.selects RX1 yX1_roughAt yX1_roughAt ∈ q_W := q_in (List.mem_of_getElem? (i := 84) (by decide +kernel)) (by decide +kernel)
theorem w_m_X1_64 : Cond.methodLink RX1 64 yX1_isHazardAt ∈ q_W := q_in (List.mem_of_getElem? (i := 71) (by decide +kernel)) (by decide +kernel)
theorem w_in_X1_isHazardAt : Cond.instanceMethod yX1_isHazardAt ∈ q_W := q_in (List.mem_of_getElem? (i := 72) (by decide +kernel)) (by decide +kernel)
theorem w_se_X1_isHazardAt : Cond.selects RX1 yX1_isHazardAt yX1_isHazardAt ∈ q_W := q_in (List.mem_of_getElem? (i := 73) (by decide +kernel)) (by decide +kernel)
theorem w_m_X1_70 : Cond.methodLink RX1 70 yX1_minutesOf ∈ q_W := q_in (List.mem_of_getElem? (i := 544) (by decide +kernel)) (by decide +kernel)
theorem w_m_X1_77 : Cond.methodLink RX1 77 yJ9_floorDiv_7cf53 ∈ q_W := q_in (List.mem_of_getElem? (i := 571) (by decide +kernel)) (by decide +kernel)
theorem w_st_J9_floorDiv_7cf53 : Cond.static yJ9_floorDiv_7cf53 ∈ q_W := q_in (List.mem_of_getElem? (i := 572) (by decide +kernel)) (by decide +kernel)
theorem w_m_X1_73 : Cond.methodLink RX1 73 yX1_distance ∈ q_W := q_in (List.mem_of_getElem? (i := 570) (by decide +kernel)) (by decide +kernel)
theorem w_fn_X2_34 : Cond.fieldLinkNest RX2 34 "RoverPlanner$Plan" "number" "I" "RoverPlanner" ∈ q_N := q_inN (List.mem_of_getElem? (i := 306) (by decide +kernel)) (by decide +kernel)
theorem w_m_X2_43 : Cond.methodLink RX2 43 yX5_hasRoom ∈ q_W := q_in (List.mem_of_getElem? (i := 688) (by decide +kernel)) (by decide +kernel)
theorem w_f_X2_22 : Cond.fieldLink RX2 22 "RoverPlanner$Maker" "ways" "LRoverPlanner$Ways;" ∈ q_W := q_in (List.mem_of_getElem? (i := 280) (by decide +kernel)) (by decide +kernel)
theorem w_fn_X2_47 : Cond.fieldLinkNest RX2 47 "RoverPlanner$Rover" "x" "I" "RoverPlanner" ∈ q_N := q_inN (List.mem_of_getElem? (i := 187) (by decide +kernel)) (by decide +kernel)
theorem w_fn_X2_50 : Cond.fieldLinkNest RX2 50 "RoverPlanner$Rover" "y" "I" "RoverPlanner" ∈ q_N := q_inN (List.mem_of_getElem? (i := 191) (by decide +kernel)) (by decide +kernel)
theorem w_m_X2_53 : Cond.methodLink RX2 53 yX1_placeOf ∈ q_W := q_in (List.mem_of_getElem? (i := 692) (by decide +kernel)) (by decide +kernel)
theorem w_m_X2_59 : Cond.methodLink RX2 59 yX8_measureFrom ∈ q_W := q_in (List.mem_of_getElem? (i := 693) (by decide +kernel)) (by decide +kernel)
theorem w_m_X2_65 : Cond.methodLink RX2 65 yX2_choose ∈ q_W := q_in (List.mem_of_getElem? (i := 697) (by decide +kernel)) (by decide +kernel)
theorem w_m_X2_69 : Cond.methodLink RX2 69 yX2_nearestPlace ∈ q_W := q_in (List.mem_of_getElem? (i := 701) (by decide +kernel)) (by decide +kernel)
theorem w_m_X2_72 : Cond.methodLink RX2 72 yX2_visit ∈ q_W := q_in (List.mem_of_getElem? (i := 753) (by decide +kernel)) (by decide +kernel)
theorem w_in_X2_visit : Cond.instanceMethod yX2_visit ∈ q_W := q_in (List.mem_of_getElem? (i := 755) (by decide +kernel)) (by decide +kernel)
theorem w_se_X2_visit : Cond.selects RX2 yX2_visit yX2_visit ∈ q_W := q_in (List.mem_of_getElem? (i := 22) (by decide +kernel)) (by decide +kernel)
theorem w_in_X2_nearestPlace : Cond.instanceMethod yX2_nearestPlace ∈ q_W := q_in (List.mem_of_getElem? (i := 702) (by decide +kernel)) (by decide +kernel)
theorem w_se_X2_nearestPlace : Cond.selects RX2 yX2_nearestPlace yX2_nearestPlace ∈ q_W := q_in (List.mem_of_getElem? (i := 703) (by decide +kernel)) (by decide +kernel)
theorem w_in_X2_choose : Cond.instanceMethod yX2_choose ∈ q_W := q_in (List.mem_of_getElem? (i := 699) (by decide +kernel)) (by decide +kernel)
theorem w_se_X2_choose : Cond.selects RX2 yX2_choose yX2_choose ∈ q_W := q_in (List.mem_of_getElem? (i := 19) (by decide +kernel)) (by decide +kernel)
theorem w_in_X8_measureFrom : Cond.instanceMethod yX8_measureFrom ∈ q_W := q_in (List.mem_of_getElem? (i := 694) (by decide +kernel)) (by decide +kernel)
theorem w_se_X8_measureFrom : Cond.selects RX8 yX8_measureFrom yX8_measureFrom ∈ q_W := q_in (List.mem_of_getElem? (i := 695) (by decide +kernel)) (by decide +kernel)
theorem w_in_X5_hasRoom : Cond.instanceMethod yX5_hasRoom ∈ q_W := q_in (List.mem_of_getElem? (i := 689) (by decide +kernel)) (by decide +kernel)
theorem w_se_X5_hasRoom : Cond.selects RX5 yX5_hasRoom yX5_hasRoom ∈ q_W := q_in (List.mem_of_getElem? (i := 690) (by decide +kernel)) (by decide +kernel)
theorem w_fn_X2_40 : Cond.fieldLinkNest RX2 40 "RoverPlanner$Rover" "time" "I" "RoverPlanner" ∈ q_N := q_inN (List.mem_of_getElem? (i := 184) (by decide +kernel)) (by decide +kernel)
theorem w_f_X2_26 : Cond.fieldLink RX2 26 "RoverPlanner$Maker" "targets" "LRoverPlanner$Targets;" ∈ q_W := q_in (List.mem_of_getElem? (i := 281) (by decide +kernel)) (by decide +kernel)
theorem w_m_X2_79 : Cond.methodLink RX2 79 yX7_valueOf ∈ q_W := q_in (List.mem_of_getElem? (i := 748) (by decide +kernel)) (by decide +kernel)
theorem w_m_X2_83 : Cond.methodLink RX2 83 yX8_costOf ∈ q_W := q_in (List.mem_of_getElem? (i := 741) (by decide +kernel)) (by decide +kernel)
theorem w_m_X2_86 : Cond.methodLink RX2 86 Lib.Math.max.name ∈ q_W := q_in (List.mem_of_getElem? (i := 752) (by decide +kernel)) (by decide +kernel)
theorem w_in_X8_costOf : Cond.instanceMethod yX8_costOf ∈ q_W := q_in (List.mem_of_getElem? (i := 500) (by decide +kernel)) (by decide +kernel)
theorem w_se_X8_costOf : Cond.selects RX8 yX8_costOf yX8_costOf ∈ q_W := q_in (List.mem_of_getElem? (i := 501) (by decide +kernel)) (by decide +kernel)
theorem w_in_X7_valueOf : Cond.instanceMethod yX7_valueOf ∈ q_W := q_in (List.mem_of_getElem? (i := 749) (by decide +kernel)) (by decide +kernel)
theorem w_se_X7_valueOf : Cond.selects RX7 yX7_valueOf yX7_valueOf ∈ q_W := q_in (List.mem_of_getElem? (i := 750) (by decide +kernel)) (by decide +kernel)
theorem w_fn_X2_76 : Cond.fieldLinkNest RX2 76 "RoverPlanner$Targets" "number" "I" "RoverPlanner" ∈ q_N := q_inN (List.mem_of_getElem? (i := 138) (by decide +kernel)) (by decide +kernel)
theorem w_f_X2_12 : Cond.fieldLink RX2 12 "RoverPlanner$Maker" "ahead" "LRoverPlanner$Rover;" ∈ q_W := q_in (List.mem_of_getElem? (i := 283) (by decide +kernel)) (by decide +kernel)
theorem w_m_X2_94 : Cond.methodLink RX2 94 yX6_copyFrom ∈ q_W := q_in (List.mem_of_getElem? (i := 757) (by decide +kernel)) (by decide +kernel)
theorem w_f_X2_30 : Cond.fieldLink RX2 30 "RoverPlanner$Maker" "doer" "LRoverPlanner$Doer;" ∈ q_W := q_in (List.mem_of_getElem? (i := 282) (by decide +kernel)) (by decide +kernel)
theorem w_m_X2_98 : Cond.methodLink RX2 98 yX0_perform ∈ q_W := q_in (List.mem_of_getElem? (i := 758) (by decide +kernel)) (by decide +kernel)
theorem w_m_X2_104 : Cond.methodLink RX2 104 yX5_insert ∈ q_W := q_in (List.mem_of_getElem? (i := 759) (by decide +kernel)) (by decide +kernel)
theorem w_in_X5_insert : Cond.instanceMethod yX5_insert ∈ q_W := q_in (List.mem_of_getElem? (i := 760) (by decide +kernel)) (by decide +kernel)
theorem w_se_X5_insert : Cond.selects RX5 yX5_insert yX5_insert ∈ q_W := q_in (List.mem_of_getElem? (i := 761) (by decide +kernel)) (by decide +kernel)
theorem w_m_X2_91 : Cond.methodLink RX2 91 yX7_needOf ∈ q_W := q_in (List.mem_of_getElem? (i := 734) (by decide +kernel)) (by decide +kernel)
theorem w_in_X7_needOf : Cond.instanceMethod yX7_needOf ∈ q_W := q_in (List.mem_of_getElem? (i := 719) (by decide +kernel)) (by decide +kernel)
theorem w_se_X7_needOf : Cond.selects RX7 yX7_needOf yX7_needOf ∈ q_W := q_in (List.mem_of_getElem? (i := 720) (by decide +kernel)) (by decide +kernel)
theorem w_m_X2_124 : Cond.methodLink RX2 124 yX2_isNearer ∈ q_W := q_in (List.mem_of_getElem? (i := 737) (by decide +kernel)) (by decide +kernel)
theorem w_m_X2_127 : Cond.methodLink RX2 127 yX2_serves ∈ q_W := q_in (List.mem_of_getElem? (i := 742) (by decide +kernel)) (by decide +kernel)
theorem w_in_X2_serves : Cond.instanceMethod yX2_serves ∈ q_W := q_in (List.mem_of_getElem? (i := 744) (by decide +kernel)) (by decide +kernel)
theorem w_se_X2_serves : Cond.selects RX2 yX2_serves yX2_serves ∈ q_W := q_in (List.mem_of_getElem? (i := 21) (by decide +kernel)) (by decide +kernel)
theorem w_in_X2_isNearer : Cond.instanceMethod yX2_isNearer ∈ q_W := q_in (List.mem_of_getElem? (i := 739) (by decide +kernel)) (by decide +kernel)
theorem w_se_X2_isNearer : Cond.selects RX2 yX2_isNearer yX2_isNearer ∈ q_W := q_in (List.mem_of_getElem? (i := 20) (by decide +kernel)) (by decide +kernel)
theorem w_m_X2_118 : Cond.methodLink RX2 118 yX7_xOf ∈ q_W := q_in (List.mem_of_getElem? (i := 735) (by decide +kernel)) (by decide +kernel)
theorem w_m_X2_121 : Cond.methodLink RX2 121 yX7_yOf ∈ q_W := q_in (List.mem_of_getElem? (i := 736) (by decide +kernel)) (by decide +kernel)
theorem w_m_X2_108 : Cond.methodLink RX2 108 yX6_signsOfAll ∈ q_W := q_in (List.mem_of_getElem? (i := 705) (by decide +kernel)) (by decide +kernel)
theorem w_m_X2_111 : Cond.methodLink RX2 111 yX7_has ∈ q_W := q_in (List.mem_of_getElem? (i := 713) (by decide +kernel)) (by decide +kernel)
theorem w_m_X2_114 : Cond.methodLink RX2 114 yX7_isMet ∈ q_W := q_in (List.mem_of_getElem? (i := 714) (by decide +kernel)) (by decide +kernel)
theorem w_in_X7_isMet : Cond.instanceMethod yX7_isMet ∈ q_W := q_in (List.mem_of_getElem? (i := 715) (by decide +kernel)) (by decide +kernel)
theorem w_se_X7_isMet : Cond.selects RX7 yX7_isMet yX7_isMet ∈ q_W := q_in (List.mem_of_getElem? (i := 716) (by decide +kernel)) (by decide +kernel)
theorem w_in_X7_has : Cond.instanceMethod yX7_has ∈ q_W := q_in (List.mem_of_getElem? (i := 556) (by decide +kernel)) (by decide +kernel)
theorem w_se_X7_has : Cond.selects RX7 yX7_has yX7_has ∈ q_W := q_in (List.mem_of_getElem? (i := 557) (by decide +kernel)) (by decide +kernel)
theorem w_in_X6_signsOfAll : Cond.instanceMethod yX6_signsOfAll ∈ q_W := q_in (List.mem_of_getElem? (i := 706) (by decide +kernel)) (by decide +kernel)
theorem w_se_X6_signsOfAll : Cond.selects RX6 yX6_signsOfAll yX6_signsOfAll ∈ q_W := q_in (List.mem_of_getElem? (i := 707) (by decide +kernel)) (by decide +kernel)
theorem w_m_X2_131 : Cond.methodLink RX2 131 yX1_octantOf ∈ q_W := q_in (List.mem_of_getElem? (i := 746) (by decide +kernel)) (by decide +kernel)
theorem w_f_X2_18 : Cond.fieldLink RX2 18 "RoverPlanner$Maker" "ground" "LRoverPlanner$Ground;" ∈ q_W := q_in (List.mem_of_getElem? (i := 279) (by decide +kernel)) (by decide +kernel)
theorem w_m_X2_135 : Cond.methodLink RX2 135 yX1_isSeen ∈ q_W := q_in (List.mem_of_getElem? (i := 747) (by decide +kernel)) (by decide +kernel)
theorem w_f_X4_21 : Cond.fieldLink RX4 21 "RoverPlanner$Passes" "number" "I" ∈ q_W := q_in (List.mem_of_getElem? (i := 160) (by decide +kernel)) (by decide +kernel)
theorem w_m_X4_25 : Cond.methodLink RX4 25 yX4_isFull ∈ q_W := q_in (List.mem_of_getElem? (i := 1007) (by decide +kernel)) (by decide +kernel)
theorem w_f_X4_9 : Cond.fieldLink RX4 9 "RoverPlanner$Passes" "froms" "[I" ∈ q_W := q_in (List.mem_of_getElem? (i := 157) (by decide +kernel)) (by decide +kernel)
theorem w_f_X4_15 : Cond.fieldLink RX4 15 "RoverPlanner$Passes" "tos" "[I" ∈ q_W := q_in (List.mem_of_getElem? (i := 158) (by decide +kernel)) (by decide +kernel)
theorem w_f_X4_18 : Cond.fieldLink RX4 18 "RoverPlanner$Passes" "rates" "[I" ∈ q_W := q_in (List.mem_of_getElem? (i := 159) (by decide +kernel)) (by decide +kernel)
theorem w_in_X4_isFull : Cond.instanceMethod yX4_isFull ∈ q_W := q_in (List.mem_of_getElem? (i := 999) (by decide +kernel)) (by decide +kernel)
theorem w_se_X4_isFull : Cond.selects RX4 yX4_isFull yX4_isFull ∈ q_W := q_in (List.mem_of_getElem? (i := 1000) (by decide +kernel)) (by decide +kernel)
theorem w_m_X4_29 : Cond.methodLink RX4 29 Lib.Math.max.name ∈ q_W := q_in (List.mem_of_getElem? (i := 606) (by decide +kernel)) (by decide +kernel)
theorem w_f_X5_21 : Cond.fieldLink RX5 21 "RoverPlanner$Plan" "number" "I" ∈ q_W := q_in (List.mem_of_getElem? (i := 307) (by decide +kernel)) (by decide +kernel)
theorem w_f_X5_9 : Cond.fieldLink RX5 9 "RoverPlanner$Plan" "kinds" "[I" ∈ q_W := q_in (List.mem_of_getElem? (i := 303) (by decide +kernel)) (by decide +kernel)
theorem w_f_X5_15 : Cond.fieldLink RX5 15 "RoverPlanner$Plan" "as" "[I" ∈ q_W := q_in (List.mem_of_getElem? (i := 304) (by decide +kernel)) (by decide +kernel)
theorem w_f_X5_18 : Cond.fieldLink RX5 18 "RoverPlanner$Plan" "bs" "[I" ∈ q_W := q_in (List.mem_of_getElem? (i := 305) (by decide +kernel)) (by decide +kernel)
theorem w_m_X5_25 : Cond.methodLink RX5 25 yX5_hasRoom ∈ q_W := q_in (List.mem_of_getElem? (i := 763) (by decide +kernel)) (by decide +kernel)
theorem w_m_X5_29 : Cond.methodLink RX5 29 yX5_has ∈ q_W := q_in (List.mem_of_getElem? (i := 448) (by decide +kernel)) (by decide +kernel)
theorem w_f_X6_34 : Cond.fieldLink RX6 34 "RoverPlanner$Rover" "sentSigns" "[I" ∈ q_W := q_in (List.mem_of_getElem? (i := 212) (by decide +kernel)) (by decide +kernel)
theorem w_f_X6_56 : Cond.fieldLink RX6 56 "RoverPlanner$Rover" "pieceCount" "I" ∈ q_W := q_in (List.mem_of_getElem? (i := 206) (by decide +kernel)) (by decide +kernel)
theorem w_f_X6_21 : Cond.fieldLink RX6 21 "RoverPlanner$Rover" "pieceTargets" "[I" ∈ q_W := q_in (List.mem_of_getElem? (i := 208) (by decide +kernel)) (by decide +kernel)
theorem w_f_X6_25 : Cond.fieldLink RX6 25 "RoverPlanner$Rover" "pieceLefts" "[I" ∈ q_W := q_in (List.mem_of_getElem? (i := 209) (by decide +kernel)) (by decide +kernel)
theorem w_f_X6_28 : Cond.fieldLink RX6 28 "RoverPlanner$Rover" "piecePriorities" "[I" ∈ q_W := q_in (List.mem_of_getElem? (i := 210) (by decide +kernel)) (by decide +kernel)
theorem w_f_X6_31 : Cond.fieldLink RX6 31 "RoverPlanner$Rover" "pieceSigns" "[I" ∈ q_W := q_in (List.mem_of_getElem? (i := 211) (by decide +kernel)) (by decide +kernel)
theorem w_f_X6_37 : Cond.fieldLink RX6 37 "RoverPlanner$Rover" "time" "I" ∈ q_W := q_in (List.mem_of_getElem? (i := 183) (by decide +kernel)) (by decide +kernel)
theorem w_f_X6_40 : Cond.fieldLink RX6 40 "RoverPlanner$Rover" "x" "I" ∈ q_W := q_in (List.mem_of_getElem? (i := 186) (by decide +kernel)) (by decide +kernel)
theorem w_f_X6_43 : Cond.fieldLink RX6 43 "RoverPlanner$Rover" "y" "I" ∈ q_W := q_in (List.mem_of_getElem? (i := 190) (by decide +kernel)) (by decide +kernel)
theorem w_f_X6_9 : Cond.fieldLink RX6 9 "RoverPlanner$Rover" "battery" "I" ∈ q_W := q_in (List.mem_of_getElem? (i := 194) (by decide +kernel)) (by decide +kernel)
theorem w_f_X6_15 : Cond.fieldLink RX6 15 "RoverPlanner$Rover" "temperature" "I" ∈ q_W := q_in (List.mem_of_getElem? (i := 196) (by decide +kernel)) (by decide +kernel)
theorem w_f_X6_18 : Cond.fieldLink RX6 18 "RoverPlanner$Rover" "clearness" "I" ∈ q_W := q_in (List.mem_of_getElem? (i := 198) (by decide +kernel)) (by decide +kernel)
theorem w_f_X6_46 : Cond.fieldLink RX6 46 "RoverPlanner$Rover" "isHeating" "Z" ∈ q_W := q_in (List.mem_of_getElem? (i := 200) (by decide +kernel)) (by decide +kernel)
theorem w_f_X6_50 : Cond.fieldLink RX6 50 "RoverPlanner$Rover" "unitsSent" "I" ∈ q_W := q_in (List.mem_of_getElem? (i := 202) (by decide +kernel)) (by decide +kernel)
theorem w_f_X6_53 : Cond.fieldLink RX6 53 "RoverPlanner$Rover" "unitsTaken" "I" ∈ q_W := q_in (List.mem_of_getElem? (i := 204) (by decide +kernel)) (by decide +kernel)
theorem w_m_X6_59 : Cond.methodLink RX6 59 Lib.Math.min.name ∈ q_W := q_in (List.mem_of_getElem? (i := 619) (by decide +kernel)) (by decide +kernel)
theorem w_m_X6_65 : Cond.methodLink RX6 65 yX6_unitsKept ∈ q_W := q_in (List.mem_of_getElem? (i := 431) (by decide +kernel)) (by decide +kernel)
theorem w_m_X6_69 : Cond.methodLink RX6 69 yX6_hasPiece ∈ q_W := q_in (List.mem_of_getElem? (i := 611) (by decide +kernel)) (by decide +kernel)
theorem w_in_X6_hasPiece : Cond.instanceMethod yX6_hasPiece ∈ q_W := q_in (List.mem_of_getElem? (i := 612) (by decide +kernel)) (by decide +kernel)
theorem w_se_X6_hasPiece : Cond.selects RX6 yX6_hasPiece yX6_hasPiece ∈ q_W := q_in (List.mem_of_getElem? (i := 613) (by decide +kernel)) (by decide +kernel)
theorem w_m_X6_73 : Cond.methodLink RX6 73 yX6_signsSent ∈ q_W := q_in (List.mem_of_getElem? (i := 709) (by decide +kernel)) (by decide +kernel)
theorem w_in_X6_signsSent : Cond.instanceMethod yX6_signsSent ∈ q_W := q_in (List.mem_of_getElem? (i := 710) (by decide +kernel)) (by decide +kernel)
theorem w_se_X6_signsSent : Cond.selects RX6 yX6_signsSent yX6_signsSent ∈ q_W := q_in (List.mem_of_getElem? (i := 711) (by decide +kernel)) (by decide +kernel)
theorem w_m_X6_77 : Cond.methodLink RX6 77 yX6_isFull ∈ q_W := q_in (List.mem_of_getElem? (i := 593) (by decide +kernel)) (by decide +kernel)
theorem w_m_X6_81 : Cond.methodLink RX6 81 yX6_mostUrgent ∈ q_W := q_in (List.mem_of_getElem? (i := 615) (by decide +kernel)) (by decide +kernel)
theorem w_m_X6_84 : Cond.methodLink RX6 84 yX6_finishPiece ∈ q_W := q_in (List.mem_of_getElem? (i := 620) (by decide +kernel)) (by decide +kernel)
theorem w_in_X6_finishPiece : Cond.instanceMethod yX6_finishPiece ∈ q_W := q_in (List.mem_of_getElem? (i := 622) (by decide +kernel)) (by decide +kernel)
theorem w_se_X6_finishPiece : Cond.selects RX6 yX6_finishPiece yX6_finishPiece ∈ q_W := q_in (List.mem_of_getElem? (i := 16) (by decide +kernel)) (by decide +kernel)
theorem w_in_X6_mostUrgent : Cond.instanceMethod yX6_mostUrgent ∈ q_W := q_in (List.mem_of_getElem? (i := 617) (by decide +kernel)) (by decide +kernel)
theorem w_se_X6_mostUrgent : Cond.selects RX6 yX6_mostUrgent yX6_mostUrgent ∈ q_W := q_in (List.mem_of_getElem? (i := 15) (by decide +kernel)) (by decide +kernel)
theorem w_f_X7_24 : Cond.fieldLink RX7 24 "RoverPlanner$Targets" "number" "I" ∈ q_W := q_in (List.mem_of_getElem? (i := 137) (by decide +kernel)) (by decide +kernel)
theorem w_m_X7_28 : Cond.methodLink RX7 28 yX7_isFull ∈ q_W := q_in (List.mem_of_getElem? (i := 992) (by decide +kernel)) (by decide +kernel)
theorem w_f_X7_9 : Cond.fieldLink RX7 9 "RoverPlanner$Targets" "xs" "[I" ∈ q_W := q_in (List.mem_of_getElem? (i := 133) (by decide +kernel)) (by decide +kernel)
theorem w_f_X7_15 : Cond.fieldLink RX7 15 "RoverPlanner$Targets" "ys" "[I" ∈ q_W := q_in (List.mem_of_getElem? (i := 134) (by decide +kernel)) (by decide +kernel)
theorem w_f_X7_18 : Cond.fieldLink RX7 18 "RoverPlanner$Targets" "values" "[I" ∈ q_W := q_in (List.mem_of_getElem? (i := 135) (by decide +kernel)) (by decide +kernel)
theorem w_f_X7_21 : Cond.fieldLink RX7 21 "RoverPlanner$Targets" "needs" "[I" ∈ q_W := q_in (List.mem_of_getElem? (i := 136) (by decide +kernel)) (by decide +kernel)
theorem w_in_X7_isFull : Cond.instanceMethod yX7_isFull ∈ q_W := q_in (List.mem_of_getElem? (i := 984) (by decide +kernel)) (by decide +kernel)
theorem w_se_X7_isFull : Cond.selects RX7 yX7_isFull yX7_isFull ∈ q_W := q_in (List.mem_of_getElem? (i := 985) (by decide +kernel)) (by decide +kernel)
theorem w_m_X7_32 : Cond.methodLink RX7 32 yX7_has ∈ q_W := q_in (List.mem_of_getElem? (i := 555) (by decide +kernel)) (by decide +kernel)
theorem w_m_X7_36 : Cond.methodLink RX7 36 yX7_needOf ∈ q_W := q_in (List.mem_of_getElem? (i := 718) (by decide +kernel)) (by decide +kernel)
theorem w_m_X7_43 : Cond.methodLink RX7 43 yX7_octantsOf ∈ q_W := q_in (List.mem_of_getElem? (i := 725) (by decide +kernel)) (by decide +kernel)
theorem w_st_X7_octantsOf : Cond.static yX7_octantsOf ∈ q_W := q_in (List.mem_of_getElem? (i := 726) (by decide +kernel)) (by decide +kernel)
theorem w_m_X7_40 : Cond.methodLink RX7 40 yX7_hasTouch ∈ q_W := q_in (List.mem_of_getElem? (i := 722) (by decide +kernel)) (by decide +kernel)
theorem w_st_X7_hasTouch : Cond.static yX7_hasTouch ∈ q_W := q_in (List.mem_of_getElem? (i := 723) (by decide +kernel)) (by decide +kernel)
theorem w_m_X7_46 : Cond.methodLink RX7 46 yX6_signsSent ∈ q_W := q_in (List.mem_of_getElem? (i := 879) (by decide +kernel)) (by decide +kernel)
theorem w_m_X7_51 : Cond.methodLink RX7 51 yX7_valueOf ∈ q_W := q_in (List.mem_of_getElem? (i := 880) (by decide +kernel)) (by decide +kernel)
theorem w_m_X7_54 : Cond.methodLink RX7 54 yX6_signsOfAll ∈ q_W := q_in (List.mem_of_getElem? (i := 881) (by decide +kernel)) (by decide +kernel)
theorem w_m_X7_57 : Cond.methodLink RX7 57 yX7_isMet ∈ q_W := q_in (List.mem_of_getElem? (i := 882) (by decide +kernel)) (by decide +kernel)
theorem w_m_X7_61 : Cond.methodLink RX7 61 yJ6_bitCount_0f7a4 ∈ q_W := q_in (List.mem_of_getElem? (i := 728) (by decide +kernel)) (by decide +kernel)
theorem w_st_J6_bitCount_0f7a4 : Cond.static yJ6_bitCount_0f7a4 ∈ q_W := q_in (List.mem_of_getElem? (i := 729) (by decide +kernel)) (by decide +kernel)
theorem w_m_X8_34 : Cond.methodLink RX8 34 yX1_neighbourOf ∈ q_W := q_in (List.mem_of_getElem? (i := 503) (by decide +kernel)) (by decide +kernel)
theorem w_f_X8_18 : Cond.fieldLink RX8 18 "RoverPlanner$Ways" "ground" "LRoverPlanner$Ground;" ∈ q_W := q_in (List.mem_of_getElem? (i := 114) (by decide +kernel)) (by decide +kernel)
theorem w_m_X8_40 : Cond.methodLink RX8 40 yX1_minutesOf ∈ q_W := q_in (List.mem_of_getElem? (i := 506) (by decide +kernel)) (by decide +kernel)
theorem w_m_X8_43 : Cond.methodLink RX8 43 yX8_reach ∈ q_W := q_in (List.mem_of_getElem? (i := 510) (by decide +kernel)) (by decide +kernel)
theorem w_in_X8_reach : Cond.instanceMethod yX8_reach ∈ q_W := q_in (List.mem_of_getElem? (i := 512) (by decide +kernel)) (by decide +kernel)
theorem w_se_X8_reach : Cond.selects RX8 yX8_reach yX8_reach ∈ q_W := q_in (List.mem_of_getElem? (i := 8) (by decide +kernel)) (by decide +kernel)
theorem w_st_X1_neighbourOf : Cond.static yX1_neighbourOf ∈ q_W := q_in (List.mem_of_getElem? (i := 504) (by decide +kernel)) (by decide +kernel)
theorem w_f_X8_26 : Cond.fieldLink RX8 26 "RoverPlanner$Ways" "openCount" "I" ∈ q_W := q_in (List.mem_of_getElem? (i := 117) (by decide +kernel)) (by decide +kernel)
theorem w_m_X8_30 : Cond.methodLink RX8 30 yX8_takeCheapest ∈ q_W := q_in (List.mem_of_getElem? (i := 495) (by decide +kernel)) (by decide +kernel)
theorem w_in_X8_takeCheapest : Cond.instanceMethod yX8_takeCheapest ∈ q_W := q_in (List.mem_of_getElem? (i := 497) (by decide +kernel)) (by decide +kernel)
theorem w_se_X8_takeCheapest : Cond.selects RX8 yX8_takeCheapest yX8_takeCheapest ∈ q_W := q_in (List.mem_of_getElem? (i := 7) (by decide +kernel)) (by decide +kernel)
theorem w_m_X8_22 : Cond.methodLink RX8 22 yX8_begin ∈ q_W := q_in (List.mem_of_getElem? (i := 491) (by decide +kernel)) (by decide +kernel)
theorem w_in_X8_begin : Cond.instanceMethod yX8_begin ∈ q_W := q_in (List.mem_of_getElem? (i := 493) (by decide +kernel)) (by decide +kernel)
theorem w_se_X8_begin : Cond.selects RX8 yX8_begin yX8_begin ∈ q_W := q_in (List.mem_of_getElem? (i := 6) (by decide +kernel)) (by decide +kernel)
theorem w_f_X8_9 : Cond.fieldLink RX8 9 "RoverPlanner$Ways" "costs" "[I" ∈ q_W := q_in (List.mem_of_getElem? (i := 115) (by decide +kernel)) (by decide +kernel)
theorem w_f_X8_15 : Cond.fieldLink RX8 15 "RoverPlanner$Ways" "open" "[I" ∈ q_W := q_in (List.mem_of_getElem? (i := 116) (by decide +kernel)) (by decide +kernel)
theorem w_m_X8_47 : Cond.methodLink RX8 47 yX8_costOf ∈ q_W := q_in (List.mem_of_getElem? (i := 499) (by decide +kernel)) (by decide +kernel)
theorem w_m_X8_51 : Cond.methodLink RX8 51 yX8_directionFrom ∈ q_W := q_in (List.mem_of_getElem? (i := 1034) (by decide +kernel)) (by decide +kernel)
theorem w_m_X8_54 : Cond.methodLink RX8 54 yX1_energyOf ∈ q_W := q_in (List.mem_of_getElem? (i := 1035) (by decide +kernel)) (by decide +kernel)
theorem w_m_X9_80 : Cond.methodLink RX9 80 yX1_isRectangle ∈ q_W := q_in (List.mem_of_getElem? (i := 946) (by decide +kernel)) (by decide +kernel)
theorem w_cl_X9_88 : Cond.classLink RX9 88 "java/lang/IllegalArgumentException" ∈ q_W := q_in (List.mem_of_getElem? (i := 639) (by decide +kernel)) (by decide +kernel)
theorem w_f_X9_10 : Cond.fieldLink RX9 10 "RoverPlanner" "land" "LRoverPlanner$Ground;" ∈ q_W := q_in (List.mem_of_getElem? (i := 321) (by decide +kernel)) (by decide +kernel)
theorem w_m_X9_84 : Cond.methodLink RX9 84 yX1_canLift ∈ q_W := q_in (List.mem_of_getElem? (i := 949) (by decide +kernel)) (by decide +kernel)
theorem w_m_X9_95 : Cond.methodLink RX9 95 yX1_lift ∈ q_W := q_in (List.mem_of_getElem? (i := 954) (by decide +kernel)) (by decide +kernel)
theorem w_in_X1_lift : Cond.instanceMethod yX1_lift ∈ q_W := q_in (List.mem_of_getElem? (i := 955) (by decide +kernel)) (by decide +kernel)
theorem w_se_X1_lift : Cond.selects RX1 yX1_lift yX1_lift ∈ q_W := q_in (List.mem_of_getElem? (i := 956) (by decide +kernel)) (by decide +kernel)
theorem w_in_X1_canLift : Cond.instanceMethod yX1_canLift ∈ q_W := q_in (List.mem_of_getElem? (i := 950) (by decide +kernel)) (by decide +kernel)
theorem w_se_X1_canLift : Cond.selects RX1 yX1_canLift yX1_canLift ∈ q_W := q_in (List.mem_of_getElem? (i := 951) (by decide +kernel)) (by decide +kernel)
theorem w_st_X1_isRectangle : Cond.static yX1_isRectangle ∈ q_W := q_in (List.mem_of_getElem? (i := 947) (by decide +kernel)) (by decide +kernel)
theorem w_m_X9_101 : Cond.methodLink RX9 101 yX1_cover ∈ q_W := q_in (List.mem_of_getElem? (i := 963) (by decide +kernel)) (by decide +kernel)
theorem w_in_X1_cover : Cond.instanceMethod yX1_cover ∈ q_W := q_in (List.mem_of_getElem? (i := 964) (by decide +kernel)) (by decide +kernel)
theorem w_se_X1_cover : Cond.selects RX1 yX1_cover yX1_cover ∈ q_W := q_in (List.mem_of_getElem? (i := 965) (by decide +kernel)) (by decide +kernel)
theorem w_fn_X9_126 : Cond.fieldLinkNest RX9 126 "RoverPlanner$Ground" "slope" "I" "RoverPlanner" ∈ q_N := q_inN (List.mem_of_getElem? (i := 94) (by decide +kernel)) (by decide +kernel)
theorem w_m_X9_130 : Cond.methodLink RX9 130 yX1_limitSlope ∈ q_W := q_in (List.mem_of_getElem? (i := 972) (by decide +kernel)) (by decide +kernel)
theorem w_in_X1_limitSlope : Cond.instanceMethod yX1_limitSlope ∈ q_W := q_in (List.mem_of_getElem? (i := 973) (by decide +kernel)) (by decide +kernel)
theorem w_se_X1_limitSlope : Cond.selects RX1 yX1_limitSlope yX1_limitSlope ∈ q_W := q_in (List.mem_of_getElem? (i := 974) (by decide +kernel)) (by decide +kernel)
theorem w_m_X9_105 : Cond.methodLink RX9 105 yX1_isPlace ∈ q_W := q_in (List.mem_of_getElem? (i := 980) (by decide +kernel)) (by decide +kernel)
theorem w_cl_X9_109 : Cond.classLink RX9 109 "java/lang/IndexOutOfBoundsException" ∈ q_W := q_in (List.mem_of_getElem? (i := 359) (by decide +kernel)) (by decide +kernel)
theorem w_m_X9_134 : Cond.methodLink RX9 134 yX1_placeOf ∈ q_W := q_in (List.mem_of_getElem? (i := 770) (by decide +kernel)) (by decide +kernel)
theorem w_f_X9_21 : Cond.fieldLink RX9 21 "RoverPlanner" "ways" "LRoverPlanner$Ways;" ∈ q_W := q_in (List.mem_of_getElem? (i := 322) (by decide +kernel)) (by decide +kernel)
theorem w_m_X9_137 : Cond.methodLink RX9 137 yX8_measureTo ∈ q_W := q_in (List.mem_of_getElem? (i := 1027) (by decide +kernel)) (by decide +kernel)
theorem w_m_X9_147 : Cond.methodLink RX9 147 yX8_sumFrom ∈ q_W := q_in (List.mem_of_getElem? (i := 1030) (by decide +kernel)) (by decide +kernel)
theorem w_in_X8_sumFrom : Cond.instanceMethod yX8_sumFrom ∈ q_W := q_in (List.mem_of_getElem? (i := 1031) (by decide +kernel)) (by decide +kernel)
theorem w_se_X8_sumFrom : Cond.selects RX8 yX8_sumFrom yX8_sumFrom ∈ q_W := q_in (List.mem_of_getElem? (i := 1032) (by decide +kernel)) (by decide +kernel)
theorem w_m_X9_144 : Cond.methodLink RX9 144 yX8_directionFrom ∈ q_W := q_in (List.mem_of_getElem? (i := 1029) (by decide +kernel)) (by decide +kernel)
theorem w_m_X9_140 : Cond.methodLink RX9 140 yX8_costOf ∈ q_W := q_in (List.mem_of_getElem? (i := 1028) (by decide +kernel)) (by decide +kernel)
theorem w_f_X9_28 : Cond.fieldLink RX9 28 "RoverPlanner" "aims" "LRoverPlanner$Targets;" ∈ q_W := q_in (List.mem_of_getElem? (i := 323) (by decide +kernel)) (by decide +kernel)
theorem w_m_X9_158 : Cond.methodLink RX9 158 yX7_isFull ∈ q_W := q_in (List.mem_of_getElem? (i := 983) (by decide +kernel)) (by decide +kernel)
theorem w_m_X9_167 : Cond.methodLink RX9 167 yX7_append ∈ q_W := q_in (List.mem_of_getElem? (i := 988) (by decide +kernel)) (by decide +kernel)
theorem w_in_X7_append : Cond.instanceMethod yX7_append ∈ q_W := q_in (List.mem_of_getElem? (i := 989) (by decide +kernel)) (by decide +kernel)
theorem w_se_X7_append : Cond.selects RX7 yX7_append yX7_append ∈ q_W := q_in (List.mem_of_getElem? (i := 990) (by decide +kernel)) (by decide +kernel)
theorem w_cl_X9_162 : Cond.classLink RX9 162 "java/lang/IllegalStateException" ∈ q_W := q_in (List.mem_of_getElem? (i := 655) (by decide +kernel)) (by decide +kernel)
theorem w_m_X9_171 : Cond.methodLink RX9 171 yX7_has ∈ q_W := q_in (List.mem_of_getElem? (i := 768) (by decide +kernel)) (by decide +kernel)
theorem w_f_X9_60 : Cond.fieldLink RX9 60 "RoverPlanner" "now" "LRoverPlanner$Rover;" ∈ q_W := q_in (List.mem_of_getElem? (i := 327) (by decide +kernel)) (by decide +kernel)
theorem w_m_X9_177 : Cond.methodLink RX9 177 yX7_tell ∈ q_W := q_in (List.mem_of_getElem? (i := 875) (by decide +kernel)) (by decide +kernel)
theorem w_in_X7_tell : Cond.instanceMethod yX7_tell ∈ q_W := q_in (List.mem_of_getElem? (i := 876) (by decide +kernel)) (by decide +kernel)
theorem w_se_X7_tell : Cond.selects RX7 yX7_tell yX7_tell ∈ q_W := q_in (List.mem_of_getElem? (i := 877) (by decide +kernel)) (by decide +kernel)
theorem w_f_X9_35 : Cond.fieldLink RX9 35 "RoverPlanner" "passes" "LRoverPlanner$Passes;" ∈ q_W := q_in (List.mem_of_getElem? (i := 324) (by decide +kernel)) (by decide +kernel)
theorem w_m_X9_183 : Cond.methodLink RX9 183 yX4_isFull ∈ q_W := q_in (List.mem_of_getElem? (i := 998) (by decide +kernel)) (by decide +kernel)
theorem w_m_X9_186 : Cond.methodLink RX9 186 yX4_append ∈ q_W := q_in (List.mem_of_getElem? (i := 1003) (by decide +kernel)) (by decide +kernel)
theorem w_in_X4_append : Cond.instanceMethod yX4_append ∈ q_W := q_in (List.mem_of_getElem? (i := 1004) (by decide +kernel)) (by decide +kernel)
theorem w_se_X4_append : Cond.selects RX4 yX4_append yX4_append ∈ q_W := q_in (List.mem_of_getElem? (i := 1005) (by decide +kernel)) (by decide +kernel)
theorem w_m_X9_208 : Cond.methodLink RX9 208 yX6_unitsKept ∈ q_W := q_in (List.mem_of_getElem? (i := 1013) (by decide +kernel)) (by decide +kernel)
theorem w_f_X9_44 : Cond.fieldLink RX9 44 "RoverPlanner" "doer" "LRoverPlanner$Doer;" ∈ q_W := q_in (List.mem_of_getElem? (i := 325) (by decide +kernel)) (by decide +kernel)
theorem w_fn_X9_214 : Cond.fieldLinkNest RX9 214 "RoverPlanner$Doer" "capacity" "I" "RoverPlanner" ∈ q_N := q_inN (List.mem_of_getElem? (i := 250) (by decide +kernel)) (by decide +kernel)
theorem w_fn_X9_217 : Cond.fieldLinkNest RX9 217 "RoverPlanner$Doer" "memory" "I" "RoverPlanner" ∈ q_N := q_inN (List.mem_of_getElem? (i := 252) (by decide +kernel)) (by decide +kernel)
theorem w_m_X9_220 : Cond.methodLink RX9 220 yX6_limitBattery ∈ q_W := q_in (List.mem_of_getElem? (i := 1015) (by decide +kernel)) (by decide +kernel)
theorem w_in_X6_limitBattery : Cond.instanceMethod yX6_limitBattery ∈ q_W := q_in (List.mem_of_getElem? (i := 1016) (by decide +kernel)) (by decide +kernel)
theorem w_se_X6_limitBattery : Cond.selects RX6 yX6_limitBattery yX6_limitBattery ∈ q_W := q_in (List.mem_of_getElem? (i := 1017) (by decide +kernel)) (by decide +kernel)
theorem w_m_X9_225 : Cond.methodLink RX9 225 yX6_tell ∈ q_W := q_in (List.mem_of_getElem? (i := 427) (by decide +kernel)) (by decide +kernel)
theorem w_in_X6_tell : Cond.instanceMethod yX6_tell ∈ q_W := q_in (List.mem_of_getElem? (i := 428) (by decide +kernel)) (by decide +kernel)
theorem w_se_X6_tell : Cond.selects RX6 yX6_tell yX6_tell ∈ q_W := q_in (List.mem_of_getElem? (i := 429) (by decide +kernel)) (by decide +kernel)
theorem w_m_X9_227 : Cond.methodLink RX9 227 yX6_hasPiece ∈ q_W := q_in (List.mem_of_getElem? (i := 863) (by decide +kernel)) (by decide +kernel)
theorem w_m_X9_232 : Cond.methodLink RX9 232 yX6_tellPiece ∈ q_W := q_in (List.mem_of_getElem? (i := 865) (by decide +kernel)) (by decide +kernel)
theorem w_in_X6_tellPiece : Cond.instanceMethod yX6_tellPiece ∈ q_W := q_in (List.mem_of_getElem? (i := 866) (by decide +kernel)) (by decide +kernel)
theorem w_se_X6_tellPiece : Cond.selects RX6 yX6_tellPiece yX6_tellPiece ∈ q_W := q_in (List.mem_of_getElem? (i := 867) (by decide +kernel)) (by decide +kernel)
theorem w_f_X9_70 : Cond.fieldLink RX9 70 "RoverPlanner" "plan" "LRoverPlanner$Plan;" ∈ q_W := q_in (List.mem_of_getElem? (i := 329) (by decide +kernel)) (by decide +kernel)
theorem w_m_X9_265 : Cond.methodLink RX9 265 yX5_has ∈ q_W := q_in (List.mem_of_getElem? (i := 439) (by decide +kernel)) (by decide +kernel)
theorem w_m_X9_266 : Cond.methodLink RX9 266 yX5_tell ∈ q_W := q_in (List.mem_of_getElem? (i := 444) (by decide +kernel)) (by decide +kernel)
theorem w_m_X9_275 : Cond.methodLink RX9 275 yX9_numberOf ∈ q_W := q_in (List.mem_of_getElem? (i := 453) (by decide +kernel)) (by decide +kernel)
theorem w_in_X9_numberOf : Cond.instanceMethod yX9_numberOf ∈ q_W := q_in (List.mem_of_getElem? (i := 455) (by decide +kernel)) (by decide +kernel)
theorem w_se_X9_numberOf : Cond.selects RX9 yX9_numberOf yX9_numberOf ∈ q_W := q_in (List.mem_of_getElem? (i := 3) (by decide +kernel)) (by decide +kernel)
theorem w_fn_X9_247 : Cond.fieldLinkNest RX9 247 "RoverPlanner$Plan" "number" "I" "RoverPlanner" ∈ q_N := q_inN (List.mem_of_getElem? (i := 309) (by decide +kernel)) (by decide +kernel)
theorem w_m_X9_278 : Cond.methodLink RX9 278 yX9_doOnCopy ∈ q_W := q_in (List.mem_of_getElem? (i := 461) (by decide +kernel)) (by decide +kernel)
theorem w_in_X9_doOnCopy : Cond.instanceMethod yX9_doOnCopy ∈ q_W := q_in (List.mem_of_getElem? (i := 463) (by decide +kernel)) (by decide +kernel)
theorem w_se_X9_doOnCopy : Cond.selects RX9 yX9_doOnCopy yX9_doOnCopy ∈ q_W := q_in (List.mem_of_getElem? (i := 4) (by decide +kernel)) (by decide +kernel)
theorem w_f_X9_64 : Cond.fieldLink RX9 64 "RoverPlanner" "copy" "LRoverPlanner$Rover;" ∈ q_W := q_in (List.mem_of_getElem? (i := 328) (by decide +kernel)) (by decide +kernel)
theorem w_m_X9_268 : Cond.methodLink RX9 268 yX5_takeOut ∈ q_W := q_in (List.mem_of_getElem? (i := 675) (by decide +kernel)) (by decide +kernel)
theorem w_in_X5_takeOut : Cond.instanceMethod yX5_takeOut ∈ q_W := q_in (List.mem_of_getElem? (i := 676) (by decide +kernel)) (by decide +kernel)
theorem w_se_X5_takeOut : Cond.selects RX5 yX5_takeOut yX5_takeOut ∈ q_W := q_in (List.mem_of_getElem? (i := 677) (by decide +kernel)) (by decide +kernel)
theorem w_m_X9_288 : Cond.methodLink RX9 288 yX0_performAll ∈ q_W := q_in (List.mem_of_getElem? (i := 469) (by decide +kernel)) (by decide +kernel)
theorem w_in_X0_performAll : Cond.instanceMethod yX0_performAll ∈ q_W := q_in (List.mem_of_getElem? (i := 470) (by decide +kernel)) (by decide +kernel)
theorem w_se_X0_performAll : Cond.selects RX0 yX0_performAll yX0_performAll ∈ q_W := q_in (List.mem_of_getElem? (i := 471) (by decide +kernel)) (by decide +kernel)
theorem w_f_X9_53 : Cond.fieldLink RX9 53 "RoverPlanner" "maker" "LRoverPlanner$Maker;" ∈ q_W := q_in (List.mem_of_getElem? (i := 326) (by decide +kernel)) (by decide +kernel)
theorem w_m_X9_294 : Cond.methodLink RX9 294 yX2_extend ∈ q_W := q_in (List.mem_of_getElem? (i := 684) (by decide +kernel)) (by decide +kernel)
theorem w_in_X2_extend : Cond.instanceMethod yX2_extend ∈ q_W := q_in (List.mem_of_getElem? (i := 685) (by decide +kernel)) (by decide +kernel)
theorem w_se_X2_extend : Cond.selects RX2 yX2_extend yX2_extend ∈ q_W := q_in (List.mem_of_getElem? (i := 686) (by decide +kernel)) (by decide +kernel)
theorem w_fn_X9_300 : Cond.fieldLinkNest RX9 300 "RoverPlanner$Rover" "x" "I" "RoverPlanner" ∈ q_N := q_inN (List.mem_of_getElem? (i := 189) (by decide +kernel)) (by decide +kernel)
theorem w_fn_X9_303 : Cond.fieldLinkNest RX9 303 "RoverPlanner$Rover" "y" "I" "RoverPlanner" ∈ q_N := q_inN (List.mem_of_getElem? (i := 193) (by decide +kernel)) (by decide +kernel)
theorem w_m_X9_306 : Cond.methodLink RX9 306 yX8_measureFrom ∈ q_W := q_in (List.mem_of_getElem? (i := 771) (by decide +kernel)) (by decide +kernel)
theorem w_m_X9_309 : Cond.methodLink RX9 309 yX2_nearestPlace ∈ q_W := q_in (List.mem_of_getElem? (i := 772) (by decide +kernel)) (by decide +kernel)
theorem w_fn_X9_235 : Cond.fieldLinkNest RX9 235 "RoverPlanner$Targets" "number" "I" "RoverPlanner" ∈ q_N := q_inN (List.mem_of_getElem? (i := 139) (by decide +kernel)) (by decide +kernel)
theorem w_fn_X9_351 : Cond.fieldLinkNest RX9 351 "RoverPlanner$Passes" "number" "I" "RoverPlanner" ∈ q_N := q_inN (List.mem_of_getElem? (i := 161) (by decide +kernel)) (by decide +kernel)
theorem w_f_X9_313 : Cond.fieldLink RX9 313 "RoverPlanner" "markCount" "I" ∈ q_W := q_in (List.mem_of_getElem? (i := 331) (by decide +kernel)) (by decide +kernel)
theorem w_m_X9_322 : Cond.methodLink RX9 322 yX6_copyFrom ∈ q_W := q_in (List.mem_of_getElem? (i := 465) (by decide +kernel)) (by decide +kernel)
theorem w_m_X10_1 : Cond.methodLink RX10 1 objectInit ∈ q_W := q_in (List.mem_of_getElem? (i := 904) (by decide +kernel)) (by decide +kernel)
theorem w_in_objInit : Cond.instanceMethod objectInit ∈ q_W := q_in (List.mem_of_getElem? (i := 48) (by decide +kernel)) (by decide +kernel)
theorem w_co_objInit : Cond.code objectInit ⟨#[0xb1]⟩ 1 none ∈ q_W := q_in (List.mem_of_getElem? (i := 49) (by decide +kernel)) (by decide +kernel)
theorem w_f_X10_7 : Cond.fieldLink RX10 7 "RoverPlannerLaw$Sim" "r" "[I" ∈ q_W := q_in (List.mem_of_getElem? (i := 905) (by decide +kernel)) (by decide +kernel)
theorem w_cl_X10_13 : Cond.classLink RX10 13 "[I" ∈ q_W := q_in (List.mem_of_getElem? (i := 831) (by decide +kernel)) (by decide +kernel)
theorem w_f_X10_14 : Cond.fieldLink RX10 14 "RoverPlannerLaw$Sim" "pieces" "[[I" ∈ q_W := q_in (List.mem_of_getElem? (i := 907) (by decide +kernel)) (by decide +kernel)
theorem w_f_X10_18 : Cond.fieldLink RX10 18 "RoverPlannerLaw$Sim" "octants" "[I" ∈ q_W := q_in (List.mem_of_getElem? (i := 908) (by decide +kernel)) (by decide +kernel)
theorem w_f_X10_21 : Cond.fieldLink RX10 21 "RoverPlannerLaw$Sim" "touches" "[Z" ∈ q_W := q_in (List.mem_of_getElem? (i := 909) (by decide +kernel)) (by decide +kernel)
theorem w_f_X10_25 : Cond.fieldLink RX10 25 "RoverPlannerLaw$Sim" "memory" "I" ∈ q_W := q_in (List.mem_of_getElem? (i := 911) (by decide +kernel)) (by decide +kernel)
theorem w_f_X10_29 : Cond.fieldLink RX10 29 "RoverPlannerLaw$Sim" "rates" "[I" ∈ q_W := q_in (List.mem_of_getElem? (i := 913) (by decide +kernel)) (by decide +kernel)
theorem w_f_X10_32 : Cond.fieldLink RX10 32 "RoverPlannerLaw$Sim" "targets" "[[I" ∈ q_W := q_in (List.mem_of_getElem? (i := 917) (by decide +kernel)) (by decide +kernel)
theorem w_ar_int : Cond.arrayClass .int ∈ q_W := q_in (List.mem_of_getElem? (i := 106) (by decide +kernel)) (by decide +kernel)
theorem w_ar_boolean : Cond.arrayClass .boolean ∈ q_W := q_in (List.mem_of_getElem? (i := 107) (by decide +kernel)) (by decide +kernel)
theorem w_m_X10_48 : Cond.methodLink RX10 48 yX10_light ∈ q_W := q_in (List.mem_of_getElem? (i := 807) (by decide +kernel)) (by decide +kernel)
theorem w_in_X10_light : Cond.instanceMethod yX10_light ∈ q_W := q_in (List.mem_of_getElem? (i := 808) (by decide +kernel)) (by decide +kernel)
theorem w_se_X10_light : Cond.selects RX10 yX10_light yX10_light ∈ q_W := q_in (List.mem_of_getElem? (i := 809) (by decide +kernel)) (by decide +kernel)
theorem w_m_X10_52 : Cond.methodLink RX10 52 yX10_minute ∈ q_W := q_in (List.mem_of_getElem? (i := 803) (by decide +kernel)) (by decide +kernel)
theorem w_in_X10_minute : Cond.instanceMethod yX10_minute ∈ q_W := q_in (List.mem_of_getElem? (i := 804) (by decide +kernel)) (by decide +kernel)
theorem w_se_X10_minute : Cond.selects RX10 yX10_minute yX10_minute ∈ q_W := q_in (List.mem_of_getElem? (i := 805) (by decide +kernel)) (by decide +kernel)
theorem w_fn_X10_62 : Cond.fieldLinkNest RX10 62 "RoverPlannerLaw" "SX" "[I" "RoverPlannerLaw" ∈ q_N := q_inN (List.mem_of_getElem? (i := 815) (by decide +kernel)) (by decide +kernel)
theorem w_fn_X10_67 : Cond.fieldLinkNest RX10 67 "RoverPlannerLaw" "SY" "[I" "RoverPlannerLaw" ∈ q_N := q_inN (List.mem_of_getElem? (i := 816) (by decide +kernel)) (by decide +kernel)
theorem w_m_X10_56 : Cond.methodLink RX10 56 yJ6_compare_7cf53 ∈ q_W := q_in (List.mem_of_getElem? (i := 837) (by decide +kernel)) (by decide +kernel)
theorem w_m_X10_89 : Cond.methodLink RX10 89 yX10_octant ∈ q_W := q_in (List.mem_of_getElem? (i := 833) (by decide +kernel)) (by decide +kernel)
theorem w_f_X10_42 : Cond.fieldLink RX10 42 "RoverPlannerLaw$Sim" "made" "I" ∈ q_W := q_in (List.mem_of_getElem? (i := 910) (by decide +kernel)) (by decide +kernel)
theorem w_in_X10_octant : Cond.instanceMethod yX10_octant ∈ q_W := q_in (List.mem_of_getElem? (i := 834) (by decide +kernel)) (by decide +kernel)
theorem w_se_X10_octant : Cond.selects RX10 yX10_octant yX10_octant ∈ q_W := q_in (List.mem_of_getElem? (i := 835) (by decide +kernel)) (by decide +kernel)
theorem w_m_X10_83 : Cond.methodLink RX10 83 yX10_units ∈ q_W := q_in (List.mem_of_getElem? (i := 827) (by decide +kernel)) (by decide +kernel)
theorem w_m_X10_86 : Cond.methodLink RX10 86 yX10_minutes ∈ q_W := q_in (List.mem_of_getElem? (i := 799) (by decide +kernel)) (by decide +kernel)
theorem w_in_X10_minutes : Cond.instanceMethod yX10_minutes ∈ q_W := q_in (List.mem_of_getElem? (i := 800) (by decide +kernel)) (by decide +kernel)
theorem w_se_X10_minutes : Cond.selects RX10 yX10_minutes yX10_minutes ∈ q_W := q_in (List.mem_of_getElem? (i := 801) (by decide +kernel)) (by decide +kernel)
theorem w_in_X10_units : Cond.instanceMethod yX10_units ∈ q_W := q_in (List.mem_of_getElem? (i := 828) (by decide +kernel)) (by decide +kernel)
theorem w_se_X10_units : Cond.selects RX10 yX10_units yX10_units ∈ q_W := q_in (List.mem_of_getElem? (i := 829) (by decide +kernel)) (by decide +kernel)
theorem w_m_X10_70 : Cond.methodLink RX10 70 Lib.Math.abs.name ∈ q_W := q_in (List.mem_of_getElem? (i := 821) (by decide +kernel)) (by decide +kernel)
theorem w_m_X10_76 : Cond.methodLink RX10 76 Lib.Math.max.name ∈ q_W := q_in (List.mem_of_getElem? (i := 822) (by decide +kernel)) (by decide +kernel)
theorem w_f_X10_45 : Cond.fieldLink RX10 45 "RoverPlannerLaw$Sim" "g" "[I" ∈ q_W := q_in (List.mem_of_getElem? (i := 915) (by decide +kernel)) (by decide +kernel)
theorem w_mn_X10_79 : Cond.methodLinkNest RX10 79 yL_sees "RoverPlannerLaw" ∈ q_N := q_inN (List.mem_of_getElem? (i := 823) (by decide +kernel)) (by decide +kernel)
theorem w_st_L_sees : Cond.static yL_sees ∈ q_W := q_in (List.mem_of_getElem? (i := 824) (by decide +kernel)) (by decide +kernel)
theorem w_mn_X10_99 : Cond.methodLinkNest RX10 99 yL_next "RoverPlannerLaw" ∈ q_N := q_inN (List.mem_of_getElem? (i := 795) (by decide +kernel)) (by decide +kernel)
theorem w_mn_X10_103 : Cond.methodLinkNest RX10 103 yL_step "RoverPlannerLaw" ∈ q_N := q_inN (List.mem_of_getElem? (i := 798) (by decide +kernel)) (by decide +kernel)
theorem w_mn_X10_107 : Cond.methodLinkNest RX10 107 yL_energy "RoverPlannerLaw" ∈ q_N := q_inN (List.mem_of_getElem? (i := 811) (by decide +kernel)) (by decide +kernel)
theorem w_st_L_energy : Cond.static yL_energy ∈ q_W := q_in (List.mem_of_getElem? (i := 812) (by decide +kernel)) (by decide +kernel)
theorem w_st_L_step : Cond.static yL_step ∈ q_W := q_in (List.mem_of_getElem? (i := 789) (by decide +kernel)) (by decide +kernel)
theorem w_st_L_next : Cond.static yL_next ∈ q_W := q_in (List.mem_of_getElem? (i := 796) (by decide +kernel)) (by decide +kernel)
theorem w_mn_X10_95 : Cond.methodLinkNest RX10 95 yL_costs "RoverPlannerLaw" ∈ q_N := q_inN (List.mem_of_getElem? (i := 785) (by decide +kernel)) (by decide +kernel)
theorem w_st_L_costs : Cond.static yL_costs ∈ q_W := q_in (List.mem_of_getElem? (i := 786) (by decide +kernel)) (by decide +kernel)
theorem w_m_X10_110 : Cond.methodLink RX10 110 yX10_drive ∈ q_W := q_in (List.mem_of_getElem? (i := 781) (by decide +kernel)) (by decide +kernel)
theorem w_in_X10_drive : Cond.instanceMethod yX10_drive ∈ q_W := q_in (List.mem_of_getElem? (i := 782) (by decide +kernel)) (by decide +kernel)
theorem w_se_X10_drive : Cond.selects RX10 yX10_drive yX10_drive ∈ q_W := q_in (List.mem_of_getElem? (i := 783) (by decide +kernel)) (by decide +kernel)
theorem w_m_X10_113 : Cond.methodLink RX10 113 yX10_picture ∈ q_W := q_in (List.mem_of_getElem? (i := 817) (by decide +kernel)) (by decide +kernel)
theorem w_in_X10_picture : Cond.instanceMethod yX10_picture ∈ q_W := q_in (List.mem_of_getElem? (i := 818) (by decide +kernel)) (by decide +kernel)
theorem w_se_X10_picture : Cond.selects RX10 yX10_picture yX10_picture ∈ q_W := q_in (List.mem_of_getElem? (i := 819) (by decide +kernel)) (by decide +kernel)
theorem w_m_X10_117 : Cond.methodLink RX10 117 yX10_send ∈ q_W := q_in (List.mem_of_getElem? (i := 838) (by decide +kernel)) (by decide +kernel)
theorem w_in_X10_send : Cond.instanceMethod yX10_send ∈ q_W := q_in (List.mem_of_getElem? (i := 839) (by decide +kernel)) (by decide +kernel)
theorem w_se_X10_send : Cond.selects RX10 yX10_send yX10_send ∈ q_W := q_in (List.mem_of_getElem? (i := 840) (by decide +kernel)) (by decide +kernel)
theorem w_m_X10_120 : Cond.methodLink RX10 120 yX10_rest ∈ q_W := q_in (List.mem_of_getElem? (i := 846) (by decide +kernel)) (by decide +kernel)
theorem w_in_X10_rest : Cond.instanceMethod yX10_rest ∈ q_W := q_in (List.mem_of_getElem? (i := 847) (by decide +kernel)) (by decide +kernel)
theorem w_se_X10_rest : Cond.selects RX10 yX10_rest yX10_rest ∈ q_W := q_in (List.mem_of_getElem? (i := 848) (by decide +kernel)) (by decide +kernel)
theorem w_m_X10_143 : Cond.methodLink RX10 143 yX9_sent ∈ q_W := q_in (List.mem_of_getElem? (i := 884) (by decide +kernel)) (by decide +kernel)
theorem w_in_X9_sent : Cond.instanceMethod yX9_sent ∈ q_W := q_in (List.mem_of_getElem? (i := 885) (by decide +kernel)) (by decide +kernel)
theorem w_se_X9_sent : Cond.selects RX9 yX9_sent yX9_sent ∈ q_W := q_in (List.mem_of_getElem? (i := 886) (by decide +kernel)) (by decide +kernel)
theorem w_m_X10_137 : Cond.methodLink RX10 137 yX9_target ∈ q_W := q_in (List.mem_of_getElem? (i := 870) (by decide +kernel)) (by decide +kernel)
theorem w_in_X9_target : Cond.instanceMethod yX9_target ∈ q_W := q_in (List.mem_of_getElem? (i := 871) (by decide +kernel)) (by decide +kernel)
theorem w_se_X9_target : Cond.selects RX9 yX9_target yX9_target ∈ q_W := q_in (List.mem_of_getElem? (i := 872) (by decide +kernel)) (by decide +kernel)
theorem w_m_X10_140 : Cond.methodLink RX10 140 yX10_images ∈ q_W := q_in (List.mem_of_getElem? (i := 883) (by decide +kernel)) (by decide +kernel)
theorem w_m_X10_134 : Cond.methodLink RX10 134 yJ6_bitCount_0f7a4 ∈ q_W := q_in (List.mem_of_getElem? (i := 869) (by decide +kernel)) (by decide +kernel)
theorem w_in_X10_images : Cond.instanceMethod yX10_images ∈ q_W := q_in (List.mem_of_getElem? (i := 774) (by decide +kernel)) (by decide +kernel)
theorem w_se_X10_images : Cond.selects RX10 yX10_images yX10_images ∈ q_W := q_in (List.mem_of_getElem? (i := 775) (by decide +kernel)) (by decide +kernel)
theorem w_m_X10_131 : Cond.methodLink RX10 131 yX9_piece ∈ q_W := q_in (List.mem_of_getElem? (i := 859) (by decide +kernel)) (by decide +kernel)
theorem w_in_X9_piece : Cond.instanceMethod yX9_piece ∈ q_W := q_in (List.mem_of_getElem? (i := 860) (by decide +kernel)) (by decide +kernel)
theorem w_se_X9_piece : Cond.selects RX9 yX9_piece yX9_piece ∈ q_W := q_in (List.mem_of_getElem? (i := 861) (by decide +kernel)) (by decide +kernel)
theorem w_m_X10_123 : Cond.methodLink RX10 123 yX9_rover ∈ q_W := q_in (List.mem_of_getElem? (i := 854) (by decide +kernel)) (by decide +kernel)
theorem w_m_X10_128 : Cond.methodLink RX10 128 yX10_told ∈ q_W := q_in (List.mem_of_getElem? (i := 855) (by decide +kernel)) (by decide +kernel)
theorem w_in_X10_told : Cond.instanceMethod yX10_told ∈ q_W := q_in (List.mem_of_getElem? (i := 856) (by decide +kernel)) (by decide +kernel)
theorem w_se_X10_told : Cond.selects RX10 yX10_told yX10_told ∈ q_W := q_in (List.mem_of_getElem? (i := 857) (by decide +kernel)) (by decide +kernel)
theorem w_in_X9_rover : Cond.instanceMethod yX9_rover ∈ q_W := q_in (List.mem_of_getElem? (i := 356) (by decide +kernel)) (by decide +kernel)
theorem w_se_X9_rover : Cond.selects RX9 yX9_rover yX9_rover ∈ q_W := q_in (List.mem_of_getElem? (i := 357) (by decide +kernel)) (by decide +kernel)
theorem w_c_J6_265 : Cond.constant RJ6 265 (1431655765 : Int32) ∈ q_W := q_in (List.mem_of_getElem? (i := 731) (by decide +kernel)) (by decide +kernel)
theorem w_c_J6_266 : Cond.constant RJ6 266 (858993459 : Int32) ∈ q_W := q_in (List.mem_of_getElem? (i := 732) (by decide +kernel)) (by decide +kernel)
theorem w_c_J6_267 : Cond.constant RJ6 267 (252645135 : Int32) ∈ q_W := q_in (List.mem_of_getElem? (i := 733) (by decide +kernel)) (by decide +kernel)
theorem w_c_L_7 : Cond.constant RL 7 (2147483647 : Int32) ∈ q_W := q_in (List.mem_of_getElem? (i := 891) (by decide +kernel)) (by decide +kernel)
theorem w_m_L_33 : Cond.methodLink RL 33 yX9_pave ∈ q_W := q_in (List.mem_of_getElem? (i := 958) (by decide +kernel)) (by decide +kernel)
theorem w_in_X9_pave : Cond.instanceMethod yX9_pave ∈ q_W := q_in (List.mem_of_getElem? (i := 959) (by decide +kernel)) (by decide +kernel)
theorem w_se_X9_pave : Cond.selects RX9 yX9_pave yX9_pave ∈ q_W := q_in (List.mem_of_getElem? (i := 960) (by decide +kernel)) (by decide +kernel)
theorem w_m_L_24 : Cond.methodLink RL 24 Lib.Math.max.name ∈ q_W := q_in (List.mem_of_getElem? (i := 814) (by decide +kernel)) (by decide +kernel)
theorem w_m_L_27 : Cond.methodLink RL 27 yX9_raise ∈ q_W := q_in (List.mem_of_getElem? (i := 942) (by decide +kernel)) (by decide +kernel)
theorem w_in_X9_raise : Cond.instanceMethod yX9_raise ∈ q_W := q_in (List.mem_of_getElem? (i := 943) (by decide +kernel)) (by decide +kernel)
theorem w_se_X9_raise : Cond.selects RX9 yX9_raise yX9_raise ∈ q_W := q_in (List.mem_of_getElem? (i := 944) (by decide +kernel)) (by decide +kernel)
theorem w_m_L_9 : Cond.methodLink RL 9 yL_cell ∈ q_W := q_in (List.mem_of_getElem? (i := 892) (by decide +kernel)) (by decide +kernel)
theorem w_m_L_15 : Cond.methodLink RL 15 yL_below ∈ q_W := q_in (List.mem_of_getElem? (i := 888) (by decide +kernel)) (by decide +kernel)
theorem w_m_L_37 : Cond.methodLink RL 37 yX9_setSlope ∈ q_W := q_in (List.mem_of_getElem? (i := 967) (by decide +kernel)) (by decide +kernel)
theorem w_in_X9_setSlope : Cond.instanceMethod yX9_setSlope ∈ q_W := q_in (List.mem_of_getElem? (i := 968) (by decide +kernel)) (by decide +kernel)
theorem w_se_X9_setSlope : Cond.selects RX9 yX9_setSlope yX9_setSlope ∈ q_W := q_in (List.mem_of_getElem? (i := 969) (by decide +kernel)) (by decide +kernel)
theorem w_st_L_below : Cond.static yL_below ∈ q_W := q_in (List.mem_of_getElem? (i := 889) (by decide +kernel)) (by decide +kernel)
theorem w_st_L_cell : Cond.static yL_cell ∈ q_W := q_in (List.mem_of_getElem? (i := 893) (by decide +kernel)) (by decide +kernel)
theorem w_m_L_19 : Cond.methodLink RL 19 Lib.Math.min.name ∈ q_W := q_in (List.mem_of_getElem? (i := 941) (by decide +kernel)) (by decide +kernel)
theorem w_f_L_41 : Cond.fieldLink RL 41 "RoverPlannerLaw" "SX" "[I" ∈ q_W := q_in (List.mem_of_getElem? (i := 791) (by decide +kernel)) (by decide +kernel)
theorem w_f_L_45 : Cond.fieldLink RL 45 "RoverPlannerLaw" "SY" "[I" ∈ q_W := q_in (List.mem_of_getElem? (i := 793) (by decide +kernel)) (by decide +kernel)
theorem w_m_L_48 : Cond.methodLink RL 48 yL_step ∈ q_W := q_in (List.mem_of_getElem? (i := 788) (by decide +kernel)) (by decide +kernel)
theorem w_m_L_52 : Cond.methodLink RL 52 Lib.Math.abs.name ∈ q_W := q_in (List.mem_of_getElem? (i := 826) (by decide +kernel)) (by decide +kernel)
theorem w_f_L_77 : Cond.fieldLink RL 77 "RoverPlannerLaw$Sim" "rates" "[I" ∈ q_W := q_in (List.mem_of_getElem? (i := 914) (by decide +kernel)) (by decide +kernel)
theorem w_f_L_80 : Cond.fieldLink RL 80 "RoverPlannerLaw$Sim" "r" "[I" ∈ q_W := q_in (List.mem_of_getElem? (i := 906) (by decide +kernel)) (by decide +kernel)
theorem w_f_L_83 : Cond.fieldLink RL 83 "RoverPlannerLaw$Sim" "memory" "I" ∈ q_W := q_in (List.mem_of_getElem? (i := 912) (by decide +kernel)) (by decide +kernel)
theorem w_m_L_87 : Cond.methodLink RL 87 yX9_setRover ∈ q_W := q_in (List.mem_of_getElem? (i := 1008) (by decide +kernel)) (by decide +kernel)
theorem w_in_X9_setRover : Cond.instanceMethod yX9_setRover ∈ q_W := q_in (List.mem_of_getElem? (i := 1009) (by decide +kernel)) (by decide +kernel)
theorem w_se_X9_setRover : Cond.selects RX9 yX9_setRover yX9_setRover ∈ q_W := q_in (List.mem_of_getElem? (i := 1010) (by decide +kernel)) (by decide +kernel)
theorem w_m_L_73 : Cond.methodLink RL 73 yX9_addPass ∈ q_W := q_in (List.mem_of_getElem? (i := 993) (by decide +kernel)) (by decide +kernel)
theorem w_in_X9_addPass : Cond.instanceMethod yX9_addPass ∈ q_W := q_in (List.mem_of_getElem? (i := 994) (by decide +kernel)) (by decide +kernel)
theorem w_se_X9_addPass : Cond.selects RX9 yX9_addPass yX9_addPass ∈ q_W := q_in (List.mem_of_getElem? (i := 995) (by decide +kernel)) (by decide +kernel)
theorem w_f_L_65 : Cond.fieldLink RL 65 "RoverPlannerLaw$Sim" "targets" "[[I" ∈ q_W := q_in (List.mem_of_getElem? (i := 918) (by decide +kernel)) (by decide +kernel)
theorem w_m_L_69 : Cond.methodLink RL 69 yX9_addTarget ∈ q_W := q_in (List.mem_of_getElem? (i := 976) (by decide +kernel)) (by decide +kernel)
theorem w_in_X9_addTarget : Cond.instanceMethod yX9_addTarget ∈ q_W := q_in (List.mem_of_getElem? (i := 977) (by decide +kernel)) (by decide +kernel)
theorem w_se_X9_addTarget : Cond.selects RX9 yX9_addTarget yX9_addTarget ∈ q_W := q_in (List.mem_of_getElem? (i := 978) (by decide +kernel)) (by decide +kernel)
theorem w_cl_L_55 : Cond.classLink RL 55 "RoverPlannerLaw$Sim" ∈ q_W := q_in (List.mem_of_getElem? (i := 899) (by decide +kernel)) (by decide +kernel)
theorem w_iq_X10 : Cond.instantiable RX10 9 ∈ q_W := q_in (List.mem_of_getElem? (i := 900) (by decide +kernel)) (by decide +kernel)
theorem w_in9_X10 : Cond.initialized RX10 ∈ q_W := q_in (List.mem_of_getElem? (i := 34) (by decide +kernel)) (by decide +kernel)
theorem w_mn_L_57 : Cond.methodLinkNest RL 57 yX10_init "RoverPlannerLaw" ∈ q_N := q_inN (List.mem_of_getElem? (i := 901) (by decide +kernel)) (by decide +kernel)
theorem w_m_L_58 : Cond.methodLink RL 58 yL_ground ∈ q_W := q_in (List.mem_of_getElem? (i := 938) (by decide +kernel)) (by decide +kernel)
theorem w_f_L_62 : Cond.fieldLink RL 62 "RoverPlannerLaw$Sim" "g" "[I" ∈ q_W := q_in (List.mem_of_getElem? (i := 916) (by decide +kernel)) (by decide +kernel)
theorem w_st_L_ground : Cond.static yL_ground ∈ q_W := q_in (List.mem_of_getElem? (i := 939) (by decide +kernel)) (by decide +kernel)
theorem w_in_X10_init : Cond.instanceMethod yX10_init ∈ q_W := q_in (List.mem_of_getElem? (i := 902) (by decide +kernel)) (by decide +kernel)
theorem w_m_L_119 : Cond.methodLink RL 119 yX9_nearest ∈ q_W := q_in (List.mem_of_getElem? (i := 764) (by decide +kernel)) (by decide +kernel)
theorem w_m_L_140 : Cond.methodLink RL 140 yX9_way ∈ q_W := q_in (List.mem_of_getElem? (i := 1022) (by decide +kernel)) (by decide +kernel)
theorem w_in_X9_way : Cond.instanceMethod yX9_way ∈ q_W := q_in (List.mem_of_getElem? (i := 1023) (by decide +kernel)) (by decide +kernel)
theorem w_se_X9_way : Cond.selects RX9 yX9_way yX9_way ∈ q_W := q_in (List.mem_of_getElem? (i := 1024) (by decide +kernel)) (by decide +kernel)
theorem w_in_X9_nearest : Cond.instanceMethod yX9_nearest ∈ q_W := q_in (List.mem_of_getElem? (i := 765) (by decide +kernel)) (by decide +kernel)
theorem w_se_X9_nearest : Cond.selects RX9 yX9_nearest yX9_nearest ∈ q_W := q_in (List.mem_of_getElem? (i := 766) (by decide +kernel)) (by decide +kernel)
theorem w_ini_Math : Cond.initialized "java/lang/Math" ∈ q_W := q_in (List.mem_of_getElem? (i := 26) (by decide +kernel)) (by decide +kernel)
theorem w_st_max : Cond.static Lib.Math.max.name ∈ q_W := q_in (List.mem_of_getElem? (i := 87) (by decide +kernel)) (by decide +kernel)
theorem w_co_max : Cond.code Lib.Math.max.name Lib.Math.max.code 2 (some .int) ∈ q_W := q_in (List.mem_of_getElem? (i := 88) (by decide +kernel)) (by decide +kernel)
theorem w_st_min : Cond.static Lib.Math.min.name ∈ q_W := q_in (List.mem_of_getElem? (i := 534) (by decide +kernel)) (by decide +kernel)
theorem w_co_min : Cond.code Lib.Math.min.name Lib.Math.min.code 2 (some .int) ∈ q_W := q_in (List.mem_of_getElem? (i := 535) (by decide +kernel)) (by decide +kernel)
theorem w_st_abs : Cond.static Lib.Math.abs.name ∈ q_W := q_in (List.mem_of_getElem? (i := 80) (by decide +kernel)) (by decide +kernel)
theorem w_co_abs : Cond.code Lib.Math.abs.name Lib.Math.abs.code 1 (some .int) ∈ q_W := q_in (List.mem_of_getElem? (i := 81) (by decide +kernel)) (by decide +kernel)
end
section
/-! THE JUDGEMENT over the quiet machine -/
/-- a method: name, bytes, how many locals, what it returns -/
abbrev qM : Type := MethodName × ByteArray × Nat × Option FieldType
def q_sC (k : Nat) : String × String := match k with
  | 0 => ("RoverPlanner", "STEP_X")
  | 1 => ("RoverPlanner", "STEP_Y")
  | 2 => ("RoverPlannerLaw", "SX")
  | _ => ("RoverPlannerLaw", "SY")
def q_dx (j : Nat) : Int32 := match j with
  | 0 => 1
  | 1 => 1
  | 2 => 0
  | 3 => -1
  | 4 => -1
  | 5 => -1
  | 6 => 0
  | _ => 1
def q_dy (j : Nat) : Int32 := match j with
  | 0 => 0
  | 1 => 1
  | 2 => 1
  | 3 => 1
  | 4 => 0
  | 5 => -1
  | 6 => -1
  | _ => -1
def q_sF (k : Nat) : Nat → Int32 := match k with
  | 0 => q_dx
  | 1 => q_dy
  | 2 => q_dx
  | _ => q_dy
def q_str : List (Nat × String) := [(90, "no such rectangle, or a height beyond the limits"), (99, "no such rectangle or roughness"), (111, "no such place or number"), (124, "no such limit"), (151, "no such place"), (156, "no such value or need"), (164, "there are 12 targets"), (175, "no such target or number"), (181, "no such pass"), (184, "there are 6 passes"), (206, "no such capacity or memory"), (212, "there are more data than memory"), (223, "no such number"), (230, "no such piece or number"), (273, "no such activity or number"), (284, "not so many activities"), (286, "one of them fails"), (292, "not so many minutes"), (298, "no such target")]
theorem va_AOA.moved {u U : State} (hvm : u.vm.Alike U.vm) (h : va_AOA .int u) : va_AOA .int U := by
  unfold va_AOA Cond.before Cond.holds at h ⊢
  simp only [Cond.value, beq_iff_eq] at h ⊢
  cases hc : u.vm.findClass (FieldType.array .int).toString with
  | none => simp [hc] at h
  | some comp =>
    simp only [hc, Option.bind_some, Option.bind_eq_some_iff, Option.map_eq_some_iff] at h
    obtain ⟨c, hi, k, hk, hb⟩ := h
    obtain ⟨k', hk', he⟩ := hvm.2.2 _ _ hk
    have hb1 : U.vm.bare = u.vm.bare := by first | exact hvm.bare_eq | exact hvm.bare_eq.symm
    have hi2 := ((va_idx_bare U.vm comp).symm.trans (by rw [hb1])).trans ((va_idx_bare u.vm comp).trans hi)
    have f1 : U.vm.findClass (FieldType.array .int).toString = some comp := by rw [hvm.findClass]; exact hc
    have f2 : U.vm.findClass ("[" ++ (FieldType.array .int).toString) = u.vm.findClass ("[" ++ (FieldType.array .int).toString) := by rw [hvm.findClass]
    rw [f1, Option.bind_some]
    refine (congrArg (fun o : Option Nat => (o.bind (fun c => (U.vm.classes[c]?).map fun (k : Class) => match k.kind with | .array _ ty => decide (ty = FieldType.array .int) && decide (U.vm.findClass ("[" ++ (FieldType.array .int).toString) = some c) | _ => false))) hi2).trans ?_
    rw [Option.bind_some, hk', Option.map_some, he, f2]
    exact congrArg some hb
/-- what stands beside the run's own cells, and stays: the four rows of directions, what a throw reads, the texts, the words -/
def q_St (g : qG) (U : State) (H : Heap) : Prop :=
  (∀ k : Nat, k < 4 → va_Z (q_sC k).1 (q_sC k).2 "[I" (.ref (g.2.2.1 k)) (q_A g) U H ∧ va_T .int (g.2.2.1 k) 8 (fun j => .int (q_sF k j)) (q_A g) U H) ∧
  vx_Zq Bundle.tN "UNASSIGNED_STACK" Bundle.steD (q_A g) U H ∧ vx_Zq Bundle.tN "SUPPRESSED_SENTINEL" Bundle.listD (q_A g) U H ∧
  (∀ q ∈ q_str, ∃ sa : Nat, vk_R "RoverPlanner" q.1 q.2 sa U) ∧ (∀ w ∈ q_N, va_Nw w U) ∧ va_AO "RoverPlanner$Mark" U ∧ va_AOA .int U ∧
  (g.2.2.1 4 < g.2.2.2 ∧ ∃ (L : Nat) (xs : Nat → Int32), L < 2 ^ 31 ∧ va_X (g.2.2.1 4) L xs U H)
theorem q_St.mv {g : qG} {s U : State} {H : Heap} (h : q_St g s H) (hW : s.WarmedH U.vm) : q_St g U H := by
  obtain ⟨h1, h2, h3, h4, h5, h6, h7, h8, L, xs, hL, hX⟩ := h
  refine ⟨fun k hk => ⟨va_Z.moved hW.alike (h1 k hk).1, va_T.moved hW.alike (h1 k hk).2⟩, vx_Zq.moved hW.alike h2, vx_Zq.moved hW.alike h3, fun q hq => ?_, fun w hw => ?_, va_AO.moved hW.alike h6, va_AOA.moved hW.alike h7, h8, L, xs, hL, va_X.moved hW.alike hX⟩
  · obtain ⟨sa, hsa⟩ := h4 q hq
    exact ⟨sa, vk_R.warm hW hsa⟩
  · exact q_nest_warm (List.mem_filter.mp hw).2 hW (h5 w hw)
theorem q_St.kp {g : qG} {s : State} {H H1 : Heap} (h : q_St g s H) (hq : ∀ a : Nat, a < H.size → ¬ q_A g a → H1[a]? = H[a]?) : q_St g s H1 := by
  obtain ⟨h1, h2, h3, h4, h5, h6, h7, h8, L, xs, hL, hX⟩ := h
  exact ⟨fun k hk => ⟨(h1 k hk).1.kept hq, (h1 k hk).2.kept hq⟩, h2.kept hq, h3.kept hq, h4, h5, h6, h7, h8, L, xs, hL, hX.kept (hq _ (hX.elim fun _ q => (Array.getElem?_eq_some_iff.mp q.1).1) (Nat.not_le.mpr h8))⟩
def q_ty (g : qG) : List (ClassId × FieldType) := [(g.2.1 0, .int), (g.2.1 1, .int), (g.2.1 2, .boolean), (g.2.1 3, .object "RoverPlanner$Mark"), (g.2.1 4, .array .int)]
def q_R (d mc ms : Nat) : Room := { frames := d, cells := mc, slots := ms, locals := 42 * d }
def q_Qc (g : qG) (ad0 : Nat → Nat) (n0 : Nat) (Q : Option Value → qH → Prop) : Array Value → State → Outcome → State → Prop := fun _ st o t =>
  ∃ (v : Option Value) (h' : qH) (ad' : Nat → Nat), o = .returned (v.map (q_tv g ad')) ∧ Q v h' ∧ q_ag n0 ad0 ad' ∧ n0 ≤ h'.2 ∧ (∀ w, v = some w → q_wv h'.2 w) ∧ q_wh h' ∧ va_P g.1 q_cls (q_ws g ad' h') t.heap ∧ va_D (q_A g) (q_ws g ad' h') ∧ va_F (q_A g) st t
def q_Xc (g : qG) (ad0 : Nat → Nat) (n0 : Nat) (QX : String → qH → Prop) : String → State → State → Prop := fun E st t =>
  ∃ (h' : qH) (ad' : Nat → Nat), QX E h' ∧ q_ag n0 ad0 ad' ∧ n0 ≤ h'.2 ∧ q_wh h' ∧ va_P g.1 q_cls (q_ws g ad' h') t.heap ∧ va_D (q_A g) (q_ws g ad' h') ∧ va_F (q_A g) st t
def q_Pc (g : qG) (ad : Nat → Nat) (avs : List Value) (h : qH) : Array Value → State → Prop := fun a U =>
  a = (avs.map (q_tv g ad)).toArray ∧ va_P g.1 q_cls (q_ws g ad h) U.heap ∧ va_D (q_A g) (q_ws g ad h) ∧ va_K g.1 q_cls (q_ty g) U ∧ q_St g U U.heap ∧ g.2.2.2 ≤ U.heap.size
/-- Y, called with avs over h at depth d, comes back with Q, or throws with QX; it makes at most mc cells of ms slots -/
def q_Ct (l : Launch) (d : Nat) (Y : qM) (avs : List Value) (h : qH) (mc ms : Nat) (Q : Option Value → qH → Prop) (QX : String → qH → Prop) : Prop :=
  ∀ (g : qG) (ad : Nat → Nat), q_wh h → (∀ v ∈ avs, q_wv h.2 v) →
    vx_Met l Y.1 (Cond.code Y.1 Y.2.1 Y.2.2.1 Y.2.2.2 :: q_W) (q_R d mc ms) (q_Pc g ad avs h) (q_Qc g ad h.2 Q) (q_Xc g ad h.2 QX) mc ms (q_A g)
theorem q_blind (g : qG) (ad : Nat → Nat) (avs : List Value) (h : qH) : FrameBlind (q_Pc g ad avs h) := by
  intro a U f mk hp
  obtain ⟨h1, h2, h3, h4, h5, h6⟩ := hp
  exact ⟨h1, h2, h3, va_K.moved (u := U) (U := U.calling f mk a) (Vm.Alike.refl U.vm) h4, q_St.mv (U := U.calling f mk a) h5 (State.WarmedH.refl U), h6⟩
/-- what a body stands on -/
def q_C (l : Launch) (Y : qM) (g : qG) (p : Program) (s : State) (m : MethodId) (args : Array Value) (meth : Method) (c : Code) : Prop :=
  p.tables.exec = Jvm.exec ∧ c.code = Y.2.1 ∧ meth.sig.returnType = Y.2.2.2 ∧ c.maxLocals = Y.2.2.1 ∧ s.vm.findClass Y.1.cls = some m.cls ∧ meth.locks = false ∧ meth.name = Y.1.name ∧
  (∀ w ∈ q_W, w.before args s = true) ∧ (∀ z ∈ c.exceptionTable.toList, False) ∧ va_K g.1 q_cls (q_ty g) s ∧ q_St g s s.heap ∧ g.2.2.2 ≤ s.heap.size
/-- where it stands -/
def q_S (g : qG) (s : State) (ad0 ad : Nat → Nat) (n0 : Nat) (h : qH) (H : Heap) (locs : List Loc) (ls : Array Slot) (nL : Nat) (lo : List (Option Value)) (st : List Value) : Prop :=
  va_P g.1 q_cls (q_ws g ad h) H ∧ va_D (q_A g) (q_ws g ad h) ∧ q_wh h ∧ va_S (q_A g) s.heap H locs ∧ q_lo g ad ls nL lo ∧ (∀ v, some v ∈ lo → q_wv h.2 v) ∧ (∀ v ∈ st, q_wv h.2 v) ∧ q_ag n0 ad0 ad ∧ n0 ≤ h.2
/-- from here (pc, locals, stack, heap; kc cells of ks slots are left to make) the method comes to its end with Q, or throws with QX -/
def q_J (l : Launch) (d : Nat) (Y : qM) (mc ms : Nat) (Q : Option Value → qH → Prop) (QX : String → qH → Prop) (n0 pc : Nat) (lo : List (Option Value)) (st : List Value) (h : qH) (kc ks : Nat) : Prop :=
  ∀ (p : Program) (e : Env) (s : State) (m : MethodId) (args : Array Value) (below : List Frame) (meth : Method) (c : Code) (H : Heap) (locs : List Loc) (cells slots : Nat) (ls : Array Slot) (g : qG) (ad0 ad : Nat → Nat),
    q_C l Y g p s m args meth c → q_S g s ad0 ad n0 h H locs ls Y.2.2.1 lo st → cells + kc ≤ mc → slots + ks ≤ ms →
    W p l e (q_R d mc ms) s m args below meth c H locs cells slots (vx_MQ below (q_Qc g ad0 n0 Q) (q_Xc g ad0 n0 QX) args s mc ms (q_A g)) (F0 m pc ls (st.map (q_tv g ad)))
theorem q_entry_lo (g : qG) (ad : Nat → Nat) : ∀ (avs : List Value) (k j : Nat) (v : Value), (∀ v ∈ avs, v.category = 1) → (avs.map some)[j]? = some (some v) → (k + j, q_tv g ad v) ∈ lv_args k (avs.map (q_tv g ad))
  | [], k, j, v, _, h => by simp at h
  | a :: l, k, j, v, hc, h => by
    have h1 : (q_tv g ad a).category = 1 := (q_tv_cat g ad a).trans (hc a List.mem_cons_self)
    show _ ∈ (k, q_tv g ad a) :: lv_args (if (q_tv g ad a).category = 2 then k + 2 else k + 1) (l.map (q_tv g ad))
    rw [if_neg (by omega)]
    cases j with
    | zero =>
      simp at h
      subst h
      exact List.mem_cons_self
    | succ i =>
      refine List.mem_cons_of_mem _ ?_
      have h2 := q_entry_lo g ad l (k + 1) i v (fun v hv => hc v (List.mem_cons_of_mem _ hv)) (by simpa using h)
      rwa [show k + 1 + i = k + (i + 1) by omega] at h2
theorem q_sl_len (g : qG) (ad : Nat → Nat) : ∀ (avs : List Value), (∀ v ∈ avs, v.category = 1) → (lg_sl (avs.map (q_tv g ad))).length = avs.length
  | [], _ => rfl
  | a :: l, h => by
    have h1 : (q_tv g ad a).category = 1 := (q_tv_cat g ad a).trans (h a List.mem_cons_self)
    have h2 := q_sl_len g ad l (fun v hv => h v (List.mem_cons_of_mem _ hv))
    unfold lg_sl at h2 ⊢
    rw [List.map_cons, List.flatMap_cons, if_neg (by omega), List.length_append, h2]
    simp; omega
/-- a contract out of the body's walk from its entry -/
theorem q_body {l : Launch} {d : Nat} {Y : qM} {avs : List Value} {h : qH} {mc ms : Nat} {Q : Option Value → qH → Prop} {QX : String → qH → Prop} (hy : plainName Y.1.cls = true) (hc : ∀ v ∈ avs, v.category = 1) (hn : avs.length ≤ Y.2.2.1)
    (k : q_J l d Y mc ms Q QX h.2 0 (avs.map some) [] h mc ms) : q_Ct l d Y avs h mc ms Q QX := by
  intro g ad hw hv
  refine vx_ofW (cc := Y.2.1) (maxL := Y.2.2.1) (ret := Y.2.2.2) hy rfl ?_
  intro p e s m args below meth c s₁ B hml ht hP
  obtain ⟨rfl, hP1, hD1, hK, hSt, hb⟩ := hP
  have hts := atoms_spec (ws := Cond.code Y.1 Y.2.1 Y.2.2.1 Y.2.2.2 :: q_W) B.pre
  have hl := lv_entry (avs.map (q_tv g ad)) (n := Y.2.2.1) (by rw [q_sl_len g ad avs hc]; exact hn)
  rw [lg_entry_eq]
  generalize (lg_sl (avs.map (q_tv g ad)) ++ List.replicate (Y.2.2.1 - (lg_sl (avs.map (q_tv g ad))).length) Slot.unset).toArray = ls at hl ⊢
  refine k p e s m _ below meth c s.heap [] 0 0 ls g ad ad ⟨B.exec, B.bytes, B.returns, hml, findClass_of_methodNamed B.named, B.notSynchronized, (name_of_methodNamed B.named B.method).1, fun w hw => hts w (List.mem_cons_of_mem _ hw), ht, hK, hSt, hb⟩
    ⟨hP1, hD1, hw, va_S.rf, ⟨hl.1, hl.2.1, fun i v hi => ?_⟩, fun v hm => ?_, fun v hm => (nomatch hm), q_ag_rf, Nat.le_refl _⟩ (by omega) (by omega)
  · have h2 := q_entry_lo g ad avs 0 i v hc hi
    rw [Nat.zero_add] at h2
    exact hl.2.2 (i, _) h2
  · obtain ⟨w, hw, e⟩ := List.mem_map.mp hm
    cases e
    exact hv _ hw
section QR
variable {l : Launch} {d : Nat} {Y : qM} {mc ms : Nat} {Q : Option Value → qH → Prop} {QX : String → qH → Prop} {n0 pc : Nat} {lo : List (Option Value)} {st : List Value} {h : qH} {kc ks : Nat}
theorem q_tl {n : Nat} {a : Value} {st : List Value} (h : ∀ v ∈ a :: st, q_wv n v) : ∀ v ∈ st, q_wv n v := fun v hv => h v (List.mem_cons_of_mem _ hv)
theorem q_cn {n : Nat} {a : Value} {st : List Value} (ha : q_wv n a) (h : ∀ v ∈ st, q_wv n v) : ∀ v ∈ a :: st, q_wv n v := fun v hv => (List.mem_cons.mp hv).elim (fun e => by rw [e]; exact ha) (h v)
theorem q_hd {n : Nat} {a : Value} {st : List Value} (h : ∀ v ∈ a :: st, q_wv n v) : q_wv n a := h a List.mem_cons_self
/-- a step that touches the stack alone -/
theorem q_pure {pc' : Nat} {st' : List Value} (hw : (∀ v, some v ∈ lo → q_wv h.2 v) → (∀ v ∈ st, q_wv h.2 v) → ∀ v ∈ st', q_wv h.2 v)
    (hs : ∀ (p : Program) (e : Env) (R : Room) (s : State) (m : MethodId) (args : Array Value) (below : List Frame) (meth : Method) (c : Code) (H : Heap) (locs : List Loc) (cells slots : Nat) (ls : Array Slot) (g : qG) (ad : Nat → Nat) (Qf : State → Prop), p.tables.exec = Jvm.exec → c.code = Y.2.1 → q_lo g ad ls Y.2.2.1 lo → s.vm.findClass Y.1.cls = some m.cls → (∀ w ∈ q_W, w.before args s = true) →
      W p l e R s m args below meth c H locs cells slots Qf (F0 m pc' ls (st'.map (q_tv g ad))) → W p l e R s m args below meth c H locs cells slots Qf (F0 m pc ls (st.map (q_tv g ad))))
    (k : q_J l d Y mc ms Q QX n0 pc' lo st' h kc ks) : q_J l d Y mc ms Q QX n0 pc lo st h kc ks := by
  intro p e s m args below meth c H locs cells slots ls g ad0 ad C S h1 h2
  obtain ⟨s1, s2, s3, s4, s5, s6, s7, s8, s9⟩ := S
  obtain ⟨c1, c2, c3, c4, c5, c6, c7, c8, c9⟩ := id C
  exact hs p e _ s m args below meth c H locs cells slots ls g ad _ c1 c2 s5 c5 c8 (k p e s m args below meth c H locs cells slots ls g ad0 ad C ⟨s1, s2, s3, s4, s5, s6, hw s6 s7, s8, s9⟩ h1 h2)
theorem q_lom {i : Nat} {v : Value} (hl : lo[i]? = some (some v)) : some v ∈ lo := List.mem_of_getElem? hl
theorem j_iconst {n : Int} {v : Int32} (hd : decode Y.2.1 pc = .ok (.iconst n, 1)) (hv : Int32.ofInt n = v) (k : q_J l d Y mc ms Q QX n0 (pc + 1) lo (.int v :: st) h kc ks) : q_J l d Y mc ms Q QX n0 pc lo st h kc ks :=
  q_pure (fun _ b => q_cn (q_wi _ _) b) (fun p e R s m args below meth c H locs cells slots ls g ad Qf hx hb _ _ _ k => lv_iconst hx hb hd hv k) k
theorem j_bipush {n : Int} {v : Int32} (hd : decode Y.2.1 pc = .ok (.bipush n, 2)) (hv : (Int8.ofInt n).toInt32 = v) (k : q_J l d Y mc ms Q QX n0 (pc + 2) lo (.int v :: st) h kc ks) : q_J l d Y mc ms Q QX n0 pc lo st h kc ks :=
  q_pure (fun _ b => q_cn (q_wi _ _) b) (fun p e R s m args below meth c H locs cells slots ls g ad Qf hx hb _ _ _ k => lv_bipush hx hb hd hv k) k
theorem j_sipush {n : Int} {v : Int32} (hd : decode Y.2.1 pc = .ok (.sipush n, 3)) (hv : (Int16.ofInt n).toInt32 = v) (k : q_J l d Y mc ms Q QX n0 (pc + 3) lo (.int v :: st) h kc ks) : q_J l d Y mc ms Q QX n0 pc lo st h kc ks :=
  q_pure (fun _ b => q_cn (q_wi _ _) b) (fun p e R s m args below meth c H locs cells slots ls g ad Qf hx hb _ _ _ k => lv_sipush hx hb hd hv k) k
theorem j_lconst {n : Fin 2} {v : Int64} (hd : decode Y.2.1 pc = .ok (.lconst n, 1)) (hv : Int64.ofNat (n : Nat) = v) (k : q_J l d Y mc ms Q QX n0 (pc + 1) lo (.long v :: st) h kc ks) : q_J l d Y mc ms Q QX n0 pc lo st h kc ks :=
  q_pure (fun _ b => q_cn (q_wl _ _) b) (fun p e R s m args below meth c H locs cells slots ls g ad Qf hx hb _ _ _ k => lv_lconst hx hb hd hv k) k
theorem j_null (hd : decode Y.2.1 pc = .ok (.aconst_null, 1)) (k : q_J l d Y mc ms Q QX n0 (pc + 1) lo (.null :: st) h kc ks) : q_J l d Y mc ms Q QX n0 pc lo st h kc ks :=
  q_pure (fun _ b => q_cn (q_wn _) b) (fun p e R s m args below meth c H locs cells slots ls g ad Qf hx hb _ _ _ k => lv_null hx hb hd k) k
theorem j_ldc {i : Nat} {v : Int32} (hd : decode Y.2.1 pc = .ok (.ldc i, 2)) (hw : Cond.constant Y.1.cls i v ∈ q_W) (k : q_J l d Y mc ms Q QX n0 (pc + 2) lo (.int v :: st) h kc ks) : q_J l d Y mc ms Q QX n0 pc lo st h kc ks :=
  q_pure (fun _ b => q_cn (q_wi _ _) b) (fun p e R s m args below meth c H locs cells slots ls g ad Qf hx hb _ ho hts k => lv_ldc hx hb ho (hts _ hw) hd k) k
theorem j_ldcw {i : Nat} {v : Int32} (hd : decode Y.2.1 pc = .ok (.ldc_w i, 3)) (hw : Cond.constant Y.1.cls i v ∈ q_W) (k : q_J l d Y mc ms Q QX n0 (pc + 3) lo (.int v :: st) h kc ks) : q_J l d Y mc ms Q QX n0 pc lo st h kc ks :=
  q_pure (fun _ b => q_cn (q_wi _ _) b) (fun p e R s m args below meth c H locs cells slots ls g ad Qf hx hb _ ho hts k => lv_ldcw hx hb ho (hts _ hw) hd k) k
theorem j_ldc2 {i : Nat} {v : Int64} (hd : decode Y.2.1 pc = .ok (.ldc2_w i, 3)) (hw : Cond.constantLong Y.1.cls i v ∈ q_W) (k : q_J l d Y mc ms Q QX n0 (pc + 3) lo (.long v :: st) h kc ks) : q_J l d Y mc ms Q QX n0 pc lo st h kc ks :=
  q_pure (fun _ b => q_cn (q_wl _ _) b) (fun p e R s m args below meth c H locs cells slots ls g ad Qf hx hb _ ho hts k => lv_ldc2 hx hb ho (hts _ hw) hd k) k
theorem j_iload_n {n : Fin 4} {i : Nat} {z : Int32} (hd : decode Y.2.1 pc = .ok (.iload_n n, 1)) (hi : (n : Nat) = i) (hl : lo[i]? = some (some (.int z))) (k : q_J l d Y mc ms Q QX n0 (pc + 1) lo (.int z :: st) h kc ks) : q_J l d Y mc ms Q QX n0 pc lo st h kc ks :=
  q_pure (fun _ b => q_cn (q_wi _ _) b) (fun p e R s m args below meth c H locs cells slots ls g ad Qf hx hb o _ _ k => lv_iload_n hx hb hd hi (o.2.2 _ _ hl) k) k
theorem j_iload {i : Nat} {z : Int32} (hd : decode Y.2.1 pc = .ok (.iload i, 2)) (hl : lo[i]? = some (some (.int z))) (k : q_J l d Y mc ms Q QX n0 (pc + 2) lo (.int z :: st) h kc ks) : q_J l d Y mc ms Q QX n0 pc lo st h kc ks :=
  q_pure (fun _ b => q_cn (q_wi _ _) b) (fun p e R s m args below meth c H locs cells slots ls g ad Qf hx hb o _ _ k => lv_iload hx hb hd (o.2.2 _ _ hl) k) k
theorem j_lload_n {n : Fin 4} {i : Nat} {z : Int64} (hd : decode Y.2.1 pc = .ok (.lload_n n, 1)) (hi : (n : Nat) = i) (hl : lo[i]? = some (some (.long z))) (k : q_J l d Y mc ms Q QX n0 (pc + 1) lo (.long z :: st) h kc ks) : q_J l d Y mc ms Q QX n0 pc lo st h kc ks :=
  q_pure (fun _ b => q_cn (q_wl _ _) b) (fun p e R s m args below meth c H locs cells slots ls g ad Qf hx hb o _ _ k => lv_lload_n hx hb hd hi (o.2.2 _ _ hl) k) k
theorem j_lload {i : Nat} {z : Int64} (hd : decode Y.2.1 pc = .ok (.lload i, 2)) (hl : lo[i]? = some (some (.long z))) (k : q_J l d Y mc ms Q QX n0 (pc + 2) lo (.long z :: st) h kc ks) : q_J l d Y mc ms Q QX n0 pc lo st h kc ks :=
  q_pure (fun _ b => q_cn (q_wl _ _) b) (fun p e R s m args below meth c H locs cells slots ls g ad Qf hx hb o _ _ k => lv_lload hx hb hd (o.2.2 _ _ hl) k) k
theorem j_aload_n {n : Fin 4} {i : Nat} {z : Nat} (hd : decode Y.2.1 pc = .ok (.aload_n n, 1)) (hi : (n : Nat) = i) (hl : lo[i]? = some (some (.ref z))) (k : q_J l d Y mc ms Q QX n0 (pc + 1) lo (.ref z :: st) h kc ks) : q_J l d Y mc ms Q QX n0 pc lo st h kc ks :=
  q_pure (fun a b => q_cn (a _ (q_lom hl)) b) (fun p e R s m args below meth c H locs cells slots ls g ad Qf hx hb o _ _ k => lv_aload_n hx hb hd hi (o.2.2 _ _ hl) k) k
theorem j_aload {i : Nat} {z : Nat} (hd : decode Y.2.1 pc = .ok (.aload i, 2)) (hl : lo[i]? = some (some (.ref z))) (k : q_J l d Y mc ms Q QX n0 (pc + 2) lo (.ref z :: st) h kc ks) : q_J l d Y mc ms Q QX n0 pc lo st h kc ks :=
  q_pure (fun a b => q_cn (a _ (q_lom hl)) b) (fun p e R s m args below meth c H locs cells slots ls g ad Qf hx hb o _ _ k => lv_aload hx hb hd (o.2.2 _ _ hl) k) k
theorem j_aload_nN {n : Fin 4} {i : Nat} (hd : decode Y.2.1 pc = .ok (.aload_n n, 1)) (hi : (n : Nat) = i) (hl : lo[i]? = some (some .null)) (k : q_J l d Y mc ms Q QX n0 (pc + 1) lo (.null :: st) h kc ks) : q_J l d Y mc ms Q QX n0 pc lo st h kc ks :=
  q_pure (fun _ b => q_cn (q_wn _) b) (fun p e R s m args below meth c H locs cells slots ls g ad Qf hx hb o _ _ k => lv_aload_nN hx hb hd hi (o.2.2 _ _ hl) k) k
theorem j_iadd {a b : Int32} (hd : decode Y.2.1 pc = .ok (.iadd, 1)) (k : q_J l d Y mc ms Q QX n0 (pc + 1) lo (.int (a + b) :: st) h kc ks) : q_J l d Y mc ms Q QX n0 pc lo (.int b :: .int a :: st) h kc ks :=
  q_pure (fun _ b => q_cn (q_wi _ _) (q_tl (q_tl b))) (fun p e R s m args below meth c H locs cells slots ls g ad Qf hx hb _ _ _ k => lv_iadd hx hb hd k) k
theorem j_isub {a b : Int32} (hd : decode Y.2.1 pc = .ok (.isub, 1)) (k : q_J l d Y mc ms Q QX n0 (pc + 1) lo (.int (a - b) :: st) h kc ks) : q_J l d Y mc ms Q QX n0 pc lo (.int b :: .int a :: st) h kc ks :=
  q_pure (fun _ b => q_cn (q_wi _ _) (q_tl (q_tl b))) (fun p e R s m args below meth c H locs cells slots ls g ad Qf hx hb _ _ _ k => lv_isub hx hb hd k) k
theorem j_imul {a b : Int32} (hd : decode Y.2.1 pc = .ok (.imul, 1)) (k : q_J l d Y mc ms Q QX n0 (pc + 1) lo (.int (a * b) :: st) h kc ks) : q_J l d Y mc ms Q QX n0 pc lo (.int b :: .int a :: st) h kc ks :=
  q_pure (fun _ b => q_cn (q_wi _ _) (q_tl (q_tl b))) (fun p e R s m args below meth c H locs cells slots ls g ad Qf hx hb _ _ _ k => lv_imul hx hb hd k) k
theorem j_iand {a b : Int32} (hd : decode Y.2.1 pc = .ok (.iand, 1)) (k : q_J l d Y mc ms Q QX n0 (pc + 1) lo (.int (a &&& b) :: st) h kc ks) : q_J l d Y mc ms Q QX n0 pc lo (.int b :: .int a :: st) h kc ks :=
  q_pure (fun _ b => q_cn (q_wi _ _) (q_tl (q_tl b))) (fun p e R s m args below meth c H locs cells slots ls g ad Qf hx hb _ _ _ k => lv_iand hx hb hd k) k
theorem j_ior {a b : Int32} (hd : decode Y.2.1 pc = .ok (.ior, 1)) (k : q_J l d Y mc ms Q QX n0 (pc + 1) lo (.int (a ||| b) :: st) h kc ks) : q_J l d Y mc ms Q QX n0 pc lo (.int b :: .int a :: st) h kc ks :=
  q_pure (fun _ b => q_cn (q_wi _ _) (q_tl (q_tl b))) (fun p e R s m args below meth c H locs cells slots ls g ad Qf hx hb _ _ _ k => lv_ior hx hb hd k) k
theorem j_ixor {a b : Int32} (hd : decode Y.2.1 pc = .ok (.ixor, 1)) (k : q_J l d Y mc ms Q QX n0 (pc + 1) lo (.int (a ^^^ b) :: st) h kc ks) : q_J l d Y mc ms Q QX n0 pc lo (.int b :: .int a :: st) h kc ks :=
  q_pure (fun _ b => q_cn (q_wi _ _) (q_tl (q_tl b))) (fun p e R s m args below meth c H locs cells slots ls g ad Qf hx hb _ _ _ k => lv_ixor hx hb hd k) k
theorem j_idiv {a b : Int32} (hd : decode Y.2.1 pc = .ok (.idiv, 1)) (hne : ¬ b = 0) (k : q_J l d Y mc ms Q QX n0 (pc + 1) lo (.int (a / b) :: st) h kc ks) : q_J l d Y mc ms Q QX n0 pc lo (.int b :: .int a :: st) h kc ks :=
  q_pure (fun _ b => q_cn (q_wi _ _) (q_tl (q_tl b))) (fun p e R s m args below meth c H locs cells slots ls g ad Qf hx hb _ _ _ k => lv_idiv hx hb hd hne k) k
theorem j_irem {a b : Int32} (hd : decode Y.2.1 pc = .ok (.irem, 1)) (hne : ¬ b = 0) (k : q_J l d Y mc ms Q QX n0 (pc + 1) lo (.int (a - a / b * b) :: st) h kc ks) : q_J l d Y mc ms Q QX n0 pc lo (.int b :: .int a :: st) h kc ks :=
  q_pure (fun _ b => q_cn (q_wi _ _) (q_tl (q_tl b))) (fun p e R s m args below meth c H locs cells slots ls g ad Qf hx hb _ _ _ k => lv_irem hx hb hd hne k) k
theorem j_ineg {a : Int32} (hd : decode Y.2.1 pc = .ok (.ineg, 1)) (k : q_J l d Y mc ms Q QX n0 (pc + 1) lo (.int (-a) :: st) h kc ks) : q_J l d Y mc ms Q QX n0 pc lo (.int a :: st) h kc ks :=
  q_pure (fun _ b => q_cn (q_wi _ _) (q_tl b)) (fun p e R s m args below meth c H locs cells slots ls g ad Qf hx hb _ _ _ k => lv_ineg hx hb hd k) k
theorem j_ishl {a b : Int32} (hd : decode Y.2.1 pc = .ok (.ishl, 1)) (k : q_J l d Y mc ms Q QX n0 (pc + 1) lo (.int (a <<< (b &&& 31)) :: st) h kc ks) : q_J l d Y mc ms Q QX n0 pc lo (.int b :: .int a :: st) h kc ks :=
  q_pure (fun _ b => q_cn (q_wi _ _) (q_tl (q_tl b))) (fun p e R s m args below meth c H locs cells slots ls g ad Qf hx hb _ _ _ k => lv_ishl hx hb hd k) k
theorem j_ishr {a b : Int32} (hd : decode Y.2.1 pc = .ok (.ishr, 1)) (k : q_J l d Y mc ms Q QX n0 (pc + 1) lo (.int (a >>> (b &&& 31)) :: st) h kc ks) : q_J l d Y mc ms Q QX n0 pc lo (.int b :: .int a :: st) h kc ks :=
  q_pure (fun _ b => q_cn (q_wi _ _) (q_tl (q_tl b))) (fun p e R s m args below meth c H locs cells slots ls g ad Qf hx hb _ _ _ k => lv_ishr hx hb hd k) k
theorem j_iushr {a b : Int32} (hd : decode Y.2.1 pc = .ok (.iushr, 1)) (k : q_J l d Y mc ms Q QX n0 (pc + 1) lo (.int (a.toUInt32 >>> (b.toUInt32 &&& Int32.toUInt32 31)).toInt32 :: st) h kc ks) : q_J l d Y mc ms Q QX n0 pc lo (.int b :: .int a :: st) h kc ks :=
  q_pure (fun _ b => q_cn (q_wi _ _) (q_tl (q_tl b))) (fun p e R s m args below meth c H locs cells slots ls g ad Qf hx hb _ _ _ k => lv_iushr hx hb hd rfl k) k
theorem j_ladd {a b : Int64} (hd : decode Y.2.1 pc = .ok (.ladd, 1)) (k : q_J l d Y mc ms Q QX n0 (pc + 1) lo (.long (a + b) :: st) h kc ks) : q_J l d Y mc ms Q QX n0 pc lo (.long b :: .long a :: st) h kc ks :=
  q_pure (fun _ b => q_cn (q_wl _ _) (q_tl (q_tl b))) (fun p e R s m args below meth c H locs cells slots ls g ad Qf hx hb _ _ _ k => lv_ladd hx hb hd k) k
theorem j_lmul {a b : Int64} (hd : decode Y.2.1 pc = .ok (.lmul, 1)) (k : q_J l d Y mc ms Q QX n0 (pc + 1) lo (.long (a * b) :: st) h kc ks) : q_J l d Y mc ms Q QX n0 pc lo (.long b :: .long a :: st) h kc ks :=
  q_pure (fun _ b => q_cn (q_wl _ _) (q_tl (q_tl b))) (fun p e R s m args below meth c H locs cells slots ls g ad Qf hx hb _ _ _ k => lv_lmul hx hb hd k) k
theorem j_i2l {a : Int32} (hd : decode Y.2.1 pc = .ok (.i2l, 1)) (k : q_J l d Y mc ms Q QX n0 (pc + 1) lo (.long a.toInt64 :: st) h kc ks) : q_J l d Y mc ms Q QX n0 pc lo (.int a :: st) h kc ks :=
  q_pure (fun _ b => q_cn (q_wl _ _) (q_tl b)) (fun p e R s m args below meth c H locs cells slots ls g ad Qf hx hb _ _ _ k => lv_i2l hx hb hd rfl k) k
theorem j_l2i {a : Int64} (hd : decode Y.2.1 pc = .ok (.l2i, 1)) (k : q_J l d Y mc ms Q QX n0 (pc + 1) lo (.int a.toInt32 :: st) h kc ks) : q_J l d Y mc ms Q QX n0 pc lo (.long a :: st) h kc ks :=
  q_pure (fun _ b => q_cn (q_wi _ _) (q_tl b)) (fun p e R s m args below meth c H locs cells slots ls g ad Qf hx hb _ _ _ k => lv_l2i hx hb hd rfl k) k
theorem j_lcmp {a b : Int64} (hd : decode Y.2.1 pc = .ok (.lcmp, 1)) (k : q_J l d Y mc ms Q QX n0 (pc + 1) lo (.int (lg_cmp a b) :: st) h kc ks) : q_J l d Y mc ms Q QX n0 pc lo (.long b :: .long a :: st) h kc ks :=
  q_pure (fun _ b => q_cn (q_wi _ _) (q_tl (q_tl b))) (fun p e R s m args below meth c H locs cells slots ls g ad Qf hx hb _ _ _ k => W.lcmp hx hb hd k) k
theorem j_dup {a : Value} (hd : decode Y.2.1 pc = .ok (.dup, 1)) (ha : a.category = 1) (k : q_J l d Y mc ms Q QX n0 (pc + 1) lo (a :: a :: st) h kc ks) : q_J l d Y mc ms Q QX n0 pc lo (a :: st) h kc ks :=
  q_pure (fun _ b => q_cn (q_hd b) b) (fun p e R s m args below meth c H locs cells slots ls g ad Qf hx hb _ _ _ k => lv_dup hx hb hd ((q_tv_cat _ _ _).trans ha) k) k
theorem j_pop {a : Value} (hd : decode Y.2.1 pc = .ok (.pop, 1)) (ha : a.category = 1) (k : q_J l d Y mc ms Q QX n0 (pc + 1) lo st h kc ks) : q_J l d Y mc ms Q QX n0 pc lo (a :: st) h kc ks :=
  q_pure (fun _ b => q_tl b) (fun p e R s m args below meth c H locs cells slots ls g ad Qf hx hb _ _ _ k => lv_pop hx hb hd ((q_tv_cat _ _ _).trans ha) k) k
theorem j_dup2 {a b : Value} (hd : decode Y.2.1 pc = .ok (.dup2, 1)) (ha : a.category = 1) (hb' : b.category = 1) (k : q_J l d Y mc ms Q QX n0 (pc + 1) lo (a :: b :: a :: b :: st) h kc ks) : q_J l d Y mc ms Q QX n0 pc lo (a :: b :: st) h kc ks :=
  q_pure (fun _ w => q_cn (q_hd w) (q_cn (q_hd (q_tl w)) w)) (fun p e R s m args below meth c H locs cells slots ls g ad Qf hx hb _ _ _ k => lv_dup2_11 hx hb hd ((q_tv_cat _ _ _).trans ha) ((q_tv_cat _ _ _).trans hb') k) k
theorem j_goto {off : Int} {tgt : Nat} (hd : decode Y.2.1 pc = .ok (.goto off, 3)) (ht : (pc : Int) + off = (tgt : Int)) (k : q_J l d Y mc ms Q QX n0 tgt lo st h kc ks) : q_J l d Y mc ms Q QX n0 pc lo st h kc ks :=
  q_pure (fun _ b => b) (fun p e R s m args below meth c H locs cells slots ls g ad Qf hx hb _ _ _ k => lv_goto hx hb hd ht k) k
theorem j_ifnull {i : Nat} {off : Int} (hd : decode Y.2.1 pc = .ok (.ifnull off, 3)) (k : q_J l d Y mc ms Q QX n0 (pc + 3) lo st h kc ks) : q_J l d Y mc ms Q QX n0 pc lo (.ref i :: st) h kc ks :=
  q_pure (fun _ b => q_tl b) (fun p e R s m args below meth c H locs cells slots ls g ad Qf hx hb _ _ _ k => lv_ifnull hx hb hd k) k
theorem j_ifnullN {off : Int} {tgt : Nat} (hd : decode Y.2.1 pc = .ok (.ifnull off, 3)) (ht : (pc : Int) + off = (tgt : Int)) (k : q_J l d Y mc ms Q QX n0 tgt lo st h kc ks) : q_J l d Y mc ms Q QX n0 pc lo (.null :: st) h kc ks :=
  q_pure (fun _ b => q_tl b) (fun p e R s m args below meth c H locs cells slots ls g ad Qf hx hb _ _ _ k => lv_ifnullN hx hb hd ht k) k
theorem j_ifnonnull {i : Nat} {off : Int} {tgt : Nat} (hd : decode Y.2.1 pc = .ok (.ifnonnull off, 3)) (ht : (pc : Int) + off = (tgt : Int)) (k : q_J l d Y mc ms Q QX n0 tgt lo st h kc ks) : q_J l d Y mc ms Q QX n0 pc lo (.ref i :: st) h kc ks :=
  q_pure (fun _ b => q_tl b) (fun p e R s m args below meth c H locs cells slots ls g ad Qf hx hb _ _ _ k => lv_ifnonnull hx hb hd ht k) k
theorem j_ifnonnullN {off : Int} (hd : decode Y.2.1 pc = .ok (.ifnonnull off, 3)) (k : q_J l d Y mc ms Q QX n0 (pc + 3) lo st h kc ks) : q_J l d Y mc ms Q QX n0 pc lo (.null :: st) h kc ks :=
  q_pure (fun _ b => q_tl b) (fun p e R s m args below meth c H locs cells slots ls g ad Qf hx hb _ _ _ k => lv_ifnonnullN hx hb hd k) k
/-- a branch: two ways on -/
theorem q_two {pc1 pc2 : Nat} {st' : List Value} {cd : Prop} (hw : (∀ v ∈ st, q_wv h.2 v) → ∀ v ∈ st', q_wv h.2 v)
    (hs : ∀ (p : Program) (e : Env) (R : Room) (s : State) (m : MethodId) (args : Array Value) (below : List Frame) (meth : Method) (c : Code) (H : Heap) (locs : List Loc) (cells slots : Nat) (ls : Array Slot) (g : qG) (ad : Nat → Nat) (Qf : State → Prop), p.tables.exec = Jvm.exec → c.code = Y.2.1 →
      (cd → W p l e R s m args below meth c H locs cells slots Qf (F0 m pc1 ls (st'.map (q_tv g ad)))) → (¬ cd → W p l e R s m args below meth c H locs cells slots Qf (F0 m pc2 ls (st'.map (q_tv g ad)))) → W p l e R s m args below meth c H locs cells slots Qf (F0 m pc ls (st.map (q_tv g ad))))
    (k1 : cd → q_J l d Y mc ms Q QX n0 pc1 lo st' h kc ks) (k2 : ¬ cd → q_J l d Y mc ms Q QX n0 pc2 lo st' h kc ks) : q_J l d Y mc ms Q QX n0 pc lo st h kc ks := by
  intro p e s m args below meth c H locs cells slots ls g ad0 ad C S h1 h2
  obtain ⟨s1, s2, s3, s4, s5, s6, s7, s8, s9⟩ := S
  have S' : q_S g s ad0 ad n0 h H locs ls Y.2.2.1 lo st' := ⟨s1, s2, s3, s4, s5, s6, hw s7, s8, s9⟩
  exact hs p e _ s m args below meth c H locs cells slots ls g ad _ C.1 C.2.1 (fun q => k1 q p e s m args below meth c H locs cells slots ls g ad0 ad C S' h1 h2) (fun q => k2 q p e s m args below meth c H locs cells slots ls g ad0 ad C S' h1 h2)
theorem j_icmp_eq {a b : Int32} {off : Int} {tgt : Nat} (hd : decode Y.2.1 pc = .ok (.if_icmp .eq off, 3)) (ht : (pc : Int) + off = (tgt : Int)) (kt : a = b → q_J l d Y mc ms Q QX n0 tgt lo st h kc ks) (kf : ¬ a = b → q_J l d Y mc ms Q QX n0 (pc + 3) lo st h kc ks) : q_J l d Y mc ms Q QX n0 pc lo (.int b :: .int a :: st) h kc ks :=
  q_two (cd := a = b) (fun b => q_tl (q_tl b)) (fun p e R s m args below meth c H locs cells slots ls g ad Qf hx hb k1 k2 => lv_icmp_eq hx hb hd ht k1 k2) kt kf
theorem j_if_eq {a : Int32} {off : Int} {tgt : Nat} (hd : decode Y.2.1 pc = .ok (.ifCond .eq off, 3)) (ht : (pc : Int) + off = (tgt : Int)) (kt : a = 0 → q_J l d Y mc ms Q QX n0 tgt lo st h kc ks) (kf : ¬ a = 0 → q_J l d Y mc ms Q QX n0 (pc + 3) lo st h kc ks) : q_J l d Y mc ms Q QX n0 pc lo (.int a :: st) h kc ks :=
  q_two (cd := a = 0) (fun b => q_tl b) (fun p e R s m args below meth c H locs cells slots ls g ad Qf hx hb k1 k2 => lv_if_eq hx hb hd ht k1 k2) kt kf
theorem j_icmp_ne {a b : Int32} {off : Int} {tgt : Nat} (hd : decode Y.2.1 pc = .ok (.if_icmp .ne off, 3)) (ht : (pc : Int) + off = (tgt : Int)) (kt : ¬ a = b → q_J l d Y mc ms Q QX n0 tgt lo st h kc ks) (kf : a = b → q_J l d Y mc ms Q QX n0 (pc + 3) lo st h kc ks) : q_J l d Y mc ms Q QX n0 pc lo (.int b :: .int a :: st) h kc ks :=
  q_two (cd := a = b) (fun b => q_tl (q_tl b)) (fun p e R s m args below meth c H locs cells slots ls g ad Qf hx hb k1 k2 => lv_icmp_ne hx hb hd ht k2 k1) kf kt
theorem j_if_ne {a : Int32} {off : Int} {tgt : Nat} (hd : decode Y.2.1 pc = .ok (.ifCond .ne off, 3)) (ht : (pc : Int) + off = (tgt : Int)) (kt : ¬ a = 0 → q_J l d Y mc ms Q QX n0 tgt lo st h kc ks) (kf : a = 0 → q_J l d Y mc ms Q QX n0 (pc + 3) lo st h kc ks) : q_J l d Y mc ms Q QX n0 pc lo (.int a :: st) h kc ks :=
  q_two (cd := a = 0) (fun b => q_tl b) (fun p e R s m args below meth c H locs cells slots ls g ad Qf hx hb k1 k2 => lv_if_ne hx hb hd ht k2 k1) kf kt
theorem j_icmp_lt {a b : Int32} {off : Int} {tgt : Nat} (hd : decode Y.2.1 pc = .ok (.if_icmp .lt off, 3)) (ht : (pc : Int) + off = (tgt : Int)) (kt : a < b → q_J l d Y mc ms Q QX n0 tgt lo st h kc ks) (kf : ¬ a < b → q_J l d Y mc ms Q QX n0 (pc + 3) lo st h kc ks) : q_J l d Y mc ms Q QX n0 pc lo (.int b :: .int a :: st) h kc ks :=
  q_two (cd := a < b) (fun b => q_tl (q_tl b)) (fun p e R s m args below meth c H locs cells slots ls g ad Qf hx hb k1 k2 => lv_icmp_lt hx hb hd ht k1 k2) kt kf
theorem j_if_lt {a : Int32} {off : Int} {tgt : Nat} (hd : decode Y.2.1 pc = .ok (.ifCond .lt off, 3)) (ht : (pc : Int) + off = (tgt : Int)) (kt : a < 0 → q_J l d Y mc ms Q QX n0 tgt lo st h kc ks) (kf : ¬ a < 0 → q_J l d Y mc ms Q QX n0 (pc + 3) lo st h kc ks) : q_J l d Y mc ms Q QX n0 pc lo (.int a :: st) h kc ks :=
  q_two (cd := a < 0) (fun b => q_tl b) (fun p e R s m args below meth c H locs cells slots ls g ad Qf hx hb k1 k2 => lv_if_lt hx hb hd ht k1 k2) kt kf
theorem j_icmp_ge {a b : Int32} {off : Int} {tgt : Nat} (hd : decode Y.2.1 pc = .ok (.if_icmp .ge off, 3)) (ht : (pc : Int) + off = (tgt : Int)) (kt : b ≤ a → q_J l d Y mc ms Q QX n0 tgt lo st h kc ks) (kf : ¬ b ≤ a → q_J l d Y mc ms Q QX n0 (pc + 3) lo st h kc ks) : q_J l d Y mc ms Q QX n0 pc lo (.int b :: .int a :: st) h kc ks :=
  q_two (cd := b ≤ a) (fun b => q_tl (q_tl b)) (fun p e R s m args below meth c H locs cells slots ls g ad Qf hx hb k1 k2 => lv_icmp_ge hx hb hd ht k1 k2) kt kf
theorem j_if_ge {a : Int32} {off : Int} {tgt : Nat} (hd : decode Y.2.1 pc = .ok (.ifCond .ge off, 3)) (ht : (pc : Int) + off = (tgt : Int)) (kt : 0 ≤ a → q_J l d Y mc ms Q QX n0 tgt lo st h kc ks) (kf : ¬ 0 ≤ a → q_J l d Y mc ms Q QX n0 (pc + 3) lo st h kc ks) : q_J l d Y mc ms Q QX n0 pc lo (.int a :: st) h kc ks :=
  q_two (cd := 0 ≤ a) (fun b => q_tl b) (fun p e R s m args below meth c H locs cells slots ls g ad Qf hx hb k1 k2 => lv_if_ge hx hb hd ht k1 k2) kt kf
theorem j_icmp_gt {a b : Int32} {off : Int} {tgt : Nat} (hd : decode Y.2.1 pc = .ok (.if_icmp .gt off, 3)) (ht : (pc : Int) + off = (tgt : Int)) (kt : b < a → q_J l d Y mc ms Q QX n0 tgt lo st h kc ks) (kf : ¬ b < a → q_J l d Y mc ms Q QX n0 (pc + 3) lo st h kc ks) : q_J l d Y mc ms Q QX n0 pc lo (.int b :: .int a :: st) h kc ks :=
  q_two (cd := b < a) (fun b => q_tl (q_tl b)) (fun p e R s m args below meth c H locs cells slots ls g ad Qf hx hb k1 k2 => lv_icmp_gt hx hb hd ht k1 k2) kt kf
theorem j_if_gt {a : Int32} {off : Int} {tgt : Nat} (hd : decode Y.2.1 pc = .ok (.ifCond .gt off, 3)) (ht : (pc : Int) + off = (tgt : Int)) (kt : 0 < a → q_J l d Y mc ms Q QX n0 tgt lo st h kc ks) (kf : ¬ 0 < a → q_J l d Y mc ms Q QX n0 (pc + 3) lo st h kc ks) : q_J l d Y mc ms Q QX n0 pc lo (.int a :: st) h kc ks :=
  q_two (cd := 0 < a) (fun b => q_tl b) (fun p e R s m args below meth c H locs cells slots ls g ad Qf hx hb k1 k2 => lv_if_gt hx hb hd ht k1 k2) kt kf
theorem j_icmp_le {a b : Int32} {off : Int} {tgt : Nat} (hd : decode Y.2.1 pc = .ok (.if_icmp .le off, 3)) (ht : (pc : Int) + off = (tgt : Int)) (kt : a ≤ b → q_J l d Y mc ms Q QX n0 tgt lo st h kc ks) (kf : ¬ a ≤ b → q_J l d Y mc ms Q QX n0 (pc + 3) lo st h kc ks) : q_J l d Y mc ms Q QX n0 pc lo (.int b :: .int a :: st) h kc ks :=
  q_two (cd := a ≤ b) (fun b => q_tl (q_tl b)) (fun p e R s m args below meth c H locs cells slots ls g ad Qf hx hb k1 k2 => lv_icmp_le hx hb hd ht k1 k2) kt kf
theorem j_if_le {a : Int32} {off : Int} {tgt : Nat} (hd : decode Y.2.1 pc = .ok (.ifCond .le off, 3)) (ht : (pc : Int) + off = (tgt : Int)) (kt : a ≤ 0 → q_J l d Y mc ms Q QX n0 tgt lo st h kc ks) (kf : ¬ a ≤ 0 → q_J l d Y mc ms Q QX n0 (pc + 3) lo st h kc ks) : q_J l d Y mc ms Q QX n0 pc lo (.int a :: st) h kc ks :=
  q_two (cd := a ≤ 0) (fun b => q_tl b) (fun p e R s m args below meth c H locs cells slots ls g ad Qf hx hb k1 k2 => lv_if_le hx hb hd ht k1 k2) kt kf
theorem j_tableIn {dflt lo0 hi : Int} {offs : Array Int} {len : Nat} {a : Int32} {off : Int} {tgt : Nat} (hd : decode Y.2.1 pc = .ok (.tableswitch dflt lo0 hi offs, len)) (q1 : ¬ a.toInt < lo0) (q2 : ¬ hi < a.toInt) (ho : offs[(a.toInt - lo0).toNat]? = some off) (ht : (pc : Int) + off = (tgt : Int)) (k : q_J l d Y mc ms Q QX n0 tgt lo st h kc ks) : q_J l d Y mc ms Q QX n0 pc lo (.int a :: st) h kc ks :=
  q_pure (fun _ b => q_tl b) (fun p e R s m args below meth c H locs cells slots ls g ad Qf hx hb _ _ _ k => lv_tableIn hx hb hd q1 q2 ho ht k) k
theorem j_tableOut {dflt lo0 hi : Int} {offs : Array Int} {len : Nat} {a : Int32} {tgt : Nat} (hd : decode Y.2.1 pc = .ok (.tableswitch dflt lo0 hi offs, len)) (q1 : a.toInt < lo0 ∨ hi < a.toInt) (ht : (pc : Int) + dflt = (tgt : Int)) (k : q_J l d Y mc ms Q QX n0 tgt lo st h kc ks) : q_J l d Y mc ms Q QX n0 pc lo (.int a :: st) h kc ks :=
  q_pure (fun _ b => q_tl b) (fun p e R s m args below meth c H locs cells slots ls g ad Qf hx hb _ _ _ k => lv_tableOut hx hb hd q1 ht k) k
theorem j_lookup {dflt : Int} {ps : Array (Int × Int)} {len : Nat} {a : Int32} {off : Int} {tgt : Nat} (hd : decode Y.2.1 pc = .ok (.lookupswitch dflt ps, len)) (hp : (ps.toList.zip (ps.toList.drop 1)).all (fun (a, next) => a.1 < next.1) = true) (ho : Op.lookupswitch.offset ps.toList dflt a.toInt = off) (ht : (pc : Int) + off = (tgt : Int)) (k : q_J l d Y mc ms Q QX n0 tgt lo st h kc ks) : q_J l d Y mc ms Q QX n0 pc lo (.int a :: st) h kc ks :=
  q_pure (fun _ b => q_tl b) (fun p e R s m args below meth c H locs cells slots ls g ad Qf hx hb _ _ _ k => lv_lookup hx hb hd hp ho ht k) k
/-- fewer known locals: those where bs says true -/
def q_mk : List Bool → List (Option Value) → List (Option Value)
  | b :: bs, v :: l => (if b then v else none) :: q_mk bs l
  | _, _ => []
theorem q_mk_at : ∀ (bs : List Bool) (lo : List (Option Value)) (i : Nat) (v : Value), (q_mk bs lo)[i]? = some (some v) → lo[i]? = some (some v)
  | [], _, i, v, h => by simp [q_mk] at h
  | _ :: _, [], i, v, h => by simp [q_mk] at h
  | b :: bs, w :: l, 0, v, h => by
    cases b <;> simp_all [q_mk]
  | b :: bs, w :: l, i + 1, v, h => by
    simp only [q_mk, List.getElem?_cons_succ] at h ⊢
    exact q_mk_at bs l i v h
/-- locals are changed -/
theorem q_loc {pc' : Nat} {lo' : List (Option Value)} {st' : List Value} (hw : (∀ v, some v ∈ lo → q_wv h.2 v) → (∀ v ∈ st, q_wv h.2 v) → (∀ v, some v ∈ lo' → q_wv h.2 v) ∧ ∀ v ∈ st', q_wv h.2 v)
    (hs : ∀ (p : Program) (e : Env) (R : Room) (s : State) (m : MethodId) (args : Array Value) (below : List Frame) (meth : Method) (c : Code) (H : Heap) (locs : List Loc) (cells slots : Nat) (ls : Array Slot) (g : qG) (ad : Nat → Nat) (Qf : State → Prop), p.tables.exec = Jvm.exec → c.code = Y.2.1 → q_lo g ad ls Y.2.2.1 lo →
      (∀ ls' : Array Slot, q_lo g ad ls' Y.2.2.1 lo' → W p l e R s m args below meth c H locs cells slots Qf (F0 m pc' ls' (st'.map (q_tv g ad)))) → W p l e R s m args below meth c H locs cells slots Qf (F0 m pc ls (st.map (q_tv g ad))))
    (k : q_J l d Y mc ms Q QX n0 pc' lo' st' h kc ks) : q_J l d Y mc ms Q QX n0 pc lo st h kc ks := by
  intro p e s m args below meth c H locs cells slots ls g ad0 ad C S h1 h2
  obtain ⟨s1, s2, s3, s4, s5, s6, s7, s8, s9⟩ := S
  exact hs p e _ s m args below meth c H locs cells slots ls g ad _ C.1 C.2.1 s5 (fun ls' hl => k p e s m args below meth c H locs cells slots ls' g ad0 ad C ⟨s1, s2, s3, s4, hl, (hw s6 s7).1, (hw s6 s7).2, s8, s9⟩ h1 h2)
theorem q_lset {n i : Nat} {a : Value} {lo : List (Option Value)} (ha : q_wv n a) (hl : ∀ v, some v ∈ lo → q_wv n v) : ∀ v, some v ∈ lo.set i (some a) → q_wv n v := by
  intro v hv
  rcases List.mem_or_eq_of_mem_set hv with h | h
  · exact hl v h
  · cases h; exact ha
theorem q_lset0 {n i : Nat} {lo : List (Option Value)} (hl : ∀ v, some v ∈ lo → q_wv n v) : ∀ v, some v ∈ lo.set i none → q_wv n v := by
  intro v hv
  rcases List.mem_or_eq_of_mem_set hv with h | h
  · exact hl v h
  · cases h
theorem j_mask (bs : List Bool) {lo' : List (Option Value)} (he : q_mk bs lo = lo') (k : q_J l d Y mc ms Q QX n0 pc lo' st h kc ks) : q_J l d Y mc ms Q QX n0 pc lo st h kc ks := by
  subst he
  refine q_loc (fun a b => ⟨fun v hv => ?_, b⟩) (fun p e R s m args below meth c H locs cells slots ls g ad Qf hx hb o k => k ls ⟨o.1, o.2.1, fun i v hi => o.2.2 i v (q_mk_at _ _ _ _ hi)⟩) k
  obtain ⟨i, hi⟩ := List.getElem?_of_mem hv
  exact a v (List.mem_of_getElem? (q_mk_at _ _ _ _ hi))
theorem j_istore_n {n : Fin 4} {i : Nat} {z : Int32} {lo' : List (Option Value)} (hd : decode Y.2.1 pc = .ok (.istore_n n, 1)) (hi : (n : Nat) = i) (hn : i < Y.2.2.1) (ho : q_ok1 lo i = true) (he : lo.set i (some (.int z)) = lo') (k : q_J l d Y mc ms Q QX n0 (pc + 1) lo' st h kc ks) : q_J l d Y mc ms Q QX n0 pc lo (.int z :: st) h kc ks := by
  subst he
  exact q_loc (fun a b => ⟨q_lset (q_wi _ _) a, q_tl b⟩) (fun p e R s m args below meth c H locs cells slots ls g ad Qf hx hb o k => lv_istore_n hx hb hd hi (q_lo_has o) hn rfl (fun ls' hl => k ls' (q_lo_st1 ho hl))) k
theorem j_istore {i : Nat} {z : Int32} {lo' : List (Option Value)} (hd : decode Y.2.1 pc = .ok (.istore i, 2)) (hn : i < Y.2.2.1) (ho : q_ok1 lo i = true) (he : lo.set i (some (.int z)) = lo') (k : q_J l d Y mc ms Q QX n0 (pc + 2) lo' st h kc ks) : q_J l d Y mc ms Q QX n0 pc lo (.int z :: st) h kc ks := by
  subst he
  exact q_loc (fun a b => ⟨q_lset (q_wi _ _) a, q_tl b⟩) (fun p e R s m args below meth c H locs cells slots ls g ad Qf hx hb o k => lv_istore hx hb hd (q_lo_has o) hn rfl (fun ls' hl => k ls' (q_lo_st1 ho hl))) k
theorem j_astore_n {n : Fin 4} {i : Nat} {z : Nat} {lo' : List (Option Value)} (hd : decode Y.2.1 pc = .ok (.astore_n n, 1)) (hi : (n : Nat) = i) (hn : i < Y.2.2.1) (ho : q_ok1 lo i = true) (he : lo.set i (some (.ref z)) = lo') (k : q_J l d Y mc ms Q QX n0 (pc + 1) lo' st h kc ks) : q_J l d Y mc ms Q QX n0 pc lo (.ref z :: st) h kc ks := by
  subst he
  exact q_loc (fun a b => ⟨q_lset (q_hd b) a, q_tl b⟩) (fun p e R s m args below meth c H locs cells slots ls g ad Qf hx hb o k => lv_astore_n hx hb hd hi (q_lo_has o) hn rfl (fun ls' hl => k ls' (q_lo_st1 (v := .ref z) ho hl))) k
theorem j_astore {i : Nat} {z : Nat} {lo' : List (Option Value)} (hd : decode Y.2.1 pc = .ok (.astore i, 2)) (hn : i < Y.2.2.1) (ho : q_ok1 lo i = true) (he : lo.set i (some (.ref z)) = lo') (k : q_J l d Y mc ms Q QX n0 (pc + 2) lo' st h kc ks) : q_J l d Y mc ms Q QX n0 pc lo (.ref z :: st) h kc ks := by
  subst he
  exact q_loc (fun a b => ⟨q_lset (q_hd b) a, q_tl b⟩) (fun p e R s m args below meth c H locs cells slots ls g ad Qf hx hb o k => lv_astore hx hb hd (q_lo_has o) hn rfl (fun ls' hl => k ls' (q_lo_st1 (v := .ref z) ho hl))) k
theorem j_astore_nN {n : Fin 4} {i : Nat} {lo' : List (Option Value)} (hd : decode Y.2.1 pc = .ok (.astore_n n, 1)) (hi : (n : Nat) = i) (hn : i < Y.2.2.1) (ho : q_ok1 lo i = true) (he : lo.set i (some .null) = lo') (k : q_J l d Y mc ms Q QX n0 (pc + 1) lo' st h kc ks) : q_J l d Y mc ms Q QX n0 pc lo (.null :: st) h kc ks := by
  subst he
  exact q_loc (fun a b => ⟨q_lset (q_wn _) a, q_tl b⟩) (fun p e R s m args below meth c H locs cells slots ls g ad Qf hx hb o k => lv_astore_nN hx hb hd hi (q_lo_has o) hn rfl (fun ls' hl => k ls' (q_lo_st1 (v := .null) ho hl))) k
theorem j_lstore_n {n : Fin 4} {i : Nat} {z : Int64} {lo' : List (Option Value)} (hd : decode Y.2.1 pc = .ok (.lstore_n n, 1)) (hi : (n : Nat) = i) (hn : i + 1 < Y.2.2.1) (ho : q_ok1 lo i = true) (he : (lo.set i (some (.long z))).set (i + 1) none = lo') (k : q_J l d Y mc ms Q QX n0 (pc + 1) lo' st h kc ks) : q_J l d Y mc ms Q QX n0 pc lo (.long z :: st) h kc ks := by
  subst he
  exact q_loc (fun a b => ⟨q_lset0 (q_lset (q_wl _ _) a), q_tl b⟩) (fun p e R s m args below meth c H locs cells slots ls g ad Qf hx hb o k => lv_lstore_n hx hb hd hi (q_lo_has o) hn rfl (fun ls' hl => k ls' (q_lo_st2 ho hl))) k
theorem j_lstore {i : Nat} {z : Int64} {lo' : List (Option Value)} (hd : decode Y.2.1 pc = .ok (.lstore i, 2)) (hn : i + 1 < Y.2.2.1) (ho : q_ok1 lo i = true) (he : (lo.set i (some (.long z))).set (i + 1) none = lo') (k : q_J l d Y mc ms Q QX n0 (pc + 2) lo' st h kc ks) : q_J l d Y mc ms Q QX n0 pc lo (.long z :: st) h kc ks := by
  subst he
  exact q_loc (fun a b => ⟨q_lset0 (q_lset (q_wl _ _) a), q_tl b⟩) (fun p e R s m args below meth c H locs cells slots ls g ad Qf hx hb o k => lv_lstore hx hb hd (q_lo_has o) hn rfl (fun ls' hl => k ls' (q_lo_st2 ho hl))) k
theorem j_iinc {i : Nat} {n : Int} {z w : Int32} {lo' : List (Option Value)} (hd : decode Y.2.1 pc = .ok (.iinc i n, 3)) (hl : lo[i]? = some (some (.int z))) (hv : z + Int32.ofInt n = w) (hn : i < Y.2.2.1) (ho : q_ok1 lo i = true) (he : lo.set i (some (.int w)) = lo') (k : q_J l d Y mc ms Q QX n0 (pc + 3) lo' st h kc ks) : q_J l d Y mc ms Q QX n0 pc lo st h kc ks := by
  subst he
  refine q_loc (fun a b => ⟨q_lset (q_wi _ _) a, b⟩) (fun p e R s m args below meth c H locs cells slots ls g ad Qf hx hb o k => ?_) k
  obtain ⟨j, hj⟩ := List.getElem?_of_mem (q_as_mem (g := g) (ad := ad) (lo := lo) (i := i) (w := .int z) |>.mpr ⟨_, hl, rfl⟩)
  exact lv_iinc hx hb hd (q_lo_has o) hj hv hn rfl (fun ls' hl => k ls' (q_lo_st1 ho hl))
end QR
end
section
section QH
variable {l : Launch} {d : Nat} {Y : qM} {mc ms : Nat} {Q : Option Value → qH → Prop} {QX : String → qH → Prop} {n0 pc : Nat} {lo : List (Option Value)} {st : List Value} {h : qH} {kc ks : Nat}
/-- a class of the world: its place in q_cls, its fields -/
def q_cl (ci : Nat) (C : String) (T : u_T) (N : Nat) : Prop := q_cls[ci]? = some (C, T, N) ∧ ∀ w ∈ u_ws C T N, w ∈ q_W
theorem j_getf {ci k idx i N : Nat} {C : String} {T : u_T} {fs : List Value} {v : Value} (hc : q_cl ci C T N) (hk : k < N) (hl : Cond.fieldLink Y.1.cls idx (T k).1 (T k).2.1 (T k).2.2.1 ∈ q_W) (hd : decode Y.2.1 pc = .ok (.getfield idx, 3)) (hh : h.1 i = .inr (ci, fs)) (hv : fs[k]? = some v)
    (kk : q_J l d Y mc ms Q QX n0 (pc + 3) lo (v :: st) h kc ks) : q_J l d Y mc ms Q QX n0 pc lo (.ref i :: st) h kc ks := by
  intro p e s m args below meth c H locs cells slots ls g ad0 ad C0 S h1 h2
  obtain ⟨s1, s2, s3, s4, s5, s6, s7, s8, s9⟩ := S
  obtain ⟨c1, c2, c3, c4, c5, c6, c7, c8, c9, c10, c11, c12⟩ := id C0
  have hi : i < h.2 := s7 _ List.mem_cons_self i rfl
  have hw := s3 i hi
  rw [hh] at hw
  refine va_get (D := g.1) (ci := ci) (cl := q_cls) (Ts := q_W) (v := q_tv g ad v) c1 c2 c8 hc.2 c5 c10 s1 i (fs := fs.map (q_tv g ad)) ?_ hc.1 k hk (c8 _ hl) (fun x hx => hx) ?_ hd ?_
  · rw [q_ws_get hi, hh]; rfl
  · rw [List.getElem?_map, hv]; rfl
  · exact kk p e s m args below meth c H locs cells slots ls g ad0 ad C0 ⟨s1, s2, s3, s4, s5, s6, q_cn (hw v (List.mem_of_getElem? hv)) (q_tl s7), s8, s9⟩ h1 h2
theorem j_getfN {ci k idx i N : Nat} {C host : String} {T : u_T} {fs : List Value} {v : Value} (hc : q_cl ci C T N) (hk : k < N) (hl : Cond.fieldLinkNest Y.1.cls idx (T k).1 (T k).2.1 (T k).2.2.1 host ∈ q_N) (hd : decode Y.2.1 pc = .ok (.getfield idx, 3)) (hh : h.1 i = .inr (ci, fs)) (hv : fs[k]? = some v)
    (kk : q_J l d Y mc ms Q QX n0 (pc + 3) lo (v :: st) h kc ks) : q_J l d Y mc ms Q QX n0 pc lo (.ref i :: st) h kc ks := by
  intro p e s m args below meth c H locs cells slots ls g ad0 ad C0 S h1 h2
  obtain ⟨s1, s2, s3, s4, s5, s6, s7, s8, s9⟩ := S
  obtain ⟨c1, c2, c3, c4, c5, c6, c7, c8, c9, c10, c11, c12⟩ := id C0
  have hi : i < h.2 := s7 _ List.mem_cons_self i rfl
  have hw := s3 i hi
  rw [hh] at hw
  refine va_getN (D := g.1) (ci := ci) (cl := q_cls) (Ts := q_W) (v := q_tv g ad v) c1 c2 c8 hc.2 c5 c10 s1 i (fs := fs.map (q_tv g ad)) ?_ hc.1 k hk (va_Nw.use rfl (c11.2.2.2.2.1 _ hl)) (fun x hx => hx) ?_ hd ?_
  · rw [q_ws_get hi, hh]; rfl
  · rw [List.getElem?_map, hv]; rfl
  · exact kk p e s m args below meth c H locs cells slots ls g ad0 ad C0 ⟨s1, s2, s3, s4, s5, s6, q_cn (hw v (List.mem_of_getElem? hv)) (q_tl s7), s8, s9⟩ h1 h2
/-- a field that may be written: its type takes the value -/
def q_pf (T : u_T) (N k : Nat) (ty0 : Nat → FieldType) (fin : Bool) : Prop := k < N ∧ (∀ k, k < N → parseFieldDescriptor (T k).2.2.1 = some (ty0 k)) ∧ (∀ a, a < N → ∀ b, b < N → a ≠ b → (T a).2.1 ≠ (T b).2.1) ∧ (T k).2.2.2 = fin
theorem j_put {ci k idx i N : Nat} {C : String} {T : u_T} {ty0 : Nat → FieldType} {fs : List Value} {v : Value} (hc : q_cl ci C T N) (hp : q_pf T N k ty0 false) (hl : Cond.fieldLink Y.1.cls idx (T k).1 (T k).2.1 (T k).2.2.1 ∈ q_W) (hd : decode Y.2.1 pc = .ok (.putfield idx, 3))
    (hn : ∀ (g : qG) (ad : Nat → Nat), narrow (ty0 k) (q_tv g ad v) = q_tv g ad v ∧ fits (ty0 k) (q_tv g ad v) = true) (hh : h.1 i = .inr (ci, fs)) (hlen : k < fs.length)
    (kk : q_J l d Y mc ms Q QX n0 (pc + 3) lo st (q_set h i (.inr (ci, fs.set k v))) kc ks) : q_J l d Y mc ms Q QX n0 pc lo (v :: .ref i :: st) h kc ks := by
  intro p e s m args below meth c H locs cells slots ls g ad0 ad C0 S h1 h2
  obtain ⟨s1, s2, s3, s4, s5, s6, s7, s8, s9⟩ := S
  obtain ⟨c1, c2, c3, c4, c5, c6, c7, c8, c9, c10, c11, c12⟩ := id C0
  have hi : i < h.2 := s7 _ (List.mem_cons_of_mem _ List.mem_cons_self) i rfl
  have hw := s3 i hi
  rw [hh] at hw
  refine va_put (D := g.1) (ci := ci) (cl := q_cls) (Ts := q_W) (v := q_tv g ad v) c1 c2 c8 hc.2 ty0 hp.2.1 hp.2.2.1 c5 c10 s1 s2 s4 i (fs := fs.map (q_tv g ad)) ?_ hc.1 k hp.1 (c8 _ hl) (fun x hx => hx) hp.2.2.2 (hp.2.1 k hp.1) (hn g ad).1 (hn g ad).2 (by rw [List.length_map]; exact hlen) hd (fun H1 locs1 hP1 hD1 hS1 => ?_)
  · rw [q_ws_get hi, hh]; rfl
  · have e9 : ((q_ws g ad h).set i (ad i, .inr (ci, (fs.map (q_tv g ad)).set k (q_tv g ad v)))) = q_ws g ad (q_set h i (.inr (ci, fs.set k v))) := by
      rw [← q_ws_set hi]
      show _ = (q_ws g ad h).set i (ad i, .inr (ci, (fs.set k v).map (q_tv g ad)))
      rw [List.map_set]
    rw [e9] at hP1 hD1
    exact kk p e s m args below meth c H1 locs1 cells slots ls g ad0 ad C0 ⟨hP1, hD1, q_wh_set s3 (fun w hm => (List.mem_or_eq_of_mem_set hm).elim (hw w) (fun q => q ▸ q_hd s7)), hS1, s5, s6, q_tl (q_tl s7), s8, s9⟩ h1 h2
theorem j_putN {ci k idx i N : Nat} {C host : String} {T : u_T} {ty0 : Nat → FieldType} {fs : List Value} {v : Value} (hc : q_cl ci C T N) (hp : q_pf T N k ty0 false) (hl : Cond.fieldLinkNest Y.1.cls idx (T k).1 (T k).2.1 (T k).2.2.1 host ∈ q_N) (hd : decode Y.2.1 pc = .ok (.putfield idx, 3))
    (hn : ∀ (g : qG) (ad : Nat → Nat), narrow (ty0 k) (q_tv g ad v) = q_tv g ad v ∧ fits (ty0 k) (q_tv g ad v) = true) (hh : h.1 i = .inr (ci, fs)) (hlen : k < fs.length)
    (kk : q_J l d Y mc ms Q QX n0 (pc + 3) lo st (q_set h i (.inr (ci, fs.set k v))) kc ks) : q_J l d Y mc ms Q QX n0 pc lo (v :: .ref i :: st) h kc ks := by
  intro p e s m args below meth c H locs cells slots ls g ad0 ad C0 S h1 h2
  obtain ⟨s1, s2, s3, s4, s5, s6, s7, s8, s9⟩ := S
  obtain ⟨c1, c2, c3, c4, c5, c6, c7, c8, c9, c10, c11, c12⟩ := id C0
  have hi : i < h.2 := s7 _ (List.mem_cons_of_mem _ List.mem_cons_self) i rfl
  have hw := s3 i hi
  rw [hh] at hw
  refine va_putN (D := g.1) (ci := ci) (cl := q_cls) (Ts := q_W) (v := q_tv g ad v) c1 c2 c8 hc.2 ty0 hp.2.1 hp.2.2.1 c5 c10 s1 s2 s4 i (fs := fs.map (q_tv g ad)) ?_ hc.1 k hp.1 (va_Nw.use rfl (c11.2.2.2.2.1 _ hl)) (fun x hx => hx) hp.2.2.2 (hp.2.1 k hp.1) (hn g ad).1 (hn g ad).2 (by rw [List.length_map]; exact hlen) hd (fun H1 locs1 hP1 hD1 hS1 => ?_)
  · rw [q_ws_get hi, hh]; rfl
  · have e9 : ((q_ws g ad h).set i (ad i, .inr (ci, (fs.map (q_tv g ad)).set k (q_tv g ad v)))) = q_ws g ad (q_set h i (.inr (ci, fs.set k v))) := by
      rw [← q_ws_set hi]
      show _ = (q_ws g ad h).set i (ad i, .inr (ci, (fs.set k v).map (q_tv g ad)))
      rw [List.map_set]
    rw [e9] at hP1 hD1
    exact kk p e s m args below meth c H1 locs1 cells slots ls g ad0 ad C0 ⟨hP1, hD1, q_wh_set s3 (fun w hm => (List.mem_or_eq_of_mem_set hm).elim (hw w) (fun q => q ▸ q_hd s7)), hS1, s5, s6, q_tl (q_tl s7), s8, s9⟩ h1 h2
theorem j_putF {ci k idx i N : Nat} {C : String} {T : u_T} {ty0 : Nat → FieldType} {fs : List Value} {v : Value} (hc : q_cl ci C T N) (hp : q_pf T N k ty0 true) (hl : Cond.fieldLink Y.1.cls idx (T k).1 (T k).2.1 (T k).2.2.1 ∈ q_W) (hd : decode Y.2.1 pc = .ok (.putfield idx, 3)) (hin : Y.1.name = "<init>") (hdc : (T k).1 = Y.1.cls)
    (hn : ∀ (g : qG) (ad : Nat → Nat), narrow (ty0 k) (q_tv g ad v) = q_tv g ad v ∧ fits (ty0 k) (q_tv g ad v) = true) (hh : h.1 i = .inr (ci, fs)) (hlen : k < fs.length)
    (kk : q_J l d Y mc ms Q QX n0 (pc + 3) lo st (q_set h i (.inr (ci, fs.set k v))) kc ks) : q_J l d Y mc ms Q QX n0 pc lo (v :: .ref i :: st) h kc ks := by
  intro p e s m args below meth c H locs cells slots ls g ad0 ad C0 S h1 h2
  obtain ⟨s1, s2, s3, s4, s5, s6, s7, s8, s9⟩ := S
  obtain ⟨c1, c2, c3, c4, c5, c6, c7, c8, c9, c10, c11, c12⟩ := id C0
  have hi : i < h.2 := s7 _ (List.mem_cons_of_mem _ List.mem_cons_self) i rfl
  have hw := s3 i hi
  rw [hh] at hw
  refine va_putF (D := g.1) (ci := ci) (cl := q_cls) (Ts := q_W) (v := q_tv g ad v) c1 c2 c8 hc.2 ty0 hp.2.1 hp.2.2.1 c5 c10 s1 s2 s4 i (fs := fs.map (q_tv g ad)) ?_ hc.1 k hp.1 (c8 _ hl) (fun x hx => hx) hp.2.2.2 (c7.trans hin) hdc (hp.2.1 k hp.1) (hn g ad).1 (hn g ad).2 (by rw [List.length_map]; exact hlen) hd (fun H1 locs1 hP1 hD1 hS1 => ?_)
  · rw [q_ws_get hi, hh]; rfl
  · have e9 : ((q_ws g ad h).set i (ad i, .inr (ci, (fs.map (q_tv g ad)).set k (q_tv g ad v)))) = q_ws g ad (q_set h i (.inr (ci, fs.set k v))) := by
      rw [← q_ws_set hi]
      show _ = (q_ws g ad h).set i (ad i, .inr (ci, (fs.set k v).map (q_tv g ad)))
      rw [List.map_set]
    rw [e9] at hP1 hD1
    exact kk p e s m args below meth c H1 locs1 cells slots ls g ad0 ad C0 ⟨hP1, hD1, q_wh_set s3 (fun w hm => (List.mem_or_eq_of_mem_set hm).elim (hw w) (fun q => q ▸ q_hd s7)), hS1, s5, s6, q_tl (q_tl s7), s8, s9⟩ h1 h2
theorem q_nI (g : qG) (ad : Nat → Nat) (z : Int32) : narrow .int (q_tv g ad (.int z)) = q_tv g ad (.int z) ∧ fits .int (q_tv g ad (.int z)) = true := ⟨rfl, rfl⟩
theorem q_nZ (g : qG) (ad : Nat → Nat) {z : Int32} (hz : z = 0 ∨ z = 1) : narrow .boolean (q_tv g ad (.int z)) = q_tv g ad (.int z) ∧ fits .boolean (q_tv g ad (.int z)) = true := by
  rcases hz with rfl | rfl
  · show narrow .boolean (.int 0) = .int 0 ∧ fits .boolean (.int 0) = true
    exact ⟨by decide +kernel, by decide +kernel⟩
  · show narrow .boolean (.int 1) = .int 1 ∧ fits .boolean (.int 1) = true
    exact ⟨by decide +kernel, by decide +kernel⟩
/-! arrays -/
theorem j_iald {i N : Nat} {f : Nat → Int32} {z : Int32} (hd : decode Y.2.1 pc = .ok (.iaload, 1)) (hh : h.1 i = .inl (0, (N, .inl f))) (hin : vp_in z N)
    (kk : q_J l d Y mc ms Q QX n0 (pc + 1) lo (.int (f z.toNatClampNeg) :: st) h kc ks) : q_J l d Y mc ms Q QX n0 pc lo (.int z :: .ref i :: st) h kc ks := by
  intro p e s m args below meth c H locs cells slots ls g ad0 ad C0 S h1 h2
  obtain ⟨s1, s2, s3, s4, s5, s6, s7, s8, s9⟩ := S
  obtain ⟨c1, c2, c3, c4, c5, c6, c7, c8, c9, c10, c11, c12⟩ := id C0
  have hi : i < h.2 := s7 _ (List.mem_cons_of_mem _ List.mem_cons_self) i rfl
  refine va_iald (D := g.1) (cl := q_cls) c1 c2 c10 s1 i 0 (cA := g.2.1 0) (n := N) (f := f) ?_ rfl hin hd ?_
  · rw [q_ws_get hi, hh]; rfl
  · exact kk p e s m args below meth c H locs cells slots ls g ad0 ad C0 ⟨s1, s2, s3, s4, s5, s6, q_cn (q_wi _ _) (q_tl (q_tl s7)), s8, s9⟩ h1 h2
theorem j_zald {i N : Nat} {f : Nat → Int32} {z : Int32} (hd : decode Y.2.1 pc = .ok (.baload, 1)) (hh : h.1 i = .inl (2, (N, .inl f))) (hin : vp_in z N)
    (kk : q_J l d Y mc ms Q QX n0 (pc + 1) lo (.int (f z.toNatClampNeg) :: st) h kc ks) : q_J l d Y mc ms Q QX n0 pc lo (.int z :: .ref i :: st) h kc ks := by
  intro p e s m args below meth c H locs cells slots ls g ad0 ad C0 S h1 h2
  obtain ⟨s1, s2, s3, s4, s5, s6, s7, s8, s9⟩ := S
  obtain ⟨c1, c2, c3, c4, c5, c6, c7, c8, c9, c10, c11, c12⟩ := id C0
  have hi : i < h.2 := s7 _ (List.mem_cons_of_mem _ List.mem_cons_self) i rfl
  refine va_zald (D := g.1) (cl := q_cls) c1 c2 c10 s1 i 2 (cA := g.2.1 2) (n := N) (f := f) ?_ rfl hin hd ?_
  · rw [q_ws_get hi, hh]; rfl
  · exact kk p e s m args below meth c H locs cells slots ls g ad0 ad C0 ⟨s1, s2, s3, s4, s5, s6, q_cn (q_wi _ _) (q_tl (q_tl s7)), s8, s9⟩ h1 h2
theorem j_iast {i N : Nat} {f : Nat → Int32} {z w : Int32} (hd : decode Y.2.1 pc = .ok (.iastore, 1)) (hh : h.1 i = .inl (0, (N, .inl f))) (hin : vp_in z N)
    (kk : q_J l d Y mc ms Q QX n0 (pc + 1) lo st (q_set h i (.inl (0, (N, .inl (upd f z.toNatClampNeg w))))) kc ks) : q_J l d Y mc ms Q QX n0 pc lo (.int w :: .int z :: .ref i :: st) h kc ks := by
  intro p e s m args below meth c H locs cells slots ls g ad0 ad C0 S h1 h2
  obtain ⟨s1, s2, s3, s4, s5, s6, s7, s8, s9⟩ := S
  obtain ⟨c1, c2, c3, c4, c5, c6, c7, c8, c9, c10, c11, c12⟩ := id C0
  have hi : i < h.2 := s7 _ (List.mem_cons_of_mem _ (List.mem_cons_of_mem _ List.mem_cons_self)) i rfl
  refine va_iast (D := g.1) (cl := q_cls) c1 c2 c10 s1 s2 s4 i 0 (cA := g.2.1 0) (n := N) (f := f) ?_ rfl hin hd (fun H1 locs1 hP1 hD1 hS1 => ?_)
  · rw [q_ws_get hi, hh]; rfl
  · have e9 := q_ws_set (g := g) (ad := ad) (c := .inl (0, (N, .inl (upd f z.toNatClampNeg w)))) hi
    rw [show (q_ws g ad h).set i (ad i, .inl (g.2.1 0, N, .inl (upd f z.toNatClampNeg w))) = _ from e9] at hP1 hD1
    exact kk p e s m args below meth c H1 locs1 cells slots ls g ad0 ad C0 ⟨hP1, hD1, q_wh_set s3 trivial, hS1, s5, s6, q_tl (q_tl (q_tl s7)), s8, s9⟩ h1 h2
theorem q_narZ {w : Int32} (hw : w = 0 ∨ w = 1) : vp_nar .boolean w = w := by rcases hw with rfl | rfl <;> decide +kernel
theorem j_zast {i N : Nat} {f : Nat → Int32} {z w : Int32} (hd : decode Y.2.1 pc = .ok (.bastore, 1)) (hh : h.1 i = .inl (2, (N, .inl f))) (hin : vp_in z N) (hw : w = 0 ∨ w = 1)
    (kk : q_J l d Y mc ms Q QX n0 (pc + 1) lo st (q_set h i (.inl (2, (N, .inl (upd f z.toNatClampNeg w))))) kc ks) : q_J l d Y mc ms Q QX n0 pc lo (.int w :: .int z :: .ref i :: st) h kc ks := by
  intro p e s m args below meth c H locs cells slots ls g ad0 ad C0 S h1 h2
  obtain ⟨s1, s2, s3, s4, s5, s6, s7, s8, s9⟩ := S
  obtain ⟨c1, c2, c3, c4, c5, c6, c7, c8, c9, c10, c11, c12⟩ := id C0
  have hi : i < h.2 := s7 _ (List.mem_cons_of_mem _ (List.mem_cons_of_mem _ List.mem_cons_self)) i rfl
  refine va_zast (D := g.1) (cl := q_cls) c1 c2 c10 s1 s2 s4 i 2 (cA := g.2.1 2) (n := N) (f := f) ?_ rfl hin hd (fun H1 locs1 hP1 hD1 hS1 => ?_)
  · rw [q_ws_get hi, hh]; rfl
  · have e9 := q_ws_set (g := g) (ad := ad) (c := .inl (2, (N, .inl (upd f z.toNatClampNeg w)))) hi
    rw [q_narZ hw] at hP1 hD1
    rw [show (q_ws g ad h).set i (ad i, .inl (g.2.1 2, N, .inl (upd f z.toNatClampNeg w))) = _ from e9] at hP1 hD1
    exact kk p e s m args below meth c H1 locs1 cells slots ls g ad0 ad C0 ⟨hP1, hD1, q_wh_set s3 trivial, hS1, s5, s6, q_tl (q_tl (q_tl s7)), s8, s9⟩ h1 h2
theorem j_alen {i t0 N : Nat} {x : vp_A} {z : Int32} (hd : decode Y.2.1 pc = .ok (.arraylength, 1)) (hh : h.1 i = .inl (t0, x)) (ht : t0 < 5) (hz : Int32.ofNat x.1 = z)
    (kk : q_J l d Y mc ms Q QX n0 (pc + 1) lo (.int z :: st) h kc ks) : q_J l d Y mc ms Q QX n0 pc lo (.ref i :: st) h kc ks := by
  intro p e s m args below meth c H locs cells slots ls g ad0 ad C0 S h1 h2
  obtain ⟨s1, s2, s3, s4, s5, s6, s7, s8, s9⟩ := S
  obtain ⟨c1, c2, c3, c4, c5, c6, c7, c8, c9, c10, c11, c12⟩ := id C0
  have hi : i < h.2 := s7 _ List.mem_cons_self i rfl
  have hx : (q_ta ad x).1 = x.1 := by
    obtain ⟨N, f | f | f | f | f⟩ := x <;> rfl
  have htt : ∃ ty, (q_ty g)[t0]? = some (g.2.1 t0, ty) := by
    match t0, ht with
    | 0, _ => exact ⟨_, rfl⟩
    | 1, _ => exact ⟨_, rfl⟩
    | 2, _ => exact ⟨_, rfl⟩
    | 3, _ => exact ⟨_, rfl⟩
    | 4, _ => exact ⟨_, rfl⟩
  obtain ⟨ty, hty⟩ := htt
  refine va_alen (D := g.1) (cl := q_cls) (x := q_ta ad x) (v := z) c1 c2 c10 s1 i t0 ?_ hty (by rw [hx]; exact hz) hd ?_
  · rw [q_ws_get hi, hh]; rfl
  · exact kk p e s m args below meth c H locs cells slots ls g ad0 ad C0 ⟨s1, s2, s3, s4, s5, s6, q_cn (q_wi _ _) (q_tl s7), s8, s9⟩ h1 h2
/-- the four rows of directions -/
theorem j_gets {k idx : Nat} (hk : k < 4) (hl : Cond.fieldLink Y.1.cls idx (q_sC k).1 (q_sC k).2 "[I" ∈ q_W) (hd : decode Y.2.1 pc = .ok (.getstatic idx, 3))
    (kk : q_J l d Y mc ms Q QX n0 (pc + 3) lo (.float (UInt32.ofNat k) :: st) h kc ks) : q_J l d Y mc ms Q QX n0 pc lo st h kc ks := by
  intro p e s m args below meth c H locs cells slots ls g ad0 ad C0 S h1 h2
  obtain ⟨s1, s2, s3, s4, s5, s6, s7, s8, s9⟩ := S
  obtain ⟨c1, c2, c3, c4, c5, c6, c7, c8, c9, c10, c11, c12⟩ := id C0
  have e9 : (UInt32.ofNat k).toNat = k := by
    match k, hk with
    | 0, _ => rfl
    | 1, _ => rfl
    | 2, _ => rfl
    | 3, _ => rfl
  refine va_gets c1 c2 (c11.1 k hk).1 s4 c5 (c8 _ hl) (fun x hx => hx) hd ?_
  have h9 := kk p e s m args below meth c H locs cells slots ls g ad0 ad C0 ⟨s1, s2, s3, s4, s5, s6, q_cn (q_wf _ _) s7, s8, s9⟩ h1 h2
  rw [List.map_cons, show q_tv g ad (.float (UInt32.ofNat k)) = .ref (g.2.2.1 k) by show Value.ref _ = _; rw [e9]] at h9
  exact h9
theorem j_sald {k : Nat} {z : Int32} (hk : k < 4) (hd : decode Y.2.1 pc = .ok (.iaload, 1)) (hin : vp_in z 8)
    (kk : q_J l d Y mc ms Q QX n0 (pc + 1) lo (.int (q_sF k z.toNatClampNeg) :: st) h kc ks) : q_J l d Y mc ms Q QX n0 pc lo (.int z :: .float (UInt32.ofNat k) :: st) h kc ks := by
  intro p e s m args below meth c H locs cells slots ls g ad0 ad C0 S h1 h2
  obtain ⟨s1, s2, s3, s4, s5, s6, s7, s8, s9⟩ := S
  obtain ⟨c1, c2, c3, c4, c5, c6, c7, c8, c9, c10, c11, c12⟩ := id C0
  have e9 : (UInt32.ofNat k).toNat = k := by
    match k, hk with
    | 0, _ => rfl
    | 1, _ => rfl
    | 2, _ => rfl
    | 3, _ => rfl
  rw [List.map_cons, List.map_cons, show q_tv g ad (.float (UInt32.ofNat k)) = .ref (g.2.2.1 k) by show Value.ref _ = _; rw [e9]]
  refine va_ti (v := .int (q_sF k z.toNatClampNeg)) c1 c2 (c11.1 k hk).2 s4 hin rfl hd ?_
  exact kk p e s m args below meth c H locs cells slots ls g ad0 ad C0 ⟨s1, s2, s3, s4, s5, s6, q_cn (q_wi _ _) (q_tl (q_tl s7)), s8, s9⟩ h1 h2
end QH
section QH2
variable {l : Launch} {d : Nat} {Y : qM} {mc ms : Nat} {Q : Option Value → qH → Prop} {QX : String → qH → Prop} {n0 pc : Nat} {lo : List (Option Value)} {st : List Value} {h : qH} {kc ks : Nat}
theorem j_getsN {k idx : Nat} {host : String} (hk : k < 4) (hl : Cond.fieldLinkNest Y.1.cls idx (q_sC k).1 (q_sC k).2 "[I" host ∈ q_N) (hd : decode Y.2.1 pc = .ok (.getstatic idx, 3))
    (kk : q_J l d Y mc ms Q QX n0 (pc + 3) lo (.float (UInt32.ofNat k) :: st) h kc ks) : q_J l d Y mc ms Q QX n0 pc lo st h kc ks := by
  intro p e s m args below meth c H locs cells slots ls g ad0 ad C0 S h1 h2
  obtain ⟨s1, s2, s3, s4, s5, s6, s7, s8, s9⟩ := S
  obtain ⟨c1, c2, c3, c4, c5, c6, c7, c8, c9, c10, c11, c12⟩ := id C0
  have e9 : (UInt32.ofNat k).toNat = k := by
    match k, hk with
    | 0, _ => rfl
    | 1, _ => rfl
    | 2, _ => rfl
    | 3, _ => rfl
  refine va_getsN c1 c2 (c11.1 k hk).1 s4 c5 (va_Nw.use rfl (c11.2.2.2.2.1 _ hl)) (fun x hx => hx) hd ?_
  have h9 := kk p e s m args below meth c H locs cells slots ls g ad0 ad C0 ⟨s1, s2, s3, s4, s5, s6, q_cn (q_wf _ _) s7, s8, s9⟩ h1 h2
  rw [List.map_cons, show q_tv g ad (.float (UInt32.ofNat k)) = .ref (g.2.2.1 k) by show Value.ref _ = _; rw [e9]] at h9
  exact h9
/-- a row of references -/
theorem j_aald {i t0 N : Nat} {f : Nat → Option Nat} {z : Int32} {C : String} {v : Value} (hd : decode Y.2.1 pc = .ok (.aaload, 1)) (hh : h.1 i = .inl (3, (N, .inr (.inr (.inr (.inr f)))))) (hin : vp_in z N) (hv : v = match f z.toNatClampNeg with | some j => .ref j | none => .null)
    (kk : q_J l d Y mc ms Q QX n0 (pc + 1) lo (v :: st) h kc ks) : q_J l d Y mc ms Q QX n0 pc lo (.int z :: .ref i :: st) h kc ks := by
  intro p e s m args below meth c H locs cells slots ls g ad0 ad C0 S h1 h2
  obtain ⟨s1, s2, s3, s4, s5, s6, s7, s8, s9⟩ := S
  obtain ⟨c1, c2, c3, c4, c5, c6, c7, c8, c9, c10, c11, c12⟩ := id C0
  have hi : i < h.2 := s7 _ (List.mem_cons_of_mem _ List.mem_cons_self) i rfl
  have hw := s3 i hi
  rw [hh] at hw
  refine va_aldq (D := g.1) (cl := q_cls) c1 c2 c10 s1 i 3 (cA := g.2.1 3) (C := "RoverPlanner$Mark") (n := N) (f := fun k => (f k).map ad) ?_ rfl hin hd ?_
  · rw [q_ws_get hi, hh]; rfl
  · have e9 : va_rf ((f z.toNatClampNeg).map ad) = q_tv g ad v := by
      subst hv
      cases f z.toNatClampNeg <;> rfl
    have hwv : q_wv h.2 v := by
      subst hv
      cases hf : f z.toNatClampNeg with
      | none => exact q_wn _
      | some j => exact q_wr (hw _ _ hf)
    have h9 := kk p e s m args below meth c H locs cells slots ls g ad0 ad C0 ⟨s1, s2, s3, s4, s5, s6, q_cn hwv (q_tl (q_tl s7)), s8, s9⟩ h1 h2
    rw [List.map_cons, ← e9] at h9
    exact h9
/-- a row of rows -/
theorem j_aaldA {i N : Nat} {f : Nat → Option Nat} {z : Int32} {j : Nat} (hd : decode Y.2.1 pc = .ok (.aaload, 1)) (hh : h.1 i = .inl (4, (N, .inr (.inr (.inr (.inr f)))))) (hin : vp_in z N) (hv : f z.toNatClampNeg = some j)
    (kk : q_J l d Y mc ms Q QX n0 (pc + 1) lo (.ref j :: st) h kc ks) : q_J l d Y mc ms Q QX n0 pc lo (.int z :: .ref i :: st) h kc ks := by
  intro p e s m args below meth c H locs cells slots ls g ad0 ad C0 S h1 h2
  obtain ⟨s1, s2, s3, s4, s5, s6, s7, s8, s9⟩ := S
  obtain ⟨c1, c2, c3, c4, c5, c6, c7, c8, c9, c10, c11, c12⟩ := id C0
  have hi : i < h.2 := s7 _ (List.mem_cons_of_mem _ List.mem_cons_self) i rfl
  have hw := s3 i hi
  rw [hh] at hw
  have hlt : z.toNatClampNeg < N := Nat.not_le.mp fun q => hin (Or.inr q)
  have ha : (q_ws g ad h)[i]? = some (ad i, .inl (g.2.1 4, N, .inr (.inr (.inr (.inr (fun k => (f k).map ad)))))) := by rw [q_ws_get hi, hh]; rfl
  have ht : (q_ty g)[4]? = some (g.2.1 4, .array .int) := rfl
  refine W.aald (v := va_rf ((f z.toNatClampNeg).map ad)) (ty := .array .int) c1 c2 (s1 i _ ha) ((c10.2 4 _ ht).1 N (fun j => va_rf ((f j).map ad))) rfl (fun q => by cases q) (by show ¬ (z < 0 ∨ (arrV _ _ _).slots.size ≤ _); rw [arrV_size]; exact hin) (by show (arrV _ _ _).slots[_]? = _; rw [arrV_read _ _ hlt]) rfl rfl hd ?_
  rw [hv]
  exact kk p e s m args below meth c H locs cells slots ls g ad0 ad C0 ⟨s1, s2, s3, s4, s5, s6, q_cn (q_wr (hw _ _ hv)) (q_tl (q_tl s7)), s8, s9⟩ h1 h2
/-- an object put into a row of references -/
theorem j_aast {i N ci j N1 : Nat} {f : Nat → Option Nat} {z : Int32} {T : u_T} {fs : List Value} (hd : decode Y.2.1 pc = .ok (.aastore, 1)) (hh : h.1 i = .inl (3, (N, .inr (.inr (.inr (.inr f)))))) (hj : h.1 j = .inr (ci, fs)) (hc : q_cls[ci]? = some ("RoverPlanner$Mark", T, N1)) (hin : vp_in z N)
    (kk : q_J l d Y mc ms Q QX n0 (pc + 1) lo st (q_set h i (.inl (3, (N, .inr (.inr (.inr (.inr (va_up f z.toNatClampNeg (some j))))))))) kc ks) : q_J l d Y mc ms Q QX n0 pc lo (.ref j :: .int z :: .ref i :: st) h kc ks := by
  intro p e s m args below meth c H locs cells slots ls g ad0 ad C0 S h1 h2
  obtain ⟨s1, s2, s3, s4, s5, s6, s7, s8, s9⟩ := S
  obtain ⟨c1, c2, c3, c4, c5, c6, c7, c8, c9, c10, c11, c12⟩ := id C0
  have hi : i < h.2 := s7 _ (List.mem_cons_of_mem _ (List.mem_cons_of_mem _ List.mem_cons_self)) i rfl
  have hjj : j < h.2 := s7 _ List.mem_cons_self j rfl
  have hw := s3 i hi
  rw [hh] at hw
  refine va_astq (D := g.1) (cl := q_cls) c1 c2 c10 s1 s2 s4 i 3 j ci (cA := g.2.1 3) (r := ("RoverPlanner$Mark", T, N1)) (n := N) (f := fun k => (f k).map ad) (vs := fs.map (q_tv g ad)) ?_ rfl ?_ hc hin hd (fun H1 locs1 hP1 hD1 hS1 => ?_)
  · rw [q_ws_get hi, hh]; rfl
  · rw [q_ws_get hjj, hj]; rfl
  · have e8 : va_up (fun k => (f k).map ad) z.toNatClampNeg (some (ad j)) = fun k => ((va_up f z.toNatClampNeg (some j)) k).map ad := by
      funext k
      by_cases e : k = z.toNatClampNeg <;> simp [va_up, e]
    have e9 := q_ws_set (g := g) (ad := ad) (c := .inl (3, (N, .inr (.inr (.inr (.inr (va_up f z.toNatClampNeg (some j)))))))) hi
    rw [e8] at hP1 hD1
    rw [show (q_ws g ad h).set i (ad i, .inl (g.2.1 3, N, .inr (.inr (.inr (.inr (fun k => ((va_up f z.toNatClampNeg (some j)) k).map ad)))))) = _ from e9] at hP1 hD1
    refine kk p e s m args below meth c H1 locs1 cells slots ls g ad0 ad C0 ⟨hP1, hD1, q_wh_set s3 (fun k x hk => ?_), hS1, s5, s6, q_tl (q_tl (q_tl s7)), s8, s9⟩ h1 h2
    by_cases e : k = z.toNatClampNeg
    · simp [va_up, e] at hk
      omega
    · simp [va_up, e] at hk
      exact hw k x hk
end QH2
end
section
section QK
variable {l : Launch} {d : Nat} {Y : qM} {mc ms : Nat} {Q : Option Value → qH → Prop} {QX : String → qH → Prop} {n0 pc : Nat} {lo : List (Option Value)} {st : List Value} {h : qH} {kc ks : Nat}
/-! ends -/
theorem j_iret {z : Int32} (hd : decode Y.2.1 pc = .ok (.ireturn, 1)) (hr : Y.2.2.2 = some .int) (hq : Q (some (.int z)) h) : q_J l d Y mc ms Q QX n0 pc lo [.int z] h kc ks := by
  intro p e s m args below meth c H locs cells slots ls g ad0 ad C0 S h1 h2
  obtain ⟨s1, s2, s3, s4, s5, s6, s7, s8, s9⟩ := S
  obtain ⟨c1, c2, c3, c4, c5, c6, c7, c8, c9, c10, c11, c12⟩ := id C0
  refine vx_ret (W.widen (k := mc) (n := ms) (by omega) (by omega) ?_)
  exact W.iret (v := z) c1 c2 (c3.trans hr) (fun t ht hW => ⟨some (.int z), h, ad, rfl, hq, s8, s9, (fun w hw => by cases hw; exact q_wi _ _), s3, by rw [ht]; exact s1, s2, s4.F ht⟩) s4.2.2 hd c6
theorem j_zret {z : Int32} (hd : decode Y.2.1 pc = .ok (.ireturn, 1)) (hr : Y.2.2.2 = some .boolean) (hz : z = 0 ∨ z = 1) (hq : Q (some (.int z)) h) : q_J l d Y mc ms Q QX n0 pc lo [.int z] h kc ks := by
  intro p e s m args below meth c H locs cells slots ls g ad0 ad C0 S h1 h2
  obtain ⟨s1, s2, s3, s4, s5, s6, s7, s8, s9⟩ := S
  obtain ⟨c1, c2, c3, c4, c5, c6, c7, c8, c9, c10, c11, c12⟩ := id C0
  refine vx_ret (W.widen (k := mc) (n := ms) (by omega) (by omega) ?_)
  exact W.zret (v := z) c1 c2 (c3.trans hr) (q_nZ g ad hz).1 (fun t ht hW => ⟨some (.int z), h, ad, rfl, hq, s8, s9, (fun w hw => by cases hw; exact q_wi _ _), s3, by rw [ht]; exact s1, s2, s4.F ht⟩) s4.2.2 hd c6
theorem j_lret {z : Int64} (hd : decode Y.2.1 pc = .ok (.lreturn, 1)) (hr : Y.2.2.2 = some .long) (hq : Q (some (.long z)) h) : q_J l d Y mc ms Q QX n0 pc lo [.long z] h kc ks := by
  intro p e s m args below meth c H locs cells slots ls g ad0 ad C0 S h1 h2
  obtain ⟨s1, s2, s3, s4, s5, s6, s7, s8, s9⟩ := S
  obtain ⟨c1, c2, c3, c4, c5, c6, c7, c8, c9, c10, c11, c12⟩ := id C0
  refine vx_ret (W.widen (k := mc) (n := ms) (by omega) (by omega) ?_)
  exact W.lret (v := z) c1 c2 (c3.trans hr) (fun t ht hW => ⟨some (.long z), h, ad, rfl, hq, s8, s9, (fun w hw => by cases hw; exact q_wl _ _), s3, by rw [ht]; exact s1, s2, s4.F ht⟩) s4.2.2 hd c6
theorem j_vret (hd : decode Y.2.1 pc = .ok (.return_, 1)) (hr : Y.2.2.2 = none) (hq : Q none h) : q_J l d Y mc ms Q QX n0 pc lo [] h kc ks := by
  intro p e s m args below meth c H locs cells slots ls g ad0 ad C0 S h1 h2
  obtain ⟨s1, s2, s3, s4, s5, s6, s7, s8, s9⟩ := S
  obtain ⟨c1, c2, c3, c4, c5, c6, c7, c8, c9, c10, c11, c12⟩ := id C0
  refine vx_ret (W.widen (k := mc) (n := ms) (by omega) (by omega) ?_)
  exact W.vret c1 c2 (c3.trans hr) (fun t ht hW => ⟨none, h, ad, rfl, hq, s8, s9, (fun w hw => by cases hw), s3, by rw [ht]; exact s1, s2, s4.F ht⟩) s4.2.2 hd c6
/-- what is known of a method that may be called, with n arguments (the receiver not counted) -/
def q_mt (Z : qM) (n : Nat) : Prop := Cond.code Z.1 Z.2.1 Z.2.2.1 Z.2.2.2 ∈ q_W ∧ Cond.initialized Z.1.cls ∈ q_W ∧ (Z.1.cls ≠ "java/lang/invoke/MethodHandle" ∧ Z.1.cls ≠ "java/lang/invoke/VarHandle") ∧ (parseMethodDescriptor Z.1.desc).map (fun d => d.parameters.length) = some n ∧ Z.2.2.1 ≤ 23
theorem q_pay {args : Array Value} {s : State} {Z : qM} (hts : ∀ w ∈ q_W, w.before args s = true) (hz : Cond.code Z.1 Z.2.1 Z.2.2.1 Z.2.2.2 ∈ q_W) : ∀ w ∈ (Cond.code Z.1 Z.2.1 Z.2.2.1 Z.2.2.2 :: q_W), ∀ (a' : Array Value) (U : State), s.WarmedH U.vm → w.before a' U = true :=
  pay_in hts (fun w hw => by
    have h1 : w ∈ q_W := (List.mem_cons.mp hw).elim (fun e => by rw [e]; exact hz) id
    exact ⟨h1, good_of_word (List.mem_filter.mp h1).2⟩)
theorem q_callB {args : Array Value} {s : State} {Z : qM} {n idx d' mc' ms' : Nat} {own : String} (hts : ∀ w ∈ q_W, w.before args s = true) (hZ : q_mt Z n) (hl : Cond.methodLink own idx Z.1 ∈ q_W) (hd : d' + 1 ≤ d) : CallB (q_R d mc ms) s args own idx Z.1 Z.2.1 Z.2.2.1 Z.2.2.2 (Cond.code Z.1 Z.2.1 Z.2.2.1 Z.2.2.2 :: q_W) (q_R d' mc' ms') mc' ms' n := by
  obtain ⟨z1, z2, z3, z4, z5⟩ := hZ
  refine ⟨rfl, rfl, hd, ?_, q_pay hts z1, List.mem_cons_self, hts _ z1, hts _ z2, z3, fun sig hs => ?_, hts _ hl⟩
  · show 8 + (Z.2.2.1 + 11) + 42 * d' ≤ 42 * d
    omega
  · rw [hs] at z4
    exact (Option.some.inj z4).symm
theorem q_after {mc' ms' kc' ks' : Nat} {p : Program} {e : Env} {s : State} {m : MethodId} {args a : Array Value} {below : List Frame} {meth : Method} {c : Code} {H : Heap} {locs : List Loc} {cells slots : Nat} {ls : Array Slot} {g : qG} {ad0 ad : Nat → Nat} {st0 : List Value} {rest : List Value} {QZ : Option Value → qH → Prop} {QXZ : String → qH → Prop}
    (C0 : q_C l Y g p s m args meth c) (s4 : va_S (q_A g) s.heap H locs) (s5 : q_lo g ad ls Y.2.2.1 lo) (s6 : ∀ v, some v ∈ lo → q_wv h.2 v) (s7 : ∀ v ∈ rest, q_wv h.2 v) (s8 : q_ag n0 ad0 ad) (s9 : n0 ≤ h.2)
    (hr : vx_Run p l e (q_R d mc ms) s m args below meth c H locs cells slots mc' ms' (F0 m pc ls st0) (rest.map (q_tv g ad)) (q_Qc g ad h.2 QZ a) (q_Xc g ad h.2 QXZ) (q_A g)) (hx : ∀ E h', ¬ QXZ E h')
    (hc : cells + mc' + kc' ≤ mc) (hs : slots + ms' + ks' ≤ ms)
    (k : ∀ (v : Option Value) (h' : qH), QZ v h' → h.2 ≤ h'.2 → q_J l d Y mc ms Q QX n0 (pc + 3) lo (v.toList ++ rest) h' kc' ks') :
    W p l e (q_R d mc ms) s m args below meth c H locs cells slots (vx_MQ below (q_Qc g ad0 n0 Q) (q_Xc g ad0 n0 QX) args s mc ms (q_A g)) (F0 m pc ls st0) := by
  intro T hT X
  rcases hr T hT X with ⟨v, st₀, t, T', L, e0, X', hL, e1, e2, ⟨v0, h', ad', hv, hQ, r1, r2, r3, r4, r5, r6, hF⟩, hst⟩ | ⟨q, st₀, t, T', L, E, ce, e0, X', hL, e1, e2, ⟨h', ad', hX, -⟩, -⟩
  · cases hv
    obtain ⟨k1, k2, k3⟩ := vx_keep e0 e1 s4 (fun q _ z => z) (fun q z => z) hL hF
    have hst2 : (v0.toList ++ rest).map (q_tv g ad') = (v0.map (q_tv g ad')).toList ++ rest.map (q_tv g ad) := by
      rw [List.map_append, q_tvs_ag r1 s7]
      cases v0 <;> rfl
    obtain ⟨t2, a1, b1⟩ := k v0 h' hQ r2 p e s m args below meth c T'.heap (locs ++ L) (cells + mc') (slots + ms') ls g ad0 ad' C0
      ⟨by rw [e1]; exact r5, r6, r4, k3, ⟨s5.1, s5.2.1, fun i w hi => by rw [q_tv_ag r1 (s6 w (List.mem_of_getElem? hi))]; exact s5.2.2 i w hi⟩, fun w hw => q_wv_mono (s6 w hw) r2, fun w hw => by
        rcases List.mem_append.mp hw with hw | hw
        · cases v0 with
          | none => cases hw
          | some x => rw [show w = x by simpa using hw]; exact r3 x rfl
        · exact q_wv_mono (s7 w hw) r2, q_ag_tr s8 r1 s9, Nat.le_trans s9 r2⟩ hc hs T' rfl X'
    rw [hst2] at a1
    exact ⟨t2, hst t2 a1, b1⟩
  · exact absurd hX (hx E h')
theorem q_map_rev {g : qG} {ad : Nat → Nat} (avs rest : List Value) : (avs.reverse ++ rest).map (q_tv g ad) = (avs.map (q_tv g ad)).reverse ++ rest.map (q_tv g ad) := by
  rw [List.map_append, List.map_reverse]
theorem q_cats {g : qG} {ad : Nat → Nat} : ∀ (rest : List Value), ((rest.map (q_tv g ad)).map fun v => v.category).sum = (rest.map fun v => v.category).sum
  | [] => rfl
  | a :: l => by
    rw [List.map_cons, List.map_cons, List.map_cons, List.sum_cons, List.sum_cons, q_tv_cat, q_cats l]
theorem q_wv_app {n : Nat} {avs rest st : List Value} (e : st = avs.reverse ++ rest) (h : ∀ v ∈ st, q_wv n v) : (∀ v ∈ avs, q_wv n v) ∧ ∀ v ∈ rest, q_wv n v := by
  subst e
  exact ⟨fun v hv => h v (List.mem_append_left _ (List.mem_reverse.mpr hv)), fun v hv => h v (List.mem_append_right _ hv)⟩
/-- a static call -/
theorem j_static {Z : qM} {n idx d' mc' ms' kc' ks' : Nat} {avs rest : List Value} {QZ : Option Value → qH → Prop} {QXZ : String → qH → Prop} (hd : decode Y.2.1 pc = .ok (.invokestatic idx, 3)) (hZ : q_mt Z n) (hl : Cond.methodLink Y.1.cls idx Z.1 ∈ q_W) (hst : Cond.static Z.1 ∈ q_W) (hn : avs.length = n) (he : st = avs.reverse ++ rest) (hr : (rest.map fun v => v.category).sum ≤ 8) (hdd : d' + 1 ≤ d) (hk1 : mc' + kc' ≤ kc) (hk2 : ms' + ks' ≤ ks)
    (hC : q_Ct l d' Z avs h mc' ms' QZ QXZ) (hx : ∀ E h', ¬ QXZ E h') (k : ∀ (v : Option Value) (h' : qH), QZ v h' → h.2 ≤ h'.2 → q_J l d Y mc ms Q QX n0 (pc + 3) lo (v.toList ++ rest) h' kc' ks') : q_J l d Y mc ms Q QX n0 pc lo st h kc ks := by
  intro p e s m args below meth c H locs cells slots ls g ad0 ad C0 S h1 h2
  obtain ⟨s1, s2, s3, s4, s5, s6, s7, s8, s9⟩ := S
  obtain ⟨c1, c2, c3, c4, c5, c6, c7, c8, c9, c10, c11, c12⟩ := id C0
  obtain ⟨w1, w2⟩ := q_wv_app he s7
  rw [he, q_map_rev]
  refine q_after C0 s4 s5 s6 w2 s8 s9 (vx_runS (As := avs.map (q_tv g ad)) (nL := Y.2.2.1) ⟨c1, c2, c4, c5, c8⟩ (hC g ad s3 w1) ⟨q_callB c8 hZ hl hdd, c8 _ hst⟩ ⟨q_blind g ad avs h, fun U hU hW => ⟨rfl, by rw [hU]; exact s1, s2, va_K.moved hW.alike c10, by rw [hU]; exact (c11.kp (fun q a b => s4.2.1 q a b)).mv hW, by rw [hU]; exact Nat.le_trans c12 s4.1⟩⟩ rfl (by rw [List.length_map]; exact hn) s5.1 rfl ?_ hd ⟨?_, ?_⟩) hx (by omega) (by omega) k
  · rw [q_cats]
    show 2 * 0 + _ ≤ 8
    omega
  · show cells + mc' ≤ mc
    omega
  · show slots + ms' ≤ ms
    omega
/-- a virtual call -/
theorem j_virtual {Z : qM} {n idx d' mc' ms' kc' ks' i ci N : Nat} {C : String} {T : u_T} {fs : List Value} {avs rest : List Value} {QZ : Option Value → qH → Prop} {QXZ : String → qH → Prop} (hd : decode Y.2.1 pc = .ok (.invokevirtual idx, 3)) (hZ : q_mt Z n) (hl : Cond.methodLink Y.1.cls idx Z.1 ∈ q_W) (hin : Cond.instanceMethod Z.1 ∈ q_W) (hse : Cond.selects C Z.1 Z.1 ∈ q_W) (hn : avs.length = n) (he : st = avs.reverse ++ .ref i :: rest) (hr : (rest.map fun v => v.category).sum ≤ 8) (hdd : d' + 1 ≤ d) (hk1 : mc' + kc' ≤ kc) (hk2 : ms' + ks' ≤ ks)
    (hc : q_cls[ci]? = some (C, T, N)) (hh : h.1 i = .inr (ci, fs))
    (hC : q_Ct l d' Z (.ref i :: avs) h mc' ms' QZ QXZ) (hx : ∀ E h', ¬ QXZ E h') (k : ∀ (v : Option Value) (h' : qH), QZ v h' → h.2 ≤ h'.2 → q_J l d Y mc ms Q QX n0 (pc + 3) lo (v.toList ++ rest) h' kc' ks') : q_J l d Y mc ms Q QX n0 pc lo st h kc ks := by
  intro p e s m args below meth c H locs cells slots ls g ad0 ad C0 S h1 h2
  obtain ⟨s1, s2, s3, s4, s5, s6, s7, s8, s9⟩ := S
  obtain ⟨c1, c2, c3, c4, c5, c6, c7, c8, c9, c10, c11, c12⟩ := id C0
  obtain ⟨w1, w2⟩ := q_wv_app he s7
  have hi : i < h.2 := w2 _ List.mem_cons_self i rfl
  rw [he, q_map_rev]
  refine q_after C0 s4 s5 s6 (q_tl w2) s8 s9 (vx_runV (C := C) (As := avs.map (q_tv g ad)) (nL := Y.2.2.1) (b := ad i) (rest := rest.map (q_tv g ad)) ⟨c1, c2, c4, c5, c8⟩ (hC g ad s3 (fun v hv => (List.mem_cons.mp hv).elim (fun q => by rw [q]; exact q_wr hi) (w1 v))) ⟨q_callB c8 hZ hl hdd, c8 _ hin, c8 _ hse⟩ ⟨q_blind g ad (.ref i :: avs) h, va_recv c10 s1 (q0 := i) (fs := fs.map (q_tv g ad)) hc (by rw [q_ws_get hi, hh]; rfl), fun U hU hW => ⟨rfl, by rw [hU]; exact s1, s2, va_K.moved hW.alike c10, by rw [hU]; exact (c11.kp (fun q a b => s4.2.1 q a b)).mv hW, by rw [hU]; exact Nat.le_trans c12 s4.1⟩⟩ rfl (by rw [List.length_map]; exact hn) s5.1 rfl ?_ hd ⟨?_, ?_⟩) hx (by omega) (by omega) k
  · rw [q_cats]
    show 2 * 0 + _ ≤ 8
    omega
  · show cells + mc' ≤ mc
    omega
  · show slots + ms' ≤ ms
    omega
/-! Math -/
theorem j_mmax {a b : Int32} {idx : Nat} (hd : decode Y.2.1 pc = .ok (.invokestatic idx, 3)) (hl : Cond.methodLink Y.1.cls idx Lib.Math.max.name ∈ q_W) (hst : Cond.static Lib.Math.max.name ∈ q_W) (hi : Cond.initialized "java/lang/Math" ∈ q_W) (hco : Cond.code Lib.Math.max.name Lib.Math.max.code 2 (some .int) ∈ q_W) (hr : (st.map fun v => v.category).sum ≤ 8) (hdd : 1 ≤ d)
    (k : q_J l d Y mc ms Q QX n0 (pc + 3) lo (.int (if a < b then b else a) :: st) h kc ks) : q_J l d Y mc ms Q QX n0 pc lo (.int b :: .int a :: st) h kc ks := by
  intro p e s m args below meth c H locs cells slots ls g ad0 ad C0 S h1 h2
  obtain ⟨s1, s2, s3, s4, s5, s6, s7, s8, s9⟩ := S
  obtain ⟨c1, c2, c3, c4, c5, c6, c7, c8, c9, c10, c11, c12⟩ := id C0
  refine va_mmax c1 c2 (c4.trans s5.1.symm) c5 (c8 _ hl) (c8 _ hst) (c8 _ hi) (c8 _ hco) hdd (by rw [q_cats]; show _ ≤ 42 * d; omega) (show cells ≤ mc by omega) (show slots ≤ ms by omega) hd ?_
  exact k p e s m args below meth c H locs cells slots ls g ad0 ad C0 ⟨s1, s2, s3, s4, s5, s6, q_cn (q_wi _ _) (q_tl (q_tl s7)), s8, s9⟩ h1 h2
theorem j_mmin {a b : Int32} {idx : Nat} (hd : decode Y.2.1 pc = .ok (.invokestatic idx, 3)) (hl : Cond.methodLink Y.1.cls idx Lib.Math.min.name ∈ q_W) (hst : Cond.static Lib.Math.min.name ∈ q_W) (hi : Cond.initialized "java/lang/Math" ∈ q_W) (hco : Cond.code Lib.Math.min.name Lib.Math.min.code 2 (some .int) ∈ q_W) (hr : (st.map fun v => v.category).sum ≤ 8) (hdd : 1 ≤ d)
    (k : q_J l d Y mc ms Q QX n0 (pc + 3) lo (.int (if b < a then b else a) :: st) h kc ks) : q_J l d Y mc ms Q QX n0 pc lo (.int b :: .int a :: st) h kc ks := by
  intro p e s m args below meth c H locs cells slots ls g ad0 ad C0 S h1 h2
  obtain ⟨s1, s2, s3, s4, s5, s6, s7, s8, s9⟩ := S
  obtain ⟨c1, c2, c3, c4, c5, c6, c7, c8, c9, c10, c11, c12⟩ := id C0
  refine va_mmin c1 c2 (c4.trans s5.1.symm) c5 (c8 _ hl) (c8 _ hst) (c8 _ hi) (c8 _ hco) hdd (by rw [q_cats]; show _ ≤ 42 * d; omega) (show cells ≤ mc by omega) (show slots ≤ ms by omega) hd ?_
  exact k p e s m args below meth c H locs cells slots ls g ad0 ad C0 ⟨s1, s2, s3, s4, s5, s6, q_cn (q_wi _ _) (q_tl (q_tl s7)), s8, s9⟩ h1 h2
theorem j_mabs {a : Int32} {idx : Nat} (hd : decode Y.2.1 pc = .ok (.invokestatic idx, 3)) (hl : Cond.methodLink Y.1.cls idx Lib.Math.abs.name ∈ q_W) (hst : Cond.static Lib.Math.abs.name ∈ q_W) (hi : Cond.initialized "java/lang/Math" ∈ q_W) (hco : Cond.code Lib.Math.abs.name Lib.Math.abs.code 1 (some .int) ∈ q_W) (hr : (st.map fun v => v.category).sum ≤ 8) (hdd : 1 ≤ d)
    (k : q_J l d Y mc ms Q QX n0 (pc + 3) lo (.int (if 0 ≤ a then a else 0 - a) :: st) h kc ks) : q_J l d Y mc ms Q QX n0 pc lo (.int a :: st) h kc ks := by
  intro p e s m args below meth c H locs cells slots ls g ad0 ad C0 S h1 h2
  obtain ⟨s1, s2, s3, s4, s5, s6, s7, s8, s9⟩ := S
  obtain ⟨c1, c2, c3, c4, c5, c6, c7, c8, c9, c10, c11, c12⟩ := id C0
  refine va_mabs c1 c2 (c4.trans s5.1.symm) c5 (c8 _ hl) (c8 _ hst) (c8 _ hi) (c8 _ hco) hdd (by rw [q_cats]; show _ ≤ 42 * d; omega) (show cells ≤ mc by omega) (show slots ≤ ms by omega) hd ?_
  exact k p e s m args below meth c H locs cells slots ls g ad0 ad C0 ⟨s1, s2, s3, s4, s5, s6, q_cn (q_wi _ _) (q_tl s7), s8, s9⟩ h1 h2
/-- System.arraycopy among rows of ints -/
theorem q_nfw : nativeFrameWords "java/lang/System" "arraycopy" 5 ≤ 23 := by decide +kernel
theorem j_copy {i0 i1 N0 N1 idx : Nat} {f0 f1 : Nat → Int32} {sp dp n : Int32} (hd : decode Y.2.1 pc = .ok (.invokestatic idx, 3)) (hl : Cond.methodLink Y.1.cls idx arraycopyName ∈ q_W) (hna : Cond.native arraycopyName ∈ q_W) (hst : Cond.static arraycopyName ∈ q_W) (hi : Cond.initialized "java/lang/System" ∈ q_W) (hr : (st.map fun v => v.category).sum ≤ 8) (hdd : 1 ≤ d)
    (hh0 : h.1 i0 = .inl (0, (N0, .inl f0))) (hh1 : h.1 i1 = .inl (0, (N1, .inl f1))) (q1 : ¬ sp < 0) (q2 : ¬ dp < 0) (q3 : ¬ n < 0) (q4 : sp.toNatClampNeg + n.toNatClampNeg ≤ N0) (q5 : dp.toNatClampNeg + n.toNatClampNeg ≤ N1)
    (k : q_J l d Y mc ms Q QX n0 (pc + 3) lo st (q_set h i1 (.inl (0, (N1, .inl (va_cpy f0 f1 sp.toNatClampNeg dp.toNatClampNeg n.toNatClampNeg))))) kc ks) : q_J l d Y mc ms Q QX n0 pc lo (.int n :: .int dp :: .ref i1 :: .int sp :: .ref i0 :: st) h kc ks := by
  intro p e s m args below meth c H locs cells slots ls g ad0 ad C0 S h1 h2
  obtain ⟨s1, s2, s3, s4, s5, s6, s7, s8, s9⟩ := S
  obtain ⟨c1, c2, c3, c4, c5, c6, c7, c8, c9, c10, c11, c12⟩ := id C0
  have w1 : i1 < h.2 := s7 (.ref i1) (by simp) i1 rfl
  have w0 : i0 < h.2 := s7 (.ref i0) (by simp) i0 rfl
  have hnf := q_nfw
  refine va_copyi (D := g.1) (cl := q_cls) (ty := .int) c1 c2 (c4.trans s5.1.symm) c5 (c8 _ hl) (c8 _ hna) (c8 _ hst) (c8 _ hi) c10 s1 s2 s4 i0 i1 0 0 (c0 := g.2.1 0) (c1 := g.2.1 0) (n0 := N0) (n1 := N1) (f := f0) (g := f1) ?_ ?_ rfl rfl rfl q1 q2 q3 q4 q5 (fun _ _ => rfl) hdd (by rw [q_cats]; show _ ≤ 42 * d; omega) hd (fun H1 locs1 hP1 hD1 hS1 => ?_)
  · rw [q_ws_get w0, hh0]; rfl
  · rw [q_ws_get w1, hh1]; rfl
  · have e9 := q_ws_set (g := g) (ad := ad) (c := .inl (0, (N1, .inl (va_cpy f0 f1 sp.toNatClampNeg dp.toNatClampNeg n.toNatClampNeg)))) w1
    rw [show (q_ws g ad h).set i1 (ad i1, .inl (g.2.1 0, N1, .inl (va_cpy f0 f1 sp.toNatClampNeg dp.toNatClampNeg n.toNatClampNeg))) = _ from e9] at hP1 hD1
    exact k p e s m args below meth c H1 locs1 cells slots ls g ad0 ad C0 ⟨hP1, hD1, q_wh_set s3 trivial, hS1, s5, s6, q_tl (q_tl (q_tl (q_tl (q_tl s7)))), s8, s9⟩ h1 h2
end QK
end
section
section QN
variable {l : Launch} {d : Nat} {Y : qM} {mc ms : Nat} {Q : Option Value → qH → Prop} {QX : String → qH → Prop} {n0 pc : Nat} {lo : List (Option Value)} {st : List Value} {h : qH} {kc ks : Nat}
/-- a contract that never throws, as a plain one -/
theorem q_met {y : MethodName} {ws : List Cond} {rm : Room} {Pc : Array Value → State → Prop} {Qc : Array Value → State → Outcome → State → Prop} {XC : String → State → State → Prop} {free : Addr → Prop} (hM : vx_Met l y ws rm Pc Qc XC mc ms free) (hx : ∀ E u t, ¬ XC E u t) : Met l y ws rm Pc Qc mc ms free := by
  intro p e ha hf hc s m args below h1 h2 h3 h4
  obtain ⟨n, o, a, b, c, q⟩ := hM p e ha hf hc s m args below h1 h2 h3 h4
  refine ⟨n, o, a, b, c, ?_⟩
  rcases q with q | ⟨q, _, E, ce, L, hX, _⟩
  · exact q
  · exact absurd hX (hx _ _ _)
theorem q_afterI {mc' ms' kc' ks' : Nat} {p : Program} {e : Env} {s : State} {m : MethodId} {args a : Array Value} {below : List Frame} {meth : Method} {c : Code} {H : Heap} {locs : List Loc} {cells slots : Nat} {ls : Array Slot} {g : qG} {ad0 ad : Nat → Nat} {st0 : List Value} {rest : List Value} {QZ : Option Value → qH → Prop}
    (C0 : q_C l Y g p s m args meth c) (s4 : va_S (q_A g) s.heap H locs) (s5 : q_lo g ad ls Y.2.2.1 lo) (s6 : ∀ v, some v ∈ lo → q_wv h.2 v) (s7 : ∀ v ∈ rest, q_wv h.2 v) (s8 : q_ag n0 ad0 ad) (s9 : n0 ≤ h.2)
    (hr : va_Run p l e (q_R d mc ms) s m args below meth c H locs cells slots mc' ms' (F0 m pc ls st0) (rest.map (q_tv g ad)) (q_Qc g ad h.2 QZ a) (q_A g))
    (hc : cells + mc' + kc' ≤ mc) (hs : slots + ms' + ks' ≤ ms)
    (k : ∀ (v : Option Value) (h' : qH), QZ v h' → h.2 ≤ h'.2 → q_J l d Y mc ms Q QX n0 (pc + 3) lo (v.toList ++ rest) h' kc' ks') :
    W p l e (q_R d mc ms) s m args below meth c H locs cells slots (vx_MQ below (q_Qc g ad0 n0 Q) (q_Xc g ad0 n0 QX) args s mc ms (q_A g)) (F0 m pc ls st0) := by
  refine q_after (QXZ := fun _ _ => False) (a := a) C0 s4 s5 s6 s7 s8 s9 ?_ (fun _ _ q => q) hc hs k
  intro T hT X
  obtain ⟨v, st₀, t, T', L, z⟩ := hr T hT X
  exact Or.inl ⟨v, st₀, t, T', L, z⟩
/-- a constructor's call -/
theorem j_special {Z : qM} {n idx d' mc' ms' kc' ks' i : Nat} {avs rest : List Value} {QZ : Option Value → qH → Prop} {QXZ : String → qH → Prop} (hd : decode Y.2.1 pc = .ok (.invokespecial idx, 3)) (hZ : q_mt Z n) (hz1 : Z.1.name = "<init>") (hz2 : Z.2.2.2 = none) (hl : Cond.methodLink Y.1.cls idx Z.1 ∈ q_W) (hin : Cond.instanceMethod Z.1 ∈ q_W) (hn : avs.length = n) (he : st = avs.reverse ++ .ref i :: rest) (hr : (rest.map fun v => v.category).sum ≤ 8) (hdd : d' + 1 ≤ d) (hk1 : mc' + kc' ≤ kc) (hk2 : ms' + ks' ≤ ks)
    (hC : q_Ct l d' Z (.ref i :: avs) h mc' ms' QZ QXZ) (hx : ∀ E h', ¬ QXZ E h') (k : ∀ (v : Option Value) (h' : qH), QZ v h' → h.2 ≤ h'.2 → q_J l d Y mc ms Q QX n0 (pc + 3) lo (v.toList ++ rest) h' kc' ks') : q_J l d Y mc ms Q QX n0 pc lo st h kc ks := by
  intro p e s m args below meth c H locs cells slots ls g ad0 ad C0 S h1 h2
  obtain ⟨s1, s2, s3, s4, s5, s6, s7, s8, s9⟩ := S
  obtain ⟨c1, c2, c3, c4, c5, c6, c7, c8, c9, c10, c11, c12⟩ := id C0
  obtain ⟨w1, w2⟩ := q_wv_app he s7
  have hi : i < h.2 := w2 _ List.mem_cons_self i rfl
  have hB := q_callB (mc := mc) (ms := ms) (mc' := mc') (ms' := ms') c8 hZ hl hdd
  rw [hz2] at hB
  have hM := q_met (hC g ad s3 (fun v hv => (List.mem_cons.mp hv).elim (fun q => by rw [q]; exact q_wr hi) (w1 v))) (fun E u t ⟨h', ad', hX, _⟩ => hx E h' hX)
  rw [hz2] at hM
  rw [he, q_map_rev]
  refine q_afterI C0 s4 s5 s6 (q_tl w2) s8 s9 (va_runI (As := avs.map (q_tv g ad)) (nL := Y.2.2.1) (b := ad i) (rest := rest.map (q_tv g ad)) ⟨c1, c2, c4, c5, c8⟩ hM ⟨hB, hz1, c8 _ hin⟩ ⟨q_blind g ad (.ref i :: avs) h, fun U hU hW => ⟨rfl, by rw [hU]; exact s1, s2, va_K.moved hW.alike c10, by rw [hU]; exact (c11.kp (fun q a b => s4.2.1 q a b)).mv hW, by rw [hU]; exact Nat.le_trans c12 s4.1⟩⟩ rfl (by rw [List.length_map]; exact hn) s5.1 rfl ?_ hd ⟨?_, ?_⟩) (by omega) (by omega) k
  · rw [q_cats]
    show 2 * 0 + _ ≤ 8
    omega
  · show cells + mc' ≤ mc
    omega
  · show slots + ms' ≤ ms
    omega
/-- a nest mate's constructor -/
theorem j_specialN {Z : qM} {n idx d' mc' ms' kc' ks' i : Nat} {host : String} {avs rest : List Value} {QZ : Option Value → qH → Prop} {QXZ : String → qH → Prop} (hd : decode Y.2.1 pc = .ok (.invokespecial idx, 3)) (hZ : q_mt Z n) (hz1 : Z.1.name = "<init>") (hz2 : Z.2.2.2 = none) (hl : Cond.methodLinkNest Y.1.cls idx Z.1 host ∈ q_N) (hin : Cond.instanceMethod Z.1 ∈ q_W) (hn : avs.length = n) (he : st = avs.reverse ++ .ref i :: rest) (hr : (rest.map fun v => v.category).sum ≤ 8) (hdd : d' + 1 ≤ d) (hk1 : mc' + kc' ≤ kc) (hk2 : ms' + ks' ≤ ks)
    (hC : q_Ct l d' Z (.ref i :: avs) h mc' ms' QZ QXZ) (hx : ∀ E h', ¬ QXZ E h') (k : ∀ (v : Option Value) (h' : qH), QZ v h' → h.2 ≤ h'.2 → q_J l d Y mc ms Q QX n0 (pc + 3) lo (v.toList ++ rest) h' kc' ks') : q_J l d Y mc ms Q QX n0 pc lo st h kc ks := by
  intro p e s m args below meth c H locs cells slots ls g ad0 ad C0 S h1 h2
  obtain ⟨s1, s2, s3, s4, s5, s6, s7, s8, s9⟩ := S
  obtain ⟨c1, c2, c3, c4, c5, c6, c7, c8, c9, c10, c11, c12⟩ := id C0
  obtain ⟨w1, w2⟩ := q_wv_app he s7
  have hi : i < h.2 := w2 _ List.mem_cons_self i rfl
  obtain ⟨z1, z2, z3, z4, z5⟩ := id hZ
  have hB : va_CN (q_R d mc ms) s args Y.1.cls idx Z.1 host Z.2.1 Z.2.2.1 Z.2.2.2 (Cond.code Z.1 Z.2.1 Z.2.2.1 Z.2.2.2 :: q_W) (q_R d' mc' ms') mc' ms' n :=
    ⟨⟨rfl, rfl, hdd, (show 8 + (Z.2.2.1 + 11) + 42 * d' ≤ 42 * d by omega), q_pay c8 z1, List.mem_cons_self⟩, c8 _ z1, c8 _ z2, z3, fun sig hs => by rw [hs] at z4; exact (Option.some.inj z4).symm, va_Nw.use rfl (c11.2.2.2.2.1 _ hl)⟩
  rw [hz2] at hB
  have hM := q_met (hC g ad s3 (fun v hv => (List.mem_cons.mp hv).elim (fun q => by rw [q]; exact q_wr hi) (w1 v))) (fun E u t ⟨h', ad', hX, _⟩ => hx E h' hX)
  rw [hz2] at hM
  rw [he, q_map_rev]
  refine q_afterI C0 s4 s5 s6 (q_tl w2) s8 s9 (va_runIN (As := avs.map (q_tv g ad)) (nL := Y.2.2.1) (b := ad i) (rest := rest.map (q_tv g ad)) ⟨c1, c2, c4, c5, c8⟩ hM ⟨hB, hz1, c8 _ hin⟩ ⟨q_blind g ad (.ref i :: avs) h, fun U hU hW => ⟨rfl, by rw [hU]; exact s1, s2, va_K.moved hW.alike c10, by rw [hU]; exact (c11.kp (fun q a b => s4.2.1 q a b)).mv hW, by rw [hU]; exact Nat.le_trans c12 s4.1⟩⟩ rfl (by rw [List.length_map]; exact hn) s5.1 rfl ?_ hd ⟨?_, ?_⟩) (by omega) (by omega) k
  · rw [q_cats]
    show 2 * 0 + _ ≤ 8
    omega
  · show cells + mc' ≤ mc
    omega
  · show slots + ms' ≤ ms
    omega
/-- Object.<init> -/
theorem j_objInit {idx i : Nat} (hd : decode Y.2.1 pc = .ok (.invokespecial idx, 3)) (hl : Cond.methodLink Y.1.cls idx objectInit ∈ q_W) (hin : Cond.instanceMethod objectInit ∈ q_W) (hco : Cond.code objectInit ⟨#[0xb1]⟩ 1 none ∈ q_W) (hr : (st.map fun v => v.category).sum ≤ 8) (hdd : 1 ≤ d)
    (k : q_J l d Y mc ms Q QX n0 (pc + 3) lo st h kc ks) : q_J l d Y mc ms Q QX n0 pc lo (.ref i :: st) h kc ks := by
  intro p e s m args below meth c H locs cells slots ls g ad0 ad C0 S h1 h2
  obtain ⟨s1, s2, s3, s4, s5, s6, s7, s8, s9⟩ := S
  obtain ⟨c1, c2, c3, c4, c5, c6, c7, c8, c9, c10, c11, c12⟩ := id C0
  refine W.objInit c1 c2 c5 (c8 _ hl) (c8 _ hin) (c8 _ hco) rfl (s5.1.trans c4.symm) (a := ad i) (rest := st.map (q_tv g ad)) rfl hd hdd (by rw [q_cats]; show 2 * 0 + _ + 12 ≤ 42 * d; omega) ?_
  exact k p e s m args below meth c H locs cells slots ls g ad0 ad C0 ⟨s1, s2, s3, s4, s5, s6, q_tl s7, s8, s9⟩ h1 h2
/-- behind a making: the new cell at the heap's end -/
theorem q_grown {s : State} {g : qG} {ad0 ad : Nat → Nat} {H H1 : Heap} {locs : List Loc} {ls : Array Slot} {q : Nat} {cl : qC} {st1 : List Value} (S : q_S g s ad0 ad n0 h H locs ls Y.2.2.1 lo st1) (hc : q_wc (h.2 + 1) cl)
    (hP : va_P g.1 q_cls (q_ws g ad h ++ [(q, q_tc g (q_up ad h.2 q) cl)]) H1) (hD : va_D (q_A g) (q_ws g ad h ++ [(q, q_tc g (q_up ad h.2 q) cl)])) (hS : va_S (q_A g) s.heap H1 locs) (st2 : List Value) (hst : ∀ v ∈ st2, v ∈ st1) : q_S g s ad0 (q_up ad h.2 q) n0 (q_push h cl) H1 locs ls Y.2.2.1 lo (.ref h.2 :: st2) ∧ (Value.ref h.2 :: st2).map (q_tv g (q_up ad h.2 q)) = .ref q :: st2.map (q_tv g ad) := by
  obtain ⟨s1, s2, s3, s4, s5, s6, s7, s8, s9⟩ := S
  have ag : q_ag h.2 ad (q_up ad h.2 q) := q_ag_up q_ag_rf (Nat.le_refl _)
  rw [q_ws_push s3] at hP hD
  refine ⟨⟨hP, hD, q_wh_push s3 hc, hS, ⟨s5.1, s5.2.1, fun i w hi => by rw [q_tv_ag ag (s6 w (List.mem_of_getElem? hi))]; exact s5.2.2 i w hi⟩, fun w hw => q_wv_mono (s6 w hw) (Nat.le_succ _), q_cn (q_wr (Nat.lt_succ_self _)) (fun w hw => q_wv_mono (s7 w (hst w hw)) (Nat.le_succ _)), q_ag_tr s8 ag s9, Nat.le_trans s9 (Nat.le_succ _)⟩, ?_⟩
  rw [List.map_cons, q_tvs_ag ag (fun v hv => s7 v (hst v hv))]
  show Value.ref (q_up ad h.2 q h.2) :: _ = _
  simp [q_up]
theorem q_dflt (g : qG) (ad : Nat → Nat) (ty : FieldType) : q_tv g ad (defaultValue ty) = defaultValue ty ∨ ∃ z, defaultValue ty = .float z := by
  cases ty <;> first | exact Or.inl rfl | exact Or.inr ⟨_, rfl⟩
/-- new: an object of the world's class ci, all its fields as at first -/
theorem j_new {ci idx N : Nat} {C : String} {T : u_T} {ty0 : Nat → FieldType} {fs : List Value} (hc : q_cl ci C T N) (hty : ∀ k, k < N → parseFieldDescriptor (T k).2.2.1 = some (ty0 k)) (hl : Cond.classLink Y.1.cls idx C ∈ q_W) (hi : Cond.instantiable C N ∈ q_W) (hini : Cond.initialized C ∈ q_W) (hd : decode Y.2.1 pc = .ok (.new idx, 3))
    (hfs : ∀ (g : qG) (ad : Nat → Nat) (j : Nat), j < N → defaultValue (ty0 j) = vp_V (fs.map (q_tv g ad)) j) (hwf : ∀ n, ∀ v ∈ fs, q_wv n v) {kc' ks' : Nat} (hk1 : kc' + 1 ≤ kc) (hk2 : ks' + N ≤ ks)
    (k : q_J l d Y mc ms Q QX n0 (pc + 3) lo (.ref h.2 :: st) (q_push h (.inr (ci, fs))) kc' ks') : q_J l d Y mc ms Q QX n0 pc lo st h kc ks := by
  intro p e s m args below meth c H locs cells slots ls g ad0 ad C0 S h1 h2
  obtain ⟨s1, s2, s3, s4, s5, s6, s7, s8, s9⟩ := id S
  obtain ⟨c1, c2, c3, c4, c5, c6, c7, c8, c9, c10, c11, c12⟩ := id C0
  refine va_new (D := g.1) (cl := q_cls) (ci := ci) (Ts := q_W) (A := q_A g) (H0 := s.heap) (fs := fs.map (q_tv g ad)) c1 c2 c8 hc.2 ty0 hty c5 (c8 _ hl) (c8 _ hi) (c8 _ hini) c10 s1 s2 s4 (fun q hq => Nat.le_trans c12 hq) hc.1 (hfs g ad) (show cells + 1 ≤ mc by omega) (show slots + N ≤ ms by omega) hd (fun q H1 hP hD hS => ?_)
  have e9 : ∀ a, q_tc g a (.inr (ci, fs)) = .inr (ci, fs.map (q_tv g ad)) := fun a => by
    show Sum.inr (ci, _) = Sum.inr (ci, _)
    rw [List.map_congr_left (fun v hv => ?_)]
    exact q_tv_ag (n := 0) (fun i hi => absurd hi (Nat.not_lt_zero i)) (hwf 0 v hv)
  obtain ⟨S', e8⟩ := q_grown (Y := Y) (cl := .inr (ci, fs)) S (fun v hv => hwf _ v hv) (by rw [e9]; exact hP) (by rw [e9]; exact hD) hS st (fun v hv => hv)
  have h9 := k p e s m args below meth c H1 locs (cells + 1) (slots + N) ls g ad0 (q_up ad h.2 q) C0 S' (by omega) (by omega)
  rw [e8] at h9
  exact h9
/-- new int[n] -/
theorem j_newI {z : Int32} {N : Nat} (ha : Cond.arrayClass .int ∈ q_W) (hd : decode Y.2.1 pc = .ok (.newarray .int, 2)) (hn : ¬ z < 0) (hN : z.toNatClampNeg = N) (hb : N ≤ 100000) {kc' ks' : Nat} (hk1 : kc' + 1 ≤ kc) (hk2 : ks' + N ≤ ks)
    (k : q_J l d Y mc ms Q QX n0 (pc + 2) lo (.ref h.2 :: st) (q_push h (.inl (0, (N, .inl (fun _ => 0))))) kc' ks') : q_J l d Y mc ms Q QX n0 pc lo (.int z :: st) h kc ks := by
  intro p e s m args below meth c H locs cells slots ls g ad0 ad C0 S h1 h2
  obtain ⟨s1, s2, s3, s4, s5, s6, s7, s8, s9⟩ := id S
  obtain ⟨c1, c2, c3, c4, c5, c6, c7, c8, c9, c10, c11, c12⟩ := id C0
  refine va_newa (atype := .int) (D := g.1) (cl := q_cls) (tys := q_ty g) (A := q_A g) (H0 := s.heap) (ty := .int) c1 c2 (c8 _ ha) rfl c10 s1 s2 s4 (fun q hq => Nat.le_trans c12 hq) (a0 := (N, .inl (fun _ => 0))) (fun cA => rfl) hn hN (show N * 4 ≤ 536870912 by omega) (show cells + 1 ≤ mc by omega) (show slots + N ≤ ms by omega) hd (fun q cA H1 hK hP hD hS => ?_)
  have hcA : cA = g.2.1 0 := by
    have e1 := (hK.2 5 (cA, .int) rfl).2
    have e2 := (hK.2 0 (g.2.1 0, .int) rfl).2
    exact Option.some.inj (e1.symm.trans e2)
  subst hcA
  obtain ⟨S', e8⟩ := q_grown (Y := Y) (cl := .inl (0, (N, .inl (fun _ => 0)))) S trivial hP hD hS st (fun v hv => List.mem_cons_of_mem _ hv)
  have h9 := k p e s m args below meth c H1 locs (cells + 1) (slots + N) ls g ad0 (q_up ad h.2 q) C0 S' (by omega) (by omega)
  rw [e8] at h9
  exact h9
/-- new boolean[n] -/
theorem j_newZ {z : Int32} {N : Nat} (ha : Cond.arrayClass .boolean ∈ q_W) (hd : decode Y.2.1 pc = .ok (.newarray .boolean, 2)) (hn : ¬ z < 0) (hN : z.toNatClampNeg = N) (hb : N ≤ 100000) {kc' ks' : Nat} (hk1 : kc' + 1 ≤ kc) (hk2 : ks' + N ≤ ks)
    (k : q_J l d Y mc ms Q QX n0 (pc + 2) lo (.ref h.2 :: st) (q_push h (.inl (2, (N, .inl (fun _ => 0))))) kc' ks') : q_J l d Y mc ms Q QX n0 pc lo (.int z :: st) h kc ks := by
  intro p e s m args below meth c H locs cells slots ls g ad0 ad C0 S h1 h2
  obtain ⟨s1, s2, s3, s4, s5, s6, s7, s8, s9⟩ := id S
  obtain ⟨c1, c2, c3, c4, c5, c6, c7, c8, c9, c10, c11, c12⟩ := id C0
  refine va_newa (atype := .boolean) (D := g.1) (cl := q_cls) (tys := q_ty g) (A := q_A g) (H0 := s.heap) (ty := .boolean) c1 c2 (c8 _ ha) rfl c10 s1 s2 s4 (fun q hq => Nat.le_trans c12 hq) (a0 := (N, .inl (fun _ => 0))) (fun cA => rfl) hn hN (show N * 1 ≤ 536870912 by omega) (show cells + 1 ≤ mc by omega) (show slots + N ≤ ms by omega) hd (fun q cA H1 hK hP hD hS => ?_)
  have hcA : cA = g.2.1 2 := by
    have e1 := (hK.2 5 (cA, .boolean) rfl).2
    have e2 := (hK.2 2 (g.2.1 2, .boolean) rfl).2
    exact Option.some.inj (e1.symm.trans e2)
  subst hcA
  obtain ⟨S', e8⟩ := q_grown (Y := Y) (cl := .inl (2, (N, .inl (fun _ => 0)))) S trivial hP hD hS st (fun v hv => List.mem_cons_of_mem _ hv)
  have h9 := k p e s m args below meth c H1 locs (cells + 1) (slots + N) ls g ad0 (q_up ad h.2 q) C0 S' (by omega) (by omega)
  rw [e8] at h9
  exact h9
/-! throw new E("text") in RoverPlanner's own methods -/
def q_xn : List String := ["java/lang/RuntimeException", "java/lang/Exception"]
/-- the words of a throw of E by the constructor at place ic -/
def q_xw (E : String) (ic : Nat) : Prop := (∀ w ∈ vx_atS "RoverPlanner" ic E q_xn, (w ∈ q_W ∨ w ∈ q_N) ∧ vx_ot w = true) ∧ Bundle.fit E = true ∧ Cond.initialized E ∈ q_W ∧ (∀ n ∈ q_xn, Bundle.fit n = true)
theorem q_throw_hx {g : qG} {s : State} {ad0 ad : Nat → Nat} {H : Heap} {locs : List Loc} {ls : Array Slot} {nL : Nat} {E : String} (S : q_S g s ad0 ad n0 h H locs ls nL lo st) (hq : QX E h) : ∀ t : State, s.vm.Alike t.vm → H.size ≤ t.heap.size → (∀ q : Nat, q < H.size → t.heap[q]? = H[q]?) → q_Xc g ad0 n0 QX E s t := by
  obtain ⟨s1, s2, s3, s4, s5, s6, s7, s8, s9⟩ := S
  intro t _ hz hk
  exact ⟨h, ad, hq, s8, s9, s3, s1.kept (fun k q hq => hk q.1 ((s1 k q hq).lt)), s2, Nat.le_trans s4.1 hz, fun q h1 h2 => (hk q (Nat.lt_of_lt_of_le h1 s4.1)).trans (s4.2.1 q h1 h2)⟩
theorem q_nest_ot {w : Cond} (hw : q_nest w = true) : w.onTables = true := by
  cases w <;> first | rfl | (exact absurd hw (by simp [q_nest]))
theorem j_throw {E text : String} {ik is ic : Nat} (hl0 : l.stackTraces = false) (hown : Y.1.cls = "RoverPlanner") (hx : q_xw E ic) (hk : Cond.classLink "RoverPlanner" ik E ∈ q_W) (hs : (is, text) ∈ q_str) (d0 : decode Y.2.1 pc = .ok (.new ik, 3)) (d3 : decode Y.2.1 (pc + 3) = .ok (.dup, 1)) (d4 : decode Y.2.1 (pc + 4) = .ok (.ldc is, 2)) (d6 : decode Y.2.1 (pc + 6) = .ok (.invokespecial ic, 3)) (d9 : decode Y.2.1 (pc + 9) = .ok (.athrow, 1))
    (hdd : 6 ≤ d) (hr : (st.map fun v => v.category).sum ≤ 8) (hk1 : 1 ≤ kc) (hk2 : 6 ≤ ks) (hq : QX E h) : q_J l d Y mc ms Q QX n0 pc lo st h kc ks := by
  intro p e s m args below meth c H locs cells slots ls g ad0 ad C0 S h1 h2
  obtain ⟨s1, s2, s3, s4, s5, s6, s7, s8, s9⟩ := id S
  obtain ⟨c1, c2, c3, c4, c5, c6, c7, c8, c9, c10, c11, c12⟩ := id C0
  obtain ⟨sa, hsa⟩ := c11.2.2.2.1 _ hs
  refine vx_throwS (names := q_xn) (A := q_A g) (own := "RoverPlanner") (text := text) (sa := sa) c1 c2 hl0 (hown ▸ c5) hx.2.1 hx.2.2.2 (c8 _ hk) (c8 _ hx.2.2.1) hsa (fun w hw => ?_) (fun w hw => ?_) c11.2.1 c11.2.2.1 s4 (s5.1.trans c4.symm) d0 d3 d4 d6 d9 (fun x hx => (c9 x hx).elim) (show 2 + 3 < d by omega) ?_ (show cells + 1 ≤ mc by omega) (show slots + 6 ≤ ms by omega) c6 (q_throw_hx S hq) s4.2.2 (by omega) (by omega)
  · rcases (hx.1 w hw).1 with q | q
    · exact c8 w q
    · exact va_Nw.use (q_nest_ot (List.mem_filter.mp q).2) (c11.2.2.2.2.1 w q)
  · rcases List.mem_cons.mp hw with rfl | hw
    · rfl
    · rcases List.mem_cons.mp hw with rfl | hw
      · rfl
      · exact (hx.1 w hw).2
  · rw [q_cats]
    show _ + (13 * (2 + 1) + 43) ≤ 42 * d
    omega
theorem j_throwW {E text : String} {ik is ic : Nat} (hl0 : l.stackTraces = false) (hown : Y.1.cls = "RoverPlanner") (hx : q_xw E ic) (hk : Cond.classLink "RoverPlanner" ik E ∈ q_W) (hs : (is, text) ∈ q_str) (d0 : decode Y.2.1 pc = .ok (.new ik, 3)) (d3 : decode Y.2.1 (pc + 3) = .ok (.dup, 1)) (d4 : decode Y.2.1 (pc + 4) = .ok (.ldc_w is, 3)) (d7 : decode Y.2.1 (pc + 7) = .ok (.invokespecial ic, 3)) (d10 : decode Y.2.1 (pc + 10) = .ok (.athrow, 1))
    (hdd : 6 ≤ d) (hr : (st.map fun v => v.category).sum ≤ 8) (hk1 : 1 ≤ kc) (hk2 : 6 ≤ ks) (hq : QX E h) : q_J l d Y mc ms Q QX n0 pc lo st h kc ks := by
  intro p e s m args below meth c H locs cells slots ls g ad0 ad C0 S h1 h2
  obtain ⟨s1, s2, s3, s4, s5, s6, s7, s8, s9⟩ := id S
  obtain ⟨c1, c2, c3, c4, c5, c6, c7, c8, c9, c10, c11, c12⟩ := id C0
  obtain ⟨sa, hsa⟩ := c11.2.2.2.1 _ hs
  refine vx_throwSW (names := q_xn) (A := q_A g) (own := "RoverPlanner") (text := text) (sa := sa) c1 c2 hl0 (hown ▸ c5) hx.2.1 hx.2.2.2 (c8 _ hk) (c8 _ hx.2.2.1) hsa (fun w hw => ?_) (fun w hw => ?_) c11.2.1 c11.2.2.1 s4 (s5.1.trans c4.symm) d0 d3 d4 d7 d10 (fun x hx => (c9 x hx).elim) (show 2 + 3 < d by omega) ?_ (show cells + 1 ≤ mc by omega) (show slots + 6 ≤ ms by omega) c6 (q_throw_hx S hq) s4.2.2 (by omega) (by omega)
  · rcases (hx.1 w hw).1 with q | q
    · exact c8 w q
    · exact va_Nw.use (q_nest_ot (List.mem_filter.mp q).2) (c11.2.2.2.2.1 w q)
  · rcases List.mem_cons.mp hw with rfl | hw
    · rfl
    · rcases List.mem_cons.mp hw with rfl | hw
      · rfl
      · exact (hx.1 w hw).2
  · rw [q_cats]
    show _ + (13 * (2 + 1) + 43) ≤ 42 * d
    omega
theorem q_xw_of {E : String} {ic : Nat} (h : (vx_atS "RoverPlanner" ic E q_xn).all (fun w => (lw_tbl.contains w && (goodWord w || q_nest w)) && vx_ot w) = true) (h1 : Bundle.fit E = true) (h2 : Cond.initialized E ∈ q_W) (h3 : q_xn.all Bundle.fit = true) : q_xw E ic := by
  refine ⟨fun w hw => ?_, h1, h2, fun n hn => List.all_eq_true.mp h3 n hn⟩
  have h4 := List.all_eq_true.mp h w hw
  simp only [Bool.and_eq_true, Bool.or_eq_true, List.contains_iff_mem] at h4
  obtain ⟨⟨h5, h6⟩, h7⟩ := h4
  exact ⟨h6.elim (fun q => Or.inl (q_in h5 q)) (fun q => Or.inr (q_inN h5 q)), h7⟩
end QN
end
section
/-! conditions: what a stretch of bytecode asks, said of the quiet heap alone (printed theorems v_.. give the judgement out of them) -/
def qGI (h : qH) (i ci k : Nat) (P : Int32 → Prop) : Prop := ∃ (fs : List Value) (z : Int32), h.1 i = .inr (ci, fs) ∧ fs[k]? = some (.int z) ∧ P z
def qGR (h : qH) (i ci k : Nat) (P : Nat → Prop) : Prop := ∃ (fs : List Value) (z : Nat), h.1 i = .inr (ci, fs) ∧ fs[k]? = some (.ref z) ∧ P z
def qPI (h : qH) (i ci k : Nat) (v : Int32) (P : qH → Prop) : Prop := ∃ fs : List Value, h.1 i = .inr (ci, fs) ∧ k < fs.length ∧ P (q_set h i (.inr (ci, fs.set k (.int v))))
def qPZ (h : qH) (i ci k : Nat) (v : Int32) (P : qH → Prop) : Prop := (v = 0 ∨ v = 1) ∧ ∃ fs : List Value, h.1 i = .inr (ci, fs) ∧ k < fs.length ∧ P (q_set h i (.inr (ci, fs.set k (.int v))))
def qAL (h : qH) (i : Nat) (z : Int32) (P : Int32 → Prop) : Prop := ∃ (N : Nat) (f : Nat → Int32), h.1 i = .inl (0, (N, .inl f)) ∧ vp_in z N ∧ P (f z.toNatClampNeg)
def qZL (h : qH) (i : Nat) (z : Int32) (P : Int32 → Prop) : Prop := ∃ (N : Nat) (f : Nat → Int32), h.1 i = .inl (2, (N, .inl f)) ∧ vp_in z N ∧ P (f z.toNatClampNeg)
def qAS (h : qH) (i : Nat) (z w : Int32) (P : qH → Prop) : Prop := ∃ (N : Nat) (f : Nat → Int32), h.1 i = .inl (0, (N, .inl f)) ∧ vp_in z N ∧ P (q_set h i (.inl (0, (N, .inl (upd f z.toNatClampNeg w)))))
def qZS (h : qH) (i : Nat) (z w : Int32) (P : qH → Prop) : Prop := (w = 0 ∨ w = 1) ∧ ∃ (N : Nat) (f : Nat → Int32), h.1 i = .inl (2, (N, .inl f)) ∧ vp_in z N ∧ P (q_set h i (.inl (2, (N, .inl (upd f z.toNatClampNeg w)))))
def qSL (k : Nat) (z : Int32) (P : Int32 → Prop) : Prop := vp_in z 8 ∧ P (q_sF k z.toNatClampNeg)
def qIF (c A B : Prop) : Prop := (c → A) ∧ (¬ c → B)
def qDV (b : Int32) (P : Prop) : Prop := ¬ b = 0 ∧ P
def qLN (h : qH) (i : Nat) (P : Int32 → Prop) : Prop := ∃ (t : Nat) (x : vp_A), h.1 i = .inl (t, x) ∧ t < 5 ∧ P (Int32.ofNat x.1)
def qCI (l : Launch) (d : Nat) (Z : qM) (avs : List Value) (h : qH) (mc ms : Nat) (P : Int32 → qH → Prop) : Prop := q_Ct l d Z avs h mc ms (fun v h1 => ∃ z : Int32, v = some (.int z) ∧ P z h1) (fun _ _ => False)
def qCL (l : Launch) (d : Nat) (Z : qM) (avs : List Value) (h : qH) (mc ms : Nat) (P : Int64 → qH → Prop) : Prop := q_Ct l d Z avs h mc ms (fun v h1 => ∃ z : Int64, v = some (.long z) ∧ P z h1) (fun _ _ => False)
def qCV (l : Launch) (d : Nat) (Z : qM) (avs : List Value) (h : qH) (mc ms : Nat) (P : qH → Prop) : Prop := q_Ct l d Z avs h mc ms (fun v h1 => v = none ∧ P h1) (fun _ _ => False)
/-- the receiver is an object of the class ci -/
def qOB (h : qH) (i ci : Nat) (P : Prop) : Prop := (∃ fs : List Value, h.1 i = .inr (ci, fs)) ∧ P
def qCP (h : qH) (i0 : Nat) (sp : Int32) (i1 : Nat) (dp n : Int32) (P : qH → Prop) : Prop := ∃ (N0 N1 : Nat) (f0 f1 : Nat → Int32), h.1 i0 = .inl (0, (N0, .inl f0)) ∧ h.1 i1 = .inl (0, (N1, .inl f1)) ∧ ¬ sp < 0 ∧ ¬ dp < 0 ∧ ¬ n < 0 ∧ sp.toNatClampNeg + n.toNatClampNeg ≤ N0 ∧ dp.toNatClampNeg + n.toNatClampNeg ≤ N1 ∧ P (q_set h i1 (.inl (0, (N1, .inl (va_cpy f0 f1 sp.toNatClampNeg dp.toNatClampNeg n.toNatClampNeg)))))
def qNI (h : qH) (N : Nat) (P : Nat → qH → Prop) : Prop := P h.2 (q_push h (.inl (0, (N, .inl (fun _ => 0)))))
def qNZ (h : qH) (N : Nat) (P : Nat → qH → Prop) : Prop := P h.2 (q_push h (.inl (2, (N, .inl (fun _ => 0)))))
def qB (z : Int32) (P : Prop) : Prop := (z = 0 ∨ z = 1) ∧ P
section QV
variable {l : Launch} {d : Nat} {Y : qM} {mc ms : Nat} {Q : Option Value → qH → Prop} {QX : String → qH → Prop} {n0 pc : Nat} {lo : List (Option Value)} {st : List Value} {h : qH} {kc ks : Nat}
theorem j_pad (n : Nat) {lo' : List (Option Value)} (he : lo ++ List.replicate n none = lo') (k : q_J l d Y mc ms Q QX n0 pc lo' st h kc ks) : q_J l d Y mc ms Q QX n0 pc lo st h kc ks := by
  subst he
  refine q_loc (fun a b => ⟨fun v hv => ?_, b⟩) (fun p e R s m args below meth c H locs cells slots ls g ad Qf hx hb o k => k ls ⟨o.1, o.2.1, fun i v hi => o.2.2 i v ?_⟩) k
  · rcases List.mem_append.mp hv with q | q
    · exact a v q
    · exact absurd (List.eq_of_mem_replicate q) (by simp)
  · by_cases hl : i < lo.length
    · rwa [List.getElem?_append_left hl] at hi
    · rw [List.getElem?_append_right (by omega)] at hi
      have := List.eq_of_mem_replicate (List.mem_of_getElem? hi)
      simp at this
theorem q_noX {P : qH → Prop} : ∀ (E : String) (h' : qH), ¬ (fun (_ : String) (_ : qH) => False) E h' := fun _ _ q => q
end QV
/-- a switch's value that is none of 0 .. hi -/
theorem q_tabO {a : Int32} {hi : Int} (h0 : 0 ≤ hi + 1) (hh : hi < 2147483647) (h : ∀ j : Nat, (j : Int) ≤ hi → ¬ a = nI j) : a.toInt < 0 ∨ hi < a.toInt := by
  by_cases q : a.toInt < 0
  · exact Or.inl q
  · refine Or.inr (Int.not_le.mp fun q2 => ?_)
    have h1 : (a.toInt.toNat : Int) = a.toInt := Int.toNat_of_nonneg (by omega)
    refine h a.toInt.toNat (by omega) (Int32.toInt_inj.mp ?_)
    rw [nI_toInt (by omega)]
    omega
/-- a lookup's value -/
theorem q_lkN {a k : Int32} {x o dd : Int} {r : List (Int × Int)} (h : ¬ a = k) (hk : k.toInt = x) : Op.lookupswitch.offset ((x, o) :: r) dd a.toInt = Op.lookupswitch.offset r dd a.toInt := lv_osw h hk
def qO4 (h : qH) (i : Nat) (z : Int32) (P : Nat → Prop) : Prop := ∃ (N : Nat) (f : Nat → Option Nat) (j : Nat), h.1 i = .inl (4, (N, .inr (.inr (.inr (.inr f))))) ∧ vp_in z N ∧ f z.toNatClampNeg = some j ∧ P j
end
section
/-- a contract out of a walk, for a class that some rows stand in for (Math): none stands in for this method -/
theorem vx_ofWF {l : Launch} {y : MethodName} {ws ws' : List Cond} {rm : Room} {Pc : Array Value → State → Prop} {Qc : Array Value → State → Outcome → State → Prop} {XC : String → State → State → Prop} {mc ms : Nat} {free : Addr → Prop} {cc : ByteArray} {maxL : Nat} {ret : Option FieldType}
    (hy : plainFor y = true) (hw : ws = Cond.code y cc maxL ret :: ws')
    (body : ∀ p e s m args below meth c s₁, BodyLoose p l y (headSpec ws rm) cc maxL ret e s m args below meth c s₁ → c.maxLocals = maxL → (∀ x ∈ c.exceptionTable.toList, False) → Pc args s →
      W p l e (headSpec ws rm).room s m args below meth c s.heap [] 0 0 (vx_MQ below Qc XC args s mc ms free) (entryFrame m args maxL)) : vx_Met l y ws rm Pc Qc XC mc ms free := by
  refine MetFree.of_bodySF (code := cc) (maxLocals := maxL) (ret := ret) hy ?_ ?_
  · intro args s m h hn
    obtain ⟨meth, c, h1, h2, h3, h4, h5, h6, -, -⟩ := Cond.code_spec hn (atoms_spec (ws := ws) h _ (by rw [hw]; exact List.mem_cons_self))
    exact ⟨meth, c, h1, h2, h3, h4, h5, h6⟩
  · intro p e s m args below meth c s₁ B hml hP _
    have hh0 : s₁.heap = s.heap := by rw [B.state]; rfl
    have ht : ∀ x ∈ c.exceptionTable.toList, False := by
      obtain ⟨meth9, c9, h1, h2, -, -, -, -, h7, -⟩ := Cond.code_spec B.named (atoms_spec (ws := ws) B.pre _ (by rw [hw]; exact List.mem_cons_self))
      cases Option.some.inj (h1.symm.trans B.method)
      cases Option.some.inj (h2.symm.trans (Stand.of_body B).code)
      intro x hx
      rw [Array.isEmpty_iff.mp h7] at hx
      cases hx
    obtain ⟨t, a1, o, b1, b2, b3⟩ := body p e s m args below meth c s₁ B hml ht hP s₁ hh0 (Stand.of_body B)
    exact ⟨t, o, a1, b1, b2, b3⟩
theorem q_bodyF {l : Launch} {d : Nat} {Y : qM} {avs : List Value} {h : qH} {mc ms : Nat} {Q : Option Value → qH → Prop} {QX : String → qH → Prop} (hy : plainFor Y.1 = true) (hc : ∀ v ∈ avs, v.category = 1) (hn : avs.length ≤ Y.2.2.1)
    (k : q_J l d Y mc ms Q QX h.2 0 (avs.map some) [] h mc ms) : q_Ct l d Y avs h mc ms Q QX := by
  intro g ad hw hv
  refine vx_ofWF (cc := Y.2.1) (maxL := Y.2.2.1) (ret := Y.2.2.2) hy rfl ?_
  intro p e s m args below meth c s₁ B hml ht hP
  obtain ⟨rfl, hP1, hD1, hK, hSt, hb⟩ := hP
  have hts := atoms_spec (ws := Cond.code Y.1 Y.2.1 Y.2.2.1 Y.2.2.2 :: q_W) B.pre
  have hl := lv_entry (avs.map (q_tv g ad)) (n := Y.2.2.1) (by rw [q_sl_len g ad avs hc]; exact hn)
  rw [lg_entry_eq]
  generalize (lg_sl (avs.map (q_tv g ad)) ++ List.replicate (Y.2.2.1 - (lg_sl (avs.map (q_tv g ad))).length) Slot.unset).toArray = ls at hl ⊢
  refine k p e s m _ below meth c s.heap [] 0 0 ls g ad ad ⟨B.exec, B.bytes, B.returns, hml, findClass_of_methodNamed B.named, B.notSynchronized, (name_of_methodNamed B.named B.method).1, fun w hw => hts w (List.mem_cons_of_mem _ hw), ht, hK, hSt, hb⟩
    ⟨hP1, hD1, hw, va_S.rf, ⟨hl.1, hl.2.1, fun i v hi => ?_⟩, fun v hm => ?_, fun v hm => (nomatch hm), q_ag_rf, Nat.le_refl _⟩ (by omega) (by omega)
  · have h2 := q_entry_lo g ad avs 0 i v hc hi
    rw [Nat.zero_add] at h2
    exact hl.2.2 (i, _) h2
  · obtain ⟨w, hw, e⟩ := List.mem_map.mp hm
    cases e
    exact hv _ hw
end
section
/-! rows for what the law's own methods use: doubles, references returned, rows of rows, calls of a nest mate's static methods -/
section QR9
variable {l : Launch} {d : Nat} {Y : qM} {mc ms : Nat} {Q : Option Value → qH → Prop} {QX : String → qH → Prop} {n0 pc : Nat} {lo : List (Option Value)} {st : List Value} {h : qH} {kc ks : Nat}
theorem j_i2d {a : Int32} (hd : decode Y.2.1 pc = .ok (.i2d, 1)) (k : q_J l d Y mc ms Q QX n0 (pc + 1) lo (.double (FP.i2d a) :: st) h kc ks) : q_J l d Y mc ms Q QX n0 pc lo (.int a :: st) h kc ks :=
  q_pure (fun _ b => q_cn (q_wd _ _) (q_tl b)) (fun p e R s m args below meth c H locs cells slots ls g ad Qf hx hb _ _ _ k => lv_i2d hx hb hd k) k
theorem j_ddiv {a b : UInt64} (hd : decode Y.2.1 pc = .ok (.ddiv, 1)) (hn : vf_n64 (FP.ddiv a b)) (k : q_J l d Y mc ms Q QX n0 (pc + 1) lo (.double (FP.ddiv a b) :: st) h kc ks) : q_J l d Y mc ms Q QX n0 pc lo (.double b :: .double a :: st) h kc ks :=
  q_pure (fun _ b => q_cn (q_wd _ _) (q_tl (q_tl b))) (fun p e R s m args below meth c H locs cells slots ls g ad Qf hx hb _ _ _ k => lv_ddiv hx hb hd hn k) k
theorem j_dconst1 (hd : decode Y.2.1 pc = .ok (.dconst 1, 1)) (k : q_J l d Y mc ms Q QX n0 (pc + 1) lo (.double FP.dconst1 :: st) h kc ks) : q_J l d Y mc ms Q QX n0 pc lo st h kc ks :=
  q_pure (fun _ b => q_cn (q_wd _ _) b) (fun p e R s m args below meth c H locs cells slots ls g ad Qf hx hb _ _ _ k => lv_dconst1 hx hb hd k) k
theorem j_dcmp {a b : UInt64} {op : CmpOp} (hd : decode Y.2.1 pc = .ok (.dcmp op, 1)) (k : q_J l d Y mc ms Q QX n0 (pc + 1) lo (.int (Op.cmpValue (FP.dcmp a b) op) :: st) h kc ks) : q_J l d Y mc ms Q QX n0 pc lo (.double b :: .double a :: st) h kc ks :=
  q_pure (fun _ b => q_cn (q_wi _ _) (q_tl (q_tl b))) (fun p e R s m args below meth c H locs cells slots ls g ad Qf hx hb _ _ _ k => lv_dcmp hx hb hd k) k
theorem j_aload_nF {n : Fin 4} {i : Nat} {z : UInt32} (hd : decode Y.2.1 pc = .ok (.aload_n n, 1)) (hi : (n : Nat) = i) (hl : lo[i]? = some (some (.float z))) (k : q_J l d Y mc ms Q QX n0 (pc + 1) lo (.float z :: st) h kc ks) : q_J l d Y mc ms Q QX n0 pc lo st h kc ks :=
  q_pure (fun _ b => q_cn (fun i hi => by cases hi) b) (fun p e R s m args below meth c H locs cells slots ls g ad Qf hx hb o _ _ k => lv_aload_n hx hb hd hi (o.2.2 _ _ hl) k) k
theorem j_aret {i : Nat} {rt : FieldType} (hd : decode Y.2.1 pc = .ok (.areturn, 1)) (hr : Y.2.2.2 = some rt) (hrt : (∃ n, rt = .object n) ∨ ∃ t, rt = .array t) (hq : Q (some (.ref i)) h) : q_J l d Y mc ms Q QX n0 pc lo [.ref i] h kc ks := by
  intro p e s m args below meth c H locs cells slots ls g ad0 ad C0 S h1 h2
  obtain ⟨s1, s2, s3, s4, s5, s6, s7, s8, s9⟩ := S
  obtain ⟨c1, c2, c3, c4, c5, c6, c7, c8, c9, c10, c11, c12⟩ := id C0
  refine vx_ret (W.widen (k := mc) (n := ms) (by omega) (by omega) ?_)
  exact W.aret (v := .ref (ad i)) c1 c2 (c3.trans hr) hrt (Or.inr ⟨_, rfl⟩) (fun t ht hW => ⟨some (.ref i), h, ad, rfl, hq, s8, s9, (fun w hw => by cases hw; exact s7 _ List.mem_cons_self), s3, by rw [ht]; exact s1, s2, s4.F ht⟩) s4.2.2 hd c6
/-- a row of rows; null stands for none -/
theorem j_aald4 {i N : Nat} {f : Nat → Option Nat} {z : Int32} {v : Value} (hd : decode Y.2.1 pc = .ok (.aaload, 1)) (hh : h.1 i = .inl (4, (N, .inr (.inr (.inr (.inr f)))))) (hin : vp_in z N) (hv : v = match f z.toNatClampNeg with | some j => .ref j | none => .null)
    (kk : q_J l d Y mc ms Q QX n0 (pc + 1) lo (v :: st) h kc ks) : q_J l d Y mc ms Q QX n0 pc lo (.int z :: .ref i :: st) h kc ks := by
  intro p e s m args below meth c H locs cells slots ls g ad0 ad C0 S h1 h2
  obtain ⟨s1, s2, s3, s4, s5, s6, s7, s8, s9⟩ := S
  obtain ⟨c1, c2, c3, c4, c5, c6, c7, c8, c9, c10, c11, c12⟩ := id C0
  have hi : i < h.2 := s7 _ (List.mem_cons_of_mem _ List.mem_cons_self) i rfl
  have hw := s3 i hi
  rw [hh] at hw
  have hlt : z.toNatClampNeg < N := Nat.not_le.mp fun q => hin (Or.inr q)
  have ha : (q_ws g ad h)[i]? = some (ad i, .inl (g.2.1 4, N, .inr (.inr (.inr (.inr (fun k => (f k).map ad)))))) := by rw [q_ws_get hi, hh]; rfl
  have ht : (q_ty g)[4]? = some (g.2.1 4, .array .int) := rfl
  refine W.aald (v := va_rf ((f z.toNatClampNeg).map ad)) (ty := .array .int) c1 c2 (s1 i _ ha) ((c10.2 4 _ ht).1 N (fun j => va_rf ((f j).map ad))) rfl (fun q => by cases q) (by show ¬ (z < 0 ∨ (arrV _ _ _).slots.size ≤ _); rw [arrV_size]; exact hin) (by show (arrV _ _ _).slots[_]? = _; rw [arrV_read _ _ hlt]) rfl rfl hd ?_
  have e9 : va_rf ((f z.toNatClampNeg).map ad) = q_tv g ad v := by
    subst hv
    cases f z.toNatClampNeg <;> rfl
  have hwv : q_wv h.2 v := by
    subst hv
    cases hf : f z.toNatClampNeg with
    | none => exact q_wn _
    | some j => exact q_wr (hw _ _ hf)
  have h9 := kk p e s m args below meth c H locs cells slots ls g ad0 ad C0 ⟨s1, s2, s3, s4, s5, s6, q_cn hwv (q_tl (q_tl s7)), s8, s9⟩ h1 h2
  rw [List.map_cons, ← e9] at h9
  exact h9
theorem q_asg (vm : Vm) (c : ClassId) : vm.assignable c c = true := by
  unfold Vm.assignable
  rw [Vm.assignableAux]
  simp
/-- a row of ints put into a row of rows -/
theorem j_aast4 {i N j M : Nat} {f : Nat → Option Nat} {F : Nat → Int32} {z : Int32} (hd : decode Y.2.1 pc = .ok (.aastore, 1)) (hh : h.1 i = .inl (4, (N, .inr (.inr (.inr (.inr f)))))) (hj : h.1 j = .inl (0, (M, .inl F))) (hin : vp_in z N)
    (kk : q_J l d Y mc ms Q QX n0 (pc + 1) lo st (q_set h i (.inl (4, (N, .inr (.inr (.inr (.inr (va_up f z.toNatClampNeg (some j))))))))) kc ks) : q_J l d Y mc ms Q QX n0 pc lo (.ref j :: .int z :: .ref i :: st) h kc ks := by
  intro p e s m args below meth c H locs cells slots ls g ad0 ad C0 S h1 h2
  obtain ⟨s1, s2, s3, s4, s5, s6, s7, s8, s9⟩ := S
  obtain ⟨c1, c2, c3, c4, c5, c6, c7, c8, c9, c10, c11, c12⟩ := id C0
  have hi : i < h.2 := s7 _ (List.mem_cons_of_mem _ (List.mem_cons_of_mem _ List.mem_cons_self)) i rfl
  have hjj : j < h.2 := s7 _ List.mem_cons_self j rfl
  have hw := s3 i hi
  rw [hh] at hw
  have hlt : z.toNatClampNeg < N := Nat.not_le.mp fun q => hin (Or.inr q)
  have h0 : ¬ z < 0 := fun q => hin (Or.inl q)
  have ha : (q_ws g ad h)[i]? = some (ad i, .inl (g.2.1 4, N, .inr (.inr (.inr (.inr (fun k => (f k).map ad)))))) := by rw [q_ws_get hi, hh]; rfl
  have hb : (q_ws g ad h)[j]? = some (ad j, .inl (g.2.1 0, M, .inl F)) := by rw [q_ws_get hjj, hj]; rfl
  have t4 : (q_ty g)[4]? = some (g.2.1 4, .array .int) := rfl
  have t0 : (q_ty g)[0]? = some (g.2.1 0, .int) := rfl
  obtain ⟨comp, cA, kA, hcomp, hidx, hkA, hkindA, hnameA⟩ := arrayOverA_spec (args := args) (va_AOA.use c11.2.2.2.2.2.2.1)
  have f0 : s.vm.findClass (FieldType.array .int).toString = some (g.2.1 0) := (c10.2 0 _ t0).2
  have f4 : s.vm.findClass ("[" ++ (FieldType.array .int).toString) = some (g.2.1 4) := (c10.2 4 _ t4).2
  have e0 : g.2.1 0 = comp := Option.some.inj (f0.symm.trans hcomp)
  have e4 : g.2.1 4 = cA := Option.some.inj (f4.symm.trans hnameA)
  obtain ⟨kC, hkC, -⟩ := Vm.findClass_spec f0
  refine W.aast (t := .array .int) c1 c2 (s1 i _ ha) (fun q h => by cases h) (fun h => by cases h) (by show s.vm.classes[g.2.1 4]? = some kA; rw [e4]; exact hkA) hkindA rfl (by rw [← e0]; exact hkC) ⟨h0, by show _ < (arrV _ _ _).slots.size; rw [arrV_size]; exact hlt⟩ (s1 j _ hb) (fun q h => by cases h) (kv := kC) (by show s.vm.classes[g.2.1 0]? = some kC; exact hkC) (by show s.vm.assignable (g.2.1 0) comp = true; rw [e0]; exact q_asg _ _) rfl rfl hd fun H1 eH z1 oq => ?_
  have hcell : H1[ad i]? = some (vp_cell (g.2.1 4) (N, .inr (.inr (.inr (.inr (va_up (fun k => (f k).map ad) z.toNatClampNeg (some (ad j)))))))) := by
    rw [eH]
    show some ((vp_cell (g.2.1 4) (N, .inr (.inr (.inr (.inr (fun k => (f k).map ad)))))).setSlot _ _) = _
    rw [vp_cell_q, vp_cell_q, arrV_store]
    congr 2
    funext q
    by_cases hq : q = z.toNatClampNeg
    · subst hq
      simp [updV, va_up, va_rf]
    · simp [updV, va_up, hq]
  have hP1 : va_P g.1 q_cls ((q_ws g ad h).set i (ad i, .inl (g.2.1 4, N, .inr (.inr (.inr (.inr (va_up (fun k => (f k).map ad) z.toNatClampNeg (some (ad j)))))))) ) H1 := s1.set s2 ha hcell oq
  have hD1 : va_D (q_A g) ((q_ws g ad h).set i (ad i, .inl (g.2.1 4, N, .inr (.inr (.inr (.inr (va_up (fun k => (f k).map ad) z.toNatClampNeg (some (ad j)))))))) ) := s2.set ha
  have e8 : va_up (fun k => (f k).map ad) z.toNatClampNeg (some (ad j)) = fun k => ((va_up f z.toNatClampNeg (some j)) k).map ad := by
    funext k
    by_cases e : k = z.toNatClampNeg <;> simp [va_up, e]
  have e9 := q_ws_set (g := g) (ad := ad) (c := .inl (4, (N, .inr (.inr (.inr (.inr (va_up f z.toNatClampNeg (some j)))))))) hi
  rw [e8] at hP1 hD1
  rw [show (q_ws g ad h).set i (ad i, .inl (g.2.1 4, N, .inr (.inr (.inr (.inr (fun k => ((va_up f z.toNatClampNeg (some j)) k).map ad)))))) = _ from e9] at hP1 hD1
  refine kk p e s m args below meth c H1 _ cells slots ls g ad0 ad C0 ⟨hP1, hD1, q_wh_set s3 (fun k x hk => ?_), s4.put z1 oq (s2.2 i _ ha), s5, s6, q_tl (q_tl (q_tl s7)), s8, s9⟩ h1 h2
  by_cases e : k = z.toNatClampNeg
  · simp [va_up, e] at hk
    omega
  · simp [va_up, e] at hk
    exact hw k x hk
/-- new int[n][] -/
theorem j_newA {z : Int32} {N idx : Nat} (hl : Cond.classLink Y.1.cls idx "[I" ∈ q_W) (hd : decode Y.2.1 pc = .ok (.anewarray idx, 3)) (hn : ¬ z < 0) (hN : z.toNatClampNeg = N) (hb : N ≤ 100000) {kc' ks' : Nat} (hk1 : kc' + 1 ≤ kc) (hk2 : ks' + N ≤ ks)
    (k : q_J l d Y mc ms Q QX n0 (pc + 3) lo (.ref h.2 :: st) (q_push h (.inl (4, (N, .inr (.inr (.inr (.inr (fun _ => none)))))))) kc' ks') : q_J l d Y mc ms Q QX n0 pc lo (.int z :: st) h kc ks := by
  subst hN
  intro p e s m args below meth c H locs cells slots ls g ad0 ad C0 S h1 h2
  obtain ⟨s1, s2, s3, s4, s5, s6, s7, s8, s9⟩ := id S
  obtain ⟨c1, c2, c3, c4, c5, c6, c7, c8, c9, c10, c11, c12⟩ := id C0
  have t4 : (q_ty g)[4]? = some (g.2.1 4, .array .int) := rfl
  have f4 : s.vm.findClass ("[" ++ (FieldType.array .int).toString) = some (g.2.1 4) := (c10.2 4 _ t4).2
  refine W.anewA (t := .int) c1 c2 c5 (c8 _ hl) (va_AOA.use c11.2.2.2.2.2.2.1) rfl hd rfl hn (show z.toNatClampNeg * 4 ≤ 536870912 by omega) (show cells + 1 ≤ mc by omega) (show slots + z.toNatClampNeg ≤ ms by omega) fun cA kA comp g1 g2 g3 g4 => ?_
  have hcA : cA = g.2.1 4 := Option.some.inj (g1.symm.trans f4)
  subst hcA
  generalize hH1 : H.push ({ cls := g.2.1 4, slots := Array.replicate z.toNatClampNeg .null, vm := .none } : Cell) = H1
  have z1 : H1.size = H.size + 1 := by rw [← hH1, Array.size_push]
  have e1 : H1[H.size]? = some (arrV (g.2.1 4) z.toNatClampNeg (fun _ => .null)) := by rw [← hH1, Array.getElem?_push_size, ← arrV_new]
  have o1 : ∀ q : Nat, q < H.size → H1[q]? = H[q]? := fun q hq => by rw [← hH1, Array.getElem?_push, if_neg (Nat.ne_of_lt hq)]
  have hk : ∀ (k : Nat) (x : Nat × va_E), (q_ws g ad h)[k]? = some x → H1[x.1]? = H[x.1]? := fun k x hx => o1 x.1 ((s1 k x hx).lt)
  have hP : va_P g.1 q_cls (q_ws g ad h ++ [(H.size, .inl (g.2.1 4, z.toNatClampNeg, .inr (.inr (.inr (.inr (fun _ => none))))))]) H1 := (s1.kept hk).app (fun k x hx => by
    have hz : k < 1 := (List.getElem?_eq_some_iff.mp hx).1
    rw [show k = 0 by omega] at hx
    cases hx
    show H1[H.size]? = some (vp_cell _ _)
    rw [vp_cell_q]
    exact e1)
  have hD : va_D (q_A g) (q_ws g ad h ++ [(H.size, .inl (g.2.1 4, z.toNatClampNeg, .inr (.inr (.inr (.inr (fun _ => none))))))]) := s2.push s1 rfl (Nat.le_trans c12 s4.1)
  have hS : va_S (q_A g) s.heap H1 locs := ⟨Nat.le_trans s4.1 (by omega), fun x h1 h2 => (o1 x (Nat.lt_of_lt_of_le h1 s4.1)).trans (s4.2.1 x h1 h2), s4.2.2⟩
  obtain ⟨S', e8⟩ := q_grown (Y := Y) (cl := .inl (4, (z.toNatClampNeg, .inr (.inr (.inr (.inr (fun _ => none))))))) S (fun k i hk => by cases hk) hP hD hS st (fun v hv => List.mem_cons_of_mem _ hv)
  have h9 := k p e s m args below meth c H1 locs (cells + 1) (slots + z.toNatClampNeg) ls g ad0 (q_up ad h.2 H.size) C0 S' (by omega) (by omega)
  rw [e8] at h9
  exact h9
end QR9
end
section
/-! new int[n][k]: the outer row at h.2, the inner ones behind it; a nest mate's static method -/
def q_pushM (h : qH) (N K : Nat) : qH := (fun j => if j = h.2 then .inl (4, (N, .inr (.inr (.inr (.inr (fun i => if i < N then some (h.2 + 1 + i) else none)))))) else if h.2 < j ∧ j ≤ h.2 + N then .inl (0, (K, .inl (fun _ => 0))) else h.1 j, h.2 + 1 + N)
def q_upM (ad : Nat → Nat) (n N q : Nat) (r : Nat → Nat) : Nat → Nat := fun j => if j = n then q else if n < j ∧ j ≤ n + N then r (j - (n + 1)) else ad j
theorem q_wsM {g : qG} {ad : Nat → Nat} {h : qH} (hw : q_wh h) (q N K : Nat) (r : Nat → Nat) : (q_ws g ad h ++ [(q, .inl (g.2.1 4, N, .inr (.inr (.inr (.inr (fun i => if i < N then some (r i) else none))))))]) ++ va_pl ((List.range N).map r) (fun _ => .inl (g.2.1 0, (K, .inl (fun _ => 0)))) = q_ws g (q_upM ad h.2 N q r) (q_pushM h N K) := by
  have ag : q_ag h.2 ad (q_upM ad h.2 N q r) := fun i hi => by
    unfold q_upM
    rw [if_neg (by omega), if_neg (by omega)]
  have e : (List.range h.2).map (fun i => (q_upM ad h.2 N q r i, q_tc g (q_upM ad h.2 N q r) ((q_pushM h N K).1 i))) = q_ws g ad h := by
    apply List.map_congr_left
    intro i hi
    have hi : i < h.2 := List.mem_range.mp hi
    have h1 : (q_pushM h N K).1 i = h.1 i := by
      show (if i = h.2 then _ else if h.2 < i ∧ i ≤ h.2 + N then _ else h.1 i) = _
      rw [if_neg (by omega), if_neg (by omega)]
    rw [h1, q_tc_ag ag (hw i hi), ag i hi]
  have en : q_upM ad h.2 N q r h.2 = q := if_pos rfl
  have ei : ∀ i, i < N → q_upM ad h.2 N q r (h.2 + 1 + i) = r i := fun i hi => by
    unfold q_upM
    rw [if_neg (by omega), if_pos (by omega)]
    congr 1
    omega
  have cn : q_tc g (q_upM ad h.2 N q r) ((q_pushM h N K).1 h.2) = .inl (g.2.1 4, N, .inr (.inr (.inr (.inr (fun i => if i < N then some (r i) else none))))) := by
    have h1 : (q_pushM h N K).1 h.2 = .inl (4, (N, .inr (.inr (.inr (.inr (fun i => if i < N then some (h.2 + 1 + i) else none)))))) := if_pos rfl
    rw [h1]
    show Sum.inl (_, (N, Sum.inr (Sum.inr (Sum.inr (Sum.inr _))))) = Sum.inl (_, (N, Sum.inr (Sum.inr (Sum.inr (Sum.inr _)))))
    congr 7
    funext i
    show Option.map (q_upM ad h.2 N q r) (if i < N then some (h.2 + 1 + i) else none) = (if i < N then some (r i) else none)
    by_cases hi : i < N
    · rw [if_pos hi, if_pos hi, Option.map_some, ei i hi]
    · rw [if_neg hi, if_neg hi]; rfl
  have ci : ∀ i, i < N → q_tc g (q_upM ad h.2 N q r) ((q_pushM h N K).1 (h.2 + 1 + i)) = .inl (g.2.1 0, (K, .inl (fun _ => 0))) := fun i hi => by
    have h1 : (q_pushM h N K).1 (h.2 + 1 + i) = .inl (0, (K, .inl (fun _ => 0))) := by
      show (if h.2 + 1 + i = h.2 then _ else if h.2 < h.2 + 1 + i ∧ h.2 + 1 + i ≤ h.2 + N then _ else _) = _
      rw [if_neg (by omega), if_pos (by omega)]
    rw [h1]; rfl
  show _ = (List.range (h.2 + 1 + N)).map _
  rw [List.range_add, List.map_append, List.range_succ (n := h.2), List.map_append, e, List.map_map]
  congr 1
  · rw [List.map_cons, List.map_nil, en, cn]
  · unfold va_pl
    rw [List.map_map]
    apply List.map_congr_left
    intro i hi
    have hi : i < N := List.mem_range.mp hi
    show (r i, _) = (q_upM ad h.2 N q r (h.2 + 1 + i), q_tc g (q_upM ad h.2 N q r) ((q_pushM h N K).1 (h.2 + 1 + i)))
    rw [ei i hi, ci i hi]
section QR8
variable {l : Launch} {d : Nat} {Y : qM} {mc ms : Nat} {Q : Option Value → qH → Prop} {QX : String → qH → Prop} {n0 pc : Nat} {lo : List (Option Value)} {st : List Value} {h : qH} {kc ks : Nat}
theorem j_mna {N K idx : Nat} {y z : Int32} (hl : Cond.classLink Y.1.cls idx "[[I" ∈ q_W) (ha : Cond.arrayClass .int ∈ q_W) (hd : decode Y.2.1 pc = .ok (.multianewarray idx 2, 4)) (hy : ¬ y < 0) (hN : y.toNatClampNeg = N) (hNb : N ≤ 1000) (hz : ¬ z < 0) (hK : z.toNatClampNeg = K) (hb : K ≤ 1000) {kc' ks' : Nat} (hk1 : kc' + (1 + N) ≤ kc) (hk2 : ks' + (N + N * K) ≤ ks)
    (k : q_J l d Y mc ms Q QX n0 (pc + 4) lo (.ref h.2 :: st) (q_pushM h N K) kc' ks') : q_J l d Y mc ms Q QX n0 pc lo (.int z :: .int y :: st) h kc ks := by
  intro p e s m args below meth c H locs cells slots ls g ad0 ad C0 S h1 h2
  obtain ⟨s1, s2, s3, s4, s5, s6, s7, s8, s9⟩ := id S
  obtain ⟨c1, c2, c3, c4, c5, c6, c7, c8, c9, c10, c11, c12⟩ := id C0
  have f0 : s.vm.findClass (FieldType.array .int).toString = some (g.2.1 0) := (c10.2 0 (g.2.1 0, .int) rfl).2
  have hP0 : va_P g.1 q_cls (q_ws g ad h ++ va_pl [] (fun _ => .inl (g.2.1 0, (K, .inl (fun _ => 0))))) H := by
    rw [show va_pl [] _ = [] from rfl, List.append_nil]; exact s1
  have hD0 : va_D (q_A g) (q_ws g ad h ++ va_pl [] (fun _ => .inl (g.2.1 0, (K, .inl (fun _ => 0))))) := by
    rw [show va_pl [] _ = [] from rfl, List.append_nil]; exact s2
  refine va_mna (D := g.1) (cl := q_cls) (tys := q_ty g) (A := q_A g) (H0 := s.heap) (ty := .int) (z := (K, .inl (fun _ => 0))) (N' := N) (K' := K) c1 c2 c5 (c8 _ hl) c11.2.2.2.2.2.2.1 (c8 _ ha) f0 c10 hP0 hD0 s4 (fun q hq => Nat.le_trans c12 hq) hy hz hN hK (show N * 4 ≤ 536870912 by omega) (show K * 4 ≤ 536870912 by omega) (by omega) rfl rfl (show cells + (1 + N) ≤ mc by omega) (show slots + (N + N * K) ≤ ms by omega) (fun c => ?_) hd (fun q r cA H1 hr1 hr2 hK2 hP hD hS => ?_)
  · show ({ cls := c, slots := Array.replicate K _, vm := .none } : Cell) = _
    rw [arrV_new]; rfl
  have hcA : cA = g.2.1 4 := by
    have e1 := (hK2.2 5 (cA, .array .int) rfl).2
    have e2 := (hK2.2 4 (g.2.1 4, .array .int) rfl).2
    exact Option.some.inj (e1.symm.trans e2)
  subst hcA
  have eu : ∀ a, vr_up (fun _ => (Sum.inl (g.2.1 0, (K, .inl (fun _ => 0))) : va_E)) ((List.range N).map r) (Sum.inl (g.2.1 0, (K, .inl (fun _ => 0))) : va_E) a = (Sum.inl (g.2.1 0, (K, .inl (fun _ => 0))) : va_E) := fun a => by
    unfold vr_up; split <;> rfl
  rw [List.nil_append, funext eu, q_wsM s3] at hP hD
  have ag : q_ag h.2 ad (q_upM ad h.2 N q r) := fun i hi => by
    unfold q_upM
    rw [if_neg (by omega), if_neg (by omega)]
  have en : q_upM ad h.2 N q r h.2 = q := if_pos rfl
  have st7 : ∀ v ∈ st, q_wv h.2 v := q_tl (q_tl s7)
  have hle : h.2 ≤ h.2 + 1 + N := by omega
  have hwh : q_wh (q_pushM h N K) := by
    intro j hj
    have hj : j < h.2 + 1 + N := hj
    show q_wc (h.2 + 1 + N) (if j = h.2 then _ else if h.2 < j ∧ j ≤ h.2 + N then _ else h.1 j)
    by_cases e1 : j = h.2
    · rw [if_pos e1]
      intro k i hk
      replace hk : (if k < N then some (h.2 + 1 + k) else none) = some i := hk
      by_cases hk8 : k < N
      · rw [if_pos hk8] at hk
        cases hk
        omega
      · rw [if_neg hk8] at hk
        cases hk
    · rw [if_neg e1]
      by_cases e2 : h.2 < j ∧ j ≤ h.2 + N
      · rw [if_pos e2]; trivial
      · rw [if_neg e2]
        exact q_wc_mono (s3 j (by omega)) (by omega)
  have h9 := k p e s m args below meth c H1 locs (cells + (1 + N)) (slots + (N + N * K)) ls g ad0 (q_upM ad h.2 N q r) C0
    ⟨hP, hD, hwh, hS, ⟨s5.1, s5.2.1, fun i w hi => by rw [q_tv_ag ag (s6 w (List.mem_of_getElem? hi))]; exact s5.2.2 i w hi⟩, fun w hw => q_wv_mono (s6 w hw) hle, q_cn (q_wr (show h.2 < h.2 + 1 + N by omega)) (fun w hw => q_wv_mono (st7 w hw) hle), q_ag_tr s8 ag s9, Nat.le_trans s9 hle⟩ (by omega) (by omega)
  rw [List.map_cons, q_tvs_ag ag st7, show q_tv g (q_upM ad h.2 N q r) (.ref h.2) = .ref q from congrArg Value.ref en] at h9
  rw [show cells + 1 + N = cells + (1 + N) by omega, show slots + N + N * K = slots + (N + N * K) by omega]
  exact h9
theorem j_staticN {Z : qM} {n idx d' mc' ms' kc' ks' : Nat} {host : String} {avs rest : List Value} {QZ : Option Value → qH → Prop} {QXZ : String → qH → Prop} (hd : decode Y.2.1 pc = .ok (.invokestatic idx, 3)) (hZ : q_mt Z n) (hl : Cond.methodLinkNest Y.1.cls idx Z.1 host ∈ q_N) (hst : Cond.static Z.1 ∈ q_W) (hn : avs.length = n) (he : st = avs.reverse ++ rest) (hr : (rest.map fun v => v.category).sum ≤ 8) (hdd : d' + 1 ≤ d) (hk1 : mc' + kc' ≤ kc) (hk2 : ms' + ks' ≤ ks)
    (hC : q_Ct l d' Z avs h mc' ms' QZ QXZ) (hx : ∀ E h', ¬ QXZ E h') (k : ∀ (v : Option Value) (h' : qH), QZ v h' → h.2 ≤ h'.2 → q_J l d Y mc ms Q QX n0 (pc + 3) lo (v.toList ++ rest) h' kc' ks') : q_J l d Y mc ms Q QX n0 pc lo st h kc ks := by
  intro p e s m args below meth c H locs cells slots ls g ad0 ad C0 S h1 h2
  obtain ⟨s1, s2, s3, s4, s5, s6, s7, s8, s9⟩ := S
  obtain ⟨c1, c2, c3, c4, c5, c6, c7, c8, c9, c10, c11, c12⟩ := id C0
  obtain ⟨w1, w2⟩ := q_wv_app he s7
  obtain ⟨z1, z2, z3, z4, z5⟩ := id hZ
  have hB : va_CN (q_R d mc ms) s args Y.1.cls idx Z.1 host Z.2.1 Z.2.2.1 Z.2.2.2 (Cond.code Z.1 Z.2.1 Z.2.2.1 Z.2.2.2 :: q_W) (q_R d' mc' ms') mc' ms' n :=
    ⟨⟨rfl, rfl, hdd, (show 8 + (Z.2.2.1 + 11) + 42 * d' ≤ 42 * d by omega), q_pay c8 z1, List.mem_cons_self⟩, c8 _ z1, c8 _ z2, z3, fun sig hs => by rw [hs] at z4; exact (Option.some.inj z4).symm, va_Nw.use rfl (c11.2.2.2.2.1 _ hl)⟩
  have hM := q_met (hC g ad s3 w1) (fun E u t ⟨h', ad', hX, _⟩ => hx E h' hX)
  rw [he, q_map_rev]
  refine q_afterI C0 s4 s5 s6 w2 s8 s9 (va_runSN (As := avs.map (q_tv g ad)) (nL := Y.2.2.1) (rest := rest.map (q_tv g ad)) ⟨c1, c2, c4, c5, c8⟩ hM ⟨hB, c8 _ hst, trivial⟩ ⟨q_blind g ad avs h, fun U hU hW => ⟨rfl, by rw [hU]; exact s1, s2, va_K.moved hW.alike c10, by rw [hU]; exact (c11.kp (fun q a b => s4.2.1 q a b)).mv hW, by rw [hU]; exact Nat.le_trans c12 s4.1⟩⟩ rfl (by rw [List.length_map]; exact hn) s5.1 rfl ?_ hd ⟨?_, ?_⟩) (by omega) (by omega) k
  · rw [q_cats]
    show 2 * 0 + _ ≤ 8
    omega
  · show cells + mc' ≤ mc
    omega
  · show slots + ms' ≤ ms
    omega
end QR8
end
section
/-! conditions for the new rows -/
def q_pl (v : Value) : Bool := match v with
  | .int _ => true
  | .null => true
  | _ => false
theorem q_pl_wf {fs : List Value} (h : fs.all q_pl = true) : ∀ n, ∀ v ∈ fs, q_wv n v := fun n v hv => by
  have := List.all_eq_true.mp h v hv
  cases v <;> first | exact q_wi _ _ | exact q_wn _ | (simp [q_pl] at this)
theorem q_nRo (g : qG) (ad : Nat → Nat) (C : String) (r : Nat) : narrow (.object C) (q_tv g ad (.ref r)) = q_tv g ad (.ref r) ∧ fits (.object C) (q_tv g ad (.ref r)) = true := ⟨rfl, rfl⟩
theorem q_nRa (g : qG) (ad : Nat → Nat) (t : FieldType) (r : Nat) : narrow (.array t) (q_tv g ad (.ref r)) = q_tv g ad (.ref r) ∧ fits (.array t) (q_tv g ad (.ref r)) = true := ⟨rfl, rfl⟩
def qNW (h : qH) (ci : Nat) (fs : List Value) (P : Nat → qH → Prop) : Prop := P h.2 (q_push h (.inr (ci, fs)))
def qPR (h : qH) (i ci k r : Nat) (P : qH → Prop) : Prop := ∃ fs : List Value, h.1 i = .inr (ci, fs) ∧ k < fs.length ∧ P (q_set h i (.inr (ci, fs.set k (.ref r))))
def qAN (c P : Prop) : Prop := c ∧ P
def qCD (l : Launch) (d : Nat) (Z : qM) (avs : List Value) (h : qH) (mc ms : Nat) (P : UInt64 → qH → Prop) : Prop := q_Ct l d Z avs h mc ms (fun v h1 => ∃ z : UInt64, v = some (.double z) ∧ P z h1) (fun _ _ => False)
def qCR (l : Launch) (d : Nat) (Z : qM) (avs : List Value) (h : qH) (mc ms : Nat) (P : Nat → qH → Prop) : Prop := q_Ct l d Z avs h mc ms (fun v h1 => ∃ z : Nat, v = some (.ref z) ∧ P z h1) (fun _ _ => False)
def qO4n (h : qH) (i : Nat) (z : Int32) (A : Nat → Prop) (B : Prop) : Prop := ∃ (N : Nat) (f : Nat → Option Nat), h.1 i = .inl (4, (N, .inr (.inr (.inr (.inr f))))) ∧ vp_in z N ∧ (∀ j, f z.toNatClampNeg = some j → A j) ∧ (f z.toNatClampNeg = none → B)
def qA4 (h : qH) (i : Nat) (z : Int32) (j : Nat) (P : qH → Prop) : Prop := ∃ (N : Nat) (f : Nat → Option Nat) (M : Nat) (F : Nat → Int32), h.1 i = .inl (4, (N, .inr (.inr (.inr (.inr f))))) ∧ h.1 j = .inl (0, (M, .inl F)) ∧ vp_in z N ∧ P (q_set h i (.inl (4, (N, .inr (.inr (.inr (.inr (va_up f z.toNatClampNeg (some j)))))))))
def qNA (h : qH) (z : Int32) (cap : Nat) (P : Nat → qH → Prop) : Prop := ¬ z < 0 ∧ z.toNatClampNeg ≤ cap ∧ P h.2 (q_push h (.inl (4, (z.toNatClampNeg, .inr (.inr (.inr (.inr (fun _ => none))))))))
def qMN (h : qH) (y : Int32) (K cap : Nat) (P : Nat → qH → Prop) : Prop := ¬ y < 0 ∧ y.toNatClampNeg ≤ cap ∧ P h.2 (q_pushM h y.toNatClampNeg K)
end
section
abbrev mX0_init : qM := (yX0_init, cX0_init, 5, none)
abbrev mX0_lightAt : qM := (yX0_lightAt, cX0_lightAt, 1, (some .int))
abbrev mX0_airBy : qM := (yX0_airBy, cX0_airBy, 1, (some .int))
abbrev mX0_powerBy : qM := (yX0_powerBy, cX0_powerBy, 2, (some .int))
abbrev mX0_performAll : qM := (yX0_performAll, cX0_performAll, 5, (some .int))
abbrev mX0_perform : qM := (yX0_perform, cX0_perform, 6, (some .int))
abbrev mX0_passMinutes : qM := (yX0_passMinutes, cX0_passMinutes, 9, (some .int))
abbrev mX0_drive : qM := (yX0_drive, cX0_drive, 7, (some .int))
abbrev mX0_step : qM := (yX0_step, cX0_step, 5, (some .int))
abbrev mX0_takeImage : qM := (yX0_takeImage, cX0_takeImage, 7, (some .int))
abbrev mX0_takeTouch : qM := (yX0_takeTouch, cX0_takeTouch, 5, (some .int))
abbrev mX0_useTool : qM := (yX0_useTool, cX0_useTool, 5, (some .int))
abbrev mX0_transmit : qM := (yX0_transmit, cX0_transmit, 5, (some .int))
abbrev mX0_rest : qM := (yX0_rest, cX0_rest, 5, (some .int))
abbrev mX0_clean : qM := (yX0_clean, cX0_clean, 3, (some .int))
abbrev mX1_init : qM := (yX1_init, cX1_init, 1, none)
abbrev mX1_isPlace : qM := (yX1_isPlace, cX1_isPlace, 2, (some .boolean))
abbrev mX1_isRectangle : qM := (yX1_isRectangle, cX1_isRectangle, 4, (some .boolean))
abbrev mX1_placeOf : qM := (yX1_placeOf, cX1_placeOf, 2, (some .int))
abbrev mX1_neighbourOf : qM := (yX1_neighbourOf, cX1_neighbourOf, 4, (some .int))
abbrev mX1_distance : qM := (yX1_distance, cX1_distance, 4, (some .int))
abbrev mX1_octantOf : qM := (yX1_octantOf, cX1_octantOf, 7, (some .int))
abbrev mX1_heightAt : qM := (yX1_heightAt, cX1_heightAt, 3, (some .int))
abbrev mX1_roughAt : qM := (yX1_roughAt, cX1_roughAt, 3, (some .int))
abbrev mX1_isHazardAt : qM := (yX1_isHazardAt, cX1_isHazardAt, 3, (some .boolean))
abbrev mX1_canLift : qM := (yX1_canLift, cX1_canLift, 9, (some .boolean))
abbrev mX1_lift : qM := (yX1_lift, cX1_lift, 9, (some .int))
abbrev mX1_cover : qM := (yX1_cover, cX1_cover, 9, none)
abbrev mX1_limitSlope : qM := (yX1_limitSlope, cX1_limitSlope, 2, none)
abbrev mX1_measureSteps : qM := (yX1_measureSteps, cX1_measureSteps, 3, none)
abbrev mX1_measureStep : qM := (yX1_measureStep, cX1_measureStep, 8, (some .int))
abbrev mX1_minutesOf : qM := (yX1_minutesOf, cX1_minutesOf, 3, (some .int))
abbrev mX1_energyOf : qM := (yX1_energyOf, cX1_energyOf, 6, (some .int))
abbrev mX1_isSeen : qM := (yX1_isSeen, cX1_isSeen, 11, (some .boolean))
abbrev mX2_init : qM := (yX2_init, cX2_init, 5, none)
abbrev mX2_extend : qM := (yX2_extend, cX2_extend, 10, (some .int))
abbrev mX2_choose : qM := (yX2_choose, cX2_choose, 8, (some .int))
abbrev mX2_visit : qM := (yX2_visit, cX2_visit, 9, (some .boolean))
abbrev mX2_nearestPlace : qM := (yX2_nearestPlace, cX2_nearestPlace, 11, (some .int))
abbrev mX2_isNearer : qM := (yX2_isNearer, cX2_isNearer, 4, (some .boolean))
abbrev mX2_serves : qM := (yX2_serves, cX2_serves, 8, (some .boolean))
abbrev mX4_init : qM := (yX4_init, cX4_init, 1, none)
abbrev mX4_isFull : qM := (yX4_isFull, cX4_isFull, 1, (some .boolean))
abbrev mX4_append : qM := (yX4_append, cX4_append, 4, (some .int))
abbrev mX4_rateAt : qM := (yX4_rateAt, cX4_rateAt, 4, (some .int))
abbrev mX5_init : qM := (yX5_init, cX5_init, 1, none)
abbrev mX5_has : qM := (yX5_has, cX5_has, 2, (some .boolean))
abbrev mX5_hasRoom : qM := (yX5_hasRoom, cX5_hasRoom, 2, (some .boolean))
abbrev mX5_insert : qM := (yX5_insert, cX5_insert, 6, none)
abbrev mX5_takeOut : qM := (yX5_takeOut, cX5_takeOut, 3, none)
abbrev mX5_tell : qM := (yX5_tell, cX5_tell, 3, (some .int))
abbrev mX6_init : qM := (yX6_init, cX6_init, 1, none)
abbrev mX6_copyFrom : qM := (yX6_copyFrom, cX6_copyFrom, 3, none)
abbrev mX6_limitBattery : qM := (yX6_limitBattery, cX6_limitBattery, 2, none)
abbrev mX6_hasPiece : qM := (yX6_hasPiece, cX6_hasPiece, 2, (some .boolean))
abbrev mX6_unitsKept : qM := (yX6_unitsKept, cX6_unitsKept, 3, (some .int))
abbrev mX6_tell : qM := (yX6_tell, cX6_tell, 2, (some .int))
abbrev mX6_tellPiece : qM := (yX6_tellPiece, cX6_tellPiece, 3, (some .int))
abbrev mX6_signsSent : qM := (yX6_signsSent, cX6_signsSent, 2, (some .int))
abbrev mX6_signsOfAll : qM := (yX6_signsOfAll, cX6_signsOfAll, 4, (some .int))
abbrev mX6_isFull : qM := (yX6_isFull, cX6_isFull, 1, (some .boolean))
abbrev mX6_keep : qM := (yX6_keep, cX6_keep, 5, none)
abbrev mX6_sendUnits : qM := (yX6_sendUnits, cX6_sendUnits, 6, none)
abbrev mX6_mostUrgent : qM := (yX6_mostUrgent, cX6_mostUrgent, 3, (some .int))
abbrev mX6_finishPiece : qM := (yX6_finishPiece, cX6_finishPiece, 4, none)
abbrev mX7_init : qM := (yX7_init, cX7_init, 1, none)
abbrev mX7_isFull : qM := (yX7_isFull, cX7_isFull, 1, (some .boolean))
abbrev mX7_has : qM := (yX7_has, cX7_has, 2, (some .boolean))
abbrev mX7_append : qM := (yX7_append, cX7_append, 5, (some .int))
abbrev mX7_xOf : qM := (yX7_xOf, cX7_xOf, 2, (some .int))
abbrev mX7_yOf : qM := (yX7_yOf, cX7_yOf, 2, (some .int))
abbrev mX7_valueOf : qM := (yX7_valueOf, cX7_valueOf, 2, (some .int))
abbrev mX7_needOf : qM := (yX7_needOf, cX7_needOf, 2, (some .int))
abbrev mX7_isMet : qM := (yX7_isMet, cX7_isMet, 4, (some .boolean))
abbrev mX7_tell : qM := (yX7_tell, cX7_tell, 5, (some .int))
abbrev mX7_octantsOf : qM := (yX7_octantsOf, cX7_octantsOf, 1, (some .int))
abbrev mX7_hasTouch : qM := (yX7_hasTouch, cX7_hasTouch, 1, (some .boolean))
abbrev mX8_init : qM := (yX8_init, cX8_init, 2, none)
abbrev mX8_measureTo : qM := (yX8_measureTo, cX8_measureTo, 6, none)
abbrev mX8_measureFrom : qM := (yX8_measureFrom, cX8_measureFrom, 6, none)
abbrev mX8_begin : qM := (yX8_begin, cX8_begin, 3, none)
abbrev mX8_takeCheapest : qM := (yX8_takeCheapest, cX8_takeCheapest, 5, (some .int))
abbrev mX8_reach : qM := (yX8_reach, cX8_reach, 5, none)
abbrev mX8_costOf : qM := (yX8_costOf, cX8_costOf, 2, (some .int))
abbrev mX8_directionFrom : qM := (yX8_directionFrom, cX8_directionFrom, 5, (some .int))
abbrev mX8_sumFrom : qM := (yX8_sumFrom, cX8_sumFrom, 7, (some .int))
abbrev mX9_init : qM := (yX9_init, cX9_init, 1, none)
abbrev mX9_raise : qM := (yX9_raise, cX9_raise, 6, (some .int))
abbrev mX9_pave : qM := (yX9_pave, cX9_pave, 7, (some .int))
abbrev mX9_setSlope : qM := (yX9_setSlope, cX9_setSlope, 3, (some .int))
abbrev mX9_way : qM := (yX9_way, cX9_way, 7, (some .int))
abbrev mX9_addTarget : qM := (yX9_addTarget, cX9_addTarget, 5, (some .int))
abbrev mX9_target : qM := (yX9_target, cX9_target, 3, (some .int))
abbrev mX9_addPass : qM := (yX9_addPass, cX9_addPass, 4, (some .int))
abbrev mX9_setRover : qM := (yX9_setRover, cX9_setRover, 4, (some .int))
abbrev mX9_rover : qM := (yX9_rover, cX9_rover, 2, (some .int))
abbrev mX9_piece : qM := (yX9_piece, cX9_piece, 3, (some .int))
abbrev mX9_activity : qM := (yX9_activity, cX9_activity, 3, (some .int))
abbrev mX9_count : qM := (yX9_count, cX9_count, 2, (some .int))
abbrev mX9_check : qM := (yX9_check, cX9_check, 2, (some .int))
abbrev mX9_foretell : qM := (yX9_foretell, cX9_foretell, 3, (some .int))
abbrev mX9_run : qM := (yX9_run, cX9_run, 4, (some .int))
abbrev mX9_make : qM := (yX9_make, cX9_make, 2, (some .int))
abbrev mX9_nearest : qM := (yX9_nearest, cX9_nearest, 3, (some .int))
abbrev mX9_sent : qM := (yX9_sent, cX9_sent, 1, (some .double))
abbrev mX9_numberOf : qM := (yX9_numberOf, cX9_numberOf, 2, (some .int))
abbrev mX9_doOnCopy : qM := (yX9_doOnCopy, cX9_doOnCopy, 2, (some .int))
abbrev mX10_init : qM := (yX10_init, cX10_init, 1, none)
abbrev mX10_light : qM := (yX10_light, cX10_light, 2, (some .int))
abbrev mX10_minute : qM := (yX10_minute, cX10_minute, 6, (some .int))
abbrev mX10_minutes : qM := (yX10_minutes, cX10_minutes, 5, (some .int))
abbrev mX10_units : qM := (yX10_units, cX10_units, 6, (some .int))
abbrev mX10_images : qM := (yX10_images, cX10_images, 7, (some .int))
abbrev mX10_octant : qM := (yX10_octant, cX10_octant, 6, (some .int))
abbrev mX10_picture : qM := (yX10_picture, cX10_picture, 9, (some .int))
abbrev mX10_unit : qM := (yX10_unit, cX10_unit, 4, none)
abbrev mX10_send : qM := (yX10_send, cX10_send, 6, (some .int))
abbrev mX10_drive : qM := (yX10_drive, cX10_drive, 7, (some .int))
abbrev mX10_rest : qM := (yX10_rest, cX10_rest, 4, (some .int))
abbrev mX10_act : qM := (yX10_act, cX10_act, 5, (some .int))
abbrev mX10_told : qM := (yX10_told, cX10_told, 2, (some .int))
abbrev mX10_isSame : qM := (yX10_isSame, cX10_isSame, 5, (some .boolean))
abbrev mJ6_compare_7cf53 : qM := (yJ6_compare_7cf53, cJ6_compare_7cf53, 2, (some .int))
abbrev mJ6_bitCount_0f7a4 : qM := (yJ6_bitCount_0f7a4, cJ6_bitCount_0f7a4, 1, (some .int))
abbrev mJ9_floorDiv_7cf53 : qM := (yJ9_floorDiv_7cf53, cJ9_floorDiv_7cf53, 3, (some .int))
abbrev mJ9_floorMod_7cf53 : qM := (yJ9_floorMod_7cf53, cJ9_floorMod_7cf53, 3, (some .int))
abbrev mJ9_abs_0f7a4 : qM := (yJ9_abs_0f7a4, cJ9_abs_0f7a4, 1, (some .int))
abbrev mJ9_max_7cf53 : qM := (yJ9_max_7cf53, cJ9_max_7cf53, 2, (some .int))
abbrev mJ9_min_7cf53 : qM := (yJ9_min_7cf53, cJ9_min_7cf53, 2, (some .int))
abbrev mL_below : qM := (yL_below, cL_below, 2, (some .int))
abbrev mL_cell : qM := (yL_cell, cL_cell, 2, (some .int))
abbrev mL_ground : qM := (yL_ground, cL_ground, 14, (some (.array .int)))
abbrev mL_step : qM := (yL_step, cL_step, 7, (some .int))
abbrev mL_costs : qM := (yL_costs, cL_costs, 9, (some (.array .int)))
abbrev mL_next : qM := (yL_next, cL_next, 6, (some .int))
abbrev mL_energy : qM := (yL_energy, cL_energy, 4, (some .int))
abbrev mL_sees : qM := (yL_sees, cL_sees, 10, (some .boolean))
abbrev mL_build : qM := (yL_build, cL_build, 11, (some (.object "RoverPlannerLaw$Sim")))
abbrev mL_worth : qM := (yL_worth, cL_worth, 4, (some .int))
theorem mt_X0_init : q_mt mX0_init 4 := ⟨q_in (List.mem_of_getElem? (i := 175) (by decide +kernel)) (by decide +kernel), q_in (List.mem_of_getElem? (i := 30) (by decide +kernel)) (by decide +kernel), by decide +kernel, by decide +kernel, by decide⟩
theorem mt_X0_lightAt : q_mt mX0_lightAt 1 := ⟨q_in (List.mem_of_getElem? (i := 529) (by decide +kernel)) (by decide +kernel), q_in (List.mem_of_getElem? (i := 30) (by decide +kernel)) (by decide +kernel), by decide +kernel, by decide +kernel, by decide⟩
theorem mt_X0_airBy : q_mt mX0_airBy 1 := ⟨q_in (List.mem_of_getElem? (i := 538) (by decide +kernel)) (by decide +kernel), q_in (List.mem_of_getElem? (i := 30) (by decide +kernel)) (by decide +kernel), by decide +kernel, by decide +kernel, by decide⟩
theorem mt_X0_powerBy : q_mt mX0_powerBy 2 := ⟨q_in (List.mem_of_getElem? (i := 532) (by decide +kernel)) (by decide +kernel), q_in (List.mem_of_getElem? (i := 30) (by decide +kernel)) (by decide +kernel), by decide +kernel, by decide +kernel, by decide⟩
theorem mt_X0_performAll : q_mt mX0_performAll 3 := ⟨q_in (List.mem_of_getElem? (i := 472) (by decide +kernel)) (by decide +kernel), q_in (List.mem_of_getElem? (i := 30) (by decide +kernel)) (by decide +kernel), by decide +kernel, by decide +kernel, by decide⟩
theorem mt_X0_perform : q_mt mX0_perform 4 := ⟨q_in (List.mem_of_getElem? (i := 478) (by decide +kernel)) (by decide +kernel), q_in (List.mem_of_getElem? (i := 30) (by decide +kernel)) (by decide +kernel), by decide +kernel, by decide +kernel, by decide⟩
theorem mt_X0_passMinutes : q_mt mX0_passMinutes 4 := ⟨q_in (List.mem_of_getElem? (i := 526) (by decide +kernel)) (by decide +kernel), q_in (List.mem_of_getElem? (i := 30) (by decide +kernel)) (by decide +kernel), by decide +kernel, by decide +kernel, by decide⟩
theorem mt_X0_drive : q_mt mX0_drive 3 := ⟨q_in (List.mem_of_getElem? (i := 483) (by decide +kernel)) (by decide +kernel), q_in (List.mem_of_getElem? (i := 30) (by decide +kernel)) (by decide +kernel), by decide +kernel, by decide +kernel, by decide⟩
theorem mt_X0_step : q_mt mX0_step 2 := ⟨q_in (List.mem_of_getElem? (i := 521) (by decide +kernel)) (by decide +kernel), q_in (List.mem_of_getElem? (i := 30) (by decide +kernel)) (by decide +kernel), by decide +kernel, by decide +kernel, by decide⟩
theorem mt_X0_takeImage : q_mt mX0_takeImage 3 := ⟨q_in (List.mem_of_getElem? (i := 550) (by decide +kernel)) (by decide +kernel), q_in (List.mem_of_getElem? (i := 30) (by decide +kernel)) (by decide +kernel), by decide +kernel, by decide +kernel, by decide⟩
theorem mt_X0_takeTouch : q_mt mX0_takeTouch 3 := ⟨q_in (List.mem_of_getElem? (i := 597) (by decide +kernel)) (by decide +kernel), q_in (List.mem_of_getElem? (i := 30) (by decide +kernel)) (by decide +kernel), by decide +kernel, by decide +kernel, by decide⟩
theorem mt_X0_useTool : q_mt mX0_useTool 4 := ⟨q_in (List.mem_of_getElem? (i := 577) (by decide +kernel)) (by decide +kernel), q_in (List.mem_of_getElem? (i := 30) (by decide +kernel)) (by decide +kernel), by decide +kernel, by decide +kernel, by decide⟩
theorem mt_X0_transmit : q_mt mX0_transmit 2 := ⟨q_in (List.mem_of_getElem? (i := 601) (by decide +kernel)) (by decide +kernel), q_in (List.mem_of_getElem? (i := 30) (by decide +kernel)) (by decide +kernel), by decide +kernel, by decide +kernel, by decide⟩
theorem mt_X0_rest : q_mt mX0_rest 3 := ⟨q_in (List.mem_of_getElem? (i := 627) (by decide +kernel)) (by decide +kernel), q_in (List.mem_of_getElem? (i := 30) (by decide +kernel)) (by decide +kernel), by decide +kernel, by decide +kernel, by decide⟩
theorem mt_X0_clean : q_mt mX0_clean 1 := ⟨q_in (List.mem_of_getElem? (i := 634) (by decide +kernel)) (by decide +kernel), q_in (List.mem_of_getElem? (i := 30) (by decide +kernel)) (by decide +kernel), by decide +kernel, by decide +kernel, by decide⟩
theorem mt_X1_init : q_mt mX1_init 0 := ⟨q_in (List.mem_of_getElem? (i := 54) (by decide +kernel)) (by decide +kernel), q_in (List.mem_of_getElem? (i := 25) (by decide +kernel)) (by decide +kernel), by decide +kernel, by decide +kernel, by decide⟩
theorem mt_X1_isPlace : q_mt mX1_isPlace 2 := ⟨q_in (List.mem_of_getElem? (i := 70) (by decide +kernel)) (by decide +kernel), q_in (List.mem_of_getElem? (i := 25) (by decide +kernel)) (by decide +kernel), by decide +kernel, by decide +kernel, by decide⟩
theorem mt_X1_isRectangle : q_mt mX1_isRectangle 4 := ⟨q_in (List.mem_of_getElem? (i := 948) (by decide +kernel)) (by decide +kernel), q_in (List.mem_of_getElem? (i := 25) (by decide +kernel)) (by decide +kernel), by decide +kernel, by decide +kernel, by decide⟩
theorem mt_X1_placeOf : q_mt mX1_placeOf 2 := ⟨q_in (List.mem_of_getElem? (i := 486) (by decide +kernel)) (by decide +kernel), q_in (List.mem_of_getElem? (i := 25) (by decide +kernel)) (by decide +kernel), by decide +kernel, by decide +kernel, by decide⟩
theorem mt_X1_neighbourOf : q_mt mX1_neighbourOf 2 := ⟨q_in (List.mem_of_getElem? (i := 505) (by decide +kernel)) (by decide +kernel), q_in (List.mem_of_getElem? (i := 25) (by decide +kernel)) (by decide +kernel), by decide +kernel, by decide +kernel, by decide⟩
theorem mt_X1_distance : q_mt mX1_distance 4 := ⟨q_in (List.mem_of_getElem? (i := 565) (by decide +kernel)) (by decide +kernel), q_in (List.mem_of_getElem? (i := 25) (by decide +kernel)) (by decide +kernel), by decide +kernel, by decide +kernel, by decide⟩
theorem mt_X1_octantOf : q_mt mX1_octantOf 4 := ⟨q_in (List.mem_of_getElem? (i := 585) (by decide +kernel)) (by decide +kernel), q_in (List.mem_of_getElem? (i := 25) (by decide +kernel)) (by decide +kernel), by decide +kernel, by decide +kernel, by decide⟩
theorem mt_X1_heightAt : q_mt mX1_heightAt 2 := ⟨q_in (List.mem_of_getElem? (i := 78) (by decide +kernel)) (by decide +kernel), q_in (List.mem_of_getElem? (i := 25) (by decide +kernel)) (by decide +kernel), by decide +kernel, by decide +kernel, by decide⟩
theorem mt_X1_roughAt : q_mt mX1_roughAt 2 := ⟨q_in (List.mem_of_getElem? (i := 85) (by decide +kernel)) (by decide +kernel), q_in (List.mem_of_getElem? (i := 25) (by decide +kernel)) (by decide +kernel), by decide +kernel, by decide +kernel, by decide⟩
theorem mt_X1_isHazardAt : q_mt mX1_isHazardAt 2 := ⟨q_in (List.mem_of_getElem? (i := 74) (by decide +kernel)) (by decide +kernel), q_in (List.mem_of_getElem? (i := 25) (by decide +kernel)) (by decide +kernel), by decide +kernel, by decide +kernel, by decide⟩
theorem mt_X1_canLift : q_mt mX1_canLift 5 := ⟨q_in (List.mem_of_getElem? (i := 952) (by decide +kernel)) (by decide +kernel), q_in (List.mem_of_getElem? (i := 25) (by decide +kernel)) (by decide +kernel), by decide +kernel, by decide +kernel, by decide⟩
theorem mt_X1_lift : q_mt mX1_lift 5 := ⟨q_in (List.mem_of_getElem? (i := 957) (by decide +kernel)) (by decide +kernel), q_in (List.mem_of_getElem? (i := 25) (by decide +kernel)) (by decide +kernel), by decide +kernel, by decide +kernel, by decide⟩
theorem mt_X1_cover : q_mt mX1_cover 6 := ⟨q_in (List.mem_of_getElem? (i := 966) (by decide +kernel)) (by decide +kernel), q_in (List.mem_of_getElem? (i := 25) (by decide +kernel)) (by decide +kernel), by decide +kernel, by decide +kernel, by decide⟩
theorem mt_X1_limitSlope : q_mt mX1_limitSlope 1 := ⟨q_in (List.mem_of_getElem? (i := 975) (by decide +kernel)) (by decide +kernel), q_in (List.mem_of_getElem? (i := 25) (by decide +kernel)) (by decide +kernel), by decide +kernel, by decide +kernel, by decide⟩
theorem mt_X1_measureSteps : q_mt mX1_measureSteps 0 := ⟨q_in (List.mem_of_getElem? (i := 59) (by decide +kernel)) (by decide +kernel), q_in (List.mem_of_getElem? (i := 25) (by decide +kernel)) (by decide +kernel), by decide +kernel, by decide +kernel, by decide⟩
theorem mt_X1_measureStep : q_mt mX1_measureStep 3 := ⟨q_in (List.mem_of_getElem? (i := 63) (by decide +kernel)) (by decide +kernel), q_in (List.mem_of_getElem? (i := 25) (by decide +kernel)) (by decide +kernel), by decide +kernel, by decide +kernel, by decide⟩
theorem mt_X1_minutesOf : q_mt mX1_minutesOf 2 := ⟨q_in (List.mem_of_getElem? (i := 509) (by decide +kernel)) (by decide +kernel), q_in (List.mem_of_getElem? (i := 25) (by decide +kernel)) (by decide +kernel), by decide +kernel, by decide +kernel, by decide⟩
theorem mt_X1_energyOf : q_mt mX1_energyOf 2 := ⟨q_in (List.mem_of_getElem? (i := 543) (by decide +kernel)) (by decide +kernel), q_in (List.mem_of_getElem? (i := 25) (by decide +kernel)) (by decide +kernel), by decide +kernel, by decide +kernel, by decide⟩
theorem mt_X1_isSeen : q_mt mX1_isSeen 4 := ⟨q_in (List.mem_of_getElem? (i := 569) (by decide +kernel)) (by decide +kernel), q_in (List.mem_of_getElem? (i := 25) (by decide +kernel)) (by decide +kernel), by decide +kernel, by decide +kernel, by decide⟩
theorem mt_X2_init : q_mt mX2_init 4 := ⟨q_in (List.mem_of_getElem? (i := 275) (by decide +kernel)) (by decide +kernel), q_in (List.mem_of_getElem? (i := 32) (by decide +kernel)) (by decide +kernel), by decide +kernel, by decide +kernel, by decide⟩
theorem mt_X2_extend : q_mt mX2_extend 3 := ⟨q_in (List.mem_of_getElem? (i := 687) (by decide +kernel)) (by decide +kernel), q_in (List.mem_of_getElem? (i := 32) (by decide +kernel)) (by decide +kernel), by decide +kernel, by decide +kernel, by decide⟩
theorem mt_X2_choose : q_mt mX2_choose 2 := ⟨q_in (List.mem_of_getElem? (i := 700) (by decide +kernel)) (by decide +kernel), q_in (List.mem_of_getElem? (i := 32) (by decide +kernel)) (by decide +kernel), by decide +kernel, by decide +kernel, by decide⟩
theorem mt_X2_visit : q_mt mX2_visit 5 := ⟨q_in (List.mem_of_getElem? (i := 756) (by decide +kernel)) (by decide +kernel), q_in (List.mem_of_getElem? (i := 32) (by decide +kernel)) (by decide +kernel), by decide +kernel, by decide +kernel, by decide⟩
theorem mt_X2_nearestPlace : q_mt mX2_nearestPlace 2 := ⟨q_in (List.mem_of_getElem? (i := 704) (by decide +kernel)) (by decide +kernel), q_in (List.mem_of_getElem? (i := 32) (by decide +kernel)) (by decide +kernel), by decide +kernel, by decide +kernel, by decide⟩
theorem mt_X2_isNearer : q_mt mX2_isNearer 2 := ⟨q_in (List.mem_of_getElem? (i := 740) (by decide +kernel)) (by decide +kernel), q_in (List.mem_of_getElem? (i := 32) (by decide +kernel)) (by decide +kernel), by decide +kernel, by decide +kernel, by decide⟩
theorem mt_X2_serves : q_mt mX2_serves 4 := ⟨q_in (List.mem_of_getElem? (i := 745) (by decide +kernel)) (by decide +kernel), q_in (List.mem_of_getElem? (i := 32) (by decide +kernel)) (by decide +kernel), by decide +kernel, by decide +kernel, by decide⟩
theorem mt_X4_init : q_mt mX4_init 0 := ⟨q_in (List.mem_of_getElem? (i := 155) (by decide +kernel)) (by decide +kernel), q_in (List.mem_of_getElem? (i := 29) (by decide +kernel)) (by decide +kernel), by decide +kernel, by decide +kernel, by decide⟩
theorem mt_X4_isFull : q_mt mX4_isFull 0 := ⟨q_in (List.mem_of_getElem? (i := 1001) (by decide +kernel)) (by decide +kernel), q_in (List.mem_of_getElem? (i := 29) (by decide +kernel)) (by decide +kernel), by decide +kernel, by decide +kernel, by decide⟩
theorem mt_X4_append : q_mt mX4_append 3 := ⟨q_in (List.mem_of_getElem? (i := 1006) (by decide +kernel)) (by decide +kernel), q_in (List.mem_of_getElem? (i := 29) (by decide +kernel)) (by decide +kernel), by decide +kernel, by decide +kernel, by decide⟩
theorem mt_X4_rateAt : q_mt mX4_rateAt 1 := ⟨q_in (List.mem_of_getElem? (i := 605) (by decide +kernel)) (by decide +kernel), q_in (List.mem_of_getElem? (i := 29) (by decide +kernel)) (by decide +kernel), by decide +kernel, by decide +kernel, by decide⟩
theorem mt_X5_init : q_mt mX5_init 0 := ⟨q_in (List.mem_of_getElem? (i := 301) (by decide +kernel)) (by decide +kernel), q_in (List.mem_of_getElem? (i := 33) (by decide +kernel)) (by decide +kernel), by decide +kernel, by decide +kernel, by decide⟩
theorem mt_X5_has : q_mt mX5_has 1 := ⟨q_in (List.mem_of_getElem? (i := 442) (by decide +kernel)) (by decide +kernel), q_in (List.mem_of_getElem? (i := 33) (by decide +kernel)) (by decide +kernel), by decide +kernel, by decide +kernel, by decide⟩
theorem mt_X5_hasRoom : q_mt mX5_hasRoom 1 := ⟨q_in (List.mem_of_getElem? (i := 691) (by decide +kernel)) (by decide +kernel), q_in (List.mem_of_getElem? (i := 33) (by decide +kernel)) (by decide +kernel), by decide +kernel, by decide +kernel, by decide⟩
theorem mt_X5_insert : q_mt mX5_insert 4 := ⟨q_in (List.mem_of_getElem? (i := 762) (by decide +kernel)) (by decide +kernel), q_in (List.mem_of_getElem? (i := 33) (by decide +kernel)) (by decide +kernel), by decide +kernel, by decide +kernel, by decide⟩
theorem mt_X5_takeOut : q_mt mX5_takeOut 1 := ⟨q_in (List.mem_of_getElem? (i := 678) (by decide +kernel)) (by decide +kernel), q_in (List.mem_of_getElem? (i := 33) (by decide +kernel)) (by decide +kernel), by decide +kernel, by decide +kernel, by decide⟩
theorem mt_X5_tell : q_mt mX5_tell 2 := ⟨q_in (List.mem_of_getElem? (i := 447) (by decide +kernel)) (by decide +kernel), q_in (List.mem_of_getElem? (i := 33) (by decide +kernel)) (by decide +kernel), by decide +kernel, by decide +kernel, by decide⟩
theorem mt_X6_init : q_mt mX6_init 0 := ⟨q_in (List.mem_of_getElem? (i := 181) (by decide +kernel)) (by decide +kernel), q_in (List.mem_of_getElem? (i := 31) (by decide +kernel)) (by decide +kernel), by decide +kernel, by decide +kernel, by decide⟩
theorem mt_X6_copyFrom : q_mt mX6_copyFrom 1 := ⟨q_in (List.mem_of_getElem? (i := 468) (by decide +kernel)) (by decide +kernel), q_in (List.mem_of_getElem? (i := 31) (by decide +kernel)) (by decide +kernel), by decide +kernel, by decide +kernel, by decide⟩
theorem mt_X6_limitBattery : q_mt mX6_limitBattery 1 := ⟨q_in (List.mem_of_getElem? (i := 1018) (by decide +kernel)) (by decide +kernel), q_in (List.mem_of_getElem? (i := 31) (by decide +kernel)) (by decide +kernel), by decide +kernel, by decide +kernel, by decide⟩
theorem mt_X6_hasPiece : q_mt mX6_hasPiece 1 := ⟨q_in (List.mem_of_getElem? (i := 614) (by decide +kernel)) (by decide +kernel), q_in (List.mem_of_getElem? (i := 31) (by decide +kernel)) (by decide +kernel), by decide +kernel, by decide +kernel, by decide⟩
theorem mt_X6_unitsKept : q_mt mX6_unitsKept 0 := ⟨q_in (List.mem_of_getElem? (i := 434) (by decide +kernel)) (by decide +kernel), q_in (List.mem_of_getElem? (i := 31) (by decide +kernel)) (by decide +kernel), by decide +kernel, by decide +kernel, by decide⟩
theorem mt_X6_tell : q_mt mX6_tell 1 := ⟨q_in (List.mem_of_getElem? (i := 430) (by decide +kernel)) (by decide +kernel), q_in (List.mem_of_getElem? (i := 31) (by decide +kernel)) (by decide +kernel), by decide +kernel, by decide +kernel, by decide⟩
theorem mt_X6_tellPiece : q_mt mX6_tellPiece 2 := ⟨q_in (List.mem_of_getElem? (i := 868) (by decide +kernel)) (by decide +kernel), q_in (List.mem_of_getElem? (i := 31) (by decide +kernel)) (by decide +kernel), by decide +kernel, by decide +kernel, by decide⟩
theorem mt_X6_signsSent : q_mt mX6_signsSent 1 := ⟨q_in (List.mem_of_getElem? (i := 712) (by decide +kernel)) (by decide +kernel), q_in (List.mem_of_getElem? (i := 31) (by decide +kernel)) (by decide +kernel), by decide +kernel, by decide +kernel, by decide⟩
theorem mt_X6_signsOfAll : q_mt mX6_signsOfAll 1 := ⟨q_in (List.mem_of_getElem? (i := 708) (by decide +kernel)) (by decide +kernel), q_in (List.mem_of_getElem? (i := 31) (by decide +kernel)) (by decide +kernel), by decide +kernel, by decide +kernel, by decide⟩
theorem mt_X6_isFull : q_mt mX6_isFull 0 := ⟨q_in (List.mem_of_getElem? (i := 581) (by decide +kernel)) (by decide +kernel), q_in (List.mem_of_getElem? (i := 31) (by decide +kernel)) (by decide +kernel), by decide +kernel, by decide +kernel, by decide⟩
theorem mt_X6_keep : q_mt mX6_keep 4 := ⟨q_in (List.mem_of_getElem? (i := 592) (by decide +kernel)) (by decide +kernel), q_in (List.mem_of_getElem? (i := 31) (by decide +kernel)) (by decide +kernel), by decide +kernel, by decide +kernel, by decide⟩
theorem mt_X6_sendUnits : q_mt mX6_sendUnits 1 := ⟨q_in (List.mem_of_getElem? (i := 610) (by decide +kernel)) (by decide +kernel), q_in (List.mem_of_getElem? (i := 31) (by decide +kernel)) (by decide +kernel), by decide +kernel, by decide +kernel, by decide⟩
theorem mt_X6_mostUrgent : q_mt mX6_mostUrgent 0 := ⟨q_in (List.mem_of_getElem? (i := 618) (by decide +kernel)) (by decide +kernel), q_in (List.mem_of_getElem? (i := 31) (by decide +kernel)) (by decide +kernel), by decide +kernel, by decide +kernel, by decide⟩
theorem mt_X6_finishPiece : q_mt mX6_finishPiece 1 := ⟨q_in (List.mem_of_getElem? (i := 623) (by decide +kernel)) (by decide +kernel), q_in (List.mem_of_getElem? (i := 31) (by decide +kernel)) (by decide +kernel), by decide +kernel, by decide +kernel, by decide⟩
theorem mt_X7_init : q_mt mX7_init 0 := ⟨q_in (List.mem_of_getElem? (i := 131) (by decide +kernel)) (by decide +kernel), q_in (List.mem_of_getElem? (i := 28) (by decide +kernel)) (by decide +kernel), by decide +kernel, by decide +kernel, by decide⟩
theorem mt_X7_isFull : q_mt mX7_isFull 0 := ⟨q_in (List.mem_of_getElem? (i := 986) (by decide +kernel)) (by decide +kernel), q_in (List.mem_of_getElem? (i := 28) (by decide +kernel)) (by decide +kernel), by decide +kernel, by decide +kernel, by decide⟩
theorem mt_X7_has : q_mt mX7_has 1 := ⟨q_in (List.mem_of_getElem? (i := 558) (by decide +kernel)) (by decide +kernel), q_in (List.mem_of_getElem? (i := 28) (by decide +kernel)) (by decide +kernel), by decide +kernel, by decide +kernel, by decide⟩
theorem mt_X7_append : q_mt mX7_append 4 := ⟨q_in (List.mem_of_getElem? (i := 991) (by decide +kernel)) (by decide +kernel), q_in (List.mem_of_getElem? (i := 28) (by decide +kernel)) (by decide +kernel), by decide +kernel, by decide +kernel, by decide⟩
theorem mt_X7_xOf : q_mt mX7_xOf 1 := ⟨q_in (List.mem_of_getElem? (i := 554) (by decide +kernel)) (by decide +kernel), q_in (List.mem_of_getElem? (i := 28) (by decide +kernel)) (by decide +kernel), by decide +kernel, by decide +kernel, by decide⟩
theorem mt_X7_yOf : q_mt mX7_yOf 1 := ⟨q_in (List.mem_of_getElem? (i := 562) (by decide +kernel)) (by decide +kernel), q_in (List.mem_of_getElem? (i := 28) (by decide +kernel)) (by decide +kernel), by decide +kernel, by decide +kernel, by decide⟩
theorem mt_X7_valueOf : q_mt mX7_valueOf 1 := ⟨q_in (List.mem_of_getElem? (i := 751) (by decide +kernel)) (by decide +kernel), q_in (List.mem_of_getElem? (i := 28) (by decide +kernel)) (by decide +kernel), by decide +kernel, by decide +kernel, by decide⟩
theorem mt_X7_needOf : q_mt mX7_needOf 1 := ⟨q_in (List.mem_of_getElem? (i := 721) (by decide +kernel)) (by decide +kernel), q_in (List.mem_of_getElem? (i := 28) (by decide +kernel)) (by decide +kernel), by decide +kernel, by decide +kernel, by decide⟩
theorem mt_X7_isMet : q_mt mX7_isMet 2 := ⟨q_in (List.mem_of_getElem? (i := 717) (by decide +kernel)) (by decide +kernel), q_in (List.mem_of_getElem? (i := 28) (by decide +kernel)) (by decide +kernel), by decide +kernel, by decide +kernel, by decide⟩
theorem mt_X7_tell : q_mt mX7_tell 3 := ⟨q_in (List.mem_of_getElem? (i := 878) (by decide +kernel)) (by decide +kernel), q_in (List.mem_of_getElem? (i := 28) (by decide +kernel)) (by decide +kernel), by decide +kernel, by decide +kernel, by decide⟩
theorem mt_X7_octantsOf : q_mt mX7_octantsOf 1 := ⟨q_in (List.mem_of_getElem? (i := 727) (by decide +kernel)) (by decide +kernel), q_in (List.mem_of_getElem? (i := 28) (by decide +kernel)) (by decide +kernel), by decide +kernel, by decide +kernel, by decide⟩
theorem mt_X7_hasTouch : q_mt mX7_hasTouch 1 := ⟨q_in (List.mem_of_getElem? (i := 724) (by decide +kernel)) (by decide +kernel), q_in (List.mem_of_getElem? (i := 28) (by decide +kernel)) (by decide +kernel), by decide +kernel, by decide +kernel, by decide⟩
theorem mt_X8_init : q_mt mX8_init 1 := ⟨q_in (List.mem_of_getElem? (i := 112) (by decide +kernel)) (by decide +kernel), q_in (List.mem_of_getElem? (i := 27) (by decide +kernel)) (by decide +kernel), by decide +kernel, by decide +kernel, by decide⟩
theorem mt_X8_measureTo : q_mt mX8_measureTo 1 := ⟨q_in (List.mem_of_getElem? (i := 490) (by decide +kernel)) (by decide +kernel), q_in (List.mem_of_getElem? (i := 27) (by decide +kernel)) (by decide +kernel), by decide +kernel, by decide +kernel, by decide⟩
theorem mt_X8_measureFrom : q_mt mX8_measureFrom 1 := ⟨q_in (List.mem_of_getElem? (i := 696) (by decide +kernel)) (by decide +kernel), q_in (List.mem_of_getElem? (i := 27) (by decide +kernel)) (by decide +kernel), by decide +kernel, by decide +kernel, by decide⟩
theorem mt_X8_begin : q_mt mX8_begin 1 := ⟨q_in (List.mem_of_getElem? (i := 494) (by decide +kernel)) (by decide +kernel), q_in (List.mem_of_getElem? (i := 27) (by decide +kernel)) (by decide +kernel), by decide +kernel, by decide +kernel, by decide⟩
theorem mt_X8_takeCheapest : q_mt mX8_takeCheapest 0 := ⟨q_in (List.mem_of_getElem? (i := 498) (by decide +kernel)) (by decide +kernel), q_in (List.mem_of_getElem? (i := 27) (by decide +kernel)) (by decide +kernel), by decide +kernel, by decide +kernel, by decide⟩
theorem mt_X8_reach : q_mt mX8_reach 3 := ⟨q_in (List.mem_of_getElem? (i := 513) (by decide +kernel)) (by decide +kernel), q_in (List.mem_of_getElem? (i := 27) (by decide +kernel)) (by decide +kernel), by decide +kernel, by decide +kernel, by decide⟩
theorem mt_X8_costOf : q_mt mX8_costOf 1 := ⟨q_in (List.mem_of_getElem? (i := 502) (by decide +kernel)) (by decide +kernel), q_in (List.mem_of_getElem? (i := 27) (by decide +kernel)) (by decide +kernel), by decide +kernel, by decide +kernel, by decide⟩
theorem mt_X8_directionFrom : q_mt mX8_directionFrom 1 := ⟨q_in (List.mem_of_getElem? (i := 517) (by decide +kernel)) (by decide +kernel), q_in (List.mem_of_getElem? (i := 27) (by decide +kernel)) (by decide +kernel), by decide +kernel, by decide +kernel, by decide⟩
theorem mt_X8_sumFrom : q_mt mX8_sumFrom 2 := ⟨q_in (List.mem_of_getElem? (i := 1033) (by decide +kernel)) (by decide +kernel), q_in (List.mem_of_getElem? (i := 27) (by decide +kernel)) (by decide +kernel), by decide +kernel, by decide +kernel, by decide⟩
theorem mt_X9_init : q_mt mX9_init 0 := ⟨q_in (List.mem_of_getElem? (i := 46) (by decide +kernel)) (by decide +kernel), q_in (List.mem_of_getElem? (i := 24) (by decide +kernel)) (by decide +kernel), by decide +kernel, by decide +kernel, by decide⟩
theorem mt_X9_raise : q_mt mX9_raise 5 := ⟨q_in (List.mem_of_getElem? (i := 945) (by decide +kernel)) (by decide +kernel), q_in (List.mem_of_getElem? (i := 24) (by decide +kernel)) (by decide +kernel), by decide +kernel, by decide +kernel, by decide⟩
theorem mt_X9_pave : q_mt mX9_pave 6 := ⟨q_in (List.mem_of_getElem? (i := 961) (by decide +kernel)) (by decide +kernel), q_in (List.mem_of_getElem? (i := 24) (by decide +kernel)) (by decide +kernel), by decide +kernel, by decide +kernel, by decide⟩
theorem mt_X9_setSlope : q_mt mX9_setSlope 1 := ⟨q_in (List.mem_of_getElem? (i := 970) (by decide +kernel)) (by decide +kernel), q_in (List.mem_of_getElem? (i := 24) (by decide +kernel)) (by decide +kernel), by decide +kernel, by decide +kernel, by decide⟩
theorem mt_X9_way : q_mt mX9_way 5 := ⟨q_in (List.mem_of_getElem? (i := 1025) (by decide +kernel)) (by decide +kernel), q_in (List.mem_of_getElem? (i := 24) (by decide +kernel)) (by decide +kernel), by decide +kernel, by decide +kernel, by decide⟩
theorem mt_X9_addTarget : q_mt mX9_addTarget 4 := ⟨q_in (List.mem_of_getElem? (i := 979) (by decide +kernel)) (by decide +kernel), q_in (List.mem_of_getElem? (i := 24) (by decide +kernel)) (by decide +kernel), by decide +kernel, by decide +kernel, by decide⟩
theorem mt_X9_target : q_mt mX9_target 2 := ⟨q_in (List.mem_of_getElem? (i := 873) (by decide +kernel)) (by decide +kernel), q_in (List.mem_of_getElem? (i := 24) (by decide +kernel)) (by decide +kernel), by decide +kernel, by decide +kernel, by decide⟩
theorem mt_X9_addPass : q_mt mX9_addPass 3 := ⟨q_in (List.mem_of_getElem? (i := 996) (by decide +kernel)) (by decide +kernel), q_in (List.mem_of_getElem? (i := 24) (by decide +kernel)) (by decide +kernel), by decide +kernel, by decide +kernel, by decide⟩
theorem mt_X9_setRover : q_mt mX9_setRover 2 := ⟨q_in (List.mem_of_getElem? (i := 1011) (by decide +kernel)) (by decide +kernel), q_in (List.mem_of_getElem? (i := 24) (by decide +kernel)) (by decide +kernel), by decide +kernel, by decide +kernel, by decide⟩
theorem mt_X9_rover : q_mt mX9_rover 1 := ⟨q_in (List.mem_of_getElem? (i := 358) (by decide +kernel)) (by decide +kernel), q_in (List.mem_of_getElem? (i := 24) (by decide +kernel)) (by decide +kernel), by decide +kernel, by decide +kernel, by decide⟩
theorem mt_X9_piece : q_mt mX9_piece 2 := ⟨q_in (List.mem_of_getElem? (i := 862) (by decide +kernel)) (by decide +kernel), q_in (List.mem_of_getElem? (i := 24) (by decide +kernel)) (by decide +kernel), by decide +kernel, by decide +kernel, by decide⟩
theorem mt_X9_activity : q_mt mX9_activity 2 := ⟨q_in (List.mem_of_getElem? (i := 438) (by decide +kernel)) (by decide +kernel), q_in (List.mem_of_getElem? (i := 24) (by decide +kernel)) (by decide +kernel), by decide +kernel, by decide +kernel, by decide⟩
theorem mt_X9_count : q_mt mX9_count 1 := ⟨q_in (List.mem_of_getElem? (i := 452) (by decide +kernel)) (by decide +kernel), q_in (List.mem_of_getElem? (i := 24) (by decide +kernel)) (by decide +kernel), by decide +kernel, by decide +kernel, by decide⟩
theorem mt_X9_check : q_mt mX9_check 0 := ⟨q_in (List.mem_of_getElem? (i := 460) (by decide +kernel)) (by decide +kernel), q_in (List.mem_of_getElem? (i := 24) (by decide +kernel)) (by decide +kernel), by decide +kernel, by decide +kernel, by decide⟩
theorem mt_X9_foretell : q_mt mX9_foretell 2 := ⟨q_in (List.mem_of_getElem? (i := 638) (by decide +kernel)) (by decide +kernel), q_in (List.mem_of_getElem? (i := 24) (by decide +kernel)) (by decide +kernel), by decide +kernel, by decide +kernel, by decide⟩
theorem mt_X9_run : q_mt mX9_run 1 := ⟨q_in (List.mem_of_getElem? (i := 674) (by decide +kernel)) (by decide +kernel), q_in (List.mem_of_getElem? (i := 24) (by decide +kernel)) (by decide +kernel), by decide +kernel, by decide +kernel, by decide⟩
theorem mt_X9_make : q_mt mX9_make 1 := ⟨q_in (List.mem_of_getElem? (i := 682) (by decide +kernel)) (by decide +kernel), q_in (List.mem_of_getElem? (i := 24) (by decide +kernel)) (by decide +kernel), by decide +kernel, by decide +kernel, by decide⟩
theorem mt_X9_nearest : q_mt mX9_nearest 1 := ⟨q_in (List.mem_of_getElem? (i := 767) (by decide +kernel)) (by decide +kernel), q_in (List.mem_of_getElem? (i := 24) (by decide +kernel)) (by decide +kernel), by decide +kernel, by decide +kernel, by decide⟩
theorem mt_X9_sent : q_mt mX9_sent 0 := ⟨q_in (List.mem_of_getElem? (i := 887) (by decide +kernel)) (by decide +kernel), q_in (List.mem_of_getElem? (i := 24) (by decide +kernel)) (by decide +kernel), by decide +kernel, by decide +kernel, by decide⟩
theorem mt_X9_numberOf : q_mt mX9_numberOf 1 := ⟨q_in (List.mem_of_getElem? (i := 456) (by decide +kernel)) (by decide +kernel), q_in (List.mem_of_getElem? (i := 24) (by decide +kernel)) (by decide +kernel), by decide +kernel, by decide +kernel, by decide⟩
theorem mt_X9_doOnCopy : q_mt mX9_doOnCopy 1 := ⟨q_in (List.mem_of_getElem? (i := 464) (by decide +kernel)) (by decide +kernel), q_in (List.mem_of_getElem? (i := 24) (by decide +kernel)) (by decide +kernel), by decide +kernel, by decide +kernel, by decide⟩
theorem mt_X10_init : q_mt mX10_init 0 := ⟨q_in (List.mem_of_getElem? (i := 903) (by decide +kernel)) (by decide +kernel), q_in (List.mem_of_getElem? (i := 34) (by decide +kernel)) (by decide +kernel), by decide +kernel, by decide +kernel, by decide⟩
theorem mt_X10_light : q_mt mX10_light 0 := ⟨q_in (List.mem_of_getElem? (i := 810) (by decide +kernel)) (by decide +kernel), q_in (List.mem_of_getElem? (i := 34) (by decide +kernel)) (by decide +kernel), by decide +kernel, by decide +kernel, by decide⟩
theorem mt_X10_minute : q_mt mX10_minute 2 := ⟨q_in (List.mem_of_getElem? (i := 806) (by decide +kernel)) (by decide +kernel), q_in (List.mem_of_getElem? (i := 34) (by decide +kernel)) (by decide +kernel), by decide +kernel, by decide +kernel, by decide⟩
theorem mt_X10_minutes : q_mt mX10_minutes 2 := ⟨q_in (List.mem_of_getElem? (i := 802) (by decide +kernel)) (by decide +kernel), q_in (List.mem_of_getElem? (i := 34) (by decide +kernel)) (by decide +kernel), by decide +kernel, by decide +kernel, by decide⟩
theorem mt_X10_units : q_mt mX10_units 0 := ⟨q_in (List.mem_of_getElem? (i := 830) (by decide +kernel)) (by decide +kernel), q_in (List.mem_of_getElem? (i := 34) (by decide +kernel)) (by decide +kernel), by decide +kernel, by decide +kernel, by decide⟩
theorem mt_X10_images : q_mt mX10_images 1 := ⟨q_in (List.mem_of_getElem? (i := 776) (by decide +kernel)) (by decide +kernel), q_in (List.mem_of_getElem? (i := 34) (by decide +kernel)) (by decide +kernel), by decide +kernel, by decide +kernel, by decide⟩
theorem mt_X10_octant : q_mt mX10_octant 1 := ⟨q_in (List.mem_of_getElem? (i := 836) (by decide +kernel)) (by decide +kernel), q_in (List.mem_of_getElem? (i := 34) (by decide +kernel)) (by decide +kernel), by decide +kernel, by decide +kernel, by decide⟩
theorem mt_X10_picture : q_mt mX10_picture 3 := ⟨q_in (List.mem_of_getElem? (i := 820) (by decide +kernel)) (by decide +kernel), q_in (List.mem_of_getElem? (i := 34) (by decide +kernel)) (by decide +kernel), by decide +kernel, by decide +kernel, by decide⟩
theorem mt_X10_unit : q_mt mX10_unit 0 := ⟨q_in (List.mem_of_getElem? (i := 845) (by decide +kernel)) (by decide +kernel), q_in (List.mem_of_getElem? (i := 34) (by decide +kernel)) (by decide +kernel), by decide +kernel, by decide +kernel, by decide⟩
theorem mt_X10_send : q_mt mX10_send 1 := ⟨q_in (List.mem_of_getElem? (i := 841) (by decide +kernel)) (by decide +kernel), q_in (List.mem_of_getElem? (i := 34) (by decide +kernel)) (by decide +kernel), by decide +kernel, by decide +kernel, by decide⟩
theorem mt_X10_drive : q_mt mX10_drive 2 := ⟨q_in (List.mem_of_getElem? (i := 784) (by decide +kernel)) (by decide +kernel), q_in (List.mem_of_getElem? (i := 34) (by decide +kernel)) (by decide +kernel), by decide +kernel, by decide +kernel, by decide⟩
theorem mt_X10_rest : q_mt mX10_rest 2 := ⟨q_in (List.mem_of_getElem? (i := 849) (by decide +kernel)) (by decide +kernel), q_in (List.mem_of_getElem? (i := 34) (by decide +kernel)) (by decide +kernel), by decide +kernel, by decide +kernel, by decide⟩
theorem mt_X10_act : q_mt mX10_act 3 := ⟨q_in (List.mem_of_getElem? (i := 780) (by decide +kernel)) (by decide +kernel), q_in (List.mem_of_getElem? (i := 34) (by decide +kernel)) (by decide +kernel), by decide +kernel, by decide +kernel, by decide⟩
theorem mt_X10_told : q_mt mX10_told 1 := ⟨q_in (List.mem_of_getElem? (i := 858) (by decide +kernel)) (by decide +kernel), q_in (List.mem_of_getElem? (i := 34) (by decide +kernel)) (by decide +kernel), by decide +kernel, by decide +kernel, by decide⟩
theorem mt_X10_isSame : q_mt mX10_isSame 1 := ⟨q_in (List.mem_of_getElem? (i := 853) (by decide +kernel)) (by decide +kernel), q_in (List.mem_of_getElem? (i := 34) (by decide +kernel)) (by decide +kernel), by decide +kernel, by decide +kernel, by decide⟩
theorem mt_J6_compare_7cf53 : q_mt mJ6_compare_7cf53 2 := ⟨q_in (List.mem_of_getElem? (i := 588) (by decide +kernel)) (by decide +kernel), q_in (List.mem_of_getElem? (i := 41) (by decide +kernel)) (by decide +kernel), by decide +kernel, by decide +kernel, by decide⟩
theorem mt_J6_bitCount_0f7a4 : q_mt mJ6_bitCount_0f7a4 1 := ⟨q_in (List.mem_of_getElem? (i := 730) (by decide +kernel)) (by decide +kernel), q_in (List.mem_of_getElem? (i := 41) (by decide +kernel)) (by decide +kernel), by decide +kernel, by decide +kernel, by decide⟩
theorem mt_J9_floorDiv_7cf53 : q_mt mJ9_floorDiv_7cf53 2 := ⟨q_in (List.mem_of_getElem? (i := 573) (by decide +kernel)) (by decide +kernel), q_in (List.mem_of_getElem? (i := 26) (by decide +kernel)) (by decide +kernel), by decide +kernel, by decide +kernel, by decide⟩
theorem mt_J9_floorMod_7cf53 : q_mt mJ9_floorMod_7cf53 2 := ⟨q_in (List.mem_of_getElem? (i := 630) (by decide +kernel)) (by decide +kernel), q_in (List.mem_of_getElem? (i := 26) (by decide +kernel)) (by decide +kernel), by decide +kernel, by decide +kernel, by decide⟩
theorem mt_J9_abs_0f7a4 : q_mt mJ9_abs_0f7a4 1 := ⟨q_in (List.mem_of_getElem? (i := 81) (by decide +kernel)) (by decide +kernel), q_in (List.mem_of_getElem? (i := 26) (by decide +kernel)) (by decide +kernel), by decide +kernel, by decide +kernel, by decide⟩
theorem mt_J9_max_7cf53 : q_mt mJ9_max_7cf53 2 := ⟨q_in (List.mem_of_getElem? (i := 88) (by decide +kernel)) (by decide +kernel), q_in (List.mem_of_getElem? (i := 26) (by decide +kernel)) (by decide +kernel), by decide +kernel, by decide +kernel, by decide⟩
theorem mt_J9_min_7cf53 : q_mt mJ9_min_7cf53 2 := ⟨q_in (List.mem_of_getElem? (i := 535) (by decide +kernel)) (by decide +kernel), q_in (List.mem_of_getElem? (i := 26) (by decide +kernel)) (by decide +kernel), by decide +kernel, by decide +kernel, by decide⟩
theorem mt_L_below : q_mt mL_below 2 := ⟨q_in (List.mem_of_getElem? (i := 890) (by decide +kernel)) (by decide +kernel), q_in (List.mem_of_getElem? (i := 23) (by decide +kernel)) (by decide +kernel), by decide +kernel, by decide +kernel, by decide⟩
theorem mt_L_cell : q_mt mL_cell 2 := ⟨q_in (List.mem_of_getElem? (i := 894) (by decide +kernel)) (by decide +kernel), q_in (List.mem_of_getElem? (i := 23) (by decide +kernel)) (by decide +kernel), by decide +kernel, by decide +kernel, by decide⟩
theorem mt_L_ground : q_mt mL_ground 3 := ⟨q_in (List.mem_of_getElem? (i := 940) (by decide +kernel)) (by decide +kernel), q_in (List.mem_of_getElem? (i := 23) (by decide +kernel)) (by decide +kernel), by decide +kernel, by decide +kernel, by decide⟩
theorem mt_L_step : q_mt mL_step 4 := ⟨q_in (List.mem_of_getElem? (i := 790) (by decide +kernel)) (by decide +kernel), q_in (List.mem_of_getElem? (i := 23) (by decide +kernel)) (by decide +kernel), by decide +kernel, by decide +kernel, by decide⟩
theorem mt_L_costs : q_mt mL_costs 3 := ⟨q_in (List.mem_of_getElem? (i := 787) (by decide +kernel)) (by decide +kernel), q_in (List.mem_of_getElem? (i := 23) (by decide +kernel)) (by decide +kernel), by decide +kernel, by decide +kernel, by decide⟩
theorem mt_L_next : q_mt mL_next 4 := ⟨q_in (List.mem_of_getElem? (i := 797) (by decide +kernel)) (by decide +kernel), q_in (List.mem_of_getElem? (i := 23) (by decide +kernel)) (by decide +kernel), by decide +kernel, by decide +kernel, by decide⟩
theorem mt_L_energy : q_mt mL_energy 4 := ⟨q_in (List.mem_of_getElem? (i := 813) (by decide +kernel)) (by decide +kernel), q_in (List.mem_of_getElem? (i := 23) (by decide +kernel)) (by decide +kernel), by decide +kernel, by decide +kernel, by decide⟩
theorem mt_L_sees : q_mt mL_sees 5 := ⟨q_in (List.mem_of_getElem? (i := 825) (by decide +kernel)) (by decide +kernel), q_in (List.mem_of_getElem? (i := 23) (by decide +kernel)) (by decide +kernel), by decide +kernel, by decide +kernel, by decide⟩
theorem mt_L_build : q_mt mL_build 2 := ⟨q_in (List.mem_of_getElem? (i := 898) (by decide +kernel)) (by decide +kernel), q_in (List.mem_of_getElem? (i := 23) (by decide +kernel)) (by decide +kernel), by decide +kernel, by decide +kernel, by decide⟩
theorem mt_L_worth : q_mt mL_worth 3 := ⟨q_in (List.mem_of_getElem? (i := 1021) (by decide +kernel)) (by decide +kernel), q_in (List.mem_of_getElem? (i := 23) (by decide +kernel)) (by decide +kernel), by decide +kernel, by decide +kernel, by decide⟩
theorem cl_X0 : q_cl 0 RX0 TX0 8 := ⟨rfl, fun w hw => q_in (inX0 w hw) (List.all_eq_true.mp (show (u_ws RX0 TX0 8).all goodWord = true by decide +kernel) w hw)⟩
theorem pf_X0_0 : q_pf TX0 8 0 tyX0 true := ⟨by decide, tyX0_ok, nmX0, rfl⟩
theorem pf_X0_1 : q_pf TX0 8 1 tyX0 true := ⟨by decide, tyX0_ok, nmX0, rfl⟩
theorem pf_X0_2 : q_pf TX0 8 2 tyX0 true := ⟨by decide, tyX0_ok, nmX0, rfl⟩
theorem pf_X0_3 : q_pf TX0 8 3 tyX0 true := ⟨by decide, tyX0_ok, nmX0, rfl⟩
theorem pf_X0_4 : q_pf TX0 8 4 tyX0 true := ⟨by decide, tyX0_ok, nmX0, rfl⟩
theorem pf_X0_5 : q_pf TX0 8 5 tyX0 false := ⟨by decide, tyX0_ok, nmX0, rfl⟩
theorem pf_X0_6 : q_pf TX0 8 6 tyX0 false := ⟨by decide, tyX0_ok, nmX0, rfl⟩
theorem pf_X0_7 : q_pf TX0 8 7 tyX0 false := ⟨by decide, tyX0_ok, nmX0, rfl⟩
theorem cl_X1 : q_cl 1 RX1 TX1 5 := ⟨rfl, fun w hw => q_in (inX1 w hw) (List.all_eq_true.mp (show (u_ws RX1 TX1 5).all goodWord = true by decide +kernel) w hw)⟩
theorem pf_X1_0 : q_pf TX1 5 0 tyX1 true := ⟨by decide, tyX1_ok, nmX1, rfl⟩
theorem pf_X1_1 : q_pf TX1 5 1 tyX1 true := ⟨by decide, tyX1_ok, nmX1, rfl⟩
theorem pf_X1_2 : q_pf TX1 5 2 tyX1 true := ⟨by decide, tyX1_ok, nmX1, rfl⟩
theorem pf_X1_3 : q_pf TX1 5 3 tyX1 true := ⟨by decide, tyX1_ok, nmX1, rfl⟩
theorem pf_X1_4 : q_pf TX1 5 4 tyX1 false := ⟨by decide, tyX1_ok, nmX1, rfl⟩
theorem cl_X2 : q_cl 2 RX2 TX2 5 := ⟨rfl, fun w hw => q_in (inX2 w hw) (List.all_eq_true.mp (show (u_ws RX2 TX2 5).all goodWord = true by decide +kernel) w hw)⟩
theorem pf_X2_0 : q_pf TX2 5 0 tyX2 true := ⟨by decide, tyX2_ok, nmX2, rfl⟩
theorem pf_X2_1 : q_pf TX2 5 1 tyX2 true := ⟨by decide, tyX2_ok, nmX2, rfl⟩
theorem pf_X2_2 : q_pf TX2 5 2 tyX2 true := ⟨by decide, tyX2_ok, nmX2, rfl⟩
theorem pf_X2_3 : q_pf TX2 5 3 tyX2 true := ⟨by decide, tyX2_ok, nmX2, rfl⟩
theorem pf_X2_4 : q_pf TX2 5 4 tyX2 true := ⟨by decide, tyX2_ok, nmX2, rfl⟩
theorem cl_X4 : q_cl 4 RX4 TX4 4 := ⟨rfl, fun w hw => q_in (inX4 w hw) (List.all_eq_true.mp (show (u_ws RX4 TX4 4).all goodWord = true by decide +kernel) w hw)⟩
theorem pf_X4_0 : q_pf TX4 4 0 tyX4 true := ⟨by decide, tyX4_ok, nmX4, rfl⟩
theorem pf_X4_1 : q_pf TX4 4 1 tyX4 true := ⟨by decide, tyX4_ok, nmX4, rfl⟩
theorem pf_X4_2 : q_pf TX4 4 2 tyX4 true := ⟨by decide, tyX4_ok, nmX4, rfl⟩
theorem pf_X4_3 : q_pf TX4 4 3 tyX4 false := ⟨by decide, tyX4_ok, nmX4, rfl⟩
theorem cl_X5 : q_cl 5 RX5 TX5 4 := ⟨rfl, fun w hw => q_in (inX5 w hw) (List.all_eq_true.mp (show (u_ws RX5 TX5 4).all goodWord = true by decide +kernel) w hw)⟩
theorem pf_X5_0 : q_pf TX5 4 0 tyX5 true := ⟨by decide, tyX5_ok, nmX5, rfl⟩
theorem pf_X5_1 : q_pf TX5 4 1 tyX5 true := ⟨by decide, tyX5_ok, nmX5, rfl⟩
theorem pf_X5_2 : q_pf TX5 4 2 tyX5 true := ⟨by decide, tyX5_ok, nmX5, rfl⟩
theorem pf_X5_3 : q_pf TX5 4 3 tyX5 false := ⟨by decide, tyX5_ok, nmX5, rfl⟩
theorem cl_X6 : q_cl 6 RX6 TX6 15 := ⟨rfl, fun w hw => q_in (inX6 w hw) (List.all_eq_true.mp (show (u_ws RX6 TX6 15).all goodWord = true by decide +kernel) w hw)⟩
theorem pf_X6_0 : q_pf TX6 15 0 tyX6 false := ⟨by decide, tyX6_ok, nmX6, rfl⟩
theorem pf_X6_1 : q_pf TX6 15 1 tyX6 false := ⟨by decide, tyX6_ok, nmX6, rfl⟩
theorem pf_X6_2 : q_pf TX6 15 2 tyX6 false := ⟨by decide, tyX6_ok, nmX6, rfl⟩
theorem pf_X6_3 : q_pf TX6 15 3 tyX6 false := ⟨by decide, tyX6_ok, nmX6, rfl⟩
theorem pf_X6_4 : q_pf TX6 15 4 tyX6 false := ⟨by decide, tyX6_ok, nmX6, rfl⟩
theorem pf_X6_5 : q_pf TX6 15 5 tyX6 false := ⟨by decide, tyX6_ok, nmX6, rfl⟩
theorem pf_X6_6 : q_pf TX6 15 6 tyX6 false := ⟨by decide, tyX6_ok, nmX6, rfl⟩
theorem pf_X6_7 : q_pf TX6 15 7 tyX6 false := ⟨by decide, tyX6_ok, nmX6, rfl⟩
theorem pf_X6_8 : q_pf TX6 15 8 tyX6 false := ⟨by decide, tyX6_ok, nmX6, rfl⟩
theorem pf_X6_9 : q_pf TX6 15 9 tyX6 false := ⟨by decide, tyX6_ok, nmX6, rfl⟩
theorem pf_X6_10 : q_pf TX6 15 10 tyX6 true := ⟨by decide, tyX6_ok, nmX6, rfl⟩
theorem pf_X6_11 : q_pf TX6 15 11 tyX6 true := ⟨by decide, tyX6_ok, nmX6, rfl⟩
theorem pf_X6_12 : q_pf TX6 15 12 tyX6 true := ⟨by decide, tyX6_ok, nmX6, rfl⟩
theorem pf_X6_13 : q_pf TX6 15 13 tyX6 true := ⟨by decide, tyX6_ok, nmX6, rfl⟩
theorem pf_X6_14 : q_pf TX6 15 14 tyX6 true := ⟨by decide, tyX6_ok, nmX6, rfl⟩
theorem cl_X7 : q_cl 7 RX7 TX7 5 := ⟨rfl, fun w hw => q_in (inX7 w hw) (List.all_eq_true.mp (show (u_ws RX7 TX7 5).all goodWord = true by decide +kernel) w hw)⟩
theorem pf_X7_0 : q_pf TX7 5 0 tyX7 true := ⟨by decide, tyX7_ok, nmX7, rfl⟩
theorem pf_X7_1 : q_pf TX7 5 1 tyX7 true := ⟨by decide, tyX7_ok, nmX7, rfl⟩
theorem pf_X7_2 : q_pf TX7 5 2 tyX7 true := ⟨by decide, tyX7_ok, nmX7, rfl⟩
theorem pf_X7_3 : q_pf TX7 5 3 tyX7 true := ⟨by decide, tyX7_ok, nmX7, rfl⟩
theorem pf_X7_4 : q_pf TX7 5 4 tyX7 false := ⟨by decide, tyX7_ok, nmX7, rfl⟩
theorem cl_X8 : q_cl 8 RX8 TX8 4 := ⟨rfl, fun w hw => q_in (inX8 w hw) (List.all_eq_true.mp (show (u_ws RX8 TX8 4).all goodWord = true by decide +kernel) w hw)⟩
theorem pf_X8_0 : q_pf TX8 4 0 tyX8 true := ⟨by decide, tyX8_ok, nmX8, rfl⟩
theorem pf_X8_1 : q_pf TX8 4 1 tyX8 true := ⟨by decide, tyX8_ok, nmX8, rfl⟩
theorem pf_X8_2 : q_pf TX8 4 2 tyX8 true := ⟨by decide, tyX8_ok, nmX8, rfl⟩
theorem pf_X8_3 : q_pf TX8 4 3 tyX8 false := ⟨by decide, tyX8_ok, nmX8, rfl⟩
theorem cl_X9 : q_cl 9 RX9 TX9 11 := ⟨rfl, fun w hw => q_in (inX9 w hw) (List.all_eq_true.mp (show (u_ws RX9 TX9 11).all goodWord = true by decide +kernel) w hw)⟩
theorem pf_X9_0 : q_pf TX9 11 0 tyX9 true := ⟨by decide, tyX9_ok, nmX9, rfl⟩
theorem pf_X9_1 : q_pf TX9 11 1 tyX9 true := ⟨by decide, tyX9_ok, nmX9, rfl⟩
theorem pf_X9_2 : q_pf TX9 11 2 tyX9 true := ⟨by decide, tyX9_ok, nmX9, rfl⟩
theorem pf_X9_3 : q_pf TX9 11 3 tyX9 true := ⟨by decide, tyX9_ok, nmX9, rfl⟩
theorem pf_X9_4 : q_pf TX9 11 4 tyX9 true := ⟨by decide, tyX9_ok, nmX9, rfl⟩
theorem pf_X9_5 : q_pf TX9 11 5 tyX9 true := ⟨by decide, tyX9_ok, nmX9, rfl⟩
theorem pf_X9_6 : q_pf TX9 11 6 tyX9 true := ⟨by decide, tyX9_ok, nmX9, rfl⟩
theorem pf_X9_7 : q_pf TX9 11 7 tyX9 true := ⟨by decide, tyX9_ok, nmX9, rfl⟩
theorem pf_X9_8 : q_pf TX9 11 8 tyX9 true := ⟨by decide, tyX9_ok, nmX9, rfl⟩
theorem pf_X9_9 : q_pf TX9 11 9 tyX9 true := ⟨by decide, tyX9_ok, nmX9, rfl⟩
theorem pf_X9_10 : q_pf TX9 11 10 tyX9 false := ⟨by decide, tyX9_ok, nmX9, rfl⟩
theorem cl_X10 : q_cl 10 RX10 TX10 9 := ⟨rfl, fun w hw => q_in (inX10 w hw) (List.all_eq_true.mp (show (u_ws RX10 TX10 9).all goodWord = true by decide +kernel) w hw)⟩
theorem pf_X10_0 : q_pf TX10 9 0 tyX10 false := ⟨by decide, tyX10_ok, nmX10, rfl⟩
theorem pf_X10_1 : q_pf TX10 9 1 tyX10 false := ⟨by decide, tyX10_ok, nmX10, rfl⟩
theorem pf_X10_2 : q_pf TX10 9 2 tyX10 false := ⟨by decide, tyX10_ok, nmX10, rfl⟩
theorem pf_X10_3 : q_pf TX10 9 3 tyX10 false := ⟨by decide, tyX10_ok, nmX10, rfl⟩
theorem pf_X10_4 : q_pf TX10 9 4 tyX10 false := ⟨by decide, tyX10_ok, nmX10, rfl⟩
theorem pf_X10_5 : q_pf TX10 9 5 tyX10 false := ⟨by decide, tyX10_ok, nmX10, rfl⟩
theorem pf_X10_6 : q_pf TX10 9 6 tyX10 false := ⟨by decide, tyX10_ok, nmX10, rfl⟩
theorem pf_X10_7 : q_pf TX10 9 7 tyX10 false := ⟨by decide, tyX10_ok, nmX10, rfl⟩
theorem pf_X10_8 : q_pf TX10 9 8 tyX10 false := ⟨by decide, tyX10_ok, nmX10, rfl⟩
theorem xw_IAE : q_xw "java/lang/IllegalArgumentException" 92 := q_xw_of (by decide +kernel) (by decide +kernel) (q_in (List.mem_of_getElem? (i := 38) (by decide +kernel)) (by decide +kernel)) (by decide +kernel)
theorem xw_IOE : q_xw "java/lang/IndexOutOfBoundsException" 113 := q_xw_of (by decide +kernel) (by decide +kernel) (q_in (List.mem_of_getElem? (i := 39) (by decide +kernel)) (by decide +kernel)) (by decide +kernel)
theorem xw_ISE : q_xw "java/lang/IllegalStateException" 166 := q_xw_of (by decide +kernel) (by decide +kernel) (q_in (List.mem_of_getElem? (i := 40) (by decide +kernel)) (by decide +kernel)) (by decide +kernel)
def dfX10 : List Value := [.null, .null, .null, .null, .int 0, .int 0, .null, .null, .null]
theorem nfX10 : ∀ (g : qG) (ad : Nat → Nat) (j : Nat), j < 9 → defaultValue (tyX10 j) = vp_V (dfX10.map (q_tv g ad)) j
  | _, _, 0, _ => rfl
  | _, _, 1, _ => rfl
  | _, _, 2, _ => rfl
  | _, _, 3, _ => rfl
  | _, _, 4, _ => rfl
  | _, _, 5, _ => rfl
  | _, _, 6, _ => rfl
  | _, _, 7, _ => rfl
  | _, _, 8, _ => rfl
  | _, _, j + 9, h => absurd h (by omega)
end
section
set_option maxRecDepth 20000 in
set_option maxHeartbeats 4000000 in
theorem v_J6_compare_7cf53 {l : Launch} {d mc ms : Nat} {Q : Option Value → qH → Prop} {QX : String → qH → Prop} (x0 : Int32) (x1 : Int32) {h : qH} (hv : qIF (x1 ≤ x0) (qIF (x0 = x1) (Q (some (.int (0 : Int32))) h) (Q (some (.int (1 : Int32))) h)) (Q (some (.int (-1 : Int32))) h)) : q_Ct l (d + 0) mJ6_compare_7cf53 [.int x0, .int x1] h mc ms Q QX := by
  refine q_bodyF (by decide +kernel) (by intro v hm; simp only [List.mem_cons, List.not_mem_nil, or_false] at hm; rcases hm with rfl | rfl <;> rfl) (Nat.le_of_ble_eq_true rfl) ?_
  refine j_pad 0 rfl ?_
  refine j_iload_n dJ6_compare_7cf53_0 rfl rfl ?_
  refine j_iload_n dJ6_compare_7cf53_1 rfl rfl ?_
  refine j_icmp_ge (tgt := 9) dJ6_compare_7cf53_2 (by decide) (fun hc => ?_) (fun hc => ?_)
  · replace hv := hv.1 hc
    refine j_iload_n dJ6_compare_7cf53_9 rfl rfl ?_
    refine j_iload_n dJ6_compare_7cf53_10 rfl rfl ?_
    refine j_icmp_ne (tgt := 18) dJ6_compare_7cf53_11 (by decide) (fun hc => ?_) (fun hc => ?_)
    · replace hv := hv.2 hc
      refine j_iconst (v := (1 : Int32)) dJ6_compare_7cf53_18 (by decide) ?_
      exact j_iret dJ6_compare_7cf53_19 rfl hv
    · replace hv := hv.1 hc
      refine j_iconst (v := (0 : Int32)) dJ6_compare_7cf53_14 (by decide) ?_
      refine j_goto (tgt := 19) dJ6_compare_7cf53_15 (by decide) ?_
      exact j_iret dJ6_compare_7cf53_19 rfl hv
  · replace hv := hv.2 hc
    refine j_iconst (v := (-1 : Int32)) dJ6_compare_7cf53_5 (by decide) ?_
    refine j_goto (tgt := 19) dJ6_compare_7cf53_6 (by decide) ?_
    exact j_iret dJ6_compare_7cf53_19 rfl hv
set_option maxRecDepth 20000 in
set_option maxHeartbeats 4000000 in
theorem v_J6_bitCount_0f7a4 {l : Launch} {d mc ms : Nat} {Q : Option Value → qH → Prop} {QX : String → qH → Prop} (x0 : Int32) {h : qH} (hv : Q (some (.int ((((((((x0 - ((x0.toUInt32 >>> ((1 : Int32).toUInt32 &&& Int32.toUInt32 31)).toInt32 &&& (1431655765 : Int32))) &&& (858993459 : Int32)) + (((x0 - ((x0.toUInt32 >>> ((1 : Int32).toUInt32 &&& Int32.toUInt32 31)).toInt32 &&& (1431655765 : Int32))).toUInt32 >>> ((2 : Int32).toUInt32 &&& Int32.toUInt32 31)).toInt32 &&& (858993459 : Int32))) + ((((x0 - ((x0.toUInt32 >>> ((1 : Int32).toUInt32 &&& Int32.toUInt32 31)).toInt32 &&& (1431655765 : Int32))) &&& (858993459 : Int32)) + (((x0 - ((x0.toUInt32 >>> ((1 : Int32).toUInt32 &&& Int32.toUInt32 31)).toInt32 &&& (1431655765 : Int32))).toUInt32 >>> ((2 : Int32).toUInt32 &&& Int32.toUInt32 31)).toInt32 &&& (858993459 : Int32))).toUInt32 >>> ((4 : Int32).toUInt32 &&& Int32.toUInt32 31)).toInt32) &&& (252645135 : Int32)) + ((((((x0 - ((x0.toUInt32 >>> ((1 : Int32).toUInt32 &&& Int32.toUInt32 31)).toInt32 &&& (1431655765 : Int32))) &&& (858993459 : Int32)) + (((x0 - ((x0.toUInt32 >>> ((1 : Int32).toUInt32 &&& Int32.toUInt32 31)).toInt32 &&& (1431655765 : Int32))).toUInt32 >>> ((2 : Int32).toUInt32 &&& Int32.toUInt32 31)).toInt32 &&& (858993459 : Int32))) + ((((x0 - ((x0.toUInt32 >>> ((1 : Int32).toUInt32 &&& Int32.toUInt32 31)).toInt32 &&& (1431655765 : Int32))) &&& (858993459 : Int32)) + (((x0 - ((x0.toUInt32 >>> ((1 : Int32).toUInt32 &&& Int32.toUInt32 31)).toInt32 &&& (1431655765 : Int32))).toUInt32 >>> ((2 : Int32).toUInt32 &&& Int32.toUInt32 31)).toInt32 &&& (858993459 : Int32))).toUInt32 >>> ((4 : Int32).toUInt32 &&& Int32.toUInt32 31)).toInt32) &&& (252645135 : Int32)).toUInt32 >>> ((8 : Int32).toUInt32 &&& Int32.toUInt32 31)).toInt32) + (((((((x0 - ((x0.toUInt32 >>> ((1 : Int32).toUInt32 &&& Int32.toUInt32 31)).toInt32 &&& (1431655765 : Int32))) &&& (858993459 : Int32)) + (((x0 - ((x0.toUInt32 >>> ((1 : Int32).toUInt32 &&& Int32.toUInt32 31)).toInt32 &&& (1431655765 : Int32))).toUInt32 >>> ((2 : Int32).toUInt32 &&& Int32.toUInt32 31)).toInt32 &&& (858993459 : Int32))) + ((((x0 - ((x0.toUInt32 >>> ((1 : Int32).toUInt32 &&& Int32.toUInt32 31)).toInt32 &&& (1431655765 : Int32))) &&& (858993459 : Int32)) + (((x0 - ((x0.toUInt32 >>> ((1 : Int32).toUInt32 &&& Int32.toUInt32 31)).toInt32 &&& (1431655765 : Int32))).toUInt32 >>> ((2 : Int32).toUInt32 &&& Int32.toUInt32 31)).toInt32 &&& (858993459 : Int32))).toUInt32 >>> ((4 : Int32).toUInt32 &&& Int32.toUInt32 31)).toInt32) &&& (252645135 : Int32)) + ((((((x0 - ((x0.toUInt32 >>> ((1 : Int32).toUInt32 &&& Int32.toUInt32 31)).toInt32 &&& (1431655765 : Int32))) &&& (858993459 : Int32)) + (((x0 - ((x0.toUInt32 >>> ((1 : Int32).toUInt32 &&& Int32.toUInt32 31)).toInt32 &&& (1431655765 : Int32))).toUInt32 >>> ((2 : Int32).toUInt32 &&& Int32.toUInt32 31)).toInt32 &&& (858993459 : Int32))) + ((((x0 - ((x0.toUInt32 >>> ((1 : Int32).toUInt32 &&& Int32.toUInt32 31)).toInt32 &&& (1431655765 : Int32))) &&& (858993459 : Int32)) + (((x0 - ((x0.toUInt32 >>> ((1 : Int32).toUInt32 &&& Int32.toUInt32 31)).toInt32 &&& (1431655765 : Int32))).toUInt32 >>> ((2 : Int32).toUInt32 &&& Int32.toUInt32 31)).toInt32 &&& (858993459 : Int32))).toUInt32 >>> ((4 : Int32).toUInt32 &&& Int32.toUInt32 31)).toInt32) &&& (252645135 : Int32)).toUInt32 >>> ((8 : Int32).toUInt32 &&& Int32.toUInt32 31)).toInt32).toUInt32 >>> ((16 : Int32).toUInt32 &&& Int32.toUInt32 31)).toInt32) &&& (63 : Int32)))) h) : q_Ct l (d + 0) mJ6_bitCount_0f7a4 [.int x0] h mc ms Q QX := by
  refine q_bodyF (by decide +kernel) (by intro v hm; simp only [List.mem_cons, List.not_mem_nil, or_false] at hm; subst hm; rfl) (Nat.le_of_ble_eq_true rfl) ?_
  refine j_pad 0 rfl ?_
  refine j_iload_n dJ6_bitCount_0f7a4_0 rfl rfl ?_
  refine j_iload_n dJ6_bitCount_0f7a4_1 rfl rfl ?_
  refine j_iconst (v := (1 : Int32)) dJ6_bitCount_0f7a4_2 (by decide) ?_
  refine j_iushr dJ6_bitCount_0f7a4_3 ?_
  refine j_ldcw (v := (1431655765 : Int32)) dJ6_bitCount_0f7a4_4 w_c_J6_265 ?_
  refine j_iand dJ6_bitCount_0f7a4_7 ?_
  refine j_isub dJ6_bitCount_0f7a4_8 ?_
  refine j_istore_n dJ6_bitCount_0f7a4_9 rfl (by decide) rfl rfl ?_
  refine j_iload_n dJ6_bitCount_0f7a4_10 rfl rfl ?_
  refine j_ldcw (v := (858993459 : Int32)) dJ6_bitCount_0f7a4_11 w_c_J6_266 ?_
  refine j_iand dJ6_bitCount_0f7a4_14 ?_
  refine j_iload_n dJ6_bitCount_0f7a4_15 rfl rfl ?_
  refine j_iconst (v := (2 : Int32)) dJ6_bitCount_0f7a4_16 (by decide) ?_
  refine j_iushr dJ6_bitCount_0f7a4_17 ?_
  refine j_ldcw (v := (858993459 : Int32)) dJ6_bitCount_0f7a4_18 w_c_J6_266 ?_
  refine j_iand dJ6_bitCount_0f7a4_21 ?_
  refine j_iadd dJ6_bitCount_0f7a4_22 ?_
  refine j_istore_n dJ6_bitCount_0f7a4_23 rfl (by decide) rfl rfl ?_
  refine j_iload_n dJ6_bitCount_0f7a4_24 rfl rfl ?_
  refine j_iload_n dJ6_bitCount_0f7a4_25 rfl rfl ?_
  refine j_iconst (v := (4 : Int32)) dJ6_bitCount_0f7a4_26 (by decide) ?_
  refine j_iushr dJ6_bitCount_0f7a4_27 ?_
  refine j_iadd dJ6_bitCount_0f7a4_28 ?_
  refine j_ldcw (v := (252645135 : Int32)) dJ6_bitCount_0f7a4_29 w_c_J6_267 ?_
  refine j_iand dJ6_bitCount_0f7a4_32 ?_
  refine j_istore_n dJ6_bitCount_0f7a4_33 rfl (by decide) rfl rfl ?_
  refine j_iload_n dJ6_bitCount_0f7a4_34 rfl rfl ?_
  refine j_iload_n dJ6_bitCount_0f7a4_35 rfl rfl ?_
  refine j_bipush (v := (8 : Int32)) dJ6_bitCount_0f7a4_36 (by decide) ?_
  refine j_iushr dJ6_bitCount_0f7a4_38 ?_
  refine j_iadd dJ6_bitCount_0f7a4_39 ?_
  refine j_istore_n dJ6_bitCount_0f7a4_40 rfl (by decide) rfl rfl ?_
  refine j_iload_n dJ6_bitCount_0f7a4_41 rfl rfl ?_
  refine j_iload_n dJ6_bitCount_0f7a4_42 rfl rfl ?_
  refine j_bipush (v := (16 : Int32)) dJ6_bitCount_0f7a4_43 (by decide) ?_
  refine j_iushr dJ6_bitCount_0f7a4_45 ?_
  refine j_iadd dJ6_bitCount_0f7a4_46 ?_
  refine j_istore_n dJ6_bitCount_0f7a4_47 rfl (by decide) rfl rfl ?_
  refine j_iload_n dJ6_bitCount_0f7a4_48 rfl rfl ?_
  refine j_bipush (v := (63 : Int32)) dJ6_bitCount_0f7a4_49 (by decide) ?_
  refine j_iand dJ6_bitCount_0f7a4_51 ?_
  exact j_iret dJ6_bitCount_0f7a4_52 rfl hv
set_option maxRecDepth 20000 in
set_option maxHeartbeats 4000000 in
theorem v_J9_floorDiv_7cf53 {l : Launch} {d mc ms : Nat} {Q : Option Value → qH → Prop} {QX : String → qH → Prop} (x0 : Int32) (x1 : Int32) {h : qH} (hv : qDV x1 (qIF (0 ≤ (x0 ^^^ x1)) (Q (some (.int (x0 / x1))) h) (qIF (((x0 / x1) * x1) = x0) (Q (some (.int (x0 / x1))) h) (Q (some (.int ((x0 / x1) - (1 : Int32)))) h)))) : q_Ct l (d + 0) mJ9_floorDiv_7cf53 [.int x0, .int x1] h mc ms Q QX := by
  refine q_bodyF (by decide +kernel) (by intro v hm; simp only [List.mem_cons, List.not_mem_nil, or_false] at hm; rcases hm with rfl | rfl <;> rfl) (Nat.le_of_ble_eq_true rfl) ?_
  refine j_pad 1 rfl ?_
  refine j_iload_n dJ9_floorDiv_7cf53_0 rfl rfl ?_
  refine j_iload_n dJ9_floorDiv_7cf53_1 rfl rfl ?_
  obtain ⟨hz, hv⟩ := hv
  refine j_idiv dJ9_floorDiv_7cf53_2 hz ?_
  refine j_istore_n dJ9_floorDiv_7cf53_3 rfl (by decide) rfl rfl ?_
  refine j_iload_n dJ9_floorDiv_7cf53_4 rfl rfl ?_
  refine j_iload_n dJ9_floorDiv_7cf53_5 rfl rfl ?_
  refine j_ixor dJ9_floorDiv_7cf53_6 ?_
  refine j_if_ge (tgt := 21) dJ9_floorDiv_7cf53_7 (by decide) (fun hc => ?_) (fun hc => ?_)
  · replace hv := hv.1 hc
    refine j_iload_n dJ9_floorDiv_7cf53_21 rfl rfl ?_
    exact j_iret dJ9_floorDiv_7cf53_22 rfl hv
  · replace hv := hv.2 hc
    refine j_iload_n dJ9_floorDiv_7cf53_10 rfl rfl ?_
    refine j_iload_n dJ9_floorDiv_7cf53_11 rfl rfl ?_
    refine j_imul dJ9_floorDiv_7cf53_12 ?_
    refine j_iload_n dJ9_floorDiv_7cf53_13 rfl rfl ?_
    refine j_icmp_eq (tgt := 21) dJ9_floorDiv_7cf53_14 (by decide) (fun hc => ?_) (fun hc => ?_)
    · replace hv := hv.1 hc
      refine j_iload_n dJ9_floorDiv_7cf53_21 rfl rfl ?_
      exact j_iret dJ9_floorDiv_7cf53_22 rfl hv
    · replace hv := hv.2 hc
      refine j_iload_n dJ9_floorDiv_7cf53_17 rfl rfl ?_
      refine j_iconst (v := (1 : Int32)) dJ9_floorDiv_7cf53_18 (by decide) ?_
      refine j_isub dJ9_floorDiv_7cf53_19 ?_
      exact j_iret dJ9_floorDiv_7cf53_20 rfl hv
set_option maxRecDepth 20000 in
set_option maxHeartbeats 4000000 in
theorem v_J9_floorMod_7cf53 {l : Launch} {d mc ms : Nat} {Q : Option Value → qH → Prop} {QX : String → qH → Prop} (x0 : Int32) (x1 : Int32) {h : qH} (hv : qDV x1 (qIF (0 ≤ (x0 ^^^ x1)) (Q (some (.int (x0 - x0 / x1 * x1))) h) (qIF ((x0 - x0 / x1 * x1) = 0) (Q (some (.int (x0 - x0 / x1 * x1))) h) (Q (some (.int ((x0 - x0 / x1 * x1) + x1))) h)))) : q_Ct l (d + 0) mJ9_floorMod_7cf53 [.int x0, .int x1] h mc ms Q QX := by
  refine q_bodyF (by decide +kernel) (by intro v hm; simp only [List.mem_cons, List.not_mem_nil, or_false] at hm; rcases hm with rfl | rfl <;> rfl) (Nat.le_of_ble_eq_true rfl) ?_
  refine j_pad 1 rfl ?_
  refine j_iload_n dJ9_floorMod_7cf53_0 rfl rfl ?_
  refine j_iload_n dJ9_floorMod_7cf53_1 rfl rfl ?_
  obtain ⟨hz, hv⟩ := hv
  refine j_irem dJ9_floorMod_7cf53_2 hz ?_
  refine j_istore_n dJ9_floorMod_7cf53_3 rfl (by decide) rfl rfl ?_
  refine j_iload_n dJ9_floorMod_7cf53_4 rfl rfl ?_
  refine j_iload_n dJ9_floorMod_7cf53_5 rfl rfl ?_
  refine j_ixor dJ9_floorMod_7cf53_6 ?_
  refine j_if_ge (tgt := 18) dJ9_floorMod_7cf53_7 (by decide) (fun hc => ?_) (fun hc => ?_)
  · replace hv := hv.1 hc
    refine j_iload_n dJ9_floorMod_7cf53_18 rfl rfl ?_
    exact j_iret dJ9_floorMod_7cf53_19 rfl hv
  · replace hv := hv.2 hc
    refine j_iload_n dJ9_floorMod_7cf53_10 rfl rfl ?_
    refine j_if_eq (tgt := 18) dJ9_floorMod_7cf53_11 (by decide) (fun hc => ?_) (fun hc => ?_)
    · replace hv := hv.1 hc
      refine j_iload_n dJ9_floorMod_7cf53_18 rfl rfl ?_
      exact j_iret dJ9_floorMod_7cf53_19 rfl hv
    · replace hv := hv.2 hc
      refine j_iload_n dJ9_floorMod_7cf53_14 rfl rfl ?_
      refine j_iload_n dJ9_floorMod_7cf53_15 rfl rfl ?_
      refine j_iadd dJ9_floorMod_7cf53_16 ?_
      exact j_iret dJ9_floorMod_7cf53_17 rfl hv
end
