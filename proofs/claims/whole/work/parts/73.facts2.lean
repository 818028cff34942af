/-! facts of constructors and marks (printed by wip/whole/gen2.py) -/
theorem w_m_X6_3 : Cond.methodLink RX6 3 objectInit ∈ q_W := q_in (List.mem_of_getElem? (i := 217) (by decide +kernel)) (by decide +kernel)
theorem w_in_objInit : Cond.instanceMethod objectInit ∈ q_W := q_in (List.mem_of_getElem? (i := 83) (by decide +kernel)) (by decide +kernel)
theorem w_co_objInit : Cond.code objectInit ⟨#[0xb1]⟩ 1 none ∈ q_W := q_in (List.mem_of_getElem? (i := 84) (by decide +kernel)) (by decide +kernel)
theorem w_m_X5_3 : Cond.methodLink RX5 3 objectInit ∈ q_W := q_in (List.mem_of_getElem? (i := 341) (by decide +kernel)) (by decide +kernel)
theorem w_m_X4_3 : Cond.methodLink RX4 3 objectInit ∈ q_W := q_in (List.mem_of_getElem? (i := 191) (by decide +kernel)) (by decide +kernel)
theorem w_m_X7_3 : Cond.methodLink RX7 3 objectInit ∈ q_W := q_in (List.mem_of_getElem? (i := 167) (by decide +kernel)) (by decide +kernel)
theorem w_m_X8_3 : Cond.methodLink RX8 3 objectInit ∈ q_W := q_in (List.mem_of_getElem? (i := 148) (by decide +kernel)) (by decide +kernel)
theorem w_m_X1_3 : Cond.methodLink RX1 3 objectInit ∈ q_W := q_in (List.mem_of_getElem? (i := 90) (by decide +kernel)) (by decide +kernel)
theorem w_m_X0_3 : Cond.methodLink RX0 3 objectInit ∈ q_W := q_in (List.mem_of_getElem? (i := 211) (by decide +kernel)) (by decide +kernel)
theorem w_cl_X0_9 : Cond.classLink RX0 9 "RoverPlanner$Rover" ∈ q_W := q_in (List.mem_of_getElem? (i := 212) (by decide +kernel)) (by decide +kernel)
theorem w_iq_X6 : Cond.instantiable RX6 15 ∈ q_W := q_in (List.mem_of_getElem? (i := 213) (by decide +kernel)) (by decide +kernel)
theorem w_in9_X6 : Cond.initialized RX6 ∈ q_W := q_in (List.mem_of_getElem? (i := 64) (by decide +kernel)) (by decide +kernel)
theorem w_mn_X0_11 : Cond.methodLinkNest RX0 11 yX6_init "RoverPlanner" ∈ q_N := q_inN (List.mem_of_getElem? (i := 214) (by decide +kernel)) (by decide +kernel)
theorem w_in_X6_init : Cond.instanceMethod yX6_init ∈ q_W := q_in (List.mem_of_getElem? (i := 215) (by decide +kernel)) (by decide +kernel)
theorem w_m_X2_3 : Cond.methodLink RX2 3 objectInit ∈ q_W := q_in (List.mem_of_getElem? (i := 315) (by decide +kernel)) (by decide +kernel)
theorem w_cl_X2_9 : Cond.classLink RX2 9 "RoverPlanner$Rover" ∈ q_W := q_in (List.mem_of_getElem? (i := 316) (by decide +kernel)) (by decide +kernel)
theorem w_mn_X2_11 : Cond.methodLinkNest RX2 11 yX6_init "RoverPlanner" ∈ q_N := q_inN (List.mem_of_getElem? (i := 317) (by decide +kernel)) (by decide +kernel)
theorem w_m_X3_1 : Cond.methodLink RX3 1 objectInit ∈ q_W := q_in (List.mem_of_getElem? (i := 1079) (by decide +kernel)) (by decide +kernel)
theorem w_cl_X3_7 : Cond.classLink RX3 7 "RoverPlanner$Rover" ∈ q_W := q_in (List.mem_of_getElem? (i := 1080) (by decide +kernel)) (by decide +kernel)
theorem w_mn_X3_9 : Cond.methodLinkNest RX3 9 yX6_init "RoverPlanner" ∈ q_N := q_inN (List.mem_of_getElem? (i := 1081) (by decide +kernel)) (by decide +kernel)
theorem w_f_X3_10 : Cond.fieldLink RX3 10 "RoverPlanner$Mark" "rover" "LRoverPlanner$Rover;" ∈ q_W := q_in (List.mem_of_getElem? (i := 1084) (by decide +kernel)) (by decide +kernel)
theorem w_cl_X3_16 : Cond.classLink RX3 16 "RoverPlanner$Plan" ∈ q_W := q_in (List.mem_of_getElem? (i := 1082) (by decide +kernel)) (by decide +kernel)
theorem w_iq_X5 : Cond.instantiable RX5 4 ∈ q_W := q_in (List.mem_of_getElem? (i := 337) (by decide +kernel)) (by decide +kernel)
theorem w_in9_X5 : Cond.initialized RX5 ∈ q_W := q_in (List.mem_of_getElem? (i := 66) (by decide +kernel)) (by decide +kernel)
theorem w_mn_X3_18 : Cond.methodLinkNest RX3 18 yX5_init "RoverPlanner" ∈ q_N := q_inN (List.mem_of_getElem? (i := 1083) (by decide +kernel)) (by decide +kernel)
theorem w_in_X5_init : Cond.instanceMethod yX5_init ∈ q_W := q_in (List.mem_of_getElem? (i := 339) (by decide +kernel)) (by decide +kernel)
theorem w_f_X3_19 : Cond.fieldLink RX3 19 "RoverPlanner$Mark" "plan" "LRoverPlanner$Plan;" ∈ q_W := q_in (List.mem_of_getElem? (i := 1086) (by decide +kernel)) (by decide +kernel)
theorem w_m_X9_1 : Cond.methodLink RX9 1 objectInit ∈ q_W := q_in (List.mem_of_getElem? (i := 82) (by decide +kernel)) (by decide +kernel)
theorem w_cl_X9_7 : Cond.classLink RX9 7 "RoverPlanner$Ground" ∈ q_W := q_in (List.mem_of_getElem? (i := 85) (by decide +kernel)) (by decide +kernel)
theorem w_iq_X1 : Cond.instantiable RX1 5 ∈ q_W := q_in (List.mem_of_getElem? (i := 86) (by decide +kernel)) (by decide +kernel)
theorem w_in9_X1 : Cond.initialized RX1 ∈ q_W := q_in (List.mem_of_getElem? (i := 58) (by decide +kernel)) (by decide +kernel)
theorem w_m_X9_9 : Cond.methodLink RX9 9 yX1_init ∈ q_W := q_in (List.mem_of_getElem? (i := 87) (by decide +kernel)) (by decide +kernel)
theorem w_in_X1_init : Cond.instanceMethod yX1_init ∈ q_W := q_in (List.mem_of_getElem? (i := 88) (by decide +kernel)) (by decide +kernel)
theorem w_cl_X9_16 : Cond.classLink RX9 16 "RoverPlanner$Ways" ∈ q_W := q_in (List.mem_of_getElem? (i := 143) (by decide +kernel)) (by decide +kernel)
theorem w_iq_X8 : Cond.instantiable RX8 4 ∈ q_W := q_in (List.mem_of_getElem? (i := 144) (by decide +kernel)) (by decide +kernel)
theorem w_in9_X8 : Cond.initialized RX8 ∈ q_W := q_in (List.mem_of_getElem? (i := 60) (by decide +kernel)) (by decide +kernel)
theorem w_m_X9_18 : Cond.methodLink RX9 18 yX8_init ∈ q_W := q_in (List.mem_of_getElem? (i := 145) (by decide +kernel)) (by decide +kernel)
theorem w_in_X8_init : Cond.instanceMethod yX8_init ∈ q_W := q_in (List.mem_of_getElem? (i := 146) (by decide +kernel)) (by decide +kernel)
theorem w_cl_X9_25 : Cond.classLink RX9 25 "RoverPlanner$Targets" ∈ q_W := q_in (List.mem_of_getElem? (i := 162) (by decide +kernel)) (by decide +kernel)
theorem w_iq_X7 : Cond.instantiable RX7 5 ∈ q_W := q_in (List.mem_of_getElem? (i := 163) (by decide +kernel)) (by decide +kernel)
theorem w_in9_X7 : Cond.initialized RX7 ∈ q_W := q_in (List.mem_of_getElem? (i := 61) (by decide +kernel)) (by decide +kernel)
theorem w_mn_X9_27 : Cond.methodLinkNest RX9 27 yX7_init "RoverPlanner" ∈ q_N := q_inN (List.mem_of_getElem? (i := 164) (by decide +kernel)) (by decide +kernel)
theorem w_in_X7_init : Cond.instanceMethod yX7_init ∈ q_W := q_in (List.mem_of_getElem? (i := 165) (by decide +kernel)) (by decide +kernel)
theorem w_cl_X9_32 : Cond.classLink RX9 32 "RoverPlanner$Passes" ∈ q_W := q_in (List.mem_of_getElem? (i := 186) (by decide +kernel)) (by decide +kernel)
theorem w_iq_X4 : Cond.instantiable RX4 4 ∈ q_W := q_in (List.mem_of_getElem? (i := 187) (by decide +kernel)) (by decide +kernel)
theorem w_in9_X4 : Cond.initialized RX4 ∈ q_W := q_in (List.mem_of_getElem? (i := 62) (by decide +kernel)) (by decide +kernel)
theorem w_mn_X9_34 : Cond.methodLinkNest RX9 34 yX4_init "RoverPlanner" ∈ q_N := q_inN (List.mem_of_getElem? (i := 188) (by decide +kernel)) (by decide +kernel)
theorem w_in_X4_init : Cond.instanceMethod yX4_init ∈ q_W := q_in (List.mem_of_getElem? (i := 189) (by decide +kernel)) (by decide +kernel)
theorem w_cl_X9_39 : Cond.classLink RX9 39 "RoverPlanner$Doer" ∈ q_W := q_in (List.mem_of_getElem? (i := 206) (by decide +kernel)) (by decide +kernel)
theorem w_iq_X0 : Cond.instantiable RX0 8 ∈ q_W := q_in (List.mem_of_getElem? (i := 207) (by decide +kernel)) (by decide +kernel)
theorem w_in9_X0 : Cond.initialized RX0 ∈ q_W := q_in (List.mem_of_getElem? (i := 63) (by decide +kernel)) (by decide +kernel)
theorem w_m_X9_41 : Cond.methodLink RX9 41 yX0_init ∈ q_W := q_in (List.mem_of_getElem? (i := 208) (by decide +kernel)) (by decide +kernel)
theorem w_in_X0_init : Cond.instanceMethod yX0_init ∈ q_W := q_in (List.mem_of_getElem? (i := 209) (by decide +kernel)) (by decide +kernel)
theorem w_cl_X9_48 : Cond.classLink RX9 48 "RoverPlanner$Maker" ∈ q_W := q_in (List.mem_of_getElem? (i := 310) (by decide +kernel)) (by decide +kernel)
theorem w_iq_X2 : Cond.instantiable RX2 5 ∈ q_W := q_in (List.mem_of_getElem? (i := 311) (by decide +kernel)) (by decide +kernel)
theorem w_in9_X2 : Cond.initialized RX2 ∈ q_W := q_in (List.mem_of_getElem? (i := 65) (by decide +kernel)) (by decide +kernel)
theorem w_m_X9_50 : Cond.methodLink RX9 50 yX2_init ∈ q_W := q_in (List.mem_of_getElem? (i := 312) (by decide +kernel)) (by decide +kernel)
theorem w_in_X2_init : Cond.instanceMethod yX2_init ∈ q_W := q_in (List.mem_of_getElem? (i := 313) (by decide +kernel)) (by decide +kernel)
theorem w_cl_X9_57 : Cond.classLink RX9 57 "RoverPlanner$Rover" ∈ q_W := q_in (List.mem_of_getElem? (i := 334) (by decide +kernel)) (by decide +kernel)
theorem w_mn_X9_59 : Cond.methodLinkNest RX9 59 yX6_init "RoverPlanner" ∈ q_N := q_inN (List.mem_of_getElem? (i := 335) (by decide +kernel)) (by decide +kernel)
theorem w_cl_X9_67 : Cond.classLink RX9 67 "RoverPlanner$Plan" ∈ q_W := q_in (List.mem_of_getElem? (i := 336) (by decide +kernel)) (by decide +kernel)
theorem w_mn_X9_69 : Cond.methodLinkNest RX9 69 yX5_init "RoverPlanner" ∈ q_N := q_inN (List.mem_of_getElem? (i := 338) (by decide +kernel)) (by decide +kernel)
theorem w_cl_X9_74 : Cond.classLink RX9 74 "RoverPlanner$Mark" ∈ q_W := q_in (List.mem_of_getElem? (i := 358) (by decide +kernel)) (by decide +kernel)
theorem w_f_X9_76 : Cond.fieldLink RX9 76 "RoverPlanner" "marks" "[LRoverPlanner$Mark;" ∈ q_W := q_in (List.mem_of_getElem? (i := 369) (by decide +kernel)) (by decide +kernel)
theorem w_m_X10_3 : Cond.methodLink RX10 3 objectInit ∈ q_W := q_in (List.mem_of_getElem? (i := 1110) (by decide +kernel)) (by decide +kernel)
theorem w_cl_X10_45 : Cond.classLink RX10 45 "[[I" ∈ q_W := q_in (List.mem_of_getElem? (i := 1111) (by decide +kernel)) (by decide +kernel)
theorem w_fn_X9_319 : Cond.fieldLinkNest RX9 319 "RoverPlanner$Mark" "rover" "LRoverPlanner$Rover;" "RoverPlanner" ∈ q_N := q_inN (List.mem_of_getElem? (i := 1085) (by decide +kernel)) (by decide +kernel)
theorem w_fn_X9_326 : Cond.fieldLinkNest RX9 326 "RoverPlanner$Mark" "plan" "LRoverPlanner$Plan;" "RoverPlanner" ∈ q_N := q_inN (List.mem_of_getElem? (i := 1087) (by decide +kernel)) (by decide +kernel)
theorem w_m_X9_327 : Cond.methodLink RX9 327 yX5_copyFrom ∈ q_W := q_in (List.mem_of_getElem? (i := 1093) (by decide +kernel)) (by decide +kernel)
theorem w_in_X5_copyFrom : Cond.instanceMethod yX5_copyFrom ∈ q_W := q_in (List.mem_of_getElem? (i := 1094) (by decide +kernel)) (by decide +kernel)
theorem w_se_X5_copyFrom : Cond.selects RX5 yX5_copyFrom yX5_copyFrom ∈ q_W := q_in (List.mem_of_getElem? (i := 1095) (by decide +kernel)) (by decide +kernel)
theorem w_iq_X3 : Cond.instantiable RX3 2 ∈ q_W := q_in (List.mem_of_getElem? (i := 1075) (by decide +kernel)) (by decide +kernel)
theorem w_in9_X3 : Cond.initialized RX3 ∈ q_W := q_in (List.mem_of_getElem? (i := 76) (by decide +kernel)) (by decide +kernel)
theorem w_mn_X9_318 : Cond.methodLinkNest RX9 318 yX3_init "RoverPlanner" ∈ q_N := q_inN (List.mem_of_getElem? (i := 1076) (by decide +kernel)) (by decide +kernel)
theorem w_in_X3_init : Cond.instanceMethod yX3_init ∈ q_W := q_in (List.mem_of_getElem? (i := 1077) (by decide +kernel)) (by decide +kernel)
theorem w_fn_X9_332 : Cond.fieldLinkNest RX9 332 "RoverPlanner$Rover" "time" "I" "RoverPlanner" ∈ q_N := q_inN (List.mem_of_getElem? (i := 221) (by decide +kernel)) (by decide +kernel)
theorem w_fn_X9_335 : Cond.fieldLinkNest RX9 335 "RoverPlanner$Rover" "unitsTaken" "I" "RoverPlanner" ∈ q_N := q_inN (List.mem_of_getElem? (i := 242) (by decide +kernel)) (by decide +kernel)
theorem w_fn_X9_338 : Cond.fieldLinkNest RX9 338 "RoverPlanner$Rover" "unitsSent" "I" "RoverPlanner" ∈ q_N := q_inN (List.mem_of_getElem? (i := 240) (by decide +kernel)) (by decide +kernel)
def dfX9 : List Value := [.null, .null, .null, .null, .null, .null, .null, .null, .null, .null, .int 0]
theorem nfX9 : ∀ (g : qG) (ad : Nat → Nat) (j : Nat), j < 11 → defaultValue (tyX9 j) = vp_V (dfX9.map (q_tv g ad)) j
  | _, _, 0, _ => rfl
  | _, _, 1, _ => rfl
  | _, _, 2, _ => rfl
  | _, _, 3, _ => rfl
  | _, _, 4, _ => rfl
  | _, _, 5, _ => rfl
  | _, _, 6, _ => rfl
  | _, _, 7, _ => rfl
  | _, _, 8, _ => rfl
  | _, _, 9, _ => rfl
  | _, _, 10, _ => rfl
  | _, _, j + 11, h => absurd h (by omega)
def dfX1 : List Value := [.null, .null, .null, .null, .int 0]
theorem nfX1 : ∀ (g : qG) (ad : Nat → Nat) (j : Nat), j < 5 → defaultValue (tyX1 j) = vp_V (dfX1.map (q_tv g ad)) j
  | _, _, 0, _ => rfl
  | _, _, 1, _ => rfl
  | _, _, 2, _ => rfl
  | _, _, 3, _ => rfl
  | _, _, 4, _ => rfl
  | _, _, j + 5, h => absurd h (by omega)
def dfX8 : List Value := [.null, .null, .null, .int 0]
theorem nfX8 : ∀ (g : qG) (ad : Nat → Nat) (j : Nat), j < 4 → defaultValue (tyX8 j) = vp_V (dfX8.map (q_tv g ad)) j
  | _, _, 0, _ => rfl
  | _, _, 1, _ => rfl
  | _, _, 2, _ => rfl
  | _, _, 3, _ => rfl
  | _, _, j + 4, h => absurd h (by omega)
def dfX7 : List Value := [.null, .null, .null, .null, .int 0]
theorem nfX7 : ∀ (g : qG) (ad : Nat → Nat) (j : Nat), j < 5 → defaultValue (tyX7 j) = vp_V (dfX7.map (q_tv g ad)) j
  | _, _, 0, _ => rfl
  | _, _, 1, _ => rfl
  | _, _, 2, _ => rfl
  | _, _, 3, _ => rfl
  | _, _, 4, _ => rfl
  | _, _, j + 5, h => absurd h (by omega)
def dfX4 : List Value := [.null, .null, .null, .int 0]
theorem nfX4 : ∀ (g : qG) (ad : Nat → Nat) (j : Nat), j < 4 → defaultValue (tyX4 j) = vp_V (dfX4.map (q_tv g ad)) j
  | _, _, 0, _ => rfl
  | _, _, 1, _ => rfl
  | _, _, 2, _ => rfl
  | _, _, 3, _ => rfl
  | _, _, j + 4, h => absurd h (by omega)
def dfX0 : List Value := [.null, .null, .null, .null, .null, .int 0, .int 0, .int 0]
theorem nfX0 : ∀ (g : qG) (ad : Nat → Nat) (j : Nat), j < 8 → defaultValue (tyX0 j) = vp_V (dfX0.map (q_tv g ad)) j
  | _, _, 0, _ => rfl
  | _, _, 1, _ => rfl
  | _, _, 2, _ => rfl
  | _, _, 3, _ => rfl
  | _, _, 4, _ => rfl
  | _, _, 5, _ => rfl
  | _, _, 6, _ => rfl
  | _, _, 7, _ => rfl
  | _, _, j + 8, h => absurd h (by omega)
def dfX2 : List Value := [.null, .null, .null, .null, .null]
theorem nfX2 : ∀ (g : qG) (ad : Nat → Nat) (j : Nat), j < 5 → defaultValue (tyX2 j) = vp_V (dfX2.map (q_tv g ad)) j
  | _, _, 0, _ => rfl
  | _, _, 1, _ => rfl
  | _, _, 2, _ => rfl
  | _, _, 3, _ => rfl
  | _, _, 4, _ => rfl
  | _, _, j + 5, h => absurd h (by omega)
def dfX6 : List Value := [.int 0, .int 0, .int 0, .int 0, .int 0, .int 0, .int 0, .int 0, .int 0, .int 0, .null, .null, .null, .null, .null]
theorem nfX6 : ∀ (g : qG) (ad : Nat → Nat) (j : Nat), j < 15 → defaultValue (tyX6 j) = vp_V (dfX6.map (q_tv g ad)) j
  | _, _, 0, _ => rfl
  | _, _, 1, _ => rfl
  | _, _, 2, _ => rfl
  | _, _, 3, _ => rfl
  | _, _, 4, _ => rfl
  | _, _, 5, _ => rfl
  | _, _, 6, _ => rfl
  | _, _, 7, _ => rfl
  | _, _, 8, _ => rfl
  | _, _, 9, _ => rfl
  | _, _, 10, _ => rfl
  | _, _, 11, _ => rfl
  | _, _, 12, _ => rfl
  | _, _, 13, _ => rfl
  | _, _, 14, _ => rfl
  | _, _, j + 15, h => absurd h (by omega)
def dfX5 : List Value := [.null, .null, .null, .int 0]
theorem nfX5 : ∀ (g : qG) (ad : Nat → Nat) (j : Nat), j < 4 → defaultValue (tyX5 j) = vp_V (dfX5.map (q_tv g ad)) j
  | _, _, 0, _ => rfl
  | _, _, 1, _ => rfl
  | _, _, 2, _ => rfl
  | _, _, 3, _ => rfl
  | _, _, j + 4, h => absurd h (by omega)
def dfX3 : List Value := [.null, .null]
theorem nfX3 : ∀ (g : qG) (ad : Nat → Nat) (j : Nat), j < 2 → defaultValue (tyX3 j) = vp_V (dfX3.map (q_tv g ad)) j
  | _, _, 0, _ => rfl
  | _, _, 1, _ => rfl
  | _, _, j + 2, h => absurd h (by omega)
def dfX10 : List Value := [.int 0, .null, .null, .null, .int 0, .int 0, .null, .int 0, .null, .int 0, .int 0, .null, .null, .int 0, .null, .int 0, .null, .null, .null, .null, .null, .null, .null, .int 0, .null]
theorem nfX10 : ∀ (g : qG) (ad : Nat → Nat) (j : Nat), j < 25 → defaultValue (tyX10 j) = vp_V (dfX10.map (q_tv g ad)) j
  | _, _, 0, _ => rfl
  | _, _, 1, _ => rfl
  | _, _, 2, _ => rfl
  | _, _, 3, _ => rfl
  | _, _, 4, _ => rfl
  | _, _, 5, _ => rfl
  | _, _, 6, _ => rfl
  | _, _, 7, _ => rfl
  | _, _, 8, _ => rfl
  | _, _, 9, _ => rfl
  | _, _, 10, _ => rfl
  | _, _, 11, _ => rfl
  | _, _, 12, _ => rfl
  | _, _, 13, _ => rfl
  | _, _, 14, _ => rfl
  | _, _, 15, _ => rfl
  | _, _, 16, _ => rfl
  | _, _, 17, _ => rfl
  | _, _, 18, _ => rfl
  | _, _, 19, _ => rfl
  | _, _, 20, _ => rfl
  | _, _, 21, _ => rfl
  | _, _, 22, _ => rfl
  | _, _, 23, _ => rfl
  | _, _, 24, _ => rfl
  | _, _, j + 25, h => absurd h (by omega)
/-! a contract whose start has a property X of its state -/
theorem va_AOA.moved {u U : State} (hvm : u.vm.Alike U.vm) (h : va_AOA .int u) : va_AOA .int U := by
  unfold va_AOA Cond.before Cond.holds at h ⊢
  simp only [Cond.value, beq_iff_eq] at h ⊢
  cases hc : u.vm.findClass (FieldType.array .int).toString with
  | none => simp [hc] at h
  | some comp =>
    simp only [hc, Option.bind_some, Option.bind_eq_some_iff, Option.map_eq_some_iff] at h
    obtain ⟨c, hi, k, hk, hb⟩ := h
    obtain ⟨k', hk', he⟩ := hvm.2.2 _ _ hk
    have hb1 : U.vm.bare = u.vm.bare := by first | exact hvm.bare_eq | exact hvm.bare_eq.symm
    have hi2 := ((va_idx_bare U.vm comp).symm.trans (by rw [hb1])).trans ((va_idx_bare u.vm comp).trans hi)
    have f1 : U.vm.findClass (FieldType.array .int).toString = some comp := by rw [hvm.findClass]; exact hc
    have f2 : U.vm.findClass ("[" ++ (FieldType.array .int).toString) = u.vm.findClass ("[" ++ (FieldType.array .int).toString) := by rw [hvm.findClass]
    rw [f1, Option.bind_some]
    refine (congrArg (fun o : Option Nat => (o.bind (fun c => (U.vm.classes[c]?).map fun (k : Class) => match k.kind with | .array _ ty => decide (ty = FieldType.array .int) && decide (U.vm.findClass ("[" ++ (FieldType.array .int).toString) = some c) | _ => false))) hi2).trans ?_
    rw [Option.bind_some, hk', Option.map_some, he, f2]
    exact congrArg some hb
def q_CtX (X : State → Prop) (l : Launch) (d : Nat) (Y : qM) (avs : List Value) (h : qH) (mc ms : Nat) (Q : Option Value → qH → Prop) (QX : String → qH → Prop) : Prop :=
  ∀ (g : qG) (ad : Nat → Nat), q_wh h → (∀ v ∈ avs, q_wv h.2 v) →
    vx_Met l Y.1 (Cond.code Y.1 Y.2.1 Y.2.2.1 Y.2.2.2 :: q_W) (q_R d mc ms) (fun a U => q_Pc g ad avs h a U ∧ X U) (q_Qc g ad h.2 Q) (q_Xc g ad h.2 QX) mc ms (q_A g)
theorem q_bodyX {X : State → Prop} {l : Launch} {d : Nat} {Y : qM} {avs : List Value} {h : qH} {mc ms : Nat} {Q : Option Value → qH → Prop} {QX : String → qH → Prop} (hy : plainName Y.1.cls = true) (hc : ∀ v ∈ avs, v.category = 1) (hn : avs.length ≤ Y.2.2.1)
    (k : q_K (fun _ s => X s) l d Y mc ms Q QX h.2 0 (avs.map some) [] h mc ms) : q_CtX X l d Y avs h mc ms Q QX := by
  intro g ad hw hv
  refine vx_ofW (cc := Y.2.1) (maxL := Y.2.2.1) (ret := Y.2.2.2) hy rfl ?_
  intro p e s m args below meth c s₁ B hml ht hP
  obtain ⟨⟨rfl, hP1, hD1, hK, hSt, hb⟩, hX⟩ := hP
  have hts := atoms_spec (ws := Cond.code Y.1 Y.2.1 Y.2.2.1 Y.2.2.2 :: q_W) B.pre
  have hl := lv_entry (avs.map (q_tv g ad)) (n := Y.2.2.1) (by rw [q_sl_len g ad avs hc]; exact hn)
  rw [lg_entry_eq]
  generalize (lg_sl (avs.map (q_tv g ad)) ++ List.replicate (Y.2.2.1 - (lg_sl (avs.map (q_tv g ad))).length) Slot.unset).toArray = ls at hl ⊢
  refine k p e s m _ below meth c s.heap [] 0 0 ls g ad ad ⟨⟨B.exec, B.bytes, B.returns, hml, findClass_of_methodNamed B.named, B.notSynchronized, (name_of_methodNamed B.named B.method).1, fun w hw => hts w (List.mem_cons_of_mem _ hw), ht, hK, hSt, hb⟩, hX⟩
    ⟨hP1, hD1, hw, va_S.rf, ⟨hl.1, hl.2.1, fun i v hi => ?_⟩, fun v hm => ?_, fun v hm => (nomatch hm), q_ag_rf, Nat.le_refl _⟩ (by omega) (by omega)
  · have h2 := q_entry_lo g ad avs 0 i v hc hi
    rw [Nat.zero_add] at h2
    exact hl.2.2 (i, _) h2
  · obtain ⟨w, hw, e⟩ := List.mem_map.mp hm
    cases e
    exact hv _ hw
