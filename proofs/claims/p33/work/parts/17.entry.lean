/-- a contract out of a walk, for a class that some rows stand in for (Math): none stands in for this method -/
theorem vx_ofWF {l : Launch} {y : MethodName} {ws ws' : List Cond} {rm : Room} {Pc : Array Value → State → Prop} {Qc : Array Value → State → Outcome → State → Prop} {XC : String → State → State → Prop} {mc ms : Nat} {free : Addr → Prop} {cc : ByteArray} {maxL : Nat} {ret : Option FieldType}
    (hy : plainFor y = true) (hw : ws = Cond.code y cc maxL ret :: ws')
    (body : ∀ p e s m args below meth c s₁, BodyLoose p l y (headSpec ws rm) cc maxL ret e s m args below meth c s₁ → c.maxLocals = maxL → (∀ x ∈ c.exceptionTable.toList, False) → Pc args s →
      W p l e (headSpec ws rm).room s m args below meth c s.heap [] 0 0 (vx_MQ below Qc XC args s mc ms free) (entryFrame m args maxL)) : vx_Met l y ws rm Pc Qc XC mc ms free := by
  refine MetFree.of_bodySF (code := cc) (maxLocals := maxL) (ret := ret) hy ?_ ?_
  · intro args s m h hn
    obtain ⟨meth, c, h1, h2, h3, h4, h5, h6, -, -⟩ := Cond.code_spec hn (atoms_spec (ws := ws) h _ (by rw [hw]; exact List.mem_cons_self))
    exact ⟨meth, c, h1, h2, h3, h4, h5, h6⟩
  · intro p e s m args below meth c s₁ B hml hP _
    have hh0 : s₁.heap = s.heap := by rw [B.state]; rfl
    have ht : ∀ x ∈ c.exceptionTable.toList, False := by
      obtain ⟨meth9, c9, h1, h2, -, -, -, -, h7, -⟩ := Cond.code_spec B.named (atoms_spec (ws := ws) B.pre _ (by rw [hw]; exact List.mem_cons_self))
      cases Option.some.inj (h1.symm.trans B.method)
      cases Option.some.inj (h2.symm.trans (Stand.of_body B).code)
      intro x hx
      rw [Array.isEmpty_iff.mp h7] at hx
      cases hx
    obtain ⟨t, a1, o, b1, b2, b3⟩ := body p e s m args below meth c s₁ B hml ht hP s₁ hh0 (Stand.of_body B)
    exact ⟨t, o, a1, b1, b2, b3⟩
theorem q_bodyF {l : Launch} {d : Nat} {Y : qM} {avs : List Value} {h : qH} {mc ms : Nat} {Q : Option Value → qH → Prop} {QX : String → qH → Prop} (hy : plainFor Y.1 = true) (hc : ∀ v ∈ avs, v.category = 1) (hn : avs.length ≤ Y.2.2.1)
    (k : q_J l d Y mc ms Q QX h.2 0 (avs.map some) [] h mc ms) : q_Ct l d Y avs h mc ms Q QX := by
  intro g ad hw hv
  refine vx_ofWF (cc := Y.2.1) (maxL := Y.2.2.1) (ret := Y.2.2.2) hy rfl ?_
  intro p e s m args below meth c s₁ B hml ht hP
  obtain ⟨rfl, hP1, hD1, hK, hSt, hb⟩ := hP
  have hts := atoms_spec (ws := Cond.code Y.1 Y.2.1 Y.2.2.1 Y.2.2.2 :: q_W) B.pre
  have hl := lv_entry (avs.map (q_tv g ad)) (n := Y.2.2.1) (by rw [q_sl_len g ad avs hc]; exact hn)
  rw [lg_entry_eq]
  generalize (lg_sl (avs.map (q_tv g ad)) ++ List.replicate (Y.2.2.1 - (lg_sl (avs.map (q_tv g ad))).length) Slot.unset).toArray = ls at hl ⊢
  refine k p e s m _ below meth c s.heap [] 0 0 ls g ad ad ⟨B.exec, B.bytes, B.returns, hml, findClass_of_methodNamed B.named, B.notSynchronized, (name_of_methodNamed B.named B.method).1, fun w hw => hts w (List.mem_cons_of_mem _ hw), ht, hK, hSt, hb⟩
    ⟨hP1, hD1, hw, va_S.rf, ⟨hl.1, hl.2.1, fun i v hi => ?_⟩, fun v hm => ?_, fun v hm => (nomatch hm), q_ag_rf, Nat.le_refl _⟩ (by omega) (by omega)
  · have h2 := q_entry_lo g ad avs 0 i v hc hi
    rw [Nat.zero_add] at h2
    exact hl.2.2 (i, _) h2
  · obtain ⟨w, hw, e⟩ := List.mem_map.mp hm
    cases e
    exact hv _ hw
