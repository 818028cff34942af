/-! conditions: what a stretch of bytecode asks, said of the quiet heap alone (printed theorems v_.. give the judgement out of them) -/
def qGI (h : qH) (i ci k : Nat) (P : Int32 → Prop) : Prop := ∃ (fs : List Value) (z : Int32), h.1 i = .inr (ci, fs) ∧ fs[k]? = some (.int z) ∧ P z
def qGR (h : qH) (i ci k : Nat) (P : Nat → Prop) : Prop := ∃ (fs : List Value) (z : Nat), h.1 i = .inr (ci, fs) ∧ fs[k]? = some (.ref z) ∧ P z
def qPI (h : qH) (i ci k : Nat) (v : Int32) (P : qH → Prop) : Prop := ∃ fs : List Value, h.1 i = .inr (ci, fs) ∧ k < fs.length ∧ P (q_set h i (.inr (ci, fs.set k (.int v))))
def qPZ (h : qH) (i ci k : Nat) (v : Int32) (P : qH → Prop) : Prop := (v = 0 ∨ v = 1) ∧ ∃ fs : List Value, h.1 i = .inr (ci, fs) ∧ k < fs.length ∧ P (q_set h i (.inr (ci, fs.set k (.int v))))
def qAL (h : qH) (i : Nat) (z : Int32) (P : Int32 → Prop) : Prop := ∃ (N : Nat) (f : Nat → Int32), h.1 i = .inl (0, (N, .inl f)) ∧ vp_in z N ∧ P (f z.toNatClampNeg)
def qZL (h : qH) (i : Nat) (z : Int32) (P : Int32 → Prop) : Prop := ∃ (N : Nat) (f : Nat → Int32), h.1 i = .inl (2, (N, .inl f)) ∧ vp_in z N ∧ P (f z.toNatClampNeg)
def qAS (h : qH) (i : Nat) (z w : Int32) (P : qH → Prop) : Prop := ∃ (N : Nat) (f : Nat → Int32), h.1 i = .inl (0, (N, .inl f)) ∧ vp_in z N ∧ P (q_set h i (.inl (0, (N, .inl (upd f z.toNatClampNeg w)))))
def qZS (h : qH) (i : Nat) (z w : Int32) (P : qH → Prop) : Prop := (w = 0 ∨ w = 1) ∧ ∃ (N : Nat) (f : Nat → Int32), h.1 i = .inl (2, (N, .inl f)) ∧ vp_in z N ∧ P (q_set h i (.inl (2, (N, .inl (upd f z.toNatClampNeg w)))))
def qSL (k : Nat) (z : Int32) (P : Int32 → Prop) : Prop := vp_in z 8 ∧ P (q_sF k z.toNatClampNeg)
def qIF (c A B : Prop) : Prop := (c → A) ∧ (¬ c → B)
def qDV (b : Int32) (P : Prop) : Prop := ¬ b = 0 ∧ P
def qLN (h : qH) (i : Nat) (P : Int32 → Prop) : Prop := ∃ (t : Nat) (x : vp_A), h.1 i = .inl (t, x) ∧ t < 5 ∧ P (Int32.ofNat x.1)
def qCI (l : Launch) (d : Nat) (Z : qM) (avs : List Value) (h : qH) (mc ms : Nat) (P : Int32 → qH → Prop) : Prop := q_Ct l d Z avs h mc ms (fun v h1 => ∃ z : Int32, v = some (.int z) ∧ P z h1) (fun _ _ => False)
def qCL (l : Launch) (d : Nat) (Z : qM) (avs : List Value) (h : qH) (mc ms : Nat) (P : Int64 → qH → Prop) : Prop := q_Ct l d Z avs h mc ms (fun v h1 => ∃ z : Int64, v = some (.long z) ∧ P z h1) (fun _ _ => False)
def qCV (l : Launch) (d : Nat) (Z : qM) (avs : List Value) (h : qH) (mc ms : Nat) (P : qH → Prop) : Prop := q_Ct l d Z avs h mc ms (fun v h1 => v = none ∧ P h1) (fun _ _ => False)
/-- the receiver is an object of the class ci -/
def qOB (h : qH) (i ci : Nat) (P : Prop) : Prop := (∃ fs : List Value, h.1 i = .inr (ci, fs)) ∧ P
def qCP (h : qH) (i0 : Nat) (sp : Int32) (i1 : Nat) (dp n : Int32) (P : qH → Prop) : Prop := ∃ (N0 N1 : Nat) (f0 f1 : Nat → Int32), h.1 i0 = .inl (0, (N0, .inl f0)) ∧ h.1 i1 = .inl (0, (N1, .inl f1)) ∧ ¬ sp < 0 ∧ ¬ dp < 0 ∧ ¬ n < 0 ∧ sp.toNatClampNeg + n.toNatClampNeg ≤ N0 ∧ dp.toNatClampNeg + n.toNatClampNeg ≤ N1 ∧ P (q_set h i1 (.inl (0, (N1, .inl (va_cpy f0 f1 sp.toNatClampNeg dp.toNatClampNeg n.toNatClampNeg)))))
def qNI (h : qH) (N : Nat) (P : Nat → qH → Prop) : Prop := P h.2 (q_push h (.inl (0, (N, .inl (fun _ => 0)))))
def qNZ (h : qH) (N : Nat) (P : Nat → qH → Prop) : Prop := P h.2 (q_push h (.inl (2, (N, .inl (fun _ => 0)))))
def qB (z : Int32) (P : Prop) : Prop := (z = 0 ∨ z = 1) ∧ P
section QV
variable {l : Launch} {d : Nat} {Y : qM} {mc ms : Nat} {Q : Option Value → qH → Prop} {QX : String → qH → Prop} {n0 pc : Nat} {lo : List (Option Value)} {st : List Value} {h : qH} {kc ks : Nat}
theorem j_pad (n : Nat) {lo' : List (Option Value)} (he : lo ++ List.replicate n none = lo') (k : q_J l d Y mc ms Q QX n0 pc lo' st h kc ks) : q_J l d Y mc ms Q QX n0 pc lo st h kc ks := by
  subst he
  refine q_loc (fun a b => ⟨fun v hv => ?_, b⟩) (fun p e R s m args below meth c H locs cells slots ls g ad Qf hx hb o k => k ls ⟨o.1, o.2.1, fun i v hi => o.2.2 i v ?_⟩) k
  · rcases List.mem_append.mp hv with q | q
    · exact a v q
    · exact absurd (List.eq_of_mem_replicate q) (by simp)
  · by_cases hl : i < lo.length
    · rwa [List.getElem?_append_left hl] at hi
    · rw [List.getElem?_append_right (by omega)] at hi
      have := List.eq_of_mem_replicate (List.mem_of_getElem? hi)
      simp at this
theorem q_noX {P : qH → Prop} : ∀ (E : String) (h' : qH), ¬ (fun (_ : String) (_ : qH) => False) E h' := fun _ _ q => q
end QV
/-- a switch's value that is none of 0 .. hi -/
theorem q_tabO {a : Int32} {hi : Int} (h0 : 0 ≤ hi + 1) (hh : hi < 2147483647) (h : ∀ j : Nat, (j : Int) ≤ hi → ¬ a = nI j) : a.toInt < 0 ∨ hi < a.toInt := by
  by_cases q : a.toInt < 0
  · exact Or.inl q
  · refine Or.inr (Int.not_le.mp fun q2 => ?_)
    have h1 : (a.toInt.toNat : Int) = a.toInt := Int.toNat_of_nonneg (by omega)
    refine h a.toInt.toNat (by omega) (Int32.toInt_inj.mp ?_)
    rw [nI_toInt (by omega)]
    omega
/-- a lookup's value -/
theorem q_lkN {a k : Int32} {x o dd : Int} {r : List (Int × Int)} (h : ¬ a = k) (hk : k.toInt = x) : Op.lookupswitch.offset ((x, o) :: r) dd a.toInt = Op.lookupswitch.offset r dd a.toInt := lv_osw h hk
def qO4 (h : qH) (i : Nat) (z : Int32) (P : Nat → Prop) : Prop := ∃ (N : Nat) (f : Nat → Option Nat) (j : Nat), h.1 i = .inl (4, (N, .inr (.inr (.inr (.inr f))))) ∧ vp_in z N ∧ f z.toNatClampNeg = some j ∧ P j
