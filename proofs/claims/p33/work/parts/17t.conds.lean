/-! conditions for the new rows -/
def q_pl (v : Value) : Bool := match v with
  | .int _ => true
  | .null => true
  | _ => false
theorem q_pl_wf {fs : List Value} (h : fs.all q_pl = true) : ∀ n, ∀ v ∈ fs, q_wv n v := fun n v hv => by
  have := List.all_eq_true.mp h v hv
  cases v <;> first | exact q_wi _ _ | exact q_wn _ | (simp [q_pl] at this)
theorem q_nRo (g : qG) (ad : Nat → Nat) (C : String) (r : Nat) : narrow (.object C) (q_tv g ad (.ref r)) = q_tv g ad (.ref r) ∧ fits (.object C) (q_tv g ad (.ref r)) = true := ⟨rfl, rfl⟩
theorem q_nRa (g : qG) (ad : Nat → Nat) (t : FieldType) (r : Nat) : narrow (.array t) (q_tv g ad (.ref r)) = q_tv g ad (.ref r) ∧ fits (.array t) (q_tv g ad (.ref r)) = true := ⟨rfl, rfl⟩
def qNW (h : qH) (ci : Nat) (fs : List Value) (P : Nat → qH → Prop) : Prop := P h.2 (q_push h (.inr (ci, fs)))
def qPR (h : qH) (i ci k r : Nat) (P : qH → Prop) : Prop := ∃ fs : List Value, h.1 i = .inr (ci, fs) ∧ k < fs.length ∧ P (q_set h i (.inr (ci, fs.set k (.ref r))))
def qAN (c P : Prop) : Prop := c ∧ P
def qCD (l : Launch) (d : Nat) (Z : qM) (avs : List Value) (h : qH) (mc ms : Nat) (P : UInt64 → qH → Prop) : Prop := q_Ct l d Z avs h mc ms (fun v h1 => ∃ z : UInt64, v = some (.double z) ∧ P z h1) (fun _ _ => False)
def qCR (l : Launch) (d : Nat) (Z : qM) (avs : List Value) (h : qH) (mc ms : Nat) (P : Nat → qH → Prop) : Prop := q_Ct l d Z avs h mc ms (fun v h1 => ∃ z : Nat, v = some (.ref z) ∧ P z h1) (fun _ _ => False)
def qO4n (h : qH) (i : Nat) (z : Int32) (A : Nat → Prop) (B : Prop) : Prop := ∃ (N : Nat) (f : Nat → Option Nat), h.1 i = .inl (4, (N, .inr (.inr (.inr (.inr f))))) ∧ vp_in z N ∧ (∀ j, f z.toNatClampNeg = some j → A j) ∧ (f z.toNatClampNeg = none → B)
def qA4 (h : qH) (i : Nat) (z : Int32) (j : Nat) (P : qH → Prop) : Prop := ∃ (N : Nat) (f : Nat → Option Nat) (M : Nat) (F : Nat → Int32), h.1 i = .inl (4, (N, .inr (.inr (.inr (.inr f))))) ∧ h.1 j = .inl (0, (M, .inl F)) ∧ vp_in z N ∧ P (q_set h i (.inl (4, (N, .inr (.inr (.inr (.inr (va_up f z.toNatClampNeg (some j)))))))))
def qNA (h : qH) (z : Int32) (cap : Nat) (P : Nat → qH → Prop) : Prop := ¬ z < 0 ∧ z.toNatClampNeg ≤ cap ∧ P h.2 (q_push h (.inl (4, (z.toNatClampNeg, .inr (.inr (.inr (.inr (fun _ => none))))))))
def qMN (h : qH) (y : Int32) (K cap : Nat) (P : Nat → qH → Prop) : Prop := ¬ y < 0 ∧ y.toNatClampNeg ≤ cap ∧ P h.2 (q_pushM h y.toNatClampNeg K)
