/-! conditions for the new rows -/
def q_pl (v : Value) : Bool := match v with
  | .int _ => true
  | .null => true
  | _ => false
theorem q_pl_wf {fs : List Value} (h : fs.all q_pl = true) : ∀ n, ∀ v ∈ fs, q_wv n v := fun n v hv => by
  have := List.all_eq_true.mp h v hv
  cases v <;> first | exact q_wi _ _ | exact q_wn _ | (simp [q_pl] at this)
theorem q_nRo (g : qG) (ad : Nat → Nat) (C : String) (r : Nat) : narrow (.object C) (q_tv g ad (.ref r)) = q_tv g ad (.ref r) ∧ fits (.object C) (q_tv g ad (.ref r)) = true := ⟨rfl, rfl⟩
theorem q_nRa (g : qG) (ad : Nat → Nat) (t : FieldType) (r : Nat) : narrow (.array t) (q_tv g ad (.ref r)) = q_tv g ad (.ref r) ∧ fits (.array t) (q_tv g ad (.ref r)) = true := ⟨rfl, rfl⟩
def qNW (h : qH) (ci : Nat) (fs : List Value) (P : Nat → qH → Prop) : Prop := P h.2 (q_push h (.inr (ci, fs)))
def qPR (h : qH) (i ci k r : Nat) (P : qH → Prop) : Prop := ∃ fs : List Value, h.1 i = .inr (ci, fs) ∧ k < fs.length ∧ P (q_set h i (.inr (ci, fs.set k (.ref r))))
def qAN (c P : Prop) : Prop := c ∧ P
def qCD (l : Launch) (d : Nat) (Z : qM) (avs : List Value) (h : qH) (mc ms : Nat) (P : UInt64 → qH → Prop) : Prop := q_Ct l d Z avs h mc ms (fun v h1 => ∃ z : UInt64, v = some (.double z) ∧ P z h1) (fun _ _ => False)
def qCR (l : Launch) (d : Nat) (Z : qM) (avs : List Value) (h : qH) (mc ms : Nat) (P : Nat → qH → Prop) : Prop := q_Ct l d Z avs h mc ms (fun v h1 => ∃ z : Nat, v = some (.ref z) ∧ P z h1) (fun _ _ => False)
def qO4n (h : qH) (i : Nat) (z : Int32) (A : Nat → Prop) (B : Prop) : Prop := ∃ (N : Nat) (f : Nat → Option Nat), h.1 i = .inl (4, (N, .inr (.inr (.inr (.inr f))))) ∧ vp_in z N ∧ (∀ j, f z.toNatClampNeg = some j → A j) ∧ (f z.toNatClampNeg = none → B)
def qA4 (h : qH) (i : Nat) (z : Int32) (j : Nat) (P : qH → Prop) : Prop := ∃ (N : Nat) (f : Nat → Option Nat) (M : Nat) (F : Nat → Int32), h.1 i = .inl (4, (N, .inr (.inr (.inr (.inr f))))) ∧ h.1 j = .inl (0, (M, .inl F)) ∧ vp_in z N ∧ P (q_set h i (.inl (4, (N, .inr (.inr (.inr (.inr (va_up f z.toNatClampNeg (some j)))))))))
def qNA (h : qH) (z : Int32) (cap : Nat) (P : Nat → qH → Prop) : Prop := ¬ z < 0 ∧ z.toNatClampNeg ≤ cap ∧ P h.2 (q_push h (.inl (4, (z.toNatClampNeg, .inr (.inr (.inr (.inr (fun _ => none))))))))
def qMN (h : qH) (y : Int32) (K cap : Nat) (P : Nat → qH → Prop) : Prop := ¬ y < 0 ∧ y.toNatClampNeg ≤ cap ∧ P h.2 (q_pushM h y.toNatClampNeg K)
section QT9
variable {l : Launch} {d : Nat} {Y : qM} {mc ms : Nat} {Q : Option Value → qH → Prop} {QX : String → qH → Prop} {n0 pc : Nat} {lo : List (Option Value)} {st : List Value} {h : qH} {kc ks : Nat}
theorem jj_newI {P : Nat → qH → Prop} {z : Int32} {N : Nat} (ha : Cond.arrayClass .int ∈ q_W) (hd : decode Y.2.1 pc = .ok (.newarray .int, 2)) (hn : ¬ z < 0) (hN : z.toNatClampNeg = N) (hb : N ≤ 100000) {kc' ks' : Nat} (hk1 : kc' + 1 ≤ kc) (hk2 : ks' + N ≤ ks) (hv : qNI h N P)
    (k : ∀ (r : Nat) (h' : qH), P r h' → q_J l d Y mc ms Q QX n0 (pc + 2) lo (.ref r :: st) h' kc' ks') : q_J l d Y mc ms Q QX n0 pc lo (.int z :: st) h kc ks := j_newI ha hd hn hN hb hk1 hk2 (k _ _ hv)
theorem jj_newZ {P : Nat → qH → Prop} {z : Int32} {N : Nat} (ha : Cond.arrayClass .boolean ∈ q_W) (hd : decode Y.2.1 pc = .ok (.newarray .boolean, 2)) (hn : ¬ z < 0) (hN : z.toNatClampNeg = N) (hb : N ≤ 100000) {kc' ks' : Nat} (hk1 : kc' + 1 ≤ kc) (hk2 : ks' + N ≤ ks) (hv : qNZ h N P)
    (k : ∀ (r : Nat) (h' : qH), P r h' → q_J l d Y mc ms Q QX n0 (pc + 2) lo (.ref r :: st) h' kc' ks') : q_J l d Y mc ms Q QX n0 pc lo (.int z :: st) h kc ks := j_newZ ha hd hn hN hb hk1 hk2 (k _ _ hv)
theorem jj_newA {P : Nat → qH → Prop} {z : Int32} {cap idx : Nat} (hl : Cond.classLink Y.1.cls idx "[I" ∈ q_W) (hd : decode Y.2.1 pc = .ok (.anewarray idx, 3)) (hb : cap ≤ 100000) {kc' ks' : Nat} (hk1 : kc' + 1 ≤ kc) (hk2 : ks' + cap ≤ ks) (hv : qNA h z cap P)
    (k : ∀ (r : Nat) (h' : qH), P r h' → q_J l d Y mc ms Q QX n0 (pc + 3) lo (.ref r :: st) h' kc' ks') : q_J l d Y mc ms Q QX n0 pc lo (.int z :: st) h kc ks := by
  obtain ⟨e1, e2, hv⟩ := hv
  exact j_newA hl hd e1 rfl (Nat.le_trans e2 hb) hk1 (Nat.le_trans (Nat.add_le_add_left e2 _) hk2) (k _ _ hv)
theorem jj_mna {P : Nat → qH → Prop} {K cap idx : Nat} {y z : Int32} (hl : Cond.classLink Y.1.cls idx "[[I" ∈ q_W) (ha : Cond.arrayClass .int ∈ q_W) (hd : decode Y.2.1 pc = .ok (.multianewarray idx 2, 4)) (hNb : cap ≤ 1000) (hz : ¬ z < 0) (hK : z.toNatClampNeg = K) (hb : K ≤ 1000) {kc' ks' : Nat} (hk1 : kc' + (1 + cap) ≤ kc) (hk2 : ks' + (cap + cap * K) ≤ ks) (hv : qMN h y K cap P)
    (k : ∀ (r : Nat) (h' : qH), P r h' → q_J l d Y mc ms Q QX n0 (pc + 4) lo (.ref r :: st) h' kc' ks') : q_J l d Y mc ms Q QX n0 pc lo (.int z :: .int y :: st) h kc ks := by
  obtain ⟨e1, e2, hv⟩ := hv
  have h9 : y.toNatClampNeg * K ≤ cap * K := Nat.mul_le_mul_right _ e2
  exact j_mna hl ha hd e1 rfl (Nat.le_trans e2 hNb) hz hK hb (by omega) (by omega) (k _ _ hv)
theorem jj_new {P : Nat → qH → Prop} {ci idx N : Nat} {C : String} {T : u_T} {ty0 : Nat → FieldType} {fs : List Value} (hc : q_cl ci C T N) (hty : ∀ k, k < N → parseFieldDescriptor (T k).2.2.1 = some (ty0 k)) (hl : Cond.classLink Y.1.cls idx C ∈ q_W) (hi : Cond.instantiable C N ∈ q_W) (hini : Cond.initialized C ∈ q_W) (hd : decode Y.2.1 pc = .ok (.new idx, 3))
    (hf : ∀ (g : qG) (ad : Nat → Nat) (j : Nat), j < N → defaultValue (ty0 j) = vp_V (fs.map (q_tv g ad)) j) (hw : ∀ n, ∀ v ∈ fs, q_wv n v) {kc' ks' : Nat} (hk1 : kc' + 1 ≤ kc) (hk2 : ks' + N ≤ ks) (hv : qNW h ci fs P)
    (k : ∀ (r : Nat) (h' : qH), P r h' → q_J l d Y mc ms Q QX n0 (pc + 3) lo (.ref r :: st) h' kc' ks') : q_J l d Y mc ms Q QX n0 pc lo st h kc ks := j_new hc hty hl hi hini hd hf hw hk1 hk2 (k _ _ hv)
end QT9
