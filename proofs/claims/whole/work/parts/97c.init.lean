/-! ===== the constructors: leaves ===== -/
def oF (a b : Nat) (h h' : jv_H) : Prop := ∀ q, q < a ∨ b ≤ q → h'.1 q = h.1 q ∧ h'.2.1 q = h.2.1 q ∧ h'.2.2 q = h.2.2 q
theorem oF.rf {a b : Nat} {h : jv_H} : oF a b h h := fun _ _ => ⟨rfl, rfl, rfl⟩
theorem oF.tr {a b : Nat} {h h' h'' : jv_H} (x : oF a b h h') (y : oF a b h' h'') : oF a b h h'' := fun q hq => ⟨(y q hq).1.trans (x q hq).1, (y q hq).2.1.trans (x q hq).2.1, (y q hq).2.2.trans (x q hq).2.2⟩
theorem oF.mono {a b c e : Nat} {h h' : jv_H} (x : oF a b h h') (h1 : c ≤ a) (h2 : b ≤ e) : oF c e h h' := fun q hq => x q (by omega)
theorem oF.uI {a b : Nat} {h h' : jv_H} (x : oF a b h h') {o i : Nat} {v : Int32} (ho : a ≤ o ∧ o < b) : oF a b h (jv_uI h' o i v) := x.tr (fun q hq => ⟨funext (fun j => uI_ne (by omega)), rfl, rfl⟩)
theorem oF.uL {a b : Nat} {h h' : jv_H} (x : oF a b h h') {o i : Nat} {v : Int64} (ho : a ≤ o ∧ o < b) : oF a b h (jv_uL h' o i v) := x.tr (fun q hq => ⟨rfl, funext (fun j => uL_ne (by omega)), rfl⟩)
theorem oF.uR {a b : Nat} {h h' : jv_H} (x : oF a b h h') {o i : Nat} {v : Option Nat} (ho : a ≤ o ∧ o < b) : oF a b h (jv_uR h' o i v) := x.tr (fun q hq => ⟨rfl, rfl, funext (fun j => if_neg (by omega))⟩)
theorem oF.z {a b : Nat} {h h' : jv_H} (x : oF a b h h') {o : Nat} (ho : a ≤ o ∧ o < b) : oF a b h (jv_z h' o) := x.tr (fun q hq => ⟨funext (fun j => if_neg (by omega)), funext (fun j => if_neg (by omega)), funext (fun j => if_neg (by omega))⟩)
theorem gR_uR (h : jv_H) (a i : Nat) (v : Option Nat) (b j : Nat) : (jv_uR h a i v).2.2 b j = if b = a ∧ j = i then v else h.2.2 b j := rfl
section
variable (X : jv_X) (d : Nat) (h : jv_H) (K : jv_H → Prop)
theorem i_Ladder (o : Nat) (s0 : SHT o = (13, 6)) (s1 : SHT (o + 1) = (0, 12)) (s2 : SHT (o + 1 + 1) = (2, 12)) (s3 : SHT (o + 1 + 2) = (1, 12)) (hK : ∀ h', oF o (o + 4) h h' → h'.2.2 o 0 = some (o + 1) ∧ h'.2.2 o 1 = some (o + 2) ∧ h'.2.2 o 2 = some (o + 3) → K h') : jV X (d + 2) y_Ladder_init [.ref o] (o + 1) h K := by
  have e0 : (SHT o).1 = 13 := by rw [s0]
  have t1 : jv_S SHT (o + 1 + 1) = jv_S SHT (o + 1) + 12 := by rw [jv_S_succ, s1]
  have t2 : jv_S SHT (o + 1 + 2) = jv_S SHT (o + 1 + 1) + 12 := by rw [show o + 1 + 2 = (o + 1 + 1) + 1 from rfl, jv_S_succ, s2]
  have t3 : jv_S SHT (o + 1 + 3) = jv_S SHT (o + 1 + 2) + 12 := by rw [show o + 1 + 3 = (o + 1 + 2) + 1 from rfl, jv_S_succ, s3]
  have e12 : (12 : Int32).toNatClampNeg = 12 := rfl
  refine r_Ladder_init X d (o + 1) _ o h ⟨⟨by decide, s1, by decide, by decide, by decide, by show jv_S SHT (o + 1) + 12 ≤ _; omega⟩, ⟨by omega, e0⟩, by omega, ⟨by decide, s2, by decide, by decide, by decide, by rw [e12]; omega⟩, ⟨by omega, e0⟩, by omega, ⟨by decide, s3, by decide, by decide, by decide, by rw [e12]; omega⟩, ⟨by omega, e0⟩, by omega, ⟨by omega, e0⟩, ⟨by omega, e0⟩, ⟨by omega, e0⟩, ⟨rfl, by omega⟩, ?_⟩
  refine hK _ (((((((((oF.rf.z (by omega)).uR (by omega)).z (by omega)).uR (by omega)).z (by omega)).uR (by omega)).uI (by omega)).uI (by omega)).uL (by omega)) ⟨?_, ?_, ?_⟩
  · show (jv_uR (jv_z (jv_uR (jv_z (jv_uR (jv_z h (o + 1)) o 0 (some (o + 1))) (o + 1 + 1)) o 1 (some (o + 1 + 1))) (o + 1 + 2)) o 2 (some (o + 1 + 2))).2.2 o 0 = _
    rw [gR_uR, if_neg (by omega)]
    show (if o = o + 1 + 2 then none else (jv_uR (jv_z (jv_uR (jv_z h (o + 1)) o 0 (some (o + 1))) (o + 1 + 1)) o 1 (some (o + 1 + 1))).2.2 o 0) = _
    rw [if_neg (by omega), gR_uR, if_neg (by omega)]
    show (if o = o + 1 + 1 then none else (jv_uR (jv_z h (o + 1)) o 0 (some (o + 1))).2.2 o 0) = _
    rw [if_neg (by omega), gR_uR, if_pos ⟨rfl, rfl⟩]
  · show (jv_uR (jv_z (jv_uR (jv_z (jv_uR (jv_z h (o + 1)) o 0 (some (o + 1))) (o + 1 + 1)) o 1 (some (o + 1 + 1))) (o + 1 + 2)) o 2 (some (o + 1 + 2))).2.2 o 1 = _
    rw [gR_uR, if_neg (by omega)]
    show (if o = o + 1 + 2 then none else (jv_uR (jv_z (jv_uR (jv_z h (o + 1)) o 0 (some (o + 1))) (o + 1 + 1)) o 1 (some (o + 1 + 1))).2.2 o 1) = _
    rw [if_neg (by omega), gR_uR, if_pos ⟨rfl, rfl⟩]
  · show (jv_uR (jv_z (jv_uR (jv_z (jv_uR (jv_z h (o + 1)) o 0 (some (o + 1))) (o + 1 + 1)) o 1 (some (o + 1 + 1))) (o + 1 + 2)) o 2 (some (o + 1 + 2))).2.2 o 2 = _
    rw [gR_uR, if_pos ⟨rfl, rfl⟩]
theorem gR_z (h : jv_H) (k b j : Nat) : (jv_z h k).2.2 b j = if b = k then none else h.2.2 b j := rfl
theorem gR_uI (h : jv_H) (a i : Nat) (v : Int32) (b j : Nat) : (jv_uI h a i v).2.2 b j = h.2.2 b j := rfl
theorem gR_uL (h : jv_H) (a i : Nat) (v : Int64) (b j : Nat) : (jv_uL h a i v).2.2 b j = h.2.2 b j := rfl
theorem i_Bins (o : Nat) (s0 : SHT o = (10, 4)) (s1 : SHT (o + 1) = (1, 10)) (s2 : SHT (o + 1 + 1) = (0, 10)) (s3 : SHT (o + 1 + 2) = (0, 10)) (hK : ∀ h', oF o (o + 4) h h' → h'.2.2 o 0 = some (o + 1) ∧ h'.2.2 o 1 = some (o + 2) ∧ h'.2.2 o 2 = some (o + 3) → h'.1 o 3 = 0 → K h') : jV X (d + 2) y_Bins_init [.ref o] (o + 1) h K := by
  have e0 : (SHT o).1 = 10 := by rw [s0]
  have t1 : jv_S SHT (o + 1 + 1) = jv_S SHT (o + 1) + 10 := by rw [jv_S_succ, s1]
  have t2 : jv_S SHT (o + 1 + 2) = jv_S SHT (o + 1 + 1) + 10 := by rw [show o + 1 + 2 = (o + 1 + 1) + 1 from rfl, jv_S_succ, s2]
  have t3 : jv_S SHT (o + 1 + 3) = jv_S SHT (o + 1 + 2) + 10 := by rw [show o + 1 + 3 = (o + 1 + 2) + 1 from rfl, jv_S_succ, s3]
  have e12 : (10 : Int32).toNatClampNeg = 10 := rfl
  refine r_Bins_init X d (o + 1) _ o h ⟨⟨by decide, s1, by decide, by decide, by decide, by show jv_S SHT (o + 1) + 10 ≤ _; omega⟩, ⟨by omega, e0⟩, by omega, ⟨by decide, s2, by decide, by decide, by decide, by rw [e12]; omega⟩, ⟨by omega, e0⟩, by omega, ⟨by decide, s3, by decide, by decide, by decide, by rw [e12]; omega⟩, ⟨by omega, e0⟩, by omega, ⟨by omega, e0⟩, ⟨rfl, by omega⟩, ?_⟩
  refine hK _ (((((((oF.rf.z (by omega)).uR (by omega)).z (by omega)).uR (by omega)).z (by omega)).uR (by omega)).uI (by omega)) ⟨?_, ?_, ?_⟩ uI_eq
  · simp [gR_uR, gR_z, gR_uI] <;> omega
  · simp [gR_uR, gR_z, gR_uI] <;> omega
  · simp [gR_uR, gR_z, gR_uI] <;> omega
theorem i_Holder (o : Nat) (s0 : SHT o = (12, 6)) (s1 : SHT (o + 1) = (1, 40)) (hK : ∀ h', oF o (o + 2) h h' → h'.2.2 o 0 = some (o + 1) → h'.1 o 1 = 0 → K h') : jV X (d + 2) y_Holder_init [.ref o] (o + 1) h K := by
  have e0 : (SHT o).1 = 12 := by rw [s0]
  have t1 : jv_S SHT (o + 1 + 1) = jv_S SHT (o + 1) + 40 := by rw [jv_S_succ, s1]
  refine r_Holder_init X d (o + 1) _ o h ⟨⟨by decide, s1, by decide, by decide, by decide, by show jv_S SHT (o + 1) + 40 ≤ _; omega⟩, ⟨by omega, e0⟩, by omega, ⟨by omega, e0⟩, ⟨by omega, e0⟩, ⟨by omega, e0⟩, ⟨by omega, e0⟩, Or.inl rfl, ⟨by omega, e0⟩, ⟨rfl, by omega⟩, ?_⟩
  refine hK _ (((((((oF.rf.z (by omega)).uR (by omega)).uI (by omega)).uI (by omega)).uI (by omega)).uI (by omega)).uL (by omega)) ?_ ?_
  · simp [gR_uR, gR_z, gR_uI, gR_uL] <;> omega
  · show (jv_uI (jv_uI (jv_uI (jv_uI (jv_uR (jv_z h (o + 1)) o 0 (some (o + 1))) o 1 0) o 2 0) o 3 0) o 4 0).1 o 1 = 0
    rw [uI_ne (by omega), uI_ne (by omega), uI_ne (by omega), uI_eq]
theorem i_Tape (o : Nat) (s0 : SHT o = (16, 5)) (s1 : SHT (o + 1) = (0, 100)) (hK : ∀ h', oF o (o + 2) h h' → h'.2.2 o 0 = some (o + 1) → h'.1 o 1 = 0 → K h') : jV X (d + 2) y_Tape_init [.ref o] (o + 1) h K := by
  have e0 : (SHT o).1 = 16 := by rw [s0]
  have t1 : jv_S SHT (o + 1 + 1) = jv_S SHT (o + 1) + 100 := by rw [jv_S_succ, s1]
  refine r_Tape_init X d (o + 1) _ o h ⟨⟨by decide, s1, by decide, by decide, by decide, by show jv_S SHT (o + 1) + 100 ≤ _; omega⟩, ⟨by omega, e0⟩, by omega, ⟨by omega, e0⟩, ⟨by omega, e0⟩, ⟨by omega, e0⟩, ⟨by omega, e0⟩, ⟨rfl, by omega⟩, ?_⟩
  refine hK _ ((((((oF.rf.z (by omega)).uR (by omega)).uI (by omega)).uI (by omega)).uL (by omega)).uL (by omega)) ?_ ?_
  · simp [gR_uR, gR_z, gR_uI, gR_uL] <;> omega
  · show (jv_uI (jv_uI (jv_uR (jv_z h (o + 1)) o 0 (some (o + 1))) o 1 0) o 2 0).1 o 1 = 0
    rw [uI_ne (by omega), uI_eq]
theorem i_Wants (o : Nat) (s0 : SHT o = (17, 6)) (s1 : SHT (o + 1) = (0, 24)) (s2 : SHT (o + 1 + 1) = (1, 24)) (s3 : SHT (o + 1 + 2) = (0, 24)) (s4 : SHT (o + 1 + 3) = (0, 24)) (hK : ∀ h', oF o (o + 5) h h' → h'.2.2 o 0 = some (o + 1) ∧ h'.2.2 o 1 = some (o + 2) ∧ h'.2.2 o 2 = some (o + 3) ∧ h'.2.2 o 3 = some (o + 4) → h'.1 o 4 = 0 ∧ h'.1 o 5 = 0 → K h') : jV X (d + 2) y_Wants_init [.ref o] (o + 1) h K := by
  have e0 : (SHT o).1 = 17 := by rw [s0]
  have t1 : jv_S SHT (o + 1 + 1) = jv_S SHT (o + 1) + 24 := by rw [jv_S_succ, s1]
  have t2 : jv_S SHT (o + 1 + 2) = jv_S SHT (o + 1 + 1) + 24 := by rw [show o + 1 + 2 = (o + 1 + 1) + 1 from rfl, jv_S_succ, s2]
  have t3 : jv_S SHT (o + 1 + 3) = jv_S SHT (o + 1 + 2) + 24 := by rw [show o + 1 + 3 = (o + 1 + 2) + 1 from rfl, jv_S_succ, s3]
  have t4 : jv_S SHT (o + 1 + 4) = jv_S SHT (o + 1 + 3) + 24 := by rw [show o + 1 + 4 = (o + 1 + 3) + 1 from rfl, jv_S_succ, s4]
  have e12 : (24 : Int32).toNatClampNeg = 24 := rfl
  refine r_Wants_init X d (o + 1) _ o h ⟨⟨by decide, s1, by decide, by decide, by decide, by show jv_S SHT (o + 1) + 24 ≤ _; omega⟩, ⟨by omega, e0⟩, by omega, ⟨by decide, s2, by decide, by decide, by decide, by rw [e12]; omega⟩, ⟨by omega, e0⟩, by omega, ⟨by decide, s3, by decide, by decide, by decide, by rw [e12]; omega⟩, ⟨by omega, e0⟩, by omega, ⟨by decide, s4, by decide, by decide, by decide, by rw [e12]; omega⟩, ⟨by omega, e0⟩, by omega, ⟨by omega, e0⟩, ⟨by omega, e0⟩, ⟨rfl, by omega⟩, ?_⟩
  refine hK _ ((((((((((oF.rf.z (by omega)).uR (by omega)).z (by omega)).uR (by omega)).z (by omega)).uR (by omega)).z (by omega)).uR (by omega)).uI (by omega)).uI (by omega)) ⟨?_, ?_, ?_, ?_⟩ ⟨?_, uI_eq⟩
  · simp [gR_uR, gR_z, gR_uI] <;> omega
  · simp [gR_uR, gR_z, gR_uI] <;> omega
  · simp [gR_uR, gR_z, gR_uI] <;> omega
  · simp [gR_uR, gR_z, gR_uI] <;> omega
  · rw [uI_ne (by omega), uI_eq]
end
