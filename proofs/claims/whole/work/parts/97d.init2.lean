/-! ===== the constructors: polys, ratios, the divider ===== -/
theorem oS.F {S : Nat → Prop} {a b : Nat} {h h' : jv_H} (x : oS S h h') (hS : ∀ q, S q → a ≤ q ∧ q < b) : oF a b h h' := fun q hq => ⟨(x.2 q (fun z => by have := hS q z; omega)).1, (x.2 q (fun z => by have := hS q z; omega)).2, by rw [x.1]⟩
section
variable (X : jv_X) (d : Nat) (h : jv_H) (K : jv_H → Prop)
theorem i_Poly (o : Nat) (s0 : SHT o = (14, 1)) (s1 : SHT (o + 1) = (1, 13)) (hK : ∀ h', oF o (o + 2) h h' → h'.2.2 o 0 = some (o + 1) → K h') : jV X (d + 2) y_Poly_init [.ref o] (o + 1) h K := by
  have e0 : (SHT o).1 = 14 := by rw [s0]
  have t1 : jv_S SHT (o + 1 + 1) = jv_S SHT (o + 1) + 13 := by rw [jv_S_succ, s1]
  have er : (jv_uR (jv_z h (o + 1)) o 0 (some (o + 1))).2.2 o 0 = some (o + 1) := by rw [gR_uR, if_pos ⟨rfl, rfl⟩]
  refine r_Poly_init X d (o + 1) _ o h ⟨⟨by decide, s1, by decide, by decide, by decide, by show jv_S SHT (o + 1) + 13 ≤ _; omega⟩, ⟨by omega, e0⟩, by omega, ⟨by omega, e0⟩, c_clear X d _ _ _ o (o + 1) ⟨⟨by omega, e0⟩, er, by omega, s1⟩ (fun h' o' _ => ⟨⟨rfl, by omega⟩, ?_⟩)⟩
  exact hK h' (((oF.rf.z (by omega)).uR (by omega)).tr (o'.F (fun q z => by omega))) (by rw [o'.1]; exact er)
theorem i_Ratio (o : Nat) (s0 : SHT o = (15, 2)) (s1 : SHT (o + 1) = (14, 1)) (s2 : SHT (o + 1 + 1) = (1, 13)) (s3 : SHT (o + 1 + 2) = (14, 1)) (s4 : SHT (o + 1 + 2 + 1) = (1, 13)) (hK : ∀ h', oF o (o + 5) h h' → h'.2.2 o 0 = some (o + 1) ∧ h'.2.2 o 1 = some (o + 3) → h'.2.2 (o + 1) 0 = some (o + 2) ∧ h'.2.2 (o + 3) 0 = some (o + 4) → K h') : jV X (d + 3) y_Ratio_init [.ref o] (o + 1) h K := by
  have e0 : (SHT o).1 = 15 := by rw [s0]
  have t1 : jv_S SHT (o + 1 + 1) = jv_S SHT (o + 1) + 1 := by rw [jv_S_succ, s1]
  have t2 : jv_S SHT (o + 1 + 2) = jv_S SHT (o + 1 + 1) + 13 := by rw [show o + 1 + 2 = (o + 1 + 1) + 1 from rfl, jv_S_succ, s2]
  have t3 : jv_S SHT (o + 1 + 3) = jv_S SHT (o + 1 + 2) + 1 := by rw [show o + 1 + 3 = (o + 1 + 2) + 1 from rfl, jv_S_succ, s3]
  have t4 : jv_S SHT (o + 1 + 4) = jv_S SHT (o + 1 + 3) + 13 := by rw [show o + 1 + 4 = (o + 1 + 2 + 1) + 1 from rfl, jv_S_succ, s4]
  refine r_Ratio_init X (d + 1) (o + 1) _ o h ⟨⟨s1, by decide, by show jv_S SHT (o + 1) + 1 ≤ _; omega⟩, by omega, ⟨by decide, by omega⟩, i_Poly X d _ _ (o + 1) s1 s2 (fun h1 f1 r1 => ⟨⟨by omega, e0⟩, by omega, ⟨s3, by decide, by omega⟩, by omega, ⟨by decide, by omega⟩, i_Poly X d _ _ (o + 1 + 2) s3 s4 (fun h2 f2 r2 => ⟨⟨by omega, e0⟩, by omega, ⟨rfl, by omega⟩, ?_⟩)⟩)⟩
  have q0 := (f2 o (by omega)).2.2
  have q1 := (f2 (o + 1) (by omega)).2.2
  refine hK _ (((((oF.rf.z (by omega)).tr (f1.mono (by omega) (by omega))).uR (by omega)).z (by omega)).tr (f2.mono (by omega) (by omega)) |>.uR (by omega)) ⟨?_, ?_⟩ ⟨?_, ?_⟩
  · rw [gR_uR, if_neg (by omega), q0, gR_z, if_neg (by omega), gR_uR, if_pos ⟨rfl, rfl⟩]
  · rw [gR_uR, if_pos ⟨rfl, rfl⟩]
  · rw [gR_uR, if_neg (by omega), q1, gR_z, if_neg (by omega), gR_uR, if_neg (by omega)]
    exact r1
  · rw [gR_uR, if_neg (by omega)]
    exact r2
theorem i_Divider (o : Nat) (s0 : SHT o = (11, 4)) (s1 : SHT (o + 1) = (14, 1)) (s2 : SHT (o + 1 + 1) = (1, 13)) (s3 : SHT (o + 1 + 2) = (14, 1)) (s4 : SHT (o + 1 + 2 + 1) = (1, 13)) (hK : ∀ h', oF o (o + 5) h h' → h'.2.2 o 0 = some (o + 1) ∧ h'.2.2 o 1 = some (o + 3) → h'.2.2 (o + 1) 0 = some (o + 2) ∧ h'.2.2 (o + 3) 0 = some (o + 4) → K h') : jV X (d + 3) y_Divider_init [.ref o] (o + 1) h K := by
  have e0 : (SHT o).1 = 11 := by rw [s0]
  have t1 : jv_S SHT (o + 1 + 1) = jv_S SHT (o + 1) + 1 := by rw [jv_S_succ, s1]
  have t2 : jv_S SHT (o + 1 + 2) = jv_S SHT (o + 1 + 1) + 13 := by rw [show o + 1 + 2 = (o + 1 + 1) + 1 from rfl, jv_S_succ, s2]
  have t3 : jv_S SHT (o + 1 + 3) = jv_S SHT (o + 1 + 2) + 1 := by rw [show o + 1 + 3 = (o + 1 + 2) + 1 from rfl, jv_S_succ, s3]
  have t4 : jv_S SHT (o + 1 + 4) = jv_S SHT (o + 1 + 3) + 13 := by rw [show o + 1 + 4 = (o + 1 + 2 + 1) + 1 from rfl, jv_S_succ, s4]
  refine r_Divider_init X (d + 1) (o + 1) _ o h ⟨⟨s1, by decide, by show jv_S SHT (o + 1) + 1 ≤ _; omega⟩, by omega, ⟨by decide, by omega⟩, i_Poly X d _ _ (o + 1) s1 s2 (fun h1 f1 r1 => ⟨⟨by omega, e0⟩, by omega, ⟨s3, by decide, by omega⟩, by omega, ⟨by decide, by omega⟩, i_Poly X d _ _ (o + 1 + 2) s3 s4 (fun h2 f2 r2 => ⟨⟨by omega, e0⟩, by omega, ⟨by omega, e0⟩, Or.inl rfl, ⟨by omega, e0⟩, Or.inr rfl, ⟨rfl, by omega⟩, ?_⟩)⟩)⟩
  have q0 := (f2 o (by omega)).2.2
  have q1 := (f2 (o + 1) (by omega)).2.2
  refine hK _ ((((((oF.rf.z (by omega)).tr (f1.mono (by omega) (by omega))).uR (by omega)).z (by omega)).tr (f2.mono (by omega) (by omega)) |>.uR (by omega)).uI (by omega) |>.uI (by omega)) ⟨?_, ?_⟩ ⟨?_, ?_⟩
  · rw [gR_uI, gR_uI, gR_uR, if_neg (by omega), q0, gR_z, if_neg (by omega), gR_uR, if_pos ⟨rfl, rfl⟩]
  · rw [gR_uI, gR_uI, gR_uR, if_pos ⟨rfl, rfl⟩]
  · rw [gR_uI, gR_uI, gR_uR, if_neg (by omega), q1, gR_z, if_neg (by omega), gR_uR, if_neg (by omega)]
    exact r1
  · rw [gR_uI, gR_uI, gR_uR, if_neg (by omega)]
    exact r2
end
