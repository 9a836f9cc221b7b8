/-! ===== every step ===== -/
def jw_rv (ins : Instr) (rt : Nat) (v : Option Value) : Prop := (ins = .ireturn ∧ rt = 1 ∧ ∃ z, v = some (.int z)) ∨ (ins = .ireturn ∧ rt = 4 ∧ ∃ z, v = some (.int z) ∧ (z = 0 ∨ z = 1)) ∨ (ins = .lreturn ∧ rt = 2 ∧ ∃ z, v = some (.long z)) ∨ (ins = .areturn ∧ rt = 3 ∧ ((∃ q, v = some (.ref q)) ∨ v = some .null)) ∨ (ins = .return_ ∧ rt = 0 ∧ v = none)
section
variable {p : Program} {l : Launch} {e : Env} {R : Room} {s : State} {m : MethodId} {args : Array Value} {below : List Frame} {meth : Method} {c : Code} {Z : State → Prop}
variable {D : va_G} {aC : Nat → ClassId} {b B : Nat} {X : jv_X} {M : jv_M} {n0 d : Nat} {ad0 : Nat → Nat} {cc : ByteArray} {o : Nat} {ini : Bool}
theorem jw_bi (Cx : jw_Cx p s m args c R D aC b B X M (d + 1) cc o) {P : jv_P} {pc idx len x1 x2 : Nat} {xs : List Nat} {ci : Int32} {cl : Int64} {ins : Instr} {cs : List jv_E} {ls st : List Value} {h : jv_H} {k : Nat} (hB : jw_BF (o, idx, x1)) (hdec : decode cc pc = .ok (ins, 3)) (hins : (x1 = 0 ∧ ins = .invokespecial idx) ∨ (x1 ≠ 0 ∧ ins = .invokestatic idx))
    (hP : ∀ ls st h k, P (pc + 3) cs ls st h k → jw_Wp p l e R s m args below meth c Z D aC b B M n0 ad0 (pc + 3) ls st h k)
    (H : jv_bi SHT n0 P pc (ins, len, x1, x2, xs, ci, cl) cs ls st h k) : jw_Wp p l e R s m args below meth c Z D aC b B M n0 ad0 pc ls st h k := by
  obtain ⟨hx, hb, hml, hown, hts, ⟨hK, hNx⟩, hX, hBB, hR⟩ := Cx
  obtain ⟨w1, w2⟩ := hB
  have w1 : Cond.methodLink (jw_own o) idx (jw_bn x1) ∈ lw_tbl := w1
  have w2 : x1 < 5 := w2
  unfold jv_bi at H
  dsimp only at H
  split at H
  · have hi : ins = .invokespecial idx := hins.elim (fun z => z.2) (fun z => absurd rfl z.1)
    subst hi
    split at H
    · rename_i q st'
      split at H
      · rename_i hc
        have hc := Nat.le_of_ble_eq_true hc
        intro ad lsm HH locs St
        obtain ⟨h1, h2, h3, h4, h5, h6, h7, h8, h9, h10⟩ := id St
        exact W.objInit hx hb hown (hts _ (jw_g w1 rfl)) (hts _ (jw_g jq_b_init.1 rfl)) (hts _ (jw_g jq_b_init.2 rfl)) rfl (by rw [hml]; exact h1.1) rfl hdec (by omega) (by
          show 2 * 0 + ((st'.map (jw_v (jw_a b ad))).map fun v => v.category).sum + 12 ≤ _
          rw [jw_cat_map]
          omega) (hP _ _ _ _ H ad lsm HH locs ⟨h1, h2, jw_d1 h3, h4, h5, h6, h7, h8, h9, h10⟩)
      · exact H.elim
    · exact H.elim
  · have hi : ins = .invokestatic idx := hins.elim (fun z => absurd z.1 (by decide)) (fun z => z.2)
    subst hi
    split at H
    · rename_i xx st'
      split at H
      · rename_i hc
        have hc := Nat.le_of_ble_eq_true hc
        intro ad lsm HH locs St
        obtain ⟨h1, h2, h3, h4, h5, h6, h7, h8, h9, h10⟩ := id St
        exact va_mabs_long (own := jw_own o) (rest := st'.map (jw_v (jw_a b ad))) hx hb (by rw [hml]; exact h1.1.symm) hown (hts _ (jw_g w1 rfl)) (hts _ (jw_g jq_b_abs.1 rfl)) (hts _ (jw_g jq_b_abs.2.1 rfl)) (hts _ (jw_g jq_b_abs.2.2 rfl)) (by omega) (by
          rw [jw_cat_map]
          omega) (by omega) (by have := jv_S_mono (show n0 ≤ n0 + k by omega); omega) hdec (hP _ _ _ _ H ad lsm HH locs ⟨h1, h2, jw_pL (jw_d1 h3), h4, h5, h6, h7, h8, h9, h10⟩)
      · exact H.elim
    · exact H.elim
  · have hi : ins = .invokestatic idx := hins.elim (fun z => absurd z.1 (by decide)) (fun z => z.2)
    subst hi
    split at H
    · rename_i yy xx st'
      split at H
      · rename_i hc
        have hc := Nat.le_of_ble_eq_true hc
        intro ad lsm HH locs St
        obtain ⟨h1, h2, h3, h4, h5, h6, h7, h8, h9, h10⟩ := id St
        exact va_mmax (own := jw_own o) (rest := st'.map (jw_v (jw_a b ad))) hx hb (by rw [hml]; exact h1.1.symm) hown (hts _ (jw_g w1 rfl)) (hts _ (jw_g jq_b_max.1 rfl)) (hts _ (jw_g jq_b_max.2.1 rfl)) (hts _ (jw_g jq_b_max.2.2 rfl)) (by omega) (by
          rw [jw_cat_map]
          omega) (by omega) (by have := jv_S_mono (show n0 ≤ n0 + k by omega); omega) hdec (hP _ _ _ _ H ad lsm HH locs ⟨h1, h2, jw_pI (jw_d2 h3), h4, h5, h6, h7, h8, h9, h10⟩)
      · exact H.elim
    · exact H.elim
  · have hi : ins = .invokestatic idx := hins.elim (fun z => absurd z.1 (by decide)) (fun z => z.2)
    subst hi
    split at H
    · rename_i yy xx st'
      split at H
      · rename_i hc
        have hc := Nat.le_of_ble_eq_true hc
        intro ad lsm HH locs St
        obtain ⟨h1, h2, h3, h4, h5, h6, h7, h8, h9, h10⟩ := id St
        exact va_mmin (own := jw_own o) (rest := st'.map (jw_v (jw_a b ad))) hx hb (by rw [hml]; exact h1.1.symm) hown (hts _ (jw_g w1 rfl)) (hts _ (jw_g jq_b_min.1 rfl)) (hts _ (jw_g jq_b_min.2.1 rfl)) (hts _ (jw_g jq_b_min.2.2 rfl)) (by omega) (by
          rw [jw_cat_map]
          omega) (by omega) (by have := jv_S_mono (show n0 ≤ n0 + k by omega); omega) hdec (hP _ _ _ _ H ad lsm HH locs ⟨h1, h2, jw_pI (jw_d2 h3), h4, h5, h6, h7, h8, h9, h10⟩)
      · exact H.elim
    · exact H.elim
  · rename_i z0 z1 z2 z3
    have hx1 : x1 = 4 := by
      have e0 : x1 ≠ 0 := z0
      have e1 : x1 ≠ 1 := z1
      have e2 : x1 ≠ 2 := z2
      have e3 : x1 ≠ 3 := z3
      omega
    subst hx1
    have hi : ins = .invokestatic idx := hins.elim (fun z => absurd z.1 (by decide)) (fun z => z.2)
    subst hi
    split at H
    · rename_i nn dp q sp q0 st'
      split at H
      · rename_i hc
        have hc := Nat.le_of_ble_eq_true hc
        obtain ⟨⟨i0, i1, i2, i3, i4, i5, i6⟩, H⟩ := H
        intro ad lsm HH locs St
        obtain ⟨h1, h2, h3, h4, h5, h6, h7, h8, h9, h10⟩ := id St
        show W p l e R s m args below meth c HH locs k _ Z (F0 m pc lsm (.int nn :: .int dp :: .ref (jw_a b ad q) :: .int sp :: .ref (jw_a b ad q0) :: st'.map (jw_v (jw_a b ad))))
        rw [jw_a_lt i0.1 h6, jw_a_lt i1.1 h6]
        refine va_copyl (own := jw_own o) hx hb (by rw [hml]; exact h1.1.symm) hown (hts _ (jw_g w1 rfl)) (hts _ (jw_g jq_b_copy.1 rfl)) (hts _ (jw_g jq_b_copy.2.1 rfl)) (hts _ (jw_g jq_b_copy.2.2 rfl)) hK h7 h8 h9 q0 q 1 1 (by rw [jw_W_get i0.1, jw_e_L i0.2]) (by rw [jw_W_get i1.1, jw_e_L i1.2]) rfl rfl rfl (jw_nneg i2) (jw_nneg i3) (jw_nneg i4) (by show sp.toInt.toNat + nn.toInt.toNat ≤ _; omega) (by show dp.toInt.toNat + nn.toInt.toNat ≤ _; omega) (fun _ _ => rfl) (by omega) (by
          rw [jw_cat_map]
          have : nativeFrameWords "java/lang/System" "arraycopy" 5 ≤ 20 := by decide
          omega) hdec (fun H1 locs1 g1 g2 g3 => ?_)
        rw [jw_W_set (h := h) (h' := jv_cp h q0 sp.toNatClampNeg q dp.toNatClampNeg nn.toNatClampNeg) (fun w hw => jw_e_congr rfl (by funext j; simp [jv_cp, hw]) rfl) (by
          rw [jw_e_L i1.2]
          congr 5
          funext j
          simp [jv_cp, va_cpy])] at g1 g2
        exact hP _ _ _ _ H ad lsm H1 locs1 ⟨h1, h2, jw_d2 (jw_d3 h3), h4, h5, h6, g1, g2, g3, h10⟩
      · exact H.elim
    · exact H.elim
end
