/-! ===== the constructors: the class itself ===== -/
theorem mkS : (∀ j, j < 6 → SHT (159 + 2 * j) = (12, 6) ∧ SHT (159 + 2 * j + 1) = (1, 40)) ∧ ∀ j, j < 7 → jv_S SHT (159 + 2 * j) = jv_S SHT 1 + 1459 + 46 * j := by decide +kernel
/-- j holders are made, and all before them -/
def mkI (h : jv_H) (j : Nat) : Prop := (h.2.2 0 0 = some 1 ∧ h.2.2 0 1 = some 3 ∧ h.2.2 0 2 = some 8 ∧ h.2.2 0 3 = some 83 ∧ h.2.2 0 4 = some 158) ∧ h.2.2 1 0 = some 2 ∧ (h.2.2 3 0 = some 4 ∧ h.2.2 3 1 = some 6 ∧ h.2.2 4 0 = some 5 ∧ h.2.2 6 0 = some 7) ∧ wsI h 8 6 6 3 ∧ wsI h 83 6 6 3 ∧ h.1 1 1 = 0 ∧ ∀ k, k < j → h.2.2 158 k = some (159 + 2 * k) ∧ h.2.2 (159 + 2 * k) 0 = some (159 + 2 * k + 1) ∧ h.1 (159 + 2 * k) 1 = 0
theorem mkI.mv {h h' : jv_H} {j : Nat} (i : mkI h j) (f : ∀ q, q < 159 + 2 * j → h'.1 q = h.1 q ∧ h'.2.2 q = h.2.2 q) : mkI h' j := by
  obtain ⟨i1, i2, i3, i4, i5, i6, i7⟩ := i
  refine ⟨by rw [(f 0 (by omega)).2]; exact i1, by rw [(f 1 (by omega)).2]; exact i2, by rw [(f 3 (by omega)).2, (f 4 (by omega)).2, (f 6 (by omega)).2]; exact i3, i4.mv (e := 158) (by omega) (by omega) (by omega) (fun q _ hq => f q (by omega)), i5.mv (e := 158) (by omega) (by omega) (by omega) (fun q _ hq => f q (by omega)), by rw [(f 1 (by omega)).1]; exact i6, fun k hk => ?_⟩
  rw [(f 158 (by omega)).2, (f (159 + 2 * k) (by omega)).1, (f (159 + 2 * k) (by omega)).2]
  exact i7 k hk
theorem mkI.add {h : jv_H} {j : Nat} (i : mkI h j) (r : h.2.2 (159 + 2 * j) 0 = some (159 + 2 * j + 1)) (z : h.1 (159 + 2 * j) 1 = 0) : mkI (jv_uR h 158 j (some (159 + 2 * j))) (j + 1) := by
  obtain ⟨i1, i2, i3, i4, i5, i6, i7⟩ := i
  refine ⟨by rw [uR_ne (by omega)]; exact i1, by rw [uR_ne (by omega)]; exact i2, by rw [uR_ne (by omega), uR_ne (by omega), uR_ne (by omega)]; exact i3, i4.mv (e := 158) (by omega) (by omega) (by omega) (fun q _ hq => ⟨rfl, uR_ne (by omega)⟩), i5.mv (e := 158) (by omega) (by omega) (by omega) (fun q _ hq => ⟨rfl, uR_ne (by omega)⟩), i6, fun k hk => ?_⟩
  rw [uR_ne (q := 159 + 2 * k) (by omega)]
  by_cases e : k = j
  · subst e
    exact ⟨by rw [gR_uR, if_pos ⟨rfl, rfl⟩], r, z⟩
  · rw [gR_uR, if_neg (by omega)]
    exact i7 k (by omega)
def zH0 : zH := (0, 0, fun _ => 0, 0, 0, (0, 1))
def zZ0 : zZ := ((0, fun _ => 0), zK0, none, fun _ => zH0)
theorem mkI.cs {h : jv_H} (i : mkI h 6) : CS (jv_uI h 0 5 0) zZ0 := by
  obtain ⟨i1, i2, i3, i4, i5, i6, i7⟩ := i
  have n1 : ∀ q, q ≠ 0 → (jv_uI h 0 5 0).1 q = h.1 q := fun q hq => funext (fun j => uI_ne (by omega))
  have j4 : wsI (jv_uI h 0 5 0) 8 6 6 3 := by
    refine ⟨i4.1, i4.2.1, ?_, i4.2.2.2.1, i4.2.2.2.2.1, fun k hk => ?_⟩
    · rw [n1 8 (by omega), n1 (8 + 4) (by omega)]
      exact i4.2.2.1
    · rw [n1 _ (by omega)]
      exact i4.2.2.2.2.2 k hk
  have j5 : wsI (jv_uI h 0 5 0) 83 6 6 3 := by
    refine ⟨i5.1, i5.2.1, ?_, i5.2.2.2.1, i5.2.2.2.2.1, fun k hk => ?_⟩
    · rw [n1 83 (by omega), n1 (83 + 4) (by omega)]
      exact i5.2.2.1
    · rw [n1 _ (by omega)]
      exact i5.2.2.2.2.2 k hk
  refine ⟨⟨i1, ⟨⟨by decide, rfl⟩, i2, by decide⟩, ⟨4, 6, ⟨by decide, rfl⟩, i3.1, i3.2.1, ⟨⟨by decide, rfl⟩, i3.2.2.1, by decide, rfl⟩, ⟨⟨by decide, rfl⟩, i3.2.2.2, by decide, rfl⟩, Or.inl ⟨rfl, rfl⟩⟩, j4.shp wsF_8, j5.shp wsF_83, fun k hk => ⟨(i7 k hk).1, ⟨by omega, by rw [(mkS.1 k hk).1]⟩, (i7 k hk).2.1, by omega, (mkS.1 k hk).2⟩⟩, ⟨?_, Nat.zero_le _, fun k hk => absurd hk (Nat.not_lt_zero k)⟩, j4.ck, uI_eq, fun K e => (by cases (show (none : Option zK) = some K from e)), fun k hk => ⟨?_, Or.inl rfl, fun e => absurd (show (0 : Int32) = 2 from e) (by decide), fun e => absurd (show (0 : Int32) = 1 from e) (by decide)⟩⟩
  · rw [n1 1 (by omega), i6]
    rfl
  · rw [n1 _ (by omega)]
    exact (i7 k hk).2.2
section
variable (X : jv_X) (d : Nat) (K : jv_H → Prop)
theorem mk_h (hK : ∀ h', CS h' zZ0 → K h') : ∀ m j (x1 : Int32) h, x1.toInt = (j : Nat) → j + m = 6 → mkI h j → a_Maker_init_59 X (d + 2) 1 (jv_rV K) 0 x1 h (158 + 2 * j) := by
  intro m
  induction m with
  | zero =>
    intro j x1 h hx hj i
    obtain rfl : j = 6 := by omega
    refine r_Maker_init_59 X (d + 1) 1 _ 0 x1 h _ ⟨fun _ => ⟨⟨by decide, rfl⟩, Or.inl rfl, ⟨rfl, ?_⟩, hK _ i.cs⟩, fun z => absurd ((nz_ge 6 6 rfl hx).mpr (by omega)) z⟩
    exact mkS.2 6 (by omega)
  | succ m ih =>
    intro j x1 h hx hj i
    obtain ⟨s0, s1⟩ := mkS.1 j (by omega)
    have S0 := mkS.2 j (by omega)
    have eo : 1 + (158 + 2 * j) = 159 + 2 * j := by omega
    rw [← eo] at s0 s1 S0
    have S1 := jv_S_succ (1 + (158 + 2 * j))
    rw [s0] at S1
    have S1 : jv_S SHT (1 + (158 + 2 * j + 1)) = jv_S SHT (1 + (158 + 2 * j)) + 6 := S1
    refine r_Maker_init_59 X (d + 1) 1 _ 0 x1 h _ ⟨fun z => absurd ((nz_ge 6 6 rfl hx).mp z) (by omega), fun _ => ⟨⟨by omega, rfl⟩, 158, i.1.2.2.2.2, ⟨s0, by omega, by omega⟩, by omega, ⟨by omega, by omega⟩, i_Holder X d _ _ (1 + (158 + 2 * j)) s0 s1 (fun h2 f2 r2 z2 => ⟨jx (len := 6) rfl (by omega) (by omega) (by omega), ⟨by omega, by rw [s0]⟩, ?_⟩)⟩⟩
    rw [nz_nat hx]
    have i2 : mkI h2 j := i.mv (fun q hq => ⟨by rw [(f2 q (by omega)).1]; exact funext (fun _ => if_neg (by omega)), by rw [(f2 q (by omega)).2.2]; exact funext (fun _ => if_neg (by omega))⟩)
    rw [eo] at r2 z2 ⊢
    have e := ih (j + 1) (x1 + 1) _ (nz_inc hx (by omega)) (by omega) (i2.add r2 z2)
    rw [show 158 + 2 * (j + 1) = 158 + 2 * j + 2 by omega] at e
    exact e
end
theorem i_Maker (X : jv_X) (d : Nat) (K : jv_H → Prop) (h : jv_H) (hK : ∀ h', CS h' zZ0 → K h') : jV X (d + 5) y_Maker_init [.ref 0] 1 h K := by
  refine r_Maker_init X (d + 3) 1 _ 0 h ⟨⟨rfl, by decide +kernel⟩, by decide, by decide +kernel, ?_⟩
  refine i_Tape X (d + 2) _ _ 1 rfl rfl (fun h1 f1 r1 z1 => ?_)
  refine ⟨⟨by decide, rfl⟩, by decide, ⟨rfl, by decide +kernel⟩, by decide, by decide +kernel, ?_⟩
  refine i_Divider X (d + 1) _ _ 3 rfl rfl rfl rfl rfl (fun h2 f2 r2 p2 => ?_)
  refine ⟨⟨by decide, rfl⟩, by decide, ⟨rfl, by decide +kernel⟩, by decide, by decide +kernel, ?_⟩
  refine i_Workshop X d 8 wsF_8 _ _ (fun h3 f3 w3 => ?_)
  refine ⟨⟨by decide, rfl⟩, by decide, ⟨rfl, by decide +kernel⟩, by decide, by decide +kernel, ?_⟩
  refine i_Workshop X d 83 wsF_83 _ _ (fun h4 f4 w4 => ?_)
  refine ⟨⟨by decide, rfl⟩, by decide, by decide +kernel, ⟨by decide, rfl⟩, by decide, ?_⟩
  have A1 : h2.2.2 1 = h1.2.2 1 := by
    rw [(f2 1 (by omega)).2.2]
    exact funext (fun _ => by simp [gR_uR, gR_z])
  have A0 : h2.2.2 0 = (jv_uR h1 0 0 (some 1)).2.2 0 := by
    rw [(f2 0 (by omega)).2.2]
    exact funext (fun _ => by simp [gR_z])
  have B : ∀ q, q < 8 → q ≠ 0 → h3.1 q = h2.1 q ∧ h3.2.2 q = h2.2.2 q := fun q h5 h6 => by
    rw [(f3 q (by omega)).1, (f3 q (by omega)).2.2]
    exact ⟨funext (fun _ => if_neg (by omega)), funext (fun _ => by rw [gR_z, if_neg (by omega), uR_ne (by omega)])⟩
  have B0 : h3.2.2 0 = (jv_uR h2 0 1 (some 3)).2.2 0 := by
    rw [(f3 0 (by omega)).2.2]
    exact funext (fun _ => by rw [gR_z, if_neg (by omega)])
  have C : ∀ q, q < 83 → q ≠ 0 → h4.1 q = h3.1 q ∧ h4.2.2 q = h3.2.2 q := fun q h5 h6 => by
    rw [(f4 q (by omega)).1, (f4 q (by omega)).2.2]
    exact ⟨funext (fun _ => if_neg (by omega)), funext (fun _ => by rw [gR_z, if_neg (by omega), uR_ne (by omega)])⟩
  have C0 : h4.2.2 0 = (jv_uR h3 0 2 (some 8)).2.2 0 := by
    rw [(f4 0 (by omega)).2.2]
    exact funext (fun _ => by rw [gR_z, if_neg (by omega)])
  have A11 : h2.1 1 = h1.1 1 := by
    rw [(f2 1 (by omega)).1]
    exact funext (fun _ => rfl)
  have D : ∀ q, q < 158 → q ≠ 0 → (jv_uR (jv_z (jv_uR h4 0 3 (some 83)) 158) 0 4 (some 158)).1 q = h4.1 q ∧ (jv_uR (jv_z (jv_uR h4 0 3 (some 83)) 158) 0 4 (some 158)).2.2 q = h4.2.2 q := fun q h5 h6 => ⟨funext (fun _ => if_neg (by omega)), funext (fun _ => by rw [uR_ne (by omega), gR_z, if_neg (by omega), uR_ne (by omega)])⟩
  refine mk_h X (d + 2) K hK 6 0 0 _ rfl rfl ?_
  refine ⟨⟨?_, ?_, ?_, ?_, ?_⟩, ?_, ⟨?_, ?_, ?_, ?_⟩, ?_, ?_, ?_, fun k hk => by omega⟩
  · rw [gR_uR, if_neg (by omega), gR_z, if_neg (by omega), gR_uR, if_neg (by omega), C0, gR_uR, if_neg (by omega), B0, gR_uR, if_neg (by omega), A0, gR_uR, if_pos ⟨rfl, rfl⟩]
  · rw [gR_uR, if_neg (by omega), gR_z, if_neg (by omega), gR_uR, if_neg (by omega), C0, gR_uR, if_neg (by omega), B0, gR_uR, if_pos ⟨rfl, rfl⟩]
  · rw [gR_uR, if_neg (by omega), gR_z, if_neg (by omega), gR_uR, if_neg (by omega), C0, gR_uR, if_pos ⟨rfl, rfl⟩]
  · rw [gR_uR, if_neg (by omega), gR_z, if_neg (by omega), gR_uR, if_pos ⟨rfl, rfl⟩]
  · rw [gR_uR, if_pos ⟨rfl, rfl⟩]
  · rw [(D 1 (by omega) (by omega)).2, (C 1 (by omega) (by omega)).2, (B 1 (by omega) (by omega)).2, A1]
    exact r1
  · rw [(D 3 (by omega) (by omega)).2, (C 3 (by omega) (by omega)).2, (B 3 (by omega) (by omega)).2]
    exact r2.1
  · rw [(D 3 (by omega) (by omega)).2, (C 3 (by omega) (by omega)).2, (B 3 (by omega) (by omega)).2]
    exact r2.2
  · rw [(D 4 (by omega) (by omega)).2, (C 4 (by omega) (by omega)).2, (B 4 (by omega) (by omega)).2]
    exact p2.1
  · rw [(D 6 (by omega) (by omega)).2, (C 6 (by omega) (by omega)).2, (B 6 (by omega) (by omega)).2]
    exact p2.2
  · exact (w3.mv (h' := h4) (e := 83) (by omega) (by omega) (by omega) (fun q h5 h6 => C q h6 (by omega))).mv (e := 83) (by omega) (by omega) (by omega) (fun q h5 h6 => D q (by omega) (by omega))
  · exact w4.mv (e := 158) (by omega) (by omega) (by omega) (fun q h5 h6 => D q h6 (by omega))
  · rw [(D 1 (by omega) (by omega)).1, (C 1 (by omega) (by omega)).1, (B 1 (by omega) (by omega)).1, A11]
    exact z1
