/-! ===== both sides together ===== -/
def ST (h : jv_H) (Z : zZ) : Prop := CS h Z ∧ MS h Z ∧ okZ Z
section
variable {h : jv_H} {Z : zZ}
/-- a call of an int: what the class's leaves is where the reference's begins -/
theorem st_i (st : ST h Z) (R : Int × zZ) (okR : ∀ h1, CS h1 R.2 → okZ R.2) {P N : jv_H → Prop} (hP : ∀ h3, ST h3 R.2 → P h3) (z : Int32) (hz : z.toInt = R.1) (h1 : jv_H) (o1 : oC h h1) (c1 : CS h1 R.2) : MS h1 Z ∧ bdZ Z ∧ okZ Z ∧ dI h1 R (fun z' h3 => (z = z' → P h3) ∧ (¬ z = z' → N h3)) := by
  obtain ⟨cs, ms, ok⟩ := st
  refine ⟨ms.C cs.bd o1, cs.bd, ok, fun z' hz' h3 o3 m3 => ⟨fun _ => hP h3 ⟨c1.M o3, m3, okR h1 c1⟩, fun ne => absurd (Int32.toInt_inj.mp (by rw [hz, hz'])) ne⟩⟩
/-- a call of a long -/
theorem st_j (st : ST h Z) (R : Int × zZ) (okR : ∀ h1, CS h1 R.2 → okZ R.2) {P N : jv_H → Prop} (hP : ∀ h3, ST h3 R.2 → P h3) (z : Int64) (hz : z.toInt = R.1) (h1 : jv_H) (o1 : oC h h1) (c1 : CS h1 R.2) : MS h1 Z ∧ bdZ Z ∧ okZ Z ∧ dJ h1 R (fun z' h3 => (lg_cmp z z' = 0 → P h3) ∧ (¬ lg_cmp z z' = 0 → N h3)) := by
  obtain ⟨cs, ms, ok⟩ := st
  refine ⟨ms.C cs.bd o1, cs.bd, ok, fun z' hz' h3 o3 m3 => ⟨fun _ => hP h3 ⟨c1.M o3, m3, okR h1 c1⟩, fun ne => absurd ((lg_cmp_eq _ _).mpr (Int64.toInt_inj.mp (by rw [hz, hz']))) ne⟩⟩
/-- the read ratio's numbers: the class's state bounds them -/
theorem ratio_r (h1 : jv_H) (c : CS h1 (q_ratio Z).2) : ∀ q, rrat Z.T Z.tn = .inr q → ¬ (pz_hi (fun i => (q.1 i, 1)) 13 < 0 ∨ pz_hi (fun i => (q.2 i, 1)) 13 < 0) → Z.k.nr ≠ 6 → ∀ i, i < 13 → (-1000000000 ≤ q.1 i ∧ q.1 i ≤ 1000000000) ∧ -1000000000 ≤ q.2 i ∧ q.2 i ≤ 1000000000 := fun q e hh hn i hi => by
  unfold q_ratio at c
  rw [if_neg hn, e] at c
  dsimp only at c
  rw [if_neg hh] at c
  have k := c.k
  have eR : (Z.wp.sk (Z.k.addR (fun i => (q.1 i, 1), fun i => (q.2 i, 1)))).k.R Z.k.nr = (fun i => (q.1 i, 1), fun i => (q.2 i, 1)) := if_pos rfl
  have pa := k.pa (k := Z.k.nr) (show Z.k.nr < Z.k.nr + 1 by omega)
  have pb := k.pb (k := Z.k.nr) (show Z.k.nr < Z.k.nr + 1 by omega)
  rw [eR] at pa pb
  exact ⟨(pa i hi).2.1, (pb i hi).2.1⟩
theorem ok_ratio2 (o : okZ Z) (h1 : jv_H) (c : CS h1 (q_ratio Z).2) : okZ (q_ratio Z).2 := ok_ratio Z o (ratio_r h1 c)
end
