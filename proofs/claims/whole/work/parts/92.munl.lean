/-! ===== the reference: unlike ===== -/
theorem nz_d12 {x : Int32} {p : Nat} (hx : x.toInt = p) (hp : p < 1000) : (x / 12).toInt = ((p / 12 : Nat) : Int) := by
  have e : (12 : Int32).toInt = ((12 : Nat) : Int) := rfl
  rw [Int32.toInt_div, hx, e, ← Int.ofNat_tdiv]
  exact nz_bm32 (by omega) (by omega)
theorem nz_r12 {x : Int32} {p : Nat} (hx : x.toInt = p) (hp : p < 1000) : (x - x / 12 * 12).toInt = ((p % 12 : Nat) : Int) := by
  have e : (12 : Int32).toInt = 12 := rfl
  have d := nz_d12 hx hp
  have m : (x / 12 * 12).toInt = ((p / 12 * 12 : Nat) : Int) := by rw [nz_muli (by rw [d, e]; omega) (by rw [d, e]; omega), d, e]; omega
  rw [nz_subi (by rw [hx, m]; omega) (by rw [hx, m]; omega), hx, m]
  omega
def setP (K : zK) (s : Int32) (p : Nat) (v : Int × Int) : Prop := ∃ l, l < K.nl ∧ ∃ j, j < (K.L l).sz ∧ 12 * l + j < p ∧ (K.L l).so j = s ∧ (K.L l).va j = v
/-- the list so far -/
def gU (K : zK) (s : Int32) (p : Nat) (U : Nat → Int × Int) (c : Nat) : Prop := (∀ k, k < c → setP K s p (U k)) ∧ (∀ v, setP K s p v → ∃ k, k < c ∧ U k = v) ∧ (∀ i j, i < j → j < c → flt (U j) (U i)) ∧ c ≤ p
theorem gU_skip {K : zK} {s : Int32} {p : Nat} {U : Nat → Int × Int} {c : Nat} (g : gU K s p U c) (h : ∀ v, setP K s (p + 1) v → setP K s p v ∨ ∃ k, k < c ∧ U k = v) : gU K s (p + 1) U c := by
  obtain ⟨g1, g2, g3, g4⟩ := g
  refine ⟨fun k hk => ?_, fun v hv => (h v hv).elim (g2 v) id, g3, by omega⟩
  obtain ⟨l, a1, j, a2, a3, a4⟩ := g1 k hk
  exact ⟨l, a1, j, a2, by omega, a4⟩
theorem gU_ins {K : zK} {s : Int32} {p : Nat} {U : Nat → Int × Int} {c a : Nat} {v : Int × Int} (g : gU K s p U c) (hin : setP K s (p + 1) v) (h : ∀ w, setP K s (p + 1) w → setP K s p w ∨ w = v) (ha : a ≤ c) (h1 : ∀ i, i < a → flt v (U i)) (h2 : a < c → flt (U a) v) (hd : ∀ w, setP K s (p + 1) w → 1 ≤ w.2) : gU K s (p + 1) (ins U a v) (c + 1) := by
  obtain ⟨g1, g2, g3, g4⟩ := g
  have up : ∀ w, setP K s p w → setP K s (p + 1) w := fun w z => by
    obtain ⟨l, a1, j, a2, a3, a4⟩ := z
    exact ⟨l, a1, j, a2, by omega, a4⟩
  have dU : ∀ k, k < c → 1 ≤ (U k).2 := fun k hk => hd _ (up _ (g1 k hk))
  have dv := hd v hin
  have below : ∀ k, a ≤ k → k < c → flt (U k) v := fun k hk1 hk2 => by
    by_cases e : k = a
    · rw [e]; exact h2 (by omega)
    · exact flt_tr (dU k hk2) (dU a (by omega)) dv (g3 a k (by omega) hk2) (h2 (by omega))
  refine ⟨fun k hk => ?_, fun w hw => ?_, fun i j hij hj => ?_, by omega⟩
  · unfold ins
    split
    · exact up _ (g1 k (by omega))
    · split
      · exact hin
      · exact up _ (g1 (k - 1) (by omega))
  · rcases h w hw with z | z
    · obtain ⟨k, hk, ek⟩ := g2 w z
      by_cases y : k < a
      · exact ⟨k, by omega, by unfold ins; rw [if_pos y]; exact ek⟩
      · exact ⟨k + 1, by omega, by unfold ins; rw [if_neg (by omega), if_neg (by omega)]; exact ek⟩
    · exact ⟨a, by omega, by rw [ins_at, z]⟩
  · unfold ins
    by_cases i1 : i < a
    · rw [if_pos i1]
      by_cases j1 : j < a
      · rw [if_pos j1]
        exact g3 i j hij (by omega)
      · rw [if_neg j1]
        by_cases j2 : j = a
        · rw [if_pos j2]
          exact h1 i i1
        · rw [if_neg j2]
          exact g3 i (j - 1) (by omega) (by omega)
    · rw [if_neg i1, if_neg (by omega : ¬ j < a), if_neg (by omega : ¬ j = a)]
      by_cases i2 : i = a
      · rw [if_pos i2]
        exact below (j - 1) (by omega) (by omega)
      · rw [if_neg i2]
        exact g3 (i - 1) (j - 1) (by omega) (by omega)
section
variable (X : jv_X) (d : Nat) (h : jv_H) (K : jv_H → Prop) (KI : Int32 → jv_H → Prop) (KJ : Int64 → jv_H → Prop) (Z : zZ)
theorem gath143 (Q : jv_Q) (x1 x2 x3 x4 : Int32) (c p a : Nat) (v : Int × Int) (U : Nat → Int × Int) (h2 : x2.toInt = c) (h3 : x3.toInt = p) (h4 : x4.toInt = a) (hc : c < 72) (hp : p < 72) (ha : a ≤ c) (h0 : jv_H) (hv : uq h0 179 180 p = v) (hQ : ∀ h', oT zI (fun q _ => q = 205 ∨ q = 206) h0 h' → (∀ k, k < c + 1 → uq h' 205 206 k = ins U a v k) → a_Model_gathers_4 X d 227 Q 171 x1 (x2 + 1) (x3 + 1) h' 0) : ∀ (m k : Nat) (x5 : Int32) (h : jv_H), x5.toInt = k → k = a + m → k ≤ c → MR h → oT zI (fun q _ => q = 205 ∨ q = 206) h0 h → (∀ i, i < k → uq h 205 206 i = U i) → (∀ i, k < i → i ≤ c → uq h 205 206 i = U (i - 1)) → a_Model_gathers_143 X d 227 Q 171 x1 x2 x3 x4 x5 h 0
  | 0, k, x5, h, h5, hm, hk, mr, o, c1, c2 => by
    have g3 : ∀ q : Nat, SHT q = (1, 72) → q < 227 → jv_ix SHT 227 q 1 x3 := fun q h1 h2 => jx h1 h2 (by omega) (by omega)
    have g4 : ∀ q : Nat, SHT q = (1, 72) → q < 227 → jv_ix SHT 227 q 1 x4 := fun q h1 h2 => jx h1 h2 (by omega) (by omega)
    refine r_Model_gathers_143 X d 227 Q 171 x1 x2 x3 x4 x5 h ⟨fun _ => ⟨is171, _, mr 46, is171, _, mr 14, g3 179 rfl (by decide), g4 205 rfl (by decide), is171, _, mr 47, is171, _, mr 15, g3 180 rfl (by decide), g4 206 rfl (by decide), ?_⟩, fun z => absurd (nz_le.mpr (by rw [h5, h4]; omega)) z⟩
    simp only [gI_uI, gI_uL, gL_uL, gL_uI, and_self, true_and, and_true, false_and, and_false, if_true, if_false, reduceIte, Nat.reduceEqDiff]
    rw [nz_nat h3, nz_nat h4]
    have o2 : oT zI (fun q _ => q = 205 ∨ q = 206) h (jv_uL (jv_uL h 205 a (jv_gL h 179 p)) 206 a (jv_gL h 180 p)) := (oT.rf.uL (Or.inl rfl)).uL (Or.inr rfl)
    have hv' : uq h 179 180 p = v := by rw [uq.mv o (by omega) (by omega)]; exact hv
    refine hQ _ (o.tr o2) (fun i hi => ?_)
    rw [uq_st _ _ _ _ _ _ (by decide)]
    unfold ins
    by_cases e : i = a
    · rw [if_pos e, if_neg (by omega), if_pos e]
      exact hv'
    · rw [if_neg e]
      by_cases y : i < a
      · rw [if_pos y]
        exact c1 i (by omega)
      · rw [if_neg y, if_neg e]
        exact c2 i (by omega) (by omega)
  | m + 1, k, x5, h, h5, hm, hk, mr, o, c1, c2 => by
    have h5m : (x5 - 1).toInt = ((k - 1 : Nat) : Int) := by rw [nz_m1i h5 (by omega)]; omega
    have g5 : ∀ q : Nat, SHT q = (1, 72) → q < 227 → jv_ix SHT 227 q 1 x5 := fun q h1 h2 => jx h1 h2 (by omega) (by omega)
    have g6 : ∀ q : Nat, SHT q = (1, 72) → q < 227 → jv_ix SHT 227 q 1 (x5 - 1) := fun q h1 h2 => jx h1 h2 (by omega) (by omega)
    refine r_Model_gathers_143 X d 227 Q 171 x1 x2 x3 x4 x5 h ⟨fun z => ?_, fun _ => ⟨is171, _, mr 46, is171, _, mr 46, g6 205 rfl (by decide), g5 205 rfl (by decide), is171, _, mr 47, is171, _, mr 47, g6 206 rfl (by decide), g5 206 rfl (by decide), ?_⟩⟩
    · have := nz_le.mp z
      rw [h5, h4] at this
      omega
    · simp only [gI_uI, gI_uL, gL_uL, gL_uI, and_self, true_and, and_true, false_and, and_false, if_true, if_false, reduceIte, Nat.reduceEqDiff]
      rw [nz_nat h5, nz_nat h5m]
      have o2 : oT zI (fun q _ => q = 205 ∨ q = 206) h (jv_uL (jv_uL h 205 k (jv_gL h 205 (k - 1))) 206 k (jv_gL h 206 (k - 1))) := (oT.rf.uL (Or.inl rfl)).uL (Or.inr rfl)
      refine gath143 Q x1 x2 x3 x4 c p a v U h2 h3 h4 hc hp ha h0 hv hQ m (k - 1) _ _ (by rw [nz_dec h5 (by omega)]; omega) (by omega) (by omega) (mr.mv o2) (o.tr o2) (fun i hi => ?_) (fun i hi1 hi2 => ?_)
      · rw [uq_st _ _ _ _ _ _ (by decide), if_neg (by omega)]
        exact c1 i (by omega)
      · rw [uq_st _ _ _ _ _ _ (by decide)]
        by_cases e : i = k
        · rw [if_pos e, e]
          exact c1 (k - 1) (by omega)
        · rw [if_neg e]
          exact c2 i (by omega) hi2
theorem gath53 (Q : jv_Q) (x1 x2 x3 : Int32) (c p : Nat) (v : Int × Int) (U : Nat → Int × Int) (h2 : x2.toInt = c) (h3 : x3.toInt = p) (hc : c < 72) (hp : p < 72) (mr : MR h) (hv : uq h 179 180 p = v) (gv : gp v) (gU' : ∀ k, k < c → gp (U k)) (cU : ∀ i, i < c → uq h 205 206 i = U i)
    (hQ1 : ∀ a, a ≤ c → (∀ i, i < a → flt v (U i)) → (a < c → flt (U a) v) → ∀ h', oT zI (fun q _ => q = 205 ∨ q = 206) h h' → (∀ k, k < c + 1 → uq h' 205 206 k = ins U a v k) → a_Model_gathers_4 X (d + 1) 227 Q 171 x1 (x2 + 1) (x3 + 1) h' 0) (hQ0 : ∀ a, a < c → U a = v → a_Model_gathers_4 X (d + 1) 227 Q 171 x1 x2 (x3 + 1) h 0) : ∀ (m a : Nat) (x4 : Int32), x4.toInt = a → a + m = c → (∀ i, i < a → flt v (U i)) → a_Model_gathers_53 X (d + 1) 227 Q 171 x1 x2 x3 x4 h 0
  | 0, a, x4, h4, hm, hb => by
    have le : x2 ≤ x4 := nz_le.mpr (by rw [h2, h4]; omega)
    refine r_Model_gathers_53 X (d + 1) 227 Q 171 x1 x2 x3 x4 h ⟨fun _ => ⟨fun _ => ?_, fun z => absurd le z⟩, fun z => absurd le z⟩
    exact gath143 X (d + 1) Q x1 x2 x3 x4 c p a v U h2 h3 h4 hc hp (by omega) h hv (fun h' o' e' => hQ1 a (by omega) hb (fun z => by omega) h' o' e') (c - a) c x2 h h2 (by omega) (Nat.le_refl _) mr oT.rf cU (fun i h1 h2 => by omega)
  | m + 1, a, x4, h4, hm, hb => by
    have nle : ¬ x2 ≤ x4 := fun z => by
      have := nz_le.mp z
      rw [h2, h4] at this
      omega
    have g3 : ∀ q : Nat, SHT q = (1, 72) → q < 227 → jv_ix SHT 227 q 1 x3 := fun q h1 h2 => jx h1 h2 (by omega) (by omega)
    have g4 : ∀ q : Nat, SHT q = (1, 72) → q < 227 → jv_ix SHT 227 q 1 x4 := fun q h1 h2 => jx h1 h2 (by omega) (by omega)
    have ua := cU a (by omega)
    have pa := gU' a (by omega)
    have ce : ∀ a b : Int64, lg_cmp a b = 0 ↔ a.toInt = b.toInt := fun a b => by rw [lg_cmp_eq, ← Int64.toInt_inj]
    have ins' : ¬ U a = v → fle (U a) v → a_Model_gathers_143 X (d + 1) 227 Q 171 x1 x2 x3 x4 x2 h 0 := fun ne le => by
      refine gath143 X (d + 1) Q x1 x2 x3 x4 c p a v U h2 h3 h4 hc hp (by omega) h hv (fun h' o' e' => hQ1 a (by omega) hb (fun _ => ?_) h' o' e') (c - a) c x2 h h2 (by omega) (Nat.le_refl _) mr oT.rf cU (fun i h1 h2 => by omega)
      apply Classical.byContradiction
      intro z
      exact ne (flt_an pa.1 gv.1 le (fle_n.mpr z))
    refine r_Model_gathers_53 X (d + 1) 227 Q 171 x1 x2 x3 x4 h ⟨fun z => absurd z nle, fun _ => ⟨is171, _, mr 46, g4 205 rfl (by decide), is171, _, mr 47, g4 206 rfl (by decide), is171, _, mr 14, g3 179 rfl (by decide), is171, _, mr 15, g3 180 rfl (by decide), ?_⟩⟩
    rw [nz_nat h3, nz_nat h4]
    refine m_order X d h _ _ _ _ _ (U a) v (uq.a ua) (uq.b ua) (uq.a hv) (uq.b hv) pa.1.z gv.1.z ⟨fun y => ⟨fun z => absurd z nle, fun _ => ⟨is171, _, mr 46, g4 205 rfl (by decide), is171, _, mr 14, g3 179 rfl (by decide), ?_⟩⟩, fun y => ?_⟩
    · have y : (fz_cmp (U a) v).toInt ≤ 0 := nz_le.mp y
      have le : fle (U a) v := fle_n.mpr (fun z => by have := cmp_gt.mpr z; omega)
      rw [ce, uq.a ua, uq.a hv]
      refine ⟨fun e => ins' (fun z => e (by rw [z])) le, fun e => ⟨is171, _, mr 47, g4 206 rfl (by decide), is171, _, mr 15, g3 180 rfl (by decide), ?_⟩⟩
      rw [ce, uq.b ua, uq.b hv]
      exact ⟨fun e2 => ins' (fun z => e2 (by rw [z])) le, fun e2 => hQ0 a (by omega) (Prod.ext e e2)⟩
    · have y : ¬ (fz_cmp (U a) v).toInt ≤ 0 := fun q => y (nz_le.mpr q)
      refine gath53 Q x1 x2 x3 c p v U h2 h3 hc hp mr hv gv gU' cU hQ1 hQ0 m (a + 1) _ (nz_inc h4 (by omega)) (by omega) (fun i hi => ?_)
      by_cases e : i = a
      · rw [e]
        exact cmp_gt.mp (by omega)
      · exact hb i (by omega)
theorem gath_l (Q : jv_Q) (x1 : Int32) (ms : MS h Z) (bd : bdZ Z) (ok : okZ Z) (hQ : ∀ (U : Nat → Int × Int) (c : Nat) (z : Int32), z.toInt = c → c ≤ 72 → unl Z.k x1 U c → ∀ h', fK Z.k h h' → (∀ k, k < c → uq h' 205 206 k = U k) → Q (some (.int z)) h') : ∀ (m p : Nat) (x2 x3 : Int32) (h1 : jv_H) (U : Nat → Int × Int) (c : Nat), x3.toInt = p → p + m = 72 → x2.toInt = c → fK Z.k h h1 → gU Z.k x1 p U c → (∀ k, k < c → uq h1 205 206 k = U k) → a_Model_gathers_4 X (d + 1) 227 Q 171 x1 x2 x3 h1 0
  | 0, p, x2, x3, h1, U, c, h3, hm, h2, fk, g, cU => by
    refine r_Model_gathers_4 X (d + 1) 227 Q 171 x1 x2 x3 h1 ⟨fun _ => hQ U c x2 h2 (by have := g.2.2.2; omega) ⟨fun k hk => ?_, fun v hv => ?_, g.2.2.1⟩ h1 fk cU, fun z => absurd (nz_le.mpr (by rw [h3]; show (72 : Int) ≤ _; omega)) z⟩
    · obtain ⟨l, a1, j, a2, a3, a4⟩ := g.1 k hk
      exact ⟨l, a1, j, a2, a4⟩
    · obtain ⟨l, a1, j, a2, a3⟩ := hv
      have b1 := bd.2.1.2.1
      have b2 := bd.2.1.2.2.1 l a1
      exact g.2.1 v ⟨l, a1, j, a2, by omega, a3⟩
  | m + 1, p, x2, x3, h1, U, c, h3, hm, h2, fk, g, cU => by
    have ms1 := ms.mv bd fk
    have b1 := bd.2.1.2.1
    have d1 := nz_d12 h3 (by omega)
    have d2 := nz_r12 h3 (by omega)
    have zl := ms1.k.zl
    have skip : (∀ v, setP Z.k x1 (p + 1) v → setP Z.k x1 p v ∨ ∃ k, k < c ∧ U k = v) → a_Model_gathers_4 X (d + 1) 227 Q 171 x1 x2 (x3 + 1) h1 0 := fun hs => gath_l Q x1 ms bd ok hQ m (p + 1) x2 _ h1 U c (nz_inc h3 (by omega)) (by omega) h2 fk (gU_skip g hs) cU
    have at_p : ∀ l j, l < Z.k.nl → j < (Z.k.L l).sz → 12 * l + j < p + 1 → ¬ 12 * l + j < p → l = p / 12 ∧ j = p % 12 := fun l j hl hj h5 h6 => by
      have := bd.2.1.2.2.1 l hl
      omega
    refine r_Model_gathers_4 X (d + 1) 227 Q 171 x1 x2 x3 h1 ⟨fun z => ?_, fun _ => ⟨by decide, is171, fun a => skip (fun v hv => ?_), fun a => ⟨by decide, is171, _, ms1.r 12, by decide, jx (len := 6) rfl (by decide) (by omega) (by omega), ?_⟩⟩⟩
    · have : (72 : Int) ≤ x3.toInt := nz_le.mp z
      omega
    · have a := nz_le.mp a
      rw [zl, d1] at a
      obtain ⟨l, a1, j, a2, a3, a4⟩ := hv
      by_cases y : 12 * l + j < p
      · exact Or.inl ⟨l, a1, j, a2, y, a4⟩
      · have := at_p l j a1 a2 a3 y
        omega
    · have a : ¬ (jv_gI h1 171 18).toInt ≤ (x3 / 12).toInt := fun q => a (nz_le.mpr q)
      rw [zl, d1] at a
      have hl : p / 12 < Z.k.nl := by omega
      have lz := ms1.k.lz hl
      have hsz := bd.2.1.2.2.1 _ hl
      rw [nz_nat d1]
      refine ⟨fun b => skip (fun v hv => ?_), fun b => ⟨is171, _, ms1.r 10, jx (len := 72) rfl (by decide) (by omega) (by omega), ?_⟩⟩
      · have b := nz_le.mp b
        rw [lz, d2] at b
        obtain ⟨l, a1, j, a2, a3, a4⟩ := hv
        by_cases y : 12 * l + j < p
        · exact Or.inl ⟨l, a1, j, a2, y, a4⟩
        · have := at_p l j a1 a2 a3 y
          rw [this.1] at a2
          omega
      · have b : ¬ (jv_gI h1 177 (p / 12)).toInt ≤ (x3 - x3 / 12 * 12).toInt := fun q => b (nz_le.mpr q)
        rw [lz, d2] at b
        have hj : p % 12 < (Z.k.L (p / 12)).sz := by omega
        have ep : 12 * (p / 12) + p % 12 = p := by omega
        have so' := ms1.k.ls hl hj
        have v' := ms1.k.lv hl hj
        rw [ep] at so' v'
        have gv := ((ok.1.2.1 _ hl).2.2.1 _ hj).1
        rw [nz_nat h3, so']
        refine ⟨fun e => ?_, fun e => skip (fun v hv => ?_)⟩
        · have hin : setP Z.k x1 (p + 1) ((Z.k.L (p / 12)).va (p % 12)) := ⟨_, hl, _, hj, by omega, e, rfl⟩
          have only : ∀ w, setP Z.k x1 (p + 1) w → setP Z.k x1 p w ∨ w = (Z.k.L (p / 12)).va (p % 12) := fun w hw => by
            obtain ⟨l, a1, j, a2, a3, a4, a5⟩ := hw
            by_cases y : 12 * l + j < p
            · exact Or.inl ⟨l, a1, j, a2, y, a4, a5⟩
            · have := at_p l j a1 a2 a3 y
              rw [← a5, this.1, this.2]
              exact Or.inr rfl
          have dd : ∀ w, setP Z.k x1 (p + 1) w → gp w := fun w hw => by
            obtain ⟨l, a1, j, a2, a3, a4, a5⟩ := hw
            rw [← a5]
            exact ((ok.1.2.1 l a1).2.2.1 j a2).1
          have up : ∀ w, setP Z.k x1 p w → setP Z.k x1 (p + 1) w := fun w z => by
            obtain ⟨l, a1, j, a2, a3, a4⟩ := z
            exact ⟨l, a1, j, a2, by omega, a4⟩
          have hcp := g.2.2.2
          refine gath53 X d h1 Q x1 x2 x3 c p _ U h2 h3 (by omega) (by omega) ms1.r v' gv (fun k hk => dd _ (up _ (g.1 k hk))) cU (fun a ha q1 q2 h' o' e' => ?_) (fun a ha ea => skip (fun w hw => ?_)) c 0 0 rfl (by omega) (fun i hi => absurd hi (Nat.not_lt_zero _))
          · exact gath_l Q x1 ms bd ok hQ m (p + 1) _ _ h' _ (c + 1) (nz_inc h3 (by omega)) (by omega) (nz_inc h2 (by omega)) (fk.tr (o'.mono (fun _ _ z => z.elim) (fun q j z => by unfold frL; omega))) (gU_ins g hin only ha q1 q2 (fun w hw => (dd w hw).1.1.2.1)) e'
          · rcases only w hw with z | z
            · exact Or.inl z
            · exact Or.inr ⟨a, ha, by rw [ea, z]⟩
        · obtain ⟨l, a1, j, a2, a3, a4, a5⟩ := hv
          by_cases y : 12 * l + j < p
          · exact Or.inl ⟨l, a1, j, a2, y, a4, a5⟩
          · have := at_p l j a1 a2 a3 y
            rw [this.1, this.2] at a4
            exact absurd a4 e
theorem w_unlike (s k p : Int32) (ms : MS h Z) (bd : bdZ Z) (ok : okZ Z) (hK : dJ h (q_unlike s k p Z) KJ) : jL X 8 y_Model_unlike [.ref 171, .int s, .int k, .int p] 227 h KJ := by
  unfold q_unlike at hK
  have m1 : (-1 : Int32).toInt = -1 := rfl
  refine r_Model_unlike X 7 227 _ 171 s k p h (c_in X 6 227 _ h _ _ _ ⟨fun y => ?_, fun y => ⟨fun y2 => ?_, fun y2 => c_in X 6 227 _ h _ _ _ ⟨fun y3 => ⟨is171, ?_⟩, fun y3 => ?_⟩⟩⟩)
  · rw [nz_bt, Int32.toInt_toInt64] at y
    rw [if_neg (fun z => y z.1)] at hK
    exact hK _ rfl h oM.rf ms
  · have y2 := nz_lt.mp y2
    rw [m1] at y2
    rw [if_neg (fun z => by have := z.2.1; omega)] at hK
    exact hK _ rfl h oM.rf ms
  · rw [nz_bt, Classical.not_not, Int32.toInt_toInt64] at y y3
    have y2 : ¬ k.toInt < (-1 : Int) := fun q => y2 (nz_lt.mpr (by rw [m1]; exact q))
    rw [if_pos ⟨y, by omega, y3⟩] at hK
    have hd : ∀ l, l < Z.k.nl → ∀ j, j < (Z.k.L l).sz → gp ((Z.k.L l).va j) := fun l hl j hj => ((ok.1.2.1 l hl).2.2.1 j hj).1
    refine r_Model_gathers X 6 227 _ 171 s h (gath_l X 5 h Z _ s ms bd ok (fun U c z hz hc hU h1 fk cU => ?_) 72 0 0 0 h (fun _ => (0, 1)) 0 rfl rfl rfl oT.rf ⟨fun k hk => absurd hk (Nat.not_lt_zero _), fun v hv => ?_, fun i j h1 h2 => absurd h2 (Nat.not_lt_zero _), Nat.le_refl _⟩ (fun k hk => absurd hk (Nat.not_lt_zero _)))
    · have ms1 := ms.mv bd fk
      refine ⟨fun e => ⟨fun lt => ?_, fun lt => ?_⟩, fun e => ?_⟩
      · have lt := nz_lt.mp lt
        rw [hz] at lt
        have ne : k.toInt ≠ -1 := fun q => e (Int32.toInt_inj.mp (by rw [q]; rfl))
        have hk : k.toInt = (k.toInt.toNat : Int) := by omega
        have hkc : k.toInt.toNat < c := by omega
        rw [if_neg e, nz_nat hk, (un_U hd hU _).1 hkc] at hK
        have pk : gp (U k.toInt.toNat) := by
          obtain ⟨l, a1, j, a2, a3, a4⟩ := hU.1 _ hkc
          rw [← a4]; exact hd l a1 j a2
        rw [if_neg (fun q => by have := pk.2; rw [q] at this; exact absurd this (by decide)), tell_gd pk.1 y3] at hK
        have u := cU _ hkc
        refine ⟨fun f => ⟨is171, _, ms1.r 47, jx (len := 72) rfl (by decide) (by omega) (by omega), ?_⟩, fun f => ⟨is171, _, ms1.r 46, jx (len := 72) rfl (by decide) (by omega) (by omega), ?_⟩⟩
        · rw [if_neg f] at hK
          rw [nz_nat hk]
          exact hK _ (uq.b u) h1 (fK.M fk) ms1
        · rw [if_pos f] at hK
          rw [nz_nat hk]
          exact hK _ (uq.a u) h1 (fK.M fk) ms1
      · have lt : ¬ k.toInt < z.toInt := fun q => lt (nz_lt.mpr q)
        rw [hz] at lt
        have hk : k.toInt = (k.toInt.toNat : Int) := by omega
        have st := un_stay Z.k s (k.toInt.toNat - c) c ((un_U hd hU c).2 rfl)
        rw [show c + (k.toInt.toNat - c) = k.toInt.toNat by omega] at st
        rw [if_neg e, nz_nat hk, if_pos st] at hK
        exact hK _ rfl h1 (fK.M fk) ms1
      · rw [if_pos e, uc_U hd hU 72 0 (Nat.zero_le _) (by omega)] at hK
        exact hK _ (by rw [Int32.toInt_toInt64, hz]) h1 (fK.M fk) ms1
    · obtain ⟨l, a1, j, a2, a3, a4⟩ := hv
      omega
  · rw [nz_bt, Int32.toInt_toInt64] at y3
    rw [if_neg (fun z => y3 z.2.2)] at hK
    exact hK _ rfl h oM.rf ms
end
