/-! ===== the reference: its two rows ===== -/
def rw0 (h : jv_H) (u l : Nat) (f : Nat → Int × Int) : Prop := ∀ i, i < 13 → uq h u l i = f i
theorem rw0.mv {SI SL : Nat → Nat → Prop} {h h' : jv_H} {u l : Nat} {f : Nat → Int × Int} (c : rw0 h u l f) (a : oT SI SL h h') (h1 : ∀ i, ¬ SL u i ∧ ¬ SL l i) : rw0 h' u l f := fun i hi => by rw [uq.mv a (h1 i).1 (h1 i).2]; exact c i hi
theorem rw0.eq {h : jv_H} {u l : Nat} {f g : Nat → Int × Int} (c : rw0 h u l f) (e : ∀ i, i < 13 → g i = f i) : rw0 h u l g := fun i hi => by rw [e i hi]; exact c i hi
theorem uq_st (h : jv_H) (u l k : Nat) (v1 v2 : Int64) (hul : u ≠ l) (i : Nat) : uq (jv_uL (jv_uL h u k v1) l k v2) u l i = if i = k then (v1.toInt, v2.toInt) else uq h u l i := by
  show ((jv_gL (jv_uL (jv_uL h u k v1) l k v2) u i).toInt, (jv_gL (jv_uL (jv_uL h u k v1) l k v2) l i).toInt) = _
  rw [gL_uL, gL_uL, gL_uL, gL_uL]
  by_cases e : i = k
  · rw [if_neg (fun z => hul z.1), if_pos ⟨rfl, e⟩, if_pos ⟨rfl, e⟩, if_pos e]
  · rw [if_neg (fun z => hul z.1), if_neg (fun z => e z.2), if_neg (fun z => e z.2), if_neg (fun z => e z.2), if_neg e]
    rfl
theorem rw0.st {h : jv_H} {u l k : Nat} {f : Nat → Int × Int} {v1 v2 : Int64} {q : Int × Int} (c : rw0 h u l f) (hul : u ≠ l) (e : (v1.toInt, v2.toInt) = q) : rw0 (jv_uL (jv_uL h u k v1) l k v2) u l (pz_up f k q) := fun i hi => by
  rw [uq_st h u l k v1 v2 hul, e]
  unfold pz_up
  by_cases z : i = k
  · rw [if_pos z, if_pos z]
  · rw [if_neg z, if_neg z]; exact c i hi
theorem gdr.up {f : Nat → Int × Int} {k : Nat} {q : Int × Int} (g : gdr f) (hq : gd q) : gdr (pz_up f k q) := fun i hi => by
  unfold pz_up
  split
  · exact hq
  · exact g i hi
def zI : Nat → Nat → Prop := fun _ _ => False
def abL : Nat → Nat → Prop := fun q j => q = 171 ∧ (j = 4 ∨ j = 5) ∨ (200 ≤ q ∧ q ≤ 203)
theorem ab_fr {K : zK} {h h' : jv_H} (o : oT (mI 171) abL h h') : fK K h h' := o.mono (fun q j z => by unfold mI at z; unfold frI; omega) (fun q j z => by unfold abL at z; unfold frL; omega)
theorem mi_ab {h h' : jv_H} (o : oT (mI 171) (mL 171) h h') : oT (mI 171) abL h h' := o.mono (fun _ _ z => z) (fun q j z => by unfold mL at z; unfold abL; omega)
theorem ni_mi {SL : Nat → Nat → Prop} {h h' : jv_H} (o : oT zI SL h h') : oT (mI 171) SL h h' := o.mono (fun _ _ z => z.elim) (fun _ _ z => z)
section
variable (X : jv_X) (d : Nat) (h : jv_H) (K : jv_H → Prop) (KI : Int32 → jv_H → Prop) (Z : zZ)
theorem loads_l (Q : jv_Q) (x : Int32) (r : Nat) (hx : x.toInt = r) (hr : r < 6) (A B : Nat → Int × Int) : ∀ (m k : Nat) (y : Int32) (h : jv_H), y.toInt = k → k + m = 13 → MR h → rwq h 173 174 (26 * r) A → rwq h 173 174 (26 * r + 13) B → (∀ i, i < k → uq h 200 201 i = A i) → (∀ i, i < k → uq h 202 203 i = B i) → (∀ h', oT zI abL h h' → rw0 h' 200 201 A → rw0 h' 202 203 B → Q none h') → a_Model_loads_2 X d 227 Q 171 x y h 0
  | 0, k, y, h, hy, hm, mr, cA, cB, c1, c2, hQ => by
    exact r_Model_loads_2 X d 227 Q 171 x y h ⟨fun _ => hQ h oT.rf (fun i hi => c1 i (by omega)) (fun i hi => c2 i (by omega)), fun z => absurd (nz_le.mpr (by rw [hy]; show (13 : Int) ≤ _; omega)) z⟩
  | m + 1, k, y, h, hy, hm, mr, cA, cB, c1, c2, hQ => by
    obtain ⟨e1, e2⟩ := nz_26 hx hr
    have a1 : ((26 : Int32) * x + y).toInt = ((26 * r + k : Nat) : Int) := by rw [nz_addi (by rw [e1, hy]; omega) (by rw [e1, hy]; omega), e1, hy]; omega
    have a2 : ((26 : Int32) * x + 13 + y).toInt = ((26 * r + 13 + k : Nat) : Int) := by rw [nz_addi (by rw [e2, hy]; omega) (by rw [e2, hy]; omega), e2, hy]; omega
    have g0 : ∀ q : Nat, SHT q = (1, 13) → q < 227 → jv_ix SHT 227 q 1 y := fun q h1 h2 => jx h1 h2 (by omega) (by omega)
    have g1 : ∀ q : Nat, SHT q = (1, 156) → q < 227 → jv_ix SHT 227 q 1 ((26 : Int32) * x + y) := fun q h1 h2 => jx h1 h2 (by omega) (by omega)
    have g2 : ∀ q : Nat, SHT q = (1, 156) → q < 227 → jv_ix SHT 227 q 1 ((26 : Int32) * x + 13 + y) := fun q h1 h2 => jx h1 h2 (by omega) (by omega)
    refine r_Model_loads_2 X d 227 Q 171 x y h ⟨fun z => ?_, fun _ => ⟨is171, _, mr 39, is171, _, mr 7, g1 173 rfl (by decide), g0 200 rfl (by decide), is171, _, mr 40, is171, _, mr 8, g1 174 rfl (by decide), g0 201 rfl (by decide), is171, _, mr 41, is171, _, mr 7, g2 173 rfl (by decide), g0 202 rfl (by decide), is171, _, mr 42, is171, _, mr 8, g2 174 rfl (by decide), g0 203 rfl (by decide), ?_⟩⟩
    · have : (13 : Int) ≤ y.toInt := nz_le.mp z
      omega
    · rw [nz_nat a1, nz_nat a2, nz_nat hy]
      simp only [gI_uI, gI_uL, gL_uL, gL_uI, and_self, true_and, and_true, false_and, and_false, if_true, if_false, reduceIte, Nat.reduceEqDiff]
      have o1 : oT zI abL h (jv_uL (jv_uL (jv_uL (jv_uL h 200 k (jv_gL h 173 (26 * r + k))) 201 k (jv_gL h 174 (26 * r + k))) 202 k (jv_gL h 173 (26 * r + 13 + k))) 203 k (jv_gL h 174 (26 * r + 13 + k))) := (((oT.rf.uL (Or.inr (by omega))).uL (Or.inr (by omega))).uL (Or.inr (by omega))).uL (Or.inr (by omega))
      refine loads_l Q x r hx hr A B m (k + 1) _ _ (nz_inc hy (by omega)) (by omega) (mr.mv o1) (cA.mv o1 (fun i hi => ⟨fun z => by unfold abL at z; omega, fun z => by unfold abL at z; omega⟩)) (cB.mv o1 (fun i hi => ⟨fun z => by unfold abL at z; omega, fun z => by unfold abL at z; omega⟩)) (fun i hi => ?_) (fun i hi => ?_) (fun h' o' d1 d2 => hQ h' (o1.tr o') d1 d2)
      · have o2 : oT zI (fun q j => q = 202 ∨ q = 203) (jv_uL (jv_uL h 200 k (jv_gL h 173 (26 * r + k))) 201 k (jv_gL h 174 (26 * r + k))) (jv_uL (jv_uL (jv_uL (jv_uL h 200 k (jv_gL h 173 (26 * r + k))) 201 k (jv_gL h 174 (26 * r + k))) 202 k (jv_gL h 173 (26 * r + 13 + k))) 203 k (jv_gL h 174 (26 * r + 13 + k))) := (oT.rf.uL (Or.inl rfl)).uL (Or.inr rfl)
        rw [uq.mv o2 (by omega) (by omega), uq_st _ _ _ _ _ _ (by decide)]
        by_cases e : i = k
        · rw [if_pos e, e]
          exact cA k (by omega)
        · rw [if_neg e]
          exact c1 i (by omega)
      · have o2 : oT zI (fun q j => q = 200 ∨ q = 201) h (jv_uL (jv_uL h 200 k (jv_gL h 173 (26 * r + k))) 201 k (jv_gL h 174 (26 * r + k))) := (oT.rf.uL (Or.inl rfl)).uL (Or.inr rfl)
        rw [uq_st _ _ _ _ _ _ (by decide), uq.mv o2 (by omega) (by omega)]
        by_cases e : i = k
        · rw [if_pos e, e]
          exact cB k (by omega)
        · rw [if_neg e]
          exact c2 i (by omega)
theorem m_loads (x : Int32) (r : Nat) (hx : x.toInt = r) (ms : MS h Z) (bd : bdZ Z) (hr : r < Z.k.nr) (hK : ∀ h', oT zI abL h h' → rw0 h' 200 201 (Z.k.R r).1 → rw0 h' 202 203 (Z.k.R r).2 → K h') : jV X (d + 1) y_Model_loads [.ref 171, .int x] 227 h K := by
  have hm := bd.2.1.1
  exact r_Model_loads X d 227 _ 171 x h (loads_l X d _ x r hx (by omega) _ _ 13 0 0 h rfl rfl ms.r (ms.ra hr) (ms.rb hr) (fun i hi => absurd hi (Nat.not_lt_zero _)) (fun i hi => absurd hi (Nat.not_lt_zero _)) hK)
theorem changes_l (Q : jv_Q) (A B : Nat → Int × Int) : ∀ (m k : Nat) (y : Int32) (h : jv_H), y.toInt = k → k + m = 13 → MR h → rw0 h 200 201 (fun i => if i < k then B i else A i) → rw0 h 202 203 (fun i => if i < k then A i else B i) → (∀ h', oT zI abL h h' → rw0 h' 200 201 B → rw0 h' 202 203 A → Q none h') → a_Model_changes_2 X d 227 Q 171 y h 0
  | 0, k, y, h, hy, hm, mr, c1, c2, hQ => by
    exact r_Model_changes_2 X d 227 Q 171 y h ⟨fun _ => hQ h oT.rf (c1.eq (fun i hi => by rw [if_pos (by omega)])) (c2.eq (fun i hi => by rw [if_pos (by omega)])), fun z => absurd (nz_le.mpr (by rw [hy]; show (13 : Int) ≤ _; omega)) z⟩
  | m + 1, k, y, h, hy, hm, mr, c1, c2, hQ => by
    have g0 : ∀ q : Nat, SHT q = (1, 13) → q < 227 → jv_ix SHT 227 q 1 y := fun q h1 h2 => jx h1 h2 (by omega) (by omega)
    refine r_Model_changes_2 X d 227 Q 171 y h ⟨fun z => ?_, fun _ => ⟨is171, _, mr 39, g0 200 rfl (by decide), is171, _, mr 40, g0 201 rfl (by decide), is171, _, mr 39, is171, _, mr 41, g0 202 rfl (by decide), g0 200 rfl (by decide), is171, _, mr 40, is171, _, mr 42, g0 203 rfl (by decide), g0 201 rfl (by decide), is171, _, mr 41, g0 202 rfl (by decide), is171, _, mr 42, g0 203 rfl (by decide), ?_⟩⟩
    · have : (13 : Int) ≤ y.toInt := nz_le.mp z
      omega
    · rw [nz_nat hy]
      simp only [gI_uI, gI_uL, gL_uL, gL_uI, and_self, true_and, and_true, false_and, and_false, if_true, if_false, reduceIte, Nat.reduceEqDiff]
      have v1 := c1 k (by omega)
      have v2 := c2 k (by omega)
      dsimp only at v1 v2
      rw [if_neg (by omega)] at v1 v2
      have o1 : oT zI abL h (jv_uL (jv_uL (jv_uL (jv_uL h 200 k (jv_gL h 202 k)) 201 k (jv_gL h 203 k)) 202 k (jv_gL h 200 k)) 203 k (jv_gL h 201 k)) := (((oT.rf.uL (Or.inr (by omega))).uL (Or.inr (by omega))).uL (Or.inr (by omega))).uL (Or.inr (by omega))
      have o2 : oT zI (fun q j => q = 202 ∨ q = 203) (jv_uL (jv_uL h 200 k (jv_gL h 202 k)) 201 k (jv_gL h 203 k)) (jv_uL (jv_uL (jv_uL (jv_uL h 200 k (jv_gL h 202 k)) 201 k (jv_gL h 203 k)) 202 k (jv_gL h 200 k)) 203 k (jv_gL h 201 k)) := (oT.rf.uL (Or.inl rfl)).uL (Or.inr rfl)
      have o3 : oT zI (fun q j => q = 200 ∨ q = 201) h (jv_uL (jv_uL h 200 k (jv_gL h 202 k)) 201 k (jv_gL h 203 k)) := (oT.rf.uL (Or.inl rfl)).uL (Or.inr rfl)
      have d1 := (c1.st (k := k) (show 200 ≠ 201 by decide) v2).mv o2 (fun i => by omega)
      have d2 := (c2.mv o3 (fun i => by omega)).st (k := k) (show 202 ≠ 203 by decide) v1
      have e : ∀ (P R : Nat → Int × Int) (i : Nat), i < 13 → (if i < k + 1 then P i else R i) = pz_up (fun i => if i < k then P i else R i) k (P k) i := fun P R i hi => by
        unfold pz_up
        by_cases z : i = k
        · rw [if_pos z, if_pos (by omega), z]
        · rw [if_neg z]
          dsimp only
          by_cases y : i < k
          · rw [if_pos y, if_pos (by omega)]
          · rw [if_neg y, if_neg (by omega)]
      exact changes_l Q A B m (k + 1) _ _ (nz_inc hy (by omega)) (by omega) (mr.mv o1) (d1.eq (e B A)) (d2.eq (e A B)) (fun h' o' f1 f2 => hQ h' (o1.tr o') f1 f2)
theorem m_changes (A B : Nat → Int × Int) (mr : MR h) (c1 : rw0 h 200 201 A) (c2 : rw0 h 202 203 B) (hK : ∀ h', oT zI abL h h' → rw0 h' 200 201 B → rw0 h' 202 203 A → K h') : jV X (d + 1) y_Model_changes [.ref 171] 227 h K :=
  r_Model_changes X d 227 _ 171 h (changes_l X d _ A B 13 0 0 h rfl rfl mr (c1.eq (fun i _ => if_neg (Nat.not_lt_zero _))) (c2.eq (fun i _ => if_neg (Nat.not_lt_zero _))) hK)
theorem keeps_l (Q : jv_Q) (r : Nat) (hr : r < 6) (A B : Nat → Int × Int) : ∀ (m k : Nat) (y : Int32) (h : jv_H), y.toInt = k → k + m = 13 → MR h → (jv_gI h 171 9).toInt = r → rw0 h 200 201 A → rw0 h 202 203 B → (∀ i, i < k → uq h 173 174 (26 * r + i) = A i) → (∀ i, i < k → uq h 173 174 (26 * r + 13 + i) = B i) → (∀ h', oT zI (rL0 (26 * r)) h h' → rwq h' 173 174 (26 * r) A → rwq h' 173 174 (26 * r + 13) B → Q (some (.int (jv_gI (jv_uI h' 171 9 (jv_gI h' 171 9 + 1)) 171 9 - 1))) (jv_uI h' 171 9 (jv_gI h' 171 9 + 1))) → a_Model_keeps_2 X d 227 Q 171 y h 0
  | 0, k, y, h, hy, hm, mr, h9, cA, cB, c1, c2, hQ => by
    exact r_Model_keeps_2 X d 227 Q 171 y h ⟨fun _ => ⟨is171, is171, is171, hQ h oT.rf (fun i hi => c1 i (by omega)) (fun i hi => c2 i (by omega))⟩, fun z => absurd (nz_le.mpr (by rw [hy]; show (13 : Int) ≤ _; omega)) z⟩
  | m + 1, k, y, h, hy, hm, mr, h9, cA, cB, c1, c2, hQ => by
    obtain ⟨e1, e2⟩ := nz_26 h9 hr
    have a1 : ((26 : Int32) * jv_gI h 171 9 + y).toInt = ((26 * r + k : Nat) : Int) := by rw [nz_addi (by rw [e1, hy]; omega) (by rw [e1, hy]; omega), e1, hy]; omega
    have a2 : ((26 : Int32) * jv_gI h 171 9 + 13 + y).toInt = ((26 * r + 13 + k : Nat) : Int) := by rw [nz_addi (by rw [e2, hy]; omega) (by rw [e2, hy]; omega), e2, hy]; omega
    have g0 : ∀ q : Nat, SHT q = (1, 13) → q < 227 → jv_ix SHT 227 q 1 y := fun q h1 h2 => jx h1 h2 (by omega) (by omega)
    have g1 : ∀ q : Nat, SHT q = (1, 156) → q < 227 → jv_ix SHT 227 q 1 ((26 : Int32) * jv_gI h 171 9 + y) := fun q h1 h2 => jx h1 h2 (by omega) (by omega)
    have g2 : ∀ q : Nat, SHT q = (1, 156) → q < 227 → jv_ix SHT 227 q 1 ((26 : Int32) * jv_gI h 171 9 + 13 + y) := fun q h1 h2 => jx h1 h2 (by omega) (by omega)
    refine r_Model_keeps_2 X d 227 Q 171 y h ⟨fun z => ?_, fun _ => ⟨is171, _, mr 7, is171, is171, _, mr 39, g0 200 rfl (by decide), g1 173 rfl (by decide), is171, _, mr 8, is171, is171, _, mr 40, g0 201 rfl (by decide), g1 174 rfl (by decide), is171, _, mr 7, is171, is171, _, mr 41, g0 202 rfl (by decide), g2 173 rfl (by decide), is171, _, mr 8, is171, is171, _, mr 42, g0 203 rfl (by decide), g2 174 rfl (by decide), ?_⟩⟩
    · have : (13 : Int) ≤ y.toInt := nz_le.mp z
      omega
    · simp only [gI_uI, gI_uL, gL_uL, gL_uI, and_self, true_and, and_true, false_and, and_false, if_true, if_false, reduceIte, Nat.reduceEqDiff]
      rw [nz_nat a1, nz_nat a2, nz_nat hy]
      have vA := cA k (by omega)
      have vB := cB k (by omega)
      have o1 : oT zI (rL0 (26 * r)) h (jv_uL (jv_uL (jv_uL (jv_uL h 173 (26 * r + k) (jv_gL h 200 k)) 174 (26 * r + k) (jv_gL h 201 k)) 173 (26 * r + 13 + k) (jv_gL h 202 k)) 174 (26 * r + 13 + k) (jv_gL h 203 k)) := (((oT.rf.uL ⟨Or.inl rfl, by omega, by omega⟩).uL ⟨Or.inr rfl, by omega, by omega⟩).uL ⟨Or.inl rfl, by omega, by omega⟩).uL ⟨Or.inr rfl, by omega, by omega⟩
      refine keeps_l Q r hr A B m (k + 1) _ _ (nz_inc hy (by omega)) (by omega) (mr.mv o1) h9 (cA.mv o1 (fun i => ⟨fun z => by unfold rL0 at z; omega, fun z => by unfold rL0 at z; omega⟩)) (cB.mv o1 (fun i => ⟨fun z => by unfold rL0 at z; omega, fun z => by unfold rL0 at z; omega⟩)) (fun i hi => ?_) (fun i hi => ?_) (fun h' o' d1 d2 => hQ h' (o1.tr o') d1 d2)
      · rw [uq_st _ _ _ _ _ _ (by decide), if_neg (by omega), uq_st _ _ _ _ _ _ (by decide)]
        by_cases e : i = k
        · rw [if_pos (by omega), e]
          exact vA
        · rw [if_neg (by omega)]
          exact c1 i (by omega)
      · rw [uq_st _ _ _ _ _ _ (by decide)]
        by_cases e : i = k
        · rw [if_pos (by omega), e]
          exact vB
        · rw [if_neg (by omega), uq_st _ _ _ _ _ _ (by decide), if_neg (by omega)]
          exact c2 i (by omega)
theorem m_keeps (KK : zK) (A B : Nat → Int × Int) (kn : MKg nA nS h KK) (b : bdK KK) (hn : KK.nr < 6) (mr : MR h) (c1 : rw0 h 200 201 A) (c2 : rw0 h 202 203 B) (hK : ∀ z : Int32, z.toInt = KK.nr → ∀ h', oT (fun q j => q = 171 ∧ j = 9) (rL0 (26 * KK.nr)) h h' → MKg nA nS h' (KK.addR (A, B)) → KI z h') : jI X (d + 1) y_Model_keeps [.ref 171] 227 h KI := by
  refine r_Model_keeps X d 227 _ 171 h (keeps_l X d _ KK.nr hn A B 13 0 0 h rfl rfl mr kn.zr c1 c2 (fun i hi => absurd hi (Nat.not_lt_zero _)) (fun i hi => absurd hi (Nat.not_lt_zero _)) (fun h' o' d1 d2 => ?_))
  have kn' : MKg nA nS h' KK := MKn.mv kn b o' (fun q j z => z.elim) (fun q j z => Or.inl (by unfold rL0 at z; unfold frL; omega))
  rw [show jv_gI (jv_uI h' 171 9 (jv_gI h' 171 9 + 1)) 171 9 = jv_gI h' 171 9 + 1 from uI_eq]
  exact hK _ (nz_incdec kn'.zr (by omega)) _ ((o'.mono (fun _ _ z => z.elim) (fun _ _ z => z)).uI ⟨rfl, rfl⟩) (MKn.addR kn' b hn d1 d2)
theorem endOf_l (Q : jv_Q) (u l : Nat) (hu : SHT u = (1, 13)) (hu2 : u < 227) (f : Nat → Int × Int) (c : rw0 h u l f) (g : gdr f) (x : Int32) : ∀ (m k : Nat) (y : Int32), y.toInt = k → k + m = 13 → (∀ z : Int32, z.toInt = (if x = 0 then pz_hi f m else pz_lo f m k) → Q (some (.int z)) h) → a_Model_endOf_2 X d 227 Q u x y h 0
  | 0, k, y, hy, hm, hQ => by
    refine r_Model_endOf_2 X d 227 Q u x y h ⟨fun _ => hQ _ ?_, fun z => absurd (nz_le.mpr (by rw [hy]; show (13 : Int) ≤ _; omega)) z⟩
    split
    · rfl
    · rfl
  | m + 1, k, y, hy, hm, hQ => by
    have e12 : (12 : Int32).toInt = 12 := rfl
    have h12 : ((12 : Int32) - y).toInt = ((m : Nat) : Int) := by rw [nz_subi (by rw [e12, hy]; omega) (by rw [e12, hy]; omega), e12, hy]; omega
    have v1 : (jv_gL h u k).toInt = (f k).1 := uq.a (c k (by omega))
    have v2 : (jv_gL h u m).toInt = (f m).1 := uq.a (c m (by omega))
    refine r_Model_endOf_2 X d 227 Q u x y h ⟨fun z => ?_, fun _ => ⟨fun a => ⟨jx hu hu2 (by omega) (by omega), ?_⟩, fun a => ⟨jx hu hu2 (by omega) (by omega), ?_⟩⟩⟩
    · have : (13 : Int) ≤ y.toInt := nz_le.mp z
      omega
    · rw [if_neg a] at hQ
      unfold pz_lo at hQ
      rw [nz_nat hy]
      refine ⟨fun e => ?_, fun e => ?_⟩
      · have : f k = (0, 1) := (gd_z (g k (by omega))).mp (by rw [← v1, (lg_cmp_eq _ _).mp e]; rfl)
        rw [if_pos this] at hQ
        exact endOf_l Q u l hu hu2 f c g x m (k + 1) _ (nz_inc hy (by omega)) (by omega) (by rw [if_neg a]; exact hQ)
      · have : ¬ f k = (0, 1) := fun z => e ((lg_cmp_eq _ _).mpr (Int64.toInt_inj.mp (by rw [v1, z]; rfl)))
        rw [if_neg this] at hQ
        exact hQ y hy
    · rw [if_pos a] at hQ
      unfold pz_hi at hQ
      rw [nz_nat h12]
      refine ⟨fun e => ?_, fun e => ?_⟩
      · have : f m = (0, 1) := (gd_z (g m (by omega))).mp (by rw [← v2, (lg_cmp_eq _ _).mp e]; rfl)
        rw [if_pos this] at hQ
        exact endOf_l Q u l hu hu2 f c g x m (k + 1) _ (nz_inc hy (by omega)) (by omega) (by rw [if_pos a]; exact hQ)
      · have : ¬ f m = (0, 1) := fun z => e ((lg_cmp_eq _ _).mpr (Int64.toInt_inj.mp (by rw [v2, z]; rfl)))
        rw [if_neg this] at hQ
        exact hQ _ h12
theorem m_endOf (u l : Nat) (hu : SHT u = (1, 13)) (hu2 : u < 227) (f : Nat → Int × Int) (c : rw0 h u l f) (g : gdr f) (x : Int32) (hK : ∀ z : Int32, z.toInt = (if x = 0 then pz_hi f 13 else pz_lo f 13 0) → KI z h) : jI X (d + 1) y_Model_endOf [.ref u, .int x] 227 h KI :=
  r_Model_endOf X d 227 _ u x h (endOf_l X d h _ u l hu hu2 f c g x 13 0 0 rfl rfl hK)
theorem fin_R (h1 : jv_H) (A B : Nat → Int × Int) (ms : MS h Z) (bd : bdZ Z) (hn : Z.k.nr < 6) (o1 : oT (mI 171) abL h h1) (c1 : rw0 h1 200 201 A) (c2 : rw0 h1 202 203 B) (hK : dI h ((Z.k.nr : Int), Z.sk (Z.k.addR (A, B))) KI) : jI X 7 y_Model_keeps [.ref 171] 227 h1 KI := by
  have ms1 := ms.mv bd (ab_fr o1)
  refine m_keeps X 6 h1 _ Z.k A B ms1.k bd.2.1 hn ms1.r c1 c2 (fun z hz h' o' kn => ?_)
  refine hK z hz h' ((fK.M (ab_fr (K := Z.k) o1)).tr (o'.M (fun q j z => by omega) (fun q j z => by unfold rL0 at z; omega))) (ms1.upd bd o' (fun q j z => by omega) (fun q j z => by unfold rL0 at z; omega) kn)
theorem w_invert (x : Int32) (ms : MS h Z) (bd : bdZ Z) (hK : dI h (q_invert x Z) KI) : jI X 8 y_Model_invert [.ref 171, .int x] 227 h KI := by
  unfold q_invert at hK
  have hm := bd.2.1.1
  have hz := ms.k.zr
  refine r_Model_invert X 7 227 _ 171 x h ⟨is171, m_isRatio X 5 h _ Z x ms bd (fun hr => ⟨fun _ => ⟨is171, fun a => ⟨is171, ?_⟩, fun a => ?_⟩, fun z => absurd z (by decide)⟩) (fun hr => ⟨fun z => absurd rfl z, fun _ => ?_⟩)⟩
  · have hn : Z.k.nr < 6 := by
      have : Z.k.nr ≠ 6 := fun z => a (Int32.toInt_inj.mp (by rw [hz, z]; rfl))
      omega
    rw [if_pos hr, if_neg (by omega)] at hK
    have hx : x.toInt = (x.toInt.toNat : Int) := by omega
    have hR : Z.R x = Z.k.R x.toInt.toNat := congrArg Z.k.R (nz_nat hx)
    rw [hR] at hK
    refine m_loads X 6 h _ Z x _ hx ms bd (by omega) (fun h1 o1 c1 c2 => ⟨is171, m_changes X 6 h1 _ _ _ (ms.r.mv o1) c1 c2 (fun h2 o2 d1 d2 => ⟨is171, fin_R X h _ Z h2 _ _ ms bd hn (ni_mi (o1.tr o2)) d1 d2 hK⟩)⟩)
  · have hn : Z.k.nr = 6 := by
      have : (jv_gI h 171 9).toInt = 6 := by rw [a]; rfl
      omega
    rw [if_pos hr, if_pos hn] at hK
    exact hK _ rfl h oM.rf ms
  · rw [if_neg hr] at hK
    exact hK _ rfl h oM.rf ms
end
