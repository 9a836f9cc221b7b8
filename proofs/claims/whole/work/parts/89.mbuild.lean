/-! ===== the reference: build ===== -/
theorem MKn.setS {h h' : jv_H} {K : zK} {p : Int32} (k : MKg nA nS h K) (a : oT (fun q j => q = 171 ∧ j = 30) nL h h') (c : h'.1 171 30 = p) : MKg nA nS h' (K.1, K.2.1, K.B, K.w, p) := by
  obtain ⟨⟨k1, k2⟩, ⟨k3, k4⟩, k5, ⟨k6, k7, k8⟩, k9⟩ := k
  have row : ∀ n, h'.1 (nA n) = h.1 (nA n) := fun n => funext (fun j => a.2.1 _ _ (fun z => by have : 173 + n = 171 := z.1; omega))
  have rowL : h'.2.1 = h.2.1 := funext (fun q => funext (fun j => a.2.2 _ _ (fun z => z)))
  have sc : ∀ j, j ≠ 30 → h'.1 171 j = h.1 171 j := fun j h1 => a.2.1 _ _ (fun z => h1 z.2)
  refine ⟨⟨by rw [sc _ (by decide)]; exact k1, fun r hr i hi => ?_⟩, ⟨by rw [sc _ (by decide)]; exact k3, fun l hl => ?_⟩, fun s hs => ⟨?_, fun j hj => ?_⟩, ⟨by rw [sc _ (by decide)]; exact k6, by rw [sc _ (by decide)]; exact k7, fun j hj => ?_⟩, c⟩
  · unfold uq
    rw [rowL]
    exact k2 r hr i hi
  · obtain ⟨m1, m2, m3, m4⟩ := k4 l hl
    refine ⟨by rw [row 4]; exact m1, by rw [row 5]; exact m2, fun z => ?_, fun j hj => ?_⟩
    · unfold uq
      rw [rowL]
      exact m3 z
    · unfold uq
      rw [row 2, row 3, rowL]
      exact m4 j hj
  · rw [row 14]
    exact (k5 s hs).1
  · unfold uq
    rw [row 12, row 13, rowL]
    exact (k5 s hs).2 j hj
  · unfold uq
    rw [row 17, row 18, row 19, rowL]
    exact k8 j hj
/-- what is left of the bins, k parts in -/
def LF (h : jv_H) (B : Nat → zB) (L : zL) (k : Nat) : Prop := ∀ (s : Int32) (v : Int × Int) (t j : Nat), s.toInt = t → t < 3 → fnd B s v = (j : Int) → (h.1 204 (10 * t + j)).toInt = if av B s v ≤ L.lik s v k then 0 else av B s v - L.lik s v k
section
variable (X : jv_X) (d : Nat) (h : jv_H) (K : jv_H → Prop) (KI : Int32 → jv_H → Prop) (Z : zZ)
theorem lacks_c (Q : jv_Q) (x1 x2 : Int32) (h0 : jv_H) (hQ : ∀ h', oT (fun q _ => q = 204) nL h0 h' → (∀ i, i < 30 → h'.1 204 i = h0.1 185 i) → a_Model_lacks_33 X d 227 Q 171 x1 x2 ((12 : Int32) * x1) h' 0) : ∀ (m k : Nat) (x3 : Int32) (h : jv_H), x3.toInt = k → k + m = 30 → MR h → oT (fun q _ => q = 204) nL h0 h → (∀ i, i < k → h.1 204 i = h0.1 185 i) → a_Model_lacks_4 X d 227 Q 171 x1 x2 x3 h 0
  | 0, k, x3, h, h3, hm, mr, o, c => by
    exact r_Model_lacks_4 X d 227 Q 171 x1 x2 x3 h ⟨fun _ => hQ h o (fun i hi => c i (by omega)), fun z => absurd (nz_le.mpr (by rw [h3]; show (30 : Int) ≤ _; omega)) z⟩
  | m + 1, k, x3, h, h3, hm, mr, o, c => by
    have g : ∀ q : Nat, SHT q = (0, 30) → q < 227 → jv_ix SHT 227 q 0 x3 := fun q h1 h2 => jx h1 h2 (by omega) (by omega)
    refine r_Model_lacks_4 X d 227 Q 171 x1 x2 x3 h ⟨fun z => ?_, fun _ => ⟨is171, _, mr 45, is171, _, mr 21, g 185 rfl (by decide), g 204 rfl (by decide), ?_⟩⟩
    · have : (30 : Int) ≤ x3.toInt := nz_le.mp z
      omega
    · rw [nz_nat h3]
      have o2 : oT (fun q _ => q = 204) nL h (jv_uI h 204 k (jv_gI h 185 k)) := oT.rf.uI rfl
      refine lacks_c Q x1 x2 h0 hQ m (k + 1) _ _ (nz_inc h3 (by omega)) (by omega) (mr.mv o2) (o.tr o2) (fun i hi => ?_)
      by_cases e : i = k
      · rw [e, uI_eq]
        exact o.2.1 _ _ (fun z => absurd (show (185 : Nat) = 204 from z) (by decide))
      · rw [uI_ne (by omega)]
        exact c i (by omega)
theorem lacks_l (Q : jv_Q) (x1 : Int32) (l : Nat) (hx : x1.toInt = l) (hl : l < Z.k.nl) (ms : MS h Z) (bd : bdZ Z) (ok : okZ Z) (hQ : ∀ z : Int32, z.toInt = lacn Z.k.B (Z.k.L l) (Z.k.L l).sz → ∀ h', fK Z.k h h' → Q (some (.int z)) h') : ∀ (m k : Nat) (x2 x3 : Int32) (h1 : jv_H), x3.toInt = (12 * l + k : Nat) → k + m = (Z.k.L l).sz → x2.toInt = lacn Z.k.B (Z.k.L l) k → fK Z.k h h1 → LF h1 Z.k.B (Z.k.L l) k → a_Model_lacks_33 X (d + 1) 227 Q 171 x1 x2 x3 h1 0
  | 0, k, x2, x3, h1, h3, hm, h2, fk, lf => by
    have ms1 := ms.mv bd fk
    have lz := ms1.k.lz hl
    have hml := bd.2.1.2.1
    have hsz := bd.2.1.2.2.1 l hl
    have hp := nz_12p hx (by omega) lz (by omega)
    refine r_Model_lacks_33 X (d + 1) 227 Q 171 x1 x2 x3 h1 ⟨is171, _, ms1.r 12, jx (len := 6) rfl (by decide) (by omega) (by omega), ?_⟩
    rw [nz_nat hx]
    have ek : k = (Z.k.L l).sz := by omega
    subst ek
    exact ⟨fun _ => hQ x2 h2 h1 fk, fun z => absurd (nz_le.mpr (by rw [hp, h3]; omega)) z⟩
  | m + 1, k, x2, x3, h1, h3, hm, h2, fk, lf => by
    have ms1 := ms.mv bd fk
    have lz := ms1.k.lz hl
    have hml := bd.2.1.2.1
    have hsz := bd.2.1.2.2.1 l hl
    have hp := nz_12p hx (by omega) lz (by omega)
    have hkl : k < (Z.k.L l).sz := by omega
    have hlk := lacn_le Z.k.B (Z.k.L l) k
    have hS := (ok.1.2.1 l hl).2.1
    have hs3 := hS k hkl
    obtain ⟨t, ht, hst⟩ := hs3
    have hb := bd.2.1.2.2.2.1 t ht
    have v := ms1.k.lv hl hkl
    have eb : bos Z.k.B ((Z.k.L l).so k) = Z.k.B t := congrArg Z.k.B (nz_nat hst)
    have ef : fnd Z.k.B ((Z.k.L l).so k) ((Z.k.L l).va k) = (Z.k.B t).fi ((Z.k.L l).va k) (Z.k.B t).n 0 := by
      unfold fnd
      rw [eb]
    have gj : ∀ q : Nat, ∀ t : Nat, SHT q = (t, 72) → q < 227 → jv_ix SHT 227 q t x3 := fun q t h1 h2 => jx h1 h2 (by omega) (by omega)
    have a0 := av_0 ok.1.C (hS k hkl) ((Z.k.L l).va k)
    have hlac : lacn Z.k.B (Z.k.L l) (k + 1) = lacn Z.k.B (Z.k.L l) k + if av Z.k.B ((Z.k.L l).so k) ((Z.k.L l).va k) ≤ (Z.k.L l).lik ((Z.k.L l).so k) ((Z.k.L l).va k) k then 1 else 0 := rfl
    have hlik : ∀ s w, (Z.k.L l).lik s w (k + 1) = (Z.k.L l).lik s w k + if (Z.k.L l).so k = s ∧ (Z.k.L l).va k = w then 1 else 0 := fun _ _ => rfl
    refine r_Model_lacks_33 X (d + 1) 227 Q 171 x1 x2 x3 h1 ⟨is171, _, ms1.r 12, jx (len := 6) rfl (by decide) (by omega) (by omega), ?_⟩
    rw [nz_nat hx]
    refine ⟨fun z => ?_, fun _ => ⟨is171, _, ms1.r 10, gj 175 0 rfl (by decide), is171, _, ms1.r 14, gj 179 1 rfl (by decide), is171, _, ms1.r 15, gj 180 1 rfl (by decide), is171, ?_⟩⟩
    · have := nz_le.mp z
      rw [hp, h3] at this
      omega
    · rw [nz_nat h3, ms1.k.ls hl hkl]
      have lack : av Z.k.B ((Z.k.L l).so k) ((Z.k.L l).va k) ≤ (Z.k.L l).lik ((Z.k.L l).so k) ((Z.k.L l).va k) k → a_Model_lacks_33 X (d + 1) 227 Q 171 x1 (x2 + 1) (x3 + 1) h1 0 := fun le => by
        refine lacks_l Q x1 l hx hl ms bd ok hQ m (k + 1) _ _ h1 (by rw [nz_inc h3 (by omega)]; omega) (by omega) (by rw [nz_inc h2 (by omega), hlac, if_pos le]) fk (fun s w t' j hs ht' hj => ?_)
        have old := lf s w t' j hs ht' hj
        rw [hlik]
        by_cases e : (Z.k.L l).so k = s ∧ (Z.k.L l).va k = w
        · rw [if_pos e]
          rw [← e.1, ← e.2] at old ⊢
          rw [if_pos le] at old
          rw [if_pos (by omega)]
          exact old
        · rw [if_neg e, Nat.add_zero]
          exact old
      refine m_binOf X d h1 _ Z _ t hst ht _ _ ((Z.k.L l).va k) (uq.a v) (uq.b v) ms1 bd (fun nf => ⟨fun _ => lack ?_, fun z => absurd (by decide) z⟩) (fun j hj z hz => ⟨fun y => ?_, fun _ => ?_⟩)
      · have : av Z.k.B ((Z.k.L l).so k) ((Z.k.L l).va k) = 0 := by
          unfold av
          rw [ef, nf, if_neg (by decide)]
        omega
      · have : z.toInt < (0 : Int) := nz_lt.mp y
        omega
      · have hjn : j < (Z.k.B t).n ∧ ((Z.k.B t).e j).1 = (Z.k.L l).va k := by
          rcases (Z.k.B t).fi_b ((Z.k.L l).va k) (Z.k.B t).n 0 with y | ⟨i, y1, y2, y3, y4⟩
          · omega
          · have : i = j := by omega
            subst this
            exact ⟨by omega, y4⟩
        have old := lf _ _ t j hst ht (ef.trans hj)
        have gz : jv_ix SHT 227 204 0 z := jx (len := 30) rfl (by decide) (by omega) (by omega)
        refine ⟨is171, _, ms1.r 45, gz, ?_⟩
        rw [nz_nat hz]
        have old' : (jv_gI h1 204 (10 * t + j)).toInt = _ := old
        refine ⟨fun y => lack ?_, fun y => ⟨is171, _, ms1.r 45, gz, gz, ?_⟩⟩
        · have y : (jv_gI h1 204 (10 * t + j)).toInt ≤ 0 := nz_le.mp y
          rw [old'] at y
          apply Classical.byContradiction
          intro q
          rw [if_neg q] at y
          omega
        · have y : ¬ (jv_gI h1 204 (10 * t + j)).toInt ≤ 0 := fun q => y (nz_le.mpr q)
          rw [old'] at y
          have nle : ¬ av Z.k.B ((Z.k.L l).so k) ((Z.k.L l).va k) ≤ (Z.k.L l).lik ((Z.k.L l).so k) ((Z.k.L l).va k) k := fun q => by rw [if_pos q] at y; omega
          rw [if_neg nle] at old'
          have e1 : (1 : Int32).toInt = 1 := rfl
          have o2 : fK Z.k h1 (jv_uI h1 204 (10 * t + j) (jv_gI h1 204 (10 * t + j) - 1)) := oT.rf.uI (by unfold frI; omega)
          refine lacks_l Q x1 l hx hl ms bd ok hQ m (k + 1) _ _ _ (by rw [nz_inc h3 (by omega)]; omega) (by omega) (by rw [h2, hlac, if_neg nle, Nat.add_zero]) (fk.tr o2) (fun s w t' j' hs ht' hj' => ?_)
          have old2 := lf s w t' j' hs ht' hj'
          rw [hlik]
          by_cases e : (Z.k.L l).so k = s ∧ (Z.k.L l).va k = w
          · have et : t' = t := by
              have := hst
              rw [e.1, hs] at this
              omega
            have ej : j' = j := by
              rw [← e.1, ← e.2, ef, hj] at hj'
              omega
            rw [if_pos e, et, ej, uI_eq, nz_subi (by rw [old', e1]; omega) (by rw [old', e1]; omega), old', e1, ← e.1, ← e.2]
            by_cases q : av Z.k.B ((Z.k.L l).so k) ((Z.k.L l).va k) ≤ ((Z.k.L l).lik ((Z.k.L l).so k) ((Z.k.L l).va k) k + 1 : Nat)
            · rw [if_pos q]
              omega
            · rw [if_neg q]
              omega
          · rw [if_neg e, Nat.add_zero]
            have bj' := bd.2.1.2.2.2.1 t' ht'
            have f2 : fnd Z.k.B s w = (Z.k.B t').fi w (Z.k.B t').n 0 := by
              unfold fnd
              rw [show bos Z.k.B s = Z.k.B t' from congrArg Z.k.B (nz_nat hs)]
            have hjn' : j' < (Z.k.B t').n ∧ ((Z.k.B t').e j').1 = w := by
              rw [f2] at hj'
              rcases (Z.k.B t').fi_b w (Z.k.B t').n 0 with y | ⟨i, y1, y2, y3, y4⟩
              · omega
              · have : i = j' := by omega
                subst this
                exact ⟨by omega, y4⟩
            rw [uI_ne (fun z => e ?_)]
            · exact old2
            · have et : t' = t := by omega
              have ej : j' = j := by omega
              refine ⟨Int32.toInt_inj.mp (by rw [hst, hs, et]), ?_⟩
              rw [← hjn.2, ← hjn'.2, et, ej]
theorem m_isAhead (x1 : Int32) (j : Nat) (hx : x1.toInt = j) (s u : Int32) (x3 x5 : Int64) (v : Int × Int) (e3 : x3.toInt = v.1) (e5 : x5.toInt = v.2) (hv : gp v) (e : Int32 × Int32 × Int32 × (Int × Int)) (he : enw h j = e) (hj : j < 24) (hg : gp e.2.2.2) (mr : MR h) (hK1 : ¬ wah s u v e → KI 1 h) (hK0 : wah s u v e → KI 0 h) : jI X (d + 2) y_Model_isAhead [.ref 171, .int x1, .int s, .long x3, .long x5, .int u] 227 h KI := by
  have gi : ∀ q t : Nat, SHT q = (t, 24) → q < 227 → jv_ix SHT 227 q t x1 := fun q t h1 h2 => jx h1 h2 (by omega) (by omega)
  have a1 : jv_gI h 190 j = e.1 := congrArg Prod.fst he
  have a2 : jv_gI h 191 j = e.2.1 := congrArg (fun z => z.2.1) he
  have a4 : uq h 188 189 j = e.2.2.2 := congrArg (fun z => z.2.2.2) he
  unfold wah at hK1 hK0
  refine r_Model_isAhead X (d + 1) 227 _ 171 x1 s x3 x5 u h ⟨is171, _, mr 27, gi 191 0 rfl (by decide), ?_⟩
  rw [nz_nat hx, a2]
  refine ⟨fun a => ⟨is171, _, mr 26, gi 190 0 rfl (by decide), ?_⟩, fun a => ⟨is171, _, mr 27, gi 191 0 rfl (by decide), ?_⟩⟩
  · rw [if_pos a.symm] at hK1 hK0
    rw [a1]
    refine ⟨fun b => ⟨is171, _, mr 24, gi 188 1 rfl (by decide), is171, _, mr 25, gi 189 1 rfl (by decide), ?_⟩, fun b => ⟨is171, _, mr 26, gi 190 0 rfl (by decide), ?_⟩⟩
    · rw [if_pos b.symm] at hK1 hK0
      have sw : (fz_cmp e.2.2.2 v).toInt < 0 ↔ ¬ (fz_cmp v e.2.2.2).toInt ≤ 0 := by
        have m1 : (-1 : Int32).toInt = -1 := rfl
        have m0 : (0 : Int32).toInt = 0 := rfl
        have mm : (1 : Int32).toInt = 1 := rfl
        unfold fz_cmp
        by_cases c1 : e.2.2.2.1 * v.2 < v.1 * e.2.2.2.2
        · rw [if_pos c1, if_neg (by omega), if_neg (by omega), m1, mm]
          omega
        · rw [if_neg c1]
          by_cases c2 : e.2.2.2.1 * v.2 = v.1 * e.2.2.2.2
          · rw [if_pos c2, if_neg (by omega), if_pos (by omega), m0]
            omega
          · rw [if_neg c2, if_pos (by omega), mm, m1]
            omega
      refine m_order X d h _ _ _ _ _ e.2.2.2 v (uq.a a4) (uq.b a4) e3 e5 hg.1.z hv.1.z ⟨fun y => ⟨Or.inl rfl, hK0 (sw.mp (nz_lt.mp y))⟩, fun y => ⟨Or.inr rfl, hK1 (fun z => y (nz_lt.mpr (sw.mpr z)))⟩⟩
    · rw [if_neg (fun z => b z.symm)] at hK1 hK0
      rw [a1]
      have ne : s.toInt ≠ e.1.toInt := fun z => b (Int32.toInt_inj.mp z.symm)
      refine ⟨fun y => ⟨Or.inl rfl, hK0 ?_⟩, fun y => ⟨Or.inr rfl, hK1 (fun z => y (nz_le.mpr (by omega)))⟩⟩
      have := nz_le.mp y
      omega
  · rw [if_neg (fun z => a z.symm)] at hK1 hK0
    rw [a2]
    have ne : u.toInt ≠ e.2.1.toInt := fun z => a (Int32.toInt_inj.mp z.symm)
    refine ⟨fun y => ⟨Or.inl rfl, hK0 ?_⟩, fun y => ⟨Or.inr rfl, hK1 (fun z => y (nz_le.mpr (by omega)))⟩⟩
    have := nz_le.mp y
    omega
end
