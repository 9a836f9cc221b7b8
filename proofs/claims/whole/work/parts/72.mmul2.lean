/-! ===== the reference: multiply ===== -/
theorem m0_a {L : zL} {i : Nat} (h : i ≠ 0) : L.m0.1 i = (0, 1) := if_neg (fun z => h z.1)
theorem m0_b {L : zL} {i : Nat} (h : i ≠ 0) : L.m0.2 i = (0, 1) := if_neg (fun z => h z.1)
theorem m0_rows (h : jv_H) (L : zL) (s t v : Int64) (c1 : rw0 h 200 201 (fun _ => (0, 1))) (c2 : rw0 h 202 203 (fun _ => (0, 1))) (e1 : (s.toInt, t.toInt) = L.m0.1 0) (e2 : (v.toInt, (1 : Int)) = L.m0.2 0) : oT (mI 171) abL h (jv_uL (jv_uL (jv_uL h 200 0 s) 201 0 t) 202 0 v) ∧ rw0 (jv_uL (jv_uL (jv_uL h 200 0 s) 201 0 t) 202 0 v) 200 201 L.m0.1 ∧ rw0 (jv_uL (jv_uL (jv_uL h 200 0 s) 201 0 t) 202 0 v) 202 203 L.m0.2 := by
  refine ⟨((oT.rf.uL (Or.inr (by omega))).uL (Or.inr (by omega))).uL (Or.inr (by omega)), fun i hi => ?_, fun i hi => ?_⟩
  · have o2 : oT zI (fun q j => q = 202) (jv_uL (jv_uL h 200 0 s) 201 0 t) (jv_uL (jv_uL (jv_uL h 200 0 s) 201 0 t) 202 0 v) := oT.rf.uL rfl
    rw [uq.mv o2 (by decide) (by decide), uq_st _ _ _ _ _ _ (by decide)]
    by_cases e : i = 0
    · rw [if_pos e, e, e1]
    · rw [if_neg e, m0_a e]
      exact c1 i hi
  · have o2 : oT zI (fun q j => q = 200 ∨ q = 201) h (jv_uL (jv_uL h 200 0 s) 201 0 t) := (oT.rf.uL (Or.inl rfl)).uL (Or.inr rfl)
    have c3 := c2.mv o2 (fun i => by omega)
    by_cases e : i = 0
    · rw [e, ← e2]
      have c4 := c3 0 (by decide)
      show ((jv_gL (jv_uL (jv_uL (jv_uL h 200 0 s) 201 0 t) 202 0 v) 202 0).toInt, _) = _
      rw [gL_uL, if_pos ⟨rfl, rfl⟩]
      exact congrArg (fun z : Int × Int => (v.toInt, z.2)) c4
    · rw [m0_b e]
      have o3 : oT zI (fun q j => q = 202 ∧ j = 0) (jv_uL (jv_uL h 200 0 s) 201 0 t) (jv_uL (jv_uL (jv_uL h 200 0 s) 201 0 t) 202 0 v) := oT.rf.uL ⟨rfl, rfl⟩
      rw [uq.mv o3 (fun z => e z.2) (by omega)]
      exact c3 i hi
section
variable (X : jv_X) (d : Nat) (h : jv_H) (K : jv_H → Prop) (KI : Int32 → jv_H → Prop) (Z : zZ)
theorem w_multiply (x : Int32) (ms : MS h Z) (bd : bdZ Z) (ok : okZ Z) (hK : dI h (q_mult x Z) KI) : jI X 8 y_Model_multiply [.ref 171, .int x] 227 h KI := by
  unfold q_mult at hK
  have hm := bd.2.1.1
  have hml := bd.2.1.2.1
  have hz := ms.k.zr
  refine r_Model_multiply X 7 227 _ 171 x h ⟨is171, m_isLadder X 5 h _ Z x ms bd (fun hr => ⟨fun _ => ⟨is171, fun e => ⟨is171, Or.inl rfl, ?_⟩, fun e => ?_⟩, fun z => absurd z (by decide)⟩) (fun hr => ⟨fun z => absurd rfl z, fun _ => ?_⟩)⟩
  · have hn : Z.k.nr < 6 := by
      have : Z.k.nr ≠ 6 := fun z => e (Int32.toInt_inj.mp (by rw [hz, z]; rfl))
      omega
    rw [if_pos hr, if_neg (by omega)] at hK
    have hx : x.toInt = (x.toInt.toNat : Int) := by omega
    have hl : x.toInt.toNat < Z.k.nl := by omega
    generalize x.toInt.toNat = l at hx hl
    have hL : Z.L x = Z.k.L l := congrArg Z.k.L (nz_nat hx)
    rw [hL] at hK
    obtain ⟨ok1, ok2, ok3, ok4, ok5, ok6⟩ := ok.1.2.1 l hl
    have hsz := bd.2.1.2.2.1 l hl
    have o0 : oT (mI 171) abL h (jv_uI h 171 6 0) := oT.rf.uI ⟨rfl, rfl⟩
    refine mclr2 X 7 _ x 13 0 0 _ rfl rfl (ms.r.mv o0) (fun i hi => absurd hi (Nat.not_lt_zero _)) (fun i hi => absurd hi (Nat.not_lt_zero _)) (fun hc oc c1 c2 => ?_)
    have o1 := o0.tr (ni_mi oc)
    have msc := ms.mv bd (ab_fr o1)
    have mr := msc.r
    have wc : hc.1 171 6 = 0 := by rw [oc.2.1 _ _ (fun z => z)]; exact uI_eq
    have en := msc.k.le hl
    have gi : ∀ q : Nat, ∀ t : Nat, SHT q = (t, 6) → q < 227 → jv_ix SHT 227 q t x := fun q t h1 h2 => jx h1 h2 (by omega) (by omega)
    have g0 : ∀ q : Nat, SHT q = (1, 13) → q < 227 → jv_ix SHT 227 q 1 (0 : Int32) := fun q h1 h2 => jx h1 h2 (by decide) (by decide)
    have last : ∀ s t v : Int64, (s.toInt, t.toInt) = (Z.k.L l).m0.1 0 → (v.toInt, (1 : Int)) = (Z.k.L l).m0.2 0 → ∀ y : Int32, y = jv_gI hc 177 l - 1 → a_Model_multiply_164 X 7 227 (jv_rI KI) 171 x y (jv_uL (jv_uL (jv_uL hc 200 0 s) 201 0 t) 202 0 v) 0 := fun s t v e1 e2 y ey => by
      obtain ⟨of, f1, f2⟩ := m0_rows hc (Z.k.L l) s t v c1 c2 e1 e2
      have g1 : gdr (Z.k.L l).m0.1 := fun i hi => by
        show gd (if i = 0 ∧ (Z.k.L l).en ≠ 0 then (if (Z.k.L l).en = 2 then (Z.k.L l).lo else (1, 1)) else (0, 1))
        split
        · split
          · exact ok5
          · exact gd_1
        · exact gd_0
      have g2 : gdr (Z.k.L l).m0.2 := fun i hi => by
        show gd (if i = 0 ∧ (Z.k.L l).en ≠ 1 then (1, 1) else (0, 1))
        split
        · exact gd_1
        · exact gd_0
      have zz := msc.k.lz hl
      have e1' : (1 : Int32).toInt = 1 := rfl
      refine mmul_l X h Z _ l x hx ms bd ok hl ((Z.k.L l).mo (Z.k.L l).sz (Z.k.L l).m0) (Z.k.L l).sz y _ false _ _ (by rw [ey, nz_subi (by rw [zz, e1']; omega) (by rw [zz, e1']; omega), zz, e1']) (Nat.le_refl _) (o1.tr of) (by exact wc) f1 f2 g1 g2 (Or.inl ⟨rfl, rfl⟩) (fun h3 w3 A B o3 a1 a2 a3 a4 a5 a6 y2 hy => ?_)
      have ms3 := ms.mv bd (ab_fr o3)
      refine r_Model_multiply_164 X 7 227 _ 171 x y2 h3 ⟨fun _ => ⟨is171, fun w => ⟨is171, _, ms3.r 39, ?_⟩, fun w => ?_⟩, fun z => absurd hy z⟩
      · rcases a6 with ⟨z1, z2⟩ | ⟨z1, z2⟩
        · rw [z2] at hK
          dsimp only at hK
          refine m_endOf X 6 h3 _ 200 201 rfl (by decide) A a2 a4 0 (fun z hz => ⟨fun zn => ?_, fun zn => ⟨is171, _, ms3.r 41, ?_⟩⟩)
          · rw [if_pos rfl] at hz
            have : z.toInt < (0 : Int) := nz_lt.mp zn
            rw [if_pos (Or.inl (by omega))] at hK
            exact hK _ rfl h3 (fK.M (ab_fr (K := Z.k) o3)) ms3
          · rw [if_pos rfl] at hz
            have hA : ¬ z.toInt < (0 : Int) := fun y => zn (nz_lt.mpr y)
            refine m_endOf X 6 h3 _ 202 203 rfl (by decide) B a3 a5 0 (fun z' hz' => ⟨fun zp => ⟨is171, ?_⟩, fun zp => ?_⟩)
            · rw [if_pos rfl] at hz'
              have : (0 : Int) ≤ z'.toInt := nz_le.mp zp
              rw [if_neg (by omega)] at hK
              exact fin_R X h _ Z h3 A B ms bd hn o3 a2 a3 hK
            · rw [if_pos rfl] at hz'
              have : ¬ (0 : Int) ≤ z'.toInt := fun y => zp (nz_le.mpr y)
              rw [if_pos (Or.inr (by omega))] at hK
              exact hK _ rfl h3 (fK.M (ab_fr (K := Z.k) o3)) ms3
        · subst z1
          rw [show jv_gI h3 171 6 = 1 from a1] at w
          exact absurd w (by decide)
      · rcases a6 with ⟨z1, z2⟩ | ⟨z1, z2⟩
        · subst z1
          exact absurd a1 w
        · rw [z2] at hK
          exact hK _ rfl h3 (fK.M (ab_fr (K := Z.k) o3)) ms3
    have go107 : ∀ s : Int64, (s.toInt = ((Z.k.L l).m0.1 0).1) → a_Model_multiply_107 X 7 227 (jv_rI KI) 171 x s 0 200 hc 0 := fun s es => by
      refine r_Model_multiply_107 X 7 227 _ 171 x s 0 200 hc ⟨g0 200 rfl (by decide), is171, _, mr 40, is171, _, mr 13, gi 178 0 rfl (by decide), ?_⟩
      have zx := nz_nat hx
      rw [zx]
      refine ⟨fun a => ?_, fun a => ?_⟩
      · have a : ¬ jv_gI hc 178 l = 2 := a
        rw [en] at a
        have em : (Z.k.L l).m0.1 0 = (((Z.k.L l).m0.1 0).1, 1) := by
          show (if 0 = 0 ∧ (Z.k.L l).en ≠ 0 then (if (Z.k.L l).en = 2 then (Z.k.L l).lo else (1, 1)) else (0, 1)) = ((if 0 = 0 ∧ (Z.k.L l).en ≠ 0 then (if (Z.k.L l).en = 2 then (Z.k.L l).lo else (1, 1)) else (0, 1) : Int × Int).1, 1)
          rw [if_neg a]
          split <;> rfl
        refine ⟨g0 201 rfl (by decide), is171, _, mr 41, is171, _, mr 13, gi 178 0 rfl (by decide), fun b => ⟨g0 202 rfl (by decide), is171, _, mr 12, gi 177 0 rfl (by decide), ?_⟩, fun b => ⟨g0 202 rfl (by decide), is171, _, mr 12, gi 177 0 rfl (by decide), ?_⟩⟩
        · have b : ¬ jv_gI hc 178 l = 1 := b
          rw [en] at b
          exact last s 1 1 (by rw [em, es]; rfl) (by show _ = (if 0 = 0 ∧ (Z.k.L l).en ≠ 1 then ((1, 1) : Int × Int) else (0, 1)); rw [if_pos ⟨rfl, b⟩]; rfl) _ rfl
        · have b : jv_gI hc 178 l = 1 := b
          rw [en] at b
          exact last s 1 0 (by rw [em, es]; rfl) (by show _ = (if 0 = 0 ∧ (Z.k.L l).en ≠ 1 then ((1, 1) : Int × Int) else (0, 1)); rw [if_neg (fun z => z.2 b)]; rfl) _ rfl
      · have a : jv_gI hc 178 l = 2 := a
        rw [en] at a
        have lo := msc.k.ll hl a
        have em : (Z.k.L l).m0.1 0 = (Z.k.L l).lo := by
          show (if 0 = 0 ∧ (Z.k.L l).en ≠ 0 then (if (Z.k.L l).en = 2 then (Z.k.L l).lo else (1, 1)) else (0, 1)) = _
          rw [if_pos ⟨rfl, by rw [a]; decide⟩, if_pos a]
        refine ⟨is171, _, mr 17, gi 182 1 rfl (by decide), g0 201 rfl (by decide), is171, _, mr 41, is171, _, mr 13, gi 178 0 rfl (by decide), fun b => ⟨g0 202 rfl (by decide), is171, _, mr 12, gi 177 0 rfl (by decide), ?_⟩, fun b => ?_⟩
        · refine last s (jv_gL hc 182 l) 1 ?_ (by show _ = (if 0 = 0 ∧ (Z.k.L l).en ≠ 1 then ((1, 1) : Int × Int) else (0, 1)); rw [if_pos ⟨rfl, by rw [a]; decide⟩]; rfl) _ rfl
          rw [em] at es ⊢
          exact Prod.ext es (uq.b lo)
        · have b : jv_gI hc 178 l = 1 := b
          rw [en, a] at b
          exact absurd b (by decide)
    refine r_Model_multiply_29 X 7 227 _ 171 x 13 hc ⟨fun _ => ⟨is171, _, mr 39, is171, _, mr 13, gi 178 0 rfl (by decide), ?_⟩, fun z => absurd (nz_le.mpr (Int.le_refl _)) z⟩
    rw [nz_nat hx, en]
    refine ⟨fun a => ⟨is171, _, mr 13, gi 178 0 rfl (by decide), ?_⟩, fun a => go107 0 ?_⟩
    · rw [en]
      refine ⟨fun b => ⟨is171, _, mr 16, gi 181 1 rfl (by decide), go107 _ ?_⟩, fun b => go107 1 ?_⟩
      · have e2 : (Z.k.L l).en = 2 := by
          rcases ok4 with z | z | z
          · exact absurd z a
          · exact absurd z b
          · exact z
        show _ = (if 0 = 0 ∧ (Z.k.L l).en ≠ 0 then (if (Z.k.L l).en = 2 then (Z.k.L l).lo else (1, 1)) else (0, 1) : Int × Int).1
        rw [if_pos ⟨rfl, a⟩, if_pos e2]
        exact uq.a (msc.k.ll hl e2)
      · show _ = (if 0 = 0 ∧ (Z.k.L l).en ≠ 0 then (if (Z.k.L l).en = 2 then (Z.k.L l).lo else (1, 1)) else (0, 1) : Int × Int).1
        rw [if_pos ⟨rfl, a⟩, if_neg (by rw [b]; decide)]
        rfl
    · show _ = (if 0 = 0 ∧ (Z.k.L l).en ≠ 0 then (if (Z.k.L l).en = 2 then (Z.k.L l).lo else (1, 1)) else (0, 1) : Int × Int).1
      rw [if_neg (fun z => z.2 a)]
      rfl
  · have hn : Z.k.nr = 6 := by
      have : (jv_gI h 171 9).toInt = 6 := by rw [e]; rfl
      omega
    rw [if_pos hr, if_pos hn] at hK
    exact hK _ rfl h oM.rf ms
  · rw [if_neg hr] at hK
    exact hK _ rfl h oM.rf ms
end
