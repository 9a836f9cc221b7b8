/-! ===== the reference: copy, image, undo: the calls ===== -/
section
variable (X : jv_X) (d : Nat) (h : jv_H) (K : jv_H → Prop) (KI : Int32 → jv_H → Prop) (Z : zZ)
theorem w_copy (a i b j n : Int32) (ms : MS h Z) (bd : bdZ Z) (hK : dI h (q_copy a i b j n Z) KI) : jI X 8 y_Model_copy [.ref 171, .int a, .int i, .int b, .int j, .int n] 227 h KI := by
  unfold q_copy at hK
  refine r_Model_copy X 7 227 _ 171 a i b j n h (m_isHolder X 5 h _ a (fun ha => ⟨fun z => absurd z (by decide), fun _ => m_isHolder X 5 h _ b (fun hb => ⟨fun _ => ?_, fun z => absurd z (by decide)⟩) (fun hb => ⟨fun z => absurd rfl z, fun _ => ?_⟩)⟩) (fun ha => ⟨fun _ => ?_, fun z => absurd rfl z⟩))
  · rw [if_pos ⟨ha, hb⟩] at hK
    obtain ⟨s, hsa, hs, hca⟩ := wi5 ha
    obtain ⟨t, htb, ht, hcb⟩ := wi5 hb
    have hA : Z.h a = Z.H s := congrArg Z.H hca
    have hB : Z.h b = Z.H t := congrArg Z.H hcb
    rw [hA, hB, hcb] at hK
    have ga : ∀ q : Nat, ∀ t : Nat, SHT q = (t, 6) → q < 227 → jv_ix SHT 227 q t a := fun q t h1 h2 => jx h1 h2 (by omega) (by omega)
    have gb : ∀ q : Nat, ∀ t : Nat, SHT q = (t, 6) → q < 227 → jv_ix SHT 227 q t b := fun q t h1 h2 => jx h1 h2 (by omega) (by omega)
    obtain ⟨a1, a2, a3⟩ := ms.2.2.2.2.2 s hs
    obtain ⟨b1, b2, b3⟩ := ms.2.2.2.2.2 t ht
    have a1 : jv_gI h 193 s = (Z.H s).ct := a1
    have b1' : jv_gI h 193 t = (Z.H t).ct := b1
    have ca := (bd.2.2.2 s hs).1
    have cb := (bd.2.2.2 t ht).1
    refine ⟨is171, _, ms.r 32, ga 193 0 rfl (by decide), ?_⟩
    rw [hca, a1]
    refine ⟨fun c => ?_, fun c => ⟨is171, _, ms.r 32, gb 193 0 rfl (by decide), ?_⟩⟩
    · rw [if_pos (Or.inl c)] at hK
      exact hK _ rfl h oM.rf ms
    · rw [hcb, b1']
      refine ⟨fun e => ⟨is171, _, ms.r 32, ga 193 0 rfl (by decide), ?_⟩, fun e => ?_⟩
      · rw [if_neg (fun z => z.elim c e)] at hK
        rw [a1]
        refine ⟨fun f => ?_, fun f => ⟨is171, _, ms.r 32, gb 193 0 rfl (by decide), ?_⟩⟩
        · rw [if_pos (Or.inl (by rw [f]; decide))] at hK
          exact hK _ rfl h oM.rf ms
        · rw [b1']
          refine ⟨fun g => ?_, fun g => ?_⟩
          · have ca2 : (Z.H s).ct = 2 := by
              rcases ca with z | z | z
              · exact absurd z c
              · exact absurd z f
              · exact z
            have cb2 : (Z.H t).ct = 2 := by
              rcases cb with z | z | z
              · exact absurd z e
              · exact absurd z g
              · exact z
            rw [if_neg (fun z => z.elim (fun y => y ca2) (fun y => y cb2))] at hK
            obtain ⟨sa1, sa2⟩ := a2 ca2
            obtain ⟨sb1, sb2⟩ := b2 cb2
            have sa1 : (jv_gI h 196 s).toInt = (Z.H s).sz := sa1
            have sb1' : (jv_gI h 196 t).toInt = (Z.H t).sz := sb1
            have la := (bd.2.2.2 s hs).2 ca2
            have lb := (bd.2.2.2 t ht).2 cb2
            have e0 : (0 : Int32).toInt = 0 := rfl
            have i1 := nz_i32 i
            have i2 := nz_i32 j
            have i3 := nz_i32 n
            have pi : (i.toInt64 + n.toInt64).toInt = i.toInt + n.toInt := by rw [nz_add (by rw [Int32.toInt_toInt64, Int32.toInt_toInt64]; omega) (by rw [Int32.toInt_toInt64, Int32.toInt_toInt64]; omega), Int32.toInt_toInt64, Int32.toInt_toInt64]
            have pj : (j.toInt64 + n.toInt64).toInt = j.toInt + n.toInt := by rw [nz_add (by rw [Int32.toInt_toInt64, Int32.toInt_toInt64]; omega) (by rw [Int32.toInt_toInt64, Int32.toInt_toInt64]; omega), Int32.toInt_toInt64, Int32.toInt_toInt64]
            refine ⟨fun y => ?_, fun y => ⟨fun y2 => ?_, fun y2 => ⟨fun y3 => ?_, fun y3 => ⟨is171, _, ms.r 35, ga 196 0 rfl (by decide), ?_⟩⟩⟩⟩
            · have y := nz_lt.mp y
              rw [e0] at y
              rw [if_neg (fun z => by have := z.1.2.1; omega)] at hK
              exact hK _ rfl h oM.rf ms
            · have y2 := nz_lt.mp y2
              rw [e0] at y2
              rw [if_neg (fun z => by have := z.1.1; omega)] at hK
              exact hK _ rfl h oM.rf ms
            · have y3 := nz_lt.mp y3
              rw [e0] at y3
              rw [if_neg (fun z => by have := z.2.1; omega)] at hK
              exact hK _ rfl h oM.rf ms
            · have y : ¬ n.toInt < 0 := fun q => y (nz_lt.mpr q)
              have y2 : ¬ i.toInt < 0 := fun q => y2 (nz_lt.mpr q)
              have y3 : ¬ j.toInt < 0 := fun q => y3 (nz_lt.mpr q)
              refine ⟨fun y4 => ?_, fun y4 => ⟨is171, _, ms.r 35, gb 196 0 rfl (by decide), ?_⟩⟩
              · have y4 := Int64.lt_iff_toInt_lt.mp ((lg_cmp_gt _ _).mp y4)
                rw [pi, Int32.toInt_toInt64, sa1] at y4
                rw [if_neg (fun z => by have := z.1.2.2; omega)] at hK
                exact hK _ rfl h oM.rf ms
              · have y4 : ¬ (jv_gI h 196 s).toInt64.toInt < (i.toInt64 + n.toInt64).toInt := fun q => y4 ((lg_cmp_gt _ _).mpr (Int64.lt_iff_toInt_lt.mpr q))
                rw [pi, Int32.toInt_toInt64, sa1] at y4
                refine ⟨fun y5 => ?_, fun y5 => ?_⟩
                · have y5 := Int64.le_iff_toInt_le.mp ((lg_cmp_le _ _).mp y5)
                  rw [pj, Int32.toInt_toInt64, sb1'] at y5
                  rw [if_pos ⟨⟨by omega, by omega, by omega⟩, by omega, by omega, by omega⟩] at hK
                  have hi : i.toInt = (i.toInt.toNat : Int) := by omega
                  have hj : j.toInt = (j.toInt.toNat : Int) := by omega
                  have hn : n.toInt = (n.toInt.toNat : Int) := by omega
                  rw [nz_nat hi, nz_nat hj, nz_nat hn] at hK
                  generalize i.toInt.toNat = ii at hi hK
                  generalize j.toInt.toNat = jj at hj hK
                  generalize n.toInt.toNat = nn at hn hK
                  refine copy_l X 7 _ a i b j n s ii t jj nn hsa hi htb hj hn hs ht (by omega) (by omega) h (fun h' o' c' => ?_) nn 0 0 h rfl (by omega) ms.r oT.rf (fun q => ?_)
                  · have o2 : oT (hoI t) (hoL t) h h' := o'.mono (fun _ _ z => z.elim) (fun q k z => Or.inr z)
                    refine hK _ rfl h' (ho_M o2) (ms.updH bd o2 ⟨?_, fun _ => ⟨?_, fun k hk => ?_⟩, fun z => by rw [show ((Z.H t).cpy (Z.H s) ii jj nn).ct = (Z.H t).ct from rfl, cb2] at z; exact absurd z (by decide)⟩)
                    · rw [o'.2.1 _ _ (fun z => z)]
                      exact b1
                    · rw [o'.2.1 _ _ (fun z => z)]
                      exact sb1
                    · have hk : k < (Z.H t).sz := hk
                      rw [c']
                      unfold cpF
                      show _ = (if jj ≤ k ∧ k < jj + nn then (Z.H s).nu (ii + (k - jj)) else (Z.H t).nu k)
                      by_cases w : jj ≤ k ∧ k < jj + nn
                      · rw [if_pos w, if_pos (by omega), show 40 * s + ii + (40 * t + k - (40 * t + jj)) = 40 * s + (ii + (k - jj)) by omega]
                        exact sa2 _ (by omega)
                      · rw [if_neg w, if_neg (by omega)]
                        exact sb2 k hk
                  · unfold cpF
                    split
                    · rw [if_neg (by omega)]
                    · rw [if_neg (by omega)]
                · have y5 : ¬ (j.toInt64 + n.toInt64).toInt ≤ (jv_gI h 196 t).toInt64.toInt := fun q => y5 ((lg_cmp_le _ _).mpr (Int64.le_iff_toInt_le.mpr q))
                  rw [pj, Int32.toInt_toInt64, sb1'] at y5
                  rw [if_neg (fun z => by have := z.2.2.2; omega)] at hK
                  exact hK _ rfl h oM.rf ms
          · rw [if_pos (Or.inr (by rw [g]; decide))] at hK
            exact hK _ rfl h oM.rf ms
      · rw [if_pos (Or.inr e)] at hK
        exact hK _ rfl h oM.rf ms
  · rw [if_neg (fun z => hb z.2)] at hK
    exact hK _ rfl h oM.rf ms
  · rw [if_neg (fun z => ha z.1)] at hK
    exact hK _ rfl h oM.rf ms
theorem w_image (ms : MS h Z) (bd : bdZ Z) (hK : dI h (q_image Z) KI) : jI X 8 y_Model_image [.ref 171] 227 h KI := by
  unfold q_image at hK
  have c0 : cps h h [] := cps_0 h
  have mr := ms.r
  refine r_Model_image X 7 227 _ 171 h ?_
  refine ⟨is171, _, c0.r mr 7, is171, _, c0.r mr 49, m_cp1 X 6 _ _ h _ 173 207 156 rfl rfl (by decide) (by decide) (by decide) (by decide) (by decide) (by decide) c0 (fun h1 c1 => ?_)⟩
  refine ⟨is171, _, c1.r mr 8, is171, _, c1.r mr 50, m_cp1 X 6 _ _ h _ 174 208 156 rfl rfl (by decide) (by decide) (by decide) (by decide) (by decide) (by decide) c1 (fun h2 c2 => ?_)⟩
  refine ⟨is171, _, c2.r mr 14, is171, _, c2.r mr 51, m_cp1 X 6 _ _ h _ 179 209 72 rfl rfl (by decide) (by decide) (by decide) (by decide) (by decide) (by decide) c2 (fun h3 c3 => ?_)⟩
  refine ⟨is171, _, c3.r mr 15, is171, _, c3.r mr 52, m_cp1 X 6 _ _ h _ 180 210 72 rfl rfl (by decide) (by decide) (by decide) (by decide) (by decide) (by decide) c3 (fun h4 c4 => ?_)⟩
  refine ⟨is171, _, c4.r mr 16, is171, _, c4.r mr 53, m_cp1 X 6 _ _ h _ 181 211 6 rfl rfl (by decide) (by decide) (by decide) (by decide) (by decide) (by decide) c4 (fun h5 c5 => ?_)⟩
  refine ⟨is171, _, c5.r mr 17, is171, _, c5.r mr 54, m_cp1 X 6 _ _ h _ 182 212 6 rfl rfl (by decide) (by decide) (by decide) (by decide) (by decide) (by decide) c5 (fun h6 c6 => ?_)⟩
  refine ⟨is171, _, c6.r mr 10, is171, _, c6.r mr 55, m_cp2 X 6 _ _ h _ 175 213 72 rfl rfl (by decide) (by decide) (by decide) (by decide) (by decide) (by decide) c6 (fun h7 c7 => ?_)⟩
  refine ⟨is171, _, c7.r mr 11, is171, _, c7.r mr 56, m_cp2 X 6 _ _ h _ 176 214 72 rfl rfl (by decide) (by decide) (by decide) (by decide) (by decide) (by decide) c7 (fun h8 c8 => ?_)⟩
  refine ⟨is171, _, c8.r mr 12, is171, _, c8.r mr 57, m_cp2 X 6 _ _ h _ 177 215 6 rfl rfl (by decide) (by decide) (by decide) (by decide) (by decide) (by decide) c8 (fun h9 c9 => ?_)⟩
  refine ⟨is171, _, c9.r mr 13, is171, _, c9.r mr 58, m_cp2 X 6 _ _ h _ 178 216 6 rfl rfl (by decide) (by decide) (by decide) (by decide) (by decide) (by decide) c9 (fun h10 c10 => ?_)⟩
  refine ⟨is171, _, c10.r mr 19, is171, _, c10.r mr 59, m_cp1 X 6 _ _ h _ 183 217 30 rfl rfl (by decide) (by decide) (by decide) (by decide) (by decide) (by decide) c10 (fun h11 c11 => ?_)⟩
  refine ⟨is171, _, c11.r mr 20, is171, _, c11.r mr 60, m_cp1 X 6 _ _ h _ 184 218 30 rfl rfl (by decide) (by decide) (by decide) (by decide) (by decide) (by decide) c11 (fun h12 c12 => ?_)⟩
  refine ⟨is171, _, c12.r mr 21, is171, _, c12.r mr 63, m_cp2 X 6 _ _ h _ 185 221 30 rfl rfl (by decide) (by decide) (by decide) (by decide) (by decide) (by decide) c12 (fun h13 c13 => ?_)⟩
  refine ⟨is171, _, c13.r mr 22, is171, _, c13.r mr 64, m_cp2 X 6 _ _ h _ 186 222 30 rfl rfl (by decide) (by decide) (by decide) (by decide) (by decide) (by decide) c13 (fun h14 c14 => ?_)⟩
  refine ⟨is171, _, c14.r mr 23, is171, _, c14.r mr 65, m_cp2 X 6 _ _ h _ 187 223 3 rfl rfl (by decide) (by decide) (by decide) (by decide) (by decide) (by decide) c14 (fun h15 c15 => ?_)⟩
  refine ⟨is171, _, c15.r mr 24, is171, _, c15.r mr 61, m_cp1 X 6 _ _ h _ 188 219 24 rfl rfl (by decide) (by decide) (by decide) (by decide) (by decide) (by decide) c15 (fun h16 c16 => ?_)⟩
  refine ⟨is171, _, c16.r mr 25, is171, _, c16.r mr 62, m_cp1 X 6 _ _ h _ 189 220 24 rfl rfl (by decide) (by decide) (by decide) (by decide) (by decide) (by decide) c16 (fun h17 c17 => ?_)⟩
  refine ⟨is171, _, c17.r mr 26, is171, _, c17.r mr 66, m_cp2 X 6 _ _ h _ 190 224 24 rfl rfl (by decide) (by decide) (by decide) (by decide) (by decide) (by decide) c17 (fun h18 c18 => ?_)⟩
  refine ⟨is171, _, c18.r mr 27, is171, _, c18.r mr 67, m_cp2 X 6 _ _ h _ 191 225 24 rfl rfl (by decide) (by decide) (by decide) (by decide) (by decide) (by decide) c18 (fun h19 c19 => ?_)⟩
  refine ⟨is171, _, c19.r mr 28, is171, _, c19.r mr 68, m_cp2 X 6 _ _ h _ 192 226 24 rfl rfl (by decide) (by decide) (by decide) (by decide) (by decide) (by decide) c19 (fun h20 c20 => ?_)⟩
  refine ⟨is171, is171, is171, is171, is171, is171, is171, is171, is171, is171, is171, Or.inr rfl, is171, ?_⟩
  have c20 : cps h h20 lsI := c20
  simp only [gI_uI, gI_uL, Nat.reduceEqDiff, and_false, if_false, and_self, if_true, and_true]
  have of : oT (fun q j => (207 ≤ q ∧ q < 227) ∨ q = 171 ∧ 48 ≤ j) (fun q j => 207 ≤ q ∧ q < 227) h (jv_uI (jv_uI (jv_uI (jv_uI (jv_uI (jv_uI h20 171 69 (jv_gI h20 171 9)) 171 70 (jv_gI h20 171 18)) 171 71 (jv_gI h20 171 29)) 171 72 (jv_gI h20 171 30)) 171 73 (jv_gI h20 171 31)) 171 48 1) := ((((((c20.1.mono (fun q j z => Or.inl (lsI_d q z)) (fun q j z => lsI_d q z)).uI (Or.inr ⟨rfl, by decide⟩)).uI (Or.inr ⟨rfl, by decide⟩)).uI (Or.inr ⟨rfl, by decide⟩)).uI (Or.inr ⟨rfl, by decide⟩)).uI (Or.inr ⟨rfl, by decide⟩)).uI (Or.inr ⟨rfl, by decide⟩)
  have o7 : oT (fun q j => q = 171 ∧ 48 ≤ j) nL h20 (jv_uI (jv_uI (jv_uI (jv_uI (jv_uI (jv_uI h20 171 69 (jv_gI h20 171 9)) 171 70 (jv_gI h20 171 18)) 171 71 (jv_gI h20 171 29)) 171 72 (jv_gI h20 171 30)) 171 73 (jv_gI h20 171 31)) 171 48 1) := (((((oT.rf.uI ⟨rfl, by decide⟩).uI ⟨rfl, by decide⟩).uI ⟨rfl, by decide⟩).uI ⟨rfl, by decide⟩).uI ⟨rfl, by decide⟩).uI ⟨rfl, by decide⟩
  have g : ∀ j, j < 48 → jv_gI h20 171 j = jv_gI h 171 j := fun j hj => c20.1.2.1 _ _ (fun z => by have := lsI_d _ z; omega)
  have m := ms
  obtain ⟨m1, ⟨m2, m3⟩, m4, m5, m6, m7⟩ := m
  refine hK _ ?_ _ (of.M (fun q j z => by omega) (fun q j z => by omega)) ⟨m1.mv of, ⟨?_, fun i hi => ?_⟩, MKn.mv m4 bd.2.1 of (fun q j z => by omega) (fun q j z => by omega), rfl, fun K' hK' => ?_, fun i hi => (m7 i hi).mv of (fun q j z => by omega) (fun q j z => by omega)⟩
  · rw [g 18 (by decide)]
    exact ms.k.zl
  · rw [of.2.1 _ _ (fun z => by omega)]; exact m2
  · rw [of.2.1 _ _ (fun z => by omega)]; exact m3 i hi
  · have hK' : Z.k = K' := Option.some.inj hK'
    rw [← hK']
    refine MKg.cg2 m4 bd.2.1 (fun c j u l => ?_) (fun c j u l => ?_) (fun c hc => ?_)
    · have ub := used_b bd.2.1 u
      have := (c20.2 _ (lsI_c c ub.1) j ub.2).2 l
      rw [o7.2.1 _ _ (fun z => by have h1 := (lsI_d (iA c) (List.mem_map_of_mem (f := fun x => x.2.1) (lsI_c c ub.1))); omega)]
      exact this
    · have ub := used_b bd.2.1 u
      exact (c20.2 _ (lsI_c c ub.1) j ub.2).1 l
    · match c, hc with
      | 0, _ => exact g 9 (by decide)
      | 1, _ => exact g 18 (by decide)
      | 2, _ => exact g 29 (by decide)
      | 3, _ => exact g 30 (by decide)
      | 4, _ => exact g 31 (by decide)
theorem w_undo (ms : MS h Z) (bd : bdZ Z) (hK : dI h (q_undo Z) KI) : jI X 8 y_Model_undo [.ref 171] 227 h KI := by
  unfold q_undo at hK
  have c0 : cps h h [] := cps_0 h
  have mr := ms.r
  have m := ms
  obtain ⟨m1, ⟨m2, m3⟩, m4, m5, m6, m7⟩ := m
  have m5' : jv_gI h 171 48 = if Z.im.isSome then 1 else 0 := m5
  refine r_Model_undo X 7 227 _ 171 h ⟨is171, fun f => ?_, fun f => ?_⟩
  · cases hi : Z.im with
    | none =>
      rw [m5', hi] at f
      exact absurd rfl f
    | some K' =>
      rw [hi] at hK
      dsimp only at hK
      refine ⟨is171, _, c0.r mr 49, is171, _, c0.r mr 7, m_cp1 X 6 _ _ h _ 207 173 156 rfl rfl (by decide) (by decide) (by decide) (by decide) (by decide) (by decide) c0 (fun h1 c1 => ?_)⟩
      refine ⟨is171, _, c1.r mr 50, is171, _, c1.r mr 8, m_cp1 X 6 _ _ h _ 208 174 156 rfl rfl (by decide) (by decide) (by decide) (by decide) (by decide) (by decide) c1 (fun h2 c2 => ?_)⟩
      refine ⟨is171, _, c2.r mr 51, is171, _, c2.r mr 14, m_cp1 X 6 _ _ h _ 209 179 72 rfl rfl (by decide) (by decide) (by decide) (by decide) (by decide) (by decide) c2 (fun h3 c3 => ?_)⟩
      refine ⟨is171, _, c3.r mr 52, is171, _, c3.r mr 15, m_cp1 X 6 _ _ h _ 210 180 72 rfl rfl (by decide) (by decide) (by decide) (by decide) (by decide) (by decide) c3 (fun h4 c4 => ?_)⟩
      refine ⟨is171, _, c4.r mr 53, is171, _, c4.r mr 16, m_cp1 X 6 _ _ h _ 211 181 6 rfl rfl (by decide) (by decide) (by decide) (by decide) (by decide) (by decide) c4 (fun h5 c5 => ?_)⟩
      refine ⟨is171, _, c5.r mr 54, is171, _, c5.r mr 17, m_cp1 X 6 _ _ h _ 212 182 6 rfl rfl (by decide) (by decide) (by decide) (by decide) (by decide) (by decide) c5 (fun h6 c6 => ?_)⟩
      refine ⟨is171, _, c6.r mr 55, is171, _, c6.r mr 10, m_cp2 X 6 _ _ h _ 213 175 72 rfl rfl (by decide) (by decide) (by decide) (by decide) (by decide) (by decide) c6 (fun h7 c7 => ?_)⟩
      refine ⟨is171, _, c7.r mr 56, is171, _, c7.r mr 11, m_cp2 X 6 _ _ h _ 214 176 72 rfl rfl (by decide) (by decide) (by decide) (by decide) (by decide) (by decide) c7 (fun h8 c8 => ?_)⟩
      refine ⟨is171, _, c8.r mr 57, is171, _, c8.r mr 12, m_cp2 X 6 _ _ h _ 215 177 6 rfl rfl (by decide) (by decide) (by decide) (by decide) (by decide) (by decide) c8 (fun h9 c9 => ?_)⟩
      refine ⟨is171, _, c9.r mr 58, is171, _, c9.r mr 13, m_cp2 X 6 _ _ h _ 216 178 6 rfl rfl (by decide) (by decide) (by decide) (by decide) (by decide) (by decide) c9 (fun h10 c10 => ?_)⟩
      refine ⟨is171, _, c10.r mr 59, is171, _, c10.r mr 19, m_cp1 X 6 _ _ h _ 217 183 30 rfl rfl (by decide) (by decide) (by decide) (by decide) (by decide) (by decide) c10 (fun h11 c11 => ?_)⟩
      refine ⟨is171, _, c11.r mr 60, is171, _, c11.r mr 20, m_cp1 X 6 _ _ h _ 218 184 30 rfl rfl (by decide) (by decide) (by decide) (by decide) (by decide) (by decide) c11 (fun h12 c12 => ?_)⟩
      refine ⟨is171, _, c12.r mr 63, is171, _, c12.r mr 21, m_cp2 X 6 _ _ h _ 221 185 30 rfl rfl (by decide) (by decide) (by decide) (by decide) (by decide) (by decide) c12 (fun h13 c13 => ?_)⟩
      refine ⟨is171, _, c13.r mr 64, is171, _, c13.r mr 22, m_cp2 X 6 _ _ h _ 222 186 30 rfl rfl (by decide) (by decide) (by decide) (by decide) (by decide) (by decide) c13 (fun h14 c14 => ?_)⟩
      refine ⟨is171, _, c14.r mr 65, is171, _, c14.r mr 23, m_cp2 X 6 _ _ h _ 223 187 3 rfl rfl (by decide) (by decide) (by decide) (by decide) (by decide) (by decide) c14 (fun h15 c15 => ?_)⟩
      refine ⟨is171, _, c15.r mr 61, is171, _, c15.r mr 24, m_cp1 X 6 _ _ h _ 219 188 24 rfl rfl (by decide) (by decide) (by decide) (by decide) (by decide) (by decide) c15 (fun h16 c16 => ?_)⟩
      refine ⟨is171, _, c16.r mr 62, is171, _, c16.r mr 25, m_cp1 X 6 _ _ h _ 220 189 24 rfl rfl (by decide) (by decide) (by decide) (by decide) (by decide) (by decide) c16 (fun h17 c17 => ?_)⟩
      refine ⟨is171, _, c17.r mr 66, is171, _, c17.r mr 26, m_cp2 X 6 _ _ h _ 224 190 24 rfl rfl (by decide) (by decide) (by decide) (by decide) (by decide) (by decide) c17 (fun h18 c18 => ?_)⟩
      refine ⟨is171, _, c18.r mr 67, is171, _, c18.r mr 27, m_cp2 X 6 _ _ h _ 225 191 24 rfl rfl (by decide) (by decide) (by decide) (by decide) (by decide) (by decide) c18 (fun h19 c19 => ?_)⟩
      refine ⟨is171, _, c19.r mr 68, is171, _, c19.r mr 28, m_cp2 X 6 _ _ h _ 226 192 24 rfl rfl (by decide) (by decide) (by decide) (by decide) (by decide) (by decide) c19 (fun h20 c20 => ?_)⟩
      refine ⟨is171, is171, is171, is171, is171, is171, is171, is171, is171, is171, is171, ?_⟩
      have c20 : cps h h20 lsU := c20
      simp only [gI_uI, gI_uL, Nat.reduceEqDiff, and_false, if_false, and_self, if_true, and_true]
      have of : oT (fun q j => (173 ≤ q ∧ q < 193) ∨ q = 171 ∧ 2 ≤ j ∧ j < 48) (fun q j => 173 ≤ q ∧ q < 193) h (jv_uI (jv_uI (jv_uI (jv_uI (jv_uI h20 171 9 (jv_gI h20 171 69)) 171 18 (jv_gI h20 171 70)) 171 29 (jv_gI h20 171 71)) 171 30 (jv_gI h20 171 72)) 171 31 (jv_gI h20 171 73)) := (((((c20.1.mono (fun q j z => Or.inl (lsU_d q z)) (fun q j z => lsU_d q z)).uI (Or.inr ⟨rfl, by decide, by decide⟩)).uI (Or.inr ⟨rfl, by decide, by decide⟩)).uI (Or.inr ⟨rfl, by decide, by decide⟩)).uI (Or.inr ⟨rfl, by decide, by decide⟩)).uI (Or.inr ⟨rfl, by decide, by decide⟩)
      have o7 : oT (fun q j => q = 171) nL h20 (jv_uI (jv_uI (jv_uI (jv_uI (jv_uI h20 171 9 (jv_gI h20 171 69)) 171 18 (jv_gI h20 171 70)) 171 29 (jv_gI h20 171 71)) 171 30 (jv_gI h20 171 72)) 171 31 (jv_gI h20 171 73)) := ((((oT.rf.uI (SI := fun q j => q = 171) (a := 171) rfl).uI (a := 171) rfl).uI (a := 171) rfl).uI (a := 171) rfl).uI (a := 171) rfl
      have g : ∀ j, jv_gI h20 171 j = jv_gI h 171 j := fun j => c20.1.2.1 _ _ (fun z => by have := lsU_d _ z; omega)
      have mi := m6 K' hi
      have bi := bd.2.2.1 K' hi
      refine hK _ ?_ _ (of.M (fun q j z => by omega) (fun q j z => by omega)) (ms.upd bd of (fun q j z => by omega) (fun q j z => by omega) (MKg.cg2 mi bi (fun c j u l => ?_) (fun c j u l => ?_) (fun c hc => ?_)))
      · rw [g]
        exact mi.2.1.1
      · have ub := used_b bi u
        have := (c20.2 _ (lsU_c c ub.1) j ub.2).2 l
        rw [o7.2.1 _ _ (fun z => by have h1 := (lsU_d (nA c) (List.mem_map_of_mem (f := fun x => x.2.1) (lsU_c c ub.1))); omega)]
        exact this
      · have ub := used_b bi u
        exact (c20.2 _ (lsU_c c ub.1) j ub.2).1 l
      · match c, hc with
        | 0, _ => exact g 69
        | 1, _ => exact g 70
        | 2, _ => exact g 71
        | 3, _ => exact g 72
        | 4, _ => exact g 73
  · cases hi : Z.im with
    | none =>
      rw [hi] at hK
      exact hK _ rfl h oM.rf ms
    | some K' =>
      rw [m5', hi] at f
      exact absurd (show (1 : Int32) = 0 from f) (by decide)
end
