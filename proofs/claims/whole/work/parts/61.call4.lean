/-! ===== the class's calls: holders, the image ===== -/
theorem oS_cp {S : Nat → Prop} {h : jv_H} {a0 sp a dp n : Nat} (ha : S a) : oS S h (jv_cp h a0 sp a dp n) := ⟨rfl, fun q hq => ⟨rfl, by
  funext j
  show (if q = a ∧ dp ≤ j ∧ j < dp + n then h.2.1 a0 (sp + (j - dp)) else h.2.1 q j) = _
  rw [if_neg (fun z => hq (by rw [z.1]; exact ha))]⟩⟩
section
variable (X : jv_X) (h : jv_H) (Z : zZ) (K : Int32 → jv_H → Prop) (KJ : Int64 → jv_H → Prop) (KA : Nat → jv_H → Prop) (K0 : jv_H → Prop)
theorem c_findHolder (d : Nat) (x : Int32) (c : CS h Z) (hK : ∀ k : Nat, x.toInt = k → k < 6 → KA (159 + 2 * k) h) (hK0 : ¬ wi x 0 5 → K0 h) : jA X (d + 2) y_Maker_findHolder [.ref 0, .int x] 227 h KA K0 := by
  refine r_Maker_findHolder X (d + 1) 227 _ 0 x h (c_isWithin X d 227 _ h _ _ _ ⟨fun z => ?_, fun z => ?_⟩)
  · rw [nz_bt] at z
    exact hK0 z
  · rw [nz_bt, Classical.not_not] at z
    have z : 0 ≤ x.toInt ∧ x.toInt ≤ 5 := z
    have hx : x.toInt = (x.toInt.toNat : Int) := by omega
    refine ⟨is0, _, c.m4, jx (len := 6) rfl (by decide) (by omega) (by omega), by decide, _, (c.ho (k := x.toInt.toNat) (by omega)).1, hK _ hx (by omega)⟩
theorem c_noRow (d o : Nat) (H : zH) (l : HO h o) (ch : CH h o H) (hK1 : H.ct = 0 → K (-11) h) (hK0 : ¬ H.ct = 0 → K (-12) h) : jI X (d + 1) y_Holder_tellNoRow [.ref o] 227 h K := by
  refine r_Holder_tellNoRow X d 227 _ o h ⟨l.1, ?_⟩
  rw [show jv_gI h o 1 = H.ct from ch.1]
  exact ⟨fun e => hK0 e, fun e => hK1 e⟩
theorem k_hold (i x k : Int32) (c : CS h Z) (hK : cI h (q_hold i x k Z) K) : jI X 8 y_Maker_hold [.ref 0, .int i, .int x, .int k] 227 h K := by
  unfold q_hold at hK
  have hm := c.k.ml
  refine r_Maker_hold X 7 227 _ 0 i x k h ⟨is0, c_findHolder X h Z _ _ 5 i c (fun j hi hj => ⟨is0, _, c.m2, c.s8.is, c_findLadder X 5 h 8 Z.k _ _ x c.s8 c.k (fun n hx hn => ?_) (fun e => ?_)⟩) (fun e => ⟨is0, _, c.m2, c.s8.is, c_findLadder X 5 h 8 Z.k _ _ x c.s8 c.k (fun n hx hn => ?_) (fun e2 => ?_)⟩)⟩
  · have hL : Z.L x = Z.k.L n := congrArg Z.k.L (nz_nat hx)
    have ho := (c.ho hj).2
    have l := c.s8.lo (k := n) (by omega)
    have cl := c.k.l hn
    rw [hL, nz_nat hi] at hK
    refine ⟨l.1, c_has X 5 227 _ h _ (Z.k.L n) k l cl ⟨fun y => ?_, fun y => ?_⟩⟩
    · rw [nz_bt, Classical.not_not] at y
      have hle := cl.le
      have hk : k.toInt = (k.toInt.toNat : Int) := by omega
      have hk2 : k.toInt.toNat < (Z.k.L n).sz := by omega
      rw [if_pos ⟨⟨by omega, by omega⟩, ⟨by omega, by omega⟩, y⟩, nz_nat hk] at hK
      refine ⟨l.1, _, l.2.1, l.xa hk (by omega), l.1, _, l.2.2.1, l.xb hk (by omega), l.1, _, l.2.2.2.1, l.xc hk (by omega), ho.1, ?_⟩
      rw [cl.gs hk hk2, cl.gu hk hk2, cl.gv hk hk2]
      refine r_Holder_takePart X 6 227 _ _ _ _ _ h ⟨ho.1, ho.1, ho.1, cl.u1 hk2, ho.1, ho.1, ?_⟩
      have o1 : oS (fun q => q = 159 + 2 * j ∨ q = 159 + 2 * j + 1) h (jv_uL (jv_uI (jv_uI (jv_uI h (159 + 2 * j) 1 1) (159 + 2 * j) 3 ((Z.k.L n).so k.toInt.toNat)) (159 + 2 * j) 4 ((Z.k.L n).sh k.toInt.toNat)) (159 + 2 * j) 5 (fz_p ((Z.k.L n).va k.toInt.toNat))) := (((oS_uI (S := fun q => q = 159 + 2 * j ∨ q = 159 + 2 * j + 1) (Or.inl rfl)).tr (oS_uI (Or.inl rfl))).tr (oS_uI (Or.inl rfl))).tr (oS_uL (Or.inl rfl))
      have e3 : (jv_uL (jv_uI (jv_uI (jv_uI h (159 + 2 * j) 1 1) (159 + 2 * j) 3 ((Z.k.L n).so k.toInt.toNat)) (159 + 2 * j) 4 ((Z.k.L n).sh k.toInt.toNat)) (159 + 2 * j) 5 (fz_p ((Z.k.L n).va k.toInt.toNat))).1 (159 + 2 * j) 3 = (Z.k.L n).so k.toInt.toNat := by
        show (jv_uI _ _ _ _).1 _ _ = _
        rw [uI_ne (by omega), uI_eq]
      refine hK _ (congrArg Int32.toInt e3) _ (o1.R.C (fun q z => by omega)) (c.updH hj o1 ⟨?_, Or.inr (Or.inl rfl), fun z => absurd (show (1 : Int32) = 2 from z) (by decide), fun _ => ⟨e3, ?_, uL_eq, cl.vr hk2, cl.u1 hk2⟩⟩)
      · show (jv_uI _ _ _ _).1 _ _ = _
        rw [uI_ne (by omega), uI_ne (by omega), uI_eq]
        rfl
      · show (jv_uI _ _ _ _).1 _ _ = _
        rw [uI_eq]
        rfl
    · rw [nz_bt] at y
      rw [if_neg (fun z => y z.2.2)] at hK
      exact hK _ rfl h oC.rf c
  · rw [if_neg (fun z => e z.2.1)] at hK
    exact hK _ rfl h oC.rf c
  · rw [if_neg (fun z => e z.1)] at hK
    exact hK _ rfl h oC.rf c
  · rw [if_neg (fun z => e z.1)] at hK
    exact hK _ rfl h oC.rf c
theorem k_drop (i : Int32) (c : CS h Z) (hK : cI h (q_drop i Z) K) : jI X 8 y_Maker_drop [.ref 0, .int i] 227 h K := by
  unfold q_drop at hK
  refine r_Maker_drop X 7 227 _ 0 i h ⟨is0, c_findHolder X h Z _ _ 5 i c (fun j hi hj => ⟨(c.ho hj).2.1, (c.ho hj).2.1, ?_⟩) (fun e => ?_)⟩
  · have hH : Z.h i = Z.H j := congrArg Z.H (nz_nat hi)
    rw [if_pos (show wi i 0 5 from ⟨by omega, by omega⟩), hH, nz_nat hi] at hK
    have o1 : oS (fun q => q = 159 + 2 * j ∨ q = 159 + 2 * j + 1) h (jv_uI h (159 + 2 * j) 1 0) := oS_uI (Or.inl rfl)
    exact hK _ (congrArg Int32.toInt (c.ch hj).1) _ (o1.R.C (fun q z => by omega)) (c.updH hj o1 ⟨uI_eq, Or.inl rfl, fun z => absurd (show (0 : Int32) = 2 from z) (by decide), fun z => absurd (show (0 : Int32) = 1 from z) (by decide)⟩)
  · rw [if_neg e] at hK
    exact hK _ rfl h oC.rf c
theorem k_taken (i k : Int32) (c : CS h Z) (ok : okZ Z) (hK : cI h (q_taken i k Z) K) : jI X 8 y_Maker_taken [.ref 0, .int i, .int k] 227 h K := by
  unfold q_taken at hK
  refine r_Maker_taken X 7 227 _ 0 i k h ⟨is0, c_findHolder X h Z _ _ 5 i c (fun j hi hj => c_isWithin X 6 227 _ h _ _ _ ⟨fun y => ⟨(c.ho hj).2.1, ?_⟩, fun y => ?_⟩) (fun e => ?_)⟩
  · rw [nz_bt, Classical.not_not] at y
    have y : 0 ≤ k.toInt ∧ k.toInt ≤ 3 := y
    have hH : Z.h i = Z.H j := congrArg Z.H (nz_nat hi)
    have ho := (c.ho hj).2
    have ch := c.ch hj
    rw [if_pos ⟨⟨by omega, by omega⟩, y⟩, hH] at hK
    have g1 : jv_gI h (159 + 2 * j) 1 = (Z.H j).ct := ch.1
    have e1 : (1 : Int32).toInt = 1 := rfl
    rw [g1]
    refine ⟨fun n0 => ⟨ho.1, r_Holder_isOfKind X 6 227 _ _ k h ⟨ho.1, ?_⟩⟩, fun e => ?_⟩
    · rw [if_neg n0] at hK
      rw [g1]
      have tell : (Z.H j).ct = 1 → (k.toInt = 0 ∨ k.toInt = (Z.H j).so.toInt + 1) → jI X 7 y_Holder_tellAs [.ref (159 + 2 * j), .int k] 227 h K := fun h1 h2 => by
        obtain ⟨c3, c4, c5, c6, c7⟩ := ch.2.2.2 h1
        obtain ⟨ok1, ok2, ok3⟩ := ok.2.2 j hj h1
        have g5 : jv_gL h (159 + 2 * j) 5 = fz_p (Z.H j).va := c5
        have g3 : jv_gI h (159 + 2 * j) 3 = (Z.H j).so := c3
        have g4 : jv_gI h (159 + 2 * j) 4 = (Z.H j).sh := c4
        have hs := ok1.nat
        rw [if_pos ⟨h1, h2⟩] at hK
        have e10 : (10 : Int32).toInt = 10 := rfl
        have m10 : ((10 : Int32) * (Z.H j).so).toInt = 10 * (Z.H j).so.toInt := by rw [nz_muli (by rw [e10]; omega) (by rw [e10]; omega), e10]
        refine r_Holder_tellAs X 6 227 _ _ k h ⟨fun a => ⟨ho.1, ho.1, ?_⟩, fun a => ⟨fun b => ⟨ho.1, ?_⟩, fun b => ⟨fun d => ⟨ho.1, ?_⟩, fun d => ⟨ho.1, ?_⟩⟩⟩⟩
        · rw [if_pos a] at hK
          rw [g3, g4]
          refine ⟨fun z => ?_, fun z => ?_⟩
          · rw [z] at hK
            exact hK _ (by
              have e0 : (0 : Int32).toInt = 0 := rfl
              rw [nz_addi (by rw [m10, e0]; omega) (by rw [m10, e0]; omega), m10]) h oC.rf c
          · have z1 : (Z.H j).sh = 1 := c7.elim (fun q => absurd q z) id
            rw [z1] at hK
            exact hK _ (by rw [nz_addi (by rw [m10, e1]; omega) (by rw [m10, e1]; omega), m10]) h oC.rf c
        · rw [if_neg a, if_pos b] at hK
          rw [g5]
          exact c_above X 5 227 _ h _ c6 (fun z hz => hK z hz h oC.rf c)
        · rw [if_neg a, if_neg b, if_pos d] at hK
          rw [g5]
          exact c_below X 5 227 _ h _ c6 (fun z hz => hK z hz h oC.rf c)
        · rw [if_neg a, if_neg b, if_neg d] at hK
          rw [g5]
          refine c_above X 5 227 _ h _ c6 (fun z hz => ⟨ho.1, ?_⟩)
          rw [g5]
          have b1 := c6.1
          have b2 := c6.2
          exact c_below X 5 227 _ h _ c6 (fun z2 hz2 => hK _ (by rw [nz_addi (by rw [hz, hz2]; omega) (by rw [hz, hz2]; omega), hz, hz2]) h oC.rf c)
      refine ⟨fun a => ⟨Or.inl rfl, fun _ => ?_, fun z => absurd rfl z⟩, fun a => ⟨fun b => ⟨Or.inr rfl, fun z => absurd z (by decide), fun _ => ⟨ho.1, tell a (Or.inl (by rw [b]; rfl))⟩⟩, fun b => ⟨ho.1, ?_⟩⟩⟩
      · rw [if_neg (fun z => a z.1)] at hK
        exact hK _ rfl h oC.rf c
      · obtain ⟨c3, _⟩ := ch.2.2.2 a
        obtain ⟨ok1, _⟩ := ok.2.2 j hj a
        have hs := ok1.nat
        have g3 : jv_gI h (159 + 2 * j) 3 = (Z.H j).so := c3
        rw [g3]
        have es : ((Z.H j).so + 1).toInt = (Z.H j).so.toInt + 1 := by rw [nz_addi (by rw [e1]; omega) (by rw [e1]; omega), e1]
        refine ⟨fun d => ⟨Or.inl rfl, fun _ => ?_, fun z => absurd rfl z⟩, fun d => ⟨Or.inr rfl, fun z => absurd z (by decide), fun _ => ⟨ho.1, tell a (Or.inr (by rw [d, es]))⟩⟩⟩
        have hb : ¬ k.toInt = 0 := fun z => b (Int32.toInt_inj.mp (by rw [z]; rfl))
        have hd : ¬ k.toInt = (Z.H j).so.toInt + 1 := fun z => d (Int32.toInt_inj.mp (by rw [z, es]))
        rw [if_neg (fun z => z.2.elim hb hd)] at hK
        exact hK _ rfl h oC.rf c
    · rw [if_pos e] at hK
      exact hK _ rfl h oC.rf c
  · rw [nz_bt] at y
    rw [if_neg (fun z => y z.2)] at hK
    exact hK _ rfl h oC.rf c
  · rw [if_neg (fun z => e z.1)] at hK
    exact hK _ rfl h oC.rf c
theorem row_l (Q : jv_Q) (o m : Nat) (hm : m ≤ 40) : ∀ (r k : Nat) (x : Int32) (h : jv_H), x.toInt = k → k + r = m → HO h o → (h.1 o 2).toInt = m → (∀ i, i < k → h.2.1 (o + 1) i = 0) → (∀ h', oS (fun q => q = o + 1) h h' → (∀ i, i < m → h'.2.1 (o + 1) i = 0) → Q none h') → a_Holder_takeRow_21 X 6 227 Q o x h 0
  | 0, k, x, h, hx, hr, l, hz, hj, hQ => by
    exact r_Holder_takeRow_21 X 5 227 Q o x h ⟨l.1, fun _ => hQ h oS.rf (fun i hi => hj i (by omega)), fun z => absurd (nz_le.mpr (by rw [show (jv_gI h o 2).toInt = m from hz, hx]; omega)) z⟩
  | r + 1, k, x, h, hx, hr, l, hz, hj, hQ => by
    refine r_Holder_takeRow_21 X 5 227 Q o x h ⟨l.1, fun z => ?_, fun _ => ⟨l.1, _, l.2.1, jx l.2.2.2 l.2.2.1 (by omega) (by omega), ?_⟩⟩
    · have := nz_le.mp z
      rw [show (jv_gI h o 2).toInt = m from hz, hx] at this
      omega
    · rw [nz_nat hx]
      have o1 : oS (fun q => q = o + 1) h (jv_uL h (o + 1) k 0) := oS_uL rfl
      refine row_l Q o m hm r (k + 1) _ _ (nz_inc hx (by omega)) (by omega) ⟨l.1, l.2.1, l.2.2⟩ hz (fun i hi => ?_) (fun h' o' hh => hQ h' (o1.tr o') hh)
      rw [uL_at]
      by_cases e : i = k
      · rw [if_pos e]
      · rw [if_neg e]
        exact hj i (by omega)
theorem k_row (i n : Int32) (c : CS h Z) (hK : cI h (q_row i n Z) K) : jI X 8 y_Maker_row [.ref 0, .int i, .int n] 227 h K := by
  unfold q_row at hK
  have e40 : (40 : Int32).toInt = 40 := rfl
  have e0 : (0 : Int32).toInt = 0 := rfl
  refine r_Maker_row X 7 227 _ 0 i n h ⟨is0, c_findHolder X h Z _ _ 5 i c (fun j hi hj => ⟨fun a => ⟨fun b => ⟨(c.ho hj).2.1, ?_⟩, fun b => ?_⟩, fun a => ?_⟩) (fun e => ?_)⟩
  · have a : n.toInt ≤ 40 := nz_le.mp a
    have b : 0 ≤ n.toInt := nz_le.mp b
    have hn : n.toInt = (n.toInt.toNat : Int) := by omega
    rw [if_pos ⟨⟨by omega, by omega⟩, a⟩, if_pos b, nz_nat hi, nz_nat hn] at hK
    have ho := (c.ho hj).2
    have e1 : (if (40 : Int32) < n then (40 : Int32) else n) = n := if_neg (fun z => by have := nz_lt.mp z; omega)
    have e2 : (if (0 : Int32) < n then n else (0 : Int32)) = n := by
      by_cases z : (0 : Int32) < n
      · rw [if_pos z]
      · rw [if_neg z]
        apply Int32.toInt_inj.mp
        have : ¬ (0 : Int32).toInt < n.toInt := fun q => z (nz_lt.mpr q)
        omega
    refine r_Holder_takeRow X 5 227 _ _ n h ⟨ho.1, ho.1, ?_⟩
    rw [e1, e2]
    have o1 : oS (fun q => q = 159 + 2 * j ∨ q = 159 + 2 * j + 1) h (jv_uI (jv_uI h (159 + 2 * j) 1 2) (159 + 2 * j) 2 n) := (oS_uI (S := fun q => q = 159 + 2 * j ∨ q = 159 + 2 * j + 1) (Or.inl rfl)).tr (oS_uI (Or.inl rfl))
    have hz : ((jv_uI (jv_uI h (159 + 2 * j) 1 2) (159 + 2 * j) 2 n).1 (159 + 2 * j) 2).toInt = n.toInt.toNat := by rw [uI_eq]; exact hn
    refine row_l X _ (159 + 2 * j) n.toInt.toNat (by omega) n.toInt.toNat 0 0 _ rfl (by omega) ⟨ho.1, ho.2.1, ho.2.2⟩ hz (fun i hi => absurd hi (Nat.not_lt_zero _)) (fun h' o' hh => ?_)
    have o2 := o1.tr (o'.mono (fun q z => Or.inr z))
    have o3 := (o'.2 (159 + 2 * j) (by omega)).1
    refine hK _ rfl h' (o2.R.C (fun q z => by omega)) (c.updH hj o2 ⟨?_, Or.inr (Or.inr rfl), fun _ => ⟨by rw [o3]; exact hz, by show n.toInt.toNat ≤ 40; omega, hh⟩, fun z => absurd (show (2 : Int32) = 1 from z) (by decide)⟩)
    rw [o3, uI_ne (by omega), uI_eq]
    rfl
  · have a : n.toInt ≤ 40 := nz_le.mp a
    have b : ¬ 0 ≤ n.toInt := fun z => b (nz_le.mpr z)
    rw [if_pos ⟨⟨by omega, by omega⟩, a⟩, if_neg b] at hK
    exact hK _ rfl h oC.rf c
  · have a : ¬ n.toInt ≤ 40 := fun z => a (nz_le.mpr z)
    rw [if_neg (fun z => a z.2)] at hK
    exact hK _ rfl h oC.rf c
  · rw [if_neg (fun z => e z.1)] at hK
    exact hK _ rfl h oC.rf c
theorem k_put (i j : Int32) (v : Int64) (c : CS h Z) (hK : cI h (q_put i j v Z) K) : jI X 8 y_Maker_put [.ref 0, .int i, .int j, .long v] 227 h K := by
  unfold q_put at hK
  refine r_Maker_put X 7 227 _ 0 i j v h ⟨is0, c_findHolder X h Z _ _ 5 i c (fun n hi hn => ⟨(c.ho hn).2.1, ?_⟩) (fun e => ?_)⟩
  · have hH : Z.h i = Z.H n := congrArg Z.H (nz_nat hi)
    have ho := (c.ho hn).2
    have ch := c.ch hn
    rw [if_pos (show wi i 0 5 from ⟨by omega, by omega⟩), hH, nz_nat hi] at hK
    rw [show jv_gI h (159 + 2 * n) 1 = (Z.H n).ct from ch.1]
    refine ⟨fun e => ⟨ho.1, ?_⟩, fun e => ⟨ho.1, c_noRow X h _ 6 _ (Z.H n) ho ch (fun z => ?_) (fun z => ?_)⟩⟩
    · rw [if_pos e] at hK
      obtain ⟨c1, c2, c3⟩ := ch.2.2.1 e
      have em := nz_m1i (show (jv_gI h (159 + 2 * n) 2).toInt = (Z.H n).sz from c1) (by omega)
      have e0 : (0 : Int32).toInt = 0 := rfl
      refine c_isWithin X 6 227 _ h _ _ _ ⟨fun y => ?_, fun y => ?_⟩
      · rw [nz_bt, Classical.not_not, em, e0] at y
        have hj : j.toInt = (j.toInt.toNat : Int) := by omega
        rw [if_pos (show inH (Z.H n) j from ⟨by omega, by omega⟩), nz_nat hj] at hK
        refine ⟨ho.1, _, ho.2.1, jx ho.2.2.2 ho.2.2.1 (by omega) (by omega), ?_⟩
        rw [nz_nat hj]
        have o1 : oS (fun q => q = 159 + 2 * n ∨ q = 159 + 2 * n + 1) h (jv_uL h (159 + 2 * n + 1) j.toInt.toNat v) := oS_uL (Or.inr rfl)
        refine hK _ rfl _ (o1.R.C (fun q z => by omega)) (c.updH hn o1 ⟨ch.1, ch.2.1, fun _ => ⟨c1, c2, fun k hk => ?_⟩, fun z => absurd (e.symm.trans z) (by decide)⟩)
        rw [uL_at]
        show _ = if k = j.toInt.toNat then v else (Z.H n).nu k
        by_cases ek : k = j.toInt.toNat
        · rw [if_pos ek, if_pos ek]
        · rw [if_neg ek, if_neg ek]
          exact c3 k hk
      · rw [nz_bt, em, e0] at y
        rw [if_neg (show ¬ inH (Z.H n) j from fun z => y (by omega))] at hK
        exact hK _ rfl h oC.rf c
    · rw [if_neg e, if_pos z] at hK
      exact hK _ rfl h oC.rf c
    · rw [if_neg e, if_neg z] at hK
      exact hK _ rfl h oC.rf c
  · rw [if_neg e] at hK
    exact hK _ rfl h oC.rf c
theorem k_get (i j : Int32) (c : CS h Z) (hK : cJ h (q_get i j Z) KJ) : jL X 8 y_Maker_get [.ref 0, .int i, .int j] 227 h KJ := by
  unfold q_get at hK
  refine r_Maker_get X 7 227 _ 0 i j h ⟨is0, c_findHolder X h Z _ _ 5 i c (fun n hi hn => ⟨(c.ho hn).2.1, ?_⟩) (fun e => ?_)⟩
  · have hH : Z.h i = Z.H n := congrArg Z.H (nz_nat hi)
    have ho := (c.ho hn).2
    have ch := c.ch hn
    rw [hH] at hK
    rw [show jv_gI h (159 + 2 * n) 1 = (Z.H n).ct from ch.1]
    refine ⟨fun e => ?_, fun e => ⟨ho.1, ?_⟩⟩
    · rw [if_neg (fun z => e z.2.1)] at hK
      exact hK _ rfl h oC.rf c
    · obtain ⟨c1, c2, c3⟩ := ch.2.2.1 e
      have em := nz_m1i (show (jv_gI h (159 + 2 * n) 2).toInt = (Z.H n).sz from c1) (by omega)
      have e0 : (0 : Int32).toInt = 0 := rfl
      refine c_isWithin X 6 227 _ h _ _ _ ⟨fun y => ?_, fun y => ?_⟩
      · rw [nz_bt, Classical.not_not, em, e0] at y
        have hj : j.toInt = (j.toInt.toNat : Int) := by omega
        rw [if_pos ⟨⟨by omega, by omega⟩, e, by omega, by omega⟩, nz_nat hj] at hK
        refine ⟨ho.1, _, ho.2.1, jx ho.2.2.2 ho.2.2.1 (by omega) (by omega), ?_⟩
        rw [nz_nat hj]
        exact hK _ (congrArg Int64.toInt (c3 _ (by omega))) h oC.rf c
      · rw [nz_bt, em, e0] at y
        rw [if_neg (fun z => y (by have := z.2.2; omega))] at hK
        exact hK _ rfl h oC.rf c
  · rw [if_neg (fun z => e z.1)] at hK
    exact hK _ rfl h oC.rf c
theorem c_stretch_h (d o : Nat) (H : zH) (i n : Int32) (l : HO h o) (ch : CH h o H) (e : H.ct = 2) (hK1 : str H i n → K 1 h) (hK0 : ¬ str H i n → K 0 h) : jI X (d + 1) y_Holder_hasStretch [.ref o, .int i, .int n] 227 h K := by
  obtain ⟨c1, c2, c3⟩ := ch.2.2.1 e
  have g2 : (jv_gI h o 2).toInt = H.sz := c1
  have e0 : (0 : Int32).toInt = 0 := rfl
  refine r_Holder_hasStretch X d 227 _ o i n h ⟨fun a => ⟨Or.inl rfl, hK0 (fun z => ?_)⟩, fun a => ⟨fun b => ⟨Or.inl rfl, hK0 (fun z => ?_)⟩, fun b => ⟨l.1, fun f => ⟨Or.inl rfl, hK0 (fun z => ?_)⟩, fun f => ⟨l.1, fun g => ⟨Or.inl rfl, hK0 (fun z => ?_)⟩, fun g => ⟨Or.inr rfl, hK1 ?_⟩⟩⟩⟩⟩
  · have := nz_lt.mp a
    have := z.1
    omega
  · have := nz_lt.mp b
    have := z.2.1
    omega
  · have f := nz_lt.mp f
    have := z.2
    omega
  · have a : ¬ i.toInt < (0 : Int32).toInt := fun z => a (nz_lt.mpr z)
    have f : ¬ (jv_gI h o 2).toInt < i.toInt := fun z => f (nz_lt.mpr z)
    have g := nz_lt.mp g
    rw [nz_subi (by rw [g2]; omega) (by rw [g2]; omega), g2] at g
    have := z.2
    omega
  · have a : ¬ i.toInt < (0 : Int32).toInt := fun z => a (nz_lt.mpr z)
    have b : ¬ n.toInt < (0 : Int32).toInt := fun z => b (nz_lt.mpr z)
    have f : ¬ (jv_gI h o 2).toInt < i.toInt := fun z => f (nz_lt.mpr z)
    have g : ¬ (jv_gI h o 2 - i).toInt < n.toInt := fun z => g (nz_lt.mpr z)
    rw [nz_subi (by rw [g2]; omega) (by rw [g2]; omega), g2] at g
    exact ⟨by omega, by omega, by omega⟩
theorem k_copy (a i b j n : Int32) (c : CS h Z) (hK : cI h (q_copy a i b j n Z) K) : jI X 8 y_Maker_copy [.ref 0, .int a, .int i, .int b, .int j, .int n] 227 h K := by
  unfold q_copy at hK
  refine r_Maker_copy X 6 227 _ 0 a i b j n h ⟨is0, c_findHolder X h Z _ _ 5 a c (fun p ha hp => ⟨is0, c_findHolder X h Z _ _ 5 b c (fun q hb hq => ⟨(c.ho hp).2.1, ?_⟩) (fun e => ?_)⟩) (fun e => ⟨is0, c_findHolder X h Z _ _ 5 b c (fun q hb hq => ?_) (fun e2 => ?_)⟩)⟩
  · have hA : Z.h a = Z.H p := congrArg Z.H (nz_nat ha)
    have hB : Z.h b = Z.H q := congrArg Z.H (nz_nat hb)
    have la := (c.ho hp).2
    have lb := (c.ho hq).2
    have ca := c.ch hp
    have cb := c.ch hq
    rw [if_pos ⟨⟨by omega, by omega⟩, by omega, by omega⟩, hA, hB, nz_nat hb] at hK
    rw [show jv_gI h (159 + 2 * p) 1 = (Z.H p).ct from ca.1, show jv_gI h (159 + 2 * q) 1 = (Z.H q).ct from cb.1]
    refine ⟨fun e => ?_, fun e => ⟨lb.1, fun e2 => ⟨la.1, fun e3 => ?_, fun e3 => ⟨lb.1, fun e4 => ⟨la.1, ?_⟩, fun e4 => ?_⟩⟩, fun e2 => ?_⟩⟩
    · rw [if_pos (Or.inl e)] at hK
      exact hK _ rfl h oC.rf c
    · rw [if_neg (fun z => z.elim e e2), if_pos (Or.inl e3)] at hK
      exact hK _ rfl h oC.rf c
    · rw [if_neg (fun z => z.elim e e2), if_neg (fun z => z.elim (fun y => y e3) (fun y => y e4))] at hK
      obtain ⟨a1, a2, a3⟩ := ca.2.2.1 e3
      obtain ⟨b1, b2, b3⟩ := cb.2.2.1 e4
      refine c_stretch_h X h _ 6 _ (Z.H p) i n la ca e3 (fun s1 => ⟨fun z => absurd z (by decide), fun _ => ⟨lb.1, c_stretch_h X h _ 6 _ (Z.H q) j n lb cb e4 (fun s2 => ⟨fun _ => ?_, fun z => absurd z (by decide)⟩) (fun s2 => ⟨fun z => absurd rfl z, fun _ => ?_⟩)⟩⟩) (fun s1 => ⟨fun _ => ?_, fun z => absurd rfl z⟩)
      · rw [if_pos ⟨s1, s2⟩] at hK
        obtain ⟨s11, s12, s13⟩ := s1
        obtain ⟨s21, s22, s23⟩ := s2
        have hi : i.toInt = (i.toInt.toNat : Int) := by omega
        have hj : j.toInt = (j.toInt.toNat : Int) := by omega
        have hn : n.toInt = (n.toInt.toNat : Int) := by omega
        have l1 : (SHT (159 + 2 * p + 1)).2 = 40 := by rw [la.2.2.2]
        have l2 : (SHT (159 + 2 * q + 1)).2 = 40 := by rw [lb.2.2.2]
        refine ⟨la.1, _, la.2.1, lb.1, _, lb.2.1, ⟨⟨la.2.2.1, by rw [la.2.2.2]⟩, ⟨lb.2.2.1, by rw [lb.2.2.2]⟩, s11, s21, s12, by rw [l1]; omega, by rw [l2]; omega⟩, ?_⟩
        rw [nz_nat hi, nz_nat hj, nz_nat hn] at hK ⊢
        have o1 : oS (fun z => z = 159 + 2 * q ∨ z = 159 + 2 * q + 1) h (jv_cp h (159 + 2 * p + 1) i.toInt.toNat (159 + 2 * q + 1) j.toInt.toNat n.toInt.toNat) := oS_cp (Or.inr rfl)
        refine hK _ rfl _ (o1.R.C (fun q z => by omega)) (c.updH hq o1 ⟨cb.1, cb.2.1, fun _ => ⟨b1, b2, fun k hk => ?_⟩, fun z => absurd (e4.symm.trans z) (by decide)⟩)
        have hk : k < (Z.H q).sz := hk
        show (if 159 + 2 * q + 1 = 159 + 2 * q + 1 ∧ j.toInt.toNat ≤ k ∧ k < j.toInt.toNat + n.toInt.toNat then h.2.1 (159 + 2 * p + 1) (i.toInt.toNat + (k - j.toInt.toNat)) else h.2.1 (159 + 2 * q + 1) k) = if j.toInt.toNat ≤ k ∧ k < j.toInt.toNat + n.toInt.toNat then (Z.H p).nu (i.toInt.toNat + (k - j.toInt.toNat)) else (Z.H q).nu k
        by_cases y : j.toInt.toNat ≤ k ∧ k < j.toInt.toNat + n.toInt.toNat
        · rw [if_pos ⟨rfl, y⟩, if_pos y]
          exact a3 _ (by omega)
        · rw [if_neg (fun z => y z.2), if_neg y]
          exact b3 k hk
      · rw [if_neg (fun z => s2 z.2)] at hK
        exact hK _ rfl h oC.rf c
      · rw [if_neg (fun z => s1 z.1)] at hK
        exact hK _ rfl h oC.rf c
    · rw [if_neg (fun z => z.elim e e2), if_pos (Or.inr e4)] at hK
      exact hK _ rfl h oC.rf c
    · rw [if_pos (Or.inr e2)] at hK
      exact hK _ rfl h oC.rf c
  · rw [if_neg (fun z => e z.2)] at hK
    exact hK _ rfl h oC.rf c
  · rw [if_neg (fun z => e z.1)] at hK
    exact hK _ rfl h oC.rf c
  · rw [if_neg (fun z => e z.1)] at hK
    exact hK _ rfl h oC.rf c
theorem judge_l (Q : jv_Q) (o o1 : Nat) (H : zH) (L : zL) (ho : HO h o) (ch : CH h o H) (e : H.ct = 2) (l : LO 227 h o1) (cl : CL h o1 L) : ∀ (m k : Nat) (x : Int32), x.toInt = k → k + m = L.sz → (∀ z : Int32, z.toInt = jdg H L m k → Q (some (.int z)) h) → a_Holder_judgeBy_2 X 6 227 Q o o1 x h 0
  | 0, k, x, hx, hm, hQ => by
    obtain ⟨c1, c2, c3⟩ := ch.2.2.1 e
    have hle := cl.le
    have e2 : (2 : Int32).toInt = 2 := rfl
    have h2 : ((2 : Int32) * jv_gI h o1 3).toInt = 2 * L.sz := by rw [nz_muli (by rw [e2, cl.gz]; omega) (by rw [e2, cl.gz]; omega), e2, cl.gz]
    have g2 : (jv_gI h o 2).toInt = H.sz := c1
    unfold jdg at hQ
    refine r_Holder_judgeBy_2 X 6 227 Q o o1 x h ⟨l.1, fun _ => ⟨ho.1, l.1, fun a => ?_, fun a => ⟨l.1, ?_⟩⟩, fun z => absurd (nz_le.mpr (by rw [cl.gz, hx]; omega)) z⟩
    · have a := nz_le.mp a
      rw [h2, g2] at a
      rw [if_neg (by omega)] at hQ
      exact hQ _ rfl
    · have a : ¬ (H.sz : Int) ≤ 2 * L.sz := fun z => a (nz_le.mpr (by rw [h2, g2]; exact z))
      rw [if_pos (by omega)] at hQ
      exact hQ _ cl.gz
  | m + 1, k, x, hx, hm, hQ => by
    obtain ⟨c1, c2, c3⟩ := ch.2.2.1 e
    have hle := cl.le
    have hk : k < L.sz := by omega
    have e2 : (2 : Int32).toInt = 2 := rfl
    have e1 : (1 : Int32).toInt = 1 := rfl
    have h2 : ((2 : Int32) * x).toInt = ((2 * k : Nat) : Int) := by rw [nz_muli (by rw [e2, hx]; omega) (by rw [e2, hx]; omega), e2, hx]; omega
    have h3 : ((2 : Int32) * x + 1).toInt = ((2 * k + 1 : Nat) : Int) := by rw [nz_addi (by rw [h2, e1]; omega) (by rw [h2, e1]; omega), h2, e1]; omega
    have g2 : (jv_gI h o 2).toInt = H.sz := c1
    unfold jdg at hQ
    refine r_Holder_judgeBy_2 X 6 227 Q o o1 x h ⟨l.1, fun z => ?_, fun _ => ⟨ho.1, fun a => ?_, fun a => ?_⟩⟩
    · have := nz_le.mp z
      rw [cl.gz, hx] at this
      omega
    · have a := nz_le.mp a
      rw [h3, g2] at a
      rw [if_pos (Or.inl (by omega))] at hQ
      exact hQ x hx
    · have a : ¬ (H.sz : Int) ≤ ((2 * k + 1 : Nat) : Int) := fun z => a (nz_le.mpr (by rw [h3, g2]; exact z))
      refine ⟨ho.1, _, ho.2.1, jx ho.2.2.2 ho.2.2.1 (by rw [h2]; omega) (by rw [h2]; omega), l.1, _, l.2.2.2.1, l.xc hx (by omega), ?_⟩
      rw [cl.gv hx hk, nz_nat h2, show jv_gL h (o + 1) (2 * k) = H.nu (2 * k) from c3 _ (by omega)]
      refine c_above X 5 227 _ h _ (cl.vr hk) (fun z4 e4 => ⟨fun b => ?_, fun b => ⟨ho.1, _, ho.2.1, jx ho.2.2.2 ho.2.2.1 (by rw [h3]; omega) (by rw [h3]; omega), l.1, _, l.2.2.2.1, l.xc hx (by omega), ?_⟩⟩)
      · have b : ¬ (H.nu (2 * k)).toInt = (L.va k).1 := fun z => b ((lg_cmp_eq _ _).mpr (Int64.toInt_inj.mp (by rw [z, Int32.toInt_toInt64, e4])))
        rw [if_pos (Or.inr (Or.inl b))] at hQ
        exact hQ x hx
      · have b : (H.nu (2 * k)).toInt = (L.va k).1 := by rw [(lg_cmp_eq _ _).mp b, Int32.toInt_toInt64, e4]
        rw [cl.gv hx hk, nz_nat h3, show jv_gL h (o + 1) (2 * k + 1) = H.nu (2 * k + 1) from c3 _ (by omega)]
        refine c_below X 5 227 _ h _ (cl.vr hk) (fun z8 e8 => ⟨fun d => ?_, fun d => ?_⟩)
        · have d : (H.nu (2 * k + 1)).toInt = (L.va k).2 := by rw [(lg_cmp_eq _ _).mp d, Int32.toInt_toInt64, e8]
          rw [if_neg (fun z => z.elim (fun y => by omega) (fun y => y.elim (fun q => q b) (fun q => q d)))] at hQ
          exact judge_l Q o o1 H L ho ch e l cl m (k + 1) _ (nz_inc hx (by omega)) (by omega) hQ
        · have d : ¬ (H.nu (2 * k + 1)).toInt = (L.va k).2 := fun z => d ((lg_cmp_eq _ _).mpr (Int64.toInt_inj.mp (by rw [z, Int32.toInt_toInt64, e8])))
          rw [if_pos (Or.inr (Or.inr d))] at hQ
          exact hQ x hx
theorem k_judge (i x : Int32) (c : CS h Z) (hK : cI h (q_judge i x Z) K) : jI X 8 y_Maker_judge [.ref 0, .int i, .int x] 227 h K := by
  unfold q_judge at hK
  have hm := c.k.ml
  refine r_Maker_judge X 7 227 _ 0 i x h ⟨is0, c_findHolder X h Z _ _ 5 i c (fun j hi hj => ⟨is0, _, c.m2, c.s8.is, c_findLadder X 5 h 8 Z.k _ _ x c.s8 c.k (fun n hx hn => ⟨(c.ho hj).2.1, ?_⟩) (fun e => ?_)⟩) (fun e => ⟨is0, _, c.m2, c.s8.is, c_findLadder X 5 h 8 Z.k _ _ x c.s8 c.k (fun n hx hn => ?_) (fun e2 => ?_)⟩)⟩
  · have hL : Z.L x = Z.k.L n := congrArg Z.k.L (nz_nat hx)
    have hH : Z.h i = Z.H j := congrArg Z.H (nz_nat hi)
    have ho := (c.ho hj).2
    have ch := c.ch hj
    rw [if_pos ⟨⟨by omega, by omega⟩, by omega, by omega⟩, hL, hH] at hK
    rw [show jv_gI h (159 + 2 * j) 1 = (Z.H j).ct from ch.1]
    refine ⟨fun e => ⟨ho.1, c_noRow X h _ 6 _ (Z.H j) ho ch (fun z => ?_) (fun z => ?_)⟩, fun e => ⟨ho.1, r_Holder_judgeBy X 6 227 _ _ _ h ?_⟩⟩
    · rw [if_neg e, if_pos z] at hK
      exact hK _ rfl h oC.rf c
    · rw [if_neg e, if_neg z] at hK
      exact hK _ rfl h oC.rf c
    · rw [if_pos e] at hK
      exact judge_l X h _ _ _ (Z.H j) (Z.k.L n) ho ch e (c.s8.lo (k := n) (by omega)) (c.k.l hn) (Z.k.L n).sz 0 0 rfl (by omega) (fun z hz => hK z hz h oC.rf c)
  · rw [if_neg (fun z => e z.2)] at hK
    exact hK _ rfl h oC.rf c
  · rw [if_neg (fun z => e z.1)] at hK
    exact hK _ rfl h oC.rf c
  · rw [if_neg (fun z => e z.1)] at hK
    exact hK _ rfl h oC.rf c
theorem k_image (c : CS h Z) (hK : cI h (q_image Z) K) : jI X 8 y_Maker_image [.ref 0] 227 h K := by
  unfold q_image at hK
  refine r_Maker_image X 7 227 _ 0 h ⟨is0, _, c.m3, is0, _, c.m2, c.s83.is, c_K_become X 3 h 83 8 Z.k _ (by omega) c.s83 c.s8 c.k (fun h1 o1 ck => ⟨is0, Or.inr rfl, is0, _, o1.m c.m2, c.s8.is, ?_⟩)⟩
  have o2 : oS (fun q => wr 83 q ∨ q = 0) h (jv_uI h1 0 5 1) := (o1.mono (fun q z => Or.inl z)).tr (oS_uI (Or.inr rfl))
  have n0 : ∀ q, 1 ≤ q → q < 83 ∨ 158 ≤ q → ¬ (wr 83 q ∨ q = 0) := fun q h1 h2 z => by
    rcases z with z | z
    · have := z.1; have := z.2; omega
    · omega
  have ck8 : CK (jv_uI h1 0 5 1) 8 Z.k := c.k.mv o2.R (fun q u => n0 q (by have := us_b c.k.mr c.k.ml u; omega) (by have := us_b c.k.mr c.k.ml u; omega))
  refine hK _ ck8.zl _ (o2.R.C (fun q z => by rcases z with z | z; have := z.1; have := z.2; omega; omega)) ⟨c.1.mv o2, ⟨?_, c.tp.2.1, fun i hi => ?_⟩, ck8, uI_eq, fun K' hK' => ?_, fun k hk => (c.ch hk).mv o2.R (n0 _ (by omega) (by omega)) (n0 _ (by omega) (by omega))⟩
  · rw [(o2.2 1 (n0 _ (by omega) (by omega))).1]; exact c.tp.1
  · rw [(o2.2 2 (n0 _ (by omega) (by omega))).1]; exact c.tp.2.2 i hi
  · have e : Z.k = K' := Option.some.inj hK'
    rw [← e]
    exact ck.mv (oS_uI (S := fun q => q = 0) rfl).R (fun q u z => by have := us_b c.k.mr c.k.ml u; omega)
theorem k_undo (c : CS h Z) (hK : cI h (q_undo Z) K) : jI X 8 y_Maker_undo [.ref 0] 227 h K := by
  unfold q_undo at hK
  have g5 : jv_gI h 0 5 = if Z.im.isSome then 1 else 0 := c.2.2.2.1
  refine r_Maker_undo X 7 227 _ 0 h ⟨is0, fun a => ?_, fun a => ?_⟩
  · cases hi : Z.im with
    | none =>
      rw [g5, hi] at a
      exact absurd rfl a
    | some K' =>
      rw [hi] at hK
      have c83 := c.2.2.2.2.1 K' hi
      refine ⟨is0, _, c.m2, is0, _, c.m3, c.s8.is, c_K_become X 3 h 8 83 K' _ (by omega) c.s8 c.s83 c83 (fun h1 o1 ck => ⟨is0, _, o1.m c.m2, c.s8.is, ?_⟩)⟩
      exact hK _ ck.zl h1 (o1.R.C (fun q z => by have := z.1; have := z.2; omega)) (c.upd o1 (fun q z => ⟨by have := z.1; omega, by have := z.2; omega⟩) ck)
  · cases hi : Z.im with
    | none =>
      rw [hi] at hK
      exact hK _ rfl h oC.rf c
    | some K' =>
      rw [g5, hi] at a
      exact absurd (show (1 : Int32) = 0 from a) (by decide)
theorem k_count (x : Int32) (c : CS h Z) (hK : cI h (q_count x Z) K) : jI X 8 y_Maker_count [.ref 0, .int x] 227 h K := by
  unfold q_count at hK
  have e6 : (6 : Int32).toInt = 6 := rfl
  have bin : ∀ k : Nat, k < 3 → x.toInt = (k : Int) + 6 → (jv_ix SHT 227 11 5 (x - 6) ∧ 2 < 4 ∧ ∃ a11 : Nat, jv_gR h 11 (x - 6).toNatClampNeg = some a11 ∧ (jv_is SHT 227 a11 10 ∧ K (jv_gI h a11 3) h)) := fun k hk hx => by
    have h6 : (x - 6).toInt = k := by rw [nz_subi (by rw [e6]; omega) (by rw [e6]; omega), e6]; omega
    refine ⟨c.s8.x2 h6 hk, by decide, _, (by rw [nz_nat h6]; exact c.s8.kb hk), (c.s8.bo hk).1, ?_⟩
    rw [if_neg (by omega), if_neg (by omega), if_neg (by omega), if_neg (by omega), if_neg (by omega), if_neg (by omega), if_pos (by omega)] at hK
    exact hK _ (by
      rw [(c.k.b hk).gz]
      show _ = ((Z.k.B (x.toInt - 6).toNat).n : Int)
      rw [show (x.toInt - 6).toNat = k by omega]) h oC.rf c
  refine r_Maker_count X 7 227 _ 0 x h ⟨fun a => ⟨is0, _, c.m0, c.to.1, ?_⟩, fun a => ⟨fun b => ⟨is0, _, c.m2, c.s8.is, ?_⟩, fun b => ⟨fun d => ⟨is0, _, c.m2, c.s8.is, ?_⟩, fun d => ⟨fun e => ⟨is0, _, c.m2, c.s8.is, _, c.s8.r3, c.s8.wo.1, ?_⟩, fun e => ⟨fun f => ⟨is0, _, c.m2, c.s8.is, ?_⟩, fun f => ⟨fun g => ⟨is0, _, c.m2, c.s8.is, _, c.s8.r3, c.s8.wo.1, ?_⟩, fun g => ⟨fun i => ⟨is0, _, c.m2, c.s8.is, _, c.s8.r2, bin 0 (by omega) (by omega)⟩, fun i => ⟨fun j => ⟨is0, _, c.m2, c.s8.is, _, c.s8.r2, bin 1 (by omega) (by omega)⟩, fun j => ⟨fun k => ⟨is0, _, c.m2, c.s8.is, _, c.s8.r2, bin 2 (by omega) (by omega)⟩, fun k => ?_⟩⟩⟩⟩⟩⟩⟩⟩⟩
  · rw [if_pos a] at hK
    exact hK _ c.tp.1 h oC.rf c
  · rw [if_neg a, if_pos b] at hK
    exact hK _ c.k.zr h oC.rf c
  · rw [if_neg a, if_neg b, if_pos d] at hK
    exact hK _ c.k.zl h oC.rf c
  · rw [if_neg a, if_neg b, if_neg d, if_pos e] at hK
    exact hK _ c.k.wa.1 h oC.rf c
  · rw [if_neg a, if_neg b, if_neg d, if_neg e, if_pos f] at hK
    exact hK _ (congrArg Int32.toInt c.k.2.2.2.2) h oC.rf c
  · rw [if_neg a, if_neg b, if_neg d, if_neg e, if_neg f, if_pos g] at hK
    exact hK _ (congrArg Int32.toInt c.k.wa.2.1) h oC.rf c
  · rw [if_neg a, if_neg b, if_neg d, if_neg e, if_neg f, if_neg g, if_neg (by omega)] at hK
    exact hK _ rfl h oC.rf c
end
