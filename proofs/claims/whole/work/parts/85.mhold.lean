/-! ===== the reference: what is held ===== -/
def hoI (i : Nat) : Nat → Nat → Prop := fun q j => (193 ≤ q ∧ q ≤ 196) ∧ j = i
def hoL (i : Nat) : Nat → Nat → Prop := fun q j => (q = 197 ∨ q = 198) ∧ j = i ∨ q = 199 ∧ 40 * i ≤ j ∧ j < 40 * i + 40
theorem MS.updH {h h' : jv_H} {Z : zZ} {i : Nat} {H : zH} (m : MS h Z) (b : bdZ Z) (a : oT (hoI i) (hoL i) h h') (c : MH h' i H) : MS h' (Z.sH i H) := by
  obtain ⟨m1, ⟨m2, m3⟩, m4, m5, m6, m7⟩ := m
  refine ⟨m1.mv a, ⟨by rw [a.2.1 _ _ (fun z => by unfold hoI at z; omega)]; exact m2, fun i hi => by rw [a.2.1 _ _ (fun z => by unfold hoI at z; omega)]; exact m3 i hi⟩, MKn.mv m4 b.2.1 a (fun q j z => by unfold hoI at z; omega) (fun q j z => by unfold hoL at z; omega), by rw [a.2.1 _ _ (fun z => by unfold hoI at z; omega)]; exact m5, fun K' hK' => MKi.mv (m6 K' hK') (b.2.2.1 K' hK') a (fun q j z => by unfold hoI at z; omega) (fun q j z => by unfold hoL at z; omega), fun k hk => ?_⟩
  show MH h' k (if k = i then H else Z.H k)
  by_cases e : k = i
  · rw [if_pos e, e]; exact c
  · rw [if_neg e]
    obtain ⟨n1, n2, n3⟩ := m7 k hk
    have sz := (b.2.2.2 k hk).2
    refine ⟨by rw [a.2.1 _ _ (fun z => by unfold hoI at z; omega)]; exact n1, fun z => ⟨by rw [a.2.1 _ _ (fun z => by unfold hoI at z; omega)]; exact (n2 z).1, fun j hj => ?_⟩, fun z => ?_⟩
    · have := sz z
      rw [a.2.2 _ _ (fun z => by unfold hoL at z; omega)]
      exact (n2 z).2 j hj
    · rw [a.2.1 _ _ (fun z => by unfold hoI at z; omega), a.2.1 _ _ (fun z => by unfold hoI at z; omega), uq.mv a (fun z => by unfold hoL at z; omega) (fun z => by unfold hoL at z; omega)]
      exact n3 z
theorem ho_M {i : Nat} {h h' : jv_H} (a : oT (hoI i) (hoL i) h h') : oM h h' := a.M (fun q j z => by unfold hoI at z; omega) (fun q j z => by unfold hoL at z; omega)
theorem nz_40 {x : Int32} {i : Nat} (hx : x.toInt = i) (hi : i < 6) : ((40 : Int32) * x).toInt = ((40 * i : Nat) : Int) := by
  have e : (40 : Int32).toInt = 40 := rfl
  rw [nz_muli (by rw [e, hx]; omega) (by rw [e, hx]; omega), e, hx]
  omega
theorem nz_40p {x y : Int32} {i k : Nat} (hx : x.toInt = i) (hi : i < 6) (hy : y.toInt = k) (hk : k < 1000) : ((40 : Int32) * x + y).toInt = ((40 * i + k : Nat) : Int) := by
  have e := nz_40 hx hi
  rw [nz_addi (by rw [e, hy]; omega) (by rw [e, hy]; omega), e, hy]
  omega
theorem wi5 {s : Int32} (h : wi s 0 5) : ∃ t : Nat, s.toInt = t ∧ t < 6 ∧ s.toNatClampNeg = t := by
  have hs : s.toInt = (s.toInt.toNat : Int) := by have := h.1; omega
  exact ⟨s.toInt.toNat, hs, by have := h.2; omega, nz_nat hs⟩
section
variable (X : jv_X) (d : Nat) (h : jv_H) (K : jv_H → Prop) (KI : Int32 → jv_H → Prop) (KJ : Int64 → jv_H → Prop) (Z : zZ)
theorem m_isHolder (x : Int32) (hK1 : wi x 0 5 → KI 1 h) (hK0 : ¬ wi x 0 5 → KI 0 h) : jI X (d + 2) y_Model_isHolder [.int x] 227 h KI := by
  refine r_Model_isHolder X (d + 1) 227 _ x h (c_in X d 227 _ h _ _ _ ⟨nz_b01, ?_⟩)
  rw [Int32.toInt_toInt64, show (0 : Int64).toInt = 0 from rfl, show (5 : Int64).toInt = 5 from rfl]
  by_cases y : wi x 0 5
  · rw [if_pos y]; exact hK1 y
  · rw [if_neg y]; exact hK0 y
theorem m_bar (x : Int32) (i : Nat) (hx : x.toInt = i) (hi : i < 6) (ms : MS h Z) (bd : bdZ Z) (hK0 : (Z.H i).ct = 2 → KI 0 h) (hK1 : (Z.H i).ct = 0 → KI (-11) h) (hK2 : (Z.H i).ct = 1 → KI (-12) h) : jI X (d + 1) y_Model_bar [.ref 171, .int x] 227 h KI := by
  have gi : ∀ q : Nat, ∀ t : Nat, SHT q = (t, 6) → q < 227 → jv_ix SHT 227 q t x := fun q t h1 h2 => jx h1 h2 (by omega) (by omega)
  have e : jv_gI h 193 i = (Z.H i).ct := (ms.2.2.2.2.2 i hi).1
  have c3 := (bd.2.2.2 i hi).1
  refine r_Model_bar X d 227 _ 171 x h ⟨is171, _, ms.r 32, gi 193 0 rfl (by decide), ?_⟩
  rw [nz_nat hx, e]
  refine ⟨fun a => ⟨is171, _, ms.r 32, gi 193 0 rfl (by decide), ?_⟩, fun a => hK1 a⟩
  rw [e]
  exact ⟨fun b => hK0 (by rcases c3 with z | z | z; exact absurd z a; exact absurd z b; exact z), fun b => hK2 b⟩
theorem w_hold (i x k : Int32) (ms : MS h Z) (bd : bdZ Z) (hK : dI h (q_hold i x k Z) KI) : jI X 8 y_Model_hold [.ref 171, .int i, .int x, .int k] 227 h KI := by
  unfold q_hold at hK
  have hml := bd.2.1.2.1
  refine r_Model_hold X 7 227 _ 171 i x k h (m_isHolder X 5 h _ i (fun hi => ⟨fun z => absurd z (by decide), fun _ => ⟨is171, m_isPart X 4 h _ Z x k ms bd (fun hr hp => ⟨fun _ => ?_, fun z => absurd z (by decide)⟩) (fun hr => ⟨fun z => absurd rfl z, fun _ => ?_⟩)⟩⟩) (fun hi => ⟨fun _ => ?_, fun z => absurd rfl z⟩))
  · rw [if_pos ⟨hi, hr, hp⟩] at hK
    obtain ⟨l, hx, hl, hL, hc⟩ := isL.n hr
    obtain ⟨t, hit, ht, hci⟩ := wi5 hi
    rw [hL] at hK hp
    have hsz := bd.2.1.2.2.1 l hl
    have hk : k.toInt = (k.toInt.toNat : Int) := by have := hp.1; omega
    have hk2 : k.toInt.toNat < (Z.k.L l).sz := by have := hp.2; omega
    have hj := nz_12p hx (by omega) hk (by omega)
    rw [nz_nat hk, hci] at hK
    have g6 : ∀ q : Nat, ∀ t : Nat, SHT q = (t, 6) → q < 227 → jv_ix SHT 227 q t i := fun q t h1 h2 => jx h1 h2 (by omega) (by omega)
    have g72 : ∀ q : Nat, ∀ t : Nat, SHT q = (t, 72) → q < 227 → jv_ix SHT 227 q t ((12 : Int32) * x + k) := fun q t h1 h2 => jx h1 h2 (by omega) (by omega)
    refine ⟨is171, _, ms.r 32, g6 193 0 rfl (by decide), is171, _, ms.r 33, is171, _, ms.r 10, g72 175 0 rfl (by decide), g6 194 0 rfl (by decide), is171, _, ms.r 34, is171, _, ms.r 11, g72 176 0 rfl (by decide), g6 195 0 rfl (by decide), is171, _, ms.r 36, is171, _, ms.r 14, g72 179 1 rfl (by decide), g6 197 1 rfl (by decide), is171, _, ms.r 37, is171, _, ms.r 15, g72 180 1 rfl (by decide), g6 198 1 rfl (by decide), is171, _, ms.r 33, g6 194 0 rfl (by decide), ?_⟩
    simp only [gI_uI, gI_uL, gL_uL, gL_uI, and_self, true_and, and_true, false_and, and_false, if_true, if_false, reduceIte, Nat.reduceEqDiff]
    rw [nz_nat hj, hci]
    have v := ms.k.lv hl hk2
    have o2 : oT (hoI t) (hoL t) h (jv_uL (jv_uL (jv_uI (jv_uI (jv_uI h 193 t 1) 194 t (jv_gI h 175 (12 * l + k.toInt.toNat))) 195 t (jv_gI h 176 (12 * l + k.toInt.toNat))) 197 t (jv_gL h 179 (12 * l + k.toInt.toNat))) 198 t (jv_gL h 180 (12 * l + k.toInt.toNat))) := ((((oT.rf.uI ⟨⟨by decide, by decide⟩, rfl⟩).uI ⟨⟨by decide, by decide⟩, rfl⟩).uI ⟨⟨by decide, by decide⟩, rfl⟩).uL (Or.inl ⟨Or.inl rfl, rfl⟩)).uL (Or.inl ⟨Or.inr rfl, rfl⟩)
    refine hK _ ?_ _ (ho_M o2) (ms.updH bd o2 ⟨?_, fun z => absurd (show (1 : Int32) = 2 from z) (by decide), fun _ => ⟨?_, ?_, ?_⟩⟩)
    · exact congrArg Int32.toInt (ms.k.ls hl hk2)
    · show jv_gI (jv_uI (jv_uI (jv_uI h 193 t 1) 194 t (jv_gI h 175 (12 * l + k.toInt.toNat))) 195 t (jv_gI h 176 (12 * l + k.toInt.toNat))) 193 t = 1
      rw [gI_uI, gI_uI, gI_uI, if_neg (by omega), if_neg (by omega), if_pos ⟨rfl, rfl⟩]
    · show jv_gI (jv_uI (jv_uI (jv_uI h 193 t 1) 194 t (jv_gI h 175 (12 * l + k.toInt.toNat))) 195 t (jv_gI h 176 (12 * l + k.toInt.toNat))) 194 t = _
      rw [gI_uI, gI_uI, if_neg (by omega), if_pos ⟨rfl, rfl⟩]
      exact ms.k.ls hl hk2
    · show jv_gI (jv_uI (jv_uI (jv_uI h 193 t 1) 194 t (jv_gI h 175 (12 * l + k.toInt.toNat))) 195 t (jv_gI h 176 (12 * l + k.toInt.toNat))) 195 t = _
      rw [gI_uI, if_pos ⟨rfl, rfl⟩]
      exact ms.k.lu hl hk2
    · rw [uq_st _ _ _ _ _ _ (by decide), if_pos rfl]
      exact v
  · rw [if_neg (fun z => hr ⟨z.2.1, z.2.2⟩)] at hK
    exact hK _ rfl h oM.rf ms
  · rw [if_neg (fun z => hi z.1)] at hK
    exact hK _ rfl h oM.rf ms
theorem w_drop (i : Int32) (ms : MS h Z) (bd : bdZ Z) (hK : dI h (q_drop i Z) KI) : jI X 8 y_Model_drop [.ref 171, .int i] 227 h KI := by
  unfold q_drop at hK
  refine r_Model_drop X 7 227 _ 171 i h (m_isHolder X 5 h _ i (fun hi => ⟨fun _ => ?_, fun z => absurd z (by decide)⟩) (fun hi => ⟨fun z => absurd rfl z, fun _ => ?_⟩))
  · rw [if_pos hi] at hK
    obtain ⟨t, hit, ht, hci⟩ := wi5 hi
    have hH : Z.h i = Z.H t := congrArg Z.H hci
    rw [hH, hci] at hK
    have g6 : ∀ q : Nat, ∀ t : Nat, SHT q = (t, 6) → q < 227 → jv_ix SHT 227 q t i := fun q t h1 h2 => jx h1 h2 (by omega) (by omega)
    refine ⟨is171, _, ms.r 32, g6 193 0 rfl (by decide), is171, _, ms.r 32, g6 193 0 rfl (by decide), ?_⟩
    rw [hci]
    have o2 : oT (hoI t) (hoL t) h (jv_uI h 193 t 0) := oT.rf.uI ⟨⟨by decide, by decide⟩, rfl⟩
    exact hK _ (congrArg Int32.toInt (ms.2.2.2.2.2 t ht).1) _ (ho_M o2) (ms.updH bd o2 ⟨uI_eq, fun z => absurd (show (0 : Int32) = 2 from z) (by decide), fun z => absurd (show (0 : Int32) = 1 from z) (by decide)⟩)
  · rw [if_neg hi] at hK
    exact hK _ rfl h oM.rf ms
theorem mrow_l (Q : jv_Q) (x1 x2 : Int32) (t : Nat) (hit : x1.toInt = t) (ht : t < 6) (h0 : jv_H) (hQ : ∀ h', oT zI (hoL t) h0 h' → (∀ i, i < 40 → h'.2.1 199 (40 * t + i) = 0) → Q (some (.int x2)) h') : ∀ (m k : Nat) (x3 : Int32) (h : jv_H), x3.toInt = k → k + m = 40 → MR h → oT zI (hoL t) h0 h → (∀ i, i < k → h.2.1 199 (40 * t + i) = 0) → a_Model_row_38 X d 227 Q 171 x1 x2 x3 h 0
  | 0, k, x3, h, h3, hm, mr, o, c => by
    exact r_Model_row_38 X d 227 Q 171 x1 x2 x3 h ⟨fun _ => hQ h o (fun i hi => c i (by omega)), fun z => absurd (nz_le.mpr (by rw [h3]; show (40 : Int) ≤ _; omega)) z⟩
  | m + 1, k, x3, h, h3, hm, mr, o, c => by
    have hj := nz_40p hit ht h3 (by omega)
    refine r_Model_row_38 X d 227 Q 171 x1 x2 x3 h ⟨fun z => ?_, fun _ => ⟨is171, _, mr 38, jx (len := 240) rfl (by decide) (by omega) (by omega), ?_⟩⟩
    · have : (40 : Int) ≤ x3.toInt := nz_le.mp z
      omega
    · rw [nz_nat hj]
      have o2 : oT zI (hoL t) h (jv_uL h 199 (40 * t + k) 0) := oT.rf.uL (Or.inr ⟨rfl, by omega, by omega⟩)
      refine mrow_l Q x1 x2 t hit ht h0 hQ m (k + 1) _ _ (nz_inc h3 (by omega)) (by omega) (mr.mv o2) (o.tr o2) (fun i hi => ?_)
      by_cases e : i = k
      · rw [e]; exact uL_eq
      · rw [uL_ne (by omega)]
        exact c i (by omega)
theorem w_row (i n : Int32) (ms : MS h Z) (bd : bdZ Z) (hK : dI h (q_row i n Z) KI) : jI X 8 y_Model_row [.ref 171, .int i, .int n] 227 h KI := by
  unfold q_row at hK
  refine r_Model_row X 7 227 _ 171 i n h (m_isHolder X 5 h _ i (fun hi => ⟨fun z => absurd z (by decide), fun _ => ⟨fun y => ⟨fun y2 => ?_, fun y2 => ?_⟩, fun y => ?_⟩⟩) (fun hi => ⟨fun _ => ?_, fun z => absurd rfl z⟩))
  · have y : n.toInt ≤ 40 := nz_le.mp y
    have y2 : 0 ≤ n.toInt := nz_le.mp y2
    rw [if_pos ⟨hi, y⟩, if_pos y2] at hK
    obtain ⟨t, hit, ht, hci⟩ := wi5 hi
    have hn : n.toInt = (n.toInt.toNat : Int) := by omega
    rw [hci, nz_nat hn] at hK
    have g6 : ∀ q : Nat, ∀ t : Nat, SHT q = (t, 6) → q < 227 → jv_ix SHT 227 q t i := fun q t h1 h2 => jx h1 h2 (by omega) (by omega)
    refine ⟨is171, _, ms.r 32, g6 193 0 rfl (by decide), is171, _, ms.r 35, g6 196 0 rfl (by decide), ?_⟩
    rw [hci]
    have o1 : oT (hoI t) (hoL t) h (jv_uI (jv_uI h 193 t 2) 196 t n) := (oT.rf.uI ⟨⟨by decide, by decide⟩, rfl⟩).uI ⟨⟨by decide, by decide⟩, rfl⟩
    refine mrow_l X 7 _ i n t hit ht (jv_uI (jv_uI h 193 t 2) 196 t n) (fun h' o' c' => ?_) 40 0 0 _ rfl rfl (ms.r.mv o1) oT.rf (fun i hi => absurd hi (Nat.not_lt_zero _))
    have o2 : oT (hoI t) (hoL t) h h' := o1.tr (o'.mono (fun _ _ z => z.elim) (fun _ _ z => z))
    refine hK _ rfl h' (ho_M o2) (ms.updH bd o2 ⟨?_, fun _ => ⟨?_, fun j hj => ?_⟩, fun z => absurd (show (2 : Int32) = 1 from z) (by decide)⟩)
    · rw [o'.2.1 _ _ (fun z => z)]
      show jv_gI (jv_uI (jv_uI h 193 t 2) 196 t n) 193 t = 2
      rw [gI_uI, gI_uI, if_neg (by omega), if_pos ⟨rfl, rfl⟩]
    · rw [o'.2.1 _ _ (fun z => z)]
      show (jv_gI (jv_uI (jv_uI h 193 t 2) 196 t n) 196 t).toInt = _
      rw [gI_uI, if_pos ⟨rfl, rfl⟩]
      exact hn
    · exact c' j (by have : j < n.toInt.toNat := hj; omega)
  · have y : n.toInt ≤ 40 := nz_le.mp y
    have y2 : ¬ (0 : Int) ≤ n.toInt := fun q => y2 (nz_le.mpr q)
    rw [if_pos ⟨hi, y⟩, if_neg y2] at hK
    exact hK _ rfl h oM.rf ms
  · have y : ¬ n.toInt ≤ 40 := fun q => y (nz_le.mpr q)
    rw [if_neg (fun z => y z.2)] at hK
    exact hK _ rfl h oM.rf ms
  · rw [if_neg (fun z => hi z.1)] at hK
    exact hK _ rfl h oM.rf ms
theorem w_put (i j : Int32) (v : Int64) (ms : MS h Z) (bd : bdZ Z) (hK : dI h (q_put i j v Z) KI) : jI X 8 y_Model_put [.ref 171, .int i, .int j, .long v] 227 h KI := by
  unfold q_put at hK
  refine r_Model_put X 7 227 _ 171 i j v h (m_isHolder X 5 h _ i (fun hi => ⟨fun _ => ⟨is171, ?_⟩, fun z => absurd z (by decide)⟩) (fun hi => ⟨fun z => absurd rfl z, fun _ => ?_⟩))
  · rw [if_pos hi] at hK
    obtain ⟨t, hit, ht, hci⟩ := wi5 hi
    have hH : Z.h i = Z.H t := congrArg Z.H hci
    rw [hH, hci] at hK
    have g6 : ∀ q : Nat, ∀ t : Nat, SHT q = (t, 6) → q < 227 → jv_ix SHT 227 q t i := fun q t h1 h2 => jx h1 h2 (by omega) (by omega)
    refine m_bar X 6 h _ Z i t hit ht ms bd (fun c => ⟨fun _ => ⟨is171, _, ms.r 35, g6 196 0 rfl (by decide), ?_⟩, fun z => absurd rfl z⟩) (fun c => ⟨fun z => absurd z (by decide), fun _ => ⟨is171, m_bar X 6 h _ Z i t hit ht ms bd (fun c2 => by rw [c] at c2; exact absurd c2 (by decide)) (fun _ => ?_) (fun c2 => by rw [c] at c2; exact absurd c2 (by decide))⟩⟩) (fun c => ⟨fun z => absurd z (by decide), fun _ => ⟨is171, m_bar X 6 h _ Z i t hit ht ms bd (fun c2 => by rw [c] at c2; exact absurd c2 (by decide)) (fun c2 => by rw [c] at c2; exact absurd c2 (by decide)) (fun _ => ?_)⟩⟩)
    · obtain ⟨n1, n2, n3⟩ := ms.2.2.2.2.2 t ht
      obtain ⟨s1, s2⟩ := n2 c
      have sz := (bd.2.2.2 t ht).2 c
      rw [if_pos c] at hK
      rw [hci]
      refine c_in X 6 227 _ h _ _ _ ⟨fun y => ?_, fun y => ?_⟩
      · rw [nz_bt, Classical.not_not, Int32.toInt_toInt64, Int32.toInt_toInt64, nz_m1i (show (jv_gI h 196 t).toInt = _ from s1) (by omega)] at y
        have y : 0 ≤ j.toInt ∧ j.toInt ≤ ((Z.H t).sz : Int) - 1 := y
        rw [if_pos ⟨y.1, by omega⟩] at hK
        have hj : j.toInt = (j.toInt.toNat : Int) := by omega
        have hp := nz_40p hit ht hj (by omega)
        rw [nz_nat hj] at hK
        refine ⟨is171, _, ms.r 38, jx (len := 240) rfl (by decide) (by omega) (by omega), ?_⟩
        rw [nz_nat hp]
        have o2 : oT (hoI t) (hoL t) h (jv_uL h 199 (40 * t + j.toInt.toNat) v) := oT.rf.uL (Or.inr ⟨rfl, by omega, by omega⟩)
        refine hK _ rfl _ (ho_M o2) (ms.updH bd o2 ⟨n1, fun _ => ⟨s1, fun k hk => ?_⟩, fun z => by rw [show ((Z.H t).set j.toInt.toNat v).ct = (Z.H t).ct from rfl, c] at z; exact absurd z (by decide)⟩)
        show _ = (if k = j.toInt.toNat then v else (Z.H t).nu k)
        by_cases e : k = j.toInt.toNat
        · rw [if_pos e, e]; exact uL_eq
        · rw [if_neg e, uL_ne (by omega)]
          exact s2 k hk
      · rw [nz_bt, Int32.toInt_toInt64, Int32.toInt_toInt64, nz_m1i (show (jv_gI h 196 t).toInt = _ from s1) (by omega)] at y
        have y : ¬ (0 ≤ j.toInt ∧ j.toInt ≤ ((Z.H t).sz : Int) - 1) := y
        rw [if_neg (fun z => y ⟨z.1, by have := z.2; omega⟩)] at hK
        exact hK _ rfl h oM.rf ms
    · rw [if_neg (by rw [c]; decide), if_pos c] at hK
      exact hK _ rfl h oM.rf ms
    · rw [if_neg (by rw [c]; decide), if_neg (by rw [c]; decide)] at hK
      exact hK _ rfl h oM.rf ms
  · rw [if_neg hi] at hK
    exact hK _ rfl h oM.rf ms
theorem w_get (i j : Int32) (ms : MS h Z) (bd : bdZ Z) (hK : dJ h (q_get i j Z) KJ) : jL X 8 y_Model_get [.ref 171, .int i, .int j] 227 h KJ := by
  unfold q_get at hK
  refine r_Model_get X 7 227 _ 171 i j h (m_isHolder X 5 h _ i (fun hi => ⟨fun z => absurd z (by decide), fun _ => ⟨is171, ?_⟩⟩) (fun hi => ⟨fun _ => ?_, fun z => absurd rfl z⟩))
  · obtain ⟨t, hit, ht, hci⟩ := wi5 hi
    have hH : Z.h i = Z.H t := congrArg Z.H hci
    rw [hH] at hK
    have g6 : ∀ q : Nat, ∀ t : Nat, SHT q = (t, 6) → q < 227 → jv_ix SHT 227 q t i := fun q t h1 h2 => jx h1 h2 (by omega) (by omega)
    refine m_bar X 6 h _ Z i t hit ht ms bd (fun c => ⟨fun z => absurd rfl z, fun _ => ⟨is171, _, ms.r 35, g6 196 0 rfl (by decide), ?_⟩⟩) (fun c => ⟨fun _ => ?_, fun z => absurd z (by decide)⟩) (fun c => ⟨fun _ => ?_, fun z => absurd z (by decide)⟩)
    · obtain ⟨n1, n2, n3⟩ := ms.2.2.2.2.2 t ht
      obtain ⟨s1, s2⟩ := n2 c
      have sz := (bd.2.2.2 t ht).2 c
      rw [hci]
      refine c_in X 6 227 _ h _ _ _ ⟨fun y => ?_, fun y => ?_⟩
      · rw [nz_bt, Int32.toInt_toInt64, Int32.toInt_toInt64, nz_m1i (show (jv_gI h 196 t).toInt = _ from s1) (by omega)] at y
        have y : ¬ (0 ≤ j.toInt ∧ j.toInt ≤ ((Z.H t).sz : Int) - 1) := y
        rw [if_neg (fun z => y ⟨z.2.2.1, by have := z.2.2.2; omega⟩)] at hK
        exact hK _ rfl h oM.rf ms
      · rw [nz_bt, Classical.not_not, Int32.toInt_toInt64, Int32.toInt_toInt64, nz_m1i (show (jv_gI h 196 t).toInt = _ from s1) (by omega)] at y
        have y : 0 ≤ j.toInt ∧ j.toInt ≤ ((Z.H t).sz : Int) - 1 := y
        rw [if_pos ⟨hi, c, y.1, by omega⟩] at hK
        have hj : j.toInt = (j.toInt.toNat : Int) := by omega
        have hp := nz_40p hit ht hj (by omega)
        rw [nz_nat hj] at hK
        refine ⟨is171, _, ms.r 38, jx (len := 240) rfl (by decide) (by omega) (by omega), ?_⟩
        rw [nz_nat hp]
        exact hK _ (congrArg Int64.toInt (s2 j.toInt.toNat (by omega))) h oM.rf ms
    · rw [if_neg (fun z => by rw [c] at z; exact absurd z.2.1 (by decide))] at hK
      exact hK _ rfl h oM.rf ms
    · rw [if_neg (fun z => by rw [c] at z; exact absurd z.2.1 (by decide))] at hK
      exact hK _ rfl h oM.rf ms
  · rw [if_neg (fun z => hi z.1)] at hK
    exact hK _ rfl h oM.rf ms
end
