/-! ===== the reference: taken, judge, copy ===== -/
section
variable (X : jv_X) (d : Nat) (h : jv_H) (K : jv_H → Prop) (KI : Int32 → jv_H → Prop) (KJ : Int64 → jv_H → Prop) (Z : zZ)
theorem w_taken (i k : Int32) (ms : MS h Z) (bd : bdZ Z) (ok : okZ Z) (hK : dI h (q_taken i k Z) KI) : jI X 8 y_Model_taken [.ref 171, .int i, .int k] 227 h KI := by
  unfold q_taken at hK
  refine r_Model_taken X 7 227 _ 171 i k h (m_isHolder X 5 h _ i (fun hi => ⟨fun z => absurd z (by decide), fun _ => c_in X 6 227 _ h _ _ _ ⟨fun y => ?_, fun y => ?_⟩⟩) (fun hi => ⟨fun _ => ?_, fun z => absurd rfl z⟩))
  · rw [nz_bt, Classical.not_not, Int32.toInt_toInt64] at y
    have y : wi k 0 3 := y
    rw [if_pos ⟨hi, y⟩] at hK
    obtain ⟨t, hit, ht, hci⟩ := wi5 hi
    have hH : Z.h i = Z.H t := congrArg Z.H hci
    rw [hH] at hK
    have g6 : ∀ q : Nat, ∀ t : Nat, SHT q = (t, 6) → q < 227 → jv_ix SHT 227 q t i := fun q t h1 h2 => jx h1 h2 (by omega) (by omega)
    obtain ⟨n1, n2, n3⟩ := ms.2.2.2.2.2 t ht
    have n1 : jv_gI h 193 t = (Z.H t).ct := n1
    have c3 := (bd.2.2.2 t ht).1
    refine ⟨is171, _, ms.r 32, g6 193 0 rfl (by decide), ?_⟩
    rw [hci, n1]
    refine ⟨fun a => ⟨is171, _, ms.r 32, g6 193 0 rfl (by decide), ?_⟩, fun a => ?_⟩
    · rw [if_neg a] at hK
      rw [n1]
      refine ⟨fun b => ?_, fun b => ?_⟩
      · rw [if_neg (fun z => by rw [b] at z; exact absurd z.1 (by decide))] at hK
        exact hK _ rfl h oM.rf ms
      · have c1 : (Z.H t).ct = 1 := by
          rcases c3 with z | z | z
          · exact absurd z a
          · exact z
          · exact absurd z b
        obtain ⟨m1, m2, m3⟩ := n3 c1
        obtain ⟨o1, o2, o3⟩ := ok.2.2 t ht c1
        obtain ⟨s, hs, hso⟩ := o1
        have m1 : jv_gI h 194 t = (Z.H t).so := m1
        have m2 : jv_gI h 195 t = (Z.H t).sh := m2
        have b1 := o2.1.1.1
        have b2 := o2.1.1.2
        have e1 : (1 : Int32).toInt = 1 := rfl
        have e10 : (10 : Int32).toInt = 10 := rfl
        have va := uq.a m3
        have vb := uq.b m3
        have hsh : (Z.H t).sh.toInt = 0 ∨ (Z.H t).sh.toInt = 1 := o3.imp (fun z => by rw [z]; rfl) (fun z => by rw [z]; rfl)
        refine ⟨fun e => ?_, fun e => ⟨is171, _, ms.r 33, g6 194 0 rfl (by decide), ?_⟩⟩
        · have e : k.toInt ≤ 0 := nz_le.mp e
          have k0 : k.toInt = 0 := by have := y.1; omega
          rw [if_pos ⟨c1, Or.inl k0⟩, if_pos k0] at hK
          refine ⟨fun _ => ⟨is171, _, ms.r 33, g6 194 0 rfl (by decide), is171, _, ms.r 34, g6 195 0 rfl (by decide), ?_⟩, fun z => absurd k0 z⟩
          rw [m1, m2]
          have p1 : ((10 : Int32) * (Z.H t).so).toInt = 10 * (Z.H t).so.toInt := by rw [nz_muli (by rw [e10, hso]; omega) (by rw [e10, hso]; omega), e10]
          refine hK _ ?_ h oM.rf ms
          rw [nz_addi (by rw [p1, hso]; omega) (by rw [p1, hso]; omega), p1]
        · have e : ¬ k.toInt ≤ 0 := fun q => e (nz_le.mpr q)
          rw [m1]
          have km : (k - 1).toInt = k.toInt - 1 := by rw [nz_subi (by rw [e1]; have := y.2; omega) (by rw [e1]; have := y.2; omega), e1]
          refine ⟨fun f => ?_, fun f => ?_⟩
          · have f : (Z.H t).so.toInt = k.toInt - 1 := by rw [f, km]
            rw [if_pos ⟨c1, Or.inr (by omega)⟩, if_neg (by omega)] at hK
            refine ⟨fun z => absurd z (by omega), fun _ => ⟨fun g => ⟨is171, _, ms.r 36, g6 197 1 rfl (by decide), ?_⟩, fun g => ⟨fun j => ⟨is171, _, ms.r 37, g6 198 1 rfl (by decide), ?_⟩, fun j => ⟨is171, _, ms.r 36, g6 197 1 rfl (by decide), is171, _, ms.r 37, g6 198 1 rfl (by decide), ?_⟩⟩⟩⟩
            · rw [if_pos g] at hK
              exact hK _ (by rw [l2i (by rw [va]; omega), va]) h oM.rf ms
            · rw [if_neg g, if_pos j] at hK
              exact hK _ (by rw [l2i (by rw [vb]; omega), vb]) h oM.rf ms
            · rw [if_neg g, if_neg j] at hK
              have pp : (jv_gL h 197 t + jv_gL h 198 t).toInt = (Z.H t).va.1 + (Z.H t).va.2 := by rw [nz_add (by rw [va, vb]; omega) (by rw [va, vb]; omega), va, vb]
              exact hK _ (by rw [l2i (by rw [pp]; omega), pp]) h oM.rf ms
          · have f : ¬ (Z.H t).so.toInt = k.toInt - 1 := fun z => f (Int32.toInt_inj.mp (by rw [z, km]))
            rw [if_neg (fun z => z.2.elim (by omega) (by omega))] at hK
            exact hK _ rfl h oM.rf ms
    · rw [if_pos a] at hK
      exact hK _ rfl h oM.rf ms
  · rw [nz_bt, Int32.toInt_toInt64] at y
    rw [if_neg (fun z => y z.2)] at hK
    exact hK _ rfl h oM.rf ms
  · rw [if_neg (fun z => hi z.1)] at hK
    exact hK _ rfl h oM.rf ms
theorem mjudge_l (Q : jv_Q) (x1 x2 : Int32) (t l : Nat) (hit : x1.toInt = t) (ht : t < 6) (hx : x2.toInt = l) (hl : l < Z.k.nl) (ms : MS h Z) (bd : bdZ Z) (c : (Z.H t).ct = 2) (R0 : Int) (hQ : ∀ z : Int32, z.toInt = R0 → Q (some (.int z)) h) : ∀ (m k : Nat) (x3 : Int32), x3.toInt = k → k + m = (Z.k.L l).sz → jdg (Z.H t) (Z.k.L l) m k = R0 → a_Model_judge_33 X d 227 Q 171 x1 x2 x3 h 0
  | 0, k, x3, h3, hm, hR => by
    have lz := ms.k.lz hl
    have hml := bd.2.1.2.1
    have hsz := bd.2.1.2.2.1 l hl
    obtain ⟨s1, s2⟩ := (ms.2.2.2.2.2 t ht).2.1 c
    have s1 : (jv_gI h 196 t).toInt = (Z.H t).sz := s1
    have e2 : (2 : Int32).toInt = 2 := rfl
    have g6 : ∀ q : Nat, ∀ t : Nat, SHT q = (t, 6) → q < 227 → jv_ix SHT 227 q t x1 := fun q t h1 h2 => jx h1 h2 (by omega) (by omega)
    have g7 : ∀ q : Nat, ∀ t : Nat, SHT q = (t, 6) → q < 227 → jv_ix SHT 227 q t x2 := fun q t h1 h2 => jx h1 h2 (by omega) (by omega)
    have p2 : ((2 : Int32) * jv_gI h 177 l).toInt = 2 * (Z.k.L l).sz := by rw [nz_muli (by rw [e2, lz]; omega) (by rw [e2, lz]; omega), e2, lz]
    refine r_Model_judge_33 X d 227 Q 171 x1 x2 x3 h ⟨is171, _, ms.r 12, g7 177 0 rfl (by decide), ?_⟩
    rw [nz_nat hx]
    refine ⟨fun _ => ⟨is171, _, ms.r 35, g6 196 0 rfl (by decide), is171, _, ms.r 12, g7 177 0 rfl (by decide), ?_⟩, fun z => absurd (nz_le.mpr (by rw [lz, h3]; omega)) z⟩
    rw [nz_nat hit]
    unfold jdg at hR
    refine ⟨fun z => ?_, fun z => ⟨is171, _, ms.r 12, g7 177 0 rfl (by decide), ?_⟩⟩
    · have z := nz_le.mp z
      rw [s1, p2] at z
      rw [if_neg (by omega)] at hR
      exact hQ (-2) (by rw [← hR]; rfl)
    · have z : ¬ (jv_gI h 196 t).toInt ≤ ((2 : Int32) * jv_gI h 177 l).toInt := fun q => z (nz_le.mpr q)
      rw [s1, p2] at z
      rw [if_pos (by omega)] at hR
      exact hQ _ (by rw [lz]; exact hR)
  | m + 1, k, x3, h3, hm, hR => by
    have lz := ms.k.lz hl
    have hml := bd.2.1.2.1
    have hsz := bd.2.1.2.2.1 l hl
    have hkl : k < (Z.k.L l).sz := by omega
    obtain ⟨s1, s2⟩ := (ms.2.2.2.2.2 t ht).2.1 c
    have s1 : (jv_gI h 196 t).toInt = (Z.H t).sz := s1
    have s40 := (bd.2.2.2 t ht).2 c
    have e2 : (2 : Int32).toInt = 2 := rfl
    have g6 : ∀ q : Nat, ∀ t : Nat, SHT q = (t, 6) → q < 227 → jv_ix SHT 227 q t x1 := fun q t h1 h2 => jx h1 h2 (by omega) (by omega)
    have g7 : ∀ q : Nat, ∀ t : Nat, SHT q = (t, 6) → q < 227 → jv_ix SHT 227 q t x2 := fun q t h1 h2 => jx h1 h2 (by omega) (by omega)
    have p2 : ((2 : Int32) * x3).toInt = ((2 * k : Nat) : Int) := by rw [nz_muli (by rw [e2, h3]; omega) (by rw [e2, h3]; omega), e2, h3]; omega
    have p3 : ((2 : Int32) * x3 + 2).toInt = ((2 * k + 2 : Nat) : Int) := by rw [nz_addi (by rw [p2, e2]; omega) (by rw [p2, e2]; omega), p2, e2]; omega
    have q1 := nz_40p hit ht p2 (by omega)
    have q2 := nz_inc q1 (by omega)
    have r1 := nz_12p hx (by omega) h3 (by omega)
    have v := ms.k.lv hl hkl
    have ce : ∀ a b : Int64, lg_cmp a b = 0 ↔ a.toInt = b.toInt := fun a b => by rw [lg_cmp_eq, ← Int64.toInt_inj]
    have here : (k : Int) = R0 → Q (some (.int x3)) h := fun e => hQ x3 (by rw [h3]; exact e)
    unfold jdg at hR
    refine r_Model_judge_33 X d 227 Q 171 x1 x2 x3 h ⟨is171, _, ms.r 12, g7 177 0 rfl (by decide), ?_⟩
    rw [nz_nat hx]
    refine ⟨fun z => ?_, fun _ => ⟨is171, _, ms.r 35, g6 196 0 rfl (by decide), ?_⟩⟩
    · have := nz_le.mp z
      rw [lz, h3] at this
      omega
    · rw [nz_nat hit]
      refine ⟨fun z => ?_, fun z => ?_⟩
      · have z := nz_lt.mp z
        rw [s1, p3] at z
        rw [if_pos (Or.inl (by omega))] at hR
        exact here hR
      · have z : ¬ (jv_gI h 196 t).toInt < ((2 : Int32) * x3 + 2).toInt := fun q => z (nz_lt.mpr q)
        rw [s1, p3] at z
        refine ⟨is171, _, ms.r 38, jx (len := 240) rfl (by decide) (by omega) (by omega), is171, _, ms.r 14, jx (len := 72) rfl (by decide) (by omega) (by omega), ?_⟩
        have u1 : jv_gL h 199 (40 * t + 2 * k) = (Z.H t).nu (2 * k) := s2 (2 * k) (by omega)
        have u2 : jv_gL h 199 (40 * t + 2 * k + 1) = (Z.H t).nu (2 * k + 1) := s2 (2 * k + 1) (by omega)
        rw [nz_nat q1, nz_nat r1, ce, u1, uq.a v]
        refine ⟨fun y => ?_, fun y => ⟨is171, _, ms.r 38, jx (len := 240) rfl (by decide) (by omega) (by omega), is171, _, ms.r 15, jx (len := 72) rfl (by decide) (by omega) (by omega), ?_⟩⟩
        · rw [if_pos (Or.inr (Or.inl y))] at hR
          exact here hR
        · rw [nz_nat q2, ce, u2, uq.b v]
          refine ⟨fun y2 => ?_, fun y2 => ?_⟩
          · rw [if_neg (fun q => q.elim (by omega) (fun q => q.elim (fun w => w y) (fun w => w y2)))] at hR
            exact mjudge_l Q x1 x2 t l hit ht hx hl ms bd c R0 hQ m (k + 1) _ (nz_inc h3 (by omega)) (by omega) hR
          · rw [if_pos (Or.inr (Or.inr y2))] at hR
            exact here hR
theorem w_judge (i x : Int32) (ms : MS h Z) (bd : bdZ Z) (hK : dI h (q_judge i x Z) KI) : jI X 8 y_Model_judge [.ref 171, .int i, .int x] 227 h KI := by
  unfold q_judge at hK
  refine r_Model_judge X 7 227 _ 171 i x h (m_isHolder X 5 h _ i (fun hi => ⟨fun z => absurd z (by decide), fun _ => ⟨is171, m_isLadder X 5 h _ Z x ms bd (fun hr => ⟨fun _ => ⟨is171, ?_⟩, fun z => absurd z (by decide)⟩) (fun hr => ⟨fun z => absurd rfl z, fun _ => ?_⟩)⟩⟩) (fun hi => ⟨fun _ => ?_, fun z => absurd rfl z⟩))
  · rw [if_pos ⟨hi, hr⟩] at hK
    obtain ⟨t, hit, ht, hci⟩ := wi5 hi
    obtain ⟨l, hx, hl, hL, hc⟩ := isL.n hr
    have hH : Z.h i = Z.H t := congrArg Z.H hci
    rw [hH, hL] at hK
    refine m_bar X 6 h _ Z i t hit ht ms bd (fun c => ⟨fun _ => ?_, fun z => absurd rfl z⟩) (fun c => ⟨fun z => absurd z (by decide), fun _ => ⟨is171, m_bar X 6 h _ Z i t hit ht ms bd (fun c2 => by rw [c] at c2; exact absurd c2 (by decide)) (fun _ => ?_) (fun c2 => by rw [c] at c2; exact absurd c2 (by decide))⟩⟩) (fun c => ⟨fun z => absurd z (by decide), fun _ => ⟨is171, m_bar X 6 h _ Z i t hit ht ms bd (fun c2 => by rw [c] at c2; exact absurd c2 (by decide)) (fun c2 => by rw [c] at c2; exact absurd c2 (by decide)) (fun _ => ?_)⟩⟩)
    · rw [if_pos c] at hK
      exact mjudge_l X 7 h Z _ i x t l hit ht hx hl ms bd c _ (fun z hz => hK z hz h oM.rf ms) (Z.k.L l).sz 0 0 rfl (by omega) rfl
    · rw [if_neg (by rw [c]; decide), if_pos c] at hK
      exact hK _ rfl h oM.rf ms
    · rw [if_neg (by rw [c]; decide), if_neg (by rw [c]; decide)] at hK
      exact hK _ rfl h oM.rf ms
  · rw [if_neg (fun z => hr z.2)] at hK
    exact hK _ rfl h oM.rf ms
  · rw [if_neg (fun z => hi z.1)] at hK
    exact hK _ rfl h oM.rf ms
/-- n numbers from S on, brought to D -/
def cpF (F : Nat → Int64) (S D n : Nat) : Nat → Int64 := fun q => if D ≤ q ∧ q < D + n then F (S + (q - D)) else F q
theorem copy_l (Q : jv_Q) (x1 x2 x3 x4 x5 : Int32) (a i b j n : Nat) (h1 : x1.toInt = a) (h2 : x2.toInt = i) (h3 : x3.toInt = b) (h4 : x4.toInt = j) (h5 : x5.toInt = n) (ha : a < 6) (hb : b < 6) (hi : i + n ≤ 40) (hj : j + n ≤ 40) (h0 : jv_H) (hQ : ∀ h', oT zI (fun q k => q = 199 ∧ 40 * b ≤ k ∧ k < 40 * b + 40) h0 h' → (∀ q, h'.2.1 199 q = cpF (h0.2.1 199) (40 * a + i) (40 * b + j) n q) → Q (some (.int x5)) h') : ∀ (m k : Nat) (x6 : Int32) (h : jv_H), x6.toInt = k → k + m = n → MR h → oT zI (fun q k => q = 199 ∧ 40 * b ≤ k ∧ k < 40 * b + 40) h0 h → (∀ q, h.2.1 199 q = if j ≤ i then cpF (h0.2.1 199) (40 * a + i) (40 * b + j) k q else cpF (h0.2.1 199) (40 * a + i + (n - k)) (40 * b + j + (n - k)) k q) → a_Model_copy_115 X d 227 Q 171 x1 x2 x3 x4 x5 x6 h 0
  | 0, k, x6, h, h6, hm, mr, o, c => by
    refine r_Model_copy_115 X d 227 Q 171 x1 x2 x3 x4 x5 x6 h ⟨fun _ => hQ h o (fun q => ?_), fun z => absurd (nz_le.mpr (by rw [h5, h6]; omega)) z⟩
    rw [c q, show k = n by omega, Nat.sub_self]
    split
    · rfl
    · rfl
  | m + 1, k, x6, h, h6, hm, mr, o, c => by
    have e1 : (1 : Int32).toInt = 1 := rfl
    refine r_Model_copy_115 X d 227 Q 171 x1 x2 x3 x4 x5 x6 h ⟨fun z => ?_, fun _ => ⟨fun y => ⟨is171, _, mr 38, is171, _, mr 38, ?_⟩, fun y => ⟨is171, _, mr 38, is171, _, mr 38, ?_⟩⟩⟩
    · have := nz_le.mp z
      rw [h5, h6] at this
      omega
    · have y := nz_le.mp y
      rw [h4, h2] at y
      have s1 := nz_40p h1 ha h2 (by omega)
      have s2 : ((40 : Int32) * x1 + x2 + x6).toInt = ((40 * a + i + k : Nat) : Int) := by rw [nz_addi (by rw [s1, h6]; omega) (by rw [s1, h6]; omega), s1, h6]; omega
      have d1 := nz_40p h3 hb h4 (by omega)
      have d2 : ((40 : Int32) * x3 + x4 + x6).toInt = ((40 * b + j + k : Nat) : Int) := by rw [nz_addi (by rw [d1, h6]; omega) (by rw [d1, h6]; omega), d1, h6]; omega
      refine ⟨jx (len := 240) rfl (by decide) (by omega) (by omega), jx (len := 240) rfl (by decide) (by omega) (by omega), ?_⟩
      rw [nz_nat s2, nz_nat d2]
      have o2 : oT zI (fun q k => q = 199 ∧ 40 * b ≤ k ∧ k < 40 * b + 40) h (jv_uL h 199 (40 * b + j + k) (jv_gL h 199 (40 * a + i + k))) := oT.rf.uL ⟨rfl, by omega, by omega⟩
      refine copy_l Q x1 x2 x3 x4 x5 a i b j n h1 h2 h3 h4 h5 ha hb hi hj h0 hQ m (k + 1) _ _ (nz_inc h6 (by omega)) (by omega) (mr.mv o2) (o.tr o2) (fun q => ?_)
      have cS := c (40 * a + i + k)
      have cq := c q
      rw [if_pos (by omega)] at cS cq
      rw [if_pos (by omega)]
      show jv_gL (jv_uL h 199 (40 * b + j + k) (jv_gL h 199 (40 * a + i + k))) 199 q = _
      rw [gL_uL]
      by_cases e : q = 40 * b + j + k
      · rw [if_pos ⟨rfl, e⟩]
        show h.2.1 199 (40 * a + i + k) = _
        rw [cS]
        unfold cpF
        rw [if_neg (by omega), if_pos (by omega), show 40 * a + i + (q - (40 * b + j)) = 40 * a + i + k by omega]
      · rw [if_neg (fun z => e z.2)]
        show h.2.1 199 q = _
        rw [cq]
        unfold cpF
        by_cases w : 40 * b + j ≤ q ∧ q < 40 * b + j + k
        · rw [if_pos w, if_pos (by omega)]
        · rw [if_neg w, if_neg (by omega)]
    · have y : ¬ x4.toInt ≤ x2.toInt := fun q => y (nz_le.mpr q)
      rw [h4, h2] at y
      have t1 : (x5 - 1 - x6).toInt = ((n - 1 - k : Nat) : Int) := by
        have : (x5 - 1).toInt = (n : Int) - 1 := by rw [nz_subi (by rw [h5, e1]; omega) (by rw [h5, e1]; omega), h5, e1]
        rw [nz_subi (by rw [this, h6]; omega) (by rw [this, h6]; omega), this, h6]
        omega
      have s1 := nz_40p h1 ha h2 (by omega)
      have s2 : ((40 : Int32) * x1 + x2 + (x5 - 1 - x6)).toInt = ((40 * a + i + (n - 1 - k) : Nat) : Int) := by rw [nz_addi (by rw [s1, t1]; omega) (by rw [s1, t1]; omega), s1, t1]; omega
      have d1 := nz_40p h3 hb h4 (by omega)
      have d2 : ((40 : Int32) * x3 + x4 + (x5 - 1 - x6)).toInt = ((40 * b + j + (n - 1 - k) : Nat) : Int) := by rw [nz_addi (by rw [d1, t1]; omega) (by rw [d1, t1]; omega), d1, t1]; omega
      refine ⟨jx (len := 240) rfl (by decide) (by omega) (by omega), jx (len := 240) rfl (by decide) (by omega) (by omega), ?_⟩
      rw [nz_nat s2, nz_nat d2]
      have o2 : oT zI (fun q k => q = 199 ∧ 40 * b ≤ k ∧ k < 40 * b + 40) h (jv_uL h 199 (40 * b + j + (n - 1 - k)) (jv_gL h 199 (40 * a + i + (n - 1 - k)))) := oT.rf.uL ⟨rfl, by omega, by omega⟩
      refine copy_l Q x1 x2 x3 x4 x5 a i b j n h1 h2 h3 h4 h5 ha hb hi hj h0 hQ m (k + 1) _ _ (nz_inc h6 (by omega)) (by omega) (mr.mv o2) (o.tr o2) (fun q => ?_)
      have cS := c (40 * a + i + (n - 1 - k))
      have cq := c q
      rw [if_neg (by omega)] at cS cq
      rw [if_neg (by omega)]
      show jv_gL (jv_uL h 199 (40 * b + j + (n - 1 - k)) (jv_gL h 199 (40 * a + i + (n - 1 - k)))) 199 q = _
      rw [gL_uL]
      by_cases e : q = 40 * b + j + (n - 1 - k)
      · rw [if_pos ⟨rfl, e⟩]
        show h.2.1 199 (40 * a + i + (n - 1 - k)) = _
        rw [cS]
        unfold cpF
        rw [if_neg (by omega), if_pos (by omega), show 40 * a + i + (n - (k + 1)) + (q - (40 * b + j + (n - (k + 1)))) = 40 * a + i + (n - 1 - k) by omega]
      · rw [if_neg (fun z => e z.2)]
        show h.2.1 199 q = _
        rw [cq]
        unfold cpF
        by_cases w : 40 * b + j + (n - k) ≤ q ∧ q < 40 * b + j + (n - k) + k
        · rw [if_pos w, if_pos (by omega), show 40 * a + i + (n - (k + 1)) + (q - (40 * b + j + (n - (k + 1)))) = 40 * a + i + (n - k) + (q - (40 * b + j + (n - k))) by omega]
        · rw [if_neg w, if_neg (by omega)]
end
