/-! ===== the reference: bins that are read, nearest, fit ===== -/
theorem nz_10 {x : Int32} {t : Nat} (hx : x.toInt = t) (ht : t < 3) : ((10 : Int32) * x).toInt = ((10 * t : Nat) : Int) := by
  have e : (10 : Int32).toInt = 10 := rfl
  rw [nz_muli (by rw [e, hx]; omega) (by rw [e, hx]; omega), e, hx]
  omega
theorem nz_10p {x y : Int32} {t k : Nat} (hx : x.toInt = t) (ht : t < 3) (hy : y.toInt = k) (hk : k < 1000) : ((10 : Int32) * x + y).toInt = ((10 * t + k : Nat) : Int) := by
  have e := nz_10 hx ht
  rw [nz_addi (by rw [e, hy]; omega) (by rw [e, hy]; omega), e, hy]
  omega
def qb (q : Int × Int) : Prop := (0 ≤ q.1 ∧ q.1 ≤ 1000000000) ∧ 0 ≤ q.2 ∧ q.2 ≤ 1000000000
theorem mul_b {a b M N : Int} (h1 : 0 ≤ a ∧ a ≤ M) (h2 : 0 ≤ b ∧ b ≤ N) : 0 ≤ a * b ∧ a * b ≤ M * N := ⟨Int.mul_nonneg h1.1 h2.1, Int.mul_le_mul h1.2 h2.2 h2.1 (by omega)⟩
theorem gp.qb {q : Int × Int} (h : gp q) : qb q := ⟨⟨by have := h.2; omega, h.1.1.1.2⟩, by have := h.1.1.2.1; omega, h.1.1.2.2⟩
theorem spr_g {e q : Int × Int} {g : Int} (hg : 1 ≤ g) {r : Int × Int} (h1 : r.1 = g * q.1) (h2 : r.2 = g * q.2) : spr e r = g * spr e q := by
  unfold spr
  rw [h1, h2, show e.1 * (g * q.2) - g * q.1 * e.2 = g * (e.1 * q.2 - q.1 * e.2) by rw [Int.mul_sub, Int.mul_left_comm, Int.mul_assoc], Int.natAbs_mul, Int.natCast_mul]
  rw [show (g.natAbs : Int) = g by omega]
theorem nr_g {B : zB} {q r : Int × Int} {g : Int} (hg : 1 ≤ g) (h1 : r.1 = g * q.1) (h2 : r.2 = g * q.2) : ∀ m k f, B.nr r m k f = B.nr q m k f
  | 0, _, _ => rfl
  | m + 1, k, f => by
    unfold zB.nr
    have e : (spr (B.e k).1 r * (B.e f).1.2 < spr (B.e f).1 r * (B.e k).1.2) ↔ (spr (B.e k).1 q * (B.e f).1.2 < spr (B.e f).1 q * (B.e k).1.2) := by
      rw [spr_g hg h1 h2, spr_g hg h1 h2, Int.mul_assoc, Int.mul_assoc]
      exact ⟨fun z => Int.lt_of_mul_lt_mul_left z (by omega), fun z => Int.mul_lt_mul_of_pos_left z (by omega)⟩
    by_cases c : spr (B.e k).1 q * (B.e f).1.2 < spr (B.e f).1 q * (B.e k).1.2
    · rw [if_pos c, if_pos (e.mpr c)]
      exact nr_g hg h1 h2 m (k + 1) k
    · rw [if_neg c, if_neg (fun z => c (e.mp z))]
      exact nr_g hg h1 h2 m (k + 1) f
theorem told_g {a b : Int} (ha : 1 ≤ a ∧ a ≤ 9999) (hb : 1 ≤ b ∧ b ≤ 9999) : ∃ g : Int, 1 ≤ g ∧ a = g * (fz_of a b).1 ∧ b = g * (fz_of a b).2 := by
  have t := fz_told ha hb
  obtain ⟨_, g, g1, g2, g3⟩ := fz_of_ok t.1.nw
  refine ⟨g, ?_, g2, g3⟩
  have h1 := t.2.1
  have : 0 < g := by
    rcases Int.lt_trichotomy g 0 with z | z | z
    · have : g * (fz_of a b).1 < 0 := Int.mul_neg_of_neg_of_pos z (by omega)
      omega
    · exact absurd z g1
    · exact z
  omega
theorem nr_b {B : zB} {q : Int × Int} : ∀ m k f n, f < n → k + m ≤ n → B.nr q m k f < n
  | 0, _, _, _, h1, _ => h1
  | m + 1, k, f, n, h1, h2 => by
    unfold zB.nr
    exact nr_b m (k + 1) _ n (by split <;> omega) (by omega)
theorem l2i {v : Int64} (h : -2147483648 ≤ v.toInt ∧ v.toInt < 2147483648) : v.toInt32.toInt = v.toInt := by
  rw [Int64.toInt_toInt32, nz_bm32 h.1 h.2]
section
variable (X : jv_X) (d : Nat) (h : jv_H) (K : jv_H → Prop) (KI : Int32 → jv_H → Prop) (KJ : Int64 → jv_H → Prop) (Z : zZ)
theorem m_far (x1 : Int32) (t j : Nat) (ht : t < 3) (hj : j < (Z.k.B t).n) (hx : x1.toInt = (10 * t + j : Nat)) (x2 x4 : Int64) (q : Int × Int) (e2 : x2.toInt = q.1) (e4 : x4.toInt = q.2) (hq : qb q) (ms : MS h Z) (bd : bdZ Z) (ok : okZ Z) (hK : ∀ z : Int64, z.toInt = spr ((Z.k.B t).e j).1 q → KJ z h) : jL X (d + 1) y_Model_far [.ref 171, .int x1, .long x2, .long x4] 227 h KJ := by
  have hn := bd.2.1.2.2.2.1 t ht
  have tb := (ok.1.2.2.1 t ht j hj).1
  have v := ms.k.bv ht hj
  have gi : ∀ q : Nat, SHT q = (1, 30) → q < 227 → jv_ix SHT 227 q 1 x1 := fun q h1 h2 => jx h1 h2 (by omega) (by omega)
  refine r_Model_far X d 227 _ 171 x1 x2 x4 h ⟨is171, _, ms.r 20, gi 184 rfl (by decide), is171, _, ms.r 19, gi 183 rfl (by decide), ?_⟩
  rw [nz_nat hx]
  have b1 := mul_b hq.1 tb.2
  have b2 := mul_b tb.1 hq.2
  have p1 : (x2 * jv_gL h 184 (10 * t + j)).toInt = q.1 * ((Z.k.B t).e j).1.2 := by rw [nz_mul (by rw [e2, uq.b v]; omega) (by rw [e2, uq.b v]; omega), e2, uq.b v]
  have p2 : (jv_gL h 183 (10 * t + j) * x4).toInt = ((Z.k.B t).e j).1.1 * q.2 := by rw [nz_mul (by rw [e4, uq.a v]; omega) (by rw [e4, uq.a v]; omega), e4, uq.a v]
  have p3 : (x2 * jv_gL h 184 (10 * t + j) - jv_gL h 183 (10 * t + j) * x4).toInt = q.1 * ((Z.k.B t).e j).1.2 - ((Z.k.B t).e j).1.1 * q.2 := by rw [nz_sub (by rw [p1, p2]; omega) (by rw [p1, p2]; omega), p1, p2]
  have e0 : (0 : Int64).toInt = 0 := rfl
  have es : spr ((Z.k.B t).e j).1 q = ((q.1 * ((Z.k.B t).e j).1.2 - ((Z.k.B t).e j).1.1 * q.2).natAbs : Int) := by
    unfold spr
    omega
  refine ⟨fun c => hK _ ?_, fun c => hK _ ?_⟩
  · have c := Int64.le_iff_toInt_le.mp ((lg_cmp_ge _ _).mp c)
    rw [e0, p3] at c
    rw [p3, es]
    omega
  · have c : ¬ (0 : Int64).toInt ≤ (x2 * jv_gL h 184 (10 * t + j) - jv_gL h 183 (10 * t + j) * x4).toInt := fun y => c ((lg_cmp_ge _ _).mpr (Int64.le_iff_toInt_le.mpr y))
    rw [e0, p3] at c
    rw [nz_neg (by rw [p3]; omega), p3, es]
    omega
theorem spr_b2 {e q : Int × Int} (h : th e) (hq : qb q) : 0 ≤ spr e q ∧ spr e q ≤ 9999000000000 := by
  have b1 := mul_b hq.1 h.2
  have b2 := mul_b h.1 hq.2
  unfold spr
  omega
theorem near_l (Q : jv_Q) (x1 : Int32) (t : Nat) (hx : x1.toInt = t) (ht : t < 3) (x2 x4 : Int64) (q : Int × Int) (e2 : x2.toInt = q.1) (e4 : x4.toInt = q.2) (hq : qb q) (ms : MS h Z) (bd : bdZ Z) (ok : okZ Z) (R0 : Nat) (hQ : ∀ z : Int32, z.toInt = (10 * t + R0 : Nat) → Q (some (.int z)) h) : ∀ (r k f : Nat) (x6 x7 : Int32), x6.toInt = (10 * t + f : Nat) → x7.toInt = (10 * t + k : Nat) → k + r = (Z.k.B t).n → f < (Z.k.B t).n → (Z.k.B t).nr q r k f = R0 → a_Model_nearestTo_12 X (d + 1) 227 Q 171 x1 x2 x4 x6 x7 h 0
  | 0, k, f, x6, x7, h6, h7, hk, hf, hR => by
    have hn := bd.2.1.2.2.2.1 t ht
    have hp := nz_10p hx ht (ms.k.bz ht) (by omega)
    refine r_Model_nearestTo_12 X (d + 1) 227 Q 171 x1 x2 x4 x6 x7 h ⟨is171, _, ms.r 23, jx (len := 3) rfl (by decide) (by omega) (by omega), ?_⟩
    rw [nz_nat hx]
    exact ⟨fun _ => hQ x6 (by rw [h6]; have hR : f = R0 := hR; rw [hR]), fun z => absurd (nz_le.mpr (by rw [hp, h7]; omega)) z⟩
  | r + 1, k, f, x6, x7, h6, h7, hk, hf, hR => by
    have hn := bd.2.1.2.2.2.1 t ht
    have hp := nz_10p hx ht (ms.k.bz ht) (by omega)
    have hkn : k < (Z.k.B t).n := by omega
    refine r_Model_nearestTo_12 X (d + 1) 227 Q 171 x1 x2 x4 x6 x7 h ⟨is171, _, ms.r 23, jx (len := 3) rfl (by decide) (by omega) (by omega), ?_⟩
    rw [nz_nat hx]
    refine ⟨fun z => ?_, fun _ => ⟨is171, m_far X d h _ Z x7 t k ht hkn h7 x2 x4 q e2 e4 hq ms bd ok (fun z3 hz3 => ⟨is171, _, ms.r 20, jx (len := 30) rfl (by decide) (by omega) (by omega), is171, m_far X d h _ Z x6 t f ht hf h6 x2 x4 q e2 e4 hq ms bd ok (fun z6 hz6 => ⟨is171, _, ms.r 20, jx (len := 30) rfl (by decide) (by omega) (by omega), ?_⟩)⟩)⟩⟩
    · have := nz_le.mp z
      rw [hp, h7] at this
      omega
    · rw [nz_nat h6, nz_nat h7]
      have tk := (ok.1.2.2.1 t ht k hkn).1
      have tf := (ok.1.2.2.1 t ht f hf).1
      have sk := spr_b2 tk hq
      have sf := spr_b2 tf hq
      have vk := uq.b (ms.k.bv ht hkn)
      have vf := uq.b (ms.k.bv ht hf)
      have b1 := mul_b sk tf.2
      have b2 := mul_b sf tk.2
      have p1 : (z3 * jv_gL h 184 (10 * t + f)).toInt = spr ((Z.k.B t).e k).1 q * ((Z.k.B t).e f).1.2 := by rw [nz_mul (by rw [hz3, vf]; omega) (by rw [hz3, vf]; omega), hz3, vf]
      have p2 : (z6 * jv_gL h 184 (10 * t + k)).toInt = spr ((Z.k.B t).e f).1 q * ((Z.k.B t).e k).1.2 := by rw [nz_mul (by rw [hz6, vk]; omega) (by rw [hz6, vk]; omega), hz6, vk]
      unfold zB.nr at hR
      refine ⟨fun c => ?_, fun c => ?_⟩
      · have c := Int64.le_iff_toInt_le.mp ((lg_cmp_ge _ _).mp c)
        rw [p1, p2] at c
        rw [if_neg (by omega)] at hR
        exact near_l Q x1 t hx ht x2 x4 q e2 e4 hq ms bd ok R0 hQ r (k + 1) f x6 _ h6 (by rw [nz_inc h7 (by omega)]; omega) (by omega) hf hR
      · have c : ¬ (z6 * jv_gL h 184 (10 * t + k)).toInt ≤ (z3 * jv_gL h 184 (10 * t + f)).toInt := fun y => c ((lg_cmp_ge _ _).mpr (Int64.le_iff_toInt_le.mpr y))
        rw [p1, p2] at c
        rw [if_pos (by omega)] at hR
        exact near_l Q x1 t hx ht x2 x4 q e2 e4 hq ms bd ok R0 hQ r (k + 1) k x7 _ h7 (by rw [nz_inc h7 (by omega)]; omega) (by omega) hkn hR
theorem m_nearestTo (x1 : Int32) (t : Nat) (hx : x1.toInt = t) (ht : t < 3) (x2 x4 : Int64) (q : Int × Int) (e2 : x2.toInt = q.1) (e4 : x4.toInt = q.2) (hq : qb q) (ms : MS h Z) (bd : bdZ Z) (ok : okZ Z) (hn : 0 < (Z.k.B t).n) (hQ : ∀ z : Int32, z.toInt = (10 * t + (Z.k.B t).nr q ((Z.k.B t).n - 1) 1 0 : Nat) → KI z h) : jI X (d + 2) y_Model_nearestTo [.ref 171, .int x1, .long x2, .long x4] 227 h KI := by
  have e := nz_10 hx ht
  exact r_Model_nearestTo X (d + 1) 227 _ 171 x1 x2 x4 h (near_l X d h Z _ x1 t hx ht x2 x4 q e2 e4 hq ms bd ok _ hQ ((Z.k.B t).n - 1) 1 0 _ _ e (by rw [nz_inc e (by omega)]) (by omega) hn rfl)
theorem wi2 {s : Int32} (h : wi s 0 2) : ∃ t : Nat, s.toInt = t ∧ t < 3 ∧ s.toNatClampNeg = t := by
  have hs : s.toInt = (s.toInt.toNat : Int) := by have := h.1; omega
  exact ⟨s.toInt.toNat, hs, by have := h.2; omega, nz_nat hs⟩
theorem w_nearest (s a b p : Int32) (ms : MS h Z) (bd : bdZ Z) (ok : okZ Z) (hK : dJ h (q_near s a b p Z) KJ) : jL X 8 y_Model_nearest [.ref 171, .int s, .int a, .int b, .int p] 227 h KJ := by
  unfold q_near at hK
  refine r_Model_nearest X 7 227 _ 171 s a b p h (c_in X 6 227 _ h _ _ _ ⟨fun y => ?_, fun y => c_mTold X 5 227 _ h a b ⟨fun y2 => ?_, fun y2 => c_in X 6 227 _ h _ _ _ ⟨fun y3 => ?_, fun y3 => ?_⟩⟩⟩)
  · rw [nz_bt, Int32.toInt_toInt64] at y
    rw [if_neg (fun z => y z.1)] at hK
    exact hK _ rfl h oM.rf ms
  · rw [nz_bt] at y2
    rw [if_neg (fun z => y2 z.2)] at hK
    exact hK _ rfl h oM.rf ms
  · rw [nz_bt, Int32.toInt_toInt64] at y3
    rw [tell_no y3] at hK
    have hK : dJ h (NOx, Z) KJ := by
      revert hK
      split
      · split
        · exact id
        · exact id
      · exact id
    exact hK _ rfl h oM.rf ms
  · rw [nz_bt, Classical.not_not, Int32.toInt_toInt64] at y y3
    rw [nz_bt, Classical.not_not] at y2
    have y : wi s 0 2 := y
    rw [if_pos ⟨y, y2⟩] at hK
    obtain ⟨t, hs, ht, hc⟩ := wi2 y
    have hB : Z.B s = Z.k.B t := congrArg Z.k.B hc
    rw [hB] at hK
    have bz := ms.k.bz ht
    refine ⟨is171, _, ms.r 23, jx (len := 3) rfl (by decide) (by omega) (by omega), ?_⟩
    rw [hc]
    refine ⟨fun e => ⟨is171, ?_⟩, fun e => ?_⟩
    · have hn : 0 < (Z.k.B t).n := by
        have : (Z.k.B t).n ≠ 0 := fun z => e (Int32.toInt_inj.mp (by rw [bz, z]; rfl))
        omega
      rw [if_neg (by omega)] at hK
      obtain ⟨g, g1, g2, g3⟩ := told_g y2.1 y2.2
      have hq : qb (a.toInt, b.toInt) := ⟨⟨by have := y2.1.1; omega, by have := y2.1.2; show a.toInt ≤ _; omega⟩, by have := y2.2.1; show 0 ≤ b.toInt; omega, by have := y2.2.2; show b.toInt ≤ _; omega⟩
      refine m_nearestTo X 5 h _ Z s t hs ht _ _ (a.toInt, b.toInt) (Int32.toInt_toInt64 _) (Int32.toInt_toInt64 _) hq ms bd ok hn (fun z hz => ?_)
      rw [nr_g g1 g2 g3] at hz
      have hj := nr_b (B := Z.k.B t) (q := fz_of a.toInt b.toInt) ((Z.k.B t).n - 1) 1 0 (Z.k.B t).n hn (by omega)
      generalize (Z.k.B t).nr (fz_of a.toInt b.toInt) ((Z.k.B t).n - 1) 1 0 = j at hz hj hK
      have hb := bd.2.1.2.2.2.1 t ht
      rw [tell_gd (ok.1.2.2.1 t ht j hj).2.1.1 y3] at hK
      have v := ms.k.bv ht hj
      refine ⟨fun e => ⟨is171, _, ms.r 20, jx (len := 30) rfl (by decide) (by omega) (by omega), ?_⟩, fun e => ⟨is171, _, ms.r 19, jx (len := 30) rfl (by decide) (by omega) (by omega), ?_⟩⟩
      · rw [if_neg e] at hK
        rw [nz_nat hz]
        exact hK _ (uq.b v) h oM.rf ms
      · rw [if_pos e] at hK
        rw [nz_nat hz]
        exact hK _ (uq.a v) h oM.rf ms
    · have hn : (Z.k.B t).n = 0 := by
        have : (jv_gI h 187 t).toInt = 0 := by rw [e]; rfl
        omega
      rw [if_pos hn] at hK
      exact hK _ rfl h oM.rf ms
theorem w_bin (s k w : Int32) (ms : MS h Z) (bd : bdZ Z) (ok : okZ Z) (hK : dI h (q_bin s k w Z) KI) : jI X 8 y_Model_bin [.ref 171, .int s, .int k, .int w] 227 h KI := by
  unfold q_bin at hK
  refine r_Model_bin X 7 227 _ 171 s k w h (c_in X 6 227 _ h _ _ _ ⟨fun y => ?_, fun y => c_in X 6 227 _ h _ _ _ ⟨fun y2 => ?_, fun y2 => ⟨fun y3 => ?_, fun y3 => ?_⟩⟩⟩)
  · rw [nz_bt, Int32.toInt_toInt64] at y
    rw [if_neg (fun z => y z.1)] at hK
    exact hK _ rfl h oM.rf ms
  · rw [nz_bt, Int32.toInt_toInt64] at y2
    rw [if_neg (fun z => y2 z.2.1)] at hK
    exact hK _ rfl h oM.rf ms
  · rw [nz_bt, Classical.not_not, Int32.toInt_toInt64] at y y2
    have y : wi s 0 2 := y
    have y2 : wi w 0 3 := y2
    have y3 : (0 : Int) ≤ k.toInt := nz_le.mp y3
    rw [if_pos ⟨y, y2, y3⟩] at hK
    obtain ⟨t, hs, ht, hc⟩ := wi2 y
    have hB : Z.B s = Z.k.B t := congrArg Z.k.B hc
    rw [hB] at hK
    have bz := ms.k.bz ht
    have hb := bd.2.1.2.2.2.1 t ht
    refine ⟨is171, _, ms.r 23, jx (len := 3) rfl (by decide) (by omega) (by omega), ?_⟩
    rw [hc]
    refine ⟨fun c => ?_, fun c => ?_⟩
    · have c := nz_lt.mp c
      rw [bz] at c
      rw [if_pos c] at hK
      have hk : k.toInt = (k.toInt.toNat : Int) := by omega
      have hj : k.toInt.toNat < (Z.k.B t).n := by omega
      have hi := nz_10p hs ht hk (by omega)
      rw [nz_nat hk] at hK
      have tt := (ok.1.2.2.1 t ht _ hj).1
      have v := ms.k.bv ht hj
      have w1 : ∀ n : Int, w.toInt = n → ∀ c : Int32, c.toInt = n → w = c := fun n h1 c h2 => Int32.toInt_inj.mp (by rw [h1, h2])
      refine ⟨fun e => ⟨fun e1 => ⟨fun e2 => ⟨is171, _, ms.r 20, jx (len := 30) rfl (by decide) (by omega) (by omega), ?_⟩, fun e2 => ⟨is171, _, ms.r 19, jx (len := 30) rfl (by decide) (by omega) (by omega), ?_⟩⟩, fun e1 => ⟨is171, _, ms.r 22, jx (len := 30) rfl (by decide) (by omega) (by omega), ?_⟩⟩, fun e => ⟨is171, _, ms.r 21, jx (len := 30) rfl (by decide) (by omega) (by omega), ?_⟩⟩
      · rw [if_neg (fun z => e (w1 0 z 0 rfl)), if_neg (fun z => e1 (w1 1 z 1 rfl)), if_neg (fun z => e2 (w1 2 z 2 rfl))] at hK
        rw [nz_nat hi]
        exact hK _ (by rw [l2i (by rw [uq.b v]; have := tt.2; omega), uq.b v]) h oM.rf ms
      · rw [e2] at hK
        rw [nz_nat hi]
        exact hK _ (by rw [l2i (by rw [uq.a v]; have := tt.1; omega), uq.a v]; rfl) h oM.rf ms
      · rw [e1] at hK
        rw [nz_nat hi]
        exact hK _ (congrArg Int32.toInt (ms.k.bp ht hj)) h oM.rf ms
      · rw [e] at hK
        rw [nz_nat hi]
        exact hK _ (congrArg Int32.toInt (ms.k.bc ht hj)) h oM.rf ms
    · have c : ¬ k.toInt < (jv_gI h 187 t).toInt := fun q => c (nz_lt.mpr q)
      rw [bz] at c
      rw [if_neg c] at hK
      exact hK _ rfl h oM.rf ms
  · have y3 : ¬ (0 : Int) ≤ k.toInt := fun q => y3 (nz_le.mpr q)
    rw [if_neg (fun z => y3 z.2.2)] at hK
    exact hK _ rfl h oM.rf ms
theorem fitc_l (Q : jv_Q) (x1 : Int32) (l : Nat) (hx : x1.toInt = l) (hl : l < Z.k.nl) (ms : MS h Z) (bd : bdZ Z) (ok : okZ Z) (hK1 : (Z.k.L l).fitb Z.k.B → a_Model_fit_67 X d 227 Q 171 x1 0 h 0) (hK0 : ¬ (Z.k.L l).fitb Z.k.B → Q (some (.int (-2))) h) : ∀ (m k : Nat) (x2 : Int32), x2.toInt = (12 * l + k : Nat) → k + m = (Z.k.L l).sz → (∀ j, j < k → 0 < (bos Z.k.B ((Z.k.L l).so j)).n) → a_Model_fit_27 X d 227 Q 171 x1 x2 h 0
  | 0, k, x2, h2, hm, hc => by
    have lz := ms.k.lz hl
    have hml := bd.2.1.2.1
    have hsz := bd.2.1.2.2.1 l hl
    have hp := nz_12p hx (by omega) lz (by omega)
    refine r_Model_fit_27 X d 227 Q 171 x1 x2 h ⟨is171, _, ms.r 12, jx (len := 6) rfl (by decide) (by omega) (by omega), ?_⟩
    rw [nz_nat hx]
    have ek : k = (Z.k.L l).sz := by omega
    subst ek
    exact ⟨fun _ => hK1 hc, fun z => absurd (nz_le.mpr (by rw [hp, h2]; omega)) z⟩
  | m + 1, k, x2, h2, hm, hc => by
    have lz := ms.k.lz hl
    have hml := bd.2.1.2.1
    have hsz := bd.2.1.2.2.1 l hl
    have hp := nz_12p hx (by omega) lz (by omega)
    have hkl : k < (Z.k.L l).sz := by omega
    obtain ⟨t, ht, hst⟩ := (ok.1.2.1 l hl).2.1 k hkl
    have bz := ms.k.bz ht
    have eb : bos Z.k.B ((Z.k.L l).so k) = Z.k.B t := congrArg Z.k.B (nz_nat hst)
    refine r_Model_fit_27 X d 227 Q 171 x1 x2 h ⟨is171, _, ms.r 12, jx (len := 6) rfl (by decide) (by omega) (by omega), ?_⟩
    rw [nz_nat hx]
    refine ⟨fun z => ?_, fun _ => ⟨is171, _, ms.r 23, is171, _, ms.r 10, jx (len := 72) rfl (by decide) (by omega) (by omega), ?_⟩⟩
    · have := nz_le.mp z
      rw [hp, h2] at this
      omega
    · rw [nz_nat h2, ms.k.ls hl hkl]
      refine ⟨jx (len := 3) rfl (by decide) (by omega) (by omega), ?_⟩
      rw [nz_nat hst]
      refine ⟨fun e => fitc_l Q x1 l hx hl ms bd ok hK1 hK0 m (k + 1) _ (by rw [nz_inc h2 (by omega)]; omega) (by omega) (fun j hj => ?_), fun e => hK0 (fun z => ?_)⟩
      · by_cases ej : j = k
        · rw [ej, eb]
          have : (Z.k.B t).n ≠ 0 := fun z => e (Int32.toInt_inj.mp (by rw [bz, z]; rfl))
          omega
        · exact hc j (by omega)
      · have z := z k hkl
        rw [eb] at z
        have : (jv_gI h 187 t).toInt = 0 := by rw [e]; rfl
        omega
theorem fit_l (Q : jv_Q) (x1 : Int32) (l : Nat) (hx : x1.toInt = l) (hl : l < Z.k.nl) (ms : MS h Z) (bd : bdZ Z) (ok : okZ Z) (hn : Z.k.nl < 6) (hf : (Z.k.L l).fitb Z.k.B) (hK : ∀ z : Int32, z.toInt = Z.k.nl → ∀ h', oM h h' → MS h' (Z.sk (Z.k.addL ((Z.k.L l).fitd Z.k.B))) → Q (some (.int z)) h') : ∀ (m k : Nat) (x2 : Int32) (h1 : jv_H), x2.toInt = k → k + m = (Z.k.L l).sz → fK Z.k h h1 → sl h1 Z.k.nl (((Z.k.L l).fitd Z.k.B).cut k) → a_Model_fit_67 X 7 227 Q 171 x1 x2 h1 0
  | 0, k, x2, h1, hk, hm, fk, hs => by
    have ms1 := ms.mv bd fk
    have lz := ms1.k.lz hl
    have gi : ∀ q : Nat, ∀ t : Nat, SHT q = (t, 6) → q < 227 → jv_ix SHT 227 q t x1 := fun q t h1 h2 => jx h1 h2 (by omega) (by omega)
    refine r_Model_fit_67 X 7 227 Q 171 x1 x2 h1 ⟨is171, _, ms1.r 12, gi 177 0 rfl (by decide), ?_⟩
    rw [nz_nat hx]
    refine ⟨fun _ => ⟨is171, _, ms1.r 12, gi 177 0 rfl (by decide), is171, ?_⟩, fun z => absurd (nz_le.mpr (by rw [lz, hk]; omega)) z⟩
    have ek : k = (Z.k.L l).sz := by omega
    subst ek
    exact m_comes X 6 h1 (fun z h' => Q (some (.int z)) h') Z x1 _ l hx hl ms1 bd hn ((Z.k.L l).fitd Z.k.B) hs lz rfl (fun _ => rfl) (fun z hz h' o' m' => hK z hz h' ((fK.M fk).tr o') m')
  | m + 1, k, x2, h1, hk, hm, fk, hs => by
    have ms1 := ms.mv bd fk
    have lz := ms1.k.lz hl
    have hsz := bd.2.1.2.2.1 l hl
    have zl := ms1.k.zl
    have hkl : k < (Z.k.L l).sz := by omega
    have gi : ∀ q : Nat, ∀ t : Nat, SHT q = (t, 6) → q < 227 → jv_ix SHT 227 q t x1 := fun q t h1 h2 => jx h1 h2 (by omega) (by omega)
    have hp := nz_12p hx (by omega) hk (by omega)
    have gj : ∀ q : Nat, ∀ t : Nat, SHT q = (t, 72) → q < 227 → jv_ix SHT 227 q t ((12 : Int32) * x1 + x2) := fun q t h1 h2 => jx h1 h2 (by omega) (by omega)
    obtain ⟨t, ht, hst⟩ := (ok.1.2.1 l hl).2.1 k hkl
    have eb : bos Z.k.B ((Z.k.L l).so k) = Z.k.B t := congrArg Z.k.B (nz_nat hst)
    have hn0 : 0 < (Z.k.B t).n := by rw [← eb]; exact hf k hkl
    have hb := bd.2.1.2.2.2.1 t ht
    have v := ms1.k.lv hl hkl
    refine r_Model_fit_67 X 7 227 Q 171 x1 x2 h1 ⟨is171, _, ms1.r 12, gi 177 0 rfl (by decide), ?_⟩
    rw [nz_nat hx]
    refine ⟨fun z => ?_, fun _ => ⟨is171, _, ms1.r 10, gj 175 0 rfl (by decide), is171, _, ms1.r 14, gj 179 1 rfl (by decide), is171, _, ms1.r 15, gj 180 1 rfl (by decide), is171, ?_⟩⟩
    · have := nz_le.mp z
      rw [lz, hk] at this
      omega
    · rw [nz_nat hp, ms1.k.ls hl hkl]
      refine m_nearestTo X 5 h1 _ Z _ t hst ht _ _ ((Z.k.L l).va k) (uq.a v) (uq.b v) ((ok.1.2.1 l hl).2.2.1 k hkl).1.qb ms1 bd ok hn0 (fun z hz => ?_)
      have hj := nr_b (B := Z.k.B t) (q := (Z.k.L l).va k) ((Z.k.B t).n - 1) 1 0 (Z.k.B t).n hn0 (by omega)
      have ev : ((Z.k.L l).fitd Z.k.B).va k = ((Z.k.B t).e ((Z.k.B t).nr ((Z.k.L l).va k) ((Z.k.B t).n - 1) 1 0)).1 := by
        show fit_v Z.k.B ((Z.k.L l).so k) ((Z.k.L l).va k) = _
        unfold fit_v
        rw [eb]
      generalize (Z.k.B t).nr ((Z.k.L l).va k) ((Z.k.B t).n - 1) 1 0 = j at hz hj ev
      refine ⟨is171, is171, _, ms1.r 10, gj 175 0 rfl (by decide), is171, _, ms1.r 11, gj 176 0 rfl (by decide), is171, _, ms1.r 19, jx (len := 30) rfl (by decide) (by omega) (by omega), is171, _, ms1.r 20, jx (len := 30) rfl (by decide) (by omega) (by omega), is171, ?_⟩
      rw [nz_nat hz]
      refine m_lays X 6 h1 _ _ (12 * Z.k.nl + k) (nz_12p zl hn hk (by omega)) (by omega) _ _ _ _ ms1.r (fun h3 o3 b1 b2 b3 => ?_)
      refine fit_l Q x1 l hx hl ms bd ok hn hf hK m (k + 1) _ h3 (nz_inc hk (by omega)) (by omega) (fk.tr (ly_fr o3)) (sl_cut hs o3 ?_ ?_ ?_)
      · rw [b1]; exact ms1.k.ls hl hkl
      · rw [b2]; exact ms1.k.lu hl hkl
      · rw [b3, ev]; exact ms1.k.bv ht hj
theorem w_fit (x : Int32) (ms : MS h Z) (bd : bdZ Z) (ok : okZ Z) (hK : dI h (q_fit x Z) KI) : jI X 8 y_Model_fit [.ref 171, .int x] 227 h KI := by
  unfold q_fit at hK
  have hz := ms.k.zl
  have hml := bd.2.1.2.1
  refine r_Model_fit X 7 227 _ 171 x h ⟨is171, m_isLadder X 5 h _ Z x ms bd (fun hr => ⟨fun _ => ⟨is171, fun e => ?_, fun e => ?_⟩, fun z => absurd z (by decide)⟩) (fun hr => ⟨fun z => absurd rfl z, fun _ => ?_⟩)⟩
  · have hn : Z.k.nl < 6 := by
      have : Z.k.nl ≠ 6 := fun z => e (Int32.toInt_inj.mp (by rw [hz, z]; rfl))
      omega
    rw [if_pos hr, if_neg (by omega)] at hK
    obtain ⟨l, hx, hl, hL, hc⟩ := isL.n hr
    rw [hL] at hK
    refine fitc_l X 7 h Z (jv_rI KI) x l hx hl ms bd ok (fun hf => ?_) (fun hf => ?_) (Z.k.L l).sz 0 _ (nz_12 hx (by omega)) (by omega) (fun j hj => absurd hj (Nat.not_lt_zero _))
    · rw [cif_t hf] at hK
      exact fit_l X h Z (jv_rI KI) x l hx hl ms bd ok hn hf hK (Z.k.L l).sz 0 0 h rfl (by omega) oT.rf (fun j hj => absurd hj (Nat.not_lt_zero _))
    · rw [cif_f hf] at hK
      exact hK _ rfl h oM.rf ms
  · have hn : Z.k.nl = 6 := by
      have : (jv_gI h 171 18).toInt = 6 := by rw [e]; rfl
      omega
    rw [if_pos hr, if_pos hn] at hK
    exact hK _ rfl h oM.rf ms
  · rw [if_neg hr] at hK
    exact hK _ rfl h oM.rf ms
end
