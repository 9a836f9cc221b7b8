/-! ===== the reference: stock ===== -/
def enb (h : jv_H) (i : Nat) : (Int × Int) × Int32 × Int32 := (uq h 183 184 i, h.1 185 i, h.1 186 i)
def putb (h : jv_H) (i : Nat) (a b : Int64) (c p : Int32) : jv_H := jv_uI (jv_uI (jv_uL (jv_uL h 183 i a) 184 i b) 185 i c) 186 i p
theorem enb_put (h : jv_H) (i : Nat) (a b : Int64) (c p : Int32) (j : Nat) : enb (putb h i a b c p) j = if j = i then ((a.toInt, b.toInt), c, p) else enb h j := by
  unfold enb putb
  have e1 : uq (jv_uI (jv_uI (jv_uL (jv_uL h 183 i a) 184 i b) 185 i c) 186 i p) 183 184 j = uq (jv_uL (jv_uL h 183 i a) 184 i b) 183 184 j := rfl
  rw [e1, uq_st _ _ _ _ _ _ (by decide)]
  show (_, jv_gI (jv_uI (jv_uI (jv_uL (jv_uL h 183 i a) 184 i b) 185 i c) 186 i p) 185 j, jv_gI (jv_uI (jv_uI (jv_uL (jv_uL h 183 i a) 184 i b) 185 i c) 186 i p) 186 j) = _
  rw [gI_uI, gI_uI, gI_uI, gI_uL, gI_uL]
  by_cases e : j = i
  · rw [if_pos e, if_neg (by omega), if_pos ⟨rfl, e⟩, if_pos ⟨rfl, e⟩, if_pos e]
  · rw [if_neg e, if_neg (by omega), if_neg (fun z => e z.2), if_neg (fun z => e z.2), if_neg e, gI_uI, if_neg (by omega)]
    rfl
def sbI (t : Nat) : Nat → Nat → Prop := fun q j => ((q = 185 ∨ q = 186) ∧ 10 * t ≤ j ∧ j < 10 * t + 10) ∨ q = 187 ∧ j = t
def sbL (t : Nat) : Nat → Nat → Prop := fun q j => (q = 183 ∨ q = 184) ∧ 10 * t ≤ j ∧ j < 10 * t + 10
theorem put_sb (h : jv_H) (t k : Nat) (hk : k < 10) (a b : Int64) (c p : Int32) : oT (sbI t) (sbL t) h (putb h (10 * t + k) a b c p) := (((oT.rf.uL ⟨Or.inl rfl, by omega, by omega⟩).uL ⟨Or.inr rfl, by omega, by omega⟩).uI (Or.inl ⟨Or.inl rfl, by omega, by omega⟩)).uI (Or.inl ⟨Or.inr rfl, by omega, by omega⟩)
theorem MKn.setB {h h' : jv_H} {K : zK} {t : Nat} {B : zB} (k : MKg nA nS h K) (b : bdK K) (a : oT (sbI t) (sbL t) h h') (c1 : (h'.1 187 t).toInt = B.n) (c2 : ∀ j, j < B.n → enb h' (10 * t + j) = B.e j) : MKg nA nS h' (K.setB t B) := by
  obtain ⟨⟨k1, k2⟩, ⟨k3, k4⟩, k5, ⟨k6, k7, k8⟩, k9⟩ := k
  have row : ∀ c, c ≠ 12 → c ≠ 13 → c ≠ 14 → h'.1 (nA c) = h.1 (nA c) := fun c h1 h2 h3 => funext (fun j => a.2.1 _ _ (fun z => by unfold sbI nA at z; omega))
  have rowL : ∀ c, c ≠ 10 → c ≠ 11 → h'.2.1 (nA c) = h.2.1 (nA c) := fun c h1 h2 => funext (fun j => a.2.2 _ _ (fun z => by unfold sbL nA at z; omega))
  have sc : ∀ j, h'.1 171 j = h.1 171 j := fun j => a.2.1 _ _ (fun z => by unfold sbI at z; omega)
  refine ⟨⟨by rw [sc]; exact k1, fun r hr i hi => ?_⟩, ⟨by rw [sc]; exact k3, fun l hl => ?_⟩, fun s hs => ?_, ⟨by rw [sc]; exact k6, by rw [sc]; exact k7, fun j hj => ?_⟩, by rw [sc]; exact k9⟩
  · unfold uq
    rw [rowL 0 (by decide) (by decide), rowL 1 (by decide) (by decide)]
    exact k2 r hr i hi
  · obtain ⟨m1, m2, m3, m4⟩ := k4 l hl
    refine ⟨by rw [row 4 (by decide) (by decide) (by decide)]; exact m1, by rw [row 5 (by decide) (by decide) (by decide)]; exact m2, fun z => ?_, fun j hj => ?_⟩
    · unfold uq
      rw [rowL 8 (by decide) (by decide), rowL 9 (by decide) (by decide)]
      exact m3 z
    · unfold uq
      rw [row 2 (by decide) (by decide) (by decide), row 3 (by decide) (by decide) (by decide), rowL 6 (by decide) (by decide), rowL 7 (by decide) (by decide)]
      exact m4 j hj
  · show MBg nA h' s (if s = t then B else K.B s)
    by_cases e : s = t
    · rw [if_pos e, e]
      exact ⟨c1, c2⟩
    · rw [if_neg e]
      have hb := b.2.2.2.1 s hs
      refine ⟨?_, fun j hj => ?_⟩
      · rw [a.2.1 _ _ (fun z => by unfold sbI nA at z; omega)]
        exact (k5 s hs).1
      · rw [uq.mv a (fun z => by unfold sbL nA at z; omega) (fun z => by unfold sbL nA at z; omega), a.2.1 _ _ (fun z => by unfold sbI nA at z; omega), a.2.1 _ _ (fun z => by unfold sbI nA at z; omega)]
        exact (k5 s hs).2 j hj
  · unfold uq
    rw [rowL 15 (by decide) (by decide), rowL 16 (by decide) (by decide), row 17 (by decide) (by decide) (by decide), row 18 (by decide) (by decide) (by decide), row 19 (by decide) (by decide) (by decide)]
    exact k8 j hj
theorem ins_at {α : Type} (e : Nat → α) (P : Nat) (x : α) : ins e P x P = x := by
  unfold ins
  rw [if_neg (Nat.lt_irrefl _), if_pos rfl]
section
variable (X : jv_X) (d : Nat) (h : jv_H) (K : jv_H → Prop) (KI : Int32 → jv_H → Prop) (KJ : Int64 → jv_H → Prop) (Z : zZ)
theorem m_order (a b c e : Int64) (p q : Int × Int) (h1 : a.toInt = p.1) (h2 : b.toInt = p.2) (h3 : c.toInt = q.1) (h4 : e.toInt = q.2) (hp : gz p) (hq : gz q) (hK : KI (fz_cmp p q) h) : jI X (d + 1) y_Model_order [.long a, .long b, .long c, .long e] 227 h KI := by
  have e1 := nz_m2 h1 h4 hp.1 ⟨by have := hq.2.1; omega, hq.2.2⟩
  have e2 := nz_m2 h3 h2 hq.1 ⟨by have := hp.2.1; omega, hp.2.2⟩
  unfold fz_cmp at hK
  refine r_Model_order X d 227 _ a b c e h ⟨fun w => ⟨fun v => ?_, fun v => ?_⟩, fun w => ?_⟩
  · have w := Int64.le_iff_toInt_le.mp ((lg_cmp_ge _ _).mp w)
    have v := Int64.le_iff_toInt_le.mp ((lg_cmp_le _ _).mp v)
    rw [e1, e2] at w v
    rw [if_neg (by omega), if_pos (by omega)] at hK
    exact hK
  · have w := Int64.le_iff_toInt_le.mp ((lg_cmp_ge _ _).mp w)
    have v : ¬ (a * e).toInt ≤ (c * b).toInt := fun y => v ((lg_cmp_le _ _).mpr (Int64.le_iff_toInt_le.mpr y))
    rw [e1, e2] at w v
    rw [if_neg (by omega), if_neg (by omega)] at hK
    exact hK
  · have w : ¬ (c * b).toInt ≤ (a * e).toInt := fun y => w ((lg_cmp_ge _ _).mpr (Int64.le_iff_toInt_le.mpr y))
    rw [e1, e2] at w
    rw [if_pos (by omega)] at hK
    exact hK
theorem binOf_l (Q : jv_Q) (x1 : Int32) (t : Nat) (hx : x1.toInt = t) (ht : t < 3) (x2 x4 : Int64) (q : Int × Int) (e2 : x2.toInt = q.1) (e4 : x4.toInt = q.2) (ms : MS h Z) (bd : bdZ Z) (R0 : Int) (hQ1 : R0 = -1 → Q (some (.int (-1))) h) (hQ2 : ∀ j : Nat, R0 = j → ∀ z : Int32, z.toInt = (10 * t + j : Nat) → Q (some (.int z)) h) : ∀ (r k : Nat) (x6 : Int32), x6.toInt = (10 * t + k : Nat) → k + r = (Z.k.B t).n → (Z.k.B t).fi q r k = R0 → a_Model_binOf_6 X d 227 Q 171 x1 x2 x4 x6 h 0
  | 0, k, x6, h6, hk, hR => by
    have hn := bd.2.1.2.2.2.1 t ht
    have hp := nz_10p hx ht (ms.k.bz ht) (by omega)
    refine r_Model_binOf_6 X d 227 Q 171 x1 x2 x4 x6 h ⟨is171, _, ms.r 23, jx (len := 3) rfl (by decide) (by omega) (by omega), ?_⟩
    rw [nz_nat hx]
    exact ⟨fun _ => hQ1 hR.symm, fun z => absurd (nz_le.mpr (by rw [hp, h6]; omega)) z⟩
  | r + 1, k, x6, h6, hk, hR => by
    have hn := bd.2.1.2.2.2.1 t ht
    have hp := nz_10p hx ht (ms.k.bz ht) (by omega)
    have hkn : k < (Z.k.B t).n := by omega
    have v := ms.k.bv ht hkn
    have ce : ∀ a b : Int64, lg_cmp a b = 0 ↔ a.toInt = b.toInt := fun a b => by rw [lg_cmp_eq, ← Int64.toInt_inj]
    unfold zB.fi at hR
    refine r_Model_binOf_6 X d 227 Q 171 x1 x2 x4 x6 h ⟨is171, _, ms.r 23, jx (len := 3) rfl (by decide) (by omega) (by omega), ?_⟩
    rw [nz_nat hx]
    have next : ¬ ((Z.k.B t).e k).1 = q → a_Model_binOf_6 X d 227 Q 171 x1 x2 x4 (x6 + 1) h 0 := fun ne => by
      rw [if_neg ne] at hR
      exact binOf_l Q x1 t hx ht x2 x4 q e2 e4 ms bd R0 hQ1 hQ2 r (k + 1) _ (by rw [nz_inc h6 (by omega)]; omega) (by omega) hR
    refine ⟨fun z => ?_, fun _ => ⟨is171, _, ms.r 19, jx (len := 30) rfl (by decide) (by omega) (by omega), ?_⟩⟩
    · have := nz_le.mp z
      rw [hp, h6] at this
      omega
    · rw [nz_nat h6, ce, uq.a v, e2]
      refine ⟨fun c => next (fun z => c (by rw [z])), fun c => ⟨is171, _, ms.r 20, jx (len := 30) rfl (by decide) (by omega) (by omega), ?_⟩⟩
      rw [ce, uq.b v, e4]
      refine ⟨fun c2 => next (fun z => c2 (by rw [z])), fun c2 => ?_⟩
      rw [if_pos (Prod.ext c c2)] at hR
      exact hQ2 k hR.symm x6 h6
theorem m_binOf (x1 : Int32) (t : Nat) (hx : x1.toInt = t) (ht : t < 3) (x2 x4 : Int64) (q : Int × Int) (e2 : x2.toInt = q.1) (e4 : x4.toInt = q.2) (ms : MS h Z) (bd : bdZ Z) (hQ1 : (Z.k.B t).fi q (Z.k.B t).n 0 = -1 → KI (-1) h) (hQ2 : ∀ j : Nat, (Z.k.B t).fi q (Z.k.B t).n 0 = j → ∀ z : Int32, z.toInt = (10 * t + j : Nat) → KI z h) : jI X (d + 1) y_Model_binOf [.ref 171, .int x1, .long x2, .long x4] 227 h KI :=
  r_Model_binOf X d 227 _ 171 x1 x2 x4 h (binOf_l X d h Z _ x1 t hx ht x2 x4 q e2 e4 ms bd _ hQ1 hQ2 (Z.k.B t).n 0 _ (nz_10 hx ht) (by omega) rfl)
theorem m_moves (x1 x2 : Int32) (i j : Nat) (h1 : x1.toInt = i) (h2 : x2.toInt = j) (hi : i < 30) (hj : j < 30) (mr : MR h) (hK : K (putb h i (jv_gL h 183 j) (jv_gL h 184 j) (jv_gI h 185 j) (jv_gI h 186 j))) : jV X (d + 1) y_Model_moves [.ref 171, .int x1, .int x2] 227 h K := by
  have g1 : ∀ q t : Nat, SHT q = (t, 30) → q < 227 → jv_ix SHT 227 q t x1 := fun q t h1 h2 => jx h1 h2 (by omega) (by omega)
  have g2 : ∀ q t : Nat, SHT q = (t, 30) → q < 227 → jv_ix SHT 227 q t x2 := fun q t h1 h2 => jx h1 h2 (by omega) (by omega)
  refine r_Model_moves X d 227 _ 171 x1 x2 h ⟨is171, _, mr 19, is171, _, mr 19, g2 183 1 rfl (by decide), g1 183 1 rfl (by decide), is171, _, mr 20, is171, _, mr 20, g2 184 1 rfl (by decide), g1 184 1 rfl (by decide), is171, _, mr 21, is171, _, mr 21, g2 185 0 rfl (by decide), g1 185 0 rfl (by decide), is171, _, mr 22, is171, _, mr 22, g2 186 0 rfl (by decide), g1 186 0 rfl (by decide), ?_⟩
  simp only [gI_uI, gI_uL, gL_uL, gL_uI, and_self, true_and, and_true, false_and, and_false, if_true, if_false, reduceIte, Nat.reduceEqDiff]
  rw [nz_nat h1, nz_nat h2]
  exact hK
/-- bins with a hole at k -/
def MBH (h : jv_H) (t : Nat) (B : zB) (k : Nat) : Prop := (h.1 187 t).toInt = B.n ∧ (∀ j, j < k → enb h (10 * t + j) = B.e j) ∧ ∀ j, k < j → j ≤ B.n → enb h (10 * t + j) = B.e (j - 1)
theorem stock_l (Q : jv_Q) (x1 x4 x5 : Int32) (t : Nat) (hx : x1.toInt = t) (ht : t < 3) (B : zB) (hB : ∀ j, j < B.n → gp (B.e j).1) (hn : B.n < 10) (q : Int × Int) (hq : gp q) (h0 : jv_H) (hQ : ∀ h', oT (sbI t) (sbL t) h0 h' → (h'.1 187 t).toInt = (B.n + 1 : Nat) → (∀ j, j < B.n + 1 → enb h' (10 * t + j) = ins B.e (B.mk q B.n) (q, x4, x5) j) → Q (some (.int (jv_gI h' 187 t))) h') : ∀ (k : Nat) (x6 : Int32) (h : jv_H), x6.toInt = (10 * t + k : Nat) → k ≤ B.n → MR h → oT (sbI t) (sbL t) h0 h → ((h.2.1 171 4).toInt, (h.2.1 171 5).toInt) = q → MBH h t B k → B.mk q k = B.mk q B.n → a_Model_stock_113 X (d + 1) 227 Q 171 x1 x4 x5 x6 h 0 := by
  have fin : ∀ (k : Nat) (x6 : Int32) (h : jv_H), x6.toInt = (10 * t + k : Nat) → k ≤ B.n → MR h → oT (sbI t) (sbL t) h0 h → ((h.2.1 171 4).toInt, (h.2.1 171 5).toInt) = q → MBH h t B k → k = B.mk q B.n → Q (some (.int (jv_gI (putb (jv_uI h 187 t (jv_gI h 187 t + 1)) (10 * t + k) (jv_gL h 171 4) (jv_gL h 171 5) x4 x5) 187 t))) (putb (jv_uI h 187 t (jv_gI h 187 t + 1)) (10 * t + k) (jv_gL h 171 4) (jv_gL h 171 5) x4 x5) := fun k x6 h h6 hk mr o e q' ek => by
    refine hQ _ ((o.uI (Or.inr ⟨rfl, rfl⟩)).tr (put_sb _ t k (by omega) _ _ _ _)) ?_ (fun j hj => ?_)
    · show (jv_gI (putb (jv_uI h 187 t (jv_gI h 187 t + 1)) (10 * t + k) (jv_gL h 171 4) (jv_gL h 171 5) x4 x5) 187 t).toInt = _
      unfold putb
      simp only [gI_uI, gI_uL, gL_uL, gL_uI, and_self, true_and, and_true, false_and, and_false, if_true, if_false, reduceIte, Nat.reduceEqDiff]
      exact nz_inc q'.1 (by omega)
    · rw [enb_put]
      have eh : ∀ i, enb (jv_uI h 187 t (jv_gI h 187 t + 1)) i = enb h i := fun i => rfl
      by_cases z : j = k
      · rw [if_pos (by rw [z]), z, ek, ins_at]
        exact congrArg (fun y => (y, x4, x5)) e
      · rw [if_neg (by omega), eh, ← ek]
        unfold ins
        by_cases y : j < k
        · rw [if_pos y]
          exact q'.2.1 j y
        · rw [if_neg y, if_neg z]
          exact q'.2.2 j (by omega) (by omega)
  intro k
  induction k with
  | zero =>
    intro x6 h h6 hk mr o e q' ek
    have gt : ∀ q t' : Nat, SHT q = (t', 3) → q < 227 → jv_ix SHT 227 q t' x1 := fun q t' h1 h2 => jx h1 h2 (by omega) (by omega)
    have gj : ∀ q t' : Nat, SHT q = (t', 30) → q < 227 → jv_ix SHT 227 q t' x6 := fun q t' h1 h2 => jx h1 h2 (by omega) (by omega)
    have e10 := nz_10 hx ht
    refine r_Model_stock_113 X (d + 1) 227 Q 171 x1 x4 x5 x6 h ⟨fun _ => ⟨is171, _, mr 23, gt 187 0 rfl (by decide), gt 187 0 rfl (by decide), is171, _, mr 19, is171, gj 183 1 rfl (by decide), is171, _, mr 20, is171, gj 184 1 rfl (by decide), is171, _, mr 21, gj 185 0 rfl (by decide), is171, _, mr 22, gj 186 0 rfl (by decide), is171, _, mr 23, gt 187 0 rfl (by decide), ?_⟩, fun z => absurd (nz_le.mpr (by rw [e10, h6]; omega)) z⟩
    rw [nz_nat hx, nz_nat h6]
    exact fin 0 x6 h h6 hk mr o e q' ek
  | succ k ih =>
    intro x6 h h6 hk mr o e q' ek
    have gt : ∀ q t' : Nat, SHT q = (t', 3) → q < 227 → jv_ix SHT 227 q t' x1 := fun q t' h1 h2 => jx h1 h2 (by omega) (by omega)
    have gj : ∀ q t' : Nat, SHT q = (t', 30) → q < 227 → jv_ix SHT 227 q t' x6 := fun q t' h1 h2 => jx h1 h2 (by omega) (by omega)
    have e10 := nz_10 hx ht
    have h6m : (x6 - 1).toInt = (10 * t + k : Nat) := by rw [nz_m1i h6 (by omega)]; omega
    have gm : ∀ q t' : Nat, SHT q = (t', 30) → q < 227 → jv_ix SHT 227 q t' (x6 - 1) := fun q t' h1 h2 => jx h1 h2 (by omega) (by omega)
    have ve := q'.2.1 k (by omega)
    have v : uq h 183 184 (10 * t + k) = (B.e k).1 := congrArg Prod.fst ve
    refine r_Model_stock_113 X (d + 1) 227 Q 171 x1 x4 x5 x6 h ⟨fun z => ?_, fun _ => ⟨is171, _, mr 19, gm 183 1 rfl (by decide), is171, _, mr 20, gm 184 1 rfl (by decide), is171, is171, ?_⟩⟩
    · have := nz_le.mp z
      rw [e10, h6] at this
      omega
    · rw [nz_nat h6m]
      have hmk : B.mk q (k + 1) = if (fz_cmp (B.e k).1 q).toInt ≤ 0 then k + 1 else B.mk q k := rfl
      rw [hmk] at ek
      refine m_order X d h _ _ _ _ _ (B.e k).1 q (uq.a v) (uq.b v) (congrArg Prod.fst e) (congrArg Prod.snd e) (hB k (by omega)).1.z hq.1.z ⟨fun c => ⟨is171, _, mr 23, gt 187 0 rfl (by decide), gt 187 0 rfl (by decide), is171, _, mr 19, is171, gj 183 1 rfl (by decide), is171, _, mr 20, is171, gj 184 1 rfl (by decide), is171, _, mr 21, gj 185 0 rfl (by decide), is171, _, mr 22, gj 186 0 rfl (by decide), is171, _, mr 23, gt 187 0 rfl (by decide), ?_⟩, fun c => ⟨is171, ?_⟩⟩
      · rw [nz_nat hx, nz_nat h6]
        have c : (fz_cmp (B.e k).1 q).toInt ≤ 0 := nz_le.mp c
        rw [if_pos c] at ek
        exact fin (k + 1) x6 h h6 hk mr o e q' ek
      · have c : ¬ (fz_cmp (B.e k).1 q).toInt ≤ 0 := fun y => c (nz_le.mpr y)
        rw [if_neg c] at ek
        refine m_moves X d h _ x6 (x6 - 1) _ _ h6 h6m (by omega) (by omega) mr ?_
        have o2 := put_sb h t (k + 1) (by omega) (jv_gL h 183 (10 * t + k)) (jv_gL h 184 (10 * t + k)) (jv_gI h 185 (10 * t + k)) (jv_gI h 186 (10 * t + k))
        refine ih _ _ (by rw [nz_dec h6 (by omega)]; omega) (by omega) (mr.mv o2) (o.tr o2) (by rw [o2.2.2 _ _ (fun z => by unfold sbL at z; omega), o2.2.2 _ _ (fun z => by unfold sbL at z; omega)]; exact e) ⟨?_, fun j hj => ?_, fun j hj1 hj2 => ?_⟩ ek
        · show (jv_gI (putb h (10 * t + (k + 1)) (jv_gL h 183 (10 * t + k)) (jv_gL h 184 (10 * t + k)) (jv_gI h 185 (10 * t + k)) (jv_gI h 186 (10 * t + k))) 187 t).toInt = _
          unfold putb
          simp only [gI_uI, gI_uL, gL_uL, gL_uI, and_self, true_and, and_true, false_and, and_false, if_true, if_false, reduceIte, Nat.reduceEqDiff]
          exact q'.1
        · rw [enb_put, if_neg (by omega)]
          exact q'.2.1 j (by omega)
        · rw [enb_put]
          by_cases z : j = k + 1
          · rw [if_pos (by omega), z]
            exact ve
          · rw [if_neg (by omega)]
            exact q'.2.2 j (by omega) hj2
theorem w_stock (s a b c p : Int32) (ms : MS h Z) (bd : bdZ Z) (ok : okZ Z) (hK : dI h (q_stock s a b c p Z) KI) : jI X 8 y_Model_stock [.ref 171, .int s, .int a, .int b, .int c, .int p] 227 h KI := by
  unfold q_stock at hK
  refine r_Model_stock X 7 227 _ 171 s a b c p h (c_in X 6 227 _ h _ _ _ ⟨fun y => ?_, fun y => c_mTold X 5 227 _ h a b ⟨fun y2 => ?_, fun y2 => c_in X 6 227 _ h _ _ _ ⟨fun y3 => ?_, fun y3 => c_in X 6 227 _ h _ _ _ ⟨fun y4 => ⟨is171, Or.inl rfl, is171, ?_⟩, fun y4 => ?_⟩⟩⟩⟩)
  · rw [nz_bt, Int32.toInt_toInt64] at y
    rw [if_neg (fun z => y z.1)] at hK
    exact hK _ rfl h oM.rf ms
  · rw [nz_bt] at y2
    rw [if_neg (fun z => y2 z.2.1)] at hK
    exact hK _ rfl h oM.rf ms
  · rw [nz_bt, Int32.toInt_toInt64] at y3
    rw [if_neg (fun z => y3 z.2.2.1)] at hK
    exact hK _ rfl h oM.rf ms
  · rw [nz_bt, Classical.not_not, Int32.toInt_toInt64] at y y3 y4
    rw [nz_bt, Classical.not_not] at y2
    have y : wi s 0 2 := y
    rw [if_pos ⟨y, y2, y3, y4⟩] at hK
    obtain ⟨t, hs, ht, hc⟩ := wi2 y
    have hB : Z.B s = Z.k.B t := congrArg Z.k.B hc
    rw [hB, hc] at hK
    have hb := bd.2.1.2.2.2.1 t ht
    have o0 : fK Z.k h (jv_uI h 171 6 0) := oT.rf.uI (by unfold frI; omega)
    refine m_isF X 5 (jv_uI h 171 6 0) _ a b _ _ rfl rfl y2.1 y2.2 uI_eq (fun h1 o1 _ _ f1 _ => ⟨is171, is171, is171, ?_⟩)
    have fk1 : fK Z.k h h1 := o0.tr (o1.mono (fun q j z => by unfold fcI at z; unfold frI; omega) (fun q j z => by unfold mL at z; unfold frL; omega))
    have ms1 := ms.mv bd fk1
    have tq' := fz_told y2.1 y2.2
    have gt : ∀ q t' : Nat, SHT q = (t', 3) → q < 227 → jv_ix SHT 227 q t' s := fun q t' h1 h2 => jx h1 h2 (by omega) (by omega)
    have ins' : (Z.k.B t).fi (fz_of a.toInt b.toInt) (Z.k.B t).n 0 = -1 → (Z.k.B t).n < 10 → a_Model_stock_113 X 7 227 (jv_rI KI) 171 s c p ((10 : Int32) * s + jv_gI h1 187 t) h1 0 := fun nf n10 => by
      unfold zB.st at hK
      rw [if_neg (by omega), if_neg (by omega)] at hK
      refine stock_l X 6 (jv_rI KI) s c p t hs ht (Z.k.B t) (fun j hj => (ok.1.2.2.1 t ht j hj).2.1) n10 (fz_of a.toInt b.toInt) ⟨tq'.1, tq'.2.1⟩ h1 (fun h' o' n' e' => ?_) (Z.k.B t).n _ h1 (nz_10p hs ht (ms1.k.bz ht) (by omega)) (Nat.le_refl _) ms1.r oT.rf f1 ⟨ms1.k.bz ht, fun j hj => (ms1.k.2.2.1 t ht).2 j hj, fun j h1 h2 => by omega⟩ rfl
      have kn := MKn.setB (B := ((Z.k.B t).n + 1, ins (Z.k.B t).e ((Z.k.B t).mk (fz_of a.toInt b.toInt) (Z.k.B t).n) (fz_of a.toInt b.toInt, c, p))) ms1.k bd.2.1 o' n' e'
      exact hK _ n' h' ((fK.M fk1).tr (o'.M (fun q j z => by unfold sbI at z; omega) (fun q j z => by unfold sbL at z; omega))) (ms1.upd bd o' (fun q j z => by unfold sbI at z; omega) (fun q j z => by unfold sbL at z; omega) kn)
    refine m_binOf X 6 h1 _ Z s t hs ht _ _ (fz_of a.toInt b.toInt) (congrArg Prod.fst f1) (congrArg Prod.snd f1) ms1 bd (fun nf => ⟨fun z => absurd z (by decide), fun _ => ⟨is171, _, ms1.r 23, gt 187 0 rfl (by decide), ?_⟩⟩) (fun j hj z hz => ⟨fun _ => ⟨fun _ => ?_, fun y => absurd (nz_le.mpr (by rw [hz]; show (0 : Int) ≤ _; omega)) y⟩, fun y => absurd (nz_le.mpr (by rw [hz]; show (0 : Int) ≤ _; omega)) y⟩)
    · rw [hc]
      have bz := ms1.k.bz ht
      refine ⟨fun e => ⟨fun z => absurd z (by decide), fun _ => ⟨is171, _, ms1.r 23, gt 187 0 rfl (by decide), ?_⟩⟩, fun e => ?_⟩
      · have : (Z.k.B t).n ≠ 10 := fun z => e (Int32.toInt_inj.mp (by rw [bz, z]; rfl))
        exact ins' nf (by omega)
      · have : (jv_gI h1 187 t).toInt = 10 := by rw [e]; rfl
        unfold zB.st at hK
        rw [if_neg (by omega), if_pos (by omega)] at hK
        exact hK _ rfl h1 (fK.M fk1) ms1
    · have hjn : j < (Z.k.B t).n ∧ ((Z.k.B t).e j).1 = fz_of a.toInt b.toInt := by
        rcases (Z.k.B t).fi_b (fz_of a.toInt b.toInt) (Z.k.B t).n 0 with y | ⟨i, y1, y2, y3, y4⟩
        · omega
        · have : i = j := by omega
          subst this
          exact ⟨by omega, y4⟩
      unfold zB.st at hK
      rw [if_pos (by omega)] at hK
      dsimp only at hK
      have gz : ∀ q t' : Nat, SHT q = (t', 30) → q < 227 → jv_ix SHT 227 q t' z := fun q t' h1 h2 => jx h1 h2 (by omega) (by omega)
      refine ⟨is171, _, ms1.r 21, gz 185 0 rfl (by decide), is171, _, ms1.r 22, gz 186 0 rfl (by decide), is171, _, ms1.r 23, gt 187 0 rfl (by decide), ?_⟩
      rw [nz_nat hz, hc]
      have o2 : oT (sbI t) (sbL t) h1 (jv_uI (jv_uI h1 185 (10 * t + j) c) 186 (10 * t + j) p) := (oT.rf.uI (Or.inl ⟨Or.inl rfl, by omega, by omega⟩)).uI (Or.inl ⟨Or.inr rfl, by omega, by omega⟩)
      have n2 : jv_gI (jv_uI (jv_uI h1 185 (10 * t + j) c) 186 (10 * t + j) p) 187 t = jv_gI h1 187 t := by
        rw [gI_uI, gI_uI, if_neg (by omega), if_neg (by omega)]
      have bz := ms1.k.bz ht
      have kn := MKn.setB (B := ((Z.k.B t).n, fun i => if (i : Int) = (Z.k.B t).fi (fz_of a.toInt b.toInt) (Z.k.B t).n 0 then (fz_of a.toInt b.toInt, c, p) else (Z.k.B t).e i)) ms1.k bd.2.1 o2 (by rw [show (jv_uI (jv_uI h1 185 (10 * t + j) c) 186 (10 * t + j) p).1 187 t = _ from n2]; exact bz) (fun i hi => by
        have hi : i < (Z.k.B t).n := hi
        have ei := (ms1.k.2.2.1 t ht).2 i hi
        show (_, jv_gI (jv_uI (jv_uI h1 185 (10 * t + j) c) 186 (10 * t + j) p) 185 (10 * t + i), jv_gI (jv_uI (jv_uI h1 185 (10 * t + j) c) 186 (10 * t + j) p) 186 (10 * t + i)) = (if (i : Int) = (Z.k.B t).fi (fz_of a.toInt b.toInt) (Z.k.B t).n 0 then (fz_of a.toInt b.toInt, c, p) else (Z.k.B t).e i)
        rw [hj, gI_uI, gI_uI, gI_uI, if_neg (by omega)]
        by_cases e : i = j
        · rw [if_pos ⟨rfl, by omega⟩, if_pos ⟨rfl, by omega⟩, if_pos (by omega), e, ← hjn.2]
          exact congrArg (fun y => (y, c, p)) (ms1.k.bv ht hjn.1)
        · rw [if_neg (by omega), if_neg (by omega), if_neg (by omega), gI_uI, if_neg (by omega)]
          exact ei)
      exact hK _ (by rw [n2]; exact bz) _ ((fK.M fk1).tr (o2.M (fun q j z => by unfold sbI at z; omega) (fun q j z => by unfold sbL at z; omega))) (ms1.upd bd o2 (fun q j z => by unfold sbI at z; omega) (fun q j z => by unfold sbL at z; omega) kn)
  · rw [nz_bt, Int32.toInt_toInt64] at y4
    rw [if_neg (fun z => y4 z.2.2.2)] at hK
    exact hK _ rfl h oM.rf ms
end
