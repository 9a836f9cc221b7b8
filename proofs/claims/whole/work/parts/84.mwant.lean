/-! ===== the reference: count, want, cost, arrive ===== -/
def enw (h : jv_H) (j : Nat) : Int32 × Int32 × Int32 × (Int × Int) := (h.1 190 j, h.1 191 j, h.1 192 j, uq h 188 189 j)
def putw (h : jv_H) (i : Nat) (s u g : Int32) (a b : Int64) : jv_H := jv_uL (jv_uL (jv_uI (jv_uI (jv_uI h 190 i s) 191 i u) 192 i g) 188 i a) 189 i b
theorem enw_put (h : jv_H) (i : Nat) (s u g : Int32) (a b : Int64) (j : Nat) : enw (putw h i s u g a b) j = if j = i then (s, u, g, (a.toInt, b.toInt)) else enw h j := by
  unfold enw putw
  rw [uq_st _ _ _ _ _ _ (by decide)]
  show (jv_gI (jv_uI (jv_uI (jv_uI h 190 i s) 191 i u) 192 i g) 190 j, jv_gI (jv_uI (jv_uI (jv_uI h 190 i s) 191 i u) 192 i g) 191 j, jv_gI (jv_uI (jv_uI (jv_uI h 190 i s) 191 i u) 192 i g) 192 j, _) = _
  simp only [gI_uI]
  by_cases e : j = i
  · simp [e]
  · simp [e]
    exact ⟨rfl, rfl, rfl, rfl⟩
def swI : Nat → Nat → Prop := fun q j => (190 ≤ q ∧ q ≤ 192) ∨ q = 171 ∧ (j = 29 ∨ j = 31)
def swL : Nat → Nat → Prop := fun q _ => q = 188 ∨ q = 189
theorem put_sw (h : jv_H) (i : Nat) (s u g : Int32) (a b : Int64) : oT swI swL h (putw h i s u g a b) := ((((oT.rf.uI (Or.inl ⟨by decide, by decide⟩)).uI (Or.inl ⟨by decide, by decide⟩)).uI (Or.inl ⟨by decide, by decide⟩)).uL (Or.inl rfl)).uL (Or.inr rfl)
theorem MKn.setW {h h' : jv_H} {K : zK} {W : zW} (k : MKg nA nS h K) (a : oT swI swL h h') (c1 : (h'.1 171 29).toInt = W.n) (c2 : h'.1 171 31 = W.ev) (c3 : ∀ j, j < W.n → enw h' j = W.e j) : MKg nA nS h' (K.setW W) := by
  obtain ⟨⟨k1, k2⟩, ⟨k3, k4⟩, k5, ⟨k6, k7, k8⟩, k9⟩ := k
  have row : ∀ c, c < 17 → h'.1 (nA c) = h.1 (nA c) := fun c h1 => funext (fun j => a.2.1 _ _ (fun z => by unfold swI nA at z; omega))
  have rowL : ∀ c, c < 15 → h'.2.1 (nA c) = h.2.1 (nA c) := fun c h1 => funext (fun j => a.2.2 _ _ (fun z => by unfold swL nA at z; omega))
  have sc : ∀ j, j ≠ 29 → j ≠ 31 → h'.1 171 j = h.1 171 j := fun j h1 h2 => a.2.1 _ _ (fun z => by unfold swI at z; omega)
  refine ⟨⟨by rw [sc _ (by decide) (by decide)]; exact k1, fun r hr i hi => ?_⟩, ⟨by rw [sc _ (by decide) (by decide)]; exact k3, fun l hl => ?_⟩, fun s hs => ⟨?_, fun j hj => ?_⟩, ⟨c1, c2, c3⟩, by rw [sc _ (by decide) (by decide)]; exact k9⟩
  · unfold uq
    rw [rowL 0 (by decide), rowL 1 (by decide)]
    exact k2 r hr i hi
  · obtain ⟨m1, m2, m3, m4⟩ := k4 l hl
    refine ⟨by rw [row 4 (by decide)]; exact m1, by rw [row 5 (by decide)]; exact m2, fun z => ?_, fun j hj => ?_⟩
    · unfold uq
      rw [rowL 8 (by decide), rowL 9 (by decide)]
      exact m3 z
    · unfold uq
      rw [row 2 (by decide), row 3 (by decide), rowL 6 (by decide), rowL 7 (by decide)]
      exact m4 j hj
  · rw [row 14 (by decide)]
    exact (k5 s hs).1
  · unfold uq
    rw [row 12 (by decide), row 13 (by decide), rowL 10 (by decide), rowL 11 (by decide)]
    exact (k5 s hs).2 j hj
theorem sw_b {q j : Nat} (z : swI q j) : (173 ≤ q ∧ q < 193) ∨ q = 204 ∨ q = 171 ∧ 2 ≤ j ∧ j < 48 := by unfold swI at z; omega
theorem swl_b {q j : Nat} (z : swL q j) : q = 171 ∨ (173 ≤ q ∧ q < 193) ∨ (200 ≤ q ∧ q ≤ 206) := by unfold swL at z; omega
section
variable (X : jv_X) (d : Nat) (h : jv_H) (K : jv_H → Prop) (KI : Int32 → jv_H → Prop) (KJ : Int64 → jv_H → Prop) (Z : zZ)
theorem w_count (x : Int32) (ms : MS h Z) (hK : dI h (q_count x Z) KI) : jI X 8 y_Model_count [.ref 171, .int x] 227 h KI := by
  unfold q_count at hK
  have e6 : (6 : Int32).toInt = 6 := rfl
  have bin : ∀ t : Nat, t < 3 → x.toInt = 6 + t → dI h (((Z.k.B t).n : Int), Z) KI → ∃ a : Nat, jv_gR h 171 23 = some a ∧ (jv_ix SHT 227 a 0 (x - 6) ∧ jv_rI KI (some (.int (jv_gI h a (x - 6).toNatClampNeg))) h) := fun t ht hx hK => by
    have hi : (x - 6).toInt = (t : Int) := by rw [nz_subi (by rw [hx, e6]; omega) (by rw [hx, e6]; omega), hx, e6]; omega
    refine ⟨_, ms.r 23, jx (len := 3) rfl (by decide) (by omega) (by omega), ?_⟩
    rw [nz_nat hi]
    exact hK _ (ms.k.bz ht) h oM.rf ms
  refine r_Model_count X 7 227 _ 171 x h ⟨fun a => ⟨is171, ?_⟩, fun a => ⟨fun b => ⟨is171, ?_⟩, fun b => ⟨fun c => ⟨is171, ?_⟩, fun c => ⟨fun e => ⟨is171, ?_⟩, fun e => ⟨fun f => ⟨is171, ?_⟩, fun f => ⟨fun g => ⟨is171, ?_⟩, fun g => ⟨fun i => ⟨is171, bin 0 (by omega) (by omega) ?_⟩, fun i => ⟨fun j => ⟨is171, bin 1 (by omega) (by omega) ?_⟩, fun j => ⟨fun k => ⟨is171, bin 2 (by omega) (by omega) ?_⟩, fun k => ?_⟩⟩⟩⟩⟩⟩⟩⟩⟩
  · rw [if_pos a] at hK
    exact hK _ ms.2.1.1 h oM.rf ms
  · rw [if_neg a, if_pos b] at hK
    exact hK _ ms.k.zr h oM.rf ms
  · rw [if_neg a, if_neg b, if_pos c] at hK
    exact hK _ ms.k.zl h oM.rf ms
  · rw [if_neg a, if_neg b, if_neg c, if_pos e] at hK
    exact hK _ ms.k.wz h oM.rf ms
  · rw [if_neg a, if_neg b, if_neg c, if_neg e, if_pos f] at hK
    exact hK _ (congrArg Int32.toInt ms.k.sp) h oM.rf ms
  · rw [if_neg a, if_neg b, if_neg c, if_neg e, if_neg f, if_pos g] at hK
    exact hK _ (congrArg Int32.toInt ms.k.wv) h oM.rf ms
  · rw [if_neg a, if_neg b, if_neg c, if_neg e, if_neg f, if_neg g, if_pos (by omega), i] at hK
    exact hK
  · rw [if_neg a, if_neg b, if_neg c, if_neg e, if_neg f, if_neg g, if_pos (by omega), j] at hK
    exact hK
  · rw [if_neg a, if_neg b, if_neg c, if_neg e, if_neg f, if_neg g, if_pos (by omega), k] at hK
    exact hK
  · rw [if_neg a, if_neg b, if_neg c, if_neg e, if_neg f, if_neg g, if_neg (by omega)] at hK
    exact hK _ rfl h oM.rf ms
theorem w_want (k w : Int32) (ms : MS h Z) (bd : bdZ Z) (ok : okZ Z) (hK : dI h (q_want k w Z) KI) : jI X 8 y_Model_want [.ref 171, .int k, .int w] 227 h KI := by
  unfold q_want at hK
  have hn := bd.2.1.2.2.2.2
  refine r_Model_want X 7 227 _ 171 k w h (c_in X 6 227 _ h _ _ _ ⟨fun y => ?_, fun y => ⟨fun y2 => ⟨is171, fun c => ?_, fun c => ?_⟩, fun y2 => ?_⟩⟩)
  · rw [nz_bt, Int32.toInt_toInt64] at y
    rw [if_neg (fun z => y z.2)] at hK
    exact hK _ rfl h oM.rf ms
  · rw [nz_bt, Classical.not_not, Int32.toInt_toInt64] at y
    have y : wi w 0 4 := y
    have y2 : (0 : Int) ≤ k.toInt := nz_le.mp y2
    have c := nz_lt.mp c
    rw [ms.k.wz] at c
    rw [if_pos ⟨y2, y⟩, if_pos c] at hK
    have hk : k.toInt = (k.toInt.toNat : Int) := by omega
    have hj : k.toInt.toNat < Z.k.w.n := by omega
    have e := ms.k.we hj
    rw [nz_nat hk, ← e] at hK
    have g := ok.1.2.2.2 _ hj
    rw [← e] at g
    have g1 := g.1.1
    have gi : ∀ q t : Nat, SHT q = (t, 24) → q < 227 → jv_ix SHT 227 q t k := fun q t h1 h2 => jx h1 h2 (by omega) (by omega)
    have b1 : -1000000000 ≤ (jv_gL h 188 k.toInt.toNat).toInt ∧ (jv_gL h 188 k.toInt.toNat).toInt ≤ 1000000000 := g1.1
    have b2 : 1 ≤ (jv_gL h 189 k.toInt.toNat).toInt ∧ (jv_gL h 189 k.toInt.toNat).toInt ≤ 1000000000 := g1.2
    refine ⟨fun a => ⟨is171, _, ms.r 26, gi 190 0 rfl (by decide), ?_⟩, fun a => ⟨fun b => ⟨is171, _, ms.r 27, gi 191 0 rfl (by decide), ?_⟩, fun b => ⟨fun c => ⟨is171, _, ms.r 28, gi 192 0 rfl (by decide), ?_⟩, fun c => ⟨fun e => ⟨is171, _, ms.r 24, gi 188 1 rfl (by decide), ?_⟩, fun e => ⟨is171, _, ms.r 25, gi 189 1 rfl (by decide), ?_⟩⟩⟩⟩⟩
    · rw [if_pos a] at hK
      rw [nz_nat hk]
      exact hK _ rfl h oM.rf ms
    · rw [if_neg a, if_pos b] at hK
      rw [nz_nat hk]
      exact hK _ rfl h oM.rf ms
    · rw [if_neg a, if_neg b, if_pos c] at hK
      rw [nz_nat hk]
      exact hK _ rfl h oM.rf ms
    · rw [if_neg a, if_neg b, if_neg c, if_pos e] at hK
      rw [nz_nat hk]
      exact hK _ (l2i (v := jv_gL h 188 k.toInt.toNat) (by omega)) h oM.rf ms
    · rw [if_neg a, if_neg b, if_neg c, if_neg e] at hK
      rw [nz_nat hk]
      exact hK _ (l2i (v := jv_gL h 189 k.toInt.toNat) (by omega)) h oM.rf ms
  · rw [nz_bt, Classical.not_not, Int32.toInt_toInt64] at y
    have y2 : (0 : Int) ≤ k.toInt := nz_le.mp y2
    have c : ¬ k.toInt < (jv_gI h 171 29).toInt := fun q => c (nz_lt.mpr q)
    rw [ms.k.wz] at c
    rw [if_pos ⟨y2, y⟩, if_neg c] at hK
    exact hK _ rfl h oM.rf ms
  · have y2 : ¬ (0 : Int) ≤ k.toInt := fun q => y2 (nz_le.mpr q)
    rw [if_neg (fun z => y2 z.1)] at hK
    exact hK _ rfl h oM.rf ms
theorem cost_l (Q : jv_Q) (x1 : Int32) (l : Nat) (hx : x1.toInt = l) (hl : l < Z.k.nl) (ms : MS h Z) (bd : bdZ Z) (ok : okZ Z) (R0 : Option Int32) (hQ1 : ∀ z, R0 = some z → Q (some (.int z)) h) (hQ0 : R0 = none → Q (some (.int (-2))) h) : ∀ (m k : Nat) (x2 x3 : Int32), x3.toInt = (12 * l + k : Nat) → k + m = (Z.k.L l).sz → prc Z.k.B (Z.k.L l) m k x2 = R0 → a_Model_cost_17 X (d + 1) 227 Q 171 x1 x2 x3 h 0
  | 0, k, x2, x3, h3, hm, hR => by
    have lz := ms.k.lz hl
    have hml := bd.2.1.2.1
    have hsz := bd.2.1.2.2.1 l hl
    have hp := nz_12p hx (by omega) lz (by omega)
    refine r_Model_cost_17 X (d + 1) 227 Q 171 x1 x2 x3 h ⟨is171, _, ms.r 12, jx (len := 6) rfl (by decide) (by omega) (by omega), ?_⟩
    rw [nz_nat hx]
    exact ⟨fun _ => hQ1 _ hR.symm, fun z => absurd (nz_le.mpr (by rw [hp, h3]; omega)) z⟩
  | m + 1, k, x2, x3, h3, hm, hR => by
    have lz := ms.k.lz hl
    have hml := bd.2.1.2.1
    have hsz := bd.2.1.2.2.1 l hl
    have hp := nz_12p hx (by omega) lz (by omega)
    have hkl : k < (Z.k.L l).sz := by omega
    obtain ⟨t, ht, hst⟩ := (ok.1.2.1 l hl).2.1 k hkl
    have hb := bd.2.1.2.2.2.1 t ht
    have v := ms.k.lv hl hkl
    have eb : bos Z.k.B ((Z.k.L l).so k) = Z.k.B t := congrArg Z.k.B (nz_nat hst)
    have ef : fnd Z.k.B ((Z.k.L l).so k) ((Z.k.L l).va k) = (Z.k.B t).fi ((Z.k.L l).va k) (Z.k.B t).n 0 := by
      unfold fnd
      rw [eb]
    unfold prc at hR
    rw [ef, eb] at hR
    have gj : ∀ q : Nat, ∀ t : Nat, SHT q = (t, 72) → q < 227 → jv_ix SHT 227 q t x3 := fun q t h1 h2 => jx h1 h2 (by omega) (by omega)
    refine r_Model_cost_17 X (d + 1) 227 Q 171 x1 x2 x3 h ⟨is171, _, ms.r 12, jx (len := 6) rfl (by decide) (by omega) (by omega), ?_⟩
    rw [nz_nat hx]
    refine ⟨fun z => ?_, fun _ => ⟨is171, _, ms.r 10, gj 175 0 rfl (by decide), is171, _, ms.r 14, gj 179 1 rfl (by decide), is171, _, ms.r 15, gj 180 1 rfl (by decide), is171, ?_⟩⟩
    · have := nz_le.mp z
      rw [hp, h3] at this
      omega
    · rw [nz_nat h3, ms.k.ls hl hkl]
      refine m_binOf X d h _ Z _ t hst ht _ _ ((Z.k.L l).va k) (uq.a v) (uq.b v) ms bd (fun nf => ⟨fun z => absurd z (by decide), fun _ => ?_⟩) (fun j hj z hz => ⟨fun _ => ?_, fun y => absurd (nz_le.mpr (by rw [hz]; show (0 : Int) ≤ _; omega)) y⟩)
      · rw [if_neg (by omega)] at hR
        exact hQ0 hR.symm
      · have hjn : j < (Z.k.B t).n := by
          rcases (Z.k.B t).fi_b ((Z.k.L l).va k) (Z.k.B t).n 0 with y | ⟨i, y1, y2, y3, y4⟩ <;> omega
        rw [if_pos (by omega), hj] at hR
        refine ⟨is171, _, ms.r 22, jx (len := 30) rfl (by decide) (by omega) (by omega), ?_⟩
        rw [nz_nat hz, ms.k.bp ht hjn]
        exact cost_l Q x1 l hx hl ms bd ok R0 hQ1 hQ0 m (k + 1) _ _ (by rw [nz_inc h3 (by omega)]; omega) (by omega) hR
theorem w_cost (x : Int32) (ms : MS h Z) (bd : bdZ Z) (ok : okZ Z) (hK : dI h (q_cost x Z) KI) : jI X 8 y_Model_cost [.ref 171, .int x] 227 h KI := by
  unfold q_cost at hK
  have hml := bd.2.1.2.1
  refine r_Model_cost X 7 227 _ 171 x h ⟨is171, m_isLadder X 5 h _ Z x ms bd (fun hr => ⟨fun _ => ?_, fun z => absurd z (by decide)⟩) (fun hr => ⟨fun z => absurd rfl z, fun _ => ?_⟩)⟩
  · rw [if_pos hr] at hK
    obtain ⟨l, hx, hl, hL, hc⟩ := isL.n hr
    rw [hL] at hK
    refine cost_l X 6 h Z (jv_rI KI) x l hx hl ms bd ok _ (fun z hz => ?_) (fun hz => ?_) (Z.k.L l).sz 0 0 _ (nz_12 hx (by omega)) (by omega) rfl
    · rw [hz] at hK
      exact hK _ rfl h oM.rf ms
    · rw [hz] at hK
      exact hK _ rfl h oM.rf ms
  · rw [if_neg hr] at hK
    exact hK _ rfl h oM.rf ms
theorem m_wantGoes (x1 x2 : Int32) (i j : Nat) (h1 : x1.toInt = i) (h2 : x2.toInt = j) (hi : i < 24) (hj : j < 24) (mr : MR h) (hK : K (putw h i (jv_gI h 190 j) (jv_gI h 191 j) (jv_gI h 192 j) (jv_gL h 188 j) (jv_gL h 189 j))) : jV X (d + 1) y_Model_wantGoes [.ref 171, .int x1, .int x2] 227 h K := by
  have g1 : ∀ q t : Nat, SHT q = (t, 24) → q < 227 → jv_ix SHT 227 q t x1 := fun q t h1 h2 => jx h1 h2 (by omega) (by omega)
  have g2 : ∀ q t : Nat, SHT q = (t, 24) → q < 227 → jv_ix SHT 227 q t x2 := fun q t h1 h2 => jx h1 h2 (by omega) (by omega)
  refine r_Model_wantGoes X d 227 _ 171 x1 x2 h ⟨is171, _, mr 26, is171, _, mr 26, g2 190 0 rfl (by decide), g1 190 0 rfl (by decide), is171, _, mr 27, is171, _, mr 27, g2 191 0 rfl (by decide), g1 191 0 rfl (by decide), is171, _, mr 28, is171, _, mr 28, g2 192 0 rfl (by decide), g1 192 0 rfl (by decide), is171, _, mr 24, is171, _, mr 24, g2 188 1 rfl (by decide), g1 188 1 rfl (by decide), is171, _, mr 25, is171, _, mr 25, g2 189 1 rfl (by decide), g1 189 1 rfl (by decide), ?_⟩
  simp only [gI_uI, gI_uL, gL_uL, gL_uI, and_self, true_and, and_true, false_and, and_false, if_true, if_false, reduceIte, Nat.reduceEqDiff]
  rw [nz_nat h1, nz_nat h2]
  exact hK
theorem arrive_l (Q : jv_Q) (x2 : Int32) (g n : Nat) (e : Nat → Int32 × Int32 × Int32 × (Int × Int)) (h2 : x2.toInt = g) (hg : g ≤ n) (hn : n ≤ 24) (h0 : jv_H) (ev : Int32) (hQ : ∀ h', oT swI swL h0 h' → (h'.1 171 29).toInt = n → h'.1 171 31 = ev → (∀ j, j < n - g → enw h' j = e (j + g)) → Q (some (.int x2)) (jv_uI h' 171 29 (jv_gI h' 171 29 - x2))) : ∀ (m k : Nat) (x3 : Int32) (h : jv_H), x3.toInt = k → k + m = n → g ≤ k → MR h → oT swI swL h0 h → (h.1 171 29).toInt = n → h.1 171 31 = ev → (∀ j, j < k - g → enw h j = e (j + g)) → (∀ j, k - g ≤ j → j < n → enw h j = e j) → a_Model_arrive_33 X (d + 1) 227 Q 171 x2 x3 h 0
  | 0, k, x3, h, h3, hm, hgk, mr, o, e29, e31, c1, c2 => by
    refine r_Model_arrive_33 X (d + 1) 227 Q 171 x2 x3 h ⟨is171, fun _ => ⟨is171, is171, hQ h o e29 e31 (fun j hj => c1 j (by omega))⟩, fun z => absurd (nz_le.mpr (by rw [show (jv_gI h 171 29).toInt = _ from e29, h3]; omega)) z⟩
  | m + 1, k, x3, h, h3, hm, hgk, mr, o, e29, e31, c1, c2 => by
    have hd : (x3 - x2).toInt = ((k - g : Nat) : Int) := by rw [nz_sub_i h3 h2 (by omega) (by omega)]; omega
    refine r_Model_arrive_33 X (d + 1) 227 Q 171 x2 x3 h ⟨is171, fun z => ?_, fun _ => ⟨is171, m_wantGoes X d h _ _ x3 _ k hd h3 (by omega) (by omega) mr ?_⟩⟩
    · have := nz_le.mp z
      rw [show (jv_gI h 171 29).toInt = _ from e29, h3] at this
      omega
    · have o2 := put_sw h (k - g) (jv_gI h 190 k) (jv_gI h 191 k) (jv_gI h 192 k) (jv_gL h 188 k) (jv_gL h 189 k)
      have vk := c2 k (by omega) (by omega)
      refine arrive_l Q x2 g n e h2 hg hn h0 ev hQ m (k + 1) _ _ (nz_inc h3 (by omega)) (by omega) (by omega) (mr.mv o2) (o.tr o2) e29 e31 (fun j hj => ?_) (fun j hj1 hj2 => ?_)
      · rw [enw_put]
        by_cases z : j = k - g
        · rw [if_pos z, z, show k - g + g = k by omega]
          exact vk
        · rw [if_neg z]
          exact c1 j (by omega)
      · rw [enw_put]
        by_cases z : j = k - g
        · omega
        · rw [if_neg z]
          exact c2 j (by omega) hj2
theorem w_arrive (x : Int32) (ms : MS h Z) (bd : bdZ Z) (hK : dI h (q_arrive x Z) KI) : jI X 8 y_Model_arrive [.ref 171, .int x] 227 h KI := by
  unfold q_arrive at hK
  have hn := bd.2.1.2.2.2.2
  have wz := ms.k.wz
  refine r_Model_arrive X 7 227 _ 171 x h (c_in X 6 227 _ h _ _ _ ⟨fun y => ?_, fun y => ?_⟩)
  · rw [nz_bt, Classical.not_not, Int32.toInt_toInt64] at y
    have y : wi x 1 24 := y
    rw [if_pos y] at hK
    have go : ∀ x2 : Int32, x2.toInt = Z.k.w.gn x.toInt → a_Model_arrive_33 X 7 227 (jv_rI KI) 171 x2 x2 h 0 := fun x2 h2 => by
      have hg : Z.k.w.gn x.toInt ≤ Z.k.w.n := by
        unfold zW.gn
        split <;> omega
      refine arrive_l X 6 _ x2 (Z.k.w.gn x.toInt) Z.k.w.n Z.k.w.e h2 hg hn h Z.k.w.ev (fun h' o' a1 a2 a3 => ?_) (Z.k.w.n - Z.k.w.gn x.toInt) (Z.k.w.gn x.toInt) x2 h h2 (by omega) (Nat.le_refl _) ms.r oT.rf wz ms.k.wv (fun j hj => by omega) (fun j hj1 hj2 => ms.k.we hj2)
      have o2 := o'.uI (a := 171) (i := 29) (v := jv_gI h' 171 29 - x2) (Or.inr ⟨rfl, Or.inl rfl⟩)
      have kn := MKn.setW (W := Z.k.w.rm (Z.k.w.gn x.toInt)) ms.k o2 (by
        rw [uI_eq, nz_sub_i (show (jv_gI h' 171 29).toInt = _ from a1) h2 (by omega) (by omega)]
        show _ = ((Z.k.w.n - Z.k.w.gn x.toInt : Nat) : Int)
        omega) (by rw [uI_ne (by omega)]; exact a2) (fun j hj => a3 j hj)
      exact hK x2 h2 _ (o2.M (fun q j z => by unfold swI at z; omega) (fun q j z => by unfold swL at z; omega)) (ms.upd bd o2 (fun _ _ z => sw_b z) (fun _ _ z => swl_b z) kn)
    refine ⟨is171, fun c => ⟨is171, go _ ?_⟩, fun c => go _ ?_⟩
    · have c := nz_le.mp c
      rw [wz] at c ⊢
      unfold zW.gn
      split
      · rfl
      · omega
    · have c : ¬ (jv_gI h 171 29).toInt ≤ x.toInt := fun q => c (nz_le.mpr q)
      rw [wz] at c
      unfold zW.gn
      rw [if_neg (by omega)]
      omega
  · rw [nz_bt, Int32.toInt_toInt64] at y
    have y : ¬ wi x 1 24 := y
    rw [if_neg y] at hK
    exact hK _ rfl h oM.rf ms
end
