/-! ===== values in their order; the unlike ones ===== -/
def flt (a b : Int × Int) : Prop := a.1 * b.2 < b.1 * a.2
def fle (a b : Int × Int) : Prop := a.1 * b.2 ≤ b.1 * a.2
theorem cmp_lt {a b : Int × Int} : (fz_cmp a b).toInt < 0 ↔ flt a b := by
  have m1 : (-1 : Int32).toInt = -1 := rfl
  have m0 : (0 : Int32).toInt = 0 := rfl
  have mm : (1 : Int32).toInt = 1 := rfl
  unfold fz_cmp flt
  by_cases c1 : a.1 * b.2 < b.1 * a.2
  · rw [if_pos c1, m1]
    omega
  · rw [if_neg c1]
    by_cases c2 : a.1 * b.2 = b.1 * a.2
    · rw [if_pos c2, m0]
      omega
    · rw [if_neg c2, mm]
      omega
theorem cmp_gt {a b : Int × Int} : 0 < (fz_cmp a b).toInt ↔ flt b a := by
  have m1 : (-1 : Int32).toInt = -1 := rfl
  have m0 : (0 : Int32).toInt = 0 := rfl
  have mm : (1 : Int32).toInt = 1 := rfl
  unfold fz_cmp flt
  by_cases c1 : a.1 * b.2 < b.1 * a.2
  · rw [if_pos c1, m1]
    omega
  · rw [if_neg c1]
    by_cases c2 : a.1 * b.2 = b.1 * a.2
    · rw [if_pos c2, m0]
      omega
    · rw [if_neg c2, mm]
      omega
theorem fle_n {a b : Int × Int} : fle a b ↔ ¬ flt b a := by
  unfold fle flt
  omega
theorem fle_rf (a : Int × Int) : fle a a := Int.le_refl _
theorem fle_tr {a b c : Int × Int} (ha : 1 ≤ a.2) (hb : 1 ≤ b.2) (hc : 1 ≤ c.2) (h1 : fle a b) (h2 : fle b c) : fle a c := by
  unfold fle at *
  have e1 := Int.mul_le_mul_of_nonneg_right h1 (show 0 ≤ c.2 by omega)
  have e2 := Int.mul_le_mul_of_nonneg_right h2 (show 0 ≤ a.2 by omega)
  have r1 : a.1 * b.2 * c.2 = a.1 * c.2 * b.2 := by rw [Int.mul_assoc, Int.mul_comm b.2, ← Int.mul_assoc]
  have r2 : b.1 * a.2 * c.2 = b.1 * c.2 * a.2 := by rw [Int.mul_assoc, Int.mul_comm a.2, ← Int.mul_assoc]
  have r3 : c.1 * b.2 * a.2 = c.1 * a.2 * b.2 := by rw [Int.mul_assoc, Int.mul_comm b.2, ← Int.mul_assoc]
  rw [r1, r2] at e1
  rw [r3] at e2
  exact Int.le_of_mul_le_mul_right (Int.le_trans e1 e2) (by omega)
theorem flt_tr {a b c : Int × Int} (ha : 1 ≤ a.2) (hb : 1 ≤ b.2) (hc : 1 ≤ c.2) (h1 : flt a b) (h2 : flt b c) : flt a c := by
  apply Classical.byContradiction
  intro z
  have z' := fle_n.mpr z
  have h3 := fle_tr hb hc ha (fle_n.mpr (fun y => by unfold flt at *; omega)) z'
  exact fle_n.mp h3 h1
theorem flt_an {a b : Int × Int} (ha : gd a) (hb : gd b) (h1 : fle a b) (h2 : fle b a) : a = b := by
  have a2 := ha.1.2.1
  have b2 := hb.1.2.1
  have e : a.1 * b.2 = b.1 * a.2 := by unfold fle at *; omega
  rw [← ha.2, ← hb.2, ← fz_of_mul (k := b.2) (u := a.1) (l := a.2) (by omega), ← fz_of_mul (k := a.2) (u := b.1) (l := b.2) (by omega), Int.mul_comm b.2 a.1, e, Int.mul_comm a.2 b.1, Int.mul_comm b.2 a.2]
theorem gb1_s (L : zL) (s : Int32) (lim : Int × Int) (hd : ∀ j, j < L.sz → 1 ≤ (L.va j).2) : ∀ (m k : Nat) (g : Int × Int), k + m ≤ L.sz → 1 ≤ g.2 → 1 ≤ (gb1 L s lim m k g).2 ∧ fle g (gb1 L s lim m k g) ∧ (gb1 L s lim m k g = g ∨ ∃ j, j < L.sz ∧ L.so j = s ∧ L.va j = gb1 L s lim m k g ∧ flt (gb1 L s lim m k g) lim) ∧ ∀ j, k ≤ j → j < k + m → L.so j = s → flt (L.va j) lim → fle (L.va j) (gb1 L s lim m k g)
  | 0, k, g, _, hg => ⟨hg, fle_rf g, Or.inl rfl, fun j h1 h2 => by omega⟩
  | m + 1, k, g, hk, hg => by
    have e : gb1 L s lim (m + 1) k g = gb1 L s lim m (k + 1) (if L.so k = s ∧ (fz_cmp (L.va k) lim).toInt < 0 ∧ 0 < (fz_cmp (L.va k) g).toInt then L.va k else g) := rfl
    rw [e]
    have dk := hd k (by omega)
    by_cases c : L.so k = s ∧ (fz_cmp (L.va k) lim).toInt < 0 ∧ 0 < (fz_cmp (L.va k) g).toInt
    · rw [if_pos c]
      obtain ⟨i1, i2, i3, i4⟩ := gb1_s L s lim hd m (k + 1) (L.va k) (by omega) dk
      have gl : fle g (L.va k) := by
        have := cmp_gt.mp c.2.2
        unfold flt at this
        unfold fle
        omega
      refine ⟨i1, fle_tr hg dk i1 gl i2, ?_, fun j h1 h2 h3 h4 => ?_⟩
      · rcases i3 with z | z
        · rw [z]
          exact Or.inr ⟨k, by omega, c.1, rfl, cmp_lt.mp c.2.1⟩
        · exact Or.inr z
      · by_cases ej : j = k
        · rw [ej]; exact i2
        · exact i4 j (by omega) (by omega) h3 h4
    · rw [if_neg c]
      obtain ⟨i1, i2, i3, i4⟩ := gb1_s L s lim hd m (k + 1) g (by omega) hg
      refine ⟨i1, i2, i3, fun j h1 h2 h3 h4 => ?_⟩
      by_cases ej : j = k
      · rw [ej] at h3 h4 ⊢
        have : fle (L.va k) g := fle_n.mpr (fun z => c ⟨h3, cmp_lt.mpr h4, cmp_gt.mpr z⟩)
        exact fle_tr dk hg i1 this i2
      · exact i4 j (by omega) (by omega) h3 h4
def inK (K : zK) (s : Int32) (v : Int × Int) : Prop := ∃ l, l < K.nl ∧ ∃ j, j < (K.L l).sz ∧ (K.L l).so j = s ∧ (K.L l).va j = v
theorem gb2_s (K : zK) (s : Int32) (lim : Int × Int) (hd : ∀ l, l < K.nl → ∀ j, j < (K.L l).sz → 1 ≤ ((K.L l).va j).2) : ∀ (m n : Nat) (g : Int × Int), n + m ≤ K.nl → 1 ≤ g.2 → 1 ≤ (gb2 K.L s lim m n g).2 ∧ fle g (gb2 K.L s lim m n g) ∧ (gb2 K.L s lim m n g = g ∨ inK K s (gb2 K.L s lim m n g) ∧ flt (gb2 K.L s lim m n g) lim) ∧ ∀ l, n ≤ l → l < n + m → ∀ j, j < (K.L l).sz → (K.L l).so j = s → flt ((K.L l).va j) lim → fle ((K.L l).va j) (gb2 K.L s lim m n g)
  | 0, n, g, _, hg => ⟨hg, fle_rf g, Or.inl rfl, fun l h1 h2 => by omega⟩
  | m + 1, n, g, hn, hg => by
    have e : gb2 K.L s lim (m + 1) n g = gb2 K.L s lim m (n + 1) (gb1 (K.L n) s lim (K.L n).sz 0 g) := rfl
    rw [e]
    obtain ⟨a1, a2, a3, a4⟩ := gb1_s (K.L n) s lim (hd n (by omega)) (K.L n).sz 0 g (by omega) hg
    obtain ⟨i1, i2, i3, i4⟩ := gb2_s K s lim hd m (n + 1) _ (by omega) a1
    refine ⟨i1, fle_tr hg a1 i1 a2 i2, ?_, fun l h1 h2 j h3 h4 h5 => ?_⟩
    · rcases i3 with z | z
      · rw [z]
        rcases a3 with y | ⟨j, y1, y2, y3, y4⟩
        · exact Or.inl y
        · exact Or.inr ⟨⟨n, by omega, j, y1, y2, y3⟩, y4⟩
      · exact Or.inr z
    · by_cases el : l = n
      · rw [el] at h3 h4 h5 ⊢
        exact fle_tr (hd n (by omega) j h3) a1 i1 (a4 j (by omega) (by omega) h4 h5) i2
      · exact i4 l (by omega) (by omega) j h3 h4 h5
theorem gb_s (K : zK) (s : Int32) (lim : Int × Int) (hd : ∀ l, l < K.nl → ∀ j, j < (K.L l).sz → gp ((K.L l).va j)) : (K.gb s lim = (0, 1) ∨ inK K s (K.gb s lim) ∧ flt (K.gb s lim) lim) ∧ ∀ v, inK K s v → flt v lim → fle v (K.gb s lim) := by
  obtain ⟨i1, i2, i3, i4⟩ := gb2_s K s lim (fun l hl j hj => (hd l hl j hj).1.1.2.1) K.nl 0 (0, 1) (by omega) (by decide)
  refine ⟨i3, fun v hv h => ?_⟩
  obtain ⟨l, h1, j, h2, h3, h4⟩ := hv
  rw [← h4] at h ⊢
  exact i4 l (by omega) (by omega) j h2 h3 h
/-- the unlike ones of a sort, from the greatest on -/
def unl (K : zK) (s : Int32) (U : Nat → Int × Int) (c : Nat) : Prop := (∀ k, k < c → inK K s (U k)) ∧ (∀ v, inK K s v → ∃ k, k < c ∧ U k = v) ∧ ∀ i j, i < j → j < c → flt (U j) (U i)
theorem un_U {K : zK} {s : Int32} {U : Nat → Int × Int} {c : Nat} (hd : ∀ l, l < K.nl → ∀ j, j < (K.L l).sz → gp ((K.L l).va j)) (hU : unl K s U c) : ∀ k, (k < c → K.un s k = U k) ∧ (k = c → K.un s k = (0, 1)) := by
  obtain ⟨u1, u2, u3⟩ := hU
  have inp : ∀ v, inK K s v → gp v := fun v hv => by
    obtain ⟨l, h1, j, h2, h3, h4⟩ := hv
    rw [← h4]; exact hd l h1 j h2
  have n01 : ∀ v, gp v → ¬ fle v (0, 1) := fun v hv z => by
    have := hv.2
    unfold fle at z
    have z : v.1 * 1 ≤ 0 * v.2 := z
    omega
  have asym : ∀ i j, i < c → j < c → flt (U j) (U i) → i < j := fun i j hi hj hl => by
    apply Classical.byContradiction
    intro z
    by_cases e : i = j
    · rw [e] at hl
      unfold flt at hl
      omega
    · have := u3 j i (by omega) hi
      unfold flt at this hl
      omega
  intro k
  induction k with
  | zero =>
    have g := gb_s K s (1, 0) hd
    have e : K.un s 0 = K.gb s (1, 0) := rfl
    rw [e]
    refine ⟨fun hc => ?_, fun hc => ?_⟩
    · have p := inp _ (u1 0 hc)
      have l1 : flt (U 0) (1, 0) := by
        have := p.1.1.2.1
        show (U 0).1 * 0 < 1 * (U 0).2
        omega
      have l2 := g.2 _ (u1 0 hc) l1
      rcases g.1 with z | ⟨z, _⟩
      · rw [z] at l2
        exact absurd l2 (n01 _ p)
      · obtain ⟨i, hi, ei⟩ := u2 _ z
        rw [← ei] at l2 ⊢
        by_cases e0 : i = 0
        · rw [e0]
        · exact absurd (u3 0 i (by omega) hi) (fle_n.mp l2)
    · rcases g.1 with z | ⟨z, _⟩
      · exact z
      · obtain ⟨i, hi, ei⟩ := u2 _ z
        omega
  | succ k ih =>
    refine ⟨fun hc => ?_, fun hc => ?_⟩
    · have ek := ih.1 (by omega)
      have pk := inp _ (u1 k (by omega))
      have n0 : ¬ K.un s k = (0, 1) := fun z => by
        rw [ek] at z
        have := pk.2
        rw [z] at this
        exact absurd this (by decide)
      have e : K.un s (k + 1) = K.gb s (K.un s k) := if_neg n0
      rw [e, ek]
      have g := gb_s K s (U k) hd
      have l2 := g.2 _ (u1 (k + 1) hc) (u3 k (k + 1) (by omega) hc)
      rcases g.1 with z | ⟨z, zl⟩
      · rw [z] at l2
        exact absurd l2 (n01 _ (inp _ (u1 (k + 1) hc)))
      · obtain ⟨i, hi, ei⟩ := u2 _ z
        rw [← ei] at l2 zl ⊢
        have hik := asym k i (by omega) hi zl
        by_cases e1 : i = k + 1
        · rw [e1]
        · exact absurd (u3 (k + 1) i (by omega) hi) (fle_n.mp l2)
    · have ek := ih.1 (by omega)
      have pk := inp _ (u1 k (by omega))
      have n0 : ¬ K.un s k = (0, 1) := fun z => by
        rw [ek] at z
        have := pk.2
        rw [z] at this
        exact absurd this (by decide)
      have e : K.un s (k + 1) = K.gb s (K.un s k) := if_neg n0
      rw [e, ek]
      have g := gb_s K s (U k) hd
      rcases g.1 with z | ⟨z, zl⟩
      · exact z
      · obtain ⟨i, hi, ei⟩ := u2 _ z
        rw [← ei] at zl
        have hik := asym k i (by omega) hi zl
        omega
theorem uc_U {K : zK} {s : Int32} {U : Nat → Int × Int} {c : Nat} (hd : ∀ l, l < K.nl → ∀ j, j < (K.L l).sz → gp ((K.L l).va j)) (hU : unl K s U c) : ∀ m k, k ≤ c → c ≤ k + m → K.uc s m k = c
  | 0, k, h1, h2 => by
    show k = c
    omega
  | m + 1, k, h1, h2 => by
    have u := un_U hd hU k
    show (if K.un s k = (0, 1) then k else K.uc s m (k + 1)) = c
    by_cases e : k = c
    · rw [if_pos (u.2 e), e]
    · have ek := u.1 (by omega)
      have pk : gp (U k) := by
        obtain ⟨l, a1, j, a2, a3, a4⟩ := hU.1 k (by omega)
        rw [← a4]; exact hd l a1 j a2
      rw [if_neg (fun z => by rw [ek] at z; have := pk.2; rw [z] at this; exact absurd this (by decide))]
      exact uc_U hd hU m (k + 1) (by omega) (by omega)
