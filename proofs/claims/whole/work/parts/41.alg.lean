/-! ===== fractions: what is in lowest terms, what is too wide ===== -/
def gd (q : Int × Int) : Prop := gz q ∧ fz_of q.1 q.2 = q
theorem gd.z {q : Int × Int} (h : gd q) : gz q := h.1
theorem gd.r {q : Int × Int} (h : gd q) : fz_r q := h.1.r
theorem gd.nw {q : Int × Int} (h : gd q) : q ≠ (-1, 0) := fun z => by
  have := h.1.2.1
  rw [z] at this
  exact absurd this (by decide)
theorem gd_0 : gd (0, 1) := ⟨gz_0, by decide⟩
theorem gd_1 : gd (1, 1) := ⟨gz_1, by decide⟩
theorem fz_of_W (u : Int) : fz_of u 0 = (-1, 0) := by
  unfold fz_of
  rw [if_pos rfl]
/-- what comes of a fraction in lowest terms taken so many times -/
theorem fz_of_mul {k u l : Int} (hk : k ≠ 0) : fz_of (k * u) (k * l) = fz_of u l := by
  unfold fz_of
  by_cases hl : l = 0
  · rw [if_pos hl, if_pos (by rw [hl]; simp)]
  · have hkl : k * l ≠ 0 := fun z => (Int.mul_eq_zero.mp z).elim hk hl
    rw [if_neg hl, if_neg hkl]
    have hK : 0 < k.natAbs := by omega
    have eg : Nat.gcd (k * u).natAbs (k * l).natAbs = k.natAbs * Nat.gcd u.natAbs l.natAbs := by rw [Int.natAbs_mul, Int.natAbs_mul, Nat.gcd_mul_left]
    have el : (k * l).natAbs / Nat.gcd (k * u).natAbs (k * l).natAbs = l.natAbs / Nat.gcd u.natAbs l.natAbs := by rw [eg, Int.natAbs_mul, Nat.mul_div_mul_left _ _ hK]
    have eu : (if k * l < 0 then -(k * u) else k * u).tdiv (Nat.gcd (k * u).natAbs (k * l).natAbs : Nat) = (if l < 0 then -u else u).tdiv (Nat.gcd u.natAbs l.natAbs : Nat) := by
      rw [eg]
      have key : ∀ t : Int, (k * t).tdiv ((k.natAbs * Nat.gcd u.natAbs l.natAbs : Nat) : Int) = if 0 < k then t.tdiv (Nat.gcd u.natAbs l.natAbs : Nat) else (-t).tdiv (Nat.gcd u.natAbs l.natAbs : Nat) := by
        intro t
        push_cast
        by_cases h0 : 0 < k
        · rw [if_pos h0, show (k.natAbs : Int) = k by omega, Int.mul_tdiv_mul_of_pos _ _ h0]
        · rw [if_neg h0, show k * t = (k.natAbs : Int) * (-t) by rw [show (k.natAbs : Int) = -k by omega, Int.neg_mul_neg], Int.mul_tdiv_mul_of_pos _ _ (by omega)]
      by_cases h0 : 0 < k
      · by_cases h1 : l < 0
        · rw [if_pos h1, if_pos (Int.mul_neg_of_pos_of_neg h0 h1), ← Int.mul_neg, key, if_pos h0]
        · have : ¬ k * l < 0 := by
            have := Int.mul_nonneg (show 0 ≤ k by omega) (show 0 ≤ l by omega)
            omega
          rw [if_neg h1, if_neg this, key, if_pos h0]
      · by_cases h1 : l < 0
        · have : ¬ k * l < 0 := by
            have := Int.mul_nonneg_of_nonpos_of_nonpos (show k ≤ 0 by omega) (show l ≤ 0 by omega)
            omega
          rw [if_pos h1, if_neg this, key, if_neg h0]
        · have : k * l < 0 := Int.mul_neg_of_neg_of_pos (by omega) (by omega)
          rw [if_neg h1, if_pos this, ← Int.mul_neg, key, if_neg h0, Int.neg_neg]
    rw [el, eu]
/-- what isn't too wide is in lowest terms, and a multiple of it was given -/
theorem fz_of_ok {u l : Int} (h : fz_of u l ≠ (-1, 0)) : gz (fz_of u l) ∧ ∃ g : Int, g ≠ 0 ∧ u = g * (fz_of u l).1 ∧ l = g * (fz_of u l).2 := by
  have hl : l ≠ 0 := fun z => h (by rw [z, fz_of_W])
  have hr := fz_of_r u l
  have hn := fun y => h ((fz_of_ne hl).mpr y)
  have hG : 0 < Nat.gcd u.natAbs l.natAbs := Nat.gcd_pos_of_pos_right _ (by omega)
  have hpos : 0 < l.natAbs / Nat.gcd u.natAbs l.natAbs := Nat.div_pos (Nat.le_of_dvd (by omega) (Nat.gcd_dvd_right _ _)) hG
  have e : fz_of u l = ((if l < 0 then -u else u).tdiv (Nat.gcd u.natAbs l.natAbs : Nat), ((l.natAbs / Nat.gcd u.natAbs l.natAbs : Nat) : Int)) := by
    unfold fz_of
    rw [if_neg hl, if_neg hn]
  have du : ((Nat.gcd u.natAbs l.natAbs : Nat) : Int) ∣ u := Int.ofNat_dvd_left.mpr (Nat.gcd_dvd_left _ _)
  have dl : Nat.gcd u.natAbs l.natAbs * (l.natAbs / Nat.gcd u.natAbs l.natAbs) = l.natAbs := Nat.mul_div_cancel' (Nat.gcd_dvd_right _ _)
  rw [e] at hr ⊢
  refine ⟨⟨hr.1, by show (1 : Int) ≤ ((l.natAbs / Nat.gcd u.natAbs l.natAbs : Nat) : Int); omega, hr.2.2⟩, ?_⟩
  generalize Nat.gcd u.natAbs l.natAbs = G at *
  dsimp only
  by_cases h1 : l < 0
  · refine ⟨-(G : Int), by omega, ?_, ?_⟩
    · rw [if_pos h1, Int.neg_tdiv, Int.neg_mul_neg, Int.mul_tdiv_cancel' du]
    · rw [Int.neg_mul]
      have : ((G * (l.natAbs / G) : Nat) : Int) = (l.natAbs : Int) := by rw [dl]
      push_cast at this
      push_cast
      rw [this]
      omega
  · refine ⟨(G : Int), by omega, ?_, ?_⟩
    · rw [if_neg h1, Int.mul_tdiv_cancel' du]
    · have : ((G * (l.natAbs / G) : Nat) : Int) = (l.natAbs : Int) := by rw [dl]
      push_cast at this
      push_cast
      rw [this]
      omega
theorem fz_of_gd {u l : Int} (h : fz_of u l ≠ (-1, 0)) : gd (fz_of u l) := by
  obtain ⟨h1, g, hg, e1, e2⟩ := fz_of_ok h
  refine ⟨h1, ?_⟩
  rw [← fz_of_mul (k := g) (u := (fz_of u l).1) hg, ← e1, ← e2]
theorem rz_gd {w : Bool} {u l : Int} : gd (rz w (fz_of u l)).2 := by
  unfold rz
  split
  · exact gd_0
  · rename_i h
    exact fz_of_gd (fun z => h (Or.inr z))
theorem rz_sum {w : Bool} {p q : Int × Int} : gd (rz w (fz_sum p q)).2 := rz_gd
theorem rz_sub {w : Bool} {p q : Int × Int} : gd (rz w (fz_sub p q)).2 := rz_gd
theorem rz_mul {w : Bool} {p q : Int × Int} : gd (rz w (fz_mul p q)).2 := rz_gd
theorem rz_ovr {w : Bool} {p q : Int × Int} (hq : gz q) : gd (rz w (fz_ovr p q)).2 := by
  unfold fz_ovr
  split
  · exact rz_gd
  · rw [fz_quo_of hq]
    exact rz_gd
theorem rz_t {q : Int × Int} : rz true q = (true, (0, 1)) := if_pos (Or.inl rfl)
theorem rz_W {w : Bool} : rz w (-1, 0) = (true, (0, 1)) := if_pos (Or.inr rfl)
theorem rz_f {q : Int × Int} (h : q ≠ (-1, 0)) : rz false q = (false, q) := if_neg (fun z => z.elim (fun y => by cases y) h)
/-- what too wide makes of the rest -/
theorem fz_sum_W1 (q : Int × Int) : fz_sum (-1, 0) q = (-1, 0) := by unfold fz_sum; simp only [Int.zero_mul]; exact fz_of_W _
theorem fz_sum_W2 (q : Int × Int) : fz_sum q (-1, 0) = (-1, 0) := by unfold fz_sum; simp only [Int.mul_zero]; exact fz_of_W _
theorem fz_sub_W1 (q : Int × Int) : fz_sub (-1, 0) q = (-1, 0) := by unfold fz_sub; simp only [Int.zero_mul]; exact fz_of_W _
theorem fz_sub_W2 (q : Int × Int) : fz_sub q (-1, 0) = (-1, 0) := by unfold fz_sub; simp only [Int.mul_zero]; exact fz_of_W _
theorem fz_mul_W1 (q : Int × Int) : fz_mul (-1, 0) q = (-1, 0) := by unfold fz_mul; simp only [Int.zero_mul]; exact fz_of_W _
theorem fz_mul_W2 (q : Int × Int) : fz_mul q (-1, 0) = (-1, 0) := by unfold fz_mul; simp only [Int.mul_zero]; exact fz_of_W _
theorem fz_quo_W1 (q : Int × Int) : fz_quo (-1, 0) q = (-1, 0) := by
  unfold fz_quo
  split
  · rfl
  · simp only [Int.zero_mul]; exact fz_of_W _
theorem fz_quo_W2 (q : Int × Int) : fz_quo q (-1, 0) = (-1, 0) := if_pos rfl
theorem fz_inv_W : fz_inv (-1, 0) = (-1, 0) := if_pos rfl
theorem fz_neg_W : fz_neg (-1, 0) = (-1, 0) := fz_sub_W2 _
theorem fz_sum_0 {p : Int × Int} (h : gd p) : fz_sum p (0, 1) = p := by
  unfold fz_sum
  simp only [Int.mul_one, Int.zero_mul, Int.add_zero]
  exact h.2
theorem fz_0_sum {p : Int × Int} (h : gd p) : fz_sum (0, 1) p = p := by
  unfold fz_sum
  simp only [Int.mul_one, Int.zero_mul, Int.zero_add, Int.one_mul]
  exact h.2
theorem fz_sub_0 {p : Int × Int} (h : gd p) : fz_sub p (0, 1) = p := by
  unfold fz_sub
  simp only [Int.mul_one, Int.zero_mul, Int.sub_zero]
  exact h.2
theorem fz_of_0 {l : Int} (h : l ≠ 0) : fz_of 0 l = (0, 1) := by
  have := fz_of_mul (k := l) (u := 0) (l := 1) h
  rw [Int.mul_zero, Int.mul_one] at this
  rw [this]
  decide
theorem fz_mul_0 {p : Int × Int} (h : gz p) : fz_mul p (0, 1) = (0, 1) := by
  unfold fz_mul
  simp only [Int.mul_one, Int.mul_zero]
  exact fz_of_0 (by have := h.2.1; omega)
theorem fz_1_mul {p : Int × Int} (h : gd p) : fz_mul (1, 1) p = p := by
  unfold fz_mul
  simp only [Int.one_mul]
  exact h.2
theorem fz_sum_c (p q : Int × Int) : fz_sum p q = fz_sum q p := by
  unfold fz_sum
  rw [Int.add_comm, Int.mul_comm p.2]
theorem fz_mul_c (p q : Int × Int) : fz_mul p q = fz_mul q p := by
  unfold fz_mul
  rw [Int.mul_comm p.1, Int.mul_comm p.2]
/-- a number of two halves in place of its lowest terms -/
theorem fz_mul_of {p : Int × Int} {a b : Int} (h : fz_of a b ≠ (-1, 0)) : fz_mul p (fz_of a b) = fz_mul p (a, b) := by
  obtain ⟨-, g, hg, e1, e2⟩ := fz_of_ok h
  unfold fz_mul
  dsimp only
  generalize fz_of a b = r at h e1 e2 ⊢
  subst e1 e2
  rw [show p.1 * (g * r.1) = g * (p.1 * r.1) by rw [Int.mul_left_comm], show p.2 * (g * r.2) = g * (p.2 * r.2) by rw [Int.mul_left_comm], fz_of_mul hg]
theorem fz_quo_of2 {p : Int × Int} {a b : Int} (h : fz_of a b ≠ (-1, 0)) (hb : b ≠ 0) : fz_quo p (fz_of a b) = fz_quo p (a, b) := by
  obtain ⟨h1, g, hg, e1, e2⟩ := fz_of_ok h
  rw [fz_quo_of h1]
  unfold fz_quo
  dsimp only
  rw [if_neg hb]
  generalize fz_of a b = r at h e1 e2 ⊢
  subst e1 e2
  rw [show p.1 * (g * r.2) = g * (p.1 * r.2) by rw [Int.mul_left_comm], show p.2 * (g * r.1) = g * (p.2 * r.1) by rw [Int.mul_left_comm], fz_of_mul hg]
theorem fz_quo_of1 {q : Int × Int} {a b : Int} (h : fz_of a b ≠ (-1, 0)) : fz_quo (fz_of a b) q = fz_quo (a, b) q := by
  obtain ⟨h1, g, hg, e1, e2⟩ := fz_of_ok h
  unfold fz_quo
  dsimp only
  split
  · rfl
  · generalize fz_of a b = r at h e1 e2 ⊢
    subst e1 e2
    rw [Int.mul_assoc, Int.mul_assoc, fz_of_mul hg]
/-- what is told is never too wide -/
theorem fz_told {a b : Int} (ha : 1 ≤ a ∧ a ≤ 9999) (hb : 1 ≤ b ∧ b ≤ 9999) : gd (fz_of a b) ∧ 1 ≤ (fz_of a b).1 ∧ (fz_of a b).1 ≤ 9999 ∧ (fz_of a b).2 ≤ 9999 := by
  have hne : fz_of a b ≠ (-1, 0) := by
    intro z
    have := (fz_of_ne (u := a) (l := b) (by omega)).mp z
    have h1 := nz_tdiv_le (if b < 0 then -a else a) (Nat.gcd a.natAbs b.natAbs)
    rw [if_neg (by omega)] at h1 this
    have h2 : b.natAbs / Nat.gcd a.natAbs b.natAbs ≤ b.natAbs := Nat.div_le_self _ _
    omega
  obtain ⟨h1, g, hg, e1, e2⟩ := fz_of_ok hne
  have hgp : 0 < g := by
    rcases Int.lt_or_gt_of_ne hg with y | y
    · have := Int.mul_neg_of_neg_of_pos y (show 0 < (fz_of a b).2 by have := h1.2.1; omega)
      omega
    · exact y
  have hp : 1 ≤ (fz_of a b).1 := by
    by_cases y : (fz_of a b).1 < 1
    · have := Int.mul_le_mul_of_nonneg_left (show (fz_of a b).1 ≤ 0 by omega) (show 0 ≤ g by omega)
      omega
    · omega
  refine ⟨fz_of_gd hne, hp, ?_, ?_⟩
  · have := Int.mul_le_mul_of_nonneg_right (show 1 ≤ g by omega) (show 0 ≤ (fz_of a b).1 by omega)
    omega
  · have := Int.mul_le_mul_of_nonneg_right (show 1 ≤ g by omega) (show 0 ≤ (fz_of a b).2 by have := h1.2.1; omega)
    omega
/-- a fraction of positive halves is above nothing -/
theorem fz_of_pos {u l : Int} (hu : 1 ≤ u) (hl : 1 ≤ l) (h : fz_of u l ≠ (-1, 0)) : 1 ≤ (fz_of u l).1 := by
  obtain ⟨h1, g, hg, e1, e2⟩ := fz_of_ok h
  have hgp : 0 < g := by
    rcases Int.lt_or_gt_of_ne hg with y | y
    · have := Int.mul_neg_of_neg_of_pos y (show 0 < (fz_of u l).2 by have := h1.2.1; omega)
      omega
    · exact y
  by_cases y : (fz_of u l).1 < 1
  · have := Int.mul_le_mul_of_nonneg_left (show (fz_of u l).1 ≤ 0 by omega) (show 0 ≤ g by omega)
    omega
  · omega
/-- above nothing, in lowest terms -/
def gp (q : Int × Int) : Prop := gd q ∧ 1 ≤ q.1
theorem nz_mp {a b : Int} (ha : 1 ≤ a) (hb : 1 ≤ b) : 1 ≤ a * b := by
  have := Int.mul_le_mul ha hb (by decide) (by omega)
  omega
theorem fz_mul_p {p q : Int × Int} (hp : gp p) (hq : gp q) (h : fz_mul p q ≠ (-1, 0)) : gp (fz_mul p q) := ⟨fz_of_gd h, fz_of_pos (nz_mp hp.2 hq.2) (nz_mp hp.1.1.2.1 hq.1.1.2.1) h⟩
theorem fz_quo_p {p q : Int × Int} (hp : gp p) (hq : gp q) (h : fz_quo p q ≠ (-1, 0)) : gp (fz_quo p q) := by
  rw [fz_quo_of hq.1.z] at h ⊢
  exact ⟨fz_of_gd h, fz_of_pos (nz_mp hp.2 hq.1.1.2.1) (nz_mp hp.1.1.2.1 hq.2) h⟩
theorem fz_inv_p {p : Int × Int} (hp : gp p) : fz_inv p = (p.2, p.1) ∧ gp (p.2, p.1) := by
  have e : fz_inv p = fz_of p.2 p.1 := if_neg (by have := hp.1.1.2.1; omega)
  have hr : gz (p.2, p.1) := ⟨⟨by have := hp.1.1.2; dsimp only; omega, hp.1.1.2.2⟩, hp.2, hp.1.1.1.2⟩
  have hg : Nat.gcd p.1.natAbs p.2.natAbs = 1 := by
    have h1 := hp.1.2
    have hl : p.2 ≠ 0 := by have := hp.1.1.2.1; omega
    have hn : ¬ _ := fun y => hp.1.nw (by rw [← h1]; exact (fz_of_ne hl).mpr y)
    unfold fz_of at h1
    rw [if_neg hl, if_neg hn] at h1
    have h2 := congrArg Prod.snd h1
    dsimp only at h2
    have h3 : p.2.natAbs / Nat.gcd p.1.natAbs p.2.natAbs = p.2.natAbs := by
      have hz := hp.1.1.2.1
      generalize p.2.natAbs / Nat.gcd p.1.natAbs p.2.natAbs = t at h2 ⊢
      omega
    have h4 : Nat.gcd p.1.natAbs p.2.natAbs * (p.2.natAbs / Nat.gcd p.1.natAbs p.2.natAbs) = p.2.natAbs := Nat.mul_div_cancel' (Nat.gcd_dvd_right _ _)
    rw [h3] at h4
    exact Nat.eq_of_mul_eq_mul_right (show 0 < p.2.natAbs by omega) (by rw [h4, Nat.one_mul])
  have e2 : fz_of p.2 p.1 = (p.2, p.1) := by
    unfold fz_of
    have h1 := hp.2
    have h2 := hp.1.1
    have e3 : Nat.gcd p.2.natAbs p.1.natAbs = 1 := by rw [Nat.gcd_comm]; exact hg
    rw [if_neg (by omega), e3, if_neg (by omega : ¬ p.1 < 0)]
    simp only [Nat.div_one]
    rw [show (p.2).tdiv ((1 : Nat) : Int) = p.2 from Int.tdiv_one _, if_neg (by have := h2.1; have := h2.2; omega)]
    congr 1
    omega
  exact ⟨by rw [e, e2], ⟨hr, e2⟩, by have := hp.1.1.2.1; exact this⟩
