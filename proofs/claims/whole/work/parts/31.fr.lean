/-! ===== fractions: two numbers in one long ===== -/
/-- above the line and below it, in lowest terms; (-1, 0) is too wide -/
def fz_of (u l : Int) : Int × Int :=
  if l = 0 then (-1, 0)
  else
    if (((if l < 0 then -u else u).tdiv (Nat.gcd u.natAbs l.natAbs : Nat)).natAbs : Int) > 1000000000 ∨ ((l.natAbs / Nat.gcd u.natAbs l.natAbs : Nat) : Int) > 1000000000 then (-1, 0)
    else ((if l < 0 then -u else u).tdiv (Nat.gcd u.natAbs l.natAbs : Nat), ((l.natAbs / Nat.gcd u.natAbs l.natAbs : Nat) : Int))
/-- packed -/
def fz_p (q : Int × Int) : Int64 := Int64.ofInt (q.1 * 4294967296 + q.2)
/-- halves that fit -/
def fz_r (q : Int × Int) : Prop := (-1000000000 ≤ q.1 ∧ q.1 ≤ 1000000000) ∧ 0 ≤ q.2 ∧ q.2 ≤ 1000000000
theorem fz_p_toInt {q : Int × Int} (h : fz_r q) : (fz_p q).toInt = q.1 * 4294967296 + q.2 := by
  obtain ⟨⟨h1, h2⟩, h3, h4⟩ := h
  unfold fz_p
  exact Int64.toInt_ofInt_of_le (by omega) (by omega)
theorem fz_of_r (u l : Int) : fz_r (fz_of u l) := by
  unfold fz_of
  generalize (if l < 0 then -u else u).tdiv (Nat.gcd u.natAbs l.natAbs : Nat) = a
  generalize l.natAbs / Nat.gcd u.natAbs l.natAbs = w
  have h0 : fz_r (-1, 0) := ⟨⟨by decide, by decide⟩, by decide, by decide⟩
  by_cases h1 : l = 0
  · rw [if_pos h1]
    exact h0
  · rw [if_neg h1]
    by_cases h2 : (a.natAbs : Int) > 1000000000 ∨ (w : Int) > 1000000000
    · rw [if_pos h2]
      exact h0
    · rw [if_neg h2]
      exact ⟨⟨by show -1000000000 ≤ a; omega, by show a ≤ 1000000000; omega⟩, Int.natCast_nonneg _, by show (w : Int) ≤ 1000000000; omega⟩
theorem fz_sar (x : Int64) : (x >>> ((32 : Int32).toInt64 &&& 63)).toInt = x.toInt >>> 32 := by
  show (x.toBitVec.sshiftRight ((((32 : Int32).toInt64 &&& 63) : Int64).toBitVec.smod 64).toNat).toInt = _
  rw [show ((((32 : Int32).toInt64 &&& 63) : Int64).toBitVec.smod 64).toNat = 32 from by decide, BitVec.toInt_sshiftRight]
  rfl
theorem fz_above {q : Int × Int} (h : fz_r q) : ((fz_p q >>> ((32 : Int32).toInt64 &&& 63)).toInt32).toInt = q.1 := by
  have hp := fz_p_toInt h
  obtain ⟨⟨h1, h2⟩, h3, h4⟩ := h
  rw [Int64.toInt_toInt32, fz_sar, hp, Int.shiftRight_eq_div_pow]
  have : (q.1 * 4294967296 + q.2) / ((2 ^ 32 : Nat) : Int) = q.1 := by
    show (q.1 * 4294967296 + q.2) / 4294967296 = q.1
    omega
  rw [this]
  exact nz_bm32 (by omega) (by omega)
theorem fz_low (x : Int64) : (x &&& 4294967295).toInt32 = x.toInt32 := by
  apply Int32.toBitVec_inj.mp
  show (x.toBitVec &&& (4294967295 : Int64).toBitVec).signExtend 32 = x.toBitVec.signExtend 32
  apply BitVec.eq_of_getLsbD_eq
  intro i hi
  rw [BitVec.getLsbD_signExtend, BitVec.getLsbD_signExtend]
  have hm : (4294967295 : Int64).toBitVec.getLsbD i = true := by
    revert hi
    revert i
    decide
  simp only [hi, decide_true, Bool.true_and, if_pos (show i < 64 by omega), BitVec.getLsbD_and, hm, Bool.and_true]
theorem fz_below {q : Int × Int} (h : fz_r q) : ((fz_p q &&& 4294967295).toInt32).toInt = q.2 := by
  have hp := fz_p_toInt h
  obtain ⟨⟨h1, h2⟩, h3, h4⟩ := h
  rw [fz_low, Int64.toInt_toInt32, hp]
  show Int.bmod _ 4294967296 = _
  unfold Int.bmod
  dsimp only
  have : (q.1 * 4294967296 + q.2) % ((4294967296 : Nat) : Int) = q.2 := by
    show (q.1 * 4294967296 + q.2) % 4294967296 = q.2
    omega
  rw [this, if_pos (by show q.2 < ((4294967296 : Nat) + 1) / 2; omega)]
/-- two numbers that fit, packed -/
theorem fz_pack {a b : Int64} {q : Int × Int} (h : fz_r q) (ha : a.toInt = q.1) (hb : b.toInt = q.2) : (a <<< ((32 : Int32).toInt64 &&& 63)) ||| b = fz_p q := by
  have hp := fz_p_toInt h
  obtain ⟨⟨h1, h2⟩, h3, h4⟩ := h
  apply Int64.toInt_inj.mp
  rw [hp]
  show (a.toBitVec <<< ((((32 : Int32).toInt64 &&& 63) : Int64).toBitVec.smod 64).toNat ||| b.toBitVec).toInt = _
  rw [show ((((32 : Int32).toInt64 &&& 63) : Int64).toBitVec.smod 64).toNat = 32 from by decide]
  have hbn : b.toBitVec.toNat < 2 ^ 32 := by
    have e : b.toBitVec.toInt = q.2 := hb
    rw [BitVec.toInt_eq_toNat_cond] at e
    split at e <;> omega
  have hz : (a.toBitVec <<< 32) &&& b.toBitVec = 0#64 := by
    apply BitVec.eq_of_getLsbD_eq
    intro i hi
    rw [BitVec.getLsbD_and, BitVec.getLsbD_shiftLeft]
    by_cases hi2 : i < 32
    · simp [hi2]
    · have : b.toBitVec.getLsbD i = false := by
        rw [BitVec.getLsbD]
        exact Nat.testBit_lt_two_pow (Nat.lt_of_lt_of_le hbn (Nat.pow_le_pow_right (by decide) (by omega)))
      simp [this]
  rw [← BitVec.add_eq_or_of_and_eq_zero _ _ hz, BitVec.toInt_add, BitVec.toInt_shiftLeft]
  have e1 : b.toBitVec.toInt = q.2 := hb
  have e2 : a.toBitVec.toInt = q.1 := ha
  rw [e1]
  have e3 : ((a.toBitVec.toNat <<< 32 : Nat) : Int).bmod (2 ^ 64) = q.1 * 4294967296 := by
    rw [BitVec.toInt_eq_toNat_bmod] at e2
    rw [Nat.shiftLeft_eq, Int.natCast_mul, ← Int.bmod_mul_bmod, e2]
    exact nz_bm64 (by show _ ≤ q.1 * 4294967296; omega) (by show q.1 * 4294967296 < _; omega)
  rw [e3]
  exact nz_bm64 (by omega) (by omega)
