/-! ===== numbers: sums and products that don't leave their type ===== -/
theorem nz_i32 (a : Int32) : -2147483648 ≤ a.toInt ∧ a.toInt < 2147483648 := ⟨a.le_toInt, a.toInt_lt⟩
theorem nz_i64 (a : Int64) : -9223372036854775808 ≤ a.toInt ∧ a.toInt < 9223372036854775808 := ⟨a.le_toInt, a.toInt_lt⟩
theorem nz_bm64 {z : Int} (h1 : -9223372036854775808 ≤ z) (h2 : z < 9223372036854775808) : z.bmod (2 ^ 64) = z := Int.bmod_eq_of_le (by omega) (by omega)
theorem nz_bm32 {z : Int} (h1 : -2147483648 ≤ z) (h2 : z < 2147483648) : z.bmod (2 ^ 32) = z := Int.bmod_eq_of_le (by omega) (by omega)
theorem nz_add {a b : Int64} (h1 : -9223372036854775808 ≤ a.toInt + b.toInt) (h2 : a.toInt + b.toInt < 9223372036854775808) : (a + b).toInt = a.toInt + b.toInt := by rw [Int64.toInt_add, nz_bm64 h1 h2]
theorem nz_sub {a b : Int64} (h1 : -9223372036854775808 ≤ a.toInt - b.toInt) (h2 : a.toInt - b.toInt < 9223372036854775808) : (a - b).toInt = a.toInt - b.toInt := by rw [Int64.toInt_sub, nz_bm64 h1 h2]
theorem nz_mul {a b : Int64} (h1 : -9223372036854775808 ≤ a.toInt * b.toInt) (h2 : a.toInt * b.toInt < 9223372036854775808) : (a * b).toInt = a.toInt * b.toInt := by rw [Int64.toInt_mul, nz_bm64 h1 h2]
theorem nz_neg {a : Int64} (h1 : -9223372036854775808 < a.toInt) : (-a).toInt = -a.toInt := by
  have := nz_i64 a
  rw [Int64.toInt_neg, nz_bm64 (by omega) (by omega)]
theorem nz_addi {a b : Int32} (h1 : -2147483648 ≤ a.toInt + b.toInt) (h2 : a.toInt + b.toInt < 2147483648) : (a + b).toInt = a.toInt + b.toInt := by rw [Int32.toInt_add, nz_bm32 h1 h2]
theorem nz_subi {a b : Int32} (h1 : -2147483648 ≤ a.toInt - b.toInt) (h2 : a.toInt - b.toInt < 2147483648) : (a - b).toInt = a.toInt - b.toInt := by rw [Int32.toInt_sub, nz_bm32 h1 h2]
theorem nz_muli {a b : Int32} (h1 : -2147483648 ≤ a.toInt * b.toInt) (h2 : a.toInt * b.toInt < 2147483648) : (a * b).toInt = a.toInt * b.toInt := by rw [Int32.toInt_mul, nz_bm32 h1 h2]
theorem nz_abs {x : Int64} (h : -9223372036854775808 < x.toInt) : (if 0 < x then x else -x).toInt = (x.toInt.natAbs : Int) := by
  by_cases hx : 0 < x
  · have : (0 : Int) < x.toInt := Int64.lt_iff_toInt_lt.mp hx
    rw [if_pos hx]
    omega
  · have : ¬ (0 : Int) < x.toInt := fun z => hx (Int64.lt_iff_toInt_lt.mpr z)
    rw [if_neg hx, nz_neg h]
    omega
/-- a quotient of numbers that aren't below nothing -/
theorem nz_div {a b : Int64} {m n : Nat} (ha : a.toInt = m) (hb : b.toInt = n) (hn : n ≠ 0) : (a / b).toInt = ((m / n : Nat) : Int) := by
  have h1 := nz_i64 a
  have hle : m / n ≤ m := Nat.div_le_self m n
  rw [Int64.toInt_div, ha, hb, show (m : Int).tdiv (n : Int) = ((m / n : Nat) : Int) from rfl]
  generalize m / n = t at hle ⊢
  exact nz_bm64 (by omega) (by omega)
theorem nz_rem {a b : Int64} {m n : Nat} (ha : a.toInt = m) (hb : b.toInt = n) (hn : n ≠ 0) : (a - a / b * b).toInt = ((m % n : Nat) : Int) := by
  have h1 := nz_i64 a
  have hd := nz_div ha hb hn
  have hm := Nat.div_add_mod m n
  have hle : m / n * n ≤ m := Nat.div_mul_le_self m n
  have e1 : (a / b).toInt * b.toInt = ((m / n * n : Nat) : Int) := by rw [hd, hb]; push_cast; rfl
  have e2 : (a / b * b).toInt = ((m / n * n : Nat) : Int) := by rw [nz_mul (by rw [e1]; omega) (by rw [e1]; omega), e1]
  rw [nz_sub (by rw [e2, ha]; omega) (by rw [e2, ha]; omega), e2, ha]
  rw [Nat.mul_comm] at hm
  omega
/-! ===== Euclid's steps ===== -/
def ez_F : Nat → Nat
  | 0 => 0
  | 1 => 1
  | n + 2 => ez_F (n + 1) + ez_F n
theorem ez_F93 : 9223372036854775808 ≤ ez_F 93 := by decide +kernel
theorem ez_loop (X : jv_X) (d n : Nat) (Q : jv_Q) (h : jv_H) : ∀ (f A B : Nat) (x4 x6 : Int64) (x8 : Int32) (s : Nat), x4.toInt = A → x6.toInt = B → x8.toInt = s → s + f ≤ 100 → B < A → (A < ez_F (f + 1) ∨ B < ez_F f) → (∀ z : Int64, z.toInt = (Nat.gcd A B : Int) → Q (some (.long z)) h) → a_Fractions_findCommonDivisor_9 X d n Q x4 x6 x8 h 0
  | 0, A, B, _, _, _, _, _, _, _, _, hBA, hF, _ => by
    exfalso
    rcases hF with hF | hF
    · have : A < 1 := hF
      omega
    · have : B < 0 := hF
      omega
  | f + 1, A, B, x4, x6, x8, s, h4, h6, h8, hs, hBA, hF, hQ => by
    refine r_Fractions_findCommonDivisor_9 X d n Q x4 x6 x8 h ⟨fun z => ?_, fun _ => ⟨fun z => ?_, fun z => ?_⟩⟩
    · exfalso
      have : (100 : Int) ≤ x8.toInt := Int32.le_iff_toInt_le.mp z
      omega
    · have hz : x6 = 0 := (lg_cmp_eq x6 0).mp z
      have hB : B = 0 := by
        have : x6.toInt = 0 := by rw [hz]; rfl
        omega
      refine hQ x4 ?_
      rw [hB, Nat.gcd_zero_right, h4]
    · have hz : ¬ x6 = 0 := fun q => z ((lg_cmp_eq x6 0).mpr q)
      have hB : B ≠ 0 := by
        intro q
        apply hz
        apply Int64.toInt_inj.mp
        rw [h6, q]
        rfl
      refine ⟨hz, ?_⟩
      have hlt : A % B < B := Nat.mod_lt _ (by omega)
      refine ez_loop X d n Q h f B (A % B) _ _ _ (s + 1) h6 (nz_rem h4 h6 hB) ?_ (by omega) hlt ?_ ?_
      · rw [nz_addi (by rw [h8]; show _ ≤ (s : Int) + 1; omega) (by rw [h8]; show (s : Int) + 1 < _; omega), h8]
        rfl
      · by_cases hc : B < ez_F (f + 1)
        · exact Or.inl hc
        · right
          have hA : A < ez_F (f + 1) + ez_F f := by
            rcases hF with hF | hF
            · exact hF
            · exact absurd hF hc
          have hd := Nat.div_add_mod A B
          have h1 : 1 ≤ A / B := Nat.div_pos (by omega) (by omega)
          have h2 : B * 1 ≤ B * (A / B) := Nat.mul_le_mul_left B h1
          omega
      · intro w hw
        refine hQ w ?_
        rw [hw, Nat.gcd_comm A B, Nat.gcd_rec B A, Nat.gcd_comm (A % B) B]
/-- findCommonDivisor of two numbers that aren't below nothing -/
theorem c_gcd (X : jv_X) (d n : Nat) (K : Int64 → jv_H → Prop) (h : jv_H) (a b : Int64) (A B : Nat) (ha : a.toInt = A) (hb : b.toInt = B) (hK : ∀ z : Int64, z.toInt = (Nat.gcd A B : Int) → K z h) : jL X (d + 1) y_Fractions_findCommonDivisor [.long a, .long b] n h K := by
  refine r_Fractions_findCommonDivisor X d n _ a b h ?_
  refine r_Fractions_findCommonDivisor_9 X d n _ a b 0 h ⟨fun z => ?_, fun _ => ⟨fun z => ?_, fun z => ?_⟩⟩
  · exact absurd z (by decide)
  · have hz : b = 0 := (lg_cmp_eq b 0).mp z
    have hB : B = 0 := by
      have : b.toInt = 0 := by rw [hz]; rfl
      omega
    refine hK a ?_
    rw [hB, Nat.gcd_zero_right, ha]
  · have hz : ¬ b = 0 := fun q => z ((lg_cmp_eq b 0).mpr q)
    have hB : B ≠ 0 := by
      intro q
      apply hz
      apply Int64.toInt_inj.mp
      rw [hb, q]
      rfl
    refine ⟨hz, ?_⟩
    have hlt : A % B < B := Nat.mod_lt _ (by omega)
    have hbb := nz_i64 b
    have hF := ez_F93
    refine ez_loop X d n _ h 93 B (A % B) _ _ _ 1 hb (nz_rem ha hb hB) rfl (by omega) hlt (Or.inr (by omega)) ?_
    intro w hw
    refine hK w ?_
    rw [hw, Nat.gcd_comm A B, Nat.gcd_rec B A, Nat.gcd_comm (A % B) B]
