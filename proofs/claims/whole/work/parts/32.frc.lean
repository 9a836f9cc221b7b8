/-! ===== the class's fractions: contracts ===== -/
theorem nz_mb {a b : Int} (ha : -1000000000 ≤ a ∧ a ≤ 1000000000) (hb : -1000000000 ≤ b ∧ b ≤ 1000000000) : -1000000000000000000 ≤ a * b ∧ a * b ≤ 1000000000000000000 := by
  have h1 : a.natAbs * b.natAbs ≤ 1000000000 * 1000000000 := Nat.mul_le_mul (by omega) (by omega)
  have h2 : (a * b).natAbs = a.natAbs * b.natAbs := Int.natAbs_mul a b
  omega
theorem nz_tdiv {a b : Int64} {g : Nat} (hb : b.toInt = g) : (a / b).toInt = a.toInt.tdiv g := by
  rw [Int64.toInt_div_of_ne_right a b (fun z => by rw [z] at hb; have : ((-1 : Int64).toInt) = -1 := rfl; omega), hb]
theorem nz_tdiv_le (a : Int) (g : Nat) : (a.tdiv g).natAbs ≤ a.natAbs := by
  rw [Int.natAbs_tdiv]
  exact Nat.div_le_self _ _
theorem nz_m1 : fz_p (-1, 0) = -4294967296 := by decide
theorem c_of_in {K : Int64 → jv_H → Prop} {h : jv_H} {u l : Int} {sg g bb : Int64} (hl : l ≠ 0) (hs : sg.toInt = if l < 0 then -u else u) (hmin : -9223372036854775808 < sg.toInt) (hg : g.toInt = ((Nat.gcd u.natAbs l.natAbs : Nat) : Int)) (hb : bb.toInt = (l.natAbs : Int)) (hK : K (fz_p (fz_of u l)) h) :
    ¬ g = 0 ∧ (¬ g = 0 ∧ ((0 < lg_cmp (if 0 < sg / g then sg / g else -(sg / g)) (1000000000 : Int64) → K (-4294967296) h) ∧ (¬ 0 < lg_cmp (if 0 < sg / g then sg / g else -(sg / g)) (1000000000 : Int64) → ((lg_cmp (bb / g) (1000000000 : Int64) ≤ 0 → K (((sg / g) <<< ((32 : Int32).toInt64 &&& 63)) ||| (bb / g)) h) ∧ (¬ lg_cmp (bb / g) (1000000000 : Int64) ≤ 0 → K (-4294967296) h))))) := by
  have hG : Nat.gcd u.natAbs l.natAbs ≠ 0 := by
    have := Nat.gcd_pos_of_pos_right u.natAbs (show 0 < l.natAbs by omega)
    omega
  have hg0 : ¬ g = 0 := by
    intro z
    rw [z] at hg
    have : ((0 : Int64).toInt) = 0 := rfl
    omega
  have hq : (sg / g).toInt = (if l < 0 then -u else u).tdiv (Nat.gcd u.natAbs l.natAbs : Nat) := by rw [nz_tdiv hg, hs]
  have hd : (bb / g).toInt = ((l.natAbs / Nat.gcd u.natAbs l.natAbs : Nat) : Int) := nz_div hb hg hG
  have hqm : -9223372036854775808 < (sg / g).toInt := by
    have h1 := nz_tdiv_le (if l < 0 then -u else u) (Nat.gcd u.natAbs l.natAbs)
    have h2 := nz_i64 sg
    rw [hq]
    rw [← hs] at h1 ⊢
    omega
  have ha := nz_abs hqm
  have hr := fz_of_r u l
  unfold fz_of at hK hr
  rw [if_neg hl] at hK hr
  rw [← hq, ← hd] at hK hr
  refine ⟨hg0, hg0, fun z => ?_, fun z => ⟨fun w => ?_, fun w => ?_⟩⟩
  · have z1 := Int64.lt_iff_toInt_lt.mp ((lg_cmp_gt _ _).mp z)
    rw [ha] at z1
    have z1 : (1000000000 : Int) < ((sg / g).toInt.natAbs : Int) := z1
    rw [if_pos (Or.inl z1), nz_m1] at hK
    exact hK
  · have z1 : ¬ (1000000000 : Int) < ((sg / g).toInt.natAbs : Int) := fun q => z ((lg_cmp_gt _ _).mpr (Int64.lt_iff_toInt_lt.mpr (by rw [ha]; exact q)))
    have w1 : (bb / g).toInt ≤ 1000000000 := Int64.le_iff_toInt_le.mp ((lg_cmp_le _ _).mp w)
    rw [if_neg (fun q => q.elim z1 (fun q => by omega))] at hK hr
    rw [fz_pack hr rfl rfl]
    exact hK
  · have w1 : ¬ (bb / g).toInt ≤ 1000000000 := fun q => w ((lg_cmp_le _ _).mpr (Int64.le_iff_toInt_le.mpr q))
    rw [if_pos (Or.inr (by omega)), nz_m1] at hK
    exact hK
/-- Fractions.of -/
theorem c_of (X : jv_X) (d n : Nat) (K : Int64 → jv_H → Prop) (h : jv_H) (x0 x2 : Int64) (h0 : -9223372036854775808 < x0.toInt) (h2 : -9223372036854775808 < x2.toInt) (hK : K (fz_p (fz_of x0.toInt x2.toInt)) h) : jL X (d + 1 + 1) y_Fractions_of [.long x0, .long x2] n h K := by
  refine r_Fractions_of X d n _ x0 x2 h ⟨fun z => ?_, fun z => ?_⟩
  · have hne : x2.toInt ≠ 0 := fun q => z ((lg_cmp_eq _ _).mpr (Int64.toInt_inj.mp (by rw [q]; rfl)))
    refine c_gcd X d n _ h _ _ x0.toInt.natAbs x2.toInt.natAbs (nz_abs h0) (nz_abs h2) (fun g hg => ?_)
    have hG : 0 < Nat.gcd x0.toInt.natAbs x2.toInt.natAbs := Nat.gcd_pos_of_pos_right _ (by omega)
    refine ⟨fun _ => ⟨fun w => ?_, fun w => ?_⟩, fun w => ?_⟩
    · have hw : ¬ x2.toInt < 0 := by
        have := Int64.le_iff_toInt_le.mp ((lg_cmp_ge _ _).mp w)
        have e : (0 : Int64).toInt = 0 := rfl
        omega
      exact c_of_in hne (by rw [if_neg hw]) h0 hg (nz_abs h2) hK
    · have hw : x2.toInt < 0 := by
        have h3 : ¬ (0 : Int64) ≤ x2 := fun q => w ((lg_cmp_ge _ _).mpr q)
        have h4 : ¬ (0 : Int64).toInt ≤ x2.toInt := fun q => h3 (Int64.le_iff_toInt_le.mpr q)
        have e : (0 : Int64).toInt = 0 := rfl
        omega
      have hn := nz_neg h0
      have hi := nz_i64 x0
      exact c_of_in hne (by rw [if_pos hw, hn]) (by rw [hn]; omega) hg (nz_abs h2) hK
    · exfalso
      have := (lg_cmp_eq _ _).mp w
      rw [this] at hg
      have e : (0 : Int64).toInt = 0 := rfl
      omega
  · have hz : x2.toInt = 0 := by rw [(lg_cmp_eq _ _).mp z]; rfl
    unfold fz_of at hK
    rw [if_pos hz, nz_m1] at hK
    exact hK
theorem c_above (X : jv_X) (d n : Nat) (K : Int32 → jv_H → Prop) (h : jv_H) (q : Int × Int) (hq : fz_r q) (hK : ∀ z : Int32, z.toInt = q.1 → K z h) : jI X (d + 1) y_Fractions_above [.long (fz_p q)] n h K :=
  r_Fractions_above X d n _ _ h (hK _ (fz_above hq))
theorem c_below (X : jv_X) (d n : Nat) (K : Int32 → jv_H → Prop) (h : jv_H) (q : Int × Int) (hq : fz_r q) (hK : ∀ z : Int32, z.toInt = q.2 → K z h) : jI X (d + 1) y_Fractions_below [.long (fz_p q)] n h K :=
  r_Fractions_below X d n _ _ h (hK _ (fz_below hq))
theorem fz_inj {p q : Int × Int} (hp : fz_r p) (hq : fz_r q) : fz_p p = fz_p q ↔ p = q := by
  constructor
  · intro e
    have h1 := fz_p_toInt hp
    have h2 := fz_p_toInt hq
    rw [e] at h1
    obtain ⟨⟨a1, a2⟩, a3, a4⟩ := hp
    obtain ⟨⟨b1, b2⟩, b3, b4⟩ := hq
    exact Prod.ext (by omega) (by omega)
  · intro e
    rw [e]
theorem fz_r_m1 : fz_r (-1, 0) := ⟨⟨by decide, by decide⟩, by decide, by decide⟩
theorem fz_r_0 : fz_r (0, 1) := ⟨⟨by decide, by decide⟩, by decide, by decide⟩
theorem fz_r_1 : fz_r (1, 1) := ⟨⟨by decide, by decide⟩, by decide, by decide⟩
theorem fz_r_i : fz_r (1, 0) := ⟨⟨by decide, by decide⟩, by decide, by decide⟩
theorem fz_p_0 : fz_p (0, 1) = 1 := by decide
theorem fz_p_1 : fz_p (1, 1) = 4294967297 := by decide
theorem fz_p_i : fz_p (1, 0) = 4294967296 := by decide
theorem c_isWide (X : jv_X) (d n : Nat) (K : Int32 → jv_H → Prop) (h : jv_H) (q : Int × Int) (hq : fz_r q) (hK : K (if q = (-1, 0) then 1 else 0) h) : jI X (d + 1) y_Fractions_isWide [.long (fz_p q)] n h K := by
  refine r_Fractions_isWide X d n _ _ h ⟨fun z => ⟨Or.inl rfl, ?_⟩, fun z => ⟨Or.inr rfl, ?_⟩⟩
  · have : ¬ q = (-1, 0) := fun e => z ((lg_cmp_eq _ _).mpr (by rw [e, nz_m1]))
    rw [if_neg this] at hK
    exact hK
  · have : q = (-1, 0) := (fz_inj hq fz_r_m1).mp (by rw [nz_m1]; exact (lg_cmp_eq _ _).mp z)
    rw [if_pos this] at hK
    exact hK
def fz_sum (p q : Int × Int) : Int × Int := fz_of (p.1 * q.2 + q.1 * p.2) (p.2 * q.2)
def fz_sub (p q : Int × Int) : Int × Int := fz_of (p.1 * q.2 - q.1 * p.2) (p.2 * q.2)
def fz_mul (p q : Int × Int) : Int × Int := fz_of (p.1 * q.1) (p.2 * q.2)
def fz_quo (p q : Int × Int) : Int × Int := if q.2 = 0 then (-1, 0) else fz_of (p.1 * q.2) (p.2 * q.1)
def fz_inv (p : Int × Int) : Int × Int := if p.2 = 0 then (-1, 0) else fz_of p.2 p.1
def fz_neg (p : Int × Int) : Int × Int := fz_sub (0, 1) p
theorem fz_sum_r (p q : Int × Int) : fz_r (fz_sum p q) := fz_of_r _ _
theorem fz_sub_r (p q : Int × Int) : fz_r (fz_sub p q) := fz_of_r _ _
theorem fz_mul_r (p q : Int × Int) : fz_r (fz_mul p q) := fz_of_r _ _
theorem fz_neg_r (p : Int × Int) : fz_r (fz_neg p) := fz_of_r _ _
theorem fz_quo_r (p q : Int × Int) : fz_r (fz_quo p q) := by
  unfold fz_quo
  split
  · exact fz_r_m1
  · exact fz_of_r _ _
theorem fz_inv_r (p : Int × Int) : fz_r (fz_inv p) := by
  unfold fz_inv
  split
  · exact fz_r_m1
  · exact fz_of_r _ _
/-- the product of two halves, in longs -/
theorem nz_mw {a b : Int32} {u v : Int} (ha : a.toInt = u) (hb : b.toInt = v) (hu : -1000000000 ≤ u ∧ u ≤ 1000000000) (hv : -1000000000 ≤ v ∧ v ≤ 1000000000) : (a.toInt64 * b.toInt64).toInt = u * v := by
  have h := nz_mb hu hv
  rw [nz_mul (by rw [Int32.toInt_toInt64, Int32.toInt_toInt64, ha, hb]; omega) (by rw [Int32.toInt_toInt64, Int32.toInt_toInt64, ha, hb]; omega), Int32.toInt_toInt64, Int32.toInt_toInt64, ha, hb]
theorem fz_lo {q : Int × Int} (h : fz_r q) : -1000000000 ≤ q.2 ∧ q.2 ≤ 1000000000 := ⟨by have := h.2.1; omega, h.2.2⟩
theorem c_sum (X : jv_X) (d n : Nat) (K : Int64 → jv_H → Prop) (h : jv_H) (p q : Int × Int) (hp : fz_r p) (hq : fz_r q) (hK : K (fz_p (fz_sum p q)) h) : jL X (d + 3) y_Fractions_sum [.long (fz_p p), .long (fz_p q)] n h K := by
  refine r_Fractions_sum X (d + 2) n _ _ _ h ?_
  refine c_below X (d + 1) n _ h p hp (fun z2 e2 => c_below X (d + 1) n _ h q hq (fun z4 e4 => c_above X (d + 1) n _ h p hp (fun z6 e6 => c_above X (d + 1) n _ h q hq (fun z8 e8 => ?_))))
  have a1 := nz_mw e6 e4 hp.1 (fz_lo hq)
  have a2 := nz_mw e8 e2 hq.1 (fz_lo hp)
  have a3 := nz_mw e2 e4 (fz_lo hp) (fz_lo hq)
  have b1 := nz_mb hp.1 (fz_lo hq)
  have b2 := nz_mb hq.1 (fz_lo hp)
  have b3 := nz_mb (fz_lo hp) (fz_lo hq)
  have a4 := nz_add (a := z6.toInt64 * z4.toInt64) (b := z8.toInt64 * z2.toInt64) (by rw [a1, a2]; omega) (by rw [a1, a2]; omega)
  rw [a1, a2] at a4
  exact c_of X d n _ h _ _ (by rw [a4]; omega) (by rw [a3]; omega) (by rw [a4, a3]; exact hK)
theorem c_difference (X : jv_X) (d n : Nat) (K : Int64 → jv_H → Prop) (h : jv_H) (p q : Int × Int) (hp : fz_r p) (hq : fz_r q) (hK : K (fz_p (fz_sub p q)) h) : jL X (d + 3) y_Fractions_difference [.long (fz_p p), .long (fz_p q)] n h K := by
  refine r_Fractions_difference X (d + 2) n _ _ _ h ?_
  refine c_below X (d + 1) n _ h p hp (fun z2 e2 => c_below X (d + 1) n _ h q hq (fun z4 e4 => c_above X (d + 1) n _ h p hp (fun z6 e6 => c_above X (d + 1) n _ h q hq (fun z8 e8 => ?_))))
  have a1 := nz_mw e6 e4 hp.1 (fz_lo hq)
  have a2 := nz_mw e8 e2 hq.1 (fz_lo hp)
  have a3 := nz_mw e2 e4 (fz_lo hp) (fz_lo hq)
  have b1 := nz_mb hp.1 (fz_lo hq)
  have b2 := nz_mb hq.1 (fz_lo hp)
  have b3 := nz_mb (fz_lo hp) (fz_lo hq)
  have a4 := nz_sub (a := z6.toInt64 * z4.toInt64) (b := z8.toInt64 * z2.toInt64) (by rw [a1, a2]; omega) (by rw [a1, a2]; omega)
  rw [a1, a2] at a4
  exact c_of X d n _ h _ _ (by rw [a4]; omega) (by rw [a3]; omega) (by rw [a4, a3]; exact hK)
theorem c_product (X : jv_X) (d n : Nat) (K : Int64 → jv_H → Prop) (h : jv_H) (p q : Int × Int) (hp : fz_r p) (hq : fz_r q) (hK : K (fz_p (fz_mul p q)) h) : jL X (d + 3) y_Fractions_product [.long (fz_p p), .long (fz_p q)] n h K := by
  refine r_Fractions_product X (d + 2) n _ _ _ h ?_
  refine c_above X (d + 1) n _ h p hp (fun z2 e2 => c_above X (d + 1) n _ h q hq (fun z4 e4 => c_below X (d + 1) n _ h p hp (fun z6 e6 => c_below X (d + 1) n _ h q hq (fun z8 e8 => ?_))))
  have a1 := nz_mw e2 e4 hp.1 hq.1
  have a3 := nz_mw e6 e8 (fz_lo hp) (fz_lo hq)
  have b1 := nz_mb hp.1 hq.1
  have b3 := nz_mb (fz_lo hp) (fz_lo hq)
  exact c_of X d n _ h _ _ (by rw [a1]; omega) (by rw [a3]; omega) (by rw [a1, a3]; exact hK)
theorem nz_z {z : Int32} {u : Int} (e : z.toInt = u) : z = 0 ↔ u = 0 := by
  constructor
  · intro h
    rw [← e, h]
    rfl
  · intro h
    exact Int32.toInt_inj.mp (by rw [e, h]; rfl)
theorem c_quotient (X : jv_X) (d n : Nat) (K : Int64 → jv_H → Prop) (h : jv_H) (p q : Int × Int) (hp : fz_r p) (hq : fz_r q) (hK : K (fz_p (fz_quo p q)) h) : jL X (d + 3) y_Fractions_quotient [.long (fz_p p), .long (fz_p q)] n h K := by
  refine r_Fractions_quotient X (d + 2) n _ _ _ h ?_
  refine c_below X (d + 1) n _ h q hq (fun z2 e2 => ⟨fun w => ?_, fun w => ?_⟩)
  · have hne : ¬ q.2 = 0 := fun z => w ((nz_z e2).mpr z)
    unfold fz_quo at hK
    rw [if_neg hne] at hK
    refine c_above X (d + 1) n _ h p hp (fun z4 e4 => c_below X (d + 1) n _ h q hq (fun z6 e6 => c_below X (d + 1) n _ h p hp (fun z8 e8 => c_above X (d + 1) n _ h q hq (fun z10 e10 => ?_))))
    have a1 := nz_mw e4 e6 hp.1 (fz_lo hq)
    have a3 := nz_mw e8 e10 (fz_lo hp) hq.1
    have b1 := nz_mb hp.1 (fz_lo hq)
    have b3 := nz_mb (fz_lo hp) hq.1
    exact c_of X d n _ h _ _ (by rw [a1]; omega) (by rw [a3]; omega) (by rw [a1, a3]; exact hK)
  · unfold fz_quo at hK
    rw [if_pos ((nz_z e2).mp w), nz_m1] at hK
    exact hK
theorem c_reciprocal (X : jv_X) (d n : Nat) (K : Int64 → jv_H → Prop) (h : jv_H) (p : Int × Int) (hp : fz_r p) (hK : K (fz_p (fz_inv p)) h) : jL X (d + 3) y_Fractions_reciprocal [.long (fz_p p)] n h K := by
  refine r_Fractions_reciprocal X (d + 2) n _ _ h ?_
  refine c_below X (d + 1) n _ h p hp (fun z2 e2 => ⟨fun w => ?_, fun w => ?_⟩)
  · have hne : ¬ p.2 = 0 := fun z => w ((nz_z e2).mpr z)
    unfold fz_inv at hK
    rw [if_neg hne] at hK
    refine c_below X (d + 1) n _ h p hp (fun z4 e4 => c_above X (d + 1) n _ h p hp (fun z6 e6 => ?_))
    have h1 := hp.1
    have h2 := fz_lo hp
    refine c_of X d n _ h _ _ (by rw [Int32.toInt_toInt64, e4]; omega) (by rw [Int32.toInt_toInt64, e6]; omega) ?_
    rw [Int32.toInt_toInt64, Int32.toInt_toInt64, e4, e6]
    exact hK
  · unfold fz_inv at hK
    rw [if_pos ((nz_z e2).mp w), nz_m1] at hK
    exact hK
theorem c_negative (X : jv_X) (d n : Nat) (K : Int64 → jv_H → Prop) (h : jv_H) (p : Int × Int) (hp : fz_r p) (hK : K (fz_p (fz_neg p)) h) : jL X (d + 4) y_Fractions_negative [.long (fz_p p)] n h K := by
  refine r_Fractions_negative X (d + 3) n _ _ h ?_
  rw [← fz_p_0]
  exact c_difference X d n _ h (0, 1) p fz_r_0 hp hK
/-- which of two is less: -1, 0, 1 -/
def fz_cmp (p q : Int × Int) : Int32 := if p.1 * q.2 < q.1 * p.2 then -1 else if p.1 * q.2 = q.1 * p.2 then 0 else 1
theorem c_Long_compare (X : jv_X) (d n : Nat) (K : Int32 → jv_H → Prop) (h : jv_H) (a b : Int64) (hK : K (if a.toInt < b.toInt then -1 else if a.toInt = b.toInt then 0 else 1) h) : jI X (d + 1) y_Long_compare [.long a, .long b] n h K := by
  refine r_Long_compare X d n _ a b h ⟨fun w => ⟨fun v => ?_, fun v => ?_⟩, fun w => ?_⟩
  · have h1 : ¬ a.toInt < b.toInt := by
      have := Int64.le_iff_toInt_le.mp ((lg_cmp_ge _ _).mp w)
      omega
    have h2 : ¬ a.toInt = b.toInt := fun z => v ((lg_cmp_eq _ _).mpr (Int64.toInt_inj.mp z))
    rw [if_neg h1, if_neg h2] at hK
    exact hK
  · have h2 : a = b := (lg_cmp_eq _ _).mp v
    rw [h2, if_neg (by omega), if_pos rfl] at hK
    exact hK
  · have h1 : a.toInt < b.toInt := by
      have : ¬ b.toInt ≤ a.toInt := fun z => w ((lg_cmp_ge _ _).mpr (Int64.le_iff_toInt_le.mpr z))
      omega
    rw [if_pos h1] at hK
    exact hK
theorem c_compare (X : jv_X) (d n : Nat) (K : Int32 → jv_H → Prop) (h : jv_H) (p q : Int × Int) (hp : fz_r p) (hq : fz_r q) (hK : K (fz_cmp p q) h) : jI X (d + 2) y_Fractions_compare [.long (fz_p p), .long (fz_p q)] n h K := by
  refine r_Fractions_compare X (d + 1) n _ _ _ h ?_
  refine c_above X d n _ h p hp (fun z2 e2 => c_below X d n _ h q hq (fun z4 e4 => c_above X d n _ h q hq (fun z6 e6 => c_below X d n _ h p hp (fun z8 e8 => ?_))))
  have a1 := nz_mw e2 e4 hp.1 (fz_lo hq)
  have a3 := nz_mw e6 e8 hq.1 (fz_lo hp)
  refine c_Long_compare X d n _ h _ _ ?_
  rw [a1, a3]
  exact hK
