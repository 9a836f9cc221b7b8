/-! ===== small tests of the class; polynomials ===== -/
theorem nz_nat {i : Int32} {k : Nat} (h : i.toInt = k) : i.toNatClampNeg = k := by
  show i.toInt.toNat = k
  omega
theorem nz_bt {c : Prop} [Decidable c] : ((if c then 1 else 0 : Int32) = 0 ↔ ¬ c) := by
  by_cases h : c
  · simp [h]
  · simp [h]
theorem nz_b01 {c : Prop} [Decidable c] : (if c then 1 else 0 : Int32) = 0 ∨ (if c then 1 else 0 : Int32) = 1 := by
  by_cases h : c
  · right; rw [if_pos h]
  · left; rw [if_neg h]
theorem nz_lt {a b : Int32} : a < b ↔ a.toInt < b.toInt := Int32.lt_iff_toInt_lt
theorem nz_le {a b : Int32} : a ≤ b ↔ a.toInt ≤ b.toInt := Int32.le_iff_toInt_le
theorem c_isWithin (X : jv_X) (d n : Nat) (K : Int32 → jv_H → Prop) (h : jv_H) (a b c : Int32) (hK : K (if b.toInt ≤ a.toInt ∧ a.toInt ≤ c.toInt then 1 else 0) h) : jI X (d + 1) y_Maker_isWithin [.int a, .int b, .int c] n h K := by
  refine r_Maker_isWithin X d n _ a b c h ⟨fun w => ⟨Or.inl rfl, ?_⟩, fun w => ⟨fun v => ⟨Or.inl rfl, ?_⟩, fun v => ⟨Or.inr rfl, ?_⟩⟩⟩
  · rw [nz_lt] at w
    rw [if_neg (by omega)] at hK
    exact hK
  · rw [nz_lt] at w v
    rw [if_neg (by omega)] at hK
    exact hK
  · rw [nz_lt] at w v
    rw [if_pos (by omega)] at hK
    exact hK
theorem c_isTold (X : jv_X) (d n : Nat) (K : Int32 → jv_H → Prop) (h : jv_H) (a b : Int32) (hK : K (if (1 ≤ a.toInt ∧ a.toInt ≤ 9999) ∧ 1 ≤ b.toInt ∧ b.toInt ≤ 9999 then 1 else 0) h) : jI X (d + 2) y_Maker_isTold [.int a, .int b] n h K := by
  refine r_Maker_isTold X (d + 1) n _ a b h ?_
  refine c_isWithin X d n _ h _ _ _ ⟨fun w => ⟨Or.inl rfl, ?_⟩, fun w => ?_⟩
  · rw [nz_bt] at w
    have w : ¬ (1 ≤ a.toInt ∧ a.toInt ≤ 9999) := w
    rw [if_neg (fun z => w z.1)] at hK
    exact hK
  · rw [nz_bt, Classical.not_not] at w
    have w : 1 ≤ a.toInt ∧ a.toInt ≤ 9999 := w
    refine c_isWithin X d n _ h _ _ _ ⟨fun v => ⟨Or.inl rfl, ?_⟩, fun v => ⟨Or.inr rfl, ?_⟩⟩
    · rw [nz_bt] at v
      have v : ¬ (1 ≤ b.toInt ∧ b.toInt ≤ 9999) := v
      rw [if_neg (fun z => v z.2)] at hK
      exact hK
    · rw [nz_bt, Classical.not_not] at v
      have v : 1 ≤ b.toInt ∧ b.toInt ≤ 9999 := v
      rw [if_pos ⟨w, v⟩] at hK
      exact hK
theorem c_isSort (X : jv_X) (d n : Nat) (K : Int32 → jv_H → Prop) (h : jv_H) (a : Int32) (hK : K (if 0 ≤ a.toInt ∧ a.toInt ≤ 2 then 1 else 0) h) : jI X (d + 2) y_Maker_isSort [.int a] n h K := by
  refine r_Maker_isSort X (d + 1) n _ a h ?_
  exact c_isWithin X d n _ h _ _ _ ⟨nz_b01, hK⟩
/-- what a call tells of a fraction -/
def fz_tell (q : Int × Int) (part : Int) : Int := if q = (-1, 0) ∨ ¬ (0 ≤ part ∧ part ≤ 1) then -9223372036854775808 else if part = 0 then q.1 else q.2
theorem c_tell (X : jv_X) (d n : Nat) (K : Int64 → jv_H → Prop) (h : jv_H) (q : Int × Int) (hq : fz_r q) (part : Int32) (hK : ∀ z : Int64, z.toInt = fz_tell q part.toInt → K z h) : jL X (d + 2) y_Maker_tell [.long (fz_p q), .int part] n h K := by
  refine r_Maker_tell X (d + 1) n _ _ part h ?_
  unfold fz_tell at hK
  refine c_isWide X d n _ h q hq ⟨fun w => ?_, fun w => ?_⟩
  · rw [nz_bt, Classical.not_not] at w
    rw [if_pos (Or.inl w)] at hK
    exact hK _ rfl
  · rw [nz_bt] at w
    refine c_isWithin X d n _ h _ _ _ ⟨fun v => ?_, fun v => ?_⟩
    · rw [nz_bt, Classical.not_not] at v
      have v : 0 ≤ part.toInt ∧ part.toInt ≤ 1 := v
      rw [if_neg (fun z => z.elim w (fun z => z v))] at hK
      refine ⟨fun u => c_below X d n _ h q hq (fun z e => ?_), fun u => c_above X d n _ h q hq (fun z e => ?_)⟩
      · have u : ¬ part.toInt = 0 := fun z => u ((nz_z rfl).mpr z)
        rw [if_neg u] at hK
        exact hK _ (by rw [Int32.toInt_toInt64, e])
      · have u : part.toInt = 0 := (nz_z rfl).mp u
        rw [if_pos u] at hK
        exact hK _ (by rw [Int32.toInt_toInt64, e])
    · rw [nz_bt] at v
      have v : ¬ (0 ≤ part.toInt ∧ part.toInt ≤ 1) := v
      rw [if_pos (Or.inr v)] at hK
      exact hK _ rfl
/-- nothing but the rows S has changed -/
def oS (S : Nat → Prop) (h h' : jv_H) : Prop := h'.2.2 = h.2.2 ∧ ∀ q, ¬ S q → h'.1 q = h.1 q ∧ h'.2.1 q = h.2.1 q
theorem oS.rf {S : Nat → Prop} {h : jv_H} : oS S h h := ⟨rfl, fun _ _ => ⟨rfl, rfl⟩⟩
theorem oS.tr {S : Nat → Prop} {h h' h'' : jv_H} (a : oS S h h') (b : oS S h' h'') : oS S h h'' := ⟨b.1.trans a.1, fun q hq => ⟨(b.2 q hq).1.trans (a.2 q hq).1, (b.2 q hq).2.trans (a.2 q hq).2⟩⟩
theorem oS.mono {S T : Nat → Prop} {h h' : jv_H} (a : oS S h h') (hst : ∀ q, S q → T q) : oS T h h' := ⟨a.1, fun q hq => a.2 q (fun z => hq (hst q z))⟩
theorem oS_uL {S : Nat → Prop} {h : jv_H} {a i : Nat} {v : Int64} (ha : S a) : oS S h (jv_uL h a i v) := ⟨rfl, fun q hq => ⟨rfl, (jw_uL_oth h a i v (q := q) (fun z => hq (by rw [z]; exact ha))).2.1⟩⟩
theorem oS_uI {S : Nat → Prop} {h : jv_H} {a i : Nat} {v : Int32} (ha : S a) : oS S h (jv_uI h a i v) := ⟨rfl, fun q hq => ⟨(jw_uI_oth h a i v (q := q) (fun z => hq (by rw [z]; exact ha))).1, rfl⟩⟩
theorem uL_at (h : jv_H) (a i : Nat) (v : Int64) (j : Nat) : (jv_uL h a i v).2.1 a j = if j = i then v else h.2.1 a j := by
  by_cases hj : j = i
  · simp [jv_uL, hj]
  · simp [jv_uL, hj]
/-- a polynomial: object p with the row a -/
def PO (n : Nat) (h : jv_H) (p a : Nat) : Prop := jv_is SHT n p 14 ∧ h.2.2 p 0 = some a ∧ a < n ∧ SHT a = (1, 13)
theorem PO.mv {n p a : Nat} {S : Nat → Prop} {h h' : jv_H} (ho : oS S h h') (hp : PO n h p a) : PO n h' p a := ⟨hp.1, by rw [ho.1]; exact hp.2.1, hp.2.2⟩
theorem PO.ix {n p a k : Nat} {h : jv_H} {i : Int32} (hp : PO n h p a) (hi : i.toInt = k) (hk : k < 13) : jv_ix SHT n a 1 i := by
  obtain ⟨-, -, h3, h4⟩ := hp
  refine ⟨⟨h3, by rw [h4]⟩, by omega, ?_⟩
  rw [h4]
  show i.toInt < 13
  omega
/-- its coefficients -/
def pc (h : jv_H) (a : Nat) (f : Nat → Int × Int) : Prop := ∀ i, i < 13 → h.2.1 a i = fz_p (f i) ∧ fz_r (f i)
theorem pc.mv {a : Nat} {S : Nat → Prop} {h h' : jv_H} {f : Nat → Int × Int} (ho : oS S h h') (ha : ¬ S a) (hp : pc h a f) : pc h' a f := fun i hi => by
  rw [(ho.2 a ha).2]
  exact hp i hi
theorem pc.eq {a : Nat} {h : jv_H} {f g : Nat → Int × Int} (hp : pc h a f) (he : ∀ i, i < 13 → g i = f i) : pc h a g := fun i hi => by
  rw [he i hi]
  exact hp i hi
theorem pc.st {a k : Nat} {h : jv_H} {f g : Nat → Int × Int} {v : Int × Int} (hp : pc h a f) (hv : fz_r v) (hk : k < 13) (h1 : g k = v) (h2 : ∀ i, i < 13 → i ≠ k → g i = f i) : pc (jv_uL h a k (fz_p v)) a g := fun i hi => by
  rw [uL_at]
  by_cases hik : i = k
  · rw [if_pos hik, hik, h1]
    exact ⟨rfl, hv⟩
  · rw [if_neg hik, h2 i hi hik]
    exact hp i hi
def pz_at (g : Nat → Int × Int) (z : Int) : Int × Int := if 0 ≤ z ∧ z ≤ 12 then g z.toNat else (0, 1)
theorem pz_at_r {h : jv_H} {a : Nat} {g : Nat → Int × Int} (hp : pc h a g) (z : Int) : fz_r (pz_at g z) := by
  unfold pz_at
  split
  · exact (hp _ (by omega)).2
  · exact fz_r_0
theorem c_at (X : jv_X) (d n : Nat) (K : Int64 → jv_H → Prop) (h : jv_H) (p a : Nat) (g : Nat → Int × Int) (i : Int32) (hp : PO n h p a) (hc : pc h a g) (hK : K (fz_p (pz_at g i.toInt)) h) : jL X (d + 2) y_Poly_at [.ref p, .int i] n h K := by
  refine r_Poly_at X (d + 1) n _ p i h ?_
  unfold pz_at at hK
  refine c_isWithin X d n _ h _ _ _ ⟨fun w => ?_, fun w => ?_⟩
  · rw [nz_bt] at w
    have w : ¬ (0 ≤ i.toInt ∧ i.toInt ≤ 12) := w
    rw [if_neg w, fz_p_0] at hK
    exact hK
  · rw [nz_bt, Classical.not_not] at w
    have w : 0 ≤ i.toInt ∧ i.toInt ≤ 12 := w
    rw [if_pos w] at hK
    refine ⟨hp.1, a, hp.2.1, hp.ix (k := i.toInt.toNat) (by omega) (by omega), ?_⟩
    have e : jv_gL h a i.toNatClampNeg = fz_p (g i.toInt.toNat) := (hc i.toInt.toNat (by omega)).1
    rw [e]
    exact hK
theorem nz_inc {i : Int32} {k : Nat} (h : i.toInt = k) (hk : k < 1000000) : (i + 1).toInt = ((k + 1 : Nat) : Int) := by
  have e : (1 : Int32).toInt = 1 := rfl
  rw [nz_addi (by rw [h, e]; omega) (by rw [h, e]; omega), h, e]
  omega
theorem nz_dec {i : Int32} {k : Int} (h : i.toInt = k) (hk : -1000000 < k ∧ k < 1000000) : (i + (-1)).toInt = k - 1 := by
  have e : (-1 : Int32).toInt = -1 := rfl
  rw [nz_addi (by rw [h, e]; omega) (by rw [h, e]; omega), h, e]
  omega
theorem clear_loop (X : jv_X) (d n : Nat) (Q : jv_Q) (p a : Nat) : ∀ (m k : Nat) (x : Int32) (h : jv_H), x.toInt = k → k + m = 13 → PO n h p a → (∀ i, i < k → h.2.1 a i = 1) → (∀ h', oS (fun q => q = a) h h' → (∀ i, i < 13 → h'.2.1 a i = 1) → Q none h') → a_Poly_clear_2 X d n Q p x h 0
  | 0, k, x, h, hx, hm, hp, hf, hQ => by
    refine r_Poly_clear_2 X d n Q p x h ⟨fun _ => hQ h oS.rf (fun i hi => hf i (by omega)), fun w => ?_⟩
    exact absurd (nz_lt.mpr (by rw [hx]; show (12 : Int) < _; omega)) w
  | m + 1, k, x, h, hx, hm, hp, hf, hQ => by
    refine r_Poly_clear_2 X d n Q p x h ⟨fun w => ?_, fun _ => ⟨hp.1, a, hp.2.1, hp.ix hx (by omega), ?_⟩⟩
    · have : (12 : Int) < x.toInt := nz_lt.mp w
      omega
    · rw [nz_nat hx]
      have ho : oS (fun q => q = a) h (jv_uL h a k 1) := oS_uL rfl
      refine clear_loop X d n Q p a m (k + 1) _ _ (nz_inc hx (by omega)) (by omega) (hp.mv ho) (fun i hi => ?_) (fun h' h1 h2 => hQ h' (ho.tr h1) h2)
      rw [uL_at]
      by_cases hik : i = k
      · rw [if_pos hik]
      · rw [if_neg hik]
        exact hf i (by omega)
theorem c_clear (X : jv_X) (d n : Nat) (K : jv_H → Prop) (h : jv_H) (p a : Nat) (hp : PO n h p a) (hK : ∀ h', oS (fun q => q = a) h h' → pc h' a (fun _ => (0, 1)) → K h') : jV X (d + 1) y_Poly_clear [.ref p] n h K := by
  refine r_Poly_clear X d n _ p h ?_
  exact clear_loop X d n _ p a 13 0 0 h rfl rfl hp (fun i hi => by omega) (fun h' h1 h2 => hK h' h1 (fun i hi => ⟨by rw [h2 i hi, fz_p_0], fz_r_0⟩))
theorem become_loop (X : jv_X) (d n : Nat) (Q : jv_Q) (p a p2 a2 : Nat) (f g : Nat → Int × Int) (hne : a2 ≠ a) : ∀ (m k : Nat) (x : Int32) (h : jv_H), x.toInt = k → k + m = 13 → PO n h p a → PO n h p2 a2 → pc h a2 g → (∀ i, i < k → h.2.1 a i = fz_p (g i)) → (∀ h', oS (fun q => q = a) h h' → (∀ i, i < 13 → h'.2.1 a i = fz_p (g i)) → Q none h') → a_Poly_become_2 X d n Q p p2 x h 0
  | 0, k, x, h, hx, hm, hp, hp2, hg, hf, hQ => by
    refine r_Poly_become_2 X d n Q p p2 x h ⟨fun _ => hQ h oS.rf (fun i hi => hf i (by omega)), fun w => ?_⟩
    exact absurd (nz_lt.mpr (by rw [hx]; show (12 : Int) < _; omega)) w
  | m + 1, k, x, h, hx, hm, hp, hp2, hg, hf, hQ => by
    refine r_Poly_become_2 X d n Q p p2 x h ⟨fun w => ?_, fun _ => ⟨hp.1, a, hp.2.1, hp2.1, a2, hp2.2.1, hp2.ix hx (by omega), hp.ix hx (by omega), ?_⟩⟩
    · have : (12 : Int) < x.toInt := nz_lt.mp w
      omega
    · rw [nz_nat hx, show jv_gL h a2 k = fz_p (g k) from (hg k (by omega)).1]
      have ho : oS (fun q => q = a) h (jv_uL h a k (fz_p (g k))) := oS_uL rfl
      refine become_loop X d n Q p a p2 a2 f g hne m (k + 1) _ _ (nz_inc hx (by omega)) (by omega) (hp.mv ho) (hp2.mv ho) (hg.mv ho hne) (fun i hi => ?_) (fun h' h1 h2 => hQ h' (ho.tr h1) h2)
      rw [uL_at]
      by_cases hik : i = k
      · rw [if_pos hik, hik]
      · rw [if_neg hik]
        exact hf i (by omega)
theorem c_become (X : jv_X) (d n : Nat) (K : jv_H → Prop) (h : jv_H) (p a p2 a2 : Nat) (g : Nat → Int × Int) (hp : PO n h p a) (hp2 : PO n h p2 a2) (hne : a2 ≠ a) (hg : pc h a2 g) (hK : ∀ h', oS (fun q => q = a) h h' → pc h' a g → K h') : jV X (d + 1) y_Poly_become [.ref p, .ref p2] n h K := by
  refine r_Poly_become X d n _ p p2 h ?_
  exact become_loop X d n _ p a p2 a2 g g hne 13 0 0 h rfl rfl hp hp2 hg (fun i hi => by omega) (fun h' h1 h2 => hK h' h1 (fun i hi => ⟨h2 i hi, (hg i hi).2⟩))
/-- the greatest power below k that counts; -1: there is none -/
def pz_hi (f : Nat → Int × Int) : Nat → Int
  | 0 => -1
  | k + 1 => if f k = (0, 1) then pz_hi f k else (k : Int)
/-- the least one of r from k on -/
def pz_lo (f : Nat → Int × Int) : Nat → Nat → Int
  | 0, _ => -1
  | r + 1, k => if f k = (0, 1) then pz_lo f r (k + 1) else (k : Int)
theorem highest_loop (X : jv_X) (d n : Nat) (Q : jv_Q) (h : jv_H) (p a : Nat) (f : Nat → Int × Int) (hp : PO n h p a) (hc : pc h a f) : ∀ (k : Nat) (x : Int32), x.toInt = (k : Int) - 1 → k ≤ 13 → (∀ z : Int32, z.toInt = pz_hi f k → Q (some (.int z)) h) → a_Poly_highest_3 X d n Q p x h 0
  | 0, x, hx, hk, hQ => by
    refine r_Poly_highest_3 X d n Q p x h ⟨fun _ => hQ _ rfl, fun w => ?_⟩
    exact absurd (nz_lt.mpr (by rw [hx]; show _ < (0 : Int); omega)) w
  | k + 1, x, hx, hk, hQ => by
    have hx' : x.toInt = k := by omega
    refine r_Poly_highest_3 X d n Q p x h ⟨fun w => ?_, fun _ => ⟨hp.1, a, hp.2.1, hp.ix hx' (by omega), ?_⟩⟩
    · have : x.toInt < (0 : Int) := nz_lt.mp w
      omega
    · have hv := hc k (by omega)
      rw [nz_nat hx', show jv_gL h a k = fz_p (f k) from hv.1]
      unfold pz_hi at hQ
      refine ⟨fun w => ?_, fun w => ?_⟩
      · have : f k = (0, 1) := (fz_inj hv.2 fz_r_0).mp (by rw [fz_p_0]; exact (lg_cmp_eq _ _).mp w)
        rw [if_pos this] at hQ
        exact highest_loop X d n Q h p a f hp hc k _ (nz_dec hx' (by omega)) (by omega) hQ
      · have : ¬ f k = (0, 1) := fun e => w ((lg_cmp_eq _ _).mpr (by rw [e, fz_p_0]))
        rw [if_neg this] at hQ
        exact hQ x hx'
theorem c_highest (X : jv_X) (d n : Nat) (K : Int32 → jv_H → Prop) (h : jv_H) (p a : Nat) (f : Nat → Int × Int) (hp : PO n h p a) (hc : pc h a f) (hK : ∀ z : Int32, z.toInt = pz_hi f 13 → K z h) : jI X (d + 1) y_Poly_highest [.ref p] n h K := by
  refine r_Poly_highest X d n _ p h ?_
  exact highest_loop X d n _ h p a f hp hc 13 12 rfl (by omega) hK
theorem lowest_loop (X : jv_X) (d n : Nat) (Q : jv_Q) (h : jv_H) (p a : Nat) (f : Nat → Int × Int) (hp : PO n h p a) (hc : pc h a f) : ∀ (r k : Nat) (x : Int32), x.toInt = k → k + r = 13 → (∀ z : Int32, z.toInt = pz_lo f r k → Q (some (.int z)) h) → a_Poly_lowest_2 X d n Q p x h 0
  | 0, k, x, hx, hk, hQ => by
    refine r_Poly_lowest_2 X d n Q p x h ⟨fun _ => hQ _ rfl, fun w => ?_⟩
    exact absurd (nz_lt.mpr (by rw [hx]; show (12 : Int) < _; omega)) w
  | r + 1, k, x, hx, hk, hQ => by
    refine r_Poly_lowest_2 X d n Q p x h ⟨fun w => ?_, fun _ => ⟨hp.1, a, hp.2.1, hp.ix hx (by omega), ?_⟩⟩
    · have : (12 : Int) < x.toInt := nz_lt.mp w
      omega
    · have hv := hc k (by omega)
      rw [nz_nat hx, show jv_gL h a k = fz_p (f k) from hv.1]
      unfold pz_lo at hQ
      refine ⟨fun w => ?_, fun w => ?_⟩
      · have : f k = (0, 1) := (fz_inj hv.2 fz_r_0).mp (by rw [fz_p_0]; exact (lg_cmp_eq _ _).mp w)
        rw [if_pos this] at hQ
        exact lowest_loop X d n Q h p a f hp hc r (k + 1) _ (nz_inc hx (by omega)) (by omega) hQ
      · have : ¬ f k = (0, 1) := fun e => w ((lg_cmp_eq _ _).mpr (by rw [e, fz_p_0]))
        rw [if_neg this] at hQ
        exact hQ x hx
theorem c_lowest (X : jv_X) (d n : Nat) (K : Int32 → jv_H → Prop) (h : jv_H) (p a : Nat) (f : Nat → Int × Int) (hp : PO n h p a) (hc : pc h a f) (hK : ∀ z : Int32, z.toInt = pz_lo f 13 0 → K z h) : jI X (d + 1) y_Poly_lowest [.ref p] n h K := by
  refine r_Poly_lowest X d n _ p h ?_
  exact lowest_loop X d n _ h p a f hp hc 13 0 0 rfl (by omega) hK
theorem c_isZero (X : jv_X) (d n : Nat) (K : Int32 → jv_H → Prop) (h : jv_H) (p a : Nat) (f : Nat → Int × Int) (hp : PO n h p a) (hc : pc h a f) (hK : K (if pz_hi f 13 < 0 then 1 else 0) h) : jI X (d + 2) y_Poly_isZero [.ref p] n h K := by
  refine r_Poly_isZero X (d + 1) n _ p h ⟨hp.1, c_highest X d n _ h p a f hp hc (fun z e => ⟨fun w => ⟨Or.inl rfl, ?_⟩, fun w => ⟨Or.inr rfl, ?_⟩⟩)⟩
  · have : (0 : Int) ≤ z.toInt := nz_le.mp w
    rw [if_neg (by omega)] at hK
    exact hK
  · have : ¬ (0 : Int) ≤ z.toInt := fun q => w (nz_le.mpr q)
    rw [if_pos (by omega)] at hK
    exact hK
