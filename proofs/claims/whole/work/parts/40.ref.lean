/-! ===== the reference: tests, the two cells ===== -/
/-- nothing but these places has changed -/
def oT (SI SL : Nat → Nat → Prop) (h h' : jv_H) : Prop := h'.2.2 = h.2.2 ∧ (∀ q j, ¬ SI q j → h'.1 q j = h.1 q j) ∧ ∀ q j, ¬ SL q j → h'.2.1 q j = h.2.1 q j
theorem oT.rf {SI SL : Nat → Nat → Prop} {h : jv_H} : oT SI SL h h := ⟨rfl, fun _ _ _ => rfl, fun _ _ _ => rfl⟩
theorem oT.tr {SI SL : Nat → Nat → Prop} {h h' h'' : jv_H} (a : oT SI SL h h') (b : oT SI SL h' h'') : oT SI SL h h'' := ⟨b.1.trans a.1, fun q j z => (b.2.1 q j z).trans (a.2.1 q j z), fun q j z => (b.2.2 q j z).trans (a.2.2 q j z)⟩
theorem oT.mono {SI SL TI TL : Nat → Nat → Prop} {h h' : jv_H} (a : oT SI SL h h') (h1 : ∀ q j, SI q j → TI q j) (h2 : ∀ q j, SL q j → TL q j) : oT TI TL h h' := ⟨a.1, fun q j z => a.2.1 q j (fun y => z (h1 q j y)), fun q j z => a.2.2 q j (fun y => z (h2 q j y))⟩
theorem oT.uL {SI SL : Nat → Nat → Prop} {h h' : jv_H} {a i : Nat} {v : Int64} (ho : oT SI SL h h') (hs : SL a i) : oT SI SL h (jv_uL h' a i v) := by
  refine ⟨ho.1, ho.2.1, fun q j z => ?_⟩
  have hne : ¬ (q = a ∧ j = i) := fun y => z (by rw [y.1, y.2]; exact hs)
  show (if q = a ∧ j = i then v else h'.2.1 q j) = _
  rw [if_neg hne]
  exact ho.2.2 q j z
theorem oT.uI {SI SL : Nat → Nat → Prop} {h h' : jv_H} {a i : Nat} {v : Int32} (ho : oT SI SL h h') (hs : SI a i) : oT SI SL h (jv_uI h' a i v) := by
  refine ⟨ho.1, fun q j z => ?_, ho.2.2⟩
  have hne : ¬ (q = a ∧ j = i) := fun y => z (by rw [y.1, y.2]; exact hs)
  show (if q = a ∧ j = i then v else h'.1 q j) = _
  rw [if_neg hne]
  exact ho.2.1 q j z
theorem oS.t {S : Nat → Prop} {h h' : jv_H} (a : oS S h h') : oT (fun q _ => S q) (fun q _ => S q) h h' := ⟨a.1, fun q j z => by rw [(a.2 q z).1], fun q j z => by rw [(a.2 q z).2]⟩
theorem c_in (X : jv_X) (d n : Nat) (K : Int32 → jv_H → Prop) (h : jv_H) (a b c : Int64) (hK : K (if b.toInt ≤ a.toInt ∧ a.toInt ≤ c.toInt then 1 else 0) h) : jI X (d + 1) y_Model_in [.long a, .long b, .long c] n h K := by
  refine r_Model_in X d n _ a b c h ⟨fun w => ⟨Or.inl rfl, ?_⟩, fun w => ⟨fun v => ⟨Or.inl rfl, ?_⟩, fun v => ⟨Or.inr rfl, ?_⟩⟩⟩
  · have w := Int64.lt_iff_toInt_lt.mp ((lg_cmp_lt _ _).mp w)
    rw [if_neg (by omega)] at hK
    exact hK
  · have v := Int64.lt_iff_toInt_lt.mp ((lg_cmp_gt _ _).mp v)
    rw [if_neg (by omega)] at hK
    exact hK
  · have w : ¬ a.toInt < b.toInt := fun z => w ((lg_cmp_lt _ _).mpr (Int64.lt_iff_toInt_lt.mpr z))
    have v : ¬ c.toInt < a.toInt := fun z => v ((lg_cmp_gt _ _).mpr (Int64.lt_iff_toInt_lt.mpr z))
    rw [if_pos (by omega)] at hK
    exact hK
theorem c_mTold (X : jv_X) (d n : Nat) (K : Int32 → jv_H → Prop) (h : jv_H) (a b : Int32) (hK : K (if (1 ≤ a.toInt ∧ a.toInt ≤ 9999) ∧ 1 ≤ b.toInt ∧ b.toInt ≤ 9999 then 1 else 0) h) : jI X (d + 2) y_Model_isTold [.int a, .int b] n h K := by
  refine r_Model_isTold X (d + 1) n _ a b h ?_
  refine c_in X d n _ h _ _ _ ⟨fun w => ⟨Or.inl rfl, ?_⟩, fun w => ?_⟩
  · rw [nz_bt, Int32.toInt_toInt64] at w
    have w : ¬ (1 ≤ a.toInt ∧ a.toInt ≤ 9999) := w
    rw [if_neg (fun z => w z.1)] at hK
    exact hK
  · rw [nz_bt, Classical.not_not, Int32.toInt_toInt64] at w
    have w : 1 ≤ a.toInt ∧ a.toInt ≤ 9999 := w
    refine c_in X d n _ h _ _ _ ⟨fun v => ⟨Or.inl rfl, ?_⟩, fun v => ⟨Or.inr rfl, ?_⟩⟩
    · rw [nz_bt, Int32.toInt_toInt64] at v
      have v : ¬ (1 ≤ b.toInt ∧ b.toInt ≤ 9999) := v
      rw [if_neg (fun z => v z.2)] at hK
      exact hK
    · rw [nz_bt, Classical.not_not, Int32.toInt_toInt64] at v
      have v : 1 ≤ b.toInt ∧ b.toInt ≤ 9999 := v
      rw [if_pos ⟨w, v⟩] at hK
      exact hK
theorem shared_loop (X : jv_X) (d n : Nat) (Q : jv_Q) (h : jv_H) : ∀ (f A B : Nat) (x4 x6 : Int64), B ≤ f → x4.toInt = A → x6.toInt = B → (∀ z : Int64, z.toInt = (Nat.gcd A B : Int) → Q (some (.long z)) h) → a_Model_shared_17 X d n Q x4 x6 h 0 := by
  intro f
  induction f with
  | zero =>
    intro A B x4 x6 hf h4 h6 hQ
    refine r_Model_shared_17 X d n Q x4 x6 h ⟨fun _ => hQ x4 ?_, fun z => ?_⟩
    · rw [show B = 0 by omega, Nat.gcd_zero_right, h4]
    · exact absurd ((lg_cmp_eq x6 0).mpr (Int64.toInt_inj.mp (by rw [h6, show B = 0 by omega]; rfl))) z
  | succ f ih =>
    intro A B x4 x6 hf h4 h6 hQ
    refine r_Model_shared_17 X d n Q x4 x6 h ⟨fun z => hQ x4 ?_, fun z => ?_⟩
    · have hz : x6 = 0 := (lg_cmp_eq x6 0).mp z
      have hB : B = 0 := by
        have : x6.toInt = 0 := by rw [hz]; rfl
        omega
      rw [hB, Nat.gcd_zero_right, h4]
    · have hz : ¬ x6 = 0 := fun q => z ((lg_cmp_eq x6 0).mpr q)
      have hB : B ≠ 0 := by
        intro q
        apply hz
        apply Int64.toInt_inj.mp
        rw [h6, q]
        rfl
      have hlt : A % B < B := Nat.mod_lt _ (by omega)
      refine ⟨hz, ih B (A % B) _ _ (by omega) h6 (nz_rem h4 h6 hB) (fun w hw => hQ w ?_)⟩
      rw [hw, Nat.gcd_comm A B, Nat.gcd_rec B A, Nat.gcd_comm (A % B) B]
theorem c_shared (X : jv_X) (d n : Nat) (K : Int64 → jv_H → Prop) (h : jv_H) (a b : Int64) (B : Nat) (ha : -9223372036854775808 < a.toInt) (hb : b.toInt = B) (hK : ∀ z : Int64, z.toInt = (Nat.gcd a.toInt.natAbs B : Int) → K z h) : jL X (d + 1) y_Model_shared [.long a, .long b] n h K := by
  refine r_Model_shared X d n _ a b h ⟨fun w => ?_, fun w => ?_⟩
  · have w := Int64.le_iff_toInt_le.mp ((lg_cmp_ge _ _).mp w)
    have e : (0 : Int64).toInt = 0 := rfl
    exact shared_loop X d n _ h B a.toInt.natAbs B a b (Nat.le_refl _) (by omega) hb hK
  · have w : ¬ (0 : Int64).toInt ≤ a.toInt := fun z => w ((lg_cmp_ge _ _).mpr (Int64.le_iff_toInt_le.mpr z))
    have e : (0 : Int64).toInt = 0 := rfl
    exact shared_loop X d n _ h B a.toInt.natAbs B (-a) b (Nat.le_refl _) (by rw [nz_neg ha]; omega) hb hK
/-- the reference's two cells and its flag -/
def MI (h : jv_H) (m : Nat) (w : Bool) (q : Int × Int) : Prop := (h.2.1 m 4).toInt = q.1 ∧ (h.2.1 m 5).toInt = q.2 ∧ h.1 m 6 = (if w then 1 else 0)
def mI (m : Nat) : Nat → Nat → Prop := fun q j => q = m ∧ j = 6
def mL (m : Nat) : Nat → Nat → Prop := fun q j => q = m ∧ (j = 4 ∨ j = 5)
/-- a step of the two cells: what was too wide stays so -/
def rz (w : Bool) (q : Int × Int) : Bool × (Int × Int) := if w = true ∨ q = (-1, 0) then (true, (0, 1)) else (false, q)
theorem fz_of_ne {u l : Int} (hl : l ≠ 0) : fz_of u l = (-1, 0) ↔ ((((if l < 0 then -u else u).tdiv (Nat.gcd u.natAbs l.natAbs : Nat)).natAbs : Int) > 1000000000 ∨ ((l.natAbs / Nat.gcd u.natAbs l.natAbs : Nat) : Int) > 1000000000) := by
  unfold fz_of
  rw [if_neg hl]
  have hpos : 0 < l.natAbs / Nat.gcd u.natAbs l.natAbs := Nat.div_pos (Nat.le_of_dvd (by omega) (Nat.gcd_dvd_right _ _)) (Nat.gcd_pos_of_pos_right _ (by omega))
  generalize (if l < 0 then -u else u).tdiv (Nat.gcd u.natAbs l.natAbs : Nat) = a
  generalize l.natAbs / Nat.gcd u.natAbs l.natAbs = t at hpos ⊢
  by_cases h2 : (a.natAbs : Int) > 1000000000 ∨ (t : Int) > 1000000000
  · rw [if_pos h2]
    exact ⟨fun _ => h2, fun _ => rfl⟩
  · rw [if_neg h2]
    exact ⟨fun z => by have := congrArg Prod.snd z; dsimp only at this; omega, fun z => absurd z h2⟩
theorem is_end {n : Nat} {K : jv_H → Prop} {h : jv_H} {m : Nat} {U L : Int64} {b : Int32} {w : Bool} {u l : Int} (hl : l ≠ 0) (hU : U.toInt = (if l < 0 then -u else u).tdiv (Nat.gcd u.natAbs l.natAbs : Nat)) (hL : L.toInt = ((l.natAbs / Nat.gcd u.natAbs l.natAbs : Nat) : Int)) (hw : h.1 m 6 = if w then 1 else 0) (hb : b = if fz_of u l = (-1, 0) then 1 else 0)
    (hm : jv_is SHT n m 20) (hK : ∀ h', oT (mI m) (mL m) h h' → MI h' m (rz w (fz_of u l)).1 (rz w (fz_of u l)).2 → K h') :
    jv_is SHT n m 20 ∧ (((jv_gI (jv_uL (jv_uL h m 4 U) m 5 L) m 6) ||| b) = 0 ∨ ((jv_gI (jv_uL (jv_uL h m 4 U) m 5 L) m 6) ||| b) = 1) ∧ (jv_is SHT n m 20 ∧ (((jv_gI (jv_uI (jv_uL (jv_uL h m 4 U) m 5 L) m 6 ((jv_gI (jv_uL (jv_uL h m 4 U) m 5 L) m 6) ||| b)) m 6) = 0 → K (jv_uI (jv_uL (jv_uL h m 4 U) m 5 L) m 6 ((jv_gI (jv_uL (jv_uL h m 4 U) m 5 L) m 6) ||| b))) ∧
      (¬ (jv_gI (jv_uI (jv_uL (jv_uL h m 4 U) m 5 L) m 6 ((jv_gI (jv_uL (jv_uL h m 4 U) m 5 L) m 6) ||| b)) m 6) = 0 → jv_is SHT n m 20 ∧ (jv_is SHT n m 20 ∧ K (jv_uL (jv_uL (jv_uI (jv_uL (jv_uL h m 4 U) m 5 L) m 6 ((jv_gI (jv_uL (jv_uL h m 4 U) m 5 L) m 6) ||| b)) m 4 0) m 5 1))))) := by
  have hg : jv_gI (jv_uL (jv_uL h m 4 U) m 5 L) m 6 = if w then 1 else 0 := hw
  rw [hg]
  have hor : ((if w then 1 else 0 : Int32) ||| b) = if w = true ∨ fz_of u l = (-1, 0) then 1 else 0 := by
    rw [hb]
    by_cases h2 : fz_of u l = (-1, 0)
    · cases w <;> simp [h2]
    · cases w <;> simp [h2]
  rw [hor]
  have hself : jv_gI (jv_uI (jv_uL (jv_uL h m 4 U) m 5 L) m 6 (if w = true ∨ fz_of u l = (-1, 0) then 1 else 0)) m 6 = if w = true ∨ fz_of u l = (-1, 0) then 1 else 0 := by
    show (if m = m ∧ 6 = 6 then _ else _) = _
    rw [if_pos ⟨rfl, rfl⟩]
  rw [hself]
  have o1 : oT (mI m) (mL m) h (jv_uI (jv_uL (jv_uL h m 4 U) m 5 L) m 6 (if w = true ∨ fz_of u l = (-1, 0) then 1 else 0)) := ((oT.rf.uL ⟨rfl, Or.inl rfl⟩).uL ⟨rfl, Or.inr rfl⟩).uI ⟨rfl, rfl⟩
  refine ⟨hm, nz_b01, hm, fun z => ?_, fun z => ⟨hm, hm, ?_⟩⟩
  · rw [nz_bt] at z
    refine hK _ o1 ?_
    have hz : rz w (fz_of u l) = (false, fz_of u l) := if_neg z
    rw [hz]
    have hnw : ¬ fz_of u l = (-1, 0) := fun y => z (Or.inr y)
    have hv : fz_of u l = (U.toInt, L.toInt) := by
      have h3 := fun y => hnw ((fz_of_ne hl).mpr y)
      unfold fz_of
      rw [if_neg hl, if_neg h3, hU, hL]
    refine ⟨?_, ?_, ?_⟩
    · rw [hv]
      show ((jv_uL (jv_uL h m 4 U) m 5 L).2.1 m 4).toInt = _
      rw [uL_at, if_neg (by decide), uL_at, if_pos rfl]
    · rw [hv]
      show ((jv_uL (jv_uL h m 4 U) m 5 L).2.1 m 5).toInt = _
      rw [uL_at, if_pos rfl]
    · exact hself.trans (if_neg z)
  · rw [nz_bt, Classical.not_not] at z
    refine hK _ ((o1.uL ⟨rfl, Or.inl rfl⟩).uL ⟨rfl, Or.inr rfl⟩) ?_
    have hz : rz w (fz_of u l) = (true, (0, 1)) := if_pos z
    rw [hz]
    refine ⟨?_, ?_, ?_⟩
    · rw [uL_at, if_neg (by decide), uL_at, if_pos rfl]
      rfl
    · rw [uL_at, if_pos rfl]
      rfl
    · exact hself.trans (if_pos z)
theorem c_is (X : jv_X) (d n : Nat) (K : jv_H → Prop) (h : jv_H) (m : Nat) (x1 x3 : Int64) (w : Bool) (hm : jv_is SHT n m 20) (hw : h.1 m 6 = if w then 1 else 0) (h1 : -9223372036854775808 < x1.toInt) (h3 : -9223372036854775808 < x3.toInt) (hl : x3.toInt ≠ 0)
    (hK : ∀ h', oT (mI m) (mL m) h h' → MI h' m (rz w (fz_of x1.toInt x3.toInt)).1 (rz w (fz_of x1.toInt x3.toInt)).2 → K h') : jV X (d + 2) y_Model_is [.ref m, .long x1, .long x3] n h K := by
  have key : ∀ s0 : Int64, (s0 * x1).toInt = (if x3.toInt < 0 then -x1.toInt else x1.toInt) → (s0 * x3).toInt = (x3.toInt.natAbs : Int) → a_Model_is_13 X (d + 1) n (jv_rV K) m x1 x3 s0 h 0 := by
    intro s0 e1 e3
    refine r_Model_is_13 X (d + 1) n _ m x1 x3 s0 h ?_
    refine c_shared X d n _ h x1 (s0 * x3) x3.toInt.natAbs h1 e3 (fun g hg => ?_)
    have hG : 0 < Nat.gcd x1.toInt.natAbs x3.toInt.natAbs := Nat.gcd_pos_of_pos_right _ (by omega)
    have hg0 : ¬ g = 0 := by
      intro z
      rw [z] at hg
      have : ((0 : Int64).toInt) = 0 := rfl
      omega
    have hU : ((s0 * x1) / g).toInt = (if x3.toInt < 0 then -x1.toInt else x1.toInt).tdiv (Nat.gcd x1.toInt.natAbs x3.toInt.natAbs : Nat) := by rw [nz_tdiv hg, e1]
    have hL : ((s0 * x3) / g).toInt = ((x3.toInt.natAbs / Nat.gcd x1.toInt.natAbs x3.toInt.natAbs : Nat) : Int) := nz_div e3 hg (by omega)
    have gU : jv_gL (jv_uL (jv_uL h m 4 ((s0 * x1) / g)) m 5 ((s0 * x3) / g)) m 4 = (s0 * x1) / g := by
      show (jv_uL (jv_uL h m 4 _) m 5 _).2.1 m 4 = _
      rw [uL_at, if_neg (by decide), uL_at, if_pos rfl]
    have gL : jv_gL (jv_uL (jv_uL h m 4 ((s0 * x1) / g)) m 5 ((s0 * x3) / g)) m 5 = (s0 * x3) / g := uL_same
    have hne := fz_of_ne (u := x1.toInt) hl
    rw [← hU, ← hL] at hne
    rw [gU, gL]
    have eG : (1000000000 : Int64).toInt = 1000000000 := rfl
    have eN : (-1000000000 : Int64).toInt = -1000000000 := rfl
    refine ⟨hg0, hm, hg0, hm, hm, hm, fun c1 => ?_, fun c1 => ⟨hm, fun c2 => ?_, fun c2 => ⟨hm, fun c3 => ?_, fun c3 => ?_⟩⟩⟩
    · have c1 := Int64.lt_iff_toInt_lt.mp ((lg_cmp_gt _ _).mp c1)
      exact is_end hl hU hL hw (by rw [if_pos (hne.mpr (Or.inl (by omega)))]) hm hK
    · have c2 := Int64.lt_iff_toInt_lt.mp ((lg_cmp_lt _ _).mp c2)
      exact is_end hl hU hL hw (by rw [if_pos (hne.mpr (Or.inl (by omega)))]) hm hK
    · have c1 : ¬ (1000000000 : Int64).toInt < ((s0 * x1) / g).toInt := fun z => c1 ((lg_cmp_gt _ _).mpr (Int64.lt_iff_toInt_lt.mpr z))
      have c2 : ¬ ((s0 * x1) / g).toInt < (-1000000000 : Int64).toInt := fun z => c2 ((lg_cmp_lt _ _).mpr (Int64.lt_iff_toInt_lt.mpr z))
      have c3 := Int64.le_iff_toInt_le.mp ((lg_cmp_le _ _).mp c3)
      exact is_end hl hU hL hw (by rw [if_neg (fun z => (hne.mp z).elim (fun y => by omega) (fun y => by omega))]) hm hK
    · have c3 : ¬ ((s0 * x3) / g).toInt ≤ (1000000000 : Int64).toInt := fun z => c3 ((lg_cmp_le _ _).mpr (Int64.le_iff_toInt_le.mpr z))
      exact is_end hl hU hL hw (by rw [if_pos (hne.mpr (Or.inr (by omega)))]) hm hK
  have i1 := nz_i64 x1
  have i3 := nz_i64 x3
  refine r_Model_is X (d + 1) n _ m x1 x3 h ⟨fun c => ?_, fun c => ?_⟩
  · have c := Int64.le_iff_toInt_le.mp ((lg_cmp_ge _ _).mp c)
    have e : (0 : Int64).toInt = 0 := rfl
    refine key 1 ?_ ?_
    · rw [Int64.one_mul, if_neg (by omega)]
    · rw [Int64.one_mul]
      omega
  · have c : ¬ (0 : Int64).toInt ≤ x3.toInt := fun z => c ((lg_cmp_ge _ _).mpr (Int64.le_iff_toInt_le.mpr z))
    have e : (0 : Int64).toInt = 0 := rfl
    have em : (-1 : Int64).toInt = -1 := rfl
    refine key (-1) ?_ ?_
    · rw [nz_mul (by rw [em]; omega) (by rw [em]; omega), em, if_pos (by omega)]
      omega
    · rw [nz_mul (by rw [em]; omega) (by rw [em]; omega), em]
      omega
/-- halves that a product bears -/
def gz (q : Int × Int) : Prop := (-1000000000 ≤ q.1 ∧ q.1 ≤ 1000000000) ∧ 1 ≤ q.2 ∧ q.2 ≤ 1000000000
theorem gz.r {q : Int × Int} (h : gz q) : fz_r q := ⟨h.1, by have := h.2.1; omega, h.2.2⟩
theorem gz_0 : gz (0, 1) := ⟨⟨by decide, by decide⟩, by decide, by decide⟩
theorem gz_1 : gz (1, 1) := ⟨⟨by decide, by decide⟩, by decide, by decide⟩
theorem nz_m2 {a b : Int64} {u v : Int} (ha : a.toInt = u) (hb : b.toInt = v) (hu : -1000000000 ≤ u ∧ u ≤ 1000000000) (hv : -1000000000 ≤ v ∧ v ≤ 1000000000) : (a * b).toInt = u * v := by
  have h := nz_mb hu hv
  rw [nz_mul (by rw [ha, hb]; omega) (by rw [ha, hb]; omega), ha, hb]
theorem fz_quo_of {p q : Int × Int} (h : gz q) : fz_quo p q = fz_of (p.1 * q.2) (p.2 * q.1) := by
  unfold fz_quo
  rw [if_neg (by have := h.2.1; omega)]
theorem nz_pos {a b : Int} (ha : 1 ≤ a) (hb : 1 ≤ b) : a * b ≠ 0 := by
  intro h
  rcases Int.mul_eq_zero.mp h with z | z
  · omega
  · omega
section
variable (X : jv_X) (d n : Nat) (K : jv_H → Prop) (h : jv_H) (m : Nat) (x1 x3 x5 x7 : Int64) (w : Bool) (p q : Int × Int)
theorem c_plus (hm : jv_is SHT n m 20) (hw : h.1 m 6 = if w then 1 else 0) (h1 : x1.toInt = p.1) (h3 : x3.toInt = p.2) (h5 : x5.toInt = q.1) (h7 : x7.toInt = q.2) (hp : gz p) (hq : gz q)
    (hK : ∀ h', oT (mI m) (mL m) h h' → MI h' m (rz w (fz_sum p q)).1 (rz w (fz_sum p q)).2 → K h') : jV X (d + 3) y_Model_plus [.ref m, .long x1, .long x3, .long x5, .long x7] n h K := by
  refine r_Model_plus X (d + 2) n _ m x1 x3 x5 x7 h ⟨hm, ?_⟩
  have a1 := nz_m2 h1 h7 hp.1 (fz_lo hq.r)
  have a2 := nz_m2 h5 h3 hq.1 (fz_lo hp.r)
  have a3 := nz_m2 h3 h7 (fz_lo hp.r) (fz_lo hq.r)
  have b1 := nz_mb hp.1 (fz_lo hq.r)
  have b2 := nz_mb hq.1 (fz_lo hp.r)
  have b3 := nz_mb (fz_lo hp.r) (fz_lo hq.r)
  have a4 := nz_add (a := x1 * x7) (b := x5 * x3) (by rw [a1, a2]; omega) (by rw [a1, a2]; omega)
  rw [a1, a2] at a4
  exact c_is X d n _ h m _ _ w hm hw (by rw [a4]; omega) (by rw [a3]; omega) (by rw [a3]; exact nz_pos hp.2.1 hq.2.1) (by rw [a4, a3]; exact hK)
theorem c_minus (hm : jv_is SHT n m 20) (hw : h.1 m 6 = if w then 1 else 0) (h1 : x1.toInt = p.1) (h3 : x3.toInt = p.2) (h5 : x5.toInt = q.1) (h7 : x7.toInt = q.2) (hp : gz p) (hq : gz q)
    (hK : ∀ h', oT (mI m) (mL m) h h' → MI h' m (rz w (fz_sub p q)).1 (rz w (fz_sub p q)).2 → K h') : jV X (d + 3) y_Model_minus [.ref m, .long x1, .long x3, .long x5, .long x7] n h K := by
  refine r_Model_minus X (d + 2) n _ m x1 x3 x5 x7 h ⟨hm, ?_⟩
  have a1 := nz_m2 h1 h7 hp.1 (fz_lo hq.r)
  have a2 := nz_m2 h5 h3 hq.1 (fz_lo hp.r)
  have a3 := nz_m2 h3 h7 (fz_lo hp.r) (fz_lo hq.r)
  have b1 := nz_mb hp.1 (fz_lo hq.r)
  have b2 := nz_mb hq.1 (fz_lo hp.r)
  have b3 := nz_mb (fz_lo hp.r) (fz_lo hq.r)
  have a4 := nz_sub (a := x1 * x7) (b := x5 * x3) (by rw [a1, a2]; omega) (by rw [a1, a2]; omega)
  rw [a1, a2] at a4
  exact c_is X d n _ h m _ _ w hm hw (by rw [a4]; omega) (by rw [a3]; omega) (by rw [a3]; exact nz_pos hp.2.1 hq.2.1) (by rw [a4, a3]; exact hK)
theorem c_times (hm : jv_is SHT n m 20) (hw : h.1 m 6 = if w then 1 else 0) (h1 : x1.toInt = p.1) (h3 : x3.toInt = p.2) (h5 : x5.toInt = q.1) (h7 : x7.toInt = q.2) (hp : gz p) (hq : gz q)
    (hK : ∀ h', oT (mI m) (mL m) h h' → MI h' m (rz w (fz_mul p q)).1 (rz w (fz_mul p q)).2 → K h') : jV X (d + 3) y_Model_times [.ref m, .long x1, .long x3, .long x5, .long x7] n h K := by
  refine r_Model_times X (d + 2) n _ m x1 x3 x5 x7 h ⟨hm, ?_⟩
  have a1 := nz_m2 h1 h5 hp.1 hq.1
  have a3 := nz_m2 h3 h7 (fz_lo hp.r) (fz_lo hq.r)
  have b1 := nz_mb hp.1 hq.1
  have b3 := nz_mb (fz_lo hp.r) (fz_lo hq.r)
  exact c_is X d n _ h m _ _ w hm hw (by rw [a1]; omega) (by rw [a3]; omega) (by rw [a3]; exact nz_pos hp.2.1 hq.2.1) (by rw [a1, a3]; exact hK)
/-- a quotient in the two cells: nothing below the line is nothing -/
def fz_ovr (p q : Int × Int) : Int × Int := if q.1 = 0 then fz_of 0 1 else fz_quo p q
theorem c_over (hm : jv_is SHT n m 20) (hw : h.1 m 6 = if w then 1 else 0) (h1 : x1.toInt = p.1) (h3 : x3.toInt = p.2) (h5 : x5.toInt = q.1) (h7 : x7.toInt = q.2) (hp : gz p) (hq : gz q)
    (hK : ∀ h', oT (mI m) (mL m) h h' → MI h' m (rz w (fz_ovr p q)).1 (rz w (fz_ovr p q)).2 → K h') : jV X (d + 3) y_Model_over [.ref m, .long x1, .long x3, .long x5, .long x7] n h K := by
  have e0 : (0 : Int64).toInt = 0 := rfl
  unfold fz_ovr at hK
  refine r_Model_over X (d + 2) n _ m x1 x3 x5 x7 h ⟨fun z => ⟨hm, ?_⟩, fun z => ⟨hm, ?_⟩⟩
  · have hz : q.1 ≠ 0 := fun y => z ((lg_cmp_eq _ _).mpr (Int64.toInt_inj.mp (by rw [h5, y]; rfl)))
    rw [if_neg hz, fz_quo_of hq] at hK
    have a1 := nz_m2 h1 h7 hp.1 (fz_lo hq.r)
    have a3 := nz_m2 h3 h5 (fz_lo hp.r) hq.1
    have b1 := nz_mb hp.1 (fz_lo hq.r)
    have b3 := nz_mb (fz_lo hp.r) hq.1
    refine c_is X d n _ h m _ _ w hm hw (by rw [a1]; omega) (by rw [a3]; omega) (by rw [a3]; intro y; rcases Int.mul_eq_zero.mp y with y | y; have := hp.2.1; omega; exact hz y) (by rw [a1, a3]; exact hK)
  · have hz : q.1 = 0 := by rw [← h5, (lg_cmp_eq _ _).mp z]; rfl
    rw [if_pos hz] at hK
    exact c_is X d n _ h m 0 1 w hm hw (by decide) (by decide) (by decide) hK
end
theorem c_order (X : jv_X) (d n : Nat) (K : Int32 → jv_H → Prop) (h : jv_H) (x1 x3 x5 x7 : Int64) (p q : Int × Int) (h1 : x1.toInt = p.1) (h3 : x3.toInt = p.2) (h5 : x5.toInt = q.1) (h7 : x7.toInt = q.2) (hp : fz_r p) (hq : fz_r q)
    (hK : K (fz_cmp p q) h) : jI X (d + 1) y_Model_order [.long x1, .long x3, .long x5, .long x7] n h K := by
  have a1 := nz_m2 h1 h7 hp.1 (fz_lo hq)
  have a2 := nz_m2 h5 h3 hq.1 (fz_lo hp)
  unfold fz_cmp at hK
  rw [← a1, ← a2] at hK
  refine r_Model_order X d n _ x1 x3 x5 x7 h ⟨fun z => ⟨fun y => ?_, fun y => ?_⟩, fun z => ?_⟩
  · have z := Int64.le_iff_toInt_le.mp ((lg_cmp_ge _ _).mp z)
    have y := Int64.le_iff_toInt_le.mp ((lg_cmp_le _ _).mp y)
    rw [if_neg (by omega), if_pos (by omega)] at hK
    exact hK
  · have z := Int64.le_iff_toInt_le.mp ((lg_cmp_ge _ _).mp z)
    have y : ¬ (x1 * x7).toInt ≤ (x5 * x3).toInt := fun v => y ((lg_cmp_le _ _).mpr (Int64.le_iff_toInt_le.mpr v))
    rw [if_neg (by omega), if_neg (by omega)] at hK
    exact hK
  · have z : ¬ (x5 * x3).toInt ≤ (x1 * x7).toInt := fun v => z ((lg_cmp_ge _ _).mpr (Int64.le_iff_toInt_le.mpr v))
    rw [if_pos (by omega)] at hK
    exact hK
