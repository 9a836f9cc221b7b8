/-! ===== the reference: divide ===== -/
theorem fz_of_ng (u l : Int) : fz_of (-u) l = if fz_of u l = (-1, 0) then (-1, 0) else (-(fz_of u l).1, (fz_of u l).2) := by
  by_cases hl : l = 0
  · rw [hl, fz_of_W, fz_of_W, if_pos rfl]
  · have en : ((if l < 0 then -(-u) else -u).tdiv (Nat.gcd (-u).natAbs l.natAbs : Nat)) = -((if l < 0 then -u else u).tdiv (Nat.gcd u.natAbs l.natAbs : Nat)) := by
      rw [Int.natAbs_neg]
      by_cases h : l < 0
      · rw [if_pos h, if_pos h, Int.neg_tdiv]
      · rw [if_neg h, if_neg h, Int.neg_tdiv]
    by_cases hw : fz_of u l = (-1, 0)
    · rw [if_pos hw]
      rw [fz_of_ne hl] at hw ⊢
      rw [en, Int.natAbs_neg, Int.natAbs_neg]
      exact hw
    · rw [if_neg hw]
      have hw2 : ¬ fz_of (-u) l = (-1, 0) := fun z => hw (by
        rw [fz_of_ne hl] at z ⊢
        rw [en, Int.natAbs_neg, Int.natAbs_neg] at z
        exact z)
      rw [fz_of_ne hl] at hw hw2
      unfold fz_of
      rw [if_neg hl, if_neg hl, if_neg hw, if_neg hw2, en, Int.natAbs_neg]
theorem fz_neg_gd {q : Int × Int} (h : gd q) : fz_neg q = (-q.1, q.2) := by
  unfold fz_neg fz_sub
  rw [Int.zero_mul, Int.zero_sub, Int.mul_one, Int.one_mul, fz_of_ng, h.2, if_neg h.nw]
theorem fz_less {a q b : Int × Int} (h : gd q) : fz_sum a (fz_mul (fz_neg q) b) = fz_sub a (fz_mul q b) := by
  rw [fz_neg_gd h]
  unfold fz_mul
  rw [Int.neg_mul, fz_of_ng]
  by_cases e : fz_of (q.1 * b.1) (q.2 * b.2) = (-1, 0)
  · rw [if_pos e, e, fz_sum_W2, fz_sub_W2]
  · rw [if_neg e]
    unfold fz_sum fz_sub
    dsimp only
    rw [Int.neg_mul]
    rfl
theorem pz_hi_at (f : Nat → Int × Int) : ∀ k, 0 ≤ pz_hi f k → ∃ e : Nat, pz_hi f k = e ∧ e < k ∧ f e ≠ (0, 1)
  | 0, h => absurd h (show ¬ (0 : Int) ≤ -1 by decide)
  | k + 1, h => by
    unfold pz_hi at h ⊢
    by_cases e : f k = (0, 1)
    · rw [if_pos e] at h ⊢
      obtain ⟨i, h1, h2, h3⟩ := pz_hi_at f k h
      exact ⟨i, h1, by omega, h3⟩
    · rw [if_neg e]
      exact ⟨k, rfl, by omega, e⟩
theorem pz_lo_at (f : Nat → Int × Int) : ∀ r k, (∃ i, k ≤ i ∧ i < k + r ∧ f i ≠ (0, 1)) → ∃ e : Nat, pz_lo f r k = e ∧ e < k + r ∧ f e ≠ (0, 1)
  | 0, k, h => by
    obtain ⟨i, h1, h2, h3⟩ := h
    omega
  | r + 1, k, h => by
    unfold pz_lo
    by_cases e : f k = (0, 1)
    · rw [if_pos e]
      obtain ⟨i, h1, h2, h3⟩ := h
      have : i ≠ k := fun z => h3 (by rw [z]; exact e)
      obtain ⟨j, a1, a2, a3⟩ := pz_lo_at f r (k + 1) ⟨i, by omega, by omega, h3⟩
      exact ⟨j, a1, by omega, a3⟩
    · rw [if_neg e]
      exact ⟨k, rfl, by omega, e⟩
def ed (x : Int32) (f : Nat → Int × Int) : Int := if x = 0 then pz_hi f 13 else pz_lo f 13 0
theorem ed_at (x : Int32) (f : Nat → Int × Int) (h : 0 ≤ pz_hi f 13) : ∃ e : Nat, ed x f = e ∧ e < 13 ∧ f e ≠ (0, 1) := by
  unfold ed
  obtain ⟨e, h1, h2, h3⟩ := pz_hi_at f 13 h
  split
  · exact ⟨e, h1, h2, h3⟩
  · obtain ⟨i, a1, a2, a3⟩ := pz_lo_at f 13 0 ⟨e, by omega, by omega, h3⟩
    exact ⟨i, a1, by omega, a3⟩
theorem ldr_ed (x : Int32) (f : Nat → Int × Int) {e : Nat} (h : ed x f = e) (he : e < 13) : ldr (if x = 0 then 1 else 0) f = f e := by
  unfold ldr
  unfold ed at h
  have key : (if (if x = 0 then (1 : Int32) else 0) = 0 then pz_lo f 13 0 else pz_hi f 13) = e := by
    rw [← h]
    by_cases z : x = 0
    · rw [if_pos z, if_pos z, if_neg (by decide)]
    · rw [if_neg z, if_neg z, if_pos rfl]
  rw [key]
  unfold pz_at
  rw [if_pos ⟨by omega, by omega⟩]
  rfl
theorem rch_ed (x : Int32) (f : Nat → Int × Int) : rch (if x = 0 then 1 else 0) f = if x = 0 then ed x f else -(ed x f) := by
  unfold rch ed
  by_cases z : x = 0
  · rw [if_pos z, if_pos z, if_neg (by decide), if_pos z]
  · rw [if_neg z, if_neg z, if_pos rfl, if_neg z]
theorem div_nest (P : Int32 → Int32 → Prop) (x2 x3 s0 : Int32) (h2 : x2 = 0 ∨ x2 = 1) (h3 : x3 = 0 ∨ x3 = 1) (h0 : s0 = 0 ∨ s0 = 1) (hP : P (if s0 = 0 then x3 else x2) (if s0 = 0 then 2 else if x2 = 0 then x3 else 1 - x3)) :
    (¬ s0 = 1 → ((¬ x3 = 1 → ((¬ s0 = 0 → ((¬ x2 = 0 → P 0 (1 - x3)) ∧ (x2 = 0 → P 0 x3))) ∧ (s0 = 0 → P 0 2))) ∧ (x3 = 1 → ((¬ s0 = 0 → ((¬ x2 = 0 → P 1 (1 - x3)) ∧ (x2 = 0 → P 1 x3))) ∧ (s0 = 0 → P 1 2))))) ∧ (s0 = 1 → ((¬ x2 = 1 → ((¬ s0 = 0 → ((¬ x2 = 0 → P 0 (1 - x3)) ∧ (x2 = 0 → P 0 x3))) ∧ (s0 = 0 → P 0 2))) ∧ (x2 = 1 → ((¬ s0 = 0 → ((¬ x2 = 0 → P 1 (1 - x3)) ∧ (x2 = 0 → P 1 x3))) ∧ (s0 = 0 → P 1 2))))) := by
  have n1 : ¬ (1 : Int32) = 0 := by decide
  have n2 : ¬ (0 : Int32) = 1 := by decide
  rcases h2 with z2 | z2 <;> rcases h3 with z3 | z3 <;> rcases h0 with z0 | z0 <;> subst z2 <;> subst z3 <;> subst z0 <;> simp at hP ⊢ <;> exact hP
section
variable (X : jv_X) (d : Nat) (h : jv_H) (K : jv_H → Prop) (KI : Int32 → jv_H → Prop) (Z : zZ)
theorem less_l (Q : jv_Q) (x1 x3 : Int64) (q : Int × Int) (hq : gd q) (h1 : x1.toInt = q.1) (h3 : x3.toInt = q.2) (x5 : Int32) (r : Int) (h5 : x5.toInt = -r) (hr : -1000 ≤ r ∧ r ≤ 1000) (A B : Nat → Int × Int) (gA : gdr A) (gB : gdr B) :
    ∀ (m k : Nat) (x6 : Int32) (h : jv_H) (wc : Bool) (Fc : Nat → Int × Int), x6.toInt = k → k + m = 13 → MR h → h.1 171 6 = (if wc then 1 else 0) → rw0 h 200 201 Fc → gdr Fc → rw0 h 202 203 B → ((wc = false ∧ ∀ i, i < 13 → Fc i = if i < k then pz_add A B (fz_neg q) r i else A i) ∨ (wc = true ∧ ¬ noW (pz_add A B (fz_neg q) r))) →
      (∀ h' w', oT (mI 171) (u4 200 201) h h' → h'.1 171 6 = (if w' then 1 else 0) → wres h' 200 201 false w' (pz_add A B (fz_neg q) r) → Q none h') → a_Model_lessens_3 X (d + 3) 227 Q 171 x1 x3 x5 x6 h 0
  | 0, k, x6, h, wc, Fc, hx, hm, mr, hw, c, g, c2, inv, hQ => by
    refine r_Model_lessens_3 X (d + 3) 227 Q 171 x1 x3 x5 x6 h ⟨fun _ => hQ h wc oT.rf hw ?_, fun z => absurd (nz_le.mpr (by rw [hx]; show (13 : Int) ≤ _; omega)) z⟩
    rcases inv with ⟨i1, i3⟩ | ⟨i1, i2⟩
    · have e : ∀ i, i < 13 → pz_add A B (fz_neg q) r i = Fc i := fun i hi => by rw [i3 i hi, if_pos (by omega)]
      exact Or.inl ⟨i1, rfl, fun i hi => by rw [e i hi]; exact (g i hi).nw, c.eq e⟩
    · exact Or.inr ⟨i1, Or.inr i2, Fc, g, c⟩
  | m + 1, k, x6, h, wc, Fc, hx, hm, mr, hw, c, g, c2, inv, hQ => by
    have hs : (x6 + x5).toInt = (k : Int) - r := by rw [nz_addi (by rw [hx, h5]; omega) (by rw [hx, h5]; omega), hx, h5]; omega
    refine r_Model_lessens_3 X (d + 3) 227 Q 171 x1 x3 x5 x6 h ⟨fun z => ?_, fun _ => c_in X (d + 2) 227 _ h _ _ _ ⟨fun y => ?_, fun y => ?_⟩⟩
    · have : (13 : Int) ≤ x6.toInt := nz_le.mp z
      omega
    · rw [nz_bt, Classical.not_not, Int32.toInt_toInt64, hs] at y
      have y : 0 ≤ (k : Int) - r ∧ (k : Int) - r ≤ 12 := y
      have hs' : (x6 + x5).toInt = (((k : Int) - r).toNat : Int) := by omega
      have hj : ((k : Int) - r).toNat < 13 := by omega
      have eat : pz_at B ((k : Int) - r) = B ((k : Int) - r).toNat := if_pos y
      generalize ((k : Int) - r).toNat = j at hs' hj eat
      have g0 : ∀ q : Nat, SHT q = (1, 13) → q < 227 → jv_ix SHT 227 q 1 x6 := fun q h1 h2 => jx h1 h2 (by omega) (by omega)
      have g1 : ∀ q : Nat, SHT q = (1, 13) → q < 227 → jv_ix SHT 227 q 1 (x6 + x5) := fun q h1 h2 => jx h1 h2 (by omega) (by omega)
      refine ⟨is171, _, mr 41, g1 202 rfl (by decide), is171, _, mr 42, g1 203 rfl (by decide), is171, ?_⟩
      rw [nz_nat hs']
      have v2 := c2 j hj
      refine c_times X d 227 _ h 171 _ _ _ _ wc q (B j) is171 hw h1 h3 (uq.a v2) (uq.b v2) hq.z (gB j hj).z (fun h4 o4 m4 => ⟨is171, _, (mr.mv o4) 39, g0 200 rfl (by decide), is171, _, (mr.mv o4) 40, g0 201 rfl (by decide), is171, is171, is171, ?_⟩)
      rw [nz_nat hx]
      have c1 : rw0 h4 200 201 Fc := c.mv o4 (fun i => ⟨fun z => by unfold mL at z; omega, fun z => by unfold mL at z; omega⟩)
      have w1 := c1 k (by omega)
      refine c_minus X d 227 _ h4 171 _ _ _ _ _ (Fc k) _ is171 m4.2.2 (uq.a w1) (uq.b w1) m4.1 m4.2.1 (g _ (by omega)).z rz_mul.z (fun h7 o5 m5 => ⟨is171, _, ((mr.mv o4).mv o5) 39, is171, g0 200 rfl (by decide), is171, _, ((mr.mv o4).mv o5) 40, is171, g0 201 rfl (by decide), ?_⟩)
      have e5 : jv_gL (jv_uL h7 200 k (jv_gL h7 171 4)) 171 5 = jv_gL h7 171 5 := uL_ne (by omega)
      rw [e5]
      have o12 := o4.tr o5
      have o3 : oT (mI 171) (u4 200 201) h (jv_uL (jv_uL h7 200 k (jv_gL h7 171 4)) 201 k (jv_gL h7 171 5)) := ((mi_u4 o12).uL (Or.inr (Or.inl rfl))).uL (Or.inr (Or.inr rfl))
      have c3 : rw0 (jv_uL (jv_uL h7 200 k (jv_gL h7 171 4)) 201 k (jv_gL h7 171 5)) 200 201 (pz_up Fc k (rz (rz wc (fz_mul q (B j))).1 (fz_sub (Fc k) (rz wc (fz_mul q (B j))).2)).2) := (c.mv o12 (fun i => ⟨fun z => by unfold mL at z; omega, fun z => by unfold mL at z; omega⟩)).st (by decide) (Prod.ext m5.1 m5.2.1)
      have c4 := c2.mv o3 (fun i => ⟨fun z => by unfold u4 at z; omega, fun z => by unfold u4 at z; omega⟩)
      have eV : pz_add A B (fz_neg q) r k = fz_sub (A k) (fz_mul q (B j)) := by
        unfold pz_add
        rw [eat, fz_less hq]
      have eF : wc = false → Fc k = A k := fun hwc => by
        rcases inv with ⟨i1, i3⟩ | ⟨i1, i2⟩
        · rw [i3 k (by omega), if_neg (Nat.lt_irrefl _)]
        · rw [i1] at hwc; cases hwc
      have st := rq_in (w0 := false) (N := ¬ noW (pz_add A B (fz_neg q) r)) (s := Fc k) fz_sub fz_sub_W1 fz_sub_W2 (T := fz_mul q (B j)) (inv.imp (fun z => ⟨z.1, rfl, (g _ (by omega)).nw⟩) (fun z => ⟨z.1, Or.inr z.2⟩)) (fun hwc z => by
        rw [eF hwc, ← eV] at z
        exact fun y => y _ (by omega) z)
      refine less_l Q x1 x3 q hq h1 h3 x5 r h5 hr A B gA gB m (k + 1) _ _ _ _ (nz_inc hx (by omega)) (by omega) (mr.mv o3) m5.2.2 c3 (g.up rz_sub) c4 ?_ (fun h' w' o' a1 a2 => hQ h' w' (o3.tr o') a1 a2)
      rcases st with ⟨s1, s2, s3, s4⟩ | ⟨s1, s2⟩
      · rcases inv with ⟨i1, i3⟩ | ⟨i1, i2⟩
        · refine Or.inl ⟨s1, fun i hi => ?_⟩
          unfold pz_up
          by_cases e : i = k
          · rw [if_pos e, if_pos (by omega), s3, e, eV, eF i1]
          · rw [if_neg e, i3 i hi]
            by_cases y : i < k
            · rw [if_pos y, if_pos (by omega)]
            · rw [if_neg y, if_neg (by omega)]
        · rw [i1] at s4; cases s4
      · exact Or.inr ⟨s1, s2.elim (fun z => by cases z) id⟩
    · rw [nz_bt, Int32.toInt_toInt64, hs] at y
      have y : ¬ (0 ≤ (k : Int) - r ∧ (k : Int) - r ≤ 12) := y
      have eV : pz_add A B (fz_neg q) r k = A k := by
        unfold pz_add
        rw [show pz_at B ((k : Int) - r) = (0, 1) from if_neg y, fz_less hq, fz_mul_0 hq.z, fz_sub_0 (gA k (by omega))]
      refine less_l Q x1 x3 q hq h1 h3 x5 r h5 hr A B gA gB m (k + 1) _ _ _ _ (nz_inc hx (by omega)) (by omega) mr hw c g c2 ?_ hQ
      refine inv.imp (fun z => ⟨z.1, fun i hi => ?_⟩) id
      rw [z.2 i hi]
      by_cases e : i = k
      · rw [if_neg (by omega), if_pos (by omega), e, eV]
      · by_cases y : i < k
        · rw [if_pos y, if_pos (by omega)]
        · rw [if_neg y, if_neg (by omega)]
theorem m_lessens (x1 x3 : Int64) (q : Int × Int) (hq : gd q) (h1 : x1.toInt = q.1) (h3 : x3.toInt = q.2) (x5 : Int32) (r : Int) (h5 : x5.toInt = -r) (hr : -1000 ≤ r ∧ r ≤ 1000) (A B : Nat → Int × Int) (gA : gdr A) (gB : gdr B) (mr : MR h) (hw : h.1 171 6 = 0) (c : rw0 h 200 201 A) (c2 : rw0 h 202 203 B)
    (hK : ∀ h' w', oT (mI 171) (u4 200 201) h h' → h'.1 171 6 = (if w' then 1 else 0) → wres h' 200 201 false w' (pz_add A B (fz_neg q) r) → K h') : jV X (d + 4) y_Model_lessens [.ref 171, .long x1, .long x3, .int x5] 227 h K :=
  r_Model_lessens X (d + 3) 227 _ 171 x1 x3 x5 h (less_l X d _ x1 x3 q hq h1 h3 x5 r h5 hr A B gA gB 13 0 0 h false A rfl rfl mr hw c gA c2 (Or.inl ⟨rfl, fun i _ => (if_neg (Nat.not_lt_zero _)).symm⟩) hK)
end
