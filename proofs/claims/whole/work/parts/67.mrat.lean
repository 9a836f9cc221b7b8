/-! ===== the reference: ratios that are read ===== -/
/-- what the reference has worked, and what is worked truly: too wide, or the same -/
def rq (w : Bool) (s S : Int × Int) : Prop := (w = true ∧ S = (-1, 0)) ∨ (w = false ∧ s = S ∧ S ≠ (-1, 0))
theorem rq_2 {w : Bool} {s S a b : Int × Int} (G : Int × Int → Int × Int → Int × Int) (g1 : ∀ q, G (-1, 0) q = (-1, 0)) (g2 : ∀ q, G q (-1, 0) = (-1, 0)) (h : rq w s S) (t : Int × Int) (w1 : Bool) (e1 : (rz w t) = (w1, a)) (e2 : b = G s a) : rq (rz w1 b).1 (rz w1 b).2 (G S t) := by
  rcases h with ⟨hw, hS⟩ | ⟨hw, hs, hS⟩
  · rw [hw, rz_t] at e1
    have : w1 = true := (congrArg Prod.fst e1).symm
    rw [this, rz_t, hS, g1]
    exact Or.inl ⟨rfl, rfl⟩
  · subst hw
    by_cases ht : t = (-1, 0)
    · rw [ht, rz_W] at e1
      have : w1 = true := (congrArg Prod.fst e1).symm
      rw [this, rz_t, ht, g2]
      exact Or.inl ⟨rfl, rfl⟩
    · rw [rz_f ht] at e1
      have h1 : w1 = false := (congrArg Prod.fst e1).symm
      have h2 : a = t := (congrArg Prod.snd e1).symm
      rw [h1, e2, h2, hs]
      by_cases hG : G S t = (-1, 0)
      · rw [hG, rz_W]
        exact Or.inl ⟨rfl, rfl⟩
      · rw [rz_f hG]
        exact Or.inr ⟨rfl, rfl, hG⟩
theorem rq_1 {w : Bool} {s S : Int × Int} (G : Int × Int → Int × Int) (g1 : G (-1, 0) = (-1, 0)) (h : rq w s S) : rq (rz w (G s)).1 (rz w (G s)).2 (G S) := by
  rcases h with ⟨hw, hS⟩ | ⟨hw, hs, hS⟩
  · rw [hw, rz_t, hS, g1]
    exact Or.inl ⟨rfl, rfl⟩
  · subst hw
    rw [hs]
    by_cases hG : G S = (-1, 0)
    · rw [hG, rz_W]
      exact Or.inl ⟨rfl, rfl⟩
    · rw [rz_f hG]
      exact Or.inr ⟨rfl, rfl, hG⟩
theorem gd_z {q : Int × Int} (h : gd q) : q.1 = 0 ↔ q = (0, 1) := by
  constructor
  · intro z
    have h1 := h.2
    have h2 := h.1.2.1
    rw [z, fz_of_0 (by omega)] at h1
    exact h1.symm
  · intro z
    rw [z]
/-- a row of fractions -/
def rwq (h : jv_H) (u l w : Nat) (f : Nat → Int × Int) : Prop := ∀ i, i < 13 → uq h u l (w + i) = f i
theorem rwq.mv {SI SL : Nat → Nat → Prop} {h h' : jv_H} {u l w : Nat} {f : Nat → Int × Int} (c : rwq h u l w f) (a : oT SI SL h h') (h1 : ∀ i, i < 13 → ¬ SL u (w + i) ∧ ¬ SL l (w + i)) : rwq h' u l w f := fun i hi => by rw [uq.mv a (h1 i hi).1 (h1 i hi).2]; exact c i hi
def gdr (f : Nat → Int × Int) : Prop := ∀ i, i < 13 → gd (f i)
section
variable (X : jv_X) (d : Nat) (h : jv_H) (K : jv_H → Prop) (KI : Int32 → jv_H → Prop) (KJ : Int64 → jv_H → Prop) (Z : zZ)
theorem m_isRatio (x : Int32) (ms : MS h Z) (bd : bdZ Z) (hK1 : isR Z x → KI 1 h) (hK0 : ¬ isR Z x → KI 0 h) : jI X (d + 2) y_Model_isRatio [.ref 171, .int x] 227 h KI := by
  have hm := bd.2.1.1
  refine r_Model_isRatio X (d + 1) 227 _ 171 x h ⟨is171, c_in X d 227 _ h _ _ _ ⟨nz_b01, ?_⟩⟩
  rw [Int32.toInt_toInt64, Int32.toInt_toInt64, nz_m1i ms.k.zr (by omega), show (0 : Int64).toInt = 0 from rfl]
  by_cases y : isR Z x
  · rw [if_pos (by omega)]; exact hK1 y
  · rw [if_neg (by omega)]; exact hK0 y
theorem m_isLadder (x : Int32) (ms : MS h Z) (bd : bdZ Z) (hK1 : isL Z x → KI 1 h) (hK0 : ¬ isL Z x → KI 0 h) : jI X (d + 2) y_Model_isLadder [.ref 171, .int x] 227 h KI := by
  have hm := bd.2.1.2.1
  refine r_Model_isLadder X (d + 1) 227 _ 171 x h ⟨is171, c_in X d 227 _ h _ _ _ ⟨nz_b01, ?_⟩⟩
  rw [Int32.toInt_toInt64, Int32.toInt_toInt64, nz_m1i ms.k.zl (by omega), show (0 : Int64).toInt = 0 from rfl]
  by_cases y : isL Z x
  · rw [if_pos (by omega)]; exact hK1 y
  · rw [if_neg (by omega)]; exact hK0 y
theorem mhigh_l (Q : jv_Q) (x1 : Int32) (w : Nat) (h1 : x1.toInt = w) (hw : w + 13 ≤ 156) (f : Nat → Int × Int) (r : MR h) (c : rwq h 173 174 w f) (g : gdr f) : ∀ (k : Nat) (x : Int32), x.toInt = (k : Int) - 1 → k ≤ 13 → (∀ z : Int32, z.toInt = pz_hi f k → Q (some (.int z)) h) → a_Model_high_3 X d 227 Q 171 x1 x h 0
  | 0, x, hx, hk, hQ => by
    exact r_Model_high_3 X d 227 Q 171 x1 x h ⟨fun _ => hQ x (by rw [hx]; rfl), fun z => absurd (nz_lt.mpr (by rw [hx]; show _ < (0 : Int); omega)) z⟩
  | k + 1, x, hx, hk, hQ => by
    have hx' : x.toInt = k := by omega
    have e5 : (x1 + x).toInt = ((w + k : Nat) : Int) := by rw [nz_addi (by rw [h1, hx']; omega) (by rw [h1, hx']; omega), h1, hx']; omega
    have ev : (jv_gL h 173 (w + k)).toInt = (f k).1 := uq.a (c k (by omega))
    unfold pz_hi at hQ
    refine r_Model_high_3 X d 227 Q 171 x1 x h ⟨fun z => ?_, fun _ => ⟨is171, _, r 7, jx (len := 156) rfl (by decide) (by omega) (by omega), ?_⟩⟩
    · have : x.toInt < (0 : Int) := nz_lt.mp z
      omega
    · rw [nz_nat e5]
      refine ⟨fun y => ?_, fun y => ?_⟩
      · have : ¬ f k = (0, 1) := fun z => y ((lg_cmp_eq _ _).mpr (Int64.toInt_inj.mp (by rw [ev, z]; rfl)))
        rw [if_neg this] at hQ
        exact hQ x hx'
      · have : f k = (0, 1) := (gd_z (g k (by omega))).mp (by rw [← ev, (lg_cmp_eq _ _).mp y]; rfl)
        rw [if_pos this] at hQ
        exact mhigh_l Q x1 w h1 hw f r c g k _ (by rw [nz_dec hx' (by omega)]) (by omega) hQ
theorem mlow_l (Q : jv_Q) (x1 : Int32) (w : Nat) (h1 : x1.toInt = w) (hw : w + 13 ≤ 156) (f : Nat → Int × Int) (r : MR h) (c : rwq h 173 174 w f) (g : gdr f) : ∀ (m k : Nat) (x : Int32), x.toInt = k → k + m = 13 → (∃ i, k ≤ i ∧ i < 13 ∧ f i ≠ (0, 1)) → (∀ z : Int32, z.toInt = pz_lo f m k → Q (some (.int z)) h) → a_Model_lowOf_2 X d 227 Q 171 x1 x h 0
  | 0, k, x, hx, hk, ne, hQ => by
    obtain ⟨i, i1, i2, _⟩ := ne
    omega
  | m + 1, k, x, hx, hk, ne, hQ => by
    have e5 : (x1 + x).toInt = ((w + k : Nat) : Int) := by rw [nz_addi (by rw [h1, hx]; omega) (by rw [h1, hx]; omega), h1, hx]; omega
    have ev : (jv_gL h 173 (w + k)).toInt = (f k).1 := uq.a (c k (by omega))
    unfold pz_lo at hQ
    refine r_Model_lowOf_2 X d 227 Q 171 x1 x h ⟨fun z => ?_, fun _ => ⟨is171, _, r 7, jx (len := 156) rfl (by decide) (by omega) (by omega), ?_⟩⟩
    · have : (13 : Int) ≤ x.toInt := nz_le.mp z
      omega
    · rw [nz_nat e5]
      refine ⟨fun y => ?_, fun y => ?_⟩
      · have : ¬ f k = (0, 1) := fun z => y ((lg_cmp_eq _ _).mpr (Int64.toInt_inj.mp (by rw [ev, z]; rfl)))
        rw [if_neg this] at hQ
        exact hQ x hx
      · have e0 : f k = (0, 1) := (gd_z (g k (by omega))).mp (by rw [← ev, (lg_cmp_eq _ _).mp y]; rfl)
        rw [if_pos e0] at hQ
        obtain ⟨i, i1, i2, i3⟩ := ne
        have hik : i ≠ k := fun z => i3 (by rw [z]; exact e0)
        exact mlow_l Q x1 w h1 hw f r c g m (k + 1) _ (nz_inc hx (by omega)) (by omega) ⟨i, by omega, i2, i3⟩ hQ
theorem m_high (x1 : Int32) (w : Nat) (h1 : x1.toInt = w) (hw : w + 13 ≤ 156) (f : Nat → Int × Int) (r : MR h) (c : rwq h 173 174 w f) (g : gdr f) (hK : ∀ z : Int32, z.toInt = pz_hi f 13 → KI z h) : jI X (d + 1) y_Model_high [.ref 171, .int x1] 227 h KI :=
  r_Model_high X d 227 _ 171 x1 h (mhigh_l X d h _ x1 w h1 hw f r c g 13 12 rfl (by omega) hK)
theorem nz_ex {f : Nat → Int × Int} (h : 0 ≤ pz_hi f 13) : ∃ i, 0 ≤ i ∧ i < 13 ∧ f i ≠ (0, 1) := by
  apply Classical.byContradiction
  intro z
  have := (pz_hi_neg f 13).mpr (fun i hi => Classical.byContradiction (fun y => z ⟨i, Nat.zero_le _, hi, y⟩))
  omega
theorem m_lowOf (x1 : Int32) (w : Nat) (h1 : x1.toInt = w) (hw : w + 13 ≤ 156) (f : Nat → Int × Int) (r : MR h) (c : rwq h 173 174 w f) (g : gdr f) (ne : 0 ≤ pz_hi f 13) (hK : ∀ z : Int32, z.toInt = pz_lo f 13 0 → KI z h) : jI X (d + 1) y_Model_lowOf [.ref 171, .int x1] 227 h KI :=
  r_Model_lowOf X d 227 _ 171 x1 h (mlow_l X d h _ x1 w h1 hw f r c g 13 0 0 rfl (by omega) (nz_ex ne) hK)
theorem MS.ra {h : jv_H} {Z : zZ} (ms : MS h Z) {k : Nat} (hk : k < Z.k.nr) : rwq h 173 174 (26 * k) (Z.k.R k).1 := fun i hi => ms.k.pa hk hi
theorem MS.rb {h : jv_H} {Z : zZ} (ms : MS h Z) {k : Nat} (hk : k < Z.k.nr) : rwq h 173 174 (26 * k + 13) (Z.k.R k).2 := fun i hi => ms.k.pb hk hi
theorem nz_26 {x : Int32} {k : Nat} (hx : x.toInt = k) (hk : k < 6) : ((26 : Int32) * x).toInt = ((26 * k : Nat) : Int) ∧ ((26 : Int32) * x + 13).toInt = ((26 * k + 13 : Nat) : Int) := by
  have e26 : (26 : Int32).toInt = 26 := rfl
  have e13 : (13 : Int32).toInt = 13 := rfl
  have h1 : ((26 : Int32) * x).toInt = ((26 * k : Nat) : Int) := by rw [nz_muli (by rw [e26, hx]; omega) (by rw [e26, hx]; omega), e26, hx]; omega
  exact ⟨h1, by rw [nz_addi (by rw [h1, e13]; omega) (by rw [h1, e13]; omega), h1, e13]; omega⟩
theorem w_degree (x w : Int32) (ms : MS h Z) (bd : bdZ Z) (ok : okZ Z) (hK : dI h (q_degree x w Z) KI) : jI X 8 y_Model_degree [.ref 171, .int x, .int w] 227 h KI := by
  unfold q_degree at hK
  have hm := bd.2.1.1
  refine r_Model_degree X 7 227 _ 171 x w h ⟨is171, m_isRatio X 5 h _ Z x ms bd (fun hr => ⟨fun z => absurd z (by decide), fun _ => c_in X 6 227 _ h _ _ _ ⟨fun y => ?_, fun y => ?_⟩⟩) (fun hr => ⟨fun _ => ?_, fun z => absurd rfl z⟩)⟩
  · rw [nz_bt, Classical.not_not, Int32.toInt_toInt64] at y
    have y : 0 ≤ w.toInt ∧ w.toInt ≤ 3 := y
    rw [if_pos ⟨hr, y⟩] at hK
    have hx : x.toInt = (x.toInt.toNat : Int) := by omega
    have hk : x.toInt.toNat < Z.k.nr := by omega
    have hR : Z.R x = Z.k.R x.toInt.toNat := congrArg Z.k.R (nz_nat hx)
    rw [hR] at hK
    obtain ⟨e1, e2⟩ := nz_26 hx (by omega)
    obtain ⟨ok1, ok2, ok3⟩ := ok.1.1 _ hk
    have ra := ms.ra hk
    have rb := ms.rb hk
    have g1 : gdr (Z.k.R x.toInt.toNat).1 := fun i hi => (ok1 i hi).1
    have g2 : gdr (Z.k.R x.toInt.toNat).2 := fun i hi => (ok1 i hi).2
    have e0 : ((26 : Int32) * x + 0).toInt = ((26 * x.toInt.toNat : Nat) : Int) := by rw [Int32.add_zero]; exact e1
    have w4 : w = 0 ∨ w = 1 ∨ w = 2 ∨ w = 3 := by
      have : w.toInt = 0 ∨ w.toInt = 1 ∨ w.toInt = 2 ∨ w.toInt = 3 := by omega
      rcases this with z | z | z | z
      · exact Or.inl (Int32.toInt_inj.mp z)
      · exact Or.inr (Or.inl (Int32.toInt_inj.mp z))
      · exact Or.inr (Or.inr (Or.inl (Int32.toInt_inj.mp z)))
      · exact Or.inr (Or.inr (Or.inr (Int32.toInt_inj.mp z)))
    rcases w4 with z | z | z | z
    · subst z
      refine ⟨fun a => absurd a (by decide), fun _ => ⟨by decide, fun a => absurd (show ((0 : Int32) - 0 / 2 * 2) = 0 by decide) a, fun _ => ⟨is171, m_high X 6 h _ _ _ e0 (by omega) _ ms.r ra g1 (fun z hz => hK z hz h oM.rf ms)⟩⟩⟩
    · subst z
      refine ⟨fun a => absurd a (by decide), fun _ => ⟨by decide, fun _ => ⟨is171, m_lowOf X 6 h _ _ _ e0 (by omega) _ ms.r ra g1 ok2 (fun z hz => hK z hz h oM.rf ms)⟩, fun a => absurd a (show ¬ ((1 : Int32) - 1 / 2 * 2) = 0 by decide)⟩⟩
    · subst z
      refine ⟨fun _ => ⟨by decide, fun a => absurd (show ((2 : Int32) - 2 / 2 * 2) = 0 by decide) a, fun _ => ⟨is171, m_high X 6 h _ _ _ e2 (by omega) _ ms.r rb g2 (fun z hz => hK z hz h oM.rf ms)⟩⟩, fun a => absurd (show (2 : Int32) ≤ 2 by decide) a⟩
    · subst z
      refine ⟨fun _ => ⟨by decide, fun _ => ⟨is171, m_lowOf X 6 h _ _ _ e2 (by omega) _ ms.r rb g2 ok3 (fun z hz => hK z hz h oM.rf ms)⟩, fun a => absurd a (show ¬ ((3 : Int32) - 3 / 2 * 2) = 0 by decide)⟩, fun a => absurd (show (2 : Int32) ≤ 3 by decide) a⟩
  · rw [nz_bt, Int32.toInt_toInt64] at y
    rw [if_neg (fun z => y z.2)] at hK
    exact hK _ rfl h oM.rf ms
  · rw [if_neg (fun z => hr z.1)] at hK
    exact hK _ rfl h oM.rf ms
theorem w_coefficient (x s p a : Int32) (ms : MS h Z) (bd : bdZ Z) (ok : okZ Z) (hK : dJ h (q_coef x s p a Z) KJ) : jL X 8 y_Model_coefficient [.ref 171, .int x, .int s, .int p, .int a] 227 h KJ := by
  unfold q_coef at hK
  have hm := bd.2.1.1
  refine r_Model_coefficient X 7 227 _ 171 x s p a h ⟨is171, m_isRatio X 5 h _ Z x ms bd (fun hr => ⟨fun z => absurd z (by decide), fun _ => c_in X 6 227 _ h _ _ _ ⟨fun y => ?_, fun y => c_in X 6 227 _ h _ _ _ ⟨fun y2 => ?_, fun y2 => c_in X 6 227 _ h _ _ _ ⟨fun y3 => ?_, fun y3 => ?_⟩⟩⟩⟩) (fun hr => ⟨fun _ => ?_, fun z => absurd rfl z⟩)⟩
  · rw [nz_bt, Int32.toInt_toInt64] at y
    rw [if_neg (fun z => y z.2.1)] at hK
    exact hK _ rfl h oM.rf ms
  · rw [nz_bt, Int32.toInt_toInt64] at y2
    rw [if_neg (fun z => y2 z.2.2)] at hK
    exact hK _ rfl h oM.rf ms
  · rw [nz_bt, Classical.not_not, Int32.toInt_toInt64] at y y2 y3
    have y : 0 ≤ s.toInt ∧ s.toInt ≤ 1 := y
    have y2 : 0 ≤ p.toInt ∧ p.toInt ≤ 12 := y2
    have y3 : 0 ≤ a.toInt ∧ a.toInt ≤ 1 := y3
    rw [if_pos ⟨hr, y, y2⟩] at hK
    have hx : x.toInt = (x.toInt.toNat : Int) := by omega
    have hk : x.toInt.toNat < Z.k.nr := by omega
    have hR : Z.R x = Z.k.R x.toInt.toNat := congrArg Z.k.R (nz_nat hx)
    rw [hR] at hK
    obtain ⟨e1, e2⟩ := nz_26 hx (by omega)
    obtain ⟨ok1, ok2, ok3⟩ := ok.1.1 _ hk
    have e13 : (13 : Int32).toInt = 13 := rfl
    have h13 : ((13 : Int32) * s).toInt = 13 * s.toInt := by rw [nz_muli (by rw [e13]; omega) (by rw [e13]; omega), e13]
    have hs1 : ((26 : Int32) * x + 13 * s).toInt = 26 * x.toInt.toNat + 13 * s.toInt := by rw [nz_addi (by rw [e1, h13]; omega) (by rw [e1, h13]; omega), e1, h13]; omega
    have hs2 : ((26 : Int32) * x + 13 * s + p).toInt = ((26 * x.toInt.toNat + (13 * s.toInt).toNat + p.toInt.toNat : Nat) : Int) := by rw [nz_addi (by rw [hs1]; omega) (by rw [hs1]; omega), hs1]; omega
    have hv : uq h 173 174 (26 * x.toInt.toNat + (13 * s.toInt).toNat + p.toInt.toNat) = pz_at (if s = 0 then (Z.k.R x.toInt.toNat).1 else (Z.k.R x.toInt.toNat).2) p.toInt := by
      unfold pz_at
      rw [if_pos y2]
      by_cases e : s = 0
      · rw [if_pos e, e]
        exact ms.k.pa hk (by omega)
      · rw [if_neg e]
        have : s.toInt = 1 := by
          have : s.toInt ≠ 0 := fun z => e (Int32.toInt_inj.mp z)
          omega
        rw [this]
        exact ms.k.pb hk (by omega)
    have hg : gd (pz_at (if s = 0 then (Z.k.R x.toInt.toNat).1 else (Z.k.R x.toInt.toNat).2) p.toInt) := by
      unfold pz_at
      rw [if_pos y2]
      split
      · exact (ok1 _ (by omega)).1
      · exact (ok1 _ (by omega)).2
    unfold fz_tell at hK
    rw [if_neg (fun z => z.elim hg.nw (fun q => q y3))] at hK
    have gx : jv_ix SHT 227 173 1 ((26 : Int32) * x + 13 * s + p) := jx (len := 156) rfl (by decide) (by omega) (by omega)
    have gy : jv_ix SHT 227 174 1 ((26 : Int32) * x + 13 * s + p) := jx (len := 156) rfl (by decide) (by omega) (by omega)
    refine ⟨fun e => ⟨is171, _, ms.r 8, gy, ?_⟩, fun e => ⟨is171, _, ms.r 7, gx, ?_⟩⟩
    · have e : ¬ a.toInt = 0 := fun z => e (Int32.toInt_inj.mp z)
      rw [if_neg e] at hK
      rw [nz_nat hs2]
      exact hK _ (uq.b hv) h oM.rf ms
    · rw [if_pos (show a.toInt = 0 by rw [e]; rfl)] at hK
      rw [nz_nat hs2]
      exact hK _ (uq.a hv) h oM.rf ms
  · rw [nz_bt, Int32.toInt_toInt64] at y3
    have y3 : ¬ (0 ≤ a.toInt ∧ a.toInt ≤ 1) := y3
    have e : (fz_tell (pz_at (if s = 0 then (Z.R x).1 else (Z.R x).2) p.toInt) a.toInt, Z) = (NOx, Z) := by
      unfold fz_tell
      rw [if_pos (Or.inr y3)]
      rfl
    rw [e, ite_self] at hK
    exact hK _ rfl h oM.rf ms
  · rw [if_neg (fun z => hr z.1)] at hK
    exact hK _ rfl h oM.rf ms
theorem sp_nx {f g : Nat → Int × Int} (gf : gdr f) (pw k : Nat) (hk : k < 13) (ho : pw < k ∨ 12 + k < pw) : pz_sp f g pw (k + 1) = pz_sp f g pw k := by
  have e : pz_at g ((pw : Int) - k) = (0, 1) := if_neg (by omega)
  have ef : pz_at f (k : Int) = f k := if_pos ⟨by omega, by omega⟩
  show fz_sum (pz_sp f g pw k) (fz_mul (pz_at f k) (pz_at g ((pw : Int) - k))) = _
  rw [e, ef, fz_mul_0 (gf k hk).z]
  cases k with
  | zero => exact fz_sum_0 gd_0
  | succ k =>
    by_cases hW : pz_sp f g pw (k + 1) = (-1, 0)
    · rw [hW, fz_sum_W1]
    · exact fz_sum_0 (fz_of_gd hW)
theorem sp_tl {f g : Nat → Int × Int} (gf : gdr f) (pw : Nat) : ∀ (m k : Nat), k + m = 13 → pw < k → pz_sp f g pw 13 = pz_sp f g pw k
  | 0, k, hm, hk => by rw [show k = 13 by omega]
  | m + 1, k, hm, hk => by
    rw [← sp_nx gf pw k (by omega) (Or.inl hk)]
    exact sp_tl gf pw m (k + 1) (by omega) (by omega)
theorem mprod_l (Q : jv_Q) (x1 x2 x3 : Int32) (w1 w2 pw : Nat) (h1 : x1.toInt = w1) (h2 : x2.toInt = w2) (h3 : x3.toInt = pw) (b1 : w1 + 13 ≤ 156) (b2 : w2 + 13 ≤ 156) (hpw : pw ≤ 24) (f g : Nat → Int × Int) (gf : gdr f) (gg : gdr g) :
    ∀ (m k : Nat) (x8 : Int32) (x4 x6 : Int64) (w : Bool) (s : Int × Int) (h : jv_H), x8.toInt = k → k + m = pw + 1 → (x4.toInt, x6.toInt) = s → gd s → rq w s (pz_sp f g pw (min k 13)) → h.1 171 6 = (if w then 1 else 0) → MR h → rwq h 173 174 w1 f → rwq h 173 174 w2 g →
      (∀ h' w' s', oT (mI 171) (mL 171) h h' → h'.1 171 6 = (if w' then 1 else 0) → ((h'.2.1 171 4).toInt, (h'.2.1 171 5).toInt) = s' → gd s' → rq w' s' (pz_sp f g pw 13) → Q none h') → a_Model_product_9 X (d + 3) 227 Q 171 x1 x2 x3 x4 x6 x8 h 0
  | 0, k, x8, x4, x6, w, s, h, h8, hm, hs, gs, hq, hw, r, c1, c2, hQ => by
    have e : pz_sp f g pw (min k 13) = pz_sp f g pw 13 := by
      by_cases hk : k ≤ 13
      · rw [Nat.min_eq_left hk]
        exact (sp_tl gf pw (13 - k) k (by omega) (by omega)).symm
      · rw [Nat.min_eq_right (by omega)]
    rw [e] at hq
    refine r_Model_product_9 X (d + 3) 227 Q 171 x1 x2 x3 x4 x6 x8 h ⟨fun _ => ⟨is171, is171, ?_⟩, fun z => absurd (nz_lt.mpr (by rw [h3, h8]; omega)) z⟩
    refine hQ _ w s ((oT.rf.uL ⟨rfl, Or.inl rfl⟩).uL ⟨rfl, Or.inr rfl⟩) hw ?_ gs hq
    rw [uL_ne (by omega), uL_eq, uL_eq]
    exact hs
  | m + 1, k, x8, x4, x6, w, s, h, h8, hm, hs, gs, hq, hw, r, c1, c2, hQ => by
    have e13 : (13 : Int32).toInt = 13 := rfl
    have hd : (x3 - x8).toInt = (pw : Int) - k := nz_sub_i h3 h8 (by omega) (by omega)
    have skip : pz_sp f g pw (min (k + 1) 13) = pz_sp f g pw (min k 13) → a_Model_product_9 X (d + 3) 227 Q 171 x1 x2 x3 x4 x6 (x8 + 1) h 0 := fun e => mprod_l Q x1 x2 x3 w1 w2 pw h1 h2 h3 b1 b2 hpw f g gf gg m (k + 1) _ _ _ w s h (nz_inc h8 (by omega)) (by omega) hs gs (by rw [e]; exact hq) hw r c1 c2 hQ
    refine r_Model_product_9 X (d + 3) 227 Q 171 x1 x2 x3 x4 x6 x8 h ⟨fun z => ?_, fun _ => ⟨fun y => skip ?_, fun y => ⟨fun y2 => ?_, fun y2 => skip ?_⟩⟩⟩
    · have := nz_lt.mp z
      rw [h3, h8] at this
      omega
    · have y : (13 : Int) ≤ x8.toInt := nz_le.mp y
      rw [Nat.min_eq_right (by omega), Nat.min_eq_right (by omega)]
    · have y : ¬ (13 : Int) ≤ x8.toInt := fun z => y (nz_le.mpr z)
      have y2 := nz_lt.mp y2
      rw [hd, e13] at y2
      have e5 : (x1 + x8).toInt = ((w1 + k : Nat) : Int) := by rw [nz_addi (by rw [h1, h8]; omega) (by rw [h1, h8]; omega), h1, h8]; omega
      have e6 : (x2 + x3).toInt = ((w2 + pw : Nat) : Int) := by rw [nz_addi (by rw [h2, h3]; omega) (by rw [h2, h3]; omega), h2, h3]; omega
      have e7 : (x2 + x3 - x8).toInt = ((w2 + (pw - k) : Nat) : Int) := by rw [nz_subi (by rw [e6, h8]; omega) (by rw [e6, h8]; omega), e6, h8]; omega
      have v1 := c1 k (by omega)
      have v2 := c2 (pw - k) (by omega)
      refine ⟨is171, _, r 7, jx (len := 156) rfl (by decide) (by omega) (by omega), is171, _, r 8, jx (len := 156) rfl (by decide) (by omega) (by omega), is171, _, r 7, jx (len := 156) rfl (by decide) (by omega) (by omega), is171, _, r 8, jx (len := 156) rfl (by decide) (by omega) (by omega), is171, ?_⟩
      rw [nz_nat e5, nz_nat e7]
      refine c_times X d 227 _ h 171 _ _ _ _ w (f k) (g (pw - k)) is171 hw (uq.a v1) (uq.b v1) (uq.a v2) (uq.b v2) (gf k (by omega)).z (gg _ (by omega)).z (fun h5 o5 m5 => ⟨is171, is171, is171, ?_⟩)
      have gt : gd (rz w (fz_mul (f k) (g (pw - k)))).2 := rz_mul
      refine c_plus X d 227 _ h5 171 _ _ _ _ _ s _ is171 m5.2.2 (congrArg Prod.fst hs) (congrArg Prod.snd hs) m5.1 m5.2.1 gs.z gt.z (fun h6 o6 m6 => ⟨is171, is171, ?_⟩)
      have o56 := o5.tr o6
      have nx : pz_sp f g pw (min (k + 1) 13) = fz_sum (pz_sp f g pw (min k 13)) (fz_mul (f k) (g (pw - k))) := by
        rw [Nat.min_eq_left (by omega), Nat.min_eq_left (by omega)]
        show fz_sum (pz_sp f g pw k) (fz_mul (pz_at f k) (pz_at g ((pw : Int) - k))) = _
        have ef : pz_at f (k : Int) = f k := if_pos ⟨by omega, by omega⟩
        have eg : pz_at g ((pw : Int) - k) = g (pw - k) := by
          unfold pz_at
          rw [if_pos ⟨by omega, by omega⟩, show ((pw : Int) - k).toNat = pw - k by omega]
        rw [ef, eg]
      have hq' : rq (rz (rz w (fz_mul (f k) (g (pw - k)))).1 (fz_sum s (rz w (fz_mul (f k) (g (pw - k)))).2)).1 (rz (rz w (fz_mul (f k) (g (pw - k)))).1 (fz_sum s (rz w (fz_mul (f k) (g (pw - k)))).2)).2 (pz_sp f g pw (min (k + 1) 13)) := by
        rw [nx]
        exact rq_2 fz_sum fz_sum_W1 fz_sum_W2 hq _ _ rfl rfl
      exact mprod_l Q x1 x2 x3 w1 w2 pw h1 h2 h3 b1 b2 hpw f g gf gg m (k + 1) _ _ _ _ _ h6 (nz_inc h8 (by omega)) (by omega) (Prod.ext m6.1 m6.2.1) rz_sum hq' m6.2.2 (r.mv o56) (c1.mv o56 (fun i hi => ⟨fun z => by unfold mL at z; omega, fun z => by unfold mL at z; omega⟩)) (c2.mv o56 (fun i hi => ⟨fun z => by unfold mL at z; omega, fun z => by unfold mL at z; omega⟩)) (fun h' w' s' o' a1 a2 a3 a4 => hQ h' w' s' (o56.tr o') a1 a2 a3 a4)
    · have y : ¬ (13 : Int) ≤ x8.toInt := fun z => y (nz_le.mpr z)
      have y2 : ¬ (pw : Int) - k < 13 := fun z => y2 (nz_lt.mpr (by rw [hd, e13]; exact z))
      rw [Nat.min_eq_left (by omega), Nat.min_eq_left (by omega)]
      exact sp_nx gf pw k (by omega) (Or.inr (by omega))
theorem msame_l (Q : jv_Q) (x y : Int32) (a b : Nat) (hx : x.toInt = a) (hy : y.toInt = b) (ha : a < 6) (hb : b < 6) (f1 g1 f2 g2 : Nat → Int × Int) (G1 : gdr f1) (G2 : gdr g1) (G3 : gdr f2) (G4 : gdr g2) :
    ∀ (m k : Nat) (x3 : Int32) (h : jv_H), x3.toInt = k → k + m = 25 → h.1 171 6 = 0 → MR h → rwq h 173 174 (26 * a) f1 → rwq h 173 174 (26 * a + 13) g1 → rwq h 173 174 (26 * b) f2 → rwq h 173 174 (26 * b + 13) g2 → (∀ z : Int32, z.toInt = pz_same f1 g1 f2 g2 m k → ∀ h', oT (mI 171) (mL 171) h h' → Q (some (.int z)) h') → a_Model_same_25 X (d + 4) 227 Q 171 x y x3 h 0
  | 0, k, x3, h, h3, hm, hw, r, c1, c2, c3, c4, hQ => by
    exact r_Model_same_25 X (d + 4) 227 Q 171 x y x3 h ⟨fun _ => hQ _ rfl h oT.rf, fun z => absurd (nz_lt.mpr (by rw [h3]; show (24 : Int) < _; omega)) z⟩
  | m + 1, k, x3, h, h3, hm, hw, r, c1, c2, c3, c4, hQ => by
    obtain ⟨ex1, ex2⟩ := nz_26 hx ha
    obtain ⟨ey1, ey2⟩ := nz_26 hy hb
    unfold pz_same at hQ
    have mv : ∀ {h' h'' : jv_H} {w : Nat} {f : Nat → Int × Int}, rwq h' 173 174 w f → oT (mI 171) (mL 171) h' h'' → rwq h'' 173 174 w f := fun c o => c.mv o (fun i hi => ⟨fun z => by unfold mL at z; omega, fun z => by unfold mL at z; omega⟩)
    refine r_Model_same_25 X (d + 4) 227 Q 171 x y x3 h ⟨fun z => ?_, fun _ => ⟨is171, r_Model_product X (d + 3) 227 _ 171 _ _ _ h ?_⟩⟩
    · have : (24 : Int) < x3.toInt := nz_lt.mp z
      omega
    · refine mprod_l X d _ _ _ x3 _ _ k ex1 ey2 h3 (by omega) (by omega) (by omega) f1 g2 G1 G4 (k + 1) 0 0 0 1 false (0, 1) h rfl (by omega) rfl gd_0 (Or.inr ⟨rfl, rfl, (show ((0, 1) : Int × Int) ≠ (-1, 0) by decide)⟩) hw r c1 c4 (fun h1 w1 s1 o1 a1 a2 a3 a4 => ⟨is171, is171, is171, fun y1 => ⟨is171, r_Model_product X (d + 3) 227 _ 171 _ _ _ h1 ?_⟩, fun y1 => ?_⟩)
      · have hw1 : w1 = false := by
          cases w1
          · rfl
          · rw [show jv_gI h1 171 6 = 1 from a1] at y1
            exact absurd y1 (by decide)
        subst hw1
        rcases a4 with ⟨z, _⟩ | ⟨_, es1, ne1⟩
        · cases z
        · refine mprod_l X d _ _ _ x3 _ _ k ey1 ex2 h3 (by omega) (by omega) (by omega) f2 g1 G3 G2 (k + 1) 0 0 0 1 false (0, 1) h1 rfl (by omega) rfl gd_0 (Or.inr ⟨rfl, rfl, (show ((0, 1) : Int × Int) ≠ (-1, 0) by decide)⟩) a1 (r.mv o1) (mv c3 o1) (mv c2 o1) (fun h2 w2 s2 o2 b1 b2 b3 b4 => ⟨is171, fun y2 => ⟨is171, ?_⟩, fun y2 => ?_⟩)
          · have hw2 : w2 = false := by
              cases w2
              · rfl
              · rw [show jv_gI h2 171 6 = 1 from b1] at y2
                exact absurd y2 (by decide)
            subst hw2
            rcases b4 with ⟨z, _⟩ | ⟨_, es2, ne2⟩
            · cases z
            · rw [if_neg (fun z => z.elim ne1 ne2)] at hQ
              have u1 : (jv_gL h1 171 4).toInt = (pz_sp f1 g2 k 13).1 := by rw [← es1, ← a2]; rfl
              have u2 : (jv_gL h1 171 5).toInt = (pz_sp f1 g2 k 13).2 := by rw [← es1, ← a2]; rfl
              have v1 : (jv_gL h2 171 4).toInt = (pz_sp f2 g1 k 13).1 := by rw [← es2, ← b2]; rfl
              have v2 : (jv_gL h2 171 5).toInt = (pz_sp f2 g1 k 13).2 := by rw [← es2, ← b2]; rfl
              refine ⟨fun e => ?_, fun e => ⟨is171, fun e2 => ?_, fun e2 => ?_⟩⟩
              · have : ¬ pz_sp f1 g2 k 13 = pz_sp f2 g1 k 13 := fun z => e ((lg_cmp_eq _ _).mpr (Int64.toInt_inj.mp (by rw [u1, v1, z])))
                rw [if_neg this] at hQ
                exact hQ _ rfl h2 (o1.tr o2)
              · have : pz_sp f1 g2 k 13 = pz_sp f2 g1 k 13 := Prod.ext (by rw [← u1, ← v1, (lg_cmp_eq _ _).mp e]) (by rw [← u2, ← v2, (lg_cmp_eq _ _).mp e2])
                rw [if_pos this] at hQ
                have o12 := o1.tr o2
                exact msame_l Q x y a b hx hy ha hb f1 g1 f2 g2 G1 G2 G3 G4 m (k + 1) _ h2 (nz_inc h3 (by omega)) (by omega) b1 (r.mv o12) (mv c1 o12) (mv c2 o12) (mv c3 o12) (mv c4 o12) (fun z hz h' o' => hQ z hz h' (o12.tr o'))
              · have : ¬ pz_sp f1 g2 k 13 = pz_sp f2 g1 k 13 := fun z => e2 ((lg_cmp_eq _ _).mpr (Int64.toInt_inj.mp (by rw [u2, v2, z])))
                rw [if_neg this] at hQ
                exact hQ _ rfl h2 (o1.tr o2)
          · rcases b4 with ⟨_, z⟩ | ⟨z, _⟩
            · rw [if_pos (Or.inr z)] at hQ
              exact hQ _ rfl h2 (o1.tr o2)
            · subst z
              exact absurd b1 y2
      · rcases a4 with ⟨_, z⟩ | ⟨z, _⟩
        · rw [if_pos (Or.inl z)] at hQ
          exact hQ _ rfl h1 o1
        · subst z
          exact absurd a1 y1
theorem mi_fr {K : zK} {h h' : jv_H} (o : oT (mI 171) (mL 171) h h') : fK K h h' := o.mono (fun q j z => by unfold mI at z; unfold frI; omega) (fun q j z => by unfold mL at z; unfold frL; omega)
theorem w_same (x y : Int32) (ms : MS h Z) (bd : bdZ Z) (ok : okZ Z) (hK : dI h (q_same x y Z) KI) : jI X 8 y_Model_same [.ref 171, .int x, .int y] 227 h KI := by
  unfold q_same at hK
  have hm := bd.2.1.1
  refine r_Model_same X 7 227 _ 171 x y h ⟨is171, m_isRatio X 5 h _ Z x ms bd (fun hr => ⟨fun z => absurd z (by decide), fun _ => ⟨is171, m_isRatio X 5 h _ Z y ms bd (fun hr2 => ⟨fun _ => ⟨is171, Or.inl rfl, ?_⟩, fun z => absurd z (by decide)⟩) (fun hr2 => ⟨fun z => absurd rfl z, fun _ => ?_⟩)⟩⟩) (fun hr => ⟨fun _ => ?_, fun z => absurd rfl z⟩)⟩
  · rw [if_pos ⟨hr, hr2⟩] at hK
    have hx : x.toInt = (x.toInt.toNat : Int) := by omega
    have hy : y.toInt = (y.toInt.toNat : Int) := by omega
    have hk : x.toInt.toNat < Z.k.nr := by omega
    have hj : y.toInt.toNat < Z.k.nr := by omega
    have hR : Z.R x = Z.k.R x.toInt.toNat := congrArg Z.k.R (nz_nat hx)
    have hR2 : Z.R y = Z.k.R y.toInt.toNat := congrArg Z.k.R (nz_nat hy)
    rw [hR, hR2] at hK
    have o0 : fK Z.k h (jv_uI h 171 6 0) := oT.rf.uI (Or.inl ⟨rfl, by omega⟩)
    have ms0 := ms.mv bd o0
    exact msame_l X 3 _ x y _ _ hx hy (by omega) (by omega) _ _ _ _ (fun i hi => ((ok.1.1 _ hk).1 i hi).1) (fun i hi => ((ok.1.1 _ hk).1 i hi).2) (fun i hi => ((ok.1.1 _ hj).1 i hi).1) (fun i hi => ((ok.1.1 _ hj).1 i hi).2) 25 0 0 _ rfl rfl uI_eq ms0.r (ms0.ra hk) (ms0.rb hk) (ms0.ra hj) (ms0.rb hj) (fun z hz h' o' => hK z hz h' (fK.M (o0.tr (mi_fr o'))) (ms.mv bd (o0.tr (mi_fr o'))))
  · rw [if_neg (fun z => hr2 z.2)] at hK
    exact hK _ rfl h oM.rf ms
  · rw [if_neg (fun z => hr z.1)] at hK
    exact hK _ rfl h oM.rf ms
end
