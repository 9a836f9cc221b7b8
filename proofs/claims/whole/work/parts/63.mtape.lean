/-! ===== the reference: texts ===== -/
def MT (h : jv_H) (T : Nat → Int32) (m p : Nat) : Prop := (h.1 171 2).toInt = p ∧ p ≤ m ∧ m ≤ 100 ∧ ∀ i, i < m → h.1 172 i = T i
def atI : Nat → Nat → Prop := fun q j => q = 171 ∧ (j = 2 ∨ j = 3)
def nL : Nat → Nat → Prop := fun _ _ => False
theorem MT.mv {SI SL : Nat → Nat → Prop} {h h' : jv_H} {T : Nat → Int32} {m p : Nat} (t : MT h T m p) (a : oT SI SL h h') (h1 : ¬ SI 171 2) (h2 : ∀ i, ¬ SI 172 i) : MT h' T m p := ⟨by rw [a.2.1 _ _ h1]; exact t.1, t.2.1, t.2.2.1, fun i hi => by rw [a.2.1 _ _ (h2 i)]; exact t.2.2.2 i hi⟩
theorem MT.up {h : jv_H} {T : Nat → Int32} {m p : Nat} (t : MT h T m p) (hp : p < m) : MT (jv_uI h 171 2 (jv_gI h 171 2 + 1)) T m (p + 1) := by
  have hm := t.2.2.1
  exact ⟨by rw [uI_eq]; exact nz_inc t.1 (by omega), hp, hm, fun i hi => by rw [uI_ne (by omega)]; exact t.2.2.2 i hi⟩
theorem MT.fl {h : jv_H} {T : Nat → Int32} {m p : Nat} {v : Int32} (t : MT h T m p) : MT (jv_uI h 171 3 v) T m p := ⟨by rw [uI_ne (by omega)]; exact t.1, t.2.1, t.2.2.1, fun i hi => by rw [uI_ne (by omega)]; exact t.2.2.2 i hi⟩
theorem at_up {h : jv_H} {v : Int32} : oT atI nL h (jv_uI h 171 2 v) := oT.rf.uI ⟨rfl, Or.inl rfl⟩
theorem at_fl {h : jv_H} {v : Int32} : oT atI nL h (jv_uI h 171 3 v) := oT.rf.uI ⟨rfl, Or.inr rfl⟩
section
variable (X : jv_X) (d : Nat) (h : jv_H) (T : Nat → Int32) (m p : Nat) (K : jv_H → Prop) (KI : Int32 → jv_H → Prop)
theorem m_here (e : Int32) (he : e.toInt = m) (r : MR h) (t : MT h T m p) (hK : KI (lk T m p) h) : jI X (d + 1) y_Model_here [.ref 171, .int e] 227 h KI := by
  obtain ⟨t1, t2, t3, t4⟩ := t
  have ha : (jv_gI h 171 2).toInt = p := t1
  unfold lk at hK
  refine r_Model_here X d 227 _ 171 e h ⟨is171, fun z => ?_, fun z => ?_⟩
  · have := nz_le.mp z
    rw [he, ha] at this
    rw [if_neg (by omega)] at hK
    exact hK
  · have : ¬ (m : Int) ≤ p := fun q => z (nz_le.mpr (by rw [he, ha]; exact q))
    rw [if_pos (by omega)] at hK
    refine ⟨is171, _, r 0, is171, jx (len := 100) rfl (by decide) (by omega) (by omega), ?_⟩
    rw [nz_nat ha, show jv_gI h 172 p = T p from t4 p (by omega)]
    exact hK
theorem m_isDigit (e : Int32) (he : e.toInt = m) (r : MR h) (t : MT h T m p) (hK1 : 48 ≤ (lk T m p).toInt ∧ (lk T m p).toInt ≤ 57 → KI 1 h) (hK0 : ¬ (48 ≤ (lk T m p).toInt ∧ (lk T m p).toInt ≤ 57) → KI 0 h) : jI X (d + 2) y_Model_isDigit [.ref 171, .int e] 227 h KI := by
  refine r_Model_isDigit X (d + 1) 227 _ 171 e h ⟨is171, m_here X d h T m p _ e he r t (c_in X d 227 _ h _ _ _ ⟨nz_b01, ?_⟩)⟩
  rw [Int32.toInt_toInt64, show (48 : Int64).toInt = 48 from rfl, show (57 : Int64).toInt = 57 from rfl]
  by_cases y : 48 ≤ (lk T m p).toInt ∧ (lk T m p).toInt ≤ 57
  · rw [if_pos y]; exact hK1 y
  · rw [if_neg y]; exact hK0 y
theorem m_fault (hK : KI 0 (jv_uI h 171 3 1)) : jI X (d + 1) y_Model_fault [.ref 171] 227 h KI := r_Model_fault X d 227 _ 171 h ⟨is171, Or.inr rfl, hK⟩
theorem mnum_l (Q : jv_Q) (e : Int32) (he : e.toInt = m) : ∀ (f k : Nat) (x2 x3 : Int32) (h : jv_H) (p : Nat) (v : Int), x3.toInt = k → k + f = 4 → x2.toInt = v → 0 ≤ v ∧ v < 10 ^ k → MR h → MT h T m p → (∀ z : Int32, z.toInt = (nmd T m f v p).1 → ∀ h', oT atI nL h h' → h'.1 171 3 = h.1 171 3 → MT h' T m (nmd T m f v p).2 → Q (some (.int z)) h') → a_Model_number_27 X (d + 2) 227 Q 171 e x2 x3 h 0
  | 0, k, x2, x3, h, p, v, h3, hf, h2, hv, r, t, hQ => by
    refine r_Model_number_27 X (d + 2) 227 Q 171 e x2 x3 h ⟨is171, m_isDigit X d h T m p _ e he r t (fun y => ⟨fun z => absurd z (by decide), fun _ => ⟨fun _ => hQ x2 h2 h oT.rf rfl t, fun z => absurd (nz_le.mpr (by rw [h3]; show (4 : Int) ≤ _; omega)) z⟩⟩) (fun y => ⟨fun _ => hQ x2 h2 h oT.rf rfl t, fun z => absurd rfl z⟩)⟩
  | f + 1, k, x2, x3, h, p, v, h3, hf, h2, hv, r, t, hQ => by
    unfold nmd at hQ
    refine r_Model_number_27 X (d + 2) 227 Q 171 e x2 x3 h ⟨is171, m_isDigit X d h T m p _ e he r t (fun y => ⟨fun z => absurd z (by decide), fun _ => ⟨fun z => ?_, fun _ => ⟨is171, m_here X (d + 1) h T m p _ e he r t ⟨is171, is171, ?_⟩⟩⟩⟩) (fun y => ⟨fun _ => ?_, fun z => absurd rfl z⟩)⟩
    · have : (4 : Int) ≤ x3.toInt := nz_le.mp z
      omega
    · rw [if_pos y] at hQ
      have hlt := lk_dg y.1
      have e10 : (10 : Int32).toInt = 10 := rfl
      have e48 : (48 : Int32).toInt = 48 := rfl
      have hk3 : k = 0 ∨ k = 1 ∨ k = 2 ∨ k = 3 := by omega
      have hv3 : v < 1000 ∧ 10 * v + 9 < 10 ^ (k + 1) := by
        rcases hk3 with z | z | z | z <;> subst z <;> simp at hv ⊢ <;> omega
      have m1 : ((10 : Int32) * x2).toInt = 10 * v := by rw [nz_muli (by rw [e10, h2]; omega) (by rw [e10, h2]; omega), e10, h2]
      have m2 : ((10 : Int32) * x2 + lk T m p).toInt = 10 * v + (lk T m p).toInt := by rw [nz_addi (by rw [m1]; omega) (by rw [m1]; omega), m1]
      have m3 : ((10 : Int32) * x2 + lk T m p - 48).toInt = 10 * v + (lk T m p).toInt - 48 := by rw [nz_subi (by rw [m2, e48]; omega) (by rw [m2, e48]; omega), m2, e48]
      refine mnum_l Q e he f (k + 1) _ _ _ (p + 1) _ (nz_inc h3 (by omega)) (by omega) m3 ⟨by omega, by omega⟩ (r.mv at_up) (t.up hlt) (fun z hz h' o' f' t' => hQ z hz h' (at_up.tr o') (f'.trans (uI_ne (by omega))) t')
    · rw [if_neg y] at hQ
      exact hQ x2 h2 h oT.rf rfl t
theorem m_number (e : Int32) (he : e.toInt = m) (r : MR h) (t : MT h T m p) (hK1 : ∀ q, rn T m p = some q → ∀ z : Int32, z.toInt = q.1 → ∀ h', oT atI nL h h' → h'.1 171 3 = h.1 171 3 → MT h' T m q.2 → KI z h') (hK0 : rn T m p = none → ∀ h', oT atI nL h h' → h'.1 171 3 = 1 → MT h' T m p → KI 0 h') : jI X (d + 3) y_Model_number [.ref 171, .int e] 227 h KI := by
  unfold rn at hK1 hK0
  refine r_Model_number X (d + 2) 227 _ 171 e h ⟨is171, m_here X (d + 1) h T m p _ e he r t (c_in X (d + 1) 227 _ h _ _ _ ⟨fun y => ?_, fun y => ⟨is171, m_fault X (d + 1) h _ ?_⟩⟩)⟩
  · rw [nz_bt, Classical.not_not, Int32.toInt_toInt64] at y
    have y : 49 ≤ (lk T m p).toInt ∧ (lk T m p).toInt ≤ 57 := y
    have hc : (48 ≤ (lk T m p).toInt ∧ (lk T m p).toInt ≤ 57) ∧ lk T m p ≠ 48 := ⟨by omega, fun z => by rw [z] at y; exact absurd y.1 (by decide)⟩
    rw [if_pos hc] at hK1
    exact mnum_l X d T m _ e he 4 0 0 0 h p 0 rfl rfl rfl ⟨by decide, by decide⟩ r t (fun z hz h' o' f' t' => hK1 _ rfl z hz h' o' f' t')
  · rw [nz_bt, Int32.toInt_toInt64] at y
    have y : ¬ (49 ≤ (lk T m p).toInt ∧ (lk T m p).toInt ≤ 57) := y
    have hc : ¬ ((48 ≤ (lk T m p).toInt ∧ (lk T m p).toInt ≤ 57) ∧ lk T m p ≠ 48) := fun z => by
      have : (lk T m p).toInt ≠ 48 := fun q => z.2 (Int32.toInt_inj.mp q)
      omega
    rw [if_neg hc] at hK0
    exact hK0 rfl _ at_fl uI_eq t.fl
end
/-- a ratio's row: whole numbers over 1 -/
def pm (h : jv_H) (w : Nat) (co : Nat → Int) (b : Int) : Prop := (∀ i, i < 13 → uq h 173 174 (w + i) = (co i, 1)) ∧ ∀ i, i < 13 → -b ≤ co i ∧ co i ≤ b
def rwL (w : Nat) : Nat → Nat → Prop := fun q j => (q = 173 ∨ q = 174) ∧ w ≤ j ∧ j < w + 13
theorem nLs {SI SL : Nat → Nat → Prop} {h h' : jv_H} (a : oT SI nL h h') : oT SI SL h h' := a.mono (fun _ _ z => z) (fun _ _ z => z.elim)
theorem pm.mv {SI SL : Nat → Nat → Prop} {h h' : jv_H} {w : Nat} {co : Nat → Int} {b : Int} (c : pm h w co b) (a : oT SI SL h h') (h1 : ∀ i, i < 13 → ¬ SL 173 (w + i) ∧ ¬ SL 174 (w + i)) : pm h' w co b := ⟨fun i hi => by rw [uq.mv a (h1 i hi).1 (h1 i hi).2]; exact c.1 i hi, c.2⟩
theorem pm.st {h : jv_H} {w k : Nat} {co : Nat → Int} {b v : Int} {y : Int64} (c : pm h w co b) (hk : k < 13) (hb : b + 9999 ≤ 1000000000) (hv : -9999 ≤ v ∧ v ≤ 9999) (hy : y.toInt = v) : pm (jv_uL h 173 (w + k) (jv_gL h 173 (w + k) + y)) w (cu co k (co k + v)) (b + 9999) := by
  have h0 := c.2 k hk
  have e1 : (jv_gL h 173 (w + k)).toInt = co k := uq.a (c.1 k hk)
  have e2 : (jv_gL h 173 (w + k) + y).toInt = co k + v := by rw [nz_add (by rw [e1, hy]; omega) (by rw [e1, hy]; omega), e1, hy]
  refine ⟨fun i hi => ?_, fun i hi => ?_⟩
  · unfold cu
    by_cases e : i = k
    · subst e
      rw [if_pos rfl]
      show (((jv_uL h 173 (w + i) (jv_gL h 173 (w + i) + y)).2.1 173 (w + i)).toInt, (h.2.1 174 (w + i)).toInt) = _
      rw [uL_eq, e2]
      exact congrArg (fun z => (co i + v, z)) (uq.b (c.1 i hi))
    · rw [if_neg e]
      refine Eq.trans ?_ (c.1 i hi)
      show (((jv_uL h 173 (w + k) (jv_gL h 173 (w + k) + y)).2.1 173 (w + i)).toInt, (h.2.1 174 (w + i)).toInt) = _
      rw [uL_ne (by omega)]
      rfl
  · unfold cu
    have := c.2 i hi
    split
    · omega
    · omega
section
variable (X : jv_X) (d : Nat) (h : jv_H) (T : Nat → Int32) (m p : Nat) (K : jv_H → Prop) (KI : Int32 → jv_H → Prop)
theorem mterm_l (Q : jv_Q) (x1 x2 x4 e : Int32) (he : e.toInt = m) (w : Nat) (h1 : x1.toInt = w) (hw : w + 13 ≤ 156) (v : Int) (h4 : x4.toInt = v) (hv : 1 ≤ v ∧ v ≤ 9999) (ng : Bool) (h2 : x2 = if ng then -1 else 1) (co : Nat → Int) (b : Int) (hb : b + 9999 ≤ 1000000000) (r : MR h) (t : MT h T m p) (hf : h.1 171 3 = 0) (c : pm h w co b)
    (hQ : ∀ h', oT atI (rwL w) h h' → h'.1 171 3 = 0 → MT h' T m (tl T m p).2 → pm h' w (cu co (tl T m p).1 (co (tl T m p).1 + if ng then -v else v)) (b + 9999) → Q none h') : a_Model_term_23 X (d + 3) 227 Q 171 x1 x2 e x4 0 h 0 := by
  have ey : (x2.toInt64 * x4.toInt64).toInt = if ng then -v else v := by
    have e1 : x2.toInt64.toInt = if ng then -1 else 1 := by
      rw [Int32.toInt_toInt64, h2]
      cases ng <;> rfl
    have e2 : x4.toInt64.toInt = v := by rw [Int32.toInt_toInt64, h4]
    cases ng
    · have e1 : x2.toInt64.toInt = 1 := e1
      rw [nz_mul (by rw [e1, e2]; omega) (by rw [e1, e2]; omega), e1, e2]
      show 1 * v = v
      omega
    · have e1 : x2.toInt64.toInt = -1 := e1
      rw [nz_mul (by rw [e1, e2]; omega) (by rw [e1, e2]; omega), e1, e2]
      show -1 * v = -v
      omega
  have hvb : -9999 ≤ (if ng then -v else v) ∧ (if ng then -v else v) ≤ 9999 := by cases ng <;> simp <;> omega
  have fin : ∀ (h1' : jv_H) (x5 : Int32) (k : Nat), k ≤ 9 → x5.toInt = k → oT atI nL h h1' → h1'.1 171 3 = 0 → (MT h1' T m (tl T m p).2) → (tl T m p).1 = k → jv_ix SHT 227 173 1 (x1 + x5) ∧ (jv_ix SHT 227 173 1 (x1 + x5) ∧ (Q none (jv_uL h1' 173 (x1 + x5).toNatClampNeg (jv_gL h1' 173 (x1 + x5).toNatClampNeg + x2.toInt64 * x4.toInt64)))) := fun h1' x5 k hk h5 o' f' t' ek => by
    have e5 : (x1 + x5).toInt = ((w + k : Nat) : Int) := by rw [nz_addi (by rw [h1, h5]; omega) (by rw [h1, h5]; omega), h1, h5]; omega
    have gx : jv_ix SHT 227 173 1 (x1 + x5) := jx (len := 156) rfl (by decide) (by omega) (by omega)
    refine ⟨gx, gx, ?_⟩
    rw [nz_nat e5]
    have c' : pm h1' w co b := c.mv o' (fun _ _ => ⟨fun z => z, fun z => z⟩)
    have := c'.st (k := k) (by omega) hb hvb ey
    rw [ek] at hQ
    exact hQ _ ((nLs o').uL ⟨Or.inl rfl, by omega, by omega⟩) f' t' this
  unfold tl at fin
  refine r_Model_term_23 X (d + 3) 227 Q 171 x1 x2 e x4 0 h ⟨is171, fun _ => ⟨is171, m_here X (d + 2) h T m p _ e he r t ⟨fun y => ⟨is171, _, r 7, ?_⟩, fun y => ⟨is171, is171, is171, ?_⟩⟩⟩, fun z => absurd hf z⟩
  · rw [if_neg y] at fin
    exact fin h 0 0 (by omega) rfl oT.rf hf t rfl
  · have hlt := lk_lt y (by decide)
    rw [if_pos y] at fin
    have t1 := t.up hlt
    have r1 : MR (jv_uI h 171 2 (jv_gI h 171 2 + 1)) := r.mv at_up
    have f1 : (jv_uI h 171 2 (jv_gI h 171 2 + 1)).1 171 3 = 0 := by rw [uI_ne (by omega)]; exact hf
    refine m_isDigit X (d + 1) _ T m (p + 1) _ e he r1 t1 (fun y2 => ⟨fun z => absurd z (by decide), fun _ => ⟨is171, m_here X (d + 2) _ T m (p + 1) _ e he r1 t1 ⟨is171, is171, is171, _, r1 7, ?_⟩⟩⟩) (fun y2 => ⟨fun _ => ⟨is171, _, r1 7, ?_⟩, fun z => absurd rfl z⟩)
    · rw [if_pos y2] at fin
      have hlt2 := lk_dg y2.1
      have e48 : (48 : Int32).toInt = 48 := rfl
      exact fin _ _ ((lk T m (p + 1)).toInt - 48).toNat (by omega) (by rw [nz_subi (by rw [e48]; omega) (by rw [e48]; omega), e48]; omega) (at_up.tr at_up) (by rw [uI_ne (by omega)]; exact f1) (t1.up hlt2) rfl
    · rw [if_neg y2] at fin
      exact fin _ 1 1 (by omega) rfl at_up f1 t1 rfl
theorem m_term (x1 x2 e : Int32) (he : e.toInt = m) (w : Nat) (h1 : x1.toInt = w) (hw : w + 13 ≤ 156) (ng : Bool) (h2 : x2 = if ng then -1 else 1) (co : Nat → Int) (b : Int) (hb : b + 9999 ≤ 1000000000) (r : MR h) (t : MT h T m p) (hf : h.1 171 3 = 0) (c : pm h w co b)
    (hK1 : ∀ q, rt T m p = some q → ∀ h', oT atI (rwL w) h h' → h'.1 171 3 = 0 → MT h' T m q.2.2 → pm h' w (cu co q.2.1 (co q.2.1 + if ng then -q.1 else q.1)) (b + 9999) → K h') (hK0 : rt T m p = none → ∀ h', oT atI (rwL w) h h' → h'.1 171 3 = 1 → MT h' T m p → K h') : jV X (d + 4) y_Model_term [.ref 171, .int x1, .int x2, .int e] 227 h K := by
  unfold rt at hK1 hK0
  refine r_Model_term X (d + 3) 227 _ 171 x1 x2 e h ⟨is171, m_here X (d + 2) h T m p _ e he r t ⟨fun y => ?_, fun y => ⟨is171, ?_⟩⟩⟩
  · rw [if_pos y] at hK1
    exact mterm_l X d h T m p _ x1 x2 1 e he w h1 hw 1 rfl ⟨by decide, by decide⟩ ng h2 co b hb r t hf c (fun h' o' f' t' c' => hK1 _ rfl h' o' f' t' c')
  · rw [if_neg y] at hK1 hK0
    refine m_number X d h T m p _ e he r t (fun q hq z hz h' o' f' t' => ?_) (fun hq h' o' f' t' => ?_)
    · rw [hq] at hK1
      have hb' := rn_b hq
      exact mterm_l X d h' T m q.2 _ x1 x2 z e he w h1 hw q.1 hz ⟨hb'.1, hb'.2.1⟩ ng h2 co b hb (r.mv o') t' (by rw [f']; exact hf) (c.mv o' (fun _ _ => ⟨fun z => z, fun z => z⟩)) (fun h2' o2 f2 t2 c2 => hK1 _ rfl h2' ((nLs o').tr o2) f2 t2 c2)
    · rw [hq] at hK0
      have ne : ¬ h'.1 171 3 = 0 := by rw [f']; decide
      exact r_Model_term_23 X (d + 3) 227 _ 171 x1 x2 e 0 0 h' ⟨is171, fun z => absurd z ne, fun _ => hK0 rfl h' (nLs o') f' t'⟩
theorem mpoly_l (Q : jv_Q) (x1 e : Int32) (he : e.toInt = m) (w : Nat) (h1 : x1.toInt = w) (hw : w + 13 ≤ 156) : ∀ (f k : Nat) (p : Nat) (co : Nat → Int) (ng : Bool) (x2 : Int32) (h : jv_H), k + f = 101 → m < p + f → x2 = (if ng then -1 else 1) → MR h → MT h T m p → h.1 171 3 = 0 → pm h w co (9999 * k) →
    (∀ q, rp T m f co ng p = .inr q → ∀ h', oT atI (rwL w) h h' → h'.1 171 3 = 0 → MT h' T m q.2 → pm h' w q.1 1009899 → Q none h') → (∀ e, rp T m f co ng p = .inl e → ∀ h', oT atI (rwL w) h h' → h'.1 171 3 = 1 → MT h' T m e → Q none h') →
    jV X (d + 4) y_Model_term [.ref 171, .int x1, .int x2, .int e] 227 h (fun h' => a_Model_poly_63 X (d + 4) 227 Q 171 x1 e h' 0)
  | 0, k, p, co, ng, x2, h, hk, hm, h2, r, t, hf, c, hQ1, hQ0 => by
    have := t.2.1
    omega
  | f + 1, k, p, co, ng, x2, h, hk, hm, h2, r, t, hf, c, hQ1, hQ0 => by
    unfold rp at hQ1 hQ0
    refine m_term X d h T m p _ x1 x2 e he w h1 hw ng h2 co (9999 * k) (by omega) r t hf c (fun q hq h' o' f' t' c' => ?_) (fun hq h' o' f' t' => ?_)
    · rw [hq] at hQ1 hQ0
      dsimp only at hQ1 hQ0
      have hqb := rt_b hq
      have r' := r.mv o'
      have c2 : pm h' w (cu co q.2.1 (co q.2.1 + if ng then -q.1 else q.1)) (9999 * ((k + 1 : Nat) : Int)) := ⟨c'.1, fun i hi => by have := c'.2 i hi; omega⟩
      have c3 : pm h' w (cu co q.2.1 (co q.2.1 + if ng then -q.1 else q.1)) 1009899 := ⟨c'.1, fun i hi => by have := c'.2 i hi; omega⟩
      have go : ∀ (y2 : Int32) (g : Bool), (lk T m q.2.2 = 43 ∨ lk T m q.2.2 = 45) → decide (lk T m q.2.2 = 45) = g → y2 = (if g then -1 else 1) → jV X (d + 4) y_Model_term [.ref 171, .int x1, .int y2, .int e] 227 (jv_uI h' 171 2 (jv_gI h' 171 2 + 1)) (fun h5 => a_Model_poly_63 X (d + 4) 227 Q 171 x1 e h5 0) := fun y2 g hc hg hy => by
        rw [if_pos hc, hg] at hQ1 hQ0
        have hlt : q.2.2 < m := hc.elim (fun z => lk_lt z (by decide)) (fun z => lk_lt z (by decide))
        have o2 : oT atI (rwL w) h (jv_uI h' 171 2 (jv_gI h' 171 2 + 1)) := o'.uI ⟨rfl, Or.inl rfl⟩
        exact mpoly_l Q x1 e he w h1 hw f (k + 1) (q.2.2 + 1) _ g y2 _ (by omega) (by omega) hy (r'.mv at_up) (t'.up hlt) (by rw [uI_ne (by omega)]; exact f') c2 (fun q' hq' h2 o3 f3 t3 c3 => hQ1 q' hq' h2 (o2.tr o3) f3 t3 c3) (fun e' he' h2 o3 f3 t3 => hQ0 e' he' h2 (o2.tr o3) f3 t3)
      have hh : ∀ KI : Int32 → jv_H → Prop, KI (lk T m q.2.2) h' → jI X (d + 4) y_Model_here [.ref 171, .int e] 227 h' KI := fun KI hK => m_here X (d + 3) h' T m q.2.2 KI e he r' t' hK
      refine r_Model_poly_63 X (d + 4) 227 Q 171 x1 e h' ⟨is171, fun z => absurd f' z, fun _ => ⟨is171, hh _ ⟨fun y => ⟨is171, hh _ ⟨fun z => absurd y z, fun _ => ⟨is171, is171, is171, go 1 false (Or.inl y) (by rw [y]; decide) rfl⟩⟩⟩, fun y => ⟨is171, hh _ ⟨fun y2 => ?_, fun y2 => ⟨is171, hh _ ⟨fun _ => ⟨is171, is171, is171, go (-1) true (Or.inr y2) (by rw [y2]; decide) rfl⟩, fun z => absurd z y⟩⟩⟩⟩⟩⟩⟩
      rw [if_neg (fun z => z.elim y y2)] at hQ1
      exact hQ1 _ rfl h' o' f' t' c3
    · rw [hq] at hQ0
      have ne : ¬ h'.1 171 3 = 0 := by rw [f']; decide
      exact r_Model_poly_63 X (d + 4) 227 Q 171 x1 e h' ⟨is171, fun _ => hQ0 p rfl h' o' f' t', fun z => absurd z ne⟩
theorem mclr_l (Q : jv_Q) (x1 e : Int32) (w : Nat) (h1 : x1.toInt = w) (hw : w + 13 ≤ 156) : ∀ (f k : Nat) (x3 : Int32) (h : jv_H), x3.toInt = k → k + f = 13 → MR h → (∀ i, i < k → uq h 173 174 (w + i) = (0, 1)) → (∀ h', oT (fun _ _ => False) (rwL w) h h' → (∀ i, i < 13 → uq h' 173 174 (w + i) = (0, 1)) → a_Model_poly_2 X (d + 4) 227 Q 171 x1 e 13 h' 0) → a_Model_poly_2 X (d + 4) 227 Q 171 x1 e x3 h 0
  | 0, k, x3, h, h3, hk, r, c, hQ => by
    have e13 : x3 = 13 := Int32.toInt_inj.mp (by rw [h3, show k = 13 by omega]; rfl)
    rw [e13]
    exact hQ h oT.rf (fun i hi => c i (by omega))
  | f + 1, k, x3, h, h3, hk, r, c, hQ => by
    have e5 : (x1 + x3).toInt = ((w + k : Nat) : Int) := by rw [nz_addi (by rw [h1, h3]; omega) (by rw [h1, h3]; omega), h1, h3]; omega
    have gx : jv_ix SHT 227 173 1 (x1 + x3) := jx (len := 156) rfl (by decide) (by omega) (by omega)
    have gy : jv_ix SHT 227 174 1 (x1 + x3) := jx (len := 156) rfl (by decide) (by omega) (by omega)
    refine r_Model_poly_2 X (d + 4) 227 Q 171 x1 e x3 h ⟨fun z => ?_, fun _ => ⟨is171, _, r 7, gx, is171, _, r 8, gy, ?_⟩⟩
    · have : (13 : Int) ≤ x3.toInt := nz_le.mp z
      omega
    · rw [nz_nat e5]
      have o1 : oT (fun _ _ => False) (rwL w) h (jv_uL (jv_uL h 173 (w + k) 0) 174 (w + k) 1) := (oT.rf.uL ⟨Or.inl rfl, by omega, by omega⟩).uL ⟨Or.inr rfl, by omega, by omega⟩
      refine mclr_l Q x1 e w h1 hw f (k + 1) _ _ (nz_inc h3 (by omega)) (by omega) (r.mv o1) (fun i hi => ?_) (fun h' o' c' => hQ h' (o1.tr o') c')
      show ((jv_gL (jv_uL (jv_uL h 173 (w + k) 0) 174 (w + k) 1) 173 (w + i)).toInt, (jv_gL (jv_uL (jv_uL h 173 (w + k) 0) 174 (w + k) 1) 174 (w + i)).toInt) = _
      rw [gL_uL, gL_uL, gL_uL, gL_uL]
      by_cases e : i = k
      · subst e
        rw [if_neg (by omega), if_pos ⟨rfl, rfl⟩, if_pos ⟨rfl, rfl⟩]
        rfl
      · rw [if_neg (by omega), if_neg (by omega), if_neg (by omega), if_neg (by omega)]
        exact c i (by omega)
theorem m_poly (x1 e : Int32) (he : e.toInt = m) (w : Nat) (h1 : x1.toInt = w) (hw : w + 13 ≤ 156) (r : MR h) (t : MT h T m p) (hf : h.1 171 3 = 0)
    (hK1 : ∀ q, rpoly T m p = .inr q → ∀ h', oT atI (rwL w) h h' → h'.1 171 3 = 0 → MT h' T m q.2 → pm h' w q.1 1009899 → K h') (hK0 : ∀ e, rpoly T m p = .inl e → ∀ h', oT atI (rwL w) h h' → h'.1 171 3 = 1 → MT h' T m e → K h') : jV X (d + 5) y_Model_poly [.ref 171, .int x1, .int e] 227 h K := by
  unfold rpoly at hK1 hK0
  have hm := t.2.2.1
  refine r_Model_poly X (d + 4) 227 _ 171 x1 e h ?_
  refine mclr_l X d _ x1 e w h1 hw 13 0 0 h rfl rfl r (fun i hi => absurd hi (Nat.not_lt_zero _)) (fun h' o' c' => ?_)
  have r' := r.mv o'
  have t' := t.mv o' (fun z => z) (fun _ z => z)
  have f' : h'.1 171 3 = 0 := by rw [o'.2.1 _ _ (fun z => z)]; exact hf
  have o1 : oT atI (rwL w) h h' := o'.mono (fun _ _ z => z.elim) (fun _ _ z => z)
  have c0 : pm h' w (fun _ => 0) (9999 * ((0 : Nat) : Int)) := ⟨c', fun i hi => ⟨by show -(9999 * ((0 : Nat) : Int)) ≤ (0 : Int); omega, by show (0 : Int) ≤ 9999 * ((0 : Nat) : Int); omega⟩⟩
  refine r_Model_poly_2 X (d + 4) 227 _ 171 x1 e 13 h' ⟨fun _ => ⟨is171, m_here X (d + 3) h' T m p _ e he r' t' ⟨fun y => ⟨is171, ?_⟩, fun y => ⟨is171, is171, is171, ?_⟩⟩⟩, fun z => absurd (nz_le.mpr (Int.le_refl _)) z⟩
  · rw [if_neg y] at hK1 hK0
    exact mpoly_l X d T m _ x1 e he w h1 hw 101 0 p (fun _ => 0) false 1 h' rfl (by omega) rfl r' t' f' c0 (fun q hq h2 o2 f2 t2 c2 => hK1 q hq h2 (o1.tr o2) f2 t2 c2) (fun q hq h2 o2 f2 t2 => hK0 q hq h2 (o1.tr o2) f2 t2)
  · rw [if_pos y] at hK1 hK0
    have hlt := lk_lt y (by decide)
    have o2 : oT atI (rwL w) h (jv_uI h' 171 2 (jv_gI h' 171 2 + 1)) := o1.uI ⟨rfl, Or.inl rfl⟩
    exact mpoly_l X d T m _ x1 e he w h1 hw 101 0 (p + 1) (fun _ => 0) true (-1) _ rfl (by omega) rfl (r'.mv at_up) (t'.up hlt) (by rw [uI_ne (by omega)]; exact f') (c0.mv at_up (fun _ _ => ⟨fun z => z, fun z => z⟩)) (fun q hq h2 o3 f2 t2 c2 => hK1 q hq h2 (o2.tr o3) f2 t2 c2) (fun q hq h2 o3 f2 t2 => hK0 q hq h2 (o2.tr o3) f2 t2)
end
