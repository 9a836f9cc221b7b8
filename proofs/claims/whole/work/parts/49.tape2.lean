/-! ===== texts: terms, polys, ratios ===== -/
theorem fz_of_1 {x : Int} (h : -1000000000 ≤ x ∧ x ≤ 1000000000) : fz_of x 1 = (x, 1) := by
  unfold fz_of
  rw [if_neg (by decide)]
  have e : Nat.gcd x.natAbs (1 : Int).natAbs = 1 := Nat.gcd_one_right _
  rw [e, if_neg (by decide : ¬ (1 : Int) < 0), show x.tdiv ((1 : Nat) : Int) = x from Int.tdiv_one x, show ((1 : Int).natAbs / 1 : Nat) = 1 from rfl, if_neg (by omega)]
  rfl
theorem tl_b (T : Nat → Int32) (n p : Nat) : (tl T n p).1 ≤ 9 ∧ p ≤ (tl T n p).2 := by
  unfold tl
  split
  · split
    · exact ⟨by show ((lk T n (p + 1)).toInt - 48).toNat ≤ 9; omega, by show p ≤ p + 2; omega⟩
    · exact ⟨by show 1 ≤ 9; omega, by show p ≤ p + 1; omega⟩
  · exact ⟨Nat.zero_le _, Nat.le_refl _⟩
theorem rt_b {T : Nat → Int32} {n p : Nat} {r : Int × Nat × Nat} (h : rt T n p = some r) : (1 ≤ r.1 ∧ r.1 ≤ 9999) ∧ r.2.1 ≤ 9 ∧ p < r.2.2 := by
  unfold rt at h
  split at h
  · rename_i e
    injection h with h
    rw [← h]
    refine ⟨⟨by show (1 : Int) ≤ 1; decide, by show (1 : Int) ≤ 9999; decide⟩, (tl_b T n p).1, ?_⟩
    unfold tl
    rw [if_pos e]
    split
    · show p < p + 2; omega
    · show p < p + 1; omega
  · cases hr : rn T n p with
    | none => rw [hr] at h; cases h
    | some q =>
      rw [hr] at h
      injection h with h
      rw [← h]
      have h1 := rn_b hr
      have h2 := tl_b T n q.2
      exact ⟨⟨h1.1, h1.2.1⟩, h2.1, Nat.lt_of_lt_of_le h1.2.2 h2.2⟩
section
variable (X : jv_X) (d n : Nat) (K : jv_H → Prop) (KI : Int32 → jv_H → Prop) (h : jv_H) (T : Nat → Int32) (m p : Nat)
theorem term_tail (Q : jv_Q) (x1 : Nat) (x2 : Int32) (t : TO n h) (c : TP h T m p) (hQ : ∀ h', oS (fun q => q = 1) h h' → h'.2.1 = h.2.1 → TP h' T m (tl T m p).2 → ∀ x : Int32, x.toInt = (tl T m p).1 → a_Tape_readTerm_64 X (d + 2) n Q 1 x1 x2 x h' 0) :
    jI X (d + 2) y_Tape_pass [.ref 1, .int (115 : Int32)] n h (fun z4 h3 => (z4 = 0 → (a_Tape_readTerm_64 X (d + 2) n Q 1 x1 x2 (0 : Int32) h3 0)) ∧ (¬ z4 = 0 → (jv_is SHT n 1 16 ∧ jI X (d + 2) y_Tape_look [.ref 1] n h3 (fun z6 h5 => jI X (d + 2) y_Tape_isDigit [.int z6] n h5 (fun z8 h7 => (z8 = 0 → (a_Tape_readTerm_64 X (d + 2) n Q 1 x1 x2 (1 : Int32) h7 0)) ∧ (¬ z8 = 0 → (jv_is SHT n 1 16 ∧ jI X (d + 2) y_Tape_look [.ref 1] n h7 (fun z10 h9 => jv_is SHT n 1 16 ∧ (jv_is SHT n 1 16 ∧ (a_Tape_readTerm_64 X (d + 2) n Q 1 x1 x2 (z10 - (48 : Int32)) (jv_uI h9 1 2 ((jv_gI h9 1 2) + (1 : Int32))) 0)))))))))) := by
  unfold tl at hQ
  refine c_pass X d n _ h T m p 115 (by decide) t c (fun e c1 => ⟨fun z => absurd z (by decide), fun _ => ⟨t.1, ?_⟩⟩) (fun e => ⟨fun _ => ?_, fun z => absurd rfl z⟩)
  · rw [if_pos e] at hQ
    have o1 : oS (fun q => q = 1) h (jv_uI h 1 2 (jv_gI h 1 2 + 1)) := oS_uI rfl
    have t1 := t.mv o1
    refine c_look X (d + 1) n _ _ T m (p + 1) t1 c1 ?_
    refine c_isDigit X (d + 1) n _ _ _ (fun y => ⟨fun z => absurd z (by decide), fun _ => ⟨t.1, c_look X (d + 1) n _ _ T m (p + 1) t1 c1 ⟨t.1, t.1, ?_⟩⟩⟩) (fun y => ⟨fun _ => ?_, fun z => absurd rfl z⟩)
    · rw [if_pos y] at hQ
      refine hQ _ (o1.tr (oS_uI rfl)) rfl (c1.up (lk_dg y.1)) _ ?_
      have e48 : (48 : Int32).toInt = 48 := rfl
      rw [nz_subi (by rw [e48]; omega) (by rw [e48]; omega), e48]
      show _ = ((((lk T m (p + 1)).toInt - 48).toNat : Nat) : Int)
      omega
    · rw [if_neg y] at hQ
      exact hQ _ o1 rfl c1 _ rfl
  · rw [if_neg e] at hQ
    exact hQ h oS.rf rfl c _ rfl
/-- a poly of whole numbers, each within b -/
def pi (h : jv_H) (a : Nat) (c : Nat → Int) (b : Int) : Prop := pc h a (fun i => (c i, 1)) ∧ ∀ i, i < 13 → -b ≤ c i ∧ c i ≤ b
theorem term64 (Q : jv_Q) (x1 a : Nat) (x2 x3 : Int32) (w : Nat) (v : Int) (co : Nat → Int) (b : Int) (hb : b + 9999 ≤ 1000000000) (t : TO n h) (hp : PO n h x1 a) (ha : 2 < a) (hc : pi h a co b) (h3 : x3.toInt = w) (hw : w ≤ 9) (hv : (h.2.1 1 3).toInt = v) (hv1 : 1 ≤ v ∧ v ≤ 9999) (ng : Bool) (hn : x2 = if ng then 1 else 0)
    (hQ : ∀ h', oS (fun q => q = a) h h' → pi h' a (cu co w (co w + if ng then -v else v)) (b + 9999) → Q (some (.int 1)) h') : a_Tape_readTerm_64 X (d + 3) n Q 1 x1 x2 x3 h 0 := by
  have hcw := hc.2 w (by omega)
  have e1 : (1 : Int64).toInt = 1 := rfl
  have fin : ∀ v' : Int, -9999 ≤ v' ∧ v' ≤ 9999 → v' = (if ng then -v else v) → jv_is SHT n x1 14 ∧ (∃ a3 : Nat, jv_gR h x1 0 = some a3 ∧ (jv_is SHT n x1 14 ∧ (∃ a4 : Nat, jv_gR h x1 0 = some a4 ∧ (jv_ix SHT n a4 1 x3 ∧ (jL X (d + 3) y_Fractions_sum [.long (jv_gL h a4 (x3).toNatClampNeg), .long (fz_p (fz_of v' 1))] n h (fun z6 h5 => jv_ix SHT n a3 1 x3 ∧ (((1 : Int32) = 0 ∨ (1 : Int32) = 1) ∧ Q (some (.int (1 : Int32))) (jv_uL h5 a3 (x3).toNatClampNeg z6)))))))) := by
    intro v' hb' ev
    have hx := hp.ix h3 (show w < 13 by omega)
    refine ⟨hp.1, _, hp.2.1, hp.1, _, hp.2.1, hx, ?_⟩
    have hcc := hc.1 w (by omega)
    dsimp only at hcc
    rw [nz_nat h3, show jv_gL h a w = fz_p (co w, 1) from hcc.1]
    have es : fz_sum (co w, 1) (fz_of v' 1) = (co w + v', 1) := by
      rw [fz_of_1 (by omega)]
      unfold fz_sum
      simp only [Int.mul_one]
      exact fz_of_1 (by omega)
    have hr1 : fz_r ((co w + v', 1) : Int × Int) := by rw [← es]; exact fz_sum_r _ _
    refine c_sum X d n _ h _ _ hcc.2 (fz_of_r _ _) ⟨hx, Or.inr rfl, ?_⟩
    rw [es]
    refine hQ _ (oS_uL rfl) ⟨?_, fun i hi => ?_⟩
    · refine hc.1.st hr1 (by omega) ?_ (fun i _ hi => ?_)
      · show ((if w = w then co w + (if ng then -v else v) else co w, 1) : Int × Int) = _
        rw [if_pos rfl, ← ev]
      · show ((if i = w then _ else co i, 1) : Int × Int) = _
        rw [if_neg hi]
    · have := hc.2 i hi
      unfold cu
      rw [← ev]
      split
      · omega
      · omega
  have e3 : (jv_gL h 1 3).toInt = v := hv
  refine r_Tape_readTerm_64 X (d + 3) n Q 1 x1 x2 x3 h ⟨fun e => ⟨t.1, ?_⟩, fun e => ⟨t.1, ?_⟩⟩
  · cases ng with
    | true => rw [hn] at e; exact absurd e (by decide)
    | false => exact c_of X (d + 1) n _ h _ _ (by omega) (by rw [e1]; omega) (by rw [e3, e1]; exact fin v (by omega) rfl)
  · cases ng with
    | false => rw [hn] at e; exact absurd rfl e
    | true =>
      have e4 := nz_neg (show -9223372036854775808 < (jv_gL h 1 3).toInt by omega)
      exact c_of X (d + 1) n _ h _ _ (by rw [e4]; omega) (by rw [e1]; omega) (by rw [e4, e3, e1]; exact fin (-v) (by omega) rfl)
theorem c_readTerm (x1 a : Nat) (x2 : Int32) (co : Nat → Int) (b : Int) (hb : b + 9999 ≤ 1000000000) (t : TO n h) (c : TP h T m p) (hp : PO n h x1 a) (ha : 2 < a) (hc : pi h a co b) (ng : Bool) (hn : x2 = if ng then 1 else 0)
    (hK1 : ∀ r, rt T m p = some r → ∀ h', oS (fun q => q = 1 ∨ q = a) h h' → TP h' T m r.2.2 → pi h' a (cu co r.2.1 (co r.2.1 + if ng then -r.1 else r.1)) (b + 9999) → KI 1 h') (hK0 : rt T m p = none → ∀ h', oS (fun q => q = 1 ∨ q = a) h h' → TP h' T m p → KI 0 h') : jI X (d + 4) y_Tape_readTerm [.ref 1, .ref x1, .int x2] n h KI := by
  have o0 : oS (fun q => q = 1) h (jv_uL h 1 3 1) := oS_uL rfl
  have t0 := t.mv o0
  have c0 : TP (jv_uL h 1 3 1) T m p := c.uL
  have na : ¬ a = 1 := by omega
  have tail : ∀ (h1 : jv_H) (p1 : Nat) (v : Int), oS (fun q => q = 1) h h1 → TP h1 T m p1 → (h1.2.1 1 3).toInt = v → 1 ≤ v ∧ v ≤ 9999 → rt T m p = some (v, tl T m p1) → ∀ h', oS (fun q => q = 1) h1 h' → h'.2.1 = h1.2.1 → TP h' T m (tl T m p1).2 → ∀ x : Int32, x.toInt = (tl T m p1).1 → a_Tape_readTerm_64 X (d + 3) n (jv_rI KI) 1 x1 x2 x h' 0 := by
    intro h1 p1 v o1 c1 hv hv1 hr h' o' eL c' x hx
    have o2 := o1.tr o'
    refine term64 X d n h' _ x1 a x2 x (tl T m p1).1 v co b hb ((t.mv o1).mv o') ((hp.mv o1).mv o') ha ⟨hc.1.mv o2 na, hc.2⟩ hx (tl_b T m p1).1 (by rw [eL]; exact hv) hv1 ng hn (fun h2 o2' pi' => ?_)
    exact hK1 _ hr h2 ((o2.mono (fun q z => Or.inl z)).tr (o2'.mono (fun q z => Or.inr z))) (c'.mv o2' (fun z => by omega) (fun z => by omega)) pi'
  refine r_Tape_readTerm X (d + 3) n _ 1 x1 x2 h ⟨t.1, t.1, c_look X (d + 2) n _ _ T m p t0 c0 ⟨fun e => ⟨t.1, ?_⟩, fun e => ⟨t.1, ?_⟩⟩⟩
  · exact term_tail X (d + 1) n _ T m p _ x1 x2 t0 c0 (tail _ p 1 o0 c0 (congrArg Int64.toInt uL_eq) (by decide) (if_pos e))
  · refine c_readNumber X (d + 1) n _ _ T m p t0 c0 (fun r hr h1 o1 c1 v1 => ⟨fun _ => ⟨t.1, ?_⟩, fun z => absurd z (by decide)⟩) (fun hr => ⟨fun z => absurd rfl z, fun _ => ⟨Or.inl rfl, ?_⟩⟩)
    · have hb' := rn_b hr
      exact term_tail X (d + 1) n _ T m r.2 _ x1 x2 (t0.mv o1) c1 (tail _ r.2 r.1 (o0.tr o1) c1 v1 ⟨hb'.1, hb'.2.1⟩ (by unfold rt; rw [if_neg e, hr]; rfl))
    · exact hK0 (by unfold rt; rw [if_neg e, hr]; rfl) _ (o0.mono (fun q z => Or.inl z)) c0
theorem rp_l (Q : jv_Q) (x1 a : Nat) (ha : 2 < a) : ∀ (f k : Nat) (x3 x2 : Int32) (h : jv_H) (p : Nat) (co : Nat → Int) (ng : Bool), x3.toInt = k → k + f = 101 → TO n h → TP h T m p → PO n h x1 a → pi h a co (9999 * k) → x2 = (if ng then 1 else 0) →
    (∀ r, rp T m f co ng p = .inr r → ∀ h', oS (fun q => q = 1 ∨ q = a) h h' → TP h' T m r.2 → pi h' a r.1 1009899 → Q (some (.int 1)) h') → (∀ e, rp T m f co ng p = .inl e → ∀ h', oS (fun q => q = 1 ∨ q = a) h h' → TP h' T m e → Q (some (.int 0)) h') → a_Tape_readPoly_13 X (d + 4) n Q 1 x1 x2 x3 h 0
  | 0, k, x3, x2, h, p, co, ng, hx, hf, t, c, hp, hc, h2, hQ1, hQ0 => by
    exact r_Tape_readPoly_13 X (d + 4) n Q 1 x1 x2 x3 h ⟨fun _ => ⟨Or.inl rfl, hQ0 p rfl h oS.rf c⟩, fun z => absurd (nz_lt.mpr (by rw [hx]; show (100 : Int) < _; omega)) z⟩
  | f + 1, k, x3, x2, h, p, co, ng, hx, hf, t, c, hp, hc, h2, hQ1, hQ0 => by
    unfold rp at hQ1 hQ0
    refine r_Tape_readPoly_13 X (d + 4) n Q 1 x1 x2 x3 h ⟨fun z => ?_, fun _ => ⟨t.1, ?_⟩⟩
    · have : (100 : Int) < x3.toInt := nz_lt.mp z
      omega
    · refine c_readTerm X d n _ h T m p x1 a x2 co (9999 * k) (by omega) t c hp ha hc ng h2 (fun r hr h1 o1 c1 p1 => ⟨fun _ => ⟨t.1, ?_⟩, fun z => absurd z (by decide)⟩) (fun hr h1 o1 c1 => ⟨fun z => absurd rfl z, fun _ => ⟨Or.inl rfl, hQ0 p (by rw [hr]) h1 o1 c1⟩⟩)
      have t1 := t.mv o1
      have hp1 := hp.mv o1
      rw [hr] at hQ1 hQ0
      dsimp only at hQ1 hQ0
      have oz : ∀ {h1 : jv_H} {v : Int32}, oS (fun q => q = 1 ∨ q = a) h1 (jv_uI h1 1 2 v) := oS_uI (Or.inl rfl)
      have pz : ∀ {h1 : jv_H} {v : Int32} {co : Nat → Int} {b : Int}, pi h1 a co b → pi (jv_uI h1 1 2 v) a co b := fun q => ⟨q.1.mv (S := fun q => q = 1) (oS_uI rfl) (fun z => by omega), q.2⟩
      have pe : pi h1 a (cu co r.2.1 (co r.2.1 + if ng then -r.1 else r.1)) (9999 * ((k + 1 : Nat) : Int)) := ⟨p1.1, fun i hi => by have := p1.2 i hi; omega⟩
      refine c_look X (d + 3) n _ h1 T m _ t1 c1 ⟨fun e => ⟨t.1, ?_⟩, fun e => ⟨t.1, ?_⟩⟩
      · refine c_pass X (d + 2) n _ h1 T m _ 43 (by decide) t1 c1 (fun e2 c2 => ⟨fun _ => ?_, fun z => absurd z (by decide)⟩) (fun e2 => ⟨fun z => absurd rfl z, fun _ => ⟨t.1, c_pass X (d + 2) n _ h1 T m _ 45 (by decide) t1 c1 (fun e3 => absurd e3 e) (fun e3 => ⟨fun z => absurd rfl z, fun _ => ⟨Or.inr rfl, ?_⟩⟩)⟩⟩)
        · rw [if_pos (Or.inl e2)] at hQ1 hQ0
          have ed : decide (lk T m r.2.2 = 45) = false := decide_eq_false e
          rw [ed] at hQ1 hQ0
          exact rp_l Q x1 a ha f (k + 1) _ 0 _ _ _ false (nz_inc hx (by omega)) (by omega) (t1.mv oz) c2 (hp1.mv oz) (pz pe) rfl (fun r' hr' h' o' c' p' => hQ1 r' hr' h' ((o1.tr oz).tr o') c' p') (fun e' he' h' o' c' => hQ0 e' he' h' ((o1.tr oz).tr o') c')
        · rw [if_neg (fun z => z.elim e2 e3)] at hQ1
          exact hQ1 _ rfl h1 o1 c1 ⟨pe.1, fun i hi => ⟨Int.le_trans (by omega) (pe.2 i hi).1, Int.le_trans (pe.2 i hi).2 (by omega)⟩⟩
      · refine c_pass X (d + 2) n _ h1 T m _ 43 (by decide) t1 c1 (fun e2 c2 => ?_) (fun e2 => ⟨fun z => absurd rfl z, fun _ => ⟨t.1, c_pass X (d + 2) n _ h1 T m _ 45 (by decide) t1 c1 (fun e3 c3 => ⟨fun _ => ?_, fun z => absurd z (by decide)⟩) (fun e3 => absurd e e3)⟩⟩)
        · rw [e] at e2
          exact absurd e2 (by decide)
        · rw [if_pos (Or.inr e3)] at hQ1 hQ0
          have ed : decide (lk T m r.2.2 = 45) = true := decide_eq_true e
          rw [ed] at hQ1 hQ0
          exact rp_l Q x1 a ha f (k + 1) _ 1 _ _ _ true (nz_inc hx (by omega)) (by omega) (t1.mv oz) c3 (hp1.mv oz) (pz pe) rfl (fun r' hr' h' o' c' p' => hQ1 r' hr' h' ((o1.tr oz).tr o') c' p') (fun e' he' h' o' c' => hQ0 e' he' h' ((o1.tr oz).tr o') c')
theorem c_readPoly (x1 a : Nat) (ha : 2 < a) (t : TO n h) (c : TP h T m p) (hp : PO n h x1 a) (hK1 : ∀ r, rpoly T m p = .inr r → ∀ h', oS (fun q => q = 1 ∨ q = a) h h' → TP h' T m r.2 → pi h' a r.1 1009899 → KI 1 h') (hK0 : ∀ e, rpoly T m p = .inl e → ∀ h', oS (fun q => q = 1 ∨ q = a) h h' → TP h' T m e → KI 0 h') : jI X (d + 5) y_Tape_readPoly [.ref 1, .ref x1] n h KI := by
  unfold rpoly at hK1 hK0
  refine r_Tape_readPoly X (d + 4) n _ 1 x1 h ⟨hp.1, c_clear X (d + 3) n _ h x1 a hp (fun h1 o1 f1 => ⟨t.1, ?_⟩)⟩
  have t1 := t.mv o1
  have c1 : TP h1 T m p := c.mv o1 (fun z => by omega) (fun z => by omega)
  have oa : oS (fun q => q = 1 ∨ q = a) h h1 := o1.mono (fun q z => Or.inr z)
  have p1 : pi h1 a (fun _ => 0) (9999 * ((0 : Nat) : Int)) := ⟨f1, fun i _ => ⟨by show -(9999 * ((0 : Nat) : Int)) ≤ 0; decide, by show 0 ≤ (9999 * ((0 : Nat) : Int)); decide⟩⟩
  refine c_pass X (d + 2) n _ h1 T m p 45 (by decide) t1 c1 (fun e c2 => ?_) (fun e => ?_)
  · rw [if_pos e] at hK1 hK0
    have oz : oS (fun q => q = 1 ∨ q = a) h1 (jv_uI h1 1 2 (jv_gI h1 1 2 + 1)) := oS_uI (Or.inl rfl)
    exact rp_l X d n T m _ x1 a ha 101 0 0 1 _ _ _ true rfl rfl (t1.mv oz) c2 ((hp.mv o1).mv oz) ⟨p1.1.mv (S := fun q => q = 1) (oS_uI rfl) (fun z => by omega), p1.2⟩ rfl (fun r' hr' h' o' c' p' => hK1 r' hr' h' ((oa.tr oz).tr o') c' p') (fun e' he' h' o' c' => hK0 e' he' h' ((oa.tr oz).tr o') c')
  · rw [if_neg e] at hK1 hK0
    exact rp_l X d n T m _ x1 a ha 101 0 0 0 _ _ _ false rfl rfl t1 c1 (hp.mv o1) p1 rfl (fun r' hr' h' o' c' p' => hK1 r' hr' h' (oa.tr o') c' p') (fun e' he' h' o' c' => hK0 e' he' h' (oa.tr o') c')
theorem c_readRatio (r pa aa pb ab : Nat) (h1a : 2 < aa) (h1b : 2 < ab) (t : TO n h) (hs : (h.1 1 1).toInt = m) (hm : m ≤ 100) (hT : ∀ i, i < m → h.1 2 i = T i) (hr : RO n h r pa aa pb ab)
    (hK1 : ∀ q, rrat T m = .inr q → ∀ h', oS (fun q => q = 1 ∨ q = aa ∨ q = ab) h h' → (∃ p, TP h' T m p) → pi h' aa q.1 1009899 → pi h' ab q.2 1009899 → KI 1 h') (hK0 : ∀ e, rrat T m = .inl e → ∀ h', oS (fun q => q = 1 ∨ q = aa ∨ q = ab) h h' → TP h' T m e → KI 0 h') : jI X (d + 6) y_Tape_readRatio [.ref 1, .ref r] n h KI := by
  unfold rrat at hK1 hK0
  have o0 : oS (fun q => q = 1 ∨ q = aa ∨ q = ab) h (jv_uI h 1 2 0) := oS_uI (Or.inl rfl)
  have t0 := t.mv o0
  have hr0 := hr.mv o0
  have c0 : TP (jv_uI h 1 2 0) T m 0 := ⟨by rw [uI_ne (by decide)]; exact hs, by rw [uI_eq]; rfl, hm, Nat.zero_le _, fun i hi => by rw [uI_ne (by omega)]; exact hT i hi⟩
  have ma : ∀ {h1 h2 : jv_H}, oS (fun q => q = 1 ∨ q = aa) h1 h2 → oS (fun q => q = 1 ∨ q = aa ∨ q = ab) h1 h2 := fun o => o.mono (fun q z => z.elim Or.inl (fun y => Or.inr (Or.inl y)))
  have mb : ∀ {h1 h2 : jv_H}, oS (fun q => q = 1 ∨ q = ab) h1 h2 → oS (fun q => q = 1 ∨ q = aa ∨ q = ab) h1 h2 := fun o => o.mono (fun q z => z.elim Or.inl (fun y => Or.inr (Or.inr y)))
  have hne := hr.ne
  refine r_Tape_readRatio X (d + 5) n _ 1 r h ⟨t.1, hr.1, _, hr0.2.1, t.1, c_readPoly X d n _ _ T m 0 pa aa h1a t0 c0 hr0.p (fun q1 e1 h1 o1 c1 p1 => ⟨fun z => absurd z (by decide), fun _ => ⟨t.1, ?_⟩⟩) (fun e1 he h1 o1 c1 => ⟨fun _ => ⟨Or.inl rfl, hK0 e1 (by rw [he]) h1 (o0.tr (ma o1)) c1⟩, fun z => absurd rfl z⟩)⟩
  rw [e1] at hK1 hK0
  dsimp only at hK1 hK0
  have t1 := t0.mv o1
  have hr1 := hr0.mv o1
  refine c_pass X (d + 3) n _ h1 T m _ 47 (by decide) t1 c1 (fun e c2 => ⟨fun z => absurd z (by decide), fun _ => ?_⟩) (fun e => ⟨fun _ => ⟨Or.inl rfl, hK0 _ (by rw [if_neg e]) h1 (o0.tr (ma o1)) c1⟩, fun z => absurd rfl z⟩)
  have o2 : oS (fun q => q = 1) h1 (jv_uI h1 1 2 (jv_gI h1 1 2 + 1)) := oS_uI rfl
  have o2' := o2.mono (T := fun q => q = 1 ∨ q = aa ∨ q = ab) (fun q z => Or.inl z)
  have hr2 := hr1.mv o2
  have p2 := p1.1.mv o2 (fun z => by omega)
  rw [if_pos e] at hK1 hK0
  refine ⟨hr.1, _, hr2.2.2.1, t.1, c_readPoly X d n _ _ T m _ pb ab h1b (t1.mv o2) c2 hr2.q (fun q3 e3 h3 o3 c3 p3 => ⟨fun z => absurd z (by decide), fun _ => ⟨t.1, t.1, fun y => ⟨Or.inl rfl, ?_⟩, fun y => ⟨Or.inr rfl, ?_⟩⟩⟩) (fun e3 he h3 o3 c3 => ⟨fun _ => ⟨Or.inl rfl, hK0 e3 (by rw [he]) h3 (((o0.tr (ma o1)).tr o2').tr (mb o3)) c3⟩, fun z => absurd rfl z⟩)⟩
  · rw [e3] at hK0
    dsimp only at hK0
    have : ¬ q3.2 = m := fun z => y (Int32.toInt_inj.mp (by rw [show (jv_gI h3 1 2).toInt = q3.2 from c3.2.1, show (jv_gI h3 1 1).toInt = m from c3.1, z]))
    rw [if_neg this] at hK0
    exact hK0 _ rfl h3 (((o0.tr (ma o1)).tr o2').tr (mb o3)) c3
  · rw [e3] at hK1
    dsimp only at hK1
    have : q3.2 = m := by
      have e4 : (jv_gI h3 1 2).toInt = q3.2 := c3.2.1
      rw [y, show (jv_gI h3 1 1).toInt = m from c3.1] at e4
      omega
    rw [if_pos this] at hK1
    exact hK1 _ rfl h3 (((o0.tr (ma o1)).tr o2').tr (mb o3)) ⟨_, c3⟩ ⟨p2.mv o3 (fun z => z.elim (fun y => by omega) hne), p1.2⟩ p3
end
