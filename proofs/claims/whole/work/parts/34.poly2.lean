/-! ===== polynomials: times, powers, moved ===== -/
theorem uL_same {h : jv_H} {a i : Nat} {v : Int64} : jv_gL (jv_uL h a i v) a i = v := by
  show (jv_uL h a i v).2.1 a i = v
  rw [uL_at, if_pos rfl]
theorem nz_sub_i {x y : Int32} {k r : Int} (hx : x.toInt = k) (hy : y.toInt = r) (hk : -1000000 < k ∧ k < 1000000) (hr : -1000000 < r ∧ r < 1000000) : (x - y).toInt = k - r := by
  rw [nz_subi (by rw [hx, hy]; omega) (by rw [hx, hy]; omega), hx, hy]
/-- a coefficient, more by a factor's times of another poly's -/
def pz_add (f g : Nat → Int × Int) (q : Int × Int) (r : Int) (i : Nat) : Int × Int := fz_sum (f i) (fz_mul q (pz_at g ((i : Int) - r)))
theorem addTimes_loop (X : jv_X) (d n : Nat) (Q : jv_Q) (p a p2 a2 : Nat) (f g : Nat → Int × Int) (q : Int × Int) (hq : fz_r q) (x4 : Int32) (r : Int) (h4 : x4.toInt = r) (hr : -1000 ≤ r ∧ r ≤ 1000) (hne : a2 ≠ a) :
    ∀ (m k : Nat) (x : Int32) (h : jv_H), x.toInt = k → k + m = 13 → PO n h p a → PO n h p2 a2 → pc h a2 g → pc h a (fun i => if i < k then pz_add f g q r i else f i) → (∀ i, i < k → pz_add f g q r i ≠ (-1, 0)) →
      ((∀ i, i < 13 → pz_add f g q r i ≠ (-1, 0)) → ∀ h', oS (fun w => w = a) h h' → pc h' a (pz_add f g q r) → Q (some (.int 1)) h') → ((∃ i, i < 13 ∧ pz_add f g q r i = (-1, 0)) → ∀ h', oS (fun w => w = a) h h' → Q (some (.int 0)) h') → a_Poly_addTimes_3 X (d + 3) n Q p p2 (fz_p q) x4 x h 0
  | 0, k, x, h, hx, hm, hp, hp2, hg, hf, hnw, hQ1, hQ0 => by
    refine r_Poly_addTimes_3 X (d + 3) n Q p p2 (fz_p q) x4 x h ⟨fun _ => ⟨Or.inr rfl, hQ1 (fun i hi => hnw i (by omega)) h oS.rf (hf.eq (fun i hi => by rw [if_pos (by omega)]))⟩, fun w => ?_⟩
    exact absurd (nz_lt.mpr (by rw [hx]; show (12 : Int) < _; omega)) w
  | m + 1, k, x, h, hx, hm, hp, hp2, hg, hf, hnw, hQ1, hQ0 => by
    refine r_Poly_addTimes_3 X (d + 3) n Q p p2 (fz_p q) x4 x h ⟨fun w => ?_, fun _ => ⟨hp2.1, ?_⟩⟩
    · have : (12 : Int) < x.toInt := nz_lt.mp w
      omega
    · refine c_at X (d + 1) n _ h p2 a2 g _ hp2 hg ?_
      rw [nz_sub_i hx h4 (by omega) (by omega)]
      refine c_product X d n _ h q _ hq (pz_at_r hg _) ?_
      refine ⟨hp.1, a, hp.2.1, hp.1, a, hp.2.1, hp.ix hx (by omega), ?_⟩
      have hv := hf k (by omega)
      dsimp only at hv
      rw [if_neg (by omega)] at hv
      rw [nz_nat hx, show jv_gL h a k = fz_p (f k) from hv.1]
      refine c_sum X d n _ h _ _ hv.2 (fz_mul_r _ _) ?_
      have hnr : fz_r (pz_add f g q r k) := fz_sum_r _ _
      have ho : oS (fun w => w = a) h (jv_uL h a k (fz_p (pz_add f g q r k))) := oS_uL rfl
      refine ⟨hp.ix hx (by omega), hp.1, a, hp.2.1, hp.ix hx (by omega), ?_⟩
      show jI X (d + 3) y_Fractions_isWide [.long (jv_gL (jv_uL h a k (fz_p (pz_add f g q r k))) a k)] n (jv_uL h a k (fz_p (pz_add f g q r k))) _
      rw [uL_same]
      refine c_isWide X (d + 2) n _ _ _ hnr ⟨fun w => ?_, fun w => ⟨Or.inl rfl, ?_⟩⟩
      · rw [nz_bt] at w
        refine addTimes_loop X d n Q p a p2 a2 f g q hq x4 r h4 hr hne m (k + 1) _ _ (nz_inc hx (by omega)) (by omega) (hp.mv ho) (hp2.mv ho) (hg.mv ho hne) ?_ (fun i hi => ?_) (fun z h' h1 h2 => hQ1 z h' (ho.tr h1) h2) (fun z h' h1 => hQ0 z h' (ho.tr h1))
        · refine hf.st hnr (by omega) (by rw [if_pos (by omega)]) (fun i _ hik => ?_)
          by_cases hlt : i < k
          · rw [if_pos hlt, if_pos (by omega)]
          · rw [if_neg hlt, if_neg (by omega)]
        · by_cases hik : i = k
          · rw [hik]; exact w
          · exact hnw i (by omega)
      · rw [nz_bt, Classical.not_not] at w
        exact hQ0 ⟨k, by omega, w⟩ _ ho
theorem c_addTimes (X : jv_X) (d n : Nat) (K : Int32 → jv_H → Prop) (h : jv_H) (p a p2 a2 : Nat) (f g : Nat → Int × Int) (q : Int × Int) (hq : fz_r q) (x4 : Int32) (r : Int) (h4 : x4.toInt = r) (hr : -1000 ≤ r ∧ r ≤ 1000) (hne : a2 ≠ a) (hp : PO n h p a) (hp2 : PO n h p2 a2) (hf : pc h a f) (hg : pc h a2 g)
    (hK1 : (∀ i, i < 13 → pz_add f g q r i ≠ (-1, 0)) → ∀ h', oS (fun w => w = a) h h' → pc h' a (pz_add f g q r) → K 1 h') (hK0 : (∃ i, i < 13 ∧ pz_add f g q r i = (-1, 0)) → ∀ h', oS (fun w => w = a) h h' → K 0 h') : jI X (d + 4) y_Poly_addTimes [.ref p, .ref p2, .long (fz_p q), .int x4] n h K := by
  refine r_Poly_addTimes X (d + 3) n _ p p2 _ x4 h ?_
  exact addTimes_loop X d n _ p a p2 a2 f g q hq x4 r h4 hr hne 13 0 0 h rfl rfl hp hp2 hg (hf.eq (fun i hi => by rw [if_neg (by omega)])) (fun i hi => by omega) hK1 hK0
/-- a coefficient times a factor, the powers raised -/
def pz_grow (f : Nat → Int × Int) (q : Int × Int) (r : Int) (i : Nat) : Int × Int := fz_mul q (pz_at f ((i : Int) - r))
theorem growTimes_loop (X : jv_X) (d n : Nat) (Q : jv_Q) (p a : Nat) (f : Nat → Int × Int) (hfr : ∀ i, i < 13 → fz_r (f i)) (q : Int × Int) (hq : fz_r q) (x3 : Int32) (r : Int) (h3 : x3.toInt = r) (hr : 0 ≤ r ∧ r ≤ 1000) :
    ∀ (k : Nat) (x : Int32) (h : jv_H), x.toInt = (k : Int) - 1 → k ≤ 13 → PO n h p a → pc h a (fun i => if i < k then f i else pz_grow f q r i) → (∀ i, i < 13 → k ≤ i → pz_grow f q r i ≠ (-1, 0)) →
      ((∀ i, i < 13 → pz_grow f q r i ≠ (-1, 0)) → ∀ h', oS (fun w => w = a) h h' → pc h' a (pz_grow f q r) → Q (some (.int 1)) h') → ((∃ i, i < 13 ∧ pz_grow f q r i = (-1, 0)) → ∀ h', oS (fun w => w = a) h h' → Q (some (.int 0)) h') → a_Poly_growTimes_4 X (d + 3) n Q p (fz_p q) x3 x h 0
  | 0, x, h, hx, hk, hp, hf, hnw, hQ1, hQ0 => by
    refine r_Poly_growTimes_4 X (d + 3) n Q p (fz_p q) x3 x h ⟨fun _ => ⟨Or.inr rfl, hQ1 (fun i hi => hnw i hi (by omega)) h oS.rf (hf.eq (fun i hi => by rw [if_neg (by omega)]))⟩, fun w => ?_⟩
    exact absurd (nz_lt.mpr (by rw [hx]; show _ < (0 : Int); omega)) w
  | k + 1, x, h, hx, hk, hp, hf, hnw, hQ1, hQ0 => by
    have hx' : x.toInt = k := by omega
    refine r_Poly_growTimes_4 X (d + 3) n Q p (fz_p q) x3 x h ⟨fun w => ?_, fun _ => ⟨hp.1, a, hp.2.1, hp.1, ?_⟩⟩
    · have : x.toInt < (0 : Int) := nz_lt.mp w
      omega
    · refine c_at X (d + 1) n _ h p a _ _ hp hf ?_
      rw [nz_sub_i hx' h3 (by omega) (by omega)]
      have hat : pz_at (fun i => if i < k + 1 then f i else pz_grow f q r i) ((k : Int) - r) = pz_at f ((k : Int) - r) := by
        unfold pz_at
        split
        · exact if_pos (by omega)
        · rfl
      have hatr : fz_r (pz_at f ((k : Int) - r)) := by
        unfold pz_at
        split
        · exact hfr _ (by omega)
        · exact fz_r_0
      rw [hat]
      refine c_product X d n _ h q _ hq hatr ?_
      have hnr : fz_r (pz_grow f q r k) := fz_mul_r _ _
      have ho : oS (fun w => w = a) h (jv_uL h a k (fz_p (pz_grow f q r k))) := oS_uL rfl
      rw [nz_nat hx']
      refine ⟨hp.ix hx' (by omega), hp.1, a, hp.2.1, hp.ix hx' (by omega), ?_⟩
      show jI X (d + 3) y_Fractions_isWide [.long (jv_gL (jv_uL h a k (fz_p (pz_grow f q r k))) a k)] n (jv_uL h a k (fz_p (pz_grow f q r k))) _
      rw [uL_same]
      refine c_isWide X (d + 2) n _ _ _ hnr ⟨fun w => ?_, fun w => ⟨Or.inl rfl, ?_⟩⟩
      · rw [nz_bt] at w
        refine growTimes_loop X d n Q p a f hfr q hq x3 r h3 hr k _ _ (nz_dec hx' (by omega)) (by omega) (hp.mv ho) ?_ (fun i hi hki => ?_) (fun z h' h1 h2 => hQ1 z h' (ho.tr h1) h2) (fun z h' h1 => hQ0 z h' (ho.tr h1))
        · refine hf.st hnr (by omega) (by rw [if_neg (by omega)]) (fun i _ hik => ?_)
          by_cases hlt : i < k
          · rw [if_pos hlt, if_pos (by omega)]
          · rw [if_neg hlt, if_neg (by omega)]
        · by_cases hik : i = k
          · rw [hik]; exact w
          · exact hnw i hi (by omega)
      · rw [nz_bt, Classical.not_not] at w
        exact hQ0 ⟨k, by omega, w⟩ _ ho
theorem c_growTimes (X : jv_X) (d n : Nat) (K : Int32 → jv_H → Prop) (h : jv_H) (p a : Nat) (f : Nat → Int × Int) (q : Int × Int) (hq : fz_r q) (x3 : Int32) (r : Int) (h3 : x3.toInt = r) (hr : 0 ≤ r ∧ r ≤ 1000) (hp : PO n h p a) (hf : pc h a f)
    (hK1 : (∀ i, i < 13 → pz_grow f q r i ≠ (-1, 0)) → ∀ h', oS (fun w => w = a) h h' → pc h' a (pz_grow f q r) → K 1 h') (hK0 : (∃ i, i < 13 ∧ pz_grow f q r i = (-1, 0)) → ∀ h', oS (fun w => w = a) h h' → K 0 h') : jI X (d + 4) y_Poly_growTimes [.ref p, .long (fz_p q), .int x3] n h K := by
  refine r_Poly_growTimes X (d + 3) n _ p _ x3 h ?_
  exact growTimes_loop X d n _ p a f (fun i hi => (hf i hi).2) q hq x3 r h3 hr 13 12 h rfl (by omega) hp (hf.eq (fun i hi => by rw [if_pos hi])) (fun i hi hk => by omega) hK1 hK0
/-- divided so many times -/
def pz_div (v w : Int × Int) : Nat → Int × Int
  | 0 => v
  | t + 1 => fz_quo (pz_div v w t) w
theorem pz_div_r {v w : Int × Int} (hv : fz_r v) : ∀ t, fz_r (pz_div v w t)
  | 0 => hv
  | _ + 1 => fz_quo_r _ _
theorem div_in (X : jv_X) (d n : Nat) (Q : jv_Q) (p a : Nat) (w : Int × Int) (hw : fz_r w) (x3 : Int32) (k : Nat) (h3 : x3.toInt = k) (hk : k < 13) (f : Nat → Int × Int) :
    ∀ (m t : Nat) (x4 : Int32) (h : jv_H), x4.toInt = t → t + m = k → PO n h p a → pc h a (fun i => if i = k then pz_div (f k) w t else f i) → fz_r (f k) →
      (pz_div (f k) w k ≠ (-1, 0) → ∀ h', oS (fun q => q = a) h h' → pc h' a (fun i => if i = k then pz_div (f k) w k else f i) → a_Poly_divideByPowers_2 X (d + 3) n Q p (fz_p w) (x3 + 1) h' 0) → (pz_div (f k) w k = (-1, 0) → ∀ h', oS (fun q => q = a) h h' → Q (some (.int 0)) h') → a_Poly_divideByPowers_11 X (d + 3) n Q p (fz_p w) x3 x4 h 0
  | 0, t, x4, h, h4, hm, hp, hf, hfr, hQ1, hQ0 => by
    refine r_Poly_divideByPowers_11 X (d + 3) n Q p (fz_p w) x3 x4 h ⟨fun _ => ⟨hp.1, a, hp.2.1, hp.ix h3 hk, ?_⟩, fun z => ?_⟩
    · have htk : t = k := by omega
      subst htk
      have hv := hf t hk
      dsimp only at hv
      rw [if_pos rfl] at hv
      rw [nz_nat h3, show jv_gL h a t = fz_p (pz_div (f t) w t) from hv.1]
      refine c_isWide X (d + 2) n _ h _ hv.2 ⟨fun z => ?_, fun z => ⟨Or.inl rfl, ?_⟩⟩
      · rw [nz_bt] at z
        exact hQ1 z h oS.rf hf
      · rw [nz_bt, Classical.not_not] at z
        exact hQ0 z h oS.rf
    · exact absurd (nz_le.mpr (by rw [h3, h4]; omega)) z
  | m + 1, t, x4, h, h4, hm, hp, hf, hfr, hQ1, hQ0 => by
    refine r_Poly_divideByPowers_11 X (d + 3) n Q p (fz_p w) x3 x4 h ⟨fun z => ?_, fun _ => ⟨hp.1, a, hp.2.1, hp.1, a, hp.2.1, hp.ix h3 hk, ?_⟩⟩
    · have := nz_le.mp z
      rw [h3, h4] at this
      omega
    · have hv := hf k hk
      dsimp only at hv
      rw [if_pos rfl] at hv
      rw [nz_nat h3, show jv_gL h a k = fz_p (pz_div (f k) w t) from hv.1]
      refine c_quotient X d n _ h _ _ hv.2 hw ⟨hp.ix h3 hk, ?_⟩
      have ho : oS (fun q => q = a) h (jv_uL h a k (fz_p (fz_quo (pz_div (f k) w t) w))) := oS_uL rfl
      refine div_in X d n Q p a w hw x3 k h3 hk f m (t + 1) _ _ (nz_inc h4 (by omega)) (by omega) (hp.mv ho) ?_ hfr (fun z h' h1 h2 => hQ1 z h' (ho.tr h1) h2) (fun z h' h1 => hQ0 z h' (ho.tr h1))
      refine hf.st (fz_quo_r _ _) hk (by rw [if_pos rfl]; rfl) (fun i _ hik => by rw [if_neg hik, if_neg hik])
/-- each power's coefficient divided so often -/
def pz_pow (f : Nat → Int × Int) (w : Int × Int) (i : Nat) : Int × Int := pz_div (f i) w i
theorem div_out (X : jv_X) (d n : Nat) (Q : jv_Q) (p a : Nat) (w : Int × Int) (hw : fz_r w) (f : Nat → Int × Int) (hfr : ∀ i, i < 13 → fz_r (f i)) :
    ∀ (m k : Nat) (x3 : Int32) (h : jv_H), x3.toInt = k → k + m = 13 → PO n h p a → pc h a (fun i => if i < k then pz_pow f w i else f i) → (∀ i, i < k → pz_pow f w i ≠ (-1, 0)) →
      ((∀ i, i < 13 → pz_pow f w i ≠ (-1, 0)) → ∀ h', oS (fun q => q = a) h h' → pc h' a (pz_pow f w) → Q (some (.int 1)) h') → ((∃ i, i < 13 ∧ pz_pow f w i = (-1, 0)) → ∀ h', oS (fun q => q = a) h h' → Q (some (.int 0)) h') → a_Poly_divideByPowers_2 X (d + 3) n Q p (fz_p w) x3 h 0
  | 0, k, x3, h, h3, hm, hp, hf, hnw, hQ1, hQ0 => by
    refine r_Poly_divideByPowers_2 X (d + 3) n Q p (fz_p w) x3 h ⟨fun _ => ⟨Or.inr rfl, hQ1 (fun i hi => hnw i (by omega)) h oS.rf (hf.eq (fun i hi => by rw [if_pos (by omega)]))⟩, fun z => ?_⟩
    exact absurd (nz_lt.mpr (by rw [h3]; show (12 : Int) < _; omega)) z
  | m + 1, k, x3, h, h3, hm, hp, hf, hnw, hQ1, hQ0 => by
    refine r_Poly_divideByPowers_2 X (d + 3) n Q p (fz_p w) x3 h ⟨fun z => ?_, fun _ => ?_⟩
    · have : (12 : Int) < x3.toInt := nz_lt.mp z
      omega
    · obtain ⟨G, hG⟩ : ∃ G : Nat → Int × Int, ∀ i, G i = if i < k then pz_pow f w i else f i := ⟨_, fun _ => rfl⟩
      have hf' : pc h a G := hf.eq (fun i _ => hG i)
      have hcur : G k = f k := by rw [hG, if_neg (by omega)]
      refine div_in X d n Q p a w hw x3 k h3 (by omega) G k 0 0 h rfl (by omega) hp ?_ (by rw [hcur]; exact hfr k (by omega)) (fun z h' h1 h2 => ?_) (fun z h' h1 => ?_)
      · refine hf'.eq (fun i hi => ?_)
        by_cases hik : i = k
        · rw [if_pos hik, hik]; rfl
        · rw [if_neg hik]
      · rw [hcur] at z h2
        refine div_out X d n Q p a w hw f hfr m (k + 1) _ _ (nz_inc h3 (by omega)) (by omega) (hp.mv h1) (h2.eq (fun i hi => ?_)) (fun i hi => ?_) (fun z h'' g1 g2 => hQ1 z h'' (h1.tr g1) g2) (fun z h'' g1 => hQ0 z h'' (h1.tr g1))
        · by_cases hik : i = k
          · rw [if_pos hik, if_pos (by omega), hik]; rfl
          · rw [if_neg hik, hG]
            by_cases hlt : i < k
            · rw [if_pos hlt, if_pos (by omega)]
            · rw [if_neg hlt, if_neg (by omega)]
        · by_cases hik : i = k
          · rw [hik]; exact z
          · exact hnw i (by omega)
      · rw [hcur] at z
        exact hQ0 ⟨k, by omega, z⟩ h' h1
theorem c_divideByPowers (X : jv_X) (d n : Nat) (K : Int32 → jv_H → Prop) (h : jv_H) (p a : Nat) (f : Nat → Int × Int) (w : Int × Int) (hw : fz_r w) (hp : PO n h p a) (hf : pc h a f)
    (hK1 : (∀ i, i < 13 → pz_pow f w i ≠ (-1, 0)) → ∀ h', oS (fun q => q = a) h h' → pc h' a (pz_pow f w) → K 1 h') (hK0 : (∃ i, i < 13 ∧ pz_pow f w i = (-1, 0)) → ∀ h', oS (fun q => q = a) h h' → K 0 h') : jI X (d + 4) y_Poly_divideByPowers [.ref p, .long (fz_p w)] n h K := by
  refine r_Poly_divideByPowers X (d + 3) n _ p _ h ?_
  exact div_out X d n _ p a w hw f (fun i hi => (hf i hi).2) 13 0 0 h rfl rfl hp (hf.eq (fun i hi => by rw [if_neg (by omega)])) (fun i hi => by omega) hK1 hK0
