/-! ===== ratios of the class ===== -/
/-- a ratio: object r, its polys and their rows -/
def RO (n : Nat) (h : jv_H) (r pa aa pb ab : Nat) : Prop := jv_is SHT n r 15 ∧ h.2.2 r 0 = some pa ∧ h.2.2 r 1 = some pb ∧ PO n h pa aa ∧ PO n h pb ab ∧ aa ≠ ab
theorem RO.mv {n r pa aa pb ab : Nat} {S : Nat → Prop} {h h' : jv_H} (ho : oS S h h') (hr : RO n h r pa aa pb ab) : RO n h' r pa aa pb ab := ⟨hr.1, by rw [ho.1]; exact hr.2.1, by rw [ho.1]; exact hr.2.2.1, hr.2.2.2.1.mv ho, hr.2.2.2.2.1.mv ho, hr.2.2.2.2.2⟩
theorem RO.p {n r pa aa pb ab : Nat} {h : jv_H} (hr : RO n h r pa aa pb ab) : PO n h pa aa := hr.2.2.2.1
theorem RO.q {n r pa aa pb ab : Nat} {h : jv_H} (hr : RO n h r pa aa pb ab) : PO n h pb ab := hr.2.2.2.2.1
theorem RO.ne {n r pa aa pb ab : Nat} {h : jv_H} (hr : RO n h r pa aa pb ab) : aa ≠ ab := hr.2.2.2.2.2
def rw2 (aa ab : Nat) : Nat → Prop := fun w => w = aa ∨ w = ab
def noW (f : Nat → Int × Int) : Prop := ∀ i, i < 13 → f i ≠ (-1, 0)
theorem noW_not {f : Nat → Int × Int} (h : ∃ i, i < 13 ∧ f i = (-1, 0)) : ¬ noW f := fun z => by
  obtain ⟨i, hi, e⟩ := h
  exact z i hi e
theorem c_Ratio_become (X : jv_X) (d n : Nat) (K : jv_H → Prop) (h : jv_H) (r pa aa pb ab r2 pa2 aa2 pb2 ab2 : Nat) (f g : Nat → Int × Int) (hr : RO n h r pa aa pb ab) (hr2 : RO n h r2 pa2 aa2 pb2 ab2) (d1 : aa2 ≠ aa) (d2 : ab2 ≠ ab) (d3 : ab2 ≠ aa) (hf : pc h aa2 f) (hg : pc h ab2 g)
    (hK : ∀ h', oS (rw2 aa ab) h h' → pc h' aa f → pc h' ab g → K h') : jV X (d + 2) y_Ratio_become [.ref r, .ref r2] n h K := by
  refine r_Ratio_become X (d + 1) n _ r r2 h ⟨hr.1, pa, hr.2.1, hr2.1, pa2, hr2.2.1, hr.p.1, ?_⟩
  refine c_become X d n _ h pa aa pa2 aa2 f hr.p hr2.p d1 hf (fun h1 o1 f1 => ?_)
  have hr' := hr.mv o1
  have hr2' := hr2.mv o1
  refine ⟨hr'.1, pb, hr'.2.2.1, hr2'.1, pb2, hr2'.2.2.1, hr'.q.1, ?_⟩
  refine c_become X d n _ h1 pb ab pb2 ab2 g hr'.q hr2'.q d2 (hg.mv o1 d3) (fun h2 o2 g2 => ?_)
  exact hK h2 ((o1.mono (fun _ z => Or.inl z)).tr (o2.mono (fun _ z => Or.inr z))) (f1.mv o2 hr.ne) g2
theorem c_hasZeroPoly (X : jv_X) (d n : Nat) (K : Int32 → jv_H → Prop) (h : jv_H) (r pa aa pb ab : Nat) (f g : Nat → Int × Int) (hr : RO n h r pa aa pb ab) (hf : pc h aa f) (hg : pc h ab g) (hK : K (if pz_hi f 13 < 0 ∨ pz_hi g 13 < 0 then 1 else 0) h) : jI X (d + 3) y_Ratio_hasZeroPoly [.ref r] n h K := by
  refine r_Ratio_hasZeroPoly X (d + 2) n _ r h ⟨hr.1, pa, hr.2.1, hr.p.1, ?_⟩
  refine c_isZero X d n _ h pa aa f hr.p hf ⟨fun w => ⟨Or.inr rfl, ?_⟩, fun w => ?_⟩
  · rw [nz_bt, Classical.not_not] at w
    rw [if_pos (Or.inl w)] at hK
    exact hK
  · rw [nz_bt] at w
    refine ⟨hr.1, pb, hr.2.2.1, hr.q.1, c_isZero X d n _ h pb ab g hr.q hg ⟨fun v => ⟨Or.inl rfl, ?_⟩, fun v => ⟨Or.inr rfl, ?_⟩⟩⟩
    · rw [nz_bt] at v
      rw [if_neg (fun z => z.elim w v)] at hK
      exact hK
    · rw [nz_bt, Classical.not_not] at v
      rw [if_pos (Or.inr v)] at hK
      exact hK
/-- the first k terms of a product's coefficient -/
def pz_sp (f g : Nat → Int × Int) (pw : Int) : Nat → Int × Int
  | 0 => (0, 1)
  | k + 1 => fz_sum (pz_sp f g pw k) (fz_mul (pz_at f k) (pz_at g (pw - k)))
theorem pz_sp_r (f g : Nat → Int × Int) (pw : Int) : ∀ k, fz_r (pz_sp f g pw k)
  | 0 => fz_r_0
  | _ + 1 => fz_sum_r _ _
theorem sop_loop (X : jv_X) (d n : Nat) (Q : jv_Q) (h : jv_H) (p a p2 a2 : Nat) (f g : Nat → Int × Int) (x2 : Int32) (pw : Nat) (h2 : x2.toInt = pw) (hpw : pw ≤ 24) (hp : PO n h p a) (hp2 : PO n h p2 a2) (hf : pc h a f) (hg : pc h a2 g) :
    ∀ (m k : Nat) (x5 : Int32), x5.toInt = k → k + m = 13 → Q (some (.long (fz_p (pz_sp f g pw 13)))) h → a_Ratio_sumOfProducts_5 X (d + 3) n Q p p2 x2 (fz_p (pz_sp f g pw k)) x5 h 0
  | 0, k, x5, h5, hm, hQ => by
    refine r_Ratio_sumOfProducts_5 X (d + 3) n Q p p2 x2 _ x5 h ⟨fun _ => ?_, fun z => ?_⟩
    · rw [show k = 13 by omega]
      exact hQ
    · exact absurd (nz_lt.mpr (by rw [h5]; show (12 : Int) < _; omega)) z
  | m + 1, k, x5, h5, hm, hQ => by
    refine r_Ratio_sumOfProducts_5 X (d + 3) n Q p p2 x2 _ x5 h ⟨fun z => ?_, fun _ => ⟨hp.1, ?_⟩⟩
    · have : (12 : Int) < x5.toInt := nz_lt.mp z
      omega
    · refine c_at X (d + 1) n _ h p a f _ hp hf ⟨hp2.1, c_at X (d + 1) n _ h p2 a2 g _ hp2 hg ?_⟩
      rw [h5, nz_sub_i h2 h5 (by omega) (by omega)]
      refine c_product X d n _ h _ _ (pz_at_r hf _) (pz_at_r hg _) ?_
      refine c_sum X d n _ h _ _ (pz_sp_r f g pw k) (fz_mul_r _ _) ?_
      exact sop_loop X d n Q h p a p2 a2 f g x2 pw h2 hpw hp hp2 hf hg m (k + 1) _ (nz_inc h5 (by omega)) (by omega) hQ
theorem c_sumOfProducts (X : jv_X) (d n : Nat) (K : Int64 → jv_H → Prop) (h : jv_H) (p a p2 a2 : Nat) (f g : Nat → Int × Int) (x2 : Int32) (pw : Nat) (h2 : x2.toInt = pw) (hpw : pw ≤ 24) (hp : PO n h p a) (hp2 : PO n h p2 a2) (hf : pc h a f) (hg : pc h a2 g) (hK : K (fz_p (pz_sp f g pw 13)) h) : jL X (d + 4) y_Ratio_sumOfProducts [.ref p, .ref p2, .int x2] n h K := by
  refine r_Ratio_sumOfProducts X (d + 3) n _ p p2 x2 h ?_
  rw [← fz_p_0]
  exact sop_loop X d n _ h p a p2 a2 f g x2 pw h2 hpw hp hp2 hf hg 13 0 0 rfl rfl hK
/-- whether two ratios are the same, from power k on -/
def pz_same (f1 g1 f2 g2 : Nat → Int × Int) : Nat → Nat → Int
  | 0, _ => 1
  | m + 1, k => if pz_sp f1 g2 k 13 = (-1, 0) ∨ pz_sp f2 g1 k 13 = (-1, 0) then -6 else if pz_sp f1 g2 k 13 = pz_sp f2 g1 k 13 then pz_same f1 g1 f2 g2 m (k + 1) else 0
theorem same_loop (X : jv_X) (d n : Nat) (Q : jv_Q) (h : jv_H) (r pa aa pb ab r2 pa2 aa2 pb2 ab2 : Nat) (f1 g1 f2 g2 : Nat → Int × Int) (hr : RO n h r pa aa pb ab) (hr2 : RO n h r2 pa2 aa2 pb2 ab2) (e1 : pc h aa f1) (e2 : pc h ab g1) (e3 : pc h aa2 f2) (e4 : pc h ab2 g2) :
    ∀ (m k : Nat) (x : Int32), x.toInt = k → k + m = 25 → (∀ z : Int32, z.toInt = pz_same f1 g1 f2 g2 m k → Q (some (.int z)) h) → a_Ratio_tellWhetherSame_2 X (d + 4) n Q r r2 x h 0
  | 0, k, x, hx, hm, hQ => by
    refine r_Ratio_tellWhetherSame_2 X (d + 4) n Q r r2 x h ⟨fun _ => hQ _ rfl, fun z => ?_⟩
    exact absurd (nz_lt.mpr (by rw [hx]; show (24 : Int) < _; omega)) z
  | m + 1, k, x, hx, hm, hQ => by
    refine r_Ratio_tellWhetherSame_2 X (d + 4) n Q r r2 x h ⟨fun z => ?_, fun _ => ⟨hr.1, pa, hr.2.1, hr2.1, pb2, hr2.2.2.1, ?_⟩⟩
    · have : (24 : Int) < x.toInt := nz_lt.mp z
      omega
    · refine c_sumOfProducts X d n _ h pa aa pb2 ab2 f1 g2 x k hx (by omega) hr.p hr2.q e1 e4 ?_
      refine ⟨hr2.1, pa2, hr2.2.1, hr.1, pb, hr.2.2.1, ?_⟩
      refine c_sumOfProducts X d n _ h pa2 aa2 pb ab f2 g1 x k hx (by omega) hr2.p hr.q e3 e2 ?_
      unfold pz_same at hQ
      refine c_isWide X (d + 3) n _ h _ (pz_sp_r _ _ _ _) ⟨fun w => ?_, fun w => ?_⟩
      · rw [nz_bt, Classical.not_not] at w
        rw [if_pos (Or.inl w)] at hQ
        exact hQ _ rfl
      · rw [nz_bt] at w
        refine c_isWide X (d + 3) n _ h _ (pz_sp_r _ _ _ _) ⟨fun v => ⟨fun u => ?_, fun u => ?_⟩, fun v => ?_⟩
        · rw [nz_bt] at v
          have u := (fz_inj (pz_sp_r _ _ _ _) (pz_sp_r _ _ _ _)).mp ((lg_cmp_eq _ _).mp u)
          rw [if_neg (fun z => z.elim w v), if_pos u] at hQ
          exact same_loop X d n Q h r pa aa pb ab r2 pa2 aa2 pb2 ab2 f1 g1 f2 g2 hr hr2 e1 e2 e3 e4 m (k + 1) _ (nz_inc hx (by omega)) (by omega) hQ
        · rw [nz_bt] at v
          have u : ¬ pz_sp f1 g2 k 13 = pz_sp f2 g1 k 13 := fun z => u ((lg_cmp_eq _ _).mpr (by rw [z]))
          rw [if_neg (fun z => z.elim w v), if_neg u] at hQ
          exact hQ _ rfl
        · rw [nz_bt, Classical.not_not] at v
          rw [if_pos (Or.inr v)] at hQ
          exact hQ _ rfl
theorem c_tellWhetherSame (X : jv_X) (d n : Nat) (K : Int32 → jv_H → Prop) (h : jv_H) (r pa aa pb ab r2 pa2 aa2 pb2 ab2 : Nat) (f1 g1 f2 g2 : Nat → Int × Int) (hr : RO n h r pa aa pb ab) (hr2 : RO n h r2 pa2 aa2 pb2 ab2) (e1 : pc h aa f1) (e2 : pc h ab g1) (e3 : pc h aa2 f2) (e4 : pc h ab2 g2) (hK : ∀ z : Int32, z.toInt = pz_same f1 g1 f2 g2 25 0 → K z h) : jI X (d + 5) y_Ratio_tellWhetherSame [.ref r, .ref r2] n h K := by
  refine r_Ratio_tellWhetherSame X (d + 4) n _ r r2 h ?_
  exact same_loop X d n _ h r pa aa pb ab r2 pa2 aa2 pb2 ab2 f1 g1 f2 g2 hr hr2 e1 e2 e3 e4 25 0 0 rfl rfl hK
theorem c_Ratio_becomeScaled (X : jv_X) (d n : Nat) (K : Int32 → jv_H → Prop) (h : jv_H) (r pa aa pb ab r2 pa2 aa2 pb2 ab2 : Nat) (f g : Nat → Int × Int) (w v : Int × Int) (hw : fz_r w) (hv : fz_r v) (hr : RO n h r pa aa pb ab) (hr2 : RO n h r2 pa2 aa2 pb2 ab2) (d1 : aa2 ≠ aa) (d2 : ab2 ≠ ab) (d3 : ab2 ≠ aa) (hf : pc h aa2 f) (hg : pc h ab2 g)
    (hK1 : noW (pz_pow f w) → noW (pz_pow g w) → noW (pz_grow (pz_pow f w) v 0) → ∀ h', oS (rw2 aa ab) h h' → pc h' aa (pz_grow (pz_pow f w) v 0) → pc h' ab (pz_pow g w) → K 1 h') (hK0 : ¬ (noW (pz_pow f w) ∧ noW (pz_pow g w) ∧ noW (pz_grow (pz_pow f w) v 0)) → ∀ h', oS (rw2 aa ab) h h' → K 0 h') : jI X (d + 5) y_Ratio_becomeScaled [.ref r, .ref r2, .long (fz_p w), .long (fz_p v)] n h K := by
  refine r_Ratio_becomeScaled X (d + 4) n _ r r2 _ _ h ⟨hr.1, ?_⟩
  refine c_Ratio_become X (d + 2) n _ h r pa aa pb ab r2 pa2 aa2 pb2 ab2 f g hr hr2 d1 d2 d3 hf hg (fun h1 o1 f1 g1 => ?_)
  have hr1 := hr.mv o1
  refine ⟨hr1.1, pa, hr1.2.1, hr1.p.1, c_divideByPowers X d n _ h1 pa aa f w hw hr1.p f1 (fun n1 h2 o2 f2 => ⟨fun z => absurd z (by decide), fun _ => ?_⟩) (fun n1 h2 o2 => ⟨fun _ => ⟨Or.inl rfl, ?_⟩, fun z => absurd rfl z⟩)⟩
  · have o12 := o1.tr (o2.mono (fun _ z => Or.inl z))
    have hr2' := hr1.mv o2
    refine ⟨hr2'.1, pb, hr2'.2.2.1, hr2'.q.1, c_divideByPowers X d n _ h2 pb ab g w hw hr2'.q (g1.mv o2 (Ne.symm hr.ne)) (fun n2 h3 o3 g3 => ⟨fun z => absurd z (by decide), fun _ => ?_⟩) (fun n2 h3 o3 => ⟨fun _ => ⟨Or.inl rfl, ?_⟩, fun z => absurd rfl z⟩)⟩
    · have o13 := o12.tr (o3.mono (fun _ z => Or.inr z))
      have hr3 := hr2'.mv o3
      refine ⟨hr3.1, pa, hr3.2.1, hr3.p.1, c_growTimes X d n _ h3 pa aa (pz_pow f w) v hv 0 0 rfl ⟨by decide, by decide⟩ hr3.p (f2.mv o3 hr.ne) (fun n3 h4 o4 f4 => ⟨fun z => absurd z (by decide), fun _ => ⟨Or.inr rfl, ?_⟩⟩) (fun n3 h4 o4 => ⟨fun _ => ⟨Or.inl rfl, ?_⟩, fun z => absurd rfl z⟩)⟩
      · exact hK1 n1 n2 n3 h4 (o13.tr (o4.mono (fun _ z => Or.inl z))) f4 (g3.mv o4 (Ne.symm hr.ne))
      · exact hK0 (fun z => noW_not n3 z.2.2) h4 (o13.tr (o4.mono (fun _ z => Or.inl z)))
    · exact hK0 (fun z => noW_not n2 z.2.1) h3 (o12.tr (o3.mono (fun _ z => Or.inr z)))
  · exact hK0 (fun z => noW_not n1 z.1) h2 (o1.tr (o2.mono (fun _ z => Or.inl z)))
theorem c_Ratio_becomeShifted (X : jv_X) (d n : Nat) (K : Int32 → jv_H → Prop) (h : jv_H) (r pa aa pb ab r2 pa2 aa2 pb2 ab2 : Nat) (f g : Nat → Int × Int) (w : Int × Int) (hw : fz_r w) (hr : RO n h r pa aa pb ab) (hr2 : RO n h r2 pa2 aa2 pb2 ab2) (d1 : aa2 ≠ aa) (d2 : ab2 ≠ ab) (d3 : ab2 ≠ aa) (hf : pc h aa2 f) (hg : pc h ab2 g)
    (hK1 : ∀ f' g', pz_mv f w = some f' → pz_mv g w = some g' → ∀ h', oS (rw2 aa ab) h h' → pc h' aa f' → pc h' ab g' → K 1 h') (hK0 : (pz_mv f w = none ∨ pz_mv g w = none) → ∀ h', oS (rw2 aa ab) h h' → K 0 h') : jI X (d + 5) y_Ratio_becomeShifted [.ref r, .ref r2, .long (fz_p w)] n h K := by
  refine r_Ratio_becomeShifted X (d + 4) n _ r r2 _ h ⟨hr.1, ?_⟩
  refine c_Ratio_become X (d + 2) n _ h r pa aa pb ab r2 pa2 aa2 pb2 ab2 f g hr hr2 d1 d2 d3 hf hg (fun h1 o1 f1 g1 => ?_)
  have hr1 := hr.mv o1
  refine ⟨hr1.1, pa, hr1.2.1, hr1.p.1, c_moveBy X d n _ h1 pa aa f w hw hr1.p f1 (fun f' e1 h2 o2 f2 => ⟨fun z => absurd z (by decide), fun _ => ?_⟩) (fun e1 h2 o2 => ⟨fun _ => ⟨Or.inl rfl, ?_⟩, fun z => absurd rfl z⟩)⟩
  · have o12 := o1.tr (o2.mono (fun _ z => Or.inl z))
    have hr2' := hr1.mv o2
    refine ⟨hr2'.1, pb, hr2'.2.2.1, hr2'.q.1, c_moveBy X d n _ h2 pb ab g w hw hr2'.q (g1.mv o2 (Ne.symm hr.ne)) (fun g' e2 h3 o3 g3 => ⟨fun z => absurd z (by decide), fun _ => ⟨Or.inr rfl, ?_⟩⟩) (fun e2 h3 o3 => ⟨fun _ => ⟨Or.inl rfl, ?_⟩, fun z => absurd rfl z⟩)⟩
    · exact hK1 f' g' e1 e2 h3 (o12.tr (o3.mono (fun _ z => Or.inr z))) (f2.mv o3 hr.ne) g3
    · exact hK0 (Or.inr e2) h3 (o12.tr (o3.mono (fun _ z => Or.inr z)))
  · exact hK0 (Or.inl e1) h2 (o1.tr (o2.mono (fun _ z => Or.inl z)))
