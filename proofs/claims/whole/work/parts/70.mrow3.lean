/-! ===== the reference: stretch, multiply ===== -/
theorem pz_div_W {v w : Int × Int} {t : Nat} (h : pz_div v w t = (-1, 0)) : ∀ m, t ≤ m → pz_div v w m = (-1, 0) := by
  intro m
  induction m with
  | zero => intro z; rw [show t = 0 by omega] at h; exact h
  | succ m ih =>
    intro z
    by_cases e : t = m + 1
    · rw [← e]; exact h
    · show fz_quo (pz_div v w m) w = _
      rw [ih (by omega), fz_quo_W1]
theorem ovr_told {p : Int × Int} {a b : Int} (ha : 1 ≤ a ∧ a ≤ 9999) (hb : 1 ≤ b ∧ b ≤ 9999) : fz_ovr p (a, b) = fz_quo p (fz_of a b) := by
  unfold fz_ovr
  rw [if_neg (show ¬ (a, b).1 = 0 by show ¬ a = 0; omega), fz_quo_of2 (fz_told ha hb).1.nw (by omega)]
theorem gz_told {a b : Int} (ha : 1 ≤ a ∧ a ≤ 9999) (hb : 1 ≤ b ∧ b ≤ 9999) : gz (a, b) := ⟨⟨by show -1000000000 ≤ a; omega, by show a ≤ 1000000000; omega⟩, hb.1, by show b ≤ 1000000000; omega⟩
def sBad (A B : Nat → Int × Int) (W R : Int × Int) : Prop := ¬ (noW (pz_pow A W) ∧ noW (pz_pow B W) ∧ noW (pz_grow (pz_pow A W) R 0))
def s_ea (A : Nat → Int × Int) (W R : Int × Int) (p t i : Nat) : Int × Int := if i < p then pz_grow (pz_pow A W) R 0 i else if i = p then pz_div (A p) W t else A i
def s_eb (B : Nat → Int × Int) (W : Int × Int) (p t i : Nat) : Int × Int := if i < p then pz_pow B W i else if i = p then pz_div (B p) W t else B i
def sinv (A B : Nat → Int × Int) (W R : Int × Int) (wc : Bool) (Fa Fb : Nat → Int × Int) (p t : Nat) : Prop := (wc = false ∧ (∀ i, i < 13 → Fa i = s_ea A W R p t i) ∧ ∀ i, i < 13 → Fb i = s_eb B W p t i) ∨ (wc = true ∧ sBad A B W R)
theorem grow0 (F : Nat → Int × Int) (R : Int × Int) {p : Nat} (hp : p < 13) : pz_grow F R 0 p = fz_mul R (F p) := by
  have ea : pz_at F ((p : Int) - 0) = F p := by
    unfold pz_at
    rw [if_pos ⟨by omega, by omega⟩, show ((p : Int) - 0).toNat = p by omega]
  show fz_mul R (pz_at F ((p : Int) - 0)) = _
  rw [ea]
section
variable (X : jv_X) (d : Nat) (h : jv_H) (K : jv_H → Prop) (KI : Int32 → jv_H → Prop) (Z : zZ)
theorem str_in (Q : jv_Q) (A B : Nat → Int × Int) (x2 x3 x4 x5 : Int32) (t1 : (1 ≤ x2.toInt ∧ x2.toInt ≤ 9999) ∧ 1 ≤ x3.toInt ∧ x3.toInt ≤ 9999) (t2 : (1 ≤ x4.toInt ∧ x4.toInt ≤ 9999) ∧ 1 ≤ x5.toInt ∧ x5.toInt ≤ 9999) (x6 : Int32) (p : Nat) (h6 : x6.toInt = p) (hp : p < 13) :
    ∀ (r t : Nat) (x7 : Int32) (h : jv_H) (wc : Bool) (Fa Fb : Nat → Int × Int), x7.toInt = t → t + r = p → MR h → h.1 171 6 = (if wc then 1 else 0) → rw0 h 200 201 Fa → gdr Fa → rw0 h 202 203 Fb → gdr Fb → sinv A B (fz_of x2.toInt x3.toInt) (fz_of x4.toInt x5.toInt) wc Fa Fb p t →
      (∀ h' w' Fa' Fb', oT (mI 171) abL h h' → h'.1 171 6 = (if w' then 1 else 0) → rw0 h' 200 201 Fa' → gdr Fa' → rw0 h' 202 203 Fb' → gdr Fb' → sinv A B (fz_of x2.toInt x3.toInt) (fz_of x4.toInt x5.toInt) w' Fa' Fb' (p + 1) 0 → a_Model_stretch_53 X (d + 3) 227 Q 171 x2 x3 x4 x5 (x6 + 1) h' 0) → a_Model_stretch_63 X (d + 3) 227 Q 171 x2 x3 x4 x5 x6 x7 h 0
  | 0, t, x7, h, wc, Fa, Fb, h7, hr, mr, hw, ca, ga, cb, gb, inv, hQ => by
    have ht : t = p := by omega
    subst ht
    have g0 : ∀ q : Nat, SHT q = (1, 13) → q < 227 → jv_ix SHT 227 q 1 x6 := fun q h1 h2 => jx h1 h2 (by omega) (by omega)
    have v1 := ca t hp
    refine r_Model_stretch_63 X (d + 3) 227 Q 171 x2 x3 x4 x5 x6 x7 h ⟨fun _ => ⟨is171, _, mr 39, g0 200 rfl (by decide), is171, _, mr 40, g0 201 rfl (by decide), is171, ?_⟩, fun z => absurd (nz_le.mpr (by rw [h6, h7]; exact Int.le_refl _)) z⟩
    rw [nz_nat h6]
    refine c_times X d 227 _ h 171 _ _ _ _ wc (Fa t) (x4.toInt, x5.toInt) is171 hw (uq.a v1) (uq.b v1) (Int32.toInt_toInt64 _) (Int32.toInt_toInt64 _) (ga t hp).z (gz_told t2.1 t2.2) (fun h3 o3 m3 => ⟨is171, _, (mr.mv o3) 39, is171, g0 200 rfl (by decide), is171, _, (mr.mv o3) 40, is171, g0 201 rfl (by decide), ?_⟩)
    have e5 : jv_gL (jv_uL h3 200 t (jv_gL h3 171 4)) 171 5 = jv_gL h3 171 5 := uL_ne (by omega)
    rw [e5]
    have o4 : oT (mI 171) abL h (jv_uL (jv_uL h3 200 t (jv_gL h3 171 4)) 201 t (jv_gL h3 171 5)) := ((mi_ab o3).uL (Or.inr (by omega))).uL (Or.inr (by omega))
    have nm : ∀ u : Nat, 172 ≤ u → ∀ i, ¬ mL 171 u i := fun u hu i z => by unfold mL at z; omega
    have c1 : rw0 (jv_uL (jv_uL h3 200 t (jv_gL h3 171 4)) 201 t (jv_gL h3 171 5)) 200 201 (pz_up Fa t (rz wc (fz_mul (Fa t) (x4.toInt, x5.toInt))).2) := (ca.mv o3 (fun i => ⟨nm _ (by decide) i, nm _ (by decide) i⟩)).st (by decide) (Prod.ext m3.1 m3.2.1)
    have c2 : rw0 (jv_uL (jv_uL h3 200 t (jv_gL h3 171 4)) 201 t (jv_gL h3 171 5)) 202 203 Fb := (cb.mv o3 (fun i => ⟨nm _ (by decide) i, nm _ (by decide) i⟩)).mv ((oT.rf.uL (SI := zI) (SL := fun q j => q = 200 ∨ q = 201) (Or.inl rfl)).uL (Or.inr rfl)) (fun i => by omega)
    have eT : wc = false → fz_mul (Fa t) (x4.toInt, x5.toInt) = pz_grow (pz_pow A (fz_of x2.toInt x3.toInt)) (fz_of x4.toInt x5.toInt) 0 t := fun hwc => by
      rcases inv with ⟨i1, i2, i3⟩ | ⟨i1, i2⟩
      · rw [grow0 _ _ hp, fz_mul_c (fz_of x4.toInt x5.toInt), fz_mul_of (fz_told t2.1 t2.2).1.nw, i2 t hp]
        unfold s_ea
        rw [if_neg (by omega), if_pos rfl]
        rfl
      · rw [i1] at hwc; cases hwc
    have st := rq_io (wc := wc) (w0 := false) (N := sBad A B (fz_of x2.toInt x3.toInt) (fz_of x4.toInt x5.toInt)) (T := fz_mul (Fa t) (x4.toInt, x5.toInt)) (inv.imp (fun z => ⟨z.1, rfl⟩) (fun z => ⟨z.1, Or.inr z.2⟩)) (fun hwc z => fun y => y.2.2 t hp (by rw [← eT hwc]; exact z))
    refine hQ _ _ _ _ o4 m3.2.2 c1 (ga.up rz_mul) c2 gb ?_
    rcases st with ⟨s1, s2, s3, s4⟩ | ⟨s1, s2⟩
    · rcases inv with ⟨i1, i2, i3⟩ | ⟨i1, i2⟩
      · refine Or.inl ⟨s1, fun i hi => ?_, fun i hi => ?_⟩
        · unfold pz_up s_ea
          by_cases e : i = t
          · rw [if_pos e, if_pos (by omega), e, s3, eT i1]
          · rw [if_neg e, i2 i hi]
            unfold s_ea
            by_cases y : i < t
            · rw [if_pos y, if_pos (by omega)]
            · rw [if_neg y, if_neg e, if_neg (by omega)]
              split
              · rename_i z
                rw [z]
                rfl
              · rfl
        · rw [i3 i hi]
          unfold s_eb
          by_cases y : i < t
          · rw [if_pos y, if_pos (by omega)]
          · rw [if_neg y]
            by_cases e : i = t
            · rw [if_pos e, if_pos (by omega), e]
              rfl
            · rw [if_neg e, if_neg (by omega)]
              split
              · rename_i z
                rw [z]
                rfl
              · rfl
      · rw [i1] at s4; cases s4
    · exact Or.inr ⟨s1, s2.elim (fun z => by cases z) id⟩
  | r + 1, t, x7, h, wc, Fa, Fb, h7, hr, mr, hw, ca, ga, cb, gb, inv, hQ => by
    have g0 : ∀ q : Nat, SHT q = (1, 13) → q < 227 → jv_ix SHT 227 q 1 x6 := fun q h1 h2 => jx h1 h2 (by omega) (by omega)
    have v1 := ca p hp
    have nm : ∀ u : Nat, 172 ≤ u → ∀ i, ¬ mL 171 u i := fun u hu i z => by unfold mL at z; omega
    refine r_Model_stretch_63 X (d + 3) 227 Q 171 x2 x3 x4 x5 x6 x7 h ⟨fun z => ?_, fun _ => ⟨is171, _, mr 39, g0 200 rfl (by decide), is171, _, mr 40, g0 201 rfl (by decide), is171, ?_⟩⟩
    · have := nz_le.mp z
      rw [h6, h7] at this
      omega
    · rw [nz_nat h6]
      refine c_over X d 227 _ h 171 _ _ _ _ wc (Fa p) (x2.toInt, x3.toInt) is171 hw (uq.a v1) (uq.b v1) (Int32.toInt_toInt64 _) (Int32.toInt_toInt64 _) (ga p hp).z (gz_told t1.1 t1.2) (fun h3 o3 m3 => ⟨is171, _, (mr.mv o3) 39, is171, g0 200 rfl (by decide), is171, _, (mr.mv o3) 40, is171, g0 201 rfl (by decide), is171, _, (mr.mv o3) 41, g0 202 rfl (by decide), is171, _, (mr.mv o3) 42, g0 203 rfl (by decide), is171, ?_⟩)
      have e5 : jv_gL (jv_uL h3 200 p (jv_gL h3 171 4)) 171 5 = jv_gL h3 171 5 := uL_ne (by omega)
      rw [e5]
      have o4 : oT (mI 171) abL h (jv_uL (jv_uL h3 200 p (jv_gL h3 171 4)) 201 p (jv_gL h3 171 5)) := ((mi_ab o3).uL (Or.inr (by omega))).uL (Or.inr (by omega))
      have c1 : rw0 (jv_uL (jv_uL h3 200 p (jv_gL h3 171 4)) 201 p (jv_gL h3 171 5)) 200 201 (pz_up Fa p (rz wc (fz_ovr (Fa p) (x2.toInt, x3.toInt))).2) := (ca.mv o3 (fun i => ⟨nm _ (by decide) i, nm _ (by decide) i⟩)).st (by decide) (Prod.ext m3.1 m3.2.1)
      have c2 : rw0 (jv_uL (jv_uL h3 200 p (jv_gL h3 171 4)) 201 p (jv_gL h3 171 5)) 202 203 Fb := (cb.mv o3 (fun i => ⟨nm _ (by decide) i, nm _ (by decide) i⟩)).mv ((oT.rf.uL (SI := zI) (SL := fun q j => q = 200 ∨ q = 201) (Or.inl rfl)).uL (Or.inr rfl)) (fun i => by omega)
      have v2 := c2 p hp
      refine c_over X d 227 _ _ 171 _ _ _ _ _ (Fb p) (x2.toInt, x3.toInt) is171 (show (jv_uL (jv_uL h3 200 p (jv_gL h3 171 4)) 201 p (jv_gL h3 171 5)).1 171 6 = _ from m3.2.2) (uq.a v2) (uq.b v2) (Int32.toInt_toInt64 _) (Int32.toInt_toInt64 _) (gb p hp).z (gz_told t1.1 t1.2) (fun h5 o5 m5 => ⟨is171, _, ((mr.mv o4).mv o5) 41, is171, g0 202 rfl (by decide), is171, _, ((mr.mv o4).mv o5) 42, is171, g0 203 rfl (by decide), ?_⟩)
      have e6 : jv_gL (jv_uL h5 202 p (jv_gL h5 171 4)) 171 5 = jv_gL h5 171 5 := uL_ne (by omega)
      rw [e6]
      have o6 : oT (mI 171) abL h (jv_uL (jv_uL h5 202 p (jv_gL h5 171 4)) 203 p (jv_gL h5 171 5)) := ((o4.tr (mi_ab o5)).uL (Or.inr (by omega))).uL (Or.inr (by omega))
      have d1 := (c1.mv o5 (fun i => ⟨nm _ (by decide) i, nm _ (by decide) i⟩)).mv ((oT.rf.uL (SI := zI) (SL := fun q j => q = 202 ∨ q = 203) (a := 202) (i := p) (v := jv_gL h5 171 4) (Or.inl rfl)).uL (a := 203) (i := p) (v := jv_gL h5 171 5) (Or.inr rfl)) (fun i => by omega)
      have d2 : rw0 (jv_uL (jv_uL h5 202 p (jv_gL h5 171 4)) 203 p (jv_gL h5 171 5)) 202 203 (pz_up Fb p (rz (rz wc (fz_ovr (Fa p) (x2.toInt, x3.toInt))).1 (fz_ovr (Fb p) (x2.toInt, x3.toInt))).2) := (c2.mv o5 (fun i => ⟨nm _ (by decide) i, nm _ (by decide) i⟩)).st (by decide) (Prod.ext m5.1 m5.2.1)
      have eA : wc = false → fz_ovr (Fa p) (x2.toInt, x3.toInt) = pz_div (A p) (fz_of x2.toInt x3.toInt) (t + 1) := fun hwc => by
        rcases inv with ⟨i1, i2, i3⟩ | ⟨i1, i2⟩
        · rw [ovr_told t1.1 t1.2, i2 p hp]
          unfold s_ea
          rw [if_neg (by omega), if_pos rfl]
          rfl
        · rw [i1] at hwc; cases hwc
      have eB : wc = false → fz_ovr (Fb p) (x2.toInt, x3.toInt) = pz_div (B p) (fz_of x2.toInt x3.toInt) (t + 1) := fun hwc => by
        rcases inv with ⟨i1, i2, i3⟩ | ⟨i1, i2⟩
        · rw [ovr_told t1.1 t1.2, i3 p hp]
          unfold s_eb
          rw [if_neg (by omega), if_pos rfl]
          rfl
        · rw [i1] at hwc; cases hwc
      have s1 := rq_io (wc := wc) (w0 := false) (N := sBad A B (fz_of x2.toInt x3.toInt) (fz_of x4.toInt x5.toInt)) (T := fz_ovr (Fa p) (x2.toInt, x3.toInt)) (inv.imp (fun z => ⟨z.1, rfl⟩) (fun z => ⟨z.1, Or.inr z.2⟩)) (fun hwc z => fun y => y.1 p hp (pz_div_W (t := t + 1) (by rw [← eA hwc]; exact z) p (by omega)))
      have s2 := rq_io (w0 := false) (N := sBad A B (fz_of x2.toInt x3.toInt) (fz_of x4.toInt x5.toInt)) (T := fz_ovr (Fb p) (x2.toInt, x3.toInt)) (s1.imp (fun z => ⟨z.1, rfl⟩) (fun z => ⟨z.1, z.2⟩)) (fun hwc z => fun y => y.2.1 p hp (pz_div_W (t := t + 1) (by
        have : wc = false := s1.elim (fun q => q.2.2.2) (fun q => by rw [q.1] at hwc; cases hwc)
        rw [← eB this]; exact z) p (by omega)))
      refine str_in Q A B x2 x3 x4 x5 t1 t2 x6 p h6 hp r (t + 1) _ _ _ _ _ (nz_inc h7 (by omega)) (by omega) (mr.mv o6) m5.2.2 d1 (ga.up (rz_ovr (gz_told t1.1 t1.2))) d2 (gb.up (rz_ovr (gz_told t1.1 t1.2))) ?_ (fun h' w' Fa' Fb' o' a1 a2 a3 a4 a5 a6 => hQ h' w' Fa' Fb' (o6.tr o') a1 a2 a3 a4 a5 a6)
      rcases s2 with ⟨y1, _, y3, y4⟩ | ⟨y1, y2⟩
      · rcases s1 with ⟨z1, _, z3, z4⟩ | ⟨z1, z2⟩
        · rcases inv with ⟨i1, i2, i3⟩ | ⟨i1, i2⟩
          · refine Or.inl ⟨y1, fun i hi => ?_, fun i hi => ?_⟩
            · unfold pz_up s_ea
              by_cases e : i = p
              · rw [if_pos e, if_neg (by omega), if_pos e, z3, eA i1]
              · rw [if_neg e, i2 i hi]
                unfold s_ea
                rw [if_neg e, if_neg e]
            · unfold pz_up s_eb
              by_cases e : i = p
              · rw [if_pos e, if_neg (by omega), if_pos e, y3, eB i1]
              · rw [if_neg e, i3 i hi]
                unfold s_eb
                rw [if_neg e, if_neg e]
          · rw [i1] at z4; cases z4
        · rw [z1] at y4; cases y4
      · exact Or.inr ⟨y1, y2.elim (fun z => by cases z) id⟩
theorem str_out (Q : jv_Q) (A B : Nat → Int × Int) (x2 x3 x4 x5 : Int32) (t1 : (1 ≤ x2.toInt ∧ x2.toInt ≤ 9999) ∧ 1 ≤ x3.toInt ∧ x3.toInt ≤ 9999) (t2 : (1 ≤ x4.toInt ∧ x4.toInt ≤ 9999) ∧ 1 ≤ x5.toInt ∧ x5.toInt ≤ 9999) :
    ∀ (m p : Nat) (x6 : Int32) (h : jv_H) (wc : Bool) (Fa Fb : Nat → Int × Int), x6.toInt = p → p + m = 13 → MR h → h.1 171 6 = (if wc then 1 else 0) → rw0 h 200 201 Fa → gdr Fa → rw0 h 202 203 Fb → gdr Fb → sinv A B (fz_of x2.toInt x3.toInt) (fz_of x4.toInt x5.toInt) wc Fa Fb p 0 →
      (∀ h' w' Fa' Fb', oT (mI 171) abL h h' → h'.1 171 6 = (if w' then 1 else 0) → rw0 h' 200 201 Fa' → gdr Fa' → rw0 h' 202 203 Fb' → gdr Fb' → sinv A B (fz_of x2.toInt x3.toInt) (fz_of x4.toInt x5.toInt) w' Fa' Fb' 13 0 → a_Model_stretch_53 X (d + 3) 227 Q 171 x2 x3 x4 x5 13 h' 0) → a_Model_stretch_53 X (d + 3) 227 Q 171 x2 x3 x4 x5 x6 h 0
  | 0, p, x6, h, wc, Fa, Fb, h6, hm, mr, hw, ca, ga, cb, gb, inv, hQ => by
    have e13 : x6 = 13 := Int32.toInt_inj.mp (by rw [h6, show p = 13 by omega]; rfl)
    rw [e13]
    rw [show p = 13 by omega] at inv
    exact hQ h wc Fa Fb oT.rf hw ca ga cb gb inv
  | m + 1, p, x6, h, wc, Fa, Fb, h6, hm, mr, hw, ca, ga, cb, gb, inv, hQ => by
    refine r_Model_stretch_53 X (d + 3) 227 Q 171 x2 x3 x4 x5 x6 h ⟨fun z => ?_, fun _ => ?_⟩
    · have : (13 : Int) ≤ x6.toInt := nz_le.mp z
      omega
    · exact str_in X d Q A B x2 x3 x4 x5 t1 t2 x6 p h6 (by omega) p 0 0 h wc Fa Fb rfl (by omega) mr hw ca ga cb gb inv (fun h' w' Fa' Fb' o' a1 a2 a3 a4 a5 a6 => str_out Q A B x2 x3 x4 x5 t1 t2 m (p + 1) _ h' w' Fa' Fb' (nz_inc h6 (by omega)) (by omega) (mr.mv o') a1 a2 a3 a4 a5 a6 (fun h2 w2 F2 G2 o2 b1 b2 b3 b4 b5 b6 => hQ h2 w2 F2 G2 (o'.tr o2) b1 b2 b3 b4 b5 b6))
theorem w_stretch (x a b u v : Int32) (ms : MS h Z) (bd : bdZ Z) (ok : okZ Z) (hK : dI h (q_stretch x a b u v Z) KI) : jI X 8 y_Model_stretch [.ref 171, .int x, .int a, .int b, .int u, .int v] 227 h KI := by
  unfold q_stretch at hK
  have hm := bd.2.1.1
  have hz := ms.k.zr
  refine r_Model_stretch X 7 227 _ 171 x a b u v h ⟨is171, m_isRatio X 5 h _ Z x ms bd (fun hr => ⟨fun z => absurd z (by decide), fun _ => c_mTold X 5 227 _ h a b ⟨fun y => ?_, fun y => c_mTold X 5 227 _ h u v ⟨fun y2 => ⟨is171, fun e => ⟨is171, ?_⟩, fun e => ?_⟩, fun y2 => ?_⟩⟩⟩) (fun hr => ⟨fun _ => ?_, fun z => absurd rfl z⟩)⟩
  · rw [nz_bt] at y
    rw [if_neg (fun z => y z.2.1)] at hK
    exact hK _ rfl h oM.rf ms
  · rw [nz_bt, Classical.not_not] at y y2
    have hn : Z.k.nr < 6 := by
      have : Z.k.nr ≠ 6 := fun z => e (Int32.toInt_inj.mp (by rw [hz, z]; rfl))
      omega
    rw [if_pos ⟨hr, y, y2⟩, if_neg (by omega)] at hK
    have hx : x.toInt = (x.toInt.toNat : Int) := by omega
    have hk : x.toInt.toNat < Z.k.nr := by omega
    have hR : Z.R x = Z.k.R x.toInt.toNat := congrArg Z.k.R (nz_nat hx)
    rw [hR] at hK
    refine m_loads X 6 h _ Z x _ hx ms bd (by omega) (fun h1 o1 c1 c2 => ⟨is171, Or.inl rfl, ?_⟩)
    have o2 : oT (mI 171) abL h (jv_uI h1 171 6 0) := (ni_mi o1).uI ⟨rfl, rfl⟩
    have oz : oT (fun q j => q = 171) nL h1 (jv_uI h1 171 6 0) := oT.rf.uI rfl
    refine str_out X 4 _ (Z.k.R x.toInt.toNat).1 (Z.k.R x.toInt.toNat).2 a b u v y y2 13 0 0 _ false _ _ rfl rfl (ms.r.mv o2) uI_eq (c1.mv oz (fun i => ⟨fun z => z, fun z => z⟩)) (fun i hi => ((ok.1.1 _ hk).1 i hi).1) (c2.mv oz (fun i => ⟨fun z => z, fun z => z⟩)) (fun i hi => ((ok.1.1 _ hk).1 i hi).2) (Or.inl ⟨rfl, fun i hi => ?_, fun i hi => ?_⟩) (fun h3 w3 Fa Fb o3 a1 a2 a3 a4 a5 a6 => ?_)
    · unfold s_ea
      rw [if_neg (Nat.not_lt_zero _)]
      split
      · rename_i z
        rw [z]
        rfl
      · rfl
    · unfold s_eb
      rw [if_neg (Nat.not_lt_zero _)]
      split
      · rename_i z
        rw [z]
        rfl
      · rfl
    · have o23 := o2.tr o3
      refine r_Model_stretch_53 X 7 227 _ 171 a b u v 13 h3 ⟨fun _ => ⟨is171, fun w => ⟨is171, ?_⟩, fun w => ?_⟩, fun z => absurd (nz_le.mpr (Int.le_refl _)) z⟩
      · rcases a6 with ⟨z1, z2, z3⟩ | ⟨z1, z2⟩
        · have eG : ∀ i, i < 13 → pz_grow (pz_pow (Z.k.R x.toInt.toNat).1 (fz_of a.toInt b.toInt)) (fz_of u.toInt v.toInt) 0 i = Fa i := fun i hi => by
            rw [z2 i hi]
            unfold s_ea
            rw [if_pos hi]
          have eB : ∀ i, i < 13 → pz_pow (Z.k.R x.toInt.toNat).2 (fz_of a.toInt b.toInt) i = Fb i := fun i hi => by
            rw [z3 i hi]
            unfold s_eb
            rw [if_pos hi]
          have n3 : noW (pz_grow (pz_pow (Z.k.R x.toInt.toNat).1 (fz_of a.toInt b.toInt)) (fz_of u.toInt v.toInt) 0) := fun i hi => by rw [eG i hi]; exact (a3 i hi).nw
          have n2 : noW (pz_pow (Z.k.R x.toInt.toNat).2 (fz_of a.toInt b.toInt)) := fun i hi => by rw [eB i hi]; exact (a5 i hi).nw
          have n1 : noW (pz_pow (Z.k.R x.toInt.toNat).1 (fz_of a.toInt b.toInt)) := fun i hi z => n3 i hi (by rw [grow0 _ _ hi, z, fz_mul_W2])
          rw [cif_t ⟨n1, n2, n3⟩] at hK
          exact fin_R X h _ Z h3 _ _ ms bd hn o23 (a2.eq eG) (a4.eq eB) hK
        · subst z1
          rw [show jv_gI h3 171 6 = 1 from a1] at w
          exact absurd w (by decide)
      · rcases a6 with ⟨z1, z2, z3⟩ | ⟨z1, z2⟩
        · subst z1
          exact absurd a1 w
        · rw [cif_f z2] at hK
          exact hK _ rfl h3 (fK.M (ab_fr (K := Z.k) o23)) (ms.mv bd (ab_fr o23))
  · rw [nz_bt, Classical.not_not] at y y2
    have hn : Z.k.nr = 6 := by
      have : (jv_gI h 171 9).toInt = 6 := by rw [e]; rfl
      omega
    rw [if_pos ⟨hr, y, y2⟩, if_pos hn] at hK
    exact hK _ rfl h oM.rf ms
  · rw [nz_bt] at y2
    rw [if_neg (fun z => y2 z.2.2)] at hK
    exact hK _ rfl h oM.rf ms
  · rw [if_neg (fun z => hr z.1)] at hK
    exact hK _ rfl h oM.rf ms
end
