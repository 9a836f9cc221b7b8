/-! ===== the reference: texts, its calls ===== -/
theorem pz_hi_neg (f : Nat → Int × Int) : ∀ k, pz_hi f k < 0 ↔ ∀ i, i < k → f i = (0, 1)
  | 0 => ⟨fun _ i hi => absurd hi (Nat.not_lt_zero _), fun _ => by show (-1 : Int) < 0; decide⟩
  | k + 1 => by
    unfold pz_hi
    have ih := pz_hi_neg f k
    by_cases e : f k = (0, 1)
    · rw [if_pos e, ih]
      refine ⟨fun z i hi => ?_, fun z i hi => z i (by omega)⟩
      by_cases ei : i = k
      · rw [ei]; exact e
      · exact z i (by omega)
    · rw [if_neg e]
      exact ⟨fun z => by omega, fun z => absurd (z k (by omega)) e⟩
section
variable (X : jv_X) (d : Nat) (h : jv_H) (T : Nat → Int32) (m p : Nat) (K : jv_H → Prop) (KI : Int32 → jv_H → Prop) (Z : zZ)
theorem mno_l (Q : jv_Q) (x1 : Int32) (w : Nat) (h1 : x1.toInt = w) (hw : w + 13 ≤ 156) (co : Nat → Int) (b : Int) (r : MR h) (c : pm h w co b) : ∀ (f k : Nat) (x : Int32), x.toInt = k → k + f = 13 → (∀ i, i < k → co i = 0) → ((∀ i, i < 13 → co i = 0) → Q (some (.int 1)) h) → (¬ (∀ i, i < 13 → co i = 0) → Q (some (.int 0)) h) → a_Model_isNothing_2 X d 227 Q 171 x1 x h 0
  | 0, k, x, hx, hk, hz, hQ1, hQ0 => by
    exact r_Model_isNothing_2 X d 227 Q 171 x1 x h ⟨fun _ => ⟨Or.inr rfl, hQ1 (fun i hi => hz i (by omega))⟩, fun z => absurd (nz_le.mpr (by rw [hx]; show (13 : Int) ≤ _; omega)) z⟩
  | f + 1, k, x, hx, hk, hz, hQ1, hQ0 => by
    have e5 : (x1 + x).toInt = ((w + k : Nat) : Int) := by rw [nz_addi (by rw [h1, hx]; omega) (by rw [h1, hx]; omega), h1, hx]; omega
    have gx : jv_ix SHT 227 173 1 (x1 + x) := jx (len := 156) rfl (by decide) (by omega) (by omega)
    have ev : (jv_gL h 173 (w + k)).toInt = co k := uq.a (c.1 k (by omega))
    refine r_Model_isNothing_2 X d 227 Q 171 x1 x h ⟨fun z => ?_, fun _ => ⟨is171, _, r 7, gx, ?_⟩⟩
    · have : (13 : Int) ≤ x.toInt := nz_le.mp z
      omega
    · rw [nz_nat e5]
      refine ⟨fun y => ?_, fun y => ⟨Or.inl rfl, hQ0 (fun z => y ?_)⟩⟩
      · have y0 : co k = 0 := by rw [← ev, (lg_cmp_eq _ _).mp y]; rfl
        refine mno_l Q x1 w h1 hw co b r c f (k + 1) _ (nz_inc hx (by omega)) (by omega) (fun i hi => ?_) hQ1 hQ0
        by_cases ei : i = k
        · rw [ei]; exact y0
        · exact hz i (by omega)
      · exact (lg_cmp_eq _ _).mpr (Int64.toInt_inj.mp (by rw [ev, z k (by omega)]; rfl))
theorem m_isNothing (x1 : Int32) (w : Nat) (h1 : x1.toInt = w) (hw : w + 13 ≤ 156) (co : Nat → Int) (b : Int) (r : MR h) (c : pm h w co b) (hK1 : pz_hi (fun i => (co i, 1)) 13 < 0 → KI 1 h) (hK0 : ¬ pz_hi (fun i => (co i, 1)) 13 < 0 → KI 0 h) : jI X (d + 1) y_Model_isNothing [.ref 171, .int x1] 227 h KI := by
  rw [pz_hi_neg] at hK1 hK0
  refine r_Model_isNothing X d 227 _ 171 x1 h (mno_l X d h _ x1 w h1 hw co b r c 13 0 0 rfl rfl (fun i hi => absurd hi (Nat.not_lt_zero _)) (fun z => hK1 (fun i hi => by rw [z i hi])) (fun z => hK0 (fun y => z (fun i hi => congrArg Prod.fst (y i hi)))))
/-- the tape goes, the workshop is given anew -/
theorem MS.updT {SI SL : Nat → Nat → Prop} {h h' : jv_H} {Z : zZ} {K : zK} (m : MS h Z) (b : bdZ Z) (a : oT SI SL h h') (h1 : ∀ q j, SI q j → (173 ≤ q ∧ q < 193) ∨ q = 204 ∨ q = 171 ∧ 1 ≤ j ∧ j < 48) (h2 : ∀ q j, SL q j → q = 171 ∨ (173 ≤ q ∧ q < 193) ∨ (200 ≤ q ∧ q ≤ 206)) (tz : (h'.1 171 1).toInt = 0) (k : MKg nA nS h' K) : MS h' (Z.wp.sk K) := by
  obtain ⟨m1, ⟨m2, m3⟩, m4, m5, m6, m7⟩ := m
  refine ⟨m1.mv a, ⟨tz, fun i hi => absurd hi (Nat.not_lt_zero _)⟩, k, by rw [a.2.1 _ _ (fun z => by have := h1 _ _ z; omega)]; exact m5, fun K' hK' => MKi.mv (m6 K' hK') (b.2.2.1 K' hK') a (fun q j z => by have := h1 _ _ z; omega) (fun q j z => by have := h2 _ _ z; omega), fun i hi => (m7 i hi).mv a (fun q j z => by have := h1 _ _ z; omega) (fun q j z => by have := h2 _ _ z; omega)⟩
/-- a ratio more -/
theorem MKn.addR {h : jv_H} {K : zK} {P : zP} (k : MKg nA nS h K) (b : bdK K) (hn : K.nr < 6) (ca : ∀ i, i < 13 → uq h 173 174 (26 * K.nr + i) = P.1 i) (cb : ∀ i, i < 13 → uq h 173 174 (26 * K.nr + 13 + i) = P.2 i) : MKg nA nS (jv_uI h 171 9 (jv_gI h 171 9 + 1)) (K.addR P) := by
  have hz := k.zr
  have o1 : oT (fun q j => q = 171 ∧ j = 9) nL h (jv_uI h 171 9 (jv_gI h 171 9 + 1)) := oT.rf.uI ⟨rfl, rfl⟩
  obtain ⟨⟨k1, k2⟩, ⟨k3, k4⟩, k5, ⟨k6, k7, k8⟩, k9⟩ := k
  refine ⟨⟨?_, fun r hr i hi => ?_⟩, ⟨?_, fun l hl => ?_⟩, fun t ht => ?_, ⟨?_, ?_, fun j hj => ?_⟩, ?_⟩
  · show ((jv_uI h 171 9 (jv_gI h 171 9 + 1)).1 171 9).toInt = _
    rw [uI_eq]
    exact nz_inc hz (by omega)
  · have hr : r < K.nr + 1 := hr
    show uq h 173 174 _ = (if r = K.nr then P else K.R r).1 i ∧ uq h 173 174 _ = (if r = K.nr then P else K.R r).2 i
    by_cases e : r = K.nr
    · rw [if_pos e, e]
      exact ⟨ca i hi, cb i hi⟩
    · rw [if_neg e]
      exact k2 r (by omega) i hi
  · show ((jv_uI h 171 9 (jv_gI h 171 9 + 1)).1 171 18).toInt = _
    rw [uI_ne (by omega)]
    exact k3
  · obtain ⟨m1, m2, m3, m4⟩ := k4 l hl
    refine ⟨?_, ?_, m3, fun j hj => ?_⟩
    · rw [o1.2.1 _ _ (fun z => by have : nA 4 = 171 := z.1; exact absurd this (by decide))]; exact m1
    · rw [o1.2.1 _ _ (fun z => by have : nA 5 = 171 := z.1; exact absurd this (by decide))]; exact m2
    · rw [o1.2.1 _ _ (fun z => by have : nA 2 = 171 := z.1; exact absurd this (by decide)), o1.2.1 _ _ (fun z => by have : nA 3 = 171 := z.1; exact absurd this (by decide))]; exact m4 j hj
  · obtain ⟨m1, m2⟩ := k5 t ht
    refine ⟨?_, fun j hj => ?_⟩
    · rw [o1.2.1 _ _ (fun z => by have : nA 14 = 171 := z.1; exact absurd this (by decide))]; exact m1
    · rw [o1.2.1 _ _ (fun z => by have : nA 12 = 171 := z.1; exact absurd this (by decide)), o1.2.1 _ _ (fun z => by have : nA 13 = 171 := z.1; exact absurd this (by decide))]; exact m2 j hj
  · show ((jv_uI h 171 9 (jv_gI h 171 9 + 1)).1 171 29).toInt = _
    rw [uI_ne (by omega)]
    exact k6
  · show (jv_uI h 171 9 (jv_gI h 171 9 + 1)).1 171 31 = _
    rw [uI_ne (by omega)]
    exact k7
  · rw [o1.2.1 _ _ (fun z => by have : nA 17 = 171 := z.1; exact absurd this (by decide)), o1.2.1 _ _ (fun z => by have : nA 18 = 171 := z.1; exact absurd this (by decide)), o1.2.1 _ _ (fun z => by have : nA 19 = 171 := z.1; exact absurd this (by decide))]
    exact k8 j hj
  · show (jv_uI h 171 9 (jv_gI h 171 9 + 1)).1 171 30 = _
    rw [uI_ne (by omega)]
    exact k9
def rI0 : Nat → Nat → Prop := fun q j => q = 171 ∧ 1 ≤ j ∧ j ≤ 3
def rL0 (w : Nat) : Nat → Nat → Prop := fun q j => (q = 173 ∨ q = 174) ∧ w ≤ j ∧ j < w + 26
theorem w_ratio (ms : MS h Z) (bd : bdZ Z) (hK : dI h (q_ratio Z) KI) : jI X 8 y_Model_ratio [.ref 171] 227 h KI := by
  unfold q_ratio at hK
  have hz := ms.k.zr
  have hm := bd.2.1.1
  have e6 : (6 : Int32).toInt = 6 := rfl
  have e26 : (26 : Int32).toInt = 26 := rfl
  have e13 : (13 : Int32).toInt = 13 := rfl
  have ht : (jv_gI h 171 1).toInt = Z.tn := ms.2.1.1
  refine r_Model_ratio X 7 227 _ 171 h ⟨is171, fun a => ?_, fun a => ?_⟩
  · have hn : Z.k.nr < 6 := by
      have : Z.k.nr ≠ 6 := fun z => a (Int32.toInt_inj.mp (by rw [hz, z]; rfl))
      omega
    rw [if_neg (by omega)] at hK
    have o0 : oT rI0 nL h (jv_uI (jv_uI (jv_uI h 171 1 0) 171 2 0) 171 3 0) := ((oT.rf.uI ⟨rfl, by omega, by omega⟩).uI ⟨rfl, by omega, by omega⟩).uI ⟨rfl, by omega, by omega⟩
    have g9 : jv_gI (jv_uI (jv_uI (jv_uI h 171 1 0) 171 2 0) 171 3 0) 171 9 = jv_gI h 171 9 := rfl
    rw [g9]
    have hw : ((26 : Int32) * jv_gI h 171 9).toInt = ((26 * Z.k.nr : Nat) : Int) := by rw [nz_muli (by rw [e26, hz]; omega) (by rw [e26, hz]; omega), e26, hz]; omega
    have hw2 : ((26 : Int32) * jv_gI h 171 9 + 13).toInt = ((26 * Z.k.nr + 13 : Nat) : Int) := by rw [nz_addi (by rw [hw, e13]; omega) (by rw [hw, e13]; omega), hw, e13]; omega
    have r0 := ms.r.mv o0
    have t0 : MT (jv_uI (jv_uI (jv_uI h 171 1 0) 171 2 0) 171 3 0) Z.T Z.tn 0 := by
      refine ⟨?_, Nat.zero_le _, bd.1, fun i hi => ?_⟩
      · rw [uI_ne (by omega), uI_eq]
        rfl
      · rw [uI_ne (by omega), uI_ne (by omega), uI_ne (by omega)]
        exact ms.2.1.2 i hi
    have f0 : (jv_uI (jv_uI (jv_uI h 171 1 0) 171 2 0) 171 3 0).1 171 3 = 0 := uI_eq
    have T1 : ∀ (h' : jv_H), oT rI0 (rL0 (26 * Z.k.nr)) h h' → (h'.1 171 1 = 0) → MS h' Z.wp := fun h' o' z => ms.updT (K := Z.k) bd o' (fun q j z => by unfold rI0 at z; omega) (fun q j z => by unfold rL0 at z; omega) (by rw [z]; rfl) (MKn.mv ms.k bd.2.1 o' (fun q j z => by unfold rI0 at z; unfold frI; omega) (fun q j z => by unfold rL0 at z; unfold frL; omega))
    have oM1 : ∀ (h' : jv_H), oT rI0 (rL0 (26 * Z.k.nr)) h h' → oM h h' := fun h' o' => o'.M (fun q j z => by unfold rI0 at z; omega) (fun q j z => by unfold rL0 at z; omega)
    have bad : ∀ (h' : jv_H) (e : Nat), oT rI0 (rL0 (26 * Z.k.nr)) h h' → h'.1 171 1 = 0 → ¬ jv_gI h' 171 3 = 0 → MT h' Z.T Z.tn e → rrat Z.T Z.tn = .inl e → ∀ x2, a_Model_ratio_97 X 7 227 (jv_rI KI) 171 (jv_gI h 171 1) x2 h' 0 := fun h' e o' z ne t' hr x2 => by
      rw [hr] at hK
      exact r_Model_ratio_97 X 7 227 _ 171 _ x2 h' ⟨is171, fun _ => ⟨is171, hK _ (nz_m1000 t'.1 (by have := t'.2.1; have := t'.2.2.1; omega)) h' (oM1 h' o') (T1 h' o' z)⟩, fun y => absurd y ne⟩
    have z1 : ∀ h' h'', oT atI (rwL (26 * Z.k.nr)) h' h'' → h'.1 171 1 = 0 → h''.1 171 1 = 0 := fun h' h'' o' z => by rw [o'.2.1 _ _ (fun y => by unfold atI at y; omega)]; exact z
    have z00 : (jv_uI (jv_uI (jv_uI h 171 1 0) 171 2 0) 171 3 0).1 171 1 = 0 := by
      rw [uI_ne (by omega), uI_ne (by omega), uI_eq]
    have wd : ∀ h' h'', oT atI (rwL (26 * Z.k.nr)) h' h'' → oT rI0 (rL0 (26 * Z.k.nr)) h' h'' := fun h' h'' o' => o'.mono (fun q j z => by unfold atI at z; unfold rI0; omega) (fun q j z => by unfold rwL at z; unfold rL0; omega)
    have wd2 : ∀ h' h'', oT atI (rwL (26 * Z.k.nr + 13)) h' h'' → oT rI0 (rL0 (26 * Z.k.nr)) h' h'' := fun h' h'' o' => o'.mono (fun q j z => by unfold atI at z; unfold rI0; omega) (fun q j z => by unfold rwL at z; unfold rL0; omega)
    have o00 : oT rI0 (rL0 (26 * Z.k.nr)) h (jv_uI (jv_uI (jv_uI h 171 1 0) 171 2 0) 171 3 0) := nLs o0
    refine ⟨is171, is171, is171, is171, Or.inl rfl, is171, is171, ?_⟩
    refine m_poly X 2 _ Z.T Z.tn 0 _ _ _ ht _ hw (by omega) r0 t0 f0 (fun q hq h1 o1 f1 t1 c1 => ⟨is171, fun z => absurd f1 z, fun _ => ⟨is171, m_here X 6 h1 Z.T Z.tn q.2 _ _ ht (r0.mv o1) t1 ⟨fun y => ⟨is171, Or.inr rfl, is171, ?_⟩, fun y => ⟨is171, is171, is171, ?_⟩⟩⟩⟩) (fun e he h1 o1 f1 t1 => ⟨is171, fun _ => ⟨is171, Or.inr rfl, is171, ?_⟩, fun z => absurd (show h1.1 171 3 = 0 from z) (by rw [f1]; decide)⟩)
    · have o2 : oT rI0 (rL0 (26 * Z.k.nr)) h (jv_uI h1 171 3 1) := (o00.tr (wd _ _ o1)).uI ⟨rfl, by omega, by omega⟩
      have nz : ¬ jv_gI (jv_uI h1 171 3 1) 171 3 = 0 := by rw [show jv_gI (jv_uI h1 171 3 1) 171 3 = 1 from uI_eq]; decide
      refine ⟨fun _ => bad _ q.2 o2 (by rw [uI_ne (by omega)]; exact z1 _ _ o1 z00) nz t1.fl (by unfold rrat; rw [hq]; dsimp only; rw [if_neg y]) _, fun z => absurd z nz⟩
    · have hlt := lk_lt y (by decide)
      have f2 : (jv_uI h1 171 2 (jv_gI h1 171 2 + 1)).1 171 3 = 0 := by rw [uI_ne (by omega)]; exact f1
      have o2 : oT rI0 (rL0 (26 * Z.k.nr)) h (jv_uI h1 171 2 (jv_gI h1 171 2 + 1)) := (o00.tr (wd _ _ o1)).uI ⟨rfl, by omega, by omega⟩
      have z2 : (jv_uI h1 171 2 (jv_gI h1 171 2 + 1)).1 171 1 = 0 := by rw [uI_ne (by omega)]; exact z1 _ _ o1 z00
      have c2 : pm (jv_uI h1 171 2 (jv_gI h1 171 2 + 1)) (26 * Z.k.nr) q.1 1009899 := c1.mv at_up (fun _ _ => ⟨fun z => z, fun z => z⟩)
      refine ⟨fun z => absurd f2 z, fun _ => ⟨is171, m_poly X 2 _ Z.T Z.tn (q.2 + 1) _ _ _ ht _ hw2 (by omega) ((r0.mv o1).mv at_up) (t1.up hlt) f2 (fun q3 hq3 h3 o3 f3 t3 c3 => ?_) (fun e he h3 o3 f3 t3 => ?_)⟩⟩
      · have o4 := o2.tr (wd2 _ _ o3)
        have z3 : h3.1 171 1 = 0 := by rw [o3.2.1 _ _ (fun y => by unfold atI at y; omega)]; exact z2
        have r3 := ((r0.mv o1).mv (SI := atI) (SL := nL) at_up).mv o3
        have c4 : pm h3 (26 * Z.k.nr) q.1 1009899 := c2.mv o3 (fun i hi => ⟨fun z => by unfold rwL at z; omega, fun z => by unfold rwL at z; omega⟩)
        have ha3 : (jv_gI h3 171 2).toInt = q3.2 := t3.1
        have hrr : rrat Z.T Z.tn = if q3.2 = Z.tn then .inr (q.1, q3.1) else .inl q3.2 := by
          unfold rrat
          rw [hq]
          dsimp only
          rw [if_pos y, hq3]
        refine r_Model_ratio_97 X 7 227 _ 171 _ _ h3 ⟨is171, fun z => absurd f3 z, fun _ => ⟨is171, fun a2 => ⟨is171, ?_⟩, fun a2 => ⟨is171, ?_⟩⟩⟩
        · have a2 := nz_le.mp a2
          rw [ht, ha3] at a2
          rw [if_pos (by have := t3.2.1; omega)] at hrr
          rw [hrr] at hK
          dsimp only at hK
          refine m_isNothing X 6 h3 _ _ _ hw (by omega) q.1 _ r3 c4 (fun y1 => ⟨fun _ => ?_, fun z => absurd z (by decide)⟩) (fun y1 => ⟨fun z => absurd rfl z, fun _ => ⟨is171, m_isNothing X 6 h3 _ _ _ hw2 (by omega) q3.1 _ r3 c3 (fun y2 => ⟨fun z => absurd z (by decide), fun _ => ?_⟩) (fun y2 => ⟨fun _ => ⟨is171, is171, is171, ?_⟩, fun z => absurd rfl z⟩)⟩⟩)
          · rw [if_pos (Or.inl y1)] at hK
            exact hK _ rfl h3 (oM1 _ o4) (T1 _ o4 z3)
          · rw [if_pos (Or.inr y2)] at hK
            exact hK _ rfl h3 (oM1 _ o4) (T1 _ o4 z3)
          · rw [if_neg (fun z => z.elim y1 y2)] at hK
            have kn : MKg nA nS h3 Z.k := (T1 _ o4 z3).k
            have o5 : oT (fun q j => q = 171 ∧ 1 ≤ j ∧ j ≤ 9) (rL0 (26 * Z.k.nr)) h (jv_uI h3 171 9 (jv_gI h3 171 9 + 1)) := (o4.mono (fun q j z => by unfold rI0 at z; omega) (fun _ _ z => z)).uI ⟨rfl, by omega, by omega⟩
            rw [show jv_gI (jv_uI h3 171 9 (jv_gI h3 171 9 + 1)) 171 9 = jv_gI h3 171 9 + 1 from uI_eq]
            refine hK _ (nz_incdec kn.zr (by omega)) _ (o5.M (fun q j z => by omega) (fun q j z => by unfold rL0 at z; omega)) (ms.updT bd o5 (fun q j z => by omega) (fun q j z => by unfold rL0 at z; omega) (by rw [uI_ne (by omega), z3]; rfl) (MKn.addR kn bd.2.1 hn c4.1 c3.1))
        · have a2 : ¬ (Z.tn : Int) ≤ q3.2 := fun z => a2 (nz_le.mpr (by rw [ht, ha3]; exact z))
          rw [if_neg (by omega)] at hrr
          rw [hrr] at hK
          exact hK _ (nz_m1000 ha3 (by have := t3.2.1; have := t3.2.2.1; omega)) h3 (oM1 _ o4) (T1 _ o4 z3)
      · have ne : ¬ jv_gI h3 171 3 = 0 := by rw [show jv_gI h3 171 3 = 1 from f3]; decide
        refine bad h3 e (o2.tr (wd2 _ _ o3)) (by rw [o3.2.1 _ _ (fun y => by unfold atI at y; omega)]; exact z2) ne t3 ?_ _
        unfold rrat
        rw [hq]
        dsimp only
        rw [if_pos y, he]
    · have o2 : oT rI0 (rL0 (26 * Z.k.nr)) h (jv_uI h1 171 3 1) := (o00.tr (wd _ _ o1)).uI ⟨rfl, by omega, by omega⟩
      have nz : ¬ jv_gI (jv_uI h1 171 3 1) 171 3 = 0 := by rw [show jv_gI (jv_uI h1 171 3 1) 171 3 = 1 from uI_eq]; decide
      refine ⟨fun _ => bad _ e o2 (by rw [uI_ne (by omega)]; exact z1 _ _ o1 z00) nz t1.fl (by unfold rrat; rw [he]) _, fun z => absurd z nz⟩
  · have hn : Z.k.nr = 6 := by
      have : (jv_gI h 171 9).toInt = 6 := by rw [a]; rfl
      omega
    rw [if_pos hn] at hK
    exact hK _ rfl h oM.rf ms
end
