/-! ===== the reference: worth, react, first ===== -/
theorem zo_we {L : zL} (r : Int32) (ok : okL L) : zo r L.we ∧ L.we ≠ (-1, 0) := by
  obtain ⟨_, _, _, ok4, ok5, ok6⟩ := ok
  unfold zL.we
  by_cases e : L.en = 2
  · rw [if_pos e]
    exact ⟨Or.inr ⟨ok5, fun _ => by have := (ok6 e).2; omega⟩, ok5.nw⟩
  · rw [if_neg e]
    by_cases e0 : L.en = 0
    · rw [if_pos e0]
      exact ⟨Or.inr ⟨gd_0, fun _ => by decide⟩, by decide⟩
    · rw [if_neg e0]
      exact ⟨Or.inl rfl, by decide⟩
theorem zo.nw {r : Int32} {z : Int × Int} (h : zo r z) : z ≠ (-1, 0) := h.elim (fun y => by rw [y]; decide) (fun y => y.1.nw)
theorem inv_nz {q : Int × Int} (h : gd q) (h1 : q.1 ≠ 0) (hn : fz_inv q ≠ (-1, 0)) : gd (fz_inv q) ∧ (fz_inv q).1 ≠ 0 := by
  have h2 := h.1.2.1
  unfold fz_inv at hn ⊢
  rw [if_neg (by omega)] at hn ⊢
  refine ⟨fz_of_gd hn, fun z => ?_⟩
  obtain ⟨_, g, a1, a2, a3⟩ := fz_of_ok hn
  rw [z, Int.mul_zero] at a2
  omega
theorem mul_nz {p q : Int × Int} (h1 : p.1 ≠ 0) (h2 : q.1 ≠ 0) (hn : fz_mul p q ≠ (-1, 0)) : gd (fz_mul p q) ∧ (fz_mul p q).1 ≠ 0 := by
  refine ⟨fz_of_gd hn, fun z => ?_⟩
  unfold fz_mul at hn z
  obtain ⟨_, g, a1, a2, a3⟩ := fz_of_ok hn
  rw [z, Int.mul_zero] at a2
  rcases Int.mul_eq_zero.mp a2 with y | y
  · exact h1 y
  · exact h2 y
theorem neg_nz {q : Int × Int} (h : gd q) (h1 : q.1 ≠ 0) : gd (fz_neg q) ∧ (fz_neg q).1 ≠ 0 := by
  have e := fz_neg_gd h
  have hn : fz_neg q ≠ (-1, 0) := by
    rw [e]
    intro z
    have : q.2 = 0 := congrArg Prod.snd z
    have := h.1.2.1
    omega
  refine ⟨fz_of_gd hn, ?_⟩
  rw [e]
  show -q.1 ≠ 0
  omega
section
variable (X : jv_X) (d : Nat) (h : jv_H) (K : jv_H → Prop) (KI : Int32 → jv_H → Prop) (KJ : Int64 → jv_H → Prop) (Z : zZ)
theorem wend (Q : jv_Q) (x4 : Int32) (hp : 0 ≤ x4.toInt ∧ x4.toInt ≤ 1) (w : Bool) (R0 : Int × Int) (hw : h.1 171 6 = (if w then 1 else 0)) (i : rq w (q43 h) R0) (hQ : ∀ v : Int64, v.toInt = fz_tell R0 x4.toInt → Q (some (.long v)) h) : jv_is SHT 227 171 20 ∧ ((jv_gI h 171 6 = 0 → ((¬ x4 = 0 → (jv_is SHT 227 171 20 ∧ Q (some (.long (jv_gL h 171 44))) h)) ∧ (x4 = 0 → (jv_is SHT 227 171 20 ∧ Q (some (.long (jv_gL h 171 43))) h)))) ∧ (¬ jv_gI h 171 6 = 0 → Q (some (.long (-9223372036854775808))) h)) := by
  have tl : ∀ q : Int × Int, q ≠ (-1, 0) → fz_tell q x4.toInt = if x4 = 0 then q.1 else q.2 := fun q hq => by
    unfold fz_tell
    rw [if_neg (fun z => z.elim hq (fun y => y hp))]
    by_cases e : x4 = 0
    · rw [if_pos e, if_pos (by rw [e]; rfl)]
    · rw [if_neg e]
      exact if_neg (fun z => e (Int32.toInt_inj.mp z))
  refine ⟨is171, fun f => ?_, fun f => ?_⟩
  · rcases i with ⟨i1, i2⟩ | ⟨i1, i2, i3⟩
    · subst i1
      rw [show jv_gI h 171 6 = 1 from hw] at f
      exact absurd f (by decide)
    · rw [tl R0 i3] at hQ
      refine ⟨fun e => ⟨is171, hQ _ ?_⟩, fun e => ⟨is171, hQ _ ?_⟩⟩
      · rw [if_neg e, ← i2]; rfl
      · rw [if_pos e, ← i2]; rfl
  · rcases i with ⟨i1, i2⟩ | ⟨i1, i2, i3⟩
    · refine hQ _ ?_
      rw [i2]
      unfold fz_tell
      rw [if_pos (Or.inl rfl)]
      rfl
    · subst i1
      exact absurd hw f
theorem worth_l (Q : jv_Q) (x1 x2 x3 x4 : Int32) (t1 : tol x2 x3) (hp4 : 0 ≤ x4.toInt ∧ x4.toInt ≤ 1) (l : Nat) (hx : x1.toInt = l) (hl : l < Z.k.nl) (ms : MS h Z) (bd : bdZ Z) (ok : okZ Z) (R0 : Int × Int) (hQ : ∀ v : Int64, v.toInt = fz_tell R0 x4.toInt → ∀ h', fK Z.k h h' → Q (some (.long v)) h') :
    ∀ (k : Nat) (x5 : Int32) (h1 : jv_H) (wc : Bool) (z : Int × Int), x5.toInt = ((12 * l + k : Nat) : Int) - 1 → k ≤ (Z.k.L l).sz → fK Z.k h h1 → h1.1 171 6 = (if wc then 1 else 0) → ((wc = false ∧ q43 h1 = z ∧ zo 0 z ∧ (Z.k.L l).wo 0 (fz_of x2.toInt x3.toInt) k z = R0) ∨ (wc = true ∧ R0 = (-1, 0))) → a_Model_worth_56 X 7 227 Q 171 x1 x2 x3 x4 x5 h1 0
  | 0, x5, h1, wc, z, h5, hk, fk, hw, inv => by
    have hml := bd.2.1.2.1
    have e12 := nz_12 hx (by omega)
    refine r_Model_worth_56 X 7 227 Q 171 x1 x2 x3 x4 x5 h1 ⟨fun _ => wend h1 Q x4 hp4 wc R0 hw ?_ (fun v hv => hQ v hv h1 fk), fun y => absurd (nz_lt.mpr (by rw [h5, e12]; omega)) y⟩
    exact inv.elim (fun y => Or.inr ⟨y.1, by rw [y.2.1]; exact y.2.2.2, by rw [← y.2.2.2]; exact y.2.2.1.nw⟩) (fun y => Or.inl y)
  | k + 1, x5, h1, wc, z, h5, hk, fk, hw, inv => by
    have hml := bd.2.1.2.1
    have e12 := nz_12 hx (by omega)
    have hsz := bd.2.1.2.2.1 l hl
    have h5' : x5.toInt = ((12 * l + k : Nat) : Int) := by omega
    have hkl : k < (Z.k.L l).sz := by omega
    have ms1 := ms.mv bd fk
    have gj : ∀ q : Nat, ∀ t : Nat, SHT q = (t, 72) → q < 227 → jv_ix SHT 227 q t x5 := fun q t h1 h2 => jx h1 h2 (by omega) (by omega)
    obtain ⟨ok1, ok2, ok3, ok4, ok5, ok6⟩ := ok.1.2.1 l hl
    have gv := (ok3 k hkl).1
    have v := ms1.k.lv hl hkl
    have tx := fz_told t1.1 t1.2
    have px : gp (fz_of x2.toInt x3.toInt) := ⟨tx.1, tx.2.1⟩
    refine r_Model_worth_56 X 7 227 Q 171 x1 x2 x3 x4 x5 h1 ⟨fun y => ?_, fun _ => ⟨is171, fun f => wend h1 Q x4 hp4 wc R0 hw ?_ (fun v hv => hQ v hv h1 fk), fun f => ⟨is171, _, ms1.r 10, gj 175 0 rfl (by decide), ?_⟩⟩⟩
    · have := nz_lt.mp y
      rw [h5, e12] at this
      omega
    · exact inv.elim (fun y => by have := y.1; subst this; exact absurd hw f) (fun y => Or.inl y)
    · rcases inv with ⟨i1, i2, i3, i4⟩ | ⟨i1, _⟩
      · subst i1
        have hwo : (Z.k.L l).wo 0 (fz_of x2.toInt x3.toInt) (k + 1) z = if wp 0 ((Z.k.L l).so k) ((Z.k.L l).sh k) ((Z.k.L l).va k) (fz_of x2.toInt x3.toInt) = (-1, 0) then (-1, 0) else if wt 0 ((Z.k.L l).so k) ((Z.k.L l).sh k) ((Z.k.L l).va k) (fz_of x2.toInt x3.toInt) z = (-1, 0) then (-1, 0) else (Z.k.L l).wo 0 (fz_of x2.toInt x3.toInt) k (wt 0 ((Z.k.L l).so k) ((Z.k.L l).sh k) ((Z.k.L l).va k) (fz_of x2.toInt x3.toInt) z) := rfl
        rw [hwo] at i4
        have after : ∀ (h3 : jv_H) (w3 : Bool) (q3 : Int × Int), oT (mI 171) (mL 171) h1 h3 → MI h3 171 w3 q3 → rq w3 q3 (wp 0 ((Z.k.L l).so k) ((Z.k.L l).sh k) ((Z.k.L l).va k) (fz_of x2.toInt x3.toInt)) → (wp 0 ((Z.k.L l).so k) ((Z.k.L l).sh k) ((Z.k.L l).va k) (fz_of x2.toInt x3.toInt) ≠ (-1, 0) → gp (wp 0 ((Z.k.L l).so k) ((Z.k.L l).sh k) ((Z.k.L l).va k) (fz_of x2.toInt x3.toInt))) → (jv_is SHT 227 171 20 ∧ ((¬ jv_gI h3 171 6 = 0 → a_Model_worth_56 X 7 227 Q 171 x1 x2 x3 x4 (x5 + -1) h3 0) ∧ (jv_gI h3 171 6 = 0 → (jv_is SHT 227 171 20 ∧ (jv_is SHT 227 171 20 ∧ (jv_is SHT 227 171 20 ∧ jV X 7 y_Model_goesOn [.ref 171, .int x5, .long (jv_gL h3 171 4), .long (jv_gL h3 171 5), .int 0] 227 h3 (fun h5 => a_Model_worth_56 X 7 227 Q 171 x1 x2 x3 x4 (x5 + -1) h5 0))))))) := fun h3 w3 q3 o3 m3 r3 gp3 => by
          have fk3 := fk.tr (mi_fk (Zk := Z.k) o3)
          have ms3 := ms.mv bd fk3
          refine ⟨is171, fun f => ?_, fun f => ⟨is171, is171, is171, ?_⟩⟩
          · rcases r3 with ⟨y1, y2⟩ | ⟨y1, _⟩
            · rw [if_pos y2] at i4
              exact worth_l Q x1 x2 x3 x4 t1 hp4 l hx hl ms bd ok R0 hQ k _ h3 w3 z (nz_dec h5' (by omega)) (by omega) fk3 m3.2.2 (Or.inr ⟨y1, i4.symm⟩)
            · subst y1
              exact absurd m3.2.2 f
          · rcases r3 with ⟨y1, y2⟩ | ⟨y1, y2, y3⟩
            · subst y1
              rw [show jv_gI h3 171 6 = 1 from m3.2.2] at f
              exact absurd f (by decide)
            · rw [if_neg y3] at i4
              have gt := gp3 y3
              have m3' := m3
              rw [y2] at m3'
              refine m_goesOn X 3 h3 _ x5 _ h5' (by omega) ((Z.k.L l).sh k) (ok3 k hkl).2 (ms3.k.lu hl hkl) _ _ _ m3'.1 m3'.2.1 0 ⟨gt.1, by have := gt.2; omega, fun _ => gt.2⟩ (Or.inl rfl) z (by rw [q43.mi o3]; exact i2) i3 ms3.r f (fun h5 w5 o5 a1 a2 a3 => ?_)
              refine worth_l Q x1 x2 x3 x4 t1 hp4 l hx hl ms bd ok R0 hQ k _ h5 w5 (wt 0 ((Z.k.L l).so k) ((Z.k.L l).sh k) ((Z.k.L l).va k) (fz_of x2.toInt x3.toInt) z) (nz_dec h5' (by omega)) (by omega) (fk3.tr (wF_fr o5)) a1 ?_
              rcases a2 with ⟨b1, b2⟩ | ⟨b1, b2, b3⟩
              · have b2 : wt 0 ((Z.k.L l).so k) ((Z.k.L l).sh k) ((Z.k.L l).va k) (fz_of x2.toInt x3.toInt) z = (-1, 0) := b2
                rw [if_pos b2] at i4
                exact Or.inr ⟨b1, i4.symm⟩
              · have b3' : wt 0 ((Z.k.L l).so k) ((Z.k.L l).sh k) ((Z.k.L l).va k) (fz_of x2.toInt x3.toInt) z ≠ (-1, 0) := b3
                rw [if_neg b3'] at i4
                exact Or.inl ⟨b1, b2, a3 b3, i4⟩
        have go : ∀ s0 : Int32, (s0 = 0 → wp 0 ((Z.k.L l).so k) ((Z.k.L l).sh k) ((Z.k.L l).va k) (fz_of x2.toInt x3.toInt) = (if (Z.k.L l).so k = 2 then (Z.k.L l).va k else fz_mul ((Z.k.L l).va k) (fz_of x2.toInt x3.toInt))) → (¬ s0 = 0 → wp 0 ((Z.k.L l).so k) ((Z.k.L l).sh k) ((Z.k.L l).va k) (fz_of x2.toInt x3.toInt) = fz_inv (if (Z.k.L l).so k = 2 then (Z.k.L l).va k else fz_mul ((Z.k.L l).va k) (fz_of x2.toInt x3.toInt))) → a_Model_worth_124 X 7 227 Q 171 x1 x2 x3 x4 x5 s0 h1 0 := fun s0 c0 c1 => by
          have base : ∀ (h2 : jv_H) (w2 : Bool) (q2 T : Int × Int), oT (mI 171) (mL 171) h1 h2 → MI h2 171 w2 q2 → gd q2 → rq w2 q2 T → T = (if (Z.k.L l).so k = 2 then (Z.k.L l).va k else fz_mul ((Z.k.L l).va k) (fz_of x2.toInt x3.toInt)) → (T ≠ (-1, 0) → gp T) → (s0 = 0 → (jv_is SHT 227 171 20 ∧ ((¬ jv_gI h2 171 6 = 0 → a_Model_worth_56 X 7 227 Q 171 x1 x2 x3 x4 (x5 + -1) h2 0) ∧ (jv_gI h2 171 6 = 0 → (jv_is SHT 227 171 20 ∧ (jv_is SHT 227 171 20 ∧ (jv_is SHT 227 171 20 ∧ jV X 7 y_Model_goesOn [.ref 171, .int x5, .long (jv_gL h2 171 4), .long (jv_gL h2 171 5), .int 0] 227 h2 (fun h5 => a_Model_worth_56 X 7 227 Q 171 x1 x2 x3 x4 (x5 + -1) h5 0)))))))) ∧ (¬ s0 = 0 → (jv_is SHT 227 171 20 ∧ (jv_is SHT 227 171 20 ∧ (jv_is SHT 227 171 20 ∧ jV X 7 y_Model_over [.ref 171, .long 1, .long 1, .long (jv_gL h2 171 4), .long (jv_gL h2 171 5)] 227 h2 (fun h3 => (jv_is SHT 227 171 20 ∧ ((¬ jv_gI h3 171 6 = 0 → a_Model_worth_56 X 7 227 Q 171 x1 x2 x3 x4 (x5 + -1) h3 0) ∧ (jv_gI h3 171 6 = 0 → (jv_is SHT 227 171 20 ∧ (jv_is SHT 227 171 20 ∧ (jv_is SHT 227 171 20 ∧ jV X 7 y_Model_goesOn [.ref 171, .int x5, .long (jv_gL h3 171 4), .long (jv_gL h3 171 5), .int 0] 227 h3 (fun h5 => a_Model_worth_56 X 7 227 Q 171 x1 x2 x3 x4 (x5 + -1) h5 0)))))))))))) := fun h2 w2 q2 T o2 m2 g2 r2 eT pT => by
            refine ⟨fun e => after h2 w2 q2 o2 m2 (by rw [c0 e, ← eT]; exact r2) (by rw [c0 e, ← eT]; exact pT), fun e => ⟨is171, is171, is171, ?_⟩⟩
            refine c_over X 4 227 _ h2 171 _ _ _ _ w2 (1, 1) q2 is171 m2.2.2 rfl rfl m2.1 m2.2.1 gz_1 g2.z (fun h3 o3 m3 => after h3 _ _ (o2.tr o3) m3 ?_ ?_)
            · rw [c1 e, ← eT]
              rcases r2 with ⟨y1, y2⟩ | ⟨y1, y2, y3⟩
              · rw [y1, rz_t, y2, fz_inv_W]
                exact Or.inl ⟨rfl, rfl⟩
              · rw [y1, y2, ovr_inv (by have := (pT y3).2; omega)]
                exact rq_0
            · rw [c1 e, ← eT]
              intro y
              have nw : T ≠ (-1, 0) := fun q => y (by rw [q, fz_inv_W])
              have ip := fz_inv_p (pT nw)
              rw [ip.1]
              exact ip.2
          refine r_Model_worth_124 X 7 227 Q 171 x1 x2 x3 x4 x5 s0 h1 ⟨is171, _, ms1.r 10, gj 175 0 rfl (by decide), ?_⟩
          rw [nz_nat h5', ms1.k.ls hl hkl]
          refine ⟨fun e => ⟨is171, _, ms1.r 14, gj 179 1 rfl (by decide), is171, _, ms1.r 15, gj 180 1 rfl (by decide), is171, ?_⟩, fun e => ⟨is171, _, ms1.r 14, gj 179 1 rfl (by decide), is171, _, ms1.r 15, gj 180 1 rfl (by decide), is171, ?_⟩⟩
          · refine c_times X 4 227 _ h1 171 _ _ _ _ false ((Z.k.L l).va k) (x2.toInt, x3.toInt) is171 f (uq.a v) (uq.b v) (Int32.toInt_toInt64 _) (Int32.toInt_toInt64 _) gv.1.z (gz_told t1.1 t1.2) (fun h2 o2 m2 => ?_)
            rw [mul_told t1.1 t1.2] at m2
            exact base h2 _ _ _ o2 m2 rz_mul rq_0 (if_neg e).symm (fun y => fz_mul_p gv px y)
          · have b1 := gv.1.1.1
            have b2 := gv.1.1.2
            refine c_is X 5 227 _ h1 171 _ _ false is171 f (by rw [uq.a v]; omega) (by rw [uq.b v]; omega) (by rw [uq.b v]; omega) (fun h2 o2 m2 => ?_)
            rw [uq.a v, uq.b v, gv.1.2, rz_f gv.1.nw] at m2
            exact base h2 _ _ _ o2 m2 gv.1 (rq_rf gv.1.nw) (if_pos e).symm (fun _ => gv)
        rw [nz_nat h5', ms1.k.ls hl hkl]
        refine ⟨fun e => ⟨is171, _, ms1.r 10, gj 175 0 rfl (by decide), is171, _, ms1.r 11, gj 176 0 rfl (by decide), ?_⟩, fun e => ⟨is171, _, ms1.r 11, gj 176 0 rfl (by decide), ?_⟩⟩
        · rw [ms1.k.ls hl hkl, ms1.k.lu hl hkl]
          refine ⟨fun e2 => go 0 (fun _ => ?_) (fun y => absurd rfl y), fun e2 => go 1 (fun y => absurd y (by decide)) (fun _ => ?_)⟩
          · unfold wp
            rw [if_pos rfl, if_neg e, if_neg e, if_neg ((ris_u (ok3 k hkl).2).mpr e2)]
          · unfold wp
            rw [if_pos rfl, if_neg e, if_neg e, if_pos (Classical.byContradiction (fun y => e2 ((ris_u (ok3 k hkl).2).mp y)))]
        · rw [ms1.k.lu hl hkl]
          refine ⟨fun e2 => go 0 (fun _ => ?_) (fun y => absurd rfl y), fun e2 => go 1 (fun y => absurd y (by decide)) (fun _ => ?_)⟩
          · unfold wp
            rw [if_pos rfl, if_pos e, if_pos e, if_pos ((ok3 k hkl).2.elim id (fun y => absurd y e2))]
          · unfold wp
            rw [if_pos rfl, if_pos e, if_pos e, if_neg (by rw [e2]; decide)]
      · subst i1
        rw [show jv_gI h1 171 6 = 1 from hw] at f
        exact absurd f (by decide)
theorem w_worth (x a b p : Int32) (ms : MS h Z) (bd : bdZ Z) (ok : okZ Z) (hK : dJ h (q_worth x a b p Z) KJ) : jL X 8 y_Model_worth [.ref 171, .int x, .int a, .int b, .int p] 227 h KJ := by
  unfold q_worth at hK
  have hml := bd.2.1.2.1
  refine r_Model_worth X 7 227 _ 171 x a b p h ⟨is171, m_isLadder X 5 h _ Z x ms bd (fun hr => ⟨fun z => absurd z (by decide), fun _ => c_mTold X 5 227 _ h a b ⟨fun y => ?_, fun y => c_in X 6 227 _ h _ _ _ ⟨fun y2 => ⟨is171, Or.inl rfl, is171, ?_⟩, fun y2 => ?_⟩⟩⟩) (fun hr => ⟨fun _ => ?_, fun z => absurd rfl z⟩)⟩
  · rw [nz_bt] at y
    rw [if_neg (fun z => y z.2)] at hK
    exact hK _ rfl h oM.rf ms
  · rw [nz_bt, Classical.not_not] at y
    rw [nz_bt, Classical.not_not, Int32.toInt_toInt64] at y2
    rw [if_pos ⟨hr, y⟩] at hK
    obtain ⟨l, hx, hl, hL, hc⟩ := isL.n hr
    rw [hL] at hK
    have o0 : fK Z.k h (jv_uI h 171 6 0) := oT.rf.uI (by unfold frI; omega)
    have ms0 := ms.mv bd o0
    have hsz := bd.2.1.2.2.1 l hl
    refine m_begins X 6 _ _ Z x l hx hl ms0 bd ok (fun h1 o1 a1 a2 => ?_)
    have fk1 := o0.tr (wF_fr o1)
    have ms1 := ms.mv bd fk1
    refine ⟨is171, _, ms1.r 12, jx (len := 6) rfl (by decide) (by omega) (by omega), ?_⟩
    rw [hc]
    have lz := ms1.k.lz hl
    have hp := nz_12p hx (by omega) lz (by omega)
    have e1 : (1 : Int32).toInt = 1 := rfl
    have zw := zo_we 0 (ok.1.2.1 l hl)
    exact worth_l X h Z _ x a b p y y2 l hx hl ms bd ok _ (fun v hv h' fk' => hK v hv h' (fK.M fk') (ms.mv bd fk')) (Z.k.L l).sz _ h1 false _ (by rw [nz_subi (by rw [hp, e1]; omega) (by rw [hp, e1]; omega), hp, e1]) (Nat.le_refl _) fk1 (by rw [a2]; exact uI_eq) (Or.inl ⟨rfl, a1, zw.1, rfl⟩)
  · rw [nz_bt, Classical.not_not] at y
    rw [nz_bt, Int32.toInt_toInt64] at y2
    rw [if_pos ⟨hr, y⟩, tell_no y2] at hK
    exact hK _ rfl h oM.rf ms
  · rw [if_neg (fun z => hr z.1)] at hK
    exact hK _ rfl h oM.rf ms
end
