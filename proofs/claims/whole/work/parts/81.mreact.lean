/-! ===== the reference: react, first ===== -/
section
variable (X : jv_X) (d : Nat) (h : jv_H) (K : jv_H → Prop) (KI : Int32 → jv_H → Prop) (KJ : Int64 → jv_H → Prop) (Z : zZ)
theorem cr_all {L : zL} {k : Nat} (h : ∀ j, j < k → L.so j ≠ 2) : L.cr k = k := by
  induction k with
  | zero => rfl
  | succ k ih =>
    show L.cr k + (if L.so k = 2 then 0 else 1) = k + 1
    rw [ih (fun j hj => h j (by omega)), if_neg (h k (by omega))]
theorem cr_not {L : zL} {k j : Nat} (hj : j < k) (h : L.so j = 2) : L.cr k ≠ k := fun e => by
  have h1 := L.cr_le j
  have h2 : L.cr (j + 1) = L.cr j := by
    show L.cr j + (if L.so j = 2 then 0 else 1) = _
    rw [if_pos h, Nat.add_zero]
  have h3 : ∀ m, L.cr (j + 1 + m) ≤ L.cr (j + 1) + m := fun m => by
    induction m with
    | zero => exact Nat.le_refl _
    | succ m ih =>
      show L.cr (j + 1 + m) + (if L.so (j + 1 + m) = 2 then 0 else 1) ≤ _
      split
      · omega
      · omega
  have h4 := h3 (k - (j + 1))
  rw [show j + 1 + (k - (j + 1)) = k by omega] at h4
  omega
theorem reacts_l (Q : jv_Q) (x1 : Int32) (l : Nat) (hx : x1.toInt = l) (hl : l < Z.k.nl) (ms : MS h Z) (bd : bdZ Z) (en : (Z.k.L l).en ≠ 2) (hK1 : lossl (Z.k.L l) → Q (some (.int 1)) h) (hK0 : ¬ lossl (Z.k.L l) → Q (some (.int 0)) h) : ∀ (m k : Nat) (x2 : Int32), x2.toInt = (12 * l + k : Nat) → k + m = (Z.k.L l).sz → (∀ j, j < k → (Z.k.L l).so j ≠ 2) → a_Model_reacts_17 X d 227 Q 171 x1 x2 h 0
  | 0, k, x2, h2, hm, hc => by
    have lz := ms.k.lz hl
    have hml := bd.2.1.2.1
    have hsz := bd.2.1.2.2.1 l hl
    have hp := nz_12p hx (by omega) lz (by omega)
    refine r_Model_reacts_17 X d 227 Q 171 x1 x2 h ⟨is171, _, ms.r 12, jx (len := 6) rfl (by decide) (by omega) (by omega), ?_⟩
    rw [nz_nat hx]
    have ek : k = (Z.k.L l).sz := by omega
    subst ek
    exact ⟨fun _ => ⟨Or.inr rfl, hK1 ⟨en, cr_all hc⟩⟩, fun z => absurd (nz_le.mpr (by rw [hp, h2]; omega)) z⟩
  | m + 1, k, x2, h2, hm, hc => by
    have lz := ms.k.lz hl
    have hml := bd.2.1.2.1
    have hsz := bd.2.1.2.2.1 l hl
    have hp := nz_12p hx (by omega) lz (by omega)
    have hkl : k < (Z.k.L l).sz := by omega
    refine r_Model_reacts_17 X d 227 Q 171 x1 x2 h ⟨is171, _, ms.r 12, jx (len := 6) rfl (by decide) (by omega) (by omega), ?_⟩
    rw [nz_nat hx]
    refine ⟨fun z => ?_, fun _ => ⟨is171, _, ms.r 10, jx (len := 72) rfl (by decide) (by omega) (by omega), ?_⟩⟩
    · have := nz_le.mp z
      rw [hp, h2] at this
      omega
    · rw [nz_nat h2, ms.k.ls hl hkl]
      refine ⟨fun e => reacts_l Q x1 l hx hl ms bd en hK1 hK0 m (k + 1) _ (by rw [nz_inc h2 (by omega)]; omega) (by omega) (fun j hj => ?_), fun e => ⟨Or.inl rfl, hK0 (fun z => cr_not hkl e z.2)⟩⟩
      by_cases ej : j = k
      · rw [ej]; exact e
      · exact hc j (by omega)
theorem m_reacts (x1 : Int32) (l : Nat) (hx : x1.toInt = l) (hl : l < Z.k.nl) (ms : MS h Z) (bd : bdZ Z) (hK1 : lossl (Z.k.L l) → KI 1 h) (hK0 : ¬ lossl (Z.k.L l) → KI 0 h) : jI X (d + 1) y_Model_reacts [.ref 171, .int x1] 227 h KI := by
  have hml := bd.2.1.2.1
  refine r_Model_reacts X d 227 _ 171 x1 h ⟨is171, _, ms.r 13, jx (len := 6) rfl (by decide) (by omega) (by omega), ?_⟩
  rw [nz_nat hx, ms.k.le hl]
  exact ⟨fun e => reacts_l X d h Z _ x1 l hx hl ms bd e hK1 hK0 (Z.k.L l).sz 0 _ (nz_12 hx (by omega)) (by omega) (fun j hj => absurd hj (Nat.not_lt_zero _)), fun e => ⟨Or.inl rfl, hK0 (fun z => z.1 e)⟩⟩
theorem react_l (Q : jv_Q) (x1 : Int32) (x2 x4 : Int64) (a b : Int) (ta : 1 ≤ a ∧ a ≤ 9999) (tb : 1 ≤ b ∧ b ≤ 9999) (e2 : x2.toInt = a) (e4 : x4.toInt = b) (l : Nat) (hx : x1.toInt = l) (hl : l < Z.k.nl) (ms : MS h Z) (bd : bdZ Z) (ok : okZ Z) (R0 : Int × Int) (hQ : ∀ h' w', oT (mI 171) qL h h' → h'.1 171 6 = (if w' then 1 else 0) → rq w' (q43 h') R0 → (R0 ≠ (-1, 0) → zo 1 R0) → Q none h') :
    ∀ (k : Nat) (x6 : Int32) (h1 : jv_H) (wc : Bool) (z : Int × Int), x6.toInt = ((12 * l + k : Nat) : Int) - 1 → k ≤ (Z.k.L l).sz → oT (mI 171) qL h h1 → h1.1 171 6 = (if wc then 1 else 0) → ((wc = false ∧ q43 h1 = z ∧ zo 1 z ∧ (Z.k.L l).wo 1 (fz_of a b) k z = R0) ∨ (wc = true ∧ R0 = (-1, 0))) → a_Model_reactsAt_25 X (d + 4) 227 Q 171 x1 x2 x4 x6 h1 0
  | 0, x6, h1, wc, z, h6, hk, fk, hw, inv => by
    have hml := bd.2.1.2.1
    have e12 := nz_12 hx (by omega)
    refine r_Model_reactsAt_25 X (d + 4) 227 Q 171 x1 x2 x4 x6 h1 ⟨fun _ => hQ h1 wc fk hw ?_ ?_, fun y => absurd (nz_lt.mpr (by rw [h6, e12]; omega)) y⟩
    · exact inv.elim (fun y => Or.inr ⟨y.1, by rw [y.2.1]; exact y.2.2.2, by rw [← y.2.2.2]; exact y.2.2.1.nw⟩) (fun y => Or.inl y)
    · intro nw
      rcases inv with ⟨_, _, i3, i4⟩ | ⟨_, i2⟩
      · rw [← i4]; exact i3
      · exact absurd i2 nw
  | k + 1, x6, h1, wc, z, h6, hk, fk, hw, inv => by
    have hml := bd.2.1.2.1
    have e12 := nz_12 hx (by omega)
    have hsz := bd.2.1.2.2.1 l hl
    have h6' : x6.toInt = ((12 * l + k : Nat) : Int) := by omega
    have hkl : k < (Z.k.L l).sz := by omega
    have ms1 := ms.mv bd (wF_fr fk)
    have gj : ∀ q : Nat, ∀ t : Nat, SHT q = (t, 72) → q < 227 → jv_ix SHT 227 q t x6 := fun q t h1 h2 => jx h1 h2 (by omega) (by omega)
    obtain ⟨ok1, ok2, ok3, ok4, ok5, ok6⟩ := ok.1.2.1 l hl
    have gv := (ok3 k hkl).1
    have v := ms1.k.lv hl hkl
    have tx := fz_told ta tb
    refine r_Model_reactsAt_25 X (d + 4) 227 Q 171 x1 x2 x4 x6 h1 ⟨fun y => ?_, fun _ => ⟨is171, fun f => hQ h1 wc fk hw ?_ ?_, fun f => ⟨is171, _, ms1.r 14, gj 179 1 rfl (by decide), is171, _, ms1.r 15, gj 180 1 rfl (by decide), is171, ?_⟩⟩⟩
    · have := nz_lt.mp y
      rw [h6, e12] at this
      omega
    · exact inv.elim (fun y => by have := y.1; subst this; exact absurd hw f) (fun y => Or.inl y)
    · exact inv.elim (fun y => by have := y.1; subst this; exact absurd hw f) (fun y => fun nw => absurd y.2 nw)
    · rcases inv with ⟨i1, i2, i3, i4⟩ | ⟨i1, _⟩
      · subst i1
        have hwo : (Z.k.L l).wo 1 (fz_of a b) (k + 1) z = if wp 1 ((Z.k.L l).so k) ((Z.k.L l).sh k) ((Z.k.L l).va k) (fz_of a b) = (-1, 0) then (-1, 0) else if wt 1 ((Z.k.L l).so k) ((Z.k.L l).sh k) ((Z.k.L l).va k) (fz_of a b) z = (-1, 0) then (-1, 0) else (Z.k.L l).wo 1 (fz_of a b) k (wt 1 ((Z.k.L l).so k) ((Z.k.L l).sh k) ((Z.k.L l).va k) (fz_of a b) z) := rfl
        rw [hwo] at i4
        have after : ∀ (h3 : jv_H) (w3 : Bool) (q3 : Int × Int), oT (mI 171) (mL 171) h1 h3 → MI h3 171 w3 q3 → rq w3 q3 (wp 1 ((Z.k.L l).so k) ((Z.k.L l).sh k) ((Z.k.L l).va k) (fz_of a b)) → (wp 1 ((Z.k.L l).so k) ((Z.k.L l).sh k) ((Z.k.L l).va k) (fz_of a b) ≠ (-1, 0) → gd (wp 1 ((Z.k.L l).so k) ((Z.k.L l).sh k) ((Z.k.L l).va k) (fz_of a b)) ∧ (wp 1 ((Z.k.L l).so k) ((Z.k.L l).sh k) ((Z.k.L l).va k) (fz_of a b)).1 ≠ 0) → (jv_is SHT 227 171 20 ∧ ((¬ jv_gI h3 171 6 = 0 → a_Model_reactsAt_25 X (d + 4) 227 Q 171 x1 x2 x4 (x6 + -1) h3 0) ∧ (jv_gI h3 171 6 = 0 → (jv_is SHT 227 171 20 ∧ (jv_is SHT 227 171 20 ∧ (jv_is SHT 227 171 20 ∧ jV X (d + 4) y_Model_goesOn [.ref 171, .int x6, .long (jv_gL h3 171 4), .long (jv_gL h3 171 5), .int 1] 227 h3 (fun h5 => a_Model_reactsAt_25 X (d + 4) 227 Q 171 x1 x2 x4 (x6 + -1) h5 0))))))) := fun h3 w3 q3 o3 m3 r3 gp3 => by
          have fk3 := fk.tr (mi_wF o3)
          have ms3 := ms.mv bd (wF_fr fk3)
          refine ⟨is171, fun f => ?_, fun f => ⟨is171, is171, is171, ?_⟩⟩
          · rcases r3 with ⟨y1, y2⟩ | ⟨y1, _⟩
            · rw [if_pos y2] at i4
              exact react_l Q x1 x2 x4 a b ta tb e2 e4 l hx hl ms bd ok R0 hQ k _ h3 w3 z (nz_dec h6' (by omega)) (by omega) fk3 m3.2.2 (Or.inr ⟨y1, i4.symm⟩)
            · subst y1
              exact absurd m3.2.2 f
          · rcases r3 with ⟨y1, y2⟩ | ⟨y1, y2, y3⟩
            · subst y1
              rw [show jv_gI h3 171 6 = 1 from m3.2.2] at f
              exact absurd f (by decide)
            · rw [if_neg y3] at i4
              have gt := gp3 y3
              have m3' := m3
              rw [y2] at m3'
              refine m_goesOn X d h3 _ x6 _ h6' (by omega) ((Z.k.L l).sh k) (ok3 k hkl).2 (ms3.k.lu hl hkl) _ _ _ m3'.1 m3'.2.1 1 ⟨gt.1, gt.2, fun y => absurd y (by decide)⟩ (Or.inr rfl) z (by rw [q43.mi o3]; exact i2) i3 ms3.r f (fun h5 w5 o5 a1 a2 a3 => ?_)
              refine react_l Q x1 x2 x4 a b ta tb e2 e4 l hx hl ms bd ok R0 hQ k _ h5 w5 (wt 1 ((Z.k.L l).so k) ((Z.k.L l).sh k) ((Z.k.L l).va k) (fz_of a b) z) (nz_dec h6' (by omega)) (by omega) (fk3.tr o5) a1 ?_
              rcases a2 with ⟨b1, b2⟩ | ⟨b1, b2, b3⟩
              · have b2 : wt 1 ((Z.k.L l).so k) ((Z.k.L l).sh k) ((Z.k.L l).va k) (fz_of a b) z = (-1, 0) := b2
                rw [if_pos b2] at i4
                exact Or.inr ⟨b1, i4.symm⟩
              · have b3' : wt 1 ((Z.k.L l).so k) ((Z.k.L l).sh k) ((Z.k.L l).va k) (fz_of a b) z ≠ (-1, 0) := b3
                rw [if_neg b3'] at i4
                exact Or.inl ⟨b1, b2, a3 b3, i4⟩
        rw [nz_nat h6']
        refine c_times X (d + 1) 227 _ h1 171 _ _ _ _ false (a, b) ((Z.k.L l).va k) is171 f e2 e4 (uq.a v) (uq.b v) (gz_told ta tb) gv.1.z (fun h2 o2 m2 => ?_)
        have em : fz_mul (a, b) ((Z.k.L l).va k) = fz_mul (fz_of a b) ((Z.k.L l).va k) := by rw [fz_mul_c, mul_told ta tb, fz_mul_c]
        have g2 := rz_mul (w := false) (p := (a, b)) (q := (Z.k.L l).va k)
        rw [em] at m2 g2
        have pT : fz_mul (fz_of a b) ((Z.k.L l).va k) ≠ (-1, 0) → gp (fz_mul (fz_of a b) ((Z.k.L l).va k)) := fun y => fz_mul_p ⟨tx.1, tx.2.1⟩ gv y
        have ms2 := ms1.mv bd (mi_fk o2)
        refine ⟨is171, _, ms2.r 10, gj 175 0 rfl (by decide), is171, _, ms2.r 11, gj 176 0 rfl (by decide), ?_⟩
        rw [ms2.k.ls hl hkl, ms2.k.lu hl hkl]
        refine ⟨fun e => ?_, fun e => ⟨is171, is171, is171, ?_⟩⟩
        · have ew : wp 1 ((Z.k.L l).so k) ((Z.k.L l).sh k) ((Z.k.L l).va k) (fz_of a b) = fz_mul (fz_of a b) ((Z.k.L l).va k) := by
            unfold wp
            rw [if_neg (by decide), if_neg ((ris_u (ok3 k hkl).2).mpr e)]
          exact after h2 _ _ o2 m2 (by rw [ew]; exact rq_0) (fun y => by rw [ew] at y ⊢; exact ⟨(pT y).1, by have := (pT y).2; omega⟩)
        · have ew : wp 1 ((Z.k.L l).so k) ((Z.k.L l).sh k) ((Z.k.L l).va k) (fz_of a b) = fz_neg (fz_inv (fz_mul (fz_of a b) ((Z.k.L l).va k))) := by
            unfold wp
            rw [if_neg (by decide), if_pos (Classical.byContradiction (fun y => e ((ris_u (ok3 k hkl).2).mp y)))]
          have r2 : rq (rz false (fz_mul (fz_of a b) ((Z.k.L l).va k))).1 (rz false (fz_mul (fz_of a b) ((Z.k.L l).va k))).2 (fz_mul (fz_of a b) ((Z.k.L l).va k)) := rq_0
          generalize rz false (fz_mul (fz_of a b) ((Z.k.L l).va k)) = p2 at m2 g2 r2
          refine c_over X (d + 1) 227 _ h2 171 _ _ _ _ p2.1 (1, 1) p2.2 is171 m2.2.2 rfl rfl m2.1 m2.2.1 gz_1 g2.z (fun h3 o3 m3 => ⟨is171, is171, is171, ?_⟩)
          have g3 := rz_ovr (w := p2.1) (p := (1, 1)) g2.z
          have r3 : rq (rz p2.1 (fz_ovr (1, 1) p2.2)).1 (rz p2.1 (fz_ovr (1, 1) p2.2)).2 (fz_inv (fz_mul (fz_of a b) ((Z.k.L l).va k))) := by
            rcases r2 with ⟨y1, y2⟩ | ⟨y1, y2, y3⟩
            · rw [y1, rz_t, y2, fz_inv_W]
              exact Or.inl ⟨rfl, rfl⟩
            · rw [y1, y2, ovr_inv (by have := (pT y3).2; omega)]
              exact rq_0
          generalize rz p2.1 (fz_ovr (1, 1) p2.2) = p3 at m3 g3 r3
          refine c_minus X (d + 1) 227 _ h3 171 _ _ _ _ p3.1 (0, 1) p3.2 is171 m3.2.2 rfl rfl m3.1 m3.2.1 gz_0 g3.z (fun h4 o4 m4 => ?_)
          have r4 : rq (rz p3.1 (fz_sub (0, 1) p3.2)).1 (rz p3.1 (fz_sub (0, 1) p3.2)).2 (fz_neg (fz_inv (fz_mul (fz_of a b) ((Z.k.L l).va k)))) := rq_1 fz_neg fz_neg_W r3
          refine after h4 _ _ ((o2.tr o3).tr o4) m4 (by rw [ew]; exact r4) (fun y => ?_)
          rw [ew] at y ⊢
          have n1 : fz_inv (fz_mul (fz_of a b) ((Z.k.L l).va k)) ≠ (-1, 0) := fun q => y (by rw [q, fz_neg_W])
          have n0 : fz_mul (fz_of a b) ((Z.k.L l).va k) ≠ (-1, 0) := fun q => n1 (by rw [q, fz_inv_W])
          have iz := inv_nz (pT n0).1 (by have := (pT n0).2; omega) n1
          exact neg_nz iz.1 iz.2
      · subst i1
        rw [show jv_gI h1 171 6 = 1 from hw] at f
        exact absurd f (by decide)
theorem m_reactsAt (x1 : Int32) (x2 x4 : Int64) (a b : Int) (ta : 1 ≤ a ∧ a ≤ 9999) (tb : 1 ≤ b ∧ b ≤ 9999) (e2 : x2.toInt = a) (e4 : x4.toInt = b) (l : Nat) (hx : x1.toInt = l) (hl : l < Z.k.nl) (ms : MS h Z) (bd : bdZ Z) (ok : okZ Z) (hQ : ∀ h' w', oT (mI 171) qL h h' → h'.1 171 6 = (if w' then 1 else 0) → rq w' (q43 h') ((Z.k.L l).wo 1 (fz_of a b) (Z.k.L l).sz (Z.k.L l).we) → ((Z.k.L l).wo 1 (fz_of a b) (Z.k.L l).sz (Z.k.L l).we ≠ (-1, 0) → zo 1 ((Z.k.L l).wo 1 (fz_of a b) (Z.k.L l).sz (Z.k.L l).we)) → K h') : jV X (d + 5) y_Model_reactsAt [.ref 171, .int x1, .long x2, .long x4] 227 h K := by
  have hml := bd.2.1.2.1
  have o0 : oT (mI 171) qL h (jv_uI h 171 6 0) := oT.rf.uI ⟨rfl, rfl⟩
  have ms0 := ms.mv bd (wF_fr o0)
  have hsz := bd.2.1.2.2.1 l hl
  refine r_Model_reactsAt X (d + 4) 227 _ 171 x1 x2 x4 h ⟨is171, Or.inl rfl, is171, m_begins X (d + 3) _ _ Z x1 l hx hl ms0 bd ok (fun h1 o1 a1 a2 => ?_)⟩
  have fk1 := o0.tr o1
  have ms1 := ms.mv bd (wF_fr fk1)
  refine ⟨is171, _, ms1.r 12, jx (len := 6) rfl (by decide) (by omega) (by omega), ?_⟩
  rw [nz_nat hx]
  have lz := ms1.k.lz hl
  have hp := nz_12p hx (by omega) lz (by omega)
  have e1 : (1 : Int32).toInt = 1 := rfl
  have zw := zo_we 1 (ok.1.2.1 l hl)
  exact react_l X d h Z _ x1 x2 x4 a b ta tb e2 e4 l hx hl ms bd ok _ hQ (Z.k.L l).sz _ h1 false _ (by rw [nz_subi (by rw [hp, e1]; omega) (by rw [hp, e1]; omega), hp, e1]) (Nat.le_refl _) fk1 (by rw [a2]; exact uI_eq) (Or.inl ⟨rfl, a1, zw.1, rfl⟩)
theorem w_react (x a b p : Int32) (ms : MS h Z) (bd : bdZ Z) (ok : okZ Z) (hK : dJ h (q_react x a b p Z) KJ) : jL X 8 y_Model_react [.ref 171, .int x, .int a, .int b, .int p] 227 h KJ := by
  unfold q_react at hK
  have hml := bd.2.1.2.1
  refine r_Model_react X 7 227 _ 171 x a b p h ⟨is171, m_isLadder X 5 h _ Z x ms bd (fun hr => ⟨fun z => absurd z (by decide), fun _ => c_mTold X 5 227 _ h a b ⟨fun y => ?_, fun y => c_in X 6 227 _ h _ _ _ ⟨fun y2 => ?_, fun y2 => ⟨is171, ?_⟩⟩⟩⟩) (fun hr => ⟨fun _ => ?_, fun z => absurd rfl z⟩)⟩
  · rw [nz_bt] at y
    rw [if_neg (fun z => y z.2.1)] at hK
    exact hK _ rfl h oM.rf ms
  · rw [nz_bt, Int32.toInt_toInt64] at y2
    rw [tell_no y2] at hK
    have hK : dJ h (NOx, Z) KJ := by
      revert hK
      split
      · exact id
      · exact id
    exact hK _ rfl h oM.rf ms
  · rw [nz_bt, Classical.not_not] at y
    rw [nz_bt, Classical.not_not, Int32.toInt_toInt64] at y2
    have hr' := hr
    obtain ⟨l, hx, hl, hL, hc⟩ := isL.n hr
    rw [hL] at hK
    refine m_reacts X 6 h _ Z x l hx hl ms bd (fun lo => ⟨fun _ => ⟨is171, ?_⟩, fun z => absurd z (by decide)⟩) (fun lo => ⟨fun z => absurd rfl z, fun _ => ?_⟩)
    · rw [if_pos ⟨hr', y, lo⟩] at hK
      exact m_reactsAt X 2 h _ Z x _ _ a.toInt b.toInt y.1 y.2 (Int32.toInt_toInt64 _) (Int32.toInt_toInt64 _) l hx hl ms bd ok (fun h1 w1 o1 a1 a2 a3 => wend h1 _ p y2 w1 _ a1 a2 (fun v hv => hK v hv h1 (fK.M (wF_fr (Zk := Z.k) o1)) (ms.mv bd (wF_fr o1))))
    · rw [if_neg (fun z => lo z.2.2)] at hK
      exact hK _ rfl h oM.rf ms
  · rw [if_neg (fun z => hr z.1)] at hK
    exact hK _ rfl h oM.rf ms
theorem mfirst_l (Q : jv_Q) (x1 x2 : Int32) (h02 : 0 ≤ x2.toInt ∧ x2.toInt ≤ 2) (l : Nat) (hx : x1.toInt = l) (hl : l < Z.k.nl) (ms : MS h Z) (bd : bdZ Z) (ok : okZ Z) (R0 : Int) (hQ : ∀ z : Int32, z.toInt = R0 → ∀ h', oT (mI 171) qL h h' → Q (some (.int z)) h') : ∀ (m k : Nat) (x3 : Int32) (h1 : jv_H), x3.toInt = k → 1 ≤ k → k + m = 41 → oT (mI 171) qL h h1 → frs (Z.k.L l) x2 m k = R0 → a_Model_first_35 X 7 227 Q 171 x1 x2 x3 h1 0
  | 0, k, x3, h1, h3, hk1, hm, fk, hR => by
    exact r_Model_first_35 X 7 227 Q 171 x1 x2 x3 h1 ⟨fun _ => hQ (-2) (by rw [← hR]; rfl) h1 fk, fun z => absurd (nz_lt.mpr (by rw [h3]; show (40 : Int) < _; omega)) z⟩
  | m + 1, k, x3, h1, h3, hk1, hm, fk, hR => by
    have ms1 := ms.mv bd (wF_fr fk)
    have e0 : (0 : Int64).toInt = 0 := rfl
    have cz : ∀ v : Int64, lg_cmp v 0 = 0 ↔ v.toInt = 0 := fun v => by
      rw [lg_cmp_eq, ← Int64.toInt_inj, e0]
    refine r_Model_first_35 X 7 227 Q 171 x1 x2 x3 h1 ⟨fun z => ?_, fun _ => ⟨is171, ?_⟩⟩
    · have : (40 : Int) < x3.toInt := nz_lt.mp z
      omega
    · refine m_reactsAt X 2 h1 _ Z x1 _ _ (k : Int) 1 ⟨by omega, by omega⟩ ⟨by omega, by omega⟩ (by rw [Int32.toInt_toInt64, h3]) rfl l hx hl ms1 bd ok (fun h2 w2 o2 a1 a2 a3 => ?_)
      unfold frs at hR
      generalize (Z.k.L l).wo 1 (fz_of (k : Int) 1) (Z.k.L l).sz (Z.k.L l).we = V at hR a2 a3
      have fk2 := fk.tr o2
      have next : ¬ knd V x2 → V ≠ (-1, 0) → a_Model_first_35 X 7 227 Q 171 x1 x2 (x3 + 1) h2 0 := fun nk nw => by
        rw [if_neg nw, if_neg nk] at hR
        exact mfirst_l Q x1 x2 h02 l hx hl ms bd ok R0 hQ m (k + 1) _ h2 (nz_inc h3 (by omega)) (by omega) (by omega) fk2 hR
      have here : knd V x2 → V ≠ (-1, 0) → Q (some (.int x3)) h2 := fun nk nw => by
        rw [if_neg nw, if_pos nk] at hR
        exact hQ _ (by rw [h3]; exact hR) h2 fk2
      refine ⟨is171, fun f => ?_, fun f => ?_⟩
      · rcases a2 with ⟨i1, i2⟩ | ⟨i1, i2, i3⟩
        · subst i1
          rw [show jv_gI h2 171 6 = 1 from a1] at f
          exact absurd f (by decide)
        · have z43 : (jv_gL h2 171 43).toInt = V.1 := congrArg Prod.fst i2
          have z44 : (jv_gL h2 171 44).toInt = V.2 := congrArg Prod.snd i2
          have zz := a3 i3
          refine ⟨fun e => ⟨fun e1 => ⟨is171, fun c => ⟨fun _ => next ?_ i3, fun y => absurd rfl y⟩, fun c => ⟨fun y => absurd y (by decide), fun _ => here ?_ i3⟩⟩, fun e1 => ⟨is171, fun c => ⟨fun _ => next ?_ i3, fun y => absurd rfl y⟩, fun c => ⟨fun y => absurd y (by decide), fun _ => here ?_ i3⟩⟩⟩, fun e => ⟨is171, fun c => ⟨fun _ => next ?_ i3, fun y => absurd rfl y⟩, fun c => ⟨fun y => absurd y (by decide), fun _ => here ?_ i3⟩⟩⟩
          · have c := Int64.le_iff_toInt_le.mp ((lg_cmp_ge _ _).mp c)
            rw [e0, z43] at c
            unfold knd
            rw [if_neg e1, if_neg e]
            omega
          · have c : ¬ (0 : Int64).toInt ≤ (jv_gL h2 171 43).toInt := fun y => c ((lg_cmp_ge _ _).mpr (Int64.le_iff_toInt_le.mpr y))
            rw [e0, z43] at c
            unfold knd
            rw [if_neg e1, if_neg e]
            omega
          · rw [cz, z44] at c
            unfold knd
            rw [if_pos e1]
            exact fun y => c (by rw [y])
          · rw [cz, z44] at c
            unfold knd
            rw [if_pos e1]
            exact zz.elim id (fun y => absurd c (by have := y.1.1.2.1; omega))
          · rw [cz, z43] at c
            unfold knd
            rw [if_neg (by rw [e]; decide), if_pos e]
            exact fun y => c (by rw [y])
          · rw [cz, z43] at c
            unfold knd
            rw [if_neg (by rw [e]; decide), if_pos e]
            exact zz.elim (fun y => by rw [y] at c; exact absurd c (by decide)) (fun y => (gd_z y.1).mp c)
      · rcases a2 with ⟨i1, i2⟩ | ⟨i1, i2, i3⟩
        · rw [if_pos i2] at hR
          exact hQ (-6) (by rw [← hR]; rfl) h2 fk2
        · subst i1
          exact absurd a1 f
theorem w_first (x w : Int32) (ms : MS h Z) (bd : bdZ Z) (ok : okZ Z) (hK : dI h (q_first x w Z) KI) : jI X 8 y_Model_first [.ref 171, .int x, .int w] 227 h KI := by
  unfold q_first at hK
  refine r_Model_first X 7 227 _ 171 x w h ⟨is171, m_isLadder X 5 h _ Z x ms bd (fun hr => ⟨fun z => absurd z (by decide), fun _ => c_in X 6 227 _ h _ _ _ ⟨fun y => ⟨is171, ?_⟩, fun y => ?_⟩⟩) (fun hr => ⟨fun _ => ?_, fun z => absurd rfl z⟩)⟩
  · rw [nz_bt, Classical.not_not, Int32.toInt_toInt64] at y
    rw [if_pos ⟨hr, y⟩] at hK
    obtain ⟨l, hx, hl, hL, hc⟩ := isL.n hr
    rw [hL] at hK
    refine m_reacts X 6 h _ Z x l hx hl ms bd (fun lo => ⟨fun _ => ?_, fun z => absurd z (by decide)⟩) (fun lo => ⟨fun z => absurd rfl z, fun _ => ?_⟩)
    · rw [if_pos lo] at hK
      exact mfirst_l X h Z _ x w y l hx hl ms bd ok _ (fun z hz h' o' => hK z hz h' (fK.M (wF_fr (Zk := Z.k) o')) (ms.mv bd (wF_fr o'))) 40 1 1 h rfl (by omega) rfl oT.rf rfl
    · rw [if_neg lo] at hK
      exact hK _ rfl h oM.rf ms
  · rw [nz_bt, Int32.toInt_toInt64] at y
    rw [if_neg (fun z => y z.2)] at hK
    exact hK _ rfl h oM.rf ms
  · rw [if_neg (fun z => hr z.1)] at hK
    exact hK _ rfl h oM.rf ms
end
