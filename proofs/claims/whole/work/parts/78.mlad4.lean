/-! ===== the reference: dull ===== -/
theorem inv_ovr {q : Int × Int} (h : gp q) : fz_ovr (1, 1) q = fz_inv q := by
  unfold fz_ovr fz_quo fz_inv
  have h1 := h.2
  have h2 := h.1.1.2.1
  rw [if_neg (by omega), if_neg (by omega), if_neg (by omega), Int.one_mul, Int.one_mul]
section
variable (X : jv_X) (d : Nat) (h : jv_H) (K : jv_H → Prop) (KI : Int32 → jv_H → Prop) (KJ : Int64 → jv_H → Prop) (Z : zZ)
theorem dull_l (Q : jv_Q) (x1 x2 x3 x4 : Int32) (t1 : tol x2 x3) (l : Nat) (hx : x1.toInt = l) (hl : l < Z.k.nl) (ms : MS h Z) (bd : bdZ Z) (ok : okZ Z) (hn : Z.k.nl < 6) (h4 : x4.toInt = ((Z.k.L l).sz + (Z.k.L l).cr (Z.k.L l).sz : Nat)) (h12 : (Z.k.L l).sz + (Z.k.L l).cr (Z.k.L l).sz ≤ 12)
    (hK1 : ∀ B, lf (dl_st (Z.k.L l) (fz_of x2.toInt x3.toInt)) (Z.k.L l).sz ((Z.k.L l).cut 0) = some B → ∀ z : Int32, z.toInt = Z.k.nl → ∀ h', oM h h' → MS h' (Z.sk (Z.k.addL B)) → Q (some (.int z)) h') (hK0 : lf (dl_st (Z.k.L l) (fz_of x2.toInt x3.toInt)) (Z.k.L l).sz ((Z.k.L l).cut 0) = none → ∀ h', oM h h' → MS h' Z → Q (some (.int (-6))) h') :
    ∀ (m k : Nat) (x5 x6 : Int32) (h1 : jv_H) (wc : Bool), x5.toInt = (12 * Z.k.nl + (k + (Z.k.L l).cr k) : Nat) → x6.toInt = (12 * l + k : Nat) → k + m = (Z.k.L l).sz → fK Z.k h h1 → h1.1 171 6 = (if wc then 1 else 0) → bsi h1 Z.k.nl (Z.k.L l) (dl_st (Z.k.L l) (fz_of x2.toInt x3.toInt)) k (k + (Z.k.L l).cr k) wc → a_Model_dull_76 X 7 227 Q 171 x1 x2 x3 x4 x5 x6 h1 0
  | 0, k, x5, x6, h1, wc, h5, h6, hm, fk, hw, inv => by
    have ms1 := ms.mv bd fk
    have lz := ms1.k.lz hl
    have hsz := bd.2.1.2.2.1 l hl
    have hp := nz_12p hx (by omega) lz (by omega)
    refine r_Model_dull_76 X 7 227 Q 171 x1 x2 x3 x4 x5 x6 h1 ⟨is171, _, ms1.r 12, jx (len := 6) rfl (by decide) (by omega) (by omega), ?_⟩
    rw [nz_nat hx]
    have ek : k = (Z.k.L l).sz := by omega
    subst ek
    exact ⟨fun _ => bsi_end X h Z Q x1 x4 l hx hl ms bd hn _ h1 wc _ h4 fk hw inv hK1 hK0, fun z => absurd (nz_le.mpr (by rw [hp, h6]; omega)) z⟩
  | m + 1, k, x5, x6, h1, wc, h5, h6, hm, fk, hw, inv => by
    have ms1 := ms.mv bd fk
    have lz := ms1.k.lz hl
    have hsz := bd.2.1.2.2.1 l hl
    have hp := nz_12p hx (by omega) lz (by omega)
    have hkl : k < (Z.k.L l).sz := by omega
    have hcr := (Z.k.L l).cr_mono (show k + 1 ≤ (Z.k.L l).sz by omega)
    have hcr0 := (Z.k.L l).cr_mono (show k ≤ (Z.k.L l).sz by omega)
    obtain ⟨ok1, ok2, ok3, ok4, ok5, ok6⟩ := ok.1.2.1 l hl
    have gj : ∀ q : Nat, ∀ t : Nat, SHT q = (t, 72) → q < 227 → jv_ix SHT 227 q t x6 := fun q t h1 h2 => jx h1 h2 (by omega) (by omega)
    have gv := (ok3 k hkl).1
    have v := ms1.k.lv hl hkl
    have h5' := nz_inc h5 (by omega)
    refine r_Model_dull_76 X 7 227 Q 171 x1 x2 x3 x4 x5 x6 h1 ⟨is171, _, ms1.r 12, jx (len := 6) rfl (by decide) (by omega) (by omega), ?_⟩
    rw [nz_nat hx]
    refine ⟨fun z => ?_, fun _ => ⟨is171, _, ms1.r 10, gj 175 0 rfl (by decide), is171, _, ms1.r 11, gj 176 0 rfl (by decide), is171, _, ms1.r 14, gj 179 1 rfl (by decide), is171, _, ms1.r 15, gj 180 1 rfl (by decide), is171, ?_⟩⟩
    · have := nz_le.mp z
      rw [hp, h6] at this
      omega
    · rw [nz_nat h6]
      refine m_lays X 6 h1 _ _ _ h5 (by omega) _ _ _ _ ms1.r (fun h2 o2 b1 b2 b3 => ?_)
      rw [ms1.k.ls hl hkl] at b1
      rw [ms1.k.lu hl hkl] at b2
      have b3 : uq h2 179 180 (12 * Z.k.nl + (k + (Z.k.L l).cr k)) = (Z.k.L l).va k := b3.trans v
      have fk2 := fk.tr (ly_fr o2)
      have ms2 := ms.mv bd fk2
      have w2 : h2.1 171 6 = (if wc then 1 else 0) := by rw [o2.2.1 _ _ (fun z => by unfold lyI at z; omega)]; exact hw
      have v2 := ms2.k.lv hl hkl
      refine ⟨is171, _, ms2.r 10, gj 175 0 rfl (by decide), ?_⟩
      rw [ms2.k.ls hl hkl]
      have sB : wc = false → ∃ A, lf (dl_st (Z.k.L l) (fz_of x2.toInt x3.toInt)) k ((Z.k.L l).cut 0) = some A ∧ sl h2 Z.k.nl (A.add ((Z.k.L l).so k) ((Z.k.L l).sh k) ((Z.k.L l).va k)) ∧ A.sz = k + (Z.k.L l).cr k ∧ A.en = (Z.k.L l).en ∧ A.lo = (Z.k.L l).lo := fun hwc => by
        rcases inv with ⟨i1, A, i2, i3, i4, i5, i6⟩ | ⟨i1, i2⟩
        · exact ⟨A, i2, sl_add i3 (by rw [i4]; exact o2) (by rw [i4]; exact b1) (by rw [i4]; exact b2) (by rw [i4]; exact b3), i4, i5, i6⟩
        · rw [i1] at hwc; cases hwc
      refine ⟨fun e => ⟨is171, _, ms2.r 14, gj 179 1 rfl (by decide), is171, _, ms2.r 15, gj 180 1 rfl (by decide), is171, ?_⟩, fun e => ?_⟩
      · have c1 : (Z.k.L l).cr (k + 1) = (Z.k.L l).cr k + 1 := by
          show (Z.k.L l).cr k + (if (Z.k.L l).so k = 2 then 0 else 1) = _
          rw [if_neg e]
        have hst : ∀ A, dl_st (Z.k.L l) (fz_of x2.toInt x3.toInt) k A = if fz_mul ((Z.k.L l).va k) (fz_of x2.toInt x3.toInt) = (-1, 0) then none else some ((A.add ((Z.k.L l).so k) ((Z.k.L l).sh k) ((Z.k.L l).va k)).add 2 ((Z.k.L l).sh k) (if (Z.k.L l).sh k = 0 then fz_mul ((Z.k.L l).va k) (fz_of x2.toInt x3.toInt) else fz_inv (fz_mul ((Z.k.L l).va k) (fz_of x2.toInt x3.toInt)))) := fun A => if_neg e
        have nn : wc = false → fz_mul ((Z.k.L l).va k) (fz_of x2.toInt x3.toInt) = (-1, 0) → lf (dl_st (Z.k.L l) (fz_of x2.toInt x3.toInt)) (Z.k.L l).sz ((Z.k.L l).cut 0) = none := fun hwc z => by
          obtain ⟨A, i2, _⟩ := sB hwc
          exact lf_none (show k + 1 ≤ (Z.k.L l).sz by omega) (by rw [lf_s i2, hst, if_pos z])
        refine c_times X 4 227 _ h2 171 _ _ _ _ wc ((Z.k.L l).va k) (x2.toInt, x3.toInt) is171 w2 (uq.a v2) (uq.b v2) (Int32.toInt_toInt64 _) (Int32.toInt_toInt64 _) gv.1.z (gz_told t1.1 t1.2) (fun h3 o3 m3 => ?_)
        rw [mul_told t1.1 t1.2] at m3
        have g3 : gd (rz wc (fz_mul ((Z.k.L l).va k) (fz_of x2.toInt x3.toInt))).2 := rz_mul
        have s3' := rq_io (wc := wc) (w0 := false) (T := fz_mul ((Z.k.L l).va k) (fz_of x2.toInt x3.toInt)) (N := lf (dl_st (Z.k.L l) (fz_of x2.toInt x3.toInt)) (Z.k.L l).sz ((Z.k.L l).cut 0) = none) (inv.imp (fun z => ⟨z.1, rfl⟩) (fun z => ⟨z.1, Or.inr z.2⟩)) nn
        generalize hq3 : rz wc (fz_mul ((Z.k.L l).va k) (fz_of x2.toInt x3.toInt)) = r3 at m3 g3 s3'
        have fk3 := fk2.tr (mi_fk (Zk := Z.k) o3)
        have ms3 := ms.mv bd fk3
        have last : ∀ (h4 : jv_H) (w4 : Bool) (q4 : Int × Int) (u4 : Int32), oT (mI 171) (mL 171) h2 h4 → MI h4 171 w4 q4 → u4 = (Z.k.L l).sh k → ((w4 = false ∧ wc = false ∧ fz_mul ((Z.k.L l).va k) (fz_of x2.toInt x3.toInt) ≠ (-1, 0) ∧ q4 = (if (Z.k.L l).sh k = 0 then fz_mul ((Z.k.L l).va k) (fz_of x2.toInt x3.toInt) else fz_inv (fz_mul ((Z.k.L l).va k) (fz_of x2.toInt x3.toInt)))) ∨ (w4 = true ∧ lf (dl_st (Z.k.L l) (fz_of x2.toInt x3.toInt)) (Z.k.L l).sz ((Z.k.L l).cut 0) = none)) → jV X 7 y_Model_lays [.ref 171, .int (x5 + 1), .int 2, .int u4, .long (jv_gL h4 171 4), .long (jv_gL h4 171 5)] 227 h4 (fun h18 => a_Model_dull_76 X 7 227 Q 171 x1 x2 x3 x4 (x5 + 1 + 1) (x6 + 1) h18 0) := fun h4' w4 q4 u4 o4 m4 eu i4 => by
          have fk4 := fk2.tr (mi_fk (Zk := Z.k) o4)
          have ms4 := ms.mv bd fk4
          refine m_lays X 6 h4' _ _ (12 * Z.k.nl + (k + (Z.k.L l).cr k + 1)) (by rw [h5']; omega) (by omega) _ _ _ _ ms4.r (fun h5' o5 d1 d2 d3 => ?_)
          refine dull_l Q x1 x2 x3 x4 t1 l hx hl ms bd ok hn h4 h12 hK1 hK0 m (k + 1) _ _ h5' w4 (by rw [nz_inc (nz_inc h5 (by omega)) (by omega), c1]; omega) (by rw [nz_inc h6 (by omega)]; omega) (by omega) (fk4.tr (ly_fr o5)) (by rw [o5.2.1 _ _ (fun z => by unfold lyI at z; omega)]; exact m4.2.2) ?_
          rcases i4 with ⟨p1, p2, p3, p4⟩ | ⟨p1, p2⟩
          · obtain ⟨A, i2, i3, i4, i5, i6⟩ := sB p2
            have i4' : (A.add ((Z.k.L l).so k) ((Z.k.L l).sh k) ((Z.k.L l).va k)).sz = k + (Z.k.L l).cr k + 1 := by rw [fin_add, i4]
            refine Or.inl ⟨p1, _, by rw [lf_s i2, hst, if_neg p3], ?_, ?_, ?_, ?_⟩
            · exact sl_add (sl_mi i3 o4) (by rw [i4']; exact o5) (by rw [i4', d1]) (by rw [i4', d2, eu]) (by rw [i4', d3, ← p4]; exact Prod.ext m4.1 m4.2.1)
            · rw [fin_add, fin_add, i4, c1]; omega
            · exact i5
            · exact i6
          · exact Or.inr ⟨p1, p2⟩
        refine ⟨is171, _, ms3.r 11, gj 176 0 rfl (by decide), ?_⟩
        rw [ms3.k.lu hl hkl]
        refine ⟨fun u => ⟨is171, _, ms3.r 11, gj 176 0 rfl (by decide), is171, is171, is171, ?_⟩, fun u => ⟨is171, is171, is171, ?_⟩⟩
        · refine last h3 r3.1 r3.2 _ o3 m3 (ms3.k.lu hl hkl) ?_
          have u0 : (Z.k.L l).sh k = 0 := (ok3 k hkl).2.elim id (fun z => absurd z u)
          rcases s3' with ⟨z1, z2, z3, z4⟩ | ⟨z1, z2⟩
          · exact Or.inl ⟨z1, z4, by rw [← z3]; exact g3.nw, by rw [if_pos u0, z3]⟩
          · exact Or.inr ⟨z1, z2.elim (fun y => by cases y) id⟩
        · refine c_over X 4 227 _ h3 171 _ _ _ _ r3.1 (1, 1) r3.2 is171 m3.2.2 rfl rfl m3.1 m3.2.1 gz_1 g3.z (fun h4' o4 m4 => ?_)
          have fk4 := fk3.tr (mi_fk (Zk := Z.k) o4)
          have ms4 := ms.mv bd fk4
          refine ⟨is171, _, ms4.r 11, gj 176 0 rfl (by decide), is171, is171, is171, ?_⟩
          refine last h4' _ _ _ (o3.tr o4) m4 (ms4.k.lu hl hkl) ?_
          have u0 : ¬ (Z.k.L l).sh k = 0 := fun z => by rw [u] at z; exact absurd z (by decide)
          rcases s3' with ⟨z1, z2, z3, z4⟩ | ⟨z1, z2⟩
          · have nw : fz_mul ((Z.k.L l).va k) (fz_of x2.toInt x3.toInt) ≠ (-1, 0) := by rw [← z3]; exact g3.nw
            have tq := fz_told t1.1 t1.2
            have pq := fz_mul_p gv ⟨tq.1, tq.2.1⟩ nw
            have ip := fz_inv_p pq
            rw [z1, z3, inv_ovr pq, rz_f (by rw [ip.1]; exact ip.2.1.nw)]
            exact Or.inl ⟨rfl, z4, nw, by rw [if_neg u0]⟩
          · rw [z1, rz_t]
            exact Or.inr ⟨rfl, z2.elim (fun y => by cases y) id⟩
      · have c1 : (Z.k.L l).cr (k + 1) = (Z.k.L l).cr k := by
          show (Z.k.L l).cr k + (if (Z.k.L l).so k = 2 then 0 else 1) = _
          rw [if_pos e, Nat.add_zero]
        refine dull_l Q x1 x2 x3 x4 t1 l hx hl ms bd ok hn h4 h12 hK1 hK0 m (k + 1) _ _ h2 wc (by rw [nz_inc h5 (by omega), c1]; omega) (by rw [nz_inc h6 (by omega)]; omega) (by omega) fk2 w2 ?_
        rcases inv with ⟨i1, _⟩ | ⟨i1, i2⟩
        · obtain ⟨A, i2, i3, i4, i5, i6⟩ := sB i1
          exact Or.inl ⟨i1, _, (lf_s i2).trans (if_pos e), i3, by rw [fin_add, i4, c1]; omega, i5, i6⟩
        · exact Or.inr ⟨i1, i2⟩
theorem w_dull (x a b : Int32) (ms : MS h Z) (bd : bdZ Z) (ok : okZ Z) (hK : dI h (q_dull x a b Z) KI) : jI X 8 y_Model_dull [.ref 171, .int x, .int a, .int b] 227 h KI := by
  unfold q_dull at hK
  have hz := ms.k.zl
  have hml := bd.2.1.2.1
  refine r_Model_dull X 7 227 _ 171 x a b h ⟨is171, m_isLadder X 5 h _ Z x ms bd (fun hr => ⟨fun z => absurd z (by decide), fun _ => c_mTold X 5 227 _ h a b ⟨fun y => ⟨is171, fun e => ⟨is171, ?_⟩, fun e => ?_⟩, fun y => ?_⟩⟩) (fun hr => ⟨fun _ => ?_, fun z => absurd rfl z⟩)⟩
  · rw [nz_bt, Classical.not_not] at y
    have hn : Z.k.nl < 6 := by
      have : Z.k.nl ≠ 6 := fun z => e (Int32.toInt_inj.mp (by rw [hz, z]; rfl))
      omega
    rw [if_pos ⟨hr, y⟩, if_neg (by omega)] at hK
    obtain ⟨l, hx, hl, hL, hc⟩ := isL.n hr
    rw [hL] at hK
    have hcl := (Z.k.L l).cr_le (Z.k.L l).sz
    have hsz := bd.2.1.2.2.1 l hl
    refine m_widened X 6 h _ Z x l hx hl ms bd ok (fun hcw z hz' => ⟨fun _ => ⟨fun p => ⟨is171, Or.inl rfl, is171, ?_⟩, fun p => ?_⟩, fun p => absurd (nz_le.mpr (by rw [hz']; show (0 : Int) ≤ _; omega)) p⟩) (fun hcw => ⟨fun p => absurd p (by decide), fun _ => ?_⟩)
    · have p : z.toInt ≤ 12 := nz_le.mp p
      rw [cif_t hcw, if_neg (by omega)] at hK
      have o0 : fK Z.k h (jv_uI h 171 6 0) := oT.rf.uI (by unfold frI; omega)
      have e18 : jv_gI (jv_uI h 171 6 0) 171 18 = jv_gI h 171 18 := rfl
      rw [e18]
      refine dull_l X h Z _ x a b z y l hx hl ms bd ok hn hz' (by omega) (fun B hB z hz' h' o' m' => ?_) (fun hB h' o' m' => ?_) (Z.k.L l).sz 0 _ _ _ false (nz_12 hz hn) (nz_12 hx (by omega)) (by omega) o0 uI_eq (Or.inl ⟨rfl, (Z.k.L l).cut 0, rfl, fun j hj => absurd hj (Nat.not_lt_zero _), rfl, rfl, rfl⟩)
      · rw [hB] at hK
        exact hK z hz' h' o' m'
      · rw [hB] at hK
        exact hK _ rfl h' o' m'
    · have p : ¬ z.toInt ≤ 12 := fun q => p (nz_le.mpr q)
      rw [cif_t hcw, if_pos (by omega)] at hK
      exact hK _ rfl h oM.rf ms
    · rw [cif_f hcw] at hK
      exact hK _ rfl h oM.rf ms
  · rw [nz_bt, Classical.not_not] at y
    have hn : Z.k.nl = 6 := by
      have : (jv_gI h 171 18).toInt = 6 := by rw [e]; rfl
      omega
    rw [if_pos ⟨hr, y⟩, if_pos hn] at hK
    exact hK _ rfl h oM.rf ms
  · rw [nz_bt] at y
    rw [if_neg (fun z => y z.2)] at hK
    exact hK _ rfl h oM.rf ms
  · rw [if_neg (fun z => hr z.1)] at hK
    exact hK _ rfl h oM.rf ms
end
