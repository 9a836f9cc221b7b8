/-! ===== the reference: band and dull ===== -/
theorem ris_u {s u : Int32} (hu : u = 0 ∨ u = 1) : ris s u ≠ 0 ↔ s = u := by
  unfold ris
  rcases hu with z | z
  · subst z
    rw [if_pos rfl]
    by_cases e : s = 0
    · rw [if_pos e]
      exact ⟨fun _ => e, fun _ => by decide⟩
    · rw [if_neg e]
      exact ⟨fun z => absurd rfl z, fun z => absurd z e⟩
  · subst z
    rw [show (if (1 : Int32) = 0 then (0 : Int32) else 1) = 1 from rfl]
    by_cases e : s = 1
    · rw [if_pos e]
      exact ⟨fun _ => e, fun _ => by decide⟩
    · rw [if_neg e]
      exact ⟨fun z => absurd rfl z, fun z => absurd z e⟩
def bsi (h1 : jv_H) (n : Nat) (L : zL) (st : Nat → zL → Option zL) (k p : Nat) (wc : Bool) : Prop := (wc = false ∧ ∃ A, lf st k (L.cut 0) = some A ∧ sl h1 n A ∧ A.sz = p ∧ A.en = L.en ∧ A.lo = L.lo) ∨ (wc = true ∧ lf st L.sz (L.cut 0) = none)
theorem quo_bt {a b : Int} {v : Int × Int} (ha : 1 ≤ a ∧ a ≤ 9999) (hb : 1 ≤ b ∧ b ≤ 9999) (hv : gp v) : fz_ovr (a, b) v = fz_quo (fz_of a b) v := by
  unfold fz_ovr
  rw [if_neg (by have := hv.2; omega), fz_quo_of1 (fz_told ha hb).1.nw]
theorem rz_ov2 {w : Bool} {p q : Int × Int} (hq : gz q) : gd (rz w (fz_ovr p q)).2 := rz_ovr hq
section
variable (X : jv_X) (d : Nat) (h : jv_H) (K : jv_H → Prop) (KI : Int32 → jv_H → Prop) (KJ : Int64 → jv_H → Prop) (Z : zZ)
theorem widen_l (Q : jv_Q) (x1 : Int32) (l : Nat) (hx : x1.toInt = l) (hl : l < Z.k.nl) (ms : MS h Z) (bd : bdZ Z) (ok : okZ Z) (hK1 : (Z.k.L l).cw → ∀ z : Int32, z.toInt = ((Z.k.L l).sz + (Z.k.L l).cr (Z.k.L l).sz : Nat) → Q (some (.int z)) h) (hK0 : ¬ (Z.k.L l).cw → Q (some (.int (-1))) h) : ∀ (m k : Nat) (x2 x3 : Int32), x2.toInt = (k + (Z.k.L l).cr k : Nat) → x3.toInt = (12 * l + k : Nat) → k + m = (Z.k.L l).sz → (∀ j, j < k → (Z.k.L l).so j = 2 ∨ ris ((Z.k.L l).so j) ((Z.k.L l).sh j) ≠ 0) → a_Model_widened_7 X d 227 Q 171 x1 x2 x3 h 0
  | 0, k, x2, x3, h2, h3, hm, hc => by
    have lz := ms.k.lz hl
    have hml := bd.2.1.2.1
    have hsz := bd.2.1.2.2.1 l hl
    have hp := nz_12p hx (by omega) lz (by omega)
    refine r_Model_widened_7 X d 227 Q 171 x1 x2 x3 h ⟨is171, _, ms.r 12, jx (len := 6) rfl (by decide) (by omega) (by omega), ?_⟩
    rw [nz_nat hx]
    have ek : k = (Z.k.L l).sz := by omega
    subst ek
    exact ⟨fun _ => hK1 hc x2 h2, fun z => absurd (nz_le.mpr (by rw [hp, h3]; omega)) z⟩
  | m + 1, k, x2, x3, h2, h3, hm, hc => by
    have lz := ms.k.lz hl
    have hml := bd.2.1.2.1
    have hsz := bd.2.1.2.2.1 l hl
    have hp := nz_12p hx (by omega) lz (by omega)
    have hkl : k < (Z.k.L l).sz := by omega
    have hcr := (Z.k.L l).cr_le k
    have gj : ∀ q : Nat, ∀ t : Nat, SHT q = (t, 72) → q < 227 → jv_ix SHT 227 q t x3 := fun q t h1 h2 => jx h1 h2 (by omega) (by omega)
    obtain ⟨ok1, ok2, ok3, ok4, ok5, ok6⟩ := ok.1.2.1 l hl
    have e2 : (2 : Int32).toInt = 2 := rfl
    refine r_Model_widened_7 X d 227 Q 171 x1 x2 x3 h ⟨is171, _, ms.r 12, jx (len := 6) rfl (by decide) (by omega) (by omega), ?_⟩
    rw [nz_nat hx]
    refine ⟨fun z => ?_, fun _ => ⟨is171, _, ms.r 10, gj 175 0 rfl (by decide), ?_⟩⟩
    · have := nz_le.mp z
      rw [hp, h3] at this
      omega
    · rw [nz_nat h3, ms.k.ls hl hkl]
      have go : ∀ x2' : Int32, x2'.toInt = ((k + 1) + (Z.k.L l).cr (k + 1) : Nat) → ((Z.k.L l).so k = 2 ∨ ris ((Z.k.L l).so k) ((Z.k.L l).sh k) ≠ 0) → a_Model_widened_7 X d 227 Q 171 x1 x2' (x3 + 1) h 0 := fun x2' e hk => widen_l Q x1 l hx hl ms bd ok hK1 hK0 m (k + 1) x2' (x3 + 1) e (by rw [nz_inc h3 (by omega)]; omega) (by omega) (fun j hj => by
        by_cases ej : j = k
        · rw [ej]; exact hk
        · exact hc j (by omega))
      have c2 : (Z.k.L l).so k = 2 → (Z.k.L l).cr (k + 1) = (Z.k.L l).cr k := fun e => by
        show (Z.k.L l).cr k + (if (Z.k.L l).so k = 2 then 0 else 1) = _
        rw [if_pos e, Nat.add_zero]
      have c1 : ¬ (Z.k.L l).so k = 2 → (Z.k.L l).cr (k + 1) = (Z.k.L l).cr k + 1 := fun e => by
        show (Z.k.L l).cr k + (if (Z.k.L l).so k = 2 then 0 else 1) = _
        rw [if_neg e]
      refine ⟨fun e => ⟨is171, _, ms.r 10, gj 175 0 rfl (by decide), ?_⟩, fun e => ⟨is171, _, ms.r 10, gj 175 0 rfl (by decide), is171, _, ms.r 11, gj 176 0 rfl (by decide), ?_⟩⟩
      · rw [ms.k.ls hl hkl]
        exact ⟨fun z => absurd e z, fun _ => go _ (by rw [nz_inc h2 (by omega), c2 e]; omega) (Or.inl e)⟩
      · rw [ms.k.ls hl hkl, ms.k.lu hl hkl]
        refine ⟨fun e3 => ⟨is171, _, ms.r 10, gj 175 0 rfl (by decide), ?_⟩, fun e3 => hK0 (fun z => ?_)⟩
        · rw [ms.k.ls hl hkl]
          exact ⟨fun _ => go _ (by rw [nz_addi (by rw [h2, e2]; omega) (by rw [h2, e2]; omega), h2, e2, c1 e]; omega) (Or.inr ((ris_u (ok3 k hkl).2).mpr e3)), fun z => absurd z e⟩
        · rcases z k hkl with y | y
          · exact e y
          · exact e3 ((ris_u (ok3 k hkl).2).mp y)
theorem m_widened (x1 : Int32) (l : Nat) (hx : x1.toInt = l) (hl : l < Z.k.nl) (ms : MS h Z) (bd : bdZ Z) (ok : okZ Z) (hK1 : (Z.k.L l).cw → ∀ z : Int32, z.toInt = ((Z.k.L l).sz + (Z.k.L l).cr (Z.k.L l).sz : Nat) → KI z h) (hK0 : ¬ (Z.k.L l).cw → KI (-1) h) : jI X (d + 1) y_Model_widened [.ref 171, .int x1] 227 h KI := by
  have hml := bd.2.1.2.1
  exact r_Model_widened X d 227 _ 171 x1 h (widen_l X d h Z _ x1 l hx hl ms bd ok hK1 hK0 (Z.k.L l).sz 0 0 _ rfl (nz_12 hx (by omega)) (by omega) (fun j hj => absurd hj (Nat.not_lt_zero _)))
/-- the end of both -/
theorem bsi_end (Q : jv_Q) (x1 x6 : Int32) (l : Nat) (hx : x1.toInt = l) (hl : l < Z.k.nl) (ms : MS h Z) (bd : bdZ Z) (hn : Z.k.nl < 6) (st : Nat → zL → Option zL) (h1 : jv_H) (wc : Bool) (p : Nat) (h6 : x6.toInt = p) (fk : fK Z.k h h1) (hw : h1.1 171 6 = (if wc then 1 else 0)) (inv : bsi h1 Z.k.nl (Z.k.L l) st (Z.k.L l).sz p wc)
    (hK1 : ∀ B, lf st (Z.k.L l).sz ((Z.k.L l).cut 0) = some B → ∀ z : Int32, z.toInt = Z.k.nl → ∀ h', oM h h' → MS h' (Z.sk (Z.k.addL B)) → Q (some (.int z)) h') (hK0 : lf st (Z.k.L l).sz ((Z.k.L l).cut 0) = none → ∀ h', oM h h' → MS h' Z → Q (some (.int (-6))) h') :
    jv_is SHT 227 171 20 ∧ ((jv_gI h1 171 6 = 0 → (jv_is SHT 227 171 20 ∧ jI X 7 y_Model_comes [.ref 171, .int x1, .int x6] 227 h1 (fun z h' => Q (some (.int z)) h'))) ∧ (¬ jv_gI h1 171 6 = 0 → Q (some (.int (-6))) h1)) := by
  have ms1 := ms.mv bd fk
  refine ⟨is171, fun w => ⟨is171, ?_⟩, fun w => ?_⟩
  · rcases inv with ⟨z1, A, z2, z3, z4, z5, z6⟩ | ⟨z1, z2⟩
    · exact m_comes X 6 h1 _ Z x1 x6 l hx hl ms1 bd hn A z3 (by rw [h6, z4]) z5 (fun _ => z6) (fun z hz h' o' m' => hK1 A z2 z hz h' ((fK.M fk).tr o') m')
    · subst z1
      rw [show jv_gI h1 171 6 = 1 from hw] at w
      exact absurd w (by decide)
  · rcases inv with ⟨z1, _⟩ | ⟨z1, z2⟩
    · subst z1
      exact absurd hw w
    · exact hK0 z2 h1 (fK.M fk) ms1
theorem sl_ly {h h' : jv_H} {l p : Nat} {A : zL} (c : sl h l A) (hp : A.sz ≤ p) (o : oT (lyI (12 * l + p)) (lyL (12 * l + p)) h h') : sl h' l A := c.mv o (fun j hj => ⟨fun z => by unfold lyI at z; omega, fun z => by unfold lyI at z; omega, fun z => by unfold lyL at z; omega, fun z => by unfold lyL at z; omega⟩)
theorem band_l (Q : jv_Q) (x1 x2 x3 x4 x5 x6 : Int32) (t1 : tol x2 x3) (t2 : tol x4 x5) (l : Nat) (hx : x1.toInt = l) (hl : l < Z.k.nl) (ms : MS h Z) (bd : bdZ Z) (ok : okZ Z) (hn : Z.k.nl < 6) (hcw : (Z.k.L l).cw) (h6 : x6.toInt = ((Z.k.L l).sz + (Z.k.L l).cr (Z.k.L l).sz : Nat)) (h12 : (Z.k.L l).sz + (Z.k.L l).cr (Z.k.L l).sz ≤ 12)
    (hK1 : ∀ B, lf (bd_st (Z.k.L l) (fz_of x2.toInt x3.toInt) (fz_of x4.toInt x5.toInt)) (Z.k.L l).sz ((Z.k.L l).cut 0) = some B → ∀ z : Int32, z.toInt = Z.k.nl → ∀ h', oM h h' → MS h' (Z.sk (Z.k.addL B)) → Q (some (.int z)) h') (hK0 : lf (bd_st (Z.k.L l) (fz_of x2.toInt x3.toInt) (fz_of x4.toInt x5.toInt)) (Z.k.L l).sz ((Z.k.L l).cut 0) = none → ∀ h', oM h h' → MS h' Z → Q (some (.int (-6))) h') :
    ∀ (m k : Nat) (x7 x8 : Int32) (h1 : jv_H) (wc : Bool), x7.toInt = (12 * Z.k.nl + (k + (Z.k.L l).cr k) : Nat) → x8.toInt = (12 * l + k : Nat) → k + m = (Z.k.L l).sz → fK Z.k h h1 → h1.1 171 6 = (if wc then 1 else 0) → bsi h1 Z.k.nl (Z.k.L l) (bd_st (Z.k.L l) (fz_of x2.toInt x3.toInt) (fz_of x4.toInt x5.toInt)) k (k + (Z.k.L l).cr k) wc → a_Model_band_86 X 7 227 Q 171 x1 x2 x3 x4 x5 x6 x7 x8 h1 0
  | 0, k, x7, x8, h1, wc, h7, h8, hm, fk, hw, inv => by
    have ms1 := ms.mv bd fk
    have lz := ms1.k.lz hl
    have hsz := bd.2.1.2.2.1 l hl
    have hp := nz_12p hx (by omega) lz (by omega)
    refine r_Model_band_86 X 7 227 Q 171 x1 x2 x3 x4 x5 x6 x7 x8 h1 ⟨is171, _, ms1.r 12, jx (len := 6) rfl (by decide) (by omega) (by omega), ?_⟩
    rw [nz_nat hx]
    have ek : k = (Z.k.L l).sz := by omega
    subst ek
    exact ⟨fun _ => bsi_end X h Z Q x1 x6 l hx hl ms bd hn _ h1 wc _ h6 fk hw inv hK1 hK0, fun z => absurd (nz_le.mpr (by rw [hp, h8]; omega)) z⟩
  | m + 1, k, x7, x8, h1, wc, h7, h8, hm, fk, hw, inv => by
    have ms1 := ms.mv bd fk
    have lz := ms1.k.lz hl
    have hsz := bd.2.1.2.2.1 l hl
    have hp := nz_12p hx (by omega) lz (by omega)
    have hkl : k < (Z.k.L l).sz := by omega
    have hcr := (Z.k.L l).cr_mono (show k + 1 ≤ (Z.k.L l).sz by omega)
    obtain ⟨ok1, ok2, ok3, ok4, ok5, ok6⟩ := ok.1.2.1 l hl
    have gj : ∀ q : Nat, ∀ t : Nat, SHT q = (t, 72) → q < 227 → jv_ix SHT 227 q t x8 := fun q t h1 h2 => jx h1 h2 (by omega) (by omega)
    have gv := (ok3 k hkl).1
    have v := ms1.k.lv hl hkl
    have e2' : (2 : Int32).toInt = 2 := rfl
    refine r_Model_band_86 X 7 227 Q 171 x1 x2 x3 x4 x5 x6 x7 x8 h1 ⟨is171, _, ms1.r 12, jx (len := 6) rfl (by decide) (by omega) (by omega), ?_⟩
    rw [nz_nat hx]
    refine ⟨fun z => ?_, fun _ => ⟨is171, _, ms1.r 10, gj 175 0 rfl (by decide), ?_⟩⟩
    · have := nz_le.mp z
      rw [hp, h8] at this
      omega
    · rw [nz_nat h8, ms1.k.ls hl hkl]
      refine ⟨fun e => ⟨is171, _, ms1.r 14, gj 179 1 rfl (by decide), is171, _, ms1.r 15, gj 180 1 rfl (by decide), is171, ?_⟩, fun e => ⟨is171, _, ms1.r 11, gj 176 0 rfl (by decide), is171, _, ms1.r 14, gj 179 1 rfl (by decide), is171, _, ms1.r 15, gj 180 1 rfl (by decide), is171, ?_⟩⟩
      · have c1 : (Z.k.L l).cr (k + 1) = (Z.k.L l).cr k + 1 := by
          show (Z.k.L l).cr k + (if (Z.k.L l).so k = 2 then 0 else 1) = _
          rw [if_neg e]
        have esu : (Z.k.L l).so k = (Z.k.L l).sh k := by
          rcases hcw k hkl with y | y
          · exact absurd y e
          · exact (ris_u (ok3 k hkl).2).mp y
        have hst : ∀ A, bd_st (Z.k.L l) (fz_of x2.toInt x3.toInt) (fz_of x4.toInt x5.toInt) k A = if fz_quo ((Z.k.L l).va k) (fz_of x4.toInt x5.toInt) = (-1, 0) ∨ fz_quo (fz_quo (fz_of x4.toInt x5.toInt) ((Z.k.L l).va k)) (fz_of x2.toInt x3.toInt) = (-1, 0) then none else some ((A.add ((Z.k.L l).so k) ((Z.k.L l).sh k) (fz_quo ((Z.k.L l).va k) (fz_of x4.toInt x5.toInt))).add (if (Z.k.L l).sh k = 0 then 1 else 0) ((Z.k.L l).sh k) (fz_quo (fz_quo (fz_of x4.toInt x5.toInt) ((Z.k.L l).va k)) (fz_of x2.toInt x3.toInt))) := fun A => if_neg e
        have nn : wc = false → (fz_quo ((Z.k.L l).va k) (fz_of x4.toInt x5.toInt) = (-1, 0) ∨ fz_quo (fz_quo (fz_of x4.toInt x5.toInt) ((Z.k.L l).va k)) (fz_of x2.toInt x3.toInt) = (-1, 0)) → lf (bd_st (Z.k.L l) (fz_of x2.toInt x3.toInt) (fz_of x4.toInt x5.toInt)) (Z.k.L l).sz ((Z.k.L l).cut 0) = none := fun hwc z => by
          rcases inv with ⟨i1, A, i2, _⟩ | ⟨i1, i2⟩
          · exact lf_none (show k + 1 ≤ (Z.k.L l).sz by omega) (by rw [lf_s i2, hst, if_pos z])
          · exact i2
        refine c_over X 4 227 _ h1 171 _ _ _ _ wc ((Z.k.L l).va k) (x4.toInt, x5.toInt) is171 hw (uq.a v) (uq.b v) (Int32.toInt_toInt64 _) (Int32.toInt_toInt64 _) gv.1.z (gz_told t2.1 t2.2) (fun h2 o2 m2 => ?_)
        have g2 := rz_ovr (w := wc) (p := (Z.k.L l).va k) (gz_told t2.1 t2.2)
        rw [ovr_told t2.1 t2.2] at m2 g2
        have s2 := rq_io (wc := wc) (w0 := false) (T := fz_quo ((Z.k.L l).va k) (fz_of x4.toInt x5.toInt)) (N := lf (bd_st (Z.k.L l) (fz_of x2.toInt x3.toInt) (fz_of x4.toInt x5.toInt)) (Z.k.L l).sz ((Z.k.L l).cut 0) = none) (inv.imp (fun z => ⟨z.1, rfl⟩) (fun z => ⟨z.1, Or.inr z.2⟩)) (fun hwc z => nn hwc (Or.inl z))
        generalize hq2 : rz wc (fz_quo ((Z.k.L l).va k) (fz_of x4.toInt x5.toInt)) = r2 at m2 g2 s2
        have fk2 := fk.tr (mi_fk (Zk := Z.k) o2)
        have ms2 := ms.mv bd fk2
        refine ⟨is171, _, ms2.r 10, gj 175 0 rfl (by decide), is171, _, ms2.r 11, gj 176 0 rfl (by decide), is171, is171, is171, ?_⟩
        refine m_lays X 6 h2 _ _ _ h7 (by omega) _ _ _ _ ms2.r (fun h3 o3 b1 b2 b3 => ?_)
        rw [ms2.k.ls hl hkl] at b1
        rw [ms2.k.lu hl hkl] at b2
        have fk3 := fk2.tr (ly_fr o3)
        have ms3 := ms.mv bd fk3
        have w3 : h3.1 171 6 = (if r2.1 then 1 else 0) := by rw [o3.2.1 _ _ (fun z => by unfold lyI at z; omega)]; exact m2.2.2
        have v3 := ms3.k.lv hl hkl
        refine ⟨is171, _, ms3.r 14, gj 179 1 rfl (by decide), is171, _, ms3.r 15, gj 180 1 rfl (by decide), is171, ?_⟩
        refine c_over X 4 227 _ h3 171 _ _ _ _ r2.1 (x4.toInt, x5.toInt) ((Z.k.L l).va k) is171 w3 (Int32.toInt_toInt64 _) (Int32.toInt_toInt64 _) (uq.a v3) (uq.b v3) (gz_told t2.1 t2.2) gv.1.z (fun h4 o4 m4 => ⟨is171, is171, is171, ?_⟩)
        have g4 := rz_ovr (w := r2.1) (p := (x4.toInt, x5.toInt)) gv.1.z
        rw [quo_bt t2.1 t2.2 gv] at m4 g4
        have s4 := rq_io (wc := r2.1) (w0 := false) (T := fz_quo (fz_of x4.toInt x5.toInt) ((Z.k.L l).va k)) (N := lf (bd_st (Z.k.L l) (fz_of x2.toInt x3.toInt) (fz_of x4.toInt x5.toInt)) (Z.k.L l).sz ((Z.k.L l).cut 0) = none) (s2.imp (fun z => ⟨z.1, rfl⟩) id) (fun hw2 z => s2.elim (fun y => nn y.2.2.2 (Or.inr (by rw [z, fz_quo_W1]))) (fun y => by rw [y.1] at hw2; cases hw2))
        generalize hq4 : rz r2.1 (fz_quo (fz_of x4.toInt x5.toInt) ((Z.k.L l).va k)) = r4 at m4 g4 s4
        have fk4 := fk3.tr (mi_fk (Zk := Z.k) o4)
        refine c_over X 4 227 _ h4 171 _ _ _ _ r4.1 r4.2 (x2.toInt, x3.toInt) is171 m4.2.2 m4.1 m4.2.1 (Int32.toInt_toInt64 _) (Int32.toInt_toInt64 _) g4.z (gz_told t1.1 t1.2) (fun h5 o5 m5 => ?_)
        have g5 := rz_ovr (w := r4.1) (p := r4.2) (gz_told t1.1 t1.2)
        rw [ovr_told t1.1 t1.2] at m5 g5
        have s5 := rq_io (wc := r4.1) (w0 := false) (T := fz_quo r4.2 (fz_of x2.toInt x3.toInt)) (N := lf (bd_st (Z.k.L l) (fz_of x2.toInt x3.toInt) (fz_of x4.toInt x5.toInt)) (Z.k.L l).sz ((Z.k.L l).cut 0) = none) (s4.imp (fun z => ⟨z.1, rfl⟩) id) (fun hw4 z => s4.elim (fun y => by
          rw [y.2.2.1] at z
          exact s2.elim (fun y' => nn y'.2.2.2 (Or.inr z)) (fun y' => by rw [y'.1] at y; exact absurd y.2.2.2 (by decide))) (fun y => by rw [y.1] at hw4; cases hw4))
        generalize hq5 : rz r4.1 (fz_quo r4.2 (fz_of x2.toInt x3.toInt)) = r5 at m5 g5 s5
        have fk5 := fk4.tr (mi_fk (Zk := Z.k) o5)
        have ms5 := ms.mv bd fk5
        refine ⟨is171, _, ms5.r 10, gj 175 0 rfl (by decide), is171, _, ms5.r 11, gj 176 0 rfl (by decide), is171, is171, is171, ?_⟩
        have h7' := nz_inc h7 (by omega)
        refine m_lays X 6 h5 _ _ (12 * Z.k.nl + (k + (Z.k.L l).cr k + 1)) (by rw [h7']; omega) (by omega) _ _ _ _ ms5.r (fun h6' o6 d1 d2 d3 => ?_)
        rw [ms5.k.ls hl hkl] at d1
        rw [ms5.k.lu hl hkl] at d2
        have fk6 := fk5.tr (ly_fr o6)
        refine band_l Q x1 x2 x3 x4 x5 x6 t1 t2 l hx hl ms bd ok hn hcw h6 h12 hK1 hK0 m (k + 1) _ _ h6' r5.1 (by rw [nz_addi (by rw [h7, e2']; omega) (by rw [h7, e2']; omega), h7, e2', c1]; omega) (by rw [nz_inc h8 (by omega)]; omega) (by omega) fk6 (by rw [o6.2.1 _ _ (fun z => by unfold lyI at z; omega)]; exact m5.2.2) ?_
        rcases s5 with ⟨p1, _, p3, p4⟩ | ⟨p1, p2⟩
        · rcases s4 with ⟨_, _, q3, q4⟩ | ⟨q1, _⟩
          · rcases s2 with ⟨_, _, u3, u4⟩ | ⟨u1, _⟩
            · rcases inv with ⟨i1, A, i2, i3, i4, i5, i6⟩ | ⟨i1, i2⟩
              · have eq1 : fz_quo ((Z.k.L l).va k) (fz_of x4.toInt x5.toInt) = r2.2 := u3.symm
                have eq2 : fz_quo (fz_quo (fz_of x4.toInt x5.toInt) ((Z.k.L l).va k)) (fz_of x2.toInt x3.toInt) = r5.2 := by rw [p3, q3]
                refine Or.inl ⟨p1, _, by rw [lf_s i2, hst, eq1, eq2, if_neg (fun z => z.elim g2.nw g5.nw)], ?_, ?_, ?_, ?_⟩
                · have sA := sl_mi i3 o2
                  have sB : sl h3 Z.k.nl (A.add ((Z.k.L l).so k) ((Z.k.L l).sh k) r2.2) := sl_add sA (by rw [i4]; exact o3) (by rw [i4]; exact b1) (by rw [i4]; exact b2) (by rw [i4, b3]; exact Prod.ext m2.1 m2.2.1)
                  have sC := sl_mi (sl_mi sB o4) o5
                  have i4' : (A.add ((Z.k.L l).so k) ((Z.k.L l).sh k) r2.2).sz = k + (Z.k.L l).cr k + 1 := by rw [fin_add, i4]
                  refine sl_add sC (by rw [i4']; exact o6) (by rw [i4', d1, esu]; rcases (ok3 k hkl).2 with z | z <;> rw [z] <;> decide) (by rw [i4']; exact d2) (by rw [i4', d3]; exact Prod.ext m5.1 m5.2.1)
                · rw [fin_add, fin_add, i4, c1]; omega
                · exact i5
                · exact i6
              · rw [i1] at u4; cases u4
            · rw [u1] at q4; cases q4
          · rw [q1] at p4; cases p4
        · exact Or.inr ⟨p1, p2.elim (fun z => by cases z) id⟩
      · have c1 : (Z.k.L l).cr (k + 1) = (Z.k.L l).cr k := by
          show (Z.k.L l).cr k + (if (Z.k.L l).so k = 2 then 0 else 1) = _
          rw [if_pos e, Nat.add_zero]
        refine m_lays X 6 h1 _ _ _ h7 (by omega) _ _ _ _ ms1.r (fun h3 o3 b1 b2 b3 => ?_)
        rw [ms1.k.lu hl hkl] at b2
        refine band_l Q x1 x2 x3 x4 x5 x6 t1 t2 l hx hl ms bd ok hn hcw h6 h12 hK1 hK0 m (k + 1) _ _ h3 wc (by rw [nz_inc h7 (by omega), c1]; omega) (by rw [nz_inc h8 (by omega)]; omega) (by omega) (fk.tr (ly_fr o3)) (by rw [o3.2.1 _ _ (fun z => by unfold lyI at z; omega)]; exact hw) ?_
        rcases inv with ⟨i1, A, i2, i3, i4, i5, i6⟩ | ⟨i1, i2⟩
        · refine Or.inl ⟨i1, _, (lf_s i2).trans (if_pos e), ?_, ?_, i5, i6⟩
          · exact sl_add i3 (by rw [i4]; exact o3) (by rw [i4, e]; exact b1) (by rw [i4]; exact b2) (by rw [i4, b3]; exact v)
          · rw [fin_add, i4, c1]; omega
        · exact Or.inr ⟨i1, i2⟩
theorem w_band (x a b u v : Int32) (ms : MS h Z) (bd : bdZ Z) (ok : okZ Z) (hK : dI h (q_band x a b u v Z) KI) : jI X 8 y_Model_band [.ref 171, .int x, .int a, .int b, .int u, .int v] 227 h KI := by
  unfold q_band at hK
  have hz := ms.k.zl
  have hml := bd.2.1.2.1
  refine r_Model_band X 7 227 _ 171 x a b u v h ⟨is171, m_isLadder X 5 h _ Z x ms bd (fun hr => ⟨fun z => absurd z (by decide), fun _ => c_mTold X 5 227 _ h a b ⟨fun y => ?_, fun y => c_mTold X 5 227 _ h u v ⟨fun y2 => ⟨is171, fun e => ⟨is171, ?_⟩, fun e => ?_⟩, fun y2 => ?_⟩⟩⟩) (fun hr => ⟨fun _ => ?_, fun z => absurd rfl z⟩)⟩
  · rw [nz_bt] at y
    rw [if_neg (fun z => y z.2.1)] at hK
    exact hK _ rfl h oM.rf ms
  · rw [nz_bt, Classical.not_not] at y y2
    have hn : Z.k.nl < 6 := by
      have : Z.k.nl ≠ 6 := fun z => e (Int32.toInt_inj.mp (by rw [hz, z]; rfl))
      omega
    rw [if_pos ⟨hr, y, y2⟩, if_neg (by omega)] at hK
    obtain ⟨l, hx, hl, hL, hc⟩ := isL.n hr
    rw [hL] at hK
    have hcl := (Z.k.L l).cr_le (Z.k.L l).sz
    have hsz := bd.2.1.2.2.1 l hl
    refine m_widened X 6 h _ Z x l hx hl ms bd ok (fun hcw z hz' => ⟨fun _ => ⟨fun p => ⟨is171, Or.inl rfl, is171, ?_⟩, fun p => ?_⟩, fun p => absurd (nz_le.mpr (by rw [hz']; show (0 : Int) ≤ _; omega)) p⟩) (fun hcw => ⟨fun p => absurd p (by decide), fun _ => ?_⟩)
    · have p : z.toInt ≤ 12 := nz_le.mp p
      rw [cif_t hcw, if_neg (by omega)] at hK
      have o0 : fK Z.k h (jv_uI h 171 6 0) := oT.rf.uI (by unfold frI; omega)
      have e18 : jv_gI (jv_uI h 171 6 0) 171 18 = jv_gI h 171 18 := rfl
      rw [e18]
      refine band_l X h Z _ x a b u v z y y2 l hx hl ms bd ok hn hcw hz' (by omega) (fun B hB z hz' h' o' m' => ?_) (fun hB h' o' m' => ?_) (Z.k.L l).sz 0 _ _ _ false (nz_12 hz hn) (nz_12 hx (by omega)) (by omega) o0 uI_eq (Or.inl ⟨rfl, (Z.k.L l).cut 0, rfl, fun j hj => absurd hj (Nat.not_lt_zero _), rfl, rfl, rfl⟩)
      · rw [hB] at hK
        exact hK z hz' h' o' m'
      · rw [hB] at hK
        exact hK _ rfl h' o' m'
    · have p : ¬ z.toInt ≤ 12 := fun q => p (nz_le.mpr q)
      rw [cif_t hcw, if_pos (by omega)] at hK
      exact hK _ rfl h oM.rf ms
    · rw [cif_f hcw] at hK
      exact hK _ rfl h oM.rf ms
  · rw [nz_bt, Classical.not_not] at y y2
    have hn : Z.k.nl = 6 := by
      have : (jv_gI h 171 18).toInt = 6 := by rw [e]; rfl
      omega
    rw [if_pos ⟨hr, y, y2⟩, if_pos hn] at hK
    exact hK _ rfl h oM.rf ms
  · rw [nz_bt] at y2
    rw [if_neg (fun z => y2 z.2.2)] at hK
    exact hK _ rfl h oM.rf ms
  · rw [if_neg (fun z => hr z.1)] at hK
    exact hK _ rfl h oM.rf ms
end
