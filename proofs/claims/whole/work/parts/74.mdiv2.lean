/-! ===== the reference: divide, its loop ===== -/
def dst (h h1 : jv_H) (Z : zZ) (A B : Nat → Int × Int) (L : zL) : Prop := fK Z.k h h1 ∧ h1.1 171 6 = 0 ∧ rw0 h1 200 201 A ∧ rw0 h1 202 203 B ∧ gdr A ∧ gdr B ∧ 0 ≤ pz_hi A 13 ∧ 0 ≤ pz_hi B 13 ∧ sl h1 Z.k.nl L ∧ L.sz ≤ 12
theorem quo_nz {p q : Int × Int} (hp : gd p) (hp1 : p ≠ (0, 1)) (hq : gd q) (h : fz_quo p q ≠ (-1, 0)) : gd (fz_quo p q) ∧ (fz_quo p q).1 ≠ 0 := by
  rw [fz_quo_of hq.z] at h ⊢
  refine ⟨fz_of_gd h, fun z => ?_⟩
  obtain ⟨_, g, h1, h2, h3⟩ := fz_of_ok h
  rw [z, Int.mul_zero] at h2
  have e1 := mt (gd_z hp).mp hp1
  have e2 := hq.1.2.1
  rcases Int.mul_eq_zero.mp h2 with y | y
  · exact e1 y
  · omega
theorem fin_add (L : zL) (s u : Int32) (v : Int × Int) : (L.add s u v).sz = L.sz + 1 := rfl
theorem sl_add {h h' : jv_H} {l : Nat} {L : zL} {s u : Int32} {v : Int × Int} (c : sl h l L) (o : oT (lyI (12 * l + L.sz)) (lyL (12 * l + L.sz)) h h') (a1 : h'.1 175 (12 * l + L.sz) = s) (a2 : h'.1 176 (12 * l + L.sz) = u) (a3 : uq h' 179 180 (12 * l + L.sz) = v) : sl h' l (L.add s u v) := fun j hj => by
  have hj : j < L.sz + 1 := hj
  show _ = (if j = L.sz then s else L.so j) ∧ _ = (if j = L.sz then u else L.sh j) ∧ _ = (if j = L.sz then v else L.va j)
  by_cases e : j = L.sz
  · rw [if_pos e, if_pos e, if_pos e, e]
    exact ⟨a1, a2, a3⟩
  · rw [if_neg e, if_neg e, if_neg e]
    have c' := c.mv o (fun j hj => ⟨fun z => by unfold lyI at z; omega, fun z => by unfold lyI at z; omega, fun z => by unfold lyL at z; omega, fun z => by unfold lyL at z; omega⟩)
    exact c' j (by omega)
section
variable (X : jv_X) (h : jv_H) (KI : Int32 → jv_H → Prop) (Z : zZ)
/-- the division goes on, with what it has -/
def d47 (Q : jv_Q) (x2 : Int32) (m : Nat) (R0 : Sum Int zL) : Prop := ∀ (h1 : jv_H) (x3 x4 : Int32) (A B : Nat → Int × Int) (L : zL), (x3 = 0 ∨ x3 = 1) → x4.toInt = L.sz → L.sz + m = 13 → dst h h1 Z A B L → dv (if x2 = 0 then 1 else 0) m A B x3 L = R0 → a_Model_divide_47 X 7 227 Q 171 x2 x3 x4 h1 0
theorem div332 (Q : jv_Q) (x2 : Int32) (m : Nat) (R0 : Sum Int zL) (ms : MS h Z) (bd : bdZ Z) (hn : Z.k.nl < 6) (gok : ∀ M, R0 = .inr M → ∀ z : Int32, z.toInt = Z.k.nl → ∀ h', oM h h' → MS h' (Z.sk (Z.k.addL M)) → Q (some (.int z)) h') (gbad : ∀ e, R0 = .inl e → ∀ z : Int32, z.toInt = e → ∀ h', oM h h' → MS h' Z → Q (some (.int z)) h') (ih : d47 X h Z Q x2 m R0)
    (h1 : jv_H) (x3 x4 : Int32) (A B : Nat → Int × Int) (L : zL) (hu : x3 = 0 ∨ x3 = 1) (h4 : x4.toInt = L.sz) (hm : L.sz + m = 13) (st : dst h h1 Z A B L) (q : Int × Int) (gq : gd q) (s1 s2 : Int64) (e1 : s1.toInt = q.1) (e2 : s2.toInt = q.2) (s3 : Int32) (r : Int) (e3 : s3.toInt = -r) (hr : -1000 ≤ r ∧ r ≤ 1000)
    (hW : ¬ noW (pz_add A B (fz_neg q) r) → R0 = .inl (-6)) (hE : noW (pz_add A B (fz_neg q) r) → pz_hi (pz_add A B (fz_neg q) r) 13 < 0 → R0 = .inr (L.fin x3 (0, 1))) (hG : noW (pz_add A B (fz_neg q) r) → ¬ pz_hi (pz_add A B (fz_neg q) r) 13 < 0 → dv (if x2 = 0 then 1 else 0) m (pz_add A B (fz_neg q) r) B x3 L = R0) : a_Model_divide_332 X 7 227 Q 171 x2 x3 x4 s3 s2 s1 171 h1 0 := by
  obtain ⟨fk, w1, cA, cB, gA, gB, nA', nB', hs, hz12⟩ := st
  have ms1 := ms.mv bd fk
  refine r_Model_divide_332 X 7 227 Q 171 x2 x3 x4 s3 s2 s1 171 h1 ⟨is171, m_lessens X 3 h1 _ s1 s2 q gq e1 e2 s3 r e3 hr A B gA gB ms1.r w1 cA cB (fun h2 w2 o2 a1 a2 => ⟨is171, fun w => ⟨is171, _, (ms1.r.mv o2) 39, ?_⟩, fun w => ?_⟩)⟩
  · have fk2 : fK Z.k h h2 := fk.tr (ab_fr (u4_ab (by decide) (by decide) o2))
    rcases a2 with ⟨z1, z2, z3, z4⟩ | ⟨z1, z2⟩
    · have g2 : gdr (pz_add A B (fz_neg q) r) := add_gd z3
      refine m_endOf X 6 h2 _ 200 201 rfl (by decide) _ z4 g2 0 (fun z hz => ?_)
      rw [if_pos rfl] at hz
      have cB2 := cB.mv o2 (fun i => ⟨fun z => by unfold u4 at z; omega, fun z => by unfold u4 at z; omega⟩)
      have hs2 : sl h2 Z.k.nl L := hs.mv o2 (fun j hj => ⟨fun z => by unfold mI at z; omega, fun z => by unfold mI at z; omega, fun z => by unfold u4 at z; omega, fun z => by unfold u4 at z; omega⟩)
      have ms2 := ms.mv bd fk2
      refine ⟨fun zp => ?_, fun zn => ?_⟩
      · have : (0 : Int) ≤ z.toInt := nz_le.mp zp
        exact ih h2 x3 x4 _ B L hu h4 hm ⟨fk2, w, z4, cB2, g2, gB, by omega, nB', hs2, hz12⟩ (hG z3 (by omega))
      · have hneg : ¬ (0 : Int) ≤ z.toInt := fun y => zn (nz_le.mpr y)
        have hR := hE z3 (by omega)
        have zl := ms2.k.zl
        have gi : ∀ q : Nat, SHT q = (0, 6) → q < 227 → jv_ix SHT 227 q 0 (jv_gI h2 171 18) := fun q h1 h2 => jx h1 h2 (by omega) (by omega)
        refine ⟨is171, _, ms2.r 12, is171, gi 177 rfl (by decide), is171, _, ms2.r 13, is171, ?_⟩
        rw [nz_nat zl]
        simp only [gI_uI, gI_uL, gL_uL, gL_uI, and_self, true_and, and_true, false_and, and_false, if_true, if_false, reduceIte, Nat.reduceEqDiff]
        refine ⟨gi 178 rfl (by decide), is171, is171, is171, ?_⟩
        rw [nz_nat zl]
        have o3 : fK Z.k h2 (jv_uI (jv_uI h2 177 Z.k.nl x4) 178 Z.k.nl x3) := (oT.rf.uI (by unfold frI; omega)).uI (by unfold frI; omega)
        have ms3 := ms2.mv bd o3
        have kn := MKn.addL (L := L.fin x3 (0, 1)) ms3.k hn (by
            show (jv_gI (jv_uI (jv_uI h2 177 Z.k.nl x4) 178 Z.k.nl x3) 177 Z.k.nl).toInt = _
            rw [gI_uI, gI_uI, if_neg (by omega), if_pos ⟨rfl, rfl⟩]
            exact h4) (by
            show jv_gI (jv_uI (jv_uI h2 177 Z.k.nl x4) 178 Z.k.nl x3) 178 Z.k.nl = _
            rw [gI_uI, if_pos ⟨rfl, rfl⟩]
            rfl) (fun y => by
            have y : x3 = 2 := y
            rcases hu with z | z <;> rw [z] at y <;> exact absurd y (by decide)) (by
            have c' : sl (jv_uI (jv_uI h2 177 Z.k.nl x4) 178 Z.k.nl x3) Z.k.nl L := hs2.mv ((oT.rf.uI (SI := fun q j => q = 177 ∨ q = 178) (SL := nL) (Or.inl rfl)).uI (Or.inr rfl)) (fun j hj => ⟨by omega, by omega, fun z => z, fun z => z⟩)
            exact c')
        have e18 : jv_gI (jv_uI (jv_uI h2 177 Z.k.nl x4) 178 Z.k.nl x3) 171 18 = jv_gI h2 171 18 := rfl
        rw [e18] at kn
        have o4 : oT (fun q j => q = 171 ∧ j = 18) nL (jv_uI (jv_uI h2 177 Z.k.nl x4) 178 Z.k.nl x3) (jv_uI (jv_uI (jv_uI h2 177 Z.k.nl x4) 178 Z.k.nl x3) 171 18 (jv_gI h2 171 18 + 1)) := oT.rf.uI ⟨rfl, rfl⟩
        refine gok _ hR _ (nz_incdec zl (by omega)) _ ((fK.M (fk2.tr o3)).tr (o4.M (fun q j z => by omega) (fun q j z => z.elim))) (ms3.upd bd o4 (fun q j z => by omega) (fun q j z => z.elim) kn)
    · subst z1
      rw [show jv_gI h2 171 6 = 1 from a1] at w
      exact absurd w (by decide)
  · have fk2 : fK Z.k h h2 := fk.tr (ab_fr (u4_ab (by decide) (by decide) o2))
    rcases a2 with ⟨z1, z2, z3, z4⟩ | ⟨z1, z2, _⟩
    · subst z1
      exact absurd a1 w
    · exact gbad _ (hW (z2.elim (fun z => by cases z) id)) _ rfl h2 (fK.M fk2) (ms.mv bd fk2)
theorem div125 (Q : jv_Q) (x2 : Int32) (hx2 : x2 = 0 ∨ x2 = 1) (m : Nat) (R0 : Sum Int zL) (ms : MS h Z) (bd : bdZ Z) (hn : Z.k.nl < 6) (gok : ∀ M, R0 = .inr M → ∀ z : Int32, z.toInt = Z.k.nl → ∀ h', oM h h' → MS h' (Z.sk (Z.k.addL M)) → Q (some (.int z)) h') (gbad : ∀ e, R0 = .inl e → ∀ z : Int32, z.toInt = e → ∀ h', oM h h' → MS h' Z → Q (some (.int z)) h') (ih : d47 X h Z Q x2 m R0)
    (h1 : jv_H) (x3 x4 : Int32) (A B : Nat → Int × Int) (L : zL) (hu : x3 = 0 ∨ x3 = 1) (h4 : x4.toInt = L.sz) (hm : L.sz + (m + 1) = 13) (st : dst h h1 Z A B L) (x5 x6 s0 : Int32) (h5 : x5.toInt = ed x2 A) (h6 : x6.toInt = ed x2 B) (h0 : s0.toInt = rch (if x2 = 0 then 1 else 0) A - rch (if x2 = 0 then 1 else 0) B) (hge : 0 ≤ s0.toInt)
    (hR : dvk (dv1 (if x2 = 0 then 1 else 0) A B x3 L) (fun A' M => dv (if x2 = 0 then 1 else 0) m A' B x3 M) = R0) : a_Model_divide_125 X 7 227 Q 171 x2 x3 x4 x5 x6 s0 h1 0 := by
  obtain ⟨fk, w1, cA, cB, gA, gB, nA', nB', hs, hz12⟩ := st
  have ms1 := ms.mv bd fk
  have mr := ms1.r
  obtain ⟨ea, ea1, ea2, ea3⟩ := ed_at x2 A nA'
  obtain ⟨eb, eb1, eb2, eb3⟩ := ed_at x2 B nB'
  have l1 := ldr_ed x2 A ea1 ea2
  have l2 := ldr_ed x2 B eb1 eb2
  rw [ea1] at h5
  rw [eb1] at h6
  unfold dv1 at hR
  rw [l1, l2, ← h0] at hR
  have e2 : (2 : Int32).toInt = 2 := rfl
  have ebd : ∀ (c : Int32) (v : Nat), (-(v : Int)) = c.toInt → v ≤ 1000 → (c - x4).toInt = -(v : Int) - L.sz := fun c v hc hv => by rw [nz_subi (by rw [← hc, h4]; omega) (by rw [← hc, h4]; omega), ← hc, h4]
  refine r_Model_divide_125 X 7 227 Q 171 x2 x3 x4 x5 x6 s0 h1 ⟨fun a => ⟨fun b => ?_, fun b => ?_⟩, fun a => ?_⟩
  · have a : s0.toInt < 2 := nz_lt.mp a
    have hz : L.sz < 12 := by
      have : L.sz ≠ 12 := fun z => b (Int32.toInt_inj.mp (by rw [h4, z]; rfl))
      omega
    rw [if_neg (by omega), if_neg (by omega)] at hR
    have ga : ∀ q : Nat, SHT q = (1, 13) → q < 227 → jv_ix SHT 227 q 1 x5 := fun q h1 h2 => jx h1 h2 (by omega) (by omega)
    have gb : ∀ q : Nat, SHT q = (1, 13) → q < 227 → jv_ix SHT 227 q 1 x6 := fun q h1 h2 => jx h1 h2 (by omega) (by omega)
    refine ⟨is171, _, mr 39, ga 200 rfl (by decide), is171, _, mr 40, ga 201 rfl (by decide), is171, _, mr 41, gb 202 rfl (by decide), is171, _, mr 42, gb 203 rfl (by decide), is171, ?_⟩
    rw [nz_nat h5, nz_nat h6]
    have vA := cA ea ea2
    have vB := cB _ eb2
    have eo : fz_ovr (A ea) (B eb) = fz_quo (A ea) (B eb) := if_neg (mt (gd_z (gB _ eb2)).mp eb3)
    refine c_over X 4 227 _ h1 171 _ _ _ _ false _ _ is171 w1 (uq.a vA) (uq.b vA) (uq.a vB) (uq.b vB) (gA _ ea2).z (gB _ eb2).z (fun h2 o2 m2 => ?_)
    rw [eo] at m2
    have fk2 : fK Z.k h h2 := fk.tr (ab_fr (mi_ab o2))
    have ms2 := ms.mv bd fk2
    by_cases hw : fz_quo (A ea) (B eb) = (-1, 0)
    · rw [if_pos hw] at hR
      rw [hw, rz_W] at m2
      refine ⟨is171, fun w => ?_, fun w => gbad _ hR.symm _ rfl h2 (fK.M fk2) ms2⟩
      rw [show jv_gI h2 171 6 = 1 from m2.2.2] at w
      exact absurd w (by decide)
    · rw [if_neg hw] at hR
      rw [rz_f hw] at m2
      obtain ⟨gq, q0⟩ := quo_nz (gA _ ea2) ea3 (gB _ eb2) hw
      generalize hqq : fz_quo (A ea) (B eb) = q at hR m2 hw gq q0
      have e0 : (0 : Int64).toInt = 0 := rfl
      refine ⟨is171, fun w => ⟨is171, is171, fun p => ?_, fun p => ?_⟩, fun w => absurd m2.2.2 w⟩
      · have p : (0 : Int64).toInt ≤ (jv_gL h2 171 4).toInt := Int64.le_iff_toInt_le.mp ((lg_cmp_ge _ _).mp p)
        rw [e0, show (jv_gL h2 171 4).toInt = q.1 from m2.1] at p
        rw [if_neg (by omega)] at hR
        have pq : gp q := ⟨gq, by omega⟩
        have iq := fz_inv_p pq
        have hs0 : s0 = 0 ∨ s0 = 1 := by
          have : s0.toInt = 0 ∨ s0.toInt = 1 := by omega
          exact this.imp (fun z => Int32.toInt_inj.mp z) (fun z => Int32.toInt_inj.mp z)
        have cA2 := cA.mv o2 (fun i => ⟨fun z => by unfold mL at z; omega, fun z => by unfold mL at z; omega⟩)
        have cB2 := cB.mv o2 (fun i => ⟨fun z => by unfold mL at z; omega, fun z => by unfold mL at z; omega⟩)
        have hs2 : sl h2 Z.k.nl L := hs.mv o2 (fun j hj => ⟨fun z => by unfold mI at z; omega, fun z => by unfold mI at z; omega, fun z => by unfold mL at z; omega, fun z => by unfold mL at z; omega⟩)
        have zl := ms2.k.zl
        have e12 : (12 : Int32).toInt = 12 := rfl
        have m12 : ((12 : Int32) * jv_gI h2 171 18).toInt = 12 * Z.k.nl := by rw [nz_muli (by rw [e12, zl]; omega) (by rw [e12, zl]; omega), e12, zl]
        have hp : ((12 : Int32) * jv_gI h2 171 18 + x4).toInt = ((12 * Z.k.nl + L.sz : Nat) : Int) := by rw [nz_addi (by rw [m12, h4]; omega) (by rw [m12, h4]; omega), m12, h4]; omega
        have tail : ∀ (sr : Int32) (v l : Int64), sr = dv_s (if x2 = 0 then 1 else 0) s0.toInt x3 → (v.toInt, l.toInt) = dv_v (if x2 = 0 then 1 else 0) s0.toInt x3 q → jV X 7 y_Model_lays [.ref 171, .int ((12 : Int32) * jv_gI h2 171 18 + x4), .int sr, .int x3, .long v, .long l] 227 h2 (fun h3 => (¬ x2 = 0 → a_Model_divide_332 X 7 227 Q 171 x2 x3 (x4 + 1) s0 (jv_gL h2 171 5) (jv_gL h2 171 4) 171 h3 0) ∧ (x2 = 0 → a_Model_divide_332 X 7 227 Q 171 x2 x3 (x4 + 1) (-s0) (jv_gL h2 171 5) (jv_gL h2 171 4) 171 h3 0)) := fun sr v l es ev => by
          refine m_lays X 6 h2 _ _ _ hp (by omega) sr x3 v l ms2.r (fun h3 o3 a1 a2 a3 => ?_)
          rw [ev] at a3
          rw [es] at a1
          have sa := sl_add hs2 o3 a1 a2 a3
          have cA3 := cA2.mv o3 (fun i => ⟨fun z => by unfold lyL at z; omega, fun z => by unfold lyL at z; omega⟩)
          have cB3 := cB2.mv o3 (fun i => ⟨fun z => by unfold lyL at z; omega, fun z => by unfold lyL at z; omega⟩)
          have fk3 : fK Z.k h h3 := fk2.tr (o3.mono (fun q j z => by unfold lyI at z; unfold frI; omega) (fun q j z => by unfold lyL at z; unfold frL; omega))
          have w3 : h3.1 171 6 = 0 := by rw [o3.2.1 _ _ (fun z => by unfold lyI at z; omega)]; exact m2.2.2
          have dst3 : dst h h3 Z A B (L.add (dv_s (if x2 = 0 then 1 else 0) s0.toInt x3) x3 (dv_v (if x2 = 0 then 1 else 0) s0.toInt x3 q)) := ⟨fk3, w3, cA3, cB3, gA, gB, nA', nB', sa, by rw [fin_add]; omega⟩
          have go : ∀ (s3 : Int32) (r : Int), s3.toInt = -r → r = (if (if x2 = 0 then (1 : Int32) else 0) = 0 then -s0.toInt else s0.toInt) → a_Model_divide_332 X 7 227 Q 171 x2 x3 (x4 + 1) s3 (jv_gL h2 171 5) (jv_gL h2 171 4) 171 h3 0 := fun s3 r es er => by
            rw [← er] at hR
            refine div332 X h Z Q x2 m R0 ms bd hn gok gbad ih h3 x3 (x4 + 1) A B _ hu (by rw [fin_add]; exact nz_inc h4 (by omega)) (by rw [fin_add]; omega) dst3 q gq _ _ m2.1 m2.2.1 s3 r es (by rw [er]; split <;> omega) (fun nw => ?_) (fun nw hi => ?_) (fun nw hi => ?_)
            · rw [cif_f nw] at hR
              exact hR.symm
            · rw [cif_t nw, if_pos hi] at hR
              exact hR.symm
            · rw [cif_t nw, if_neg hi] at hR
              exact hR
          refine ⟨fun e => go s0 (-s0.toInt) (by omega) (by rw [if_neg e, if_pos rfl]), fun e => go (-s0) s0.toInt ?_ (by rw [if_pos e, if_neg (by decide)])⟩
          rcases hs0 with z | z <;> rw [z] <;> rfl
        have leaf : ∀ x12 sr : Int32, (x12 = 0 → dv_v (if x2 = 0 then 1 else 0) s0.toInt x3 q = q) → (¬ x12 = 0 → dv_v (if x2 = 0 then 1 else 0) s0.toInt x3 q = fz_inv q) → sr = dv_s (if x2 = 0 then 1 else 0) s0.toInt x3 → a_Model_divide_269 X 7 227 Q 171 x2 x3 x4 s0 (jv_gL h2 171 4) (jv_gL h2 171 5) x12 sr h2 0 := fun x12 sr c1 c2 c3 =>
          r_Model_divide_269 X 7 227 Q 171 x2 x3 x4 s0 _ _ x12 sr h2 ⟨is171, fun c => ⟨fun _ => ⟨is171, tail sr _ _ c3 (by rw [c1 c]; exact Prod.ext m2.1 m2.2.1)⟩, fun z => absurd c z⟩, fun c => ⟨fun z => absurd z c, fun _ => ⟨is171, tail sr _ _ c3 (by rw [c2 c, iq.1]; exact Prod.ext m2.2.1 m2.1)⟩⟩⟩
        have n10 : ¬ (1 : Int32) = 0 := by decide
        have t0 : (0 : Int32).toInt = 0 := rfl
        have t1 : ¬ (1 : Int32).toInt = 0 := by decide
        refine div_nest (fun a b => a_Model_divide_269 X 7 227 Q 171 x2 x3 x4 s0 (jv_gL h2 171 4) (jv_gL h2 171 5) a b h2 0) x2 x3 s0 hx2 hu hs0 (leaf _ _ (fun c => ?_) (fun c => ?_) ?_)
        · unfold dv_v
          rcases hs0 with y0 | y0
          · rw [y0, if_pos rfl] at c
            rw [y0, if_pos t0, if_pos c]
          · rw [y0, if_neg n10] at c
            rw [y0, if_neg t1, if_neg (by rw [if_pos c]; decide)]
        · unfold dv_v
          rcases hs0 with y0 | y0
          · rw [y0, if_pos rfl] at c
            rw [y0, if_pos t0, if_neg c]
          · rw [y0, if_neg n10] at c
            rw [y0, if_neg t1, if_pos (by rw [if_neg c])]
        · unfold dv_s
          rcases hs0 with y0 | y0
          · rw [y0, if_pos rfl, if_pos t0]
          · rw [y0, if_neg n10, if_neg t1]
            rcases hx2 with y2 | y2 <;> rcases hu with y3 | y3 <;> rw [y2, y3] <;> decide
      · have p : ¬ (0 : Int64).toInt ≤ (jv_gL h2 171 4).toInt := fun y => p ((lg_cmp_ge _ _).mpr (Int64.le_iff_toInt_le.mpr y))
        rw [e0, show (jv_gL h2 171 4).toInt = q.1 from m2.1] at p
        rw [if_pos (by omega)] at hR
        exact gbad _ hR.symm _ (ebd (-100) 100 rfl (by omega)) h2 (fK.M fk2) ms2
  · have a : s0.toInt < 2 := nz_lt.mp a
    have hz : (12 : Int) = L.sz := by rw [← h4, b]; rfl
    rw [if_neg (by omega), if_pos (by omega)] at hR
    exact gbad _ hR.symm _ rfl h1 (fK.M fk) ms1
  · have a : ¬ s0.toInt < 2 := fun y => a (nz_lt.mpr y)
    rw [if_pos (by omega)] at hR
    exact gbad _ hR.symm _ (ebd (-200) 200 rfl (by omega)) h1 (fK.M fk) ms1
theorem div47 (Q : jv_Q) (x2 : Int32) (hx2 : x2 = 0 ∨ x2 = 1) (R0 : Sum Int zL) (ms : MS h Z) (bd : bdZ Z) (hn : Z.k.nl < 6) (gok : ∀ M, R0 = .inr M → ∀ z : Int32, z.toInt = Z.k.nl → ∀ h', oM h h' → MS h' (Z.sk (Z.k.addL M)) → Q (some (.int z)) h') (gbad : ∀ e, R0 = .inl e → ∀ z : Int32, z.toInt = e → ∀ h', oM h h' → MS h' Z → Q (some (.int z)) h') : ∀ m, d47 X h Z Q x2 m R0
  | 0 => fun h1 x3 x4 A B L hu h4 hm st hR => by
    have := st.2.2.2.2.2.2.2.2.2
    omega
  | m + 1 => fun h1 x3 x4 A B L hu h4 hm st hR => by
    have ih := div47 Q x2 hx2 R0 ms bd hn gok gbad m
    have st' := st
    obtain ⟨fk, w1, cA, cB, gA, gB, nA', nB', hs, hz12⟩ := st'
    have ms1 := ms.mv bd fk
    obtain ⟨ea, ea1, ea2, _⟩ := ed_at x2 A nA'
    obtain ⟨eb, eb1, eb2, _⟩ := ed_at x2 B nB'
    have rA := rch_ed x2 A
    have rB := rch_ed x2 B
    unfold dv at hR
    refine r_Model_divide_47 X 7 227 Q 171 x2 x3 x4 h1 ⟨is171, _, ms1.r 39, m_endOf X 6 h1 _ 200 201 rfl (by decide) A cA gA x2 (fun z3 hz3 => ⟨is171, _, ms1.r 41, m_endOf X 6 h1 _ 202 203 rfl (by decide) B cB gB x2 (fun z6 hz6 => ?_)⟩)⟩
    have hz3 : z3.toInt = ed x2 A := hz3
    have hz6 : z6.toInt = ed x2 B := hz6
    have d36 : (z3 - z6).toInt = ed x2 A - ed x2 B := nz_sub_i hz3 hz6 (by omega) (by omega)
    have d63 : (z6 - z3).toInt = ed x2 B - ed x2 A := nz_sub_i hz6 hz3 (by omega) (by omega)
    have keep : ∀ s0 : Int32, s0.toInt = rch (if x2 = 0 then 1 else 0) A - rch (if x2 = 0 then 1 else 0) B → 0 ≤ s0.toInt → a_Model_divide_125 X 7 227 Q 171 x2 x3 x4 z3 z6 s0 h1 0 := fun s0 e0 hge => by
      rw [if_neg (by omega)] at hR
      exact div125 X h Z Q x2 hx2 m R0 ms bd hn gok gbad ih h1 x3 x4 A B L hu h4 hm st z3 z6 s0 hz3 hz6 e0 hge hR
    have swap : ∀ h2 : jv_H, oT zI abL h1 h2 → rw0 h2 200 201 B → rw0 h2 202 203 A → ∀ s0 : Int32, s0.toInt = rch (if x2 = 0 then 1 else 0) B - rch (if x2 = 0 then 1 else 0) A → 0 < s0.toInt → a_Model_divide_125 X 7 227 Q 171 x2 (1 - x3) x4 z6 z3 s0 h2 0 := fun h2 o2 c1 c2 s0 e0 hge => by
      rw [if_pos (by omega)] at hR
      have eu : (1 : Int32) - x3 = fl x3 := by
        rcases hu with z | z <;> rw [z] <;> decide
      have hu2 : fl x3 = 0 ∨ fl x3 = 1 := by
        rcases hu with z | z <;> rw [z] <;> decide
      rw [eu]
      refine div125 X h Z Q x2 hx2 m R0 ms bd hn gok gbad ih h2 (fl x3) x4 B A L hu2 h4 hm ⟨fk.tr (ab_fr (ni_mi o2)), ?_, c1, c2, gB, gA, nB', nA', ?_, hz12⟩ z6 z3 s0 hz6 hz3 e0 (by omega) hR
      · rw [o2.2.1 _ _ (fun z => z)]
        exact w1
      · exact hs.mv o2 (fun j hj => ⟨fun z => z, fun z => z, fun z => by unfold abL at z; omega, fun z => by unfold abL at z; omega⟩)
    refine ⟨fun e => ⟨fun c => ⟨fun _ => keep _ ?_ ?_, fun z => absurd z e⟩, fun c => ⟨is171, m_changes X 6 h1 _ A B ms1.r cA cB (fun h2 o2 c1 c2 => ⟨fun _ => swap h2 o2 c1 c2 _ ?_ ?_, fun z => absurd z e⟩)⟩⟩, fun e => ⟨fun c => ⟨fun z => absurd e z, fun _ => keep _ ?_ ?_⟩, fun c => ⟨is171, m_changes X 6 h1 _ A B ms1.r cA cB (fun h2 o2 c1 c2 => ⟨fun z => absurd e z, fun _ => swap h2 o2 c1 c2 _ ?_ ?_⟩)⟩⟩⟩
    · rw [rA, rB, if_neg e, if_neg e, d63]; omega
    · have c := nz_le.mp c
      rw [d63]; omega
    · rw [rA, rB, if_neg e, if_neg e, d36]; omega
    · have c : ¬ z3.toInt ≤ z6.toInt := fun y => c (nz_le.mpr y)
      rw [d36]; omega
    · rw [rA, rB, if_pos e, if_pos e, d36]
    · have c := nz_le.mp c
      rw [d36]; omega
    · rw [rA, rB, if_pos e, if_pos e, d63]
    · have c : ¬ z6.toInt ≤ z3.toInt := fun y => c (nz_le.mpr y)
      rw [d63]; omega
theorem w_divide (x f : Int32) (ms : MS h Z) (bd : bdZ Z) (ok : okZ Z) (hK : dI h (q_divide x f Z) KI) : jI X 8 y_Model_divide [.ref 171, .int x, .int f] 227 h KI := by
  unfold q_divide at hK
  have hm := bd.2.1.1
  have hml := bd.2.1.2.1
  have hz := ms.k.zl
  refine r_Model_divide X 7 227 _ 171 x f h ⟨is171, m_isRatio X 5 h _ Z x ms bd (fun hr => ⟨fun z => absurd z (by decide), fun _ => c_in X 6 227 _ h _ _ _ ⟨fun y => ⟨is171, fun e => ⟨is171, ?_⟩, fun e => ?_⟩, fun y => ?_⟩⟩) (fun hr => ⟨fun _ => ?_, fun z => absurd rfl z⟩)⟩
  · rw [nz_bt, Classical.not_not, Int32.toInt_toInt64] at y
    have y : 0 ≤ f.toInt ∧ f.toInt ≤ 1 := y
    have hn : Z.k.nl < 6 := by
      have : Z.k.nl ≠ 6 := fun z => e (Int32.toInt_inj.mp (by rw [hz, z]; rfl))
      omega
    rw [if_pos ⟨hr, y⟩, if_neg (by omega)] at hK
    have hx : x.toInt = (x.toInt.toNat : Int) := by omega
    have hk : x.toInt.toNat < Z.k.nr := by omega
    have hR : Z.R x = Z.k.R x.toInt.toNat := congrArg Z.k.R (nz_nat hx)
    rw [hR] at hK
    have hf : f = 0 ∨ f = 1 := by
      have : f.toInt = 0 ∨ f.toInt = 1 := by omega
      exact this.imp (fun z => Int32.toInt_inj.mp z) (fun z => Int32.toInt_inj.mp z)
    obtain ⟨o1, o2, o3⟩ := ok.1.1 _ hk
    refine m_loads X 6 h _ Z x _ hx ms bd (by omega) (fun h1 ol c1 c2 => ⟨is171, Or.inl rfl, ?_⟩)
    have fk : oT (mI 171) abL h (jv_uI h1 171 6 0) := (ni_mi ol).uI ⟨rfl, rfl⟩
    have oz : oT (fun q j => q = 171) nL h1 (jv_uI h1 171 6 0) := oT.rf.uI rfl
    refine div47 X h Z _ f hf (dv (if f = 0 then 1 else 0) 13 (Z.k.R x.toInt.toNat).1 (Z.k.R x.toInt.toNat).2 0 z0L) ms bd hn (fun M hM z hz' h' o' m' => ?_) (fun e he z hz' h' o' m' => ?_) 13 _ 0 0 _ _ z0L (Or.inl rfl) rfl rfl ⟨ab_fr fk, uI_eq, c1.mv oz (fun i => ⟨fun z => z, fun z => z⟩), c2.mv oz (fun i => ⟨fun z => z, fun z => z⟩), fun i hi => (o1 i hi).1, fun i hi => (o1 i hi).2, o2, o3, fun j hj => absurd hj (Nat.not_lt_zero _), by decide⟩ rfl
    · rw [hM] at hK
      exact hK z hz' h' o' m'
    · rw [he] at hK
      exact hK z hz' h' o' m'
  · rw [nz_bt, Classical.not_not, Int32.toInt_toInt64] at y
    have y : 0 ≤ f.toInt ∧ f.toInt ≤ 1 := y
    have hn : Z.k.nl = 6 := by
      have : (jv_gI h 171 18).toInt = 6 := by rw [e]; rfl
      omega
    rw [if_pos ⟨hr, y⟩, if_pos hn] at hK
    exact hK _ rfl h oM.rf ms
  · rw [nz_bt, Int32.toInt_toInt64] at y
    rw [if_neg (fun z => y z.2)] at hK
    exact hK _ rfl h oM.rf ms
  · rw [if_neg (fun z => hr z.1)] at hK
    exact hK _ rfl h oM.rf ms
end
