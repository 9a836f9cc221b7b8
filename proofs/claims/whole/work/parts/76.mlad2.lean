/-! ===== the reference: ladders turned and scaled ===== -/
theorem cut_sz (T : zL) : T.cut T.sz = T := rfl
theorem bdZ.addL {Z : zZ} {T : zL} (b : bdZ Z) (hn : Z.k.nl < 6) (ht : T.sz ≤ 12) : bdZ (Z.sk (Z.k.addL T)) := by
  obtain ⟨b1, ⟨b2, b3, b4, b5, b6⟩, b7, b8⟩ := b
  refine ⟨b1, ⟨b2, show Z.k.nl + 1 ≤ 6 by omega, fun l hl => ?_, b5, b6⟩, b7, b8⟩
  show (if l = Z.k.nl then T else Z.k.L l).sz ≤ 12
  have hl : l < Z.k.nl + 1 := hl
  by_cases e : l = Z.k.nl
  · rw [if_pos e]; exact ht
  · rw [if_neg e]; exact b4 l (by omega)
section
variable (X : jv_X) (d : Nat) (h : jv_H) (K : jv_H → Prop) (KI : Int32 → jv_H → Prop) (KJ : Int64 → jv_H → Prop) (Z : zZ)
theorem m_comes (x1 x2 : Int32) (l : Nat) (hx : x1.toInt = l) (hl : l < Z.k.nl) (ms : MS h Z) (bd : bdZ Z) (hn : Z.k.nl < 6) (T : zL) (hs : sl h Z.k.nl T) (ez : x2.toInt = T.sz) (ee : T.en = (Z.k.L l).en) (el : T.en = 2 → T.lo = (Z.k.L l).lo) (hK : ∀ z : Int32, z.toInt = Z.k.nl → ∀ h', oM h h' → MS h' (Z.sk (Z.k.addL T)) → KI z h') : jI X (d + 1) y_Model_comes [.ref 171, .int x1, .int x2] 227 h KI := by
  have zl := ms.k.zl
  have mr := ms.r
  have gi : ∀ q : Nat, ∀ t : Nat, SHT q = (t, 6) → q < 227 → jv_ix SHT 227 q t x1 := fun q t h1 h2 => jx h1 h2 (by omega) (by omega)
  have gn : ∀ q : Nat, ∀ t : Nat, SHT q = (t, 6) → q < 227 → jv_ix SHT 227 q t (jv_gI h 171 18) := fun q t h1 h2 => jx h1 h2 (by omega) (by omega)
  refine r_Model_comes X d 227 _ 171 x1 x2 h ⟨is171, _, mr 12, is171, gn 177 0 rfl (by decide), is171, _, mr 13, is171, is171, _, mr 13, gi 178 0 rfl (by decide), gn 178 0 rfl (by decide), is171, _, mr 16, is171, is171, _, mr 16, gi 181 1 rfl (by decide), gn 181 1 rfl (by decide), is171, _, mr 17, is171, is171, _, mr 17, gi 182 1 rfl (by decide), gn 182 1 rfl (by decide), is171, is171, is171, ?_⟩
  simp only [gI_uI, gI_uL, gL_uL, gL_uI, and_self, true_and, and_true, false_and, and_false, if_true, if_false, reduceIte, Nat.reduceEqDiff]
  rw [nz_nat zl, nz_nat hx]
  have o1 : fK Z.k h (jv_uL (jv_uL (jv_uI (jv_uI h 177 Z.k.nl x2) 178 Z.k.nl (jv_gI h 178 l)) 181 Z.k.nl (jv_gL h 181 l)) 182 Z.k.nl (jv_gL h 182 l)) := (((oT.rf.uI (by unfold frI; omega)).uI (by unfold frI; omega)).uL (by unfold frL; omega)).uL (by unfold frL; omega)
  have ms1 := ms.mv bd o1
  have kn := MKn.addL (L := T) ms1.k hn (by
    show (jv_gI (jv_uI (jv_uI h 177 Z.k.nl x2) 178 Z.k.nl (jv_gI h 178 l)) 177 Z.k.nl).toInt = _
    rw [gI_uI, gI_uI, if_neg (by omega), if_pos ⟨rfl, rfl⟩]
    exact ez) (by
    show jv_gI (jv_uI (jv_uI h 177 Z.k.nl x2) 178 Z.k.nl (jv_gI h 178 l)) 178 Z.k.nl = _
    rw [gI_uI, if_pos ⟨rfl, rfl⟩, ee]
    exact ms.k.le hl) (fun y => by
    rw [uq_st _ _ _ _ _ _ (by decide), if_pos rfl, el y]
    rw [ee] at y
    exact ms.k.ll hl y) (hs.mv (SI := fun q j => q = 177 ∨ q = 178) (SL := fun q j => q = 181 ∨ q = 182) ((((oT.rf.uI (Or.inl rfl)).uI (Or.inr rfl)).uL (Or.inl rfl)).uL (Or.inr rfl)) (fun j hj => ⟨by omega, by omega, by omega, by omega⟩))
  have e18 : jv_gI (jv_uL (jv_uL (jv_uI (jv_uI h 177 Z.k.nl x2) 178 Z.k.nl (jv_gI h 178 l)) 181 Z.k.nl (jv_gL h 181 l)) 182 Z.k.nl (jv_gL h 182 l)) 171 18 = jv_gI h 171 18 := rfl
  rw [e18] at kn
  have o4 : oT (fun q j => q = 171 ∧ j = 18) nL (jv_uL (jv_uL (jv_uI (jv_uI h 177 Z.k.nl x2) 178 Z.k.nl (jv_gI h 178 l)) 181 Z.k.nl (jv_gL h 181 l)) 182 Z.k.nl (jv_gL h 182 l)) (jv_uI (jv_uL (jv_uL (jv_uI (jv_uI h 177 Z.k.nl x2) 178 Z.k.nl (jv_gI h 178 l)) 181 Z.k.nl (jv_gL h 181 l)) 182 Z.k.nl (jv_gL h 182 l)) 171 18 (jv_gI h 171 18 + 1)) := oT.rf.uI ⟨rfl, rfl⟩
  exact hK _ (nz_incdec zl (by omega)) _ ((fK.M o1).tr (o4.M (fun q j z => by omega) (fun q j z => z.elim))) (ms1.upd bd o4 (fun q j z => by omega) (fun q j z => z.elim) kn)
theorem ly_fr {Zk : zK} {j : Nat} {h h' : jv_H} (o : oT (lyI (12 * Zk.nl + j)) (lyL (12 * Zk.nl + j)) h h') : fK Zk h h' := o.mono (fun q j z => by unfold lyI at z; unfold frI; omega) (fun q j z => by unfold lyL at z; unfold frL; omega)
theorem mturn_l (Q : jv_Q) (x1 : Int32) (l : Nat) (hx : x1.toInt = l) (hl : l < Z.k.nl) (ms : MS h Z) (bd : bdZ Z) (hn : Z.k.nl < 6) (hK : ∀ z : Int32, z.toInt = Z.k.nl → ∀ h', oM h h' → MS h' (Z.sk (Z.k.addL (Z.k.L l).trn)) → Q (some (.int z)) h') : ∀ (m k : Nat) (x2 : Int32) (h1 : jv_H), x2.toInt = k → k + m = (Z.k.L l).sz → fK Z.k h h1 → sl h1 Z.k.nl ((Z.k.L l).trn.cut k) → a_Model_turn_24 X 7 227 Q 171 x1 x2 h1 0
  | 0, k, x2, h1, hk, hm, fk, hs => by
    have ms1 := ms.mv bd fk
    have lz := ms1.k.lz hl
    have gi : ∀ q : Nat, ∀ t : Nat, SHT q = (t, 6) → q < 227 → jv_ix SHT 227 q t x1 := fun q t h1 h2 => jx h1 h2 (by omega) (by omega)
    refine r_Model_turn_24 X 7 227 Q 171 x1 x2 h1 ⟨is171, _, ms1.r 12, gi 177 0 rfl (by decide), ?_⟩
    rw [nz_nat hx]
    refine ⟨fun _ => ⟨is171, _, ms1.r 12, gi 177 0 rfl (by decide), is171, ?_⟩, fun z => absurd (nz_le.mpr (by rw [lz, hk]; omega)) z⟩
    have ek : k = (Z.k.L l).sz := by omega
    subst ek
    exact m_comes X 6 h1 (fun z h' => Q (some (.int z)) h') Z x1 _ l hx hl ms1 bd hn (Z.k.L l).trn hs lz rfl (fun _ => rfl) (fun z hz h' o' m' => hK z hz h' ((fK.M fk).tr o') m')
  | m + 1, k, x2, h1, hk, hm, fk, hs => by
    have ms1 := ms.mv bd fk
    have lz := ms1.k.lz hl
    have hsz := bd.2.1.2.2.1 l hl
    have zl := ms1.k.zl
    have gi : ∀ q : Nat, ∀ t : Nat, SHT q = (t, 6) → q < 227 → jv_ix SHT 227 q t x1 := fun q t h1 h2 => jx h1 h2 (by omega) (by omega)
    refine r_Model_turn_24 X 7 227 Q 171 x1 x2 h1 ⟨is171, _, ms1.r 12, gi 177 0 rfl (by decide), ?_⟩
    rw [nz_nat hx]
    refine ⟨fun z => ?_, fun _ => ⟨is171, _, ms1.r 12, gi 177 0 rfl (by decide), ?_⟩⟩
    · have := nz_le.mp z
      rw [lz, hk] at this
      omega
    · have a1 := nz_12p hx (by omega) lz (by omega)
      have e1 : (1 : Int32).toInt = 1 := rfl
      have a2 : ((12 : Int32) * x1 + jv_gI h1 177 l - 1).toInt = ((12 * l + (Z.k.L l).sz - 1 : Nat) : Int) := by rw [nz_subi (by rw [a1, e1]; omega) (by rw [a1, e1]; omega), a1, e1]; omega
      have a3 : ((12 : Int32) * x1 + jv_gI h1 177 l - 1 - x2).toInt = ((12 * l + ((Z.k.L l).sz - 1 - k) : Nat) : Int) := by rw [nz_subi (by rw [a2, hk]; omega) (by rw [a2, hk]; omega), a2, hk]; omega
      have gj : ∀ q : Nat, ∀ t : Nat, SHT q = (t, 72) → q < 227 → jv_ix SHT 227 q t ((12 : Int32) * x1 + jv_gI h1 177 l - 1 - x2) := fun q t h1 h2 => jx h1 h2 (by omega) (by omega)
      refine ⟨is171, is171, _, ms1.r 10, gj 175 0 rfl (by decide), is171, _, ms1.r 11, gj 176 0 rfl (by decide), is171, _, ms1.r 14, gj 179 1 rfl (by decide), is171, _, ms1.r 15, gj 180 1 rfl (by decide), is171, ?_⟩
      rw [nz_nat a3]
      have hj : (Z.k.L l).sz - 1 - k < (Z.k.L l).sz := by omega
      refine m_lays X 6 h1 _ _ (12 * Z.k.nl + k) (nz_12p zl hn hk (by omega)) (by omega) _ _ _ _ ms1.r (fun h3 o3 b1 b2 b3 => ?_)
      refine mturn_l Q x1 l hx hl ms bd hn hK m (k + 1) _ h3 (nz_inc hk (by omega)) (by omega) (fk.tr (ly_fr o3)) (sl_cut hs o3 ?_ ?_ ?_)
      · rw [b1]; exact ms1.k.ls hl hj
      · rw [b2]; exact ms1.k.lu hl hj
      · rw [b3]; exact ms1.k.lv hl hj
theorem w_turn (x : Int32) (ms : MS h Z) (bd : bdZ Z) (hK : dI h (q_turn x Z) KI) : jI X 8 y_Model_turn [.ref 171, .int x] 227 h KI := by
  unfold q_turn at hK
  have hz := ms.k.zl
  have hml := bd.2.1.2.1
  refine r_Model_turn X 7 227 _ 171 x h ⟨is171, m_isLadder X 5 h _ Z x ms bd (fun hr => ⟨fun _ => ⟨is171, fun e => ?_, fun e => ?_⟩, fun z => absurd z (by decide)⟩) (fun hr => ⟨fun z => absurd rfl z, fun _ => ?_⟩)⟩
  · have hn : Z.k.nl < 6 := by
      have : Z.k.nl ≠ 6 := fun z => e (Int32.toInt_inj.mp (by rw [hz, z]; rfl))
      omega
    rw [if_pos hr, if_neg (by omega)] at hK
    obtain ⟨l, hx, hl, hL, hc⟩ := isL.n hr
    rw [hL] at hK
    exact mturn_l X h Z (jv_rI KI) x l hx hl ms bd hn hK (Z.k.L l).sz 0 0 h rfl (by omega) oT.rf (fun j hj => absurd hj (Nat.not_lt_zero _))
  · have hn : Z.k.nl = 6 := by
      have : (jv_gI h 171 18).toInt = 6 := by rw [e]; rfl
      omega
    rw [if_pos hr, if_pos hn] at hK
    exact hK _ rfl h oM.rf ms
  · rw [if_neg hr] at hK
    exact hK _ rfl h oM.rf ms
theorem mul_told {p : Int × Int} {a b : Int} (ha : 1 ≤ a ∧ a ≤ 9999) (hb : 1 ≤ b ∧ b ≤ 9999) : fz_mul p (a, b) = fz_mul p (fz_of a b) := (fz_mul_of (fz_told ha hb).1.nw).symm
theorem fz_quo_W' (w : Int × Int) : fz_quo (-1, 0) w = (-1, 0) := fz_quo_W1 w
theorem mi_fk {Zk : zK} {h h' : jv_H} (o : oT (mI 171) (mL 171) h h') : fK Zk h h' := ab_fr (mi_ab o)
theorem sl_mi {h h' : jv_H} {l : Nat} {L : zL} (c : sl h l L) (o : oT (mI 171) (mL 171) h h') : sl h' l L := c.mv o (fun j hj => ⟨fun z => by unfold mI at z; omega, fun z => by unfold mI at z; omega, fun z => by unfold mL at z; omega, fun z => by unfold mL at z; omega⟩)
def ssi (h1 : jv_H) (n : Nat) (T : zL) (k : Nat) (wc : Bool) : Prop := (wc = false ∧ sl h1 n (T.cut k) ∧ ∀ j, j < k → T.va j ≠ (-1, 0)) ∨ (wc = true ∧ ¬ T.fits)
theorem scl_go (Q : jv_Q) (x1 x2 x3 x4 x5 : Int32) (t1 : tol x2 x3) (t2 : tol x4 x5) (l : Nat) (hx : x1.toInt = l) (hl : l < Z.k.nl) (ms : MS h Z) (bd : bdZ Z) (ok : okZ Z) (hn : Z.k.nl < 6)
    (hK1 : ((Z.k.L l).scl (fz_of x2.toInt x3.toInt) (fz_of x4.toInt x5.toInt)).fits → ∀ z : Int32, z.toInt = Z.k.nl → ∀ h', oM h h' → MS h' (Z.sk (Z.k.addL ((Z.k.L l).scl (fz_of x2.toInt x3.toInt) (fz_of x4.toInt x5.toInt)))) → Q (some (.int z)) h') (hK0 : ¬ ((Z.k.L l).scl (fz_of x2.toInt x3.toInt) (fz_of x4.toInt x5.toInt)).fits → ∀ h', oM h h' → MS h' Z → Q (some (.int (-6))) h') :
    ∀ (m k : Nat) (x6 : Int32) (h1 : jv_H) (wc : Bool), x6.toInt = k → k + m = (Z.k.L l).sz → fK Z.k h h1 → h1.1 171 6 = (if wc then 1 else 0) → ssi h1 Z.k.nl ((Z.k.L l).scl (fz_of x2.toInt x3.toInt) (fz_of x4.toInt x5.toInt)) k wc → a_Model_scale_48 X 7 227 Q 171 x1 x2 x3 x4 x5 x6 h1 0
  | 0, k, x6, h1, wc, hk, hm, fk, hw, inv => by
    have ms1 := ms.mv bd fk
    have lz := ms1.k.lz hl
    have hsz := bd.2.1.2.2.1 l hl
    obtain ⟨ok1, ok2, ok3, ok4, ok5, ok6⟩ := ok.1.2.1 l hl
    have gi : ∀ q : Nat, ∀ t : Nat, SHT q = (t, 6) → q < 227 → jv_ix SHT 227 q t x1 := fun q t h1 h2 => jx h1 h2 (by omega) (by omega)
    have ek : k = (Z.k.L l).sz := by omega
    subst ek
    have last : ∀ (h2 : jv_H) (w2 : Bool) (s t : Int64), fK Z.k h h2 → h2.1 171 6 = (if w2 then 1 else 0) → ((w2 = false ∧ sl h2 Z.k.nl (((Z.k.L l).scl (fz_of x2.toInt x3.toInt) (fz_of x4.toInt x5.toInt)).cut (Z.k.L l).sz) ∧ ((Z.k.L l).en = 2 → (s.toInt, t.toInt) = fz_mul (Z.k.L l).lo (fz_of x4.toInt x5.toInt)) ∧ ((Z.k.L l).scl (fz_of x2.toInt x3.toInt) (fz_of x4.toInt x5.toInt)).fits) ∨ (w2 = true ∧ ¬ ((Z.k.L l).scl (fz_of x2.toInt x3.toInt) (fz_of x4.toInt x5.toInt)).fits)) → a_Model_scale_249 X 7 227 Q 171 x1 s t h2 0 := fun h2 w2 s t fk2 hw2 i2 => by
      have ms2 := ms.mv bd fk2
      have lz2 := ms2.k.lz hl
      refine r_Model_scale_249 X 7 227 Q 171 x1 s t h2 ⟨is171, fun w => ⟨is171, _, ms2.r 12, gi 177 0 rfl (by decide), is171, ?_⟩, fun w => ?_⟩
      · rcases i2 with ⟨z1, z2, z3, z4⟩ | ⟨z1, z2⟩
        · rw [nz_nat hx]
          refine m_comes X 6 h2 _ Z x1 _ l hx hl ms2 bd hn (((Z.k.L l).scl (fz_of x2.toInt x3.toInt) (fz_of x4.toInt x5.toInt)).fin (Z.k.L l).en (Z.k.L l).lo) z2 lz2 rfl (fun _ => rfl) (fun z hz h3 o3 m3 => ?_)
          have bd3 : bdZ (Z.sk (Z.k.addL (((Z.k.L l).scl (fz_of x2.toInt x3.toInt) (fz_of x4.toInt x5.toInt)).fin (Z.k.L l).en (Z.k.L l).lo))) := bd.addL hn hsz
          have gz : ∀ q : Nat, ∀ t : Nat, SHT q = (t, 6) → q < 227 → jv_ix SHT 227 q t z := fun q t h1 h2 => jx h1 h2 (by omega) (by omega)
          refine ⟨is171, _, m3.r 16, gz 181 1 rfl (by decide), is171, _, m3.r 17, gz 182 1 rfl (by decide), ?_⟩
          rw [nz_nat hz]
          have o4 : oT (fun q j => q = 178 ∧ j = Z.k.nl) (fun q j => (q = 181 ∨ q = 182) ∧ j = Z.k.nl) h3 (jv_uL (jv_uL h3 181 Z.k.nl s) 182 Z.k.nl t) := (oT.rf.uL ⟨Or.inl rfl, rfl⟩).uL ⟨Or.inr rfl, rfl⟩
          have en3 := m3.k.le (l := Z.k.nl) (show Z.k.nl < Z.k.nl + 1 by omega)
          have eL : (Z.sk (Z.k.addL (((Z.k.L l).scl (fz_of x2.toInt x3.toInt) (fz_of x4.toInt x5.toInt)).fin (Z.k.L l).en (Z.k.L l).lo))).k.L Z.k.nl = ((Z.k.L l).scl (fz_of x2.toInt x3.toInt) (fz_of x4.toInt x5.toInt)).fin (Z.k.L l).en (Z.k.L l).lo := if_pos rfl
          rw [eL] at en3
          have kn := MKn.setL (e := (Z.k.L l).en) (q := if (Z.k.L l).en = 2 then fz_mul (Z.k.L l).lo (fz_of x4.toInt x5.toInt) else (Z.k.L l).lo) m3.k o4 en3 (fun e => by
            rw [uq_st _ _ _ _ _ _ (by decide), if_pos rfl, if_pos e]
            exact z3 e)
          rw [eL] at kn
          have eK : (Z.sk (Z.k.addL (((Z.k.L l).scl (fz_of x2.toInt x3.toInt) (fz_of x4.toInt x5.toInt)).fin (Z.k.L l).en (Z.k.L l).lo))).k.setL Z.k.nl ((((Z.k.L l).scl (fz_of x2.toInt x3.toInt) (fz_of x4.toInt x5.toInt)).fin (Z.k.L l).en (Z.k.L l).lo).fin (Z.k.L l).en (if (Z.k.L l).en = 2 then fz_mul (Z.k.L l).lo (fz_of x4.toInt x5.toInt) else (Z.k.L l).lo)) = Z.k.addL ((Z.k.L l).scl (fz_of x2.toInt x3.toInt) (fz_of x4.toInt x5.toInt)) := by
            show (Z.k.1, (Z.k.nl + 1, fun k => if k = Z.k.nl then _ else if k = Z.k.nl then _ else Z.k.L k), Z.k.2.2) = (Z.k.1, (Z.k.nl + 1, fun k => if k = Z.k.nl then _ else Z.k.L k), Z.k.2.2)
            congr 3
            funext k
            by_cases e : k = Z.k.nl
            · rw [if_pos e, if_pos e]
              rfl
            · rw [if_neg e, if_neg e, if_neg e]
          have m4 := m3.upd bd3 o4 (fun q j z => by omega) (fun q j z => by omega) kn
          rw [eK] at m4
          exact hK1 z4 z hz _ (((fK.M fk2).tr o3).tr (o4.M (fun q j z => by omega) (fun q j z => by omega))) m4
        · subst z1
          rw [show jv_gI h2 171 6 = 1 from hw2] at w
          exact absurd w (by decide)
      · rcases i2 with ⟨z1, _⟩ | ⟨z1, z2⟩
        · subst z1
          exact absurd hw2 w
        · exact hK0 z2 h2 (fK.M fk2) ms2
    refine r_Model_scale_48 X 7 227 Q 171 x1 x2 x3 x4 x5 x6 h1 ⟨is171, _, ms1.r 12, gi 177 0 rfl (by decide), ?_⟩
    rw [nz_nat hx]
    refine ⟨fun _ => ⟨is171, _, ms1.r 13, gi 178 0 rfl (by decide), ?_⟩, fun z => absurd (nz_le.mpr (by rw [lz, hk]; omega)) z⟩
    rw [ms1.k.le hl]
    refine ⟨fun e => last h1 wc 0 1 fk hw ?_, fun e => ⟨is171, _, ms1.r 16, gi 181 1 rfl (by decide), is171, _, ms1.r 17, gi 182 1 rfl (by decide), is171, ?_⟩⟩
    · rcases inv with ⟨i1, i2, i3⟩ | ⟨i1, i2⟩
      · refine Or.inl ⟨i1, i2, fun z => absurd z e, i3, ?_⟩
        show (if (Z.k.L l).en = 2 then fz_mul (Z.k.L l).lo (fz_of x4.toInt x5.toInt) else (Z.k.L l).lo) ≠ (-1, 0)
        rw [if_neg e]
        exact ok5.nw
      · exact Or.inr ⟨i1, i2⟩
    · have lo := ms1.k.ll hl e
      refine c_times X 4 227 _ h1 171 _ _ _ _ wc (Z.k.L l).lo (x4.toInt, x5.toInt) is171 hw (uq.a lo) (uq.b lo) (Int32.toInt_toInt64 _) (Int32.toInt_toInt64 _) ok5.z (gz_told t2.1 t2.2) (fun h2 o2 m2 => ⟨is171, is171, ?_⟩)
      rw [mul_told t2.1 t2.2] at m2
      have el : ((Z.k.L l).scl (fz_of x2.toInt x3.toInt) (fz_of x4.toInt x5.toInt)).lo = fz_mul (Z.k.L l).lo (fz_of x4.toInt x5.toInt) := if_pos e
      refine last h2 _ _ _ (fk.tr (mi_fk o2)) m2.2.2 ?_
      have st := rq_io (wc := wc) (w0 := false) (N := ¬ ((Z.k.L l).scl (fz_of x2.toInt x3.toInt) (fz_of x4.toInt x5.toInt)).fits) (T := fz_mul (Z.k.L l).lo (fz_of x4.toInt x5.toInt)) (inv.imp (fun z => ⟨z.1, rfl⟩) (fun z => ⟨z.1, Or.inr z.2⟩)) (fun _ z y => y.2 (by rw [el]; exact z))
      rcases st with ⟨s1, s2, s3, s4⟩ | ⟨s1, s2⟩
      · rcases inv with ⟨i1, i2, i3⟩ | ⟨i1, i2⟩
        · refine Or.inl ⟨s1, sl_mi i2 o2, fun _ => ?_, i3, ?_⟩
          · rw [← s3]; exact Prod.ext m2.1 m2.2.1
          · rw [el, ← s3]
            exact (rz_mul (w := wc)).nw
        · rw [i1] at s4; cases s4
      · exact Or.inr ⟨s1, s2.elim (fun z => by cases z) id⟩
  | m + 1, k, x6, h1, wc, hk, hm, fk, hw, inv => by
    have ms1 := ms.mv bd fk
    have lz := ms1.k.lz hl
    have hsz := bd.2.1.2.2.1 l hl
    have zl := ms1.k.zl
    have hkl : k < (Z.k.L l).sz := by omega
    obtain ⟨ok1, ok2, ok3, ok4, ok5, ok6⟩ := ok.1.2.1 l hl
    have gi : ∀ q : Nat, ∀ t : Nat, SHT q = (t, 6) → q < 227 → jv_ix SHT 227 q t x1 := fun q t h1 h2 => jx h1 h2 (by omega) (by omega)
    have hp := nz_12p hx (by omega) hk (by omega)
    have gj : ∀ q : Nat, ∀ t : Nat, SHT q = (t, 72) → q < 227 → jv_ix SHT 227 q t ((12 : Int32) * x1 + x6) := fun q t h1 h2 => jx h1 h2 (by omega) (by omega)
    have nfit : ((Z.k.L l).scl (fz_of x2.toInt x3.toInt) (fz_of x4.toInt x5.toInt)).va k = (-1, 0) → ¬ ((Z.k.L l).scl (fz_of x2.toInt x3.toInt) (fz_of x4.toInt x5.toInt)).fits := fun z y => y.1 k hkl z
    have va : ((Z.k.L l).scl (fz_of x2.toInt x3.toInt) (fz_of x4.toInt x5.toInt)).va k = sc_v ((Z.k.L l).so k) ((Z.k.L l).va k) (fz_of x2.toInt x3.toInt) (fz_of x4.toInt x5.toInt) := rfl
    have last : ∀ (h2 : jv_H) (w2 : Bool) (q : Int × Int), fK Z.k h h2 → MI h2 171 w2 q → ((w2 = false ∧ wc = false ∧ q = ((Z.k.L l).scl (fz_of x2.toInt x3.toInt) (fz_of x4.toInt x5.toInt)).va k ∧ q ≠ (-1, 0) ∧ sl h2 Z.k.nl (((Z.k.L l).scl (fz_of x2.toInt x3.toInt) (fz_of x4.toInt x5.toInt)).cut k)) ∨ (w2 = true ∧ ¬ ((Z.k.L l).scl (fz_of x2.toInt x3.toInt) (fz_of x4.toInt x5.toInt)).fits)) → a_Model_scale_157 X 7 227 Q 171 x1 x2 x3 x4 x5 x6 ((12 : Int32) * x1 + x6) h2 0 := fun h2 w2 q fk2 m2 i2 => by
      have ms2 := ms.mv bd fk2
      have zl2 := ms2.k.zl
      refine r_Model_scale_157 X 7 227 Q 171 x1 x2 x3 x4 x5 x6 _ h2 ⟨is171, is171, _, ms2.r 10, gj 175 0 rfl (by decide), is171, _, ms2.r 11, gj 176 0 rfl (by decide), is171, is171, is171, ?_⟩
      rw [nz_nat hp]
      refine m_lays X 6 h2 _ _ (12 * Z.k.nl + k) (nz_12p zl2 hn hk (by omega)) (by omega) _ _ _ _ ms2.r (fun h3 o3 b1 b2 b3 => ?_)
      refine scl_go Q x1 x2 x3 x4 x5 t1 t2 l hx hl ms bd ok hn hK1 hK0 m (k + 1) _ h3 w2 (nz_inc hk (by omega)) (by omega) (fk2.tr (ly_fr o3)) (by rw [o3.2.1 _ _ (fun z => by unfold lyI at z; omega)]; exact m2.2.2) ?_
      rcases i2 with ⟨z1, z0, z2, z3, z4⟩ | ⟨z1, z2⟩
      · rcases inv with ⟨i1, _, i3⟩ | ⟨i1, i3⟩
        · refine Or.inl ⟨z1, sl_cut z4 o3 ?_ ?_ ?_, fun j hj => ?_⟩
          · rw [b1]; exact ms2.k.ls hl hkl
          · rw [b2]; exact ms2.k.lu hl hkl
          · rw [b3, ← z2]; exact Prod.ext m2.1 m2.2.1
          · by_cases e : j = k
            · rw [e, ← z2]; exact z3
            · exact i3 j (by omega)
        · rw [i1] at z0; cases z0
      · exact Or.inr ⟨z1, z2⟩
    have hs2 : ∀ h2 : jv_H, oT (mI 171) (mL 171) h1 h2 → wc = false → sl h2 Z.k.nl (((Z.k.L l).scl (fz_of x2.toInt x3.toInt) (fz_of x4.toInt x5.toInt)).cut k) := fun h2 o2 e => inv.elim (fun z => sl_mi z.2.1 o2) (fun z => by rw [z.1] at e; cases e)
    have second : ∀ (h2 : jv_H) (w2 : Bool) (q u : Int × Int), oT (mI 171) (mL 171) h1 h2 → MI h2 171 w2 q → gd q → ((Z.k.L l).so k = 2 → ((Z.k.L l).scl (fz_of x2.toInt x3.toInt) (fz_of x4.toInt x5.toInt)).va k = u) → (¬ (Z.k.L l).so k = 2 → ((Z.k.L l).scl (fz_of x2.toInt x3.toInt) (fz_of x4.toInt x5.toInt)).va k = fz_quo u (fz_of x2.toInt x3.toInt)) → ((w2 = false ∧ wc = false ∧ q = u) ∨ (w2 = true ∧ ¬ ((Z.k.L l).scl (fz_of x2.toInt x3.toInt) (fz_of x4.toInt x5.toInt)).fits)) → (jv_is SHT 227 171 20 ∧ (∃ a : Nat, jv_gR h2 171 10 = some a ∧ (jv_ix SHT 227 a 0 ((12 : Int32) * x1 + x6) ∧ ((jv_gI h2 a (12 * l + k) = 2 → a_Model_scale_157 X 7 227 Q 171 x1 x2 x3 x4 x5 x6 ((12 : Int32) * x1 + x6) h2 0) ∧ (¬ jv_gI h2 a (12 * l + k) = 2 → (jv_is SHT 227 171 20 ∧ (jv_is SHT 227 171 20 ∧ (jv_is SHT 227 171 20 ∧ jV X 7 y_Model_over [.ref 171, .long (jv_gL h2 171 4), .long (jv_gL h2 171 5), .long x2.toInt64, .long x3.toInt64] 227 h2 (fun h3 => a_Model_scale_157 X 7 227 Q 171 x1 x2 x3 x4 x5 x6 ((12 : Int32) * x1 + x6) h3 0))))))))) := fun h2 w2 q u o2 m2 gq e1 e2 i2 => by
      have fk2 := fk.tr (mi_fk (Zk := Z.k) o2)
      have ms2 := ms.mv bd fk2
      refine ⟨is171, _, ms2.r 10, gj 175 0 rfl (by decide), ?_⟩
      rw [ms2.k.ls hl hkl]
      refine ⟨fun e => last h2 w2 q fk2 m2 ?_, fun e => ⟨is171, is171, is171, ?_⟩⟩
      · rcases i2 with ⟨z1, z2, z3⟩ | ⟨z1, z2⟩
        · exact Or.inl ⟨z1, z2, by rw [z3, e1 e], gq.nw, hs2 h2 o2 z2⟩
        · exact Or.inr ⟨z1, z2⟩
      · refine c_over X 4 227 _ h2 171 _ _ _ _ w2 q (x2.toInt, x3.toInt) is171 m2.2.2 m2.1 m2.2.1 (Int32.toInt_toInt64 _) (Int32.toInt_toInt64 _) gq.z (gz_told t1.1 t1.2) (fun h3 o3 m3 => last h3 _ _ (fk2.tr (mi_fk o3)) m3 ?_)
        rw [ovr_told t1.1 t1.2]
        have st := rq_io (wc := w2) (w0 := false) (N := ¬ ((Z.k.L l).scl (fz_of x2.toInt x3.toInt) (fz_of x4.toInt x5.toInt)).fits) (T := fz_quo q (fz_of x2.toInt x3.toInt)) (i2.imp (fun z => ⟨z.1, rfl⟩) (fun z => ⟨z.1, Or.inr z.2⟩)) (fun hw2 z => nfit (by
          rcases i2 with ⟨z1, z2, z3⟩ | ⟨z1, z2⟩
          · rw [e2 e, ← z3]; exact z
          · rw [z1] at hw2; cases hw2))
        rcases st with ⟨s1, s2, s3, s4⟩ | ⟨s1, s2⟩
        · rcases i2 with ⟨z1, z2, z3⟩ | ⟨z1, z2⟩
          · have gs := rz_ovr (w := w2) (p := q) (gz_told t1.1 t1.2)
            rw [ovr_told t1.1 t1.2] at gs
            exact Or.inl ⟨s1, z2, by rw [s3, e2 e, z3], gs.nw, hs2 h3 (o2.tr o3) z2⟩
          · rw [z1] at s4; cases s4
        · exact Or.inr ⟨s1, s2.elim (fun z => by cases z) id⟩
    have v := ms1.k.lv hl hkl
    have gv := (ok3 k hkl).1.1
    refine r_Model_scale_48 X 7 227 Q 171 x1 x2 x3 x4 x5 x6 h1 ⟨is171, _, ms1.r 12, gi 177 0 rfl (by decide), ?_⟩
    rw [nz_nat hx]
    refine ⟨fun z => ?_, fun _ => ⟨is171, _, ms1.r 10, gj 175 0 rfl (by decide), ?_⟩⟩
    · have := nz_le.mp z
      rw [lz, hk] at this
      omega
    · rw [nz_nat hp, ms1.k.ls hl hkl]
      refine ⟨fun e => ⟨is171, _, ms1.r 14, gj 179 1 rfl (by decide), is171, _, ms1.r 15, gj 180 1 rfl (by decide), is171, ?_⟩, fun e => ⟨is171, _, ms1.r 14, gj 179 1 rfl (by decide), is171, _, ms1.r 15, gj 180 1 rfl (by decide), is171, ?_⟩⟩
      · refine c_times X 4 227 _ h1 171 _ _ _ _ wc ((Z.k.L l).va k) (x4.toInt, x5.toInt) is171 hw (uq.a v) (uq.b v) (Int32.toInt_toInt64 _) (Int32.toInt_toInt64 _) gv.z (gz_told t2.1 t2.2) (fun h2 o2 m2 => ?_)
        have g2 := rz_mul (w := wc) (p := (Z.k.L l).va k) (q := (x4.toInt, x5.toInt))
        rw [mul_told t2.1 t2.2] at m2 g2
        have c2 : (Z.k.L l).so k = 2 → ((Z.k.L l).scl (fz_of x2.toInt x3.toInt) (fz_of x4.toInt x5.toInt)).va k = fz_mul ((Z.k.L l).va k) (fz_of x4.toInt x5.toInt) := fun z => if_pos z
        have c0 : ¬ (Z.k.L l).so k = 2 → ((Z.k.L l).scl (fz_of x2.toInt x3.toInt) (fz_of x4.toInt x5.toInt)).va k = fz_quo (fz_mul ((Z.k.L l).va k) (fz_of x4.toInt x5.toInt)) (fz_of x2.toInt x3.toInt) := fun z => by
          have z0 : (Z.k.L l).so k = 0 := by
            obtain ⟨i, h1, h2⟩ := ok2 k hkl
            have : i = 0 ∨ i = 1 ∨ i = 2 := by omega
            rcases this with y | y | y
            · exact Int32.toInt_inj.mp (by rw [h2, y]; rfl)
            · exact absurd (Int32.toInt_inj.mp (by rw [h2, y]; rfl)) e
            · exact absurd (Int32.toInt_inj.mp (by rw [h2, y]; rfl)) z
          rw [va]
          unfold sc_v
          rw [if_neg z, if_pos z0]
        refine second h2 _ _ _ o2 m2 g2 c2 c0 ?_
        have st := rq_io (wc := wc) (w0 := false) (N := ¬ ((Z.k.L l).scl (fz_of x2.toInt x3.toInt) (fz_of x4.toInt x5.toInt)).fits) (T := fz_mul ((Z.k.L l).va k) (fz_of x4.toInt x5.toInt)) (inv.imp (fun z => ⟨z.1, rfl⟩) (fun z => ⟨z.1, Or.inr z.2⟩)) (fun _ z => nfit (by
          by_cases y : (Z.k.L l).so k = 2
          · rw [c2 y]; exact z
          · rw [c0 y, z, fz_quo_W1]))
        exact st.imp (fun z => ⟨z.1, z.2.2.2, z.2.2.1⟩) (fun z => ⟨z.1, z.2.elim (fun y => by cases y) id⟩)
      · refine c_over X 4 227 _ h1 171 _ _ _ _ wc ((Z.k.L l).va k) (x4.toInt, x5.toInt) is171 hw (uq.a v) (uq.b v) (Int32.toInt_toInt64 _) (Int32.toInt_toInt64 _) gv.z (gz_told t2.1 t2.2) (fun h2 o2 m2 => ?_)
        have g2 := rz_ovr (w := wc) (p := (Z.k.L l).va k) (gz_told t2.1 t2.2)
        rw [ovr_told t2.1 t2.2] at m2 g2
        have n2 : ¬ (Z.k.L l).so k = 2 := fun z => by rw [e] at z; exact absurd z (by decide)
        have c0 : ((Z.k.L l).scl (fz_of x2.toInt x3.toInt) (fz_of x4.toInt x5.toInt)).va k = fz_quo (fz_quo ((Z.k.L l).va k) (fz_of x4.toInt x5.toInt)) (fz_of x2.toInt x3.toInt) := by
          rw [va]
          unfold sc_v
          rw [if_neg n2, if_neg (by rw [e]; decide)]
        refine second h2 _ _ _ o2 m2 g2 (fun z => absurd z n2) (fun _ => c0) ?_
        have st := rq_io (wc := wc) (w0 := false) (N := ¬ ((Z.k.L l).scl (fz_of x2.toInt x3.toInt) (fz_of x4.toInt x5.toInt)).fits) (T := fz_quo ((Z.k.L l).va k) (fz_of x4.toInt x5.toInt)) (inv.imp (fun z => ⟨z.1, rfl⟩) (fun z => ⟨z.1, Or.inr z.2⟩)) (fun _ z => nfit (by rw [c0, z, fz_quo_W1]))
        exact st.imp (fun z => ⟨z.1, z.2.2.2, z.2.2.1⟩) (fun z => ⟨z.1, z.2.elim (fun y => by cases y) id⟩)
theorem w_scale (x a b u v : Int32) (ms : MS h Z) (bd : bdZ Z) (ok : okZ Z) (hK : dI h (q_scale x a b u v Z) KI) : jI X 8 y_Model_scale [.ref 171, .int x, .int a, .int b, .int u, .int v] 227 h KI := by
  unfold q_scale at hK
  have hz := ms.k.zl
  have hml := bd.2.1.2.1
  refine r_Model_scale X 7 227 _ 171 x a b u v h ⟨is171, m_isLadder X 5 h _ Z x ms bd (fun hr => ⟨fun z => absurd z (by decide), fun _ => c_mTold X 5 227 _ h a b ⟨fun y => ?_, fun y => c_mTold X 5 227 _ h u v ⟨fun y2 => ⟨is171, fun e => ⟨is171, Or.inl rfl, ?_⟩, fun e => ?_⟩, fun y2 => ?_⟩⟩⟩) (fun hr => ⟨fun _ => ?_, fun z => absurd rfl z⟩)⟩
  · rw [nz_bt] at y
    rw [if_neg (fun z => y z.2.1)] at hK
    exact hK _ rfl h oM.rf ms
  · rw [nz_bt, Classical.not_not] at y y2
    have hn : Z.k.nl < 6 := by
      have : Z.k.nl ≠ 6 := fun z => e (Int32.toInt_inj.mp (by rw [hz, z]; rfl))
      omega
    rw [if_pos ⟨hr, y, y2⟩, if_neg (by omega)] at hK
    obtain ⟨l, hx, hl, hL, hc⟩ := isL.n hr
    rw [hL] at hK
    refine scl_go X h Z _ x a b u v y y2 l hx hl ms bd ok hn (fun ft z hz' h' o' m' => ?_) (fun nf h' o' m' => ?_) (Z.k.L l).sz 0 0 _ false rfl (by omega) (oT.rf.uI (by unfold frI; omega)) uI_eq (Or.inl ⟨rfl, fun j hj => absurd hj (Nat.not_lt_zero _), fun j hj => absurd hj (Nat.not_lt_zero _)⟩)
    · rw [cif_t ft] at hK
      exact hK z hz' h' o' m'
    · rw [cif_f nf] at hK
      exact hK _ rfl h' o' m'
  · rw [nz_bt, Classical.not_not] at y y2
    have hn : Z.k.nl = 6 := by
      have : (jv_gI h 171 18).toInt = 6 := by rw [e]; rfl
      omega
    rw [if_pos ⟨hr, y, y2⟩, if_pos hn] at hK
    exact hK _ rfl h oM.rf ms
  · rw [nz_bt] at y2
    rw [if_neg (fun z => y2 z.2.2)] at hK
    exact hK _ rfl h oM.rf ms
  · rw [if_neg (fun z => hr z.1)] at hK
    exact hK _ rfl h oM.rf ms
end
