/-! ===== the reference: build, the rest ===== -/
def MWH (h : jv_H) (W : zW) (k : Nat) : Prop := (h.1 171 29).toInt = W.n ∧ h.1 171 31 = W.ev ∧ (∀ j, j < k → enw h j = W.e j) ∧ ∀ j, k < j → j ≤ W.n → enw h j = W.e (j - 1)
section
variable (X : jv_X) (d : Nat) (h : jv_H) (K : jv_H → Prop) (KI : Int32 → jv_H → Prop) (Z : zZ)
theorem wanted_l (Q : jv_Q) (s u : Int32) (x2 x4 : Int64) (v : Int × Int) (e2 : x2.toInt = v.1) (e4 : x4.toInt = v.2) (hv : gp v) (W : zW) (hW : ∀ j, j < W.n → gp (W.e j).2.2.2) (hn : W.n < 24) (h0 : jv_H) (hQ : ∀ h', oT swI swL h0 h' → (h'.1 171 29).toInt = (W.n + 1 : Nat) → h'.1 171 31 = W.ev + 1 → (∀ j, j < W.n + 1 → enw h' j = ins W.e (W.pos s u v W.n) (s, u, W.ev, v) j) → Q none h') : ∀ (k : Nat) (x7 : Int32) (h : jv_H), x7.toInt = k → k ≤ W.n → MR h → oT swI swL h0 h → MWH h W k → W.pos s u v k = W.pos s u v W.n → a_Model_wanted_6 X (d + 2) 227 Q 171 s x2 x4 u x7 h 0 := by
  have fin : ∀ (k : Nat) (x7 : Int32) (h : jv_H), x7.toInt = k → k ≤ W.n → oT swI swL h0 h → MWH h W k → k = W.pos s u v W.n → Q none (jv_uI (jv_uI (putw h k s u (jv_gI h 171 31) x2 x4) 171 29 (jv_gI h 171 29 + 1)) 171 31 (jv_gI h 171 31 + 1)) := fun k x7 h h7 hk o q' ek => by
    have ev : jv_gI h 171 31 = W.ev := q'.2.1
    refine hQ _ (((o.tr (put_sw h k s u (jv_gI h 171 31) x2 x4)).uI (Or.inr ⟨rfl, Or.inl rfl⟩)).uI (Or.inr ⟨rfl, Or.inr rfl⟩)) ?_ ?_ (fun j hj => ?_)
    · rw [uI_ne (by omega), uI_eq]
      exact nz_inc q'.1 (by omega)
    · rw [uI_eq, ev]
    · have e0 : enw (jv_uI (jv_uI (putw h k s u (jv_gI h 171 31) x2 x4) 171 29 (jv_gI h 171 29 + 1)) 171 31 (jv_gI h 171 31 + 1)) j = enw (putw h k s u (jv_gI h 171 31) x2 x4) j := rfl
      rw [e0, enw_put, ev]
      by_cases z : j = k
      · rw [if_pos z, z, ek, ins_at]
        exact congrArg (fun y => (s, u, W.ev, y)) (Prod.ext e2 e4)
      · rw [if_neg z, ← ek]
        unfold ins
        by_cases y : j < k
        · rw [if_pos y]
          exact q'.2.2.1 j y
        · rw [if_neg y, if_neg z]
          exact q'.2.2.2 j (by omega) (by omega)
  intro k
  induction k with
  | zero =>
    intro x7 h h7 hk mr o q' ek
    have gj : ∀ q t' : Nat, SHT q = (t', 24) → q < 227 → jv_ix SHT 227 q t' x7 := fun q t' h1 h2 => jx h1 h2 (by omega) (by omega)
    refine r_Model_wanted_6 X (d + 2) 227 Q 171 s x2 x4 u x7 h ⟨fun _ => ⟨is171, _, mr 26, gj 190 0 rfl (by decide), is171, _, mr 27, gj 191 0 rfl (by decide), is171, _, mr 28, is171, gj 192 0 rfl (by decide), is171, _, mr 24, gj 188 1 rfl (by decide), is171, _, mr 25, gj 189 1 rfl (by decide), is171, is171, is171, is171, ?_⟩, fun z => absurd (nz_le.mpr (by rw [h7]; show _ ≤ (0 : Int); omega)) z⟩
    rw [nz_nat h7]
    exact fin 0 x7 h h7 hk o q' ek
  | succ k ih =>
    intro x7 h h7 hk mr o q' ek
    have gj : ∀ q t' : Nat, SHT q = (t', 24) → q < 227 → jv_ix SHT 227 q t' x7 := fun q t' h1 h2 => jx h1 h2 (by omega) (by omega)
    have h7m : (x7 - 1).toInt = (k : Nat) := by rw [nz_m1i h7 (by omega)]; omega
    have ve := q'.2.2.1 k (by omega)
    have hpos : W.pos s u v (k + 1) = cif (wah s u v (W.e k)) (W.pos s u v k) (k + 1) := rfl
    rw [hpos] at ek
    refine r_Model_wanted_6 X (d + 2) 227 Q 171 s x2 x4 u x7 h ⟨fun z => ?_, fun _ => ⟨is171, m_isAhead X d h _ (x7 - 1) k h7m s u x2 x4 v e2 e4 hv (W.e k) ve (by omega) (hW k (by omega)) mr (fun nw => ⟨fun _ => ⟨is171, _, mr 26, gj 190 0 rfl (by decide), is171, _, mr 27, gj 191 0 rfl (by decide), is171, _, mr 28, is171, gj 192 0 rfl (by decide), is171, _, mr 24, gj 188 1 rfl (by decide), is171, _, mr 25, gj 189 1 rfl (by decide), is171, is171, is171, is171, ?_⟩, fun z => absurd z (by decide)⟩) (fun nw => ⟨fun z => absurd rfl z, fun _ => ⟨is171, ?_⟩⟩)⟩⟩
    · have : x7.toInt ≤ (0 : Int) := nz_le.mp z
      omega
    · rw [nz_nat h7]
      rw [cif_f nw] at ek
      exact fin (k + 1) x7 h h7 hk o q' ek
    · rw [cif_t nw] at ek
      refine m_wantGoes X (d + 1) h _ x7 (x7 - 1) _ _ h7 h7m (by omega) (by omega) mr ?_
      have o2 := put_sw h (k + 1) (jv_gI h 190 k) (jv_gI h 191 k) (jv_gI h 192 k) (jv_gL h 188 k) (jv_gL h 189 k)
      refine ih _ _ (by rw [nz_dec h7 (by omega)]; omega) (by omega) (mr.mv o2) (o.tr o2) ⟨q'.1, q'.2.1, fun j hj => ?_, fun j hj1 hj2 => ?_⟩ ek
      · rw [enw_put, if_neg (by omega)]
        exact q'.2.2.1 j (by omega)
      · rw [enw_put]
        by_cases z : j = k + 1
        · rw [if_pos z, z]
          exact ve
        · rw [if_neg z]
          exact q'.2.2.2 j (by omega) hj2
theorem m_wanted (s u : Int32) (x2 x4 : Int64) (v : Int × Int) (e2 : x2.toInt = v.1) (e4 : x4.toInt = v.2) (hv : gp v) (ms : MS h Z) (bd : bdZ Z) (hW : ∀ j, j < Z.k.w.n → gp (Z.k.w.e j).2.2.2) (hn : Z.k.w.n < 24) (hK : ∀ h', oM h h' → MS h' (Z.sk (Z.k.setW (Z.k.w.add s v u))) → K h') : jV X (d + 3) y_Model_wanted [.ref 171, .int s, .long x2, .long x4, .int u] 227 h K := by
  refine r_Model_wanted X (d + 2) 227 _ 171 s x2 x4 u h ⟨is171, wanted_l X d _ s u x2 x4 v e2 e4 hv Z.k.w hW hn h (fun h' o' a1 a2 a3 => ?_) Z.k.w.n _ h ms.k.wz (Nat.le_refl _) ms.r oT.rf ⟨ms.k.wz, ms.k.wv, fun j hj => ms.k.we hj, fun j h1 h2 => by omega⟩ rfl⟩
  exact hK h' (o'.M (fun q j z => by unfold swI at z; omega) (fun q j z => by unfold swL at z; omega)) (ms.upd bd o' (fun _ _ z => sw_b z) (fun _ _ z => swl_b z) (MKn.setW (W := Z.k.w.add s v u) ms.k o' a1 a2 a3))
/-- bounds along the way -/
theorem spn_bd {l : Nat} (u : Int32) (bd : bdZ Z) (hS : (Z.k.L l).okS) (hC : okC Z.k.B) (hr : Z.k.w.n + lacn Z.k.B (Z.k.L l) (Z.k.L l).sz ≤ 24) (hB : ∀ k, k ≤ (Z.k.L l).sz → ∀ t, t < 3 → ((Z.k.spn (Z.k.L l) u k).B t).n = (Z.k.B t).n) : ∀ k, k ≤ (Z.k.L l).sz → bdZ (Z.sk (Z.k.spn (Z.k.L l) u k)) := fun k hk => by
  obtain ⟨b1, ⟨b2, b3, b4, b5, b6⟩, b7, b8⟩ := bd
  have e := Z.k.spn_1 (Z.k.L l) u k
  have w := spn_w (u := u) hS hC k hk
  have m := lacn_mono Z.k.B (Z.k.L l) hk
  refine ⟨b1, ⟨?_, ?_, fun i hi => ?_, fun t ht => ?_, ?_⟩, b7, b8⟩
  · show (Z.k.spn (Z.k.L l) u k).1.1 ≤ 6
    rw [e.1]; exact b2
  · show (Z.k.spn (Z.k.L l) u k).2.1.1 ≤ 6
    rw [e.2]; exact b3
  · have hi : i < (Z.k.spn (Z.k.L l) u k).2.1.1 := hi
    show ((Z.k.spn (Z.k.L l) u k).2.1.2 i).sz ≤ 12
    rw [e.2] at hi ⊢
    exact b4 i hi
  · show ((Z.k.spn (Z.k.L l) u k).B t).n ≤ 10
    rw [hB k hk t ht]; exact b5 t ht
  · show (Z.k.spn (Z.k.L l) u k).w.n ≤ 24
    rw [w]; omega
theorem sp1_Be (KK : zK) (s u : Int32) (v : Int × Int) (t : Nat) : ((KK.sp1 s v u).B t).n = (KK.B t).n ∧ ∀ j, (((KK.sp1 s v u).B t).e j).1 = ((KK.B t).e j).1 := by
  unfold zK.sp1
  split
  · show ((if t = s.toNatClampNeg then (KK.B t).dec (fnd KK.B s v) else KK.B t).n = _) ∧ ∀ j, ((if t = s.toNatClampNeg then (KK.B t).dec (fnd KK.B s v) else KK.B t).e j).1 = _
    split
    · refine ⟨rfl, fun j => ?_⟩
      rw [zB.dec_e]
      split <;> rfl
    · exact ⟨rfl, fun _ => rfl⟩
  · exact ⟨rfl, fun _ => rfl⟩
theorem spn_Be (KK : zK) (L : zL) (u : Int32) (t : Nat) : ∀ k, ((KK.spn L u k).B t).n = (KK.B t).n ∧ ∀ j, (((KK.spn L u k).B t).e j).1 = ((KK.B t).e j).1
  | 0 => ⟨rfl, fun _ => rfl⟩
  | k + 1 => by
    have h1 := spn_Be KK L u t k
    have h2 := sp1_Be (KK.spn L u k) (L.so k) u (L.va k) t
    exact ⟨h2.1.trans h1.1, fun j => (h2.2 j).trans (h1.2 j)⟩
theorem ins_gp {W : zW} {s u : Int32} {v : Int × Int} (hW : ∀ j, j < W.n → gp (W.e j).2.2.2) (hv : gp v) : ∀ j, j < (W.add s v u).n → gp ((W.add s v u).e j).2.2.2 := fun j hj => by
  have hj : j < W.n + 1 := hj
  show gp (ins W.e (W.pos s u v W.n) (s, u, W.ev, v) j).2.2.2
  have hp := W.pos_le s u v W.n
  unfold ins
  split
  · exact hW j (by omega)
  · split
    · exact hv
    · exact hW (j - 1) (by omega)
theorem spn_gp {KK : zK} {L : zL} {u : Int32} (hv : ∀ j, j < L.sz → gp (L.va j)) (hW : ∀ j, j < KK.w.n → gp (KK.w.e j).2.2.2) : ∀ k, k ≤ L.sz → ∀ j, j < (KK.spn L u k).w.n → gp ((KK.spn L u k).w.e j).2.2.2
  | 0, _ => hW
  | k + 1, hk => fun j hj => by
    have ih := spn_gp (u := u) hv hW k (by omega)
    have e : KK.spn L u (k + 1) = (KK.spn L u k).sp1 (L.so k) (L.va k) u := rfl
    rw [e] at hj ⊢
    unfold zK.sp1 at hj ⊢
    split at hj
    · rename_i c
      rw [if_pos c]
      exact ih j hj
    · rename_i c
      rw [if_neg c]
      exact ins_gp ih (hv k (by omega)) j hj
theorem build_l (Q : jv_Q) (x1 u x3 : Int32) (l : Nat) (hx : x1.toInt = l) (hl : l < Z.k.nl) (bd : bdZ Z) (ok : okZ Z) (hr : Z.k.w.n + lacn Z.k.B (Z.k.L l) (Z.k.L l).sz ≤ 24) (h0 : jv_H) (hQ : ∀ h', oM h0 h' → MS h' (Z.sk (Z.k.spn (Z.k.L l) u (Z.k.L l).sz)) → Q (some (.int x3)) h') : ∀ (m k : Nat) (x4 : Int32) (h : jv_H), x4.toInt = (12 * l + k : Nat) → k + m = (Z.k.L l).sz → oM h0 h → MS h (Z.sk (Z.k.spn (Z.k.L l) u k)) → a_Model_build_48 X (d + 3) 227 Q 171 x1 u x3 x4 h 0
  | 0, k, x4, h, h4, hm, o, ms => by
    have e := Z.k.spn_1 (Z.k.L l) u k
    have hl2 : l < (Z.sk (Z.k.spn (Z.k.L l) u k)).k.nl := by show l < (Z.k.spn (Z.k.L l) u k).2.1.1; rw [e.2]; exact hl
    have eL : (Z.sk (Z.k.spn (Z.k.L l) u k)).k.L l = Z.k.L l := by show (Z.k.spn (Z.k.L l) u k).2.1.2 l = _; rw [e.2]; rfl
    have lz := ms.k.lz hl2
    rw [eL] at lz
    have hml := bd.2.1.2.1
    have hsz := bd.2.1.2.2.1 l hl
    have hp := nz_12p hx (by omega) lz (by omega)
    refine r_Model_build_48 X (d + 3) 227 Q 171 x1 u x3 x4 h ⟨is171, _, ms.r 12, jx (len := 6) rfl (by decide) (by omega) (by omega), ?_⟩
    rw [nz_nat hx]
    have ek : k = (Z.k.L l).sz := by omega
    subst ek
    exact ⟨fun _ => hQ h o ms, fun z => absurd (nz_le.mpr (by rw [hp, h4]; omega)) z⟩
  | m + 1, k, x4, h, h4, hm, o, ms => by
    have e := Z.k.spn_1 (Z.k.L l) u k
    have hl2 : l < (Z.sk (Z.k.spn (Z.k.L l) u k)).k.nl := by show l < (Z.k.spn (Z.k.L l) u k).2.1.1; rw [e.2]; exact hl
    have eL : (Z.sk (Z.k.spn (Z.k.L l) u k)).k.L l = Z.k.L l := by show (Z.k.spn (Z.k.L l) u k).2.1.2 l = _; rw [e.2]; rfl
    have lz := ms.k.lz hl2
    rw [eL] at lz
    have hml := bd.2.1.2.1
    have hsz := bd.2.1.2.2.1 l hl
    have hp := nz_12p hx (by omega) lz (by omega)
    have hkl : k < (Z.k.L l).sz := by omega
    have hS := (ok.1.2.1 l hl).2.1
    have hS3 := hS k hkl
    obtain ⟨t, ht, hst⟩ := hS k hkl
    have gv := ((ok.1.2.1 l hl).2.2.1 k hkl).1
    have bdk := spn_bd Z u bd hS ok.1.C hr (fun k _ t _ => (spn_Be Z.k (Z.k.L l) u t k).1) k (by omega)
    have okk := spn_okC (u := u) hS ok.1.C k (by omega)
    have hb := bdk.2.1.2.2.2.1 t ht
    have v := ms.k.lv hl2 (by rw [eL]; exact hkl)
    have so' := ms.k.ls hl2 (by rw [eL]; exact hkl)
    rw [eL] at v so'
    have ww := spn_w (u := u) hS ok.1.C k (by omega)
    have ww1 := spn_w (u := u) hS ok.1.C (k + 1) (by omega)
    have mono := lacn_mono Z.k.B (Z.k.L l) (show k + 1 ≤ (Z.k.L l).sz by omega)
    have es : Z.k.spn (Z.k.L l) u (k + 1) = (Z.k.spn (Z.k.L l) u k).sp1 ((Z.k.L l).so k) ((Z.k.L l).va k) u := rfl
    have eb : bos (Z.k.spn (Z.k.L l) u k).B ((Z.k.L l).so k) = (Z.k.spn (Z.k.L l) u k).B t := congrArg (Z.k.spn (Z.k.L l) u k).B (nz_nat hst)
    have ef : fnd (Z.k.spn (Z.k.L l) u k).B ((Z.k.L l).so k) ((Z.k.L l).va k) = ((Z.k.spn (Z.k.L l) u k).B t).fi ((Z.k.L l).va k) ((Z.k.spn (Z.k.L l) u k).B t).n 0 := by
      unfold fnd
      rw [eb]
    have gj : ∀ q : Nat, ∀ t : Nat, SHT q = (t, 72) → q < 227 → jv_ix SHT 227 q t x4 := fun q t h1 h2 => jx h1 h2 (by omega) (by omega)
    have want : ¬ 0 < av (Z.k.spn (Z.k.L l) u k).B ((Z.k.L l).so k) ((Z.k.L l).va k) → jV X (d + 3) y_Model_wanted [.ref 171, .int ((Z.k.L l).so k), .long (jv_gL h 179 (12 * l + k)), .long (jv_gL h 180 (12 * l + k)), .int u] 227 h (fun h10 => a_Model_build_48 X (d + 3) 227 Q 171 x1 u x3 (x4 + 1) h10 0) := fun na => by
      have e1 : Z.k.spn (Z.k.L l) u (k + 1) = (Z.k.spn (Z.k.L l) u k).setW ((Z.k.spn (Z.k.L l) u k).w.add ((Z.k.L l).so k) ((Z.k.L l).va k) u) := by rw [es]; unfold zK.sp1; rw [if_neg na]
      have nw : (Z.k.spn (Z.k.L l) u (k + 1)).w.n = (Z.k.spn (Z.k.L l) u k).w.n + 1 := by rw [e1]; rfl
      refine m_wanted X d h _ (Z.sk (Z.k.spn (Z.k.L l) u k)) ((Z.k.L l).so k) u _ _ ((Z.k.L l).va k) (uq.a v) (uq.b v) gv ms bdk (spn_gp (fun j hj => ((ok.1.2.1 l hl).2.2.1 j hj).1) ok.1.2.2.2 k (by omega)) (by show (Z.k.spn (Z.k.L l) u k).w.n < 24; omega) (fun h' o' m' => ?_)
      refine build_l Q x1 u x3 l hx hl bd ok hr h0 hQ m (k + 1) _ h' (by rw [nz_inc h4 (by omega)]; omega) (by omega) (o.tr o') ?_
      rw [e1]
      exact m'
    refine r_Model_build_48 X (d + 3) 227 Q 171 x1 u x3 x4 h ⟨is171, _, ms.r 12, jx (len := 6) rfl (by decide) (by omega) (by omega), ?_⟩
    rw [nz_nat hx]
    refine ⟨fun z => ?_, fun _ => ⟨is171, _, ms.r 10, gj 175 0 rfl (by decide), is171, _, ms.r 14, gj 179 1 rfl (by decide), is171, _, ms.r 15, gj 180 1 rfl (by decide), is171, ?_⟩⟩
    · have := nz_le.mp z
      rw [hp, h4] at this
      omega
    · rw [nz_nat h4, so']
      refine m_binOf X (d + 2) h _ (Z.sk (Z.k.spn (Z.k.L l) u k)) _ t hst ht _ _ ((Z.k.L l).va k) (uq.a v) (uq.b v) ms bdk (fun nf => ⟨fun _ => ⟨is171, _, ms.r 10, gj 175 0 rfl (by decide), is171, _, ms.r 14, gj 179 1 rfl (by decide), is171, _, ms.r 15, gj 180 1 rfl (by decide), is171, ?_⟩, fun z => absurd (by decide) z⟩) (fun j hj z hz => ⟨fun y => ?_, fun _ => ?_⟩)
      · rw [so']
        refine want ?_
        unfold av
        rw [ef, show ((Z.k.spn (Z.k.L l) u k).B t).fi ((Z.k.L l).va k) ((Z.k.spn (Z.k.L l) u k).B t).n 0 = -1 from nf, if_neg (by decide)]
        decide
      · have : z.toInt < (0 : Int) := nz_lt.mp y
        omega
      · have hj : ((Z.k.spn (Z.k.L l) u k).B t).fi ((Z.k.L l).va k) ((Z.k.spn (Z.k.L l) u k).B t).n 0 = (j : Int) := hj
        have hjn : j < ((Z.k.spn (Z.k.L l) u k).B t).n := by
          rcases ((Z.k.spn (Z.k.L l) u k).B t).fi_b ((Z.k.L l).va k) ((Z.k.spn (Z.k.L l) u k).B t).n 0 with y | ⟨i, y1, y2, y3, y4⟩ <;> omega
        have hb : ((Z.k.spn (Z.k.L l) u k).B t).n ≤ 10 := hb
        have cnt : jv_gI h 185 (10 * t + j) = (((Z.k.spn (Z.k.L l) u k).B t).e j).2.1 := ms.k.bc ht hjn
        have prc' : jv_gI h 186 (10 * t + j) = (((Z.k.spn (Z.k.L l) u k).B t).e j).2.2 := ms.k.bp ht hjn
        have ea : av (Z.k.spn (Z.k.L l) u k).B ((Z.k.L l).so k) ((Z.k.L l).va k) = (((Z.k.spn (Z.k.L l) u k).B t).e j).2.1.toInt := by
          unfold av
          rw [ef, hj, if_pos (Int.natCast_nonneg _), eb]
          rfl
        have gz : ∀ q : Nat, SHT q = (0, 30) → q < 227 → jv_ix SHT 227 q 0 z := fun q h1 h2 => jx h1 h2 (by omega) (by omega)
        refine ⟨is171, _, ms.r 21, gz 185 rfl (by decide), ?_⟩
        rw [nz_nat hz, cnt]
        refine ⟨fun y => ⟨is171, _, ms.r 10, gj 175 0 rfl (by decide), is171, _, ms.r 14, gj 179 1 rfl (by decide), is171, _, ms.r 15, gj 180 1 rfl (by decide), is171, ?_⟩, fun y => ⟨is171, _, ms.r 21, gz 185 rfl (by decide), gz 185 rfl (by decide), is171, is171, _, ms.r 22, gz 186 rfl (by decide), is171, ?_⟩⟩
        · have y : _ ≤ (0 : Int) := nz_le.mp y
          rw [so']
          exact want (by rw [ea]; omega)
        · have y : ¬ (((Z.k.spn (Z.k.L l) u k).B t).e j).2.1.toInt ≤ (0 : Int) := fun q => y (nz_le.mpr q)
          rw [cnt]
          simp only [gI_uI, gI_uL, gL_uL, gL_uI, and_self, true_and, and_true, false_and, and_false, if_true, if_false, reduceIte, Nat.reduceEqDiff]
          rw [prc']
          have o2 : oT (sbI t) (sbL t) h (jv_uI h 185 (10 * t + j) ((((Z.k.spn (Z.k.L l) u k).B t).e j).2.1 - 1)) := oT.rf.uI (Or.inl ⟨Or.inl rfl, by omega, by omega⟩)
          have kn := MKn.setB (t := t) (B := ((Z.k.spn (Z.k.L l) u k).B t).dec j) ms.k bdk.2.1 o2 (by
            rw [uI_ne (by omega)]
            exact ms.k.bz ht) (fun i hi => by
            have hi : i < ((Z.k.spn (Z.k.L l) u k).B t).n := hi
            have ei : enb h (10 * t + i) = ((Z.k.spn (Z.k.L l) u k).B t).e i := (ms.k.2.2.1 t ht).2 i hi
            rw [zB.dec_e]
            show (uq h 183 184 (10 * t + i), jv_gI (jv_uI h 185 (10 * t + j) ((((Z.k.spn (Z.k.L l) u k).B t).e j).2.1 - 1)) 185 (10 * t + i), jv_gI (jv_uI h 185 (10 * t + j) ((((Z.k.spn (Z.k.L l) u k).B t).e j).2.1 - 1)) 186 (10 * t + i)) = _
            rw [gI_uI, gI_uI, if_neg (show ¬ ((186 : Nat) = 185 ∧ _) by omega)]
            by_cases e : i = j
            · rw [if_pos ⟨rfl, by omega⟩, if_pos (by omega)]
              subst e
              have f1 : uq h 183 184 (10 * t + i) = (((Z.k.spn (Z.k.L l) u k).B t).e i).1 := congrArg (fun z => z.1) ei
              have f2 : jv_gI h 186 (10 * t + i) = (((Z.k.spn (Z.k.L l) u k).B t).e i).2.2 := congrArg (fun z => z.2.2) ei
              rw [f1, f2]
            · rw [if_neg (by omega), if_neg (by omega)]
              exact ei)
          have ms2 := ms.upd bdk o2 (fun q j z => by unfold sbI at z; omega) (fun q j z => by unfold sbL at z; omega) kn
          have o3 : oT (fun q j => q = 171 ∧ j = 30) nL (jv_uI h 185 (10 * t + j) ((((Z.k.spn (Z.k.L l) u k).B t).e j).2.1 - 1)) (jv_uI (jv_uI h 185 (10 * t + j) ((((Z.k.spn (Z.k.L l) u k).B t).e j).2.1 - 1)) 171 30 (jv_gI h 171 30 + (((Z.k.spn (Z.k.L l) u k).B t).e j).2.2)) := oT.rf.uI ⟨rfl, rfl⟩
          have sp0 : jv_gI h 171 30 = (Z.k.spn (Z.k.L l) u k).sp := ms.k.sp
          have kn3 := MKn.setS (p := (Z.k.spn (Z.k.L l) u k).sp + (((Z.k.spn (Z.k.L l) u k).B t).e j).2.2) kn o3 (by rw [uI_eq, sp0])
          have e1 : Z.k.spn (Z.k.L l) u (k + 1) = (Z.k.spn (Z.k.L l) u k).take ((Z.k.L l).so k) ((Z.k.L l).va k) := by rw [es]; unfold zK.sp1; rw [if_pos (by rw [ea]; omega)]
          have e2 : (Z.k.spn (Z.k.L l) u k).take ((Z.k.L l).so k) ((Z.k.L l).va k) = ((Z.k.spn (Z.k.L l) u k).1, (Z.k.spn (Z.k.L l) u k).2.1, (fun i => if i = t then ((Z.k.spn (Z.k.L l) u k).B t).dec j else (Z.k.spn (Z.k.L l) u k).B i), (Z.k.spn (Z.k.L l) u k).w, (Z.k.spn (Z.k.L l) u k).sp + (((Z.k.spn (Z.k.L l) u k).B t).e j).2.2) := by
            unfold zK.take
            rw [eb, ef, hj, nz_nat hst]
            congr 3
            funext i
            by_cases z : i = t
            · rw [if_pos z, if_pos z, z]
            · rw [if_neg z, if_neg z]
          refine build_l Q x1 u x3 l hx hl bd ok hr h0 hQ m (k + 1) _ _ (by rw [nz_inc h4 (by omega)]; omega) (by omega) ((o.tr (o2.M (fun q j z => by unfold sbI at z; omega) (fun q j z => by unfold sbL at z; omega))).tr (o3.M (fun q j z => by omega) (fun q j z => z.elim))) ?_
          rw [e1, e2]
          exact ms.upd bdk (SI := fun q j => sbI t q j ∨ q = 171 ∧ j = 30) (SL := sbL t) ((o2.mono (fun q j z => Or.inl z) (fun q j z => z)).tr (o3.mono (fun q j z => Or.inr z) (fun q j z => z.elim))) (fun q j z => by unfold sbI at z; omega) (fun q j z => by unfold sbL at z; omega) kn3
theorem LF_0 {h1 : jv_H} (bd : bdZ Z) (ms1 : MS h1 Z) (h' : jv_H) (L : zL) (ok : okZ Z) (c : ∀ i, i < 30 → h'.1 204 i = h1.1 185 i) : LF h' Z.k.B L 0 := fun s v t j hs ht hj => by
  have eb : bos Z.k.B s = Z.k.B t := congrArg Z.k.B (nz_nat hs)
  have ef : fnd Z.k.B s v = (Z.k.B t).fi v (Z.k.B t).n 0 := by
    unfold fnd
    rw [eb]
  have hjn : j < (Z.k.B t).n := by
    rw [ef] at hj
    rcases (Z.k.B t).fi_b v (Z.k.B t).n 0 with y | ⟨i, y1, y2, y3, y4⟩ <;> omega
  have hb := bd.2.1.2.2.2.1 t ht
  have cnt : h1.1 185 (10 * t + j) = ((Z.k.B t).e j).2.1 := ms1.k.bc ht hjn
  have c0 := (ok.1.2.2.1 t ht j hjn).2.2.1
  have ea : av Z.k.B s v = ((Z.k.B t).e j).2.1.toInt := by
    unfold av
    rw [hj, if_pos (Int.natCast_nonneg _), eb]
    rfl
  rw [c _ (by omega), cnt, ea]
  show _ = if _ ≤ ((0 : Nat) : Int) then 0 else _ - ((0 : Nat) : Int)
  split <;> omega
theorem w_build (x u : Int32) (ms : MS h Z) (bd : bdZ Z) (ok : okZ Z) (hK : dI h (q_build x u Z) KI) : jI X 8 y_Model_build [.ref 171, .int x, .int u] 227 h KI := by
  unfold q_build at hK
  have hml := bd.2.1.2.1
  have h24 := bd.2.1.2.2.2.2
  refine r_Model_build X 7 227 _ 171 x u h ⟨is171, m_isLadder X 5 h _ Z x ms bd (fun hr => ⟨fun z => absurd z (by decide), fun _ => c_in X 6 227 _ h _ _ _ ⟨fun y => ⟨is171, ?_⟩, fun y => ?_⟩⟩) (fun hr => ⟨fun _ => ?_, fun z => absurd rfl z⟩)⟩
  · rw [nz_bt, Classical.not_not, Int32.toInt_toInt64] at y
    rw [if_pos ⟨hr, y⟩] at hK
    obtain ⟨l, hx, hl, hL, hc⟩ := isL.n hr
    rw [hL] at hK
    have hsz := bd.2.1.2.2.1 l hl
    have hll := lacn_le Z.k.B (Z.k.L l) (Z.k.L l).sz
    refine r_Model_lacks X 6 227 _ 171 x h (lacks_c X 6 _ x 0 h (fun h1 o1 c1 => ?_) 30 0 0 h rfl rfl ms.r oT.rf (fun i hi => absurd hi (Nat.not_lt_zero _)))
    have fk1 : fK Z.k h h1 := o1.mono (fun q j z => by unfold frI; omega) (fun _ _ z => z.elim)
    refine lacks_l X 5 h Z _ x l hx hl ms bd ok (fun z hz h2 fk2 => ⟨is171, ?_⟩) (Z.k.L l).sz 0 0 _ h1 (nz_12 hx (by omega)) (by omega) rfl fk1 (LF_0 Z bd ms h1 (Z.k.L l) ok c1)
    have ms2 := ms.mv bd fk2
    have wz := ms2.k.wz
    have hs : (jv_gI h2 171 29 + z).toInt = ((Z.k.w.n + lacn Z.k.B (Z.k.L l) (Z.k.L l).sz : Nat) : Int) := by rw [nz_addi (by rw [wz, hz]; omega) (by rw [wz, hz]; omega), wz, hz]; omega
    refine ⟨fun a => ?_, fun a => ?_⟩
    · have a : (jv_gI h2 171 29 + z).toInt ≤ 24 := nz_le.mp a
      rw [if_neg (by omega)] at hK
      exact build_l X 4 Z _ x u z l hx hl bd ok (by omega) h2 (fun h' o' m' => hK z hz h' ((fK.M fk2).tr o') m') (Z.k.L l).sz 0 _ h2 (nz_12 hx (by omega)) (by omega) oM.rf ms2
    · have a : ¬ (jv_gI h2 171 29 + z).toInt ≤ 24 := fun q => a (nz_le.mpr q)
      rw [if_pos (by omega)] at hK
      exact hK _ rfl h2 (fK.M fk2) ms2
  · rw [nz_bt, Int32.toInt_toInt64] at y
    rw [if_neg (fun z => y z.2)] at hK
    exact hK _ rfl h oM.rf ms
  · rw [if_neg (fun z => hr z.1)] at hK
    exact hK _ rfl h oM.rf ms
end
