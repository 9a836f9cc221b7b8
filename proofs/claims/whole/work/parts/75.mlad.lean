/-! ===== the reference: ladders, the small calls ===== -/
theorem isL.n {Z : zZ} {x : Int32} (h : isL Z x) : ∃ l : Nat, x.toInt = l ∧ l < Z.k.nl ∧ Z.L x = Z.k.L l ∧ x.toNatClampNeg = l := by
  have hx : x.toInt = (x.toInt.toNat : Int) := by have := h.1; omega
  exact ⟨x.toInt.toNat, hx, by have := h.2; omega, congrArg Z.k.L (nz_nat hx), nz_nat hx⟩
theorem nz_12 {x : Int32} {l : Nat} (hx : x.toInt = l) (hl : l < 6) : ((12 : Int32) * x).toInt = ((12 * l : Nat) : Int) := by
  have e12 : (12 : Int32).toInt = 12 := rfl
  rw [nz_muli (by rw [e12, hx]; omega) (by rw [e12, hx]; omega), e12, hx]
  omega
theorem nz_12p {x y : Int32} {l k : Nat} (hx : x.toInt = l) (hl : l < 6) (hy : y.toInt = k) (hk : k < 1000) : ((12 : Int32) * x + y).toInt = ((12 * l + k : Nat) : Int) := by
  have e := nz_12 hx hl
  rw [nz_addi (by rw [e, hy]; omega) (by rw [e, hy]; omega), e, hy]
  omega
theorem tell_gd {q : Int × Int} (h : gd q) {p : Int32} (hp : 0 ≤ p.toInt ∧ p.toInt ≤ 1) : fz_tell q p.toInt = if p = 0 then q.1 else q.2 := by
  unfold fz_tell
  rw [if_neg (fun z => z.elim h.nw (fun y => y hp))]
  by_cases e : p = 0
  · rw [if_pos e, if_pos (by rw [e]; rfl)]
  · rw [if_neg e]
    exact if_neg (fun z => e (Int32.toInt_inj.mp z))
theorem tell_no {q : Int × Int} {p : Int} (hp : ¬ (0 ≤ p ∧ p ≤ 1)) : fz_tell q p = NOx := by
  unfold fz_tell
  rw [if_pos (Or.inr hp)]
  rfl
theorem sl_cut {h h' : jv_H} {l k : Nat} {T : zL} (c : sl h l (T.cut k)) (o : oT (lyI (12 * l + k)) (lyL (12 * l + k)) h h') (a1 : h'.1 175 (12 * l + k) = T.so k) (a2 : h'.1 176 (12 * l + k) = T.sh k) (a3 : uq h' 179 180 (12 * l + k) = T.va k) : sl h' l (T.cut (k + 1)) := fun j hj => by
  have hj : j < k + 1 := hj
  by_cases e : j = k
  · rw [e]
    exact ⟨a1, a2, a3⟩
  · have c' := c.mv o (fun j hj => ⟨fun z => by have : j < k := hj; unfold lyI at z; omega, fun z => by have : j < k := hj; unfold lyI at z; omega, fun z => by have : j < k := hj; unfold lyL at z; omega, fun z => by have : j < k := hj; unfold lyL at z; omega⟩)
    exact c' j (show j < k by omega)
/-- a ladder's end, given anew -/
theorem MKn.setL {h h' : jv_H} {K : zK} {l : Nat} {e : Int32} {q : Int × Int} (k : MKg nA nS h K) (a : oT (fun q j => q = 178 ∧ j = l) (fun q j => (q = 181 ∨ q = 182) ∧ j = l) h h') (c1 : h'.1 178 l = e) (c2 : e = 2 → uq h' 181 182 l = q) : MKg nA nS h' (K.setL l ((K.L l).fin e q)) := by
  obtain ⟨⟨k1, k2⟩, ⟨k3, k4⟩, k5, ⟨k6, k7, k8⟩, k9⟩ := k
  have row : ∀ c, c ≠ 5 → h'.1 (nA c) = h.1 (nA c) := fun c hc => funext (fun j => a.2.1 _ _ (fun z => by have : 173 + c = 178 := z.1; omega))
  have rowL : ∀ c, c ≠ 8 → c ≠ 9 → h'.2.1 (nA c) = h.2.1 (nA c) := fun c hc hd => funext (fun j => a.2.2 _ _ (fun z => by have : 173 + c = 181 ∨ 173 + c = 182 := z.1; omega))
  have sc : ∀ j, h'.1 171 j = h.1 171 j := fun j => a.2.1 _ _ (fun z => by have := z.1; omega)
  refine ⟨⟨by rw [sc]; exact k1, fun r hr i hi => ?_⟩, ⟨by rw [sc]; exact k3, fun t ht => ?_⟩, fun t ht => ⟨?_, fun j hj => ?_⟩, ⟨by rw [sc]; exact k6, by rw [sc]; exact k7, fun j hj => ?_⟩, by rw [sc]; exact k9⟩
  · unfold uq
    rw [rowL 0 (by decide) (by decide), rowL 1 (by decide) (by decide)]
    exact k2 r hr i hi
  · obtain ⟨m1, m2, m3, m4⟩ := k4 t ht
    show MLg nA h' t (if t = l then _ else K.L t)
    by_cases et : t = l
    · rw [if_pos et, et]
      rw [et] at m1 m4
      refine ⟨by rw [row 4 (by decide)]; exact m1, c1, c2, fun j hj => ?_⟩
      unfold uq
      rw [row 2 (by decide), row 3 (by decide), rowL 6 (by decide) (by decide), rowL 7 (by decide) (by decide)]
      exact m4 j hj
    · rw [if_neg et]
      refine ⟨by rw [row 4 (by decide)]; exact m1, ?_, fun z => ?_, fun j hj => ?_⟩
      · rw [a.2.1 _ _ (fun z => et z.2)]
        exact m2
      · rw [uq.mv a (fun z => et z.2) (fun z => et z.2)]
        exact m3 z
      · unfold uq
        rw [row 2 (by decide), row 3 (by decide), rowL 6 (by decide) (by decide), rowL 7 (by decide) (by decide)]
        exact m4 j hj
  · rw [row 14 (by decide)]
    exact (k5 t ht).1
  · unfold uq
    rw [rowL 10 (by decide) (by decide), rowL 11 (by decide) (by decide), row 12 (by decide), row 13 (by decide)]
    exact (k5 t ht).2 j hj
  · unfold uq
    rw [rowL 15 (by decide) (by decide), rowL 16 (by decide) (by decide), row 17 (by decide), row 18 (by decide), row 19 (by decide)]
    exact k8 j hj
section
variable (X : jv_X) (d : Nat) (h : jv_H) (K : jv_H → Prop) (KI : Int32 → jv_H → Prop) (KJ : Int64 → jv_H → Prop) (Z : zZ)
theorem m_isPart (x k : Int32) (ms : MS h Z) (bd : bdZ Z) (hK1 : isL Z x → hasP (Z.L x) k → KI 1 h) (hK0 : ¬ (isL Z x ∧ hasP (Z.L x) k) → KI 0 h) : jI X (d + 3) y_Model_isPart [.ref 171, .int x, .int k] 227 h KI := by
  refine r_Model_isPart X (d + 2) 227 _ 171 x k h ⟨is171, m_isLadder X d h _ Z x ms bd (fun hr => ⟨fun z => absurd z (by decide), fun _ => ?_⟩) (fun hr => ⟨fun _ => ⟨Or.inl rfl, hK0 (fun z => hr z.1)⟩, fun z => absurd rfl z⟩)⟩
  have hr' := hr
  obtain ⟨l, hx, hl, hL, hc⟩ := isL.n hr
  have hml := bd.2.1.2.1
  have hz := ms.k.lz hl
  have hsz := bd.2.1.2.2.1 l hl
  refine ⟨is171, _, ms.r 12, jx (len := 6) rfl (by decide) (by omega) (by omega), ?_⟩
  rw [hc]
  refine c_in X (d + 1) 227 _ h _ _ _ ⟨fun y => ?_, fun y => ?_⟩
  · rw [nz_bt, Int32.toInt_toInt64, Int32.toInt_toInt64, nz_m1i hz (by omega)] at y
    have y : ¬ (0 ≤ k.toInt ∧ k.toInt ≤ ((Z.k.L l).sz : Int) - 1) := y
    exact ⟨Or.inl rfl, hK0 (fun z => by rw [hL] at z; exact y (by omega))⟩
  · rw [nz_bt, Classical.not_not, Int32.toInt_toInt64, Int32.toInt_toInt64, nz_m1i hz (by omega)] at y
    have y : 0 ≤ k.toInt ∧ k.toInt ≤ ((Z.k.L l).sz : Int) - 1 := y
    exact ⟨Or.inr rfl, hK1 hr' (by rw [hL]; exact ⟨y.1, by omega⟩)⟩
theorem w_parts (x : Int32) (ms : MS h Z) (bd : bdZ Z) (hK : dI h (q_parts x Z) KI) : jI X 8 y_Model_parts [.ref 171, .int x] 227 h KI := by
  unfold q_parts at hK
  have hml := bd.2.1.2.1
  refine r_Model_parts X 7 227 _ 171 x h ⟨is171, m_isLadder X 5 h _ Z x ms bd (fun hr => ⟨fun z => absurd z (by decide), fun _ => ?_⟩) (fun hr => ⟨fun _ => ?_, fun z => absurd rfl z⟩)⟩
  · rw [if_pos hr] at hK
    obtain ⟨l, hx, hl, hL, hc⟩ := isL.n hr
    refine ⟨is171, _, ms.r 12, jx (len := 6) rfl (by decide) (by omega) (by omega), ?_⟩
    rw [hc]
    rw [hL] at hK
    exact hK _ (ms.k.lz hl) h oM.rf ms
  · rw [if_neg hr] at hK
    exact hK _ rfl h oM.rf ms
theorem w_end (x : Int32) (ms : MS h Z) (bd : bdZ Z) (hK : dI h (q_end x Z) KI) : jI X 8 y_Model_end [.ref 171, .int x] 227 h KI := by
  unfold q_end at hK
  have hml := bd.2.1.2.1
  refine r_Model_end X 7 227 _ 171 x h ⟨is171, m_isLadder X 5 h _ Z x ms bd (fun hr => ⟨fun z => absurd z (by decide), fun _ => ?_⟩) (fun hr => ⟨fun _ => ?_, fun z => absurd rfl z⟩)⟩
  · rw [if_pos hr] at hK
    obtain ⟨l, hx, hl, hL, hc⟩ := isL.n hr
    refine ⟨is171, _, ms.r 13, jx (len := 6) rfl (by decide) (by omega) (by omega), ?_⟩
    rw [hc]
    rw [hL] at hK
    exact hK _ (congrArg Int32.toInt (ms.k.le hl)) h oM.rf ms
  · rw [if_neg hr] at hK
    exact hK _ rfl h oM.rf ms
theorem w_part (x k w : Int32) (ms : MS h Z) (bd : bdZ Z) (hK : dI h (q_part x k w Z) KI) : jI X 8 y_Model_part [.ref 171, .int x, .int k, .int w] 227 h KI := by
  unfold q_part at hK
  have hml := bd.2.1.2.1
  refine r_Model_part X 7 227 _ 171 x k w h ⟨is171, m_isPart X 4 h _ Z x k ms bd (fun hr hp => ⟨fun z => absurd z (by decide), fun _ => c_in X 6 227 _ h _ _ _ ⟨fun y => ?_, fun y => ?_⟩⟩) (fun hr => ⟨fun _ => ?_, fun z => absurd rfl z⟩)⟩
  · rw [nz_bt, Classical.not_not, Int32.toInt_toInt64] at y
    rw [if_pos ⟨hr, hp, y⟩] at hK
    obtain ⟨l, hx, hl, hL, hc⟩ := isL.n hr
    rw [hL] at hK hp
    have hsz := bd.2.1.2.2.1 l hl
    have hk : k.toInt = (k.toInt.toNat : Int) := by have := hp.1; omega
    have hk2 : k.toInt.toNat < (Z.k.L l).sz := by have := hp.2; omega
    have hi := nz_12p hx (by omega) hk (by omega)
    rw [nz_nat hk] at hK
    refine ⟨fun e => ⟨is171, _, ms.r 11, jx (len := 72) rfl (by decide) (by omega) (by omega), ?_⟩, fun e => ⟨is171, _, ms.r 10, jx (len := 72) rfl (by decide) (by omega) (by omega), ?_⟩⟩
    · rw [if_neg e] at hK
      rw [nz_nat hi]
      exact hK _ (congrArg Int32.toInt (ms.k.lu hl hk2)) h oM.rf ms
    · rw [if_pos e] at hK
      rw [nz_nat hi]
      exact hK _ (congrArg Int32.toInt (ms.k.ls hl hk2)) h oM.rf ms
  · rw [nz_bt, Int32.toInt_toInt64] at y
    rw [if_neg (fun z => y z.2.2)] at hK
    exact hK _ rfl h oM.rf ms
  · rw [if_neg (fun z => hr ⟨z.1, z.2.1⟩)] at hK
    exact hK _ rfl h oM.rf ms
theorem w_value (x k p : Int32) (ms : MS h Z) (bd : bdZ Z) (ok : okZ Z) (hK : dJ h (q_value x k p Z) KJ) : jL X 8 y_Model_value [.ref 171, .int x, .int k, .int p] 227 h KJ := by
  unfold q_value at hK
  have hml := bd.2.1.2.1
  refine r_Model_value X 7 227 _ 171 x k p h (c_in X 6 227 _ h _ _ _ ⟨fun y => ?_, fun y => ⟨is171, m_isLadder X 5 h _ Z x ms bd (fun hr => ⟨fun _ => ⟨fun e => ⟨is171, m_isPart X 4 h _ Z x k ms bd (fun _ hp => ⟨fun _ => ?_, fun z => absurd z (by decide)⟩) (fun hp => ⟨fun z => absurd rfl z, fun _ => ?_⟩)⟩, fun e => ?_⟩, fun z => absurd z (by decide)⟩) (fun hr => ⟨fun z => absurd rfl z, fun _ => ?_⟩)⟩⟩)
  · rw [nz_bt, Int32.toInt_toInt64] at y
    have y : ¬ (0 ≤ p.toInt ∧ p.toInt ≤ 1) := y
    rw [tell_no y, tell_no y] at hK
    have hK : dJ h (NOx, Z) KJ := by
      revert hK
      split
      · split
        · split
          · exact id
          · exact id
        · split
          · exact id
          · exact id
      · exact id
    exact hK _ rfl h oM.rf ms
  · rw [nz_bt, Classical.not_not, Int32.toInt_toInt64] at y
    have y : 0 ≤ p.toInt ∧ p.toInt ≤ 1 := y
    rw [if_pos hr, if_neg e, if_pos hp] at hK
    obtain ⟨l, hx, hl, hL, hc⟩ := isL.n hr
    rw [hL] at hK hp
    have hsz := bd.2.1.2.2.1 l hl
    have hk : k.toInt = (k.toInt.toNat : Int) := by have := hp.1; omega
    have hk2 : k.toInt.toNat < (Z.k.L l).sz := by have := hp.2; omega
    have hi := nz_12p hx (by omega) hk (by omega)
    rw [nz_nat hk, tell_gd ((ok.1.2.1 l hl).2.2.1 _ hk2).1.1 y] at hK
    have v := ms.k.lv hl hk2
    refine ⟨fun e => ⟨is171, _, ms.r 15, jx (len := 72) rfl (by decide) (by omega) (by omega), ?_⟩, fun e => ⟨is171, _, ms.r 14, jx (len := 72) rfl (by decide) (by omega) (by omega), ?_⟩⟩
    · rw [if_neg e] at hK
      rw [nz_nat hi]
      exact hK _ (uq.b v) h oM.rf ms
    · rw [if_pos e] at hK
      rw [nz_nat hi]
      exact hK _ (uq.a v) h oM.rf ms
  · rw [if_pos hr, if_neg e, if_neg (fun z => hp ⟨hr, z⟩)] at hK
    exact hK _ rfl h oM.rf ms
  · rw [nz_bt, Classical.not_not, Int32.toInt_toInt64] at y
    have y : 0 ≤ p.toInt ∧ p.toInt ≤ 1 := y
    rw [if_pos hr, if_pos e] at hK
    obtain ⟨l, hx, hl, hL, hc⟩ := isL.n hr
    rw [hL] at hK
    have gi : ∀ q : Nat, ∀ t : Nat, SHT q = (t, 6) → q < 227 → jv_ix SHT 227 q t x := fun q t h1 h2 => jx h1 h2 (by omega) (by omega)
    refine ⟨is171, _, ms.r 13, gi 178 0 rfl (by decide), ?_⟩
    rw [hc, ms.k.le hl]
    refine ⟨fun e2 => ⟨fun e => ⟨is171, _, ms.r 17, gi 182 1 rfl (by decide), ?_⟩, fun e => ⟨is171, _, ms.r 16, gi 181 1 rfl (by decide), ?_⟩⟩, fun e2 => ?_⟩
    · rw [if_pos e2, tell_gd (ok.1.2.1 l hl).2.2.2.2.1 y, if_neg e] at hK
      exact hK _ (uq.b (ms.k.ll hl e2)) h oM.rf ms
    · rw [if_pos e2, tell_gd (ok.1.2.1 l hl).2.2.2.2.1 y, if_pos e] at hK
      exact hK _ (uq.a (ms.k.ll hl e2)) h oM.rf ms
    · rw [if_neg e2] at hK
      exact hK _ rfl h oM.rf ms
  · rw [if_neg hr] at hK
    exact hK _ rfl h oM.rf ms
theorem w_close (x e a b : Int32) (ms : MS h Z) (bd : bdZ Z) (hK : dI h (q_close x e a b Z) KI) : jI X 8 y_Model_close [.ref 171, .int x, .int e, .int a, .int b] 227 h KI := by
  unfold q_close at hK
  have hml := bd.2.1.2.1
  refine r_Model_close X 7 227 _ 171 x e a b h ⟨is171, m_isLadder X 5 h _ Z x ms bd (fun hr => ⟨fun z => absurd z (by decide), fun _ => c_in X 6 227 _ h _ _ _ ⟨fun y => ?_, fun y => ?_⟩⟩) (fun hr => ⟨fun _ => ?_, fun z => absurd rfl z⟩)⟩
  · rw [nz_bt, Int32.toInt_toInt64] at y
    rw [if_neg (fun z => y z.2.1)] at hK
    exact hK _ rfl h oM.rf ms
  · rw [nz_bt, Classical.not_not, Int32.toInt_toInt64] at y
    have hr' := hr
    obtain ⟨l, hx, hl, hL, hc⟩ := isL.n hr
    rw [hL, hc] at hK
    have gi : ∀ q : Nat, ∀ t : Nat, SHT q = (t, 6) → q < 227 → jv_ix SHT 227 q t x := fun q t h1 h2 => jx h1 h2 (by omega) (by omega)
    have en := congrArg Int32.toInt (ms.k.le hl)
    refine ⟨fun ne => ⟨is171, _, ms.r 13, gi 178 0 rfl (by decide), is171, _, ms.r 13, gi 178 0 rfl (by decide), fun _ => ?_, fun z => absurd z ne⟩, fun eq => c_mTold X 5 227 _ h a b ⟨fun y2 => ⟨is171, _, ms.r 13, gi 178 0 rfl (by decide), is171, _, ms.r 13, gi 178 0 rfl (by decide), fun z => absurd eq z, fun _ => ⟨is171, Or.inl rfl, is171, ?_⟩⟩, fun y2 => ?_⟩⟩
    · rw [if_pos ⟨hr', y, Or.inl ne⟩, if_neg ne] at hK
      rw [hc]
      have o1 : oT (fun q j => q = 178 ∧ j = l) (fun q j => (q = 181 ∨ q = 182) ∧ j = l) h (jv_uI h 178 l e) := oT.rf.uI ⟨rfl, rfl⟩
      exact hK _ en _ (o1.M (fun q j z => by omega) (fun q j z => by omega)) (ms.upd bd o1 (fun q j z => by omega) (fun q j z => by omega) (MKn.setL ms.k o1 uI_eq (fun z => absurd z ne)))
    · rw [nz_bt, Classical.not_not] at y2
      rw [if_pos ⟨hr', y, Or.inr y2⟩, if_pos eq] at hK
      rw [hc]
      refine m_isF X 5 (jv_uI (jv_uI h 178 l e) 171 6 0) _ a b _ _ rfl rfl y2.1 y2.2 uI_eq (fun h1 o1 _ _ f1 _ => ?_)
      have oa : oT (fun q j => q = 178 ∨ q = 171 ∧ j = 6) nL h (jv_uI (jv_uI h 178 l e) 171 6 0) := (oT.rf.uI (Or.inl rfl)).uI (Or.inr ⟨rfl, rfl⟩)
      have mr : MR h1 := (ms.r.mv oa).mv o1
      refine ⟨is171, _, mr 16, is171, gi 181 1 rfl (by decide), is171, _, mr 17, is171, gi 182 1 rfl (by decide), ?_⟩
      simp only [gI_uI, gI_uL, gL_uL, gL_uI, and_self, true_and, and_true, false_and, and_false, if_true, if_false, reduceIte, Nat.reduceEqDiff]
      have of : oT (fun q j => q = 171 ∧ (j = 2 ∨ j = 3 ∨ j = 6)) (fun q j => q = 171) h (jv_uI h 171 6 0) := oT.rf.uI ⟨rfl, by omega⟩
      have o1s : oT (fun q j => q = 178 ∧ j = l ∨ q = 171 ∧ (j = 2 ∨ j = 3 ∨ j = 6)) (fun q j => q = 171 ∨ (q = 181 ∨ q = 182) ∧ j = l) h (jv_uL (jv_uL h1 181 l (jv_gL h1 171 4)) 182 l (jv_gL h1 171 5)) := ((((oT.rf.uI (Or.inl ⟨rfl, rfl⟩)).uI (Or.inr ⟨rfl, by omega⟩)).tr (o1.mono (fun q j z => by unfold fcI at z; omega) (fun q j z => by unfold mL at z; omega))).uL (Or.inr ⟨Or.inl rfl, rfl⟩)).uL (Or.inr ⟨Or.inr rfl, rfl⟩)
      let hm : jv_H := (fun q j => if q = 171 then (jv_uL (jv_uL h1 181 l (jv_gL h1 171 4)) 182 l (jv_gL h1 171 5)).1 q j else h.1 q j, fun q j => if q = 171 then (jv_uL (jv_uL h1 181 l (jv_gL h1 171 4)) 182 l (jv_gL h1 171 5)).2.1 q j else h.2.1 q j, h.2.2)
      have om1 : fK Z.k h hm := ⟨rfl, fun q j z => by
        show (if q = 171 then (jv_uL (jv_uL h1 181 l (jv_gL h1 171 4)) 182 l (jv_gL h1 171 5)).1 q j else h.1 q j) = h.1 q j
        by_cases e1 : q = 171
        · rw [if_pos e1]
          exact o1s.2.1 _ _ (fun y => z (by unfold frI; omega))
        · rw [if_neg e1], fun q j z => by
        show (if q = 171 then (jv_uL (jv_uL h1 181 l (jv_gL h1 171 4)) 182 l (jv_gL h1 171 5)).2.1 q j else h.2.1 q j) = h.2.1 q j
        by_cases e1 : q = 171
        · exact absurd (by unfold frL; exact Or.inl e1) z
        · rw [if_neg e1]⟩
      have om2 : oT (fun q j => q = 178 ∧ j = l) (fun q j => (q = 181 ∨ q = 182) ∧ j = l) hm (jv_uL (jv_uL h1 181 l (jv_gL h1 171 4)) 182 l (jv_gL h1 171 5)) := ⟨o1s.1, fun q j z => by
        show _ = (if q = 171 then (jv_uL (jv_uL h1 181 l (jv_gL h1 171 4)) 182 l (jv_gL h1 171 5)).1 q j else h.1 q j)
        by_cases e1 : q = 171
        · rw [if_pos e1]
        · rw [if_neg e1]
          exact o1s.2.1 _ _ (fun y => y.elim z (fun w => e1 w.1)), fun q j z => by
        show _ = (if q = 171 then (jv_uL (jv_uL h1 181 l (jv_gL h1 171 4)) 182 l (jv_gL h1 171 5)).2.1 q j else h.2.1 q j)
        by_cases e1 : q = 171
        · rw [if_pos e1]
        · rw [if_neg e1]
          exact o1s.2.2 _ _ (fun y => y.elim e1 z)⟩
      have msm := ms.mv bd om1
      refine hK _ en _ ((fK.M om1).tr (om2.M (fun q j z => by omega) (fun q j z => by omega))) (msm.upd bd om2 (fun q j z => by omega) (fun q j z => by omega) (MKn.setL msm.k om2 ?_ (fun _ => ?_)))
      · show h1.1 178 l = e
        rw [o1.2.1 _ _ (fun z => by unfold fcI at z; omega)]
        show (jv_uI (jv_uI h 178 l e) 171 6 0).1 178 l = e
        rw [uI_ne (by omega), uI_eq]
      · rw [uq_st _ _ _ _ _ _ (by decide), if_pos rfl]
        exact f1
    · rw [nz_bt] at y2
      rw [if_neg (fun z => z.2.2.elim (fun q => q eq) y2)] at hK
      exact hK _ rfl h oM.rf ms
  · rw [if_neg (fun z => hr z.1)] at hK
    exact hK _ rfl h oM.rf ms
theorem w_forget (x : Int32) (ms : MS h Z) (bd : bdZ Z) (hK : dI h (q_forget x Z) KI) : jI X 8 y_Model_forget [.ref 171, .int x] 227 h KI := by
  unfold q_forget at hK
  refine r_Model_forget X 7 227 _ 171 x h (c_in X 6 227 _ h _ _ _ ⟨fun y => ?_, fun y => ?_⟩)
  · rw [nz_bt, Classical.not_not, Int32.toInt_toInt64] at y
    have y : wi x 0 1 := y
    rw [if_pos y] at hK
    have ms' := ms
    obtain ⟨⟨k1, k2⟩, ⟨k3, k4⟩, k5, ⟨k6, k7, k8⟩, k9⟩ := ms'.k
    refine ⟨fun e => ⟨is171, fun _ => ⟨is171, ?_⟩, fun z => absurd z e⟩, fun e => ⟨is171, fun z => absurd e z, fun _ => ⟨is171, ?_⟩⟩⟩
    · rw [if_neg e] at hK
      have o1 : oT (fun q j => q = 171 ∧ j = 18) nL h (jv_uI h 171 18 0) := oT.rf.uI ⟨rfl, rfl⟩
      have row : ∀ c, (jv_uI h 171 18 0).1 (nA c) = h.1 (nA c) := fun c => funext (fun j => o1.2.1 _ _ (fun z => by have : 173 + c = 171 := z.1; omega))
      refine hK _ k3 _ (o1.M (fun q j z => by omega) (fun q j z => z.elim)) (ms.upd bd o1 (fun q j z => by omega) (fun q j z => z.elim) ⟨⟨k1, k2⟩, ⟨?_, fun l hl => absurd hl (Nat.not_lt_zero _)⟩, fun t ht => ⟨?_, fun j hj => ?_⟩, ⟨k6, k7, fun j hj => ?_⟩, k9⟩)
      · show (jv_gI (jv_uI h 171 18 0) 171 18).toInt = _
        rw [gI_uI, if_pos ⟨rfl, rfl⟩]
        rfl
      · rw [row 14]
        exact (k5 t ht).1
      · rw [row 12, row 13]
        exact (k5 t ht).2 j hj
      · rw [row 17, row 18, row 19]
        exact k8 j hj
    · rw [if_pos e] at hK
      have o1 : oT (fun q j => q = 171 ∧ j = 9) nL h (jv_uI h 171 9 0) := oT.rf.uI ⟨rfl, rfl⟩
      have row : ∀ c, (jv_uI h 171 9 0).1 (nA c) = h.1 (nA c) := fun c => funext (fun j => o1.2.1 _ _ (fun z => by have : 173 + c = 171 := z.1; omega))
      refine hK _ k1 _ (o1.M (fun q j z => by omega) (fun q j z => z.elim)) (ms.upd bd o1 (fun q j z => by omega) (fun q j z => z.elim) ⟨⟨?_, fun r hr => absurd hr (Nat.not_lt_zero _)⟩, ⟨k3, fun l hl => ?_⟩, fun t ht => ⟨?_, fun j hj => ?_⟩, ⟨k6, k7, fun j hj => ?_⟩, k9⟩)
      · show (jv_gI (jv_uI h 171 9 0) 171 9).toInt = _
        rw [gI_uI, if_pos ⟨rfl, rfl⟩]
        rfl
      · obtain ⟨m1, m2, m3, m4⟩ := k4 l hl
        refine ⟨by rw [row 4]; exact m1, by rw [row 5]; exact m2, m3, fun j hj => ?_⟩
        rw [row 2, row 3]
        exact m4 j hj
      · rw [row 14]
        exact (k5 t ht).1
      · rw [row 12, row 13]
        exact (k5 t ht).2 j hj
      · rw [row 17, row 18, row 19]
        exact k8 j hj
  · rw [nz_bt, Int32.toInt_toInt64] at y
    have y : ¬ wi x 0 1 := y
    rw [if_neg y] at hK
    exact hK _ rfl h oM.rf ms
end
