/-! ===== the class's calls: the store ===== -/
theorem CK.stB {h h' : jv_H} {w i : Nat} {K : zK} {B : zB} (c : CK h w K) (hi : i < 3) (o : oS (lw (w + 63 + 4 * i)) h h') (cb : CB h' (w + 63 + 4 * i) B) : CK h' w (K.setB i B) := by
  have hml := c.ml
  have hmr := c.mr
  obtain ⟨⟨c1, c2, c3⟩, ⟨c4, c5, c6⟩, c7, c8, c9⟩ := c
  have a0 := (o.2 w (fun z => by have := z.1; omega)).1
  refine ⟨⟨by rw [a0]; exact c1, c2, fun k hk => ⟨pc.mv o (fun z => by have hk : k < K.nr := hk; have := z.1; have := z.2; omega) (c3 k hk).1, pc.mv o (fun z => by have hk : k < K.nr := hk; have := z.1; have := z.2; omega) (c3 k hk).2⟩⟩, ⟨by rw [a0]; exact c4, c5, fun k hk => (c6 k hk).mv o (fun q h1 h2 z => by have hk : k < K.nl := hk; have := z.1; have := z.2; omega)⟩, fun s hs => ?_, c8.mv o (fun q h1 h2 z => by have := z.1; have := z.2; omega), by rw [a0]; exact c9⟩
  show CB h' _ (if s = i then B else K.B s)
  by_cases e : s = i
  · rw [if_pos e, e]; exact cb
  · rw [if_neg e]; exact (c7 s hs).mv o (fun q h1 h2 z => by have := z.1; have := z.2; omega)
theorem wi3 {s : Int32} (h : 0 ≤ s.toInt ∧ s.toInt ≤ 2) : s3 s := ⟨s.toInt.toNat, by omega, by omega⟩
section
variable (X : jv_X) (h : jv_H) (Z : zZ) (K : Int32 → jv_H → Prop) (KJ : Int64 → jv_H → Prop)
theorem k_stock (s a b n p : Int32) (c : CS h Z) (hK : cI h (q_stock s a b n p Z) K) : jI X 8 y_Maker_stock [.ref 0, .int s, .int a, .int b, .int n, .int p] 227 h K := by
  unfold q_stock at hK
  refine r_Maker_stock X 7 227 _ 0 s a b n p h (c_isSort X 5 227 _ h s ⟨fun y => ?_, fun y => c_isTold X 5 227 _ h _ _ ⟨fun y2 => c_isWithin X 6 227 _ h _ _ _ ⟨fun y3 => ?_, fun y3 => c_isWithin X 6 227 _ h _ _ _ ⟨fun y4 => ?_, fun y4 => ?_⟩⟩, fun y2 => ?_⟩⟩)
  · rw [nz_bt] at y
    rw [if_neg (fun z => y z.1)] at hK
    exact hK _ rfl h oC.rf c
  · rw [nz_bt] at y3
    rw [if_neg (fun z => y3 z.2.2.1)] at hK
    exact hK _ rfl h oC.rf c
  · rw [nz_bt, Classical.not_not] at y y2 y3 y4
    rw [if_pos ⟨y, y2, y3, y4⟩] at hK
    have hs := (wi3 y).nat
    have bo := c.s8.bo hs.2
    have hS : ∀ q, lw (8 + 63 + 4 * s.toNatClampNeg) q → 8 ≤ q ∧ q < 83 := fun q z => by have := z.1; have := z.2; omega
    refine ⟨is0, _, c.m2, c.s8.is, _, c.s8.r2, c.s8.x2 hs.1 hs.2, by decide, _, c.s8.kb hs.2, c_ofI X 5 227 _ h a b ⟨bo.1, ?_⟩⟩
    refine c_store X 3 227 _ h _ (Z.B s) _ (fz_of_r _ _) n p bo (c.k.b hs.2) (fun B hB h1 o1 cb => ⟨fun z => absurd z (by decide), fun _ => ⟨bo.1, ?_⟩⟩) (fun hB => ⟨fun _ => ?_, fun z => absurd rfl z⟩)
    · rw [hB] at hK
      exact hK _ cb.gz h1 (o1.R.C (fun q z => by have := hS q z; omega)) (c.upd o1 hS (c.k.stB hs.2 o1 cb))
    · rw [hB] at hK
      exact hK _ rfl h oC.rf c
  · rw [nz_bt] at y4
    rw [if_neg (fun z => y4 z.2.2.2)] at hK
    exact hK _ rfl h oC.rf c
  · rw [nz_bt] at y2
    rw [if_neg (fun z => y2 z.2.1)] at hK
    exact hK _ rfl h oC.rf c
theorem k_bin (s k w : Int32) (c : CS h Z) (hK : cI h (q_bin s k w Z) K) : jI X 8 y_Maker_bin [.ref 0, .int s, .int k, .int w] 227 h K := by
  unfold q_bin at hK
  refine r_Maker_bin X 7 227 _ 0 s k w h (c_isSort X 5 227 _ h s ⟨fun y => ?_, fun y => c_isWithin X 6 227 _ h _ _ _ ⟨fun y2 => ?_, fun y2 => ⟨fun y3 => ?_, fun y3 => ?_⟩⟩⟩)
  · rw [nz_bt] at y
    rw [if_neg (fun z => y z.1)] at hK
    exact hK _ rfl h oC.rf c
  · rw [nz_bt] at y2
    rw [if_neg (fun z => y2 z.2.1)] at hK
    exact hK _ rfl h oC.rf c
  · rw [nz_bt, Classical.not_not] at y y2
    have y3 : (0 : Int) ≤ k.toInt := nz_le.mp y3
    rw [if_pos ⟨y, y2, y3⟩] at hK
    have hs := (wi3 y).nat
    have bo := c.s8.bo hs.2
    have cb := c.k.b hs.2
    have hb10 : (Z.B s).n ≤ 10 := cb.2.1
    have hz : (jv_gI h (8 + 63 + 4 * s.toNatClampNeg) 3).toInt = (Z.B s).n := cb.gz
    refine ⟨is0, _, c.m2, c.s8.is, _, c.s8.r2, c.s8.x2 hs.1 hs.2, by decide, _, c.s8.kb hs.2, bo.1, fun a => ?_, fun a => ?_⟩
    · have a := nz_lt.mp a
      rw [hz] at a
      have hk : k.toInt = (k.toInt.toNat : Int) := by omega
      have hk2 : k.toInt.toNat < (Z.B s).n := by omega
      have g1 := cb.gc hk hk2
      have g2 := cb.gp hk hk2
      have g3 := cb.gv hk hk2
      have gr := cb.vr hk2
      rw [if_pos a, nz_nat hk] at hK
      refine ⟨fun e => ⟨bo.1, _, bo.2.2.1, bo.xb hk (by omega), ?_⟩, fun e => ⟨fun e2 => ⟨bo.1, _, bo.2.2.2.1, bo.xc hk (by omega), ?_⟩, fun e2 => ⟨fun e3 => ⟨bo.1, _, bo.2.1, bo.xa hk (by omega), ?_⟩, fun e3 => ⟨bo.1, _, bo.2.1, bo.xa hk (by omega), ?_⟩⟩⟩⟩
      · rw [if_pos e] at hK
        rw [g1]
        exact hK _ rfl h oC.rf c
      · rw [if_neg e, if_pos e2] at hK
        rw [g2]
        exact hK _ rfl h oC.rf c
      · rw [if_neg e, if_neg e2, if_pos e3] at hK
        rw [g3]
        exact c_above X 6 227 _ h _ gr (fun z hz => hK z hz h oC.rf c)
      · rw [if_neg e, if_neg e2, if_neg e3] at hK
        rw [g3]
        exact c_below X 6 227 _ h _ gr (fun z hz => hK z hz h oC.rf c)
    · have a : ¬ k.toInt < (Z.B s).n := fun z => a (nz_lt.mpr (by rw [hz]; exact z))
      rw [if_neg a] at hK
      exact hK _ rfl h oC.rf c
  · have y3 : ¬ (0 : Int) ≤ k.toInt := fun z => y3 (nz_le.mpr z)
    rw [if_neg (fun z => y3 z.2.2)] at hK
    exact hK _ rfl h oC.rf c
theorem k_nearest (s a b p : Int32) (c : CS h Z) (ok : okK Z.k) (hK : cJ h (q_near s a b p Z) KJ) : jL X 8 y_Maker_nearest [.ref 0, .int s, .int a, .int b, .int p] 227 h KJ := by
  unfold q_near at hK
  refine r_Maker_nearest X 7 227 _ 0 s a b p h (c_isSort X 5 227 _ h s ⟨fun y => ?_, fun y => c_isTold X 5 227 _ h _ _ ⟨fun y2 => ?_, fun y2 => ?_⟩⟩)
  · rw [nz_bt] at y
    rw [if_neg (fun z => y z.1)] at hK
    exact hK _ rfl h oC.rf c
  · rw [nz_bt, Classical.not_not] at y y2
    rw [if_pos ⟨y, y2⟩] at hK
    have hs := (wi3 y).nat
    have bo := c.s8.bo hs.2
    have cb := c.k.b hs.2
    have hb10 : (Z.B s).n ≤ 10 := cb.2.1
    refine ⟨is0, _, c.m2, c.s8.is, _, c.s8.r2, c.s8.x2 hs.1 hs.2, by decide, _, c.s8.kb hs.2, c_ofI X 5 227 _ h a b ⟨bo.1, ?_⟩⟩
    refine c_findNearest X 3 227 _ h _ (Z.B s) _ (fz_of_r _ _) (ok.th _ hs.2) bo cb (fun hp z hz => ⟨fun _ => ?_, fun q => absurd (nz_le.mpr (by rw [hz]; exact Int.natCast_nonneg _)) q⟩) (fun hp => ⟨fun z => absurd z (by decide), fun _ => ?_⟩)
    · have hlt := (Z.B s).nr_lt (fz_of a.toInt b.toInt) ((Z.B s).n - 1) 1 0 (Z.B s).n hp (by omega)
      rw [if_neg (by omega)] at hK
      refine ⟨bo.1, _, bo.2.1, bo.xa hz (by omega), ?_⟩
      rw [cb.gv hz hlt]
      exact c_tell X 5 227 _ h _ (cb.vr hlt) p (fun z hz => hK z hz h oC.rf c)
    · rw [if_pos hp] at hK
      exact hK _ rfl h oC.rf c
  · rw [nz_bt] at y2
    rw [if_neg (fun z => y2 z.2)] at hK
    exact hK _ rfl h oC.rf c
theorem k_build (x u : Int32) (c : CS h Z) (ok : okK Z.k) (hK : cI h (q_build x u Z) K) : jI X 8 y_Maker_build [.ref 0, .int x, .int u] 227 h K := by
  unfold q_build at hK
  have hm := c.k.ml
  refine r_Maker_build X 7 227 _ 0 x u h ⟨is0, _, c.m2, c.s8.is, c_findLadder X 5 h 8 Z.k _ _ x c.s8 c.k (fun i hx hi => c_isWithin X 6 227 _ h _ _ _ ⟨fun y => ⟨is0, _, c.m2, c.s8.is, ?_⟩, fun y => ?_⟩) (fun e => ?_)⟩
  · rw [nz_bt, Classical.not_not] at y
    have hL : Z.L x = Z.k.L i := congrArg Z.k.L (nz_nat hx)
    rw [if_pos ⟨⟨by omega, by omega⟩, y⟩, hL] at hK
    have hS := (ok.2.1 i hi).2.1
    have hle := (c.k.l hi).le
    have hw : (jv_gI h 12 4).toInt = Z.k.w.n := c.k.wa.1
    have hwl := c.k.wa.2.2.1
    have hll := lacn_le Z.k.B (Z.k.L i) (Z.k.L i).sz
    have h24 : (24 : Int32).toInt = 24 := rfl
    refine c_countLacking X 5 h 8 Z.k _ _ (Z.k.L i) c.s8 c.k (c.s8.lo (k := i) (by omega)) (c.k.l hi) hS (fun z hz => ⟨is0, _, c.m2, c.s8.is, _, c.s8.r3, c.s8.wo.1, ?_⟩)
    have e : (jv_gI h 12 4 + z).toInt = ((Z.k.w.n + lacn Z.k.B (Z.k.L i) (Z.k.L i).sz : Nat) : Int) := by rw [nz_addi (by rw [hw, hz]; omega) (by rw [hw, hz]; omega), hw, hz]; omega
    refine ⟨fun a => ⟨is0, _, c.m2, c.s8.is, ?_⟩, fun a => ?_⟩
    · have a : (jv_gI h 12 4 + z).toInt ≤ 24 := nz_le.mp a
      rw [if_neg (by omega)] at hK
      refine c_spendOn X 2 h 8 Z.k _ i hi u hS ok.C (by omega) c.s8 c.k (fun h1 o1 ck => ?_)
      have hS : ∀ q, bw 8 q → 8 ≤ q ∧ q < 83 := fun q z => by rcases z with z | z | z <;> omega
      exact hK z hz h1 (o1.R.C (fun q z => by have := hS q z; omega)) (c.upd o1 hS ck)
    · have a : ¬ (jv_gI h 12 4 + z).toInt ≤ 24 := fun q => a (nz_le.mpr q)
      rw [if_pos (by omega)] at hK
      exact hK _ rfl h oC.rf c
  · rw [nz_bt] at y
    rw [if_neg (fun z => y z.2)] at hK
    exact hK _ rfl h oC.rf c
  · rw [if_neg (fun z => e z.1)] at hK
    exact hK _ rfl h oC.rf c
theorem k_arrive (x : Int32) (c : CS h Z) (hK : cI h (q_arrive x Z) K) : jI X 8 y_Maker_arrive [.ref 0, .int x] 227 h K := by
  unfold q_arrive at hK
  refine r_Maker_arrive X 7 227 _ 0 x h (c_isWithin X 6 227 _ h _ _ _ ⟨fun y => ?_, fun y => ⟨is0, _, c.m2, c.s8.is, _, c.s8.r3, c.s8.wo.1, ?_⟩⟩)
  · rw [nz_bt] at y
    rw [if_neg (show ¬ wi x 1 24 from y)] at hK
    exact hK _ rfl h oC.rf c
  · rw [nz_bt, Classical.not_not] at y
    rw [if_pos (show wi x 1 24 from y)] at hK
    have hS : ∀ q, lw5 12 q → 8 ≤ q ∧ q < 83 := fun q z => by have := z.1; have := z.2; omega
    exact c_removeFirst X 5 227 _ h 12 Z.k.w x y.1 c.s8.wo c.k.wa (fun z hz h1 o1 cw => hK z hz h1 (o1.R.C (fun q z => by have := hS q z; omega)) (c.upd o1 hS (c.k.stW o1 cw)))
theorem k_want (k w : Int32) (c : CS h Z) (hK : cI h (q_want k w Z) K) : jI X 8 y_Maker_want [.ref 0, .int k, .int w] 227 h K := by
  unfold q_want at hK
  refine r_Maker_want X 7 227 _ 0 k w h ⟨fun y => ?_, fun y => c_isWithin X 6 227 _ h _ _ _ ⟨fun y2 => ⟨is0, _, c.m2, c.s8.is, _, c.s8.r3, c.s8.wo.1, fun a => ?_, fun a => ?_⟩, fun y2 => ?_⟩⟩
  · have y : k.toInt < 0 := nz_lt.mp y
    rw [if_neg (fun z => by have := z.1; omega)] at hK
    exact hK _ rfl h oC.rf c
  · have y : ¬ k.toInt < 0 := fun z => y (nz_lt.mpr z)
    rw [nz_bt, Classical.not_not] at y2
    have wo := c.s8.wo
    have cw := c.k.wa
    have hz : (jv_gI h 12 4).toInt = Z.k.w.n := cw.1
    have hle := cw.2.2.1
    have a := nz_lt.mp a
    rw [hz] at a
    have hk : k.toInt = (k.toInt.toNat : Int) := by omega
    have hk2 : k.toInt.toNat < Z.k.w.n := by omega
    obtain ⟨g, gr⟩ := cw.2.2.2 _ hk2
    rw [if_pos ⟨by omega, y2⟩, if_pos a, nz_nat hk] at hK
    have g1 : jv_gI h 13 k.toInt.toNat = (Z.k.w.e k.toInt.toNat).1 := congrArg Prod.fst g
    have g2 : jv_gL h 14 k.toInt.toNat = fz_p (Z.k.w.e k.toInt.toNat).2.2.2 := congrArg (fun t => t.2.1) g
    have g3 : jv_gI h 15 k.toInt.toNat = (Z.k.w.e k.toInt.toNat).2.1 := congrArg (fun t => t.2.2.1) g
    have g4 : jv_gI h 16 k.toInt.toNat = (Z.k.w.e k.toInt.toNat).2.2.1 := congrArg (fun t => t.2.2.2) g
    rw [nz_nat hk]
    refine ⟨fun e => ⟨wo.1, _, wo.2.1, wo.xa hk (by omega), ?_⟩, fun e => ⟨fun e2 => ⟨wo.1, _, wo.2.2.2.1, wo.xc hk (by omega), ?_⟩, fun e2 => ⟨fun e3 => ⟨wo.1, _, wo.2.2.2.2.1, wo.xd hk (by omega), ?_⟩, fun e3 => ⟨fun e4 => ⟨wo.1, _, wo.2.2.1, wo.xb hk (by omega), ?_⟩, fun e4 => ⟨wo.1, _, wo.2.2.1, wo.xb hk (by omega), ?_⟩⟩⟩⟩⟩
    · rw [if_pos e] at hK
      exact hK _ (congrArg Int32.toInt g1) h oC.rf c
    · rw [if_neg e, if_pos e2] at hK
      exact hK _ (congrArg Int32.toInt g3) h oC.rf c
    · rw [if_neg e, if_neg e2, if_pos e3] at hK
      exact hK _ (congrArg Int32.toInt g4) h oC.rf c
    · rw [if_neg e, if_neg e2, if_neg e3, if_pos e4] at hK
      show jI X 7 y_Fractions_above [.long (jv_gL h 14 k.toInt.toNat)] 227 h _
      rw [g2]
      exact c_above X 6 227 _ h _ gr (fun z hz => hK z hz h oC.rf c)
    · rw [if_neg e, if_neg e2, if_neg e3, if_neg e4] at hK
      show jI X 7 y_Fractions_below [.long (jv_gL h 14 k.toInt.toNat)] 227 h _
      rw [g2]
      exact c_below X 6 227 _ h _ gr (fun z hz => hK z hz h oC.rf c)
  · have y : ¬ k.toInt < 0 := fun z => y (nz_lt.mpr z)
    rw [nz_bt, Classical.not_not] at y2
    have hz : (jv_gI h 12 4).toInt = Z.k.w.n := c.k.wa.1
    have a : ¬ k.toInt < (Z.k.w.n : Int) := fun z => a (nz_lt.mpr (by show k.toInt < (jv_gI h 12 4).toInt; rw [hz]; exact z))
    rw [if_pos ⟨by omega, y2⟩, if_neg a] at hK
    exact hK _ rfl h oC.rf c
  · rw [nz_bt] at y2
    rw [if_neg (fun z => y2 z.2)] at hK
    exact hK _ rfl h oC.rf c
theorem k_cost (x : Int32) (c : CS h Z) (ok : okK Z.k) (hK : cI h (q_cost x Z) K) : jI X 8 y_Maker_cost [.ref 0, .int x] 227 h K := by
  unfold q_cost at hK
  have hm := c.k.ml
  refine r_Maker_cost X 7 227 _ 0 x h ⟨is0, _, c.m2, c.s8.is, c_findLadder X 5 h 8 Z.k _ _ x c.s8 c.k (fun i hx hi => ⟨is0, _, c.m2, c.s8.is, ?_⟩) (fun e => ?_)⟩
  · have hL : Z.L x = Z.k.L i := congrArg Z.k.L (nz_nat hx)
    rw [if_pos ⟨by omega, by omega⟩, hL] at hK
    refine c_priceOf X 5 h 8 Z.k _ _ (Z.k.L i) c.s8 c.k (c.s8.lo (k := i) (by omega)) (c.k.l hi) (ok.2.1 i hi).2.1 (fun z hz => ?_) (fun hz => ?_)
    · rw [hz] at hK
      exact hK _ rfl h oC.rf c
    · rw [hz] at hK
      exact hK _ rfl h oC.rf c
  · rw [if_neg e] at hK
    exact hK _ rfl h oC.rf c
theorem k_unlike (s k p : Int32) (c : CS h Z) (hK : cJ h (q_unlike s k p Z) KJ) : jL X 8 y_Maker_unlike [.ref 0, .int s, .int k, .int p] 227 h KJ := by
  unfold q_unlike at hK
  have em : (-1 : Int32).toInt = -1 := rfl
  refine r_Maker_unlike X 7 227 _ 0 s k p h (c_isSort X 5 227 _ h s ⟨fun y => ?_, fun y => ⟨fun y2 => ?_, fun y2 => c_isWithin X 6 227 _ h _ _ _ ⟨fun y3 => ⟨fun e => ⟨is0, _, c.m2, c.s8.is, ?_⟩, fun e => ⟨is0, _, c.m2, c.s8.is, ?_⟩⟩, fun y3 => ?_⟩⟩⟩)
  · rw [nz_bt] at y
    rw [if_neg (fun z => y z.1)] at hK
    exact hK _ rfl h oC.rf c
  · have := nz_lt.mp y2
    rw [if_neg (fun z => by have := z.2.1; omega)] at hK
    exact hK _ rfl h oC.rf c
  · rw [nz_bt, Classical.not_not] at y y3
    have y2 : ¬ k.toInt < -1 := fun z => y2 (nz_lt.mpr (by rw [em]; exact z))
    rw [if_pos ⟨y, by omega, y3⟩, if_neg e] at hK
    have hne : k.toInt ≠ -1 := fun z => e (Int32.toInt_inj.mp z)
    have hk : k.toInt = (k.toInt.toNat : Int) := by omega
    rw [nz_nat hk] at hK
    refine c_findUnlike X 3 h 8 Z.k _ s k _ hk c.s8 c.k (fun hr => ⟨fun a => ?_, fun a => ?_⟩)
    · have a : ¬ Z.k.un s k.toInt.toNat = (0, 1) := fun z => a ((lg_cmp_eq _ _).mpr (by rw [z, fz_p_0]))
      rw [if_neg a] at hK
      exact c_tell X 5 227 _ h _ hr p (fun z hz => hK z hz h oC.rf c)
    · have a := (fz_inj hr fz_r_0).mp (by rw [fz_p_0]; exact (lg_cmp_eq _ _).mp a)
      rw [if_pos a] at hK
      exact hK _ rfl h oC.rf c
  · rw [nz_bt, Classical.not_not] at y y3
    have y2 : ¬ k.toInt < -1 := fun z => y2 (nz_lt.mpr (by rw [em]; exact z))
    rw [if_pos ⟨y, by omega, y3⟩, if_pos e] at hK
    exact c_countUnlike X 3 h 8 Z.k _ s c.s8 c.k (fun z hz => hK _ (by rw [Int32.toInt_toInt64]; exact hz) h oC.rf c)
  · rw [nz_bt] at y3
    rw [if_neg (fun z => y3 z.2.2)] at hK
    exact hK _ rfl h oC.rf c
end
