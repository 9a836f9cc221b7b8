/-! ===== the class's calls: ladders ===== -/
theorem lw_b {k : Nat} (hk : k < 6) : ∀ q, lw (8 + 39 + 4 * k) q → 8 ≤ q ∧ q < 83 := fun q z => by have := z.1; have := z.2; omega
theorem ap_L {i j : Nat} (h : i ≠ j) : ap (8 + 39 + 4 * i) (8 + 39 + 4 * j) := by unfold ap; omega
/-- a sort's and a value's bounds that the state has -/
def okL (L : zL) : Prop := 1 ≤ L.sz ∧ L.okS ∧ (∀ j, j < L.sz → gp (L.va j) ∧ (L.sh j = 0 ∨ L.sh j = 1)) ∧ (L.en = 0 ∨ L.en = 1 ∨ L.en = 2) ∧ gd L.lo ∧ (L.en = 2 → gp L.lo)
def okB (B : zB) : Prop := ∀ j, j < B.n → th (B.e j).1 ∧ gp (B.e j).1 ∧ (0 ≤ (B.e j).2.1.toInt ∧ (B.e j).2.1.toInt ≤ 99)
def okP (P : zP) : Prop := (∀ i, i < 13 → gd (P.1 i) ∧ gd (P.2 i)) ∧ 0 ≤ pz_hi P.1 13 ∧ 0 ≤ pz_hi P.2 13
def okK (K : zK) : Prop := (∀ r, r < K.nr → okP (K.R r)) ∧ (∀ l, l < K.nl → okL (K.L l)) ∧ (∀ s, s < 3 → okB (K.B s)) ∧ ∀ j, j < K.w.n → gp (K.w.e j).2.2.2
def okH (H : zH) : Prop := H.ct = 1 → s3 H.so ∧ gp H.va ∧ (H.sh = 0 ∨ H.sh = 1)
def okZ (Z : zZ) : Prop := okK Z.k ∧ (∀ K, Z.im = some K → okK K) ∧ ∀ i, i < 6 → okH (Z.H i)
theorem okK.th {K : zK} (o : okK K) : ∀ s, s < 3 → ∀ j, j < (K.B s).n → th ((K.B s).e j).1 := fun s hs j hj => (o.2.2.1 s hs j hj).1
theorem okK.C {K : zK} (o : okK K) : okC K.B := fun s hs j hj => (o.2.2.1 s hs j hj).2.2
section
variable (X : jv_X) (h : jv_H) (Z : zZ) (K : Int32 → jv_H → Prop) (KJ : Int64 → jv_H → Prop)
theorem fin_L (h1 : jv_H) (L : zL) (c : CS h Z) (hn : Z.k.nl < 6) (o1 : oS (lw (8 + 39 + 4 * Z.k.nl)) h h1) (cl : CL h1 (8 + 39 + 4 * Z.k.nl) L) (hK : cI h ((Z.k.nl : Int), Z.sk (Z.k.addL L)) K) : jI X 7 y_Workshop_addLadder [.ref 8] 227 h1 K := by
  refine c_addLadder X 6 h1 8 Z.k _ L (c.s8.mv o1) (c.k.mvL hn o1) hn cl (fun z' hz' h' o' ck' => ?_)
  have o3 : oS (fun q => 8 ≤ q ∧ q < 83) h h' := (o1.mono (lw_b hn)).tr (o'.mono (fun q z => by omega))
  exact hK z' hz' h' (o3.R.C (fun q hq => by omega)) (c.upd o3 (fun q z => z) ck')
theorem bad_L (h1 : jv_H) (z : Int32) (e : Int) (hz : z.toInt = e) (c : CS h Z) (hn : Z.k.nl < 6) (o1 : oS (lw (8 + 39 + 4 * Z.k.nl)) h h1) (hK : cI h (e, Z) K) : K z h1 :=
  hK z hz h1 (o1.R.C (fun q z => by have := lw_b hn q z; omega)) (c.upd o1 (lw_b hn) (c.k.mvL hn o1))
theorem k_parts (x : Int32) (c : CS h Z) (hK : cI h (q_parts x Z) K) : jI X 8 y_Maker_parts [.ref 0, .int x] 227 h K := by
  unfold q_parts at hK
  have hm := c.k.ml
  refine r_Maker_parts X 7 227 _ 0 x h ⟨is0, _, c.m2, c.s8.is, c_findLadder X 5 h 8 Z.k _ _ x c.s8 c.k (fun k hx hk => ⟨(c.s8.lo (k := k) (by omega)).1, ?_⟩) (fun e => ?_)⟩
  · have hL : Z.L x = Z.k.L k := congrArg Z.k.L (nz_nat hx)
    rw [if_pos ⟨by omega, by omega⟩, hL] at hK
    exact hK _ (c.k.l hk).gz h oC.rf c
  · rw [if_neg e] at hK
    exact hK _ rfl h oC.rf c
theorem k_end (x : Int32) (c : CS h Z) (hK : cI h (q_end x Z) K) : jI X 8 y_Maker_end [.ref 0, .int x] 227 h K := by
  unfold q_end at hK
  have hm := c.k.ml
  refine r_Maker_end X 7 227 _ 0 x h ⟨is0, _, c.m2, c.s8.is, c_findLadder X 5 h 8 Z.k _ _ x c.s8 c.k (fun k hx hk => ⟨(c.s8.lo (k := k) (by omega)).1, ?_⟩) (fun e => ?_)⟩
  · have hL : Z.L x = Z.k.L k := congrArg Z.k.L (nz_nat hx)
    rw [if_pos ⟨by omega, by omega⟩, hL] at hK
    exact hK _ (congrArg Int32.toInt (c.k.l hk).ge) h oC.rf c
  · rw [if_neg e] at hK
    exact hK _ rfl h oC.rf c
theorem k_part (x k w : Int32) (c : CS h Z) (hK : cI h (q_part x k w Z) K) : jI X 8 y_Maker_part [.ref 0, .int x, .int k, .int w] 227 h K := by
  unfold q_part at hK
  have hm := c.k.ml
  refine r_Maker_part X 7 227 _ 0 x k w h ⟨is0, _, c.m2, c.s8.is, c_findLadder X 5 h 8 Z.k _ _ x c.s8 c.k (fun i hx hi => ?_) (fun e => ?_)⟩
  · have hL : Z.L x = Z.k.L i := congrArg Z.k.L (nz_nat hx)
    rw [hL] at hK
    have l := c.s8.lo (k := i) (by omega)
    have cl := c.k.l hi
    refine ⟨l.1, c_has X 5 227 _ h _ (Z.k.L i) k l cl ⟨fun y => ?_, fun y => c_isWithin X 6 227 _ h _ _ _ ⟨fun y2 => ?_, fun y2 => ?_⟩⟩⟩
    · rw [nz_bt] at y
      rw [if_neg (fun z => y z.2.1)] at hK
      exact hK _ rfl h oC.rf c
    · rw [nz_bt, Classical.not_not] at y y2
      rw [if_pos ⟨⟨by omega, by omega⟩, y, y2⟩] at hK
      have hle := cl.le
      have hk : k.toInt = (k.toInt.toNat : Int) := by omega
      have hk2 : k.toInt.toNat < (Z.k.L i).sz := by omega
      have e1 := cl.gs hk hk2
      have e2 := cl.gu hk hk2
      rw [nz_nat hk] at hK
      refine ⟨fun e => ?_, fun e => ?_⟩
      · rw [if_neg e] at hK
        refine ⟨l.1, _, l.2.2.1, l.xb hk (by omega), ?_⟩
        rw [e2]
        refine ⟨fun z => ?_, fun z => ?_⟩
        · rw [z] at hK
          exact hK _ rfl h oC.rf c
        · have z1 : (Z.k.L i).sh k.toInt.toNat = 1 := (cl.u1 hk2).elim (fun q => absurd q z) id
          rw [z1] at hK
          exact hK _ rfl h oC.rf c
      · rw [if_pos e] at hK
        refine ⟨l.1, _, l.2.1, l.xa hk (by omega), ?_⟩
        rw [e1]
        exact hK _ rfl h oC.rf c
    · rw [nz_bt] at y2
      rw [if_neg (fun z => y2 z.2.2)] at hK
      exact hK _ rfl h oC.rf c
  · rw [if_neg (fun z => e z.1)] at hK
    exact hK _ rfl h oC.rf c
theorem k_value (x k p : Int32) (c : CS h Z) (hK : cJ h (q_value x k p Z) KJ) : jL X 8 y_Maker_value [.ref 0, .int x, .int k, .int p] 227 h KJ := by
  unfold q_value at hK
  have hm := c.k.ml
  refine r_Maker_value X 7 227 _ 0 x k p h ⟨is0, _, c.m2, c.s8.is, c_findLadder X 5 h 8 Z.k _ _ x c.s8 c.k (fun i hx hi => ?_) (fun e => ?_)⟩
  · have hL : Z.L x = Z.k.L i := congrArg Z.k.L (nz_nat hx)
    rw [hL, if_pos ⟨by omega, by omega⟩] at hK
    have l := c.s8.lo (k := i) (by omega)
    have cl := c.k.l hi
    refine ⟨fun e => ⟨l.1, c_has X 5 227 _ h _ (Z.k.L i) k l cl ⟨fun y => ?_, fun y => ?_⟩⟩, fun e => ⟨l.1, ?_⟩⟩
    · rw [nz_bt] at y
      rw [if_neg e, if_neg y] at hK
      exact hK _ rfl h oC.rf c
    · rw [nz_bt, Classical.not_not] at y
      have hle := cl.le
      have hk : k.toInt = (k.toInt.toNat : Int) := by omega
      have hk2 : k.toInt.toNat < (Z.k.L i).sz := by omega
      have e1 := cl.gv hk hk2
      rw [if_neg e, if_pos y, nz_nat hk] at hK
      refine ⟨l.1, _, l.2.2.2.1, l.xc hk (by omega), ?_⟩
      rw [e1]
      exact c_tell X 5 227 _ h _ (cl.vr hk2) p (fun z hz => hK z hz h oC.rf c)
    · rw [if_pos e] at hK
      rw [cl.ge]
      refine ⟨fun y => ?_, fun y => ⟨l.1, ?_⟩⟩
      · rw [if_neg y] at hK
        exact hK _ rfl h oC.rf c
      · rw [if_pos y] at hK
        rw [cl.gl]
        exact c_tell X 5 227 _ h _ cl.2.2.2.1 p (fun z hz => hK z hz h oC.rf c)
  · rw [if_neg e] at hK
    exact hK _ rfl h oC.rf c
theorem k_multiply (x : Int32) (c : CS h Z) (hK : cI h (q_mult x Z) K) : jI X 8 y_Maker_multiply [.ref 0, .int x] 227 h K := by
  unfold q_mult at hK
  have hm := c.k.ml
  refine r_Maker_multiply X 7 227 _ 0 x h ⟨is0, _, c.m2, c.s8.is, c_findLadder X 5 h 8 Z.k _ _ x c.s8 c.k (fun i hx hi => ⟨is0, _, c.m2, c.s8.is, c_freeRatio X 6 h 8 Z.k _ _ c.s8 c.k (fun hn => ?_) (fun hn => ?_)⟩) (fun e => ?_)⟩
  · have hL : Z.L x = Z.k.L i := congrArg Z.k.L (nz_nat hx)
    rw [hL, if_pos ⟨by omega, by omega⟩, if_neg (by omega)] at hK
    have l := c.s8.lo (k := i) (by omega)
    have cl := c.k.l hi
    have ro := c.s8.ro hn
    refine ⟨ro.1, c_becomeMultipliedOut X 1 227 _ h _ _ _ _ _ _ (Z.k.L i) ⟨fun z => by have := z.1; have := z.2; omega, fun z => by have := z.1; have := z.2; omega⟩ ro l cl (fun P hP h1 o1 f1 g1 => ⟨fun _ => ⟨ro.1, ?_⟩, fun z => absurd z (by decide)⟩) (fun hP h1 o1 => ⟨fun z => absurd rfl z, fun _ => ?_⟩)⟩
    · rw [hP] at hK
      dsimp only at hK
      refine c_hasZeroPoly X 4 227 _ h1 _ _ _ _ _ _ _ (ro.mv o1) f1 g1 ⟨fun z => ⟨is0, _, (o1.m c.m2), c.s8.is, ?_⟩, fun z => ?_⟩
      · rw [nz_bt] at z
        rw [if_neg z] at hK
        refine c_addRatio X 6 h1 8 Z.k _ P (c.s8.mv o1) (c.k.mvR hn o1) hn f1 g1 (fun z' hz' h' o' ck' => ?_)
        have o3 : oS (fun q => 8 ≤ q ∧ q < 83) h h' := (o1.mono (rw2_b hn)).tr (o'.mono (fun q z => by omega))
        exact hK z' hz' h' (o3.R.C (fun q hq => by omega)) (c.upd o3 (fun q z => z) ck')
      · rw [nz_bt, Classical.not_not] at z
        rw [if_pos z] at hK
        exact hK _ rfl h1 (o1.R.C (fun q z => by have := rw2_b hn q z; omega)) (c.upd o1 (rw2_b hn) (c.k.mvR hn o1))
    · rw [hP] at hK
      exact hK _ rfl h1 (o1.R.C (fun q z => by have := rw2_b hn q z; omega)) (c.upd o1 (rw2_b hn) (c.k.mvR hn o1))
  · rw [if_pos ⟨by omega, by omega⟩, if_pos hn] at hK
    exact hK _ rfl h oC.rf c
  · rw [if_neg e] at hK
    exact hK _ rfl h oC.rf c
theorem CK.stL {h h' : jv_H} {w i : Nat} {K : zK} {L : zL} (c : CK h w K) (hi : i < K.nl) (o : oS (lw (w + 39 + 4 * i)) h h') (cl : CL h' (w + 39 + 4 * i) L) : CK h' w (K.setL i L) := by
  have hml := c.ml
  have hmr := c.mr
  obtain ⟨⟨c1, c2, c3⟩, ⟨c4, c5, c6⟩, c7, c8, c9⟩ := c
  have a0 := (o.2 w (fun z => by have := z.1; omega)).1
  refine ⟨⟨by rw [a0]; exact c1, c2, fun k hk => ⟨pc.mv o (fun z => by have hk : k < K.nr := hk; have := z.1; have := z.2; omega) (c3 k hk).1, pc.mv o (fun z => by have hk : k < K.nr := hk; have := z.1; have := z.2; omega) (c3 k hk).2⟩⟩, ⟨by rw [a0]; exact c4, c5, fun k hk => ?_⟩, fun s hs => (c7 s hs).mv o (fun q h1 h2 z => by have := z.1; have := z.2; omega), c8.mv o (fun q h1 h2 z => by have := z.1; have := z.2; omega), by rw [a0]; exact c9⟩
  show CL h' _ (if k = i then L else K.L k)
  by_cases e : k = i
  · rw [if_pos e, e]; exact cl
  · rw [if_neg e]; exact (c6 k hk).mv o (fun q h1 h2 z => by have := z.1; have := z.2; omega)
theorem k_close (x e a b : Int32) (c : CS h Z) (hK : cI h (q_close x e a b Z) K) : jI X 8 y_Maker_close [.ref 0, .int x, .int e, .int a, .int b] 227 h K := by
  unfold q_close at hK
  have hm := c.k.ml
  refine r_Maker_close X 7 227 _ 0 x e a b h ⟨is0, _, c.m2, c.s8.is, c_findLadder X 5 h 8 Z.k _ _ x c.s8 c.k (fun i hx hi => c_isWithin X 6 227 _ h _ _ _ ⟨fun y => ?_, fun y => ?_⟩) (fun e => ?_)⟩
  · rw [nz_bt, Classical.not_not] at y
    have hL : Z.L x = Z.k.L i := congrArg Z.k.L (nz_nat hx)
    rw [hL, nz_nat hx] at hK
    have l := c.s8.lo (k := i) (by omega)
    have cl := c.k.l hi
    have fin : ∀ q, fz_r q → q = (if e = 2 then fz_of a.toInt b.toInt else (0, 1)) → (¬ e = 2 ∨ tol a b) → jV X 7 y_Ladder_endWith [.ref (8 + 39 + 4 * i), .int e, .long (fz_p q)] 227 h (fun h6 => K (jv_gI h (8 + 39 + 4 * i) 4) h6) := fun q hq eq ht => by
      rw [if_pos ⟨⟨by omega, by omega⟩, y, ht⟩, ← eq] at hK
      refine c_endWith X 6 227 _ h _ (Z.k.L i) e q l cl hq (fun h1 o1 cl1 => ?_)
      exact hK _ (congrArg Int32.toInt cl.ge) h1 (o1.R.C (fun q z => by have := lw_b (k := i) (by omega) q z; omega)) (c.upd o1 (lw_b (by omega)) (c.k.stL hi o1 cl1))
    refine ⟨fun ne => ⟨l.1, fun _ => ⟨l.1, ?_⟩, fun z => absurd z ne⟩, fun eq => c_isTold X 5 227 _ h _ _ ⟨fun y2 => ⟨l.1, fun z => absurd eq z, fun _ => c_ofI X 5 227 _ h a b ⟨l.1, ?_⟩⟩, fun y2 => ?_⟩⟩
    · rw [← fz_p_0]
      exact fin _ fz_r_0 (if_neg ne).symm (Or.inl ne)
    · rw [nz_bt, Classical.not_not] at y2
      exact fin _ (fz_of_r _ _) (if_pos eq).symm (Or.inr y2)
    · rw [nz_bt] at y2
      rw [if_neg (fun z => z.2.2.elim (fun q => q eq) y2)] at hK
      exact hK _ rfl h oC.rf c
  · rw [nz_bt] at y
    rw [if_neg (fun z => y z.2.1)] at hK
    exact hK _ rfl h oC.rf c
  · rw [if_neg (fun z => e z.1)] at hK
    exact hK _ rfl h oC.rf c
theorem k_scale (x a b u v : Int32) (c : CS h Z) (hK : cI h (q_scale x a b u v Z) K) : jI X 8 y_Maker_scale [.ref 0, .int x, .int a, .int b, .int u, .int v] 227 h K := by
  unfold q_scale at hK
  have hm := c.k.ml
  refine r_Maker_scale X 7 227 _ 0 x a b u v h ⟨is0, _, c.m2, c.s8.is, c_findLadder X 5 h 8 Z.k _ _ x c.s8 c.k (fun i hx hi => c_isTold X 5 227 _ h _ _ ⟨fun y => ?_, fun y => c_isTold X 5 227 _ h _ _ ⟨fun y2 => ⟨is0, _, c.m2, c.s8.is, c_freeLadder X 6 h 8 Z.k _ _ c.s8 c.k (fun hn => c_ofI X 5 227 _ h a b (c_ofI X 5 227 _ h u v ?_)) (fun hn => ?_)⟩, fun y2 => ?_⟩⟩) (fun e => ?_)⟩
  · rw [nz_bt] at y
    rw [if_neg (fun z => y z.2.1)] at hK
    exact hK _ rfl h oC.rf c
  · rw [nz_bt, Classical.not_not] at y y2
    have hL : Z.L x = Z.k.L i := congrArg Z.k.L (nz_nat hx)
    rw [if_pos ⟨⟨by omega, by omega⟩, y, y2⟩, if_neg (by omega), hL] at hK
    refine ⟨(c.s8.lo hn).1, c_L_becomeScaled X 2 227 _ h _ _ (Z.k.L i) _ _ (fz_of_r _ _) (fz_of_r _ _) (c.s8.lo hn) (c.s8.lo (k := i) (by omega)) (c.k.l hi) (ap_L (by omega)) (fun nn h1 o1 cl => ⟨fun z => absurd z (by decide), fun _ => ⟨is0, _, o1.m c.m2, c.s8.is, ?_⟩⟩) (fun nn h1 o1 => ⟨fun _ => ?_, fun z => absurd rfl z⟩)⟩
    · rw [cif_t nn] at hK
      exact fin_L X h Z _ h1 _ c hn o1 cl hK
    · rw [cif_f nn] at hK
      exact bad_L h Z _ h1 _ _ rfl c hn o1 hK
  · rw [nz_bt, Classical.not_not] at y y2
    rw [if_pos ⟨⟨by omega, by omega⟩, y, y2⟩, if_pos hn] at hK
    exact hK _ rfl h oC.rf c
  · rw [nz_bt] at y2
    rw [if_neg (fun z => y2 z.2.2)] at hK
    exact hK _ rfl h oC.rf c
  · rw [if_neg (fun z => e z.1)] at hK
    exact hK _ rfl h oC.rf c
theorem k_band (x a b u v : Int32) (c : CS h Z) (hK : cI h (q_band x a b u v Z) K) : jI X 8 y_Maker_band [.ref 0, .int x, .int a, .int b, .int u, .int v] 227 h K := by
  unfold q_band at hK
  have hm := c.k.ml
  refine r_Maker_band X 7 227 _ 0 x a b u v h ⟨is0, _, c.m2, c.s8.is, c_findLadder X 5 h 8 Z.k _ _ x c.s8 c.k (fun i hx hi => c_isTold X 5 227 _ h _ _ ⟨fun y => ?_, fun y => c_isTold X 5 227 _ h _ _ ⟨fun y2 => ⟨is0, _, c.m2, c.s8.is, c_freeLadder X 6 h 8 Z.k _ _ c.s8 c.k (fun hn => ?_) (fun hn => ?_)⟩, fun y2 => ?_⟩⟩) (fun e => ?_)⟩
  · rw [nz_bt] at y
    rw [if_neg (fun z => y z.2.1)] at hK
    exact hK _ rfl h oC.rf c
  · rw [nz_bt, Classical.not_not] at y y2
    have hL : Z.L x = Z.k.L i := congrArg Z.k.L (nz_nat hx)
    rw [if_pos ⟨⟨by omega, by omega⟩, y, y2⟩, if_neg (by omega), hL] at hK
    have l := c.s8.lo (k := i) (by omega)
    refine ⟨l.1, c_refuse X 4 227 _ h _ (Z.k.L i) l (c.k.l hi) (fun w => ⟨fun z => absurd z (by decide), fun _ => ?_⟩) (fun w w2 => ⟨fun z => absurd z (by decide), fun _ => ?_⟩) (fun w w2 => ⟨fun _ => c_ofI X 5 227 _ h a b (c_ofI X 5 227 _ h u v ⟨(c.s8.lo hn).1, ?_⟩), fun z => absurd rfl z⟩)⟩
    · rw [cif_f w] at hK
      exact hK _ rfl h oC.rf c
    · rw [cif_t w, if_pos w2] at hK
      exact hK _ rfl h oC.rf c
    · rw [cif_t w, if_neg (by omega)] at hK
      refine c_becomeBanded X 3 227 _ h _ _ (Z.k.L i) _ _ (fz_of_r _ _) (fz_of_r _ _) (c.s8.lo hn) l (c.k.l hi) (ap_L (by omega)) w2 (fun B hB h1 o1 cl => ⟨fun z => absurd z (by decide), fun _ => ⟨is0, _, o1.m c.m2, c.s8.is, ?_⟩⟩) (fun hB h1 o1 => ⟨fun _ => ?_, fun z => absurd rfl z⟩)
      · rw [hB] at hK
        exact fin_L X h Z _ h1 _ c hn o1 cl hK
      · rw [hB] at hK
        exact bad_L h Z _ h1 _ _ rfl c hn o1 hK
  · rw [nz_bt, Classical.not_not] at y y2
    rw [if_pos ⟨⟨by omega, by omega⟩, y, y2⟩, if_pos hn] at hK
    exact hK _ rfl h oC.rf c
  · rw [nz_bt] at y2
    rw [if_neg (fun z => y2 z.2.2)] at hK
    exact hK _ rfl h oC.rf c
  · rw [if_neg (fun z => e z.1)] at hK
    exact hK _ rfl h oC.rf c
theorem k_dull (x a b : Int32) (c : CS h Z) (hK : cI h (q_dull x a b Z) K) : jI X 8 y_Maker_dull [.ref 0, .int x, .int a, .int b] 227 h K := by
  unfold q_dull at hK
  have hm := c.k.ml
  refine r_Maker_dull X 7 227 _ 0 x a b h ⟨is0, _, c.m2, c.s8.is, c_findLadder X 5 h 8 Z.k _ _ x c.s8 c.k (fun i hx hi => c_isTold X 5 227 _ h _ _ ⟨fun y => ⟨is0, _, c.m2, c.s8.is, c_freeLadder X 6 h 8 Z.k _ _ c.s8 c.k (fun hn => ?_) (fun hn => ?_)⟩, fun y => ?_⟩) (fun e => ?_)⟩
  · rw [nz_bt, Classical.not_not] at y
    have hL : Z.L x = Z.k.L i := congrArg Z.k.L (nz_nat hx)
    rw [if_pos ⟨⟨by omega, by omega⟩, y⟩, if_neg (by omega), hL] at hK
    have l := c.s8.lo (k := i) (by omega)
    refine ⟨l.1, c_refuse X 4 227 _ h _ (Z.k.L i) l (c.k.l hi) (fun w => ⟨fun z => absurd z (by decide), fun _ => ?_⟩) (fun w w2 => ⟨fun z => absurd z (by decide), fun _ => ?_⟩) (fun w w2 => ⟨fun _ => c_ofI X 5 227 _ h a b ⟨(c.s8.lo hn).1, ?_⟩, fun z => absurd rfl z⟩)⟩
    · rw [cif_f w] at hK
      exact hK _ rfl h oC.rf c
    · rw [cif_t w, if_pos w2] at hK
      exact hK _ rfl h oC.rf c
    · rw [cif_t w, if_neg (by omega)] at hK
      refine c_becomeDulled X 3 227 _ h _ _ (Z.k.L i) _ (fz_of_r _ _) (c.s8.lo hn) l (c.k.l hi) (ap_L (by omega)) w2 (fun B hB h1 o1 cl => ⟨fun z => absurd z (by decide), fun _ => ⟨is0, _, o1.m c.m2, c.s8.is, ?_⟩⟩) (fun hB h1 o1 => ⟨fun _ => ?_, fun z => absurd rfl z⟩)
      · rw [hB] at hK
        exact fin_L X h Z _ h1 _ c hn o1 cl hK
      · rw [hB] at hK
        exact bad_L h Z _ h1 _ _ rfl c hn o1 hK
  · rw [nz_bt, Classical.not_not] at y
    rw [if_pos ⟨⟨by omega, by omega⟩, y⟩, if_pos hn] at hK
    exact hK _ rfl h oC.rf c
  · rw [nz_bt] at y
    rw [if_neg (fun z => y z.2)] at hK
    exact hK _ rfl h oC.rf c
  · rw [if_neg (fun z => e z.1)] at hK
    exact hK _ rfl h oC.rf c
theorem k_turn (x : Int32) (c : CS h Z) (hK : cI h (q_turn x Z) K) : jI X 8 y_Maker_turn [.ref 0, .int x] 227 h K := by
  unfold q_turn at hK
  have hm := c.k.ml
  refine r_Maker_turn X 7 227 _ 0 x h ⟨is0, _, c.m2, c.s8.is, c_findLadder X 5 h 8 Z.k _ _ x c.s8 c.k (fun i hx hi => ⟨is0, _, c.m2, c.s8.is, c_freeLadder X 6 h 8 Z.k _ _ c.s8 c.k (fun hn => ⟨(c.s8.lo hn).1, ?_⟩) (fun hn => ?_)⟩) (fun e => ?_)⟩
  · have hL : Z.L x = Z.k.L i := congrArg Z.k.L (nz_nat hx)
    rw [if_pos ⟨by omega, by omega⟩, if_neg (by omega), hL] at hK
    exact c_becomeTurned X 4 227 _ h _ _ (Z.k.L i) (c.s8.lo hn) (c.s8.lo (k := i) (by omega)) (c.k.l hi) (ap_L (by omega)) (fun h1 o1 cl => ⟨is0, _, o1.m c.m2, c.s8.is, fin_L X h Z _ h1 _ c hn o1 cl hK⟩)
  · rw [if_pos ⟨by omega, by omega⟩, if_pos hn] at hK
    exact hK _ rfl h oC.rf c
  · rw [if_neg e] at hK
    exact hK _ rfl h oC.rf c
theorem k_fit (x : Int32) (c : CS h Z) (ok : okK Z.k) (hK : cI h (q_fit x Z) K) : jI X 8 y_Maker_fit [.ref 0, .int x] 227 h K := by
  unfold q_fit at hK
  have hm := c.k.ml
  refine r_Maker_fit X 7 227 _ 0 x h ⟨is0, _, c.m2, c.s8.is, c_findLadder X 5 h 8 Z.k _ _ x c.s8 c.k (fun i hx hi => ⟨is0, _, c.m2, c.s8.is, c_freeLadder X 6 h 8 Z.k _ _ c.s8 c.k (fun hn => ⟨is0, _, c.m2, c.s8.is, _, c.s8.r2, (c.s8.lo hn).1, ?_⟩) (fun hn => ?_)⟩) (fun e => ?_)⟩
  · have hL : Z.L x = Z.k.L i := congrArg Z.k.L (nz_nat hx)
    rw [if_pos ⟨by omega, by omega⟩, if_neg (by omega), hL] at hK
    refine c_becomeFitted X 2 h 8 _ _ (Z.k.L i) Z.k.B _ (ap_L (by omega)) (by omega) (ok.2.1 i hi).2.1 ok.th c.s8 (c.s8.lo hn) (c.s8.lo (k := i) (by omega)) (c.k.l hi) (fun s hs => c.k.b hs) (fun nn h1 o1 cl => ⟨fun z => absurd z (by decide), fun _ => ⟨is0, _, o1.m c.m2, c.s8.is, ?_⟩⟩) (fun nn h1 o1 => ⟨fun _ => ?_, fun z => absurd rfl z⟩)
    · rw [cif_t nn] at hK
      exact fin_L X h Z _ h1 _ c hn o1 cl hK
    · rw [cif_f nn] at hK
      exact bad_L h Z _ h1 _ _ rfl c hn o1 hK
  · rw [if_pos ⟨by omega, by omega⟩, if_pos hn] at hK
    exact hK _ rfl h oC.rf c
  · rw [if_neg e] at hK
    exact hK _ rfl h oC.rf c
theorem k_forget (x : Int32) (c : CS h Z) (hK : cI h (q_forget x Z) K) : jI X 8 y_Maker_forget [.ref 0, .int x] 227 h K := by
  unfold q_forget at hK
  have hS : ∀ q, q = 8 → 8 ≤ q ∧ q < 83 := fun q z => by omega
  refine r_Maker_forget X 7 227 _ 0 x h (c_isWithin X 6 227 _ h _ _ _ ⟨fun y => ⟨fun e => ⟨is0, _, c.m2, c.s8.is, c_forgetLadders X 6 h 8 Z.k _ c.s8 c.k (fun z hz h1 o1 ck => ?_)⟩, fun e => ⟨is0, _, c.m2, c.s8.is, c_forgetRatios X 6 h 8 Z.k _ c.s8 c.k (fun z hz h1 o1 ck => ?_)⟩⟩, fun y => ?_⟩)
  · rw [nz_bt, Classical.not_not] at y
    rw [if_pos (show wi x 0 1 from y), if_neg e] at hK
    exact hK z hz h1 (o1.R.C (fun q z => by omega)) (c.upd o1 hS ck)
  · rw [nz_bt, Classical.not_not] at y
    rw [if_pos (show wi x 0 1 from y), if_pos e] at hK
    exact hK z hz h1 (o1.R.C (fun q z => by omega)) (c.upd o1 hS ck)
  · rw [nz_bt] at y
    rw [if_neg (show ¬ wi x 0 1 from y)] at hK
    exact hK _ rfl h oC.rf c
theorem zL.wo_r {L : zL} {r : Int32} {x : Int × Int} : ∀ (k : Nat) (z : Int × Int), fz_r z → fz_r (L.wo r x k z)
  | 0, z, hz => hz
  | k + 1, z, hz => by
    unfold zL.wo
    split
    · exact fz_r_m1
    · split
      · exact fz_r_m1
      · refine L.wo_r k _ ?_
        unfold wt
        split
        · exact ws_r hz
        · exact wh_r hz
theorem we_r {h : jv_H} {o : Nat} {L : zL} (c : CL h o L) : fz_r L.we := by
  unfold zL.we
  split
  · exact c.2.2.2.1
  · split
    · exact fz_r_0
    · exact fz_r_i
theorem k_worth (x a b p : Int32) (c : CS h Z) (hK : cJ h (q_worth x a b p Z) KJ) : jL X 8 y_Maker_worth [.ref 0, .int x, .int a, .int b, .int p] 227 h KJ := by
  unfold q_worth at hK
  have hm := c.k.ml
  refine r_Maker_worth X 7 227 _ 0 x a b p h ⟨is0, _, c.m2, c.s8.is, c_findLadder X 5 h 8 Z.k _ _ x c.s8 c.k (fun i hx hi => c_isTold X 5 227 _ h _ _ ⟨fun y => c_ofI X 5 227 _ h a b ⟨(c.s8.lo (k := i) (by omega)).1, ?_⟩, fun y => ?_⟩) (fun e => ?_)⟩
  · rw [nz_bt, Classical.not_not] at y
    have hL : Z.L x = Z.k.L i := congrArg Z.k.L (nz_nat hx)
    rw [if_pos ⟨⟨by omega, by omega⟩, y⟩, hL] at hK
    refine r_Ladder_worthAt X 6 227 _ _ _ h ⟨(c.s8.lo (k := i) (by omega)).1, c_workOut X 0 227 _ h _ (Z.k.L i) 0 _ (fz_of_r _ _) (Or.inl rfl) (c.s8.lo (k := i) (by omega)) (c.k.l hi) ?_⟩
    exact c_tell X 5 227 _ h _ (zL.wo_r _ _ (we_r (c.k.l hi))) p (fun z hz => hK z hz h oC.rf c)
  · rw [nz_bt] at y
    rw [if_neg (fun z => y z.2)] at hK
    exact hK _ rfl h oC.rf c
  · rw [if_neg (fun z => e z.1)] at hK
    exact hK _ rfl h oC.rf c
theorem k_react (x a b p : Int32) (c : CS h Z) (hK : cJ h (q_react x a b p Z) KJ) : jL X 8 y_Maker_react [.ref 0, .int x, .int a, .int b, .int p] 227 h KJ := by
  unfold q_react at hK
  have hm := c.k.ml
  refine r_Maker_react X 7 227 _ 0 x a b p h ⟨is0, _, c.m2, c.s8.is, c_findLadder X 5 h 8 Z.k _ _ x c.s8 c.k (fun i hx hi => c_isTold X 5 227 _ h _ _ ⟨fun y => ?_, fun y => ⟨(c.s8.lo (k := i) (by omega)).1, ?_⟩⟩) (fun e => ?_)⟩
  · rw [nz_bt] at y
    rw [if_neg (fun z => y z.2.1)] at hK
    exact hK _ rfl h oC.rf c
  · rw [nz_bt, Classical.not_not] at y
    have hL : Z.L x = Z.k.L i := congrArg Z.k.L (nz_nat hx)
    rw [hL] at hK
    refine c_isLossless X 5 227 _ h _ (Z.k.L i) (c.s8.lo (k := i) (by omega)) (c.k.l hi) (fun e1 e2 => ⟨fun _ => c_ofI X 5 227 _ h a b ⟨(c.s8.lo (k := i) (by omega)).1, ?_⟩, fun z => absurd z (by decide)⟩) (fun e => ⟨fun z => absurd rfl z, fun _ => ?_⟩)
    · rw [if_pos ⟨⟨by omega, by omega⟩, y, e1, e2⟩] at hK
      refine r_Ladder_reactanceAt X 6 227 _ _ _ h ⟨(c.s8.lo (k := i) (by omega)).1, c_workOut X 0 227 _ h _ (Z.k.L i) 1 _ (fz_of_r _ _) (Or.inr rfl) (c.s8.lo (k := i) (by omega)) (c.k.l hi) ?_⟩
      exact c_tell X 5 227 _ h _ (zL.wo_r _ _ (we_r (c.k.l hi))) p (fun z hz => hK z hz h oC.rf c)
    · rw [if_neg (fun z => e z.2.2)] at hK
      exact hK _ rfl h oC.rf c
  · rw [if_neg (fun z => e z.1)] at hK
    exact hK _ rfl h oC.rf c
theorem c_kind (z : Int × Int) (hz : fz_r z) (w : Int32) (hK1 : knd z w → K 1 h) (hK0 : ¬ knd z w → K 0 h) : jI X 7 y_Maker_isReactanceOfKind [.long (fz_p z), .int w] 227 h K := by
  unfold knd at hK1 hK0
  refine r_Maker_isReactanceOfKind X 6 227 _ _ w h ⟨fun a => ⟨fun b => c_above X 5 227 _ h z hz (fun y hy => ⟨fun q => ⟨Or.inl rfl, ?_⟩, fun q => ⟨Or.inr rfl, ?_⟩⟩), fun b => ⟨fun e => ⟨Or.inl rfl, ?_⟩, fun e => ⟨Or.inr rfl, ?_⟩⟩⟩, fun a => ⟨fun e => ⟨Or.inl rfl, ?_⟩, fun e => ⟨Or.inr rfl, ?_⟩⟩⟩
  · have : (0 : Int) ≤ y.toInt := nz_le.mp q
    rw [if_neg a, if_neg b] at hK0
    exact hK0 (by omega)
  · have : ¬ (0 : Int) ≤ y.toInt := fun p => q (nz_le.mpr p)
    rw [if_neg a, if_neg b] at hK1
    exact hK1 (by omega)
  · rw [if_neg a, if_pos b] at hK0
    exact hK0 (fun y => e ((lg_cmp_eq _ _).mpr (by rw [y, fz_p_0])))
  · rw [if_neg a, if_pos b] at hK1
    exact hK1 ((fz_inj hz fz_r_0).mp (by rw [fz_p_0]; exact (lg_cmp_eq _ _).mp e))
  · rw [if_pos a] at hK0
    exact hK0 (fun y => e ((lg_cmp_eq _ _).mpr (by rw [y, fz_p_i])))
  · rw [if_pos a] at hK1
    exact hK1 ((fz_inj hz fz_r_i).mp (by rw [fz_p_i]; exact (lg_cmp_eq _ _).mp e))
theorem first_l (Q : jv_Q) (w : Int32) (o : Nat) (L : zL) (l : LO 227 h o) (cl : CL h o L) : ∀ (m k : Nat) (x : Int32), x.toInt = k → k + m = 41 → (∀ z : Int32, z.toInt = frs L w m k → Q (some (.int z)) h) → a_Maker_first_37 X 7 227 Q w o x h 0
  | 0, k, x, hx, hm, hQ => by
    exact r_Maker_first_37 X 7 227 Q w o x h ⟨fun _ => hQ _ rfl, fun z => absurd (nz_lt.mpr (by rw [hx]; show (40 : Int) < _; omega)) z⟩
  | m + 1, k, x, hx, hm, hQ => by
    unfold frs at hQ
    have e1 : (1 : Int64) = Int32.toInt64 1 := rfl
    refine r_Maker_first_37 X 7 227 Q w o x h ⟨fun z => ?_, fun _ => ?_⟩
    · have : (40 : Int) < x.toInt := nz_lt.mp z
      omega
    · rw [e1]
      refine c_ofI X 5 227 _ h x 1 ⟨l.1, r_Ladder_reactanceAt X 6 227 _ _ _ h ⟨l.1, c_workOut X 0 227 _ h _ L 1 _ (fz_of_r _ _) (Or.inr rfl) l cl ?_⟩⟩
      rw [hx, show (1 : Int32).toInt = 1 from rfl]
      have hr : fz_r (L.wo 1 (fz_of k 1) L.sz L.we) := zL.wo_r _ _ (we_r cl)
      refine c_isWide X 6 227 _ h _ hr ⟨fun y => c_kind X h _ _ hr w (fun e => ⟨fun z => absurd z (by decide), fun _ => ?_⟩) (fun e => ⟨fun _ => ?_, fun z => absurd rfl z⟩), fun y => ?_⟩
      · rw [nz_bt] at y
        rw [if_neg y, if_pos e] at hQ
        exact hQ x hx
      · rw [nz_bt] at y
        rw [if_neg y, if_neg e] at hQ
        exact first_l Q w o L l cl m (k + 1) _ (nz_inc hx (by omega)) (by omega) hQ
      · rw [nz_bt, Classical.not_not] at y
        rw [if_pos y] at hQ
        exact hQ _ rfl
theorem k_first (x w : Int32) (c : CS h Z) (hK : cI h (q_first x w Z) K) : jI X 8 y_Maker_first [.ref 0, .int x, .int w] 227 h K := by
  unfold q_first at hK
  have hm := c.k.ml
  refine r_Maker_first X 7 227 _ 0 x w h ⟨is0, _, c.m2, c.s8.is, c_findLadder X 5 h 8 Z.k _ _ x c.s8 c.k (fun i hx hi => c_isWithin X 6 227 _ h _ _ _ ⟨fun y => ⟨(c.s8.lo (k := i) (by omega)).1, ?_⟩, fun y => ?_⟩) (fun e => ?_)⟩
  · rw [nz_bt, Classical.not_not] at y
    have hL : Z.L x = Z.k.L i := congrArg Z.k.L (nz_nat hx)
    rw [if_pos ⟨⟨by omega, by omega⟩, y⟩, hL] at hK
    refine c_isLossless X 5 227 _ h _ (Z.k.L i) (c.s8.lo (k := i) (by omega)) (c.k.l hi) (fun e1 e2 => ⟨fun _ => ?_, fun z => absurd z (by decide)⟩) (fun e => ⟨fun z => absurd rfl z, fun _ => ?_⟩)
    · rw [if_pos ⟨e1, e2⟩] at hK
      exact first_l X h _ w _ (Z.k.L i) (c.s8.lo (k := i) (by omega)) (c.k.l hi) 40 1 1 rfl rfl (fun z hz => hK z hz h oC.rf c)
    · rw [if_neg e] at hK
      exact hK _ rfl h oC.rf c
  · rw [nz_bt] at y
    rw [if_neg (fun z => y z.2)] at hK
    exact hK _ rfl h oC.rf c
  · rw [if_neg (fun z => e z.1)] at hK
    exact hK _ rfl h oC.rf c
end
