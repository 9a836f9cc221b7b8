/-! ===== the class's calls: texts, ratios ===== -/
theorem c_ofI (X : jv_X) (d n : Nat) (K : Int64 → jv_H → Prop) (h : jv_H) (a b : Int32) (hK : K (fz_p (fz_of a.toInt b.toInt)) h) : jL X (d + 2) y_Fractions_of [.long a.toInt64, .long b.toInt64] n h K := by
  have h1 := nz_i32 a
  have h2 := nz_i32 b
  exact c_of X d n K h _ _ (by rw [Int32.toInt_toInt64]; omega) (by rw [Int32.toInt_toInt64]; omega) (by rw [Int32.toInt_toInt64, Int32.toInt_toInt64]; exact hK)
theorem CS.updTp {h h' : jv_H} {Z : zZ} {t : Nat × (Nat → Int32)} (c : CS h Z) (a : oS (fun q => q = 1 ∨ q = 2) h h') (t1 : (h'.1 1 1).toInt = t.1) (t2 : t.1 ≤ 100) (t3 : ∀ i, i < t.1 → h'.1 2 i = t.2 i) : CS h' (t, Z.2) := by
  obtain ⟨c0, _, c2, c3, c4, c5⟩ := c
  refine ⟨c0.mv a, ⟨t1, t2, t3⟩, c2.mv a.R (fun q u => by have := us_b c2.mr c2.ml u; omega), by rw [(a.2 0 (by omega)).1]; exact c3, fun K' hK' => ?_, fun k hk => (c5 k hk).mv a.R (by omega) (by omega)⟩
  have c6 := c4 K' hK'
  exact c6.mv a.R (fun q u => by have := us_b c6.mr c6.ml u; omega)
theorem oS.m {S : Nat → Prop} {h h' : jv_H} {q i : Nat} {a : Option Nat} (o : oS S h h') (e : h.2.2 q i = a) : h'.2.2 q i = a := by rw [o.1]; exact e
theorem oR.m {S : Nat → Prop} {h h' : jv_H} {q i : Nat} {a : Option Nat} (o : oR S h h') (hq : q ≠ 3) (e : h.2.2 q i = a) : h'.2.2 q i = a := by rw [o.1 q hq]; exact e
theorem dv1_ne {fh : Int32} {A B : Nat → Int × Int} {u : Int32} {L : zL} {e : Int} (h : dv1 fh A B u L = .inl e) : e ≠ 0 := by
  unfold dv1 at h
  generalize (if fh = 0 then -(rch fh A - rch fh B) else rch fh A - rch fh B) = r at h
  split at h
  · injection h with h; omega
  · split at h
    · injection h with h; omega
    · split at h
      · injection h with h; omega
      · split at h
        · injection h with h; omega
        · by_cases y : noW (pz_add A B (fz_neg (fz_quo (ldr fh A) (ldr fh B))) r)
          · rw [cif_t y] at h
            split at h
            · cases h
            · cases h
          · rw [cif_f y] at h
            injection h with h; omega
theorem dvk_ne {r : Sum Int (Option (Nat → Int × Int) × zL)} {k : (Nat → Int × Int) → zL → Sum Int zL} {e : Int} (h : dvk r k = .inl e) (h1 : ∀ e, r = .inl e → e ≠ 0) (h2 : ∀ A M e, k A M = .inl e → e ≠ 0) : e ≠ 0 := by
  unfold dvk at h
  split at h
  · injection h with h
    rw [← h]
    exact h1 _ rfl
  · cases h
  · exact h2 _ _ _ h
theorem dv_ne (fh : Int32) : ∀ (m : Nat) (A B : Nat → Int × Int) (u : Int32) (L : zL) (e : Int), dv fh m A B u L = .inl e → e ≠ 0
  | 0, A, B, u, L, e, h => by
    unfold dv at h
    injection h with h; omega
  | m + 1, A, B, u, L, e, h => by
    unfold dv at h
    split at h
    · exact dvk_ne h (fun _ z => dv1_ne z) (fun A' M e' z => dv_ne fh m _ _ _ _ e' z)
    · exact dvk_ne h (fun _ z => dv1_ne z) (fun A' M e' z => dv_ne fh m _ _ _ _ e' z)
theorem nz_of {x : Int32} {k : Nat} (h : x.toInt = k) : x = Int32.ofNat k := by
  have := nz_i32 x
  apply Int32.toInt_inj.mp
  rw [h, Int32.toInt_ofNat_of_lt (by omega)]
theorem oC.tr {a b c : jv_H} (h1 : oC a b) (h2 : oC b c) : oC a c := fun q hq => ⟨(h2 q hq).1.trans (h1 q hq).1, (h2 q hq).2.1.trans (h1 q hq).2.1, (h2 q hq).2.2.trans (h1 q hq).2.2⟩
section
variable (X : jv_X) (h : jv_H) (Z : zZ) (K : Int32 → jv_H → Prop) (KJ : Int64 → jv_H → Prop)
theorem feed_l (Q : jv_Q) (v : Int32) (R : zK × Option zK × (Nat → zH)) : ∀ (k : Nat) (x3 : Int32) (h : jv_H) (t : Nat × (Nat → Int32)), x3.toInt = (k : Int) - 1 → k ≤ 4 → t.1 + k ≤ 100 → CS h (t, R) → (∀ z : Int32, z.toInt = (fed v k t).1 → ∀ h', oC h h' → CS h' (fed v k t, R) → Q (some (.int z)) h') → a_Maker_feed_33 X 7 227 Q 0 v x3 h 0
  | 0, x3, h, t, h3, hk, hl, c, hQ => by
    refine r_Maker_feed_33 X 7 227 Q 0 v x3 h ⟨fun _ => ⟨is0, _, c.m0, c.to.1, hQ _ c.tp.1 h oC.rf c⟩, fun z => absurd (nz_lt.mpr (by rw [h3]; show _ < (0 : Int); omega)) z⟩
  | k + 1, x3, h, t, h3, hk, hl, c, hQ => by
    have hx : x3.toInt = k := by omega
    have ht : (jv_gI h 1 1).toInt = t.1 := c.tp.1
    refine r_Maker_feed_33 X 7 227 Q 0 v x3 h ⟨fun z => ?_, fun _ => ⟨is0, _, c.m0, c.to.1, ?_⟩⟩
    · have : x3.toInt < (0 : Int) := nz_lt.mp z
      omega
    · refine r_Tape_append X 6 227 _ 1 _ h ⟨c.to.1, fun z => ?_, fun _ => ⟨c.to.1, _, c.to.2.1, c.to.1, jx (len := 100) rfl (by decide) (by rw [ht]; omega) (by rw [ht]; omega), c.to.1, c.to.1, ?_⟩⟩
      · have : (100 : Int) ≤ (jv_gI h 1 1).toInt := nz_le.mp z
        omega
      · have a : oS (fun q => q = 1 ∨ q = 2) h (jv_uI (jv_uI h 2 t.1 (fbc v x3)) 1 1 (jv_gI (jv_uI h 2 t.1 (fbc v x3)) 1 1 + 1)) := (oS_uI (S := fun q => q = 1 ∨ q = 2) (Or.inr rfl)).tr (oS_uI (Or.inl rfl))
        rw [nz_nat ht]
        have e1 : jv_gI (jv_uI h 2 t.1 (fbc v x3)) 1 1 = jv_gI h 1 1 := uI_ne (by omega)
        have c' := c.updTp (t := (t.1 + 1, fun i => if i = t.1 then fbc v (Int32.ofNat k) else t.2 i)) a (by rw [uI_eq, e1]; exact nz_inc ht (by omega)) (by show t.1 + 1 ≤ 100; omega) (fun i hi => by
          have hi : i < t.1 + 1 := hi
          rw [uI_ne (by omega), uI_at, nz_of hx]
          show _ = if i = t.1 then fbc v (Int32.ofNat k) else t.2 i
          by_cases e : i = t.1
          · rw [if_pos ⟨rfl, e⟩, if_pos e]
          · rw [if_neg (fun z => e z.2), if_neg e]
            exact c.tp.2.2 i (by show i < t.1; omega))
        exact feed_l Q v R k _ _ _ (by rw [nz_dec hx (by omega)]) (by omega) (by show t.1 + 1 + k ≤ 100; omega) c' (fun z hz h' o' c'' => hQ z hz h' ((a.R.C (fun q hq => by omega)).tr o') c'')
theorem k_feed (v n : Int32) (c : CS h Z) (hK : cI h (q_feed v n Z) K) : jI X 8 y_Maker_feed [.ref 0, .int v, .int n] 227 h K := by
  unfold q_feed at hK
  have ht : (jv_gI h 1 1).toInt = Z.tn := c.tp.1
  have h1 : (1 : Int32).toInt = 1 := rfl
  have h4 : (4 : Int32).toInt = 4 := rfl
  have h100 : (100 : Int32).toInt = 100 := rfl
  have htl := c.tp.2.1
  refine r_Maker_feed X 7 227 _ 0 v n h ⟨fun a => ?_, fun a => ⟨fun b => ⟨is0, _, c.m0, c.to.1, ?_⟩, fun b => ?_⟩⟩
  · have := nz_lt.mp a
    rw [if_neg (by omega)] at hK
    exact hK _ rfl h oC.rf c
  · have a : ¬ n.toInt < 1 := fun z => a (nz_lt.mpr z)
    have b : n.toInt ≤ 4 := nz_le.mp b
    rw [if_pos ⟨by omega, b⟩] at hK
    have e : (jv_gI h 1 1 + n).toInt = Z.tn + n.toInt := by rw [nz_addi (by rw [ht]; omega) (by rw [ht]; omega), ht]
    refine ⟨fun z => ?_, fun z => ?_⟩
    · have z := nz_le.mp z
      rw [e, h100] at z
      rw [if_neg (by omega)] at hK
      have hn : n.toInt = (n.toNatClampNeg : Int) := by
        rw [nz_nat (k := n.toInt.toNat) (by omega)]
        omega
      refine feed_l X _ v Z.2 n.toNatClampNeg _ h Z.1 ?_ (by omega) (by show Z.tn + n.toNatClampNeg ≤ 100; omega) c (fun z' hz' h' o' c' => hK z' hz' h' o' c')
      rw [nz_subi (by rw [h1]; omega) (by rw [h1]; omega), h1]
      omega
    · have z : ¬ (jv_gI h 1 1 + n).toInt ≤ 100 := fun y => z (nz_le.mpr y)
      rw [if_pos (by omega)] at hK
      exact hK _ rfl h oC.rf c
  · have b : ¬ n.toInt ≤ 4 := fun z => b (nz_le.mpr z)
    rw [if_neg (by omega)] at hK
    exact hK _ rfl h oC.rf c
theorem k_wipe (c : CS h Z) (hK : cI h (q_wipe Z) K) : jI X 8 y_Maker_wipe [.ref 0] 227 h K := by
  have a : oS (fun q => q = 1 ∨ q = 2) h (jv_uI h 1 1 0) := oS_uI (Or.inl rfl)
  refine r_Maker_wipe X 7 227 _ 0 h ⟨is0, _, c.m0, c.to.1, r_Tape_empty X 6 227 _ 1 h ⟨c.to.1, c.to.1, ?_⟩⟩
  exact hK _ c.tp.1 _ (a.R.C (fun q hq => by omega)) (c.updTp (t := (0, Z.T)) a (by rw [uI_eq]; rfl) (Nat.zero_le _) (fun i hi => absurd hi (Nat.not_lt_zero _)))
theorem nz_m1000 {x : Int32} {e : Nat} (h : x.toInt = e) (he : e ≤ 1000) : ((-1000 : Int32) - x).toInt = -1000 - (e : Int) := by
  have h1 : (-1000 : Int32).toInt = -1000 := rfl
  rw [nz_subi (by rw [h, h1]; omega) (by rw [h, h1]; omega), h, h1]
theorem k_ratio (c : CS h Z) (hK : cI h (q_ratio Z) K) : jI X 8 y_Maker_ratio [.ref 0] 227 h K := by
  unfold q_ratio at hK
  refine r_Maker_ratio X 7 227 _ 0 h ⟨is0, _, c.m2, c.s8.is, c_freeRatio X 6 h 8 Z.k _ _ c.s8 c.k (fun hn => ⟨is0, _, c.m0, c.to.1, ?_⟩) (fun hn => ?_)⟩
  · rw [if_neg (by omega)] at hK
    have ro := c.s8.ro hn
    refine c_readRatio X 1 227 _ h Z.T Z.tn _ _ _ _ _ (by omega) (by omega) c.to c.tp.1 c.tp.2.1 c.tp.2.2 ro (fun q hq h1 o1 tp p1 p2 => ⟨is0, _, (o1.m c.m0), c.to.1, r_Tape_empty X 6 227 _ 1 h1 ⟨c.to.1, c.to.1, fun _ => ⟨ro.1, ?_⟩, fun z => absurd z (by decide)⟩⟩) (fun e he h1 o1 tp => ⟨is0, _, (o1.m c.m0), c.to.1, r_Tape_empty X 6 227 _ 1 h1 ⟨c.to.1, c.to.1, fun z => absurd rfl z, fun _ => ⟨is0, _, (o1.m c.m0), c.to.1, ?_⟩⟩⟩)
    · rw [hq] at hK
      dsimp only at hK
      have o2 : oS (fun q => q = 1 ∨ q = 8 + 11 + 5 * Z.k.nr ∨ q = 8 + 13 + 5 * Z.k.nr) h (jv_uI h1 1 1 0) := o1.tr (oS_uI (Or.inl rfl))
      have hT : (( jv_uI h1 1 1 0).1 1 1).toInt = 0 := by rw [uI_eq]; rfl
      have ck : CK (jv_uI h1 1 1 0) 8 Z.k := c.k.mv o2.R (fun q u z => by
        rcases z with z | z
        · have := us_b c.k.mr c.k.ml u; omega
        · exact us_R hn u z)
      have hS : ∀ q, (q = 1 ∨ q = 8 + 11 + 5 * Z.k.nr ∨ q = 8 + 13 + 5 * Z.k.nr) → q = 1 ∨ (8 ≤ q ∧ q < 83) := fun q z => by omega
      refine c_hasZeroPoly X 4 227 _ (jv_uI h1 1 1 0) _ _ _ _ _ _ _ (ro.mv o2) (uI_pc p1.1) (uI_pc p2.1) ⟨fun z => ⟨is0, _, (o1.m c.m2), c.s8.is, ?_⟩, fun z => ?_⟩
      · rw [nz_bt] at z
        rw [if_neg z] at hK
        refine c_addRatio X 6 (jv_uI h1 1 1 0) 8 Z.k _ (fun i => (q.1 i, 1), fun i => (q.2 i, 1)) (c.s8.mv o2) ck hn (uI_pc p1.1) (uI_pc p2.1) (fun z' hz' h' o' ck' => ?_)
        have o3 : oS (fun q => q = 1 ∨ 8 ≤ q ∧ q < 83) h h' := (o2.mono hS).tr (o'.mono (fun q z => Or.inr (by omega)))
        refine hK z' hz' h' (o3.R.C (fun q hq => by omega)) (c.updT o3 (fun q z => z) ?_ ck')
        rw [(o'.2 1 (by decide)).1]
        exact hT
      · rw [nz_bt, Classical.not_not] at z
        rw [if_pos z] at hK
        exact hK _ rfl _ (o2.R.C (fun q hq => by omega)) (c.updT o2 hS hT ck)
    · rw [he] at hK
      dsimp only at hK
      have o2 : oS (fun q => q = 1 ∨ q = 8 + 11 + 5 * Z.k.nr ∨ q = 8 + 13 + 5 * Z.k.nr) h (jv_uI h1 1 1 0) := o1.tr (oS_uI (Or.inl rfl))
      have ck : CK (jv_uI h1 1 1 0) 8 Z.k := c.k.mv o2.R (fun q u z => by
        rcases z with z | z
        · have := us_b c.k.mr c.k.ml u; omega
        · exact us_R hn u z)
      have hp : (jv_gI (jv_uI h1 1 1 0) 1 2).toInt = e := (congrArg Int32.toInt (show (jv_uI h1 1 1 0).1 1 2 = h1.1 1 2 from uI_ne (by omega))).trans tp.2.1
      exact hK _ (nz_m1000 hp (by have := tp.2.2.1; have := tp.2.2.2.1; omega)) _ (o2.R.C (fun q hq => by omega)) (c.updT (K := Z.k) o2 (fun q z => by omega) (by rw [uI_eq]; rfl) ck)
  · rw [if_pos hn] at hK
    exact hK _ rfl h oC.rf c
theorem k_ladder (c : CS h Z) (hK : cI h (q_ladder Z) K) : jI X 8 y_Maker_ladder [.ref 0] 227 h K := by
  unfold q_ladder at hK
  refine r_Maker_ladder X 7 227 _ 0 h ⟨is0, _, c.m2, c.s8.is, c_freeLadder X 6 h 8 Z.k _ _ c.s8 c.k (fun hn => ⟨is0, _, c.m0, c.to.1, ?_⟩) (fun hn => ?_)⟩
  · rw [if_neg (by omega)] at hK
    have lo := c.s8.lo hn
    have hno : ∀ q, us 8 Z.k q → ¬ lo1 (8 + 39 + 4 * Z.k.nl) q := fun q u z => by
      rcases z with z | z
      · have := us_b c.k.mr c.k.ml u; omega
      · exact us_L c.k.mr hn u z
    have hS : ∀ q, lo1 (8 + 39 + 4 * Z.k.nl) q → q = 1 ∨ (8 ≤ q ∧ q < 83) := fun q z => by
      rcases z with z | z
      · exact Or.inl z
      · exact Or.inr (by have := z.1; have := z.2; omega)
    have hS2 : ∀ q, lo1 (8 + 39 + 4 * Z.k.nl) q → q < 171 := fun q z => by have := hS q z; omega
    refine c_readLadder X 1 227 _ h Z.T Z.tn _ (by omega) c.to c.tp.1 c.tp.2.1 c.tp.2.2 lo (fun M hM h1 o1 tp cl => ⟨is0, _, (o1.m c.m0), c.to.1, r_Tape_empty X 6 227 _ 1 h1 ⟨c.to.1, c.to.1, fun z => absurd z (by decide), fun _ => ⟨is0, _, (o1.m c.m2), c.s8.is, ?_⟩⟩⟩) (fun e he h1 o1 tp => ⟨is0, _, (o1.m c.m0), c.to.1, r_Tape_empty X 6 227 _ 1 h1 ⟨c.to.1, c.to.1, fun _ => ⟨is0, _, (o1.m c.m0), c.to.1, ?_⟩, fun z => absurd rfl z⟩⟩)
    · rw [hM] at hK
      dsimp only at hK
      have o2 : oS (lo1 (8 + 39 + 4 * Z.k.nl)) h (jv_uI h1 1 1 0) := o1.tr (oS_uI (Or.inl rfl))
      refine c_addLadder X 6 (jv_uI h1 1 1 0) 8 Z.k _ M (c.s8.mv o2) (c.k.mv o2.R hno) hn (cl.uI (by omega)) (fun z' hz' h' o' ck' => ?_)
      have o3 : oS (fun q => q = 1 ∨ 8 ≤ q ∧ q < 83) h h' := (o2.mono hS).tr (o'.mono (fun q z => Or.inr (by omega)))
      refine hK z' hz' h' (o3.R.C (fun q hq => by omega)) (c.updT o3 (fun q z => z) ?_ ck')
      rw [(o'.2 1 (by decide)).1, uI_eq]
      rfl
    · rw [he] at hK
      dsimp only at hK
      have o2 : oS (lo1 (8 + 39 + 4 * Z.k.nl)) h (jv_uI h1 1 1 0) := o1.tr (oS_uI (Or.inl rfl))
      have hp : (jv_gI (jv_uI h1 1 1 0) 1 2).toInt = e := (congrArg Int32.toInt (show (jv_uI h1 1 1 0).1 1 2 = h1.1 1 2 from uI_ne (by omega))).trans tp.2.1
      exact hK _ (nz_m1000 hp (by have := tp.2.2.1; have := tp.2.2.2.1; omega)) _ (o2.R.C hS2) (c.updT (K := Z.k) o2 hS (by rw [uI_eq]; rfl) (c.k.mv o2.R hno))
  · rw [if_pos hn] at hK
    exact hK _ rfl h oC.rf c
theorem k_degree (x w : Int32) (c : CS h Z) (hK : cI h (q_degree x w Z) K) : jI X 8 y_Maker_degree [.ref 0, .int x, .int w] 227 h K := by
  unfold q_degree at hK
  refine r_Maker_degree X 7 227 _ 0 x w h ⟨is0, _, c.m2, c.s8.is, c_findRatio X 5 h 8 Z.k _ _ x c.s8 c.k (fun k hx hk => ?_) (fun e => ?_)⟩
  · have hR : Z.R x = Z.k.R k := congrArg Z.k.R (nz_nat hx)
    have hm := c.k.mr
    have ro := c.s8.ro (k := k) (by omega)
    rw [hR] at hK
    refine ⟨fun a => ⟨ro.1, _, ro.2.1, ro.p.1, c_highest X 6 227 _ h _ _ _ ro.p (c.k.pa hk) (fun z hz => ?_)⟩, fun a => ⟨fun b => ⟨ro.1, _, ro.2.1, ro.p.1, c_lowest X 6 227 _ h _ _ _ ro.p (c.k.pa hk) (fun z hz => ?_)⟩, fun b => ⟨fun e => ⟨ro.1, _, ro.2.2.1, ro.q.1, c_highest X 6 227 _ h _ _ _ ro.q (c.k.pb hk) (fun z hz => ?_)⟩, fun e => ⟨fun f => ⟨ro.1, _, ro.2.2.1, ro.q.1, c_lowest X 6 227 _ h _ _ _ ro.q (c.k.pb hk) (fun z hz => ?_)⟩, fun f => ?_⟩⟩⟩⟩
    · rw [if_pos (by omega), if_pos a] at hK
      exact hK z hz h oC.rf c
    · rw [if_pos (by omega), if_neg a, if_pos b] at hK
      exact hK z hz h oC.rf c
    · rw [if_pos (by omega), if_neg a, if_neg b, if_pos e] at hK
      exact hK z hz h oC.rf c
    · rw [if_pos (by omega), if_neg a, if_neg b, if_neg e] at hK
      exact hK z hz h oC.rf c
    · rw [if_neg (by omega)] at hK
      exact hK _ rfl h oC.rf c
  · rw [if_neg (fun z => e z.1)] at hK
    exact hK _ rfl h oC.rf c
theorem k_coefficient (x s p a : Int32) (c : CS h Z) (hK : cJ h (q_coef x s p a Z) KJ) : jL X 8 y_Maker_coefficient [.ref 0, .int x, .int s, .int p, .int a] 227 h KJ := by
  unfold q_coef at hK
  refine r_Maker_coefficient X 7 227 _ 0 x s p a h ⟨is0, _, c.m2, c.s8.is, c_findRatio X 5 h 8 Z.k _ _ x c.s8 c.k (fun k hx hk => ?_) (fun e => ?_)⟩
  · have hR : Z.R x = Z.k.R k := congrArg Z.k.R (nz_nat hx)
    have hm := c.k.mr
    have ro := c.s8.ro (k := k) (by omega)
    rw [hR] at hK
    refine c_isWithin X 6 227 _ h _ _ _ ⟨fun y => ?_, fun y => c_isWithin X 6 227 _ h _ _ _ ⟨fun y2 => ?_, fun y2 => ?_⟩⟩
    · rw [nz_bt] at y
      rw [if_neg (fun z => y z.2.1)] at hK
      exact hK _ rfl h oC.rf c
    · rw [nz_bt, Classical.not_not] at y y2
      rw [if_pos ⟨⟨by omega, by omega⟩, y, y2⟩] at hK
      refine ⟨fun e => ⟨ro.1, _, ro.2.2.1, ro.q.1, c_at X 5 227 _ h _ _ _ p ro.q (c.k.pb hk) (c_tell X 5 227 _ h _ (pz_at_r (c.k.pb hk) _) a (fun z hz => ?_))⟩, fun e => ⟨ro.1, _, ro.2.1, ro.p.1, c_at X 5 227 _ h _ _ _ p ro.p (c.k.pa hk) (c_tell X 5 227 _ h _ (pz_at_r (c.k.pa hk) _) a (fun z hz => ?_))⟩⟩
      · rw [if_neg e] at hK
        exact hK z hz h oC.rf c
      · rw [if_pos e] at hK
        exact hK z hz h oC.rf c
    · rw [nz_bt] at y2
      rw [if_neg (fun z => y2 z.2.2)] at hK
      exact hK _ rfl h oC.rf c
  · rw [if_neg (fun z => e z.1)] at hK
    exact hK _ rfl h oC.rf c
theorem k_same (x y : Int32) (c : CS h Z) (hK : cI h (q_same x y Z) K) : jI X 8 y_Maker_same [.ref 0, .int x, .int y] 227 h K := by
  unfold q_same at hK
  have hm := c.k.mr
  refine r_Maker_same X 7 227 _ 0 x y h ⟨is0, _, c.m2, c.s8.is, c_findRatio X 5 h 8 Z.k _ _ x c.s8 c.k (fun k hx hk => ⟨is0, _, c.m2, c.s8.is, c_findRatio X 5 h 8 Z.k _ _ y c.s8 c.k (fun j hy hj => ?_) (fun e => ?_)⟩) (fun e => ⟨is0, _, c.m2, c.s8.is, c_findRatio X 5 h 8 Z.k _ _ y c.s8 c.k (fun j hy hj => ?_) (fun e2 => ?_)⟩)⟩
  · have hR : Z.R x = Z.k.R k := congrArg Z.k.R (nz_nat hx)
    have hR2 : Z.R y = Z.k.R j := congrArg Z.k.R (nz_nat hy)
    rw [if_pos ⟨⟨by omega, by omega⟩, by omega, by omega⟩, hR, hR2] at hK
    refine ⟨(c.s8.ro (k := k) (by omega)).1, c_tellWhetherSame X 2 227 _ h _ _ _ _ _ _ _ _ _ _ _ _ _ _ (c.s8.ro (k := k) (by omega)) (c.s8.ro (k := j) (by omega)) (c.k.pa hk) (c.k.pb hk) (c.k.pa hj) (c.k.pb hj) (fun z hz => hK z hz h oC.rf c)⟩
  · rw [if_neg (fun z => e z.2)] at hK
    exact hK _ rfl h oC.rf c
  · rw [if_neg (fun z => e z.1)] at hK
    exact hK _ rfl h oC.rf c
  · rw [if_neg (fun z => e z.1)] at hK
    exact hK _ rfl h oC.rf c
theorem k_divide (x f : Int32) (c : CS h Z) (hK : cI h (q_divide x f Z) K) : jI X 8 y_Maker_divide [.ref 0, .int x, .int f] 227 h K := by
  unfold q_divide at hK
  have hm := c.k.mr
  refine r_Maker_divide X 7 227 _ 0 x f h ⟨is0, _, c.m2, c.s8.is, c_findRatio X 5 h 8 Z.k _ _ x c.s8 c.k (fun k hx hk => c_isWithin X 6 227 _ h _ _ _ ⟨fun y => ⟨is0, _, c.m2, c.s8.is, c_freeLadder X 6 h 8 Z.k _ _ c.s8 c.k (fun hn => ⟨is0, _, c.m1, ?_⟩) (fun hn => ?_)⟩, fun y => ?_⟩) (fun e => ?_)⟩
  · rw [nz_bt, Classical.not_not] at y
    have hR : Z.R x = Z.k.R k := congrArg Z.k.R (nz_nat hx)
    rw [if_pos ⟨⟨by omega, by omega⟩, y⟩, if_neg (by omega), hR] at hK
    obtain ⟨pa, pb, v⟩ := c.dv
    have hS : ∀ q, dw (8 + 39 + 4 * Z.k.nl) q → q = 3 ∨ q = 5 ∨ q = 7 ∨ (8 ≤ q ∧ q < 83) := fun q z => by
      rcases z with z | z | z | z
      · exact Or.inl z
      · exact Or.inr (Or.inl z)
      · exact Or.inr (Or.inr (Or.inl z))
      · exact Or.inr (Or.inr (Or.inr (by have := z.1; have := z.2; omega)))
    have hno : ∀ q, us 8 Z.k q → ¬ dw (8 + 39 + 4 * Z.k.nl) q := fun q u z => by
      have hb := us_b c.k.mr c.k.ml u
      rcases z with z | z | z | z
      · omega
      · omega
      · omega
      · exact us_L c.k.mr hn u z
    refine ⟨v.1, c_work X 1 227 _ h _ pa pb _ _ _ _ _ f _ _ v (c.s8.ro (k := k) (by omega)) (c.k.pa hk) (c.k.pb hk) (c.s8.lo hn) (by omega) (by omega) (by omega) (fun e he h1 o1 v1 z hz => ⟨fun _ => ?_, fun z0 => ?_⟩) (fun M hM h1 o1 v1 cl => ⟨fun z => absurd rfl z, fun _ => ⟨is0, _, (o1.m (by decide) c.m2), c.s8.is, ?_⟩⟩)⟩
    · rw [he] at hK
      exact hK z hz h1 (o1.C (fun q z => by have := hS q z; omega)) (c.updR (c.1.mvR o1 v1) o1 hS (c.k.mv o1 hno))
    · rw [z0] at hz
      exact absurd hz.symm (dv_ne _ _ _ _ _ _ _ he)
    · rw [hM] at hK
      dsimp only at hK
      have s1 := c.s8.mvr o1.1
      refine c_addLadder X 6 h1 8 Z.k _ M s1 (c.k.mv o1 hno) hn cl (fun z' hz' h' o' ck' => ?_)
      have o3 : oR (fun q => q = 3 ∨ q = 5 ∨ q = 7 ∨ (8 ≤ q ∧ q < 83)) h h' := (o1.mono hS).tr (o'.R.mono (fun q z => by omega))
      exact hK z' hz' h' (o3.C (fun q hq => by omega)) (c.updR ((c.1.mvR o1 v1).mv o') o3 (fun q z => z) ck')
  · rw [nz_bt, Classical.not_not] at y
    rw [if_pos ⟨⟨by omega, by omega⟩, y⟩, if_pos hn] at hK
    exact hK _ rfl h oC.rf c
  · rw [nz_bt] at y
    rw [if_neg (fun z => y z.2)] at hK
    exact hK _ rfl h oC.rf c
  · rw [if_neg (fun z => e z.1)] at hK
    exact hK _ rfl h oC.rf c
theorem k_invert (x : Int32) (c : CS h Z) (hK : cI h (q_invert x Z) K) : jI X 8 y_Maker_invert [.ref 0, .int x] 227 h K := by
  unfold q_invert at hK
  have hm := c.k.mr
  refine r_Maker_invert X 7 227 _ 0 x h ⟨is0, _, c.m2, c.s8.is, c_findRatio X 5 h 8 Z.k _ _ x c.s8 c.k (fun k hx hk => ⟨is0, _, c.m2, c.s8.is, c_freeRatio X 6 h 8 Z.k _ _ c.s8 c.k (fun hn => ?_) (fun hn => ?_)⟩) (fun e => ?_)⟩
  · have hR : Z.R x = Z.k.R k := congrArg Z.k.R (nz_nat hx)
    rw [if_pos ⟨by omega, by omega⟩, if_neg (by omega), hR] at hK
    have rn := c.s8.ro hn
    have ro := c.s8.ro (k := k) (by omega)
    refine ⟨rn.1, _, rn.2.1, ro.1, _, ro.2.2.1, rn.p.1, c_become X 6 227 _ h _ _ _ _ _ rn.p ro.q (by omega) (c.k.pb hk) (fun h1 o1 f1 => ?_)⟩
    have rn1 := rn.mv o1
    have ro1 := ro.mv o1
    refine ⟨rn1.1, _, rn1.2.2.1, ro1.1, _, ro1.2.1, rn1.q.1, c_become X 6 227 _ h1 _ _ _ _ _ rn1.q ro1.p (by omega) ((c.k.pa hk).mv o1 (by omega)) (fun h2 o2 g2 => ⟨is0, _, (o2.m (o1.m c.m2)), c.s8.is, ?_⟩)⟩
    have o12 : oS (rw2 (8 + 11 + 5 * Z.k.nr) (8 + 13 + 5 * Z.k.nr)) h h2 := (o1.mono (fun q z => Or.inl z)).tr (o2.mono (fun q z => Or.inr z))
    refine c_addRatio X 6 h2 8 Z.k _ ((Z.k.R k).2, (Z.k.R k).1) (c.s8.mv o12) (c.k.mvR hn o12) hn (f1.mv o2 (by omega)) g2 (fun z' hz' h' o' ck' => ?_)
    have o3 : oS (fun q => 8 ≤ q ∧ q < 83) h h' := (o12.mono (fun q z => by rcases z with z | z <;> omega)).tr (o'.mono (fun q z => by omega))
    exact hK z' hz' h' (o3.R.C (fun q hq => by omega)) (c.upd o3 (fun q z => z) ck')
  · rw [if_pos ⟨by omega, by omega⟩, if_pos hn] at hK
    exact hK _ rfl h oC.rf c
  · rw [if_neg e] at hK
    exact hK _ rfl h oC.rf c
theorem rw2_b {k : Nat} (hk : k < 6) : ∀ q, rw2 (8 + 11 + 5 * k) (8 + 13 + 5 * k) q → 8 ≤ q ∧ q < 83 := fun q z => by rcases z with z | z <;> omega
theorem k_stretch (x a b u v : Int32) (c : CS h Z) (hK : cI h (q_stretch x a b u v Z) K) : jI X 8 y_Maker_stretch [.ref 0, .int x, .int a, .int b, .int u, .int v] 227 h K := by
  unfold q_stretch at hK
  have hm := c.k.mr
  refine r_Maker_stretch X 7 227 _ 0 x a b u v h ⟨is0, _, c.m2, c.s8.is, c_findRatio X 5 h 8 Z.k _ _ x c.s8 c.k (fun k hx hk => c_isTold X 5 227 _ h _ _ ⟨fun y => ?_, fun y => c_isTold X 5 227 _ h _ _ ⟨fun y2 => ⟨is0, _, c.m2, c.s8.is, c_freeRatio X 6 h 8 Z.k _ _ c.s8 c.k (fun hn => c_ofI X 5 227 _ h a b (c_ofI X 5 227 _ h u v ?_)) (fun hn => ?_)⟩, fun y2 => ?_⟩⟩) (fun e => ?_)⟩
  · rw [nz_bt] at y
    rw [if_neg (fun z => y z.2.1)] at hK
    exact hK _ rfl h oC.rf c
  · rw [nz_bt, Classical.not_not] at y y2
    have hR : Z.R x = Z.k.R k := congrArg Z.k.R (nz_nat hx)
    rw [if_pos ⟨⟨by omega, by omega⟩, y, y2⟩, if_neg (by omega), hR] at hK
    refine ⟨(c.s8.ro hn).1, c_Ratio_becomeScaled X 2 227 _ h _ _ _ _ _ _ _ _ _ _ _ _ _ _ (fz_of_r _ _) (fz_of_r _ _) (c.s8.ro hn) (c.s8.ro (k := k) (by omega)) (by omega) (by omega) (by omega) (c.k.pa hk) (c.k.pb hk) (fun n1 n2 n3 h1 o1 f1 g1 => ⟨fun z => absurd z (by decide), fun _ => ⟨is0, _, (o1.m c.m2), c.s8.is, ?_⟩⟩) (fun nn h1 o1 => ⟨fun _ => ?_, fun z => absurd rfl z⟩)⟩
    · rw [cif_t ⟨n1, n2, n3⟩] at hK
      refine c_addRatio X 6 h1 8 Z.k _ (pz_grow (pz_pow (Z.k.R k).1 (fz_of a.toInt b.toInt)) (fz_of u.toInt v.toInt) 0, pz_pow (Z.k.R k).2 (fz_of a.toInt b.toInt)) (c.s8.mv o1) (c.k.mvR hn o1) hn f1 g1 (fun z' hz' h' o' ck' => ?_)
      have o3 : oS (fun q => 8 ≤ q ∧ q < 83) h h' := (o1.mono (rw2_b hn)).tr (o'.mono (fun q z => by omega))
      exact hK z' hz' h' (o3.R.C (fun q hq => by omega)) (c.upd o3 (fun q z => z) ck')
    · rw [cif_f nn] at hK
      exact hK _ rfl h1 (o1.R.C (fun q z => by have := rw2_b hn q z; omega)) (c.upd o1 (rw2_b hn) (c.k.mvR hn o1))
  · rw [nz_bt, Classical.not_not] at y y2
    rw [if_pos ⟨⟨by omega, by omega⟩, y, y2⟩, if_pos hn] at hK
    exact hK _ rfl h oC.rf c
  · rw [nz_bt] at y2
    rw [if_neg (fun z => y2 z.2.2)] at hK
    exact hK _ rfl h oC.rf c
  · rw [if_neg (fun z => e z.1)] at hK
    exact hK _ rfl h oC.rf c
theorem k_shift (x a b : Int32) (c : CS h Z) (hK : cI h (q_shift x a b Z) K) : jI X 8 y_Maker_shift [.ref 0, .int x, .int a, .int b] 227 h K := by
  unfold q_shift at hK
  have hm := c.k.mr
  refine r_Maker_shift X 7 227 _ 0 x a b h ⟨is0, _, c.m2, c.s8.is, c_findRatio X 5 h 8 Z.k _ _ x c.s8 c.k (fun k hx hk => c_isTold X 5 227 _ h _ _ ⟨fun y => ⟨is0, _, c.m2, c.s8.is, c_freeRatio X 6 h 8 Z.k _ _ c.s8 c.k (fun hn => c_ofI X 5 227 _ h a b ?_) (fun hn => ?_)⟩, fun y => ?_⟩) (fun e => ?_)⟩
  · rw [nz_bt, Classical.not_not] at y
    have hR : Z.R x = Z.k.R k := congrArg Z.k.R (nz_nat hx)
    rw [if_pos ⟨⟨by omega, by omega⟩, y⟩, if_neg (by omega), hR] at hK
    refine ⟨(c.s8.ro hn).1, c_Ratio_becomeShifted X 2 227 _ h _ _ _ _ _ _ _ _ _ _ _ _ _ (fz_of_r _ _) (c.s8.ro hn) (c.s8.ro (k := k) (by omega)) (by omega) (by omega) (by omega) (c.k.pa hk) (c.k.pb hk) (fun f' g' n1 n2 h1 o1 f1 g1 => ⟨fun z => absurd z (by decide), fun _ => ⟨is0, _, (o1.m c.m2), c.s8.is, ?_⟩⟩) (fun nn h1 o1 => ⟨fun _ => ?_, fun z => absurd rfl z⟩)⟩
    · rw [n1, n2] at hK
      dsimp only at hK
      refine c_addRatio X 6 h1 8 Z.k _ (f', g') (c.s8.mv o1) (c.k.mvR hn o1) hn f1 g1 (fun z' hz' h' o' ck' => ?_)
      have o3 : oS (fun q => 8 ≤ q ∧ q < 83) h h' := (o1.mono (rw2_b hn)).tr (o'.mono (fun q z => by omega))
      exact hK z' hz' h' (o3.R.C (fun q hq => by omega)) (c.upd o3 (fun q z => z) ck')
    · have hK2 : cI h (-6, Z) K := by
        rcases nn with n1 | n1
        · rw [n1] at hK
          exact hK
        · rw [n1] at hK
          cases hf : pz_mv (Z.k.R k).1 (fz_of a.toInt b.toInt) with
          | none => rw [hf] at hK; exact hK
          | some f => rw [hf] at hK; exact hK
      exact hK2 _ rfl h1 (o1.R.C (fun q z => by have := rw2_b hn q z; omega)) (c.upd o1 (rw2_b hn) (c.k.mvR hn o1))
  · rw [nz_bt, Classical.not_not] at y
    rw [if_pos ⟨⟨by omega, by omega⟩, y⟩, if_pos hn] at hK
    exact hK _ rfl h oC.rf c
  · rw [nz_bt] at y
    rw [if_neg (fun z => y z.2)] at hK
    exact hK _ rfl h oC.rf c
  · rw [if_neg (fun z => e z.1)] at hK
    exact hK _ rfl h oC.rf c
end
