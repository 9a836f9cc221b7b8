/-! ===== bins, wants ===== -/
def ins {α : Type} (e : Nat → α) (P : Nat) (x : α) : Nat → α := fun j => if j < P then e j else if j = P then x else e (j - 1)
/-- bins of a sort: how many; value, count, price -/
def zB : Type := Nat × (Nat → (Int × Int) × Int32 × Int32)
def zB.n (B : zB) : Nat := B.1
def zB.e (B : zB) : Nat → (Int × Int) × Int32 × Int32 := B.2
def bpk (x : (Int × Int) × Int32 × Int32) : Int64 × Int32 × Int32 := (fz_p x.1, x.2.1, x.2.2)
def bt (h : jv_H) (b j : Nat) : Int64 × Int32 × Int32 := (h.2.1 (b + 1) j, h.1 (b + 2) j, h.1 (b + 3) j)
def bset (h : jv_H) (b k : Nat) (v : Int64) (c p : Int32) : jv_H := jv_uI (jv_uI (jv_uL h (b + 1) k v) (b + 2) k c) (b + 3) k p
theorem bt_set (h : jv_H) (b k : Nat) (v : Int64) (c p : Int32) (j : Nat) : bt (bset h b k v c p) b j = if j = k then (v, c, p) else bt h b j := by
  have e1 : (bset h b k v c p).2.1 (b + 1) j = if j = k then v else h.2.1 (b + 1) j := by
    show (if b + 1 = b + 1 ∧ j = k then v else h.2.1 (b + 1) j) = _
    simp
  have e2 : (bset h b k v c p).1 (b + 2) j = if j = k then c else h.1 (b + 2) j := by
    unfold bset
    rw [uI_ne (by omega)]
    show (if b + 2 = b + 2 ∧ j = k then c else h.1 (b + 2) j) = _
    simp
  have e3 : (bset h b k v c p).1 (b + 3) j = if j = k then p else h.1 (b + 3) j := by
    show (if b + 3 = b + 3 ∧ j = k then p else (jv_uI (jv_uL h (b + 1) k v) (b + 2) k c).1 (b + 3) j) = _
    by_cases e : j = k
    · simp [e]
    · rw [if_neg (fun z => e z.2), if_neg e, uI_ne (by omega)]
      rfl
  unfold bt
  rw [e1, e2, e3]
  by_cases e : j = k
  · simp [e]
  · simp [e]
theorem bset_sz (h : jv_H) (b k : Nat) (v : Int64) (c p : Int32) : (bset h b k v c p).1 b 3 = h.1 b 3 := by
  unfold bset
  rw [uI_ne (by omega), uI_ne (by omega)]
  rfl
theorem bset_o (h : jv_H) (b k : Nat) (v : Int64) (c p : Int32) : oS (lw b) h (bset h b k v c p) := ((oS_uL (S := lw b) ⟨by omega, by omega⟩).tr (oS_uI ⟨by omega, by omega⟩)).tr (oS_uI ⟨by omega, by omega⟩)
def BO (n : Nat) (h : jv_H) (b : Nat) : Prop := jv_is SHT n b 10 ∧ h.2.2 b 0 = some (b + 1) ∧ h.2.2 b 1 = some (b + 2) ∧ h.2.2 b 2 = some (b + 3) ∧ b + 3 < n ∧ SHT (b + 1) = (1, 10) ∧ SHT (b + 2) = (0, 10) ∧ SHT (b + 3) = (0, 10)
theorem BO.mv {n b : Nat} {S : Nat → Prop} {h h' : jv_H} (l : BO n h b) (a : oS S h h') : BO n h' b := ⟨l.1, by rw [a.1]; exact l.2.1, by rw [a.1]; exact l.2.2.1, by rw [a.1]; exact l.2.2.2.1, l.2.2.2.2⟩
theorem BO.xa {n b k : Nat} {h : jv_H} {i : Int32} (l : BO n h b) (hi : i.toInt = k) (hk : k < 10) : jv_ix SHT n (b + 1) 1 i := jx l.2.2.2.2.2.1 (by have := l.2.2.2.2.1; omega) (by omega) (by omega)
theorem BO.xb {n b k : Nat} {h : jv_H} {i : Int32} (l : BO n h b) (hi : i.toInt = k) (hk : k < 10) : jv_ix SHT n (b + 2) 0 i := jx l.2.2.2.2.2.2.1 (by have := l.2.2.2.2.1; omega) (by omega) (by omega)
theorem BO.xc {n b k : Nat} {h : jv_H} {i : Int32} (l : BO n h b) (hi : i.toInt = k) (hk : k < 10) : jv_ix SHT n (b + 3) 0 i := jx l.2.2.2.2.2.2.2 (by have := l.2.2.2.2.1; omega) (by omega) (by omega)
def CB (h : jv_H) (b : Nat) (B : zB) : Prop := (h.1 b 3).toInt = B.n ∧ B.n ≤ 10 ∧ ∀ j, j < B.n → bt h b j = bpk (B.e j) ∧ fz_r (B.e j).1
theorem CB.mv {h h' : jv_H} {b : Nat} {B : zB} {S : Nat → Prop} (c : CB h b B) (a : oS S h h') (hs : ∀ q, b ≤ q → q < b + 4 → ¬ S q) : CB h' b B := by
  obtain ⟨c1, c2, c3⟩ := c
  have a0 := a.2 b (hs b (by omega) (by omega))
  have a1 := a.2 (b + 1) (hs _ (by omega) (by omega))
  have a2 := a.2 (b + 2) (hs _ (by omega) (by omega))
  have a3 := a.2 (b + 3) (hs _ (by omega) (by omega))
  refine ⟨by rw [a0.1]; exact c1, c2, fun j hj => ?_⟩
  have : bt h' b j = bt h b j := by unfold bt; rw [a1.2, a2.1, a3.1]
  rw [this]
  exact c3 j hj
theorem CB.gz {h : jv_H} {b : Nat} {B : zB} (c : CB h b B) : (jv_gI h b 3).toInt = B.n := c.1
theorem CB.gv {h : jv_H} {b k : Nat} {B : zB} {x : Int32} (c : CB h b B) (hx : x.toInt = k) (hk : k < B.n) : jv_gL h (b + 1) x.toNatClampNeg = fz_p (B.e k).1 := by rw [nz_nat hx]; exact congrArg Prod.fst (c.2.2 k hk).1
theorem CB.gc {h : jv_H} {b k : Nat} {B : zB} {x : Int32} (c : CB h b B) (hx : x.toInt = k) (hk : k < B.n) : jv_gI h (b + 2) x.toNatClampNeg = (B.e k).2.1 := by rw [nz_nat hx]; exact congrArg (fun t => t.2.1) (c.2.2 k hk).1
theorem CB.gp {h : jv_H} {b k : Nat} {B : zB} {x : Int32} (c : CB h b B) (hx : x.toInt = k) (hk : k < B.n) : jv_gI h (b + 3) x.toNatClampNeg = (B.e k).2.2 := by rw [nz_nat hx]; exact congrArg (fun t => t.2.2) (c.2.2 k hk).1
theorem CB.vr {h : jv_H} {b k : Nat} {B : zB} (c : CB h b B) (hk : k < B.n) : fz_r (B.e k).1 := (c.2.2 k hk).2
/-- the bin with a value: of r from k on -/
def zB.fi (B : zB) (q : Int × Int) : Nat → Nat → Int
  | 0, _ => -1
  | r + 1, k => if (B.e k).1 = q then (k : Int) else B.fi q r (k + 1)
theorem zB.fi_b (B : zB) (q : Int × Int) : ∀ r k, B.fi q r k = -1 ∨ ∃ j : Nat, B.fi q r k = (j : Int) ∧ k ≤ j ∧ j < k + r ∧ (B.e j).1 = q
  | 0, k => Or.inl rfl
  | r + 1, k => by
    unfold zB.fi
    split
    · exact Or.inr ⟨k, rfl, by omega, by omega, by assumption⟩
    · rcases B.fi_b q r (k + 1) with h | ⟨j, h1, h2, h3, h4⟩
      · exact Or.inl h
      · exact Or.inr ⟨j, h1, by omega, by omega, h4⟩
/-- where a new value goes -/
def zB.mk (B : zB) (q : Int × Int) : Nat → Nat
  | 0 => 0
  | k + 1 => if (fz_cmp (B.e k).1 q).toInt ≤ 0 then k + 1 else B.mk q k
theorem zB.mk_le (B : zB) (q : Int × Int) : ∀ k, B.mk q k ≤ k
  | 0 => Nat.le_refl _
  | k + 1 => by
    unfold zB.mk
    split
    · exact Nat.le_refl _
    · exact Nat.le_trans (B.mk_le q k) (Nat.le_succ _)
/-- a bin stored; none: full -/
def zB.st (B : zB) (q : Int × Int) (c p : Int32) : Option zB :=
  if 0 ≤ B.fi q B.n 0 then some (B.n, fun j => if (j : Int) = B.fi q B.n 0 then (q, c, p) else B.e j) else if 10 ≤ B.n then none else some (B.n + 1, ins B.e (B.mk q B.n) (q, c, p))
def spr (a q : Int × Int) : Int := ((a.1 * q.2 - q.1 * a.2).natAbs : Int)
/-- the nearest: of r from k on, f found so far -/
def zB.nr (B : zB) (q : Int × Int) : Nat → Nat → Nat → Nat
  | 0, _, f => f
  | r + 1, k, f => B.nr q r (k + 1) (if spr (B.e k).1 q * (B.e f).1.2 < spr (B.e f).1 q * (B.e k).1.2 then k else f)
theorem zB.nr_lt (B : zB) (q : Int × Int) : ∀ r k f m, f < m → k + r ≤ m → B.nr q r k f < m
  | 0, k, f, m, h1, _ => h1
  | r + 1, k, f, m, h1, h2 => by
    unfold zB.nr
    refine B.nr_lt q r (k + 1) _ m ?_ (by omega)
    split
    · omega
    · exact h1
/-- halves that are told -/
def th (q : Int × Int) : Prop := (0 ≤ q.1 ∧ q.1 ≤ 9999) ∧ 0 ≤ q.2 ∧ q.2 ≤ 9999
section
variable (X : jv_X) (d n : Nat) (K : jv_H → Prop) (KI : Int32 → jv_H → Prop) (KL : Int64 → jv_H → Prop) (h : jv_H) (b : Nat) (B : zB)
theorem c_setBin (x : Int32) (k : Nat) (hx : x.toInt = k) (hk : k < 10) (v : Int64) (c p : Int32) (l : BO n h b) (hK : K (bset h b k v c p)) : jV X (d + 2) y_Bins_setBin [.ref b, .int x, .long v, .int c, .int p] n h K := by
  refine r_Bins_setBin X (d + 1) n _ b x v c p h ?_
  refine c_isWithin X d n _ h _ _ _ ⟨fun z => ?_, fun z => ?_⟩
  · rw [nz_bt] at z
    refine absurd ?_ z
    have e0 : (0 : Int32).toInt = 0 := rfl
    have e9 : (9 : Int32).toInt = 9 := rfl
    omega
  · repeat (first | refine ⟨(l).1, ?_⟩ | refine ⟨_, (l).2.1, ?_⟩ | refine ⟨_, (l).2.2.1, ?_⟩ | refine ⟨_, (l).2.2.2.1, ?_⟩ | refine ⟨(l).xa (by assumption) (by omega), ?_⟩ | refine ⟨(l).xb (by assumption) (by omega), ?_⟩ | refine ⟨(l).xc (by assumption) (by omega), ?_⟩)
    rw [nz_nat hx]
    exact hK
theorem fi_l (Q : jv_Q) (q : Int × Int) (hq : fz_r q) (l : BO n h b) (c : CB h b B) : ∀ (r k : Nat) (x : Int32), x.toInt = k → k + r = B.n → (∀ z : Int32, z.toInt = B.fi q r k → Q (some (.int z)) h) → a_Bins_find_2 X d n Q b (fz_p q) x h 0
  | 0, k, x, hx, hm, hQ => by
    exact r_Bins_find_2 X d n Q b _ x h ⟨l.1, fun _ => hQ _ rfl, fun z => absurd (nz_le.mpr (by rw [c.gz, hx]; omega)) z⟩
  | r + 1, k, x, hx, hm, hQ => by
    have hk : k < B.n := by omega
    have hle := c.2.1
    unfold zB.fi at hQ
    refine r_Bins_find_2 X d n Q b _ x h ⟨l.1, fun z => ?_, fun z => ?_⟩
    · have := nz_le.mp z
      rw [c.gz, hx] at this
      omega
    · repeat (first | refine ⟨(l).1, ?_⟩ | refine ⟨_, (l).2.1, ?_⟩ | refine ⟨_, (l).2.2.1, ?_⟩ | refine ⟨_, (l).2.2.2.1, ?_⟩ | refine ⟨(l).xa (by assumption) (by omega), ?_⟩ | refine ⟨(l).xb (by assumption) (by omega), ?_⟩ | refine ⟨(l).xc (by assumption) (by omega), ?_⟩)
      rw [c.gv hx hk]
      refine ⟨fun e => ?_, fun e => ?_⟩
      · have e : ¬ (B.e k).1 = q := fun y => e ((lg_cmp_eq _ _).mpr (by rw [y]))
        rw [if_neg e] at hQ
        exact fi_l Q q hq l c r (k + 1) _ (nz_inc hx (by omega)) (by omega) hQ
      · have e := (fz_inj (c.vr hk) hq).mp ((lg_cmp_eq _ _).mp e)
        rw [if_pos e] at hQ
        exact hQ x hx
theorem c_find (q : Int × Int) (hq : fz_r q) (l : BO n h b) (c : CB h b B) (hK : ∀ z : Int32, z.toInt = B.fi q B.n 0 → KI z h) : jI X (d + 1) y_Bins_find [.ref b, .long (fz_p q)] n h KI := by
  refine r_Bins_find X d n _ b _ h ?_
  exact fi_l X d n h b B _ q hq l c B.n 0 0 rfl (by omega) hK
/-- with a hole at k -/
def CBH (h : jv_H) (b : Nat) (B : zB) (k : Nat) : Prop := (h.1 b 3).toInt = B.n ∧ (∀ j, j < k → bt h b j = bpk (B.e j)) ∧ ∀ j, k < j → j ≤ B.n → bt h b j = bpk (B.e (j - 1))
theorem mk_l (Q : jv_Q) (q : Int × Int) (hq : fz_r q) (hB : B.n < 10) (hr : ∀ j, j < B.n → fz_r (B.e j).1) : ∀ (k : Nat) (x : Int32) (h : jv_H), x.toInt = k → k ≤ B.n → BO n h b → CBH h b B k → (∀ h', oS (lw b) h h' → CBH h' b B (B.mk q k) → ∀ z : Int32, z.toInt = B.mk q k → Q (some (.int z)) (jv_uI h' b 3 (jv_gI h' b 3 + 1))) → a_Bins_makeRoomFor_5 X (d + 2) n Q b (fz_p q) x h 0
  | 0, x, h, hx, hk, l, c, hQ => by
    exact r_Bins_makeRoomFor_5 X (d + 2) n Q b _ x h ⟨fun _ => ⟨l.1, l.1, hQ h oS.rf c x hx⟩, fun z => absurd (nz_le.mpr (by rw [hx]; show (0 : Int) ≤ 0; omega)) z⟩
  | k + 1, x, h, hx, hk, l, c, hQ => by
    have e1 : (1 : Int32).toInt = 1 := rfl
    have hx1 : (x - 1).toInt = k := by rw [nz_subi (by rw [hx, e1]; omega) (by rw [hx, e1]; omega), hx, e1]; omega
    unfold zB.mk at hQ
    refine r_Bins_makeRoomFor_5 X (d + 2) n Q b _ x h ⟨fun z => ?_, fun z => ?_⟩
    · have : x.toInt ≤ (0 : Int) := nz_le.mp z
      omega
    · repeat (first | refine ⟨(l).1, ?_⟩ | refine ⟨_, (l).2.1, ?_⟩ | refine ⟨_, (l).2.2.1, ?_⟩ | refine ⟨_, (l).2.2.2.1, ?_⟩ | refine ⟨(l).xa (by assumption) (by omega), ?_⟩ | refine ⟨(l).xb (by assumption) (by omega), ?_⟩ | refine ⟨(l).xc (by assumption) (by omega), ?_⟩)
      have hbt := c.2.1 k (by omega)
      rw [nz_nat hx1, show jv_gL h (b + 1) k = fz_p (B.e k).1 from congrArg Prod.fst hbt]
      refine c_compare X d n _ h _ _ (hr k (by omega)) hq ⟨fun e => ⟨l.1, l.1, ?_⟩, fun e => ?_⟩
      · have e : (fz_cmp (B.e k).1 q).toInt ≤ 0 := nz_le.mp e
        rw [if_pos e] at hQ
        exact hQ h oS.rf c x hx
      · have e : ¬ (fz_cmp (B.e k).1 q).toInt ≤ 0 := fun y => e (nz_le.mpr y)
        rw [if_neg e] at hQ
        repeat (first | refine ⟨(l).1, ?_⟩ | refine ⟨_, (l).2.1, ?_⟩ | refine ⟨_, (l).2.2.1, ?_⟩ | refine ⟨_, (l).2.2.2.1, ?_⟩ | refine ⟨(l).xa (by assumption) (by omega), ?_⟩ | refine ⟨(l).xb (by assumption) (by omega), ?_⟩ | refine ⟨(l).xc (by assumption) (by omega), ?_⟩)
        rw [show jv_gL h (b + 1) k = fz_p (B.e k).1 from congrArg Prod.fst hbt, show jv_gI h (b + 2) k = (B.e k).2.1 from congrArg (fun t => t.2.1) hbt, show jv_gI h (b + 3) k = (B.e k).2.2 from congrArg (fun t => t.2.2) hbt]
        refine c_setBin X d n _ h b x (k + 1) hx (by omega) _ _ _ l ?_
        have ob := bset_o h b (k + 1) (fz_p (B.e k).1) (B.e k).2.1 (B.e k).2.2
        refine mk_l Q q hq hB hr k _ _ (by rw [nz_dec hx (by omega)]; omega) (by omega) (l.mv ob) ⟨by rw [bset_sz]; exact c.1, fun j hj => ?_, fun j h1 h2 => ?_⟩ (fun h' o' c' z hz => hQ h' (ob.tr o') c' z hz)
        · rw [bt_set, if_neg (by omega)]
          exact c.2.1 j (by omega)
        · rw [bt_set]
          by_cases ej : j = k + 1
          · rw [if_pos ej, ej]
            rfl
          · rw [if_neg ej]
            exact c.2.2 j (by omega) h2
theorem c_store (q : Int × Int) (hq : fz_r q) (cn pr : Int32) (l : BO n h b) (c : CB h b B) (hK1 : ∀ B', B.st q cn pr = some B' → ∀ h', oS (lw b) h h' → CB h' b B' → KI 1 h') (hK0 : B.st q cn pr = none → KI 0 h) : jI X (d + 4) y_Bins_store [.ref b, .long (fz_p q), .int cn, .int pr] n h KI := by
  have hle := c.2.1
  unfold zB.st at hK1 hK0
  refine r_Bins_store X (d + 3) n _ b _ cn pr h ⟨l.1, c_find X (d + 2) n _ h b B q hq l c (fun z hz => ⟨fun a => ⟨l.1, ?_⟩, fun a => ⟨l.1, fun e => ⟨l.1, ?_⟩, fun e => ⟨Or.inl rfl, ?_⟩⟩⟩)⟩
  · have a : 0 ≤ B.fi q B.n 0 := by
      have : (0 : Int) ≤ z.toInt := nz_le.mp a
      omega
    rw [if_pos a] at hK1
    rcases B.fi_b q B.n 0 with y | ⟨j, y1, y2, y3, y4⟩
    · omega
    · rw [y1] at hz hK1
      refine c_setBin X (d + 1) n _ h b z j hz (by omega) _ _ _ l ⟨Or.inr rfl, hK1 _ rfl _ (bset_o _ _ _ _ _ _) ⟨by rw [bset_sz]; exact c.1, hle, fun i hi => ?_⟩⟩
      have hi : i < B.n := hi
      rw [bt_set]
      show _ = bpk (if (i : Int) = (j : Int) then (q, cn, pr) else B.e i) ∧ fz_r (if (i : Int) = (j : Int) then (q, cn, pr) else B.e i).1
      by_cases ei : i = j
      · rw [if_pos ei, if_pos (by omega)]
        exact ⟨rfl, hq⟩
      · rw [if_neg ei, if_neg (by omega)]
        exact c.2.2 i hi
  · have a : ¬ 0 ≤ B.fi q B.n 0 := fun y => a (nz_le.mpr (by rw [hz]; exact y))
    have e : ¬ 10 ≤ B.n := by
      have : (jv_gI h b 3).toInt < 10 := nz_lt.mp e
      rw [c.gz] at this
      omega
    rw [if_neg a, if_neg e] at hK1
    refine r_Bins_makeRoomFor X (d + 2) n _ b _ h ⟨l.1, ?_⟩
    refine mk_l X d n b B _ q hq (by omega) (fun j hj => c.vr hj) B.n _ h c.gz (Nat.le_refl _) l ⟨c.1, fun j hj => (c.2.2 j hj).1, fun j h1 h2 => by omega⟩ (fun h' o' c' z' hz' => ⟨l.1, ?_⟩)
    have hmk := B.mk_le q B.n
    have ou : oS (lw b) h' (jv_uI h' b 3 (jv_gI h' b 3 + 1)) := oS_uI ⟨Nat.le_refl _, by omega⟩
    refine c_setBin X (d + 1) n _ _ b z' _ hz' (by omega) _ _ _ ((l.mv o').mv ou) ⟨Or.inr rfl, hK1 _ rfl _ ((o'.tr ou).tr (bset_o _ _ _ _ _ _)) ⟨?_, by show B.n + 1 ≤ 10; omega, fun i hi => ?_⟩⟩
    · rw [bset_sz, uI_eq]
      exact nz_inc c'.1 (by omega)
    · have hi : i < B.n + 1 := hi
      have hbu : bt (jv_uI h' b 3 (jv_gI h' b 3 + 1)) b i = bt h' b i := by
        unfold bt
        rw [uI_ne (by omega), uI_ne (by omega)]
        rfl
      rw [bt_set, hbu]
      show _ = bpk (if i < B.mk q B.n then B.e i else if i = B.mk q B.n then (q, cn, pr) else B.e (i - 1)) ∧ fz_r (if i < B.mk q B.n then B.e i else if i = B.mk q B.n then (q, cn, pr) else B.e (i - 1)).1
      by_cases e1 : i < B.mk q B.n
      · rw [if_pos e1, if_neg (by omega)]
        exact ⟨c'.2.1 i e1, c.vr (by omega)⟩
      · rw [if_neg e1]
        by_cases e2 : i = B.mk q B.n
        · rw [if_pos e2, if_pos e2]
          exact ⟨rfl, hq⟩
        · rw [if_neg e2, if_neg e2]
          exact ⟨c'.2.2 i (by omega) (by omega), c.vr (by omega)⟩
  · have a : ¬ 0 ≤ B.fi q B.n 0 := fun y => a (nz_le.mpr (by rw [hz]; exact y))
    have e : 10 ≤ B.n := by
      have : ¬ (jv_gI h b 3).toInt < 10 := fun y => e (nz_lt.mpr y)
      rw [c.gz] at this
      omega
    rw [if_neg a, if_pos e] at hK0
    exact hK0 rfl
theorem c_spread (a q : Int × Int) (ha : fz_r a) (hq : fz_r q) (hK : ∀ z : Int64, z.toInt = spr a q → KL z h) : jL X (d + 2) y_Bins_spread [.long (fz_p a), .long (fz_p q)] n h KL := by
  refine r_Bins_spread X d n _ _ _ h ?_
  refine c_above X d n _ h a ha (fun z2 e2 => c_below X d n _ h q hq (fun z4 e4 => c_above X d n _ h q hq (fun z6 e6 => c_below X d n _ h a ha (fun z8 e8 => hK _ ?_))))
  have a1 := nz_mw e2 e4 ha.1 (fz_lo hq)
  have a2 := nz_mw e6 e8 hq.1 (fz_lo ha)
  have b1 := nz_mb ha.1 (fz_lo hq)
  have b2 := nz_mb hq.1 (fz_lo ha)
  have a3 := nz_sub (a := z2.toInt64 * z4.toInt64) (b := z6.toInt64 * z8.toInt64) (by rw [a1, a2]; omega) (by rw [a1, a2]; omega)
  rw [a1, a2] at a3
  rw [nz_abs (by rw [a3]; omega), a3]
  rfl
theorem spr_b {a q : Int × Int} (ha : th a) (hq : fz_r q) : 0 ≤ spr a q ∧ spr a q ≤ 20000000000000 := by
  have h1 : a.1.natAbs * q.2.natAbs ≤ 9999 * 1000000000 := Nat.mul_le_mul (by have := ha.1; omega) (by have := hq.2; omega)
  have h2 : q.1.natAbs * a.2.natAbs ≤ 1000000000 * 9999 := Nat.mul_le_mul (by have := hq.1; omega) (by have := ha.2; omega)
  have h3 : (a.1 * q.2).natAbs = a.1.natAbs * q.2.natAbs := Int.natAbs_mul _ _
  have h4 : (q.1 * a.2).natAbs = q.1.natAbs * a.2.natAbs := Int.natAbs_mul _ _
  unfold spr
  omega
theorem c_isNearer (a1 a2 q : Int × Int) (h1 : th a1) (h2 : th a2) (hq : fz_r q) (hK1 : spr a1 q * a2.2 < spr a2 q * a1.2 → KI 1 h) (hK0 : ¬ spr a1 q * a2.2 < spr a2 q * a1.2 → KI 0 h) : jI X (d + 3) y_Bins_isNearer [.long (fz_p a1), .long (fz_p a2), .long (fz_p q)] n h KI := by
  have r1 : fz_r a1 := ⟨⟨by have := h1.1; omega, by have := h1.1; omega⟩, h1.2.1, by have := h1.2; omega⟩
  have r2 : fz_r a2 := ⟨⟨by have := h2.1; omega, by have := h2.1; omega⟩, h2.2.1, by have := h2.2; omega⟩
  have s1 := spr_b h1 hq
  have s2 := spr_b h2 hq
  have p1 : 0 ≤ spr a1 q * a2.2 := Int.mul_nonneg s1.1 h2.2.1
  have p2 : 0 ≤ spr a2 q * a1.2 := Int.mul_nonneg s2.1 h1.2.1
  have m1 : spr a1 q * a2.2 ≤ 20000000000000 * 9999 := Int.mul_le_mul s1.2 h2.2.2 h2.2.1 (by decide)
  have m2 : spr a2 q * a1.2 ≤ 20000000000000 * 9999 := Int.mul_le_mul s2.2 h1.2.2 h1.2.1 (by decide)
  refine r_Bins_isNearer X (d + 2) n _ _ _ _ h ?_
  refine c_spread X d n _ h a1 q r1 hq (fun z2 e2 => c_below X (d + 1) n _ h a2 r2 (fun z4 e4 => c_spread X d n _ h a2 q r2 hq (fun z6 e6 => c_below X (d + 1) n _ h a1 r1 (fun z8 e8 => ?_))))
  have v1 : (z2 * z4.toInt64).toInt = spr a1 q * a2.2 := by rw [nz_mul (by rw [e2, Int32.toInt_toInt64, e4]; omega) (by rw [e2, Int32.toInt_toInt64, e4]; omega), e2, Int32.toInt_toInt64, e4]
  have v2 : (z6 * z8.toInt64).toInt = spr a2 q * a1.2 := by rw [nz_mul (by rw [e6, Int32.toInt_toInt64, e8]; omega) (by rw [e6, Int32.toInt_toInt64, e8]; omega), e6, Int32.toInt_toInt64, e8]
  refine ⟨fun y => ⟨Or.inl rfl, hK0 ?_⟩, fun y => ⟨Or.inr rfl, hK1 ?_⟩⟩
  · have := Int64.le_iff_toInt_le.mp ((lg_cmp_ge _ _).mp y)
    rw [v1, v2] at this
    omega
  · have : ¬ (z6 * z8.toInt64).toInt ≤ (z2 * z4.toInt64).toInt := fun w => y ((lg_cmp_ge _ _).mpr (Int64.le_iff_toInt_le.mpr w))
    rw [v1, v2] at this
    omega
theorem nr_l (Q : jv_Q) (q : Int × Int) (hq : fz_r q) (hB : ∀ j, j < B.n → th (B.e j).1) (l : BO n h b) (c : CB h b B) : ∀ (r k f : Nat) (x3 x4 : Int32), x4.toInt = k → x3.toInt = f → k + r = B.n → f < B.n → (∀ z : Int32, z.toInt = B.nr q r k f → Q (some (.int z)) h) → a_Bins_findNearest_16 X (d + 3) n Q b (fz_p q) x3 x4 h 0
  | 0, k, f, x3, x4, h4, h3, hm, hf, hQ => by
    exact r_Bins_findNearest_16 X (d + 3) n Q b _ x3 x4 h ⟨l.1, fun _ => hQ x3 h3, fun z => absurd (nz_le.mpr (by rw [c.gz, h4]; omega)) z⟩
  | r + 1, k, f, x3, x4, h4, h3, hm, hf, hQ => by
    have hk : k < B.n := by omega
    have hle := c.2.1
    unfold zB.nr at hQ
    refine r_Bins_findNearest_16 X (d + 3) n Q b _ x3 x4 h ⟨l.1, fun z => ?_, fun z => ⟨l.1, _, l.2.1, l.xa h4 (by omega), l.1, _, l.2.1, l.xa h3 (by omega), ?_⟩⟩
    · have := nz_le.mp z
      rw [c.gz, h4] at this
      omega
    · rw [c.gv h4 hk, c.gv h3 hf]
      refine c_isNearer X d n _ h _ _ q (hB k hk) (hB f hf) hq (fun e => ⟨fun z => absurd z (by decide), fun _ => ?_⟩) (fun e => ⟨fun _ => ?_, fun z => absurd rfl z⟩)
      · rw [if_pos e] at hQ
        exact nr_l Q q hq hB l c r (k + 1) k _ _ (nz_inc h4 (by omega)) h4 (by omega) hk hQ
      · rw [if_neg e] at hQ
        exact nr_l Q q hq hB l c r (k + 1) f _ _ (nz_inc h4 (by omega)) h3 (by omega) hf hQ
theorem c_findNearest (q : Int × Int) (hq : fz_r q) (hB : ∀ j, j < B.n → th (B.e j).1) (l : BO n h b) (c : CB h b B) (hK1 : 0 < B.n → ∀ z : Int32, z.toInt = B.nr q (B.n - 1) 1 0 → KI z h) (hK0 : B.n = 0 → KI (-1) h) : jI X (d + 4) y_Bins_findNearest [.ref b, .long (fz_p q)] n h KI := by
  refine r_Bins_findNearest X (d + 3) n _ b _ h ⟨l.1, fun a => ?_, fun a => ?_⟩
  · have : (jv_gI h b 3).toInt ≤ 0 := nz_le.mp a
    rw [c.gz] at this
    refine r_Bins_findNearest_16 X (d + 3) n _ b _ (-1) 1 h ⟨l.1, fun _ => hK0 (by omega), fun z => absurd (nz_le.mpr (by rw [c.gz]; show _ ≤ (1 : Int); omega)) z⟩
  · have : ¬ (jv_gI h b 3).toInt ≤ 0 := fun z => a (nz_le.mpr z)
    rw [c.gz] at this
    exact nr_l X d n h b B _ q hq hB l c (B.n - 1) 1 0 0 1 rfl rfl (by omega) (by omega) (hK1 (by omega))
theorem bbec_l (Q : jv_Q) (b1 : Nat) (ha : ap b b1) : ∀ (m k : Nat) (x : Int32) (h : jv_H), x.toInt = k → k + m = B.n → BO n h b → BO n h b1 → (h.1 b 3).toInt = B.n → (∀ j, j < k → bt h b j = bpk (B.e j)) → CB h b1 B → (∀ h', oS (lw b) h h' → CB h' b B → Q none h') → a_Bins_become_10 X (d + 2) n Q b b1 x h 0
  | 0, k, x, h, hx, hm, l, l1, hz, hj, c1, hQ => by
    exact r_Bins_become_10 X (d + 2) n Q b b1 x h ⟨l.1, fun _ => hQ h oS.rf ⟨hz, c1.2.1, fun j hlt => ⟨hj j (by omega), c1.vr hlt⟩⟩, fun z => absurd (nz_le.mpr (by rw [show (jv_gI h b 3).toInt = B.n from hz, hx]; omega)) z⟩
  | m + 1, k, x, h, hx, hm, l, l1, hz, hj, c1, hQ => by
    have hk : k < B.n := by omega
    have hle := c1.2.1
    refine r_Bins_become_10 X (d + 2) n Q b b1 x h ⟨l.1, fun z => ?_, fun z => ?_⟩
    · have := nz_le.mp z
      rw [show (jv_gI h b 3).toInt = B.n from hz, hx] at this
      omega
    · repeat (first | refine ⟨(l1).1, ?_⟩ | refine ⟨_, (l1).2.1, ?_⟩ | refine ⟨_, (l1).2.2.1, ?_⟩ | refine ⟨_, (l1).2.2.2.1, ?_⟩ | refine ⟨(l1).xa (by assumption) (by omega), ?_⟩ | refine ⟨(l1).xb (by assumption) (by omega), ?_⟩ | refine ⟨(l1).xc (by assumption) (by omega), ?_⟩ | refine ⟨(l).1, ?_⟩ | refine ⟨_, (l).2.1, ?_⟩ | refine ⟨_, (l).2.2.1, ?_⟩ | refine ⟨_, (l).2.2.2.1, ?_⟩ | refine ⟨(l).xa (by assumption) (by omega), ?_⟩ | refine ⟨(l).xb (by assumption) (by omega), ?_⟩ | refine ⟨(l).xc (by assumption) (by omega), ?_⟩)
      rw [c1.gv hx hk, c1.gc hx hk, c1.gp hx hk]
      refine c_setBin X d n _ h b x k hx (by omega) _ _ _ l ?_
      have ob := bset_o h b k (fz_p (B.e k).1) (B.e k).2.1 (B.e k).2.2
      refine bbec_l Q b1 ha m (k + 1) _ _ (nz_inc hx (by omega)) (by omega) (l.mv ob) (l1.mv ob) (by rw [bset_sz]; exact hz) (fun j hlt => ?_) (c1.mv ob ha.no) (fun h' o' c' => hQ h' (ob.tr o') c')
      rw [bt_set]
      by_cases ej : j = k
      · rw [if_pos ej, ej]
        rfl
      · rw [if_neg ej]
        exact hj j (by omega)
theorem c_B_become (b1 : Nat) (ha : ap b b1) (l : BO n h b) (l1 : BO n h b1) (c1 : CB h b1 B) (hK : ∀ h', oS (lw b) h h' → CB h' b B → K h') : jV X (d + 3) y_Bins_become [.ref b, .ref b1] n h K := by
  have o1 : oS (lw b) h (jv_uI h b 3 (jv_gI h b1 3)) := oS_uI ⟨Nat.le_refl _, by omega⟩
  refine r_Bins_become X (d + 2) n _ b b1 h ⟨l1.1, l.1, ?_⟩
  exact bbec_l X d n b B _ b1 ha B.n 0 0 _ rfl (by omega) (l.mv o1) (l1.mv o1) (by rw [uI_eq]; exact c1.1) (fun j hj => by omega) (c1.mv o1 ha.no) (fun h' o' c' => hK h' (o1.tr o') c')
end
