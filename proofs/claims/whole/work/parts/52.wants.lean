/-! ===== wants of the class ===== -/
/-- how many, how many ever; sort, urgency, number, value -/
def zW : Type := Nat × Int32 × (Nat → Int32 × Int32 × Int32 × (Int × Int))
def zW.n (W : zW) : Nat := W.1
def zW.ev (W : zW) : Int32 := W.2.1
def zW.e (W : zW) : Nat → Int32 × Int32 × Int32 × (Int × Int) := W.2.2
/-- packed: sort, value, urgency, number -/
def wpk (x : Int32 × Int32 × Int32 × (Int × Int)) : Int32 × Int64 × Int32 × Int32 := (x.1, fz_p x.2.2.2, x.2.1, x.2.2.1)
def wtt (h : jv_H) (b j : Nat) : Int32 × Int64 × Int32 × Int32 := (h.1 (b + 1) j, h.2.1 (b + 2) j, h.1 (b + 3) j, h.1 (b + 4) j)
def wset (h : jv_H) (b k : Nat) (x : Int32 × Int64 × Int32 × Int32) : jv_H := jv_uI (jv_uI (jv_uL (jv_uI h (b + 1) k x.1) (b + 2) k x.2.1) (b + 3) k x.2.2.1) (b + 4) k x.2.2.2
theorem wtt_set (h : jv_H) (b k : Nat) (x : Int32 × Int64 × Int32 × Int32) (j : Nat) : wtt (wset h b k x) b j = if j = k then x else wtt h b j := by
  have e1 : (wset h b k x).1 (b + 1) j = if j = k then x.1 else h.1 (b + 1) j := by
    unfold wset
    rw [uI_ne (by omega), uI_ne (by omega)]
    show (if b + 1 = b + 1 ∧ j = k then x.1 else h.1 (b + 1) j) = _
    simp
  have e2 : (wset h b k x).2.1 (b + 2) j = if j = k then x.2.1 else h.2.1 (b + 2) j := by
    show (if b + 2 = b + 2 ∧ j = k then x.2.1 else h.2.1 (b + 2) j) = _
    simp
  have e3 : (wset h b k x).1 (b + 3) j = if j = k then x.2.2.1 else h.1 (b + 3) j := by
    unfold wset
    rw [uI_ne (by omega)]
    show (if b + 3 = b + 3 ∧ j = k then x.2.2.1 else (jv_uI h (b + 1) k x.1).1 (b + 3) j) = _
    by_cases e : j = k
    · simp [e]
    · rw [if_neg (fun z => e z.2), if_neg e, uI_ne (by omega)]
  have e4 : (wset h b k x).1 (b + 4) j = if j = k then x.2.2.2 else h.1 (b + 4) j := by
    show (if b + 4 = b + 4 ∧ j = k then x.2.2.2 else (jv_uI (jv_uL (jv_uI h (b + 1) k x.1) (b + 2) k x.2.1) (b + 3) k x.2.2.1).1 (b + 4) j) = _
    by_cases e : j = k
    · simp [e]
    · rw [if_neg (fun z => e z.2), if_neg e, uI_ne (by omega)]
      show (jv_uI h (b + 1) k x.1).1 (b + 4) j = _
      rw [uI_ne (by omega)]
  unfold wtt
  rw [e1, e2, e3, e4]
  by_cases e : j = k
  · simp [e]
  · simp [e]
theorem wset_f (h : jv_H) (b k : Nat) (x : Int32 × Int64 × Int32 × Int32) (i : Nat) : (wset h b k x).1 b i = h.1 b i := by
  unfold wset
  rw [uI_ne (by omega), uI_ne (by omega)]
  show (jv_uI h (b + 1) k x.1).1 b i = _
  rw [uI_ne (by omega)]
def lw5 (b : Nat) : Nat → Prop := fun q => b ≤ q ∧ q < b + 5
theorem wset_o (h : jv_H) (b k : Nat) (x : Int32 × Int64 × Int32 × Int32) : oS (lw5 b) h (wset h b k x) := (((oS_uI (S := lw5 b) ⟨by omega, by omega⟩).tr (oS_uL ⟨by omega, by omega⟩)).tr (oS_uI ⟨by omega, by omega⟩)).tr (oS_uI ⟨by omega, by omega⟩)
def WO (n : Nat) (h : jv_H) (b : Nat) : Prop := jv_is SHT n b 17 ∧ h.2.2 b 0 = some (b + 1) ∧ h.2.2 b 1 = some (b + 2) ∧ h.2.2 b 2 = some (b + 3) ∧ h.2.2 b 3 = some (b + 4) ∧ b + 4 < n ∧ SHT (b + 1) = (0, 24) ∧ SHT (b + 2) = (1, 24) ∧ SHT (b + 3) = (0, 24) ∧ SHT (b + 4) = (0, 24)
theorem WO.mv {n b : Nat} {S : Nat → Prop} {h h' : jv_H} (l : WO n h b) (a : oS S h h') : WO n h' b := ⟨l.1, by rw [a.1]; exact l.2.1, by rw [a.1]; exact l.2.2.1, by rw [a.1]; exact l.2.2.2.1, by rw [a.1]; exact l.2.2.2.2.1, l.2.2.2.2.2⟩
theorem WO.xa {n b k : Nat} {h : jv_H} {i : Int32} (l : WO n h b) (hi : i.toInt = k) (hk : k < 24) : jv_ix SHT n (b + 1) 0 i := jx l.2.2.2.2.2.2.1 (by have := l.2.2.2.2.2.1; omega) (by omega) (by omega)
theorem WO.xb {n b k : Nat} {h : jv_H} {i : Int32} (l : WO n h b) (hi : i.toInt = k) (hk : k < 24) : jv_ix SHT n (b + 2) 1 i := jx l.2.2.2.2.2.2.2.1 (by have := l.2.2.2.2.2.1; omega) (by omega) (by omega)
theorem WO.xc {n b k : Nat} {h : jv_H} {i : Int32} (l : WO n h b) (hi : i.toInt = k) (hk : k < 24) : jv_ix SHT n (b + 3) 0 i := jx l.2.2.2.2.2.2.2.2.1 (by have := l.2.2.2.2.2.1; omega) (by omega) (by omega)
theorem WO.xd {n b k : Nat} {h : jv_H} {i : Int32} (l : WO n h b) (hi : i.toInt = k) (hk : k < 24) : jv_ix SHT n (b + 4) 0 i := jx l.2.2.2.2.2.2.2.2.2 (by have := l.2.2.2.2.2.1; omega) (by omega) (by omega)
def CW (h : jv_H) (b : Nat) (W : zW) : Prop := (h.1 b 4).toInt = W.n ∧ h.1 b 5 = W.ev ∧ W.n ≤ 24 ∧ ∀ j, j < W.n → wtt h b j = wpk (W.e j) ∧ fz_r (W.e j).2.2.2
theorem CW.mv {h h' : jv_H} {b : Nat} {W : zW} {S : Nat → Prop} (c : CW h b W) (a : oS S h h') (hs : ∀ q, b ≤ q → q < b + 5 → ¬ S q) : CW h' b W := by
  obtain ⟨c1, c2, c3, c4⟩ := c
  have a0 := a.2 b (hs b (by omega) (by omega))
  have a1 := a.2 (b + 1) (hs _ (by omega) (by omega))
  have a2 := a.2 (b + 2) (hs _ (by omega) (by omega))
  have a3 := a.2 (b + 3) (hs _ (by omega) (by omega))
  have a4 := a.2 (b + 4) (hs _ (by omega) (by omega))
  refine ⟨by rw [a0.1]; exact c1, by rw [a0.1]; exact c2, c3, fun j hj => ?_⟩
  have : wtt h' b j = wtt h b j := by unfold wtt; rw [a1.1, a2.2, a3.1, a4.1]
  rw [this]
  exact c4 j hj
/-- whether one that comes goes ahead of one that is there -/
def wah (s u : Int32) (v : Int × Int) (x : Int32 × Int32 × Int32 × (Int × Int)) : Prop := if u = x.2.1 then (if s = x.1 then ¬ (fz_cmp v x.2.2.2).toInt ≤ 0 else s.toInt < x.1.toInt) else x.2.1.toInt < u.toInt
noncomputable def zW.pos (W : zW) (s u : Int32) (v : Int × Int) : Nat → Nat
  | 0 => 0
  | k + 1 => cif (wah s u v (W.e k)) (W.pos s u v k) (k + 1)
theorem zW.pos_le (W : zW) (s u : Int32) (v : Int × Int) : ∀ k, W.pos s u v k ≤ k
  | 0 => Nat.le_refl _
  | k + 1 => by
    unfold zW.pos
    by_cases e : wah s u v (W.e k)
    · rw [cif_t e]
      exact Nat.le_trans (W.pos_le s u v k) (Nat.le_succ _)
    · rw [cif_f e]
      exact Nat.le_refl _
noncomputable def zW.add (W : zW) (s : Int32) (v : Int × Int) (u : Int32) : zW := (W.n + 1, W.ev + 1, ins W.e (W.pos s u v W.n) (s, u, W.ev, v))
def zW.rm (W : zW) (g : Nat) : zW := (W.n - g, W.ev, fun j => W.e (j + g))
def zW.gn (W : zW) (x : Int) : Nat := if (W.n : Int) < x then W.n else x.toNat
/-- with a hole at k -/
def CWH (h : jv_H) (b : Nat) (W : zW) (k : Nat) : Prop := (h.1 b 4).toInt = W.n ∧ h.1 b 5 = W.ev ∧ (∀ j, j < k → wtt h b j = wpk (W.e j)) ∧ ∀ j, k < j → j ≤ W.n → wtt h b j = wpk (W.e (j - 1))
def wmess (h : jv_H) (b k : Nat) (s : Int32) (v : Int64) (u : Int32) : jv_H := jv_uI (jv_uL (jv_uI h (b + 1) k s) (b + 2) k v) (b + 3) k u
section
variable (X : jv_X) (d n : Nat) (K : jv_H → Prop) (KI : Int32 → jv_H → Prop) (h : jv_H) (b : Nat) (W : zW)
theorem c_take (x y : Int32) (k j b2 : Nat) (hx : x.toInt = k) (hy : y.toInt = j) (hk : k < 24) (hj : j < 24) (l : WO n h b) (l2 : WO n h b2) (hab : b2 = b ∨ b + 5 ≤ b2 ∨ b2 + 5 ≤ b) (hK : K (wset h b k (wtt h b2 j))) : jV X (d + 1) y_Wants_take [.ref b, .int x, .ref b2, .int y] n h K := by
  refine r_Wants_take X d n _ b x b2 y h ?_
  repeat (first | refine ⟨(l).1, ?_⟩ | refine ⟨_, (l).2.1, ?_⟩ | refine ⟨_, (l).2.2.1, ?_⟩ | refine ⟨_, (l).2.2.2.1, ?_⟩ | refine ⟨_, (l).2.2.2.2.1, ?_⟩ | refine ⟨(l).xa (by assumption) (by omega), ?_⟩ | refine ⟨(l).xb (by assumption) (by omega), ?_⟩ | refine ⟨(l).xc (by assumption) (by omega), ?_⟩ | refine ⟨(l).xd (by assumption) (by omega), ?_⟩ | refine ⟨(l2).1, ?_⟩ | refine ⟨_, (l2).2.1, ?_⟩ | refine ⟨_, (l2).2.2.1, ?_⟩ | refine ⟨_, (l2).2.2.2.1, ?_⟩ | refine ⟨_, (l2).2.2.2.2.1, ?_⟩ | refine ⟨(l2).xa (by assumption) (by omega), ?_⟩ | refine ⟨(l2).xb (by assumption) (by omega), ?_⟩ | refine ⟨(l2).xc (by assumption) (by omega), ?_⟩ | refine ⟨(l2).xd (by assumption) (by omega), ?_⟩)
  rw [nz_nat hx, nz_nat hy]
  have e3 : ∀ v, jv_gI (jv_uL (jv_uI h (b + 1) k (jv_gI h (b2 + 1) j)) (b + 2) k v) (b2 + 3) j = h.1 (b2 + 3) j := fun v => show (jv_uI h (b + 1) k (jv_gI h (b2 + 1) j)).1 (b2 + 3) j = _ from uI_ne (by omega)
  have e4 : ∀ v w, jv_gI (jv_uI (jv_uL (jv_uI h (b + 1) k (jv_gI h (b2 + 1) j)) (b + 2) k v) (b + 3) k w) (b2 + 4) j = h.1 (b2 + 4) j := fun v w => (show (jv_uI (jv_uL (jv_uI h (b + 1) k (jv_gI h (b2 + 1) j)) (b + 2) k v) (b + 3) k w).1 (b2 + 4) j = (jv_uI h (b + 1) k (jv_gI h (b2 + 1) j)).1 (b2 + 4) j from uI_ne (by omega)).trans (uI_ne (by omega))
  rw [e4, e3]
  exact hK
theorem c_isAhead (x : Int32) (k : Nat) (hx : x.toInt = k) (hk : k < 24) (s u : Int32) (v : Int × Int) (hv : fz_r v) (l : WO n h b) (e : Int32 × Int32 × Int32 × (Int × Int)) (he : wtt h b k = wpk e) (hr : fz_r e.2.2.2) (hK1 : wah s u v e → KI 1 h) (hK0 : ¬ wah s u v e → KI 0 h) : jI X (d + 3) y_Wants_isAhead [.ref b, .int s, .long (fz_p v), .int u, .int x] n h KI := by
  have h1 : jv_gI h (b + 1) k = e.1 := congrArg Prod.fst he
  have h2 : jv_gL h (b + 2) k = fz_p e.2.2.2 := congrArg (fun t => t.2.1) he
  have h3 : jv_gI h (b + 3) k = e.2.1 := congrArg (fun t => t.2.2.1) he
  unfold wah at hK1 hK0
  refine r_Wants_isAhead X (d + 2) n _ b s (fz_p v) u x h ?_
  repeat (first | refine ⟨(l).1, ?_⟩ | refine ⟨_, (l).2.1, ?_⟩ | refine ⟨_, (l).2.2.1, ?_⟩ | refine ⟨_, (l).2.2.2.1, ?_⟩ | refine ⟨_, (l).2.2.2.2.1, ?_⟩ | refine ⟨(l).xa (by assumption) (by omega), ?_⟩ | refine ⟨(l).xb (by assumption) (by omega), ?_⟩ | refine ⟨(l).xc (by assumption) (by omega), ?_⟩ | refine ⟨(l).xd (by assumption) (by omega), ?_⟩)
  rw [nz_nat hx, h3]
  refine ⟨fun a => ?_, fun a => ?_⟩
  · rw [if_pos a] at hK1 hK0
    repeat (first | refine ⟨(l).1, ?_⟩ | refine ⟨_, (l).2.1, ?_⟩ | refine ⟨_, (l).2.2.1, ?_⟩ | refine ⟨_, (l).2.2.2.1, ?_⟩ | refine ⟨_, (l).2.2.2.2.1, ?_⟩ | refine ⟨(l).xa (by assumption) (by omega), ?_⟩ | refine ⟨(l).xb (by assumption) (by omega), ?_⟩ | refine ⟨(l).xc (by assumption) (by omega), ?_⟩ | refine ⟨(l).xd (by assumption) (by omega), ?_⟩)
    rw [h1]
    refine ⟨fun a2 => ?_, fun a2 => ?_⟩
    · rw [if_pos a2] at hK1 hK0
      repeat (first | refine ⟨(l).1, ?_⟩ | refine ⟨_, (l).2.1, ?_⟩ | refine ⟨_, (l).2.2.1, ?_⟩ | refine ⟨_, (l).2.2.2.1, ?_⟩ | refine ⟨_, (l).2.2.2.2.1, ?_⟩ | refine ⟨(l).xa (by assumption) (by omega), ?_⟩ | refine ⟨(l).xb (by assumption) (by omega), ?_⟩ | refine ⟨(l).xc (by assumption) (by omega), ?_⟩ | refine ⟨(l).xd (by assumption) (by omega), ?_⟩)
      rw [h2]
      refine c_compare X d n _ h _ _ hv hr ⟨fun y => ⟨Or.inl rfl, hK0 (fun w => w (nz_le.mp y))⟩, fun y => ⟨Or.inr rfl, hK1 (fun w => y (nz_le.mpr w))⟩⟩
    · rw [if_neg a2] at hK1 hK0
      repeat (first | refine ⟨(l).1, ?_⟩ | refine ⟨_, (l).2.1, ?_⟩ | refine ⟨_, (l).2.2.1, ?_⟩ | refine ⟨_, (l).2.2.2.1, ?_⟩ | refine ⟨_, (l).2.2.2.2.1, ?_⟩ | refine ⟨(l).xa (by assumption) (by omega), ?_⟩ | refine ⟨(l).xb (by assumption) (by omega), ?_⟩ | refine ⟨(l).xc (by assumption) (by omega), ?_⟩ | refine ⟨(l).xd (by assumption) (by omega), ?_⟩)
      rw [h1]
      refine ⟨fun y => ⟨Or.inl rfl, hK0 (fun w => ?_)⟩, fun y => ⟨Or.inr rfl, hK1 ?_⟩⟩
      · have := nz_le.mp y
        omega
      · have : ¬ e.1.toInt ≤ s.toInt := fun z => y (nz_le.mpr z)
        omega
  · rw [if_neg a] at hK1 hK0
    repeat (first | refine ⟨(l).1, ?_⟩ | refine ⟨_, (l).2.1, ?_⟩ | refine ⟨_, (l).2.2.1, ?_⟩ | refine ⟨_, (l).2.2.2.1, ?_⟩ | refine ⟨_, (l).2.2.2.2.1, ?_⟩ | refine ⟨(l).xa (by assumption) (by omega), ?_⟩ | refine ⟨(l).xb (by assumption) (by omega), ?_⟩ | refine ⟨(l).xc (by assumption) (by omega), ?_⟩ | refine ⟨(l).xd (by assumption) (by omega), ?_⟩)
    rw [h3]
    refine ⟨fun y => ⟨Or.inl rfl, hK0 (fun w => ?_)⟩, fun y => ⟨Or.inr rfl, hK1 ?_⟩⟩
    · have := nz_le.mp y
      omega
    · have : ¬ u.toInt ≤ e.2.1.toInt := fun z => y (nz_le.mpr z)
      omega
theorem wbec_l (Q : jv_Q) (b1 : Nat) (hab : b + 5 ≤ b1 ∨ b1 + 5 ≤ b) : ∀ (m k : Nat) (x : Int32) (h : jv_H), x.toInt = k → k + m = W.n → WO n h b → WO n h b1 → (h.1 b 4).toInt = W.n → h.1 b 5 = W.ev → (∀ j, j < k → wtt h b j = wpk (W.e j)) → CW h b1 W → (∀ h', oS (lw5 b) h h' → CW h' b W → Q none h') → a_Wants_become_18 X (d + 1) n Q b b1 x h 0
  | 0, k, x, h, hx, hm, l, l1, hz, hv, hj, c1, hQ => by
    exact r_Wants_become_18 X (d + 1) n Q b b1 x h ⟨l.1, fun _ => hQ h oS.rf ⟨hz, hv, c1.2.2.1, fun j hlt => ⟨hj j (by omega), (c1.2.2.2 j hlt).2⟩⟩, fun z => absurd (nz_le.mpr (by rw [show (jv_gI h b 4).toInt = W.n from hz, hx]; omega)) z⟩
  | m + 1, k, x, h, hx, hm, l, l1, hz, hv, hj, c1, hQ => by
    have hk : k < W.n := by omega
    have hle := c1.2.2.1
    refine r_Wants_become_18 X (d + 1) n Q b b1 x h ⟨l.1, fun z => ?_, fun z => ⟨l.1, ?_⟩⟩
    · have := nz_le.mp z
      rw [show (jv_gI h b 4).toInt = W.n from hz, hx] at this
      omega
    · refine c_take X d n _ h b x x k k b1 hx hx (by omega) (by omega) l l1 (Or.inr hab) ?_
      have ob := wset_o h b k (wtt h b1 k)
      refine wbec_l Q b1 hab m (k + 1) _ _ (nz_inc hx (by omega)) (by omega) (l.mv ob) (l1.mv ob) (by rw [wset_f]; exact hz) (by rw [wset_f]; exact hv) (fun j hlt => ?_) (c1.mv ob (fun q h1 h2 h3 => by have := h3.1; have := h3.2; omega)) (fun h' o' c' => hQ h' (ob.tr o') c')
      rw [wtt_set]
      by_cases ej : j = k
      · rw [if_pos ej, ej]
        exact (c1.2.2.2 k hk).1
      · rw [if_neg ej]
        exact hj j (by omega)
theorem c_W_become (b1 : Nat) (hab : b + 5 ≤ b1 ∨ b1 + 5 ≤ b) (l : WO n h b) (l1 : WO n h b1) (c1 : CW h b1 W) (hK : ∀ h', oS (lw5 b) h h' → CW h' b W → K h') : jV X (d + 2) y_Wants_become [.ref b, .ref b1] n h K := by
  have o1 : oS (lw5 b) h (jv_uI h b 4 (jv_gI h b1 4)) := oS_uI ⟨Nat.le_refl _, by omega⟩
  have o2 : oS (lw5 b) (jv_uI h b 4 (jv_gI h b1 4)) (jv_uI (jv_uI h b 4 (jv_gI h b1 4)) b 5 (jv_gI (jv_uI h b 4 (jv_gI h b1 4)) b1 5)) := oS_uI ⟨Nat.le_refl _, by omega⟩
  have o12 := o1.tr o2
  refine r_Wants_become X (d + 1) n _ b b1 h ⟨l1.1, l.1, l1.1, l.1, ?_⟩
  refine wbec_l X d n b W _ b1 hab W.n 0 0 _ rfl (by omega) (l.mv o12) (l1.mv o12) ?_ ?_ (fun j hj => by omega) (c1.mv o12 (fun q h1 h2 h3 => by have := h3.1; have := h3.2; omega)) (fun h' o' c' => hK h' (o12.tr o') c')
  · rw [uI_ne (by omega), uI_eq]
    exact c1.1
  · rw [uI_eq]
    show (jv_uI h b 4 (jv_gI h b1 4)).1 b1 5 = _
    rw [uI_ne (by omega)]
    exact c1.2.1
theorem add_fin (Q : jv_Q) (s u : Int32) (v : Int × Int) (hv : fz_r v) (hW : W.n < 24) (hr : ∀ j, j < W.n → fz_r (W.e j).2.2.2) (k : Nat) (hk : W.pos s u v W.n = k) (c : CWH h b W k) (hQ : ∀ h', oS (lw5 b) h h' → CW h' b (W.add s v u) → Q none h') :
    Q none (jv_uI (jv_uI (jv_uI (wmess h b k s (fz_p v) u) (b + 4) k (jv_gI (wmess h b k s (fz_p v) u) b 5)) b 4 ((jv_gI (jv_uI (wmess h b k s (fz_p v) u) (b + 4) k (jv_gI (wmess h b k s (fz_p v) u) b 5)) b 4) + 1)) b 5 ((jv_gI (jv_uI (jv_uI (wmess h b k s (fz_p v) u) (b + 4) k (jv_gI (wmess h b k s (fz_p v) u) b 5)) b 4 ((jv_gI (jv_uI (wmess h b k s (fz_p v) u) (b + 4) k (jv_gI (wmess h b k s (fz_p v) u) b 5)) b 4) + 1)) b 5) + 1)) := by
  obtain ⟨c1, c2, c3, c4⟩ := c
  have hkl := W.pos_le s u v W.n
  have e5 : jv_gI (wmess h b k s (fz_p v) u) b 5 = W.ev := by
    show (wmess h b k s (fz_p v) u).1 b 5 = _
    unfold wmess
    rw [uI_ne (by omega)]
    show (jv_uI h (b + 1) k s).1 b 5 = _
    rw [uI_ne (by omega)]
    exact c2
  rw [e5]
  have ew : jv_uI (wmess h b k s (fz_p v) u) (b + 4) k W.ev = wset h b k (wpk (s, u, W.ev, v)) := rfl
  rw [ew]
  have e6 : jv_gI (wset h b k (wpk (s, u, W.ev, v))) b 4 = h.1 b 4 := wset_f _ _ _ _ _
  rw [e6]
  have e7 : jv_gI (jv_uI (wset h b k (wpk (s, u, W.ev, v))) b 4 (h.1 b 4 + 1)) b 5 = W.ev := by
    show (jv_uI _ _ _ _).1 b 5 = _
    rw [uI_ne (by omega), wset_f]
    exact c2
  rw [e7]
  refine hQ _ (((wset_o _ _ _ _).tr (oS_uI (S := lw5 b) ⟨Nat.le_refl _, by omega⟩)).tr (oS_uI ⟨Nat.le_refl _, by omega⟩)) ⟨?_, uI_eq, by show W.n + 1 ≤ 24; omega, fun i hi => ?_⟩
  · rw [uI_ne (by omega), uI_eq]
    exact nz_inc c1 (by omega)
  · have hi : i < W.n + 1 := hi
    have hbu : wtt (jv_uI (jv_uI (wset h b k (wpk (s, u, W.ev, v))) b 4 (h.1 b 4 + 1)) b 5 (W.ev + 1)) b i = wtt (wset h b k (wpk (s, u, W.ev, v))) b i := by
      unfold wtt
      rw [uI_ne (by omega), uI_ne (by omega), uI_ne (by omega), uI_ne (by omega), uI_ne (by omega), uI_ne (by omega)]
      rfl
    rw [hbu, wtt_set]
    show _ = wpk (if i < W.pos s u v W.n then W.e i else if i = W.pos s u v W.n then (s, u, W.ev, v) else W.e (i - 1)) ∧ fz_r (if i < W.pos s u v W.n then W.e i else if i = W.pos s u v W.n then (s, u, W.ev, v) else W.e (i - 1)).2.2.2
    rw [hk]
    by_cases e1 : i < k
    · rw [if_pos e1, if_neg (by omega)]
      exact ⟨c3 i e1, hr i (by omega)⟩
    · rw [if_neg e1]
      by_cases e2 : i = k
      · rw [if_pos e2, if_pos e2]
        exact ⟨rfl, hv⟩
      · rw [if_neg e2, if_neg e2]
        exact ⟨c4 i (by omega) (by omega), hr (i - 1) (by omega)⟩
theorem add_l (Q : jv_Q) (s u : Int32) (v : Int × Int) (hv : fz_r v) (hW : W.n < 24) (hr : ∀ j, j < W.n → fz_r (W.e j).2.2.2) : ∀ (k : Nat) (x : Int32) (h : jv_H), x.toInt = k → k ≤ W.n → W.pos s u v W.n = W.pos s u v k → WO n h b → CWH h b W k → (∀ h', oS (lw5 b) h h' → CW h' b (W.add s v u) → Q none h') → a_Wants_add_16 X (d + 3) n Q b s (fz_p v) u x h 0
  | 0, x, h, hx, hk, hp, l, c, hQ => by
    refine r_Wants_add_16 X (d + 3) n Q b s _ u x h ⟨fun z => ?_, fun z => absurd (nz_le.mpr (by rw [hx]; show (0 : Int) ≤ 0; omega)) z⟩
    repeat (first | refine ⟨(l).1, ?_⟩ | refine ⟨_, (l).2.1, ?_⟩ | refine ⟨_, (l).2.2.1, ?_⟩ | refine ⟨_, (l).2.2.2.1, ?_⟩ | refine ⟨_, (l).2.2.2.2.1, ?_⟩ | refine ⟨(l).xa (by assumption) (by omega), ?_⟩ | refine ⟨(l).xb (by assumption) (by omega), ?_⟩ | refine ⟨(l).xc (by assumption) (by omega), ?_⟩ | refine ⟨(l).xd (by assumption) (by omega), ?_⟩)
    rw [nz_nat hx]
    exact add_fin h b W Q s u v hv hW hr 0 hp c hQ
  | k + 1, x, h, hx, hk, hp, l, c, hQ => by
    have e1 : (1 : Int32).toInt = 1 := rfl
    have hx1 : (x - 1).toInt = k := by rw [nz_subi (by rw [hx, e1]; omega) (by rw [hx, e1]; omega), hx, e1]; omega
    refine r_Wants_add_16 X (d + 3) n Q b s _ u x h ⟨fun z => ?_, fun z => ⟨l.1, ?_⟩⟩
    · have : x.toInt ≤ (0 : Int) := nz_le.mp z
      omega
    · refine c_isAhead X d n _ h b _ k hx1 (by omega) s u v hv l _ (c.2.2.1 k (by omega)) (hr k (by omega)) (fun a => ⟨fun z => absurd z (by decide), fun _ => ⟨l.1, ?_⟩⟩) (fun a => ⟨fun _ => ?_, fun z => absurd rfl z⟩)
      · refine c_take X (d + 2) n _ h b x _ (k + 1) k b hx hx1 (by omega) (by omega) l l (Or.inl rfl) ?_
        have ob := wset_o h b (k + 1) (wtt h b k)
        refine add_l Q s u v hv hW hr k _ _ (by rw [nz_dec hx (by omega)]; omega) (by omega) (hp.trans (cif_t a)) (l.mv ob) ⟨by rw [wset_f]; exact c.1, by rw [wset_f]; exact c.2.1, fun j hj => ?_, fun j h1 h2 => ?_⟩ (fun h' o' c' => hQ h' (ob.tr o') c')
        · rw [wtt_set, if_neg (by omega)]
          exact c.2.2.1 j (by omega)
        · rw [wtt_set]
          by_cases ej : j = k + 1
          · rw [if_pos ej, ej]
            exact c.2.2.1 k (by omega)
          · rw [if_neg ej]
            exact c.2.2.2 j (by omega) h2
      · repeat (first | refine ⟨(l).1, ?_⟩ | refine ⟨_, (l).2.1, ?_⟩ | refine ⟨_, (l).2.2.1, ?_⟩ | refine ⟨_, (l).2.2.2.1, ?_⟩ | refine ⟨_, (l).2.2.2.2.1, ?_⟩ | refine ⟨(l).xa (by assumption) (by omega), ?_⟩ | refine ⟨(l).xb (by assumption) (by omega), ?_⟩ | refine ⟨(l).xc (by assumption) (by omega), ?_⟩ | refine ⟨(l).xd (by assumption) (by omega), ?_⟩)
        rw [nz_nat hx]
        exact add_fin h b W Q s u v hv hW hr (k + 1) (hp.trans (cif_f a)) c hQ
theorem c_W_add (s u : Int32) (v : Int × Int) (hv : fz_r v) (l : WO n h b) (c : CW h b W) (hW : W.n < 24) (hK : ∀ h', oS (lw5 b) h h' → CW h' b (W.add s v u) → K h') : jV X (d + 4) y_Wants_add [.ref b, .int s, .long (fz_p v), .int u] n h K := by
  have hz : (jv_gI h b 4).toInt = W.n := c.1
  refine r_Wants_add X (d + 3) n _ b s _ u h ⟨l.1, fun z => ⟨l.1, ?_⟩, fun z => ?_⟩
  · exact add_l X d n b W _ s u v hv hW (fun j hj => (c.2.2.2 j hj).2) W.n _ h hz (Nat.le_refl _) rfl l ⟨c.1, c.2.1, fun j hj => (c.2.2.2 j hj).1, fun j h1 h2 => by omega⟩ hK
  · exact absurd (nz_lt.mpr (by rw [hz]; show (W.n : Int) < 24; omega)) z
theorem rm_l (Q : jv_Q) (g : Nat) (y : Int32) (hy : y.toInt = g) (hg : g ≤ W.n) (hW : W.n ≤ 24) (hr : ∀ j, j < W.n → fz_r (W.e j).2.2.2) : ∀ (m k : Nat) (x : Int32) (h : jv_H), x.toInt = k → k + m = W.n → g ≤ k → WO n h b → (h.1 b 4).toInt = W.n → h.1 b 5 = W.ev → (∀ j, j + g < k → wtt h b j = wpk (W.e (j + g))) → (∀ j, k ≤ j → j < W.n → wtt h b j = wpk (W.e j)) → (∀ h', oS (lw5 b) h h' → CW h' b (W.rm g) → Q (some (.int y)) h') → a_Wants_removeFirst_11 X (d + 1) n Q b y x h 0
  | 0, k, x, h, hx, hm, hgk, l, hz, hv, h1, h2, hQ => by
    refine r_Wants_removeFirst_11 X d n Q b y x h ⟨l.1, fun _ => ⟨l.1, l.1, ?_⟩, fun z => absurd (nz_le.mpr (by rw [show (jv_gI h b 4).toInt = W.n from hz, hx]; omega)) z⟩
    have hz' : (jv_gI h b 4).toInt = W.n := hz
    refine hQ _ (oS_uI ⟨Nat.le_refl _, by omega⟩) ⟨?_, ?_, by show W.n - g ≤ 24; omega, fun j hj => ?_⟩
    · rw [uI_eq, nz_subi (by rw [hz', hy]; omega) (by rw [hz', hy]; omega), hz', hy]
      show _ = ((W.n - g : Nat) : Int)
      omega
    · rw [uI_ne (by omega)]
      exact hv
    · have hj : j < W.n - g := hj
      have : wtt (jv_uI h b 4 (jv_gI h b 4 - y)) b j = wtt h b j := by
        unfold wtt
        rw [uI_ne (by omega), uI_ne (by omega), uI_ne (by omega)]
        rfl
      rw [this]
      exact ⟨h1 j (by omega), hr (j + g) (by omega)⟩
  | m + 1, k, x, h, hx, hm, hgk, l, hz, hv, h1, h2, hQ => by
    refine r_Wants_removeFirst_11 X d n Q b y x h ⟨l.1, fun z => ?_, fun z => ⟨l.1, ?_⟩⟩
    · have := nz_le.mp z
      rw [show (jv_gI h b 4).toInt = W.n from hz, hx] at this
      omega
    · refine c_take X d n _ h b _ x (k - g) k b (by rw [nz_sub_i hx hy (by omega) (by omega)]; omega) hx (by omega) (by omega) l l (Or.inl rfl) ?_
      have ob := wset_o h b (k - g) (wtt h b k)
      refine rm_l Q g y hy hg hW hr m (k + 1) _ _ (nz_inc hx (by omega)) (by omega) (by omega) (l.mv ob) (by rw [wset_f]; exact hz) (by rw [wset_f]; exact hv) (fun j hj => ?_) (fun j h3 h4 => ?_) (fun h' o' c' => hQ h' (ob.tr o') c')
      · rw [wtt_set]
        by_cases ej : j = k - g
        · rw [if_pos ej, ej, show k - g + g = k by omega]
          exact h2 k (Nat.le_refl _) (by omega)
        · rw [if_neg ej]
          exact h1 j (by omega)
      · rw [wtt_set, if_neg (by omega)]
        exact h2 j (by omega) h4
theorem c_removeFirst (x : Int32) (hx : 1 ≤ x.toInt) (l : WO n h b) (c : CW h b W) (hK : ∀ z : Int32, z.toInt = W.gn x.toInt → ∀ h', oS (lw5 b) h h' → CW h' b (W.rm (W.gn x.toInt)) → KI z h') : jI X (d + 2) y_Wants_removeFirst [.ref b, .int x] n h KI := by
  have hz : (jv_gI h b 4).toInt = W.n := c.1
  have hle := c.2.2.1
  have hg : (if jv_gI h b 4 < x then jv_gI h b 4 else x).toInt = W.gn x.toInt := by
    unfold zW.gn
    by_cases e : jv_gI h b 4 < x
    · have := nz_lt.mp e
      rw [hz] at this
      rw [if_pos e, if_pos this, hz]
    · have : ¬ (W.n : Int) < x.toInt := fun z => e (nz_lt.mpr (by rw [hz]; exact z))
      rw [if_neg e, if_neg this]
      omega
  have hgl : W.gn x.toInt ≤ W.n := by
    unfold zW.gn
    split
    · exact Nat.le_refl _
    · omega
  refine r_Wants_removeFirst X d n _ b x h ⟨l.1, ?_⟩
  exact rm_l X d n b W _ (W.gn x.toInt) _ hg hgl hle (fun j hj => (c.2.2.2 j hj).2) (W.n - W.gn x.toInt) (W.gn x.toInt) _ h hg (by omega) (Nat.le_refl _) l c.1 c.2.1 (fun j hj => by omega) (fun j h1 h2 => (c.2.2.2 j h2).1) (fun h' o' c' => hK _ hg h' o' c')
end
