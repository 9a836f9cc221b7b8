/-! ===== ladders of the class ===== -/
/-- a ladder: size, end, loss, sorts, shunts, values -/
def zL : Type := Nat × Int32 × (Int × Int) × (Nat → Int32) × (Nat → Int32) × (Nat → Int × Int)
def zL.sz (L : zL) : Nat := L.1
def zL.en (L : zL) : Int32 := L.2.1
def zL.lo (L : zL) : Int × Int := L.2.2.1
def zL.so (L : zL) : Nat → Int32 := L.2.2.2.1
def zL.sh (L : zL) : Nat → Int32 := L.2.2.2.2.1
def zL.va (L : zL) : Nat → Int × Int := L.2.2.2.2.2
def zL.add (L : zL) (s u : Int32) (v : Int × Int) : zL := (L.sz + 1, L.en, L.lo, fun j => if j = L.sz then s else L.so j, fun j => if j = L.sz then u else L.sh j, fun j => if j = L.sz then v else L.va j)
def zL.cut (L : zL) (k : Nat) : zL := (k, L.en, L.lo, L.so, L.sh, L.va)
def zL.fin (L : zL) (e : Int32) (q : Int × Int) : zL := (L.sz, e, q, L.so, L.sh, L.va)
/-- alike as far as their parts go -/
def zL.lk (A B : zL) : Prop := A.sz = B.sz ∧ A.en = B.en ∧ A.lo = B.lo ∧ ∀ j, j < A.sz → A.so j = B.so j ∧ A.sh j = B.sh j ∧ A.va j = B.va j
theorem zL.cut_lk {A : zL} {k : Nat} {s u : Int32} {v : Int × Int} (h1 : A.so k = s) (h2 : A.sh k = u) (h3 : A.va k = v) : ((A.cut k).add s u v).lk (A.cut (k + 1)) := by
  refine ⟨rfl, rfl, rfl, fun j hj => ?_⟩
  by_cases e : j = k
  · subst e
    exact ⟨(if_pos rfl).trans h1.symm, (if_pos rfl).trans h2.symm, (if_pos rfl).trans h3.symm⟩
  · exact ⟨if_neg e, if_neg e, if_neg e⟩
theorem jx {n a kd len : Nat} {i : Int32} (h1 : SHT a = (kd, len)) (h2 : a < n) (h3 : 0 ≤ i.toInt) (h4 : i.toInt < len) : jv_ix SHT n a kd i := ⟨⟨h2, by rw [h1]⟩, h3, by rw [h1]; exact h4⟩
def LO (n : Nat) (h : jv_H) (o : Nat) : Prop := jv_is SHT n o 13 ∧ h.2.2 o 0 = some (o + 1) ∧ h.2.2 o 1 = some (o + 2) ∧ h.2.2 o 2 = some (o + 3) ∧ o + 3 < n ∧ SHT (o + 1) = (0, 12) ∧ SHT (o + 2) = (2, 12) ∧ SHT (o + 3) = (1, 12)
theorem LO.mv {n o : Nat} {S : Nat → Prop} {h h' : jv_H} (l : LO n h o) (a : oS S h h') : LO n h' o := ⟨l.1, by rw [a.1]; exact l.2.1, by rw [a.1]; exact l.2.2.1, by rw [a.1]; exact l.2.2.2.1, l.2.2.2.2⟩
theorem LO.xa {n o k : Nat} {h : jv_H} {i : Int32} (l : LO n h o) (hi : i.toInt = k) (hk : k < 12) : jv_ix SHT n (o + 1) 0 i := jx l.2.2.2.2.2.1 (by have := l.2.2.2.2.1; omega) (by omega) (by omega)
theorem LO.xb {n o k : Nat} {h : jv_H} {i : Int32} (l : LO n h o) (hi : i.toInt = k) (hk : k < 12) : jv_ix SHT n (o + 2) 2 i := jx l.2.2.2.2.2.2.1 (by have := l.2.2.2.2.1; omega) (by omega) (by omega)
theorem LO.xc {n o k : Nat} {h : jv_H} {i : Int32} (l : LO n h o) (hi : i.toInt = k) (hk : k < 12) : jv_ix SHT n (o + 3) 1 i := jx l.2.2.2.2.2.2.2 (by have := l.2.2.2.2.1; omega) (by omega) (by omega)
def lw (o : Nat) : Nat → Prop := fun q => o ≤ q ∧ q < o + 4
def CL (h : jv_H) (o : Nat) (L : zL) : Prop := (h.1 o 3).toInt = L.sz ∧ h.1 o 4 = L.en ∧ h.2.1 o 5 = fz_p L.lo ∧ fz_r L.lo ∧ L.sz ≤ 12 ∧ ∀ j, j < L.sz → h.1 (o + 1) j = L.so j ∧ h.1 (o + 2) j = L.sh j ∧ h.2.1 (o + 3) j = fz_p (L.va j) ∧ fz_r (L.va j) ∧ (L.sh j = 0 ∨ L.sh j = 1)
theorem CL.eq {h : jv_H} {o : Nat} {A B : zL} (c : CL h o A) (e : A.lk B) : CL h o B := by
  obtain ⟨e1, e2, e3, e4⟩ := e
  obtain ⟨c1, c2, c3, c4, c5, c6⟩ := c
  refine ⟨by rw [← e1]; exact c1, by rw [← e2]; exact c2, by rw [← e3]; exact c3, by rw [← e3]; exact c4, by rw [← e1]; exact c5, fun j hj => ?_⟩
  rw [← e1] at hj
  obtain ⟨f1, f2, f3⟩ := e4 j hj
  rw [← f1, ← f2, ← f3]
  exact c6 j hj
theorem CL.mv {h h' : jv_H} {o : Nat} {L : zL} {S : Nat → Prop} (c : CL h o L) (a : oS S h h') (hs : ∀ q, o ≤ q → q < o + 4 → ¬ S q) : CL h' o L := by
  obtain ⟨c1, c2, c3, c4, c5, c6⟩ := c
  have a0 := a.2 o (hs o (by omega) (by omega))
  have a1 := a.2 (o + 1) (hs _ (by omega) (by omega))
  have a2 := a.2 (o + 2) (hs _ (by omega) (by omega))
  have a3 := a.2 (o + 3) (hs _ (by omega) (by omega))
  refine ⟨by rw [a0.1]; exact c1, by rw [a0.1]; exact c2, by rw [a0.2]; exact c3, c4, c5, fun j hj => ?_⟩
  rw [a1.1, a2.1, a3.2]
  exact c6 j hj
theorem CL.gs {h : jv_H} {o k : Nat} {L : zL} {x : Int32} (c : CL h o L) (hx : x.toInt = k) (hk : k < L.sz) : jv_gI h (o + 1) x.toNatClampNeg = L.so k := by rw [nz_nat hx]; exact (c.2.2.2.2.2 k hk).1
theorem CL.gu {h : jv_H} {o k : Nat} {L : zL} {x : Int32} (c : CL h o L) (hx : x.toInt = k) (hk : k < L.sz) : jv_gI h (o + 2) x.toNatClampNeg = L.sh k := by rw [nz_nat hx]; exact (c.2.2.2.2.2 k hk).2.1
theorem CL.gv {h : jv_H} {o k : Nat} {L : zL} {x : Int32} (c : CL h o L) (hx : x.toInt = k) (hk : k < L.sz) : jv_gL h (o + 3) x.toNatClampNeg = fz_p (L.va k) := by rw [nz_nat hx]; exact (c.2.2.2.2.2 k hk).2.2.1
theorem CL.vr {h : jv_H} {o k : Nat} {L : zL} (c : CL h o L) (hk : k < L.sz) : fz_r (L.va k) := (c.2.2.2.2.2 k hk).2.2.2.1
theorem CL.u1 {h : jv_H} {o k : Nat} {L : zL} (c : CL h o L) (hk : k < L.sz) : L.sh k = 0 ∨ L.sh k = 1 := (c.2.2.2.2.2 k hk).2.2.2.2
theorem CL.ge {h : jv_H} {o : Nat} {L : zL} (c : CL h o L) : jv_gI h o 4 = L.en := c.2.1
theorem CL.gl {h : jv_H} {o : Nat} {L : zL} (c : CL h o L) : jv_gL h o 5 = fz_p L.lo := c.2.2.1
theorem CL.gz {h : jv_H} {o : Nat} {L : zL} (c : CL h o L) : (jv_gI h o 3).toInt = L.sz := c.1
theorem CL.le {h : jv_H} {o : Nat} {L : zL} (c : CL h o L) : L.sz ≤ 12 := c.2.2.2.2.1
theorem uI_at (h : jv_H) (a i : Nat) (v : Int32) (b j : Nat) : (jv_uI h a i v).1 b j = if b = a ∧ j = i then v else h.1 b j := rfl
theorem uL_at2 (h : jv_H) (a i : Nat) (v : Int64) (b j : Nat) : (jv_uL h a i v).2.1 b j = if b = a ∧ j = i then v else h.2.1 b j := rfl
theorem uI_ne {h : jv_H} {a i : Nat} {v : Int32} {b j : Nat} (hne : ¬ (b = a ∧ j = i)) : (jv_uI h a i v).1 b j = h.1 b j := if_neg hne
theorem uI_eq {h : jv_H} {a i : Nat} {v : Int32} : (jv_uI h a i v).1 a i = v := if_pos ⟨rfl, rfl⟩
theorem uL_ne {h : jv_H} {a i : Nat} {v : Int64} {b j : Nat} (hne : ¬ (b = a ∧ j = i)) : (jv_uL h a i v).2.1 b j = h.2.1 b j := if_neg hne
theorem uL_eq {h : jv_H} {a i : Nat} {v : Int64} : (jv_uL h a i v).2.1 a i = v := if_pos ⟨rfl, rfl⟩
section
variable (X : jv_X) (d n : Nat) (K : jv_H → Prop) (KI : Int32 → jv_H → Prop) (KL : Int64 → jv_H → Prop) (h : jv_H) (o o1 : Nat) (L L1 : zL)
theorem c_addPart (s u : Int32) (v : Int × Int) (l : LO n h o) (c : CL h o L) (hs : L.sz < 12) (hu : u = 0 ∨ u = 1) (hv : fz_r v) (hK : ∀ h', oS (lw o) h h' → CL h' o (L.add s u v) → K h') : jV X (d + 1) y_Ladder_addPart [.ref o, .int s, .int u, .long (fz_p v)] n h K := by
  have hz := c.gz
  have g1 : jv_gI (jv_uI h (o + 1) (jv_gI h o 3).toNatClampNeg s) o 3 = jv_gI h o 3 := uI_ne (fun z => by omega)
  have g2 : jv_gI (jv_uI (jv_uI h (o + 1) (jv_gI h o 3).toNatClampNeg s) (o + 2) (jv_gI h o 3).toNatClampNeg u) o 3 = jv_gI h o 3 := (uI_ne (fun z => by omega)).trans g1
  refine r_Ladder_addPart X d n _ o s u (fz_p v) h ⟨l.1, fun z => ?_, fun _ => ?_⟩
  · have : (12 : Int) ≤ (jv_gI h o 3).toInt := nz_le.mp z
    omega
  · refine ⟨l.1, _, l.2.1, l.1, l.xa hz hs, l.1, _, l.2.2.1, l.1, ?_⟩
    rw [g1]
    refine ⟨l.xb hz hs, hu, l.1, _, l.2.2.2.1, l.1, ?_⟩
    rw [g2]
    refine ⟨l.xc hz hs, l.1, l.1, ?_⟩
    have g3 : jv_gI (jv_uL (jv_uI (jv_uI h (o + 1) (jv_gI h o 3).toNatClampNeg s) (o + 2) (jv_gI h o 3).toNatClampNeg u) (o + 3) (jv_gI h o 3).toNatClampNeg (fz_p v)) o 3 = jv_gI h o 3 := g2
    rw [g3, nz_nat hz]
    have hn := nz_inc hz (by omega)
    refine hK _ ((((oS_uI (S := lw o) ⟨by omega, by omega⟩).tr (oS_uI ⟨by omega, by omega⟩)).tr (oS_uL ⟨by omega, by omega⟩)).tr (oS_uI ⟨by omega, by omega⟩)) ?_
    obtain ⟨c1, c2, c3, c4, c5, c6⟩ := c
    refine ⟨?_, ?_, ?_, c4, by show L.sz + 1 ≤ 12; omega, fun j hj => ?_⟩
    · rw [uI_eq]
      exact hn
    · rw [uI_ne (fun z => by omega)]
      show (jv_uI _ _ _ _).1 _ _ = _
      rw [uI_ne (fun z => by omega), uI_ne (fun z => by omega)]
      exact c2
    · show (jv_uL _ _ _ _).2.1 _ _ = _
      rw [uL_ne (fun z => by omega)]
      exact c3
    · have hj : j < L.sz + 1 := hj
      have e1 : (jv_uI (jv_uL (jv_uI (jv_uI h (o + 1) L.sz s) (o + 2) L.sz u) (o + 3) L.sz (fz_p v)) o 3 (jv_gI h o 3 + 1)).1 (o + 1) j = if j = L.sz then s else h.1 (o + 1) j := by
        rw [uI_ne (fun z => by omega)]
        show (jv_uI _ _ _ _).1 _ _ = _
        rw [uI_ne (fun z => by omega), uI_at]
        by_cases e : j = L.sz
        · rw [if_pos ⟨rfl, e⟩, if_pos e]
        · rw [if_neg (fun z => e z.2), if_neg e]
      have e2 : (jv_uI (jv_uL (jv_uI (jv_uI h (o + 1) L.sz s) (o + 2) L.sz u) (o + 3) L.sz (fz_p v)) o 3 (jv_gI h o 3 + 1)).1 (o + 2) j = if j = L.sz then u else h.1 (o + 2) j := by
        rw [uI_ne (fun z => by omega)]
        show (jv_uI _ _ _ _).1 _ _ = _
        rw [uI_at]
        by_cases e : j = L.sz
        · rw [if_pos ⟨rfl, e⟩, if_pos e]
        · rw [if_neg (fun z => e z.2), if_neg e, uI_ne (fun z => by omega)]
      have e3 : (jv_uI (jv_uL (jv_uI (jv_uI h (o + 1) L.sz s) (o + 2) L.sz u) (o + 3) L.sz (fz_p v)) o 3 (jv_gI h o 3 + 1)).2.1 (o + 3) j = if j = L.sz then fz_p v else h.2.1 (o + 3) j := by
        show (jv_uL _ _ _ _).2.1 _ _ = _
        rw [uL_at2]
        by_cases e : j = L.sz
        · rw [if_pos ⟨rfl, e⟩, if_pos e]
        · rw [if_neg (fun z => e z.2), if_neg e]
          rfl
      rw [e1, e2, e3]
      show _ = (if j = L.sz then s else L.so j) ∧ _ = (if j = L.sz then u else L.sh j) ∧ _ = fz_p (if j = L.sz then v else L.va j) ∧ fz_r (if j = L.sz then v else L.va j) ∧ ((if j = L.sz then u else L.sh j) = 0 ∨ (if j = L.sz then u else L.sh j) = 1)
      by_cases e : j = L.sz
      · simp only [if_pos e]
        exact ⟨trivial, trivial, trivial, hv, hu⟩
      · simp only [if_neg e]
        exact c6 j (by omega)
theorem c_endWith (e : Int32) (q : Int × Int) (l : LO n h o) (c : CL h o L) (hq : fz_r q) (hK : ∀ h', oS (lw o) h h' → CL h' o (L.fin e q) → K h') : jV X (d + 1) y_Ladder_endWith [.ref o, .int e, .long (fz_p q)] n h K := by
  refine r_Ladder_endWith X d n _ o e (fz_p q) h ⟨l.1, l.1, ?_⟩
  refine hK _ ((oS_uI (S := lw o) ⟨by omega, by omega⟩).tr (oS_uL ⟨by omega, by omega⟩)) ?_
  obtain ⟨c1, c2, c3, c4, c5, c6⟩ := c
  refine ⟨(congrArg Int32.toInt (uI_ne (fun z => by omega))).trans c1, uI_eq, uL_eq, hq, c5, fun j hj => ?_⟩
  have e1 : (jv_uL (jv_uI h o 4 e) o 5 (fz_p q)).1 (o + 1) j = h.1 (o + 1) j := uI_ne (fun z => by omega)
  have e2 : (jv_uL (jv_uI h o 4 e) o 5 (fz_p q)).1 (o + 2) j = h.1 (o + 2) j := uI_ne (fun z => by omega)
  have e3 : (jv_uL (jv_uI h o 4 e) o 5 (fz_p q)).2.1 (o + 3) j = h.2.1 (o + 3) j := uL_ne (fun z => by omega)
  rw [e1, e2, e3]
  exact c6 j hj
/-- apart: no row in common -/
def ap (o o1 : Nat) : Prop := o + 4 ≤ o1 ∨ o1 + 4 ≤ o
theorem ap.s {a b : Nat} (h : ap a b) : ap b a := h.elim Or.inr Or.inl
theorem ap.no {o o1 : Nat} (h : ap o o1) : ∀ q, o1 ≤ q → q < o1 + 4 → ¬ lw o q := fun q h1 h2 h3 => by
  obtain ⟨h4, h5⟩ := h3
  rcases h with h | h
  · omega
  · omega
theorem c_beginLike (l : LO n h o) (l1 : LO n h o1) (c1 : CL h o1 L1) (ha : ap o o1) (hK : ∀ h', oS (lw o) h h' → CL h' o (L1.cut 0) → K h') : jV X (d + 2) y_Ladder_beginLike [.ref o, .ref o1] n h K := by
  refine r_Ladder_beginLike X (d + 1) n _ o o1 h ⟨l.1, l1.1, l1.1, l.1, ?_⟩
  have hne : o1 ≠ o := by
    rcases ha with h | h
    · omega
    · omega
  have g1 : jv_gI (jv_uI h o 3 0) o1 4 = L1.en := (uI_ne (fun z => hne z.1)).trans c1.ge
  rw [g1, show jv_gL (jv_uI h o 3 0) o1 5 = fz_p L1.lo from c1.gl]
  refine r_Ladder_endWith X d n _ o _ _ _ ⟨l.1, l.1, ?_⟩
  refine hK _ (((oS_uI (S := lw o) ⟨by omega, by omega⟩).tr (oS_uI (S := lw o) ⟨by omega, by omega⟩)).tr (oS_uL ⟨by omega, by omega⟩)) ?_
  refine ⟨?_, uI_eq, uL_eq, c1.2.2.2.1, Nat.zero_le _, fun j hj => absurd hj (Nat.not_lt_zero _)⟩
  show ((jv_uI _ _ _ _).1 _ _).toInt = _
  rw [uI_ne (fun z => by omega), uI_eq]
  rfl
theorem become_l (Q : jv_Q) (ha : ap o o1) : ∀ (m k : Nat) (x : Int32) (h : jv_H), x.toInt = k → k + m = L1.sz → LO n h o → LO n h o1 → CL h o (L1.cut k) → CL h o1 L1 → (∀ h', oS (lw o) h h' → CL h' o L1 → Q none h') → a_Ladder_become_7 X (d + 1) n Q o o1 x h 0
  | 0, k, x, h, hx, hm, l, l1, c, c1, hQ => by
    refine r_Ladder_become_7 X (d + 1) n Q o o1 x h ⟨l1.1, fun _ => ?_, fun z => ?_⟩
    · rw [show k = L1.sz by omega] at c
      exact hQ h oS.rf c
    · exact absurd (nz_le.mpr (by rw [c1.gz, hx]; omega)) z
  | m + 1, k, x, h, hx, hm, l, l1, c, c1, hQ => by
    have hk : k < L1.sz := by omega
    have hle := c1.le
    refine r_Ladder_become_7 X (d + 1) n Q o o1 x h ⟨l1.1, fun z => ?_, fun z => ?_⟩
    · have := nz_le.mp z
      rw [c1.gz, hx] at this
      omega
    · repeat (first | refine ⟨(l1).1, ?_⟩ | refine ⟨_, (l1).2.1, ?_⟩ | refine ⟨_, (l1).2.2.1, ?_⟩ | refine ⟨_, (l1).2.2.2.1, ?_⟩ | refine ⟨(l1).xa (by assumption) (by omega), ?_⟩ | refine ⟨(l1).xb (by assumption) (by omega), ?_⟩ | refine ⟨(l1).xc (by assumption) (by omega), ?_⟩ | refine ⟨(l).1, ?_⟩ | refine ⟨_, (l).2.1, ?_⟩ | refine ⟨_, (l).2.2.1, ?_⟩ | refine ⟨_, (l).2.2.2.1, ?_⟩ | refine ⟨(l).xa (by assumption) (by omega), ?_⟩ | refine ⟨(l).xb (by assumption) (by omega), ?_⟩ | refine ⟨(l).xc (by assumption) (by omega), ?_⟩)
      rw [c1.gs hx hk, c1.gu hx hk, c1.gv hx hk]
      refine c_addPart X d n _ h o (L1.cut k) _ _ _ l c (by show k < 12; omega) (c1.u1 hk) (c1.vr hk) (fun h' o' c' => ?_)
      exact become_l Q ha m (k + 1) _ h' (nz_inc hx (by omega)) (by omega) (l.mv o') (l1.mv o') (c'.eq (zL.cut_lk rfl rfl rfl)) (c1.mv o' ha.no) (fun h2 o2 c2 => hQ h2 (o'.tr o2) c2)
theorem c_L_become (l : LO n h o) (l1 : LO n h o1) (c1 : CL h o1 L1) (ha : ap o o1) (hK : ∀ h', oS (lw o) h h' → CL h' o L1 → K h') : jV X (d + 3) y_Ladder_become [.ref o, .ref o1] n h K := by
  refine r_Ladder_become X (d + 2) n _ o o1 h ⟨l.1, ?_⟩
  refine c_beginLike X d n _ h o o1 L1 l l1 c1 ha (fun h' o' c' => ?_)
  exact become_l X (d + 1) n o o1 L1 _ ha L1.sz 0 0 h' rfl (by omega) (l.mv o') (l1.mv o') c' (c1.mv o' ha.no) (fun h2 o2 c2 => hK h2 (o'.tr o2) c2)
end
