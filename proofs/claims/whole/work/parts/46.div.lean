/-! ===== the divider ===== -/
/-- a ladder under way: its loss may be anything -/
def CP (h : jv_H) (o : Nat) (L : zL) : Prop := (h.1 o 3).toInt = L.sz ∧ L.sz ≤ 12 ∧ ∀ j, j < L.sz → h.1 (o + 1) j = L.so j ∧ h.1 (o + 2) j = L.sh j ∧ h.2.1 (o + 3) j = fz_p (L.va j) ∧ fz_r (L.va j) ∧ (L.sh j = 0 ∨ L.sh j = 1)
theorem CP.gz {h : jv_H} {o : Nat} {L : zL} (c : CP h o L) : (jv_gI h o 3).toInt = L.sz := c.1
theorem CP.mv {h h' : jv_H} {o : Nat} {L : zL} {S : Nat → Prop} (c : CP h o L) (a : oS S h h') (hs : ∀ q, o ≤ q → q < o + 4 → ¬ S q) : CP h' o L := by
  obtain ⟨c1, c5, c6⟩ := c
  have a0 := a.2 o (hs o (by omega) (by omega))
  have a1 := a.2 (o + 1) (hs _ (by omega) (by omega))
  have a2 := a.2 (o + 2) (hs _ (by omega) (by omega))
  have a3 := a.2 (o + 3) (hs _ (by omega) (by omega))
  refine ⟨by rw [a0.1]; exact c1, c5, fun j hj => ?_⟩
  rw [a1.1, a2.1, a3.2]
  exact c6 j hj
/-- a ladder's place, emptied -/
def z0L : zL := (0, 0, (0, 1), fun _ => 0, fun _ => 0, fun _ => (0, 1))
theorem CP_new (h : jv_H) (o : Nat) : CP (jv_uI h o 3 0) o z0L := ⟨by rw [uI_eq]; rfl, Nat.zero_le _, fun j hj => absurd hj (Nat.not_lt_zero _)⟩
section
variable (X : jv_X) (d n : Nat) (K : jv_H → Prop) (KI : Int32 → jv_H → Prop) (KL : Int64 → jv_H → Prop) (h : jv_H) (o o1 : Nat) (L L1 : zL)
theorem c_addPart0 (s u : Int32) (v : Int × Int) (l : LO n h o) (c : CP h o L) (hs : L.sz < 12) (hu : u = 0 ∨ u = 1) (hv : fz_r v) (hK : ∀ h', oS (lw o) h h' → CP h' o (L.add s u v) → K h') : jV X (d + 1) y_Ladder_addPart [.ref o, .int s, .int u, .long (fz_p v)] n h K := by
  have hz := c.gz
  have g1 : jv_gI (jv_uI h (o + 1) (jv_gI h o 3).toNatClampNeg s) o 3 = jv_gI h o 3 := uI_ne (fun z => by omega)
  have g2 : jv_gI (jv_uI (jv_uI h (o + 1) (jv_gI h o 3).toNatClampNeg s) (o + 2) (jv_gI h o 3).toNatClampNeg u) o 3 = jv_gI h o 3 := (uI_ne (fun z => by omega)).trans g1
  refine r_Ladder_addPart X d n _ o s u (fz_p v) h ⟨l.1, fun z => ?_, fun _ => ?_⟩
  · have : (12 : Int) ≤ (jv_gI h o 3).toInt := nz_le.mp z
    omega
  · refine ⟨l.1, _, l.2.1, l.1, l.xa hz hs, l.1, _, l.2.2.1, l.1, ?_⟩
    rw [g1]
    refine ⟨l.xb hz hs, hu, l.1, _, l.2.2.2.1, l.1, ?_⟩
    rw [g2]
    refine ⟨l.xc hz hs, l.1, l.1, ?_⟩
    have g3 : jv_gI (jv_uL (jv_uI (jv_uI h (o + 1) (jv_gI h o 3).toNatClampNeg s) (o + 2) (jv_gI h o 3).toNatClampNeg u) (o + 3) (jv_gI h o 3).toNatClampNeg (fz_p v)) o 3 = jv_gI h o 3 := g2
    rw [g3, nz_nat hz]
    have hn := nz_inc hz (by omega)
    refine hK _ ((((oS_uI (S := lw o) ⟨by omega, by omega⟩).tr (oS_uI ⟨by omega, by omega⟩)).tr (oS_uL ⟨by omega, by omega⟩)).tr (oS_uI ⟨by omega, by omega⟩)) ?_
    obtain ⟨c1, c5, c6⟩ := c
    refine ⟨?_, by show L.sz + 1 ≤ 12; omega, fun j hj => ?_⟩
    · rw [uI_eq]
      exact hn
    · have hj : j < L.sz + 1 := hj
      have e1 : (jv_uI (jv_uL (jv_uI (jv_uI h (o + 1) L.sz s) (o + 2) L.sz u) (o + 3) L.sz (fz_p v)) o 3 (jv_gI h o 3 + 1)).1 (o + 1) j = if j = L.sz then s else h.1 (o + 1) j := by
        rw [uI_ne (fun z => by omega)]
        show (jv_uI _ _ _ _).1 _ _ = _
        rw [uI_ne (fun z => by omega), uI_at]
        by_cases e : j = L.sz
        · rw [if_pos ⟨rfl, e⟩, if_pos e]
        · rw [if_neg (fun z => e z.2), if_neg e]
      have e2 : (jv_uI (jv_uL (jv_uI (jv_uI h (o + 1) L.sz s) (o + 2) L.sz u) (o + 3) L.sz (fz_p v)) o 3 (jv_gI h o 3 + 1)).1 (o + 2) j = if j = L.sz then u else h.1 (o + 2) j := by
        rw [uI_ne (fun z => by omega)]
        show (jv_uI _ _ _ _).1 _ _ = _
        rw [uI_at]
        by_cases e : j = L.sz
        · rw [if_pos ⟨rfl, e⟩, if_pos e]
        · rw [if_neg (fun z => e z.2), if_neg e, uI_ne (fun z => by omega)]
      have e3 : (jv_uI (jv_uL (jv_uI (jv_uI h (o + 1) L.sz s) (o + 2) L.sz u) (o + 3) L.sz (fz_p v)) o 3 (jv_gI h o 3 + 1)).2.1 (o + 3) j = if j = L.sz then fz_p v else h.2.1 (o + 3) j := by
        show (jv_uL _ _ _ _).2.1 _ _ = _
        rw [uL_at2]
        by_cases e : j = L.sz
        · rw [if_pos ⟨rfl, e⟩, if_pos e]
        · rw [if_neg (fun z => e z.2), if_neg e]
          rfl
      rw [e1, e2, e3]
      show _ = (if j = L.sz then s else L.so j) ∧ _ = (if j = L.sz then u else L.sh j) ∧ _ = fz_p (if j = L.sz then v else L.va j) ∧ fz_r (if j = L.sz then v else L.va j) ∧ ((if j = L.sz then u else L.sh j) = 0 ∨ (if j = L.sz then u else L.sh j) = 1)
      by_cases e : j = L.sz
      · simp only [if_pos e]
        exact ⟨trivial, trivial, trivial, hv, hu⟩
      · simp only [if_neg e]
        exact c6 j (by omega)
theorem c_endWith0 (e : Int32) (q : Int × Int) (l : LO n h o) (c : CP h o L) (hq : fz_r q) (hK : ∀ h', oS (lw o) h h' → CL h' o (L.fin e q) → K h') : jV X (d + 1) y_Ladder_endWith [.ref o, .int e, .long (fz_p q)] n h K := by
  refine r_Ladder_endWith X d n _ o e (fz_p q) h ⟨l.1, l.1, ?_⟩
  refine hK _ ((oS_uI (S := lw o) ⟨by omega, by omega⟩).tr (oS_uL ⟨by omega, by omega⟩)) ?_
  obtain ⟨c1, c5, c6⟩ := c
  refine ⟨(congrArg Int32.toInt (uI_ne (fun z => by omega))).trans c1, uI_eq, uL_eq, hq, c5, fun j hj => ?_⟩
  have e1 : (jv_uL (jv_uI h o 4 e) o 5 (fz_p q)).1 (o + 1) j = h.1 (o + 1) j := uI_ne (fun z => by omega)
  have e2 : (jv_uL (jv_uI h o 4 e) o 5 (fz_p q)).1 (o + 2) j = h.1 (o + 2) j := uI_ne (fun z => by omega)
  have e3 : (jv_uL (jv_uI h o 4 e) o 5 (fz_p q)).2.1 (o + 3) j = h.2.1 (o + 3) j := uL_ne (fun z => by omega)
  rw [e1, e2, e3]
  exact c6 j hj
end
def rch (fh : Int32) (f : Nat → Int × Int) : Int := if fh = 0 then -(pz_lo f 13 0) else pz_hi f 13
def ldr (fh : Int32) (f : Nat → Int × Int) : Int × Int := pz_at f (if fh = 0 then pz_lo f 13 0 else pz_hi f 13)
def dv_s (fh : Int32) (hh : Int) (u : Int32) : Int32 := if hh = 0 then 2 else if fh = 0 then (if u = 0 then 1 else 0) else (if u = 0 then 0 else 1)
def dv_v (fh : Int32) (hh : Int) (u : Int32) (q : Int × Int) : Int × Int := if hh = 0 then (if u = 0 then q else fz_inv q) else if fh = 0 then fz_inv q else q
/-- one part of a division: an answer, or on -/
noncomputable def dv1 (fh : Int32) (A B : Nat → Int × Int) (u : Int32) (L : zL) : Sum Int (Option (Nat → Int × Int) × zL) :=
  if 2 ≤ rch fh A - rch fh B then .inl (-200 - L.sz) else if 12 ≤ L.sz then .inl (-300) else if fz_quo (ldr fh A) (ldr fh B) = (-1, 0) then .inl (-6) else if (fz_quo (ldr fh A) (ldr fh B)).1 < 0 then .inl (-100 - L.sz) else
    cif (noW (pz_add A B (fz_neg (fz_quo (ldr fh A) (ldr fh B))) (if fh = 0 then -(rch fh A - rch fh B) else rch fh A - rch fh B)))
      (if pz_hi (pz_add A B (fz_neg (fz_quo (ldr fh A) (ldr fh B))) (if fh = 0 then -(rch fh A - rch fh B) else rch fh A - rch fh B)) 13 < 0 then .inr (none, (L.add (dv_s fh (rch fh A - rch fh B) u) u (dv_v fh (rch fh A - rch fh B) u (fz_quo (ldr fh A) (ldr fh B)))).fin u (0, 1))
        else .inr (some (pz_add A B (fz_neg (fz_quo (ldr fh A) (ldr fh B))) (if fh = 0 then -(rch fh A - rch fh B) else rch fh A - rch fh B)), L.add (dv_s fh (rch fh A - rch fh B) u) u (dv_v fh (rch fh A - rch fh B) u (fz_quo (ldr fh A) (ldr fh B))))) (.inl (-6))
def DV (n : Nat) (h : jv_H) (pa pb : Nat) : Prop := jv_is SHT n 3 11 ∧ h.2.2 3 0 = some pa ∧ h.2.2 3 1 = some pb ∧ PO n h pa (pa + 1) ∧ PO n h pb (pb + 1) ∧ (pa = 4 ∧ pb = 6 ∨ pa = 6 ∧ pb = 4)
theorem DV.mv {n pa pb : Nat} {S : Nat → Prop} {h h' : jv_H} (v : DV n h pa pb) (a : oS S h h') : DV n h' pa pb := ⟨v.1, by rw [a.1]; exact v.2.1, by rw [a.1]; exact v.2.2.1, v.2.2.2.1.mv a, v.2.2.2.2.1.mv a, v.2.2.2.2.2⟩
theorem DV.p {n pa pb : Nat} {h : jv_H} (v : DV n h pa pb) : PO n h pa (pa + 1) := v.2.2.2.1
theorem DV.q {n pa pb : Nat} {h : jv_H} (v : DV n h pa pb) : PO n h pb (pb + 1) := v.2.2.2.2.1
theorem DV.ne {n pa pb : Nat} {h : jv_H} (v : DV n h pa pb) : pb + 1 ≠ pa + 1 := by
  rcases v.2.2.2.2.2 with z | z
  · omega
  · omega
section
variable (X : jv_X) (d n : Nat) (K : jv_H → Prop) (KI : Int32 → jv_H → Prop) (KL : Int64 → jv_H → Prop) (h : jv_H) (o pa pb : Nat) (L : zL) (fh u : Int32)
theorem c_reach (p a : Nat) (f : Nat → Int × Int) (h3 : jv_is SHT n 3 11) (hp : PO n h p a) (hf : pc h a f) (hfh : h.1 3 3 = fh) (hK : ∀ z : Int32, z.toInt = rch fh f → KI z h) : jI X (d + 2) y_Divider_reach [.ref 3, .ref p] n h KI := by
  unfold rch at hK
  refine r_Divider_reach X (d + 1) n _ 3 p h ⟨h3, ?_⟩
  rw [show jv_gI h 3 3 = fh from hfh]
  refine ⟨fun e => ⟨hp.1, ?_⟩, fun e => ⟨hp.1, ?_⟩⟩
  · rw [if_pos e] at hK
    refine c_lowest X d n _ h p a f hp hf (fun z ez => hK _ ?_)
    have hb : -1 ≤ pz_lo f 13 0 ∧ pz_lo f 13 0 ≤ 13 := by
      have key : ∀ r k, -1 ≤ pz_lo f r k ∧ pz_lo f r k ≤ k + r := by
        intro r
        induction r with
        | zero => intro k; exact ⟨by show (-1 : Int) ≤ -1; omega, by show (-1 : Int) ≤ _; omega⟩
        | succ r ih =>
          intro k
          unfold pz_lo
          have := ih (k + 1)
          split
          · omega
          · omega
      have := key 13 0
      omega
    rw [Int32.toInt_neg, ez, nz_bm32 (by omega) (by omega)]
  · rw [if_neg e] at hK
    exact c_highest X d n _ h p a f hp hf hK
theorem c_leader (p a : Nat) (f : Nat → Int × Int) (h3 : jv_is SHT n 3 11) (hp : PO n h p a) (hf : pc h a f) (hfh : h.1 3 3 = fh) (hK : KL (fz_p (ldr fh f)) h) : jL X (d + 3) y_Divider_leader [.ref 3, .ref p] n h KL := by
  unfold ldr at hK
  refine r_Divider_leader X (d + 2) n _ 3 p h ⟨h3, ?_⟩
  rw [show jv_gI h 3 3 = fh from hfh]
  refine ⟨fun e => ⟨hp.1, ?_⟩, fun e => ⟨hp.1, ?_⟩⟩
  · rw [if_pos e] at hK
    exact c_lowest X (d + 1) n _ h p a f hp hf (fun z ez => ⟨hp.1, c_at X d n _ h p a f z hp hf (by rw [ez]; exact hK)⟩)
  · rw [if_neg e] at hK
    exact c_highest X (d + 1) n _ h p a f hp hf (fun z ez => ⟨hp.1, c_at X d n _ h p a f z hp hf (by rw [ez]; exact hK)⟩)
theorem c_addPartOf (x : Int32) (hh : Int) (hx : x.toInt = hh) (q : Int × Int) (hq : fz_r q) (h3 : jv_is SHT n 3 11) (hfh : h.1 3 3 = fh) (hu : h.1 3 2 = u) (hu1 : u = 0 ∨ u = 1) (l : LO n h o) (c : CP h o L) (hs : L.sz < 12) (hK : ∀ h', oS (lw o) h h' → CP h' o (L.add (dv_s fh hh u) u (dv_v fh hh u q)) → K h') : jV X (d + 4) y_Divider_addPartOf [.ref 3, .int x, .long (fz_p q), .ref o] n h K := by
  have e0 : x = 0 ↔ hh = 0 := nz_z hx
  unfold dv_s dv_v at hK
  refine r_Divider_addPartOf X (d + 3) n _ 3 x _ o h ?_
  rw [show jv_gI h 3 3 = fh from hfh, show jv_gI h 3 2 = u from hu]
  refine ⟨fun a => ⟨h3, fun b => ⟨h3, fun e => ⟨h3, ?_⟩, fun e => ⟨h3, ?_⟩⟩, fun b => ⟨h3, fun e => ⟨h3, l.1, ?_⟩, fun e => ⟨h3, l.1, ?_⟩⟩⟩, fun a => ⟨h3, h3, fun e => ⟨l.1, ?_⟩, fun e => ?_⟩⟩
  · have a : ¬ hh = 0 := fun z => a (e0.mpr z)
    rw [if_neg a, if_neg a, if_pos b, if_pos b, if_pos e] at hK
    exact c_reciprocal X d n _ h _ hq ⟨l.1, c_addPart0 X (d + 2) n _ h o L 1 u _ l c hs hu1 (fz_inv_r _) hK⟩
  · have a : ¬ hh = 0 := fun z => a (e0.mpr z)
    rw [if_neg a, if_neg a, if_pos b, if_pos b, if_neg e] at hK
    exact c_reciprocal X d n _ h _ hq ⟨l.1, c_addPart0 X (d + 2) n _ h o L 0 u _ l c hs hu1 (fz_inv_r _) hK⟩
  · have a : ¬ hh = 0 := fun z => a (e0.mpr z)
    rw [if_neg a, if_neg a, if_neg b, if_neg b, if_pos e] at hK
    exact c_addPart0 X (d + 2) n _ h o L 0 u _ l c hs hu1 hq hK
  · have a : ¬ hh = 0 := fun z => a (e0.mpr z)
    rw [if_neg a, if_neg a, if_neg b, if_neg b, if_neg e] at hK
    exact c_addPart0 X (d + 2) n _ h o L 1 u _ l c hs hu1 hq hK
  · have a : hh = 0 := e0.mp a
    rw [if_pos a, if_pos a, if_pos e] at hK
    exact c_addPart0 X (d + 2) n _ h o L 2 u _ l c hs hu1 hq hK
  · have a : hh = 0 := e0.mp a
    rw [if_pos a, if_pos a, if_neg e] at hK
    exact c_reciprocal X d n _ h _ hq ⟨l.1, c_addPart0 X (d + 2) n _ h o L 2 u _ l c hs hu1 (fz_inv_r _) hK⟩
def dw (o : Nat) : Nat → Prop := fun q => q = 3 ∨ q = 5 ∨ q = 7 ∨ lw o q
theorem rch_b (fh : Int32) (f : Nat → Int × Int) : -13 ≤ rch fh f ∧ rch fh f ≤ 13 := by
  have hb : -1 ≤ pz_lo f 13 0 ∧ pz_lo f 13 0 ≤ 13 := by
    have key : ∀ r k, -1 ≤ pz_lo f r k ∧ pz_lo f r k ≤ k + r := by
      intro r
      induction r with
      | zero => intro k; exact ⟨by show (-1 : Int) ≤ -1; omega, by show (-1 : Int) ≤ _; omega⟩
      | succ r ih =>
        intro k
        unfold pz_lo
        have := ih (k + 1)
        split
        · omega
        · omega
    have := key 13 0
    omega
  have := pz_hi_le f 13
  unfold rch
  split
  · omega
  · omega
theorem DV.ldr_r {a : Nat} {h : jv_H} {f : Nat → Int × Int} (fh : Int32) (hf : pc h a f) : fz_r (ldr fh f) := pz_at_r hf _
theorem part23 (A B : Nat → Int × Int) (v : DV n h pa pb) (hA : pc h (pa + 1) A) (hB : pc h (pb + 1) B) (hfh : h.1 3 3 = fh) (hu : h.1 3 2 = u) (hu1 : u = 0 ∨ u = 1) (l : LO n h o) (c : CP h o L) (ho : 7 < o)
    (hK0 : ∀ e, dv1 fh A B u L = .inl e → ∀ h', oS (dw o) h h' → ∀ z : Int32, z.toInt = e → KI z h') (hK1 : ∀ M, dv1 fh A B u L = .inr (none, M) → ∀ h', oS (dw o) h h' → CL h' o M → KI 0 h')
    (hK2 : ∀ A' M, dv1 fh A B u L = .inr (some A', M) → ∀ h', oS (dw o) h h' → CP h' o M → pc h' (pa + 1) A' → pc h' (pb + 1) B → h'.1 3 3 = fh → h'.1 3 2 = u → KI 1 h') : a_Divider_makePart_23 X (d + 4) n (jv_rI KI) 3 o h 0 := by
  have rA := rch_b fh A
  have rB := rch_b fh B
  have h3 := v.1
  have hz := c.gz
  have hle : L.sz ≤ 12 := c.2.1
  unfold dv1 at hK0 hK1 hK2
  have low : ∀ {h1 h2 : jv_H}, oS (lw o) h1 h2 → oS (dw o) h1 h2 := fun a => a.mono (fun _ z => Or.inr (Or.inr (Or.inr z)))
  have hp57 : dw o (pa + 1) := by
    rcases v.2.2.2.2.2 with z | z
    · exact Or.inr (Or.inl (by omega))
    · exact Or.inr (Or.inr (Or.inl (by omega)))
  have npa : ¬ lw o (pa + 1) := fun z => by
    obtain ⟨z1, z2⟩ := z
    rcases v.2.2.2.2.2 with y | y
    · omega
    · omega
  have npb : ¬ lw o (pb + 1) := fun z => by
    obtain ⟨z1, z2⟩ := z
    rcases v.2.2.2.2.2 with y | y
    · omega
    · omega
  have n3 : ¬ lw o 3 := fun z => by
    obtain ⟨z1, z2⟩ := z
    omega
  have n3a : ¬ (3 = pa + 1) := by
    rcases v.2.2.2.2.2 with y | y
    · omega
    · omega
  have nla : ∀ q, o ≤ q → q < o + 4 → ¬ q = pa + 1 := fun q z1 z2 z3 => by
    rcases v.2.2.2.2.2 with y | y
    · omega
    · omega
  refine r_Divider_makePart_23 X (d + 4) n _ 3 o h ⟨h3, _, v.2.1, h3, c_reach X (d + 2) n _ h fh pa (pa + 1) A h3 v.p hA hfh (fun z3 e3 => ⟨h3, _, v.2.2.1, h3, c_reach X (d + 2) n _ h fh pb (pb + 1) B h3 v.q hB hfh (fun z6 e6 => ?_)⟩)⟩
  have eh : (z3 - z6).toInt = rch fh A - rch fh B := nz_sub_i e3 e6 (by omega) (by omega)
  refine ⟨fun a => ⟨l.1, fun b => ?_, fun b => ?_⟩, fun a => ⟨l.1, ?_⟩⟩
  · have a : ¬ 2 ≤ rch fh A - rch fh B := by
      have : (z3 - z6).toInt < 2 := nz_lt.mp a
      omega
    have b : ¬ 12 ≤ L.sz := by
      have : (jv_gI h o 3).toInt < 12 := nz_lt.mp b
      omega
    rw [if_neg a, if_neg b] at hK0 hK1 hK2
    refine ⟨h3, _, v.2.1, h3, c_leader X (d + 1) n _ h fh pa (pa + 1) A h3 v.p hA hfh ⟨h3, _, v.2.2.1, h3, c_leader X (d + 1) n _ h fh pb (pb + 1) B h3 v.q hB hfh ?_⟩⟩
    refine c_quotient X (d + 1) n _ h _ _ (DV.ldr_r fh hA) (DV.ldr_r fh hB) ?_
    have hqr : fz_r (fz_quo (ldr fh A) (ldr fh B)) := fz_quo_r _ _
    generalize fz_quo (ldr fh A) (ldr fh B) = q at hK0 hK1 hK2 hqr ⊢
    refine c_isWide X (d + 3) n _ h _ hqr ⟨fun y => ?_, fun y => ?_⟩
    · rw [nz_bt] at y
      rw [if_neg y] at hK0 hK1 hK2
      refine c_above X (d + 3) n _ h _ hqr (fun z18 e18 => ⟨fun w => ⟨h3, ?_⟩, fun w => ⟨l.1, ?_⟩⟩)
      · have w : ¬ q.1 < 0 := by
          have : (0 : Int) ≤ z18.toInt := nz_le.mp w
          omega
        rw [if_neg w] at hK0 hK1 hK2
        refine c_addPartOf X d n _ h o L fh u _ _ eh q hqr h3 hfh hu hu1 l c (by omega) (fun h1 o1 c1 => ?_)
        have v1 := v.mv o1
        have A1 := hA.mv o1 npa
        have B1 := hB.mv o1 npb
        have f1 : h1.1 3 3 = fh := by rw [(o1.2 3 n3).1]; exact hfh
        have u1 : h1.1 3 2 = u := by rw [(o1.2 3 n3).1]; exact hu
        refine ⟨h3, _, v1.2.1, h3, _, v1.2.2.1, c_negative X d n _ h1 q hqr ⟨h3, ?_⟩⟩
        rw [show jv_gI h1 3 3 = fh from f1]
        generalize hhe : rch fh A - rch fh B = hh at hK0 hK1 hK2 eh c1
        have body : ∀ (x : Int32) (r : Int), x.toInt = r → r = (if fh = 0 then -hh else hh) → jv_is SHT n pa 14 ∧ jI X (d + 4) y_Poly_addTimes [.ref pa, .ref pb, .long (fz_p (fz_neg q)), .int x] n h1 (fun z25 h24 => (¬ z25 = 0 → (jv_is SHT n 3 11 ∧ (∃ a26 : Nat, jv_gR h24 3 0 = some a26 ∧ (jv_is SHT n a26 14 ∧ jI X (d + 4) y_Poly_isZero [.ref a26] n h24 (fun z28 h27 => (¬ z28 = 0 → (jv_is SHT n 3 11 ∧ (((jv_gI h27 3 2) = 0 → (jv_is SHT n o 13 ∧ jV X (d + 4) y_Ladder_endWith [.ref o, .int (0 : Int32), .long (1 : Int64)] n h27 (fun h29 => KI 0 h29))) ∧ (¬ (jv_gI h27 3 2) = 0 → (jv_is SHT n o 13 ∧ jV X (d + 4) y_Ladder_endWith [.ref o, .int (1 : Int32), .long (1 : Int64)] n h27 (fun h30 => KI 0 h30)))))) ∧ (z28 = 0 → KI 1 h27)))))) ∧ (z25 = 0 → KI (-6) h24)) := by
          intro x r hx hr
          rw [← hr] at hK0 hK1 hK2
          refine ⟨v1.p.1, c_addTimes X d n _ h1 pa (pa + 1) pb (pb + 1) A B (fz_neg q) (fz_neg_r _) x r hx (by rw [hr]; split <;> omega) v.ne v1.p v1.q A1 B1 (fun y1 h2 o2 c2 => ⟨fun _ => ?_, fun z => absurd z (by decide)⟩) (fun y1 h2 o2 => ⟨fun z => absurd rfl z, fun _ => ?_⟩)⟩
          · rw [cif_t (show noW _ from y1)] at hK1 hK2
            have v2 := v1.mv o2
            have oo := (low o1).tr (o2.mono (fun w (hw : w = pa + 1) => by rw [hw]; exact hp57))
            have f2 : h2.1 3 3 = fh := by rw [(o2.2 3 n3a).1]; exact f1
            have u2 : h2.1 3 2 = u := by rw [(o2.2 3 n3a).1]; exact u1
            have l2 := (l.mv o1).mv o2
            have c2' := c1.mv o2 nla
            refine ⟨h3, _, v2.2.1, v2.p.1, c_isZero X (d + 2) n _ h2 pa (pa + 1) _ v2.p c2 ⟨fun z => ⟨h3, ?_⟩, fun z => ?_⟩⟩
            · rw [nz_bt, Classical.not_not] at z
              rw [if_pos z] at hK1
              rw [show jv_gI h2 3 2 = u from u2, ← fz_p_0]
              refine ⟨fun e => ⟨l.1, ?_⟩, fun e => ⟨l.1, ?_⟩⟩
              · subst e
                exact c_endWith0 X (d + 3) n _ h2 o _ 0 (0, 1) l2 c2' fz_r_0 (fun h4 o4 c4 => hK1 _ rfl h4 (oo.tr (low o4)) c4)
              · have e1 : u = 1 := hu1.elim (fun z => absurd z e) id
                subst e1
                exact c_endWith0 X (d + 3) n _ h2 o _ 1 (0, 1) l2 c2' fz_r_0 (fun h4 o4 c4 => hK1 _ rfl h4 (oo.tr (low o4)) c4)
            · rw [nz_bt] at z
              rw [if_neg z] at hK2
              exact hK2 _ _ rfl h2 oo c2' c2 (B1.mv o2 v.ne) f2 u2
          · rw [cif_f (noW_not y1)] at hK0
            exact hK0 _ rfl h2 ((low o1).tr (o2.mono (fun w (hw : w = pa + 1) => by rw [hw]; exact hp57))) _ rfl
        refine ⟨fun e => ?_, fun e => ?_⟩
        · exact body _ (-hh) (by rw [Int32.toInt_neg, eh, nz_bm32 (by omega) (by omega)]) (if_pos e).symm
        · exact body _ hh eh (if_neg e).symm
      · have w : q.1 < 0 := by
          have : ¬ (0 : Int) ≤ z18.toInt := fun z => w (nz_le.mpr z)
          omega
        rw [if_pos w] at hK0
        exact hK0 _ rfl h oS.rf _ (nz_sub_i (by rfl) hz (by omega) (by omega))
    · rw [nz_bt, Classical.not_not] at y
      rw [if_pos y] at hK0
      exact hK0 _ rfl h oS.rf _ rfl
  · have a : ¬ 2 ≤ rch fh A - rch fh B := by
      have : (z3 - z6).toInt < 2 := nz_lt.mp a
      omega
    have b : 12 ≤ L.sz := by
      have : ¬ (jv_gI h o 3).toInt < 12 := fun z => b (nz_lt.mpr z)
      omega
    rw [if_neg a, if_pos b] at hK0
    exact hK0 _ rfl h oS.rf _ rfl
  · have a : 2 ≤ rch fh A - rch fh B := by
      have : ¬ (z3 - z6).toInt < 2 := fun z => a (nz_lt.mpr z)
      omega
    rw [if_pos a] at hK0
    exact hK0 _ rfl h oS.rf _ (nz_sub_i (by rfl) hz (by omega) (by omega))
end
