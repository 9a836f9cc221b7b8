/-! ===== the reference: texts of ladders ===== -/
def fcI : Nat → Nat → Prop := fun q j => q = 171 ∧ (j = 2 ∨ j = 3 ∨ j = 6)
theorem at_fc {SL : Nat → Nat → Prop} {h h' : jv_H} (o : oT atI nL h h') : oT fcI SL h h' := o.mono (fun q j z => by unfold atI at z; unfold fcI; omega) (fun _ _ z => z.elim)
theorem mi_fc {h h' : jv_H} (o : oT (mI 171) (mL 171) h h') : oT fcI (mL 171) h h' := o.mono (fun q j z => by unfold mI at z; unfold fcI; omega) (fun _ _ z => z)
def sl (h : jv_H) (l : Nat) (L : zL) : Prop := ∀ j, j < L.sz → h.1 175 (12 * l + j) = L.so j ∧ h.1 176 (12 * l + j) = L.sh j ∧ uq h 179 180 (12 * l + j) = L.va j
theorem sl.mv {SI SL : Nat → Nat → Prop} {h h' : jv_H} {l : Nat} {L : zL} (s : sl h l L) (a : oT SI SL h h') (h1 : ∀ j, j < L.sz → ¬ SI 175 (12 * l + j) ∧ ¬ SI 176 (12 * l + j) ∧ ¬ SL 179 (12 * l + j) ∧ ¬ SL 180 (12 * l + j)) : sl h' l L := fun j hj => by
  obtain ⟨n1, n2, n3, n4⟩ := h1 j hj
  rw [a.2.1 _ _ n1, a.2.1 _ _ n2, uq.mv a n3 n4]
  exact s j hj
/-- a ladder more -/
theorem MKn.addL {h : jv_H} {K : zK} {L : zL} (k : MKg nA nS h K) (hn : K.nl < 6) (c1 : (h.1 177 K.nl).toInt = L.sz) (c2 : h.1 178 K.nl = L.en) (c3 : L.en = 2 → uq h 181 182 K.nl = L.lo) (c4 : sl h K.nl L) : MKg nA nS (jv_uI h 171 18 (jv_gI h 171 18 + 1)) (K.addL L) := by
  have hz := k.zl
  have o1 : oT (fun q j => q = 171 ∧ j = 18) nL h (jv_uI h 171 18 (jv_gI h 171 18 + 1)) := oT.rf.uI ⟨rfl, rfl⟩
  have row : ∀ c, c < 50 → (jv_uI h 171 18 (jv_gI h 171 18 + 1)).1 (nA c) = h.1 (nA c) := fun c hc => funext (fun j => o1.2.1 _ _ (fun z => by have : 173 + c = 171 := z.1; omega))
  obtain ⟨⟨k1, k2⟩, ⟨k3, k4⟩, k5, ⟨k6, k7, k8⟩, k9⟩ := k
  refine ⟨⟨?_, k2⟩, ⟨?_, fun l hl => ?_⟩, fun t ht => ?_, ⟨?_, ?_, fun j hj => ?_⟩, ?_⟩
  · show ((jv_uI h 171 18 (jv_gI h 171 18 + 1)).1 171 9).toInt = _
    rw [uI_ne (by omega)]
    exact k1
  · show ((jv_uI h 171 18 (jv_gI h 171 18 + 1)).1 171 18).toInt = _
    rw [uI_eq]
    exact nz_inc hz (by omega)
  · have hl : l < K.nl + 1 := hl
    unfold MLg
    rw [row 4 (by decide), row 5 (by decide), row 2 (by decide), row 3 (by decide)]
    show MLg nA h l (if l = K.nl then L else K.L l)
    by_cases e : l = K.nl
    · rw [if_pos e, e]
      exact ⟨c1, c2, c3, c4⟩
    · rw [if_neg e]
      exact k4 l (by omega)
  · unfold MBg
    rw [row 14 (by decide), row 12 (by decide), row 13 (by decide)]
    exact k5 t ht
  · show ((jv_uI h 171 18 (jv_gI h 171 18 + 1)).1 171 29).toInt = _
    rw [uI_ne (by omega)]
    exact k6
  · show (jv_uI h 171 18 (jv_gI h 171 18 + 1)).1 171 31 = _
    rw [uI_ne (by omega)]
    exact k7
  · rw [row 17 (by decide), row 18 (by decide), row 19 (by decide)]
    exact k8 j hj
  · show (jv_uI h 171 18 (jv_gI h 171 18 + 1)).1 171 30 = _
    rw [uI_ne (by omega)]
    exact k9
def lyI (k : Nat) : Nat → Nat → Prop := fun q j => (q = 175 ∨ q = 176) ∧ j = k
def lyL (k : Nat) : Nat → Nat → Prop := fun q j => (q = 179 ∨ q = 180) ∧ j = k
def rpI (k : Nat) : Nat → Nat → Prop := fun q j => fcI q j ∨ lyI k q j
def rpL (k : Nat) : Nat → Nat → Prop := fun q j => mL 171 q j ∨ lyL k q j
section
variable (X : jv_X) (d : Nat) (h : jv_H) (T : Nat → Int32) (m p : Nat) (K : jv_H → Prop) (KI : Int32 → jv_H → Prop) (Z : zZ)
theorem m_lays (x : Int32) (k : Nat) (hx : x.toInt = k) (hk : k < 72) (s u : Int32) (v l : Int64) (r : MR h) (hK : ∀ h', oT (lyI k) (lyL k) h h' → h'.1 175 k = s → h'.1 176 k = u → uq h' 179 180 k = (v.toInt, l.toInt) → K h') : jV X (d + 1) y_Model_lays [.ref 171, .int x, .int s, .int u, .long v, .long l] 227 h K := by
  refine r_Model_lays X d 227 _ 171 x s u v l h ⟨is171, _, r 10, jx (len := 72) rfl (by decide) (by omega) (by omega), is171, _, r 11, jx (len := 72) rfl (by decide) (by omega) (by omega), is171, _, r 14, jx (len := 72) rfl (by decide) (by omega) (by omega), is171, _, r 15, jx (len := 72) rfl (by decide) (by omega) (by omega), ?_⟩
  rw [nz_nat hx]
  refine hK _ ((((oT.rf.uI ⟨Or.inl rfl, rfl⟩).uI ⟨Or.inr rfl, rfl⟩).uL ⟨Or.inl rfl, rfl⟩).uL ⟨Or.inr rfl, rfl⟩) ?_ ?_ ?_
  · show (jv_uI (jv_uI h 175 k s) 176 k u).1 175 k = s
    rw [uI_ne (by omega), uI_eq]
  · show (jv_uI (jv_uI h 175 k s) 176 k u).1 176 k = u
    rw [uI_eq]
  · show ((jv_gL (jv_uL (jv_uL (jv_uI (jv_uI h 175 k s) 176 k u) 179 k v) 180 k l) 179 k).toInt, (jv_gL (jv_uL (jv_uL (jv_uI (jv_uI h 175 k s) 176 k u) 179 k v) 180 k l) 180 k).toInt) = _
    rw [gL_uL, gL_uL, gL_uL, if_neg (by omega), if_pos ⟨rfl, rfl⟩, if_pos ⟨rfl, rfl⟩]
theorem m_isF (x1 x3 : Int32) (u l : Int) (h1 : x1.toInt = u) (h3 : x3.toInt = l) (hu : 1 ≤ u ∧ u ≤ 9999) (hl : 1 ≤ l ∧ l ≤ 9999) (h6 : h.1 171 6 = 0) (hK : ∀ h', oT fcI (mL 171) h h' → h'.1 171 3 = h.1 171 3 → h'.1 171 6 = 0 → ((h'.2.1 171 4).toInt, (h'.2.1 171 5).toInt) = fz_of u l → h'.1 171 2 = h.1 171 2 → K h') : jV X (d + 2) y_Model_is [.ref 171, .long x1.toInt64, .long x3.toInt64] 227 h K := by
  have e1 : x1.toInt64.toInt = u := by rw [Int32.toInt_toInt64, h1]
  have e3 : x3.toInt64.toInt = l := by rw [Int32.toInt_toInt64, h3]
  refine c_is X d 227 _ h 171 _ _ false is171 h6 (by rw [e1]; omega) (by rw [e3]; omega) (by rw [e3]; omega) (fun h' o' mi => ?_)
  rw [e1, e3, rz_f (fz_told hu hl).1.nw] at mi
  exact hK h' (mi_fc o') (o'.2.1 _ _ (fun z => by unfold mI at z; omega)) mi.2.2 (Prod.ext mi.1 mi.2.1) (o'.2.1 _ _ (fun z => by unfold mI at z; omega))
theorem m_fraction (e : Int32) (he : e.toInt = m) (r : MR h) (t : MT h T m p) (hf : h.1 171 3 = 0) (h6 : h.1 171 6 = 0)
    (hK1 : ∀ q, rf T m p = .inr q → ∀ h', oT fcI (mL 171) h h' → h'.1 171 3 = 0 → h'.1 171 6 = 0 → MT h' T m q.2 → ((h'.2.1 171 4).toInt, (h'.2.1 171 5).toInt) = q.1 → K h') (hK0 : ∀ e, rf T m p = .inl e → ∀ h', oT fcI (mL 171) h h' → h'.1 171 3 = 1 → MT h' T m e → K h') : jV X (d + 4) y_Model_fraction [.ref 171, .int e] 227 h K := by
  unfold rf at hK1 hK0
  refine r_Model_fraction X (d + 3) 227 _ 171 e h ⟨is171, m_number X d h T m p _ e he r t (fun q hq z hz h1 o1 f1 t1 => ?_) (fun hq h1 o1 f1 t1 => ?_)⟩
  · rw [hq] at hK1 hK0
    dsimp only at hK1 hK0
    have b1 := rn_b hq
    have f1 : h1.1 171 3 = 0 := f1.trans hf
    have g6 : h1.1 171 6 = 0 := (o1.2.1 _ _ (fun z => by unfold atI at z; omega)).trans h6
    have r1 := r.mv o1
    refine ⟨is171, fun z => absurd f1 z, fun _ => ⟨is171, m_here X (d + 2) h1 T m q.2 _ e he r1 t1 ⟨fun y => ⟨is171, fun z => absurd f1 z, fun _ => ⟨is171, ?_⟩⟩, fun y => ⟨is171, is171, is171, ?_⟩⟩⟩⟩
    · rw [if_neg y] at hK1
      exact m_isF X (d + 1) h1 _ z 1 q.1 1 hz rfl ⟨b1.1, b1.2.1⟩ ⟨by decide, by decide⟩ g6 (fun h2 o2 f2 w2 u2 a2 => hK1 _ rfl h2 ((at_fc o1).tr o2) (f2.trans f1) w2 ⟨by rw [a2]; exact t1.1, t1.2.1, t1.2.2.1, fun i hi => by rw [o2.2.1 _ _ (fun z => by unfold fcI at z; omega)]; exact t1.2.2.2 i hi⟩ u2)
    · rw [if_pos y] at hK1 hK0
      have hlt := lk_lt y (by decide)
      have oU : oT atI nL h (jv_uI h1 171 2 (jv_gI h1 171 2 + 1)) := o1.tr at_up
      have fU : (jv_uI h1 171 2 (jv_gI h1 171 2 + 1)).1 171 3 = 0 := by rw [uI_ne (by omega)]; exact f1
      refine m_number X d _ T m (q.2 + 1) _ e he (r1.mv at_up) (t1.up hlt) (fun s hs z3 hz3 h3 o3 f3 t3 => ⟨is171, fun z => absurd (f3.trans fU) z, fun _ => ⟨is171, ?_⟩⟩) (fun hs h3 o3 f3 t3 => ⟨is171, fun _ => ?_, fun z => absurd (show h3.1 171 3 = 0 from z) (by rw [f3]; decide)⟩)
      · rw [hs] at hK1
        dsimp only at hK1
        have b3 := rn_b hs
        have g63 : h3.1 171 6 = 0 := ((oU.tr o3).2.1 _ _ (fun z => by unfold atI at z; omega)).trans h6
        exact m_isF X (d + 1) h3 _ z z3 q.1 s.1 hz hz3 ⟨b1.1, b1.2.1⟩ ⟨b3.1, b3.2.1⟩ g63 (fun h4 o4 f4 w4 u4 a4 => hK1 _ rfl h4 ((at_fc (oU.tr o3)).tr o4) (f4.trans (f3.trans fU)) w4 ⟨by rw [a4]; exact t3.1, t3.2.1, t3.2.2.1, fun i hi => by rw [o4.2.1 _ _ (fun z => by unfold fcI at z; omega)]; exact t3.2.2.2 i hi⟩ u4)
      · rw [hs] at hK0
        exact hK0 _ rfl h3 (at_fc (oU.tr o3)) f3 t3
  · rw [hq] at hK0
    have ne : ¬ h1.1 171 3 = 0 := by rw [f1]; decide
    exact ⟨is171, fun _ => ⟨is171, fun _ => hK0 p rfl h1 (at_fc o1) f1 t1, fun z => absurd z ne⟩, fun z => absurd z ne⟩
theorem m_sortOf (x : Int32) (hK : KI (sof x) h) : jI X (d + 1) y_Model_sortOf [.int x] 227 h KI := by
  unfold sof at hK
  refine r_Model_sortOf X d 227 _ x h ⟨fun a => ?_, fun a => ⟨fun b => ?_, fun b => ⟨fun c => ?_, fun c => ⟨fun e => ?_, fun e => ⟨fun f => ?_, fun f => ⟨fun g => ?_, fun g => ?_⟩⟩⟩⟩⟩⟩
  · rw [if_pos (Or.inl a)] at hK; exact hK
  · rw [if_neg (by omega), if_pos (Or.inl b)] at hK; exact hK
  · rw [if_neg (by omega), if_neg (by omega), if_pos (Or.inl c)] at hK; exact hK
  · rw [if_pos (Or.inr e)] at hK; exact hK
  · rw [if_neg (by omega), if_pos (Or.inr f)] at hK; exact hK
  · rw [if_neg (by omega), if_neg (by omega), if_pos (Or.inr g)] at hK; exact hK
  · rw [if_neg (by omega), if_neg (by omega), if_neg (by omega)] at hK; exact hK
theorem m_readPart (x e : Int32) (k : Nat) (hx : x.toInt = k) (hk : k < 72) (he : e.toInt = m) (r : MR h) (t : MT h T m p) (hf : h.1 171 3 = 0) (h6 : h.1 171 6 = 0)
    (hK1 : ∀ q, rpt T m p = .inr q → ∀ h', oT (rpI k) (rpL k) h h' → h'.1 171 3 = 0 → h'.1 171 6 = 0 → MT h' T m q.2 → h'.1 175 k = q.1.1 → h'.1 176 k = q.1.2.1 → uq h' 179 180 k = q.1.2.2 → K h') (hK0 : ∀ e, rpt T m p = .inl e → ∀ h', oT (rpI k) (rpL k) h h' → h'.1 171 3 = 1 → MT h' T m e → K h') : jV X (d + 5) y_Model_readPart [.ref 171, .int x, .int e] 227 h K := by
  unfold rpt at hK1 hK0
  have s4 := sof_01 (lk T m p)
  refine r_Model_readPart X (d + 4) 227 _ 171 x e h ⟨is171, m_here X (d + 3) h T m p _ e he r t (m_sortOf X (d + 3) h _ _ ⟨fun y => ⟨is171, is171, is171, ?_⟩, fun y => ⟨is171, m_fault X (d + 3) h _ ?_⟩⟩)⟩
  · have hs : ¬ sof (lk T m p) = -1 := fun z => by rw [z] at y; exact absurd y (by decide)
    have hlt := sof_lt hs
    rw [if_neg hs] at hK1 hK0
    have rl : ∀ {h' h''}, oT fcI (mL 171) h' h'' → oT (rpI k) (rpL k) h' h'' := fun o => o.mono (fun _ _ z => Or.inl z) (fun _ _ z => Or.inl z)
    have yl : ∀ {h' h''}, oT (lyI k) (lyL k) h' h'' → oT (rpI k) (rpL k) h' h'' := fun o => o.mono (fun _ _ z => Or.inr z) (fun _ _ z => Or.inr z)
    have e97 : (97 : Int32).toInt = 97 := rfl
    refine m_fraction X d _ T m (p + 1) _ e he (r.mv at_up) (t.up hlt) (by rw [uI_ne (by omega)]; exact hf) (by rw [uI_ne (by omega)]; exact h6) (fun q hq h1 o1 f1 w1 t1 u1 => m_sortOf X (d + 3) h1 _ _ ?_) (fun e he h1 o1 f1 t1 => m_sortOf X (d + 3) h1 _ _ ?_)
    · rw [hq] at hK1
      dsimp only at hK1
      have o01 : oT fcI (mL 171) h h1 := (at_fc at_up).tr o1
      have go : ∀ u : Int32, u = (if 97 ≤ (lk T m p).toInt then 0 else 1) → jV X (d + 4) y_Model_lays [.ref 171, .int x, .int (sof (lk T m p)), .int u, .long (jv_gL h1 171 4), .long (jv_gL h1 171 5)] 227 h1 K := fun u hu => m_lays X (d + 3) h1 _ x k hx hk _ _ _ _ (r.mv o01) (fun h2 o2 c1 c2 c3 => hK1 _ rfl h2 ((rl o01).tr (yl o2)) ((o2.2.1 _ _ (fun z => by unfold lyI at z; omega)).trans f1) ((o2.2.1 _ _ (fun z => by unfold lyI at z; omega)).trans w1) (t1.mv o2 (fun z => by unfold lyI at z; omega) (fun i z => by unfold lyI at z; omega)) c1 (c2.trans hu) (c3.trans u1))
      refine ⟨fun y2 => ⟨is171, is171, is171, go 0 ?_⟩, fun y2 => ⟨is171, is171, is171, go 1 ?_⟩⟩
      · rw [if_pos (show 97 ≤ (lk T m p).toInt from nz_le.mp y2)]
      · rw [if_neg (show ¬ 97 ≤ (lk T m p).toInt from fun z => y2 (nz_le.mpr z))]
    · rw [he] at hK0
      dsimp only at hK0
      have o01 : oT fcI (mL 171) h h1 := (at_fc at_up).tr o1
      have go : ∀ u : Int32, jV X (d + 4) y_Model_lays [.ref 171, .int x, .int (sof (lk T m p)), .int u, .long (jv_gL h1 171 4), .long (jv_gL h1 171 5)] 227 h1 K := fun u => m_lays X (d + 3) h1 _ x k hx hk _ _ _ _ (r.mv o01) (fun h2 o2 c1 c2 c3 => hK0 _ rfl h2 ((rl o01).tr (yl o2)) ((o2.2.1 _ _ (fun z => by unfold lyI at z; omega)).trans f1) (t1.mv o2 (fun z => by unfold lyI at z; omega) (fun i z => by unfold lyI at z; omega)))
      exact ⟨fun y2 => ⟨is171, is171, is171, go 0⟩, fun y2 => ⟨is171, is171, is171, go 1⟩⟩
  · have hs : sof (lk T m p) = -1 := by
      rcases s4 with z | z | z | z
      · rw [z] at y; exact absurd (nz_le.mpr (by decide)) y
      · rw [z] at y; exact absurd (nz_le.mpr (by decide)) y
      · rw [z] at y; exact absurd (nz_le.mpr (by decide)) y
      · exact z
    rw [if_pos hs] at hK0
    exact hK0 p rfl _ (at_fl.mono (fun q j z => Or.inl (by unfold atI at z; unfold fcI; omega)) (fun _ _ z => z.elim)) uI_eq t.fl
def reI (l : Nat) : Nat → Nat → Prop := fun q j => fcI q j ∨ (q = 178 ∧ j = l)
def reL (l : Nat) : Nat → Nat → Prop := fun q j => mL 171 q j ∨ ((q = 181 ∨ q = 182) ∧ j = l)
theorem m_readEnd (x e : Int32) (l : Nat) (hx : x.toInt = l) (hl : l < 6) (L : zL) (he : e.toInt = m) (r : MR h) (t : MT h T m p) (hf : h.1 171 3 = 0) (h6 : h.1 171 6 = 0)
    (hK1 : ∀ q, rend T m L p = .inr q → ∀ h', oT (reI l) (reL l) h h' → h'.1 171 3 = 0 → MT h' T m q.2 → h'.1 178 l = q.1.en → (q.1.en = 2 → uq h' 181 182 l = q.1.lo) → q.1 = L.fin q.1.en q.1.lo → K h') (hK0 : ∀ e, rend T m L p = .inl e → ∀ h', oT (reI l) (reL l) h h' → h'.1 171 3 = 1 → MT h' T m e → K h') : jV X (d + 5) y_Model_readEnd [.ref 171, .int x, .int e] 227 h K := by
  unfold rend at hK1 hK0
  have ri : ∀ {h' h''}, oT fcI (mL 171) h' h'' → oT (reI l) (reL l) h' h'' := fun o => o.mono (fun _ _ z => Or.inl z) (fun _ _ z => Or.inl z)
  have oU : oT (reI l) (reL l) h (jv_uI h 171 2 (jv_gI h 171 2 + 1)) := ri (at_fc at_up)
  have gx : jv_ix SHT 227 178 0 x := jx (len := 6) rfl (by decide) (by omega) (by omega)
  have gy : jv_ix SHT 227 181 1 x := jx (len := 6) rfl (by decide) (by omega) (by omega)
  have gz : jv_ix SHT 227 182 1 x := jx (len := 6) rfl (by decide) (by omega) (by omega)
  have plain : ∀ (c v : Int32), c ≠ 114 → p < m → (∀ h', oT (reI l) (reL l) h h' → h'.1 171 3 = 0 → MT h' T m (p + 1) → h'.1 178 l = v → K h') → a_Model_readEnd_66 X (d + 4) 227 (jv_rV K) 171 x e c v x 178 (jv_uI h 171 2 (jv_gI h 171 2 + 1)) 0 := fun c v hc hlt hQ => by
    refine r_Model_readEnd_66 X (d + 4) 227 _ 171 x e c v x 178 _ ⟨gx, fun _ => ?_, fun z => absurd z hc⟩
    rw [nz_nat hx]
    refine hQ _ (oU.uI (Or.inr ⟨rfl, rfl⟩)) ?_ ((t.up hlt).mv (oT.rf.uI (SI := fun q j => q = 178) (SL := nL) rfl) (fun z => by omega) (fun i z => by omega)) uI_eq
    rw [uI_ne (by omega), uI_ne (by omega)]
    exact hf
  refine r_Model_readEnd X (d + 4) 227 _ 171 x e h ⟨is171, m_here X (d + 3) h T m p _ e he r t ⟨fun y => ⟨is171, is171, is171, _, r 13, fun z => absurd y z, fun _ => ?_⟩, fun y => ⟨fun y2 => ⟨is171, is171, is171, _, r 13, fun _ => ⟨fun z => absurd y2 z, fun _ => ?_⟩, fun z => absurd z y⟩, fun y2 => ⟨fun y3 => ⟨is171, is171, is171, _, r 13, fun _ => ⟨fun _ => ?_, fun z => absurd z y2⟩, fun z => absurd z y⟩, fun y3 => ⟨is171, m_fault X (d + 3) h _ ?_⟩⟩⟩⟩⟩
  · rw [if_pos y] at hK1
    exact plain _ _ (by rw [y]; decide) (lk_lt y (by decide)) (fun h' o' f' t' c' => hK1 _ rfl h' o' f' t' c' (fun z => absurd (show (0 : Int32) = 2 from z) (by decide)) rfl)
  · rw [if_neg y, if_pos y2] at hK1
    exact plain _ _ (by rw [y2]; decide) (lk_lt y2 (by decide)) (fun h' o' f' t' c' => hK1 _ rfl h' o' f' t' c' (fun z => absurd (show (1 : Int32) = 2 from z) (by decide)) rfl)
  · rw [if_neg y, if_neg y2, if_pos y3] at hK1 hK0
    have hlt := lk_lt y3 (by decide)
    refine r_Model_readEnd_66 X (d + 4) 227 _ 171 x e _ 2 x 178 _ ⟨gx, fun z => absurd y3 z, fun _ => ⟨is171, ?_⟩⟩
    rw [nz_nat hx]
    have o2 : oT (reI l) (reL l) h (jv_uI (jv_uI h 171 2 (jv_gI h 171 2 + 1)) 178 l 2) := oU.uI (Or.inr ⟨rfl, rfl⟩)
    have t2 : MT (jv_uI (jv_uI h 171 2 (jv_gI h 171 2 + 1)) 178 l 2) T m (p + 1) := (t.up hlt).mv (oT.rf.uI (SI := fun q j => q = 178) (SL := nL) rfl) (fun z => by omega) (fun i z => by omega)
    refine m_fraction X d _ T m (p + 1) _ e he (r.mv o2) t2 (by rw [uI_ne (by omega), uI_ne (by omega)]; exact hf) (by rw [uI_ne (by omega), uI_ne (by omega)]; exact h6) (fun q hq h3 o3 f3 w3 t3 u3 => ⟨is171, _, (r.mv (o2.tr (ri o3))) 16, is171, gy, is171, _, (r.mv (o2.tr (ri o3))) 17, is171, gz, ?_⟩) (fun e he h3 o3 f3 t3 => ⟨is171, _, (r.mv (o2.tr (ri o3))) 16, is171, gy, is171, _, (r.mv (o2.tr (ri o3))) 17, is171, gz, ?_⟩)
    · rw [hq] at hK1
      have e5 : jv_gL (jv_uL h3 181 l (jv_gL h3 171 4)) 171 5 = jv_gL h3 171 5 := uL_ne (by omega)
      rw [e5]
      refine hK1 _ rfl _ (((o2.tr (ri o3)).uL (Or.inr ⟨Or.inl rfl, rfl⟩)).uL (Or.inr ⟨Or.inr rfl, rfl⟩)) f3 t3 ?_ (fun _ => ?_) rfl
      · show h3.1 178 l = 2
        rw [o3.2.1 _ _ (fun z => by unfold fcI at z; omega), uI_eq]
      · show ((jv_gL (jv_uL (jv_uL h3 181 l (jv_gL h3 171 4)) 182 l (jv_gL h3 171 5)) 181 l).toInt, (jv_gL (jv_uL (jv_uL h3 181 l (jv_gL h3 171 4)) 182 l (jv_gL h3 171 5)) 182 l).toInt) = _
        rw [gL_uL, gL_uL, gL_uL, if_neg (by omega), if_pos ⟨rfl, rfl⟩, if_pos ⟨rfl, rfl⟩]
        exact u3
    · rw [he] at hK0
      exact hK0 _ rfl _ (((o2.tr (ri o3)).uL (Or.inr ⟨Or.inl rfl, rfl⟩)).uL (Or.inr ⟨Or.inr rfl, rfl⟩)) f3 t3
  · rw [if_neg y, if_neg y2, if_neg y3] at hK0
    exact hK0 p rfl _ (ri (at_fc at_fl)) uI_eq t.fl
end
