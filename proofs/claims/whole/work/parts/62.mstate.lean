/-! ===== the reference: its state ===== -/
def mrl : List (Option Nat) := [some 172, none, none, none, none, none, none, some 173, some 174, none, some 175, some 176, some 177, some 178, some 179, some 180, some 181, some 182, none, some 183, some 184, some 185, some 186, some 187, some 188, some 189, some 190, some 191, some 192, none, none, none, some 193, some 194, some 195, some 196, some 197, some 198, some 199, some 200, some 201, some 202, some 203, none, none, some 204, some 205, some 206, none, some 207, some 208, some 209, some 210, some 211, some 212, some 213, some 214, some 215, some 216, some 217, some 218, some 219, some 220, some 221, some 222, some 223, some 224, some 225, some 226]
def mref (i : Nat) : Option Nat := mrl.getD i none
def MR (h : jv_H) : Prop := ∀ i, h.2.2 171 i = mref i
theorem is171 : jv_is SHT 227 171 20 := ⟨by decide, rfl⟩
theorem MR.mv {SI SL : Nat → Nat → Prop} {h h' : jv_H} (l : MR h) (a : oT SI SL h h') : MR h' := fun i => by rw [a.1]; exact l i
/-- two rows of longs, as one of fractions -/
def uq (h : jv_H) (u l i : Nat) : Int × Int := ((h.2.1 u i).toInt, (h.2.1 l i).toInt)
theorem uq.a {h : jv_H} {u l i : Nat} {q : Int × Int} (e : uq h u l i = q) : (jv_gL h u i).toInt = q.1 := congrArg Prod.fst e
theorem uq.b {h : jv_H} {u l i : Nat} {q : Int × Int} (e : uq h u l i = q) : (jv_gL h l i).toInt = q.2 := congrArg Prod.snd e
theorem uq.mv {SI SL : Nat → Nat → Prop} {h h' : jv_H} (a : oT SI SL h h') {u l i : Nat} (h1 : ¬ SL u i) (h2 : ¬ SL l i) : uq h' u l i = uq h u l i := by
  unfold uq
  rw [a.2.2 u i h1, a.2.2 l i h2]
theorem gL_uL (h : jv_H) (a i : Nat) (v : Int64) (b j : Nat) : jv_gL (jv_uL h a i v) b j = if b = a ∧ j = i then v else jv_gL h b j := rfl
theorem gL_uI (h : jv_H) (a i : Nat) (v : Int32) (b j : Nat) : jv_gL (jv_uI h a i v) b j = jv_gL h b j := rfl
theorem gI_uI (h : jv_H) (a i : Nat) (v : Int32) (b j : Nat) : jv_gI (jv_uI h a i v) b j = if b = a ∧ j = i then v else jv_gI h b j := rfl
theorem gI_uL (h : jv_H) (a i : Nat) (v : Int64) (b j : Nat) : jv_gI (jv_uL h a i v) b j = jv_gI h b j := rfl
def MLg (a : Nat → Nat) (h : jv_H) (l : Nat) (L : zL) : Prop := (h.1 (a 4) l).toInt = L.sz ∧ h.1 (a 5) l = L.en ∧ (L.en = 2 → uq h (a 8) (a 9) l = L.lo) ∧ ∀ j, j < L.sz → h.1 (a 2) (12 * l + j) = L.so j ∧ h.1 (a 3) (12 * l + j) = L.sh j ∧ uq h (a 6) (a 7) (12 * l + j) = L.va j
def MBg (a : Nat → Nat) (h : jv_H) (t : Nat) (B : zB) : Prop := (h.1 (a 14) t).toInt = B.n ∧ ∀ j, j < B.n → (uq h (a 10) (a 11) (10 * t + j), h.1 (a 12) (10 * t + j), h.1 (a 13) (10 * t + j)) = B.e j
def MWg (a : Nat → Nat) (n e : Nat) (h : jv_H) (W : zW) : Prop := (h.1 171 n).toInt = W.n ∧ h.1 171 e = W.ev ∧ ∀ j, j < W.n → (h.1 (a 17) j, h.1 (a 18) j, h.1 (a 19) j, uq h (a 15) (a 16) j) = W.e j
def MKg (a s : Nat → Nat) (h : jv_H) (K : zK) : Prop := ((h.1 171 (s 0)).toInt = K.nr ∧ ∀ r, r < K.nr → ∀ i, i < 13 → uq h (a 0) (a 1) (26 * r + i) = (K.R r).1 i ∧ uq h (a 0) (a 1) (26 * r + 13 + i) = (K.R r).2 i) ∧ ((h.1 171 (s 1)).toInt = K.nl ∧ ∀ l, l < K.nl → MLg a h l (K.L l)) ∧ (∀ t, t < 3 → MBg a h t (K.B t)) ∧ MWg a (s 2) (s 4) h K.w ∧ h.1 171 (s 3) = K.sp
def nA (c : Nat) : Nat := 173 + c
def nS (c : Nat) : Nat := if c = 0 then 9 else if c = 1 then 18 else if c = 2 then 29 else if c = 3 then 30 else 31
def iA (c : Nat) : Nat := if c < 2 then 207 + c else if c < 6 then 211 + c else if c < 10 then 203 + c else if c < 12 then 207 + c else if c < 15 then 209 + c else if c < 17 then 204 + c else 207 + c
def iS (c : Nat) : Nat := 69 + c
/-- bounds that the class keeps -/
def bdK (K : zK) : Prop := K.nr ≤ 6 ∧ K.nl ≤ 6 ∧ (∀ l, l < K.nl → (K.L l).sz ≤ 12) ∧ (∀ s, s < 3 → (K.B s).n ≤ 10) ∧ K.w.n ≤ 24
def bdZ (Z : zZ) : Prop := Z.tn ≤ 100 ∧ bdK Z.k ∧ (∀ K, Z.im = some K → bdK K) ∧ ∀ k, k < 6 → ((Z.H k).ct = 0 ∨ (Z.H k).ct = 1 ∨ (Z.H k).ct = 2) ∧ ((Z.H k).ct = 2 → (Z.H k).sz ≤ 40)
theorem CK.bd {h : jv_H} {w : Nat} {K : zK} (c : CK h w K) : bdK K := ⟨c.mr, c.ml, fun l hl => (c.l hl).le, fun s hs => (c.b hs).2.1, c.wa.2.2.1⟩
theorem CS.bd {h : jv_H} {Z : zZ} (c : CS h Z) : bdZ Z := ⟨c.tp.2.1, c.k.bd, fun K hK => (c.2.2.2.2.1 K hK).bd, fun k hk => ⟨(c.ch hk).2.1, fun e => ((c.ch hk).2.2.1 e).2.1⟩⟩
def used (K : zK) (c j : Nat) : Prop := (c = 0 ∨ c = 1) ∧ j < 26 * K.nr ∨ (c = 2 ∨ c = 3 ∨ c = 6 ∨ c = 7) ∧ j < 12 * K.nl ∨ (c = 4 ∨ c = 5 ∨ c = 8 ∨ c = 9) ∧ j < K.nl ∨ (10 ≤ c ∧ c < 14) ∧ j < 30 ∨ c = 14 ∧ j < 3 ∨ (15 ≤ c ∧ c < 20) ∧ j < 24
theorem MKg.cg {a s a' s' : Nat → Nat} {h h' : jv_H} {K : zK} (k : MKg a s h K) (b : bdK K) (e : ∀ c j, used K c j → h'.1 (a' c) j = h.1 (a c) j ∧ h'.2.1 (a' c) j = h.2.1 (a c) j) (es : ∀ c, c < 5 → h'.1 171 (s' c) = h.1 171 (s c)) : MKg a' s' h' K := by
  obtain ⟨⟨k1, k2⟩, ⟨k3, k4⟩, k5, ⟨k6, k7, k8⟩, k9⟩ := k
  obtain ⟨b1, b2, b3, b4, b5⟩ := b
  have eu : ∀ u v j, used K u j → used K v j → uq h' (a' u) (a' v) j = uq h (a u) (a v) j := fun u v j h1 h2 => by
    unfold uq
    rw [(e u j h1).2, (e v j h2).2]
  refine ⟨⟨by rw [es 0 (by decide)]; exact k1, fun r hr i hi => ?_⟩, ⟨by rw [es 1 (by decide)]; exact k3, fun l hl => ?_⟩, fun t ht => ?_, ⟨by rw [es 2 (by decide)]; exact k6, by rw [es 4 (by decide)]; exact k7, fun j hj => ?_⟩, by rw [es 3 (by decide)]; exact k9⟩
  · rw [eu 0 1 _ (by unfold used; omega) (by unfold used; omega), eu 0 1 _ (by unfold used; omega) (by unfold used; omega)]
    exact k2 r hr i hi
  · obtain ⟨m1, m2, m3, m4⟩ := k4 l hl
    have hs := b3 l hl
    refine ⟨by rw [(e 4 l (by unfold used; omega)).1]; exact m1, by rw [(e 5 l (by unfold used; omega)).1]; exact m2, fun z => by rw [eu 8 9 _ (by unfold used; omega) (by unfold used; omega)]; exact m3 z, fun j hj => ?_⟩
    rw [(e 2 _ (by unfold used; omega)).1, (e 3 _ (by unfold used; omega)).1, eu 6 7 _ (by unfold used; omega) (by unfold used; omega)]
    exact m4 j hj
  · obtain ⟨m1, m2⟩ := k5 t ht
    have hs := b4 t ht
    refine ⟨by rw [(e 14 t (by unfold used; omega)).1]; exact m1, fun j hj => ?_⟩
    rw [eu 10 11 _ (by unfold used; omega) (by unfold used; omega), (e 12 _ (by unfold used; omega)).1, (e 13 _ (by unfold used; omega)).1]
    exact m2 j hj
  · rw [(e 17 j (by unfold used; omega)).1, (e 18 j (by unfold used; omega)).1, (e 19 j (by unfold used; omega)).1, eu 15 16 _ (by unfold used; omega) (by unfold used; omega)]
    exact k8 j hj
def MH (h : jv_H) (k : Nat) (H : zH) : Prop := h.1 193 k = H.ct ∧ (H.ct = 2 → (h.1 196 k).toInt = H.sz ∧ ∀ i, i < H.sz → h.2.1 199 (40 * k + i) = H.nu i) ∧ (H.ct = 1 → h.1 194 k = H.so ∧ h.1 195 k = H.sh ∧ uq h 197 198 k = H.va)
def MS (h : jv_H) (Z : zZ) : Prop := MR h ∧ ((h.1 171 1).toInt = Z.tn ∧ ∀ i, i < Z.tn → h.1 172 i = Z.T i) ∧ MKg nA nS h Z.k ∧ (h.1 171 48 = if Z.im.isSome then 1 else 0) ∧ (∀ K, Z.im = some K → MKg iA iS h K) ∧ ∀ k, k < 6 → MH h k (Z.H k)
/-- places that don't count -/
def frI (K : zK) (q j : Nat) : Prop := q = 171 ∧ (j = 2 ∨ j = 3 ∨ j = 6) ∨ (q = 175 ∨ q = 176) ∧ 12 * K.nl ≤ j ∨ (q = 177 ∨ q = 178) ∧ K.nl ≤ j ∨ q = 204
def frL (K : zK) (q j : Nat) : Prop := q = 171 ∨ (q = 173 ∨ q = 174) ∧ 26 * K.nr ≤ j ∨ (q = 179 ∨ q = 180) ∧ 12 * K.nl ≤ j ∨ (q = 181 ∨ q = 182) ∧ K.nl ≤ j ∨ 200 ≤ q ∧ q ≤ 206
def fK (K : zK) : jv_H → jv_H → Prop := oT (frI K) (frL K)
theorem MKn.mv {SI SL : Nat → Nat → Prop} {h h' : jv_H} {K : zK} (k : MKg nA nS h K) (b : bdK K) (a : oT SI SL h h') (h1 : ∀ q j, SI q j → frI K q j ∨ (q < 173 ∧ q ≠ 171) ∨ 193 ≤ q ∨ q = 171 ∧ (j = 1 ∨ 48 ≤ j)) (h2 : ∀ q j, SL q j → frL K q j ∨ q < 173 ∨ 193 ≤ q) : MKg nA nS h' K := by
  obtain ⟨b1, b2, b3, b4, b5⟩ := b
  refine k.cg ⟨b1, b2, b3, b4, b5⟩ (fun c j u => ⟨a.2.1 _ _ (fun z => ?_), a.2.2 _ _ (fun z => ?_)⟩) (fun c hc => a.2.1 _ _ (fun z => ?_))
  · have := h1 _ _ z
    unfold frI nA at this
    unfold used at u
    omega
  · have := h2 _ _ z
    unfold frL nA at this
    unfold used at u
    omega
  · have := h1 _ _ z
    unfold frI nS at this
    match c, hc with
    | 0, _ => simp at this
    | 1, _ => simp at this
    | 2, _ => simp at this
    | 3, _ => simp at this
    | 4, _ => simp at this
theorem MKi.mv {SI SL : Nat → Nat → Prop} {h h' : jv_H} {K : zK} (k : MKg iA iS h K) (b : bdK K) (a : oT SI SL h h') (h1 : ∀ q j, SI q j → q < 207 ∧ (q = 171 → j < 69)) (h2 : ∀ q j, SL q j → q < 207) : MKg iA iS h' K := by
  have hA : ∀ c, c < 20 → 207 ≤ iA c := fun c hc => by
    unfold iA
    split
    · omega
    · split
      · omega
      · split
        · omega
        · split
          · omega
          · split
            · omega
            · split
              · omega
              · omega
  refine k.cg b (fun c j u => ⟨a.2.1 _ _ (fun z => ?_), a.2.2 _ _ (fun z => ?_)⟩) (fun c hc => a.2.1 _ _ (fun z => ?_))
  · have := h1 _ _ z
    have := hA c (by unfold used at u; omega)
    omega
  · have := h2 _ _ z
    have := hA c (by unfold used at u; omega)
    omega
  · have := h1 _ _ z
    unfold iS at this
    omega
theorem MH.mv {SI SL : Nat → Nat → Prop} {h h' : jv_H} {k : Nat} {H : zH} (m : MH h k H) (a : oT SI SL h h') (h1 : ∀ q j, SI q j → q < 193 ∨ 197 ≤ q) (h2 : ∀ q j, SL q j → q < 197 ∨ 200 ≤ q) : MH h' k H := by
  obtain ⟨m1, m2, m3⟩ := m
  refine ⟨by rw [a.2.1 _ _ (fun z => by have := h1 _ _ z; omega)]; exact m1, fun e => ⟨by rw [a.2.1 _ _ (fun z => by have := h1 _ _ z; omega)]; exact (m2 e).1, fun i hi => by rw [a.2.2 _ _ (fun z => by have := h2 _ _ z; omega)]; exact (m2 e).2 i hi⟩, fun e => ?_⟩
  rw [a.2.1 _ _ (fun z => by have := h1 _ _ z; omega), a.2.1 _ _ (fun z => by have := h1 _ _ z; omega), uq.mv a (fun z => by have := h2 _ _ z; omega) (fun z => by have := h2 _ _ z; omega)]
  exact m3 e
/-- the workshop's state is given anew, all else stays -/
theorem MS.upd {SI SL : Nat → Nat → Prop} {h h' : jv_H} {Z : zZ} {K : zK} (m : MS h Z) (b : bdZ Z) (a : oT SI SL h h') (h1 : ∀ q j, SI q j → (173 ≤ q ∧ q < 193) ∨ q = 204 ∨ q = 171 ∧ 2 ≤ j ∧ j < 48) (h2 : ∀ q j, SL q j → q = 171 ∨ (173 ≤ q ∧ q < 193) ∨ (200 ≤ q ∧ q ≤ 206)) (k : MKg nA nS h' K) : MS h' (Z.sk K) := by
  obtain ⟨m1, ⟨m2, m3⟩, m4, m5, m6, m7⟩ := m
  refine ⟨m1.mv a, ⟨by rw [a.2.1 _ _ (fun z => by have := h1 _ _ z; omega)]; exact m2, fun i hi => by rw [a.2.1 _ _ (fun z => by have := h1 _ _ z; omega)]; exact m3 i hi⟩, k, by rw [a.2.1 _ _ (fun z => by have := h1 _ _ z; omega)]; exact m5, fun K' hK' => MKi.mv (m6 K' hK') (b.2.2.1 K' hK') a (fun q j z => by have := h1 _ _ z; omega) (fun q j z => by have := h2 _ _ z; omega), fun i hi => (m7 i hi).mv a (fun q j z => by have := h1 _ _ z; omega) (fun q j z => by have := h2 _ _ z; omega)⟩
theorem frI_b {K : zK} {q j : Nat} (z : frI K q j) : (173 ≤ q ∧ q < 193) ∨ q = 204 ∨ q = 171 ∧ 2 ≤ j ∧ j < 48 := by unfold frI at z; omega
theorem frL_b {K : zK} {q j : Nat} (z : frL K q j) : q = 171 ∨ (173 ≤ q ∧ q < 193) ∨ (200 ≤ q ∧ q ≤ 206) := by unfold frL at z; omega
theorem MS.mv {h h' : jv_H} {Z : zZ} (m : MS h Z) (b : bdZ Z) (a : fK Z.k h h') : MS h' Z := m.upd b a (fun _ _ z => frI_b z) (fun _ _ z => frL_b z) (MKn.mv m.2.2.1 b.2.1 a (fun _ _ z => Or.inl z) (fun _ _ z => Or.inl z))
/-- a call of the reference leaves the class alone -/
def oM (h h' : jv_H) : Prop := ∀ q, q < 171 → h'.1 q = h.1 q ∧ h'.2.1 q = h.2.1 q ∧ h'.2.2 q = h.2.2 q
theorem oM.rf {h : jv_H} : oM h h := fun _ _ => ⟨rfl, rfl, rfl⟩
theorem oM.tr {a b c : jv_H} (h1 : oM a b) (h2 : oM b c) : oM a c := fun q hq => ⟨(h2 q hq).1.trans (h1 q hq).1, (h2 q hq).2.1.trans (h1 q hq).2.1, (h2 q hq).2.2.trans (h1 q hq).2.2⟩
theorem oT.M {SI SL : Nat → Nat → Prop} {h h' : jv_H} (a : oT SI SL h h') (h1 : ∀ q j, SI q j → 171 ≤ q) (h2 : ∀ q j, SL q j → 171 ≤ q) : oM h h' := fun q hq => ⟨funext (fun j => a.2.1 q j (fun z => by have := h1 _ _ z; omega)), funext (fun j => a.2.2 q j (fun z => by have := h2 _ _ z; omega)), by rw [a.1]⟩
theorem fK.M {K : zK} {h h' : jv_H} (a : fK K h h') : oM h h' := oT.M a (fun _ _ z => by have := frI_b z; omega) (fun _ _ z => by have := frL_b z; omega)
/-- what a call answers and leaves: of the reference -/
def dI (h : jv_H) (R : Int × zZ) (K : Int32 → jv_H → Prop) : Prop := ∀ z : Int32, z.toInt = R.1 → ∀ h', oM h h' → MS h' R.2 → K z h'
def dJ (h : jv_H) (R : Int × zZ) (K : Int64 → jv_H → Prop) : Prop := ∀ z : Int64, z.toInt = R.1 → ∀ h', oM h h' → MS h' R.2 → K z h'
theorem MS.r {h : jv_H} {Z : zZ} (m : MS h Z) : MR h := m.1
theorem MS.k {h : jv_H} {Z : zZ} (m : MS h Z) : MKg nA nS h Z.k := m.2.2.1
theorem MKg.zr {h : jv_H} {K : zK} (m : MKg nA nS h K) : (jv_gI h 171 9).toInt = K.nr := m.1.1
theorem MKg.zl {h : jv_H} {K : zK} (m : MKg nA nS h K) : (jv_gI h 171 18).toInt = K.nl := m.2.1.1
theorem MKg.pa {h : jv_H} {K : zK} (m : MKg nA nS h K) {r i : Nat} (hr : r < K.nr) (hi : i < 13) : uq h 173 174 (26 * r + i) = (K.R r).1 i := (m.1.2 r hr i hi).1
theorem MKg.pb {h : jv_H} {K : zK} (m : MKg nA nS h K) {r i : Nat} (hr : r < K.nr) (hi : i < 13) : uq h 173 174 (26 * r + 13 + i) = (K.R r).2 i := (m.1.2 r hr i hi).2
theorem MKg.lz {h : jv_H} {K : zK} (m : MKg nA nS h K) {l : Nat} (hl : l < K.nl) : (jv_gI h 177 l).toInt = (K.L l).sz := (m.2.1.2 l hl).1
theorem MKg.le {h : jv_H} {K : zK} (m : MKg nA nS h K) {l : Nat} (hl : l < K.nl) : jv_gI h 178 l = (K.L l).en := (m.2.1.2 l hl).2.1
theorem MKg.ll {h : jv_H} {K : zK} (m : MKg nA nS h K) {l : Nat} (hl : l < K.nl) (e : (K.L l).en = 2) : uq h 181 182 l = (K.L l).lo := (m.2.1.2 l hl).2.2.1 e
theorem MKg.ls {h : jv_H} {K : zK} (m : MKg nA nS h K) {l j : Nat} (hl : l < K.nl) (hj : j < (K.L l).sz) : jv_gI h 175 (12 * l + j) = (K.L l).so j := ((m.2.1.2 l hl).2.2.2 j hj).1
theorem MKg.lu {h : jv_H} {K : zK} (m : MKg nA nS h K) {l j : Nat} (hl : l < K.nl) (hj : j < (K.L l).sz) : jv_gI h 176 (12 * l + j) = (K.L l).sh j := ((m.2.1.2 l hl).2.2.2 j hj).2.1
theorem MKg.lv {h : jv_H} {K : zK} (m : MKg nA nS h K) {l j : Nat} (hl : l < K.nl) (hj : j < (K.L l).sz) : uq h 179 180 (12 * l + j) = (K.L l).va j := ((m.2.1.2 l hl).2.2.2 j hj).2.2
theorem MKg.bz {h : jv_H} {K : zK} (m : MKg nA nS h K) {t : Nat} (ht : t < 3) : (jv_gI h 187 t).toInt = (K.B t).n := (m.2.2.1 t ht).1
theorem MKg.bv {h : jv_H} {K : zK} (m : MKg nA nS h K) {t j : Nat} (ht : t < 3) (hj : j < (K.B t).n) : uq h 183 184 (10 * t + j) = ((K.B t).e j).1 := congrArg Prod.fst ((m.2.2.1 t ht).2 j hj)
theorem MKg.bc {h : jv_H} {K : zK} (m : MKg nA nS h K) {t j : Nat} (ht : t < 3) (hj : j < (K.B t).n) : jv_gI h 185 (10 * t + j) = ((K.B t).e j).2.1 := congrArg (fun z => z.2.1) ((m.2.2.1 t ht).2 j hj)
theorem MKg.bp {h : jv_H} {K : zK} (m : MKg nA nS h K) {t j : Nat} (ht : t < 3) (hj : j < (K.B t).n) : jv_gI h 186 (10 * t + j) = ((K.B t).e j).2.2 := congrArg (fun z => z.2.2) ((m.2.2.1 t ht).2 j hj)
theorem MKg.wz {h : jv_H} {K : zK} (m : MKg nA nS h K) : (jv_gI h 171 29).toInt = K.w.n := m.2.2.2.1.1
theorem MKg.wv {h : jv_H} {K : zK} (m : MKg nA nS h K) : jv_gI h 171 31 = K.w.ev := m.2.2.2.1.2.1
theorem MKg.we {h : jv_H} {K : zK} (m : MKg nA nS h K) {j : Nat} (hj : j < K.w.n) : (jv_gI h 190 j, jv_gI h 191 j, jv_gI h 192 j, uq h 188 189 j) = K.w.e j := m.2.2.2.1.2.2 j hj
theorem MKg.sp {h : jv_H} {K : zK} (m : MKg nA nS h K) : jv_gI h 171 30 = K.sp := m.2.2.2.2
