/-! ===== the workshop of the class: fitted, kept, priced ===== -/
def s3 (s : Int32) : Prop := ∃ k : Nat, k < 3 ∧ s.toInt = k
theorem s3.nat {s : Int32} (h : s3 s) : s.toInt = s.toNatClampNeg ∧ s.toNatClampNeg < 3 := by
  obtain ⟨k, h1, h2⟩ := h
  rw [nz_nat h2]
  exact ⟨h2, h1⟩
def zL.okS (L : zL) : Prop := ∀ j, j < L.sz → s3 (L.so j)
/-- the bins of a part's sort -/
def bos (B : Nat → zB) (s : Int32) : zB := B s.toNatClampNeg
def fit_v (B : Nat → zB) (s : Int32) (v : Int × Int) : Int × Int := ((bos B s).e ((bos B s).nr v ((bos B s).n - 1) 1 0)).1
def zL.fitd (L : zL) (B : Nat → zB) : zL := (L.sz, L.en, L.lo, L.so, L.sh, fun j => fit_v B (L.so j) (L.va j))
def zL.fitb (L : zL) (B : Nat → zB) : Prop := ∀ j, j < L.sz → 0 < (bos B (L.so j)).n
section
variable (X : jv_X) (d : Nat) (h : jv_H) (w o o1 : Nat) (L1 : zL) (B : Nat → zB) (KI : Int32 → jv_H → Prop)
theorem fitted_l (Q : jv_Q) (ha : ap o o1) (ho : o + 4 ≤ w + 63) (hS : L1.okS) (hth : ∀ s, s < 3 → ∀ j, j < (B s).n → th ((B s).e j).1) : ∀ (m k : Nat) (x : Int32) (h : jv_H), x.toInt = k → k + m = L1.sz → SHP h w → LO 227 h o → LO 227 h o1 → CL h o ((L1.fitd B).cut k) → CL h o1 L1 → (∀ s, s < 3 → CB h (w + 63 + 4 * s) (B s)) → (∀ j, j < k → 0 < (bos B (L1.so j)).n) →
    (L1.fitb B → ∀ h', oS (lw o) h h' → CL h' o (L1.fitd B) → Q (some (.int 1)) h') → (¬ L1.fitb B → ∀ h', oS (lw o) h h' → Q (some (.int 0)) h') → a_Ladder_becomeFitted_7 X (d + 4) 227 Q o o1 (w + 3) x h 0
  | 0, k, x, h, hx, hm, sp, l, l1, c, c1, cb, hj, hQ1, hQ0 => by
    have hk : k = L1.sz := by omega
    refine r_Ladder_becomeFitted_7 X (d + 4) 227 Q o o1 _ x h ⟨l1.1, fun _ => ⟨Or.inr rfl, ?_⟩, fun z => absurd (nz_le.mpr (by rw [c1.gz, hx]; omega)) z⟩
    rw [hk] at c hj
    exact hQ1 hj h oS.rf c
  | m + 1, k, x, h, hx, hm, sp, l, l1, c, c1, cb, hj, hQ1, hQ0 => by
    have hk : k < L1.sz := by omega
    have hle := c1.le
    have hs := (hS k hk).nat
    have hb := cb _ hs.2
    have bo := sp.bo hs.2
    refine r_Ladder_becomeFitted_7 X (d + 4) 227 Q o o1 _ x h ⟨l1.1, fun z => ?_, fun z => ?_⟩
    · have := nz_le.mp z
      rw [c1.gz, hx] at this
      omega
    · repeat (first | refine ⟨(l1).1, ?_⟩ | refine ⟨_, (l1).2.1, ?_⟩ | refine ⟨_, (l1).2.2.1, ?_⟩ | refine ⟨_, (l1).2.2.2.1, ?_⟩ | refine ⟨(l1).xa (by assumption) (by omega), ?_⟩ | refine ⟨(l1).xb (by assumption) (by omega), ?_⟩ | refine ⟨(l1).xc (by assumption) (by omega), ?_⟩)
      rw [c1.gs hx hk]
      refine ⟨sp.x2 hs.1 hs.2, by decide, _, sp.kb hs.2, ?_⟩
      repeat (first | refine ⟨(l1).1, ?_⟩ | refine ⟨_, (l1).2.1, ?_⟩ | refine ⟨_, (l1).2.2.1, ?_⟩ | refine ⟨_, (l1).2.2.2.1, ?_⟩ | refine ⟨(l1).xa (by assumption) (by omega), ?_⟩ | refine ⟨(l1).xb (by assumption) (by omega), ?_⟩ | refine ⟨(l1).xc (by assumption) (by omega), ?_⟩)
      rw [c1.gv hx hk]
      refine ⟨bo.1, ?_⟩
      refine c_findNearest X d 227 _ h _ (bos B (L1.so k)) (L1.va k) (c1.vr hk) (hth _ hs.2) bo hb (fun hpos z hz => ⟨fun _ => ?_, fun y => ?_⟩) (fun hz => ⟨fun y => absurd y (by decide), fun _ => ⟨Or.inl rfl, hQ0 (fun f => by have := f k hk; omega) h oS.rf⟩⟩)
      · have hnr := (bos B (L1.so k)).nr_lt (L1.va k) ((bos B (L1.so k)).n - 1) 1 0 (bos B (L1.so k)).n hpos (by omega)
        have hb2 := hb.2.1
        repeat (first | refine ⟨(l1).1, ?_⟩ | refine ⟨_, (l1).2.1, ?_⟩ | refine ⟨_, (l1).2.2.1, ?_⟩ | refine ⟨_, (l1).2.2.2.1, ?_⟩ | refine ⟨(l1).xa (by assumption) (by omega), ?_⟩ | refine ⟨(l1).xb (by assumption) (by omega), ?_⟩ | refine ⟨(l1).xc (by assumption) (by omega), ?_⟩)
        rw [c1.gs hx hk, c1.gu hx hk]
        refine ⟨bo.1, _, bo.2.1, bo.xa hz (by show _ < 10; have : (bos B (L1.so k)).n ≤ 10 := hb.2.1; omega), l.1, ?_⟩
        rw [hb.gv hz hnr]
        refine c_addPart X (d + 3) 227 _ h o _ _ _ _ l c (by show k < 12; omega) (c1.u1 hk) (hb.vr hnr) (fun h' o' c' => ?_)
        refine fitted_l Q ha ho hS hth m (k + 1) _ h' (nz_inc hx (by omega)) (by omega) (sp.mv o') (l.mv o') (l1.mv o') (c'.eq (zL.cut_lk rfl rfl rfl)) (c1.mv o' ha.no) (fun s h3 => (cb s h3).mv o' (fun q h1 h2 h4 => by have := h4.1; have := h4.2; omega)) (fun j hlt => ?_) (fun f h2 o2 c2 => hQ1 f h2 (o'.tr o2) c2) (fun f h2 o2 => hQ0 f h2 (o'.tr o2))
        by_cases e : j = k
        · rw [e]; exact hpos
        · exact hj j (by omega)
      · exact absurd (nz_le.mpr (by rw [hz]; exact Int.natCast_nonneg _)) y
theorem c_becomeFitted (ha : ap o o1) (ho : o + 4 ≤ w + 63) (hS : L1.okS) (hth : ∀ s, s < 3 → ∀ j, j < (B s).n → th ((B s).e j).1) (sp : SHP h w) (l : LO 227 h o) (l1 : LO 227 h o1) (c1 : CL h o1 L1) (cb : ∀ s, s < 3 → CB h (w + 63 + 4 * s) (B s))
    (hK1 : L1.fitb B → ∀ h', oS (lw o) h h' → CL h' o (L1.fitd B) → KI 1 h') (hK0 : ¬ L1.fitb B → ∀ h', oS (lw o) h h' → KI 0 h') : jI X (d + 5) y_Ladder_becomeFitted [.ref o, .ref o1, .ref (w + 3)] 227 h KI := by
  refine r_Ladder_becomeFitted X (d + 4) 227 _ o o1 _ h ⟨l.1, ?_⟩
  refine c_beginLike X (d + 2) 227 _ h o o1 L1 l l1 c1 ha (fun h' o' c' => ?_)
  exact fitted_l X d w o o1 L1 B _ ha ho hS hth L1.sz 0 0 h' rfl (by omega) (sp.mv o') (l.mv o') (l1.mv o') (c'.eq ⟨rfl, rfl, rfl, fun j hj => absurd hj (Nat.not_lt_zero _)⟩) (c1.mv o' ha.no) (fun s h3 => (cb s h3).mv o' (fun q h1 h2 h4 => by have := h4.1; have := h4.2; omega)) (fun j hj => absurd hj (Nat.not_lt_zero _)) (fun f h2 o2 c2 => hK1 f h2 (o'.tr o2) c2) (fun f h2 o2 => hK0 f h2 (o'.tr o2))
end
/-! kept -/
def wr (w : Nat) : Nat → Prop := fun q => w ≤ q ∧ q < w + 75
def PA (h : jv_H) (w : Nat) (K : zK) (k : Nat) : Prop := (h.1 w 4).toInt = K.nr ∧ ∀ j, j < k → pc h (w + 11 + 5 * j) (K.R j).1 ∧ pc h (w + 13 + 5 * j) (K.R j).2
def PB (h : jv_H) (w : Nat) (K : zK) (k : Nat) : Prop := (h.1 w 5).toInt = K.nl ∧ ∀ j, j < k → CL h (w + 39 + 4 * j) (K.L j)
theorem PA.mv {h h' : jv_H} {w k : Nat} {K : zK} {S : Nat → Prop} (p : PA h w K k) (a : oS S h h') (h0 : ¬ S w) (hs : ∀ j, j < k → ¬ S (w + 11 + 5 * j) ∧ ¬ S (w + 13 + 5 * j)) : PA h' w K k := ⟨by rw [(a.2 w h0).1]; exact p.1, fun j hj => ⟨pc.mv a (hs j hj).1 (p.2 j hj).1, pc.mv a (hs j hj).2 (p.2 j hj).2⟩⟩
theorem PB.mv {h h' : jv_H} {w k : Nat} {K : zK} {S : Nat → Prop} (p : PB h w K k) (a : oS S h h') (h0 : ¬ S w) (hs : ∀ q, w + 39 ≤ q → q < w + 39 + 4 * k → ¬ S q) : PB h' w K k := ⟨by rw [(a.2 w h0).1]; exact p.1, fun j hj => (p.2 j hj).mv a (fun q h1 h2 => hs q (by omega) (by omega))⟩
section
variable (X : jv_X) (d : Nat) (h : jv_H) (w w1 : Nat) (K : zK) (KV : jv_H → Prop)
theorem wk80 (Q : jv_Q) (hab : w + 75 ≤ w1 ∨ w1 + 75 ≤ w) : ∀ (m k : Nat) (x : Int32) (h : jv_H), x.toInt = k → k + m = 3 → SHP h w → SHP h w1 → CK h w1 K → PA h w K K.nr → PB h w K K.nl → (∀ j, j < k → CB h (w + 63 + 4 * j) (K.B j)) → (∀ h', oS (wr w) h h' → CK h' w K → Q none h') → a_Workshop_become_80 X (d + 3) 227 Q w w1 x h 0
  | 0, k, x, h, hx, hm, s, s1, c, pa, pb, pd, hQ => by
    have hk : k = 3 := by omega
    subst hk
    have hb := s.bd
    have hmr := c.mr
    have hml := c.ml
    refine r_Workshop_become_80 X (d + 3) 227 Q w w1 x h ⟨fun _ => ⟨s.is, _, s.r3, s1.is, _, s1.r3, s.wo.1, ?_⟩, fun z => absurd (nz_le.mpr (by rw [hx]; exact Int.le_refl _)) z⟩
    refine c_W_become X (d + 1) 227 _ h _ K.w (w1 + 4) (by omega) s.wo s1.wo c.wa (fun h' o' cw => ⟨s1.is, s.is, ?_⟩)
    have o2 : oS (wr w) h' (jv_uI h' w 6 (jv_gI h' w1 6)) := oS_uI ⟨Nat.le_refl _, by omega⟩
    have hsp : h'.1 w1 6 = K.sp := by
      rw [(o'.2 w1 (fun z => by have := z.1; have := z.2; omega)).1]
      exact c.2.2.2.2
    refine hQ _ ((o'.mono (fun q z => ⟨by have := z.1; omega, by have := z.2; omega⟩)).tr o2) ?_
    have pa' := pa.mv o' (fun z => by have := z.1; have := z.2; omega) (fun j hj => ⟨fun z => by have := z.1; have := z.2; omega, fun z => by have := z.1; have := z.2; omega⟩)
    have pb' := pb.mv o' (fun z => by have := z.1; have := z.2; omega) (fun q h1 h2 z => by have := z.1; have := z.2; omega)
    refine ⟨⟨by rw [uI_ne (by omega)]; exact pa'.1, hmr, pa'.2⟩, ⟨by rw [uI_ne (by omega)]; exact pb'.1, hml, fun j hj => (pb'.2 j hj).uI (by omega)⟩, fun j hj => ((pd j hj).mv o' (fun q h1 h2 z => by have := z.1; have := z.2; omega)).uI (by omega), cw.uI (by omega), by rw [uI_eq]; exact hsp⟩
  | m + 1, k, x, h, hx, hm, s, s1, c, pa, pb, pd, hQ => by
    have hk : k < 3 := by omega
    have hb := s.bd
    have hmr := c.mr
    have hml := c.ml
    refine r_Workshop_become_80 X (d + 3) 227 Q w w1 x h ⟨fun z => ?_, fun z => ⟨s.is, _, s.r2, s.x2 hx hk, by decide, _, (by rw [nz_nat hx]; exact s.kb hk), s1.is, _, s1.r2, s1.x2 hx hk, by decide, _, (by rw [nz_nat hx]; exact s1.kb hk), (s.bo hk).1, ?_⟩⟩
    · have : (3 : Int) ≤ x.toInt := nz_le.mp z
      omega
    · refine c_B_become X d 227 _ h _ (K.B k) (w1 + 63 + 4 * k) (by unfold ap; omega) (s.bo hk) (s1.bo hk) (c.b hk) (fun h' o' cb => ?_)
      have hno : ∀ q, us w1 K q → ¬ lw (w + 63 + 4 * k) q := fun q u z => by have := us_b hmr hml u; have := z.1; have := z.2; omega
      refine wk80 Q hab m (k + 1) _ h' (nz_inc hx (by omega)) (by omega) (s.mv o') (s1.mv o') (c.mv o'.R hno) (pa.mv o' (fun z => by have := z.1; have := z.2; omega) (fun j hj => ⟨fun z => by have := z.1; have := z.2; omega, fun z => by have := z.1; have := z.2; omega⟩)) (pb.mv o' (fun z => by have := z.1; have := z.2; omega) (fun q h1 h2 z => by have := z.1; have := z.2; omega)) (fun j hj => ?_) (fun h2 o2 c2 => hQ h2 ((o'.mono (fun q z => ⟨by have := z.1; omega, by have := z.2; omega⟩)).tr o2) c2)
      by_cases e : j = k
      · rw [e]; exact cb
      · exact (pd j (by omega)).mv o' (fun q h1 h2 z => by have := z.1; have := z.2; omega)
theorem wk49 (Q : jv_Q) (hab : w + 75 ≤ w1 ∨ w1 + 75 ≤ w) : ∀ (m k : Nat) (x : Int32) (h : jv_H), x.toInt = k → k + m = K.nl → SHP h w → SHP h w1 → CK h w1 K → PA h w K K.nr → PB h w K k → (∀ h', oS (wr w) h h' → CK h' w K → Q none h') → a_Workshop_become_49 X (d + 3) 227 Q w w1 x h 0
  | 0, k, x, h, hx, hm, s, s1, c, pa, pb, hQ => by
    have hk : k = K.nl := by omega
    subst hk
    exact r_Workshop_become_49 X (d + 3) 227 Q w w1 x h ⟨s.is, fun _ => wk80 X d w w1 K Q hab 3 0 0 h rfl rfl s s1 c pa pb (fun j hj => by omega) hQ, fun z => absurd (nz_le.mpr (by rw [show (jv_gI h w 5).toInt = K.nl from pb.1, hx]; exact Int.le_refl _)) z⟩
  | m + 1, k, x, h, hx, hm, s, s1, c, pa, pb, hQ => by
    have hk : k < K.nl := by omega
    have hb := s.bd
    have hmr := c.mr
    have hml := c.ml
    have hk6 : k < 6 := by omega
    refine r_Workshop_become_49 X (d + 3) 227 Q w w1 x h ⟨s.is, fun z => ?_, fun z => ⟨s.is, _, s.r1, s.x1 hx hk6, by decide, _, (by rw [nz_nat hx]; exact s.kl hk6), s1.is, _, s1.r1, s1.x1 hx hk6, by decide, _, (by rw [nz_nat hx]; exact s1.kl hk6), (s.lo hk6).1, ?_⟩⟩
    · have := nz_le.mp z
      rw [show (jv_gI h w 5).toInt = K.nl from pb.1, hx] at this
      omega
    · refine c_L_become X d 227 _ h _ (w1 + 39 + 4 * k) (K.L k) (s.lo hk6) (s1.lo hk6) (c.l hk) (by unfold ap; omega) (fun h' o' cb => ?_)
      have hno : ∀ q, us w1 K q → ¬ lw (w + 39 + 4 * k) q := fun q u z => by have := us_b hmr hml u; have := z.1; have := z.2; omega
      have pb' := pb.mv o' (fun z => by have := z.1; have := z.2; omega) (fun q h1 h2 z => by have := z.1; have := z.2; omega)
      refine wk49 Q hab m (k + 1) _ h' (nz_inc hx (by omega)) (by omega) (s.mv o') (s1.mv o') (c.mv o'.R hno) (pa.mv o' (fun z => by have := z.1; have := z.2; omega) (fun j hj => ⟨fun z => by have := z.1; have := z.2; omega, fun z => by have := z.1; have := z.2; omega⟩)) ⟨pb'.1, fun j hj => ?_⟩ (fun h2 o2 c2 => hQ h2 ((o'.mono (fun q z => ⟨by have := z.1; omega, by have := z.2; omega⟩)).tr o2) c2)
      by_cases e : j = k
      · rw [e]; exact cb
      · exact pb'.2 j (by omega)
theorem wk10 (Q : jv_Q) (hab : w + 75 ≤ w1 ∨ w1 + 75 ≤ w) : ∀ (m k : Nat) (x : Int32) (h : jv_H), x.toInt = k → k + m = K.nr → SHP h w → SHP h w1 → CK h w1 K → PA h w K k → (∀ h', oS (wr w) h h' → CK h' w K → Q none h') → a_Workshop_become_10 X (d + 3) 227 Q w w1 x h 0
  | 0, k, x, h, hx, hm, s, s1, c, pa, hQ => by
    have hk : k = K.nr := by omega
    subst hk
    have hb := s.bd
    have hmr := c.mr
    have hml := c.ml
    have o1 : oS (wr w) h (jv_uI h w 5 (jv_gI h w1 5)) := oS_uI ⟨Nat.le_refl _, by omega⟩
    refine r_Workshop_become_10 X (d + 3) 227 Q w w1 x h ⟨s.is, fun _ => ⟨s1.is, s.is, ?_⟩, fun z => absurd (nz_le.mpr (by rw [show (jv_gI h w 4).toInt = K.nr from pa.1, hx]; exact Int.le_refl _)) z⟩
    exact wk49 X d w w1 K Q hab K.nl 0 0 _ rfl (by omega) (s.mv o1) (s1.mv o1) (c.mv o1.R (fun q u z => by have := us_b hmr hml u; have := z.1; have := z.2; omega)) ⟨by rw [uI_ne (by omega)]; exact pa.1, pa.2⟩ ⟨by rw [uI_eq]; exact c.zl, fun j hj => absurd hj (Nat.not_lt_zero _)⟩ (fun h2 o2 c2 => hQ h2 (o1.tr o2) c2)
  | m + 1, k, x, h, hx, hm, s, s1, c, pa, hQ => by
    have hk : k < K.nr := by omega
    have hb := s.bd
    have hmr := c.mr
    have hml := c.ml
    have hk6 : k < 6 := by omega
    refine r_Workshop_become_10 X (d + 3) 227 Q w w1 x h ⟨s.is, fun z => ?_, fun z => ⟨s.is, _, s.r0, s.x0 hx hk6, by decide, _, (by rw [nz_nat hx]; exact s.kr hk6), s1.is, _, s1.r0, s1.x0 hx hk6, by decide, _, (by rw [nz_nat hx]; exact s1.kr hk6), (s.ro hk6).1, ?_⟩⟩
    · have := nz_le.mp z
      rw [show (jv_gI h w 4).toInt = K.nr from pa.1, hx] at this
      omega
    · refine c_Ratio_become X (d + 1) 227 _ h _ _ _ _ _ _ _ _ _ _ _ _ (s.ro hk6) (s1.ro hk6) (by omega) (by omega) (by omega) (c.pa hk) (c.pb hk) (fun h' o' ca cb => ?_)
      have hno : ∀ q, us w1 K q → ¬ rw2 (w + 11 + 5 * k) (w + 13 + 5 * k) q := fun q u z => by have := us_b hmr hml u; rcases z with z | z <;> omega
      have pa' := pa.mv o' (fun z => by rcases z with z | z <;> omega) (fun j hj => ⟨fun z => by rcases z with z | z <;> omega, fun z => by rcases z with z | z <;> omega⟩)
      refine wk10 Q hab m (k + 1) _ h' (nz_inc hx (by omega)) (by omega) (s.mv o') (s1.mv o') (c.mv o'.R hno) ⟨pa'.1, fun j hj => ?_⟩ (fun h2 o2 c2 => hQ h2 ((o'.mono (fun q z => by rcases z with z | z <;> exact ⟨by omega, by omega⟩)).tr o2) c2)
      by_cases e : j = k
      · rw [e]; exact ⟨ca, cb⟩
      · exact pa'.2 j (by omega)
theorem c_K_become (hab : w + 75 ≤ w1 ∨ w1 + 75 ≤ w) (s : SHP h w) (s1 : SHP h w1) (c : CK h w1 K) (hK : ∀ h', oS (wr w) h h' → CK h' w K → KV h') : jV X (d + 4) y_Workshop_become [.ref w, .ref w1] 227 h KV := by
  have hb := s.bd
  have hmr := c.mr
  have hml := c.ml
  have o1 : oS (wr w) h (jv_uI h w 4 (jv_gI h w1 4)) := oS_uI ⟨Nat.le_refl _, by omega⟩
  refine r_Workshop_become X (d + 3) 227 _ w w1 h ⟨s1.is, s.is, ?_⟩
  exact wk10 X d w w1 K _ hab K.nr 0 0 _ rfl (by omega) (s.mv o1) (s1.mv o1) (c.mv o1.R (fun q u z => by have := us_b hmr hml u; have := z.1; have := z.2; omega)) ⟨by rw [uI_eq]; exact c.zr, fun j hj => absurd hj (Nat.not_lt_zero _)⟩ (fun h2 o2 c2 => hK h2 (o1.tr o2) c2)
end
