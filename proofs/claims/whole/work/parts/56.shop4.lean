/-! ===== the workshop of the class: spent; unlike values ===== -/
theorem CK.tk {h : jv_H} {w : Nat} {K : zK} {s : Int32} {v : Int × Int} (hs : s3 s) (j : Nat) (hf : fnd K.B s v = j) (hj : j < (bos K.B s).n) (c : CK h w K) :
    CK (jv_uI (jv_uI h (w + 63 + 4 * s.toNatClampNeg + 2) j (((bos K.B s).e j).2.1 - 1)) w 6 (K.sp + ((bos K.B s).e j).2.2)) w (K.take s v) := by
  have hn := hs.nat
  obtain ⟨⟨c1, c2, c3⟩, ⟨c4, c5, c6⟩, c7, c8, c9⟩ := c
  refine ⟨⟨by rw [uI_ne (by omega), uI_ne (by omega)]; exact c1, c2, c3⟩, ⟨by rw [uI_ne (by omega), uI_ne (by omega)]; exact c4, c5, fun k hk => ?_⟩, fun t ht => ?_, ?_, ?_⟩
  · have hk : k < K.nl := hk
    exact ((c6 k hk).uI (by omega)).uI (by omega)
  · show CB _ _ (if t = s.toNatClampNeg then (K.B t).dec (fnd K.B s v) else K.B t)
    by_cases e : t = s.toNatClampNeg
    · rw [if_pos e]
      subst e
      refine CB.uI ?_ (by omega)
      obtain ⟨b1, b2, b3⟩ := c7 _ ht
      refine ⟨by rw [uI_ne (by omega)]; exact b1, b2, fun i hi => ?_⟩
      obtain ⟨b4, b5⟩ := b3 i hi
      have g1 : h.2.1 (w + 63 + 4 * s.toNatClampNeg + 1) i = fz_p ((K.B s.toNatClampNeg).e i).1 := congrArg Prod.fst b4
      have g2 : h.1 (w + 63 + 4 * s.toNatClampNeg + 2) i = ((K.B s.toNatClampNeg).e i).2.1 := congrArg (fun t => t.2.1) b4
      have g3 : h.1 (w + 63 + 4 * s.toNatClampNeg + 3) i = ((K.B s.toNatClampNeg).e i).2.2 := congrArg (fun t => t.2.2) b4
      have f1 : (jv_uI h (w + 63 + 4 * s.toNatClampNeg + 2) j (((bos K.B s).e j).2.1 - 1)).1 (w + 63 + 4 * s.toNatClampNeg + 3) i = ((K.B s.toNatClampNeg).e i).2.2 := by rw [uI_ne (by omega)]; exact g3
      show (h.2.1 (w + 63 + 4 * s.toNatClampNeg + 1) i, (jv_uI h (w + 63 + 4 * s.toNatClampNeg + 2) j (((bos K.B s).e j).2.1 - 1)).1 (w + 63 + 4 * s.toNatClampNeg + 2) i, (jv_uI h (w + 63 + 4 * s.toNatClampNeg + 2) j (((bos K.B s).e j).2.1 - 1)).1 (w + 63 + 4 * s.toNatClampNeg + 3) i) = bpk (((K.B s.toNatClampNeg).dec (fnd K.B s v)).e i) ∧ fz_r (((K.B s.toNatClampNeg).dec (fnd K.B s v)).e i).1
      rw [f1, g1, hf, zB.dec_e]
      by_cases e2 : i = j
      · subst e2
        rw [if_pos rfl, uI_eq]
        exact ⟨rfl, b5⟩
      · rw [if_neg (by omega), uI_ne (by omega), g2]
        exact ⟨rfl, b5⟩
    · rw [if_neg e]
      exact ((c7 t ht).uI (by omega)).uI (by omega)
  · exact (c8.uI (by omega)).uI (by omega)
  · rw [uI_eq]
    show _ = K.sp + ((bos K.B s).e (fnd K.B s v).toNat).2.2
    rw [hf]
    rfl
theorem CK.stW {h h' : jv_H} {w : Nat} {K : zK} {W : zW} (c : CK h w K) (a : oS (lw5 (w + 4)) h h') (cw : CW h' (w + 4) W) : CK h' w (K.setW W) := by
  obtain ⟨⟨c1, c2, c3⟩, ⟨c4, c5, c6⟩, c7, c8, c9⟩ := c
  have a0 := (a.2 w (fun z => by have := z.1; omega)).1
  refine ⟨⟨by rw [a0]; exact c1, c2, fun k hk => ⟨pc.mv a (fun z => by have := z.2; omega) (c3 k hk).1, pc.mv a (fun z => by have := z.2; omega) (c3 k hk).2⟩⟩, ⟨by rw [a0]; exact c4, c5, fun k hk => (c6 k hk).mv a (fun q h1 h2 z => by have := z.2; omega)⟩, fun t ht => (c7 t ht).mv a (fun q h1 h2 z => by have := z.2; omega), cw, by rw [a0]; exact c9⟩
/-- the rows of a workshop that building changes -/
def bw (w : Nat) : Nat → Prop := fun q => q = w ∨ (w + 4 ≤ q ∧ q < w + 9) ∨ (w + 63 ≤ q ∧ q < w + 75)
section
variable (X : jv_X) (d : Nat) (h : jv_H) (w : Nat) (K : zK) (KV : jv_H → Prop) (KI : Int32 → jv_H → Prop) (KL : Int64 → jv_H → Prop)
theorem spend_l (Q : jv_Q) (i : Nat) (hi : i < K.nl) (u : Int32) (hS : (K.L i).okS) (hC : okC K.B) (hroom : K.w.n + lacn K.B (K.L i) (K.L i).sz ≤ 24) : ∀ (m k : Nat) (x : Int32) (h : jv_H), x.toInt = k → k + m = (K.L i).sz → SHP h w → CK h w (K.spn (K.L i) u k) → (∀ h', oS (bw w) h h' → CK h' w (K.spn (K.L i) u (K.L i).sz) → Q none h') → a_Workshop_spendOn_2 X (d + 4) 227 Q w (w + 39 + 4 * i) u x h 0
  | 0, k, x, h, hx, hm, s, c, hQ => by
    have hk : k = (K.L i).sz := by omega
    subst hk
    have h1 := K.spn_1 (K.L i) u (K.L i).sz
    have hnl : (K.spn (K.L i) u (K.L i).sz).nl = K.nl := congrArg Prod.fst h1.2
    have hL : (K.spn (K.L i) u (K.L i).sz).L i = K.L i := congrFun (congrArg Prod.snd h1.2) i
    have hml := c.ml
    have cl := c.l (k := i) (by omega)
    rw [hL] at cl
    exact r_Workshop_spendOn_2 X (d + 4) 227 Q w _ u x h ⟨(s.lo (by omega)).1, fun _ => hQ h oS.rf c, fun z => absurd (nz_le.mpr (by rw [cl.gz, hx]; exact Int.le_refl _)) z⟩
  | m + 1, k, x, h, hx, hm, s, c, hQ => by
    have hk : k < (K.L i).sz := by omega
    have h1 := K.spn_1 (K.L i) u k
    have hnl : (K.spn (K.L i) u k).nl = K.nl := congrArg Prod.fst h1.2
    have hL : (K.spn (K.L i) u k).L i = K.L i := congrFun (congrArg Prod.snd h1.2) i
    have hml := c.ml
    have cl := c.l (k := i) (by omega)
    rw [hL] at cl
    have l := s.lo (k := i) (by omega)
    have hle := cl.le
    have hs := (hS k hk).nat
    have hcb := c.b hs.2
    have hw := spn_w (u := u) hS hC k (by omega)
    have hav := spn_av (u := u) (y := (K.L i).va k) hS hC (hS k hk) k (by omega)
    have hl1 : lacn K.B (K.L i) (k + 1) = lacn K.B (K.L i) k + if av K.B ((K.L i).so k) ((K.L i).va k) ≤ (K.L i).lik ((K.L i).so k) ((K.L i).va k) k then 1 else 0 := rfl
    have hl2 := lacn_mono K.B (K.L i) (show k + 1 ≤ (K.L i).sz by omega)
    have hsp : K.spn (K.L i) u (k + 1) = (K.spn (K.L i) u k).sp1 ((K.L i).so k) ((K.L i).va k) u := rfl
    have add : ¬ 0 < av (K.spn (K.L i) u k).B ((K.L i).so k) ((K.L i).va k) → jV X (d + 4) y_Wants_add [.ref (w + 4), .int ((K.L i).so k), .long (fz_p ((K.L i).va k)), .int u] 227 h (fun h10 => a_Workshop_spendOn_2 X (d + 4) 227 Q w (w + 39 + 4 * i) u (x + 1) h10 0) := fun e => by
      have hlt : (K.spn (K.L i) u k).w.n < 24 := by
        rw [hw]
        by_cases e2 : av K.B ((K.L i).so k) ((K.L i).va k) ≤ (K.L i).lik ((K.L i).so k) ((K.L i).va k) k
        · rw [if_pos e2] at hl1
          omega
        · rw [if_neg e2] at hav
          omega
      refine c_W_add X d 227 _ h _ (K.spn (K.L i) u k).w _ _ _ (cl.vr hk) s.wo c.wa hlt (fun h' o' cw => ?_)
      have c' := c.stW o' cw
      have hsp2 : (K.spn (K.L i) u k).setW ((K.spn (K.L i) u k).w.add ((K.L i).so k) ((K.L i).va k) u) = K.spn (K.L i) u (k + 1) := by
        rw [hsp]
        unfold zK.sp1
        rw [if_neg e]
      rw [hsp2] at c'
      exact spend_l Q i hi u hS hC hroom m (k + 1) _ h' (nz_inc hx (by omega)) (by omega) (s.mv o') c' (fun h2 o2 c2 => hQ h2 ((o'.mono (fun q z => Or.inr (Or.inl ⟨by have := z.1; omega, by have := z.2; omega⟩))).tr o2) c2)
    refine r_Workshop_spendOn_2 X (d + 4) 227 Q w _ u x h ⟨l.1, fun z => ?_, fun z => ⟨s.is, _, s.r2, ?_⟩⟩
    · have := nz_le.mp z
      rw [cl.gz, hx] at this
      omega
    · repeat (first | refine ⟨(l).1, ?_⟩ | refine ⟨_, (l).2.1, ?_⟩ | refine ⟨_, (l).2.2.1, ?_⟩ | refine ⟨_, (l).2.2.2.1, ?_⟩ | refine ⟨(l).xa (by assumption) (by omega), ?_⟩ | refine ⟨(l).xb (by assumption) (by omega), ?_⟩ | refine ⟨(l).xc (by assumption) (by omega), ?_⟩)
      rw [cl.gs hx hk]
      refine ⟨s.x2 hs.1 hs.2, by decide, _, s.kb hs.2, ?_⟩
      repeat (first | refine ⟨(l).1, ?_⟩ | refine ⟨_, (l).2.1, ?_⟩ | refine ⟨_, (l).2.2.1, ?_⟩ | refine ⟨_, (l).2.2.2.1, ?_⟩ | refine ⟨(l).xa (by assumption) (by omega), ?_⟩ | refine ⟨(l).xb (by assumption) (by omega), ?_⟩ | refine ⟨(l).xc (by assumption) (by omega), ?_⟩)
      rw [cl.gv hx hk]
      refine ⟨(s.bo hs.2).1, c_find X (d + 3) 227 _ h _ _ ((K.L i).va k) (cl.vr hk) (s.bo hs.2) hcb (fun z hz => ?_)⟩
      have hz : z.toInt = fnd (K.spn (K.L i) u k).B ((K.L i).so k) ((K.L i).va k) := hz
      refine ⟨fun y => ⟨s.is, _, s.r3, ?_⟩, fun y => ?_⟩
      · have y : z.toInt < 0 := nz_lt.mp y
        repeat (first | refine ⟨(l).1, ?_⟩ | refine ⟨_, (l).2.1, ?_⟩ | refine ⟨_, (l).2.2.1, ?_⟩ | refine ⟨_, (l).2.2.2.1, ?_⟩ | refine ⟨(l).xa (by assumption) (by omega), ?_⟩ | refine ⟨(l).xb (by assumption) (by omega), ?_⟩ | refine ⟨(l).xc (by assumption) (by omega), ?_⟩)
        rw [cl.gs hx hk, cl.gv hx hk]
        refine ⟨s.wo.1, add ?_⟩
        unfold av
        rw [if_neg (by omega)]
        exact Int.lt_irrefl _
      · have y : ¬ z.toInt < 0 := fun q => y (nz_lt.mpr q)
        rcases fnd_b (K.spn (K.L i) u k).B ((K.L i).so k) ((K.L i).va k) with f | ⟨j, f, f1, f2⟩
        · omega
        · have hav2 : av (K.spn (K.L i) u k).B ((K.L i).so k) ((K.L i).va k) = ((bos (K.spn (K.L i) u k).B ((K.L i).so k)).e j).2.1.toInt := by unfold av; rw [f, if_pos (Int.natCast_nonneg _)]; rfl
          rw [f] at hz
          have hb10 : (bos (K.spn (K.L i) u k).B ((K.L i).so k)).n ≤ 10 := hcb.2.1
          have bo := s.bo hs.2
          refine ⟨bo.1, _, bo.2.2.1, bo.xb hz (by omega), ?_⟩
          rw [hcb.gc hz f1]
          refine ⟨fun q => ⟨s.is, _, s.r3, ?_⟩, fun q => ⟨bo.1, _, bo.2.2.1, bo.xb hz (by omega), bo.xb hz (by omega), s.is, bo.1, _, bo.2.2.2.1, bo.xc hz (by omega), s.is, ?_⟩⟩
          · have q : ((bos (K.spn (K.L i) u k).B ((K.L i).so k)).e j).2.1.toInt ≤ 0 := nz_le.mp q
            repeat (first | refine ⟨(l).1, ?_⟩ | refine ⟨_, (l).2.1, ?_⟩ | refine ⟨_, (l).2.2.1, ?_⟩ | refine ⟨_, (l).2.2.2.1, ?_⟩ | refine ⟨(l).xa (by assumption) (by omega), ?_⟩ | refine ⟨(l).xb (by assumption) (by omega), ?_⟩ | refine ⟨(l).xc (by assumption) (by omega), ?_⟩)
            rw [cl.gs hx hk, cl.gv hx hk]
            exact ⟨s.wo.1, add (by omega)⟩
          · have q : ¬ ((bos (K.spn (K.L i) u k).B ((K.L i).so k)).e j).2.1.toInt ≤ 0 := fun p => q (nz_le.mpr p)
            have e1 : ∀ v, jv_gI (jv_uI h (w + 63 + 4 * ((K.L i).so k).toNatClampNeg + 2) z.toNatClampNeg v) w 6 = (K.spn (K.L i) u k).sp := fun v => (show (jv_uI h (w + 63 + 4 * ((K.L i).so k).toNatClampNeg + 2) z.toNatClampNeg v).1 w 6 = h.1 w 6 from uI_ne (by omega)).trans c.2.2.2.2
            have e2 : ∀ v, jv_gI (jv_uI h (w + 63 + 4 * ((K.L i).so k).toNatClampNeg + 2) z.toNatClampNeg v) (w + 63 + 4 * ((K.L i).so k).toNatClampNeg + 3) z.toNatClampNeg = ((bos (K.spn (K.L i) u k).B ((K.L i).so k)).e j).2.2 := fun v => (show (jv_uI h (w + 63 + 4 * ((K.L i).so k).toNatClampNeg + 2) z.toNatClampNeg v).1 (w + 63 + 4 * ((K.L i).so k).toNatClampNeg + 3) z.toNatClampNeg = h.1 (w + 63 + 4 * ((K.L i).so k).toNatClampNeg + 3) z.toNatClampNeg from uI_ne (by omega)).trans (hcb.gp hz f1)
            rw [e1, e2, hcb.gc hz f1, nz_nat hz]
            have c' := c.tk (v := (K.L i).va k) (hS k hk) j f f1
            have hsp2 : (K.spn (K.L i) u k).take ((K.L i).so k) ((K.L i).va k) = K.spn (K.L i) u (k + 1) := by
              rw [hsp]
              unfold zK.sp1
              rw [if_pos (by omega)]
            rw [hsp2] at c'
            have o' : oS (bw w) h (jv_uI (jv_uI h (w + 63 + 4 * ((K.L i).so k).toNatClampNeg + 2) j (((bos (K.spn (K.L i) u k).B ((K.L i).so k)).e j).2.1 - 1)) w 6 ((K.spn (K.L i) u k).sp + ((bos (K.spn (K.L i) u k).B ((K.L i).so k)).e j).2.2)) := (oS_uI (S := bw w) (Or.inr (Or.inr ⟨by omega, by omega⟩))).tr (oS_uI (Or.inl rfl))
            exact spend_l Q i hi u hS hC hroom m (k + 1) _ _ (nz_inc hx (by omega)) (by omega) (s.mv o') c' (fun h2 o2 c2 => hQ h2 (o'.tr o2) c2)
theorem c_spendOn (i : Nat) (hi : i < K.nl) (u : Int32) (hS : (K.L i).okS) (hC : okC K.B) (hroom : K.w.n + lacn K.B (K.L i) (K.L i).sz ≤ 24) (s : SHP h w) (c : CK h w K) (hK : ∀ h', oS (bw w) h h' → CK h' w (K.spn (K.L i) u (K.L i).sz) → KV h') : jV X (d + 5) y_Workshop_spendOn [.ref w, .ref (w + 39 + 4 * i), .int u] 227 h KV := by
  refine r_Workshop_spendOn X (d + 4) 227 _ w _ u h ?_
  exact spend_l X d w K _ i hi u hS hC hroom (K.L i).sz 0 0 h rfl (by omega) s c hK
end
/-! unlike values -/
def gb1 (L : zL) (s : Int32) (lim : Int × Int) : Nat → Nat → Int × Int → Int × Int
  | 0, _, g => g
  | m + 1, k, g => gb1 L s lim m (k + 1) (if L.so k = s ∧ (fz_cmp (L.va k) lim).toInt < 0 ∧ 0 < (fz_cmp (L.va k) g).toInt then L.va k else g)
def gb2 (LL : Nat → zL) (s : Int32) (lim : Int × Int) : Nat → Nat → Int × Int → Int × Int
  | 0, _, g => g
  | m + 1, n, g => gb2 LL s lim m (n + 1) (gb1 (LL n) s lim (LL n).sz 0 g)
def zK.gb (K : zK) (s : Int32) (lim : Int × Int) : Int × Int := gb2 K.L s lim K.nl 0 (0, 1)
def zK.un (K : zK) (s : Int32) : Nat → Int × Int
  | 0 => K.gb s (1, 0)
  | k + 1 => if K.un s k = (0, 1) then (0, 1) else K.gb s (K.un s k)
def zK.uc (K : zK) (s : Int32) : Nat → Nat → Nat
  | 0, k => k
  | m + 1, k => if K.un s k = (0, 1) then k else K.uc s m (k + 1)
theorem un_stay (K : zK) (s : Int32) : ∀ (m k : Nat), K.un s k = (0, 1) → K.un s (k + m) = (0, 1)
  | 0, _, h => h
  | m + 1, k, h => by
    have := un_stay K s m k h
    show (if K.un s (k + m) = (0, 1) then (0, 1) else K.gb s (K.un s (k + m))) = (0, 1)
    rw [if_pos this]
section
variable (X : jv_X) (d : Nat) (h : jv_H) (w : Nat) (K : zK) (KV : jv_H → Prop) (KI : Int32 → jv_H → Prop) (KL : Int64 → jv_H → Prop)
theorem gb1_l (Q : jv_Q) (sx : Int32) (lim : Int × Int) (hlim : fz_r lim) (x6 : Int32) (o : Nat) (L : zL) (l : LO 227 h o) (c : CL h o L) : ∀ (m k : Nat) (x8 : Int32) (g : Int × Int), x8.toInt = k → k + m = L.sz → fz_r g → (fz_r (gb1 L sx lim m k g) → a_Workshop_greatestBelow_6 X (d + 2) 227 Q w sx (fz_p lim) (fz_p (gb1 L sx lim m k g)) (x6 + 1) h 0) → a_Workshop_greatestBelow_27 X (d + 2) 227 Q w sx (fz_p lim) (fz_p g) x6 o x8 h 0
  | 0, k, x8, g, h8, hm, hg, hQ => by
    exact r_Workshop_greatestBelow_27 X (d + 2) 227 Q w sx _ _ x6 o x8 h ⟨l.1, fun _ => hQ hg, fun z => absurd (nz_le.mpr (by rw [c.gz, h8]; omega)) z⟩
  | m + 1, k, x8, g, h8, hm, hg, hQ => by
    have hle := c.le
    have hk : k < L.sz := by omega
    have hv := c.vr hk
    unfold gb1 at hQ
    have no : ¬ (L.so k = sx ∧ (fz_cmp (L.va k) lim).toInt < 0 ∧ 0 < (fz_cmp (L.va k) g).toInt) → a_Workshop_greatestBelow_27 X (d + 2) 227 Q w sx (fz_p lim) (fz_p g) x6 o (x8 + 1) h 0 := fun e => by
      rw [if_neg e] at hQ
      exact gb1_l Q sx lim hlim x6 o L l c m (k + 1) _ g (nz_inc h8 (by omega)) (by omega) hg hQ
    refine r_Workshop_greatestBelow_27 X (d + 2) 227 Q w sx _ _ x6 o x8 h ⟨l.1, fun z => ?_, fun z => ?_⟩
    · have := nz_le.mp z
      rw [c.gz, h8] at this
      omega
    · repeat (first | refine ⟨(l).1, ?_⟩ | refine ⟨_, (l).2.1, ?_⟩ | refine ⟨_, (l).2.2.1, ?_⟩ | refine ⟨_, (l).2.2.2.1, ?_⟩ | refine ⟨(l).xa (by assumption) (by omega), ?_⟩ | refine ⟨(l).xb (by assumption) (by omega), ?_⟩ | refine ⟨(l).xc (by assumption) (by omega), ?_⟩)
      rw [c.gs h8 hk, c.gv h8 hk]
      refine ⟨fun e => no (fun y => e y.1), fun e => ?_⟩
      refine c_compare X d 227 _ h _ _ hv hlim ⟨fun y => no (fun q => ?_), fun y => ?_⟩
      · have : (0 : Int) ≤ (fz_cmp (L.va k) lim).toInt := nz_le.mp y
        omega
      · have y : ¬ (0 : Int) ≤ (fz_cmp (L.va k) lim).toInt := fun q => y (nz_le.mpr q)
        refine c_compare X d 227 _ h _ _ hv hg ⟨fun q => no (fun p => ?_), fun q => ?_⟩
        · have : (fz_cmp (L.va k) g).toInt ≤ (0 : Int) := nz_le.mp q
          omega
        · have q : ¬ (fz_cmp (L.va k) g).toInt ≤ (0 : Int) := fun p => q (nz_le.mpr p)
          rw [if_pos ⟨e, by omega, by omega⟩] at hQ
          exact gb1_l Q sx lim hlim x6 o L l c m (k + 1) _ _ (nz_inc h8 (by omega)) (by omega) hv hQ
theorem gb2_l (Q : jv_Q) (sx : Int32) (lim : Int × Int) (hlim : fz_r lim) (s : SHP h w) (c : CK h w K) : ∀ (m n : Nat) (x6 : Int32) (g : Int × Int), x6.toInt = n → n + m = K.nl → fz_r g → (fz_r (gb2 K.L sx lim m n g) → Q (some (.long (fz_p (gb2 K.L sx lim m n g)))) h) → a_Workshop_greatestBelow_6 X (d + 2) 227 Q w sx (fz_p lim) (fz_p g) x6 h 0
  | 0, n, x6, g, h6, hm, hg, hQ => by
    exact r_Workshop_greatestBelow_6 X (d + 2) 227 Q w sx _ _ x6 h ⟨s.is, fun _ => hQ hg, fun z => absurd (nz_le.mpr (by rw [c.zl, h6]; omega)) z⟩
  | m + 1, n, x6, g, h6, hm, hg, hQ => by
    have hml := c.ml
    have hn : n < K.nl := by omega
    have hn6 : n < 6 := by omega
    refine r_Workshop_greatestBelow_6 X (d + 2) 227 Q w sx _ _ x6 h ⟨s.is, fun z => ?_, fun z => ⟨s.is, _, s.r1, s.x1 h6 hn6, by decide, _, (by rw [nz_nat h6]; exact s.kl hn6), ?_⟩⟩
    · have := nz_le.mp z
      rw [c.zl, h6] at this
      omega
    · exact gb1_l X d h w Q sx lim hlim x6 _ (K.L n) (s.lo hn6) (c.l hn) (K.L n).sz 0 0 g rfl (by omega) hg (fun hg' => gb2_l Q sx lim hlim s c m (n + 1) _ _ (nz_inc h6 (by omega)) (by omega) hg' hQ)
theorem c_greatestBelow (sx : Int32) (lim : Int × Int) (hlim : fz_r lim) (s : SHP h w) (c : CK h w K) (hK : fz_r (K.gb sx lim) → KL (fz_p (K.gb sx lim)) h) : jL X (d + 3) y_Workshop_greatestBelow [.ref w, .int sx, .long (fz_p lim)] 227 h KL := by
  refine r_Workshop_greatestBelow X (d + 2) 227 _ w sx _ h ?_
  rw [← fz_p_0]
  exact gb2_l X d h w K _ sx lim hlim s c K.nl 0 0 (0, 1) rfl (by omega) fz_r_0 hK
theorem uc_l (Q : jv_Q) (sx : Int32) (s : SHP h w) (c : CK h w K) : ∀ (m k : Nat) (x2 : Int32), x2.toInt = k → k + m = 72 → fz_r (K.un sx k) → (∀ z : Int32, z.toInt = K.uc sx m k → Q (some (.int z)) h) → a_Workshop_countUnlike_11 X (d + 3) 227 Q w sx x2 (fz_p (K.un sx k)) h 0
  | 0, k, x2, h2, hm, hr, hQ => by
    exact r_Workshop_countUnlike_11 X (d + 3) 227 Q w sx x2 _ h ⟨fun _ => hQ x2 h2, fun z => absurd (nz_le.mpr (by rw [h2]; show (72 : Int) ≤ _; omega)) z⟩
  | m + 1, k, x2, h2, hm, hr, hQ => by
    unfold zK.uc at hQ
    refine r_Workshop_countUnlike_11 X (d + 3) 227 Q w sx x2 _ h ⟨fun z => ?_, fun z => ⟨fun e => ?_, fun e => ⟨s.is, ?_⟩⟩⟩
    · have : (72 : Int) ≤ x2.toInt := nz_le.mp z
      omega
    · have e := (fz_inj hr fz_r_0).mp (by rw [fz_p_0]; exact (lg_cmp_eq _ _).mp e)
      rw [if_pos e] at hQ
      exact hQ x2 h2
    · have e : ¬ K.un sx k = (0, 1) := fun y => e ((lg_cmp_eq _ _).mpr (by rw [y, fz_p_0]))
      rw [if_neg e] at hQ
      refine c_greatestBelow X d h w K _ sx _ hr s c (fun hr' => ?_)
      have eu : K.gb sx (K.un sx k) = K.un sx (k + 1) := (if_neg e).symm
      rw [eu] at hr' ⊢
      exact uc_l Q sx s c m (k + 1) _ (nz_inc h2 (by omega)) (by omega) hr' hQ
theorem c_countUnlike (sx : Int32) (s : SHP h w) (c : CK h w K) (hK : ∀ z : Int32, z.toInt = K.uc sx 72 0 → KI z h) : jI X (d + 4) y_Workshop_countUnlike [.ref w, .int sx] 227 h KI := by
  refine r_Workshop_countUnlike X (d + 3) 227 _ w sx h ⟨s.is, ?_⟩
  rw [← fz_p_i]
  exact c_greatestBelow X d h w K _ sx _ fz_r_i s c (fun hr => uc_l X d h w K _ sx s c 72 0 0 rfl rfl hr hK)
theorem nz_inc2 {i : Int32} {k : Nat} (h : i.toInt = k) (hk : k < 2147483647) : (i + 1).toInt = ((k + 1 : Nat) : Int) := by
  have e : (1 : Int32).toInt = 1 := rfl
  rw [nz_addi (by rw [h, e]; omega) (by rw [h, e]; omega), h, e]
  omega
theorem un_l (Q : jv_Q) (sx x2 : Int32) (n : Nat) (h2 : x2.toInt = n) (s : SHP h w) (c : CK h w K) : ∀ (m k : Nat) (x5 : Int32), x5.toInt = k → k + m = n → fz_r (K.un sx k) → (fz_r (K.un sx n) → Q (some (.long (fz_p (K.un sx n)))) h) → a_Workshop_findUnlike_12 X (d + 3) 227 Q w sx x2 (fz_p (K.un sx k)) x5 h 0
  | 0, k, x5, h5, hm, hr, hQ => by
    have hk : k = n := by omega
    subst hk
    exact r_Workshop_findUnlike_12 X (d + 3) 227 Q w sx x2 _ x5 h ⟨fun _ => hQ hr, fun z => absurd (nz_le.mpr (by rw [h2, h5]; exact Int.le_refl _)) z⟩
  | m + 1, k, x5, h5, hm, hr, hQ => by
    have hi := nz_i32 x2
    refine r_Workshop_findUnlike_12 X (d + 3) 227 Q w sx x2 _ x5 h ⟨fun z => ?_, fun z => ⟨fun e => ?_, fun e => ⟨s.is, ?_⟩⟩⟩
    · have := nz_le.mp z
      rw [h2, h5] at this
      omega
    · have e := (fz_inj hr fz_r_0).mp (by rw [fz_p_0]; exact (lg_cmp_eq _ _).mp e)
      have e2 := un_stay K sx (m + 1) k e
      rw [show k + (m + 1) = n by omega] at e2
      rw [e, ← e2]
      exact hQ (by rw [e2]; exact fz_r_0)
    · have e : ¬ K.un sx k = (0, 1) := fun y => e ((lg_cmp_eq _ _).mpr (by rw [y, fz_p_0]))
      refine c_greatestBelow X d h w K _ sx _ hr s c (fun hr' => ?_)
      have eu : K.gb sx (K.un sx k) = K.un sx (k + 1) := (if_neg e).symm
      rw [eu] at hr' ⊢
      exact un_l Q sx x2 n h2 s c m (k + 1) _ (nz_inc2 h5 (by omega)) (by omega) hr' hQ
theorem c_findUnlike (sx x2 : Int32) (n : Nat) (h2 : x2.toInt = n) (s : SHP h w) (c : CK h w K) (hK : fz_r (K.un sx n) → KL (fz_p (K.un sx n)) h) : jL X (d + 4) y_Workshop_findUnlike [.ref w, .int sx, .int x2] 227 h KL := by
  refine r_Workshop_findUnlike X (d + 3) 227 _ w sx x2 h ⟨s.is, ?_⟩
  rw [← fz_p_i]
  exact c_greatestBelow X d h w K _ sx _ fz_r_i s c (fun hr => un_l X d h w K _ sx x2 n h2 s c n 0 0 rfl (by omega) hr hK)
end
