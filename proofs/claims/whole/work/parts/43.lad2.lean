/-! ===== ladders of the class: made of one another ===== -/
def ris (s u : Int32) : Int32 := if s = (if u = 0 then 0 else 1) then 1 else 0
def sc_v (s : Int32) (v w r : Int × Int) : Int × Int := if s = 2 then fz_mul v r else fz_quo (if s = 0 then fz_mul v r else fz_quo v r) w
def zL.scl (L : zL) (w r : Int × Int) : zL := (L.sz, L.en, if L.en = 2 then fz_mul L.lo r else L.lo, L.so, L.sh, fun j => sc_v (L.so j) (L.va j) w r)
def zL.fits (L : zL) : Prop := (∀ j, j < L.sz → L.va j ≠ (-1, 0)) ∧ L.lo ≠ (-1, 0)
def zL.cw (L : zL) : Prop := ∀ j, j < L.sz → L.so j = 2 ∨ ris (L.so j) (L.sh j) ≠ 0
def zL.cr (L : zL) : Nat → Nat
  | 0 => 0
  | k + 1 => L.cr k + if L.so k = 2 then 0 else 1
theorem zL.cr_mono (L : zL) {a b : Nat} (h : a ≤ b) : L.cr a ≤ L.cr b := by
  induction b with
  | zero => rw [show a = 0 by omega]; exact Nat.le_refl _
  | succ b ih =>
    by_cases e : a = b + 1
    · rw [e]; exact Nat.le_refl _
    · exact Nat.le_trans (ih (by omega)) (Nat.le_add_right _ _)
theorem zL.cr_le (L : zL) : ∀ k, L.cr k ≤ k
  | 0 => Nat.le_refl _
  | k + 1 => by
    have := L.cr_le k
    show L.cr k + (if L.so k = 2 then 0 else 1) ≤ k + 1
    split
    · omega
    · omega
def lf (st : Nat → zL → Option zL) : Nat → zL → Option zL
  | 0, A => some A
  | k + 1, A => (lf st k A).bind (st k)
theorem lf_none {st : Nat → zL → Option zL} {A : zL} {a b : Nat} (h : a ≤ b) (e : lf st a A = none) : lf st b A = none := by
  induction b with
  | zero => rw [show a = 0 by omega] at e; exact e
  | succ b ih =>
    by_cases z : a = b + 1
    · rw [← z]; exact e
    · show (lf st b A).bind (st b) = none
      rw [ih (by omega)]
      rfl
theorem lf_s {st : Nat → zL → Option zL} {A B : zL} {k : Nat} (e : lf st k A = some B) : lf st (k + 1) A = st k B := by
  show (lf st k A).bind (st k) = _
  rw [e]
  rfl
def bd_st (L : zL) (m b : Int × Int) (k : Nat) (A : zL) : Option zL :=
  if L.so k = 2 then some (A.add (L.so k) (L.sh k) (L.va k)) else if fz_quo (L.va k) b = (-1, 0) ∨ fz_quo (fz_quo b (L.va k)) m = (-1, 0) then none else some ((A.add (L.so k) (L.sh k) (fz_quo (L.va k) b)).add (if L.sh k = 0 then 1 else 0) (L.sh k) (fz_quo (fz_quo b (L.va k)) m))
def dl_st (L : zL) (q : Int × Int) (k : Nat) (A : zL) : Option zL :=
  if L.so k = 2 then some (A.add (L.so k) (L.sh k) (L.va k)) else if fz_mul (L.va k) q = (-1, 0) then none else some ((A.add (L.so k) (L.sh k) (L.va k)).add 2 (L.sh k) (if L.sh k = 0 then fz_mul (L.va k) q else fz_inv (fz_mul (L.va k) q)))
def zL.trn (L : zL) : zL := (L.sz, L.en, L.lo, fun j => L.so (L.sz - 1 - j), fun j => L.sh (L.sz - 1 - j), fun j => L.va (L.sz - 1 - j))
section
variable (X : jv_X) (d n : Nat) (K : jv_H → Prop) (KI : Int32 → jv_H → Prop) (KL : Int64 → jv_H → Prop) (h : jv_H) (o o1 : Nat) (L L1 : zL)
theorem c_isRising (s u : Int32) (hK : KI (ris s u) h) : jI X (d + 1) y_Ladder_isRising [.int s, .int u] n h KI := by
  unfold ris at hK
  refine r_Ladder_isRising X d n _ s u h ⟨fun a => ⟨fun b => ⟨Or.inl rfl, ?_⟩, fun b => ⟨Or.inr rfl, ?_⟩⟩, fun a => ⟨fun b => ⟨Or.inl rfl, ?_⟩, fun b => ⟨Or.inr rfl, ?_⟩⟩⟩
  · rw [if_pos a, if_neg b] at hK; exact hK
  · rw [if_pos a, if_pos b] at hK; exact hK
  · rw [if_neg a, if_neg b] at hK; exact hK
  · rw [if_neg a, if_pos b] at hK; exact hK
theorem c_has (x : Int32) (l : LO n h o) (c : CL h o L) (hK : KI (if 0 ≤ x.toInt ∧ x.toInt < L.sz then 1 else 0) h) : jI X (d + 2) y_Ladder_has [.ref o, .int x] n h KI := by
  refine r_Ladder_has X (d + 1) n _ o x h ⟨l.1, ?_⟩
  refine c_isWithin X d n _ h _ _ _ ⟨nz_b01, ?_⟩
  have e1 : (1 : Int32).toInt = 1 := rfl
  have e0 : (0 : Int32).toInt = 0 := rfl
  have hle := c.le
  have e : (jv_gI h o 3 - 1).toInt = (L.sz : Int) - 1 := by rw [nz_subi (by rw [c.gz, e1]; omega) (by rw [c.gz, e1]; omega), c.gz, e1]
  rw [e, e0]
  have : (0 ≤ x.toInt ∧ x.toInt ≤ (L.sz : Int) - 1) ↔ (0 ≤ x.toInt ∧ x.toInt < L.sz) := by omega
  simp only [this]
  exact hK
theorem c_scaleValue (s : Int32) (v w r : Int × Int) (hv : fz_r v) (hw : fz_r w) (hr : fz_r r) (hK : KL (fz_p (sc_v s v w r)) h) : jL X (d + 4) y_Ladder_scaleValue [.int s, .long (fz_p v), .long (fz_p w), .long (fz_p r)] n h KL := by
  unfold sc_v at hK
  refine r_Ladder_scaleValue X (d + 3) n _ s _ _ _ h ⟨fun a => ⟨fun b => ?_, fun b => ?_⟩, fun a => ?_⟩
  · rw [if_neg a, if_neg b] at hK
    exact c_quotient X d n _ h _ _ hv hr (c_quotient X d n _ h _ _ (fz_quo_r _ _) hw hK)
  · rw [if_neg a, if_pos b] at hK
    exact c_product X d n _ h _ _ hv hr (c_quotient X d n _ h _ _ (fz_mul_r _ _) hw hK)
  · rw [if_pos a] at hK
    exact c_product X d n _ h _ _ hv hr hK
theorem sc_v_r {s : Int32} {v w r : Int × Int} : fz_r (sc_v s v w r) := by
  unfold sc_v
  split
  · exact fz_mul_r _ _
  · exact fz_quo_r _ _
theorem scaled_l (Q : jv_Q) (w r : Int × Int) (hw : fz_r w) (hr : fz_r r) (ha : ap o o1) : ∀ (m k : Nat) (x : Int32) (h : jv_H), x.toInt = k → k + m = L1.sz → LO n h o → LO n h o1 → CL h o (((L1.scl w r).cut k).fin L1.en L1.lo) → CL h o1 L1 → (∀ j, j < k → (L1.scl w r).va j ≠ (-1, 0)) →
    ((L1.scl w r).fits → ∀ h', oS (lw o) h h' → CL h' o (L1.scl w r) → Q (some (.int 1)) h') → (¬ (L1.scl w r).fits → ∀ h', oS (lw o) h h' → Q (some (.int 0)) h') → a_Ladder_becomeScaled_8 X (d + 4) n Q o o1 (fz_p w) (fz_p r) x h 0
  | 0, k, x, h, hx, hm, l, l1, c, c1, hj, hQ1, hQ0 => by
    have hk : k = L1.sz := by omega
    refine r_Ladder_becomeScaled_8 X (d + 4) n Q o o1 _ _ x h ⟨l1.1, fun _ => ⟨l.1, ?_⟩, fun z => absurd (nz_le.mpr (by rw [c1.gz, hx]; omega)) z⟩
    have hen : jv_gI h o 4 = L1.en := c.ge
    have hlo : jv_gL h o 5 = fz_p L1.lo := c.gl
    have hlr : fz_r L1.lo := c1.2.2.2.1
    have hfit : ∀ q : Int × Int, (L1.scl w r).lo = q → ((L1.scl w r).fits ↔ q ≠ (-1, 0)) := fun q e => ⟨fun z => e ▸ z.2, fun z => ⟨fun j hlt => hj j (by rw [hk]; exact hlt), by rw [e]; exact z⟩⟩
    rw [hen, hlo]
    refine ⟨fun e => ⟨l.1, ?_⟩, fun e => ⟨l.1, ?_⟩⟩
    · have e2 : (L1.scl w r).lo = L1.lo := if_neg e
      refine c_isWide X (d + 3) n _ h _ hlr ⟨fun z => ⟨Or.inl rfl, ?_⟩, fun z => ⟨Or.inr rfl, ?_⟩⟩
      · rw [nz_bt, Classical.not_not] at z
        exact hQ0 (fun y => (hfit _ e2).mp y z) h oS.rf
      · rw [nz_bt] at z
        refine hQ1 ((hfit _ e2).mpr z) h oS.rf (c.eq ⟨hk, rfl, e2.symm, fun j _ => ⟨rfl, rfl, rfl⟩⟩)
    · have e2 : (L1.scl w r).lo = fz_mul L1.lo r := if_pos e
      refine c_product X (d + 1) n _ h _ _ hlr hr ⟨l.1, l.1, ?_⟩
      rw [uL_same]
      have ho : oS (lw o) h (jv_uL h o 5 (fz_p (fz_mul L1.lo r))) := oS_uL ⟨by omega, by omega⟩
      refine c_isWide X (d + 3) n _ _ _ (fz_mul_r _ _) ⟨fun z => ⟨Or.inl rfl, ?_⟩, fun z => ⟨Or.inr rfl, ?_⟩⟩
      · rw [nz_bt, Classical.not_not] at z
        exact hQ0 (fun y => (hfit _ e2).mp y z) _ ho
      · rw [nz_bt] at z
        refine hQ1 ((hfit _ e2).mpr z) _ ho ?_
        obtain ⟨c2, c3, c4, c5, c6, c7⟩ := c
        refine ⟨by rw [show (L1.scl w r).sz = k from hk.symm]; exact c2, c3, by rw [e2]; exact uL_eq, by rw [e2]; exact fz_mul_r _ _, by rw [show (L1.scl w r).sz = k from hk.symm]; exact c6, fun j hlt => ?_⟩
        rw [show (jv_uL h o 5 (fz_p (fz_mul L1.lo r))).2.1 (o + 3) j = h.2.1 (o + 3) j from uL_ne (fun z => by omega)]
        exact c7 j (by show j < k; rw [hk]; exact hlt)
  | m + 1, k, x, h, hx, hm, l, l1, c, c1, hj, hQ1, hQ0 => by
    have hk : k < L1.sz := by omega
    have hle := c1.le
    refine r_Ladder_becomeScaled_8 X (d + 4) n Q o o1 _ _ x h ⟨l1.1, fun z => ?_, fun z => ?_⟩
    · have := nz_le.mp z
      rw [c1.gz, hx] at this
      omega
    · repeat (first | refine ⟨(l1).1, ?_⟩ | refine ⟨_, (l1).2.1, ?_⟩ | refine ⟨_, (l1).2.2.1, ?_⟩ | refine ⟨_, (l1).2.2.2.1, ?_⟩ | refine ⟨(l1).xa (by assumption) (by omega), ?_⟩ | refine ⟨(l1).xb (by assumption) (by omega), ?_⟩ | refine ⟨(l1).xc (by assumption) (by omega), ?_⟩ | refine ⟨(l).1, ?_⟩ | refine ⟨_, (l).2.1, ?_⟩ | refine ⟨_, (l).2.2.1, ?_⟩ | refine ⟨_, (l).2.2.2.1, ?_⟩ | refine ⟨(l).xa (by assumption) (by omega), ?_⟩ | refine ⟨(l).xb (by assumption) (by omega), ?_⟩ | refine ⟨(l).xc (by assumption) (by omega), ?_⟩)
      rw [c1.gs hx hk, c1.gv hx hk]
      refine c_scaleValue X d n _ h _ _ _ _ (c1.vr hk) hw hr ?_
      refine c_isWide X (d + 3) n _ h _ sc_v_r ⟨fun z => ?_, fun z => ⟨Or.inl rfl, ?_⟩⟩
      · rw [nz_bt] at z
        repeat (first | refine ⟨(l1).1, ?_⟩ | refine ⟨_, (l1).2.1, ?_⟩ | refine ⟨_, (l1).2.2.1, ?_⟩ | refine ⟨_, (l1).2.2.2.1, ?_⟩ | refine ⟨(l1).xa (by assumption) (by omega), ?_⟩ | refine ⟨(l1).xb (by assumption) (by omega), ?_⟩ | refine ⟨(l1).xc (by assumption) (by omega), ?_⟩ | refine ⟨(l).1, ?_⟩ | refine ⟨_, (l).2.1, ?_⟩ | refine ⟨_, (l).2.2.1, ?_⟩ | refine ⟨_, (l).2.2.2.1, ?_⟩ | refine ⟨(l).xa (by assumption) (by omega), ?_⟩ | refine ⟨(l).xb (by assumption) (by omega), ?_⟩ | refine ⟨(l).xc (by assumption) (by omega), ?_⟩)
        rw [c1.gs hx hk, c1.gu hx hk]
        refine c_addPart X (d + 3) n _ h o _ _ _ _ l c (by show k < 12; omega) (c1.u1 hk) sc_v_r (fun h' o' c' => ?_)
        refine scaled_l Q w r hw hr ha m (k + 1) _ h' (nz_inc hx (by omega)) (by omega) (l.mv o') (l1.mv o') (c'.eq ⟨rfl, rfl, rfl, fun j hlt => ?_⟩) (c1.mv o' ha.no) (fun j hlt => ?_) (fun f h2 o2 c2 => hQ1 f h2 (o'.tr o2) c2) (fun f h2 o2 => hQ0 f h2 (o'.tr o2))
        · by_cases e : j = k
          · subst e
            exact ⟨if_pos rfl, if_pos rfl, if_pos rfl⟩
          · exact ⟨if_neg e, if_neg e, if_neg e⟩
        · by_cases e : j = k
          · rw [e]; exact z
          · exact hj j (by omega)
      · rw [nz_bt, Classical.not_not] at z
        exact hQ0 (fun f => f.1 k hk z) h oS.rf
theorem c_L_becomeScaled (w r : Int × Int) (hw : fz_r w) (hr : fz_r r) (l : LO n h o) (l1 : LO n h o1) (c1 : CL h o1 L1) (ha : ap o o1) (hK1 : (L1.scl w r).fits → ∀ h', oS (lw o) h h' → CL h' o (L1.scl w r) → KI 1 h') (hK0 : ¬ (L1.scl w r).fits → ∀ h', oS (lw o) h h' → KI 0 h') : jI X (d + 5) y_Ladder_becomeScaled [.ref o, .ref o1, .long (fz_p w), .long (fz_p r)] n h KI := by
  refine r_Ladder_becomeScaled X (d + 4) n _ o o1 _ _ h ⟨l.1, ?_⟩
  refine c_beginLike X (d + 2) n _ h o o1 L1 l l1 c1 ha (fun h' o' c' => ?_)
  exact scaled_l X d n o o1 L1 _ w r hw hr ha L1.sz 0 0 h' rfl (by omega) (l.mv o') (l1.mv o') (c'.eq ⟨rfl, rfl, rfl, fun j hj => absurd hj (Nat.not_lt_zero _)⟩) (c1.mv o' ha.no) (fun j hj => absurd hj (Nat.not_lt_zero _)) (fun f h2 o2 c2 => hK1 f h2 (o'.tr o2) c2) (fun f h2 o2 => hK0 f h2 (o'.tr o2))
theorem cw_l (Q : jv_Q) (l : LO n h o) (c : CL h o L) : ∀ (m k : Nat) (x : Int32), x.toInt = k → k + m = L.sz → (∀ j, j < k → L.so j = 2 ∨ ris (L.so j) (L.sh j) ≠ 0) → (L.cw → Q (some (.int 1)) h) → (¬ L.cw → Q (some (.int 0)) h) → a_Ladder_canBeWidened_2 X (d + 1) n Q o x h 0
  | 0, k, x, hx, hm, hj, hQ1, hQ0 => by
    refine r_Ladder_canBeWidened_2 X (d + 1) n Q o x h ⟨l.1, fun _ => ⟨Or.inr rfl, hQ1 (fun j hlt => hj j (by omega))⟩, fun z => absurd (nz_le.mpr (by rw [c.gz, hx]; omega)) z⟩
  | m + 1, k, x, hx, hm, hj, hQ1, hQ0 => by
    have hk : k < L.sz := by omega
    have hle := c.le
    have step : (L.so k = 2 ∨ ris (L.so k) (L.sh k) ≠ 0) → a_Ladder_canBeWidened_2 X (d + 1) n Q o (x + 1) h 0 := fun y => cw_l Q l c m (k + 1) _ (nz_inc hx (by omega)) (by omega) (fun j hlt => by
      by_cases e : j = k
      · rw [e]; exact y
      · exact hj j (by omega)) hQ1 hQ0
    refine r_Ladder_canBeWidened_2 X (d + 1) n Q o x h ⟨l.1, fun z => ?_, fun z => ?_⟩
    · have := nz_le.mp z
      rw [c.gz, hx] at this
      omega
    · repeat (first | refine ⟨(l).1, ?_⟩ | refine ⟨_, (l).2.1, ?_⟩ | refine ⟨_, (l).2.2.1, ?_⟩ | refine ⟨_, (l).2.2.2.1, ?_⟩ | refine ⟨(l).xa (by assumption) (by omega), ?_⟩ | refine ⟨(l).xb (by assumption) (by omega), ?_⟩ | refine ⟨(l).xc (by assumption) (by omega), ?_⟩)
      rw [c.gs hx hk]
      refine ⟨fun e => step (Or.inl e), fun e => ?_⟩
      repeat (first | refine ⟨(l).1, ?_⟩ | refine ⟨_, (l).2.1, ?_⟩ | refine ⟨_, (l).2.2.1, ?_⟩ | refine ⟨_, (l).2.2.2.1, ?_⟩ | refine ⟨(l).xa (by assumption) (by omega), ?_⟩ | refine ⟨(l).xb (by assumption) (by omega), ?_⟩ | refine ⟨(l).xc (by assumption) (by omega), ?_⟩)
      rw [c.gs hx hk, c.gu hx hk]
      refine c_isRising X d n _ h _ _ ⟨fun y => step (Or.inr y), fun y => ⟨Or.inl rfl, hQ0 (fun f => (f k hk).elim e (fun g => g y))⟩⟩
theorem cr_l (Q : jv_Q) (l : LO n h o) (c : CL h o L) : ∀ (m k : Nat) (x1 x : Int32), x.toInt = k → x1.toInt = L.cr k → k + m = L.sz → (∀ z : Int32, z.toInt = L.cr L.sz → Q (some (.int z)) h) → a_Ladder_countReactive_4 X d n Q o x1 x h 0
  | 0, k, x1, x, hx, h1, hm, hQ => by
    refine r_Ladder_countReactive_4 X d n Q o x1 x h ⟨l.1, fun _ => hQ x1 (by rw [h1, show k = L.sz by omega]), fun z => absurd (nz_le.mpr (by rw [c.gz, hx]; omega)) z⟩
  | m + 1, k, x1, x, hx, h1, hm, hQ => by
    have hk : k < L.sz := by omega
    have hle := c.le
    have hcr := L.cr_le k
    have hs : L.cr (k + 1) = L.cr k + if L.so k = 2 then 0 else 1 := rfl
    refine r_Ladder_countReactive_4 X d n Q o x1 x h ⟨l.1, fun z => ?_, fun z => ?_⟩
    · have := nz_le.mp z
      rw [c.gz, hx] at this
      omega
    · repeat (first | refine ⟨(l).1, ?_⟩ | refine ⟨_, (l).2.1, ?_⟩ | refine ⟨_, (l).2.2.1, ?_⟩ | refine ⟨_, (l).2.2.2.1, ?_⟩ | refine ⟨(l).xa (by assumption) (by omega), ?_⟩ | refine ⟨(l).xb (by assumption) (by omega), ?_⟩ | refine ⟨(l).xc (by assumption) (by omega), ?_⟩)
      rw [c.gs hx hk]
      refine ⟨fun e => ?_, fun e => ?_⟩
      · rw [if_pos e] at hs
        exact cr_l Q l c m (k + 1) _ _ (nz_inc hx (by omega)) (by rw [hs]; exact h1) (by omega) hQ
      · rw [if_neg e] at hs
        exact cr_l Q l c m (k + 1) _ _ (nz_inc hx (by omega)) (by rw [hs]; exact nz_inc h1 (by omega)) (by omega) hQ
theorem c_countReactive (l : LO n h o) (c : CL h o L) (hK : ∀ z : Int32, z.toInt = L.cr L.sz → KI z h) : jI X (d + 1) y_Ladder_countReactive [.ref o] n h KI := by
  refine r_Ladder_countReactive X d n _ o h ?_
  exact cr_l X d n h o L _ l c L.sz 0 0 0 rfl rfl (by omega) hK
theorem c_refuse (l : LO n h o) (c : CL h o L) (hK1 : ¬ L.cw → KI (-5) h) (hK2 : L.cw → 12 < L.sz + L.cr L.sz → KI (-300) h) (hK3 : L.cw → L.sz + L.cr L.sz ≤ 12 → KI 0 h) : jI X (d + 3) y_Ladder_refuseToWiden [.ref o] n h KI := by
  have hle := c.le
  have hcr := L.cr_le L.sz
  refine r_Ladder_refuseToWiden X (d + 2) n _ o h ⟨l.1, ?_⟩
  refine r_Ladder_canBeWidened X (d + 1) n _ o h ?_
  refine cw_l X d n h o L _ l c L.sz 0 0 rfl (by omega) (fun j hj => absurd hj (Nat.not_lt_zero _)) (fun y => ⟨fun _ => ⟨l.1, l.1, ?_⟩, fun z => absurd z (by decide)⟩) (fun y => ⟨fun z => absurd rfl z, fun _ => hK1 y⟩)
  refine c_countReactive X (d + 1) n _ h o L l c (fun z e => ?_)
  have es : (jv_gI h o 3 + z).toInt = ((L.sz + L.cr L.sz : Nat) : Int) := by rw [nz_addi (by rw [c.gz, e]; omega) (by rw [c.gz, e]; omega), c.gz, e]; omega
  refine ⟨fun a => hK3 y ?_, fun a => hK2 y ?_⟩
  · have : (jv_gI h o 3 + z).toInt ≤ 12 := nz_le.mp a
    omega
  · have : ¬ (jv_gI h o 3 + z).toInt ≤ 12 := fun q => a (nz_le.mpr q)
    omega
theorem turned_l (Q : jv_Q) (ha : ap o o1) : ∀ (m k : Nat) (x : Int32) (h : jv_H), x.toInt = (m : Int) - 1 → k + m = L1.sz → LO n h o → LO n h o1 → CL h o (L1.trn.cut k) → CL h o1 L1 → (∀ h', oS (lw o) h h' → CL h' o L1.trn → Q none h') → a_Ladder_becomeTurned_12 X (d + 1) n Q o o1 x h 0
  | 0, k, x, h, hx, hm, l, l1, c, c1, hQ => by
    refine r_Ladder_becomeTurned_12 X (d + 1) n Q o o1 x h ⟨fun _ => ?_, fun z => absurd (nz_lt.mpr (by rw [hx]; show _ < (0 : Int); omega)) z⟩
    rw [show k = L1.trn.sz by show k = L1.sz; omega] at c
    exact hQ h oS.rf c
  | m + 1, k, x, h, hx, hm, l, l1, c, c1, hQ => by
    have hx' : x.toInt = m := by omega
    have hk : m < L1.sz := by omega
    have hle := c1.le
    refine r_Ladder_becomeTurned_12 X (d + 1) n Q o o1 x h ⟨fun z => ?_, fun z => ?_⟩
    · have : x.toInt < (0 : Int) := nz_lt.mp z
      omega
    · repeat (first | refine ⟨(l1).1, ?_⟩ | refine ⟨_, (l1).2.1, ?_⟩ | refine ⟨_, (l1).2.2.1, ?_⟩ | refine ⟨_, (l1).2.2.2.1, ?_⟩ | refine ⟨(l1).xa (by assumption) (by omega), ?_⟩ | refine ⟨(l1).xb (by assumption) (by omega), ?_⟩ | refine ⟨(l1).xc (by assumption) (by omega), ?_⟩ | refine ⟨(l).1, ?_⟩ | refine ⟨_, (l).2.1, ?_⟩ | refine ⟨_, (l).2.2.1, ?_⟩ | refine ⟨_, (l).2.2.2.1, ?_⟩ | refine ⟨(l).xa (by assumption) (by omega), ?_⟩ | refine ⟨(l).xb (by assumption) (by omega), ?_⟩ | refine ⟨(l).xc (by assumption) (by omega), ?_⟩)
      rw [c1.gs hx' hk, c1.gu hx' hk, c1.gv hx' hk]
      refine c_addPart X d n _ h o _ _ _ _ l c (by show k < 12; omega) (c1.u1 hk) (c1.vr hk) (fun h' o' c' => ?_)
      have em : L1.sz - 1 - k = m := by omega
      exact turned_l Q ha m (k + 1) _ h' (by rw [nz_dec hx' (by omega)]) (by omega) (l.mv o') (l1.mv o') (c'.eq (zL.cut_lk (congrArg L1.so em) (congrArg L1.sh em) (congrArg L1.va em))) (c1.mv o' ha.no) (fun h2 o2 c2 => hQ h2 (o'.tr o2) c2)
theorem c_becomeTurned (l : LO n h o) (l1 : LO n h o1) (c1 : CL h o1 L1) (ha : ap o o1) (hK : ∀ h', oS (lw o) h h' → CL h' o L1.trn → K h') : jV X (d + 3) y_Ladder_becomeTurned [.ref o, .ref o1] n h K := by
  refine r_Ladder_becomeTurned X (d + 2) n _ o o1 h ⟨l.1, ?_⟩
  refine c_beginLike X d n _ h o o1 L1 l l1 c1 ha (fun h' o' c' => ⟨l1.1, ?_⟩)
  have c1' := c1.mv o' ha.no
  have hle := c1.le
  have e1 : (1 : Int32).toInt = 1 := rfl
  exact turned_l X (d + 1) n o o1 L1 _ ha L1.sz 0 _ h' (by rw [nz_subi (by rw [c1'.gz, e1]; omega) (by rw [c1'.gz, e1]; omega), c1'.gz, e1]) (by omega) (l.mv o') (l1.mv o') (c'.eq ⟨rfl, rfl, rfl, fun j hj => absurd hj (Nat.not_lt_zero _)⟩) c1' (fun h2 o2 c2 => hK h2 (o'.tr o2) c2)
end
