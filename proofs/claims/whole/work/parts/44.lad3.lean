/-! ===== ladders of the class: widened, dulled; what they come to ===== -/
section
variable (X : jv_X) (d n : Nat) (K : jv_H → Prop) (KI : Int32 → jv_H → Prop) (KL : Int64 → jv_H → Prop) (h : jv_H) (o o1 : Nat) (L L1 : zL)
theorem banded_l (Q : jv_Q) (w b : Int × Int) (hw : fz_r w) (hb : fz_r b) (ha : ap o o1) (hcr : L1.sz + L1.cr L1.sz ≤ 12) : ∀ (m k : Nat) (x : Int32) (h : jv_H) (A : zL), x.toInt = k → k + m = L1.sz → LO n h o → LO n h o1 → CL h o A → CL h o1 L1 → lf (bd_st L1 w b) k (L1.cut 0) = some A → A.sz = k + L1.cr k →
    (∀ B, lf (bd_st L1 w b) L1.sz (L1.cut 0) = some B → ∀ h', oS (lw o) h h' → CL h' o B → Q (some (.int 1)) h') → (lf (bd_st L1 w b) L1.sz (L1.cut 0) = none → ∀ h', oS (lw o) h h' → Q (some (.int 0)) h') → a_Ladder_becomeBanded_8 X (d + 3) n Q o o1 (fz_p w) (fz_p b) x h 0
  | 0, k, x, h, A, hx, hm, l, l1, c, c1, hA, hz, hQ1, hQ0 => by
    have hk : k = L1.sz := by omega
    refine r_Ladder_becomeBanded_8 X (d + 3) n Q o o1 _ _ x h ⟨l1.1, fun _ => ⟨Or.inr rfl, ?_⟩, fun z => absurd (nz_le.mpr (by rw [c1.gz, hx]; omega)) z⟩
    rw [hk] at hA
    exact hQ1 A hA h oS.rf c
  | m + 1, k, x, h, A, hx, hm, l, l1, c, c1, hA, hz, hQ1, hQ0 => by
    have hk : k < L1.sz := by omega
    have hle := c1.le
    have hs : L1.cr (k + 1) = L1.cr k + if L1.so k = 2 then 0 else 1 := rfl
    have hmo := L1.cr_mono (show k + 1 ≤ L1.sz by omega)
    have hst := lf_s hA
    refine r_Ladder_becomeBanded_8 X (d + 3) n Q o o1 _ _ x h ⟨l1.1, fun z => ?_, fun z => ?_⟩
    · have := nz_le.mp z
      rw [c1.gz, hx] at this
      omega
    · repeat (first | refine ⟨(l1).1, ?_⟩ | refine ⟨_, (l1).2.1, ?_⟩ | refine ⟨_, (l1).2.2.1, ?_⟩ | refine ⟨_, (l1).2.2.2.1, ?_⟩ | refine ⟨(l1).xa (by assumption) (by omega), ?_⟩ | refine ⟨(l1).xb (by assumption) (by omega), ?_⟩ | refine ⟨(l1).xc (by assumption) (by omega), ?_⟩ | refine ⟨(l).1, ?_⟩ | refine ⟨_, (l).2.1, ?_⟩ | refine ⟨_, (l).2.2.1, ?_⟩ | refine ⟨_, (l).2.2.2.1, ?_⟩ | refine ⟨(l).xa (by assumption) (by omega), ?_⟩ | refine ⟨(l).xb (by assumption) (by omega), ?_⟩ | refine ⟨(l).xc (by assumption) (by omega), ?_⟩)
      rw [c1.gs hx hk, c1.gu hx hk, c1.gv hx hk]
      refine ⟨fun e => ?_, fun e => ?_⟩
      · rw [if_neg e] at hs
        have hst2 : lf (bd_st L1 w b) (k + 1) (L1.cut 0) = if fz_quo (L1.va k) b = (-1, 0) ∨ fz_quo (fz_quo b (L1.va k)) w = (-1, 0) then none else some ((A.add (L1.so k) (L1.sh k) (fz_quo (L1.va k) b)).add (if L1.sh k = 0 then 1 else 0) (L1.sh k) (fz_quo (fz_quo b (L1.va k)) w)) := hst.trans (if_neg e)
        refine c_quotient X d n _ h _ _ (c1.vr hk) hb (c_quotient X d n _ h _ _ hb (c1.vr hk) (c_quotient X d n _ h _ _ (fz_quo_r _ _) hw ?_))
        refine c_isWide X (d + 2) n _ h _ (fz_quo_r _ _) ⟨fun z => ⟨Or.inl rfl, ?_⟩, fun z => c_isWide X (d + 2) n _ h _ (fz_quo_r _ _) ⟨fun y => ?_, fun y => ⟨Or.inl rfl, ?_⟩⟩⟩
        · rw [nz_bt, Classical.not_not] at z
          exact hQ0 (lf_none (show k + 1 ≤ L1.sz by omega) (hst2.trans (if_pos (Or.inl z)))) h oS.rf
        · rw [nz_bt] at z y
          have hst3 := hst2.trans (if_neg (fun q => q.elim z y))
          refine ⟨l.1, c_addPart X (d + 2) n _ h o _ _ _ _ l c (by omega) (c1.u1 hk) (fz_quo_r _ _) (fun h' o' c' => ?_)⟩
          have go : ∀ s : Int32, s = (if L1.sh k = 0 then 1 else 0) → jV X (d + 3) y_Ladder_addPart [.ref o, .int s, .int (L1.sh k), .long (fz_p (fz_quo (fz_quo b (L1.va k)) w))] n h' (fun h15 => a_Ladder_becomeBanded_8 X (d + 3) n Q o o1 (fz_p w) (fz_p b) (x + 1) h15 0) := by
            intro s es
            refine c_addPart X (d + 2) n _ h' o _ _ _ _ (l.mv o') c' (by show A.sz + 1 < 12; omega) (c1.u1 hk) (fz_quo_r _ _) (fun h2 o2 c2 => ?_)
            rw [es] at c2
            exact banded_l Q w b hw hb ha hcr m (k + 1) _ h2 _ (nz_inc hx (by omega)) (by omega) ((l.mv o').mv o2) ((l1.mv o').mv o2) c2 ((c1.mv o' ha.no).mv o2 ha.no) hst3 (by show A.sz + 1 + 1 = _; omega) (fun B f h3 o3 c3 => hQ1 B f h3 ((o'.tr o2).tr o3) c3) (fun f h3 o3 => hQ0 f h3 ((o'.tr o2).tr o3))
          exact ⟨fun a => ⟨l.1, go 1 (if_pos a).symm⟩, fun a => ⟨l.1, go 0 (if_neg a).symm⟩⟩
        · rw [nz_bt, Classical.not_not] at y
          exact hQ0 (lf_none (show k + 1 ≤ L1.sz by omega) (hst2.trans (if_pos (Or.inr y)))) h oS.rf
      · rw [if_pos e] at hs
        refine ⟨l.1, c_addPart X (d + 2) n _ h o _ _ _ _ l c (by omega) (c1.u1 hk) (c1.vr hk) (fun h' o' c' => ?_)⟩
        exact banded_l Q w b hw hb ha hcr m (k + 1) _ h' _ (nz_inc hx (by omega)) (by omega) (l.mv o') (l1.mv o') c' (c1.mv o' ha.no) (hst.trans (if_pos e)) (by show A.sz + 1 = _; omega) (fun B f h3 o3 c3 => hQ1 B f h3 (o'.tr o3) c3) (fun f h3 o3 => hQ0 f h3 (o'.tr o3))
theorem c_becomeBanded (w b : Int × Int) (hw : fz_r w) (hb : fz_r b) (l : LO n h o) (l1 : LO n h o1) (c1 : CL h o1 L1) (ha : ap o o1) (hcr : L1.sz + L1.cr L1.sz ≤ 12) (hK1 : ∀ B, lf (bd_st L1 w b) L1.sz (L1.cut 0) = some B → ∀ h', oS (lw o) h h' → CL h' o B → KI 1 h') (hK0 : lf (bd_st L1 w b) L1.sz (L1.cut 0) = none → ∀ h', oS (lw o) h h' → KI 0 h') : jI X (d + 4) y_Ladder_becomeBanded [.ref o, .ref o1, .long (fz_p w), .long (fz_p b)] n h KI := by
  refine r_Ladder_becomeBanded X (d + 3) n _ o o1 _ _ h ⟨l.1, ?_⟩
  refine c_beginLike X (d + 1) n _ h o o1 L1 l l1 c1 ha (fun h' o' c' => ?_)
  exact banded_l X d n o o1 L1 _ w b hw hb ha hcr L1.sz 0 0 h' _ rfl (by omega) (l.mv o') (l1.mv o') c' (c1.mv o' ha.no) rfl rfl (fun B f h2 o2 c2 => hK1 B f h2 (o'.tr o2) c2) (fun f h2 o2 => hK0 f h2 (o'.tr o2))
theorem dulled_l (Q : jv_Q) (w : Int × Int) (hw : fz_r w) (ha : ap o o1) (hcr : L1.sz + L1.cr L1.sz ≤ 12) : ∀ (m k : Nat) (x : Int32) (h : jv_H) (A : zL), x.toInt = k → k + m = L1.sz → LO n h o → LO n h o1 → CL h o A → CL h o1 L1 → lf (dl_st L1 w) k (L1.cut 0) = some A → A.sz = k + L1.cr k →
    (∀ B, lf (dl_st L1 w) L1.sz (L1.cut 0) = some B → ∀ h', oS (lw o) h h' → CL h' o B → Q (some (.int 1)) h') → (lf (dl_st L1 w) L1.sz (L1.cut 0) = none → ∀ h', oS (lw o) h h' → Q (some (.int 0)) h') → a_Ladder_becomeDulled_8 X (d + 3) n Q o o1 (fz_p w) x h 0
  | 0, k, x, h, A, hx, hm, l, l1, c, c1, hA, hz, hQ1, hQ0 => by
    have hk : k = L1.sz := by omega
    refine r_Ladder_becomeDulled_8 X (d + 3) n Q o o1 _ x h ⟨l1.1, fun _ => ⟨Or.inr rfl, ?_⟩, fun z => absurd (nz_le.mpr (by rw [c1.gz, hx]; omega)) z⟩
    rw [hk] at hA
    exact hQ1 A hA h oS.rf c
  | m + 1, k, x, h, A, hx, hm, l, l1, c, c1, hA, hz, hQ1, hQ0 => by
    have hk : k < L1.sz := by omega
    have hle := c1.le
    have hs : L1.cr (k + 1) = L1.cr k + if L1.so k = 2 then 0 else 1 := rfl
    have hmo := L1.cr_mono (show k + 1 ≤ L1.sz by omega)
    have hst := lf_s hA
    refine r_Ladder_becomeDulled_8 X (d + 3) n Q o o1 _ x h ⟨l1.1, fun z => ?_, fun z => ?_⟩
    · have := nz_le.mp z
      rw [c1.gz, hx] at this
      omega
    · repeat (first | refine ⟨(l1).1, ?_⟩ | refine ⟨_, (l1).2.1, ?_⟩ | refine ⟨_, (l1).2.2.1, ?_⟩ | refine ⟨_, (l1).2.2.2.1, ?_⟩ | refine ⟨(l1).xa (by assumption) (by omega), ?_⟩ | refine ⟨(l1).xb (by assumption) (by omega), ?_⟩ | refine ⟨(l1).xc (by assumption) (by omega), ?_⟩ | refine ⟨(l).1, ?_⟩ | refine ⟨_, (l).2.1, ?_⟩ | refine ⟨_, (l).2.2.1, ?_⟩ | refine ⟨_, (l).2.2.2.1, ?_⟩ | refine ⟨(l).xa (by assumption) (by omega), ?_⟩ | refine ⟨(l).xb (by assumption) (by omega), ?_⟩ | refine ⟨(l).xc (by assumption) (by omega), ?_⟩)
      rw [c1.gs hx hk, c1.gu hx hk, c1.gv hx hk]
      refine c_addPart X (d + 2) n _ h o _ _ _ _ l c (by omega) (c1.u1 hk) (c1.vr hk) (fun h' o' c' => ?_)
      have l' := l.mv o'
      have l1' := l1.mv o'
      have c1' := c1.mv o' ha.no
      repeat (first | refine ⟨(l1').1, ?_⟩ | refine ⟨_, (l1').2.1, ?_⟩ | refine ⟨_, (l1').2.2.1, ?_⟩ | refine ⟨_, (l1').2.2.2.1, ?_⟩ | refine ⟨(l1').xa (by assumption) (by omega), ?_⟩ | refine ⟨(l1').xb (by assumption) (by omega), ?_⟩ | refine ⟨(l1').xc (by assumption) (by omega), ?_⟩ | refine ⟨(l').1, ?_⟩ | refine ⟨_, (l').2.1, ?_⟩ | refine ⟨_, (l').2.2.1, ?_⟩ | refine ⟨_, (l').2.2.2.1, ?_⟩ | refine ⟨(l').xa (by assumption) (by omega), ?_⟩ | refine ⟨(l').xb (by assumption) (by omega), ?_⟩ | refine ⟨(l').xc (by assumption) (by omega), ?_⟩)
      rw [c1'.gs hx hk]
      refine ⟨fun e => ?_, fun e => ?_⟩
      · rw [if_neg e] at hs
        have hst2 : lf (dl_st L1 w) (k + 1) (L1.cut 0) = if fz_mul (L1.va k) w = (-1, 0) then none else some ((A.add (L1.so k) (L1.sh k) (L1.va k)).add 2 (L1.sh k) (if L1.sh k = 0 then fz_mul (L1.va k) w else fz_inv (fz_mul (L1.va k) w))) := hst.trans (if_neg e)
        repeat (first | refine ⟨(l1').1, ?_⟩ | refine ⟨_, (l1').2.1, ?_⟩ | refine ⟨_, (l1').2.2.1, ?_⟩ | refine ⟨_, (l1').2.2.2.1, ?_⟩ | refine ⟨(l1').xa (by assumption) (by omega), ?_⟩ | refine ⟨(l1').xb (by assumption) (by omega), ?_⟩ | refine ⟨(l1').xc (by assumption) (by omega), ?_⟩ | refine ⟨(l').1, ?_⟩ | refine ⟨_, (l').2.1, ?_⟩ | refine ⟨_, (l').2.2.1, ?_⟩ | refine ⟨_, (l').2.2.2.1, ?_⟩ | refine ⟨(l').xa (by assumption) (by omega), ?_⟩ | refine ⟨(l').xb (by assumption) (by omega), ?_⟩ | refine ⟨(l').xc (by assumption) (by omega), ?_⟩)
        rw [c1'.gv hx hk]
        refine c_product X d n _ h' _ _ (c1.vr hk) hw ?_
        refine c_isWide X (d + 2) n _ h' _ (fz_mul_r _ _) ⟨fun z => ?_, fun z => ⟨Or.inl rfl, ?_⟩⟩
        · rw [nz_bt] at z
          have hst3 := hst2.trans (if_neg z)
          have go : ∀ v : Int × Int, fz_r v → v = (if L1.sh k = 0 then fz_mul (L1.va k) w else fz_inv (fz_mul (L1.va k) w)) → jV X (d + 3) y_Ladder_addPart [.ref o, .int 2, .int (L1.sh k), .long (fz_p v)] n h' (fun h15 => a_Ladder_becomeDulled_8 X (d + 3) n Q o o1 (fz_p w) (x + 1) h15 0) := by
            intro v hv es
            refine c_addPart X (d + 2) n _ h' o _ _ _ _ l' c' (by show A.sz + 1 < 12; omega) (c1.u1 hk) hv (fun h2 o2 c2 => ?_)
            rw [es] at c2
            exact dulled_l Q w hw ha hcr m (k + 1) _ h2 _ (nz_inc hx (by omega)) (by omega) (l'.mv o2) (l1'.mv o2) c2 (c1'.mv o2 ha.no) hst3 (by show A.sz + 1 + 1 = _; omega) (fun B f h3 o3 c3 => hQ1 B f h3 ((o'.tr o2).tr o3) c3) (fun f h3 o3 => hQ0 f h3 ((o'.tr o2).tr o3))
          exact ⟨fun a => ⟨l.1, go _ (fz_mul_r _ _) (if_pos a).symm⟩, fun a => c_reciprocal X d n _ h' _ (fz_mul_r _ _) ⟨l.1, go _ (fz_inv_r _) (if_neg a).symm⟩⟩
        · rw [nz_bt, Classical.not_not] at z
          exact hQ0 (lf_none (show k + 1 ≤ L1.sz by omega) (hst2.trans (if_pos z))) h' o'
      · rw [if_pos e] at hs
        exact dulled_l Q w hw ha hcr m (k + 1) _ h' _ (nz_inc hx (by omega)) (by omega) l' l1' c' c1' (hst.trans (if_pos e)) (by show A.sz + 1 = _; omega) (fun B f h3 o3 c3 => hQ1 B f h3 (o'.tr o3) c3) (fun f h3 o3 => hQ0 f h3 (o'.tr o3))
theorem c_becomeDulled (w : Int × Int) (hw : fz_r w) (l : LO n h o) (l1 : LO n h o1) (c1 : CL h o1 L1) (ha : ap o o1) (hcr : L1.sz + L1.cr L1.sz ≤ 12) (hK1 : ∀ B, lf (dl_st L1 w) L1.sz (L1.cut 0) = some B → ∀ h', oS (lw o) h h' → CL h' o B → KI 1 h') (hK0 : lf (dl_st L1 w) L1.sz (L1.cut 0) = none → ∀ h', oS (lw o) h h' → KI 0 h') : jI X (d + 4) y_Ladder_becomeDulled [.ref o, .ref o1, .long (fz_p w)] n h KI := by
  refine r_Ladder_becomeDulled X (d + 3) n _ o o1 _ h ⟨l.1, ?_⟩
  refine c_beginLike X (d + 1) n _ h o o1 L1 l l1 c1 ha (fun h' o' c' => ?_)
  exact dulled_l X d n o o1 L1 _ w hw ha hcr L1.sz 0 0 h' _ rfl (by omega) (l.mv o') (l1.mv o') c' (c1.mv o' ha.no) rfl rfl (fun B f h2 o2 c2 => hK1 B f h2 (o'.tr o2) c2) (fun f h2 o2 => hK0 f h2 (o'.tr o2))
theorem c_isLossless (l : LO n h o) (c : CL h o L) (hK1 : L.en ≠ 2 → L.cr L.sz = L.sz → KI 1 h) (hK0 : ¬ (L.en ≠ 2 ∧ L.cr L.sz = L.sz) → KI 0 h) : jI X (d + 2) y_Ladder_isLossless [.ref o] n h KI := by
  refine r_Ladder_isLossless X (d + 1) n _ o h ⟨l.1, ?_⟩
  rw [c.ge]
  refine ⟨fun z => ⟨Or.inl rfl, hK0 (fun y => y.1 z)⟩, fun z => ⟨l.1, ?_⟩⟩
  refine c_countReactive X d n _ h o L l c (fun w e => ⟨l.1, fun y => ⟨Or.inl rfl, hK0 (fun q => y (Int32.toInt_inj.mp ?_))⟩, fun y => ⟨Or.inr rfl, hK1 z ?_⟩⟩)
  · rw [e, c.gz, q.2]
  · have : (jv_gI h o 3).toInt = L.sz := c.gz
    rw [← y, e] at this
    omega
end
/-- what a part comes to -/
def wp (r : Int32) (s u : Int32) (v x : Int × Int) : Int × Int :=
  if r = 0 then (if s = 2 then (if u = 0 then v else fz_inv v) else if ris s u = 0 then fz_inv (fz_mul v x) else fz_mul v x) else (if ris s u = 0 then fz_neg (fz_inv (fz_mul x v)) else fz_mul x v)
def ws (z t : Int × Int) : Int × Int := if z = (1, 0) then z else fz_sum z t
def wh (r : Int32) (z t : Int × Int) : Int × Int :=
  if z = (0, 1) then z else if r = 0 then fz_inv (fz_sum (if z = (1, 0) then (0, 1) else fz_inv z) t) else if fz_sub t (if z = (1, 0) then (0, 1) else fz_inv z) = (0, 1) then (1, 0) else fz_neg (fz_inv (fz_sub t (if z = (1, 0) then (0, 1) else fz_inv z)))
/-- one part taken in -/
def wt (r : Int32) (s u : Int32) (v x z : Int × Int) : Int × Int := if u = 0 then ws z (wp r s u v x) else wh r z (wp r s u v x)
def zL.wo (L : zL) (r : Int32) (x : Int × Int) : Nat → Int × Int → Int × Int
  | 0, z => z
  | k + 1, z => if wp r (L.so k) (L.sh k) (L.va k) x = (-1, 0) then (-1, 0) else if wt r (L.so k) (L.sh k) (L.va k) x z = (-1, 0) then (-1, 0) else L.wo r x k (wt r (L.so k) (L.sh k) (L.va k) x z)
def zL.we (L : zL) : Int × Int := if L.en = 2 then L.lo else if L.en = 0 then (0, 1) else (1, 0)
theorem wp_r {r s u : Int32} {v x : Int × Int} (hv : fz_r v) : fz_r (wp r s u v x) := by
  unfold wp
  split
  · split
    · split
      · exact hv
      · exact fz_inv_r _
    · split
      · exact fz_inv_r _
      · exact fz_mul_r _ _
  · split
    · exact fz_neg_r _
    · exact fz_mul_r _ _
theorem ws_r {z t : Int × Int} (hz : fz_r z) : fz_r (ws z t) := by
  unfold ws
  split
  · exact hz
  · exact fz_sum_r _ _
theorem wh_r {r : Int32} {z t : Int × Int} (hz : fz_r z) : fz_r (wh r z t) := by
  unfold wh
  generalize (if z = (1, 0) then ((0, 1) : Int × Int) else fz_inv z) = th
  split
  · exact hz
  · split
    · exact fz_inv_r _
    · split
      · exact fz_r_i
      · exact fz_neg_r _
section
variable (X : jv_X) (d n : Nat) (K : jv_H → Prop) (KI : Int32 → jv_H → Prop) (KL : Int64 → jv_H → Prop) (h : jv_H) (o o1 : Nat) (L L1 : zL)
theorem c_addSeries (z t : Int × Int) (hz : fz_r z) (ht : fz_r t) (hK : KL (fz_p (ws z t)) h) : jL X (d + 4) y_Ladder_addSeries [.long (fz_p z), .long (fz_p t)] n h KL := by
  unfold ws at hK
  refine r_Ladder_addSeries X (d + 3) n _ _ _ h ⟨fun a => ?_, fun a => ?_⟩
  · have : ¬ z = (1, 0) := fun e => a ((lg_cmp_eq _ _).mpr (by rw [e, fz_p_i]))
    rw [if_neg this] at hK
    exact c_sum X d n _ h _ _ hz ht hK
  · have : z = (1, 0) := (fz_inj hz fz_r_i).mp (by rw [fz_p_i]; exact (lg_cmp_eq _ _).mp a)
    rw [if_pos this] at hK
    exact hK
theorem sh_in2 (r : Int32) (z t th : Int × Int) (hz : fz_r z) (ht : fz_r t) (hth : fz_r th) (h0 : ¬ z = (0, 1)) (e : th = if z = (1, 0) then (0, 1) else fz_inv z) (hK : KL (fz_p (wh r z t)) h) :
    (¬ r = 0 → jL X (d + 4) y_Fractions_difference [.long (fz_p t), .long (fz_p th)] n h (fun z4 h3 => (¬ (lg_cmp z4 (1 : Int64)) = 0 → (jL X (d + 4) y_Fractions_reciprocal [.long z4] n h3 (fun z6 h5 => jL X (d + 4) y_Fractions_negative [.long z6] n h5 (fun z8 h7 => KL z8 h7)))) ∧ ((lg_cmp z4 (1 : Int64)) = 0 → KL (4294967296 : Int64) h3))) ∧ (r = 0 → jL X (d + 4) y_Fractions_sum [.long (fz_p th), .long (fz_p t)] n h (fun z10 h9 => jL X (d + 4) y_Fractions_reciprocal [.long z10] n h9 (fun z12 h11 => KL z12 h11))) := by
  unfold wh at hK
  rw [if_neg h0, ← e] at hK
  refine ⟨fun a => ?_, fun a => ?_⟩
  · rw [if_neg a] at hK
    refine c_difference X (d + 1) n _ h _ _ ht hth ⟨fun b => ?_, fun b => ?_⟩
    · have : ¬ fz_sub t th = (0, 1) := fun e => b ((lg_cmp_eq _ _).mpr (by rw [e, fz_p_0]))
      rw [if_neg this] at hK
      exact c_reciprocal X (d + 1) n _ h _ (fz_sub_r _ _) (c_negative X d n _ h _ (fz_inv_r _) hK)
    · have : fz_sub t th = (0, 1) := (fz_inj (fz_sub_r _ _) fz_r_0).mp (by rw [fz_p_0]; exact (lg_cmp_eq _ _).mp b)
      rw [if_pos this, fz_p_i] at hK
      exact hK
  · rw [if_pos a] at hK
    exact c_sum X (d + 1) n _ h _ _ hth ht (c_reciprocal X (d + 1) n _ h _ (fz_sum_r _ _) hK)
theorem c_addShunt (r : Int32) (z t : Int × Int) (hz : fz_r z) (ht : fz_r t) (hK : KL (fz_p (wh r z t)) h) : jL X (d + 5) y_Ladder_addShunt [.long (fz_p z), .long (fz_p t), .int r] n h KL := by
  refine r_Ladder_addShunt X (d + 4) n _ _ _ r h ⟨fun a => ?_, fun a => ?_⟩
  · have h0 : ¬ z = (0, 1) := fun e => a ((lg_cmp_eq _ _).mpr (by rw [e, fz_p_0]))
    refine ⟨fun b => ?_, fun b => ?_⟩
    · have h1 : ¬ z = (1, 0) := fun e => b ((lg_cmp_eq _ _).mpr (by rw [e, fz_p_i]))
      exact c_reciprocal X (d + 1) n _ h _ hz (sh_in2 X d n KL h r z t (fz_inv z) hz ht (fz_inv_r _) h0 (if_neg h1).symm hK)
    · have h1 : z = (1, 0) := (fz_inj hz fz_r_i).mp (by rw [fz_p_i]; exact (lg_cmp_eq _ _).mp b)
      have := sh_in2 X d n KL h r z t (0, 1) hz ht fz_r_0 h0 (if_pos h1).symm hK
      rw [fz_p_0] at this
      exact this
  · have h0 : z = (0, 1) := (fz_inj hz fz_r_0).mp (by rw [fz_p_0]; exact (lg_cmp_eq _ _).mp a)
    unfold wh at hK
    rw [if_pos h0] at hK
    exact hK
theorem c_worthOfPart (x : Int32) (k : Nat) (q : Int × Int) (hq : fz_r q) (hx : x.toInt = k) (hk : k < L.sz) (l : LO n h o) (c : CL h o L) (hK : KL (fz_p (wp 0 (L.so k) (L.sh k) (L.va k) q)) h) : jL X (d + 4) y_Ladder_worthOfPart [.ref o, .int x, .long (fz_p q)] n h KL := by
  unfold wp at hK
  rw [if_pos rfl] at hK
  have hle := c.le
  refine r_Ladder_worthOfPart X (d + 3) n _ o x _ h ?_
  repeat (first | refine ⟨(l).1, ?_⟩ | refine ⟨_, (l).2.1, ?_⟩ | refine ⟨_, (l).2.2.1, ?_⟩ | refine ⟨_, (l).2.2.2.1, ?_⟩ | refine ⟨(l).xa (by assumption) (by omega), ?_⟩ | refine ⟨(l).xb (by assumption) (by omega), ?_⟩ | refine ⟨(l).xc (by assumption) (by omega), ?_⟩)
  rw [c.gs hx hk]
  refine ⟨fun e => ?_, fun e => ?_⟩
  · rw [if_neg e] at hK
    repeat (first | refine ⟨(l).1, ?_⟩ | refine ⟨_, (l).2.1, ?_⟩ | refine ⟨_, (l).2.2.1, ?_⟩ | refine ⟨_, (l).2.2.2.1, ?_⟩ | refine ⟨(l).xa (by assumption) (by omega), ?_⟩ | refine ⟨(l).xb (by assumption) (by omega), ?_⟩ | refine ⟨(l).xc (by assumption) (by omega), ?_⟩)
    rw [c.gv hx hk]
    refine c_product X d n _ h _ _ (c.vr hk) hq ?_
    repeat (first | refine ⟨(l).1, ?_⟩ | refine ⟨_, (l).2.1, ?_⟩ | refine ⟨_, (l).2.2.1, ?_⟩ | refine ⟨_, (l).2.2.2.1, ?_⟩ | refine ⟨(l).xa (by assumption) (by omega), ?_⟩ | refine ⟨(l).xb (by assumption) (by omega), ?_⟩ | refine ⟨(l).xc (by assumption) (by omega), ?_⟩)
    rw [c.gs hx hk, c.gu hx hk]
    refine c_isRising X (d + 2) n _ h _ _ ⟨fun y => ?_, fun y => ?_⟩
    · rw [if_pos y] at hK
      exact c_reciprocal X d n _ h _ (fz_mul_r _ _) hK
    · rw [if_neg y] at hK
      exact hK
  · rw [if_pos e] at hK
    repeat (first | refine ⟨(l).1, ?_⟩ | refine ⟨_, (l).2.1, ?_⟩ | refine ⟨_, (l).2.2.1, ?_⟩ | refine ⟨_, (l).2.2.2.1, ?_⟩ | refine ⟨(l).xa (by assumption) (by omega), ?_⟩ | refine ⟨(l).xb (by assumption) (by omega), ?_⟩ | refine ⟨(l).xc (by assumption) (by omega), ?_⟩)
    rw [c.gu hx hk]
    refine ⟨fun y => ?_, fun y => ?_⟩
    · rw [if_pos y] at hK
      repeat (first | refine ⟨(l).1, ?_⟩ | refine ⟨_, (l).2.1, ?_⟩ | refine ⟨_, (l).2.2.1, ?_⟩ | refine ⟨_, (l).2.2.2.1, ?_⟩ | refine ⟨(l).xa (by assumption) (by omega), ?_⟩ | refine ⟨(l).xb (by assumption) (by omega), ?_⟩ | refine ⟨(l).xc (by assumption) (by omega), ?_⟩)
      rw [c.gv hx hk]
      exact hK
    · rw [if_neg y] at hK
      repeat (first | refine ⟨(l).1, ?_⟩ | refine ⟨_, (l).2.1, ?_⟩ | refine ⟨_, (l).2.2.1, ?_⟩ | refine ⟨_, (l).2.2.2.1, ?_⟩ | refine ⟨(l).xa (by assumption) (by omega), ?_⟩ | refine ⟨(l).xb (by assumption) (by omega), ?_⟩ | refine ⟨(l).xc (by assumption) (by omega), ?_⟩)
      rw [c.gv hx hk]
      exact c_reciprocal X d n _ h _ (c.vr hk) hK
theorem c_reactanceOfPart (x : Int32) (k : Nat) (q : Int × Int) (hq : fz_r q) (hx : x.toInt = k) (hk : k < L.sz) (l : LO n h o) (c : CL h o L) (hK : KL (fz_p (wp 1 (L.so k) (L.sh k) (L.va k) q)) h) : jL X (d + 5) y_Ladder_reactanceOfPart [.ref o, .int x, .long (fz_p q)] n h KL := by
  unfold wp at hK
  rw [if_neg (by decide)] at hK
  have hle := c.le
  refine r_Ladder_reactanceOfPart X (d + 4) n _ o x _ h ?_
  repeat (first | refine ⟨(l).1, ?_⟩ | refine ⟨_, (l).2.1, ?_⟩ | refine ⟨_, (l).2.2.1, ?_⟩ | refine ⟨_, (l).2.2.2.1, ?_⟩ | refine ⟨(l).xa (by assumption) (by omega), ?_⟩ | refine ⟨(l).xb (by assumption) (by omega), ?_⟩ | refine ⟨(l).xc (by assumption) (by omega), ?_⟩)
  rw [c.gv hx hk]
  refine c_product X (d + 1) n _ h _ _ hq (c.vr hk) ?_
  repeat (first | refine ⟨(l).1, ?_⟩ | refine ⟨_, (l).2.1, ?_⟩ | refine ⟨_, (l).2.2.1, ?_⟩ | refine ⟨_, (l).2.2.2.1, ?_⟩ | refine ⟨(l).xa (by assumption) (by omega), ?_⟩ | refine ⟨(l).xb (by assumption) (by omega), ?_⟩ | refine ⟨(l).xc (by assumption) (by omega), ?_⟩)
  rw [c.gs hx hk, c.gu hx hk]
  refine c_isRising X (d + 3) n _ h _ _ ⟨fun y => ?_, fun y => ?_⟩
  · rw [if_pos y] at hK
    exact c_reciprocal X (d + 1) n _ h _ (fz_mul_r _ _) (c_negative X d n _ h _ (fz_inv_r _) hK)
  · rw [if_neg y] at hK
    exact hK
theorem workOut_l (Q : jv_Q) (r : Int32) (q : Int × Int) (hq : fz_r q) (hr : r = 0 ∨ r = 1) (l : LO n h o) (c : CL h o L) : ∀ (k : Nat) (x : Int32) (z : Int × Int), fz_r z → x.toInt = (k : Int) - 1 → k ≤ L.sz → Q (some (.long (fz_p (L.wo r q k z)))) h → a_Ladder_workOut_14 X (d + 5) n Q o (fz_p q) r (fz_p z) x h 0
  | 0, x, z, hz, hx, hk, hQ => by
    refine r_Ladder_workOut_14 X (d + 5) n Q o _ r _ x h ⟨fun _ => hQ, fun y => absurd (nz_lt.mpr (by rw [hx]; show _ < (0 : Int); omega)) y⟩
  | k + 1, x, z, hz, hx, hk, hQ => by
    have hx' : x.toInt = k := by omega
    have hk' : k < L.sz := by omega
    have hle := c.le
    have hwp : fz_r (wp r (L.so k) (L.sh k) (L.va k) q) := wp_r (c.vr hk')
    unfold zL.wo at hQ
    have fin : ∀ t, t = wt r (L.so k) (L.sh k) (L.va k) q z → fz_r t → ¬ wp r (L.so k) (L.sh k) (L.va k) q = (-1, 0) → jI X (d + 5) y_Fractions_isWide [.long (fz_p t)] n h (fun z9 h8 => (z9 = 0 → (a_Ladder_workOut_14 X (d + 5) n Q o (fz_p q) r (fz_p t) (x + (-1)) h8 0)) ∧ (¬ z9 = 0 → (Q (some (.long (fz_p t))) h8))) := by
      intro t et htr hp
      rw [if_neg hp, ← et] at hQ
      refine c_isWide X (d + 4) n _ h _ htr ⟨fun y => ?_, fun y => ?_⟩
      · rw [nz_bt] at y
        rw [if_neg y] at hQ
        exact workOut_l Q r q hq hr l c k _ t htr (by rw [nz_dec hx' (by omega)]) (by omega) hQ
      · rw [nz_bt, Classical.not_not] at y
        rw [if_pos y] at hQ
        rw [y]
        exact hQ
    have body : jI X (d + 5) y_Fractions_isWide [.long (fz_p (wp r (L.so k) (L.sh k) (L.va k) q))] n h (fun z4 h3 => (z4 = 0 → (jv_is SHT n o 13 ∧ (∃ a5 : Nat, jv_gR h3 o 1 = some a5 ∧ (jv_ix SHT n a5 2 x ∧ (((jv_gI h3 a5 (x).toNatClampNeg) = 0 → (jL X (d + 5) y_Ladder_addSeries [.long (fz_p z), .long (fz_p (wp r (L.so k) (L.sh k) (L.va k) q))] n h3 (fun z7 h6 => jI X (d + 5) y_Fractions_isWide [.long z7] n h6 (fun z9 h8 => (z9 = 0 → (a_Ladder_workOut_14 X (d + 5) n Q o (fz_p q) r z7 (x + (-1)) h8 0)) ∧ (¬ z9 = 0 → (Q (some (.long z7)) h8)))))) ∧ (¬ (jv_gI h3 a5 (x).toNatClampNeg) = 0 → (jL X (d + 5) y_Ladder_addShunt [.long (fz_p z), .long (fz_p (wp r (L.so k) (L.sh k) (L.va k) q)), .int r] n h3 (fun z11 h10 => jI X (d + 5) y_Fractions_isWide [.long z11] n h10 (fun z13 h12 => (z13 = 0 → (a_Ladder_workOut_14 X (d + 5) n Q o (fz_p q) r z11 (x + (-1)) h12 0)) ∧ (¬ z13 = 0 → (Q (some (.long z11)) h12))))))))))) ∧ (¬ z4 = 0 → (Q (some (.long (fz_p (wp r (L.so k) (L.sh k) (L.va k) q)))) h3))) := by
      refine c_isWide X (d + 4) n _ h _ hwp ⟨fun y => ?_, fun y => ?_⟩
      · rw [nz_bt] at y
        repeat (first | refine ⟨(l).1, ?_⟩ | refine ⟨_, (l).2.1, ?_⟩ | refine ⟨_, (l).2.2.1, ?_⟩ | refine ⟨_, (l).2.2.2.1, ?_⟩ | refine ⟨(l).xa (by assumption) (by omega), ?_⟩ | refine ⟨(l).xb (by assumption) (by omega), ?_⟩ | refine ⟨(l).xc (by assumption) (by omega), ?_⟩)
        rw [c.gu hx' hk']
        refine ⟨fun e => ?_, fun e => ?_⟩
        · exact c_addSeries X (d + 1) n _ h z _ hz hwp (fin _ (if_pos e).symm (ws_r hz) y)
        · exact c_addShunt X d n _ h r z _ hz hwp (fin _ (if_neg e).symm (wh_r hz) y)
      · rw [nz_bt, Classical.not_not] at y
        rw [if_pos y] at hQ
        rw [y]
        exact hQ
    refine r_Ladder_workOut_14 X (d + 5) n Q o _ r _ x h ⟨fun y => ?_, fun y => ⟨fun e => ⟨l.1, ?_⟩, fun e => ⟨l.1, ?_⟩⟩⟩
    · have : x.toInt < (0 : Int) := nz_lt.mp y
      omega
    · subst e
      exact c_worthOfPart X (d + 1) n _ h o L x k q hq hx' hk' l c body
    · have e1 : r = 1 := hr.elim (fun z => absurd z e) id
      subst e1
      exact c_reactanceOfPart X d n _ h o L x k q hq hx' hk' l c body
theorem c_workOut (r : Int32) (q : Int × Int) (hq : fz_r q) (hr : r = 0 ∨ r = 1) (l : LO n h o) (c : CL h o L) (hK : KL (fz_p (L.wo r q L.sz L.we)) h) : jL X (d + 6) y_Ladder_workOut [.ref o, .long (fz_p q), .int r] n h KL := by
  refine r_Ladder_workOut X (d + 5) n _ o _ r h ⟨l.1, ?_⟩
  have hle := c.le
  have e1 : (1 : Int32).toInt = 1 := rfl
  have hx : (jv_gI h o 3 - 1).toInt = (L.sz : Int) - 1 := by rw [nz_subi (by rw [c.gz, e1]; omega) (by rw [c.gz, e1]; omega), c.gz, e1]
  have key : ∀ z : Int64, z = fz_p L.we → fz_r L.we → jv_is SHT n o 13 ∧ a_Ladder_workOut_14 X (d + 5) n (jv_rL KL) o (fz_p q) r z (jv_gI h o 3 - 1) h 0 := fun z e hw => by
    rw [e]
    exact ⟨l.1, workOut_l X d n h o L _ r q hq hr l c L.sz _ _ hw hx (Nat.le_refl _) hK⟩
  refine r_Ladder_worthOfEnd X (d + 4) n _ o h ⟨l.1, ?_⟩
  rw [c.ge]
  unfold zL.we at key
  refine ⟨fun a => ⟨l.1, fun b => ?_, fun b => ?_⟩, fun a => ⟨l.1, ?_⟩⟩
  · rw [if_neg a, if_neg b] at key
    exact key _ fz_p_i.symm fz_r_i
  · rw [if_neg a, if_pos b] at key
    exact key _ fz_p_0.symm fz_r_0
  · rw [if_pos a] at key
    exact key _ c.gl c.2.2.2.1
end
