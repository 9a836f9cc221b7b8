/-! ===== the reference: rows added, grown, moved ===== -/
theorem sh13 {q : Nat} (h : 200 ≤ q ∧ q ≤ 203) : SHT q = (1, 13) ∧ q < 227 := by
  have : q = 200 ∨ q = 201 ∨ q = 202 ∨ q = 203 := by omega
  rcases this with z | z | z | z <;> subst z <;> exact ⟨rfl, by decide⟩
/-- a row that was worked: as it is truly, or too wide -/
def wres (h' : jv_H) (u l : Nat) (w w' : Bool) (V : Nat → Int × Int) : Prop := (w' = false ∧ w = false ∧ noW V ∧ rw0 h' u l V) ∨ (w' = true ∧ (w = true ∨ ¬ noW V) ∧ ∃ F, gdr F ∧ rw0 h' u l F)
def u4 (u l : Nat) : Nat → Nat → Prop := fun q j => q = 171 ∧ (j = 4 ∨ j = 5) ∨ q = u ∨ q = l
theorem mi_u4 {u l : Nat} {h h' : jv_H} (o : oT (mI 171) (mL 171) h h') : oT (mI 171) (u4 u l) h h' := o.mono (fun _ _ z => z) (fun q j z => by unfold mL at z; unfold u4; omega)
theorem u4_ab {u l : Nat} (hu : 200 ≤ u ∧ u ≤ 203) (hl : 200 ≤ l ∧ l ≤ 203) {h h' : jv_H} (o : oT (mI 171) (u4 u l) h h') : oT (mI 171) abL h h' := o.mono (fun _ _ z => z) (fun q j z => by unfold u4 at z; unfold abL; omega)
theorem gdr.nw {f : Nat → Int × Int} (g : gdr f) : noW f := fun i hi => (g i hi).nw
theorem rq_in {wc w0 : Bool} {s T : Int × Int} {N : Prop} (G : Int × Int → Int × Int → Int × Int) (g1 : ∀ q, G (-1, 0) q = (-1, 0)) (g2 : ∀ q, G q (-1, 0) = (-1, 0)) (hw : (wc = false ∧ w0 = false ∧ s ≠ (-1, 0)) ∨ (wc = true ∧ (w0 = true ∨ N))) (hN : wc = false → G s T = (-1, 0) → N) : ((rz (rz wc T).1 (G s (rz wc T).2)).1 = false ∧ w0 = false ∧ (rz (rz wc T).1 (G s (rz wc T).2)).2 = G s T ∧ wc = false) ∨ ((rz (rz wc T).1 (G s (rz wc T).2)).1 = true ∧ (w0 = true ∨ N)) := by
  rcases hw with ⟨h1, h2, h3⟩ | ⟨h1, h2⟩
  · rcases rq_2 G g1 g2 (Or.inr ⟨h1, rfl, h3⟩ : rq wc s s) T (rz wc T).1 (a := (rz wc T).2) rfl (b := G s (rz wc T).2) rfl with ⟨z1, z2⟩ | ⟨z1, z2, z3⟩
    · exact Or.inr ⟨z1, Or.inr (hN h1 z2)⟩
    · exact Or.inl ⟨z1, h2, z2, h1⟩
  · rw [h1, rz_t, rz_t]
    exact Or.inr ⟨rfl, h2⟩
theorem rq_io {wc w0 : Bool} {T : Int × Int} {N : Prop} (hw : (wc = false ∧ w0 = false) ∨ (wc = true ∧ (w0 = true ∨ N))) (hN : wc = false → T = (-1, 0) → N) : ((rz wc T).1 = false ∧ w0 = false ∧ (rz wc T).2 = T ∧ wc = false) ∨ ((rz wc T).1 = true ∧ (w0 = true ∨ N)) := by
  rcases hw with ⟨h1, h2⟩ | ⟨h1, h2⟩
  · subst h1
    by_cases hT : T = (-1, 0)
    · rw [hT, rz_W]
      exact Or.inr ⟨rfl, Or.inr (hN rfl hT)⟩
    · rw [rz_f hT]
      exact Or.inl ⟨rfl, h2, rfl, rfl⟩
  · rw [h1, rz_t]
    exact Or.inr ⟨rfl, h2⟩
theorem up_if {Fc F V : Nat → Int × Int} {k : Nat} {S : Int × Int} (i3 : ∀ i, i < 13 → Fc i = if i < k + 1 then F i else V i) (e : S = V k) : ∀ i, i < 13 → pz_up Fc k S i = if i < k then F i else V i := fun i hi => by
  unfold pz_up
  by_cases z : i = k
  · rw [if_pos z, if_neg (by omega), z, e]
  · rw [if_neg z, i3 i hi]
    by_cases y : i < k
    · rw [if_pos y, if_pos (by omega)]
    · rw [if_neg y, if_neg (by omega)]
section
variable (X : jv_X) (d : Nat) (h : jv_H) (K : jv_H → Prop) (KI : Int32 → jv_H → Prop) (Z : zZ)
theorem adds_l (Q : jv_Q) (u l u2 l2 : Nat) (hu : 200 ≤ u ∧ u ≤ 203) (hl : 200 ≤ l ∧ l ≤ 203) (hu2 : 200 ≤ u2 ∧ u2 ≤ 203) (hl2 : 200 ≤ l2 ∧ l2 ≤ 203) (hne : u ≠ l ∧ u2 ≠ u ∧ u2 ≠ l ∧ l2 ≠ u ∧ l2 ≠ l) (x5 x7 : Int64) (v : Int × Int) (hv : gz v) (h5 : x5.toInt = v.1) (h7 : x7.toInt = v.2) (x9 : Int32) (on : Nat) (h9 : x9.toInt = on) (hon : on ≤ 1) (F G : Nat → Int × Int) (gF : gdr F) (gG : gdr G) (w0 : Bool) :
    ∀ (j : Nat) (x10 : Int32) (h : jv_H) (wc : Bool) (Fc : Nat → Int × Int), x10.toInt = (j : Int) + on - 1 → j + on ≤ 13 → h.1 171 6 = (if wc then 1 else 0) → rw0 h u l Fc → gdr Fc → rw0 h u2 l2 G → ((wc = false ∧ w0 = false ∧ ∀ i, i < 13 → Fc i = if i < j + on then F i else pz_add F G v on i) ∨ (wc = true ∧ (w0 = true ∨ ¬ noW (pz_add F G v on)))) →
      (∀ h' w', oT (mI 171) (u4 u l) h h' → h'.1 171 6 = (if w' then 1 else 0) → wres h' u l w0 w' (pz_add F G v on) → Q none h') → a_Model_adds_4 X (d + 3) 227 Q 171 u l u2 l2 x5 x7 x9 x10 h 0
  | 0, x10, h, wc, Fc, hx, hj, hw, c, g, c2, inv, hQ => by
    refine r_Model_adds_4 X (d + 3) 227 Q 171 u l u2 l2 x5 x7 x9 x10 h ⟨fun _ => hQ h wc oT.rf hw ?_, fun z => absurd (nz_lt.mpr (by rw [hx, h9]; omega)) z⟩
    rcases inv with ⟨i1, i2, i3⟩ | ⟨i1, i2⟩
    · have e : ∀ i, i < 13 → pz_add F G v on i = Fc i := fun i hi => by
        rw [i3 i hi]
        by_cases z : i < 0 + on
        · rw [if_pos z]
          have ea : pz_at G ((i : Int) - on) = (0, 1) := if_neg (by omega)
          show fz_sum (F i) (fz_mul v (pz_at G ((i : Int) - on))) = _
          rw [ea, fz_mul_0 hv, fz_sum_0 (gF i hi)]
        · rw [if_neg z]
      exact Or.inl ⟨i1, i2, fun i hi => by rw [e i hi]; exact (g i hi).nw, c.eq e⟩
    · exact Or.inr ⟨i1, i2, Fc, g, c⟩
  | j + 1, x10, h, wc, Fc, hx, hj, hw, c, g, c2, inv, hQ => by
    have hx' : x10.toInt = ((j + on : Nat) : Int) := by omega
    have hs : (x10 - x9).toInt = ((j : Nat) : Int) := by rw [nz_sub_i hx' h9 (by omega) (by omega)]; omega
    have v2 := c2 j (by omega)
    have v1 := c (j + on) (by omega)
    refine r_Model_adds_4 X (d + 3) 227 Q 171 u l u2 l2 x5 x7 x9 x10 h ⟨fun z => ?_, fun _ => ⟨jx (sh13 hu2).1 (sh13 hu2).2 (by omega) (by omega), jx (sh13 hl2).1 (sh13 hl2).2 (by omega) (by omega), is171, ?_⟩⟩
    · have := nz_lt.mp z
      rw [hx, h9] at this
      omega
    · rw [nz_nat hs]
      refine c_times X d 227 _ h 171 _ _ _ _ wc v (G j) is171 hw h5 h7 (uq.a v2) (uq.b v2) hv (gG j (by omega)).z (fun h1 o1 m1 => ⟨jx (sh13 hu).1 (sh13 hu).2 (by omega) (by omega), jx (sh13 hl).1 (sh13 hl).2 (by omega) (by omega), is171, is171, is171, ?_⟩)
      rw [nz_nat hx']
      have o1' : oT (mI 171) (u4 u l) h h1 := mi_u4 o1
      have c1 : rw0 h1 u l Fc := c.mv o1 (fun i => ⟨fun z => by unfold mL at z; omega, fun z => by unfold mL at z; omega⟩)
      have w1 := c1 (j + on) (by omega)
      refine c_plus X d 227 _ h1 171 _ _ _ _ _ (Fc (j + on)) _ is171 m1.2.2 (uq.a w1) (uq.b w1) m1.1 m1.2.1 (g _ (by omega)).z rz_mul.z (fun h2 o2 m2 => ⟨is171, jx (sh13 hu).1 (sh13 hu).2 (by omega) (by omega), is171, jx (sh13 hl).1 (sh13 hl).2 (by omega) (by omega), ?_⟩)
      have e5 : jv_gL (jv_uL h2 u (j + on) (jv_gL h2 171 4)) 171 5 = jv_gL h2 171 5 := uL_ne (by omega)
      rw [e5]
      have o12 := o1.tr o2
      have o3 : oT (mI 171) (u4 u l) h (jv_uL (jv_uL h2 u (j + on) (jv_gL h2 171 4)) l (j + on) (jv_gL h2 171 5)) := ((mi_u4 o12).uL (Or.inr (Or.inl rfl))).uL (Or.inr (Or.inr rfl))
      have c3 : rw0 (jv_uL (jv_uL h2 u (j + on) (jv_gL h2 171 4)) l (j + on) (jv_gL h2 171 5)) u l (pz_up Fc (j + on) (rz (rz wc (fz_mul v (G j))).1 (fz_sum (Fc (j + on)) (rz wc (fz_mul v (G j))).2)).2) := (c.mv o12 (fun i => ⟨fun z => by unfold mL at z; omega, fun z => by unfold mL at z; omega⟩)).st hne.1 (Prod.ext m2.1 m2.2.1)
      have c4 : rw0 (jv_uL (jv_uL h2 u (j + on) (jv_gL h2 171 4)) l (j + on) (jv_gL h2 171 5)) u2 l2 G := c2.mv o3 (fun i => ⟨fun z => by unfold u4 at z; omega, fun z => by unfold u4 at z; omega⟩)
      have eV : pz_add F G v on (j + on) = fz_sum (F (j + on)) (fz_mul v (G j)) := by
        have ea : pz_at G (((j + on : Nat) : Int) - on) = G j := by
          unfold pz_at
          rw [if_pos ⟨by omega, by omega⟩, show (((j + on : Nat) : Int) - on).toNat = j by omega]
        show fz_sum (F (j + on)) (fz_mul v (pz_at G (((j + on : Nat) : Int) - on))) = _
        rw [ea]
      have st := rq_in (w0 := w0) (N := ¬ noW (pz_add F G v on)) (s := Fc (j + on)) fz_sum fz_sum_W1 fz_sum_W2 (T := fz_mul v (G j)) (inv.imp (fun z => ⟨z.1, z.2.1, (g _ (by omega)).nw⟩) id) (fun hwc z => by
        rcases inv with ⟨i1, i2, i3⟩ | ⟨i1, i2⟩
        · have e : Fc (j + on) = F (j + on) := by rw [i3 _ (by omega), if_pos (by omega)]
          rw [e, ← eV] at z
          exact fun y => y _ (by omega) z
        · rw [i1] at hwc; cases hwc)
      refine adds_l Q u l u2 l2 hu hl hu2 hl2 hne x5 x7 v hv h5 h7 x9 on h9 hon F G gF gG w0 j _ _ _ _ (by rw [nz_dec hx' (by omega)]; omega) (by omega) m2.2.2 c3 (g.up rz_sum) c4 ?_ (fun h' w' o' a1 a2 => hQ h' w' (o3.tr o') a1 a2)
      rcases st with ⟨s1, s2, s3, s4⟩ | ⟨s1, s2⟩
      · rcases inv with ⟨i1, i2, i3⟩ | ⟨i1, i2⟩
        · have e : Fc (j + on) = F (j + on) := by rw [i3 _ (by omega), if_pos (by omega)]
          refine Or.inl ⟨s1, s2, up_if (F := F) (V := pz_add F G v on) (fun i hi => by rw [i3 i hi, show j + 1 + on = j + on + 1 by omega]) ?_⟩
          rw [eV, s3, e]
        · rw [i1] at s4; cases s4
      · exact Or.inr ⟨s1, s2⟩
theorem m_adds (u l u2 l2 : Nat) (hu : 200 ≤ u ∧ u ≤ 203) (hl : 200 ≤ l ∧ l ≤ 203) (hu2 : 200 ≤ u2 ∧ u2 ≤ 203) (hl2 : 200 ≤ l2 ∧ l2 ≤ 203) (hne : u ≠ l ∧ u2 ≠ u ∧ u2 ≠ l ∧ l2 ≠ u ∧ l2 ≠ l) (x5 x7 : Int64) (v : Int × Int) (hv : gz v) (h5 : x5.toInt = v.1) (h7 : x7.toInt = v.2) (x9 : Int32) (on : Nat) (h9 : x9.toInt = on) (hon : on ≤ 1) (F G : Nat → Int × Int) (gF : gdr F) (gG : gdr G) (w0 : Bool) (hw : h.1 171 6 = (if w0 then 1 else 0)) (c : rw0 h u l F) (c2 : rw0 h u2 l2 G)
    (hK : ∀ h' w', oT (mI 171) (u4 u l) h h' → h'.1 171 6 = (if w' then 1 else 0) → wres h' u l w0 w' (pz_add F G v on) → K h') : jV X (d + 4) y_Model_adds [.ref 171, .ref u, .ref l, .ref u2, .ref l2, .long x5, .long x7, .int x9] 227 h K := by
  refine r_Model_adds X (d + 3) 227 _ 171 u l u2 l2 x5 x7 x9 h (adds_l X d _ u l u2 l2 hu hl hu2 hl2 hne x5 x7 v hv h5 h7 x9 on h9 hon F G gF gG w0 (13 - on) 12 h w0 F (by show (12 : Int) = _; omega) (by omega) hw c gF c2 ?_ hK)
  cases w0
  · exact Or.inl ⟨rfl, rfl, fun i hi => by rw [if_pos (by omega)]⟩
  · exact Or.inr ⟨rfl, Or.inl rfl⟩
theorem grows_l (Q : jv_Q) (u l : Nat) (hu : 200 ≤ u ∧ u ≤ 203) (hl : 200 ≤ l ∧ l ≤ 203) (hne : u ≠ l) (x3 x5 : Int64) (v : Int × Int) (hv : gz v) (h3 : x3.toInt = v.1) (h5 : x5.toInt = v.2) (x7 : Int32) (on : Nat) (h7 : x7.toInt = on) (hon : on ≤ 1) (F : Nat → Int × Int) (gF : gdr F) (w0 : Bool) :
    ∀ (k : Nat) (x8 : Int32) (h : jv_H) (wc : Bool) (Fc : Nat → Int × Int), x8.toInt = (k : Int) - 1 → k ≤ 13 → h.1 171 6 = (if wc then 1 else 0) → rw0 h u l Fc → gdr Fc → ((wc = false ∧ w0 = false ∧ ∀ i, i < 13 → Fc i = if i < k then F i else pz_grow F v on i) ∨ (wc = true ∧ (w0 = true ∨ ¬ noW (pz_grow F v on)))) →
      (∀ h' w', oT (mI 171) (u4 u l) h h' → h'.1 171 6 = (if w' then 1 else 0) → wres h' u l w0 w' (pz_grow F v on) → Q none h') → a_Model_grows_4 X (d + 3) 227 Q 171 u l x3 x5 x7 x8 h 0
  | 0, x8, h, wc, Fc, hx, hk, hw, c, g, inv, hQ => by
    refine r_Model_grows_4 X (d + 3) 227 Q 171 u l x3 x5 x7 x8 h ⟨fun _ => hQ h wc oT.rf hw ?_, fun z => absurd (nz_lt.mpr (by rw [hx]; show _ < (0 : Int); omega)) z⟩
    rcases inv with ⟨i1, i2, i3⟩ | ⟨i1, i2⟩
    · have e : ∀ i, i < 13 → pz_grow F v on i = Fc i := fun i hi => by rw [i3 i hi, if_neg (Nat.not_lt_zero _)]
      exact Or.inl ⟨i1, i2, fun i hi => by rw [e i hi]; exact (g i hi).nw, c.eq e⟩
    · exact Or.inr ⟨i1, i2, Fc, g, c⟩
  | k + 1, x8, h, wc, Fc, hx, hk, hw, c, g, inv, hQ => by
    have hx' : x8.toInt = ((k : Nat) : Int) := by omega
    have fin : ∀ (h1 : jv_H) (T : Int × Int), oT (mI 171) (mL 171) h h1 → MI h1 171 (rz wc T).1 (rz wc T).2 → gd (rz wc T).2 → (wc = false → T = pz_grow F v on k) → jv_is SHT 227 171 20 ∧ (jv_ix SHT 227 u 1 x8 ∧ (jv_is SHT 227 171 20 ∧ (jv_ix SHT 227 l 1 x8 ∧ (a_Model_grows_4 X (d + 3) 227 Q 171 u l x3 x5 x7 (x8 + (-1)) (jv_uL (jv_uL h1 u x8.toNatClampNeg (jv_gL h1 171 4)) l x8.toNatClampNeg (jv_gL (jv_uL h1 u x8.toNatClampNeg (jv_gL h1 171 4)) 171 5)) 0)))) := fun h1 T o1 m1 gt eT => by
      refine ⟨is171, jx (sh13 hu).1 (sh13 hu).2 (by omega) (by omega), is171, jx (sh13 hl).1 (sh13 hl).2 (by omega) (by omega), ?_⟩
      rw [nz_nat hx']
      have e5 : jv_gL (jv_uL h1 u k (jv_gL h1 171 4)) 171 5 = jv_gL h1 171 5 := uL_ne (by omega)
      rw [e5]
      have o3 : oT (mI 171) (u4 u l) h (jv_uL (jv_uL h1 u k (jv_gL h1 171 4)) l k (jv_gL h1 171 5)) := ((mi_u4 o1).uL (Or.inr (Or.inl rfl))).uL (Or.inr (Or.inr rfl))
      have c3 : rw0 (jv_uL (jv_uL h1 u k (jv_gL h1 171 4)) l k (jv_gL h1 171 5)) u l (pz_up Fc k (rz wc T).2) := (c.mv o1 (fun i => ⟨fun z => by unfold mL at z; omega, fun z => by unfold mL at z; omega⟩)).st hne (Prod.ext m1.1 m1.2.1)
      have st := rq_io (w0 := w0) (N := ¬ noW (pz_grow F v on)) (T := T) (wc := wc) (inv.imp (fun z => ⟨z.1, z.2.1⟩) id) (fun hwc z => fun y => y k (by omega) (by rw [← eT hwc]; exact z))
      refine grows_l Q u l hu hl hne x3 x5 v hv h3 h5 x7 on h7 hon F gF w0 k _ _ _ _ (by rw [nz_dec hx' (by omega)]) (by omega) m1.2.2 c3 (g.up gt) ?_ (fun h' w' o' a1 a2 => hQ h' w' (o3.tr o') a1 a2)
      rcases st with ⟨s1, s2, s3, s4⟩ | ⟨s1, s2⟩
      · rcases inv with ⟨i1, i2, i3⟩ | ⟨i1, i2⟩
        · exact Or.inl ⟨s1, s2, up_if i3 (by rw [s3, eT s4])⟩
        · rw [i1] at s4; cases s4
      · exact Or.inr ⟨s1, s2⟩
    refine r_Model_grows_4 X (d + 3) 227 Q 171 u l x3 x5 x7 x8 h ⟨fun z => ?_, fun _ => ⟨fun a => ?_, fun a => ⟨is171, ?_⟩⟩⟩
    · have : x8.toInt < (0 : Int) := nz_lt.mp z
      omega
    · have a := nz_le.mp a
      rw [h7, hx'] at a
      have hs : (x8 - x7).toInt = ((k - on : Nat) : Int) := by rw [nz_sub_i hx' h7 (by omega) (by omega)]; omega
      have v1 := c (k - on) (by omega)
      refine ⟨jx (sh13 hu).1 (sh13 hu).2 (by omega) (by omega), jx (sh13 hl).1 (sh13 hl).2 (by omega) (by omega), is171, ?_⟩
      rw [nz_nat hs]
      refine c_times X d 227 _ h 171 _ _ _ _ wc v (Fc (k - on)) is171 hw h3 h5 (uq.a v1) (uq.b v1) hv (g _ (by omega)).z (fun h1 o1 m1 => fin h1 _ o1 m1 rz_mul (fun hwc => ?_))
      rcases inv with ⟨i1, i2, i3⟩ | ⟨i1, i2⟩
      · have ea : pz_at F ((k : Int) - on) = F (k - on) := by
          unfold pz_at
          rw [if_pos ⟨by omega, by omega⟩, show ((k : Int) - on).toNat = k - on by omega]
        show _ = fz_mul v (pz_at F ((k : Int) - on))
        rw [ea, i3 _ (by omega), if_pos (by omega)]
      · rw [i1] at hwc; cases hwc
    · have a : ¬ (on : Int) ≤ k := fun z => a (nz_le.mpr (by rw [h7, hx']; exact z))
      refine c_is X (d + 1) 227 _ h 171 0 1 wc is171 hw (by decide) (by decide) (by decide) (fun h1 o1 m1 => fin h1 (fz_of (0 : Int64).toInt (1 : Int64).toInt) o1 m1 rz_gd (fun hwc => ?_))
      have ea : pz_at F ((k : Int) - on) = (0, 1) := if_neg (by omega)
      show _ = fz_mul v (pz_at F ((k : Int) - on))
      rw [ea, fz_mul_0 hv]
      decide
theorem m_grows (u l : Nat) (hu : 200 ≤ u ∧ u ≤ 203) (hl : 200 ≤ l ∧ l ≤ 203) (hne : u ≠ l) (x3 x5 : Int64) (v : Int × Int) (hv : gz v) (h3 : x3.toInt = v.1) (h5 : x5.toInt = v.2) (x7 : Int32) (on : Nat) (h7 : x7.toInt = on) (hon : on ≤ 1) (F : Nat → Int × Int) (gF : gdr F) (w0 : Bool) (hw : h.1 171 6 = (if w0 then 1 else 0)) (c : rw0 h u l F)
    (hK : ∀ h' w', oT (mI 171) (u4 u l) h h' → h'.1 171 6 = (if w' then 1 else 0) → wres h' u l w0 w' (pz_grow F v on) → K h') : jV X (d + 4) y_Model_grows [.ref 171, .ref u, .ref l, .long x3, .long x5, .int x7] 227 h K := by
  refine r_Model_grows X (d + 3) 227 _ 171 u l x3 x5 x7 h (grows_l X d _ u l hu hl hne x3 x5 v hv h3 h5 x7 on h7 hon F gF w0 13 12 h w0 F rfl (by omega) hw c gF ?_ hK)
  cases w0
  · exact Or.inl ⟨rfl, rfl, fun i hi => by rw [if_pos hi]⟩
  · exact Or.inr ⟨rfl, Or.inl rfl⟩
theorem shin_l (Q : jv_Q) (u l : Nat) (hu : 200 ≤ u ∧ u ≤ 203) (hl : 200 ≤ l ∧ l ≤ 203) (hne : u ≠ l) (x3 x5 : Int64) (q : Int × Int) (hq : gz q) (h3 : x3.toInt = q.1) (h5 : x5.toInt = q.2) (x7 x8 : Int32) (j : Nat) (h8 : x8.toInt = j) (rest : List Nat) (R0 : Option (Nat → Int × Int)) (w0 : Bool) :
    ∀ (m : Nat) (x9 : Int32) (h : jv_H) (wc : Bool) (Fc : Nat → Int × Int), x9.toInt = (j : Int) + m - 1 → j + m ≤ 12 → h.1 171 6 = (if wc then 1 else 0) → rw0 h u l Fc → gdr Fc → ((wc = false ∧ w0 = false ∧ pz_run q (sh_in j m ++ rest) Fc = R0) ∨ (wc = true ∧ (w0 = true ∨ R0 = none))) →
      (∀ h' w' F', oT (mI 171) (u4 u l) h h' → h'.1 171 6 = (if w' then 1 else 0) → rw0 h' u l F' → gdr F' → ((w' = false ∧ w0 = false ∧ pz_run q rest F' = R0) ∨ (w' = true ∧ (w0 = true ∨ R0 = none))) → a_Model_shifts_10 X (d + 3) 227 Q 171 u l x3 x5 x7 (x8 + 1) h' 0) → a_Model_shifts_23 X (d + 3) 227 Q 171 u l x3 x5 x7 x8 x9 h 0
  | 0, x9, h, wc, Fc, hx, hj, hw, c, g, inv, hQ => by
    exact r_Model_shifts_23 X (d + 3) 227 Q 171 u l x3 x5 x7 x8 x9 h ⟨fun _ => hQ h wc Fc oT.rf hw c g inv, fun z => absurd (nz_lt.mpr (by rw [hx, h8]; omega)) z⟩
  | m + 1, x9, h, wc, Fc, hx, hj, hw, c, g, inv, hQ => by
    have hx' : x9.toInt = ((j + m : Nat) : Int) := by omega
    have hx1 : (x9 + 1).toInt = ((j + m + 1 : Nat) : Int) := nz_inc hx' (by omega)
    have v1 := c (j + m + 1) (by omega)
    refine r_Model_shifts_23 X (d + 3) 227 Q 171 u l x3 x5 x7 x8 x9 h ⟨fun z => ?_, fun _ => ⟨jx (sh13 hu).1 (sh13 hu).2 (by omega) (by omega), jx (sh13 hl).1 (sh13 hl).2 (by omega) (by omega), is171, ?_⟩⟩
    · have := nz_lt.mp z
      rw [hx, h8] at this
      omega
    · rw [nz_nat hx1]
      refine c_times X d 227 _ h 171 _ _ _ _ wc q (Fc (j + m + 1)) is171 hw h3 h5 (uq.a v1) (uq.b v1) hq (g _ (by omega)).z (fun h1 o1 m1 => ⟨jx (sh13 hu).1 (sh13 hu).2 (by omega) (by omega), jx (sh13 hl).1 (sh13 hl).2 (by omega) (by omega), is171, is171, is171, ?_⟩)
      rw [nz_nat hx']
      have c1 : rw0 h1 u l Fc := c.mv o1 (fun i => ⟨fun z => by unfold mL at z; omega, fun z => by unfold mL at z; omega⟩)
      have w1 := c1 (j + m) (by omega)
      refine c_plus X d 227 _ h1 171 _ _ _ _ _ (Fc (j + m)) _ is171 m1.2.2 (uq.a w1) (uq.b w1) m1.1 m1.2.1 (g _ (by omega)).z rz_mul.z (fun h2 o2 m2 => ⟨is171, jx (sh13 hu).1 (sh13 hu).2 (by omega) (by omega), is171, jx (sh13 hl).1 (sh13 hl).2 (by omega) (by omega), ?_⟩)
      have e5 : jv_gL (jv_uL h2 u (j + m) (jv_gL h2 171 4)) 171 5 = jv_gL h2 171 5 := uL_ne (by omega)
      rw [e5]
      have o12 := o1.tr o2
      have o3 : oT (mI 171) (u4 u l) h (jv_uL (jv_uL h2 u (j + m) (jv_gL h2 171 4)) l (j + m) (jv_gL h2 171 5)) := ((mi_u4 o12).uL (Or.inr (Or.inl rfl))).uL (Or.inr (Or.inr rfl))
      have c3 : rw0 (jv_uL (jv_uL h2 u (j + m) (jv_gL h2 171 4)) l (j + m) (jv_gL h2 171 5)) u l (pz_up Fc (j + m) (rz (rz wc (fz_mul q (Fc (j + m + 1)))).1 (fz_sum (Fc (j + m)) (rz wc (fz_mul q (Fc (j + m + 1)))).2)).2) := (c.mv o12 (fun i => ⟨fun z => by unfold mL at z; omega, fun z => by unfold mL at z; omega⟩)).st hne (Prod.ext m2.1 m2.2.1)
      have hrun : pz_run q (sh_in j (m + 1) ++ rest) Fc = if fz_sum (Fc (j + m)) (fz_mul q (Fc (j + m + 1))) = (-1, 0) then none else pz_run q (sh_in j m ++ rest) (pz_up Fc (j + m) (fz_sum (Fc (j + m)) (fz_mul q (Fc (j + m + 1))))) := rfl
      have st := rq_in (w0 := w0) (N := R0 = none) (s := Fc (j + m)) fz_sum fz_sum_W1 fz_sum_W2 (T := fz_mul q (Fc (j + m + 1))) (inv.imp (fun z => ⟨z.1, z.2.1, (g _ (by omega)).nw⟩) id) (fun hwc z => by
        rcases inv with ⟨i1, i2, i3⟩ | ⟨i1, i2⟩
        · rw [← i3, hrun, if_pos z]
        · rw [i1] at hwc; cases hwc)
      refine shin_l Q u l hu hl hne x3 x5 q hq h3 h5 x7 x8 j h8 rest R0 w0 m _ _ _ _ (by rw [nz_dec hx' (by omega)]; omega) (by omega) m2.2.2 c3 (g.up rz_sum) ?_ (fun h' w' F' o' a1 a2 a3 a4 => hQ h' w' F' (o3.tr o') a1 a2 a3 a4)
      rcases st with ⟨s1, s2, s3, s4⟩ | ⟨s1, s2⟩
      · rcases inv with ⟨i1, i2, i3⟩ | ⟨i1, i2⟩
        · refine Or.inl ⟨s1, s2, ?_⟩
          have gs : gd (rz (rz wc (fz_mul q (Fc (j + m + 1)))).1 (fz_sum (Fc (j + m)) (rz wc (fz_mul q (Fc (j + m + 1)))).2)).2 := rz_sum
          rw [hrun, if_neg (by rw [← s3]; exact gs.nw)] at i3
          rw [s3]
          exact i3
        · rw [i1] at s4; cases s4
      · exact Or.inr ⟨s1, s2⟩
theorem shout_l (Q : jv_Q) (u l : Nat) (hu : 200 ≤ u ∧ u ≤ 203) (hl : 200 ≤ l ∧ l ≤ 203) (hne : u ≠ l) (x3 x5 : Int64) (q : Int × Int) (hq : gz q) (h3 : x3.toInt = q.1) (h5 : x5.toInt = q.2) (x7 : Int32) (g0 : Nat) (h7 : x7.toInt = g0) (hg : g0 ≤ 12) (R0 : Option (Nat → Int × Int)) (w0 : Bool) :
    ∀ (m : Nat) (x8 : Int32) (h : jv_H) (wc : Bool) (Fc : Nat → Int × Int), x8.toInt = (g0 : Int) - m → m ≤ g0 → h.1 171 6 = (if wc then 1 else 0) → rw0 h u l Fc → gdr Fc → ((wc = false ∧ w0 = false ∧ pz_run q (sh_out g0 m) Fc = R0) ∨ (wc = true ∧ (w0 = true ∨ R0 = none))) →
      (∀ h' w' F', oT (mI 171) (u4 u l) h h' → h'.1 171 6 = (if w' then 1 else 0) → rw0 h' u l F' → gdr F' → ((w' = false ∧ w0 = false ∧ R0 = some F') ∨ (w' = true ∧ (w0 = true ∨ R0 = none))) → Q none h') → a_Model_shifts_10 X (d + 3) 227 Q 171 u l x3 x5 x7 x8 h 0
  | 0, x8, h, wc, Fc, hx, hm, hw, c, g, inv, hQ => by
    refine r_Model_shifts_10 X (d + 3) 227 Q 171 u l x3 x5 x7 x8 h ⟨fun _ => hQ h wc Fc oT.rf hw c g (inv.imp (fun z => ⟨z.1, z.2.1, z.2.2.symm⟩) id), fun z => absurd (nz_le.mpr (by rw [h7, hx]; omega)) z⟩
  | m + 1, x8, h, wc, Fc, hx, hm, hw, c, g, inv, hQ => by
    have hx' : x8.toInt = ((g0 - (m + 1) : Nat) : Int) := by omega
    refine r_Model_shifts_10 X (d + 3) 227 Q 171 u l x3 x5 x7 x8 h ⟨fun z => ?_, fun _ => ?_⟩
    · have := nz_le.mp z
      rw [h7, hx] at this
      omega
    · have e1 : (1 : Int32).toInt = 1 := rfl
      exact shin_l X d Q u l hu hl hne x3 x5 q hq h3 h5 x7 x8 (g0 - (m + 1)) hx' (sh_out g0 m) R0 w0 (m + 1) _ h wc Fc (by rw [nz_subi (by rw [h7, e1]; omega) (by rw [h7, e1]; omega), h7, e1]; omega) (by omega) hw c g inv (fun h' w' F' o' a1 a2 a3 a4 => shout_l Q u l hu hl hne x3 x5 q hq h3 h5 x7 g0 h7 hg R0 w0 m _ h' w' F' (by rw [nz_inc hx' (by omega)]; omega) (by omega) a1 a2 a3 a4 (fun h2 w2 F2 o2 b1 b2 b3 b4 => hQ h2 w2 F2 (o'.tr o2) b1 b2 b3 b4))
theorem m_shifts (u l : Nat) (hu : 200 ≤ u ∧ u ≤ 203) (hl : 200 ≤ l ∧ l ≤ 203) (hne : u ≠ l) (x3 x5 : Int64) (q : Int × Int) (hq : gz q) (h3 : x3.toInt = q.1) (h5 : x5.toInt = q.2) (F : Nat → Int × Int) (gF : gdr F) (w0 : Bool) (hw : h.1 171 6 = (if w0 then 1 else 0)) (c : rw0 h u l F)
    (hK : ∀ h' w' F', oT (mI 171) (u4 u l) h h' → h'.1 171 6 = (if w' then 1 else 0) → rw0 h' u l F' → gdr F' → ((w' = false ∧ w0 = false ∧ pz_mv F q = some F') ∨ (w' = true ∧ (w0 = true ∨ pz_mv F q = none))) → K h') : jV X (d + 4) y_Model_shifts [.ref 171, .ref u, .ref l, .long x3, .long x5] 227 h K := by
  refine r_Model_shifts X (d + 3) 227 _ 171 u l x3 x5 h (m_endOf X (d + 2) h _ u l (sh13 hu).1 (sh13 hu).2 F c gF 0 (fun z hz => ?_))
  rw [if_pos rfl] at hz
  have hb := pz_hi_le F 13
  by_cases hneg : pz_hi F 13 < 0
  · have e0 : pz_mv F q = some F := by
      unfold pz_mv
      rw [show (pz_hi F 13).toNat = 0 by omega]
      rfl
    refine r_Model_shifts_10 X (d + 3) 227 _ 171 u l x3 x5 z 0 h ⟨fun _ => hK h w0 F oT.rf hw c gF ?_, fun y => absurd (nz_le.mpr (by rw [hz]; show _ ≤ (0 : Int); omega)) y⟩
    cases w0
    · exact Or.inl ⟨rfl, rfl, e0⟩
    · exact Or.inr ⟨rfl, Or.inl rfl⟩
  · refine shout_l X d _ u l hu hl hne x3 x5 q hq h3 h5 z (pz_hi F 13).toNat (by omega) (by omega) (pz_mv F q) w0 (pz_hi F 13).toNat 0 h w0 F (by show (0 : Int) = _; omega) (Nat.le_refl _) hw c gF ?_ hK
    cases w0
    · exact Or.inl ⟨rfl, rfl, rfl⟩
    · exact Or.inr ⟨rfl, Or.inl rfl⟩
theorem w_shift (x a b : Int32) (ms : MS h Z) (bd : bdZ Z) (ok : okZ Z) (hK : dI h (q_shift x a b Z) KI) : jI X 8 y_Model_shift [.ref 171, .int x, .int a, .int b] 227 h KI := by
  unfold q_shift at hK
  have hm := bd.2.1.1
  have hz := ms.k.zr
  refine r_Model_shift X 7 227 _ 171 x a b h ⟨is171, m_isRatio X 5 h _ Z x ms bd (fun hr => ⟨fun z => absurd z (by decide), fun _ => c_mTold X 5 227 _ h a b ⟨fun y => ⟨is171, fun e => ⟨is171, ?_⟩, fun e => ?_⟩, fun y => ?_⟩⟩) (fun hr => ⟨fun _ => ?_, fun z => absurd rfl z⟩)⟩
  · rw [nz_bt, Classical.not_not] at y
    have hn : Z.k.nr < 6 := by
      have : Z.k.nr ≠ 6 := fun z => e (Int32.toInt_inj.mp (by rw [hz, z]; rfl))
      omega
    rw [if_pos ⟨hr, y⟩, if_neg (by omega)] at hK
    have hx : x.toInt = (x.toInt.toNat : Int) := by omega
    have hk : x.toInt.toNat < Z.k.nr := by omega
    have hR : Z.R x = Z.k.R x.toInt.toNat := congrArg Z.k.R (nz_nat hx)
    rw [hR] at hK
    have gA : gdr (Z.k.R x.toInt.toNat).1 := fun i hi => ((ok.1.1 _ hk).1 i hi).1
    have gB : gdr (Z.k.R x.toInt.toNat).2 := fun i hi => ((ok.1.1 _ hk).1 i hi).2
    have tq := fz_told y.1 y.2
    refine m_loads X 6 h _ Z x _ hx ms bd (by omega) (fun h1 o1 c1 c2 => ⟨is171, Or.inl rfl, is171, ?_⟩)
    have o2 : oT (mI 171) abL h (jv_uI h1 171 6 0) := (ni_mi o1).uI ⟨rfl, rfl⟩
    refine m_isF X 5 (jv_uI h1 171 6 0) _ a b _ _ rfl rfl y.1 y.2 uI_eq (fun h3 o3 f3 w3 u3 _ => ?_)
    have o3' : oT (fun q j => q = 171 ∧ (j = 2 ∨ j = 3 ∨ j = 6)) abL h h3 := (o2.mono (fun q j z => by unfold mI at z; omega) (fun _ _ z => z)).tr (o3.mono (fun q j z => by unfold fcI at z; omega) (fun q j z => by unfold mL at z; unfold abL; omega))
    have r3 := ms.r.mv o3'
    have c13 : rw0 h3 200 201 (Z.k.R x.toInt.toNat).1 := (c1.mv (oT.rf.uI (SI := fun q j => q = 171) (SL := nL) rfl) (fun i => ⟨fun z => z, fun z => z⟩)).mv o3 (fun i => ⟨fun z => by unfold mL at z; omega, fun z => by unfold mL at z; omega⟩)
    have c23 : rw0 h3 202 203 (Z.k.R x.toInt.toNat).2 := (c2.mv (oT.rf.uI (SI := fun q j => q = 171) (SL := nL) rfl) (fun i => ⟨fun z => z, fun z => z⟩)).mv o3 (fun i => ⟨fun z => by unfold mL at z; omega, fun z => by unfold mL at z; omega⟩)
    have fr3 : ∀ {h'}, oT (mI 171) abL h3 h' → fK Z.k h h' := fun o => (o3'.mono (fun q j z => by unfold frI; omega) (fun q j z => by unfold abL at z; unfold frL; omega)).tr (ab_fr o)
    refine ⟨is171, is171, is171, _, r3 39, is171, _, r3 40, is171, ?_⟩
    refine m_shifts X 3 h3 _ 200 201 (by decide) (by decide) (by decide) _ _ _ tq.1.z (congrArg Prod.fst u3) (congrArg Prod.snd u3) _ gA false w3 c13 (fun h4 w4 F4 o4 a4 b4 g4 e4 => ?_)
    have o4' := u4_ab (by decide) (by decide) o4
    have r4 := r3.mv o4
    refine ⟨is171, _, r4 41, is171, _, r4 42, is171, ?_⟩
    refine m_shifts X 3 h4 _ 202 203 (by decide) (by decide) (by decide) _ _ _ tq.1.z (congrArg Prod.fst u3) (congrArg Prod.snd u3) _ gB w4 a4 (c23.mv o4 (fun i => ⟨fun z => by unfold u4 at z; omega, fun z => by unfold u4 at z; omega⟩)) (fun h5 w5 F5 o5 a5 b5 g5 e5 => ⟨is171, fun w6 => ⟨is171, ?_⟩, fun w6 => ?_⟩)
    · have hw5 : w5 = false := by
        cases w5
        · rfl
        · rw [show jv_gI h5 171 6 = 1 from a5] at w6
          exact absurd w6 (by decide)
      subst hw5
      rcases e5 with ⟨_, z4, z5⟩ | ⟨z, _⟩
      · subst z4
        rcases e4 with ⟨_, _, z6⟩ | ⟨z, _⟩
        · rw [z6, z5] at hK
          dsimp only at hK
          have o5' := u4_ab (by decide) (by decide) o5
          have c45 := b4.mv o5 (fun i => ⟨fun z => by unfold u4 at z; omega, fun z => by unfold u4 at z; omega⟩)
          have msf := ms.mv bd (fr3 (o4'.tr o5'))
          refine m_keeps X 6 h5 _ Z.k F4 F5 msf.k bd.2.1 hn msf.r c45 b5 (fun z hz' h' o' kn => ?_)
          exact hK z hz' h' ((fK.M (fr3 (o4'.tr o5'))).tr (o'.M (fun q j z => by omega) (fun q j z => by unfold rL0 at z; omega))) (msf.upd bd o' (fun q j z => by omega) (fun q j z => by unfold rL0 at z; omega) kn)
        · cases z
      · cases z
    · have o5' := u4_ab (by decide) (by decide) o5
      have hN : pz_mv (Z.k.R x.toInt.toNat).1 (fz_of a.toInt b.toInt) = none ∨ pz_mv (Z.k.R x.toInt.toNat).2 (fz_of a.toInt b.toInt) = none := by
        rcases e5 with ⟨z, _⟩ | ⟨_, z⟩
        · subst z
          exact absurd a5 w6
        · rcases z with z | z
          · subst z
            rcases e4 with ⟨z, _⟩ | ⟨_, z⟩
            · cases z
            · rcases z with z | z
              · cases z
              · exact Or.inl z
          · exact Or.inr z
      have hK2 : dI h (-6, Z) KI := by
        rcases hN with n1 | n1
        · rw [n1] at hK
          exact hK
        · rw [n1] at hK
          cases hf : pz_mv (Z.k.R x.toInt.toNat).1 (fz_of a.toInt b.toInt) with
          | none => rw [hf] at hK; exact hK
          | some f => rw [hf] at hK; exact hK
      exact hK2 _ rfl h5 (fK.M (fr3 (o4'.tr o5'))) (ms.mv bd (fr3 (o4'.tr o5')))
  · rw [nz_bt, Classical.not_not] at y
    have hn : Z.k.nr = 6 := by
      have : (jv_gI h 171 9).toInt = 6 := by rw [e]; rfl
      omega
    rw [if_pos ⟨hr, y⟩, if_pos hn] at hK
    exact hK _ rfl h oM.rf ms
  · rw [nz_bt] at y
    rw [if_neg (fun z => y z.2)] at hK
    exact hK _ rfl h oM.rf ms
  · rw [if_neg (fun z => hr z.1)] at hK
    exact hK _ rfl h oM.rf ms
end
