/-! ===== each side leaves the other alone ===== -/
theorem SHP.mvM {h h' : jv_H} {w : Nat} (s : SHP h w) (a : ∀ q, q < 171 → h'.2.2 q = h.2.2 q) : SHP h' w := by
  have hb := s.bd
  have e0 := a w (by omega)
  refine ⟨s.1, s.2.1, by rw [e0]; exact s.r0, by rw [e0]; exact s.r1, by rw [e0]; exact s.r2, by rw [e0]; exact s.r3, s.2.2.2.2.2.2.1, fun k hk => by rw [a _ (by omega)]; exact s.kr hk, fun k hk => by rw [a _ (by omega)]; exact s.kl hk, fun k hk => by rw [a _ (by omega)]; exact s.kb hk, fun k hk => (s.ro hk).mvr (a _ (by omega)) (a _ (by omega)) (a _ (by omega)), fun k hk => (s.lo hk).mvr (a _ (by omega)), fun k hk => (s.bo hk).mvr (a _ (by omega)), s.wo.mvr (a _ (by omega))⟩
theorem CS.M {h h' : jv_H} {Z : zZ} (c : CS h Z) (o : oM h h') : CS h' Z := by
  have r : ∀ q, q < 171 → h'.2.2 q = h.2.2 q := fun q hq => (o q hq).2.2
  have og : oR (fun q => 171 ≤ q) h (h'.1, h'.2.1, h.2.2) := ⟨fun q _ => rfl, fun q hq => ⟨(o q (by omega)).1, (o q (by omega)).2.1⟩⟩
  obtain ⟨⟨s1, s2, ⟨pa, pb, s3⟩, s4, s5, s6⟩, ⟨t1, t2, t3⟩, c2, c3, c4, c5⟩ := c
  refine ⟨⟨by rw [r 0 (by decide)]; exact s1, ⟨s2.1, by rw [r 1 (by decide)]; exact s2.2.1, s2.2.2⟩, ⟨pa, pb, ?_⟩, s4.mvM r, s5.mvM r, fun k hk => ⟨by rw [r 158 (by decide)]; exact (s6 k hk).1, (s6 k hk).2.1, by rw [r _ (by omega)]; exact (s6 k hk).2.2.1, (s6 k hk).2.2.2⟩⟩, ⟨by rw [(o 1 (by decide)).1]; exact t1, t2, fun i hi => by rw [(o 2 (by decide)).1]; exact t3 i hi⟩, ?_, by rw [(o 0 (by decide)).1]; exact c3, fun K' hK' => ?_, fun k hk => ?_⟩
  · obtain ⟨d1, d2, d3, d4, d5, d6⟩ := s3
    have hp : pa < 171 ∧ pb < 171 := by omega
    exact ⟨d1, by rw [r 3 (by decide)]; exact d2, by rw [r 3 (by decide)]; exact d3, ⟨d4.1, by rw [r pa hp.1]; exact d4.2.1, d4.2.2⟩, ⟨d5.1, by rw [r pb hp.2]; exact d5.2.1, d5.2.2⟩, d6⟩
  · exact CK.mv (h' := (h'.1, h'.2.1, h.2.2)) c2 og (fun q u => by have := us_b c2.mr c2.ml u; omega)
  · have c6 := c4 K' hK'
    exact CK.mv (h' := (h'.1, h'.2.1, h.2.2)) c6 og (fun q u => by have := us_b c6.mr c6.ml u; omega)
  · exact CH.mv (h' := (h'.1, h'.2.1, h.2.2)) (c5 k hk) og (by omega) (by omega)
theorem MS.C {h h' : jv_H} {Z : zZ} (m : MS h Z) (b : bdZ Z) (o : oC h h') : MS h' Z := by
  obtain ⟨m1, ⟨m2, m3⟩, m4, m5, m6, m7⟩ := m
  have hA : ∀ c, c < 20 → 207 ≤ iA c := fun c hc => by
    unfold iA
    split
    · omega
    · split
      · omega
      · split
        · omega
        · split
          · omega
          · split
            · omega
            · split
              · omega
              · omega
  refine ⟨fun i => by rw [(o 171 (by decide)).2.2]; exact m1 i, ⟨by rw [(o 171 (by decide)).1]; exact m2, fun i hi => by rw [(o 172 (by decide)).1]; exact m3 i hi⟩, m4.cg b.2.1 (fun c j u => ?_) (fun c hc => by rw [(o 171 (by decide)).1]), by rw [(o 171 (by decide)).1]; exact m5, fun K' hK' => (m6 K' hK').cg (b.2.2.1 K' hK') (fun c j u => ?_) (fun c hc => by rw [(o 171 (by decide)).1]), fun k hk => ?_⟩
  · have q := o (nA c) (by unfold nA; omega)
    rw [q.1, q.2.1]
    exact ⟨rfl, rfl⟩
  · have ub := used_b (b.2.2.1 K' hK') u
    have q := o (iA c) (by have := hA c ub.1; omega)
    rw [q.1, q.2.1]
    exact ⟨rfl, rfl⟩
  · obtain ⟨n1, n2, n3⟩ := m7 k hk
    unfold MH uq
    rw [(o 193 (by decide)).1, (o 194 (by decide)).1, (o 195 (by decide)).1, (o 196 (by decide)).1, (o 197 (by decide)).2.1, (o 198 (by decide)).2.1, (o 199 (by decide)).2.1]
    exact ⟨n1, n2, n3⟩
/-! ===== what is good stays good ===== -/
theorem okZ.sk {Z : zZ} {K : zK} (o : okZ Z) (k : okK K) : okZ (Z.sk K) := ⟨k, o.2.1, o.2.2⟩
theorem okZ.wp {Z : zZ} (o : okZ Z) : okZ Z.wp := o
theorem okK.addR {K : zK} {P : zP} (o : okK K) (p : okP P) : okK (K.addR P) := by
  refine ⟨fun r hr => ?_, o.2.1, o.2.2.1, o.2.2.2⟩
  show okP (if r = K.nr then P else K.R r)
  have hr : r < K.nr + 1 := hr
  by_cases e : r = K.nr
  · rw [if_pos e]; exact p
  · rw [if_neg e]; exact o.1 r (by omega)
theorem okK.addL {K : zK} {L : zL} (o : okK K) (p : okL L) : okK (K.addL L) := by
  refine ⟨o.1, fun r hr => ?_, o.2.2.1, o.2.2.2⟩
  show okL (if r = K.nl then L else K.L r)
  have hr : r < K.nl + 1 := hr
  by_cases e : r = K.nl
  · rw [if_pos e]; exact p
  · rw [if_neg e]; exact o.2.1 r (by omega)
theorem okK.setL {K : zK} {L : zL} {i : Nat} (o : okK K) (p : okL L) : okK (K.setL i L) := by
  refine ⟨o.1, fun r hr => ?_, o.2.2.1, o.2.2.2⟩
  show okL (if r = i then L else K.L r)
  by_cases e : r = i
  · rw [if_pos e]; exact p
  · rw [if_neg e]; exact o.2.1 r hr
theorem okK.setB {K : zK} {B : zB} {i : Nat} (o : okK K) (p : okB B) : okK (K.setB i B) := by
  refine ⟨o.1, o.2.1, fun s hs => ?_, o.2.2.2⟩
  show okB (if s = i then B else K.B s)
  by_cases e : s = i
  · rw [if_pos e]; exact p
  · rw [if_neg e]; exact o.2.2.1 s hs
theorem okZ.sH {Z : zZ} {i : Nat} {H : zH} (o : okZ Z) (p : okH H) : okZ (Z.sH i H) := by
  refine ⟨o.1, o.2.1, fun k hk => ?_⟩
  show okH (if k = i then H else Z.H k)
  by_cases e : k = i
  · rw [if_pos e]; exact p
  · rw [if_neg e]; exact o.2.2 k hk
section
variable (Z : zZ)
theorem ok_feed (o : okZ Z) (v n : Int32) : okZ (q_feed v n Z).2 := by
  unfold q_feed
  split
  · split
    · exact o
    · exact o
  · exact o
theorem ok_wipe (o : okZ Z) : okZ (q_wipe Z).2 := o
theorem ok_invert (o : okZ Z) (x : Int32) : okZ (q_invert x Z).2 := by
  unfold q_invert
  split
  · rename_i h
    split
    · exact o
    · have hk : x.toNatClampNeg < Z.k.nr := by
        have hx : x.toInt = (x.toInt.toNat : Int) := by have := h.1; omega
        rw [nz_nat hx]
        have := h.2
        omega
      have p := o.1.1 _ hk
      exact o.sk (o.1.addR ⟨fun i hi => ⟨(p.1 i hi).2, (p.1 i hi).1⟩, p.2.2, p.2.1⟩)
  · exact o
theorem ok_close (o : okZ Z) (x e a b : Int32) : okZ (q_close x e a b Z).2 := by
  unfold q_close
  split
  · rename_i h
    obtain ⟨l, hx, hl, hL, hc⟩ := isL.n h.1
    obtain ⟨p1, p2, p3, p4, p5, p6⟩ := o.1.2.1 l hl
    have he : e = 0 ∨ e = 1 ∨ e = 2 := by
      have : e.toInt = 0 ∨ e.toInt = 1 ∨ e.toInt = 2 := by have := h.2.1; omega
      exact this.imp (fun z => Int32.toInt_inj.mp z) (fun z => z.imp (fun z => Int32.toInt_inj.mp z) (fun z => Int32.toInt_inj.mp z))
    refine o.sk (o.1.setL ?_)
    rw [hL]
    refine ⟨p1, p2, p3, he, ?_, fun z => ?_⟩
    · show gd (if e = 2 then fz_of a.toInt b.toInt else (0, 1))
      by_cases z : e = 2
      · rw [if_pos z]
        have t := h.2.2.elim (fun y => absurd z y) id
        exact (fz_told t.1 t.2).1
      · rw [if_neg z]
        exact gd_0
    · have z : e = 2 := z
      show gp (if e = 2 then fz_of a.toInt b.toInt else (0, 1))
      rw [if_pos z]
      have t := h.2.2.elim (fun y => absurd z y) id
      exact ⟨(fz_told t.1 t.2).1, (fz_told t.1 t.2).2.1⟩
  · exact o
theorem ok_turn (o : okZ Z) (x : Int32) : okZ (q_turn x Z).2 := by
  unfold q_turn
  split
  · rename_i h
    split
    · exact o
    · obtain ⟨l, hx, hl, hL, hc⟩ := isL.n h
      obtain ⟨p1, p2, p3, p4, p5, p6⟩ := o.1.2.1 l hl
      rw [hL]
      exact o.sk (o.1.addL ⟨p1, fun j hj => p2 _ (show (Z.k.L l).sz - 1 - j < (Z.k.L l).sz by have : j < (Z.k.L l).sz := hj; omega), fun j hj => p3 _ (show (Z.k.L l).sz - 1 - j < (Z.k.L l).sz by have : j < (Z.k.L l).sz := hj; omega), p4, p5, p6⟩)
  · exact o
theorem ok_forget (o : okZ Z) (x : Int32) : okZ (q_forget x Z).2 := by
  unfold q_forget
  split
  · split
    · exact o.sk ⟨fun r hr => absurd hr (Nat.not_lt_zero _), o.1.2⟩
    · exact o.sk ⟨o.1.1, fun r hr => absurd hr (Nat.not_lt_zero _), o.1.2.2⟩
  · exact o
theorem ok_arrive (o : okZ Z) (x : Int32) : okZ (q_arrive x Z).2 := by
  unfold q_arrive
  split
  · refine o.sk ⟨o.1.1, o.1.2.1, o.1.2.2.1, fun j hj => ?_⟩
    have hj : j < Z.k.w.n - Z.k.w.gn x.toInt := hj
    exact o.1.2.2.2 (j + Z.k.w.gn x.toInt) (by omega)
  · exact o
theorem ok_hold (o : okZ Z) (i x k : Int32) : okZ (q_hold i x k Z).2 := by
  unfold q_hold
  split
  · rename_i h
    obtain ⟨l, hx, hl, hL, hc⟩ := isL.n h.2.1
    obtain ⟨p1, p2, p3, p4, p5, p6⟩ := o.1.2.1 l hl
    have h3 := h.2.2
    rw [hL] at h3 ⊢
    have hk : k.toInt = (k.toInt.toNat : Int) := by have := h3.1; omega
    have hk2 : k.toInt.toNat < (Z.k.L l).sz := by have := h3.2; omega
    rw [nz_nat hk]
    exact o.sH (fun _ => ⟨p2 _ hk2, (p3 _ hk2).1, (p3 _ hk2).2⟩)
  · exact o
theorem ok_drop (o : okZ Z) (i : Int32) : okZ (q_drop i Z).2 := by
  unfold q_drop
  split
  · exact o.sH (fun z => absurd (show (0 : Int32) = 1 from z) (by decide))
  · exact o
theorem ok_row (o : okZ Z) (i n : Int32) : okZ (q_row i n Z).2 := by
  unfold q_row
  split
  · split
    · exact o.sH (fun z => absurd (show (2 : Int32) = 1 from z) (by decide))
    · exact o
  · exact o
theorem ok_put (o : okZ Z) (i j : Int32) (v : Int64) : okZ (q_put i j v Z).2 := by
  unfold q_put
  split
  · split
    · rename_i h
      split
      · exact o.sH (fun z => by rw [show ((Z.h i).set j.toNatClampNeg v).ct = (Z.h i).ct from rfl, h] at z; exact absurd z (by decide))
      · exact o
    · split
      · exact o
      · exact o
  · exact o
theorem ok_copy (o : okZ Z) (a i b j n : Int32) : okZ (q_copy a i b j n Z).2 := by
  unfold q_copy
  split
  · split
    · exact o
    · split
      · exact o
      · rename_i h
        split
        · refine o.sH (fun z => ?_)
          have hb : (Z.h b).ct = 2 := Classical.byContradiction (fun q => h (Or.inr q))
          rw [show ((Z.h b).cpy (Z.h a) i.toNatClampNeg j.toNatClampNeg n.toNatClampNeg).ct = (Z.h b).ct from rfl, hb] at z
          exact absurd z (by decide)
        · exact o
  · exact o
theorem ok_image (o : okZ Z) : okZ (q_image Z).2 := ⟨o.1, fun K hK => by
  have hK : Z.k = K := Option.some.inj hK
  rw [← hK]; exact o.1, o.2.2⟩
theorem ok_undo (o : okZ Z) : okZ (q_undo Z).2 := by
  unfold q_undo
  cases h : Z.im with
  | none => exact o
  | some K => exact o.sk (o.2.1 K h)
end
