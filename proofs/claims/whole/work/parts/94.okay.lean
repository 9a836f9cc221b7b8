/-! ===== what is good stays good: ladders, bins ===== -/
theorem told_gp {a b : Int32} (t : tol a b) : gp (fz_of a.toInt b.toInt) := ⟨(fz_told t.1 t.2).1, (fz_told t.1 t.2).2.1⟩
theorem sc_gp {s : Int32} {v w r : Int × Int} (hv : gp v) (hw : gp w) (hr : gp r) (h : sc_v s v w r ≠ (-1, 0)) : gp (sc_v s v w r) := by
  unfold sc_v at *
  by_cases e : s = 2
  · rw [if_pos e] at *
    exact fz_mul_p hv hr h
  · rw [if_neg e] at *
    by_cases e0 : s = 0
    · rw [if_pos e0] at *
      have n1 : fz_mul v r ≠ (-1, 0) := fun z => h (by rw [z, fz_quo_W1])
      exact fz_quo_p (fz_mul_p hv hr n1) hw h
    · rw [if_neg e0] at *
      have n1 : fz_quo v r ≠ (-1, 0) := fun z => h (by rw [z, fz_quo_W1])
      exact fz_quo_p (fz_quo_p hv hr n1) hw h
/-- a ladder that is being made -/
def okA (A : zL) : Prop := A.okS ∧ ∀ j, j < A.sz → gp (A.va j) ∧ (A.sh j = 0 ∨ A.sh j = 1)
theorem okA.add {A : zL} {s u : Int32} {v : Int × Int} (o : okA A) (hs : s3 s) (hu : u = 0 ∨ u = 1) (hv : gp v) : okA (A.add s u v) := by
  refine ⟨fun j hj => ?_, fun j hj => ?_⟩
  · have hj : j < A.sz + 1 := hj
    show s3 (if j = A.sz then s else A.so j)
    by_cases e : j = A.sz
    · rw [if_pos e]; exact hs
    · rw [if_neg e]; exact o.1 j (by omega)
  · have hj : j < A.sz + 1 := hj
    show gp (if j = A.sz then v else A.va j) ∧ ((if j = A.sz then u else A.sh j) = 0 ∨ (if j = A.sz then u else A.sh j) = 1)
    by_cases e : j = A.sz
    · rw [if_pos e, if_pos e]; exact ⟨hv, hu⟩
    · rw [if_neg e, if_neg e]; exact o.2 j (by omega)
theorem lf_ok {L : zL} {st : Nat → zL → Option zL} (hs : ∀ k A B, k < L.sz → okA A → st k A = some B → okA B ∧ A.sz + 1 ≤ B.sz ∧ B.en = A.en ∧ B.lo = A.lo) : ∀ k B, k ≤ L.sz → lf st k (L.cut 0) = some B → okA B ∧ k ≤ B.sz ∧ B.en = L.en ∧ B.lo = L.lo
  | 0, B, _, e => by
    have e : some (L.cut 0) = some B := e
    have e := Option.some.inj e
    subst e
    exact ⟨⟨fun j hj => absurd hj (Nat.not_lt_zero _), fun j hj => absurd hj (Nat.not_lt_zero _)⟩, Nat.zero_le _, rfl, rfl⟩
  | k + 1, B, hk, e => by
    have e : (lf st k (L.cut 0)).bind (st k) = some B := e
    cases h : lf st k (L.cut 0) with
    | none => rw [h] at e; cases e
    | some A =>
      rw [h] at e
      have e : st k A = some B := e
      obtain ⟨a1, a2, a3, a4⟩ := lf_ok hs k A (by omega) h
      obtain ⟨b1, b2, b3, b4⟩ := hs k A B (by omega) a1 e
      exact ⟨b1, by omega, b3.trans a3, b4.trans a4⟩
theorem bd_ok {L : zL} {m b : Int × Int} (o : okL L) (hm : gp m) (hb : gp b) : ∀ k A B, k < L.sz → okA A → bd_st L m b k A = some B → okA B ∧ A.sz + 1 ≤ B.sz ∧ B.en = A.en ∧ B.lo = A.lo := fun k A B hk oa e => by
  obtain ⟨o1, o2, o3, _⟩ := o
  unfold bd_st at e
  by_cases c : L.so k = 2
  · rw [if_pos c] at e
    have e := Option.some.inj e
    subst e
    exact ⟨oa.add (o2 k hk) (o3 k hk).2 (o3 k hk).1, Nat.le_refl _, rfl, rfl⟩
  · rw [if_neg c] at e
    by_cases w : fz_quo (L.va k) b = (-1, 0) ∨ fz_quo (fz_quo b (L.va k)) m = (-1, 0)
    · rw [if_pos w] at e; cases e
    · rw [if_neg w] at e
      have e := Option.some.inj e
      subst e
      have w1 : fz_quo (L.va k) b ≠ (-1, 0) := fun z => w (Or.inl z)
      have w2 : fz_quo (fz_quo b (L.va k)) m ≠ (-1, 0) := fun z => w (Or.inr z)
      have w3 : fz_quo b (L.va k) ≠ (-1, 0) := fun z => w2 (by rw [z, fz_quo_W1])
      refine ⟨(oa.add (o2 k hk) (o3 k hk).2 (fz_quo_p (o3 k hk).1 hb w1)).add ?_ (o3 k hk).2 (fz_quo_p (fz_quo_p hb (o3 k hk).1 w3) hm w2), ?_, rfl, rfl⟩
      · split
        · exact ⟨1, by omega, rfl⟩
        · exact ⟨0, by omega, rfl⟩
      · show A.sz + 1 ≤ A.sz + 1 + 1
        omega
theorem dl_ok {L : zL} {q : Int × Int} (o : okL L) (hq : gp q) : ∀ k A B, k < L.sz → okA A → dl_st L q k A = some B → okA B ∧ A.sz + 1 ≤ B.sz ∧ B.en = A.en ∧ B.lo = A.lo := fun k A B hk oa e => by
  obtain ⟨o1, o2, o3, _⟩ := o
  unfold dl_st at e
  by_cases c : L.so k = 2
  · rw [if_pos c] at e
    have e := Option.some.inj e
    subst e
    exact ⟨oa.add (o2 k hk) (o3 k hk).2 (o3 k hk).1, Nat.le_refl _, rfl, rfl⟩
  · rw [if_neg c] at e
    by_cases w : fz_mul (L.va k) q = (-1, 0)
    · rw [if_pos w] at e; cases e
    · rw [if_neg w] at e
      have e := Option.some.inj e
      subst e
      have p := fz_mul_p (o3 k hk).1 hq w
      refine ⟨(oa.add (o2 k hk) (o3 k hk).2 (o3 k hk).1).add ⟨2, by omega, rfl⟩ (o3 k hk).2 ?_, ?_, rfl, rfl⟩
      · split
        · exact p
        · have ip := fz_inv_p p
          rw [ip.1]
          exact ip.2
      · show A.sz + 1 ≤ A.sz + 1 + 1
        omega
theorem okA.L {A L : zL} (a : okA A) (o : okL L) (h1 : 1 ≤ A.sz) (h2 : A.en = L.en) (h3 : A.lo = L.lo) : okL A := by
  obtain ⟨_, _, _, o4, o5, o6⟩ := o
  exact ⟨h1, a.1, a.2, by rw [h2]; exact o4, by rw [h3]; exact o5, fun z => by rw [h3]; exact o6 (by rw [← h2]; exact z)⟩
section
variable (Z : zZ)
theorem ok_scale (o : okZ Z) (x a b u v : Int32) : okZ (q_scale x a b u v Z).2 := by
  unfold q_scale
  split
  · rename_i h
    split
    · exact o
    · obtain ⟨l, hx, hl, hL, hc⟩ := isL.n h.1
      rw [hL]
      obtain ⟨p1, p2, p3, p4, p5, p6⟩ := o.1.2.1 l hl
      by_cases f : ((Z.k.L l).scl (fz_of a.toInt b.toInt) (fz_of u.toInt v.toInt)).fits
      · rw [cif_t f]
        have g1 := told_gp h.2.1
        have g2 := told_gp h.2.2
        have n2 : (if (Z.k.L l).en = 2 then fz_mul (Z.k.L l).lo (fz_of u.toInt v.toInt) else (Z.k.L l).lo) ≠ (-1, 0) := f.2
        refine o.sk (o.1.addL ⟨p1, p2, fun j hj => ⟨sc_gp (p3 j hj).1 g1 g2 (f.1 j hj), (p3 j hj).2⟩, p4, ?_, fun e => ?_⟩)
        · show gd (if (Z.k.L l).en = 2 then fz_mul (Z.k.L l).lo (fz_of u.toInt v.toInt) else (Z.k.L l).lo)
          by_cases e : (Z.k.L l).en = 2
          · rw [if_pos e] at n2 ⊢
            exact (fz_mul_p (p6 e) g2 n2).1
          · rw [if_neg e]
            exact p5
        · have e : (Z.k.L l).en = 2 := e
          show gp (if (Z.k.L l).en = 2 then fz_mul (Z.k.L l).lo (fz_of u.toInt v.toInt) else (Z.k.L l).lo)
          rw [if_pos e] at n2 ⊢
          exact fz_mul_p (p6 e) g2 n2
      · rw [cif_f f]
        exact o
  · exact o
theorem ok_band (o : okZ Z) (x a b u v : Int32) : okZ (q_band x a b u v Z).2 := by
  unfold q_band
  split
  · rename_i h
    split
    · exact o
    · obtain ⟨l, hx, hl, hL, hc⟩ := isL.n h.1
      rw [hL]
      have ol := o.1.2.1 l hl
      by_cases f : (Z.k.L l).cw
      · rw [cif_t f]
        split
        · exact o
        · cases e : lf (bd_st (Z.k.L l) (fz_of a.toInt b.toInt) (fz_of u.toInt v.toInt)) (Z.k.L l).sz ((Z.k.L l).cut 0) with
          | none => exact o
          | some B =>
            obtain ⟨b1, b2, b3, b4⟩ := lf_ok (bd_ok ol (told_gp h.2.1) (told_gp h.2.2)) _ B (Nat.le_refl _) e
            exact o.sk (o.1.addL (b1.L ol (by have := ol.1; omega) b3 b4))
      · rw [cif_f f]
        exact o
  · exact o
theorem ok_dull (o : okZ Z) (x a b : Int32) : okZ (q_dull x a b Z).2 := by
  unfold q_dull
  split
  · rename_i h
    split
    · exact o
    · obtain ⟨l, hx, hl, hL, hc⟩ := isL.n h.1
      rw [hL]
      have ol := o.1.2.1 l hl
      by_cases f : (Z.k.L l).cw
      · rw [cif_t f]
        split
        · exact o
        · cases e : lf (dl_st (Z.k.L l) (fz_of a.toInt b.toInt)) (Z.k.L l).sz ((Z.k.L l).cut 0) with
          | none => exact o
          | some B =>
            obtain ⟨b1, b2, b3, b4⟩ := lf_ok (dl_ok ol (told_gp h.2)) _ B (Nat.le_refl _) e
            exact o.sk (o.1.addL (b1.L ol (by have := ol.1; omega) b3 b4))
      · rw [cif_f f]
        exact o
  · exact o
theorem ok_fit (o : okZ Z) (x : Int32) : okZ (q_fit x Z).2 := by
  unfold q_fit
  split
  · rename_i h
    split
    · exact o
    · obtain ⟨l, hx, hl, hL, hc⟩ := isL.n h
      rw [hL]
      obtain ⟨p1, p2, p3, p4, p5, p6⟩ := o.1.2.1 l hl
      by_cases f : (Z.k.L l).fitb Z.k.B
      · rw [cif_t f]
        refine o.sk (o.1.addL ⟨p1, p2, fun j hj => ⟨?_, (p3 j hj).2⟩, p4, p5, p6⟩)
        obtain ⟨t, ht, hst⟩ := p2 j hj
        have eb : bos Z.k.B ((Z.k.L l).so j) = Z.k.B t := congrArg Z.k.B (nz_nat hst)
        have fj := f j hj
        show gp (fit_v Z.k.B ((Z.k.L l).so j) ((Z.k.L l).va j))
        unfold fit_v
        rw [eb] at fj ⊢
        exact (o.1.2.2.1 t ht _ (nr_b _ _ _ _ fj (by omega))).2.1
      · rw [cif_f f]
        exact o
  · exact o
theorem ok_stock (o : okZ Z) (s a b c p : Int32) : okZ (q_stock s a b c p Z).2 := by
  unfold q_stock
  split
  · rename_i h
    obtain ⟨t, hs, ht, hc⟩ := wi2 h.1
    have hB : Z.B s = Z.k.B t := congrArg Z.k.B hc
    rw [hB]
    have tt := fz_told h.2.1.1 h.2.1.2
    have g := told_gp h.2.1
    have hth : th (fz_of a.toInt b.toInt) := ⟨⟨by have := tt.2.1; omega, tt.2.2.1⟩, by have := tt.1.1.2.1; omega, tt.2.2.2⟩
    have h3 : 0 ≤ c.toInt ∧ c.toInt ≤ 99 := h.2.2.1
    have ob := o.1.2.2.1 t ht
    cases e : (Z.k.B t).st (fz_of a.toInt b.toInt) c p with
    | none => exact o
    | some B =>
      refine o.sk (o.1.setB ?_)
      unfold zB.st at e
      split at e
      · have e := Option.some.inj e
        subst e
        intro j hj
        have hj : j < (Z.k.B t).n := hj
        show th (if (j : Int) = (Z.k.B t).fi (fz_of a.toInt b.toInt) (Z.k.B t).n 0 then (fz_of a.toInt b.toInt, c, p) else (Z.k.B t).e j).1 ∧ gp (if (j : Int) = (Z.k.B t).fi (fz_of a.toInt b.toInt) (Z.k.B t).n 0 then (fz_of a.toInt b.toInt, c, p) else (Z.k.B t).e j).1 ∧ 0 ≤ (if (j : Int) = (Z.k.B t).fi (fz_of a.toInt b.toInt) (Z.k.B t).n 0 then (fz_of a.toInt b.toInt, c, p) else (Z.k.B t).e j).2.1.toInt ∧ (if (j : Int) = (Z.k.B t).fi (fz_of a.toInt b.toInt) (Z.k.B t).n 0 then (fz_of a.toInt b.toInt, c, p) else (Z.k.B t).e j).2.1.toInt ≤ 99
        split
        · exact ⟨hth, g, h3⟩
        · exact ob j hj
      · split at e
        · cases e
        · have e := Option.some.inj e
          subst e
          intro j hj
          have hj : j < (Z.k.B t).n + 1 := hj
          have hm := (Z.k.B t).mk_le (fz_of a.toInt b.toInt) (Z.k.B t).n
          show th (ins (Z.k.B t).e ((Z.k.B t).mk (fz_of a.toInt b.toInt) (Z.k.B t).n) (fz_of a.toInt b.toInt, c, p) j).1 ∧ gp (ins (Z.k.B t).e ((Z.k.B t).mk (fz_of a.toInt b.toInt) (Z.k.B t).n) (fz_of a.toInt b.toInt, c, p) j).1 ∧ 0 ≤ (ins (Z.k.B t).e ((Z.k.B t).mk (fz_of a.toInt b.toInt) (Z.k.B t).n) (fz_of a.toInt b.toInt, c, p) j).2.1.toInt ∧ (ins (Z.k.B t).e ((Z.k.B t).mk (fz_of a.toInt b.toInt) (Z.k.B t).n) (fz_of a.toInt b.toInt, c, p) j).2.1.toInt ≤ 99
          unfold ins
          split
          · exact ob j (by omega)
          · split
            · exact ⟨hth, g, h3⟩
            · exact ob (j - 1) (by omega)
  · exact o
theorem ok_build (o : okZ Z) (x u : Int32) : okZ (q_build x u Z).2 := by
  unfold q_build
  split
  · rename_i h
    split
    · exact o
    · obtain ⟨l, hx, hl, hL, hc⟩ := isL.n h.1
      rw [hL]
      obtain ⟨p1, p2, p3, p4, p5, p6⟩ := o.1.2.1 l hl
      have e := Z.k.spn_1 (Z.k.L l) u (Z.k.L l).sz
      refine o.sk ⟨fun r hr => ?_, fun i hi => ?_, fun s hs j hj => ?_, spn_gp (fun j hj => (p3 j hj).1) o.1.2.2.2 _ (Nat.le_refl _)⟩
      · have hr : r < (Z.k.spn (Z.k.L l) u (Z.k.L l).sz).1.1 := hr
        show okP ((Z.k.spn (Z.k.L l) u (Z.k.L l).sz).1.2 r)
        rw [e.1] at hr ⊢
        exact o.1.1 r hr
      · have hi : i < (Z.k.spn (Z.k.L l) u (Z.k.L l).sz).2.1.1 := hi
        show okL ((Z.k.spn (Z.k.L l) u (Z.k.L l).sz).2.1.2 i)
        rw [e.2] at hi ⊢
        exact o.1.2.1 i hi
      · have b := spn_Be Z.k (Z.k.L l) u s (Z.k.L l).sz
        have c := spn_okC (u := u) p2 o.1.C _ (Nat.le_refl _) s hs j hj
        rw [b.1] at hj
        have ob := o.1.2.2.1 s hs j hj
        rw [b.2 j]
        exact ⟨ob.1, ob.2.1, c⟩
  · exact o
end
