/-! ===== what is good stays good: ratios ===== -/
theorem hi_nn {f : Nat → Int × Int} {i : Nat} (hi : i < 13) (h : f i ≠ (0, 1)) : 0 ≤ pz_hi f 13 := by
  apply Classical.byContradiction
  intro z
  exact h ((pz_hi_neg f 13).mp (by omega) i hi)
theorem div_nz {v w : Int × Int} (hv : gd v) (h0 : v ≠ (0, 1)) (hw : gp w) : ∀ t, pz_div v w t ≠ (-1, 0) → gd (pz_div v w t) ∧ pz_div v w t ≠ (0, 1)
  | 0, _ => ⟨hv, h0⟩
  | t + 1, h => by
    have e : pz_div v w (t + 1) = fz_quo (pz_div v w t) w := rfl
    rw [e] at h ⊢
    have n1 : pz_div v w t ≠ (-1, 0) := fun z => h (by rw [z, fz_quo_W1])
    have ih := div_nz hv h0 hw t n1
    have q := quo_nz ih.1 ih.2 hw.1 h
    exact ⟨q.1, fun z => q.2 (by rw [z])⟩
theorem div_gd {v w : Int × Int} (hv : gd v) (hw : gp w) : ∀ t, pz_div v w t ≠ (-1, 0) → gd (pz_div v w t)
  | 0, _ => hv
  | t + 1, h => by
    have e : pz_div v w (t + 1) = fz_quo (pz_div v w t) w := rfl
    rw [e] at h ⊢
    rw [fz_quo_of hw.1.z] at h ⊢
    exact fz_of_gd h
theorem run_ok (q : Int × Int) (g : Nat) : ∀ (l : List Nat) (f f' : Nat → Int × Int), (∀ i, i ∈ l → i < g) → pz_run q l f = some f' → (gdr f → gdr f') ∧ f' g = f g
  | [], f, f', _, e => by
    have e : some f = some f' := e
    have e := Option.some.inj e
    subst e
    exact ⟨id, rfl⟩
  | i :: r, f, f', hl, e => by
    have e : (if fz_sum (f i) (fz_mul q (f (i + 1))) = (-1, 0) then none else pz_run q r (pz_up f i (fz_sum (f i) (fz_mul q (f (i + 1)))))) = some f' := e
    by_cases c : fz_sum (f i) (fz_mul q (f (i + 1))) = (-1, 0)
    · rw [if_pos c] at e; cases e
    · rw [if_neg c] at e
      have ih := run_ok q g r _ f' (fun j hj => hl j (List.mem_cons_of_mem _ hj)) e
      refine ⟨fun gf => ih.1 (gf.up (fz_of_gd c)), ih.2.trans ?_⟩
      unfold pz_up
      rw [if_neg (by have := hl i List.mem_cons_self; omega)]
theorem sh_in_lt (j : Nat) : ∀ m i, i ∈ sh_in j m → i < j + m
  | 0, i, h => absurd h (by simp [sh_in])
  | m + 1, i, h => by
    rcases List.mem_cons.mp h with z | z
    · omega
    · have := sh_in_lt j m i z
      omega
theorem sh_out_lt (g : Nat) : ∀ m, m ≤ g → ∀ i, i ∈ sh_out g m → i < g
  | 0, _, i, h => absurd h (by simp [sh_out])
  | m + 1, hm, i, h => by
    rcases List.mem_append.mp h with z | z
    · have := sh_in_lt _ _ i z
      omega
    · exact sh_out_lt g m (by omega) i z
theorem mv_ok {f f' : Nat → Int × Int} {q : Int × Int} (gf : gdr f) (h : 0 ≤ pz_hi f 13) (e : pz_mv f q = some f') : gdr f' ∧ 0 ≤ pz_hi f' 13 := by
  obtain ⟨k, h1, h2, h3⟩ := pz_hi_at f 13 h
  unfold pz_mv at e
  rw [h1] at e
  have r := run_ok q k _ f f' (fun i hi => sh_out_lt k k (Nat.le_refl _) i hi) e
  exact ⟨r.1 gf, hi_nn h2 (by rw [r.2]; exact h3)⟩
theorem tkn_ok {s u : Int32} {v : Int × Int} {N F : Nat → Int × Int} {P : (Nat → Int × Int) × (Nat → Int × Int)} (gF : gdr F) (e : tkn s u v N F = some P) : gdr P.1 ∧ gdr P.2 := by
  unfold tkn at e
  split at e
  · by_cases c : noW (pz_add N F v (if s = 2 then 0 else 1))
    · rw [cif_t c] at e
      have e := Option.some.inj e
      subst e
      exact ⟨add_gd c, gF⟩
    · rw [cif_f c] at e; cases e
  · by_cases c : noW (pz_grow N v (if s = 2 then 0 else 1))
    · rw [cif_t c] at e
      by_cases c2 : noW (pz_add (pz_grow N v (if s = 2 then 0 else 1)) F (1, 1) 0)
      · rw [cif_t c2] at e
        by_cases c3 : noW (pz_grow F v (if s = 2 then 0 else 1))
        · rw [cif_t c3] at e
          have e := Option.some.inj e
          subst e
          exact ⟨add_gd c2, grow_gd c3⟩
        · rw [cif_f c3] at e; cases e
      · rw [cif_f c2] at e; cases e
    · rw [cif_f c] at e; cases e
theorem tk_ok {s u : Int32} {v : Int × Int} {P P' : (Nat → Int × Int) × (Nat → Int × Int)} (g1 : gdr P.1) (g2 : gdr P.2) (e : tk s u v P = some P') : gdr P'.1 ∧ gdr P'.2 := by
  unfold tk at e
  split at e
  · exact tkn_ok g2 e
  · cases h : tkn s u v P.2 P.1 with
    | none => rw [h] at e; cases e
    | some R =>
      rw [h] at e
      have e := Option.some.inj e
      subst e
      have r := tkn_ok g1 h
      exact ⟨r.2, r.1⟩
theorem mo_ok (L : zL) : ∀ (k : Nat) (P P' : (Nat → Int × Int) × (Nat → Int × Int)), gdr P.1 → gdr P.2 → L.mo k P = some P' → gdr P'.1 ∧ gdr P'.2
  | 0, P, P', g1, g2, e => by
    have e : some P = some P' := e
    have e := Option.some.inj e
    subst e
    exact ⟨g1, g2⟩
  | k + 1, P, P', g1, g2, e => by
    have e : (tk (L.so k) (L.sh k) (L.va k) P).bind (L.mo k) = some P' := e
    cases h : tk (L.so k) (L.sh k) (L.va k) P with
    | none => rw [h] at e; cases e
    | some R =>
      rw [h] at e
      have r := tk_ok g1 g2 h
      exact mo_ok L k R P' r.1 r.2 e
theorem m0_ok {L : zL} (o : okL L) : gdr L.m0.1 ∧ gdr L.m0.2 := by
  refine ⟨fun i hi => ?_, fun i hi => ?_⟩
  · show gd (if i = 0 ∧ L.en ≠ 0 then (if L.en = 2 then L.lo else (1, 1)) else (0, 1))
    split
    · split
      · exact o.2.2.2.2.1
      · exact gd_1
    · exact gd_0
  · show gd (if i = 0 ∧ L.en ≠ 1 then (1, 1) else (0, 1))
    split
    · exact gd_1
    · exact gd_0
section
variable (Z : zZ)
theorem isR.n {Z : zZ} {x : Int32} (h : isR Z x) : ∃ l : Nat, x.toInt = l ∧ l < Z.k.nr ∧ Z.R x = Z.k.R l := by
  have hx : x.toInt = (x.toInt.toNat : Int) := by have := h.1; omega
  exact ⟨x.toInt.toNat, hx, by have := h.2; omega, congrArg Z.k.R (nz_nat hx)⟩
theorem ok_mult (o : okZ Z) (x : Int32) : okZ (q_mult x Z).2 := by
  unfold q_mult
  split
  · rename_i h
    split
    · exact o
    · obtain ⟨l, hx, hl, hL, hc⟩ := isL.n h
      rw [hL]
      have ol := o.1.2.1 l hl
      have m := m0_ok ol
      cases e : (Z.k.L l).mo (Z.k.L l).sz (Z.k.L l).m0 with
      | none => exact o
      | some P =>
        have r := mo_ok _ _ _ P m.1 m.2 e
        dsimp only
        split
        · exact o
        · rename_i h2
          exact o.sk (o.1.addR ⟨fun i hi => ⟨r.1 i hi, r.2 i hi⟩, by omega, by omega⟩)
  · exact o
theorem ok_shift (o : okZ Z) (x a b : Int32) : okZ (q_shift x a b Z).2 := by
  unfold q_shift
  split
  · rename_i h
    split
    · exact o
    · obtain ⟨l, hx, hl, hR⟩ := isR.n h.1
      rw [hR]
      have p := o.1.1 l hl
      cases e1 : pz_mv (Z.k.R l).1 (fz_of a.toInt b.toInt) with
      | none => exact o
      | some f =>
        cases e2 : pz_mv (Z.k.R l).2 (fz_of a.toInt b.toInt) with
        | none => exact o
        | some g =>
          have r1 := mv_ok (fun i hi => (p.1 i hi).1) p.2.1 e1
          have r2 := mv_ok (fun i hi => (p.1 i hi).2) p.2.2 e2
          exact o.sk (o.1.addR ⟨fun i hi => ⟨r1.1 i hi, r2.1 i hi⟩, r1.2, r2.2⟩)
  · exact o
theorem ok_stretch (o : okZ Z) (x a b c e : Int32) : okZ (q_stretch x a b c e Z).2 := by
  unfold q_stretch
  split
  · rename_i h
    split
    · exact o
    · obtain ⟨l, hx, hl, hR⟩ := isR.n h.1
      rw [hR]
      have p := o.1.1 l hl
      have g1 := told_gp h.2.1
      have g2 := told_gp h.2.2
      by_cases f : noW (pz_pow (Z.k.R l).1 (fz_of a.toInt b.toInt)) ∧ noW (pz_pow (Z.k.R l).2 (fz_of a.toInt b.toInt)) ∧ noW (pz_grow (pz_pow (Z.k.R l).1 (fz_of a.toInt b.toInt)) (fz_of c.toInt e.toInt) 0)
      · rw [cif_t f]
        obtain ⟨f1, f2, f3⟩ := f
        obtain ⟨k1, a1, a2, a3⟩ := pz_hi_at _ 13 p.2.1
        obtain ⟨k2, b1, b2, b3⟩ := pz_hi_at _ 13 p.2.2
        have d1 := div_nz (p.1 k1 a2).1 a3 g1 k1 (f1 k1 a2)
        have d2 := div_nz (p.1 k2 b2).2 b3 g1 k2 (f2 k2 b2)
        refine o.sk (o.1.addR ⟨fun i hi => ⟨grow_gd f3 i hi, div_gd (p.1 i hi).2 g1 i (f2 i hi)⟩, hi_nn a2 ?_, hi_nn b2 d2.2⟩)
        have n3 := f3 k1 a2
        show pz_grow (pz_pow (Z.k.R l).1 (fz_of a.toInt b.toInt)) (fz_of c.toInt e.toInt) 0 k1 ≠ (0, 1)
        rw [grow0 _ _ a2] at n3 ⊢
        have z1 : (pz_pow (Z.k.R l).1 (fz_of a.toInt b.toInt) k1).1 ≠ 0 := mt (gd_z d1.1).mp d1.2
        have mz := mul_nz (show (fz_of c.toInt e.toInt).1 ≠ 0 by have := g2.2; omega) z1 n3
        exact fun z => mz.2 (by rw [z])
      · rw [cif_f f]
        exact o
  · exact o
theorem ok_ratio (o : okZ Z) (hr : ∀ q, rrat Z.T Z.tn = .inr q → ¬ (pz_hi (fun i => (q.1 i, 1)) 13 < 0 ∨ pz_hi (fun i => (q.2 i, 1)) 13 < 0) → Z.k.nr ≠ 6 → ∀ i, i < 13 → (-1000000000 ≤ q.1 i ∧ q.1 i ≤ 1000000000) ∧ -1000000000 ≤ q.2 i ∧ q.2 i ≤ 1000000000) : okZ (q_ratio Z).2 := by
  unfold q_ratio
  split
  · exact o
  · rename_i hn
    cases e : rrat Z.T Z.tn with
    | inl p => exact o
    | inr q =>
      dsimp only
      split
      · exact o
      · rename_i h
        have b := hr q e h hn
        exact o.sk (okK.addR (K := Z.k) o.1 ⟨fun i hi => ⟨⟨⟨(b i hi).1, by show (1 : Int) ≤ 1; omega, by show (1 : Int) ≤ 1000000000; omega⟩, fz_of_1 (b i hi).1⟩, ⟨⟨(b i hi).2, by show (1 : Int) ≤ 1; omega, by show (1 : Int) ≤ 1000000000; omega⟩, fz_of_1 (b i hi).2⟩⟩, Int.not_lt.mp (fun z => h (Or.inl z)), Int.not_lt.mp (fun z => h (Or.inr z))⟩)
end
