/-! ===== what is good stays good: texts, division ===== -/
theorem rpt_ok {T : Nat → Int32} {n p : Nat} {r : (Int32 × Int32 × (Int × Int)) × Nat} (h : rpt T n p = .inr r) : s3 r.1.1 ∧ (r.1.2.1 = 0 ∨ r.1.2.1 = 1) ∧ gp r.1.2.2 := by
  unfold rpt at h
  split at h
  · cases h
  · rename_i hs
    cases h1 : rf T n (p + 1) with
    | inl e => rw [h1] at h; cases h
    | inr q =>
      rw [h1] at h
      have h := Sum.inr.inj h
      subst h
      refine ⟨?_, ?_, rf_gp h1⟩
      · show s3 (sof (lk T n p))
        unfold sof at hs ⊢
        split
        · exact ⟨1, by omega, rfl⟩
        · rename_i a
          rw [if_neg a] at hs
          split
          · exact ⟨0, by omega, rfl⟩
          · rename_i b
            rw [if_neg b] at hs
            split
            · exact ⟨2, by omega, rfl⟩
            · rename_i c
              rw [if_neg c] at hs
              exact absurd rfl hs
      · show (if 97 ≤ (lk T n p).toInt then (0 : Int32) else 1) = 0 ∨ (if 97 ≤ (lk T n p).toInt then (0 : Int32) else 1) = 1
        split
        · exact Or.inl rfl
        · exact Or.inr rfl
theorem rps_ok {T : Nat → Int32} {n : Nat} : ∀ (f : Nat) (L : zL) (p : Nat) (r : zL × Nat), okA L → rps T n f L p = .inr r → okA r.1 ∧ L.sz ≤ r.1.sz ∧ (f ≠ 0 → L.sz + 1 ≤ r.1.sz)
  | 0, L, p, r, o, e => by
    have e : Sum.inr (L, p) = (Sum.inr r : Sum Nat (zL × Nat)) := e
    have e := Sum.inr.inj e
    subst e
    exact ⟨o, Nat.le_refl _, fun z => absurd rfl z⟩
  | f + 1, L, p, r, o, e => by
    unfold rps at e
    cases h : rpt T n p with
    | inl z => rw [h] at e; cases e
    | inr q =>
      rw [h] at e
      dsimp only at e
      have k := rpt_ok h
      have oa := o.add k.1 k.2.1 k.2.2
      split at e
      · have e := Sum.inr.inj e
        subst e
        exact ⟨oa, Nat.le_succ _, fun _ => Nat.le_refl _⟩
      · split at e
        · have ih := rps_ok f _ _ r oa e
          have h1 : L.sz + 1 ≤ r.1.sz := ih.2.1
          exact ⟨ih.1, by omega, fun _ => h1⟩
        · have e := Sum.inr.inj e
          subst e
          exact ⟨oa, Nat.le_succ _, fun _ => Nat.le_refl _⟩
theorem okA_0 : okA z0L := ⟨fun j hj => absurd hj (Nat.not_lt_zero _), fun j hj => absurd hj (Nat.not_lt_zero _)⟩
theorem okA.fin {A : zL} {e : Int32} {q : Int × Int} (o : okA A) (h1 : 1 ≤ A.sz) (he : e = 0 ∨ e = 1 ∨ e = 2) (hq : gd q) (h2 : e = 2 → gp q) : okL (A.fin e q) := ⟨h1, o.1, o.2, he, hq, h2⟩
theorem rlad_ok {T : Nat → Int32} {n : Nat} {M : zL} (h : rlad T n = .inr M) : okL M := by
  unfold rlad at h
  cases h1 : rps T n 12 z0L 0 with
  | inl e => rw [h1] at h; cases h
  | inr r =>
    rw [h1] at h
    dsimp only at h
    have k := rps_ok 12 z0L 0 r okA_0 h1
    have ks : 1 ≤ r.1.sz := by have := k.2.2 (by decide); omega
    split at h
    · cases h2 : rend T n r.1 (r.2 + 1) with
      | inl e => rw [h2] at h; cases h
      | inr s =>
        rw [h2] at h
        dsimp only at h
        have os : okL s.1 := by
          unfold rend at h2
          split at h2
          · have h2 := Sum.inr.inj h2
            rw [← h2]
            exact k.1.fin ks (Or.inl rfl) gd_0 (fun z => absurd z (by decide))
          · split at h2
            · have h2 := Sum.inr.inj h2
              rw [← h2]
              exact k.1.fin ks (Or.inr (Or.inl rfl)) gd_0 (fun z => absurd z (by decide))
            · split at h2
              · cases h3 : rf T n (r.2 + 1 + 1) with
                | inl e => rw [h3] at h2; cases h2
                | inr q =>
                  rw [h3] at h2
                  have h2 := Sum.inr.inj h2
                  rw [← h2]
                  have g := rf_gp h3
                  exact k.1.fin ks (Or.inr (Or.inr rfl)) g.1 (fun _ => g)
              · cases h2
        split at h
        · have h := Sum.inr.inj h
          rw [← h]
          exact os
        · cases h
    · cases h
def dvg (x : Int32) (A B : Nat → Int × Int) (u : Int32) (L : zL) : Prop := gdr A ∧ gdr B ∧ 0 ≤ pz_hi A 13 ∧ 0 ≤ pz_hi B 13 ∧ (u = 0 ∨ u = 1) ∧ okA L
theorem dv1_ok {x : Int32} {A B : Nat → Int × Int} {u : Int32} {L : zL} (g : dvg x A B u L) {R : Option (Nat → Int × Int)} {M : zL} (e : dv1 (if x = 0 then 1 else 0) A B u L = .inr (R, M)) : (R = none → okL M) ∧ ∀ A', R = some A' → dvg x A' B u M := by
  obtain ⟨gA, gB, hA, hB, hu, oa⟩ := g
  obtain ⟨ea, ea1, ea2, ea3⟩ := ed_at x A hA
  obtain ⟨eb, eb1, eb2, eb3⟩ := ed_at x B hB
  unfold dv1 at e
  rw [ldr_ed x A ea1 ea2, ldr_ed x B eb1 eb2] at e
  generalize (if x = 0 then (1 : Int32) else 0) = fh at e
  split at e
  · cases e
  · split at e
    · cases e
    · split at e
      · cases e
      · rename_i hw
        obtain ⟨gq, q0⟩ := quo_nz (gA _ ea2) ea3 (gB _ eb2) hw
        split at e
        · cases e
        · rename_i hp
          have pq : gp (fz_quo (A ea) (B eb)) := ⟨gq, by omega⟩
          have iq := fz_inv_p pq
          generalize fz_quo (A ea) (B eb) = q at e gq q0 hp pq iq
          generalize rch fh A - rch fh B = hh at e
          have sv : s3 (dv_s fh hh u) := by
            unfold dv_s
            split
            · exact ⟨2, by omega, rfl⟩
            · split
              · split
                · exact ⟨1, by omega, rfl⟩
                · exact ⟨0, by omega, rfl⟩
              · split
                · exact ⟨0, by omega, rfl⟩
                · exact ⟨1, by omega, rfl⟩
          have vv : gp (dv_v fh hh u q) := by
            unfold dv_v
            rw [iq.1]
            split
            · split
              · exact pq
              · exact iq.2
            · split
              · exact iq.2
              · exact pq
          have oa2 := oa.add sv hu vv
          generalize (if fh = 0 then -hh else hh) = rr at e
          by_cases c : noW (pz_add A B (fz_neg q) rr)
          · rw [cif_t c] at e
            split at e
            · have e := Sum.inr.inj e
              have e1 : none = R := congrArg Prod.fst e
              have e2 := congrArg Prod.snd e
              subst e1
              refine ⟨fun _ => ?_, fun A' z => by cases z⟩
              rw [← show _ = M from e2]
              exact oa2.fin (Nat.le_add_left _ _) (hu.imp id Or.inl) gd_0 (fun z => by rcases hu with y | y <;> rw [y] at z <;> exact absurd z (by decide))
            · rename_i hh2
              have e := Sum.inr.inj e
              have e1 := congrArg Prod.fst e
              have e2 := congrArg Prod.snd e
              refine ⟨fun z => ?_, fun A' z => ?_⟩
              · rw [z] at e1; cases e1
              · rw [z] at e1
                have e1 := Option.some.inj e1
                rw [← e1, ← show _ = M from e2]
                exact ⟨add_gd c, gB, by omega, hB, hu, oa2⟩
          · rw [cif_f c] at e; cases e
theorem dv_ok (x : Int32) : ∀ (m : Nat) (A B : Nat → Int × Int) (u : Int32) (L M : zL), dvg x A B u L → dv (if x = 0 then 1 else 0) m A B u L = .inr M → okL M
  | 0, A, B, u, L, M, g, e => by cases e
  | m + 1, A, B, u, L, M, g, e => by
    have hf : fl u = 0 ∨ fl u = 1 := by
      unfold fl
      split
      · exact Or.inr rfl
      · exact Or.inl rfl
    have go : ∀ (A B : Nat → Int × Int) (u : Int32), dvg x A B u L → dvk (dv1 (if x = 0 then 1 else 0) A B u L) (fun A' M => dv (if x = 0 then 1 else 0) m A' B u M) = .inr M → okL M := fun A B u g e => by
      cases h : dv1 (if x = 0 then 1 else 0) A B u L with
      | inl z => rw [h] at e; cases e
      | inr r =>
        rw [h] at e
        obtain ⟨R, M'⟩ := r
        have k := dv1_ok g h
        cases R with
        | none =>
          have e : (Sum.inr M' : Sum Int zL) = .inr M := e
          have e := Sum.inr.inj e
          rw [← e]
          exact k.1 rfl
        | some A' => exact dv_ok x m A' B u M' M (k.2 A' rfl) e
    unfold dv at e
    by_cases c : rch (if x = 0 then 1 else 0) A < rch (if x = 0 then 1 else 0) B
    · rw [if_pos c] at e
      exact go B A (fl u) ⟨g.2.1, g.1, g.2.2.2.1, g.2.2.1, hf, g.2.2.2.2.2⟩ e
    · rw [if_neg c] at e
      exact go A B u g e
section
variable (Z : zZ)
theorem ok_ladder (o : okZ Z) : okZ (q_ladder Z).2 := by
  unfold q_ladder
  split
  · exact o
  · cases e : rlad Z.T Z.tn with
    | inl p => exact o
    | inr M => exact o.sk (okK.addL (K := Z.k) o.1 (rlad_ok e))
theorem ok_divide (o : okZ Z) (x f : Int32) : okZ (q_divide x f Z).2 := by
  unfold q_divide
  split
  · rename_i h
    split
    · exact o
    · obtain ⟨l, hx, hl, hR⟩ := isR.n h.1
      rw [hR]
      have p := o.1.1 l hl
      cases e : dv (if f = 0 then 1 else 0) 13 (Z.k.R l).1 (Z.k.R l).2 0 z0L with
      | inl z => exact o
      | inr M => exact o.sk (o.1.addL (dv_ok f 13 _ _ _ _ M ⟨fun i hi => (p.1 i hi).1, fun i hi => (p.1 i hi).2, p.2.1, p.2.2, Or.inl rfl, okA_0⟩ e))
  · exact o
end
