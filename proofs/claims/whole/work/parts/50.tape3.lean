/-! ===== texts: fractions, parts, ladders ===== -/
def rf (T : Nat → Int32) (n p : Nat) : Sum Nat ((Int × Int) × Nat) :=
  match rn T n p with
  | none => .inl p
  | some r => if lk T n r.2 = 47 then (match rn T n (r.2 + 1) with
    | none => .inl (r.2 + 1)
    | some s => .inr (fz_of r.1 s.1, s.2)) else .inr (fz_of r.1 1, r.2)
def sof (x : Int32) : Int32 := if x.toInt = 67 ∨ x.toInt = 99 then 1 else if x.toInt = 76 ∨ x.toInt = 108 then 0 else if x.toInt = 82 ∨ x.toInt = 114 then 2 else -1
def rpt (T : Nat → Int32) (n p : Nat) : Sum Nat ((Int32 × Int32 × (Int × Int)) × Nat) :=
  if sof (lk T n p) = -1 then .inl p else (match rf T n (p + 1) with
    | .inl e => .inl e
    | .inr r => .inr ((sof (lk T n p), (if 97 ≤ (lk T n p).toInt then 0 else 1), r.1), r.2))
def rps (T : Nat → Int32) (n : Nat) : Nat → zL → Nat → Sum Nat (zL × Nat)
  | 0, L, p => .inr (L, p)
  | f + 1, L, p =>
    match rpt T n p with
    | .inl e => .inl e
    | .inr r => if f = 0 then .inr (L.add r.1.1 r.1.2.1 r.1.2.2, r.2) else if lk T n r.2 = 44 then rps T n f (L.add r.1.1 r.1.2.1 r.1.2.2) (r.2 + 1) else .inr (L.add r.1.1 r.1.2.1 r.1.2.2, r.2)
def rend (T : Nat → Int32) (n : Nat) (L : zL) (p : Nat) : Sum Nat (zL × Nat) :=
  if lk T n p = 115 then .inr (L.fin 0 (0, 1), p + 1) else if lk T n p = 111 then .inr (L.fin 1 (0, 1), p + 1) else if lk T n p = 114 then (match rf T n (p + 1) with
    | .inl e => .inl e
    | .inr r => .inr (L.fin 2 r.1, r.2)) else .inl p
def rlad (T : Nat → Int32) (n : Nat) : Sum Nat zL :=
  match rps T n 12 z0L 0 with
  | .inl e => .inl e
  | .inr r => if lk T n r.2 = 59 then (match rend T n r.1 (r.2 + 1) with
    | .inl e => .inl e
    | .inr s => if s.2 = n then .inr s.1 else .inl s.2) else .inl r.2
theorem rf_gp {T : Nat → Int32} {n p : Nat} {r : (Int × Int) × Nat} (h : rf T n p = .inr r) : gp r.1 := by
  unfold rf at h
  cases h1 : rn T n p with
  | none => rw [h1] at h; cases h
  | some q =>
    rw [h1] at h
    dsimp only at h
    have b1 := rn_b h1
    split at h
    · cases h2 : rn T n (q.2 + 1) with
      | none => rw [h2] at h; cases h
      | some s =>
        rw [h2] at h
        dsimp only at h
        have b2 := rn_b h2
        injection h with h
        rw [← h]
        have := fz_told ⟨b1.1, b1.2.1⟩ ⟨b2.1, b2.2.1⟩
        exact ⟨this.1, this.2.1⟩
    · injection h with h
      rw [← h]
      have := fz_told ⟨b1.1, b1.2.1⟩ (show (1 : Int) ≤ 1 ∧ (1 : Int) ≤ 9999 by decide)
      exact ⟨this.1, this.2.1⟩
section
variable (X : jv_X) (d n : Nat) (K : jv_H → Prop) (KI : Int32 → jv_H → Prop) (h : jv_H) (T : Nat → Int32) (m p : Nat)
theorem c_readFraction (t : TO n h) (c : TP h T m p) (hK1 : ∀ r, rf T m p = .inr r → ∀ h', oS (fun q => q = 1) h h' → TP h' T m r.2 → h'.2.1 1 4 = fz_p r.1 → KI 1 h') (hK0 : ∀ e, rf T m p = .inl e → ∀ h', oS (fun q => q = 1) h h' → TP h' T m e → KI 0 h') : jI X (d + 3) y_Tape_readFraction [.ref 1] n h KI := by
  unfold rf at hK1 hK0
  have e1 : (1 : Int64).toInt = 1 := rfl
  refine r_Tape_readFraction X (d + 2) n _ 1 h ⟨t.1, c_readNumber X d n _ h T m p t c (fun r hr h1 o1 c1 v1 => ⟨fun _ => ⟨t.1, t.1, t.1, ?_⟩, fun z => absurd z (by decide)⟩) (fun hr => ⟨fun z => absurd rfl z, fun _ => ⟨Or.inl rfl, hK0 p (by rw [hr]) h oS.rf c⟩⟩)⟩
  rw [hr] at hK1 hK0
  dsimp only at hK1 hK0
  have b1 := rn_b hr
  have o2 : oS (fun q => q = 1) h1 (jv_uL h1 1 3 1) := oS_uL rfl
  have t2 := (t.mv o1).mv o2
  have c2 : TP (jv_uL h1 1 3 1) T m r.2 := c1.uL
  have v1' : (jv_gL h1 1 3).toInt = r.1 := v1
  refine c_pass X d n _ _ T m r.2 47 (by decide) t2 c2 (fun e c3 => ⟨fun z => absurd z (by decide), fun _ => ⟨t.1, ?_⟩⟩) (fun e => ⟨fun _ => ⟨t.1, ?_⟩, fun z => absurd rfl z⟩)
  · rw [if_pos e] at hK1 hK0
    have o3 : oS (fun q => q = 1) (jv_uL h1 1 3 1) (jv_uI (jv_uL h1 1 3 1) 1 2 (jv_gI (jv_uL h1 1 3 1) 1 2 + 1)) := oS_uI rfl
    refine c_readNumber X d n _ _ T m (r.2 + 1) (t2.mv o3) c3 (fun s hs h4 o4 c4 v4 => ⟨fun _ => ⟨t.1, ?_⟩, fun z => absurd z (by decide)⟩) (fun hs => ⟨fun z => absurd rfl z, fun _ => ⟨Or.inl rfl, hK0 (r.2 + 1) (by rw [hs]) _ ((o1.tr o2).tr o3) c3⟩⟩)
    rw [hs] at hK1
    have b4 := rn_b hs
    have v4' : (jv_gL h4 1 3).toInt = s.1 := v4
    refine c_of X d n _ h4 _ _ (by omega) (by omega) ⟨t.1, Or.inr rfl, ?_⟩
    rw [v1', v4']
    exact hK1 _ rfl _ ((((o1.tr o2).tr o3).tr o4).tr (oS_uL rfl)) c4.uL uL_eq
  · rw [if_neg e] at hK1
    have g1 : jv_gL (jv_uL h1 1 3 1) 1 3 = 1 := uL_eq
    rw [g1]
    refine c_of X d n _ _ _ _ (by omega) (by rw [e1]; omega) ⟨t.1, Or.inr rfl, ?_⟩
    rw [v1', e1]
    exact hK1 _ rfl _ ((o1.tr o2).tr (oS_uL rfl)) c2.uL uL_eq
theorem c_sortOf (x : Int32) (hK : KI (sof x) h) : jI X (d + 1) y_Tape_sortOf [.int x] n h KI := by
  unfold sof at hK
  refine r_Tape_sortOf X d n _ x h ⟨fun a => ?_, fun a => ⟨fun b => ?_, fun b => ⟨fun c => ?_, fun c => ⟨fun e => ?_, fun e => ⟨fun f => ?_, fun f => ⟨fun g => ?_, fun g => ?_⟩⟩⟩⟩⟩⟩
  · rw [if_pos (by omega)] at hK; exact hK
  · rw [if_neg (by omega), if_pos (by omega)] at hK; exact hK
  · rw [if_neg (by omega), if_neg (by omega), if_pos (by omega)] at hK; exact hK
  · rw [if_pos (by omega)] at hK; exact hK
  · rw [if_neg (by omega), if_pos (by omega)] at hK; exact hK
  · rw [if_neg (by omega), if_neg (by omega), if_pos (by omega)] at hK; exact hK
  · rw [if_neg (by omega), if_neg (by omega), if_neg (by omega)] at hK; exact hK
theorem sof_01 (x : Int32) : sof x = 0 ∨ sof x = 1 ∨ sof x = 2 ∨ sof x = -1 := by
  unfold sof
  split
  · exact Or.inr (Or.inl rfl)
  · split
    · exact Or.inl rfl
    · split
      · exact Or.inr (Or.inr (Or.inl rfl))
      · exact Or.inr (Or.inr (Or.inr rfl))
theorem sof_lt {T : Nat → Int32} {n p : Nat} (h : ¬ sof (lk T n p) = -1) : p < n := by
  apply Classical.byContradiction
  intro z
  apply h
  unfold lk
  rw [if_neg z]
  decide
def lo1 (o : Nat) : Nat → Prop := fun q => q = 1 ∨ lw o q
theorem c_readPart (o : Nat) (L : zL) (ho : 2 < o) (t : TO n h) (c : TP h T m p) (l : LO n h o) (cp : CP h o L) (hs : L.sz < 12)
    (hK1 : ∀ r, rpt T m p = .inr r → ∀ h', oS (lo1 o) h h' → TP h' T m r.2 → CP h' o (L.add r.1.1 r.1.2.1 r.1.2.2) → KI 1 h') (hK0 : ∀ e, rpt T m p = .inl e → ∀ h', oS (lo1 o) h h' → TP h' T m e → KI 0 h') : jI X (d + 4) y_Tape_readPart [.ref 1, .ref o] n h KI := by
  unfold rpt at hK1 hK0
  have m1 : ∀ {h1 h2 : jv_H}, oS (fun q => q = 1) h1 h2 → oS (lo1 o) h1 h2 := fun a => a.mono (fun q z => Or.inl z)
  have ml : ∀ {h1 h2 : jv_H}, oS (lw o) h1 h2 → oS (lo1 o) h1 h2 := fun a => a.mono (fun q z => Or.inr z)
  refine r_Tape_readPart X (d + 3) n _ 1 o h ⟨t.1, c_look X (d + 2) n _ h T m p t c (c_sortOf X (d + 2) n _ h _ ⟨fun a => ⟨t.1, c_look X (d + 2) n _ h T m p t c ?_⟩, fun a => ⟨Or.inl rfl, ?_⟩⟩)⟩
  · have a : ¬ sof (lk T m p) = -1 := fun z => by
      have := nz_le.mp a
      rw [z] at this
      exact absurd this (by decide)
    rw [if_neg a] at hK1 hK0
    have hlt := sof_lt a
    have o1 : oS (fun q => q = 1) h (jv_uI h 1 2 (jv_gI h 1 2 + 1)) := oS_uI rfl
    have t1 := t.mv o1
    have c1 := c.up hlt
    have go : ∀ u : Int32, u = (if 97 ≤ (lk T m p).toInt then 0 else 1) → jI X (d + 3) y_Tape_readFraction [.ref 1] n (jv_uI h 1 2 (jv_gI h 1 2 + 1)) (fun z8 h7 => (¬ z8 = 0 → (jv_is SHT n 1 16 ∧ (jv_is SHT n o 13 ∧ jV X (d + 3) y_Ladder_addPart [.ref o, .int (sof (lk T m p)), .int u, .long (jv_gL h7 1 4)] n h7 (fun h9 => ((1 : Int32) = 0 ∨ (1 : Int32) = 1) ∧ KI 1 h9)))) ∧ (z8 = 0 → (((0 : Int32) = 0 ∨ (0 : Int32) = 1) ∧ KI 0 h7))) := by
      intro u hu
      rw [← hu] at hK1
      refine c_readFraction X d n _ _ T m (p + 1) t1 c1 (fun r hr h2 o2 c2 f2 => ⟨fun _ => ⟨t.1, l.1, ?_⟩, fun z => absurd z (by decide)⟩) (fun e he h2 o2 c2 => ⟨fun z => absurd rfl z, fun _ => ⟨Or.inl rfl, hK0 e (by rw [he]) h2 (m1 (o1.tr o2)) c2⟩⟩)
      rw [hr] at hK1
      rw [show jv_gL h2 1 4 = fz_p r.1 from f2]
      have o12 := o1.tr o2
      refine c_addPart0 X (d + 2) n _ h2 o L _ _ _ ((l.mv o1).mv o2) (cp.mv o12 (fun q y1 y2 z => by omega)) hs (by rw [hu]; split; exact Or.inl rfl; exact Or.inr rfl) (rf_gp hr).1.r (fun h3 o3 c3 => ⟨Or.inr rfl, ?_⟩)
      exact hK1 _ rfl h3 ((m1 o12).tr (ml o3)) (c2.mv o3 (fun z => by have := z.1; omega) (fun z => by have := z.1; omega)) c3
    refine ⟨fun b => ⟨t.1, t.1, t.1, ?_⟩, fun b => ⟨t.1, t.1, t.1, ?_⟩⟩
    · have b : 97 ≤ (lk T m p).toInt := nz_le.mp b
      exact go 0 (if_pos b).symm
    · have b : ¬ 97 ≤ (lk T m p).toInt := fun z => b (nz_le.mpr z)
      exact go 1 (if_neg b).symm
  · have a : sof (lk T m p) = -1 := by
      rcases sof_01 (lk T m p) with z | z | z | z
      · rw [z] at a; exact absurd (by decide) a
      · rw [z] at a; exact absurd (by decide) a
      · rw [z] at a; exact absurd (by decide) a
      · exact z
    rw [if_pos a] at hK0
    exact hK0 _ rfl h oS.rf c
theorem rps_l (Q : jv_Q) (o : Nat) (ho : 2 < o) : ∀ (f k : Nat) (x : Int32) (h : jv_H) (p : Nat) (L : zL), x.toInt = (k : Int) + 1 → k + f = 11 → L.sz = k → TO n h → TP h T m p → LO n h o → CP h o L →
    (∀ r, rps T m (f + 1) L p = .inr r → ∀ h', oS (lo1 o) h h' → TP h' T m r.2 → CP h' o r.1 → Q (some (.int 1)) h') → (∀ e, rps T m (f + 1) L p = .inl e → ∀ h', oS (lo1 o) h h' → TP h' T m e → Q (some (.int 0)) h') → a_Tape_readParts_2 X (d + 4) n Q 1 o x h 0 := by
  intro f
  induction f with
  | zero =>
    intro k x h p L hx hk hz t c l cp hQ1 hQ0
    unfold rps at hQ1 hQ0
    refine r_Tape_readParts_2 X (d + 4) n Q 1 o x h ⟨fun z => ?_, fun _ => ⟨t.1, ?_⟩⟩
    · have : (12 : Int) < x.toInt := nz_lt.mp z
      omega
    · refine c_readPart X d n _ h T m p o L ho t c l cp (by omega) (fun r hr h1 o1 c1 p1 => ⟨fun _ => ⟨fun _ => ⟨Or.inr rfl, hQ1 _ (by rw [hr]; exact if_pos rfl) h1 o1 c1 p1⟩, fun z => absurd (Int32.toInt_inj.mp (by rw [hx]; show (k : Int) + 1 = 12; omega)) z⟩, fun z => absurd z (by decide)⟩) (fun e he h1 o1 c1 => ⟨fun z => absurd rfl z, fun _ => ⟨Or.inl rfl, hQ0 e (by rw [he]) h1 o1 c1⟩⟩)
  | succ f ih =>
    intro k x h p L hx hk hz t c l cp hQ1 hQ0
    unfold rps at hQ1 hQ0
    refine r_Tape_readParts_2 X (d + 4) n Q 1 o x h ⟨fun z => ?_, fun _ => ⟨t.1, ?_⟩⟩
    · have : (12 : Int) < x.toInt := nz_lt.mp z
      omega
    · refine c_readPart X d n _ h T m p o L ho t c l cp (by omega) (fun r hr h1 o1 c1 p1 => ⟨fun _ => ⟨fun z => ?_, fun z => ⟨t.1, ?_⟩⟩, fun z => absurd z (by decide)⟩) (fun e he h1 o1 c1 => ⟨fun z => absurd rfl z, fun _ => ⟨Or.inl rfl, hQ0 e (by rw [he]) h1 o1 c1⟩⟩)
      · rw [z] at hx
        have : (12 : Int32).toInt = 12 := rfl
        omega
      · rw [hr] at hQ1 hQ0
        dsimp only at hQ1 hQ0
        rw [if_neg (Nat.succ_ne_zero f)] at hQ1 hQ0
        have t1 := t.mv o1
        refine c_pass X (d + 2) n _ h1 T m r.2 44 (by decide) t1 c1 (fun e c2 => ⟨fun _ => ?_, fun z => absurd z (by decide)⟩) (fun e => ⟨fun z => absurd rfl z, fun _ => ⟨Or.inr rfl, hQ1 _ (by rw [if_neg e]) h1 o1 c1 p1⟩⟩)
        rw [if_pos e] at hQ1 hQ0
        have o2 : oS (fun q => q = 1) h1 (jv_uI h1 1 2 (jv_gI h1 1 2 + 1)) := oS_uI rfl
        have o2' := o2.mono (T := lo1 o) (fun q z => Or.inl z)
        exact ih (k + 1) _ _ (r.2 + 1) _ (by rw [nz_inc (k := k + 1) (by rw [hx]; push_cast; rfl) (by omega)]; push_cast; omega) (by omega) (by show L.sz + 1 = _; omega) (t1.mv o2) c2 ((l.mv o1).mv o2) (p1.mv o2 (fun q y1 y2 z => by omega)) (fun r' hr' h' o' c' p' => hQ1 r' hr' h' ((o1.tr o2').tr o') c' p') (fun e' he' h' o' c' => hQ0 e' he' h' ((o1.tr o2').tr o') c')
theorem c_readEnd (o : Nat) (L : zL) (ho : 2 < o) (t : TO n h) (c : TP h T m p) (l : LO n h o) (cp : CP h o L)
    (hK1 : ∀ r, rend T m L p = .inr r → ∀ h', oS (lo1 o) h h' → TP h' T m r.2 → CL h' o r.1 → KI 1 h') (hK0 : ∀ e, rend T m L p = .inl e → ∀ h', oS (lo1 o) h h' → TP h' T m e → KI 0 h') : jI X (d + 4) y_Tape_readEnd [.ref 1, .ref o] n h KI := by
  unfold rend at hK1 hK0
  have m1 : ∀ {h1 h2 : jv_H}, oS (fun q => q = 1) h1 h2 → oS (lo1 o) h1 h2 := fun a => a.mono (fun q z => Or.inl z)
  have ml : ∀ {h1 h2 : jv_H}, oS (lw o) h1 h2 → oS (lo1 o) h1 h2 := fun a => a.mono (fun q z => Or.inr z)
  have n1 : ¬ lw o 1 := fun z => by have := z.1; omega
  have n2 : ¬ lw o 2 := fun z => by have := z.1; omega
  have o1 : oS (fun q => q = 1) h (jv_uI h 1 2 (jv_gI h 1 2 + 1)) := oS_uI rfl
  have t1 := t.mv o1
  have cp1 := cp.mv o1 (fun q y1 y2 z => by omega)
  refine r_Tape_readEnd X (d + 3) n _ 1 o h ⟨t.1, c_pass X (d + 1) n _ h T m p 115 (by decide) t c (fun e c1 => ⟨fun z => absurd z (by decide), fun _ => ⟨l.1, ?_⟩⟩) (fun e => ⟨fun _ => ⟨t.1, ?_⟩, fun z => absurd rfl z⟩)⟩
  · rw [if_pos e] at hK1
    rw [← fz_p_0]
    exact c_endWith0 X (d + 2) n _ _ o L 0 (0, 1) (l.mv o1) cp1 fz_r_0 (fun h2 o2 c2 => ⟨Or.inr rfl, hK1 _ rfl h2 ((m1 o1).tr (ml o2)) (c1.mv o2 n1 n2) c2⟩)
  · rw [if_neg e] at hK1 hK0
    refine c_pass X (d + 1) n _ h T m p 111 (by decide) t c (fun e2 c1 => ⟨fun z => absurd z (by decide), fun _ => ⟨l.1, ?_⟩⟩) (fun e2 => ⟨fun _ => ⟨t.1, ?_⟩, fun z => absurd rfl z⟩)
    · rw [if_pos e2] at hK1
      rw [← fz_p_0]
      exact c_endWith0 X (d + 2) n _ _ o L 1 (0, 1) (l.mv o1) cp1 fz_r_0 (fun h2 o2 c2 => ⟨Or.inr rfl, hK1 _ rfl h2 ((m1 o1).tr (ml o2)) (c1.mv o2 n1 n2) c2⟩)
    · rw [if_neg e2] at hK1 hK0
      refine c_pass X (d + 1) n _ h T m p 114 (by decide) t c (fun e3 c1 => ⟨fun z => absurd z (by decide), fun _ => ⟨t.1, ?_⟩⟩) (fun e3 => ⟨fun _ => ⟨Or.inl rfl, hK0 _ (by rw [if_neg e3]) h oS.rf c⟩, fun z => absurd rfl z⟩)
      rw [if_pos e3] at hK1 hK0
      refine c_readFraction X d n _ _ T m (p + 1) t1 c1 (fun r hr h2 o2 c2 f2 => ⟨fun _ => ⟨t.1, l.1, ?_⟩, fun z => absurd z (by decide)⟩) (fun e he h2 o2 c2 => ⟨fun z => absurd rfl z, fun _ => ⟨Or.inl rfl, hK0 e (by rw [he]) h2 (m1 (o1.tr o2)) c2⟩⟩)
      rw [hr] at hK1
      rw [show jv_gL h2 1 4 = fz_p r.1 from f2]
      exact c_endWith0 X (d + 2) n _ _ o L 2 r.1 ((l.mv o1).mv o2) (cp1.mv o2 (fun q y1 y2 z => by omega)) (rf_gp hr).1.r (fun h3 o3 c3 => ⟨Or.inr rfl, hK1 _ rfl h3 ((m1 (o1.tr o2)).tr (ml o3)) (c2.mv o3 n1 n2) c3⟩)
theorem c_readLadder (o : Nat) (ho : 2 < o) (t : TO n h) (hs : (h.1 1 1).toInt = m) (hm : m ≤ 100) (hT : ∀ i, i < m → h.1 2 i = T i) (l : LO n h o)
    (hK1 : ∀ M, rlad T m = .inr M → ∀ h', oS (lo1 o) h h' → (∃ p, TP h' T m p) → CL h' o M → KI 1 h') (hK0 : ∀ e, rlad T m = .inl e → ∀ h', oS (lo1 o) h h' → TP h' T m e → KI 0 h') : jI X (d + 6) y_Tape_readLadder [.ref 1, .ref o] n h KI := by
  unfold rlad at hK1 hK0
  have o0 : oS (lo1 o) h (jv_uI (jv_uI h 1 2 0) o 3 0) := (oS_uI (S := lo1 o) (Or.inl rfl)).tr (oS_uI (Or.inr ⟨Nat.le_refl _, by omega⟩))
  have t0 := t.mv o0
  have l0 := l.mv o0
  have c0 : TP (jv_uI (jv_uI h 1 2 0) o 3 0) T m 0 := ⟨by rw [uI_ne (by omega), uI_ne (by decide)]; exact hs, by rw [uI_ne (by omega), uI_eq]; rfl, hm, Nat.zero_le _, fun i hi => by rw [uI_ne (by omega), uI_ne (by omega)]; exact hT i hi⟩
  have p0 : CP (jv_uI (jv_uI h 1 2 0) o 3 0) o z0L := CP_new _ o
  refine r_Tape_readLadder X (d + 5) n _ 1 o h ⟨t.1, l.1, t.1, ?_⟩
  refine r_Tape_readParts X (d + 4) n _ 1 o _ ?_
  refine rps_l X d n T m _ o ho 11 0 1 _ 0 z0L rfl rfl rfl t0 c0 l0 p0 (fun r hr h1 o1 c1 p1 => ⟨fun z => absurd z (by decide), fun _ => ⟨t.1, ?_⟩⟩) (fun e he h1 o1 c1 => ⟨fun _ => ⟨Or.inl rfl, hK0 e (by rw [he]) h1 (o0.tr o1) c1⟩, fun z => absurd rfl z⟩)
  rw [hr] at hK1 hK0
  dsimp only at hK1 hK0
  have t1 := t0.mv o1
  have l1 := l0.mv o1
  refine c_pass X (d + 3) n _ h1 T m r.2 59 (by decide) t1 c1 (fun e c2 => ⟨fun z => absurd z (by decide), fun _ => ⟨t.1, ?_⟩⟩) (fun e => ⟨fun _ => ⟨Or.inl rfl, hK0 _ (by rw [if_neg e]) h1 (o0.tr o1) c1⟩, fun z => absurd rfl z⟩)
  rw [if_pos e] at hK1 hK0
  have o2 : oS (fun q => q = 1) h1 (jv_uI h1 1 2 (jv_gI h1 1 2 + 1)) := oS_uI rfl
  have o2' := o2.mono (T := lo1 o) (fun q z => Or.inl z)
  refine c_readEnd X (d + 1) n _ _ T m (r.2 + 1) o r.1 ho (t1.mv o2) c2 (l1.mv o2) (p1.mv o2 (fun q y1 y2 z => by omega)) (fun s hs' h3 o3 c3 k3 => ⟨fun z => absurd z (by decide), fun _ => ⟨t.1, t.1, fun y => ⟨Or.inl rfl, ?_⟩, fun y => ⟨Or.inr rfl, ?_⟩⟩⟩) (fun e he h3 o3 c3 => ⟨fun _ => ⟨Or.inl rfl, hK0 e (by rw [he]) h3 (((o0.tr o1).tr o2').tr o3) c3⟩, fun z => absurd rfl z⟩)
  · rw [hs'] at hK0
    dsimp only at hK0
    have : ¬ s.2 = m := fun z => y (Int32.toInt_inj.mp (by rw [show (jv_gI h3 1 2).toInt = s.2 from c3.2.1, show (jv_gI h3 1 1).toInt = m from c3.1, z]))
    rw [if_neg this] at hK0
    exact hK0 _ rfl h3 (((o0.tr o1).tr o2').tr o3) c3
  · rw [hs'] at hK1
    dsimp only at hK1
    have : s.2 = m := by
      have e4 : (jv_gI h3 1 2).toInt = s.2 := c3.2.1
      rw [y, show (jv_gI h3 1 1).toInt = m from c3.1] at e4
      omega
    rw [if_pos this] at hK1
    exact hK1 _ rfl h3 (((o0.tr o1).tr o2').tr o3) ⟨_, c3⟩ k3
end
