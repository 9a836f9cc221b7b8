/-! ===== the law's loop ===== -/
theorem ok_degree (Z : zZ) (o : okZ Z) (a0 : Int32) (a1 : Int32) : okZ (q_degree a0 a1 Z).2 := by
  unfold q_degree
  repeat' (first | exact o | split)
theorem ok_coef (Z : zZ) (o : okZ Z) (a0 : Int32) (a1 : Int32) (a2 : Int32) (a3 : Int32) : okZ (q_coef a0 a1 a2 a3 Z).2 := by
  unfold q_coef
  repeat' (first | exact o | split)
theorem ok_same (Z : zZ) (o : okZ Z) (a0 : Int32) (a1 : Int32) : okZ (q_same a0 a1 Z).2 := by
  unfold q_same
  repeat' (first | exact o | split)
theorem ok_parts (Z : zZ) (o : okZ Z) (a0 : Int32) : okZ (q_parts a0 Z).2 := by
  unfold q_parts
  repeat' (first | exact o | split)
theorem ok_end (Z : zZ) (o : okZ Z) (a0 : Int32) : okZ (q_end a0 Z).2 := by
  unfold q_end
  repeat' (first | exact o | split)
theorem ok_part (Z : zZ) (o : okZ Z) (a0 : Int32) (a1 : Int32) (a2 : Int32) : okZ (q_part a0 a1 a2 Z).2 := by
  unfold q_part
  repeat' (first | exact o | split)
theorem ok_value (Z : zZ) (o : okZ Z) (a0 : Int32) (a1 : Int32) (a2 : Int32) : okZ (q_value a0 a1 a2 Z).2 := by
  unfold q_value
  repeat' (first | exact o | split)
theorem ok_worth (Z : zZ) (o : okZ Z) (a0 : Int32) (a1 : Int32) (a2 : Int32) (a3 : Int32) : okZ (q_worth a0 a1 a2 a3 Z).2 := by
  unfold q_worth
  repeat' (first | exact o | split)
theorem ok_react (Z : zZ) (o : okZ Z) (a0 : Int32) (a1 : Int32) (a2 : Int32) (a3 : Int32) : okZ (q_react a0 a1 a2 a3 Z).2 := by
  unfold q_react
  repeat' (first | exact o | split)
theorem ok_first (Z : zZ) (o : okZ Z) (a0 : Int32) (a1 : Int32) : okZ (q_first a0 a1 Z).2 := by
  unfold q_first
  repeat' (first | exact o | split)
theorem ok_bin (Z : zZ) (o : okZ Z) (a0 : Int32) (a1 : Int32) (a2 : Int32) : okZ (q_bin a0 a1 a2 Z).2 := by
  unfold q_bin
  repeat' (first | exact o | split)
theorem ok_near (Z : zZ) (o : okZ Z) (a0 : Int32) (a1 : Int32) (a2 : Int32) (a3 : Int32) : okZ (q_near a0 a1 a2 a3 Z).2 := by
  unfold q_near
  repeat' (first | exact o | split)
theorem ok_want (Z : zZ) (o : okZ Z) (a0 : Int32) (a1 : Int32) : okZ (q_want a0 a1 Z).2 := by
  unfold q_want
  repeat' (first | exact o | split)
theorem ok_cost (Z : zZ) (o : okZ Z) (a0 : Int32) : okZ (q_cost a0 Z).2 := by
  unfold q_cost
  repeat' (first | exact o | split)
theorem ok_unlike (Z : zZ) (o : okZ Z) (a0 : Int32) (a1 : Int32) (a2 : Int32) : okZ (q_unlike a0 a1 a2 Z).2 := by
  unfold q_unlike
  repeat' (first | exact o | split)
theorem ok_taken (Z : zZ) (o : okZ Z) (a0 : Int32) (a1 : Int32) : okZ (q_taken a0 a1 Z).2 := by
  unfold q_taken
  repeat' (first | exact o | split)
theorem ok_get (Z : zZ) (o : okZ Z) (a0 : Int32) (a1 : Int32) : okZ (q_get a0 a1 Z).2 := by
  unfold q_get
  repeat' (first | exact o | split)
theorem ok_judge (Z : zZ) (o : okZ Z) (a0 : Int32) (a1 : Int32) : okZ (q_judge a0 a1 Z).2 := by
  unfold q_judge
  repeat' (first | exact o | split)
theorem ok_count (Z : zZ) (o : okZ Z) (a0 : Int32) : okZ (q_count a0 Z).2 := by
  unfold q_count
  repeat' (first | exact o | split)
section
theorem S_227 : jv_S SHT (0 + 227) = jv_S SHT 0 + 4151 := by decide +kernel
theorem law_end {L : Nat} {x3 : Int32} {p : Nat} (hL : L ≤ 3072) (hx : x3.toInt = p) (hp : p ≤ 4000) : (Int32.ofNat L - 6 < x3) ↔ L < p + 6 := by
  have e : (Int32.ofNat L).toInt = (L : Int) := Int32.toInt_ofNat_of_lt (by omega)
  have e6 : (6 : Int32).toInt = 6 := rfl
  have s : (Int32.ofNat L - 6).toInt = (L : Int) - 6 := by rw [nz_subi (by rw [e, e6]; omega) (by rw [e, e6]; omega), e, e6]
  rw [nz_lt, s, hx]
  omega
theorem law_at {L : Nat} {x3 : Int32} {p : Nat} (hL : L ≤ 3072) (hx : x3.toInt = p) (hp : p + 6 ≤ L) (c : Int32) (k : Nat) (hc : c.toInt = k) (hk : k < 6) : (999999 = 999999 ∧ 0 ≤ (x3 + c).toInt ∧ (x3 + c).toInt < (L : Int)) := by
  have s : (x3 + c).toInt = (p : Int) + k := by rw [nz_addi (by rw [hx, hc]; omega) (by rw [hx, hc]; omega), hx, hc]
  rw [s]
  omega
theorem law_l (L : Nat) (xs : Nat → Int32) (hL : L ≤ 3072) : ∀ (m p : Nat) (x3 : Int32) (h : jv_H) (Z : zZ), x3.toInt = p → p ≤ 3100 → L < p + 6 * m + 6 → ST h Z → a_Law_law_18 (L, xs) 8 0 (fun v _ => v = some (.int 1)) 999999 0 171 x3 h 227
  | 0, p, x3, h, Z, hx, hp, hm, st => by
    exact r_Law_law_18 (L, xs) 8 0 _ 999999 0 171 x3 h 227 ⟨rfl, fun _ => ⟨Or.inr rfl, ⟨rfl, S_227⟩, rfl⟩, fun z => absurd ((law_end hL hx (by omega)).mpr (by omega)) z⟩
  | m + 1, p, x3, h, Z, hx, hp, hm, st => by
    refine r_Law_law_18 (L, xs) 8 0 _ 999999 0 171 x3 h 227 ⟨rfl, fun _ => ⟨Or.inr rfl, ⟨rfl, S_227⟩, rfl⟩, fun z => ?_⟩
    have hp6 : p + 6 ≤ L := by
      apply Classical.byContradiction
      intro y
      exact z ((law_end hL hx (by omega)).mpr (by omega))
    have e6 : (6 : Int32).toInt = 6 := rfl
    have next : ∀ h3 Z', ST h3 Z' → a_Law_law_1870 (L, xs) 8 0 (fun v _ => v = some (.int 1)) 999999 0 171 x3 h3 227 := fun h3 Z' st3 => r_Law_law_1870 (L, xs) 8 0 _ 999999 0 171 x3 h3 227 (law_l L xs hL m (p + 6) (x3 + 6) h3 Z' (by rw [nz_addi (by rw [hx, e6]; omega) (by rw [hx, e6]; omega), hx, e6]; omega) (by omega) (by omega) st3)
    have g1 := law_at hL hx hp6 1 1 rfl (by omega)
    have g2 := law_at hL hx hp6 2 2 rfl (by omega)
    have g3 := law_at hL hx hp6 3 3 rfl (by omega)
    have g4 := law_at hL hx hp6 4 4 rfl (by omega)
    have g5 := law_at hL hx hp6 5 5 rfl (by omega)
    have g0 : (999999 = 999999 ∧ 0 ≤ x3.toInt ∧ x3.toInt < (L : Int)) := ⟨rfl, by omega, by omega⟩
    refine ⟨g0, ?_⟩
    refine ⟨fun _ => ⟨g1, g2, is0, k_feed (X := (L, xs)) (h := h) (Z := Z) (c := st.1) (hK := fun z hz h1 o1 c1 => by
      obtain ⟨m, b, o, d⟩ := st_i st _ (fun _ _ => ok_feed Z st.2.2 _ _) (fun h3 s3 => next h3 _ s3) z hz h1 o1 c1
      exact ⟨g1, g2, is171, w_feed (X := (L, xs)) (h := h1) (Z := Z) (ms := m) (bd := b) (hK := d)⟩)⟩, fun _ => ?_⟩
    refine ⟨fun _ => ⟨is0, k_wipe (X := (L, xs)) (h := h) (Z := Z) (c := st.1) (hK := fun z hz h1 o1 c1 => by
      obtain ⟨m, b, o, d⟩ := st_i st _ (fun _ _ => ok_wipe Z st.2.2) (fun h3 s3 => next h3 _ s3) z hz h1 o1 c1
      exact ⟨is171, w_wipe (X := (L, xs)) (h := h1) (Z := Z) (ms := m) (bd := b) (hK := d)⟩)⟩, fun _ => ?_⟩
    refine ⟨fun _ => ⟨is0, k_ratio (X := (L, xs)) (h := h) (Z := Z) (c := st.1) (hK := fun z hz h1 o1 c1 => by
      obtain ⟨m, b, o, d⟩ := st_i st _ (fun h1 c => ok_ratio2 st.2.2 h1 c) (fun h3 s3 => next h3 _ s3) z hz h1 o1 c1
      exact ⟨is171, w_ratio (X := (L, xs)) (h := h1) (Z := Z) (ms := m) (bd := b) (hK := d)⟩)⟩, fun _ => ?_⟩
    refine ⟨fun _ => ⟨is0, k_ladder (X := (L, xs)) (h := h) (Z := Z) (c := st.1) (hK := fun z hz h1 o1 c1 => by
      obtain ⟨m, b, o, d⟩ := st_i st _ (fun _ _ => ok_ladder Z st.2.2) (fun h3 s3 => next h3 _ s3) z hz h1 o1 c1
      exact ⟨is171, w_ladder (X := (L, xs)) (h := h1) (Z := Z) (ms := m) (bd := b) (hK := d)⟩)⟩, fun _ => ?_⟩
    refine ⟨fun _ => ⟨g1, g2, is0, k_degree (X := (L, xs)) (h := h) (Z := Z) (c := st.1) (hK := fun z hz h1 o1 c1 => by
      obtain ⟨m, b, o, d⟩ := st_i st _ (fun _ _ => ok_degree Z st.2.2 _ _) (fun h3 s3 => next h3 _ s3) z hz h1 o1 c1
      exact ⟨g1, g2, is171, w_degree (X := (L, xs)) (h := h1) (Z := Z) (ms := m) (bd := b) (ok := o) (hK := d)⟩)⟩, fun _ => ?_⟩
    refine ⟨fun _ => ⟨g1, g2, g3, g4, is0, k_coefficient (X := (L, xs)) (h := h) (Z := Z) (c := st.1) (hK := fun z hz h1 o1 c1 => by
      obtain ⟨m, b, o, d⟩ := st_j st _ (fun _ _ => ok_coef Z st.2.2 _ _ _ _) (fun h3 s3 => next h3 _ s3) z hz h1 o1 c1
      exact ⟨g1, g2, g3, g4, is171, w_coefficient (X := (L, xs)) (h := h1) (Z := Z) (ms := m) (bd := b) (ok := o) (hK := d)⟩)⟩, fun _ => ?_⟩
    refine ⟨fun _ => ⟨g1, g2, is0, k_same (X := (L, xs)) (h := h) (Z := Z) (c := st.1) (hK := fun z hz h1 o1 c1 => by
      obtain ⟨m, b, o, d⟩ := st_i st _ (fun _ _ => ok_same Z st.2.2 _ _) (fun h3 s3 => next h3 _ s3) z hz h1 o1 c1
      exact ⟨g1, g2, is171, w_same (X := (L, xs)) (h := h1) (Z := Z) (ms := m) (bd := b) (ok := o) (hK := d)⟩)⟩, fun _ => ?_⟩
    refine ⟨fun _ => ⟨g1, g2, is0, k_divide (X := (L, xs)) (h := h) (Z := Z) (c := st.1) (hK := fun z hz h1 o1 c1 => by
      obtain ⟨m, b, o, d⟩ := st_i st _ (fun _ _ => ok_divide Z st.2.2 _ _) (fun h3 s3 => next h3 _ s3) z hz h1 o1 c1
      exact ⟨g1, g2, is171, w_divide (X := (L, xs)) (h := h1) (Z := Z) (ms := m) (bd := b) (ok := o) (hK := d)⟩)⟩, fun _ => ?_⟩
    refine ⟨fun _ => ⟨g1, is0, k_invert (X := (L, xs)) (h := h) (Z := Z) (c := st.1) (hK := fun z hz h1 o1 c1 => by
      obtain ⟨m, b, o, d⟩ := st_i st _ (fun _ _ => ok_invert Z st.2.2 _) (fun h3 s3 => next h3 _ s3) z hz h1 o1 c1
      exact ⟨g1, is171, w_invert (X := (L, xs)) (h := h1) (Z := Z) (ms := m) (bd := b) (hK := d)⟩)⟩, fun _ => ?_⟩
    refine ⟨fun _ => ⟨g1, g2, g3, g4, g5, is0, k_stretch (X := (L, xs)) (h := h) (Z := Z) (c := st.1) (hK := fun z hz h1 o1 c1 => by
      obtain ⟨m, b, o, d⟩ := st_i st _ (fun _ _ => ok_stretch Z st.2.2 _ _ _ _ _) (fun h3 s3 => next h3 _ s3) z hz h1 o1 c1
      exact ⟨g1, g2, g3, g4, g5, is171, w_stretch (X := (L, xs)) (h := h1) (Z := Z) (ms := m) (bd := b) (ok := o) (hK := d)⟩)⟩, fun _ => ?_⟩
    refine ⟨fun _ => ⟨g1, g2, g3, is0, k_shift (X := (L, xs)) (h := h) (Z := Z) (c := st.1) (hK := fun z hz h1 o1 c1 => by
      obtain ⟨m, b, o, d⟩ := st_i st _ (fun _ _ => ok_shift Z st.2.2 _ _ _) (fun h3 s3 => next h3 _ s3) z hz h1 o1 c1
      exact ⟨g1, g2, g3, is171, w_shift (X := (L, xs)) (h := h1) (Z := Z) (ms := m) (bd := b) (ok := o) (hK := d)⟩)⟩, fun _ => ?_⟩
    refine ⟨fun _ => ⟨g1, is0, k_parts (X := (L, xs)) (h := h) (Z := Z) (c := st.1) (hK := fun z hz h1 o1 c1 => by
      obtain ⟨m, b, o, d⟩ := st_i st _ (fun _ _ => ok_parts Z st.2.2 _) (fun h3 s3 => next h3 _ s3) z hz h1 o1 c1
      exact ⟨g1, is171, w_parts (X := (L, xs)) (h := h1) (Z := Z) (ms := m) (bd := b) (hK := d)⟩)⟩, fun _ => ?_⟩
    refine ⟨fun _ => ⟨g1, is0, k_end (X := (L, xs)) (h := h) (Z := Z) (c := st.1) (hK := fun z hz h1 o1 c1 => by
      obtain ⟨m, b, o, d⟩ := st_i st _ (fun _ _ => ok_end Z st.2.2 _) (fun h3 s3 => next h3 _ s3) z hz h1 o1 c1
      exact ⟨g1, is171, w_end (X := (L, xs)) (h := h1) (Z := Z) (ms := m) (bd := b) (hK := d)⟩)⟩, fun _ => ?_⟩
    refine ⟨fun _ => ⟨g1, g2, g3, is0, k_part (X := (L, xs)) (h := h) (Z := Z) (c := st.1) (hK := fun z hz h1 o1 c1 => by
      obtain ⟨m, b, o, d⟩ := st_i st _ (fun _ _ => ok_part Z st.2.2 _ _ _) (fun h3 s3 => next h3 _ s3) z hz h1 o1 c1
      exact ⟨g1, g2, g3, is171, w_part (X := (L, xs)) (h := h1) (Z := Z) (ms := m) (bd := b) (hK := d)⟩)⟩, fun _ => ?_⟩
    refine ⟨fun _ => ⟨g1, g2, g3, is0, k_value (X := (L, xs)) (h := h) (Z := Z) (c := st.1) (hK := fun z hz h1 o1 c1 => by
      obtain ⟨m, b, o, d⟩ := st_j st _ (fun _ _ => ok_value Z st.2.2 _ _ _) (fun h3 s3 => next h3 _ s3) z hz h1 o1 c1
      exact ⟨g1, g2, g3, is171, w_value (X := (L, xs)) (h := h1) (Z := Z) (ms := m) (bd := b) (ok := o) (hK := d)⟩)⟩, fun _ => ?_⟩
    refine ⟨fun _ => ⟨g1, is0, k_multiply (X := (L, xs)) (h := h) (Z := Z) (c := st.1) (hK := fun z hz h1 o1 c1 => by
      obtain ⟨m, b, o, d⟩ := st_i st _ (fun _ _ => ok_mult Z st.2.2 _) (fun h3 s3 => next h3 _ s3) z hz h1 o1 c1
      exact ⟨g1, is171, w_multiply (X := (L, xs)) (h := h1) (Z := Z) (ms := m) (bd := b) (ok := o) (hK := d)⟩)⟩, fun _ => ?_⟩
    refine ⟨fun _ => ⟨g1, g2, g3, g4, is0, k_close (X := (L, xs)) (h := h) (Z := Z) (c := st.1) (hK := fun z hz h1 o1 c1 => by
      obtain ⟨m, b, o, d⟩ := st_i st _ (fun _ _ => ok_close Z st.2.2 _ _ _ _) (fun h3 s3 => next h3 _ s3) z hz h1 o1 c1
      exact ⟨g1, g2, g3, g4, is171, w_close (X := (L, xs)) (h := h1) (Z := Z) (ms := m) (bd := b) (hK := d)⟩)⟩, fun _ => ?_⟩
    refine ⟨fun _ => ⟨g1, g2, g3, g4, g5, is0, k_scale (X := (L, xs)) (h := h) (Z := Z) (c := st.1) (hK := fun z hz h1 o1 c1 => by
      obtain ⟨m, b, o, d⟩ := st_i st _ (fun _ _ => ok_scale Z st.2.2 _ _ _ _ _) (fun h3 s3 => next h3 _ s3) z hz h1 o1 c1
      exact ⟨g1, g2, g3, g4, g5, is171, w_scale (X := (L, xs)) (h := h1) (Z := Z) (ms := m) (bd := b) (ok := o) (hK := d)⟩)⟩, fun _ => ?_⟩
    refine ⟨fun _ => ⟨g1, g2, g3, g4, g5, is0, k_band (X := (L, xs)) (h := h) (Z := Z) (c := st.1) (hK := fun z hz h1 o1 c1 => by
      obtain ⟨m, b, o, d⟩ := st_i st _ (fun _ _ => ok_band Z st.2.2 _ _ _ _ _) (fun h3 s3 => next h3 _ s3) z hz h1 o1 c1
      exact ⟨g1, g2, g3, g4, g5, is171, w_band (X := (L, xs)) (h := h1) (Z := Z) (ms := m) (bd := b) (ok := o) (hK := d)⟩)⟩, fun _ => ?_⟩
    refine ⟨fun _ => ⟨g1, g2, g3, is0, k_dull (X := (L, xs)) (h := h) (Z := Z) (c := st.1) (hK := fun z hz h1 o1 c1 => by
      obtain ⟨m, b, o, d⟩ := st_i st _ (fun _ _ => ok_dull Z st.2.2 _ _ _) (fun h3 s3 => next h3 _ s3) z hz h1 o1 c1
      exact ⟨g1, g2, g3, is171, w_dull (X := (L, xs)) (h := h1) (Z := Z) (ms := m) (bd := b) (ok := o) (hK := d)⟩)⟩, fun _ => ?_⟩
    refine ⟨fun _ => ⟨g1, is0, k_turn (X := (L, xs)) (h := h) (Z := Z) (c := st.1) (hK := fun z hz h1 o1 c1 => by
      obtain ⟨m, b, o, d⟩ := st_i st _ (fun _ _ => ok_turn Z st.2.2 _) (fun h3 s3 => next h3 _ s3) z hz h1 o1 c1
      exact ⟨g1, is171, w_turn (X := (L, xs)) (h := h1) (Z := Z) (ms := m) (bd := b) (hK := d)⟩)⟩, fun _ => ?_⟩
    refine ⟨fun _ => ⟨g1, is0, k_fit (X := (L, xs)) (h := h) (Z := Z) (c := st.1) (ok := st.2.2.1) (hK := fun z hz h1 o1 c1 => by
      obtain ⟨m, b, o, d⟩ := st_i st _ (fun _ _ => ok_fit Z st.2.2 _) (fun h3 s3 => next h3 _ s3) z hz h1 o1 c1
      exact ⟨g1, is171, w_fit (X := (L, xs)) (h := h1) (Z := Z) (ms := m) (bd := b) (ok := o) (hK := d)⟩)⟩, fun _ => ?_⟩
    refine ⟨fun _ => ⟨g1, is0, k_forget (X := (L, xs)) (h := h) (Z := Z) (c := st.1) (hK := fun z hz h1 o1 c1 => by
      obtain ⟨m, b, o, d⟩ := st_i st _ (fun _ _ => ok_forget Z st.2.2 _) (fun h3 s3 => next h3 _ s3) z hz h1 o1 c1
      exact ⟨g1, is171, w_forget (X := (L, xs)) (h := h1) (Z := Z) (ms := m) (bd := b) (hK := d)⟩)⟩, fun _ => ?_⟩
    refine ⟨fun _ => ⟨g1, g2, g3, g4, is0, k_worth (X := (L, xs)) (h := h) (Z := Z) (c := st.1) (hK := fun z hz h1 o1 c1 => by
      obtain ⟨m, b, o, d⟩ := st_j st _ (fun _ _ => ok_worth Z st.2.2 _ _ _ _) (fun h3 s3 => next h3 _ s3) z hz h1 o1 c1
      exact ⟨g1, g2, g3, g4, is171, w_worth (X := (L, xs)) (h := h1) (Z := Z) (ms := m) (bd := b) (ok := o) (hK := d)⟩)⟩, fun _ => ?_⟩
    refine ⟨fun _ => ⟨g1, g2, g3, g4, is0, k_react (X := (L, xs)) (h := h) (Z := Z) (c := st.1) (hK := fun z hz h1 o1 c1 => by
      obtain ⟨m, b, o, d⟩ := st_j st _ (fun _ _ => ok_react Z st.2.2 _ _ _ _) (fun h3 s3 => next h3 _ s3) z hz h1 o1 c1
      exact ⟨g1, g2, g3, g4, is171, w_react (X := (L, xs)) (h := h1) (Z := Z) (ms := m) (bd := b) (ok := o) (hK := d)⟩)⟩, fun _ => ?_⟩
    refine ⟨fun _ => ⟨g1, g2, is0, k_first (X := (L, xs)) (h := h) (Z := Z) (c := st.1) (hK := fun z hz h1 o1 c1 => by
      obtain ⟨m, b, o, d⟩ := st_i st _ (fun _ _ => ok_first Z st.2.2 _ _) (fun h3 s3 => next h3 _ s3) z hz h1 o1 c1
      exact ⟨g1, g2, is171, w_first (X := (L, xs)) (h := h1) (Z := Z) (ms := m) (bd := b) (ok := o) (hK := d)⟩)⟩, fun _ => ?_⟩
    refine ⟨fun _ => ⟨g1, g2, g3, g4, g5, is0, k_stock (X := (L, xs)) (h := h) (Z := Z) (c := st.1) (hK := fun z hz h1 o1 c1 => by
      obtain ⟨m, b, o, d⟩ := st_i st _ (fun _ _ => ok_stock Z st.2.2 _ _ _ _ _) (fun h3 s3 => next h3 _ s3) z hz h1 o1 c1
      exact ⟨g1, g2, g3, g4, g5, is171, w_stock (X := (L, xs)) (h := h1) (Z := Z) (ms := m) (bd := b) (ok := o) (hK := d)⟩)⟩, fun _ => ?_⟩
    refine ⟨fun _ => ⟨g1, g2, g3, is0, k_bin (X := (L, xs)) (h := h) (Z := Z) (c := st.1) (hK := fun z hz h1 o1 c1 => by
      obtain ⟨m, b, o, d⟩ := st_i st _ (fun _ _ => ok_bin Z st.2.2 _ _ _) (fun h3 s3 => next h3 _ s3) z hz h1 o1 c1
      exact ⟨g1, g2, g3, is171, w_bin (X := (L, xs)) (h := h1) (Z := Z) (ms := m) (bd := b) (ok := o) (hK := d)⟩)⟩, fun _ => ?_⟩
    refine ⟨fun _ => ⟨g1, g2, g3, g4, is0, k_nearest (X := (L, xs)) (h := h) (Z := Z) (c := st.1) (ok := st.2.2.1) (hK := fun z hz h1 o1 c1 => by
      obtain ⟨m, b, o, d⟩ := st_j st _ (fun _ _ => ok_near Z st.2.2 _ _ _ _) (fun h3 s3 => next h3 _ s3) z hz h1 o1 c1
      exact ⟨g1, g2, g3, g4, is171, w_nearest (X := (L, xs)) (h := h1) (Z := Z) (ms := m) (bd := b) (ok := o) (hK := d)⟩)⟩, fun _ => ?_⟩
    refine ⟨fun _ => ⟨g1, g2, is0, k_build (X := (L, xs)) (h := h) (Z := Z) (c := st.1) (ok := st.2.2.1) (hK := fun z hz h1 o1 c1 => by
      obtain ⟨m, b, o, d⟩ := st_i st _ (fun _ _ => ok_build Z st.2.2 _ _) (fun h3 s3 => next h3 _ s3) z hz h1 o1 c1
      exact ⟨g1, g2, is171, w_build (X := (L, xs)) (h := h1) (Z := Z) (ms := m) (bd := b) (ok := o) (hK := d)⟩)⟩, fun _ => ?_⟩
    refine ⟨fun _ => ⟨g1, is0, k_arrive (X := (L, xs)) (h := h) (Z := Z) (c := st.1) (hK := fun z hz h1 o1 c1 => by
      obtain ⟨m, b, o, d⟩ := st_i st _ (fun _ _ => ok_arrive Z st.2.2 _) (fun h3 s3 => next h3 _ s3) z hz h1 o1 c1
      exact ⟨g1, is171, w_arrive (X := (L, xs)) (h := h1) (Z := Z) (ms := m) (bd := b) (hK := d)⟩)⟩, fun _ => ?_⟩
    refine ⟨fun _ => ⟨g1, g2, is0, k_want (X := (L, xs)) (h := h) (Z := Z) (c := st.1) (hK := fun z hz h1 o1 c1 => by
      obtain ⟨m, b, o, d⟩ := st_i st _ (fun _ _ => ok_want Z st.2.2 _ _) (fun h3 s3 => next h3 _ s3) z hz h1 o1 c1
      exact ⟨g1, g2, is171, w_want (X := (L, xs)) (h := h1) (Z := Z) (ms := m) (bd := b) (ok := o) (hK := d)⟩)⟩, fun _ => ?_⟩
    refine ⟨fun _ => ⟨g1, is0, k_cost (X := (L, xs)) (h := h) (Z := Z) (c := st.1) (ok := st.2.2.1) (hK := fun z hz h1 o1 c1 => by
      obtain ⟨m, b, o, d⟩ := st_i st _ (fun _ _ => ok_cost Z st.2.2 _) (fun h3 s3 => next h3 _ s3) z hz h1 o1 c1
      exact ⟨g1, is171, w_cost (X := (L, xs)) (h := h1) (Z := Z) (ms := m) (bd := b) (ok := o) (hK := d)⟩)⟩, fun _ => ?_⟩
    refine ⟨fun _ => ⟨g1, g2, g3, is0, k_unlike (X := (L, xs)) (h := h) (Z := Z) (c := st.1) (hK := fun z hz h1 o1 c1 => by
      obtain ⟨m, b, o, d⟩ := st_j st _ (fun _ _ => ok_unlike Z st.2.2 _ _ _) (fun h3 s3 => next h3 _ s3) z hz h1 o1 c1
      exact ⟨g1, g2, g3, is171, w_unlike (X := (L, xs)) (h := h1) (Z := Z) (ms := m) (bd := b) (ok := o) (hK := d)⟩)⟩, fun _ => ?_⟩
    refine ⟨fun _ => ⟨g1, g2, g3, is0, k_hold (X := (L, xs)) (h := h) (Z := Z) (c := st.1) (hK := fun z hz h1 o1 c1 => by
      obtain ⟨m, b, o, d⟩ := st_i st _ (fun _ _ => ok_hold Z st.2.2 _ _ _) (fun h3 s3 => next h3 _ s3) z hz h1 o1 c1
      exact ⟨g1, g2, g3, is171, w_hold (X := (L, xs)) (h := h1) (Z := Z) (ms := m) (bd := b) (hK := d)⟩)⟩, fun _ => ?_⟩
    refine ⟨fun _ => ⟨g1, is0, k_drop (X := (L, xs)) (h := h) (Z := Z) (c := st.1) (hK := fun z hz h1 o1 c1 => by
      obtain ⟨m, b, o, d⟩ := st_i st _ (fun _ _ => ok_drop Z st.2.2 _) (fun h3 s3 => next h3 _ s3) z hz h1 o1 c1
      exact ⟨g1, is171, w_drop (X := (L, xs)) (h := h1) (Z := Z) (ms := m) (bd := b) (hK := d)⟩)⟩, fun _ => ?_⟩
    refine ⟨fun _ => ⟨g1, g2, is0, k_taken (X := (L, xs)) (h := h) (Z := Z) (c := st.1) (ok := st.2.2) (hK := fun z hz h1 o1 c1 => by
      obtain ⟨m, b, o, d⟩ := st_i st _ (fun _ _ => ok_taken Z st.2.2 _ _) (fun h3 s3 => next h3 _ s3) z hz h1 o1 c1
      exact ⟨g1, g2, is171, w_taken (X := (L, xs)) (h := h1) (Z := Z) (ms := m) (bd := b) (ok := o) (hK := d)⟩)⟩, fun _ => ?_⟩
    refine ⟨fun _ => ⟨g1, g2, is0, k_row (X := (L, xs)) (h := h) (Z := Z) (c := st.1) (hK := fun z hz h1 o1 c1 => by
      obtain ⟨m, b, o, d⟩ := st_i st _ (fun _ _ => ok_row Z st.2.2 _ _) (fun h3 s3 => next h3 _ s3) z hz h1 o1 c1
      exact ⟨g1, g2, is171, w_row (X := (L, xs)) (h := h1) (Z := Z) (ms := m) (bd := b) (hK := d)⟩)⟩, fun _ => ?_⟩
    refine ⟨fun _ => ⟨g1, g2, g3, g4, is0, k_put (X := (L, xs)) (h := h) (Z := Z) (c := st.1) (hK := fun z hz h1 o1 c1 => by
      obtain ⟨m, b, o, d⟩ := st_i st _ (fun _ _ => ok_put Z st.2.2 _ _ _) (fun h3 s3 => next h3 _ s3) z hz h1 o1 c1
      exact ⟨g1, g2, g3, g4, is171, w_put (X := (L, xs)) (h := h1) (Z := Z) (ms := m) (bd := b) (hK := d)⟩)⟩, fun _ => ?_⟩
    refine ⟨fun _ => ⟨g1, g2, is0, k_get (X := (L, xs)) (h := h) (Z := Z) (c := st.1) (hK := fun z hz h1 o1 c1 => by
      obtain ⟨m, b, o, d⟩ := st_j st _ (fun _ _ => ok_get Z st.2.2 _ _) (fun h3 s3 => next h3 _ s3) z hz h1 o1 c1
      exact ⟨g1, g2, is171, w_get (X := (L, xs)) (h := h1) (Z := Z) (ms := m) (bd := b) (hK := d)⟩)⟩, fun _ => ?_⟩
    refine ⟨fun _ => ⟨g1, g2, g3, g4, g5, is0, k_copy (X := (L, xs)) (h := h) (Z := Z) (c := st.1) (hK := fun z hz h1 o1 c1 => by
      obtain ⟨m, b, o, d⟩ := st_i st _ (fun _ _ => ok_copy Z st.2.2 _ _ _ _ _) (fun h3 s3 => next h3 _ s3) z hz h1 o1 c1
      exact ⟨g1, g2, g3, g4, g5, is171, w_copy (X := (L, xs)) (h := h1) (Z := Z) (ms := m) (bd := b) (hK := d)⟩)⟩, fun _ => ?_⟩
    refine ⟨fun _ => ⟨g1, g2, is0, k_judge (X := (L, xs)) (h := h) (Z := Z) (c := st.1) (hK := fun z hz h1 o1 c1 => by
      obtain ⟨m, b, o, d⟩ := st_i st _ (fun _ _ => ok_judge Z st.2.2 _ _) (fun h3 s3 => next h3 _ s3) z hz h1 o1 c1
      exact ⟨g1, g2, is171, w_judge (X := (L, xs)) (h := h1) (Z := Z) (ms := m) (bd := b) (hK := d)⟩)⟩, fun _ => ?_⟩
    refine ⟨fun _ => ⟨is0, k_image (X := (L, xs)) (h := h) (Z := Z) (c := st.1) (hK := fun z hz h1 o1 c1 => by
      obtain ⟨m, b, o, d⟩ := st_i st _ (fun _ _ => ok_image Z st.2.2) (fun h3 s3 => next h3 _ s3) z hz h1 o1 c1
      exact ⟨is171, w_image (X := (L, xs)) (h := h1) (Z := Z) (ms := m) (bd := b) (hK := d)⟩)⟩, fun _ => ?_⟩
    refine ⟨fun _ => ⟨is0, k_undo (X := (L, xs)) (h := h) (Z := Z) (c := st.1) (hK := fun z hz h1 o1 c1 => by
      obtain ⟨m, b, o, d⟩ := st_i st _ (fun _ _ => ok_undo Z st.2.2) (fun h3 s3 => next h3 _ s3) z hz h1 o1 c1
      exact ⟨is171, w_undo (X := (L, xs)) (h := h1) (Z := Z) (ms := m) (bd := b) (hK := d)⟩)⟩, fun _ => ?_⟩
    refine ⟨fun _ => ⟨g1, is0, k_count (X := (L, xs)) (h := h) (Z := Z) (c := st.1) (hK := fun z hz h1 o1 c1 => by
      obtain ⟨m, b, o, d⟩ := st_i st _ (fun _ _ => ok_count Z st.2.2 _) (fun h3 s3 => next h3 _ s3) z hz h1 o1 c1
      exact ⟨g1, is171, w_count (X := (L, xs)) (h := h1) (Z := Z) (ms := m) (hK := d)⟩)⟩, fun _ => ?_⟩
    exact next h Z st
end
