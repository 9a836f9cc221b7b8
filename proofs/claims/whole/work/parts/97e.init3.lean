/-! ===== the constructors: the workshop ===== -/
/-- the cells of a workshop at w -/
def wsF (w : Nat) : Prop := ((8 ≤ w ∧ w + 75 ≤ 158) ∧ SHT w = (18, 7)) ∧ (SHT (w + 1) = (3, 6) ∧ SHT (w + 2) = (4, 6) ∧ SHT (w + 3) = (5, 3)) ∧ (SHT (w + 4) = (17, 6) ∧ SHT (w + 5) = (0, 24) ∧ SHT (w + 6) = (1, 24) ∧ SHT (w + 7) = (0, 24) ∧ SHT (w + 8) = (0, 24)) ∧
  (∀ j, j < 6 → SHT (w + 9 + 5 * j) = (15, 2) ∧ SHT (w + 9 + 5 * j + 1) = (14, 1) ∧ SHT (w + 9 + 5 * j + 2) = (1, 13) ∧ SHT (w + 9 + 5 * j + 3) = (14, 1) ∧ SHT (w + 9 + 5 * j + 4) = (1, 13)) ∧
  (∀ j, j < 6 → SHT (w + 39 + 4 * j) = (13, 6) ∧ SHT (w + 39 + 4 * j + 1) = (0, 12) ∧ SHT (w + 39 + 4 * j + 2) = (2, 12) ∧ SHT (w + 39 + 4 * j + 3) = (1, 12)) ∧
  (∀ j, j < 3 → SHT (w + 63 + 4 * j) = (10, 4) ∧ SHT (w + 63 + 4 * j + 1) = (1, 10) ∧ SHT (w + 63 + 4 * j + 2) = (0, 10) ∧ SHT (w + 63 + 4 * j + 3) = (0, 10)) ∧
  (∀ j, j < 7 → jv_S SHT (w + 9 + 5 * j) = jv_S SHT (w + 1) + 117 + 30 * j) ∧ (∀ j, j < 7 → jv_S SHT (w + 39 + 4 * j) = jv_S SHT (w + 1) + 297 + 42 * j) ∧ (∀ j, j < 4 → jv_S SHT (w + 63 + 4 * j) = jv_S SHT (w + 1) + 549 + 34 * j)
theorem wsF_8 : wsF 8 := by
  refine ⟨?_, ?_, ?_, ?_, ?_, ?_, ?_, ?_, ?_⟩ <;> decide +kernel
theorem wsF_83 : wsF 83 := by
  refine ⟨?_, ?_, ?_, ?_, ?_, ?_, ?_, ?_, ?_⟩ <;> decide +kernel
/-- a ratios, b ladders, c bins are made -/
def wsI (h : jv_H) (w a b c : Nat) : Prop := (h.2.2 w 0 = some (w + 1) ∧ h.2.2 w 1 = some (w + 2) ∧ h.2.2 w 2 = some (w + 3) ∧ h.2.2 w 3 = some (w + 4)) ∧ WO 227 h (w + 4) ∧ (h.1 w 4 = 0 ∧ h.1 w 5 = 0 ∧ h.1 w 6 = 0 ∧ h.1 (w + 4) 4 = 0 ∧ h.1 (w + 4) 5 = 0) ∧
  (∀ k, k < a → h.2.2 (w + 1) k = some (w + 9 + 5 * k) ∧ RO 227 h (w + 9 + 5 * k) (w + 10 + 5 * k) (w + 11 + 5 * k) (w + 12 + 5 * k) (w + 13 + 5 * k)) ∧
  (∀ k, k < b → h.2.2 (w + 2) k = some (w + 39 + 4 * k) ∧ LO 227 h (w + 39 + 4 * k)) ∧
  (∀ k, k < c → h.2.2 (w + 3) k = some (w + 63 + 4 * k) ∧ BO 227 h (w + 63 + 4 * k) ∧ h.1 (w + 63 + 4 * k) 3 = 0)
theorem wsI.mv {h h' : jv_H} {w a b c e : Nat} (i : wsI h w a b c) (h1 : w + 9 + 5 * a ≤ e) (h2 : b = 0 ∨ w + 39 + 4 * b ≤ e) (h3 : c = 0 ∨ w + 63 + 4 * c ≤ e) (f : ∀ q, w ≤ q → q < e → h'.1 q = h.1 q ∧ h'.2.2 q = h.2.2 q) : wsI h' w a b c := by
  obtain ⟨i1, i2, i3, i4, i5, i6⟩ := i
  have f0 := f w (by omega) (by omega)
  have f4 := f (w + 4) (by omega) (by omega)
  refine ⟨by rw [f0.2]; exact i1, i2.mvr f4.2, by rw [f0.1, f4.1]; exact i3, fun k hk => ⟨?_, ?_⟩, fun k hk => ⟨?_, ?_⟩, fun k hk => ⟨?_, ?_, ?_⟩⟩
  · rw [(f (w + 1) (by omega) (by omega)).2]
    exact (i4 k hk).1
  · exact (i4 k hk).2.mvr (f _ (by omega) (by omega)).2 (f _ (by omega) (by omega)).2 (f _ (by omega) (by omega)).2
  · rw [(f (w + 2) (by omega) (by omega)).2]
    exact (i5 k hk).1
  · exact (i5 k hk).2.mvr (f _ (by omega) (by omega)).2
  · rw [(f (w + 3) (by omega) (by omega)).2]
    exact (i6 k hk).1
  · exact (i6 k hk).2.1.mvr (f _ (by omega) (by omega)).2
  · rw [(f _ (by omega) (by omega)).1]
    exact (i6 k hk).2.2
theorem uR_ne {h : jv_H} {q o i : Nat} {v : Option Nat} (hq : q ≠ o) : (jv_uR h o i v).2.2 q = h.2.2 q := funext (fun j => if_neg (by omega))
theorem wsI.addR {h : jv_H} {w a : Nat} (i : wsI h w a 0 0) (ro : RO 227 h (w + 9 + 5 * a) (w + 10 + 5 * a) (w + 11 + 5 * a) (w + 12 + 5 * a) (w + 13 + 5 * a)) : wsI (jv_uR h (w + 1) a (some (w + 9 + 5 * a))) w (a + 1) 0 0 := by
  obtain ⟨i1, i2, i3, i4, i5, i6⟩ := i
  refine ⟨by rw [uR_ne (by omega)]; exact i1, i2.mvr (uR_ne (by omega)), i3, fun k hk => ?_, fun k hk => by omega, fun k hk => by omega⟩
  by_cases e : k = a
  · subst e
    exact ⟨by rw [gR_uR, if_pos ⟨rfl, rfl⟩], ro.mvr (uR_ne (by omega)) (uR_ne (by omega)) (uR_ne (by omega))⟩
  · exact ⟨by rw [gR_uR, if_neg (by omega)]; exact (i4 k (by omega)).1, (i4 k (by omega)).2.mvr (uR_ne (by omega)) (uR_ne (by omega)) (uR_ne (by omega))⟩
theorem wsI.addL {h : jv_H} {w a b : Nat} (i : wsI h w a b 0) (lo : LO 227 h (w + 39 + 4 * b)) : wsI (jv_uR h (w + 2) b (some (w + 39 + 4 * b))) w a (b + 1) 0 := by
  obtain ⟨i1, i2, i3, i4, i5, i6⟩ := i
  refine ⟨by rw [uR_ne (by omega)]; exact i1, i2.mvr (uR_ne (by omega)), i3, fun k hk => ⟨by rw [uR_ne (by omega)]; exact (i4 k hk).1, (i4 k hk).2.mvr (uR_ne (by omega)) (uR_ne (by omega)) (uR_ne (by omega))⟩, fun k hk => ?_, fun k hk => by omega⟩
  by_cases e : k = b
  · subst e
    exact ⟨by rw [gR_uR, if_pos ⟨rfl, rfl⟩], lo.mvr (uR_ne (by omega))⟩
  · exact ⟨by rw [gR_uR, if_neg (by omega)]; exact (i5 k (by omega)).1, (i5 k (by omega)).2.mvr (uR_ne (by omega))⟩
theorem wsI.addB {h : jv_H} {w a b c : Nat} (i : wsI h w a b c) (bo : BO 227 h (w + 63 + 4 * c)) (z : h.1 (w + 63 + 4 * c) 3 = 0) : wsI (jv_uR h (w + 3) c (some (w + 63 + 4 * c))) w a b (c + 1) := by
  obtain ⟨i1, i2, i3, i4, i5, i6⟩ := i
  refine ⟨by rw [uR_ne (by omega)]; exact i1, i2.mvr (uR_ne (by omega)), i3, fun k hk => ⟨by rw [uR_ne (by omega)]; exact (i4 k hk).1, (i4 k hk).2.mvr (uR_ne (by omega)) (uR_ne (by omega)) (uR_ne (by omega))⟩, fun k hk => ⟨by rw [uR_ne (by omega)]; exact (i5 k hk).1, (i5 k hk).2.mvr (uR_ne (by omega))⟩, fun k hk => ?_⟩
  by_cases e : k = c
  · subst e
    exact ⟨by rw [gR_uR, if_pos ⟨rfl, rfl⟩], bo.mvr (uR_ne (by omega)), z⟩
  · exact ⟨by rw [gR_uR, if_neg (by omega)]; exact (i6 k (by omega)).1, (i6 k (by omega)).2.1.mvr (uR_ne (by omega)), (i6 k (by omega)).2.2⟩
theorem nz_ge {x : Int32} {j : Nat} (v : Int32) (m : Nat) (hm : v.toInt = m) (hx : x.toInt = j) : v ≤ x ↔ m ≤ j := by
  rw [nz_le, hm, hx]
  omega
section
variable (X : jv_X) (d w : Nat) (K : jv_H → Prop) (h0 : jv_H)
theorem wk_b (F : wsF w) (hK : ∀ h', oF w (w + 75) h0 h' → wsI h' w 6 6 3 → K h') : ∀ m j (x1 : Int32) h, x1.toInt = (j : Nat) → j + m = 3 → oF w (w + 75) h0 h → wsI h w 6 6 j → a_Workshop_init_112 X (d + 3) (w + 1) (jv_rV K) w x1 h (62 + 4 * j) := by
  intro m
  induction m with
  | zero =>
    intro j x1 h hx hj f i
    obtain rfl : j = 3 := by omega
    refine r_Workshop_init_112 X (d + 2) (w + 1) _ w x1 h _ ⟨fun _ => ⟨⟨rfl, ?_⟩, hK h f i⟩, fun z => absurd ((nz_ge 3 3 rfl hx).mpr (by omega)) z⟩
    have := F.2.2.2.2.2.2.2.2 3 (by omega)
    rw [show w + 1 + (62 + 4 * 3) = w + 63 + 4 * 3 by omega]
    omega
  | succ m ih =>
    intro j x1 h hx hj f i
    obtain ⟨s0, s1, s2, s3⟩ := F.2.2.2.2.2.1 j (by omega)
    have S0 := F.2.2.2.2.2.2.2.2 j (by omega)
    have hw := F.1.1
    have eo : w + 1 + (62 + 4 * j) = w + 63 + 4 * j := by omega
    rw [← eo] at s0 s1 s2 s3 S0
    have S1 := jv_S_succ (w + 1 + (62 + 4 * j))
    rw [s0] at S1
    have S1 : jv_S SHT (w + 1 + (62 + 4 * j + 1)) = jv_S SHT (w + 1 + (62 + 4 * j)) + 4 := S1
    have e0 : (SHT w).1 = 18 := by rw [F.1.2]
    refine r_Workshop_init_112 X (d + 2) (w + 1) _ w x1 h _ ⟨fun z => absurd ((nz_ge 3 3 rfl hx).mp z) (by omega), fun _ => ⟨⟨by omega, e0⟩, w + 3, i.1.2.2.1, ⟨s0, by omega, by omega⟩, by omega, ⟨by omega, by omega⟩, i_Bins X (d + 1) _ _ (w + 1 + (62 + 4 * j)) s0 s1 s2 s3 (fun h2 f2 r2 z2 => ⟨jx F.2.1.2.2 (by omega) (by omega) (by omega), ⟨by omega, by rw [s0]⟩, ?_⟩)⟩⟩
    rw [nz_nat hx]
    have g : oF w (w + 75) h0 h2 := (f.z (by omega)).tr (f2.mono (by omega) (by omega))
    have i2 : wsI h2 w 6 6 j := i.mv (e := w + 63 + 4 * j) (by omega) (by omega) (by omega) (fun q _ hq => ⟨by rw [(f2 q (by omega)).1]; exact funext (fun _ => if_neg (by omega)), by rw [(f2 q (by omega)).2.2]; exact funext (fun _ => if_neg (by omega))⟩)
    have bo : BO 227 h2 (w + 1 + (62 + 4 * j)) := ⟨⟨by omega, by rw [s0]⟩, r2.1, r2.2.1, r2.2.2, by omega, s1, s2, s3⟩
    rw [eo] at bo z2 ⊢
    have e := ih (j + 1) (x1 + 1) _ (nz_inc hx (by omega)) (by omega) (g.uR (by omega)) (i2.addB bo z2)
    rw [show 62 + 4 * (j + 1) = 62 + 4 * j + 4 by omega] at e
    exact e
theorem wk_l (F : wsF w) (hK : ∀ h', oF w (w + 75) h0 h' → wsI h' w 6 6 3 → K h') : ∀ m j (x1 : Int32) h, x1.toInt = (j : Nat) → j + m = 6 → oF w (w + 75) h0 h → wsI h w 6 j 0 → a_Workshop_init_85 X (d + 3) (w + 1) (jv_rV K) w x1 h (38 + 4 * j) := by
  intro m
  induction m with
  | zero =>
    intro j x1 h hx hj f i
    obtain rfl : j = 6 := by omega
    exact r_Workshop_init_85 X (d + 2) (w + 1) _ w x1 h _ ⟨fun _ => wk_b X d w K h0 F hK 3 0 0 h rfl rfl f i, fun z => absurd ((nz_ge 6 6 rfl hx).mpr (by omega)) z⟩
  | succ m ih =>
    intro j x1 h hx hj f i
    obtain ⟨s0, s1, s2, s3⟩ := F.2.2.2.2.1 j (by omega)
    have S0 := F.2.2.2.2.2.2.2.1 j (by omega)
    have hw := F.1.1
    have eo : w + 1 + (38 + 4 * j) = w + 39 + 4 * j := by omega
    rw [← eo] at s0 s1 s2 s3 S0
    have S1 := jv_S_succ (w + 1 + (38 + 4 * j))
    rw [s0] at S1
    have S1 : jv_S SHT (w + 1 + (38 + 4 * j + 1)) = jv_S SHT (w + 1 + (38 + 4 * j)) + 6 := S1
    have e0 : (SHT w).1 = 18 := by rw [F.1.2]
    refine r_Workshop_init_85 X (d + 2) (w + 1) _ w x1 h _ ⟨fun z => absurd ((nz_ge 6 6 rfl hx).mp z) (by omega), fun _ => ⟨⟨by omega, e0⟩, w + 2, i.1.2.1, ⟨s0, by omega, by omega⟩, by omega, ⟨by omega, by omega⟩, i_Ladder X (d + 1) _ _ (w + 1 + (38 + 4 * j)) s0 s1 s2 s3 (fun h2 f2 r2 => ⟨jx F.2.1.2.1 (by omega) (by omega) (by omega), ⟨by omega, by rw [s0]⟩, ?_⟩)⟩⟩
    rw [nz_nat hx]
    have g : oF w (w + 75) h0 h2 := (f.z (by omega)).tr (f2.mono (by omega) (by omega))
    have i2 : wsI h2 w 6 j 0 := i.mv (e := w + 39 + 4 * j) (by omega) (by omega) (by omega) (fun q _ hq => ⟨by rw [(f2 q (by omega)).1]; exact funext (fun _ => if_neg (by omega)), by rw [(f2 q (by omega)).2.2]; exact funext (fun _ => if_neg (by omega))⟩)
    have lo : LO 227 h2 (w + 1 + (38 + 4 * j)) := ⟨⟨by omega, by rw [s0]⟩, r2.1, r2.2.1, r2.2.2, by omega, s1, s2, s3⟩
    rw [eo] at lo ⊢
    have e := ih (j + 1) (x1 + 1) _ (nz_inc hx (by omega)) (by omega) (g.uR (by omega)) (i2.addL lo)
    rw [show 38 + 4 * (j + 1) = 38 + 4 * j + 4 by omega] at e
    exact e
theorem wk_r (F : wsF w) (hK : ∀ h', oF w (w + 75) h0 h' → wsI h' w 6 6 3 → K h') : ∀ m j (x1 : Int32) h, x1.toInt = (j : Nat) → j + m = 6 → oF w (w + 75) h0 h → wsI h w j 0 0 → a_Workshop_init_58 X (d + 3) (w + 1) (jv_rV K) w x1 h (8 + 5 * j) := by
  intro m
  induction m with
  | zero =>
    intro j x1 h hx hj f i
    obtain rfl : j = 6 := by omega
    exact r_Workshop_init_58 X (d + 2) (w + 1) _ w x1 h _ ⟨fun _ => wk_l X d w K h0 F hK 6 0 0 h rfl rfl f i, fun z => absurd ((nz_ge 6 6 rfl hx).mpr (by omega)) z⟩
  | succ m ih =>
    intro j x1 h hx hj f i
    obtain ⟨s0, s1, s2, s3, s4⟩ := F.2.2.2.1 j (by omega)
    have S0 := F.2.2.2.2.2.2.1 j (by omega)
    have hw := F.1.1
    have eo : w + 1 + (8 + 5 * j) = w + 9 + 5 * j := by omega
    rw [← eo] at s0 s1 s2 s3 s4 S0
    have S1 := jv_S_succ (w + 1 + (8 + 5 * j))
    rw [s0] at S1
    have S1 : jv_S SHT (w + 1 + (8 + 5 * j + 1)) = jv_S SHT (w + 1 + (8 + 5 * j)) + 2 := S1
    have e0 : (SHT w).1 = 18 := by rw [F.1.2]
    refine r_Workshop_init_58 X (d + 2) (w + 1) _ w x1 h _ ⟨fun z => absurd ((nz_ge 6 6 rfl hx).mp z) (by omega), fun _ => ⟨⟨by omega, e0⟩, w + 1, i.1.1, ⟨s0, by omega, by omega⟩, by omega, ⟨by omega, by omega⟩, i_Ratio X d _ _ (w + 1 + (8 + 5 * j)) s0 s1 s2 s3 s4 (fun h2 f2 r2 p2 => ⟨jx F.2.1.1 (by omega) (by omega) (by omega), ⟨by omega, by rw [s0]⟩, ?_⟩)⟩⟩
    rw [nz_nat hx]
    have g : oF w (w + 75) h0 h2 := (f.z (by omega)).tr (f2.mono (by omega) (by omega))
    have i2 : wsI h2 w j 0 0 := i.mv (e := w + 9 + 5 * j) (by omega) (by omega) (by omega) (fun q _ hq => ⟨by rw [(f2 q (by omega)).1]; exact funext (fun _ => if_neg (by omega)), by rw [(f2 q (by omega)).2.2]; exact funext (fun _ => if_neg (by omega))⟩)
    have ro : RO 227 h2 (w + 1 + (8 + 5 * j)) (w + 1 + (8 + 5 * j) + 1) (w + 1 + (8 + 5 * j) + 2) (w + 1 + (8 + 5 * j) + 3) (w + 1 + (8 + 5 * j) + 4) := ⟨⟨by omega, by rw [s0]⟩, r2.1, r2.2, ⟨⟨by omega, by rw [s1]⟩, p2.1, by omega, s2⟩, ⟨⟨by omega, by rw [s3]⟩, p2.2, by omega, s4⟩, by omega⟩
    rw [show w + 1 + (8 + 5 * j) + 1 = w + 10 + 5 * j by omega, show w + 1 + (8 + 5 * j) + 2 = w + 11 + 5 * j by omega, show w + 1 + (8 + 5 * j) + 3 = w + 12 + 5 * j by omega, show w + 1 + (8 + 5 * j) + 4 = w + 13 + 5 * j by omega] at ro
    rw [eo] at ro ⊢
    have e := ih (j + 1) (x1 + 1) _ (nz_inc hx (by omega)) (by omega) (g.uR (by omega)) (i2.addR ro)
    rw [show 8 + 5 * (j + 1) = 8 + 5 * j + 5 by omega] at e
    exact e
end
def zK0 : zK := ((0, fun _ => (fun _ => (0, 1), fun _ => (0, 1))), (0, fun _ => (0, 0, (0, 1), fun _ => 0, fun _ => 0, fun _ => (0, 1))), (fun _ => (0, fun _ => ((0, 1), 0, 0))), (0, 0, fun _ => (0, 0, 0, (0, 1))), 0)
theorem wsI.shp {h : jv_H} {w : Nat} (F : wsF w) (i : wsI h w 6 6 3) : SHP h w := ⟨⟨by have := F.1.1; omega, by rw [F.1.2]⟩, F.1.1, i.1.1, i.1.2.1, i.1.2.2.1, i.1.2.2.2, F.2.1, fun k hk => (i.2.2.2.1 k hk).1, fun k hk => (i.2.2.2.2.1 k hk).1, fun k hk => (i.2.2.2.2.2 k hk).1, fun k hk => (i.2.2.2.1 k hk).2, fun k hk => (i.2.2.2.2.1 k hk).2, fun k hk => (i.2.2.2.2.2 k hk).2.1, i.2.1⟩
theorem wsI.ck {h : jv_H} {w : Nat} (i : wsI h w 6 6 3) : CK h w zK0 := by
  obtain ⟨i1, i2, ⟨z4, z5, z6, y4, y5⟩, i4, i5, i6⟩ := i
  refine ⟨⟨by rw [z4]; rfl, Nat.zero_le _, fun k hk => absurd hk (Nat.not_lt_zero k)⟩, ⟨by rw [z5]; rfl, Nat.zero_le _, fun k hk => absurd hk (Nat.not_lt_zero k)⟩, fun s hs => ⟨by rw [(i6 s hs).2.2]; rfl, Nat.zero_le _, fun k hk => absurd hk (Nat.not_lt_zero k)⟩, ⟨by rw [y4]; rfl, y5, Nat.zero_le _, fun k hk => absurd hk (Nat.not_lt_zero k)⟩, z6⟩
theorem i_Workshop (X : jv_X) (d w : Nat) (F : wsF w) (K : jv_H → Prop) (h : jv_H) (hK : ∀ h', oF w (w + 75) h h' → wsI h' w 6 6 3 → K h') : jV X (d + 4) y_Workshop_init [.ref w] (w + 1) h K := by
  have hw := F.1.1
  have e0 : (SHT w).1 = 18 := by rw [F.1.2]
  obtain ⟨s1, s2, s3⟩ := F.2.1
  obtain ⟨t0, t1, t2, t3, t4⟩ := F.2.2.1
  have S8 := F.2.2.2.2.2.2.1 0 (by omega)
  have S1 : jv_S SHT (w + 1 + 1) = jv_S SHT (w + 1) + 6 := by rw [jv_S_succ, s1]
  have S2 : jv_S SHT (w + 1 + 2) = jv_S SHT (w + 1 + 1) + 6 := by rw [show w + 1 + 2 = (w + 2) + 1 from rfl, jv_S_succ, s2]
  have S3 : jv_S SHT (w + 1 + 3) = jv_S SHT (w + 1 + 2) + 3 := by rw [show w + 1 + 3 = (w + 3) + 1 from rfl, jv_S_succ, s3]
  have S4 : jv_S SHT (w + 1 + 4) = jv_S SHT (w + 1 + 3) + 6 := by rw [show w + 1 + 4 = (w + 4) + 1 from rfl, jv_S_succ, t0]
  have e6 : (6 : Int32).toNatClampNeg = 6 := rfl
  have e3 : (3 : Int32).toNatClampNeg = 3 := rfl
  refine r_Workshop_init X (d + 2) (w + 1) _ w h ⟨⟨by decide, s1, by decide, by decide, by decide, by show jv_S SHT (w + 1) + 6 ≤ _; omega⟩, ⟨by omega, e0⟩, by omega, ⟨by decide, s2, by decide, by decide, by decide, by rw [e6]; omega⟩, ⟨by omega, e0⟩, by omega, ⟨by decide, s3, by decide, by decide, by decide, by rw [e3]; omega⟩, ⟨by omega, e0⟩, by omega, ⟨t0, by decide, by omega⟩, by omega, ⟨by decide, by omega⟩, ?_⟩
  refine i_Wants X (d + 1) _ _ (w + 1 + 3) t0 t1 t2 t3 t4 (fun h1 f1 r1 z1 => ⟨⟨by omega, e0⟩, by omega, ⟨by omega, e0⟩, ⟨by omega, e0⟩, ⟨by omega, e0⟩, ?_⟩)
  have g1 : oF w (w + 75) h h1 := (((((((oF.rf.z (by omega)).uR (by omega)).z (by omega)).uR (by omega)).z (by omega)).uR (by omega)).z (by omega)).tr (f1.mono (by omega) (by omega))
  have q0 := (f1 w (by omega)).2.2
  refine wk_r X d w K h F hK 6 0 0 _ rfl rfl ((((g1.uR (by omega)).uI (by omega)).uI (by omega)).uI (by omega)) ⟨⟨?_, ?_, ?_, ?_⟩, ?_, ⟨?_, ?_, uI_eq, ?_, ?_⟩, fun k hk => by omega, fun k hk => by omega, fun k hk => by omega⟩
  · rw [gR_uI, gR_uI, gR_uI, gR_uR, if_neg (by omega), q0]
    simp [gR_uR, gR_z] <;> omega
  · rw [gR_uI, gR_uI, gR_uI, gR_uR, if_neg (by omega), q0]
    simp [gR_uR, gR_z] <;> omega
  · rw [gR_uI, gR_uI, gR_uI, gR_uR, if_neg (by omega), q0]
    simp [gR_uR, gR_z] <;> omega
  · rw [gR_uI, gR_uI, gR_uI, gR_uR, if_pos ⟨rfl, rfl⟩]
  · exact WO.mvr (h := h1) ⟨⟨by omega, by rw [t0]⟩, r1.1, r1.2.1, r1.2.2.1, r1.2.2.2, by omega, t1, t2, t3, t4⟩ (uR_ne (by omega))
  · rw [uI_ne (by omega), uI_ne (by omega), uI_eq]
  · rw [uI_ne (by omega), uI_eq]
  · rw [uI_ne (by omega), uI_ne (by omega), uI_ne (by omega)]
    exact z1.1
  · rw [uI_ne (by omega), uI_ne (by omega), uI_ne (by omega)]
    exact z1.2
