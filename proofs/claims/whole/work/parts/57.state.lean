/-! ===== holders; the class's whole state; what each call answers and leaves ===== -/
/-- what is held: content, size, numbers; sort, shunt, value -/
def zH : Type := Int32 × Nat × (Nat → Int64) × Int32 × Int32 × (Int × Int)
def zH.ct (H : zH) : Int32 := H.1
def zH.sz (H : zH) : Nat := H.2.1
def zH.nu (H : zH) : Nat → Int64 := H.2.2.1
def zH.so (H : zH) : Int32 := H.2.2.2.1
def zH.sh (H : zH) : Int32 := H.2.2.2.2.1
def zH.va (H : zH) : Int × Int := H.2.2.2.2.2
def HO (h : jv_H) (o : Nat) : Prop := jv_is SHT 227 o 12 ∧ h.2.2 o 0 = some (o + 1) ∧ o + 1 < 227 ∧ SHT (o + 1) = (1, 40)
def CH (h : jv_H) (o : Nat) (H : zH) : Prop := h.1 o 1 = H.ct ∧ (H.ct = 0 ∨ H.ct = 1 ∨ H.ct = 2) ∧ (H.ct = 2 → (h.1 o 2).toInt = H.sz ∧ H.sz ≤ 40 ∧ ∀ i, i < H.sz → h.2.1 (o + 1) i = H.nu i) ∧ (H.ct = 1 → h.1 o 3 = H.so ∧ h.1 o 4 = H.sh ∧ h.2.1 o 5 = fz_p H.va ∧ fz_r H.va ∧ (H.sh = 0 ∨ H.sh = 1))
theorem CH.mv {h h' : jv_H} {o : Nat} {H : zH} {S : Nat → Prop} (c : CH h o H) (a : oR S h h') (h0 : ¬ S o) (h1 : ¬ S (o + 1)) : CH h' o H := by
  obtain ⟨c1, c2, c3, c4⟩ := c
  have a0 := a.2 o h0
  have a1 := a.2 (o + 1) h1
  exact ⟨by rw [a0.1]; exact c1, c2, fun e => by rw [a0.1, a1.2]; exact c3 e, fun e => by rw [a0.1, a0.2]; exact c4 e⟩
/-- tape, workshop, image, holders -/
def zZ : Type := (Nat × (Nat → Int32)) × zK × Option zK × (Nat → zH)
def zZ.tn (Z : zZ) : Nat := Z.1.1
def zZ.T (Z : zZ) : Nat → Int32 := Z.1.2
def zZ.k (Z : zZ) : zK := Z.2.1
def zZ.im (Z : zZ) : Option zK := Z.2.2.1
def zZ.H (Z : zZ) : Nat → zH := Z.2.2.2
def zZ.sk (Z : zZ) (K : zK) : zZ := (Z.1, K, Z.2.2)
def zZ.wp (Z : zZ) : zZ := ((0, Z.T), Z.2)
def zZ.sH (Z : zZ) (i : Nat) (H : zH) : zZ := (Z.1, Z.k, Z.im, fun k => if k = i then H else Z.H k)
def SHc (h : jv_H) : Prop := (h.2.2 0 0 = some 1 ∧ h.2.2 0 1 = some 3 ∧ h.2.2 0 2 = some 8 ∧ h.2.2 0 3 = some 83 ∧ h.2.2 0 4 = some 158) ∧ TO 227 h ∧ (∃ pa pb, DV 227 h pa pb) ∧ SHP h 8 ∧ SHP h 83 ∧ ∀ k, k < 6 → h.2.2 158 k = some (159 + 2 * k) ∧ HO h (159 + 2 * k)
def CT (h : jv_H) (Z : zZ) : Prop := ((h.1 1 1).toInt = Z.tn ∧ Z.tn ≤ 100 ∧ ∀ i, i < Z.tn → h.1 2 i = Z.T i) ∧ CK h 8 Z.k ∧ (h.1 0 5 = if Z.im.isSome then 1 else 0) ∧ (∀ K, Z.im = some K → CK h 83 K) ∧ ∀ k, k < 6 → CH h (159 + 2 * k) (Z.H k)
def CS (h : jv_H) (Z : zZ) : Prop := SHc h ∧ CT h Z
/-- a call of the class leaves the reference alone -/
def oC (h h' : jv_H) : Prop := ∀ q, 171 ≤ q → h'.1 q = h.1 q ∧ h'.2.1 q = h.2.1 q ∧ h'.2.2 q = h.2.2 q
theorem oC.rf {h : jv_H} : oC h h := fun _ _ => ⟨rfl, rfl, rfl⟩
theorem oR.C {S : Nat → Prop} {h h' : jv_H} (a : oR S h h') (hs : ∀ q, S q → q < 171) : oC h h' := fun q hq => ⟨(a.2 q (fun z => by have := hs q z; omega)).1, (a.2 q (fun z => by have := hs q z; omega)).2, a.1 q (by omega)⟩
theorem SHc.mv {h h' : jv_H} {S : Nat → Prop} (s : SHc h) (a : oS S h h') : SHc h' := by
  obtain ⟨s1, s2, ⟨pa, pb, s3⟩, s4, s5, s6⟩ := s
  refine ⟨by rw [a.1]; exact s1, s2.mv a, ⟨pa, pb, s3.mv a⟩, s4.mv a, s5.mv a, fun k hk => ⟨by rw [a.1]; exact (s6 k hk).1, (s6 k hk).2.1, by rw [a.1]; exact (s6 k hk).2.2.1, (s6 k hk).2.2.2⟩⟩
theorem SHc.mvR {h h' : jv_H} {S : Nat → Prop} (s : SHc h) (a : oR S h h') (v : ∃ pa pb, DV 227 h' pa pb) : SHc h' := by
  obtain ⟨s1, s2, _, s4, s5, s6⟩ := s
  refine ⟨by rw [a.1 0 (by decide)]; exact s1, ⟨s2.1, by rw [a.1 1 (by decide)]; exact s2.2.1, s2.2.2⟩, v, s4.mvr a.1, s5.mvr a.1, fun k hk => ⟨by rw [a.1 158 (by decide)]; exact (s6 k hk).1, (s6 k hk).2.1, by rw [a.1 _ (by omega)]; exact (s6 k hk).2.2.1, (s6 k hk).2.2.2⟩⟩
theorem CS.s8 {h : jv_H} {Z : zZ} (c : CS h Z) : SHP h 8 := c.1.2.2.2.1
theorem CS.s83 {h : jv_H} {Z : zZ} (c : CS h Z) : SHP h 83 := c.1.2.2.2.2.1
theorem CS.k {h : jv_H} {Z : zZ} (c : CS h Z) : CK h 8 Z.k := c.2.2.1
theorem CS.m0 {h : jv_H} {Z : zZ} (c : CS h Z) : h.2.2 0 0 = some 1 := c.1.1.1
theorem CS.m1 {h : jv_H} {Z : zZ} (c : CS h Z) : h.2.2 0 1 = some 3 := c.1.1.2.1
theorem CS.m2 {h : jv_H} {Z : zZ} (c : CS h Z) : h.2.2 0 2 = some 8 := c.1.1.2.2.1
theorem CS.m3 {h : jv_H} {Z : zZ} (c : CS h Z) : h.2.2 0 3 = some 83 := c.1.1.2.2.2.1
theorem CS.m4 {h : jv_H} {Z : zZ} (c : CS h Z) : h.2.2 0 4 = some 158 := c.1.1.2.2.2.2
theorem CS.to {h : jv_H} {Z : zZ} (c : CS h Z) : TO 227 h := c.1.2.1
theorem CS.dv {h : jv_H} {Z : zZ} (c : CS h Z) : ∃ pa pb, DV 227 h pa pb := c.1.2.2.1
theorem CS.ho {h : jv_H} {Z : zZ} (c : CS h Z) {k : Nat} (hk : k < 6) : h.2.2 158 k = some (159 + 2 * k) ∧ HO h (159 + 2 * k) := c.1.2.2.2.2.2 k hk
theorem CS.ch {h : jv_H} {Z : zZ} (c : CS h Z) {k : Nat} (hk : k < 6) : CH h (159 + 2 * k) (Z.H k) := c.2.2.2.2.2 k hk
theorem CS.tp {h : jv_H} {Z : zZ} (c : CS h Z) : (h.1 1 1).toInt = Z.tn ∧ Z.tn ≤ 100 ∧ ∀ i, i < Z.tn → h.1 2 i = Z.T i := c.2.1
theorem is0 : jv_is SHT 227 0 19 := ⟨by decide, rfl⟩
/-- the workshop changes, no more than that -/
theorem CS.updR {h h' : jv_H} {Z : zZ} {K : zK} {S : Nat → Prop} (c : CS h Z) (s : SHc h') (a : oR S h h') (hS : ∀ q, S q → q = 3 ∨ q = 5 ∨ q = 7 ∨ (8 ≤ q ∧ q < 83)) (ck : CK h' 8 K) : CS h' (Z.sk K) := by
  obtain ⟨c0, ⟨t1, t2, t3⟩, c2, c3, c4, c5⟩ := c
  have n0 : ∀ q, q = 0 ∨ q = 1 ∨ q = 2 ∨ 83 ≤ q → ¬ S q := fun q hq z => by have := hS q z; omega
  refine ⟨s, ⟨by rw [(a.2 1 (n0 _ (by omega))).1]; exact t1, t2, fun i hi => by rw [(a.2 2 (n0 _ (by omega))).1]; exact t3 i hi⟩, ck, by rw [(a.2 0 (n0 _ (by omega))).1]; exact c3, fun K' hK' => ?_, fun k hk => (c5 k hk).mv a (n0 _ (by omega)) (n0 _ (by omega))⟩
  have c6 := c4 K' hK'
  exact c6.mv a (fun q u => n0 q (by have := us_b c6.mr c6.ml u; omega))
theorem CS.upd {h h' : jv_H} {Z : zZ} {K : zK} {S : Nat → Prop} (c : CS h Z) (a : oS S h h') (hS : ∀ q, S q → 8 ≤ q ∧ q < 83) (ck : CK h' 8 K) : CS h' (Z.sk K) := c.updR (c.1.mv a) a.R (fun q z => by have := hS q z; omega) ck
/-- the tape goes, the workshop changes -/
theorem CS.updT {h h' : jv_H} {Z : zZ} {K : zK} {S : Nat → Prop} (c : CS h Z) (a : oS S h h') (hS : ∀ q, S q → q = 1 ∨ (8 ≤ q ∧ q < 83)) (tz : (h'.1 1 1).toInt = 0) (ck : CK h' 8 K) : CS h' (Z.wp.sk K) := by
  obtain ⟨c0, ⟨t1, t2, t3⟩, c2, c3, c4, c5⟩ := c
  have n0 : ∀ q, q = 0 ∨ q = 2 ∨ 83 ≤ q → ¬ S q := fun q hq z => by have := hS q z; omega
  refine ⟨c0.mv a, ⟨tz, Nat.zero_le _, fun i hi => absurd hi (Nat.not_lt_zero _)⟩, ck, by rw [(a.2 0 (n0 _ (by omega))).1]; exact c3, fun K' hK' => ?_, fun k hk => (c5 k hk).mv a.R (n0 _ (by omega)) (n0 _ (by omega))⟩
  have c6 := c4 K' hK'
  exact c6.mv a.R (fun q u => n0 q (by have := us_b c6.mr c6.ml u; omega))
/-- a holder changes -/
theorem CS.updH {h h' : jv_H} {Z : zZ} {i : Nat} {H : zH} (c : CS h Z) (hi : i < 6) (a : oS (fun q => q = 159 + 2 * i ∨ q = 159 + 2 * i + 1) h h') (ch : CH h' (159 + 2 * i) H) : CS h' (Z.sH i H) := by
  obtain ⟨c0, ⟨t1, t2, t3⟩, c2, c3, c4, c5⟩ := c
  refine ⟨c0.mv a, ⟨by rw [(a.2 1 (by omega)).1]; exact t1, t2, fun j hj => by rw [(a.2 2 (by omega)).1]; exact t3 j hj⟩, c2.mv a.R (fun q u => by have := us_b c2.mr c2.ml u; omega), by rw [(a.2 0 (by omega)).1]; exact c3, fun K' hK' => ?_, fun k hk => ?_⟩
  · have c6 := c4 K' hK'
    exact c6.mv a.R (fun q u => by have := us_b c6.mr c6.ml u; omega)
  · show CH h' _ (if k = i then H else Z.H k)
    by_cases e : k = i
    · rw [if_pos e, e]; exact ch
    · rw [if_neg e]; exact (c5 k hk).mv a.R (by omega) (by omega)
/-- what a call answers and leaves: of the class -/
def cI (h : jv_H) (R : Int × zZ) (K : Int32 → jv_H → Prop) : Prop := ∀ z : Int32, z.toInt = R.1 → ∀ h', oC h h' → CS h' R.2 → K z h'
def cJ (h : jv_H) (R : Int × zZ) (K : Int64 → jv_H → Prop) : Prop := ∀ z : Int64, z.toInt = R.1 → ∀ h', oC h h' → CS h' R.2 → K z h'
def NOx : Int := -9223372036854775808
abbrev isR (Z : zZ) (x : Int32) : Prop := 0 ≤ x.toInt ∧ x.toInt < (Z.k.nr : Int)
abbrev isL (Z : zZ) (x : Int32) : Prop := 0 ≤ x.toInt ∧ x.toInt < (Z.k.nl : Int)
abbrev tol (a b : Int32) : Prop := (1 ≤ a.toInt ∧ a.toInt ≤ 9999) ∧ 1 ≤ b.toInt ∧ b.toInt ≤ 9999
abbrev wi (x : Int32) (a b : Int) : Prop := a ≤ x.toInt ∧ x.toInt ≤ b
def zZ.R (Z : zZ) (x : Int32) : zP := Z.k.R x.toNatClampNeg
def zZ.L (Z : zZ) (x : Int32) : zL := Z.k.L x.toNatClampNeg
def zZ.B (Z : zZ) (x : Int32) : zB := Z.k.B x.toNatClampNeg
def fbc (v x : Int32) : Int32 := (v.toUInt32 >>> ((8 * x).toUInt32 &&& Int32.toUInt32 31)).toInt32 &&& 255
def fed (v : Int32) : Nat → Nat × (Nat → Int32) → Nat × (Nat → Int32)
  | 0, t => t
  | k + 1, t => fed v k (t.1 + 1, fun i => if i = t.1 then fbc v (Int32.ofNat k) else t.2 i)
def q_feed (v n : Int32) (Z : zZ) : Int × zZ := if wi n 1 4 then (if (100 : Int) < Z.tn + n.toInt then (-3, Z) else (((fed v n.toNatClampNeg Z.1).1 : Int), (fed v n.toNatClampNeg Z.1, Z.2))) else (-1, Z)
def q_wipe (Z : zZ) : Int × zZ := (Z.tn, Z.wp)
def q_ratio (Z : zZ) : Int × zZ := if Z.k.nr = 6 then (-3, Z) else match rrat Z.T Z.tn with
  | .inl e => (-1000 - (e : Int), Z.wp)
  | .inr q => if pz_hi (fun i => (q.1 i, 1)) 13 < 0 ∨ pz_hi (fun i => (q.2 i, 1)) 13 < 0 then (-2, Z.wp) else (Z.k.nr, Z.wp.sk (Z.k.addR (fun i => (q.1 i, 1), fun i => (q.2 i, 1))))
def q_ladder (Z : zZ) : Int × zZ := if Z.k.nl = 6 then (-3, Z) else match rlad Z.T Z.tn with
  | .inl e => (-1000 - (e : Int), Z.wp)
  | .inr M => (Z.k.nl, Z.wp.sk (Z.k.addL M))
def q_degree (x w : Int32) (Z : zZ) : Int × zZ := if isR Z x ∧ wi w 0 3 then (if w.toInt = 0 then pz_hi (Z.R x).1 13 else if w.toInt = 1 then pz_lo (Z.R x).1 13 0 else if w.toInt = 2 then pz_hi (Z.R x).2 13 else pz_lo (Z.R x).2 13 0, Z) else (-1, Z)
def q_coef (x s p a : Int32) (Z : zZ) : Int × zZ := if isR Z x ∧ wi s 0 1 ∧ wi p 0 12 then (fz_tell (pz_at (if s = 0 then (Z.R x).1 else (Z.R x).2) p.toInt) a.toInt, Z) else (NOx, Z)
def q_same (x y : Int32) (Z : zZ) : Int × zZ := if isR Z x ∧ isR Z y then (pz_same (Z.R x).1 (Z.R x).2 (Z.R y).1 (Z.R y).2 25 0, Z) else (-1, Z)
noncomputable def q_divide (x f : Int32) (Z : zZ) : Int × zZ := if isR Z x ∧ wi f 0 1 then (if Z.k.nl = 6 then (-3, Z) else match dv (if f = 0 then 1 else 0) 13 (Z.R x).1 (Z.R x).2 0 z0L with
  | .inl e => (e, Z)
  | .inr M => (Z.k.nl, Z.sk (Z.k.addL M))) else (-1, Z)
def q_invert (x : Int32) (Z : zZ) : Int × zZ := if isR Z x then (if Z.k.nr = 6 then (-3, Z) else (Z.k.nr, Z.sk (Z.k.addR ((Z.R x).2, (Z.R x).1)))) else (-1, Z)
noncomputable def q_stretch (x a b c e : Int32) (Z : zZ) : Int × zZ := if isR Z x ∧ tol a b ∧ tol c e then (if Z.k.nr = 6 then (-3, Z) else
  cif (noW (pz_pow (Z.R x).1 (fz_of a.toInt b.toInt)) ∧ noW (pz_pow (Z.R x).2 (fz_of a.toInt b.toInt)) ∧ noW (pz_grow (pz_pow (Z.R x).1 (fz_of a.toInt b.toInt)) (fz_of c.toInt e.toInt) 0)) ((Z.k.nr : Int), Z.sk (Z.k.addR (pz_grow (pz_pow (Z.R x).1 (fz_of a.toInt b.toInt)) (fz_of c.toInt e.toInt) 0, pz_pow (Z.R x).2 (fz_of a.toInt b.toInt)))) (-6, Z)) else (-1, Z)
def q_shift (x a b : Int32) (Z : zZ) : Int × zZ := if isR Z x ∧ tol a b then (if Z.k.nr = 6 then (-3, Z) else match pz_mv (Z.R x).1 (fz_of a.toInt b.toInt), pz_mv (Z.R x).2 (fz_of a.toInt b.toInt) with
  | some f, some g => (Z.k.nr, Z.sk (Z.k.addR (f, g)))
  | _, _ => (-6, Z)) else (-1, Z)
def q_parts (x : Int32) (Z : zZ) : Int × zZ := if isL Z x then ((Z.L x).sz, Z) else (-1, Z)
def q_end (x : Int32) (Z : zZ) : Int × zZ := if isL Z x then ((Z.L x).en.toInt, Z) else (-1, Z)
abbrev hasP (L : zL) (k : Int32) : Prop := 0 ≤ k.toInt ∧ k.toInt < (L.sz : Int)
def q_part (x k w : Int32) (Z : zZ) : Int × zZ := if isL Z x ∧ hasP (Z.L x) k ∧ wi w 0 1 then ((if w = 0 then (Z.L x).so k.toNatClampNeg else (Z.L x).sh k.toNatClampNeg).toInt, Z) else (-1, Z)
def q_value (x k p : Int32) (Z : zZ) : Int × zZ := if isL Z x then (if k = -1 then (if (Z.L x).en = 2 then (fz_tell (Z.L x).lo p.toInt, Z) else (NOx, Z)) else if hasP (Z.L x) k then (fz_tell ((Z.L x).va k.toNatClampNeg) p.toInt, Z) else (NOx, Z)) else (NOx, Z)
noncomputable def q_mult (x : Int32) (Z : zZ) : Int × zZ := if isL Z x then (if Z.k.nr = 6 then (-3, Z) else match (Z.L x).mo (Z.L x).sz (Z.L x).m0 with
  | none => (-6, Z)
  | some P => if pz_hi P.1 13 < 0 ∨ pz_hi P.2 13 < 0 then (-2, Z) else (Z.k.nr, Z.sk (Z.k.addR P))) else (-1, Z)
def q_close (x e a b : Int32) (Z : zZ) : Int × zZ := if isL Z x ∧ wi e 0 2 ∧ (¬ e = 2 ∨ tol a b) then ((Z.L x).en.toInt, Z.sk (Z.k.setL x.toNatClampNeg ((Z.L x).fin e (if e = 2 then fz_of a.toInt b.toInt else (0, 1))))) else (-1, Z)
noncomputable def q_scale (x a b c e : Int32) (Z : zZ) : Int × zZ := if isL Z x ∧ tol a b ∧ tol c e then (if Z.k.nl = 6 then (-3, Z) else cif ((Z.L x).scl (fz_of a.toInt b.toInt) (fz_of c.toInt e.toInt)).fits ((Z.k.nl : Int), Z.sk (Z.k.addL ((Z.L x).scl (fz_of a.toInt b.toInt) (fz_of c.toInt e.toInt)))) (-6, Z)) else (-1, Z)
noncomputable def q_band (x a b c e : Int32) (Z : zZ) : Int × zZ := if isL Z x ∧ tol a b ∧ tol c e then (if Z.k.nl = 6 then (-3, Z) else cif (Z.L x).cw (if 12 < (Z.L x).sz + (Z.L x).cr (Z.L x).sz then (-300, Z) else match lf (bd_st (Z.L x) (fz_of a.toInt b.toInt) (fz_of c.toInt e.toInt)) (Z.L x).sz ((Z.L x).cut 0) with
  | none => (-6, Z)
  | some B => (Z.k.nl, Z.sk (Z.k.addL B))) (-5, Z)) else (-1, Z)
noncomputable def q_dull (x a b : Int32) (Z : zZ) : Int × zZ := if isL Z x ∧ tol a b then (if Z.k.nl = 6 then (-3, Z) else cif (Z.L x).cw (if 12 < (Z.L x).sz + (Z.L x).cr (Z.L x).sz then (-300, Z) else match lf (dl_st (Z.L x) (fz_of a.toInt b.toInt)) (Z.L x).sz ((Z.L x).cut 0) with
  | none => (-6, Z)
  | some B => (Z.k.nl, Z.sk (Z.k.addL B))) (-5, Z)) else (-1, Z)
def q_turn (x : Int32) (Z : zZ) : Int × zZ := if isL Z x then (if Z.k.nl = 6 then (-3, Z) else (Z.k.nl, Z.sk (Z.k.addL (Z.L x).trn))) else (-1, Z)
noncomputable def q_fit (x : Int32) (Z : zZ) : Int × zZ := if isL Z x then (if Z.k.nl = 6 then (-3, Z) else cif ((Z.L x).fitb Z.k.B) ((Z.k.nl : Int), Z.sk (Z.k.addL ((Z.L x).fitd Z.k.B))) (-2, Z)) else (-1, Z)
def q_forget (x : Int32) (Z : zZ) : Int × zZ := if wi x 0 1 then (if x = 0 then (Z.k.nr, Z.sk Z.k.noR) else (Z.k.nl, Z.sk Z.k.noL)) else (-1, Z)
def q_worth (x a b p : Int32) (Z : zZ) : Int × zZ := if isL Z x ∧ tol a b then (fz_tell ((Z.L x).wo 0 (fz_of a.toInt b.toInt) (Z.L x).sz (Z.L x).we) p.toInt, Z) else (NOx, Z)
abbrev lossl (L : zL) : Prop := L.en ≠ 2 ∧ L.cr L.sz = L.sz
def q_react (x a b p : Int32) (Z : zZ) : Int × zZ := if isL Z x ∧ tol a b ∧ lossl (Z.L x) then (fz_tell ((Z.L x).wo 1 (fz_of a.toInt b.toInt) (Z.L x).sz (Z.L x).we) p.toInt, Z) else (NOx, Z)
abbrev knd (z : Int × Int) (w : Int32) : Prop := if w = 1 then z = (1, 0) else if w = 0 then z = (0, 1) else z.1 < 0
def frs (L : zL) (w : Int32) : Nat → Nat → Int
  | 0, _ => -2
  | m + 1, k => if L.wo 1 (fz_of k 1) L.sz L.we = (-1, 0) then -6 else if knd (L.wo 1 (fz_of k 1) L.sz L.we) w then (k : Int) else frs L w m (k + 1)
def q_first (x w : Int32) (Z : zZ) : Int × zZ := if isL Z x ∧ wi w 0 2 then (if lossl (Z.L x) then (frs (Z.L x) w 40 1, Z) else (-5, Z)) else (-1, Z)
def q_stock (s a b c p : Int32) (Z : zZ) : Int × zZ := if wi s 0 2 ∧ tol a b ∧ wi c 0 99 ∧ wi p 1 99 then (match (Z.B s).st (fz_of a.toInt b.toInt) c p with
  | none => (-3, Z)
  | some B => (B.n, Z.sk (Z.k.setB s.toNatClampNeg B))) else (-1, Z)
def q_bin (s k w : Int32) (Z : zZ) : Int × zZ := if wi s 0 2 ∧ wi w 0 3 ∧ 0 ≤ k.toInt then (if k.toInt < ((Z.B s).n : Int) then (if w.toInt = 0 then ((Z.B s).e k.toNatClampNeg).2.1.toInt else if w.toInt = 1 then ((Z.B s).e k.toNatClampNeg).2.2.toInt else if w.toInt = 2 then ((Z.B s).e k.toNatClampNeg).1.1 else ((Z.B s).e k.toNatClampNeg).1.2, Z) else (-2, Z)) else (-1, Z)
def q_near (s a b p : Int32) (Z : zZ) : Int × zZ := if wi s 0 2 ∧ tol a b then (if (Z.B s).n = 0 then (NOx, Z) else (fz_tell ((Z.B s).e ((Z.B s).nr (fz_of a.toInt b.toInt) ((Z.B s).n - 1) 1 0)).1 p.toInt, Z)) else (NOx, Z)
noncomputable def q_build (x u : Int32) (Z : zZ) : Int × zZ := if isL Z x ∧ wi u 0 9 then (if 24 < Z.k.w.n + lacn Z.k.B (Z.L x) (Z.L x).sz then (-3, Z) else (lacn Z.k.B (Z.L x) (Z.L x).sz, Z.sk (Z.k.spn (Z.L x) u (Z.L x).sz))) else (-1, Z)
def q_arrive (x : Int32) (Z : zZ) : Int × zZ := if wi x 1 24 then (Z.k.w.gn x.toInt, Z.sk (Z.k.setW (Z.k.w.rm (Z.k.w.gn x.toInt)))) else (-1, Z)
def q_want (k w : Int32) (Z : zZ) : Int × zZ := if 0 ≤ k.toInt ∧ wi w 0 4 then (if k.toInt < (Z.k.w.n : Int) then (if w.toInt = 0 then (Z.k.w.e k.toNatClampNeg).1.toInt else if w.toInt = 1 then (Z.k.w.e k.toNatClampNeg).2.1.toInt else if w.toInt = 2 then (Z.k.w.e k.toNatClampNeg).2.2.1.toInt else if w.toInt = 3 then (Z.k.w.e k.toNatClampNeg).2.2.2.1 else (Z.k.w.e k.toNatClampNeg).2.2.2.2, Z) else (-2, Z)) else (-1, Z)
def q_cost (x : Int32) (Z : zZ) : Int × zZ := if isL Z x then (match prc Z.k.B (Z.L x) (Z.L x).sz 0 0 with
  | none => (-2, Z)
  | some z => (z.toInt, Z)) else (-1, Z)
def q_unlike (s k p : Int32) (Z : zZ) : Int × zZ := if wi s 0 2 ∧ -1 ≤ k.toInt ∧ wi p 0 1 then (if k = -1 then (Z.k.uc s 72 0, Z) else if Z.k.un s k.toNatClampNeg = (0, 1) then (NOx, Z) else (fz_tell (Z.k.un s k.toNatClampNeg) p.toInt, Z)) else (NOx, Z)
def q_hold (i x k : Int32) (Z : zZ) : Int × zZ := if wi i 0 5 ∧ isL Z x ∧ hasP (Z.L x) k then (((Z.L x).so k.toNatClampNeg).toInt, Z.sH i.toNatClampNeg (1, 0, (fun _ => 0), (Z.L x).so k.toNatClampNeg, (Z.L x).sh k.toNatClampNeg, (Z.L x).va k.toNatClampNeg)) else (-1, Z)
def zZ.h (Z : zZ) (i : Int32) : zH := Z.H i.toNatClampNeg
def q_drop (i : Int32) (Z : zZ) : Int × zZ := if wi i 0 5 then ((Z.h i).ct.toInt, Z.sH i.toNatClampNeg (0, (Z.h i).2)) else (-1, Z)
def q_taken (i k : Int32) (Z : zZ) : Int × zZ := if wi i 0 5 ∧ wi k 0 3 then (if (Z.h i).ct = 0 then (-11, Z) else if (Z.h i).ct = 1 ∧ (k.toInt = 0 ∨ k.toInt = (Z.h i).so.toInt + 1) then (if k.toInt = 0 then 10 * (Z.h i).so.toInt + (Z.h i).sh.toInt else if k.toInt = 1 then (Z.h i).va.1 else if k.toInt = 2 then (Z.h i).va.2 else (Z.h i).va.1 + (Z.h i).va.2, Z) else (-12, Z)) else (-1, Z)
def q_row (i n : Int32) (Z : zZ) : Int × zZ := if wi i 0 5 ∧ n.toInt ≤ 40 then (if 0 ≤ n.toInt then (n.toInt, Z.sH i.toNatClampNeg (2, n.toNatClampNeg, (fun _ => 0), 0, 0, (0, 1))) else (-14, Z)) else (-1, Z)
def zH.set (H : zH) (j : Nat) (v : Int64) : zH := (H.ct, H.sz, (fun k => if k = j then v else H.nu k), H.2.2.2)
abbrev inH (H : zH) (j : Int32) : Prop := 0 ≤ j.toInt ∧ j.toInt < (H.sz : Int)
def q_put (i j : Int32) (v : Int64) (Z : zZ) : Int × zZ := if wi i 0 5 then (if (Z.h i).ct = 2 then (if inH (Z.h i) j then (1, Z.sH i.toNatClampNeg ((Z.h i).set j.toNatClampNeg v)) else (-13, Z)) else if (Z.h i).ct = 0 then (-11, Z) else (-12, Z)) else (-1, Z)
def q_get (i j : Int32) (Z : zZ) : Int × zZ := if wi i 0 5 ∧ (Z.h i).ct = 2 ∧ inH (Z.h i) j then (((Z.h i).nu j.toNatClampNeg).toInt, Z) else (NOx, Z)
def zH.cpy (H G : zH) (i j n : Nat) : zH := (H.ct, H.sz, (fun k => if j ≤ k ∧ k < j + n then G.nu (i + (k - j)) else H.nu k), H.2.2.2)
abbrev str (H : zH) (i n : Int32) : Prop := 0 ≤ i.toInt ∧ 0 ≤ n.toInt ∧ i.toInt + n.toInt ≤ (H.sz : Int)
def q_copy (a i b j n : Int32) (Z : zZ) : Int × zZ := if wi a 0 5 ∧ wi b 0 5 then (if (Z.h a).ct = 0 ∨ (Z.h b).ct = 0 then (-11, Z) else if ¬ (Z.h a).ct = 2 ∨ ¬ (Z.h b).ct = 2 then (-12, Z) else if str (Z.h a) i n ∧ str (Z.h b) j n then (n.toInt, Z.sH b.toNatClampNeg ((Z.h b).cpy (Z.h a) i.toNatClampNeg j.toNatClampNeg n.toNatClampNeg)) else (-13, Z)) else (-1, Z)
def jdg (H : zH) (L : zL) : Nat → Nat → Int
  | 0, _ => if 2 * L.sz < H.sz then (L.sz : Int) else -2
  | m + 1, k => if H.sz ≤ 2 * k + 1 ∨ ¬ (H.nu (2 * k)).toInt = (L.va k).1 ∨ ¬ (H.nu (2 * k + 1)).toInt = (L.va k).2 then (k : Int) else jdg H L m (k + 1)
def q_judge (i x : Int32) (Z : zZ) : Int × zZ := if wi i 0 5 ∧ isL Z x then (if (Z.h i).ct = 2 then (jdg (Z.h i) (Z.L x) (Z.L x).sz 0, Z) else if (Z.h i).ct = 0 then (-11, Z) else (-12, Z)) else (-1, Z)
def q_image (Z : zZ) : Int × zZ := (Z.k.nl, (Z.1, Z.k, some Z.k, Z.H))
def q_undo (Z : zZ) : Int × zZ := match Z.im with
  | none => (-5, Z)
  | some K => (K.nl, Z.sk K)
def q_count (x : Int32) (Z : zZ) : Int × zZ := (if x.toInt = 0 then (Z.tn : Int) else if x.toInt = 1 then (Z.k.nr : Int) else if x.toInt = 2 then (Z.k.nl : Int) else if x.toInt = 3 then (Z.k.w.n : Int) else if x.toInt = 4 then Z.k.sp.toInt else if x.toInt = 5 then Z.k.w.ev.toInt else if x.toInt = 6 ∨ x.toInt = 7 ∨ x.toInt = 8 then ((Z.k.B (x.toInt - 6).toNat).n : Int) else -1, Z)
