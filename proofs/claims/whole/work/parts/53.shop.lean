/-! ===== the workshop of the class: its shape, its state, its small calls ===== -/
def zP : Type := (Nat → Int × Int) × (Nat → Int × Int)
/-- ratios, ladders, bins, wants, spent -/
def zK : Type := (Nat × (Nat → zP)) × (Nat × (Nat → zL)) × (Nat → zB) × zW × Int32
def zK.nr (K : zK) : Nat := K.1.1
def zK.R (K : zK) : Nat → zP := K.1.2
def zK.nl (K : zK) : Nat := K.2.1.1
def zK.L (K : zK) : Nat → zL := K.2.1.2
def zK.B (K : zK) : Nat → zB := K.2.2.1
def zK.w (K : zK) : zW := K.2.2.2.1
def zK.sp (K : zK) : Int32 := K.2.2.2.2
def zK.addR (K : zK) (P : zP) : zK := ((K.nr + 1, fun k => if k = K.nr then P else K.R k), K.2)
def zK.addL (K : zK) (L : zL) : zK := (K.1, (K.nl + 1, fun k => if k = K.nl then L else K.L k), K.2.2)
def zK.setL (K : zK) (i : Nat) (L : zL) : zK := (K.1, (K.nl, fun k => if k = i then L else K.L k), K.2.2)
def zK.noR (K : zK) : zK := ((0, K.R), K.2)
def zK.noL (K : zK) : zK := (K.1, (0, K.L), K.2.2)
def zK.setB (K : zK) (i : Nat) (B : zB) : zK := (K.1, K.2.1, (fun k => if k = i then B else K.B k), K.2.2.2)
def zK.setW (K : zK) (W : zW) : zK := (K.1, K.2.1, K.B, W, K.sp)
theorem LO.mvr {n o : Nat} {h h' : jv_H} (l : LO n h o) (a : h'.2.2 o = h.2.2 o) : LO n h' o := ⟨l.1, by rw [a]; exact l.2.1, by rw [a]; exact l.2.2.1, by rw [a]; exact l.2.2.2.1, l.2.2.2.2⟩
theorem BO.mvr {n o : Nat} {h h' : jv_H} (l : BO n h o) (a : h'.2.2 o = h.2.2 o) : BO n h' o := ⟨l.1, by rw [a]; exact l.2.1, by rw [a]; exact l.2.2.1, by rw [a]; exact l.2.2.2.1, l.2.2.2.2⟩
theorem WO.mvr {n o : Nat} {h h' : jv_H} (l : WO n h o) (a : h'.2.2 o = h.2.2 o) : WO n h' o := ⟨l.1, by rw [a]; exact l.2.1, by rw [a]; exact l.2.2.1, by rw [a]; exact l.2.2.2.1, by rw [a]; exact l.2.2.2.2.1, l.2.2.2.2.2⟩
theorem PO.mvr {n p a : Nat} {h h' : jv_H} (l : PO n h p a) (e : h'.2.2 p = h.2.2 p) : PO n h' p a := ⟨l.1, by rw [e]; exact l.2.1, l.2.2⟩
theorem RO.mvr {n r pa aa pb ab : Nat} {h h' : jv_H} (hr : RO n h r pa aa pb ab) (e1 : h'.2.2 r = h.2.2 r) (e2 : h'.2.2 pa = h.2.2 pa) (e3 : h'.2.2 pb = h.2.2 pb) : RO n h' r pa aa pb ab := ⟨hr.1, by rw [e1]; exact hr.2.1, by rw [e1]; exact hr.2.2.1, hr.2.2.2.1.mvr e2, hr.2.2.2.2.1.mvr e3, hr.2.2.2.2.2⟩
/-- the shape of a workshop at w -/
def SHP (h : jv_H) (w : Nat) : Prop := jv_is SHT 227 w 18 ∧ (8 ≤ w ∧ w + 75 ≤ 158) ∧ h.2.2 w 0 = some (w + 1) ∧ h.2.2 w 1 = some (w + 2) ∧ h.2.2 w 2 = some (w + 3) ∧ h.2.2 w 3 = some (w + 4) ∧ (SHT (w + 1) = (3, 6) ∧ SHT (w + 2) = (4, 6) ∧ SHT (w + 3) = (5, 3)) ∧
  (∀ k, k < 6 → h.2.2 (w + 1) k = some (w + 9 + 5 * k)) ∧ (∀ k, k < 6 → h.2.2 (w + 2) k = some (w + 39 + 4 * k)) ∧ (∀ k, k < 3 → h.2.2 (w + 3) k = some (w + 63 + 4 * k)) ∧
  (∀ k, k < 6 → RO 227 h (w + 9 + 5 * k) (w + 10 + 5 * k) (w + 11 + 5 * k) (w + 12 + 5 * k) (w + 13 + 5 * k)) ∧ (∀ k, k < 6 → LO 227 h (w + 39 + 4 * k)) ∧ (∀ k, k < 3 → BO 227 h (w + 63 + 4 * k)) ∧ WO 227 h (w + 4)
theorem SHP.is {h : jv_H} {w : Nat} (s : SHP h w) : jv_is SHT 227 w 18 := s.1
theorem SHP.bd {h : jv_H} {w : Nat} (s : SHP h w) : 8 ≤ w ∧ w + 75 ≤ 158 := s.2.1
theorem SHP.r0 {h : jv_H} {w : Nat} (s : SHP h w) : h.2.2 w 0 = some (w + 1) := s.2.2.1
theorem SHP.r1 {h : jv_H} {w : Nat} (s : SHP h w) : h.2.2 w 1 = some (w + 2) := s.2.2.2.1
theorem SHP.r2 {h : jv_H} {w : Nat} (s : SHP h w) : h.2.2 w 2 = some (w + 3) := s.2.2.2.2.1
theorem SHP.r3 {h : jv_H} {w : Nat} (s : SHP h w) : h.2.2 w 3 = some (w + 4) := s.2.2.2.2.2.1
theorem SHP.kr {h : jv_H} {w : Nat} (s : SHP h w) {k : Nat} (hk : k < 6) : h.2.2 (w + 1) k = some (w + 9 + 5 * k) := s.2.2.2.2.2.2.2.1 k hk
theorem SHP.kl {h : jv_H} {w : Nat} (s : SHP h w) {k : Nat} (hk : k < 6) : h.2.2 (w + 2) k = some (w + 39 + 4 * k) := s.2.2.2.2.2.2.2.2.1 k hk
theorem SHP.kb {h : jv_H} {w : Nat} (s : SHP h w) {k : Nat} (hk : k < 3) : h.2.2 (w + 3) k = some (w + 63 + 4 * k) := s.2.2.2.2.2.2.2.2.2.1 k hk
theorem SHP.ro {h : jv_H} {w : Nat} (s : SHP h w) {k : Nat} (hk : k < 6) : RO 227 h (w + 9 + 5 * k) (w + 10 + 5 * k) (w + 11 + 5 * k) (w + 12 + 5 * k) (w + 13 + 5 * k) := s.2.2.2.2.2.2.2.2.2.2.1 k hk
theorem SHP.lo {h : jv_H} {w : Nat} (s : SHP h w) {k : Nat} (hk : k < 6) : LO 227 h (w + 39 + 4 * k) := s.2.2.2.2.2.2.2.2.2.2.2.1 k hk
theorem SHP.bo {h : jv_H} {w : Nat} (s : SHP h w) {k : Nat} (hk : k < 3) : BO 227 h (w + 63 + 4 * k) := s.2.2.2.2.2.2.2.2.2.2.2.2.1 k hk
theorem SHP.wo {h : jv_H} {w : Nat} (s : SHP h w) : WO 227 h (w + 4) := s.2.2.2.2.2.2.2.2.2.2.2.2.2
theorem SHP.x0 {h : jv_H} {w k : Nat} {i : Int32} (s : SHP h w) (hi : i.toInt = k) (hk : k < 6) : jv_ix SHT 227 (w + 1) 3 i := jx s.2.2.2.2.2.2.1.1 (by have := s.bd; omega) (by omega) (by omega)
theorem SHP.x1 {h : jv_H} {w k : Nat} {i : Int32} (s : SHP h w) (hi : i.toInt = k) (hk : k < 6) : jv_ix SHT 227 (w + 2) 4 i := jx s.2.2.2.2.2.2.1.2.1 (by have := s.bd; omega) (by omega) (by omega)
theorem SHP.x2 {h : jv_H} {w k : Nat} {i : Int32} (s : SHP h w) (hi : i.toInt = k) (hk : k < 3) : jv_ix SHT 227 (w + 3) 5 i := jx s.2.2.2.2.2.2.1.2.2 (by have := s.bd; omega) (by omega) (by omega)
theorem SHP.mvr {h h' : jv_H} {w : Nat} (s : SHP h w) (a : ∀ q, q ≠ 3 → h'.2.2 q = h.2.2 q) : SHP h' w := by
  have hb := s.bd
  have e0 := a w (by omega)
  refine ⟨s.1, s.2.1, by rw [e0]; exact s.r0, by rw [e0]; exact s.r1, by rw [e0]; exact s.r2, by rw [e0]; exact s.r3, s.2.2.2.2.2.2.1, fun k hk => by rw [a _ (by omega)]; exact s.kr hk, fun k hk => by rw [a _ (by omega)]; exact s.kl hk, fun k hk => by rw [a _ (by omega)]; exact s.kb hk, fun k hk => (s.ro hk).mvr (a _ (by omega)) (a _ (by omega)) (a _ (by omega)), fun k hk => (s.lo hk).mvr (a _ (by omega)), fun k hk => (s.bo hk).mvr (a _ (by omega)), s.wo.mvr (a _ (by omega))⟩
theorem SHP.mv {h h' : jv_H} {w : Nat} {S : Nat → Prop} (s : SHP h w) (a : oS S h h') : SHP h' w := s.mvr (fun q _ => by rw [a.1])
/-- the state of a workshop at w -/
def CK (h : jv_H) (w : Nat) (K : zK) : Prop := ((h.1 w 4).toInt = K.nr ∧ K.nr ≤ 6 ∧ ∀ k, k < K.nr → pc h (w + 11 + 5 * k) (K.R k).1 ∧ pc h (w + 13 + 5 * k) (K.R k).2) ∧ ((h.1 w 5).toInt = K.nl ∧ K.nl ≤ 6 ∧ ∀ k, k < K.nl → CL h (w + 39 + 4 * k) (K.L k)) ∧ (∀ s, s < 3 → CB h (w + 63 + 4 * s) (K.B s)) ∧ CW h (w + 4) K.w ∧ h.1 w 6 = K.sp
theorem CK.zr {h : jv_H} {w : Nat} {K : zK} (c : CK h w K) : (jv_gI h w 4).toInt = K.nr := c.1.1
theorem CK.zl {h : jv_H} {w : Nat} {K : zK} (c : CK h w K) : (jv_gI h w 5).toInt = K.nl := c.2.1.1
theorem CK.mr {h : jv_H} {w : Nat} {K : zK} (c : CK h w K) : K.nr ≤ 6 := c.1.2.1
theorem CK.ml {h : jv_H} {w : Nat} {K : zK} (c : CK h w K) : K.nl ≤ 6 := c.2.1.2.1
theorem CK.pa {h : jv_H} {w : Nat} {K : zK} (c : CK h w K) {k : Nat} (hk : k < K.nr) : pc h (w + 11 + 5 * k) (K.R k).1 := (c.1.2.2 k hk).1
theorem CK.pb {h : jv_H} {w : Nat} {K : zK} (c : CK h w K) {k : Nat} (hk : k < K.nr) : pc h (w + 13 + 5 * k) (K.R k).2 := (c.1.2.2 k hk).2
theorem CK.l {h : jv_H} {w : Nat} {K : zK} (c : CK h w K) {k : Nat} (hk : k < K.nl) : CL h (w + 39 + 4 * k) (K.L k) := c.2.1.2.2 k hk
theorem CK.b {h : jv_H} {w : Nat} {K : zK} (c : CK h w K) {k : Nat} (hk : k < 3) : CB h (w + 63 + 4 * k) (K.B k) := c.2.2.1 k hk
theorem CK.wa {h : jv_H} {w : Nat} {K : zK} (c : CK h w K) : CW h (w + 4) K.w := c.2.2.2.1
/-- the rows that count -/
def us (w : Nat) (K : zK) (q : Nat) : Prop := q = w ∨ (w + 4 ≤ q ∧ q < w + 9) ∨ (∃ k, k < K.nr ∧ (q = w + 11 + 5 * k ∨ q = w + 13 + 5 * k)) ∨ (∃ k, k < K.nl ∧ w + 39 + 4 * k ≤ q ∧ q < w + 39 + 4 * k + 4) ∨ (w + 63 ≤ q ∧ q < w + 75)
theorem CK.mv {h h' : jv_H} {w : Nat} {K : zK} {S : Nat → Prop} (c : CK h w K) (a : oR S h h') (hs : ∀ q, us w K q → ¬ S q) : CK h' w K := by
  obtain ⟨⟨c1, c2, c3⟩, ⟨c4, c5, c6⟩, c7, c8, c9⟩ := c
  have a0 := (a.2 w (hs w (Or.inl rfl))).1
  refine ⟨⟨by rw [a0]; exact c1, c2, fun k hk => ⟨(c3 k hk).1.mvR a (hs _ (Or.inr (Or.inr (Or.inl ⟨k, hk, Or.inl rfl⟩)))), (c3 k hk).2.mvR a (hs _ (Or.inr (Or.inr (Or.inl ⟨k, hk, Or.inr rfl⟩))))⟩⟩, ⟨by rw [a0]; exact c4, c5, fun k hk => (c6 k hk).mvR a (fun q h1 h2 => hs q (Or.inr (Or.inr (Or.inr (Or.inl ⟨k, hk, h1, h2⟩)))))⟩, fun s h3 => CB.mv (h' := (h'.1, h'.2.1, h.2.2)) (c7 s h3) a.s (fun q h1 h2 => hs q (Or.inr (Or.inr (Or.inr (Or.inr ⟨by omega, by omega⟩))))), CW.mv (h' := (h'.1, h'.2.1, h.2.2)) c8 a.s (fun q h1 h2 => hs q (Or.inr (Or.inl ⟨by omega, by omega⟩))), by rw [a0]; exact c9⟩
theorem us_b {w q : Nat} {K : zK} (h1 : K.nr ≤ 6) (h2 : K.nl ≤ 6) (u : us w K q) : w ≤ q ∧ q < w + 75 := by
  rcases u with u | u | ⟨k, h3, h4⟩ | ⟨k, h3, h4⟩ | u
  · omega
  · omega
  · omega
  · omega
  · omega
theorem us_L {w q : Nat} {K : zK} (h1 : K.nr ≤ 6) (h2 : K.nl < 6) (u : us w K q) : ¬ lw (w + 39 + 4 * K.nl) q := by
  intro z
  obtain ⟨z1, z2⟩ := z
  rcases u with u | u | ⟨k, h3, h4⟩ | ⟨k, h3, h4⟩ | u
  · omega
  · omega
  · omega
  · omega
  · omega
theorem us_R {w q : Nat} {K : zK} (h1 : K.nr < 6) (u : us w K q) : ¬ rw2 (w + 11 + 5 * K.nr) (w + 13 + 5 * K.nr) q := by
  intro z
  rcases z with z | z
  · rcases u with u | u | ⟨k, h3, h4⟩ | ⟨k, h3, h4⟩ | u
    · omega
    · omega
    · omega
    · omega
    · omega
  · rcases u with u | u | ⟨k, h3, h4⟩ | ⟨k, h3, h4⟩ | u
    · omega
    · omega
    · omega
    · omega
    · omega
theorem CK.mvL {h h' : jv_H} {w : Nat} {K : zK} (c : CK h w K) (hn : K.nl < 6) (a : oS (lw (w + 39 + 4 * K.nl)) h h') : CK h' w K := c.mv a.R (fun _ u => us_L c.mr hn u)
theorem CK.mvR {h h' : jv_H} {w : Nat} {K : zK} (c : CK h w K) (hn : K.nr < 6) (a : oS (rw2 (w + 11 + 5 * K.nr) (w + 13 + 5 * K.nr)) h h') : CK h' w K := c.mv a.R (fun _ u => us_R hn u)
theorem nz_m1i {x : Int32} {k : Nat} (h : x.toInt = k) (hk : k < 1000000) : (x - 1).toInt = (k : Int) - 1 := by
  have e1 : (1 : Int32).toInt = 1 := rfl
  rw [nz_subi (by rw [h, e1]; omega) (by rw [h, e1]; omega), h, e1]
theorem uI_pc {h : jv_H} {q i a : Nat} {v : Int32} {f : Nat → Int × Int} (c : pc h a f) : pc (jv_uI h q i v) a f := c
theorem CL.uI {h : jv_H} {q i o : Nat} {v : Int32} {L : zL} (c : CL h o L) (hq : q < o ∨ o + 4 ≤ q) : CL (jv_uI h q i v) o L := c.mv (oS_uI (S := fun z => z = q) rfl) (fun z h1 h2 h3 => by omega)
theorem CB.uI {h : jv_H} {q i o : Nat} {v : Int32} {L : zB} (c : CB h o L) (hq : q < o ∨ o + 4 ≤ q) : CB (jv_uI h q i v) o L := c.mv (oS_uI (S := fun z => z = q) rfl) (fun z h1 h2 h3 => by omega)
theorem CW.uI {h : jv_H} {q i o : Nat} {v : Int32} {L : zW} (c : CW h o L) (hq : q < o ∨ o + 5 ≤ q) : CW (jv_uI h q i v) o L := c.mv (oS_uI (S := fun z => z = q) rfl) (fun z h1 h2 h3 => by omega)
theorem CK.addL {h : jv_H} {w : Nat} {K : zK} {L : zL} (c : CK h w K) (hn : K.nl < 6) (cl : CL h (w + 39 + 4 * K.nl) L) : CK (jv_uI h w 5 (jv_gI h w 5 + 1)) w (K.addL L) := by
  have hz := c.zl
  obtain ⟨⟨c1, c2, c3⟩, ⟨c4, c5, c6⟩, c7, c8, c9⟩ := c
  refine ⟨⟨by rw [uI_ne (by omega)]; exact c1, c2, c3⟩, ⟨by rw [uI_eq]; exact nz_inc hz (by omega), by show K.nl + 1 ≤ 6; omega, fun k hk => ?_⟩, fun s hs => (c7 s hs).uI (by omega), c8.uI (by omega), by rw [uI_ne (by omega)]; exact c9⟩
  have hk : k < K.nl + 1 := hk
  refine CL.uI ?_ (by omega)
  show CL h _ (if k = K.nl then L else K.L k)
  by_cases e : k = K.nl
  · rw [if_pos e, e]; exact cl
  · rw [if_neg e]; exact c6 k (by omega)
theorem CK.addR {h : jv_H} {w : Nat} {K : zK} {P : zP} (c : CK h w K) (hn : K.nr < 6) (ca : pc h (w + 11 + 5 * K.nr) P.1) (cb : pc h (w + 13 + 5 * K.nr) P.2) : CK (jv_uI h w 4 (jv_gI h w 4 + 1)) w (K.addR P) := by
  have hz := c.zr
  obtain ⟨⟨c1, c2, c3⟩, ⟨c4, c5, c6⟩, c7, c8, c9⟩ := c
  refine ⟨⟨by rw [uI_eq]; exact nz_inc hz (by omega), by show K.nr + 1 ≤ 6; omega, fun k hk => ?_⟩, ⟨by rw [uI_ne (by omega)]; exact c4, c5, fun k hk => (c6 k hk).uI (by omega)⟩, fun s hs => (c7 s hs).uI (by omega), c8.uI (by omega), by rw [uI_ne (by omega)]; exact c9⟩
  have hk : k < K.nr + 1 := hk
  show pc h _ (if k = K.nr then P else K.R k).1 ∧ pc h _ (if k = K.nr then P else K.R k).2
  by_cases e : k = K.nr
  · rw [if_pos e, e]; exact ⟨ca, cb⟩
  · rw [if_neg e]; exact c3 k (by omega)
section
variable (X : jv_X) (d : Nat) (h : jv_H) (w : Nat) (K : zK) (KV : jv_H → Prop) (KI : Int32 → jv_H → Prop) (KL : Int64 → jv_H → Prop) (KA : Nat → jv_H → Prop) (K0 : jv_H → Prop)
theorem c_findRatio (x : Int32) (s : SHP h w) (c : CK h w K) (hK : ∀ k : Nat, x.toInt = k → k < K.nr → KA (w + 9 + 5 * k) h) (hK0 : ¬ (0 ≤ x.toInt ∧ x.toInt < K.nr) → K0 h) : jA X (d + 2) y_Workshop_findRatio [.ref w, .int x] 227 h KA K0 := by
  have hm := c.mr
  have e := nz_m1i c.zr (by omega)
  have e0 : (0 : Int32).toInt = 0 := rfl
  refine r_Workshop_findRatio X (d + 1) 227 _ w x h ⟨s.is, ?_⟩
  refine c_isWithin X d 227 _ h _ _ _ ⟨fun z => ?_, fun z => ?_⟩
  · rw [nz_bt, e, e0] at z
    exact hK0 (by omega)
  · rw [nz_bt, Classical.not_not, e, e0] at z
    have hx : x.toInt = (x.toInt.toNat : Int) := by omega
    refine ⟨s.is, _, s.r0, s.x0 hx (by omega), by decide, _, s.kr (k := x.toInt.toNat) (by omega), hK _ hx (by omega)⟩
theorem c_findLadder (x : Int32) (s : SHP h w) (c : CK h w K) (hK : ∀ k : Nat, x.toInt = k → k < K.nl → KA (w + 39 + 4 * k) h) (hK0 : ¬ (0 ≤ x.toInt ∧ x.toInt < K.nl) → K0 h) : jA X (d + 2) y_Workshop_findLadder [.ref w, .int x] 227 h KA K0 := by
  have hm := c.ml
  have e := nz_m1i c.zl (by omega)
  have e0 : (0 : Int32).toInt = 0 := rfl
  refine r_Workshop_findLadder X (d + 1) 227 _ w x h ⟨s.is, ?_⟩
  refine c_isWithin X d 227 _ h _ _ _ ⟨fun z => ?_, fun z => ?_⟩
  · rw [nz_bt, e, e0] at z
    exact hK0 (by omega)
  · rw [nz_bt, Classical.not_not, e, e0] at z
    have hx : x.toInt = (x.toInt.toNat : Int) := by omega
    refine ⟨s.is, _, s.r1, s.x1 hx (by omega), by decide, _, s.kl (k := x.toInt.toNat) (by omega), hK _ hx (by omega)⟩
theorem c_freeRatio (s : SHP h w) (c : CK h w K) (hK : K.nr < 6 → KA (w + 9 + 5 * K.nr) h) (hK0 : K.nr = 6 → K0 h) : jA X (d + 1) y_Workshop_freeRatio [.ref w] 227 h KA K0 := by
  have hm := c.mr
  have hz := c.zr
  refine r_Workshop_freeRatio X d 227 _ w h ⟨s.is, fun z => hK0 ?_, fun z => ?_⟩
  · have : (6 : Int) ≤ (jv_gI h w 4).toInt := nz_le.mp z
    omega
  · have : ¬ (6 : Int) ≤ (jv_gI h w 4).toInt := fun y => z (nz_le.mpr y)
    have hx : (jv_gI h w 4).toNatClampNeg = K.nr := nz_nat hz
    refine ⟨s.is, _, s.r0, s.is, s.x0 hz (by omega), by decide, _, (by rw [hx]; exact s.kr (k := K.nr) (by omega)), hK (by omega)⟩
theorem c_freeLadder (s : SHP h w) (c : CK h w K) (hK : K.nl < 6 → KA (w + 39 + 4 * K.nl) h) (hK0 : K.nl = 6 → K0 h) : jA X (d + 1) y_Workshop_freeLadder [.ref w] 227 h KA K0 := by
  have hm := c.ml
  have hz := c.zl
  refine r_Workshop_freeLadder X d 227 _ w h ⟨s.is, fun z => hK0 ?_, fun z => ?_⟩
  · have : (6 : Int) ≤ (jv_gI h w 5).toInt := nz_le.mp z
    omega
  · have : ¬ (6 : Int) ≤ (jv_gI h w 5).toInt := fun y => z (nz_le.mpr y)
    have hx : (jv_gI h w 5).toNatClampNeg = K.nl := nz_nat hz
    refine ⟨s.is, _, s.r1, s.is, s.x1 hz (by omega), by decide, _, (by rw [hx]; exact s.kl (k := K.nl) (by omega)), hK (by omega)⟩
theorem nz_incdec {v : Int32} {k : Nat} (h : v.toInt = k) (hk : k < 1000) : (v + 1 - 1).toInt = k := by
  rw [nz_m1i (nz_inc h (by omega)) (by omega)]
  omega
theorem c_addLadder (L : zL) (s : SHP h w) (c : CK h w K) (hn : K.nl < 6) (cl : CL h (w + 39 + 4 * K.nl) L) (hK : ∀ z : Int32, z.toInt = K.nl → ∀ h', oS (fun q => q = w) h h' → CK h' w (K.addL L) → KI z h') : jI X (d + 1) y_Workshop_addLadder [.ref w] 227 h KI := by
  refine r_Workshop_addLadder X d 227 _ w h ⟨s.is, s.is, s.is, ?_⟩
  rw [show jv_gI (jv_uI h w 5 (jv_gI h w 5 + 1)) w 5 = jv_gI h w 5 + 1 from uI_eq]
  exact hK _ (nz_incdec c.zl (by omega)) _ (oS_uI rfl) (c.addL hn cl)
theorem c_addRatio (P : zP) (s : SHP h w) (c : CK h w K) (hn : K.nr < 6) (ca : pc h (w + 11 + 5 * K.nr) P.1) (cb : pc h (w + 13 + 5 * K.nr) P.2) (hK : ∀ z : Int32, z.toInt = K.nr → ∀ h', oS (fun q => q = w) h h' → CK h' w (K.addR P) → KI z h') : jI X (d + 1) y_Workshop_addRatio [.ref w] 227 h KI := by
  refine r_Workshop_addRatio X d 227 _ w h ⟨s.is, s.is, s.is, ?_⟩
  rw [show jv_gI (jv_uI h w 4 (jv_gI h w 4 + 1)) w 4 = jv_gI h w 4 + 1 from uI_eq]
  exact hK _ (nz_incdec c.zr (by omega)) _ (oS_uI rfl) (c.addR hn ca cb)
theorem c_forgetRatios (s : SHP h w) (c : CK h w K) (hK : ∀ z : Int32, z.toInt = K.nr → ∀ h', oS (fun q => q = w) h h' → CK h' w K.noR → KI z h') : jI X (d + 1) y_Workshop_forgetRatios [.ref w] 227 h KI := by
  refine r_Workshop_forgetRatios X d 227 _ w h ⟨s.is, s.is, hK _ c.zr _ (oS_uI rfl) ?_⟩
  obtain ⟨⟨c1, c2, c3⟩, ⟨c4, c5, c6⟩, c7, c8, c9⟩ := c
  exact ⟨⟨by rw [uI_eq]; rfl, Nat.zero_le _, fun k hk => absurd hk (Nat.not_lt_zero _)⟩, ⟨by rw [uI_ne (by omega)]; exact c4, c5, fun k hk => (c6 k hk).uI (by omega)⟩, fun s hs => (c7 s hs).uI (by omega), c8.uI (by omega), by rw [uI_ne (by omega)]; exact c9⟩
theorem c_forgetLadders (s : SHP h w) (c : CK h w K) (hK : ∀ z : Int32, z.toInt = K.nl → ∀ h', oS (fun q => q = w) h h' → CK h' w K.noL → KI z h') : jI X (d + 1) y_Workshop_forgetLadders [.ref w] 227 h KI := by
  refine r_Workshop_forgetLadders X d 227 _ w h ⟨s.is, s.is, hK _ c.zl _ (oS_uI rfl) ?_⟩
  obtain ⟨⟨c1, c2, c3⟩, ⟨c4, c5, c6⟩, c7, c8, c9⟩ := c
  exact ⟨⟨by rw [uI_ne (by omega)]; exact c1, c2, c3⟩, ⟨by rw [uI_eq]; rfl, Nat.zero_le _, fun k hk => absurd hk (Nat.not_lt_zero _)⟩, fun s hs => (c7 s hs).uI (by omega), c8.uI (by omega), by rw [uI_ne (by omega)]; exact c9⟩
end
