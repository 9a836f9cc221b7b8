/-! ===== the workshop of the class: what is lacking, spent, unlike ===== -/
def zL.lik (L : zL) (s : Int32) (v : Int × Int) : Nat → Nat
  | 0 => 0
  | k + 1 => L.lik s v k + if L.so k = s ∧ L.va k = v then 1 else 0
theorem zL.lik_le (L : zL) (s : Int32) (v : Int × Int) : ∀ k, L.lik s v k ≤ k
  | 0 => Nat.le_refl _
  | k + 1 => by
    have := L.lik_le s v k
    unfold zL.lik
    split <;> omega
def fnd (B : Nat → zB) (s : Int32) (v : Int × Int) : Int := (bos B s).fi v (bos B s).n 0
theorem fnd_b (B : Nat → zB) (s : Int32) (v : Int × Int) : fnd B s v = -1 ∨ ∃ j : Nat, fnd B s v = (j : Int) ∧ j < (bos B s).n ∧ ((bos B s).e j).1 = v := by
  rcases (bos B s).fi_b v (bos B s).n 0 with h | ⟨j, h1, h2, h3, h4⟩
  · exact Or.inl h
  · exact Or.inr ⟨j, h1, by omega, h4⟩
/-- how many there are of a value -/
def av (B : Nat → zB) (s : Int32) (v : Int × Int) : Int := if 0 ≤ fnd B s v then (((bos B s).e (fnd B s v).toNat).2.1).toInt else 0
def lacn (B : Nat → zB) (L : zL) : Nat → Nat
  | 0 => 0
  | k + 1 => lacn B L k + if av B (L.so k) (L.va k) ≤ L.lik (L.so k) (L.va k) k then 1 else 0
theorem lacn_le (B : Nat → zB) (L : zL) : ∀ k, lacn B L k ≤ k
  | 0 => Nat.le_refl _
  | k + 1 => by
    have := lacn_le B L k
    unfold lacn
    split <;> omega
theorem lacn_mono (B : Nat → zB) (L : zL) {a b : Nat} (h : a ≤ b) : lacn B L a ≤ lacn B L b := by
  induction b with
  | zero => rw [show a = 0 by omega]; exact Nat.le_refl _
  | succ b ih =>
    by_cases e : a = b + 1
    · rw [e]; exact Nat.le_refl _
    · exact Nat.le_trans (ih (by omega)) (Nat.le_add_right _ _)
def zB.dec (B : zB) (f : Int) : zB := (B.n, fun j => if (j : Int) = f then ((B.e j).1, (B.e j).2.1 - 1, (B.e j).2.2) else B.e j)
theorem zB.dec_e (B : zB) (f : Int) (j : Nat) : (B.dec f).e j = if (j : Int) = f then ((B.e j).1, (B.e j).2.1 - 1, (B.e j).2.2) else B.e j := rfl
def zK.take (K : zK) (s : Int32) (v : Int × Int) : zK := (K.1, K.2.1, (fun i => if i = s.toNatClampNeg then (K.B i).dec (fnd K.B s v) else K.B i), K.w, K.sp + ((bos K.B s).e (fnd K.B s v).toNat).2.2)
theorem bos_take (K : zK) (s t : Int32) (v : Int × Int) : bos (K.take s v).B t = if t.toNatClampNeg = s.toNatClampNeg then (bos K.B t).dec (fnd K.B s v) else bos K.B t := rfl
noncomputable def zK.sp1 (K : zK) (s : Int32) (v : Int × Int) (u : Int32) : zK := if 0 < av K.B s v then K.take s v else K.setW (K.w.add s v u)
noncomputable def zK.spn (K : zK) (L : zL) (u : Int32) : Nat → zK
  | 0 => K
  | k + 1 => (K.spn L u k).sp1 (L.so k) (L.va k) u
theorem zK.sp1_1 (K : zK) (s : Int32) (v : Int × Int) (u : Int32) : (K.sp1 s v u).1 = K.1 ∧ (K.sp1 s v u).2.1 = K.2.1 := by
  unfold zK.sp1
  split
  · exact ⟨rfl, rfl⟩
  · exact ⟨rfl, rfl⟩
theorem zK.spn_1 (K : zK) (L : zL) (u : Int32) : ∀ k, (K.spn L u k).1 = K.1 ∧ (K.spn L u k).2.1 = K.2.1
  | 0 => ⟨rfl, rfl⟩
  | k + 1 => by
    have h1 := K.spn_1 L u k
    have h2 := (K.spn L u k).sp1_1 (L.so k) (L.va k) u
    exact ⟨h2.1.trans h1.1, h2.2.trans h1.2⟩
theorem zB.fi_cg {A B : zB} (h : ∀ j, (A.e j).1 = (B.e j).1) (v : Int × Int) : ∀ r k, A.fi v r k = B.fi v r k
  | 0, _ => rfl
  | r + 1, k => by
    unfold zB.fi
    rw [h k, zB.fi_cg h v r (k + 1)]
/-- counts that a bin may have -/
def okC (B : Nat → zB) : Prop := ∀ s, s < 3 → ∀ j, j < (B s).n → 0 ≤ ((B s).e j).2.1.toInt ∧ ((B s).e j).2.1.toInt ≤ 99
theorem av_0 {B : Nat → zB} (h : okC B) {s : Int32} (hs : s3 s) (v : Int × Int) : 0 ≤ av B s v ∧ av B s v ≤ 99 := by
  unfold av
  rcases fnd_b B s v with e | ⟨j, e, h1, h2⟩
  · rw [e, if_neg (by decide)]
    exact ⟨by decide, by decide⟩
  · rw [e, if_pos (Int.natCast_nonneg _)]
    exact h _ hs.nat.2 j h1
theorem s3_inj {s t : Int32} (hs : s3 s) (ht : s3 t) (h : s.toNatClampNeg = t.toNatClampNeg) : s = t := by
  have h1 := hs.nat.1
  have h2 := ht.nat.1
  apply Int32.toInt_inj.mp
  rw [h1, h2, h]
theorem nz_dec1 {x : Int32} (h : 1 ≤ x.toInt) : (x - 1).toInt = x.toInt - 1 := by
  have e1 : (1 : Int32).toInt = 1 := rfl
  have := nz_i32 x
  rw [nz_subi (by rw [e1]; omega) (by rw [e1]; omega), e1]
theorem take_b (K : zK) (s t : Int32) (v : Int × Int) : (bos (K.take s v).B t).n = (bos K.B t).n ∧ ∀ j, ((bos (K.take s v).B t).e j).1 = ((bos K.B t).e j).1 ∧ ((bos (K.take s v).B t).e j).2.2 = ((bos K.B t).e j).2.2 := by
  rw [bos_take]
  by_cases e : t.toNatClampNeg = s.toNatClampNeg
  · rw [if_pos e]
    refine ⟨rfl, fun j => ?_⟩
    rw [zB.dec_e]
    split
    · exact ⟨rfl, rfl⟩
    · exact ⟨rfl, rfl⟩
  · rw [if_neg e]
    exact ⟨rfl, fun _ => ⟨rfl, rfl⟩⟩
theorem take_fnd (K : zK) (s t : Int32) (v u : Int × Int) : fnd (K.take s v).B t u = fnd K.B t u := by
  have h := take_b K s t v
  unfold fnd
  rw [h.1]
  exact zB.fi_cg (fun j => (h.2 j).1) u _ _
theorem take_c (K : zK) (s t : Int32) (v : Int × Int) (j : Nat) : ((bos (K.take s v).B t).e j).2.1 = if t.toNatClampNeg = s.toNatClampNeg ∧ (j : Int) = fnd K.B s v then ((bos K.B t).e j).2.1 - 1 else ((bos K.B t).e j).2.1 := by
  rw [bos_take]
  by_cases e : t.toNatClampNeg = s.toNatClampNeg
  · rw [if_pos e, zB.dec_e]
    by_cases e2 : (j : Int) = fnd K.B s v
    · rw [if_pos e2, if_pos ⟨e, e2⟩]
    · rw [if_neg e2, if_neg (fun z => e2 z.2)]
  · rw [if_neg e, if_neg (fun z => e z.1)]
theorem take_okC {K : zK} {s : Int32} {v : Int × Int} (hs : s3 s) (h : okC K.B) (ha : 0 < av K.B s v) : okC (K.take s v).B := by
  intro t ht j hj
  have ht' : ∃ t' : Int32, s3 t' ∧ t'.toNatClampNeg = t := ⟨Int32.ofNat t, ⟨t, ht, by rw [Int32.toInt_ofNat_of_lt (by omega)]⟩, by rw [nz_nat (k := t) (by rw [Int32.toInt_ofNat_of_lt (by omega)])]⟩
  obtain ⟨t', h1, h2⟩ := ht'
  subst h2
  have hb := take_b K s t' v
  have hj' : j < (bos K.B t').n := by rw [← hb.1]; exact hj
  have hc := h _ ht j hj'
  have e := take_c K s t' v j
  show 0 ≤ ((bos (K.take s v).B t').e j).2.1.toInt ∧ ((bos (K.take s v).B t').e j).2.1.toInt ≤ 99
  rw [e]
  split
  · rename_i z
    have hst := s3_inj h1 hs z.1
    subst hst
    have : av K.B t' v = ((bos K.B t').e j).2.1.toInt := by
      unfold av
      rw [← z.2, if_pos (Int.natCast_nonneg _)]
      rfl
    rw [nz_dec1 (by omega)]
    have hc2 : 0 ≤ ((bos K.B t').e j).2.1.toInt ∧ ((bos K.B t').e j).2.1.toInt ≤ 99 := hc
    omega
  · exact hc
theorem sp1_okC {K : zK} {s u : Int32} {v : Int × Int} (hs : s3 s) (h : okC K.B) : okC (K.sp1 s v u).B := by
  unfold zK.sp1
  split
  · exact take_okC hs h (by assumption)
  · exact h
theorem spn_okC {K : zK} {L : zL} {u : Int32} (hL : L.okS) (h : okC K.B) : ∀ k, k ≤ L.sz → okC (K.spn L u k).B
  | 0, _ => h
  | k + 1, hk => sp1_okC (hL k (by omega)) (spn_okC hL h k (by omega))
theorem sp1_av {K : zK} {s t u : Int32} {v y : Int × Int} (hs : s3 s) (ht : s3 t) (h : okC K.B) : av (K.sp1 s v u).B t y = if 0 < av K.B s v ∧ s = t ∧ v = y then av K.B t y - 1 else av K.B t y := by
  unfold zK.sp1
  by_cases ha : 0 < av K.B s v
  · rw [if_pos ha]
    have e : av (K.take s v).B t y = if 0 ≤ fnd K.B t y then ((bos (K.take s v).B t).e (fnd K.B t y).toNat).2.1.toInt else 0 := by
      unfold av
      rw [take_fnd]
    rw [e]
    rcases fnd_b K.B t y with f | ⟨j, f, f1, f2⟩
    · have e0 : av K.B t y = 0 := by unfold av; rw [f]; rfl
      rw [f, e0, if_neg (by decide), if_neg (fun z => by obtain ⟨_, z2, z3⟩ := z; subst z2 z3; omega)]
    · have e0 : av K.B t y = ((bos K.B t).e j).2.1.toInt := by unfold av; rw [f, if_pos (Int.natCast_nonneg _)]; rfl
      rw [f, if_pos (Int.natCast_nonneg _), show ((j : Int)).toNat = j from rfl, take_c, e0]
      by_cases hst : s = t ∧ v = y
      · obtain ⟨h1, h2⟩ := hst
        subst h1 h2
        rw [if_pos ⟨rfl, f.symm⟩, if_pos ⟨ha, rfl, rfl⟩, nz_dec1 (by omega)]
      · have hn : ¬ (t.toNatClampNeg = s.toNatClampNeg ∧ (j : Int) = fnd K.B s v) := by
          intro z
          have h1 := s3_inj ht hs z.1
          subst h1
          refine hst ⟨rfl, ?_⟩
          rcases fnd_b K.B t v with g | ⟨i, g, g1, g2⟩
          · have := z.2
            omega
          · have : i = j := by have := z.2; omega
            subst this
            exact g2.symm.trans f2
        rw [if_neg hn, if_neg (fun z => hst z.2)]
  · rw [if_neg ha, if_neg (fun z => ha z.1)]
    rfl
theorem spn_av {K : zK} {L : zL} {u t : Int32} {y : Int × Int} (hL : L.okS) (h : okC K.B) (ht : s3 t) : ∀ k, k ≤ L.sz → av (K.spn L u k).B t y = if av K.B t y ≤ L.lik t y k then 0 else av K.B t y - L.lik t y k
  | 0, _ => by
    have := av_0 h ht y
    show av K.B t y = if av K.B t y ≤ ((0 : Nat) : Int) then 0 else av K.B t y - ((0 : Nat) : Int)
    split <;> omega
  | k + 1, hk => by
    have ih := spn_av (u := u) (y := y) hL h ht k (by omega)
    show av ((K.spn L u k).sp1 (L.so k) (L.va k) u).B t y = _
    rw [sp1_av (hL k (by omega)) ht (spn_okC hL h k (by omega))]
    by_cases e : L.so k = t ∧ L.va k = y
    · have hl : L.lik t y (k + 1) = L.lik t y k + 1 := congrArg (fun z => L.lik t y k + z) (if_pos e)
      rw [hl, e.1, e.2, ih]
      by_cases c : av K.B t y ≤ L.lik t y k
      · rw [if_pos c, if_neg (fun z => absurd z.1 (Int.lt_irrefl _)), if_pos (by omega)]
      · rw [if_neg c]
        have hp : 0 < av K.B t y - (L.lik t y k : Int) ∧ t = t ∧ y = y := ⟨by omega, rfl, rfl⟩
        rw [if_pos hp]
        by_cases c2 : av K.B t y ≤ ((L.lik t y k + 1 : Nat) : Int)
        · rw [if_pos c2]
          omega
        · rw [if_neg c2]
          omega
    · have hl : L.lik t y (k + 1) = L.lik t y k := congrArg (fun z => L.lik t y k + z) (if_neg e)
      rw [hl, if_neg (fun z => e z.2), ih]
theorem spn_w {K : zK} {L : zL} {u : Int32} (hL : L.okS) (h : okC K.B) : ∀ k, k ≤ L.sz → (K.spn L u k).w.n = K.w.n + lacn K.B L k
  | 0, _ => rfl
  | k + 1, hk => by
    have ih := spn_w (u := u) hL h k (by omega)
    have ha := spn_av (u := u) (y := L.va k) hL h (hL k (by omega)) k (by omega)
    show ((K.spn L u k).sp1 (L.so k) (L.va k) u).w.n = _
    unfold zK.sp1 lacn
    by_cases e : av K.B (L.so k) (L.va k) ≤ L.lik (L.so k) (L.va k) k
    · rw [if_pos e] at ha ⊢
      rw [if_neg (by omega)]
      show (K.spn L u k).w.n + 1 = _
      omega
    · rw [if_neg e] at ha ⊢
      rw [if_pos (by omega)]
      show (K.spn L u k).w.n = _
      omega
def prc (B : Nat → zB) (L : zL) : Nat → Nat → Int32 → Option Int32
  | 0, _, a => some a
  | m + 1, k, a => if 0 ≤ fnd B (L.so k) (L.va k) then prc B L m (k + 1) (a + ((bos B (L.so k)).e (fnd B (L.so k) (L.va k)).toNat).2.2) else none
section
variable (X : jv_X) (d : Nat) (h : jv_H) (w : Nat) (K : zK) (KV : jv_H → Prop) (KI : Int32 → jv_H → Prop) (KL : Int64 → jv_H → Prop)
theorem like_l (Q : jv_Q) (o : Nat) (L : zL) (l : LO 227 h o) (c : CL h o L) (x1 : Int32) (k : Nat) (h1 : x1.toInt = k) (hk : k < L.sz) : ∀ (m j : Nat) (x2 x3 : Int32), x3.toInt = j → j + m = k → x2.toInt = L.lik (L.so k) (L.va k) j → (∀ z : Int32, z.toInt = L.lik (L.so k) (L.va k) k → Q (some (.int z)) h) → a_Workshop_countLikeAhead_4 X d 227 Q o x1 x2 x3 h 0
  | 0, j, x2, x3, h3, hm, h2, hQ => by
    refine r_Workshop_countLikeAhead_4 X d 227 Q o x1 x2 x3 h ⟨fun _ => hQ x2 (by rw [h2, show j = k by omega]), fun z => absurd (nz_le.mpr (by rw [h1, h3]; omega)) z⟩
  | m + 1, j, x2, x3, h3, hm, h2, hQ => by
    have hle := c.le
    have hj : j < L.sz := by omega
    have hlk := L.lik_le (L.so k) (L.va k) j
    have hs : L.lik (L.so k) (L.va k) (j + 1) = L.lik (L.so k) (L.va k) j + if L.so j = L.so k ∧ L.va j = L.va k then 1 else 0 := rfl
    have no : ¬ (L.so j = L.so k ∧ L.va j = L.va k) → a_Workshop_countLikeAhead_4 X d 227 Q o x1 x2 (x3 + 1) h 0 := fun e => by
      rw [if_neg e] at hs
      exact like_l Q o L l c x1 k h1 hk m (j + 1) _ _ (nz_inc h3 (by omega)) (by omega) (by rw [hs]; exact h2) hQ
    refine r_Workshop_countLikeAhead_4 X d 227 Q o x1 x2 x3 h ⟨fun z => ?_, fun z => ?_⟩
    · have := nz_le.mp z
      rw [h1, h3] at this
      omega
    · repeat (first | refine ⟨(l).1, ?_⟩ | refine ⟨_, (l).2.1, ?_⟩ | refine ⟨_, (l).2.2.1, ?_⟩ | refine ⟨_, (l).2.2.2.1, ?_⟩ | refine ⟨(l).xa (by assumption) (by omega), ?_⟩ | refine ⟨(l).xb (by assumption) (by omega), ?_⟩ | refine ⟨(l).xc (by assumption) (by omega), ?_⟩)
      rw [c.gs h3 hj, c.gs h1 hk]
      refine ⟨fun e => no (fun y => e y.1), fun e => ?_⟩
      repeat (first | refine ⟨(l).1, ?_⟩ | refine ⟨_, (l).2.1, ?_⟩ | refine ⟨_, (l).2.2.1, ?_⟩ | refine ⟨_, (l).2.2.2.1, ?_⟩ | refine ⟨(l).xa (by assumption) (by omega), ?_⟩ | refine ⟨(l).xb (by assumption) (by omega), ?_⟩ | refine ⟨(l).xc (by assumption) (by omega), ?_⟩)
      rw [c.gv h3 hj, c.gv h1 hk]
      refine ⟨fun e2 => no (fun y => e2 ((lg_cmp_eq _ _).mpr (by rw [y.2]))), fun e2 => ?_⟩
      have e2 := (fz_inj (c.vr hj) (c.vr hk)).mp ((lg_cmp_eq _ _).mp e2)
      rw [if_pos ⟨e, e2⟩] at hs
      exact like_l Q o L l c x1 k h1 hk m (j + 1) _ _ (nz_inc h3 (by omega)) (by omega) (by rw [hs]; exact nz_inc h2 (by omega)) hQ
theorem lac_l (Q : jv_Q) (o : Nat) (L : zL) (s : SHP h w) (c : CK h w K) (l : LO 227 h o) (cl : CL h o L) (hS : L.okS) : ∀ (m k : Nat) (x2 x3 : Int32), x3.toInt = k → k + m = L.sz → x2.toInt = lacn K.B L k → (∀ z : Int32, z.toInt = lacn K.B L L.sz → Q (some (.int z)) h) → a_Workshop_countLacking_4 X (d + 1) 227 Q w o x2 x3 h 0
  | 0, k, x2, x3, h3, hm, h2, hQ => by
    exact r_Workshop_countLacking_4 X (d + 1) 227 Q w o x2 x3 h ⟨l.1, fun _ => hQ x2 (by rw [h2, show k = L.sz by omega]), fun z => absurd (nz_le.mpr (by rw [cl.gz, h3]; omega)) z⟩
  | m + 1, k, x2, x3, h3, hm, h2, hQ => by
    have hle := cl.le
    have hk : k < L.sz := by omega
    have hs := (hS k hk).nat
    have hcb := c.b hs.2
    have hlc := lacn_le K.B L k
    have hlk := L.lik_le (L.so k) (L.va k) k
    have hn : lacn K.B L (k + 1) = lacn K.B L k + if av K.B (L.so k) (L.va k) ≤ L.lik (L.so k) (L.va k) k then 1 else 0 := rfl
    have yes : av K.B (L.so k) (L.va k) ≤ L.lik (L.so k) (L.va k) k → a_Workshop_countLacking_4 X (d + 1) 227 Q w o (x2 + 1) (x3 + 1) h 0 := fun e => by
      rw [if_pos e] at hn
      exact lac_l Q o L s c l cl hS m (k + 1) _ _ (nz_inc h3 (by omega)) (by omega) (by rw [hn]; exact nz_inc h2 (by omega)) hQ
    refine r_Workshop_countLacking_4 X (d + 1) 227 Q w o x2 x3 h ⟨l.1, fun z => ?_, fun z => ⟨s.is, _, s.r2, ?_⟩⟩
    · have := nz_le.mp z
      rw [cl.gz, h3] at this
      omega
    · repeat (first | refine ⟨(l).1, ?_⟩ | refine ⟨_, (l).2.1, ?_⟩ | refine ⟨_, (l).2.2.1, ?_⟩ | refine ⟨_, (l).2.2.2.1, ?_⟩ | refine ⟨(l).xa (by assumption) (by omega), ?_⟩ | refine ⟨(l).xb (by assumption) (by omega), ?_⟩ | refine ⟨(l).xc (by assumption) (by omega), ?_⟩)
      rw [cl.gs h3 hk]
      refine ⟨s.x2 hs.1 hs.2, by decide, _, s.kb hs.2, ?_⟩
      repeat (first | refine ⟨(l).1, ?_⟩ | refine ⟨_, (l).2.1, ?_⟩ | refine ⟨_, (l).2.2.1, ?_⟩ | refine ⟨_, (l).2.2.2.1, ?_⟩ | refine ⟨(l).xa (by assumption) (by omega), ?_⟩ | refine ⟨(l).xb (by assumption) (by omega), ?_⟩ | refine ⟨(l).xc (by assumption) (by omega), ?_⟩)
      rw [cl.gv h3 hk]
      refine ⟨(s.bo hs.2).1, c_find X d 227 _ h _ _ (L.va k) (cl.vr hk) (s.bo hs.2) hcb (fun z hz => ?_)⟩
      have hz : z.toInt = fnd K.B (L.so k) (L.va k) := hz
      refine ⟨fun y => yes ?_, fun y => ⟨s.is, _, s.r2, ?_⟩⟩
      · have y : z.toInt < 0 := nz_lt.mp y
        unfold av
        rw [if_neg (by omega)]
        exact Int.natCast_nonneg _
      · have y : ¬ z.toInt < 0 := fun q => y (nz_lt.mpr q)
        rcases fnd_b K.B (L.so k) (L.va k) with f | ⟨j, f, f1, f2⟩
        · omega
        · have hav : av K.B (L.so k) (L.va k) = ((bos K.B (L.so k)).e j).2.1.toInt := by unfold av; rw [f, if_pos (Int.natCast_nonneg _)]; rfl
          rw [f] at hz
          have hb10 : (bos K.B (L.so k)).n ≤ 10 := hcb.2.1
          repeat (first | refine ⟨(l).1, ?_⟩ | refine ⟨_, (l).2.1, ?_⟩ | refine ⟨_, (l).2.2.1, ?_⟩ | refine ⟨_, (l).2.2.2.1, ?_⟩ | refine ⟨(l).xa (by assumption) (by omega), ?_⟩ | refine ⟨(l).xb (by assumption) (by omega), ?_⟩ | refine ⟨(l).xc (by assumption) (by omega), ?_⟩)
          rw [cl.gs h3 hk]
          refine ⟨s.x2 hs.1 hs.2, by decide, _, s.kb hs.2, (s.bo hs.2).1, _, (s.bo hs.2).2.2.1, (s.bo hs.2).xb hz (by omega), ?_⟩
          rw [hcb.gc hz f1]
          refine r_Workshop_countLikeAhead X d 227 _ o x3 h ?_
          refine like_l X d h _ o L l cl x3 k h3 hk k 0 0 0 rfl (by omega) rfl (fun z2 e2 => ⟨fun q => ?_, fun q => yes ?_⟩)
          · have q : z2.toInt < ((bos K.B (L.so k)).e j).2.1.toInt := nz_lt.mp q
            rw [if_neg (by omega)] at hn
            exact lac_l Q o L s c l cl hS m (k + 1) _ _ (nz_inc h3 (by omega)) (by omega) (by rw [hn]; exact h2) hQ
          · have q : ¬ z2.toInt < ((bos K.B (L.so k)).e j).2.1.toInt := fun p => q (nz_lt.mpr p)
            omega
theorem c_countLacking (o : Nat) (L : zL) (s : SHP h w) (c : CK h w K) (l : LO 227 h o) (cl : CL h o L) (hS : L.okS) (hK : ∀ z : Int32, z.toInt = lacn K.B L L.sz → KI z h) : jI X (d + 2) y_Workshop_countLacking [.ref w, .ref o] 227 h KI := by
  refine r_Workshop_countLacking X (d + 1) 227 _ w o h ?_
  exact lac_l X d h w K _ o L s c l cl hS L.sz 0 0 0 rfl (by omega) rfl hK
theorem pri_l (Q : jv_Q) (o : Nat) (L : zL) (s : SHP h w) (c : CK h w K) (l : LO 227 h o) (cl : CL h o L) (hS : L.okS) : ∀ (m k : Nat) (x2 x3 : Int32), x3.toInt = k → k + m = L.sz → (∀ z, prc K.B L m k x2 = some z → Q (some (.int z)) h) → (prc K.B L m k x2 = none → Q (some (.int (-2))) h) → a_Workshop_priceOf_4 X (d + 1) 227 Q w o x2 x3 h 0
  | 0, k, x2, x3, h3, hm, hQ1, hQ0 => by
    exact r_Workshop_priceOf_4 X (d + 1) 227 Q w o x2 x3 h ⟨l.1, fun _ => hQ1 x2 rfl, fun z => absurd (nz_le.mpr (by rw [cl.gz, h3]; omega)) z⟩
  | m + 1, k, x2, x3, h3, hm, hQ1, hQ0 => by
    have hle := cl.le
    have hk : k < L.sz := by omega
    have hs := (hS k hk).nat
    have hcb := c.b hs.2
    unfold prc at hQ1 hQ0
    refine r_Workshop_priceOf_4 X (d + 1) 227 Q w o x2 x3 h ⟨l.1, fun z => ?_, fun z => ⟨s.is, _, s.r2, ?_⟩⟩
    · have := nz_le.mp z
      rw [cl.gz, h3] at this
      omega
    · repeat (first | refine ⟨(l).1, ?_⟩ | refine ⟨_, (l).2.1, ?_⟩ | refine ⟨_, (l).2.2.1, ?_⟩ | refine ⟨_, (l).2.2.2.1, ?_⟩ | refine ⟨(l).xa (by assumption) (by omega), ?_⟩ | refine ⟨(l).xb (by assumption) (by omega), ?_⟩ | refine ⟨(l).xc (by assumption) (by omega), ?_⟩)
      rw [cl.gs h3 hk]
      refine ⟨s.x2 hs.1 hs.2, by decide, _, s.kb hs.2, ?_⟩
      repeat (first | refine ⟨(l).1, ?_⟩ | refine ⟨_, (l).2.1, ?_⟩ | refine ⟨_, (l).2.2.1, ?_⟩ | refine ⟨_, (l).2.2.2.1, ?_⟩ | refine ⟨(l).xa (by assumption) (by omega), ?_⟩ | refine ⟨(l).xb (by assumption) (by omega), ?_⟩ | refine ⟨(l).xc (by assumption) (by omega), ?_⟩)
      rw [cl.gv h3 hk]
      refine ⟨(s.bo hs.2).1, c_find X d 227 _ h _ _ (L.va k) (cl.vr hk) (s.bo hs.2) hcb (fun z hz => ?_)⟩
      have hz : z.toInt = fnd K.B (L.so k) (L.va k) := hz
      refine ⟨fun y => ?_, fun y => ?_⟩
      · have y : 0 ≤ z.toInt := nz_le.mp y
        rw [if_pos (by omega)] at hQ1 hQ0
        rcases fnd_b K.B (L.so k) (L.va k) with f | ⟨j, f, f1, f2⟩
        · omega
        · rw [f] at hz hQ1 hQ0
          have hb10 : (bos K.B (L.so k)).n ≤ 10 := hcb.2.1
          refine ⟨(s.bo hs.2).1, _, (s.bo hs.2).2.2.2.1, (s.bo hs.2).xc hz (by omega), ?_⟩
          rw [hcb.gp hz f1]
          exact pri_l Q o L s c l cl hS m (k + 1) _ _ (nz_inc h3 (by omega)) (by omega) hQ1 hQ0
      · have y : ¬ 0 ≤ z.toInt := fun q => y (nz_le.mpr q)
        rw [if_neg (by omega)] at hQ0
        exact hQ0 rfl
theorem c_priceOf (o : Nat) (L : zL) (s : SHP h w) (c : CK h w K) (l : LO 227 h o) (cl : CL h o L) (hS : L.okS) (hK1 : ∀ z, prc K.B L L.sz 0 0 = some z → KI z h) (hK0 : prc K.B L L.sz 0 0 = none → KI (-2) h) : jI X (d + 2) y_Workshop_priceOf [.ref w, .ref o] 227 h KI := by
  refine r_Workshop_priceOf X (d + 1) 227 _ w o h ?_
  exact pri_l X d h w K _ o L s c l cl hS L.sz 0 0 0 rfl (by omega) hK1 hK0
end
