/-! ===== texts ===== -/
def lk (T : Nat → Int32) (n p : Nat) : Int32 := if p < n then T p else -1
def dg (x : Int32) : Prop := 48 ≤ x.toInt ∧ x.toInt ≤ 57
/-- digits: at most so many, from p on -/
def nmd (T : Nat → Int32) (n : Nat) : Nat → Int → Nat → Int × Nat
  | 0, v, p => (v, p)
  | k + 1, v, p => if 48 ≤ (lk T n p).toInt ∧ (lk T n p).toInt ≤ 57 then nmd T n k (10 * v + (lk T n p).toInt - 48) (p + 1) else (v, p)
/-- a number from p on -/
def rn (T : Nat → Int32) (n p : Nat) : Option (Int × Nat) := if (48 ≤ (lk T n p).toInt ∧ (lk T n p).toInt ≤ 57) ∧ lk T n p ≠ 48 then some (nmd T n 4 0 p) else none
/-- a term from p on: its number, its power, where it ends -/
def tl (T : Nat → Int32) (n p : Nat) : Nat × Nat := if lk T n p = 115 then (if 48 ≤ (lk T n (p + 1)).toInt ∧ (lk T n (p + 1)).toInt ≤ 57 then (((lk T n (p + 1)).toInt - 48).toNat, p + 2) else (1, p + 1)) else (0, p)
def rt (T : Nat → Int32) (n p : Nat) : Option (Int × Nat × Nat) := if lk T n p = 115 then some (1, tl T n p) else (rn T n p).map (fun r => (r.1, tl T n r.2))
def cu (c : Nat → Int) (k : Nat) (v : Int) : Nat → Int := fun i => if i = k then v else c i
/-- terms from p on: where the fault is, or the coefficients and the end -/
def rp (T : Nat → Int32) (n : Nat) : Nat → (Nat → Int) → Bool → Nat → Sum Nat ((Nat → Int) × Nat)
  | 0, _, _, p => .inl p
  | m + 1, c, ng, p =>
    match rt T n p with
    | none => .inl p
    | some (v, w, p1) => if lk T n p1 = 43 ∨ lk T n p1 = 45 then rp T n m (cu c w (c w + if ng then -v else v)) (lk T n p1 = 45) (p1 + 1) else .inr (cu c w (c w + if ng then -v else v), p1)
def rpoly (T : Nat → Int32) (n p : Nat) : Sum Nat ((Nat → Int) × Nat) := if lk T n p = 45 then rp T n 101 (fun _ => 0) true (p + 1) else rp T n 101 (fun _ => 0) false p
def rrat (T : Nat → Int32) (n : Nat) : Sum Nat ((Nat → Int) × (Nat → Int)) :=
  match rpoly T n 0 with
  | .inl p => .inl p
  | .inr (a, p) => if lk T n p = 47 then (match rpoly T n (p + 1) with
    | .inl p2 => .inl p2
    | .inr (b, p2) => if p2 = n then .inr (a, b) else .inl p2) else .inl p
/-- the tape: object 1, its row 2 -/
def TO (n : Nat) (h : jv_H) : Prop := jv_is SHT n 1 16 ∧ h.2.2 1 0 = some 2 ∧ 2 < n
def TP (h : jv_H) (T : Nat → Int32) (m p : Nat) : Prop := (h.1 1 1).toInt = m ∧ (h.1 1 2).toInt = p ∧ m ≤ 100 ∧ p ≤ m ∧ ∀ i, i < m → h.1 2 i = T i
theorem TO.mv {n : Nat} {S : Nat → Prop} {h h' : jv_H} (t : TO n h) (a : oS S h h') : TO n h' := ⟨t.1, by rw [a.1]; exact t.2.1, t.2.2⟩
theorem TP.mv {h h' : jv_H} {T : Nat → Int32} {m p : Nat} {S : Nat → Prop} (t : TP h T m p) (a : oS S h h') (h1 : ¬ S 1) (h2 : ¬ S 2) : TP h' T m p := by
  obtain ⟨t1, t2, t3, t4, t5⟩ := t
  exact ⟨by rw [(a.2 1 h1).1]; exact t1, by rw [(a.2 1 h1).1]; exact t2, t3, t4, fun i hi => by rw [(a.2 2 h2).1]; exact t5 i hi⟩
theorem TP.up {h : jv_H} {T : Nat → Int32} {m p : Nat} (t : TP h T m p) (hp : p < m) : TP (jv_uI h 1 2 (jv_gI h 1 2 + 1)) T m (p + 1) := by
  obtain ⟨t1, t2, t3, t4, t5⟩ := t
  refine ⟨?_, ?_, t3, hp, fun i hi => ?_⟩
  · rw [uI_ne (by decide)]; exact t1
  · rw [uI_eq]; exact nz_inc t2 (by omega)
  · rw [uI_ne (by omega)]; exact t5 i hi
theorem TP.uL {h : jv_H} {T : Nat → Int32} {m p : Nat} {a i : Nat} {v : Int64} (t : TP h T m p) : TP (jv_uL h a i v) T m p := t
theorem lk_lt {T : Nat → Int32} {n p : Nat} {x : Int32} (h : lk T n p = x) (hx : x ≠ -1) : p < n := by
  unfold lk at h
  split at h
  · assumption
  · exact absurd h.symm hx
theorem lk_dg {T : Nat → Int32} {n p : Nat} (h : 48 ≤ (lk T n p).toInt) : p < n := by
  unfold lk at h
  split at h
  · assumption
  · exact absurd h (by decide)
section
variable (X : jv_X) (d n : Nat) (K : jv_H → Prop) (KI : Int32 → jv_H → Prop) (h : jv_H) (T : Nat → Int32) (m p : Nat)
theorem c_look (t : TO n h) (c : TP h T m p) (hK : KI (lk T m p) h) : jI X (d + 1) y_Tape_look [.ref 1] n h KI := by
  obtain ⟨c1, c2, c3, c4, c5⟩ := c
  unfold lk at hK
  refine r_Tape_look X d n _ 1 h ⟨t.1, t.1, fun z => ?_, fun z => ⟨t.1, _, t.2.1, t.1, jx (len := 100) rfl t.2.2 ?_ ?_, ?_⟩⟩
  · have := nz_le.mp z
    rw [show (jv_gI h 1 1).toInt = m from c1, show (jv_gI h 1 2).toInt = p from c2] at this
    rw [if_neg (by omega)] at hK
    exact hK
  · rw [show (jv_gI h 1 2).toInt = p from c2]; omega
  · rw [show (jv_gI h 1 2).toInt = p from c2]
    have : ¬ (jv_gI h 1 1).toInt ≤ (jv_gI h 1 2).toInt := fun y => z (nz_le.mpr y)
    rw [show (jv_gI h 1 1).toInt = m from c1, show (jv_gI h 1 2).toInt = p from c2] at this
    omega
  · have : ¬ (jv_gI h 1 1).toInt ≤ (jv_gI h 1 2).toInt := fun y => z (nz_le.mpr y)
    rw [show (jv_gI h 1 1).toInt = m from c1, show (jv_gI h 1 2).toInt = p from c2] at this
    rw [if_pos (by omega)] at hK
    rw [nz_nat (show (jv_gI h 1 2).toInt = p from c2), show jv_gI h 2 p = T p from c5 p (by omega)]
    exact hK
theorem c_pass (x : Int32) (hx : x ≠ -1) (t : TO n h) (c : TP h T m p) (hK1 : lk T m p = x → TP (jv_uI h 1 2 (jv_gI h 1 2 + 1)) T m (p + 1) → KI 1 (jv_uI h 1 2 (jv_gI h 1 2 + 1))) (hK0 : ¬ lk T m p = x → KI 0 h) : jI X (d + 2) y_Tape_pass [.ref 1, .int x] n h KI := by
  refine r_Tape_pass X (d + 1) n _ 1 x h ⟨t.1, c_look X d n _ h T m p t c ⟨fun e => ⟨t.1, t.1, Or.inr rfl, ?_⟩, fun e => ⟨Or.inl rfl, hK0 e⟩⟩⟩
  exact hK1 e (c.up (lk_lt e hx))
theorem c_isDigit (x : Int32) (hK1 : 48 ≤ x.toInt ∧ x.toInt ≤ 57 → KI 1 h) (hK0 : ¬ (48 ≤ x.toInt ∧ x.toInt ≤ 57) → KI 0 h) : jI X (d + 1) y_Tape_isDigit [.int x] n h KI := by
  refine r_Tape_isDigit X d n _ x h ⟨fun a => ⟨Or.inl rfl, hK0 ?_⟩, fun a => ⟨fun b => ⟨Or.inl rfl, hK0 ?_⟩, fun b => ⟨Or.inr rfl, hK1 ?_⟩⟩⟩
  · have : x.toInt < 48 := nz_lt.mp a
    omega
  · have : 57 < x.toInt := nz_lt.mp b
    omega
  · have h1 : ¬ x.toInt < 48 := fun z => a (nz_lt.mpr z)
    have h2 : ¬ 57 < x.toInt := fun z => b (nz_lt.mpr z)
    omega
theorem nmd_l (Q : jv_Q) : ∀ (f k : Nat) (x : Int32) (h : jv_H) (p : Nat) (v : Int), x.toInt = k → k + f = 4 → TO n h → TP h T m p → (h.2.1 1 3).toInt = v → 0 ≤ v ∧ v < 10 ^ k → (∀ h', oS (fun q => q = 1) h h' → TP h' T m (nmd T m f v p).2 → (h'.2.1 1 3).toInt = (nmd T m f v p).1 → Q (some (.int 1)) h') → a_Tape_readNumber_28 X (d + 1) n Q 1 x h 0
  | 0, k, x, h, p, v, hx, hm, t, c, hv, hb, hQ => by
    exact r_Tape_readNumber_28 X (d + 1) n Q 1 x h ⟨fun _ => ⟨Or.inr rfl, hQ h oS.rf c hv⟩, fun z => absurd (nz_le.mpr (by rw [hx]; show (4 : Int) ≤ _; omega)) z⟩
  | f + 1, k, x, h, p, v, hx, hm, t, c, hv, hb, hQ => by
    unfold nmd at hQ
    refine r_Tape_readNumber_28 X (d + 1) n Q 1 x h ⟨fun z => ?_, fun _ => ⟨t.1, c_look X d n _ h T m p t c ?_⟩⟩
    · have : (4 : Int) ≤ x.toInt := nz_le.mp z
      omega
    · refine c_isDigit X d n _ h _ (fun y => ⟨fun z => absurd z (by decide), fun _ => ⟨t.1, t.1, c_look X d n _ h T m p t c ⟨t.1, t.1, t.1, ?_⟩⟩⟩) (fun y => ⟨fun _ => ⟨Or.inr rfl, ?_⟩, fun z => absurd rfl z⟩)
      · rw [if_pos y] at hQ
        have hb2 : (10 : Int) ^ k ≤ 1000 := by
          have hk : k ≤ 3 := by omega
          have : k = 0 ∨ k = 1 ∨ k = 2 ∨ k = 3 := by omega
          rcases this with e | e | e | e <;> subst e <;> decide
        have e10 : (10 : Int64).toInt = 10 := rfl
        have e48 : (48 : Int64).toInt = 48 := rfl
        have hv' : (jv_gL h 1 3).toInt = v := hv
        have ea : ((10 : Int64) * jv_gL h 1 3).toInt = 10 * v := by rw [nz_mul (by rw [e10, hv']; omega) (by rw [e10, hv']; omega), e10, hv']
        have eb : ((10 : Int64) * jv_gL h 1 3 + (lk T m p).toInt64).toInt = 10 * v + (lk T m p).toInt := by rw [nz_add (by rw [ea, Int32.toInt_toInt64]; omega) (by rw [ea, Int32.toInt_toInt64]; omega), ea, Int32.toInt_toInt64]
        have ec : ((10 : Int64) * jv_gL h 1 3 + (lk T m p).toInt64 - 48).toInt = 10 * v + (lk T m p).toInt - 48 := by rw [nz_sub (by rw [eb, e48]; omega) (by rw [eb, e48]; omega), eb, e48]
        have o1 : oS (fun q => q = 1) h (jv_uI (jv_uL h 1 3 ((10 : Int64) * jv_gL h 1 3 + (lk T m p).toInt64 - 48)) 1 2 (jv_gI (jv_uL h 1 3 ((10 : Int64) * jv_gL h 1 3 + (lk T m p).toInt64 - 48)) 1 2 + 1)) := (oS_uL (S := fun q => q = 1) rfl).tr (oS_uI rfl)
        refine nmd_l Q f (k + 1) _ _ (p + 1) _ (nz_inc hx (by omega)) (by omega) (t.mv o1) (TP.up (h := jv_uL h 1 3 _) c.uL (lk_dg y.1)) (Eq.trans (congrArg Int64.toInt uL_eq) ec) ?_ (fun h' o' c' v' => hQ h' (o1.tr o') c' v')
        have : (10 : Int) ^ (k + 1) = 10 ^ k * 10 := Int.pow_succ 10 k
        omega
      · rw [if_neg y] at hQ
        exact hQ h oS.rf c hv
theorem c_readNumber (t : TO n h) (c : TP h T m p) (hK1 : ∀ r, rn T m p = some r → ∀ h', oS (fun q => q = 1) h h' → TP h' T m r.2 → (h'.2.1 1 3).toInt = r.1 → KI 1 h') (hK0 : rn T m p = none → KI 0 h) : jI X (d + 2) y_Tape_readNumber [.ref 1] n h KI := by
  unfold rn at hK1 hK0
  refine r_Tape_readNumber X (d + 1) n _ 1 h ⟨t.1, c_look X d n _ h T m p t c ?_⟩
  refine c_isDigit X d n _ h _ (fun y => ⟨fun z => absurd z (by decide), fun _ => ⟨t.1, c_look X d n _ h T m p t c ⟨fun e => ⟨t.1, ?_⟩, fun e => ⟨Or.inl rfl, ?_⟩⟩⟩⟩) (fun y => ⟨fun _ => ⟨Or.inl rfl, ?_⟩, fun z => absurd rfl z⟩)
  · rw [if_pos ⟨y, e⟩] at hK1
    have o1 : oS (fun q => q = 1) h (jv_uL h 1 3 0) := oS_uL rfl
    exact nmd_l X d n T m _ 4 0 0 _ p 0 rfl rfl (t.mv o1) c.uL (congrArg Int64.toInt uL_eq) (by decide) (fun h' o' c' v' => hK1 _ rfl h' (o1.tr o') c' v')
  · rw [if_neg (fun z => z.2 e)] at hK0
    exact hK0 rfl
  · rw [if_neg (fun z => y z.1)] at hK0
    exact hK0 rfl
end
theorem nmd_b (T : Nat → Int32) (n : Nat) : ∀ (f k : Nat) (v : Int) (p : Nat), k + f = 4 → 0 ≤ v → v < 10 ^ k → 0 ≤ (nmd T n f v p).1 ∧ (nmd T n f v p).1 ≤ 9999 ∧ v ≤ (nmd T n f v p).1 ∧ p ≤ (nmd T n f v p).2
  | 0, k, v, p, hk, h0, hb => by
    rw [show k = 4 by omega] at hb
    exact ⟨h0, by have : v < 10000 := hb; show v ≤ 9999; omega, Int.le_refl _, Nat.le_refl _⟩
  | f + 1, k, v, p, hk, h0, hb => by
    unfold nmd
    have h4 : (10 : Int) ^ (k + 1) = 10 ^ k * 10 := Int.pow_succ 10 k
    have h5 : (10 : Int) ^ k ≤ 1000 := by
      have : k = 0 ∨ k = 1 ∨ k = 2 ∨ k = 3 := by omega
      rcases this with e | e | e | e <;> subst e <;> decide
    split
    · rename_i y
      have := nmd_b T n f (k + 1) (10 * v + (lk T n p).toInt - 48) (p + 1) (by omega) (by omega) (by omega)
      omega
    · exact ⟨h0, by show v ≤ 9999; omega, Int.le_refl _, Nat.le_refl _⟩
theorem rn_b {T : Nat → Int32} {n p : Nat} {r : Int × Nat} (h : rn T n p = some r) : 1 ≤ r.1 ∧ r.1 ≤ 9999 ∧ p < r.2 := by
  unfold rn at h
  split at h
  · rename_i y
    injection h with h
    rw [← h]
    have hne : (lk T n p).toInt ≠ 48 := fun z => y.2 (Int32.toInt_inj.mp (by rw [z]; rfl))
    have e : nmd T n 4 0 p = nmd T n 3 (10 * 0 + (lk T n p).toInt - 48) (p + 1) := if_pos y.1
    rw [e]
    have := nmd_b T n 3 1 (10 * 0 + (lk T n p).toInt - 48) (p + 1) rfl (by omega) (by show _ < (10 : Int); omega)
    omega
  · cases h
