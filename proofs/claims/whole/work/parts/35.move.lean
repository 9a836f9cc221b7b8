/-! ===== a polynomial moved ===== -/
def pz_up (f : Nat → Int × Int) (k : Nat) (v : Int × Int) : Nat → Int × Int := fun i => if i = k then v else f i
/-- one place after the other takes the next one's times more; none: too wide -/
def pz_run (q : Int × Int) : List Nat → (Nat → Int × Int) → Option (Nat → Int × Int)
  | [], f => some f
  | i :: r, f => if fz_sum (f i) (fz_mul q (f (i + 1))) = (-1, 0) then none else pz_run q r (pz_up f i (fz_sum (f i) (fz_mul q (f (i + 1)))))
def sh_in (j : Nat) : Nat → List Nat
  | 0 => []
  | m + 1 => (j + m) :: sh_in j m
def sh_out (g : Nat) : Nat → List Nat
  | 0 => []
  | m + 1 => sh_in (g - (m + 1)) (m + 1) ++ sh_out g m
theorem pz_run_app (q : Int × Int) : ∀ (a b : List Nat) (f : Nat → Int × Int), pz_run q (a ++ b) f = (pz_run q a f).bind (pz_run q b)
  | [], b, f => rfl
  | i :: r, b, f => by
    simp only [List.cons_append, pz_run]
    split
    · rfl
    · exact pz_run_app q r b _
theorem pc.up {a k : Nat} {h : jv_H} {f : Nat → Int × Int} {v : Int × Int} (hp : pc h a f) (hv : fz_r v) (hk : k < 13) : pc (jv_uL h a k (fz_p v)) a (pz_up f k v) :=
  hp.st hv hk (if_pos rfl) (fun _ _ hik => if_neg hik)
theorem move_in (X : jv_X) (d n : Nat) (Q : jv_Q) (p a : Nat) (q : Int × Int) (hq : fz_r q) (x3 x4 : Int32) (j : Nat) (h4 : x4.toInt = j) :
    ∀ (m : Nat) (x5 : Int32) (h : jv_H) (f : Nat → Int × Int), x5.toInt = (j : Int) + m - 1 → j + m ≤ 12 → PO n h p a → pc h a f →
      (∀ f', pz_run q (sh_in j m) f = some f' → ∀ h', oS (fun w => w = a) h h' → pc h' a f' → a_Poly_moveBy_8 X (d + 3) n Q p (fz_p q) x3 (x4 + 1) h' 0) → (pz_run q (sh_in j m) f = none → ∀ h', oS (fun w => w = a) h h' → Q (some (.int 0)) h') → a_Poly_moveBy_19 X (d + 3) n Q p (fz_p q) x3 x4 x5 h 0
  | 0, x5, h, f, h5, hm, hp, hf, hQ1, hQ0 => by
    refine r_Poly_moveBy_19 X (d + 3) n Q p (fz_p q) x3 x4 x5 h ⟨fun _ => hQ1 f rfl h oS.rf hf, fun z => ?_⟩
    exact absurd (nz_lt.mpr (by rw [h5, h4]; omega)) z
  | m + 1, x5, h, f, h5, hm, hp, hf, hQ1, hQ0 => by
    have h5' : x5.toInt = ((j + m : Nat) : Int) := by omega
    refine r_Poly_moveBy_19 X (d + 3) n Q p (fz_p q) x3 x4 x5 h ⟨fun z => ?_, fun _ => ⟨hp.1, ?_⟩⟩
    · have := nz_lt.mp z
      rw [h5, h4] at this
      omega
    · refine c_at X (d + 1) n _ h p a f _ hp hf ?_
      have hat : pz_at f (x5 + 1).toInt = f (j + m + 1) := by
        rw [nz_inc h5' (by omega)]
        unfold pz_at
        rw [if_pos (by omega)]
        congr 1
      rw [hat]
      refine c_product X d n _ h q _ hq (hf _ (by omega)).2 ?_
      refine ⟨hp.1, a, hp.2.1, hp.1, a, hp.2.1, hp.ix h5' (by omega), ?_⟩
      have hv := hf (j + m) (by omega)
      rw [nz_nat h5', show jv_gL h a (j + m) = fz_p (f (j + m)) from hv.1]
      refine c_sum X d n _ h _ _ hv.2 (fz_mul_r _ _) ?_
      refine ⟨hp.ix h5' (by omega), hp.1, a, hp.2.1, hp.ix h5' (by omega), ?_⟩
      rw [uL_same]
      have hnr : fz_r (fz_sum (f (j + m)) (fz_mul q (f (j + m + 1)))) := fz_sum_r _ _
      have ho : oS (fun w => w = a) h (jv_uL h a (j + m) (fz_p (fz_sum (f (j + m)) (fz_mul q (f (j + m + 1)))))) := oS_uL rfl
      simp only [sh_in, pz_run] at hQ1 hQ0
      refine c_isWide X (d + 2) n _ _ _ hnr ⟨fun w => ?_, fun w => ⟨Or.inl rfl, ?_⟩⟩
      · rw [nz_bt] at w
        rw [if_neg w] at hQ1 hQ0
        exact move_in X d n Q p a q hq x3 x4 j h4 m _ _ _ (by rw [nz_dec h5' (by omega)]; omega) (by omega) (hp.mv ho) (hf.up hnr (by omega)) (fun f' z h' h1 h2 => hQ1 f' z h' (ho.tr h1) h2) (fun z h' h1 => hQ0 z h' (ho.tr h1))
      · rw [nz_bt, Classical.not_not] at w
        rw [if_pos w] at hQ0
        exact hQ0 rfl _ ho
theorem move_out (X : jv_X) (d n : Nat) (Q : jv_Q) (p a : Nat) (q : Int × Int) (hq : fz_r q) (x3 : Int32) (g : Nat) (h3 : x3.toInt = g) (hg : g ≤ 12) :
    ∀ (m : Nat) (x4 : Int32) (h : jv_H) (f : Nat → Int × Int), x4.toInt = (g : Int) - m → m ≤ g → PO n h p a → pc h a f →
      (∀ f', pz_run q (sh_out g m) f = some f' → ∀ h', oS (fun w => w = a) h h' → pc h' a f' → Q (some (.int 1)) h') → (pz_run q (sh_out g m) f = none → ∀ h', oS (fun w => w = a) h h' → Q (some (.int 0)) h') → a_Poly_moveBy_8 X (d + 3) n Q p (fz_p q) x3 x4 h 0
  | 0, x4, h, f, h4, hm, hp, hf, hQ1, hQ0 => by
    refine r_Poly_moveBy_8 X (d + 3) n Q p (fz_p q) x3 x4 h ⟨fun _ => ⟨Or.inr rfl, hQ1 f rfl h oS.rf hf⟩, fun z => ?_⟩
    exact absurd (nz_le.mpr (by rw [h3, h4]; omega)) z
  | m + 1, x4, h, f, h4, hm, hp, hf, hQ1, hQ0 => by
    have h4' : x4.toInt = ((g - (m + 1) : Nat) : Int) := by omega
    refine r_Poly_moveBy_8 X (d + 3) n Q p (fz_p q) x3 x4 h ⟨fun z => ?_, fun _ => ?_⟩
    · have := nz_le.mp z
      rw [h3, h4] at this
      omega
    · simp only [sh_out, pz_run_app] at hQ1 hQ0
      have e1 : (1 : Int32).toInt = 1 := rfl
      refine move_in X d n Q p a q hq x3 x4 (g - (m + 1)) h4' (m + 1) _ h f (by rw [nz_subi (by rw [h3, e1]; omega) (by rw [h3, e1]; omega), h3, e1]; omega) (by omega) hp hf (fun f' z h' h1 h2 => ?_) (fun z h' h1 => ?_)
      · rw [z] at hQ1 hQ0
        exact move_out X d n Q p a q hq x3 g h3 hg m _ h' f' (by rw [nz_inc h4' (by omega)]; omega) (by omega) (hp.mv h1) h2 (fun f'' y h'' g1 g2 => hQ1 f'' y h'' (h1.tr g1) g2) (fun y h'' g1 => hQ0 y h'' (h1.tr g1))
      · rw [z] at hQ0
        exact hQ0 rfl h' h1
theorem pz_hi_le (f : Nat → Int × Int) : ∀ k : Nat, -1 ≤ pz_hi f k ∧ pz_hi f k < k
  | 0 => ⟨by show (-1 : Int) ≤ -1; decide, by show (-1 : Int) < 0; decide⟩
  | k + 1 => by
    unfold pz_hi
    have := pz_hi_le f k
    split
    · omega
    · omega
/-- how a poly that is moved comes out -/
def pz_mv (f : Nat → Int × Int) (q : Int × Int) : Option (Nat → Int × Int) := pz_run q (sh_out (pz_hi f 13).toNat (pz_hi f 13).toNat) f
theorem c_moveBy (X : jv_X) (d n : Nat) (K : Int32 → jv_H → Prop) (h : jv_H) (p a : Nat) (f : Nat → Int × Int) (q : Int × Int) (hq : fz_r q) (hp : PO n h p a) (hf : pc h a f)
    (hK1 : ∀ f', pz_mv f q = some f' → ∀ h', oS (fun w => w = a) h h' → pc h' a f' → K 1 h') (hK0 : pz_mv f q = none → ∀ h', oS (fun w => w = a) h h' → K 0 h') : jI X (d + 4) y_Poly_moveBy [.ref p, .long (fz_p q)] n h K := by
  refine r_Poly_moveBy X (d + 3) n _ p _ h ⟨hp.1, c_highest X (d + 2) n _ h p a f hp hf (fun z e => ?_)⟩
  have hb := pz_hi_le f 13
  by_cases hneg : pz_hi f 13 < 0
  · have e0 : (pz_hi f 13).toNat = 0 := by omega
    unfold pz_mv at hK1
    rw [e0] at hK1
    refine r_Poly_moveBy_8 X (d + 3) n _ p (fz_p q) z 0 h ⟨fun _ => ⟨Or.inr rfl, hK1 f rfl h oS.rf hf⟩, fun y => ?_⟩
    exact absurd (nz_le.mpr (by rw [e]; show _ ≤ (0 : Int); omega)) y
  · exact move_out X d n _ p a q hq z (pz_hi f 13).toNat (by omega) (by omega) (pz_hi f 13).toNat 0 h f (by show (0 : Int) = _; omega) (Nat.le_refl _) hp hf hK1 hK0
