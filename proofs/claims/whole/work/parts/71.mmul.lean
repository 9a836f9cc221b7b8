/-! ===== the reference: a ladder multiplied out ===== -/
/-- two rows that were worked -/
def gres (h' : jv_H) (un ln uf lf : Nat) (w w' : Bool) (R : Option ((Nat → Int × Int) × (Nat → Int × Int))) : Prop := (w' = false ∧ w = false ∧ ∃ P, R = some P ∧ rw0 h' un ln P.1 ∧ rw0 h' uf lf P.2 ∧ gdr P.1 ∧ gdr P.2) ∨ (w' = true ∧ (w = true ∨ R = none) ∧ ∃ A B, rw0 h' un ln A ∧ rw0 h' uf lf B ∧ gdr A ∧ gdr B)
theorem add_gd {F G : Nat → Int × Int} {v : Int × Int} {r : Int} (n : noW (pz_add F G v r)) : gdr (pz_add F G v r) := fun i hi => fz_of_gd (n i hi)
theorem grow_gd {F : Nat → Int × Int} {v : Int × Int} {r : Int} (n : noW (pz_grow F v r)) : gdr (pz_grow F v r) := fun i hi => fz_of_gd (n i hi)
section
variable (X : jv_X) (d : Nat) (h : jv_H) (K : jv_H → Prop) (KI : Int32 → jv_H → Prop) (Z : zZ)
theorem go_plain (un ln uf lf : Nat) (hun : 200 ≤ un ∧ un ≤ 203) (hln : 200 ≤ ln ∧ ln ≤ 203) (huf : 200 ≤ uf ∧ uf ≤ 203) (hlf : 200 ≤ lf ∧ lf ≤ 203) (hne : un ≠ ln ∧ uf ≠ un ∧ uf ≠ ln ∧ lf ≠ un ∧ lf ≠ ln) (s u : Int32) (hp : ris s u ≠ 0 ∨ (s = 2 ∧ u = 0)) (x5 x7 : Int64) (v : Int × Int) (hv : gz v) (h5 : x5.toInt = v.1) (h7 : x7.toInt = v.2) (x9 : Int32) (h9 : x9.toInt = (if s = 2 then 0 else 1 : Int)) (N F : Nat → Int × Int) (gN : gdr N) (gF : gdr F) (w0 : Bool) (hw : h.1 171 6 = (if w0 then 1 else 0)) (c : rw0 h un ln N) (c2 : rw0 h uf lf F)
    (hK : ∀ h' w', oT (mI 171) abL h h' → h'.1 171 6 = (if w' then 1 else 0) → gres h' un ln uf lf w0 w' (tkn s u v N F) → K h') : jV X (d + 4) y_Model_adds [.ref 171, .ref un, .ref ln, .ref uf, .ref lf, .long x5, .long x7, .int x9] 227 h K := by
  have eo : ∃ on : Nat, on ≤ 1 ∧ (if s = 2 then 0 else 1 : Int) = on := by
    by_cases e : s = 2
    · exact ⟨0, by omega, by rw [if_pos e]; rfl⟩
    · exact ⟨1, by omega, by rw [if_neg e]; rfl⟩
  obtain ⟨on, hon, eon⟩ := eo
  rw [eon] at h9
  have et : tkn s u v N F = cif (noW (pz_add N F v on)) (some (pz_add N F v on, F)) none := by
    unfold tkn
    rw [if_pos hp, eon]
  refine m_adds X d h _ un ln uf lf hun hln huf hlf hne x5 x7 v hv h5 h7 x9 on h9 hon N F gN gF w0 hw c c2 (fun h' w' o' a1 a2 => hK h' w' (u4_ab hun hln o') a1 ?_)
  have cf : rw0 h' uf lf F := c2.mv o' (fun i => ⟨fun z => by unfold u4 at z; omega, fun z => by unfold u4 at z; omega⟩)
  rw [et]
  rcases a2 with ⟨z1, z2, z3, z4⟩ | ⟨z1, z2, A, z3, z4⟩
  · exact Or.inl ⟨z1, z2, _, cif_t z3, z4, cf, add_gd z3, gF⟩
  · exact Or.inr ⟨z1, z2.imp id (fun z => cif_f z), A, F, z4, cf, z3, gF⟩
theorem go_grow (un ln uf lf : Nat) (hun : 200 ≤ un ∧ un ≤ 203) (hln : 200 ≤ ln ∧ ln ≤ 203) (huf : 200 ≤ uf ∧ uf ≤ 203) (hlf : 200 ≤ lf ∧ lf ≤ 203) (hne : un ≠ ln ∧ uf ≠ un ∧ uf ≠ ln ∧ lf ≠ un ∧ lf ≠ ln) (hne2 : uf ≠ lf) (s u : Int32) (hp : ¬ (ris s u ≠ 0 ∨ (s = 2 ∧ u = 0))) (x5 x7 : Int64) (v : Int × Int) (hv : gz v) (h5 : x5.toInt = v.1) (h7 : x7.toInt = v.2) (x9 : Int32) (h9 : x9.toInt = (if s = 2 then 0 else 1 : Int)) (N F : Nat → Int × Int) (gN : gdr N) (gF : gdr F) (w0 : Bool) (hw : h.1 171 6 = (if w0 then 1 else 0)) (c : rw0 h un ln N) (c2 : rw0 h uf lf F) (C1 C2 : jv_H → Prop)
    (k1 : ∀ h1, oT (mI 171) abL h h1 → jV X (d + 4) y_Model_adds [.ref 171, .ref un, .ref ln, .ref uf, .ref lf, .long 1, .long 1, .int 0] 227 h1 C2 → C1 h1) (k2 : ∀ h2, oT (mI 171) abL h h2 → jV X (d + 4) y_Model_grows [.ref 171, .ref uf, .ref lf, .long x5, .long x7, .int x9] 227 h2 K → C2 h2)
    (hK : ∀ h' w', oT (mI 171) abL h h' → h'.1 171 6 = (if w' then 1 else 0) → gres h' un ln uf lf w0 w' (tkn s u v N F) → K h') : jV X (d + 4) y_Model_grows [.ref 171, .ref un, .ref ln, .long x5, .long x7, .int x9] 227 h C1 := by
  have eo : ∃ on : Nat, on ≤ 1 ∧ (if s = 2 then 0 else 1 : Int) = on := by
    by_cases e : s = 2
    · exact ⟨0, by omega, by rw [if_pos e]; rfl⟩
    · exact ⟨1, by omega, by rw [if_neg e]; rfl⟩
  obtain ⟨on, hon, eon⟩ := eo
  rw [eon] at h9
  have et : tkn s u v N F = cif (noW (pz_grow N v on)) (cif (noW (pz_add (pz_grow N v on) F (1, 1) 0)) (cif (noW (pz_grow F v on)) (some (pz_add (pz_grow N v on) F (1, 1) 0, pz_grow F v on)) none) none) none := by
    unfold tkn
    rw [if_neg hp, eon]
  have nf : ∀ {h1 h2 : jv_H} {f : Nat → Int × Int}, oT (mI 171) (u4 un ln) h1 h2 → rw0 h1 uf lf f → rw0 h2 uf lf f := fun o c => c.mv o (fun i => ⟨fun z => by unfold u4 at z; omega, fun z => by unfold u4 at z; omega⟩)
  have nn : ∀ {h1 h2 : jv_H} {f : Nat → Int × Int}, oT (mI 171) (u4 uf lf) h1 h2 → rw0 h1 un ln f → rw0 h2 un ln f := fun o c => c.mv o (fun i => ⟨fun z => by unfold u4 at z; omega, fun z => by unfold u4 at z; omega⟩)
  refine m_grows X d h _ un ln hun hln hne.1 x5 x7 v hv h5 h7 x9 on h9 hon N gN w0 hw c (fun h1 w1 o1 a1 a2 => k1 h1 (u4_ab hun hln o1) ?_)
  have cf1 := nf o1 c2
  have key : ∀ (N1 : Nat → Int × Int), gdr N1 → rw0 h1 un ln N1 → ((w1 = false ∧ w0 = false ∧ noW (pz_grow N v on) ∧ N1 = pz_grow N v on) ∨ (w1 = true ∧ (w0 = true ∨ ¬ noW (pz_grow N v on)))) → jV X (d + 4) y_Model_adds [.ref 171, .ref un, .ref ln, .ref uf, .ref lf, .long 1, .long 1, .int 0] 227 h1 C2 := fun N1 g1 c1 i1 => by
    refine m_adds X d h1 _ un ln uf lf hun hln huf hlf hne 1 1 (1, 1) gz_1 rfl rfl 0 0 rfl (by omega) N1 F g1 gF w1 a1 c1 cf1 (fun h2 w2 o2 b1 b2 => k2 h2 ((u4_ab hun hln o1).tr (u4_ab hun hln o2)) ?_)
    have b2 : wres h2 un ln w1 w2 (pz_add N1 F (1, 1) 0) := b2
    have cf2 := nf o2 cf1
    refine m_grows X d h2 _ uf lf huf hlf hne2 x5 x7 v hv h5 h7 x9 on h9 hon F gF w2 b1 cf2 (fun h3 w3 o3 d1 d2 => hK h3 w3 (((u4_ab hun hln o1).tr (u4_ab hun hln o2)).tr (u4_ab huf hlf o3)) d1 ?_)
    rw [et]
    have rows2 : ∃ A, gdr A ∧ rw0 h3 un ln A := by
      rcases b2 with ⟨z1, z2, z3, z4⟩ | ⟨z1, z2, A, z3, z4⟩
      · exact ⟨_, add_gd z3, nn o3 z4⟩
      · exact ⟨A, z3, nn o3 z4⟩
    have rows3 : ∃ B, gdr B ∧ rw0 h3 uf lf B := by
      rcases d2 with ⟨z1, z2, z3, z4⟩ | ⟨z1, z2, A, z3, z4⟩
      · exact ⟨_, grow_gd z3, z4⟩
      · exact ⟨A, z3, z4⟩
    obtain ⟨A, gA, cA⟩ := rows2
    obtain ⟨B, gB, cB⟩ := rows3
    rcases i1 with ⟨y1, y2, y3, y4⟩ | ⟨y1, y2⟩
    · rw [cif_t y3]
      subst y4
      rcases b2 with ⟨z1, z2, z3, z4⟩ | ⟨z1, z2, _⟩
      · rw [cif_t z3]
        rcases d2 with ⟨x1, x2, x3, x4⟩ | ⟨x1, x2, _⟩
        · exact Or.inl ⟨x1, y2, _, cif_t x3, nn o3 z4, x4, add_gd z3, grow_gd x3⟩
        · exact Or.inr ⟨x1, Or.inr (x2.elim (fun z => by rw [z1] at z; cases z) (fun z => cif_f z)), A, B, cA, cB, gA, gB⟩
      · have hz : ¬ noW (pz_add (pz_grow N v on) F (1, 1) 0) := z2.elim (fun z => by rw [y1] at z; cases z) id
        rw [cif_f hz]
        rcases d2 with ⟨x1, x2, _⟩ | ⟨x1, x2, _⟩
        · rw [z1] at x2; cases x2
        · exact Or.inr ⟨x1, Or.inr rfl, A, B, cA, cB, gA, gB⟩
    · have hw3 : w3 = true := by
        rcases d2 with ⟨x1, x2, _⟩ | ⟨x1, x2, _⟩
        · rcases b2 with ⟨z1, z2, _⟩ | ⟨z1, z2, _⟩
          · rw [y1] at z2; cases z2
          · rw [z1] at x2; cases x2
        · exact x1
      exact Or.inr ⟨hw3, y2.imp id (fun z => cif_f z), A, B, cA, cB, gA, gB⟩
  rcases a2 with ⟨z1, z2, z3, z4⟩ | ⟨z1, z2, A, z3, z4⟩
  · exact key _ (grow_gd z3) z4 (Or.inl ⟨z1, z2, z3, rfl⟩)
  · exact key A z3 z4 (Or.inr ⟨z1, z2⟩)
theorem m_goesOut (x1 : Int32) (k : Nat) (hx : x1.toInt = k) (hk : k < 72) (s u : Int32) (v : Int × Int) (hs : s3 s) (hu : u = 0 ∨ u = 1) (hv : gp v) (mr : MR h) (g1 : jv_gI h 175 k = s) (g2 : jv_gI h 176 k = u) (g3 : uq h 179 180 k = v) (A B : Nat → Int × Int) (gA : gdr A) (gB : gdr B) (w0 : Bool) (hw : h.1 171 6 = (if w0 then 1 else 0)) (cA : rw0 h 200 201 A) (cB : rw0 h 202 203 B)
    (hK : ∀ h' w', oT (mI 171) abL h h' → h'.1 171 6 = (if w' then 1 else 0) → gres h' 200 201 202 203 w0 w' (tk s u v (A, B)) → K h') : jV X (d + 5) y_Model_goesOut [.ref 171, .int x1] 227 h K := by
  have hsn : s = 0 ∨ s = 1 ∨ s = 2 := by
    obtain ⟨i, h1, h2⟩ := hs
    have : i = 0 ∨ i = 1 ∨ i = 2 := by omega
    rcases this with z | z | z
    · exact Or.inl (Int32.toInt_inj.mp (by rw [h2, z]; rfl))
    · exact Or.inr (Or.inl (Int32.toInt_inj.mp (by rw [h2, z]; rfl)))
    · exact Or.inr (Or.inr (Int32.toInt_inj.mp (by rw [h2, z]; rfl)))
  have rA : ∀ {h' : jv_H}, oT (mI 171) abL h h' → MR h' := fun o => mr.mv o
  have ser : u = 0 → (∀ h' w', oT (mI 171) abL h h' → h'.1 171 6 = (if w' then 1 else 0) → gres h' 200 201 202 203 w0 w' (tkn s u v A B) → K h') := fun e h' w' o' a1 a2 => hK h' w' o' a1 (by
    unfold tk
    rw [if_pos e]
    exact a2)
  have shu : ¬ u = 0 → (∀ h' w', oT (mI 171) abL h h' → h'.1 171 6 = (if w' then 1 else 0) → gres h' 202 203 200 201 w0 w' (tkn s u v B A) → K h') := fun e h' w' o' a1 a2 => hK h' w' o' a1 (by
    unfold tk
    rw [if_neg e]
    dsimp only
    rcases a2 with ⟨z1, z2, P, z3, z4, z5, z6, z7⟩ | ⟨z1, z2, N, F, z4, z5, z6, z7⟩
    · exact Or.inl ⟨z1, z2, (P.2, P.1), by rw [z3]; rfl, z5, z4, z7, z6⟩
    · exact Or.inr ⟨z1, z2.imp id (fun z => by rw [z]; rfl), F, N, z5, z4, z7, z6⟩)
  have plainS : ∀ x9 : Int32, x9.toInt = (if s = 2 then 0 else 1 : Int) → u = 0 → (ris s u ≠ 0 ∨ (s = 2 ∧ u = 0)) → a_Model_goesOut_82 X (d + 4) 227 (jv_rV K) 171 (jv_gL h 179 k) (jv_gL h 180 k) 1 1 x9 h 0 := fun x9 h9 e hp => r_Model_goesOut_82 X (d + 4) 227 _ 171 _ _ 1 1 x9 h ⟨fun z => absurd z (by decide), fun _ => ⟨fun z => absurd z (by decide), fun _ => ⟨is171, _, mr 39, is171, _, mr 40, is171, _, mr 41, is171, _, mr 42, is171, go_plain X d h _ 200 201 202 203 (by decide) (by decide) (by decide) (by decide) (by decide) s u hp _ _ v hv.1.z (uq.a g3) (uq.b g3) x9 h9 A B gA gB w0 hw cA cB (ser e)⟩⟩⟩
  have plainH : ∀ x9 : Int32, x9.toInt = (if s = 2 then 0 else 1 : Int) → ¬ u = 0 → (ris s u ≠ 0 ∨ (s = 2 ∧ u = 0)) → a_Model_goesOut_82 X (d + 4) 227 (jv_rV K) 171 (jv_gL h 179 k) (jv_gL h 180 k) 0 1 x9 h 0 := fun x9 h9 e hp => r_Model_goesOut_82 X (d + 4) 227 _ 171 _ _ 0 1 x9 h ⟨fun z => absurd z (by decide), fun _ => ⟨fun _ => r_Model_goesOut_122 X (d + 4) 227 _ 171 _ _ 0 1 x9 h ⟨fun z => absurd z (by decide), fun _ => ⟨is171, _, mr 41, is171, _, mr 42, is171, _, mr 39, is171, _, mr 40, is171, go_plain X d h _ 202 203 200 201 (by decide) (by decide) (by decide) (by decide) (by decide) s u hp _ _ v hv.1.z (uq.a g3) (uq.b g3) x9 h9 B A gB gA w0 hw cB cA (shu e)⟩⟩, fun z => absurd rfl z⟩⟩
  have growS : ∀ x9 : Int32, x9.toInt = (if s = 2 then 0 else 1 : Int) → u = 0 → ¬ (ris s u ≠ 0 ∨ (s = 2 ∧ u = 0)) → a_Model_goesOut_82 X (d + 4) 227 (jv_rV K) 171 (jv_gL h 179 k) (jv_gL h 180 k) 1 0 x9 h 0 := fun x9 h9 e hp => r_Model_goesOut_82 X (d + 4) 227 _ 171 _ _ 1 0 x9 h ⟨fun _ => r_Model_goesOut_122 X (d + 4) 227 _ 171 _ _ 1 0 x9 h ⟨fun _ => ⟨fun z => absurd z (by decide), fun _ => ⟨is171, _, mr 39, is171, _, mr 40, is171, go_grow X d h K 200 201 202 203 (by decide) (by decide) (by decide) (by decide) (by decide) (by decide) s u hp _ _ v hv.1.z (uq.a g3) (uq.b g3) x9 h9 A B gA gB w0 hw cA cB _ _ (fun h1 o z => ⟨is171, _, (rA o) 39, is171, _, (rA o) 40, is171, _, (rA o) 41, is171, _, (rA o) 42, is171, z⟩) (fun h1 o z => ⟨is171, _, (rA o) 41, is171, _, (rA o) 42, is171, z⟩) (ser e)⟩⟩, fun z => absurd rfl z⟩, fun z => absurd rfl z⟩
  have growH : ∀ x9 : Int32, x9.toInt = (if s = 2 then 0 else 1 : Int) → ¬ u = 0 → ¬ (ris s u ≠ 0 ∨ (s = 2 ∧ u = 0)) → a_Model_goesOut_82 X (d + 4) 227 (jv_rV K) 171 (jv_gL h 179 k) (jv_gL h 180 k) 0 0 x9 h 0 := fun x9 h9 e hp => r_Model_goesOut_82 X (d + 4) 227 _ 171 _ _ 0 0 x9 h ⟨fun _ => r_Model_goesOut_122 X (d + 4) 227 _ 171 _ _ 0 0 x9 h ⟨fun _ => ⟨fun _ => ⟨is171, _, mr 41, is171, _, mr 42, is171, go_grow X d h K 202 203 200 201 (by decide) (by decide) (by decide) (by decide) (by decide) (by decide) s u hp _ _ v hv.1.z (uq.a g3) (uq.b g3) x9 h9 B A gB gA w0 hw cB cA _ _ (fun h1 o z => ⟨is171, _, (rA o) 41, is171, _, (rA o) 42, is171, _, (rA o) 39, is171, _, (rA o) 40, is171, z⟩) (fun h1 o z => ⟨is171, _, (rA o) 39, is171, _, (rA o) 40, is171, z⟩) (shu e)⟩, fun z => absurd rfl z⟩, fun z => absurd rfl z⟩, fun z => absurd rfl z⟩
  have gi : ∀ q : Nat, ∀ t : Nat, SHT q = (t, 72) → q < 227 → jv_ix SHT 227 q t x1 := fun q t h1 h2 => jx h1 h2 (by omega) (by omega)
  refine r_Model_goesOut X (d + 4) 227 _ 171 x1 h ⟨is171, _, mr 14, gi 179 1 rfl (by decide), is171, _, mr 15, gi 180 1 rfl (by decide), is171, _, mr 11, gi 176 0 rfl (by decide), ?_⟩
  rw [nz_nat hx, g2]
  have x1' : ¬ s = 2 → (1 : Int32).toInt = (if s = 2 then 0 else 1 : Int) := fun e => by rw [if_neg e]; rfl
  have x0' : s = 2 → (0 : Int32).toInt = (if s = 2 then 0 else 1 : Int) := fun e => by rw [if_pos e]; rfl
  refine ⟨fun a => ⟨is171, _, mr 10, gi 175 0 rfl (by decide), ?_⟩, fun a => ⟨is171, _, mr 10, gi 175 0 rfl (by decide), ?_⟩⟩
  · rw [g1]
    have u1 : u = 1 := hu.elim (fun z => absurd z a) id
    have rp : s = 1 → (ris s u ≠ 0 ∨ (s = 2 ∧ u = 0)) := fun e => by rw [e, u1]; exact Or.inl (by decide)
    have rn : ¬ s = 1 → ¬ (ris s u ≠ 0 ∨ (s = 2 ∧ u = 0)) := fun e z => by
      rcases z with z | z
      · apply z
        unfold ris
        rw [if_neg a, if_neg e]
      · exact a z.2
    exact ⟨fun _ => ⟨fun e => ⟨fun e2 => growH 1 (x1' e2) a (rn e), fun e2 => growH 0 (x0' e2) a (rn e)⟩, fun e => ⟨fun e2 => plainH 1 (x1' e2) a (rp e), fun e2 => plainH 0 (x0' e2) a (rp e)⟩⟩, fun z => absurd rfl z⟩
  · rw [g1]
    have rp : ¬ s = 1 → (ris s u ≠ 0 ∨ (s = 2 ∧ u = 0)) := fun e => by
      rcases hsn with z | z | z
      · rw [z, a]; exact Or.inl (by decide)
      · exact absurd z e
      · exact Or.inr ⟨z, a⟩
    have rn : s = 1 → ¬ (ris s u ≠ 0 ∨ (s = 2 ∧ u = 0)) := fun e z => by
      rcases z with z | z
      · apply z
        unfold ris
        rw [if_pos a, e]
        decide
      · rw [e] at z; exact absurd z.1 (by decide)
    exact ⟨fun z => absurd z (by decide), fun _ => ⟨fun e => ⟨fun e2 => growS 1 (x1' e2) a (rn e), fun e2 => growS 0 (x0' e2) a (rn e)⟩, fun e => ⟨fun e2 => plainS 1 (x1' e2) a (rp e), fun e2 => plainS 0 (x0' e2) a (rp e)⟩⟩⟩
theorem mmul_l (Q : jv_Q) (l : Nat) (x1 : Int32) (hx : x1.toInt = l) (ms : MS h Z) (bd : bdZ Z) (ok : okZ Z) (hl : l < Z.k.nl) (R0 : Option ((Nat → Int × Int) × (Nat → Int × Int))) :
    ∀ (k : Nat) (x2 : Int32) (h1 : jv_H) (wc : Bool) (A B : Nat → Int × Int), x2.toInt = (k : Int) - 1 → k ≤ (Z.k.L l).sz → oT (mI 171) abL h h1 → h1.1 171 6 = (if wc then 1 else 0) → rw0 h1 200 201 A → rw0 h1 202 203 B → gdr A → gdr B → ((wc = false ∧ (Z.k.L l).mo k (A, B) = R0) ∨ (wc = true ∧ R0 = none)) →
      (∀ h' w' A' B', oT (mI 171) abL h h' → h'.1 171 6 = (if w' then 1 else 0) → rw0 h' 200 201 A' → rw0 h' 202 203 B' → gdr A' → gdr B' → ((w' = false ∧ R0 = some (A', B')) ∨ (w' = true ∧ R0 = none)) → ∀ x : Int32, x < 0 → a_Model_multiply_164 X 7 227 Q 171 x1 x h' 0) → a_Model_multiply_164 X 7 227 Q 171 x1 x2 h1 0
  | 0, x2, h1, wc, A, B, h2, hk, o1, hw, cA, cB, gA, gB, inv, hQ => hQ h1 wc A B o1 hw cA cB gA gB (inv.imp (fun z => ⟨z.1, z.2.symm⟩) id) x2 (nz_lt.mpr (by rw [h2]; show _ < (0 : Int); omega))
  | k + 1, x2, h1, wc, A, B, h2, hk, o1, hw, cA, cB, gA, gB, inv, hQ => by
    have h2' : x2.toInt = k := by omega
    have hnl := bd.2.1.2.1
    have hsz := bd.2.1.2.2.1 l hl
    have e12 : (12 : Int32).toInt = 12 := rfl
    have m12 : ((12 : Int32) * x1).toInt = 12 * l := by rw [nz_muli (by rw [e12, hx]; omega) (by rw [e12, hx]; omega), e12, hx]
    have hp : ((12 : Int32) * x1 + x2).toInt = ((12 * l + k : Nat) : Int) := by rw [nz_addi (by rw [m12, h2']; omega) (by rw [m12, h2']; omega), m12, h2']; omega
    have ms1 := ms.mv bd (ab_fr o1)
    obtain ⟨ok1, ok2, ok3, ok4, ok5, ok6⟩ := ok.1.2.1 l hl
    refine r_Model_multiply_164 X 7 227 Q 171 x1 x2 h1 ⟨fun z => ?_, fun _ => ⟨is171, ?_⟩⟩
    · have : x2.toInt < (0 : Int) := nz_lt.mp z
      omega
    · refine m_goesOut X 2 h1 _ _ _ hp (by omega) ((Z.k.L l).so k) ((Z.k.L l).sh k) ((Z.k.L l).va k) (ok2 k (by omega)) (ok3 k (by omega)).2 (ok3 k (by omega)).1 ms1.r (ms1.k.ls hl (by omega)) (ms1.k.lu hl (by omega)) (ms1.k.lv hl (by omega)) A B gA gB wc hw cA cB (fun h3 w3 o3 a1 a2 => ?_)
      have hmo : (Z.k.L l).mo (k + 1) (A, B) = (tk ((Z.k.L l).so k) ((Z.k.L l).sh k) ((Z.k.L l).va k) (A, B)).bind ((Z.k.L l).mo k) := rfl
      rcases a2 with ⟨z1, z2, P, z3, z4, z5, z6, z7⟩ | ⟨z1, z2, A', B', z4, z5, z6, z7⟩
      · refine mmul_l Q l x1 hx ms bd ok hl R0 k _ h3 w3 P.1 P.2 (by rw [nz_dec h2' (by omega)]) (by omega) (o1.tr o3) a1 z4 z5 z6 z7 ?_ hQ
        rcases inv with ⟨i1, i2⟩ | ⟨i1, i2⟩
        · rw [hmo, z3] at i2
          exact Or.inl ⟨z1, i2⟩
        · rw [z2] at i1; cases i1
      · refine mmul_l Q l x1 hx ms bd ok hl R0 k _ h3 w3 A' B' (by rw [nz_dec h2' (by omega)]) (by omega) (o1.tr o3) a1 z4 z5 z6 z7 (Or.inr ⟨z1, ?_⟩) hQ
        rcases inv with ⟨i1, i2⟩ | ⟨i1, i2⟩
        · rw [hmo, z2.elim (fun z => by rw [i1] at z; cases z) id] at i2
          exact i2.symm
        · exact i2
theorem mclr2 (Q : jv_Q) (x1 : Int32) : ∀ (m k : Nat) (x2 : Int32) (h : jv_H), x2.toInt = k → k + m = 13 → MR h → (∀ i, i < k → uq h 200 201 i = (0, 1)) → (∀ i, i < k → uq h 202 203 i = (0, 1)) → (∀ h', oT zI abL h h' → rw0 h' 200 201 (fun _ => (0, 1)) → rw0 h' 202 203 (fun _ => (0, 1)) → a_Model_multiply_29 X d 227 Q 171 x1 13 h' 0) → a_Model_multiply_29 X d 227 Q 171 x1 x2 h 0
  | 0, k, x2, h, hx, hm, mr, c1, c2, hQ => by
    have e13 : x2 = 13 := Int32.toInt_inj.mp (by rw [hx, show k = 13 by omega]; rfl)
    rw [e13]
    exact hQ h oT.rf (fun i hi => c1 i (by omega)) (fun i hi => c2 i (by omega))
  | m + 1, k, x2, h, hx, hm, mr, c1, c2, hQ => by
    have g0 : ∀ q : Nat, SHT q = (1, 13) → q < 227 → jv_ix SHT 227 q 1 x2 := fun q h1 h2 => jx h1 h2 (by omega) (by omega)
    refine r_Model_multiply_29 X d 227 Q 171 x1 x2 h ⟨fun z => ?_, fun _ => ⟨is171, _, mr 39, g0 200 rfl (by decide), is171, _, mr 40, g0 201 rfl (by decide), is171, _, mr 41, g0 202 rfl (by decide), is171, _, mr 42, g0 203 rfl (by decide), ?_⟩⟩
    · have : (13 : Int) ≤ x2.toInt := nz_le.mp z
      omega
    · rw [nz_nat hx]
      have o1 : oT zI abL h (jv_uL (jv_uL (jv_uL (jv_uL h 200 k 0) 201 k 1) 202 k 0) 203 k 1) := (((oT.rf.uL (Or.inr (by omega))).uL (Or.inr (by omega))).uL (Or.inr (by omega))).uL (Or.inr (by omega))
      have o2 : oT zI (fun q j => q = 202 ∨ q = 203) (jv_uL (jv_uL h 200 k 0) 201 k 1) (jv_uL (jv_uL (jv_uL (jv_uL h 200 k 0) 201 k 1) 202 k 0) 203 k 1) := (oT.rf.uL (Or.inl rfl)).uL (Or.inr rfl)
      have o3 : oT zI (fun q j => q = 200 ∨ q = 201) h (jv_uL (jv_uL h 200 k 0) 201 k 1) := (oT.rf.uL (Or.inl rfl)).uL (Or.inr rfl)
      refine mclr2 Q x1 m (k + 1) _ _ (nz_inc hx (by omega)) (by omega) (mr.mv o1) (fun i hi => ?_) (fun i hi => ?_) (fun h' o' d1 d2 => hQ h' (o1.tr o') d1 d2)
      · rw [uq.mv o2 (by omega) (by omega), uq_st _ _ _ _ _ _ (by decide)]
        by_cases e : i = k
        · rw [if_pos e]
          rfl
        · rw [if_neg e]
          exact c1 i (by omega)
      · rw [uq_st _ _ _ _ _ _ (by decide), uq.mv o3 (by omega) (by omega)]
        by_cases e : i = k
        · rw [if_pos e]
          rfl
        · rw [if_neg e]
          exact c2 i (by omega)
end
