/-! ===== the divider: parts, the whole ===== -/
def fl (u : Int32) : Int32 := if u = 0 then 1 else 0
def dvk (r : Sum Int (Option (Nat → Int × Int) × zL)) (k : (Nat → Int × Int) → zL → Sum Int zL) : Sum Int zL :=
  match r with
  | .inl e => .inl e
  | .inr (none, M) => .inr M
  | .inr (some A, M) => k A M
noncomputable def dv (fh : Int32) : Nat → (Nat → Int × Int) → (Nat → Int × Int) → Int32 → zL → Sum Int zL
  | 0, _, _, _, _ => .inl (-300)
  | m + 1, A, B, u, L => if rch fh A < rch fh B then dvk (dv1 fh B A (fl u) L) (fun A' M => dv fh m A' A (fl u) M) else dvk (dv1 fh A B u L) (fun A' M => dv fh m A' B u M)
def oR (S : Nat → Prop) (h h' : jv_H) : Prop := (∀ q, q ≠ 3 → h'.2.2 q = h.2.2 q) ∧ ∀ q, ¬ S q → h'.1 q = h.1 q ∧ h'.2.1 q = h.2.1 q
theorem oS.R {S : Nat → Prop} {h h' : jv_H} (a : oS S h h') : oR S h h' := ⟨fun q _ => by rw [a.1], a.2⟩
theorem oR.tr {S : Nat → Prop} {h h' h'' : jv_H} (a : oR S h h') (b : oR S h' h'') : oR S h h'' := ⟨fun q hq => (b.1 q hq).trans (a.1 q hq), fun q hq => ⟨(b.2 q hq).1.trans (a.2 q hq).1, (b.2 q hq).2.trans (a.2 q hq).2⟩⟩
theorem oR.mono {S T : Nat → Prop} {h h' : jv_H} (a : oR S h h') (hst : ∀ q, S q → T q) : oR T h h' := ⟨a.1, fun q hq => a.2 q (fun z => hq (hst q z))⟩
theorem oR.s {S : Nat → Prop} {h h' : jv_H} (a : oR S h h') : oS S h (h'.1, h'.2.1, h.2.2) := ⟨rfl, a.2⟩
theorem LO.mvR {n o : Nat} {S : Nat → Prop} {h h' : jv_H} (l : LO n h o) (a : oR S h h') (ho : o ≠ 3) : LO n h' o := ⟨l.1, by rw [a.1 o ho]; exact l.2.1, by rw [a.1 o ho]; exact l.2.2.1, by rw [a.1 o ho]; exact l.2.2.2.1, l.2.2.2.2⟩
theorem PO.mvR {n p a : Nat} {S : Nat → Prop} {h h' : jv_H} (hp : PO n h p a) (ho : oR S h h') (h3 : p ≠ 3) : PO n h' p a := ⟨hp.1, by rw [ho.1 p h3]; exact hp.2.1, hp.2.2⟩
theorem pc.mvR {a : Nat} {S : Nat → Prop} {h h' : jv_H} {f : Nat → Int × Int} (hp : pc h a f) (ho : oR S h h') (ha : ¬ S a) : pc h' a f := pc.mv (h' := (h'.1, h'.2.1, h.2.2)) ho.s ha hp
theorem CP.mvR {h h' : jv_H} {o : Nat} {L : zL} {S : Nat → Prop} (c : CP h o L) (a : oR S h h') (hs : ∀ q, o ≤ q → q < o + 4 → ¬ S q) : CP h' o L := CP.mv (h' := (h'.1, h'.2.1, h.2.2)) c a.s hs
theorem CL.mvR {h h' : jv_H} {o : Nat} {L : zL} {S : Nat → Prop} (c : CL h o L) (a : oR S h h') (hs : ∀ q, o ≤ q → q < o + 4 → ¬ S q) : CL h' o L := CL.mv (h' := (h'.1, h'.2.1, h.2.2)) c a.s hs
section
variable (X : jv_X) (d n : Nat) (K : jv_H → Prop) (KI : Int32 → jv_H → Prop) (h : jv_H) (o pa pb : Nat) (L : zL) (fh u : Int32)
theorem c_changePlaces (v : DV n h pa pb) (hu : h.1 3 2 = u) (hK : ∀ h', oR (fun q => q = 3) h h' → DV n h' pb pa → h'.1 3 2 = fl u → h'.1 3 3 = h.1 3 3 → h'.2.1 3 = h.2.1 3 → K h') : jV X (d + 1) y_Divider_changePlaces [.ref 3] n h K := by
  have n3 : pa ≠ 3 ∧ pb ≠ 3 := by
    rcases v.2.2.2.2.2 with z | z
    · omega
    · omega
  have go : ∀ w : Int32, w = fl u → K (jv_uI (jv_uR (jv_uR h 3 0 (some pb)) 3 1 (some pa)) 3 2 w) := by
    intro w hw
    refine hK _ ⟨fun q hq => ?_, fun q hq => ⟨?_, rfl⟩⟩ ⟨v.1, ?_, ?_, ⟨v.q.1, ?_, v.q.2.2⟩, ⟨v.p.1, ?_, v.p.2.2⟩, v.2.2.2.2.2.elim (fun z => Or.inr ⟨z.2, z.1⟩) (fun z => Or.inl ⟨z.2, z.1⟩)⟩ ?_ ?_ rfl
    · funext j
      show (if q = 3 ∧ j = 1 then _ else if q = 3 ∧ j = 0 then _ else h.2.2 q j) = _
      rw [if_neg (fun z => hq z.1), if_neg (fun z => hq z.1)]
    · funext j
      exact uI_ne (fun z => hq z.1)
    · exact rfl
    · exact rfl
    · show (if pb = 3 ∧ 0 = 1 then _ else if pb = 3 ∧ 0 = 0 then _ else h.2.2 pb 0) = _
      rw [if_neg (fun z => n3.2 z.1), if_neg (fun z => n3.2 z.1)]
      exact v.q.2.1
    · show (if pa = 3 ∧ 0 = 1 then _ else if pa = 3 ∧ 0 = 0 then _ else h.2.2 pa 0) = _
      rw [if_neg (fun z => n3.1 z.1), if_neg (fun z => n3.1 z.1)]
      exact v.p.2.1
    · rw [uI_eq, hw]
    · exact uI_ne (fun z => by omega)
  refine r_Divider_changePlaces X d n _ 3 h ⟨v.1, _, v.2.1, v.1, _, v.2.2.1, v.1, v.q.1.1, v.1, v.p.1.1, v.1, fun e => ⟨v.1, Or.inl rfl, go 0 ?_⟩, fun e => ⟨v.1, Or.inr rfl, go 1 ?_⟩⟩
  · have e : ¬ u = 0 := by rw [← hu]; exact e
    exact (if_neg e).symm
  · have e : u = 0 := by rw [← hu]; exact e
    exact (if_pos e).symm
theorem c_makePart (A B : Nat → Int × Int) (v : DV n h pa pb) (hA : pc h (pa + 1) A) (hB : pc h (pb + 1) B) (hfh : h.1 3 3 = fh) (hu : h.1 3 2 = u) (hu1 : u = 0 ∨ u = 1) (l : LO n h o) (c : CP h o L) (ho : 7 < o) (m : Nat)
    (hK0 : ∀ e, dv fh (m + 1) A B u L = .inl e → e ≠ 1 → ∀ h', oR (dw o) h h' → (∃ a b, DV n h' a b) → ∀ z : Int32, z.toInt = e → KI z h') (hK1 : ∀ M, dv fh (m + 1) A B u L = .inr M → ∀ h', oR (dw o) h h' → (∃ a b, DV n h' a b) → CL h' o M → KI 0 h')
    (hK2 : ∀ A' B' u' M a b, (u' = 0 ∨ u' = 1) → dv fh (m + 1) A B u L = dv fh m A' B' u' M → ∀ h', oR (dw o) h h' → DV n h' a b → CP h' o M → pc h' (a + 1) A' → pc h' (b + 1) B' → h'.1 3 3 = fh → h'.1 3 2 = u' → KI 1 h') : jI X (d + 5) y_Divider_makePart [.ref 3, .ref o] n h KI := by
  have h3 := v.1
  have ne1 : ∀ (A B : Nat → Int × Int) (u : Int32) (e : Int), dv1 fh A B u L = .inl e → e ≠ 1 := by
    intro A B u e he h1
    subst h1
    unfold dv1 at he
    split at he
    · injection he with he; omega
    · split at he
      · injection he with he; omega
      · split at he
        · injection he with he; omega
        · split at he
          · injection he with he; omega
          · generalize (if fh = 0 then -(rch fh A - rch fh B) else rch fh A - rch fh B) = r at he
            by_cases hw : noW (pz_add A B (fz_neg (fz_quo (ldr fh A) (ldr fh B))) r)
            · rw [cif_t hw] at he
              by_cases hz : pz_hi (pz_add A B (fz_neg (fz_quo (ldr fh A) (ldr fh B))) r) 13 < 0
              · rw [if_pos hz] at he
                cases he
              · rw [if_neg hz] at he
                cases he
            · rw [cif_f hw] at he
              injection he with he; omega
  have hd : dv fh (m + 1) A B u L = (if rch fh A < rch fh B then dvk (dv1 fh B A (fl u) L) (fun A' M => dv fh m A' A (fl u) M) else dvk (dv1 fh A B u L) (fun A' M => dv fh m A' B u M)) := by
    conv => lhs; unfold dv
  rw [hd] at hK0 hK1
  refine r_Divider_makePart X (d + 4) n _ 3 o h ⟨h3, _, v.2.1, h3, c_reach X (d + 2) n _ h fh pa (pa + 1) A h3 v.p hA hfh (fun z3 e3 => ⟨h3, _, v.2.2.1, h3, c_reach X (d + 2) n _ h fh pb (pb + 1) B h3 v.q hB hfh (fun z6 e6 => ⟨fun a => ?_, fun a => ⟨h3, ?_⟩⟩)⟩)⟩
  · have a : ¬ rch fh A < rch fh B := by
      have := nz_le.mp a
      omega
    rw [if_neg a] at hK0 hK1
    refine part23 X d n KI h o pa pb L fh u A B v hA hB hfh hu hu1 l c ho (fun e he h' o' z hz => hK0 e (by rw [he]; rfl) (ne1 _ _ _ _ he) h' o'.R ⟨_, _, v.mv o'⟩ z hz) (fun M he h' o' c' => hK1 M (by rw [he]; rfl) h' o'.R ⟨_, _, v.mv o'⟩ c') (fun A' M he h' o' c' a1 b1 f1 u1 => hK2 A' B u M pa pb hu1 (by rw [hd, if_neg a, he]; rfl) h' o'.R (v.mv o') c' a1 b1 f1 u1)
  · have a : rch fh A < rch fh B := by
      have : ¬ z6.toInt ≤ z3.toInt := fun z => a (nz_le.mpr z)
      omega
    rw [if_pos a] at hK0 hK1
    refine c_changePlaces X (d + 3) n _ h pa pb u v hu (fun h1 o1 v1 u1 f1 _ => ?_)
    have nla : ∀ q, o ≤ q → q < o + 4 → ¬ q = 3 := fun q z1 z2 z3 => by omega
    have n3 : pa + 1 ≠ 3 ∧ pb + 1 ≠ 3 := by
      rcases v.2.2.2.2.2 with z | z
      · omega
      · omega
    have om : oR (dw o) h h1 := o1.mono (fun q z => Or.inl z)
    have A1 : pc h1 (pa + 1) A := hA.mvR o1 n3.1
    have B1 : pc h1 (pb + 1) B := hB.mvR o1 n3.2
    have c1 : CP h1 o L := c.mvR o1 nla
    have hfl : fl u = 0 ∨ fl u = 1 := by
      unfold fl
      split
      · exact Or.inr rfl
      · exact Or.inl rfl
    refine part23 X d n KI h1 o pb pa L fh (fl u) B A v1 B1 A1 (by rw [f1]; exact hfh) u1 hfl (l.mvR o1 (by omega)) c1 ho (fun e he h' o' z hz => hK0 e (by rw [he]; rfl) (ne1 _ _ _ _ he) h' (om.tr o'.R) ⟨_, _, v1.mv o'⟩ z hz) (fun M he h' o' c' => hK1 M (by rw [he]; rfl) h' (om.tr o'.R) ⟨_, _, v1.mv o'⟩ c') (fun A' M he h' o' c' a1 b1 f2 u2 => hK2 A' A (fl u) M pb pa hfl (by rw [hd, if_pos a, he]; rfl) h' (om.tr o'.R) (v1.mv o') c' a1 b1 f2 u2)
theorem work_l (Q : jv_Q) (ho : 7 < o) : ∀ (m k : Nat) (x : Int32) (h : jv_H) (pa pb : Nat) (A B : Nat → Int × Int) (u : Int32) (L : zL), x.toInt = k → k + m = 13 → DV n h pa pb → pc h (pa + 1) A → pc h (pb + 1) B → h.1 3 3 = fh → h.1 3 2 = u → (u = 0 ∨ u = 1) → LO n h o → CP h o L →
    (∀ e, dv fh m A B u L = .inl e → ∀ h', oR (dw o) h h' → (∃ a b, DV n h' a b) → ∀ z : Int32, z.toInt = e → Q (some (.int z)) h') → (∀ M, dv fh m A B u L = .inr M → ∀ h', oR (dw o) h h' → (∃ a b, DV n h' a b) → CL h' o M → Q (some (.int 0)) h') → a_Divider_work_48 X (d + 5) n Q 3 o x h 0
  | 0, k, x, h, pa, pb, A, B, u, L, hx, hm, v, hA, hB, hfh, hu, hu1, l, c, hQ0, hQ1 => by
    exact r_Divider_work_48 X (d + 5) n Q 3 o x h ⟨fun _ => hQ0 (-300) rfl h oS.rf.R ⟨_, _, v⟩ _ rfl, fun z => absurd (nz_lt.mpr (by rw [hx]; show (12 : Int) < _; omega)) z⟩
  | m + 1, k, x, h, pa, pb, A, B, u, L, hx, hm, v, hA, hB, hfh, hu, hu1, l, c, hQ0, hQ1 => by
    refine r_Divider_work_48 X (d + 5) n Q 3 o x h ⟨fun z => ?_, fun _ => ⟨v.1, ?_⟩⟩
    · have : (12 : Int) < x.toInt := nz_lt.mp z
      omega
    · refine c_makePart X d n _ h o pa pb L fh u A B v hA hB hfh hu hu1 l c ho m (fun e he hn h' o' v' z hz => ⟨fun y => ?_, fun _ => hQ0 e he h' o' v' z hz⟩) (fun M he h' o' v' c' => ⟨fun y => absurd y (by decide), fun _ => hQ1 M he h' o' v' c'⟩) (fun A' B' u' M a b hu' he h' o' v' c' a1 b1 f1 u1 => ⟨fun _ => ?_, fun y => absurd rfl y⟩)
      · rw [y] at hz
        exact absurd hz.symm hn
      · exact work_l Q ho m (k + 1) _ h' a b A' B' u' M (nz_inc hx (by omega)) (by omega) v' a1 b1 f1 u1 hu' (l.mvR o' (by omega)) c' (fun e h1 h2 o2 v2 z hz => hQ0 e (he.trans h1) h2 (o'.tr o2) v2 z hz) (fun M' h1 h2 o2 v2 c2 => hQ1 M' (he.trans h1) h2 (o'.tr o2) v2 c2)
/-- the division of a ratio: by form -/
theorem c_work (r ra aa rb ab : Nat) (x : Int32) (f g : Nat → Int × Int) (v : DV n h pa pb) (hr : RO n h r ra aa rb ab) (hf : pc h aa f) (hg : pc h ab g) (l : LO n h o) (ho : 7 < o) (d1 : 7 < aa) (d2 : 7 < ab)
    (hK0 : ∀ e, dv (if x = 0 then 1 else 0) 13 f g 0 z0L = .inl e → ∀ h', oR (dw o) h h' → (∃ a b, DV n h' a b) → ∀ z : Int32, z.toInt = e → KI z h') (hK1 : ∀ M, dv (if x = 0 then 1 else 0) 13 f g 0 z0L = .inr M → ∀ h', oR (dw o) h h' → (∃ a b, DV n h' a b) → CL h' o M → KI 0 h') : jI X (d + 6) y_Divider_work [.ref 3, .ref r, .int x, .ref o] n h KI := by
  have h3 := v.1
  have v6 : (pa = 4 ∧ pb = 6) ∨ (pa = 6 ∧ pb = 4) := v.2.2.2.2.2
  refine r_Divider_work X (d + 5) n _ 3 r x o h ⟨h3, _, v.2.1, hr.1, _, hr.2.1, v.p.1, c_become X (d + 4) n _ h pa (pa + 1) ra aa f v.p hr.p (by omega) hf (fun h1 o1 f1 => ?_)⟩
  have v1 := v.mv o1
  have hr1 := hr.mv o1
  refine ⟨h3, _, v1.2.2.1, hr1.1, _, hr1.2.2.1, v1.q.1, c_become X (d + 4) n _ h1 pb (pb + 1) rb ab g v1.q hr1.q (by omega) (hg.mv o1 (by omega)) (fun h2 o2 g2 => ?_)⟩
  have v2 := v1.mv o2
  have f2 := f1.mv o2 (show ¬ pa + 1 = pb + 1 by omega)
  have d57 : ∀ q, (q = pa + 1 ∨ q = pb + 1) → dw o q := fun q z => by
    rcases v6 with y | y
    · rcases z with z | z
      · exact Or.inr (Or.inl (by omega))
      · exact Or.inr (Or.inr (Or.inl (by omega)))
    · rcases z with z | z
      · exact Or.inr (Or.inr (Or.inl (by omega)))
      · exact Or.inr (Or.inl (by omega))
  have o12 : oS (dw o) h h2 := (o1.mono (fun q z => d57 q (Or.inl z))).tr (o2.mono (fun q z => d57 q (Or.inr z)))
  have fin : ∀ y : Int32, y = (if x = 0 then 1 else 0) → a_Divider_work_48 X (d + 5) n (jv_rI KI) 3 o 0 (jv_uI (jv_uI (jv_uI h2 3 2 0) 3 3 y) o 3 0) 0 := by
    intro y hy
    rw [← hy] at hK0 hK1
    have oz : oS (dw o) h2 (jv_uI (jv_uI (jv_uI h2 3 2 0) 3 3 y) o 3 0) := ((oS_uI (S := dw o) (Or.inl rfl)).tr (oS_uI (Or.inl rfl))).tr (oS_uI (Or.inr (Or.inr (Or.inr ⟨Nat.le_refl _, by omega⟩))))
    have ozl : oS (fun q => q = 3 ∨ q = o) h2 (jv_uI (jv_uI (jv_uI h2 3 2 0) 3 3 y) o 3 0) := ((oS_uI (S := fun q => q = 3 ∨ q = o) (Or.inl rfl)).tr (oS_uI (Or.inl rfl))).tr (oS_uI (Or.inr rfl))
    have cN : CP (jv_uI (jv_uI (jv_uI h2 3 2 0) 3 3 y) o 3 0) o z0L := CP_new _ o
    refine work_l X d n o y _ ho 13 0 0 _ pa pb f g 0 _ rfl rfl (v2.mv oz) (f2.mv ozl (fun z => by omega)) (g2.mv ozl (fun z => by omega)) ?_ ?_ (Or.inl rfl) (((l.mv o1).mv o2).mv oz) cN (fun e he h' o' v' z hz => hK0 e he h' ((o12.tr oz).R.tr o') v' z hz) (fun M he h' o' v' c' => hK1 M he h' ((o12.tr oz).R.tr o') v' c')
    · rw [uI_ne (fun z => by omega), uI_eq]
    · rw [uI_ne (fun z => by omega), uI_ne (fun z => by omega), uI_eq]
  exact ⟨h3, Or.inl rfl, fun e => ⟨h3, Or.inl rfl, l.1, fin 0 (if_neg e).symm⟩, fun e => ⟨h3, Or.inr rfl, l.1, fin 1 (if_pos e).symm⟩⟩
end
