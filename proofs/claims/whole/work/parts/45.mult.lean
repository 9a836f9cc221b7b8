/-! ===== a ladder multiplied out ===== -/
noncomputable def cif {α : Type} (P : Prop) (a b : α) : α := @ite α P (Classical.propDecidable P) a b
theorem cif_t {α : Type} {P : Prop} {a b : α} (h : P) : cif P a b = a := if_pos h
theorem cif_f {α : Type} {P : Prop} {a b : α} (h : ¬ P) : cif P a b = b := if_neg h
/-- what a part does to the near poly and the far one -/
noncomputable def tkn (s u : Int32) (v : Int × Int) (N F : Nat → Int × Int) : Option ((Nat → Int × Int) × (Nat → Int × Int)) :=
  if ris s u ≠ 0 ∨ (s = 2 ∧ u = 0) then cif (noW (pz_add N F v (if s = 2 then 0 else 1))) (some (pz_add N F v (if s = 2 then 0 else 1), F)) none
  else cif (noW (pz_grow N v (if s = 2 then 0 else 1))) (cif (noW (pz_add (pz_grow N v (if s = 2 then 0 else 1)) F (1, 1) 0)) (cif (noW (pz_grow F v (if s = 2 then 0 else 1))) (some (pz_add (pz_grow N v (if s = 2 then 0 else 1)) F (1, 1) 0, pz_grow F v (if s = 2 then 0 else 1))) none) none) none
noncomputable def tk (s u : Int32) (v : Int × Int) (P : (Nat → Int × Int) × (Nat → Int × Int)) : Option ((Nat → Int × Int) × (Nat → Int × Int)) :=
  if u = 0 then tkn s u v P.1 P.2 else (tkn s u v P.2 P.1).map (fun q => (q.2, q.1))
noncomputable def zL.mo (L : zL) : Nat → (Nat → Int × Int) × (Nat → Int × Int) → Option ((Nat → Int × Int) × (Nat → Int × Int))
  | 0, P => some P
  | k + 1, P => (tk (L.so k) (L.sh k) (L.va k) P).bind (L.mo k)
def zL.m0 (L : zL) : (Nat → Int × Int) × (Nat → Int × Int) := (fun i => if i = 0 ∧ L.en ≠ 0 then (if L.en = 2 then L.lo else (1, 1)) else (0, 1), fun i => if i = 0 ∧ L.en ≠ 1 then (1, 1) else (0, 1))
section
variable (X : jv_X) (d n : Nat) (KI : Int32 → jv_H → Prop) (h : jv_H)
theorem tk_44 (s u : Int32) (v : Int × Int) (hv : fz_r v) (x : Int32) (hx : x.toInt = (if s = 2 then 0 else 1 : Int)) (p a p2 a2 : Nat) (N F : Nat → Int × Int) (hne : a2 ≠ a) (hp : PO n h p a) (hp2 : PO n h p2 a2) (hN : pc h a N) (hF : pc h a2 F)
    (hK1 : ∀ N' F', tkn s u v N F = some (N', F') → ∀ h', oS (rw2 a a2) h h' → pc h' a N' → pc h' a2 F' → KI 1 h') (hK0 : tkn s u v N F = none → ∀ h', oS (rw2 a a2) h h' → KI 0 h') : a_Ratio_takeIn_44 X (d + 4) n (jv_rI KI) s u (fz_p v) p p2 x h 0 := by
  unfold tkn at hK1 hK0
  generalize hr : (if s = 2 then 0 else 1 : Int) = r at hx hK1 hK0
  have hrb : 0 ≤ r ∧ r ≤ 1000 := by rw [← hr]; split <;> omega
  have oa : ∀ {h1 h2 : jv_H}, oS (fun w => w = a) h1 h2 → oS (rw2 a a2) h1 h2 := fun o => o.mono (fun _ z => Or.inl z)
  have ob : ∀ {h1 h2 : jv_H}, oS (fun w => w = a2) h1 h2 → oS (rw2 a a2) h1 h2 := fun o => o.mono (fun _ z => Or.inr z)
  have plain : (ris s u ≠ 0 ∨ (s = 2 ∧ u = 0)) → jv_is SHT n p 14 ∧ jI X (d + 4) y_Poly_addTimes [.ref p, .ref p2, .long (fz_p v), .int x] n h (fun z4 h3 => (z4 = 0 ∨ z4 = 1) ∧ KI z4 h3) := by
    intro hp'
    rw [if_pos hp'] at hK1 hK0
    refine ⟨hp.1, c_addTimes X d n _ h p a p2 a2 N F v hv x r hx (by omega) hne hp hp2 hN hF (fun y h' o' c' => ⟨Or.inr rfl, ?_⟩) (fun y h' o' => ⟨Or.inl rfl, ?_⟩)⟩
    · rw [cif_t (show noW _ from y)] at hK1
      exact hK1 _ _ rfl h' (oa o') c' (hF.mv o' hne)
    · rw [cif_f (noW_not y)] at hK0
      exact hK0 rfl h' (oa o')
  have grown : ¬ (ris s u ≠ 0 ∨ (s = 2 ∧ u = 0)) → jv_is SHT n p 14 ∧ jI X (d + 4) y_Poly_growTimes [.ref p, .long (fz_p v), .int x] n h (fun z6 h5 => (z6 = 0 → (((0 : Int32) = 0 ∨ (0 : Int32) = 1) ∧ KI 0 h5)) ∧ (¬ z6 = 0 → (jv_is SHT n p 14 ∧ jI X (d + 4) y_Poly_addTimes [.ref p, .ref p2, .long (4294967297 : Int64), .int 0] n h5 (fun z8 h7 => (z8 = 0 → (((0 : Int32) = 0 ∨ (0 : Int32) = 1) ∧ KI 0 h7)) ∧ (¬ z8 = 0 → (jv_is SHT n p2 14 ∧ jI X (d + 4) y_Poly_growTimes [.ref p2, .long (fz_p v), .int x] n h7 (fun z10 h9 => (z10 = 0 → (((0 : Int32) = 0 ∨ (0 : Int32) = 1) ∧ KI 0 h9)) ∧ (¬ z10 = 0 → (((1 : Int32) = 0 ∨ (1 : Int32) = 1) ∧ KI 1 h9))))))))) := by
    intro hp'
    rw [if_neg hp'] at hK1 hK0
    refine ⟨hp.1, c_growTimes X d n _ h p a N v hv x r hx hrb hp hN (fun y h' o' c' => ⟨fun z => absurd z (by decide), fun _ => ⟨hp.1, ?_⟩⟩) (fun y h' o' => ⟨fun _ => ⟨Or.inl rfl, ?_⟩, fun z => absurd rfl z⟩)⟩
    · rw [cif_t (show noW _ from y)] at hK1 hK0
      have e1 : (4294967297 : Int64) = fz_p (1, 1) := fz_p_1.symm
      rw [e1]
      refine c_addTimes X d n _ h' p a p2 a2 (pz_grow N v r) F (1, 1) fz_r_1 0 0 rfl (by omega) hne (hp.mv o') (hp2.mv o') c' (hF.mv o' hne) (fun y2 h2 o2 c2 => ⟨fun z => absurd z (by decide), fun _ => ⟨hp2.1, ?_⟩⟩) (fun y2 h2 o2 => ⟨fun _ => ⟨Or.inl rfl, ?_⟩, fun z => absurd rfl z⟩)
      · rw [cif_t (show noW _ from y2)] at hK1 hK0
        refine c_growTimes X d n _ h2 p2 a2 F v hv x r hx hrb ((hp2.mv o').mv o2) ((hF.mv o' hne).mv o2 hne) (fun y3 h3 o3 c3 => ⟨fun z => absurd z (by decide), fun _ => ⟨Or.inr rfl, ?_⟩⟩) (fun y3 h3 o3 => ⟨fun _ => ⟨Or.inl rfl, ?_⟩, fun z => absurd rfl z⟩)
        · rw [cif_t (show noW _ from y3)] at hK1
          exact hK1 _ _ rfl h3 (((oa o').tr (oa o2)).tr (ob o3)) (c2.mv o3 (Ne.symm hne)) c3
        · rw [cif_f (noW_not y3)] at hK0
          exact hK0 rfl h3 (((oa o').tr (oa o2)).tr (ob o3))
      · rw [cif_f (noW_not y2)] at hK0
        exact hK0 rfl h2 ((oa o').tr (oa o2))
    · rw [cif_f (noW_not y)] at hK0
      exact hK0 rfl h' (oa o')
  refine r_Ratio_takeIn_44 X (d + 4) n _ s u (fz_p v) p p2 x h ?_
  refine c_isRising X (d + 3) n _ h s u ⟨fun y => plain (Or.inl y), fun y => ⟨fun e => grown (fun z => z.elim (fun q => q y) (fun q => e q.1)), fun e => ⟨fun b => grown (fun z => z.elim (fun q => q y) (fun q => b q.2)), fun b => plain (Or.inr ⟨e, b⟩)⟩⟩⟩
theorem c_takeIn (r pa aa pb ab : Nat) (s u : Int32) (v : Int × Int) (hv : fz_r v) (f g : Nat → Int × Int) (hr : RO n h r pa aa pb ab) (hf : pc h aa f) (hg : pc h ab g)
    (hK1 : ∀ P, tk s u v (f, g) = some P → ∀ h', oS (rw2 aa ab) h h' → pc h' aa P.1 → pc h' ab P.2 → KI 1 h') (hK0 : tk s u v (f, g) = none → ∀ h', oS (rw2 aa ab) h h' → KI 0 h') : jI X (d + 5) y_Ratio_takeIn [.ref r, .int s, .int u, .long (fz_p v)] n h KI := by
  unfold tk at hK1 hK0
  have near : u = 0 → ∀ x : Int32, x.toInt = (if s = 2 then 0 else 1 : Int) → a_Ratio_takeIn_44 X (d + 4) n (jv_rI KI) s u (fz_p v) pa pb x h 0 := by
    intro hu x hx
    rw [if_pos hu] at hK1 hK0
    exact tk_44 X d n KI h s u v hv x hx pa aa pb ab f g (Ne.symm hr.ne) hr.p hr.q hf hg (fun N' F' e h' o' c1 c2 => hK1 _ e h' o' c1 c2) hK0
  have far : ¬ u = 0 → ∀ x : Int32, x.toInt = (if s = 2 then 0 else 1 : Int) → a_Ratio_takeIn_44 X (d + 4) n (jv_rI KI) s u (fz_p v) pb pa x h 0 := by
    intro hu x hx
    rw [if_neg hu] at hK1 hK0
    have sw : ∀ {h' : jv_H}, oS (rw2 ab aa) h h' → oS (rw2 aa ab) h h' := fun o => o.mono (fun _ z => z.elim Or.inr Or.inl)
    exact tk_44 X d n KI h s u v hv x hx pb ab pa aa g f hr.ne hr.q hr.p hg hf (fun N' F' e h' o' c1 c2 => hK1 (F', N') (by dsimp only; rw [e]; rfl) h' (sw o') c2 c1) (fun e h' o' => hK0 (by dsimp only; rw [e]; rfl) h' (sw o'))
  have x1 : ¬ s = 2 → (1 : Int32).toInt = (if s = 2 then 0 else 1 : Int) := fun e => by rw [if_neg e]; rfl
  have x0 : s = 2 → (0 : Int32).toInt = (if s = 2 then 0 else 1 : Int) := fun e => by rw [if_pos e]; rfl
  refine r_Ratio_takeIn X (d + 4) n _ r s u _ h ⟨fun a => ⟨hr.1, _, hr.2.1, fun _ => ⟨hr.1, _, hr.2.2.1, fun e => near a 1 (x1 e), fun e => near a 0 (x0 e)⟩, fun b => absurd a b⟩, fun a => ⟨hr.1, _, hr.2.2.1, fun b => absurd b a, fun _ => ⟨hr.1, _, hr.2.1, fun e => far a 1 (x1 e), fun e => far a 0 (x0 e)⟩⟩⟩
theorem mult_l (Q : jv_Q) (r pa aa pb ab o : Nat) (L : zL) (ho : ¬ lw o aa ∧ ¬ lw o ab) : ∀ (k : Nat) (x : Int32) (h : jv_H) (P : (Nat → Int × Int) × (Nat → Int × Int)), x.toInt = (k : Int) - 1 → k ≤ L.sz → RO n h r pa aa pb ab → LO n h o → CL h o L → pc h aa P.1 → pc h ab P.2 →
    (∀ P', L.mo k P = some P' → ∀ h', oS (rw2 aa ab) h h' → pc h' aa P'.1 → pc h' ab P'.2 → Q (some (.int 1)) h') → (L.mo k P = none → ∀ h', oS (rw2 aa ab) h h' → Q (some (.int 0)) h') → a_Ratio_becomeMultipliedOut_75 X (d + 5) n Q r o x h 0
  | 0, x, h, P, hx, hk, hr, l, c, hf, hg, hQ1, hQ0 => by
    exact r_Ratio_becomeMultipliedOut_75 X (d + 5) n Q r o x h ⟨fun _ => ⟨Or.inr rfl, hQ1 P rfl h oS.rf hf hg⟩, fun y => absurd (nz_lt.mpr (by rw [hx]; show _ < (0 : Int); omega)) y⟩
  | k + 1, x, h, P, hx, hk, hr, l, c, hf, hg, hQ1, hQ0 => by
    have hx' : x.toInt = k := by omega
    have hk' : k < L.sz := by omega
    have hle := c.le
    refine r_Ratio_becomeMultipliedOut_75 X (d + 5) n Q r o x h ⟨fun y => ?_, fun y => ?_⟩
    · have : x.toInt < (0 : Int) := nz_lt.mp y
      omega
    · repeat (first | refine ⟨(l).1, ?_⟩ | refine ⟨_, (l).2.1, ?_⟩ | refine ⟨_, (l).2.2.1, ?_⟩ | refine ⟨_, (l).2.2.2.1, ?_⟩ | refine ⟨(l).xa (by assumption) (by omega), ?_⟩ | refine ⟨(l).xb (by assumption) (by omega), ?_⟩ | refine ⟨(l).xc (by assumption) (by omega), ?_⟩ | refine ⟨(hr).1, ?_⟩ | refine ⟨_, (hr).2.1, ?_⟩ | refine ⟨_, (hr).2.2.1, ?_⟩ | refine ⟨(hr).p.1, ?_⟩ | refine ⟨(hr).q.1, ?_⟩)
      rw [c.gs hx' hk', c.gu hx' hk', c.gv hx' hk']
      unfold zL.mo at hQ1 hQ0
      refine c_takeIn X d n _ h r pa aa pb ab _ _ _ (c.vr hk') P.1 P.2 hr hf hg (fun P' e h' o' c1 c2 => ⟨fun _ => ?_, fun z => absurd z (by decide)⟩) (fun e h' o' => ⟨fun z => absurd rfl z, fun _ => ⟨Or.inl rfl, ?_⟩⟩)
      · have e' : tk (L.so k) (L.sh k) (L.va k) P = some P' := e
        rw [e'] at hQ1 hQ0
        exact mult_l Q r pa aa pb ab o L ho k _ h' P' (by rw [nz_dec hx' (by omega)]) (by omega) (hr.mv o') (l.mv o') (c.mv o' (fun q h1 h2 h3 => h3.elim (fun z => ho.1 (by rw [← z]; exact ⟨h1, h2⟩)) (fun z => ho.2 (by rw [← z]; exact ⟨h1, h2⟩)))) c1 c2 (fun P2 e2 h2 o2 d1 d2 => hQ1 P2 e2 h2 (o'.tr o2) d1 d2) (fun e2 h2 o2 => hQ0 e2 h2 (o'.tr o2))
      · have e' : tk (L.so k) (L.sh k) (L.va k) P = none := e
        rw [e'] at hQ0
        exact hQ0 rfl h' o'
theorem c_becomeMultipliedOut (r pa aa pb ab o : Nat) (L : zL) (ho : ¬ lw o aa ∧ ¬ lw o ab) (hr : RO n h r pa aa pb ab) (l : LO n h o) (c : CL h o L)
    (hK1 : ∀ P', L.mo L.sz L.m0 = some P' → ∀ h', oS (rw2 aa ab) h h' → pc h' aa P'.1 → pc h' ab P'.2 → KI 1 h') (hK0 : L.mo L.sz L.m0 = none → ∀ h', oS (rw2 aa ab) h h' → KI 0 h') : jI X (d + 6) y_Ratio_becomeMultipliedOut [.ref r, .ref o] n h KI := by
  have hle := c.le
  have e1 : (1 : Int32).toInt = 1 := rfl
  have no : ∀ {h1 h2 : jv_H}, oS (rw2 aa ab) h1 h2 → CL h1 o L → CL h2 o L := fun o' c => c.mv o' (fun q h1 h2 h3 => h3.elim (fun z => ho.1 (by rw [← z]; exact ⟨h1, h2⟩)) (fun z => ho.2 (by rw [← z]; exact ⟨h1, h2⟩)))
  refine r_Ratio_becomeMultipliedOut X (d + 5) n _ r o h ⟨hr.1, _, hr.2.1, hr.p.1, c_clear X (d + 4) n _ h pa aa hr.p (fun h1 o1 f1 => ?_)⟩
  have hr1 := hr.mv o1
  refine ⟨hr1.1, _, hr1.2.2.1, hr1.q.1, c_clear X (d + 4) n _ h1 pb ab hr1.q (fun h2 o2 f2 => ⟨l.1, ?_⟩)⟩
  have hr2 := hr1.mv o2
  have oo : oS (rw2 aa ab) h h2 := (o1.mono (fun _ z => Or.inl z)).tr (o2.mono (fun _ z => Or.inr z))
  have c2 := no oo c
  have l2 := (l.mv o1).mv o2
  have f1 := f1.mv o2 hr.ne
  have fin : ∀ h4 : jv_H, oS (rw2 aa ab) h2 h4 → pc h4 aa L.m0.1 → pc h4 ab L.m0.2 → ∀ x : Int32, x = jv_gI h4 o 3 - 1 → a_Ratio_becomeMultipliedOut_75 X (d + 5) n (jv_rI KI) r o x h4 0 := by
    intro h4 o4 g1 g2 x ex
    have c4 := no o4 c2
    exact mult_l X d n _ r pa aa pb ab o L ho L.sz x h4 L.m0 (by rw [ex, nz_subi (by rw [c4.gz, e1]; omega) (by rw [c4.gz, e1]; omega), c4.gz, e1]) (Nat.le_refl _) (hr2.mv o4) (l2.mv o4) c4 g1 g2 (fun P' e h' o' d1 d2 => hK1 P' e h' ((oo.tr o4).tr o') d1 d2) (fun e h' o' => hK0 e h' ((oo.tr o4).tr o'))
  have ua : ∀ {h3 : jv_H} {v : Int × Int}, fz_r v → pc h3 aa (fun _ => (0, 1)) → pc (jv_uL h3 aa 0 (fz_p v)) aa (fun i => if i = 0 then v else (0, 1)) := fun hv f => f.st hv (by omega) (if_pos rfl) (fun i _ hi => if_neg hi)
  have ub : ∀ {h3 : jv_H} {v : Int × Int}, fz_r v → pc h3 ab (fun _ => (0, 1)) → pc (jv_uL h3 ab 0 (fz_p v)) ab (fun i => if i = 0 then v else (0, 1)) := fun hv f => f.st hv (by omega) (if_pos rfl) (fun i _ hi => if_neg hi)
  have oa : ∀ {h3 : jv_H} {v : Int64}, oS (rw2 aa ab) h3 (jv_uL h3 aa 0 v) := oS_uL (Or.inl rfl)
  have ob : ∀ {h3 : jv_H} {v : Int64}, oS (rw2 aa ab) h3 (jv_uL h3 ab 0 v) := oS_uL (Or.inr rfl)
  have z0 : (0 : Int32).toNatClampNeg = 0 := rfl
  have ix1 : jv_ix SHT n aa 1 0 := hr.p.ix (k := 0) rfl (by omega)
  have ix2 : jv_ix SHT n ab 1 0 := hr.q.ix (k := 0) rfl (by omega)
  have p1 : (4294967297 : Int64) = fz_p (1, 1) := fz_p_1.symm
  have sh : ∀ {h3 : jv_H} {f f' : Nat → Int × Int} {a : Nat}, pc h3 a f → f' = f → pc h3 a f' := fun c e => e ▸ c
  have gen : ∀ v : Int × Int, fz_r v → (L.m0.1 = fun i => if i = 0 then v else (0, 1)) → jv_is SHT n o 13 ∧ (((jv_gI (jv_uL h2 aa 0 (fz_p v)) o 4) = (1 : Int32) → (jv_is SHT n o 13 ∧ (a_Ratio_becomeMultipliedOut_75 X (d + 5) n (jv_rI KI) r o ((jv_gI (jv_uL h2 aa 0 (fz_p v)) o 3) - (1 : Int32)) (jv_uL h2 aa 0 (fz_p v)) 0))) ∧ (¬ (jv_gI (jv_uL h2 aa 0 (fz_p v)) o 4) = (1 : Int32) → (jv_is SHT n r 15 ∧ (∃ a9 : Nat, jv_gR (jv_uL h2 aa 0 (fz_p v)) r 1 = some a9 ∧ (jv_is SHT n a9 14 ∧ (∃ a10 : Nat, jv_gR (jv_uL h2 aa 0 (fz_p v)) a9 0 = some a10 ∧ (jv_ix SHT n a10 1 (0 : Int32) ∧ (jv_is SHT n o 13 ∧ (a_Ratio_becomeMultipliedOut_75 X (d + 5) n (jv_rI KI) r o ((jv_gI (jv_uL (jv_uL h2 aa 0 (fz_p v)) a10 0 (fz_p (1, 1))) o 3) - (1 : Int32)) (jv_uL (jv_uL h2 aa 0 (fz_p v)) a10 0 (fz_p (1, 1))) 0))))))))) := by
    intro v hv em
    rw [show jv_gI (jv_uL h2 aa 0 (fz_p v)) o 4 = L.en from c2.ge]
    refine ⟨l.1, fun e => ⟨l.1, ?_⟩, fun e => ⟨hr.1, _, hr2.2.2.1, hr2.q.1, _, hr2.q.2.1, ix2, l.1, ?_⟩⟩
    · refine fin _ oa (sh (ua hv f1) em) (sh (f2.mv (S := fun w => w = aa) (oS_uL rfl) (Ne.symm hr.ne)) ?_) _ rfl
      funext i
      exact if_neg (fun z => z.2 e)
    · refine fin _ (oa.tr ob) (sh ((ua hv f1).mv (S := fun w => w = ab) (oS_uL rfl) hr.ne) em) (sh (ub fz_r_1 (f2.mv (S := fun w => w = aa) (oS_uL rfl) (Ne.symm hr.ne))) ?_) _ rfl
      funext i
      by_cases hi : i = 0
      · rw [if_pos hi]; exact if_pos ⟨hi, e⟩
      · rw [if_neg hi]; exact if_neg (fun z => hi z.1)
  rw [z0, p1, show jv_gI h2 o 4 = L.en from c2.ge, show jv_gL h2 o 5 = fz_p L.lo from c2.gl]
  refine ⟨fun e => ⟨l.1, fun e' => ?_, fun e' => ⟨hr.1, _, hr2.2.2.1, hr2.q.1, _, hr2.q.2.1, ix2, l.1, ?_⟩⟩, fun e => ⟨hr.1, _, hr2.2.1, hr2.p.1, _, hr2.p.2.1, l.1, fun e' => ⟨ix1, ?_⟩, fun e' => ⟨l.1, ix1, ?_⟩⟩⟩
  · rw [e] at e'
    exact absurd e' (by decide)
  · refine fin _ ob (sh (f1.mv (S := fun w => w = ab) (oS_uL rfl) hr.ne) ?_) (sh (ub fz_r_1 f2) ?_) _ rfl
    · funext i
      exact if_neg (fun z => z.2 e)
    · funext i
      by_cases hi : i = 0
      · rw [if_pos hi]; exact if_pos ⟨hi, e'⟩
      · rw [if_neg hi]; exact if_neg (fun z => hi z.1)
  · refine gen (1, 1) fz_r_1 ?_
    funext i
    show (if i = 0 ∧ L.en ≠ 0 then (if L.en = 2 then L.lo else (1, 1)) else (0, 1)) = _
    rw [if_neg e']
    by_cases hi : i = 0
    · rw [if_pos hi, if_pos ⟨hi, e⟩]
    · rw [if_neg hi, if_neg (fun z => hi z.1)]
  · refine gen L.lo c.2.2.2.1 ?_
    funext i
    show (if i = 0 ∧ L.en ≠ 0 then (if L.en = 2 then L.lo else (1, 1)) else (0, 1)) = _
    rw [if_pos e']
    by_cases hi : i = 0
    · rw [if_pos hi, if_pos ⟨hi, e⟩]
    · rw [if_neg hi, if_neg (fun z => hi z.1)]
end
