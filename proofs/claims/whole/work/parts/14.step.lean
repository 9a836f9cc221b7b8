/-! ===== rows' lengths, the script, new cells ===== -/
theorem SHL_len : SHL.length = 227 := by decide +kernel
theorem SHT_lt {j kd z : Nat} (h : SHT j = (kd, z)) (hk : kd ≠ 99) : j < 227 := by
  rcases Nat.lt_or_ge j 227 with q | q
  · exact q
  · exfalso
    have : SHT j = (99, 0) := by
      unfold SHT
      rw [List.getD_eq_getElem?_getD, List.getElem?_eq_none (by rw [SHL_len]; exact q)]
      rfl
    rw [this] at h
    exact hk (congrArg Prod.fst h).symm
theorem jv_S_succ (n : Nat) : jv_S SHT (n + 1) = jv_S SHT n + (SHT n).2 := rfl
section
variable {p : Program} {l : Launch} {e : Env} {R : Room} {s : State} {m : MethodId} {args : Array Value} {below : List Frame} {meth : Method} {c : Code} {Z : State → Prop}
variable {D : va_G} {aC : Nat → ClassId} {b B : Nat} {X : jv_X} {M : jv_M} {n0 d : Nat} {ad0 : Nat → Nat} {cc : ByteArray} {o : Nat} {ini : Bool}
theorem jw_alen (Cx : jw_Cx p s m args c R D aC b B X M d cc o) {pc q : Nat} {ls st : List Value} {h : jv_H} {k : Nat} (hdec : decode cc pc = .ok (.arraylength, 1)) (his : q < n0 + k ∧ (SHT q).1 < 7)
    (hp : jw_Wp p l e R s m args below meth c Z D aC b B M n0 ad0 (pc + 1) ls (.int (Int32.ofNat (SHT q).2) :: st) h k) : jw_Wp p l e R s m args below meth c Z D aC b B M n0 ad0 pc ls (.ref q :: st) h k := by
  obtain ⟨hx, hb, -, hown, hts, ⟨hK, -⟩, -⟩ := Cx
  intro ad lsm H locs ⟨h1, h2, h3, h4, h5, h6, h7, h8, h9⟩
  show W p l e R s m args below meth c H locs k _ Z (F0 m pc lsm (.ref (jw_a b ad q) :: st.map (jw_v (jw_a b ad))))
  rw [jw_a_lt his.1 h6]
  have K := hp ad lsm H locs ⟨h1, h2, jw_pI (jw_d1 h3), h4, h5, h6, h7, h8, h9⟩
  have hg := jw_W_get (aC := aC) (b := b) (ad := ad) (h := h) his.1
  rcases (show (SHT q).1 = 0 ∨ (SHT q).1 = 1 ∨ (SHT q).1 = 2 ∨ (SHT q).1 = 0 + 3 ∨ (SHT q).1 = 1 + 3 ∨ (SHT q).1 = 2 + 3 ∨ (SHT q).1 = 3 + 3 by omega) with z | z | z | z | z | z | z
  · rw [jw_e_I z] at hg
    exact va_alen hx hb hK h7 q 0 hg rfl rfl hdec K
  · rw [jw_e_L z] at hg
    exact va_alen hx hb hK h7 q 1 hg rfl rfl hdec K
  · rw [jw_e_Z z] at hg
    exact va_alen hx hb hK h7 q 2 hg rfl rfl hdec K
  · rw [jw_e_R (by decide) z] at hg
    exact va_alen hx hb hK h7 q 3 hg rfl rfl hdec K
  · rw [jw_e_R (by decide) z] at hg
    exact va_alen hx hb hK h7 q 4 hg rfl rfl hdec K
  · rw [jw_e_R (by decide) z] at hg
    exact va_alen hx hb hK h7 q 5 hg rfl rfl hdec K
  · rw [jw_e_R (by decide) z] at hg
    exact va_alen hx hb hK h7 q 6 hg rfl rfl hdec K
theorem jw_slen (Cx : jw_Cx p s m args c R D aC b B X M d cc o) {pc : Nat} {ls st : List Value} {h : jv_H} {k : Nat} (hdec : decode cc pc = .ok (.arraylength, 1))
    (hp : jw_Wp p l e R s m args below meth c Z D aC b B M n0 ad0 (pc + 1) ls (.int (Int32.ofNat X.1) :: st) h k) : jw_Wp p l e R s m args below meth c Z D aC b B M n0 ad0 pc ls (.ref 999999 :: st) h k := by
  obtain ⟨hx, hb, -, hown, hts, ⟨hK, -⟩, hX, hB, -⟩ := Cx
  intro ad lsm H locs ⟨h1, h2, h3, h4, h5, h6, h7, h8, h9⟩
  show W p l e R s m args below meth c H locs k _ Z (F0 m pc lsm (.ref (jw_a b ad 999999) :: st.map (jw_v (jw_a b ad))))
  rw [show jw_a b ad 999999 = b from if_pos rfl]
  exact va_slen hx hb hX (by omega) (show ¬ B ≤ b by omega) h9.1 hdec (hp ad lsm H locs ⟨h1, h2, jw_pI (jw_d1 h3), h4, h5, h6, h7, h8, h9⟩)
theorem jw_sld (Cx : jw_Cx p s m args c R D aC b B X M d cc o) {pc : Nat} {ls st : List Value} {h : jv_H} {k : Nat} {i : Int32} (hdec : decode cc pc = .ok (.iaload, 1)) (hi : 0 ≤ i.toInt ∧ i.toInt < (X.1 : Int))
    (hp : jw_Wp p l e R s m args below meth c Z D aC b B M n0 ad0 (pc + 1) ls (.int (X.2 i.toNatClampNeg) :: st) h k) : jw_Wp p l e R s m args below meth c Z D aC b B M n0 ad0 pc ls (.int i :: .ref 999999 :: st) h k := by
  obtain ⟨hx, hb, -, hown, hts, ⟨hK, -⟩, hX, hB, -⟩ := Cx
  intro ad lsm H locs ⟨h1, h2, h3, h4, h5, h6, h7, h8, h9⟩
  show W p l e R s m args below meth c H locs k _ Z (F0 m pc lsm (.int i :: .ref (jw_a b ad 999999) :: st.map (jw_v (jw_a b ad))))
  rw [show jw_a b ad 999999 = b from if_pos rfl]
  exact va_sld hx hb hX (by omega) (show ¬ B ≤ b by omega) h9.1 (jw_in hi.1 hi.2) hdec (hp ad lsm H locs ⟨h1, h2, jw_pI (jw_d2 h3), h4, h5, h6, h7, h8, h9⟩)
/-- what a new cell brings -/
theorem jw_newSt {ad : Nat → Nat} {lsm : Array Slot} {H H1 : Heap} {locs : List Loc} {ls st : List Value} {h : jv_H} {k q z kd : Nat} {en : va_E} (hsh : SHT (n0 + k) = (kd, z)) (hkd : kd ≠ 99) (hrm : jv_rm SHT M n0 k 1 z) (St : jw_St s D aC b B M n0 ad0 ad lsm H locs ls st h k)
    (he : jw_e aC (jw_a b (va_up ad (n0 + k) q)) (jv_z h (n0 + k)) (n0 + k) = en) (g1 : va_P D vwCl (jw_W aC b ad h (n0 + k) ++ [(q, en)]) H1) (g2 : va_D (fun q => B ≤ q) (jw_W aC b ad h (n0 + k) ++ [(q, en)])) (g3 : va_S (fun q => B ≤ q) s.heap H1 locs) :
    jw_St s D aC b B M n0 ad0 (va_up ad (n0 + k) q) lsm H1 locs ls (.ref (n0 + k) :: st) (jv_z h (n0 + k)) (k + 1) ∧ (.ref (n0 + k) :: st).map (jw_v (jw_a b (va_up ad (n0 + k) q))) = .ref q :: st.map (jw_v (jw_a b ad)) ∧ jv_S SHT (n0 + (k + 1)) - jv_S SHT n0 = jv_S SHT (n0 + k) - jv_S SHT n0 + z := by
  obtain ⟨h1, h2, h3, h4, h5, h6, h7, h8, h9, h10⟩ := St
  have hlt := SHT_lt hsh hkd
  have hag : ∀ w, w < n0 + k → va_up ad (n0 + k) q w = ad w := fun w hw => va_up_ne ad q (by omega)
  rw [jw_W_push (by omega) h4 (fun w hw => jw_z_keep h hw) he] at g1 g2
  have hs : jv_S SHT (n0 + (k + 1)) = jv_S SHT (n0 + k) + z := by
    show jv_S SHT (n0 + k) + (SHT (n0 + k)).2 = _
    rw [hsh]
  have hr : k + 1 ≤ M.2.1 ∧ jv_S SHT (n0 + k) + z ≤ jv_S SHT n0 + M.2.2.1 := by
    unfold jv_rm at hrm
    split at hrm
    · exact hrm.elim
    · exact hrm
  have hm := jv_S_mono (show n0 ≤ n0 + k by omega)
  refine ⟨⟨jw_L_agree hag h2 h1, jw_oks_mono (by omega) h2, jw_pA (show n0 + k < n0 + (k + 1) by omega) (jw_oks_mono (by omega) h3), jw_z_hv h4, ⟨hr.1, by omega⟩, by omega, g1, g2, g3, fun w hw => by rw [hag w (by omega)]; exact h10 w hw⟩, ?_, by omega⟩
  show Value.ref (jw_a b (va_up ad (n0 + k) q) (n0 + k)) :: st.map (jw_v (jw_a b (va_up ad (n0 + k) q))) = _
  rw [jw_vs_agree hag h3, jw_a_lt (show n0 + k < 227 from hlt) (Nat.le_refl _), va_up_self]
theorem jw_rm_spec {k a z : Nat} (h : jv_rm SHT M n0 k a z) : k + a ≤ M.2.1 ∧ jv_S SHT (n0 + k) + z ≤ jv_S SHT n0 + M.2.2.1 := by
  unfold jv_rm at h
  split at h
  · exact h.elim
  · exact h
theorem jw_fs_zero {f : Nat → Nat} {h : jv_H} {o : Nat} (h1 : h.1 o = fun _ => 0) (h2 : h.2.1 o = fun _ => 0) (h3 : h.2.2 o = fun _ => none) (ks : List Nat) (j : Nat) (hj : j < ks.length) : vp_V (jw_fs f h o 0 ks) j = jw_fv (fun k => k) (fun _ _ => 0, fun _ _ => 0, fun _ _ => none) 0 j (ks.getD j 0) := by
  unfold vp_V
  rw [List.getD_eq_getElem?_getD, jw_fs_get, List.getD_eq_getElem?_getD, List.getElem?_eq_getElem hj]
  simp only [Option.map_some, Option.getD_some, Nat.zero_add]
  unfold jw_fv
  rw [h1, h2, h3]
  rfl
theorem jw_z_at (h : jv_H) (n : Nat) : (jv_z h n).1 n = (fun _ => 0) ∧ (jv_z h n).2.1 n = (fun _ => 0) ∧ (jv_z h n).2.2 n = (fun _ => none) := by
  refine ⟨?_, ?_, ?_⟩ <;> (funext j; simp [jv_z])
theorem jw_new (Cx : jw_Cx p s m args c R D aC b B X M d cc o) {pc idx ci z : Nat} {ls st : List Value} {h : jv_H} {k : Nat} (hN : jw_NF (o, idx, ci, z)) (hdec : decode cc pc = .ok (.new idx, 3)) (hsh : SHT (n0 + k) = (ci + 10, z)) (hrm : jv_rm SHT M n0 k 1 z)
    (hp : jw_Wp p l e R s m args below meth c Z D aC b B M n0 ad0 (pc + 3) ls (.ref (n0 + k) :: st) (jv_z h (n0 + k)) (k + 1)) : jw_Wp p l e R s m args below meth c Z D aC b B M n0 ad0 pc ls st h k := by
  obtain ⟨hx, hb, -, hown, hts, ⟨hK, hNx⟩, -, hB, hR⟩ := Cx
  obtain ⟨C, T, ty0, hc, hin, hty, w1, w2, w3, hlt, hlen, hdef⟩ := hN
  have hlt : ci < 11 := hlt
  have hlen : (jw_fk ci).length = z := hlen
  intro ad lsm H locs St
  have hr := jw_rm_spec hrm
  have hm := jv_S_mono (show n0 ≤ n0 + k by omega)
  obtain ⟨z1, z2, z3⟩ := jw_z_at h (n0 + k)
  have hfs : ∀ f j, j < z → defaultValue (ty0 j) = vp_V (jw_fs f (jv_z h (n0 + k)) (n0 + k) 0 (jw_fk ci)) j := fun f j hj => by
    rw [jw_fs_zero z1 z2 z3 _ _ (by rw [hlen]; exact hj)]
    exact hdef j hj
  obtain ⟨h1, h2, h3, h4, h5, h6, h7, h8, h9, h10⟩ := id St
  have hfa : jw_fs (jw_a b ad) (jv_z h (n0 + k)) (n0 + k) 0 (jw_fk ci) = jw_fs (fun _ => 0) (jv_z h (n0 + k)) (n0 + k) 0 (jw_fk ci) ∧ ∀ q, jw_fs (jw_a b (va_up ad (n0 + k) q)) (jv_z h (n0 + k)) (n0 + k) 0 (jw_fk ci) = jw_fs (fun _ => 0) (jv_z h (n0 + k)) (n0 + k) 0 (jw_fk ci) := by
    have key : ∀ (f g : Nat → Nat) (ks : List Nat) (i : Nat), jw_fs f (jv_z h (n0 + k)) (n0 + k) i ks = jw_fs g (jv_z h (n0 + k)) (n0 + k) i ks := by
      intro f g ks
      induction ks with
      | nil => exact fun i => rfl
      | cons kd r ih =>
        intro i
        simp only [jw_fs, ih (i + 1)]
        congr 1
        unfold jw_fv
        rw [z3]
        rfl
    exact ⟨key _ _ _ _, fun q => key _ _ _ _⟩
  refine va_new (own := jw_own o) (ci := ci) (fs := jw_fs (fun _ => 0) (jv_z h (n0 + k)) (n0 + k) 0 (jw_fk ci)) hx hb hts (jw_gu hin) ty0 hty hown (hts _ (jw_g w1 rfl)) (hts _ (jw_g w2 rfl)) (hts _ (jw_g w3 rfl)) hK h7 h8 h9 (fun q hq => by omega) hc (fun j hj => hfs _ j hj) (by omega) (by show _ + z ≤ _; omega) hdec (fun q H1 g1 g2 g3 => ?_)
  obtain ⟨St', e1, e2⟩ := jw_newSt (aC := aC) (q := q) hsh (by omega) hrm St (by rw [jw_e_obj (show (SHT (n0 + k)).1 = ci + 10 by rw [hsh]), hfa.2]) g1 g2 g3
  have K := hp _ lsm H1 locs St'
  rw [e1, e2] at K
  exact K
theorem jw_newarray (Cx : jw_Cx p s m args c R D aC b B X M d cc o) {pc : Nat} {ls st : List Value} {h : jv_H} {k : Nat} {i : Int32} {t : ArrayType} (hdec : decode cc pc = .ok (.newarray t, 2)) (hsh : jv_nk t < 3 ∧ SHT (n0 + k) = (jv_nk t, i.toNatClampNeg) ∧ 0 ≤ i.toInt ∧ i.toInt < 1000 ∧ jv_rm SHT M n0 k 1 i.toNatClampNeg)
    (hp : jw_Wp p l e R s m args below meth c Z D aC b B M n0 ad0 (pc + 2) ls (.ref (n0 + k) :: st) (jv_z h (n0 + k)) (k + 1)) : jw_Wp p l e R s m args below meth c Z D aC b B M n0 ad0 pc ls (.int i :: st) h k := by
  obtain ⟨hx, hb, -, hown, hts, ⟨hK, hNx⟩, -, hB, hR⟩ := Cx
  obtain ⟨hnk, hsh, hi0, hi1, hrm⟩ := hsh
  intro ad lsm H locs St
  have hr := jw_rm_spec hrm
  have hm := jv_S_mono (show n0 ≤ n0 + k by omega)
  obtain ⟨z1, z2, z3⟩ := jw_z_at h (n0 + k)
  obtain ⟨h1, h2, h3, h4, h5, h6, h7, h8, h9, h10⟩ := id St
  have hbd : i.toNatClampNeg < 1000 := by show i.toInt.toNat < 1000; omega
  have St2 : jw_St s D aC b B M n0 ad0 ad lsm H locs ls st h k := ⟨h1, h2, jw_d1 h3, h4, h5, h6, h7, h8, h9, h10⟩
  show W p l e R s m args below meth c H locs k _ Z (F0 m pc lsm (.int i :: st.map (jw_v (jw_a b ad))))
  cases t <;> first | (exact absurd hnk (by decide)) | skip
  · refine va_newa (atype := .boolean) (ty := .boolean) (a0 := (i.toNatClampNeg, .inl (fun _ => 0))) hx hb (hts _ (jw_g jq_arr_boolean rfl)) rfl hK h7 h8 h9 (fun q hq => by omega) (fun cA => rfl) (jw_nneg hi0) rfl (by show _ * 1 ≤ _; omega) (by omega) (by omega) hdec (fun q cA H1 gK g1 g2 g3 => ?_)
    have hcA : cA = aC 2 := by
      have e1 := (gK.2 7 (cA, .boolean) rfl).2
      have e2 := (hK.2 2 (aC 2, .boolean) rfl).2
      exact Option.some.inj (e1.symm.trans e2)
    subst hcA
    obtain ⟨St', e1, e2⟩ := jw_newSt (aC := aC) (q := q) hsh (by decide) hrm St2 (by rw [jw_e_Z (show (SHT (n0 + k)).1 = 2 by rw [hsh]; rfl), z1, hsh]) g1 g2 g3
    have K := hp _ lsm H1 locs St'
    rw [e1, e2] at K
    exact K
  · refine va_newa (atype := .int) (ty := .int) (a0 := (i.toNatClampNeg, .inl (fun _ => 0))) hx hb (hts _ (jw_g jq_arr_int rfl)) rfl hK h7 h8 h9 (fun q hq => by omega) (fun cA => rfl) (jw_nneg hi0) rfl (by show _ * 4 ≤ _; omega) (by omega) (by omega) hdec (fun q cA H1 gK g1 g2 g3 => ?_)
    have hcA : cA = aC 0 := by
      have e1 := (gK.2 7 (cA, .int) rfl).2
      have e2 := (hK.2 0 (aC 0, .int) rfl).2
      exact Option.some.inj (e1.symm.trans e2)
    subst hcA
    obtain ⟨St', e1, e2⟩ := jw_newSt (aC := aC) (q := q) hsh (by decide) hrm St2 (by rw [jw_e_I (show (SHT (n0 + k)).1 = 0 by rw [hsh]; rfl), z1, hsh]) g1 g2 g3
    have K := hp _ lsm H1 locs St'
    rw [e1, e2] at K
    exact K
  · refine va_newa (atype := .long) (ty := .long) (a0 := (i.toNatClampNeg, .inr (.inl (fun _ => 0)))) hx hb (hts _ (jw_g jq_arr_long rfl)) rfl hK h7 h8 h9 (fun q hq => by omega) (fun cA => rfl) (jw_nneg hi0) rfl (by show _ * 8 ≤ _; omega) (by omega) (by omega) hdec (fun q cA H1 gK g1 g2 g3 => ?_)
    have hcA : cA = aC 1 := by
      have e1 := (gK.2 7 (cA, .long) rfl).2
      have e2 := (hK.2 1 (aC 1, .long) rfl).2
      exact Option.some.inj (e1.symm.trans e2)
    subst hcA
    obtain ⟨St', e1, e2⟩ := jw_newSt (aC := aC) (q := q) hsh (by decide) hrm St2 (by rw [jw_e_L (show (SHT (n0 + k)).1 = 1 by rw [hsh]; rfl), z2, hsh]) g1 g2 g3
    have K := hp _ lsm H1 locs St'
    rw [e1, e2] at K
    exact K
theorem jw_anewarray (Cx : jw_Cx p s m args c R D aC b B X M d cc o) {pc idx j : Nat} {ls st : List Value} {h : jv_H} {k : Nat} {i : Int32} (hA : jw_AF (o, idx, j)) (hdec : decode cc pc = .ok (.anewarray idx, 3)) (hsh : j < 4 ∧ SHT (n0 + k) = (j + 3, i.toNatClampNeg) ∧ 0 ≤ i.toInt ∧ i.toInt < 1000 ∧ jv_rm SHT M n0 k 1 i.toNatClampNeg)
    (hp : jw_Wp p l e R s m args below meth c Z D aC b B M n0 ad0 (pc + 3) ls (.ref (n0 + k) :: st) (jv_z h (n0 + k)) (k + 1)) : jw_Wp p l e R s m args below meth c Z D aC b B M n0 ad0 pc ls (.int i :: st) h k := by
  obtain ⟨hx, hb, -, hown, hts, ⟨hK, hNx⟩, -, hB, hR⟩ := Cx
  obtain ⟨hj, hsh, hi0, hi1, hrm⟩ := hsh
  obtain ⟨w1, w2, -⟩ := hA
  intro ad lsm H locs St
  have hr := jw_rm_spec hrm
  have hm := jv_S_mono (show n0 ≤ n0 + k by omega)
  obtain ⟨z1, z2, z3⟩ := jw_z_at h (n0 + k)
  obtain ⟨h1, h2, h3, h4, h5, h6, h7, h8, h9, h10⟩ := id St
  have hbd : i.toNatClampNeg < 1000 := by show i.toInt.toNat < 1000; omega
  have St2 : jw_St s D aC b B M n0 ad0 ad lsm H locs ls st h k := ⟨h1, h2, jw_d1 h3, h4, h5, h6, h7, h8, h9, h10⟩
  show W p l e R s m args below meth c H locs k _ Z (F0 m pc lsm (.int i :: st.map (jw_v (jw_a b ad))))
  refine va_newq (own := jw_own o) (C := jw_ac j) hx hb hown (hts _ (jw_g w1 rfl)) (hNx.2 j hj) hK h7 h8 h9 (fun q hq => by omega) (jw_nneg hi0) rfl (by omega) (by omega) (by omega) hdec (fun q cA H1 gK g1 g2 g3 => ?_)
  have hcA : cA = aC (j + 3) := by
    obtain ⟨kA, comp, -, -, -, e1⟩ := (gK.2 7 (cA, .object (jw_ac j)) rfl).2
    obtain ⟨kA', comp', -, -, -, e2⟩ := (hK.2 (j + 3) (aC (j + 3), .object (jw_ac j)) (jw_tys_R hj)).2
    exact Option.some.inj (e1.symm.trans e2)
  subst hcA
  obtain ⟨St', e1, e2⟩ := jw_newSt (aC := aC) (q := q) hsh (by omega) hrm St2 (by rw [jw_e_R hj (show (SHT (n0 + k)).1 = j + 3 by rw [hsh]), z3, hsh]; rfl) g1 g2 g3
  have K := hp _ lsm H1 locs St'
  rw [e1, e2] at K
  exact K
end
