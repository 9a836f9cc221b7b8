/-! ===== the reference: ladder, feed, wipe ===== -/
def ldI (l : Nat) : Nat → Nat → Prop := fun q j => q = 171 ∧ (j = 1 ∨ j = 2 ∨ j = 3 ∨ j = 6) ∨ (q = 175 ∨ q = 176) ∧ 12 * l ≤ j ∧ j < 12 * l + 12 ∨ (q = 177 ∨ q = 178) ∧ j = l
def ldL (l : Nat) : Nat → Nat → Prop := fun q j => q = 171 ∨ (q = 179 ∨ q = 180) ∧ 12 * l ≤ j ∧ j < 12 * l + 12 ∨ (q = 181 ∨ q = 182) ∧ j = l
section
variable (X : jv_X) (d : Nat) (h : jv_H) (K : jv_H → Prop) (KI : Int32 → jv_H → Prop) (Z : zZ)
theorem ld_ok {h h' : jv_H} (ms : MS h Z) (bd : bdZ Z) (o : oT (ldI Z.k.nl) (ldL Z.k.nl) h h') : MKg nA nS h' Z.k := MKn.mv ms.k bd.2.1 o (fun q j z => by unfold ldI at z; unfold frI; omega) (fun q j z => by unfold ldL at z; unfold frL; omega)
theorem ld_T {h h' : jv_H} (ms : MS h Z) (bd : bdZ Z) (o : oT (ldI Z.k.nl) (ldL Z.k.nl) h h') (hl : Z.k.nl < 6) (z : h'.1 171 1 = 0) : MS h' Z.wp := ms.updT (K := Z.k) bd o (fun q j z => by unfold ldI at z; omega) (fun q j z => by unfold ldL at z; omega) (by rw [z]; rfl) (ld_ok Z ms bd o)
theorem ld_M {h h' : jv_H} {l : Nat} (o : oT (ldI l) (ldL l) h h') : oM h h' := o.M (fun q j z => by unfold ldI at z; omega) (fun q j z => by unfold ldL at z; omega)
theorem mladder_l (Q : jv_Q) (ms : MS h Z) (bd : bdZ Z) (hl : Z.k.nl < 6) (e xl : Int32) (he : e.toInt = Z.tn) (hxl : xl.toInt = Z.k.nl) (R : Sum Nat (zL × Nat)) (hR : rps Z.T Z.tn 12 z0L 0 = R)
    (hQ1 : ∀ M, rlad Z.T Z.tn = .inr M → ∀ h', oM h h' → MS h' (Z.wp.sk (Z.k.addL M)) → Q (some (.int xl)) h') (hQ0 : ∀ e, rlad Z.T Z.tn = .inl e → ∀ h', oM h h' → MS h' Z.wp → ∀ z : Int32, z.toInt = -1000 - (e : Int) → Q (some (.int z)) h') :
    ∀ (f n : Nat) (p : Nat) (L : zL) (x x3 : Int32) (h1 : jv_H), n + f = 12 → x.toInt = ((12 * Z.k.nl + n : Nat) : Int) → x3.toInt = ((n + 1 : Nat) : Int) → L.sz = n → R = rps Z.T Z.tn f L p → oT (ldI Z.k.nl) (ldL Z.k.nl) h h1 → h1.1 171 1 = 0 → MT h1 Z.T Z.tn p → h1.1 171 3 = 0 → h1.1 171 6 = 0 → sl h1 Z.k.nl L → 0 < f →
      jV X 7 y_Model_readPart [.ref 171, .int x, .int e] 227 h1 (fun h2 => a_Model_ladder_53 X 7 227 Q 171 e xl x3 h2 0)
  | 0, n, p, L, x, x3, h1, hn, hx, h3, hs, hr, o1, z1, t1, f1, w1, s1, hf => absurd hf (by omega)
  | f + 1, n, p, L, x, x3, h1, hn, hx, h3, hs, hr, o1, z1, t1, f1, w1, s1, hf => by
    have r1 := ms.r.mv o1
    have wd : ∀ {h' h''}, oT (rpI (12 * Z.k.nl + n)) (rpL (12 * Z.k.nl + n)) h' h'' → oT (ldI Z.k.nl) (ldL Z.k.nl) h' h'' := fun o => o.mono (fun q j z => by unfold rpI fcI lyI at z; unfold ldI; omega) (fun q j z => by unfold rpL mL lyL at z; unfold ldL; omega)
    have b144 : ∀ (h' : jv_H) (e' : Nat) (y3 : Int32), oT (ldI Z.k.nl) (ldL Z.k.nl) h h' → h'.1 171 1 = 0 → ¬ jv_gI h' 171 3 = 0 → MT h' Z.T Z.tn e' → rlad Z.T Z.tn = .inl e' → a_Model_ladder_144 X 7 227 Q 171 e xl y3 h' 0 := fun h' e' y3 o' z' ne t' hr' => by
      refine r_Model_ladder_144 X 7 227 Q 171 e xl y3 h' ⟨is171, fun _ => ⟨is171, ?_⟩, fun z => absurd z ne⟩
      exact hQ0 e' hr' h' (ld_M o') (ld_T Z ms bd o' hl z') _ (nz_m1000 t'.1 (by have := t'.2.1; have := t'.2.2.1; omega))
    unfold rps at hr
    refine m_readPart X 2 h1 Z.T Z.tn p _ x e _ hx (by omega) he r1 t1 f1 w1 (fun q hq h2 o2 f2 w2 t2 c1 c2 c3 => ?_) (fun e' he' h2 o2 f2 t2 => ?_)
    · rw [hq] at hr
      dsimp only at hr
      have o12 := o1.tr (wd o2)
      have r2 := r1.mv o2
      have z2 : h2.1 171 1 = 0 := (o2.2.1 _ _ (fun z => by unfold rpI fcI lyI at z; omega)).trans z1
      have s2 : sl h2 Z.k.nl (L.add q.1.1 q.1.2.1 q.1.2.2) := fun j hj => by
        have hj : j < L.sz + 1 := hj
        show _ = (if j = L.sz then q.1.1 else L.so j) ∧ _ = (if j = L.sz then q.1.2.1 else L.sh j) ∧ _ = (if j = L.sz then q.1.2.2 else L.va j)
        by_cases ej : j = L.sz
        · rw [if_pos ej, if_pos ej, if_pos ej, ej, hs]
          exact ⟨c1, c2, c3⟩
        · rw [if_neg ej, if_neg ej, if_neg ej]
          exact s1.mv o2 (fun i hi => by
            refine ⟨fun z => ?_, fun z => ?_, fun z => ?_, fun z => ?_⟩
            · unfold rpI fcI lyI at z; omega
            · unfold rpI fcI lyI at z; omega
            · unfold rpL mL lyL at z; omega
            · unfold rpL mL lyL at z; omega) j (by omega)
      have hh : ∀ KI : Int32 → jv_H → Prop, KI (lk Z.T Z.tn q.2) h2 → jI X 7 y_Model_here [.ref 171, .int e] 227 h2 KI := fun KI hK => m_here X 6 h2 Z.T Z.tn q.2 KI e he r2 t2 hK
      have tail : R = .inr (L.add q.1.1 q.1.2.1 q.1.2.2, q.2) → jv_is SHT 227 171 20 ∧ ((¬ (jv_gI h2 171 3) = 0 → (jv_is SHT 227 171 20 ∧ ((1 : Int32) = 0 ∨ (1 : Int32) = 1) ∧ (a_Model_ladder_144 X 7 227 Q 171 e xl x3 (jv_uI h2 171 3 (1 : Int32)) 0))) ∧ ((jv_gI h2 171 3) = 0 → (jv_is SHT 227 171 20 ∧ jI X 7 y_Model_here [.ref 171, .int e] 227 h2 (fun z7 h6 => (¬ z7 = (59 : Int32) → (jv_is SHT 227 171 20 ∧ ((1 : Int32) = 0 ∨ (1 : Int32) = 1) ∧ (a_Model_ladder_144 X 7 227 Q 171 e xl x3 (jv_uI h6 171 3 (1 : Int32)) 0))) ∧ (z7 = (59 : Int32) → (jv_is SHT 227 171 20 ∧ (jv_is SHT 227 171 20 ∧ (jv_is SHT 227 171 20 ∧ jV X 7 y_Model_readEnd [.ref 171, .int xl, .int e] 227 (jv_uI h6 171 2 ((jv_gI h6 171 2) + (1 : Int32))) (fun h8 => a_Model_ladder_144 X 7 227 Q 171 e xl x3 h8 0))))))))) := fun hfin => by
        refine ⟨is171, fun z => absurd f2 z, fun _ => ⟨is171, hh _ ⟨fun y => ⟨is171, Or.inr rfl, ?_⟩, fun y => ⟨is171, is171, is171, ?_⟩⟩⟩⟩
        · have nz : ¬ jv_gI (jv_uI h2 171 3 1) 171 3 = 0 := by rw [show jv_gI (jv_uI h2 171 3 1) 171 3 = 1 from uI_eq]; decide
          refine b144 _ q.2 _ (o12.uI (Or.inl ⟨rfl, by omega⟩)) (by rw [uI_ne (by omega)]; exact z2) nz t2.fl ?_
          unfold rlad
          rw [hR, hfin]
          dsimp only
          rw [if_neg y]
        · have hlt := lk_lt y (by decide)
          have o3 : oT (ldI Z.k.nl) (ldL Z.k.nl) h (jv_uI h2 171 2 (jv_gI h2 171 2 + 1)) := o12.uI (Or.inl ⟨rfl, by omega⟩)
          have z3 : (jv_uI h2 171 2 (jv_gI h2 171 2 + 1)).1 171 1 = 0 := by rw [uI_ne (by omega)]; exact z2
          have wd2 : ∀ {h' h''}, oT (reI Z.k.nl) (reL Z.k.nl) h' h'' → oT (ldI Z.k.nl) (ldL Z.k.nl) h' h'' := fun o => o.mono (fun q j z => by unfold reI fcI at z; unfold ldI; omega) (fun q j z => by unfold reL mL at z; unfold ldL; omega)
          refine m_readEnd X 2 _ Z.T Z.tn (q.2 + 1) _ xl e Z.k.nl hxl hl (L.add q.1.1 q.1.2.1 q.1.2.2) he (r2.mv at_up) (t2.up hlt) (by rw [uI_ne (by omega)]; exact f2) (by rw [uI_ne (by omega)]; exact w2) (fun s hs' h4 o4 f4 t4 c4 c5 c6 => ?_) (fun e' he' h4 o4 f4 t4 => ?_)
          · have o34 := o3.tr (wd2 o4)
            have z4 : h4.1 171 1 = 0 := (o4.2.1 _ _ (fun z => by unfold reI fcI at z; omega)).trans z3
            have ha4 : (jv_gI h4 171 2).toInt = s.2 := t4.1
            have hrl : rlad Z.T Z.tn = if s.2 = Z.tn then .inr s.1 else .inl s.2 := by
              unfold rlad
              rw [hR, hfin]
              dsimp only
              rw [if_pos y, hs']
            refine r_Model_ladder_144 X 7 227 Q 171 e xl x3 h4 ⟨is171, fun z => absurd f4 z, fun _ => ⟨is171, fun a2 => ⟨is171, _, (ms.r.mv o34) 12, jx (len := 6) rfl (by decide) (by omega) (by omega), is171, is171, ?_⟩, fun a2 => ⟨is171, ?_⟩⟩⟩
            · have a2 := nz_le.mp a2
              rw [he, ha4] at a2
              rw [if_pos (by have := t4.2.1; omega)] at hrl
              rw [nz_nat hxl]
              have o5 : oT (ldI Z.k.nl) (ldL Z.k.nl) h (jv_uI h4 177 Z.k.nl x3) := o34.uI (Or.inr (Or.inr ⟨Or.inl rfl, rfl⟩))
              have kn := ld_ok Z ms bd o5
              have hM : s.1.sz = n + 1 := by
                rw [c6]
                show L.sz + 1 = n + 1
                rw [hs]
              have o6 : oT (fun q j => ldI Z.k.nl q j ∨ q = 171 ∧ j = 18) (ldL Z.k.nl) h (jv_uI (jv_uI h4 177 Z.k.nl x3) 171 18 (jv_gI (jv_uI h4 177 Z.k.nl x3) 171 18 + 1)) := (o5.mono (fun _ _ z => Or.inl z) (fun _ _ z => z)).uI (Or.inr ⟨rfl, rfl⟩)
              refine hQ1 s.1 hrl _ (o6.M (fun q j z => by unfold ldI at z; omega) (fun q j z => by unfold ldL at z; omega)) (ms.updT bd o6 (fun q j z => by unfold ldI at z; omega) (fun q j z => by unfold ldL at z; omega) (by rw [uI_ne (by omega), uI_ne (by omega), z4]; rfl) (MKn.addL kn hl ?_ ?_ (fun z => ?_) ?_))
              · rw [uI_eq, hM]
                exact h3
              · rw [uI_ne (by omega)]
                exact c4
              · exact c5 z
              · have s3 : sl h4 Z.k.nl (L.add q.1.1 q.1.2.1 q.1.2.2) := (s2.mv (SI := atI) (SL := nL) at_up (fun i hi => ⟨fun z => by unfold atI at z; omega, fun z => by unfold atI at z; omega, fun z => z, fun z => z⟩)).mv o4 (fun i hi => ⟨fun z => by unfold reI fcI at z; omega, fun z => by unfold reI fcI at z; omega, fun z => by unfold reL mL at z; omega, fun z => by unfold reL mL at z; omega⟩)
                have s4 : sl h4 Z.k.nl s.1 := by rw [c6]; exact s3
                exact s4.mv (oT.rf.uI (SI := fun q j => q = 177) (SL := nL) rfl) (fun i hi => ⟨fun z => by omega, fun z => by omega, fun z => z, fun z => z⟩)
            · have a2 : ¬ (Z.tn : Int) ≤ s.2 := fun z => a2 (nz_le.mpr (by rw [he, ha4]; exact z))
              rw [if_neg (by omega)] at hrl
              exact hQ0 _ hrl h4 (ld_M o34) (ld_T Z ms bd o34 hl z4) _ (nz_m1000 ha4 (by have := t4.2.1; have := t4.2.2.1; omega))
          · have ne : ¬ jv_gI h4 171 3 = 0 := by rw [show jv_gI h4 171 3 = 1 from f4]; decide
            refine b144 h4 e' _ (o3.tr (wd2 o4)) ((o4.2.1 _ _ (fun z => by unfold reI fcI at z; omega)).trans z3) ne t4 ?_
            unfold rlad
            rw [hR, hfin]
            dsimp only
            rw [if_pos y, he']
      refine r_Model_ladder_53 X 7 227 Q 171 e xl x3 h2 ⟨is171, fun z => absurd f2 z, fun _ => ⟨is171, hh _ ⟨fun y => tail ?_, fun y => ⟨fun y2 => tail ?_, fun y2 => ⟨is171, is171, is171, ?_⟩⟩⟩⟩⟩
      · by_cases ef : f = 0
        · rw [if_pos ef] at hr; exact hr
        · rw [if_neg ef, if_neg y] at hr; exact hr
      · have : (12 : Int) ≤ x3.toInt := nz_le.mp y2
        rw [if_pos (by omega)] at hr
        exact hr
      · have y2 : ¬ (12 : Int) ≤ x3.toInt := fun z => y2 (nz_le.mpr z)
        rw [if_neg (by omega), if_pos y] at hr
        have hlt := lk_lt y (by decide)
        have e12 : (12 : Int32).toInt = 12 := rfl
        have hx2 : ((12 : Int32) * xl).toInt = 12 * Z.k.nl := by rw [nz_muli (by rw [e12, hxl]; omega) (by rw [e12, hxl]; omega), e12, hxl]
        have hx3 : ((12 : Int32) * xl + x3).toInt = ((12 * Z.k.nl + (n + 1) : Nat) : Int) := by rw [nz_addi (by rw [hx2, h3]; omega) (by rw [hx2, h3]; omega), hx2, h3]; omega
        exact mladder_l Q ms bd hl e xl he hxl R hR hQ1 hQ0 f (n + 1) (q.2 + 1) _ _ _ _ (by omega) hx3 (nz_inc h3 (by omega)) (by show L.sz + 1 = n + 1; rw [hs]) hr (o12.uI (Or.inl ⟨rfl, by omega⟩)) (by rw [uI_ne (by omega)]; exact z2) (t2.up hlt) (by rw [uI_ne (by omega)]; exact f2) (by rw [uI_ne (by omega)]; exact w2) (s2.mv (SI := atI) (SL := nL) at_up (fun i hi => ⟨fun z => by unfold atI at z; omega, fun z => by unfold atI at z; omega, fun z => z, fun z => z⟩)) (by omega)
    · rw [he'] at hr
      dsimp only at hr
      have ne : ¬ jv_gI h2 171 3 = 0 := by rw [show jv_gI h2 171 3 = 1 from f2]; decide
      have nz : ¬ jv_gI (jv_uI h2 171 3 1) 171 3 = 0 := by rw [show jv_gI (jv_uI h2 171 3 1) 171 3 = 1 from uI_eq]; decide
      refine r_Model_ladder_53 X 7 227 Q 171 e xl x3 h2 ⟨is171, fun _ => ⟨is171, fun _ => ⟨is171, Or.inr rfl, ?_⟩, fun z => absurd z ne⟩, fun z => absurd z ne⟩
      refine b144 _ e' _ ((o1.tr (wd o2)).uI (Or.inl ⟨rfl, by omega⟩)) (by rw [uI_ne (by omega)]; exact (o2.2.1 _ _ (fun z => by unfold rpI fcI lyI at z; omega)).trans z1) nz t2.fl ?_
      unfold rlad
      rw [hR, hr]
theorem w_ladder (ms : MS h Z) (bd : bdZ Z) (hK : dI h (q_ladder Z) KI) : jI X 8 y_Model_ladder [.ref 171] 227 h KI := by
  unfold q_ladder at hK
  have hz := ms.k.zl
  have hm := bd.2.1.2.1
  have e12 : (12 : Int32).toInt = 12 := rfl
  have ht : (jv_gI h 171 1).toInt = Z.tn := ms.2.1.1
  refine r_Model_ladder X 7 227 _ 171 h ⟨is171, fun a => ?_, fun a => ?_⟩
  · have hn : Z.k.nl < 6 := by
      have : Z.k.nl ≠ 6 := fun z => a (Int32.toInt_inj.mp (by rw [hz, z]; rfl))
      omega
    rw [if_neg (by omega)] at hK
    have g18 : jv_gI (jv_uI (jv_uI (jv_uI (jv_uI h 171 1 0) 171 2 0) 171 3 0) 171 6 0) 171 18 = jv_gI h 171 18 := rfl
    rw [g18]
    have hx : ((12 : Int32) * jv_gI h 171 18).toInt = ((12 * Z.k.nl + 0 : Nat) : Int) := by rw [nz_muli (by rw [e12, hz]; omega) (by rw [e12, hz]; omega), e12, hz]; omega
    refine ⟨is171, is171, is171, is171, Or.inl rfl, is171, Or.inl rfl, is171, is171, ?_⟩
    refine mladder_l X h Z _ ms bd hn _ _ ht hz _ rfl (fun M hM h' o' m' => ?_) (fun e he h' o' m' z hz' => ?_) 12 0 0 z0L _ 1 _ rfl hx rfl rfl rfl ((((oT.rf.uI (Or.inl ⟨rfl, by omega⟩)).uI (Or.inl ⟨rfl, by omega⟩)).uI (Or.inl ⟨rfl, by omega⟩)).uI (Or.inl ⟨rfl, by omega⟩)) ?_ ⟨?_, Nat.zero_le _, bd.1, fun i hi => ?_⟩ ?_ uI_eq (fun j hj => absurd hj (Nat.not_lt_zero _)) (by omega)
    · rw [hM] at hK
      exact hK _ hz h' o' m'
    · rw [he] at hK
      exact hK z hz' h' o' m'
    · rw [uI_ne (by omega), uI_ne (by omega), uI_ne (by omega), uI_eq]
    · rw [uI_ne (by omega), uI_ne (by omega), uI_eq]
      rfl
    · rw [uI_ne (by omega), uI_ne (by omega), uI_ne (by omega), uI_ne (by omega)]
      exact ms.2.1.2 i hi
    · rw [uI_ne (by omega), uI_eq]
  · have hn : Z.k.nl = 6 := by
      have : (jv_gI h 171 18).toInt = 6 := by rw [a]; rfl
      omega
    rw [if_pos hn] at hK
    exact hK _ rfl h oM.rf ms
theorem MS.updTp {h h' : jv_H} {Z : zZ} {t : Nat × (Nat → Int32)} (m : MS h Z) (b : bdZ Z) (a : oT (fun q j => q = 172 ∨ q = 171 ∧ j = 1) nL h h') (t1 : (h'.1 171 1).toInt = t.1) (t3 : ∀ i, i < t.1 → h'.1 172 i = t.2 i) : MS h' (t, Z.2) := by
  obtain ⟨m1, _, m4, m5, m6, m7⟩ := m
  refine ⟨m1.mv a, ⟨t1, t3⟩, MKn.mv m4 b.2.1 a (fun q j z => by omega) (fun _ _ z => z.elim), by rw [a.2.1 _ _ (fun z => by omega)]; exact m5, fun K' hK' => MKi.mv (m6 K' hK') (b.2.2.1 K' hK') a (fun q j z => by omega) (fun _ _ z => z.elim), fun i hi => (m7 i hi).mv a (fun q j z => by omega) (fun _ _ z => z.elim)⟩
theorem fb_eq (v : Int32) : ∀ k : Nat, k < 4 → ((v >>> ((8 * Int32.ofNat k) &&& 31)) &&& 255) = fbc v (Int32.ofNat k) := by
  have key : ∀ (k : Nat) (s : Nat), k + 8 ≤ 32 → ∀ i : Nat, i < 32 → ((v.toBitVec.sshiftRight k) &&& 255#32).getLsbD i = ((v.toBitVec >>> k) &&& 255#32).getLsbD i := by
    intro k s hk i hi
    rw [BitVec.getLsbD_and, BitVec.getLsbD_and]
    by_cases h8 : i < 8
    · rw [BitVec.getLsbD_sshiftRight, BitVec.getLsbD_ushiftRight]
      simp [show ¬ 32 ≤ i by omega, show k + i < 32 by omega]
    · have : (255#32).getLsbD i = false := by
        revert hi h8
        revert i
        decide
      rw [this, Bool.and_false, Bool.and_false]
  intro k hk
  match k, hk with
  | 0, _ =>
    apply Int32.toBitVec_inj.mp
    apply BitVec.eq_of_getLsbD_eq
    exact key 0 0 (by decide)
  | 1, _ =>
    apply Int32.toBitVec_inj.mp
    apply BitVec.eq_of_getLsbD_eq
    exact key 8 0 (by decide)
  | 2, _ =>
    apply Int32.toBitVec_inj.mp
    apply BitVec.eq_of_getLsbD_eq
    exact key 16 0 (by decide)
  | 3, _ =>
    apply Int32.toBitVec_inj.mp
    apply BitVec.eq_of_getLsbD_eq
    exact key 24 0 (by decide)
theorem mfeed_l (Q : jv_Q) (v : Int32) (R : zK × Option zK × (Nat → zH)) (hR : ∀ t : Nat × (Nat → Int32), t.1 ≤ 100 → bdZ (t, R)) : ∀ (k : Nat) (x3 : Int32) (h : jv_H) (t : Nat × (Nat → Int32)), x3.toInt = (k : Int) - 1 → k ≤ 4 → t.1 + k ≤ 100 → MS h (t, R) → (∀ z : Int32, z.toInt = (fed v k t).1 → ∀ h', oM h h' → MS h' (fed v k t, R) → Q (some (.int z)) h') → a_Model_feed_32 X 7 227 Q 171 v x3 h 0
  | 0, x3, h, t, h3, hk, hl, c, hQ => by
    refine r_Model_feed_32 X 7 227 Q 171 v x3 h ⟨fun _ => ⟨is171, hQ _ c.2.1.1 h oM.rf c⟩, fun z => absurd (nz_lt.mpr (by rw [h3]; show _ < (0 : Int); omega)) z⟩
  | k + 1, x3, h, t, h3, hk, hl, c, hQ => by
    have hx : x3.toInt = k := by omega
    have ht : (jv_gI h 171 1).toInt = t.1 := c.2.1.1
    refine r_Model_feed_32 X 7 227 Q 171 v x3 h ⟨fun z => ?_, fun _ => ⟨is171, _, c.r 0, is171, jx (len := 100) rfl (by decide) (by rw [ht]; omega) (by rw [ht]; omega), is171, is171, ?_⟩⟩
    · have : x3.toInt < (0 : Int) := nz_lt.mp z
      omega
    · rw [nz_nat ht, nz_of hx, fb_eq v k (by omega)]
      have e1 : jv_gI (jv_uI h 172 t.1 (fbc v (Int32.ofNat k))) 171 1 = jv_gI h 171 1 := uI_ne (by omega)
      have a : oT (fun q j => q = 172 ∨ q = 171 ∧ j = 1) nL h (jv_uI (jv_uI h 172 t.1 (fbc v (Int32.ofNat k))) 171 1 (jv_gI (jv_uI h 172 t.1 (fbc v (Int32.ofNat k))) 171 1 + 1)) := (oT.rf.uI (Or.inl rfl)).uI (Or.inr ⟨rfl, rfl⟩)
      have c' := c.updTp (t := (t.1 + 1, fun i => if i = t.1 then fbc v (Int32.ofNat k) else t.2 i)) (hR t (by omega)) a (by rw [uI_eq, e1]; exact nz_inc ht (by omega)) (fun i hi => by
        have hi : i < t.1 + 1 := hi
        rw [uI_ne (by omega), uI_at]
        show _ = if i = t.1 then fbc v (Int32.ofNat k) else t.2 i
        by_cases e : i = t.1
        · rw [if_pos ⟨rfl, e⟩, if_pos e]
        · rw [if_neg (fun z => e z.2), if_neg e]
          exact c.2.1.2 i (by show i < t.1; omega))
      rw [← nz_of hx] at c' a ⊢
      exact mfeed_l Q v R hR k _ _ _ (by rw [nz_dec hx (by omega)]) (by omega) (by show t.1 + 1 + k ≤ 100; omega) (by rw [← nz_of hx]; exact c') (fun z hz h' o' c'' => hQ z hz h' ((a.M (fun q j z => by omega) (fun _ _ z => z.elim)).tr o') c'')
theorem w_feed (v n : Int32) (ms : MS h Z) (bd : bdZ Z) (hK : dI h (q_feed v n Z) KI) : jI X 8 y_Model_feed [.ref 171, .int v, .int n] 227 h KI := by
  unfold q_feed at hK
  have ht : (jv_gI h 171 1).toInt = Z.tn := ms.2.1.1
  have h1 : (1 : Int32).toInt = 1 := rfl
  have h100 : (100 : Int32).toInt = 100 := rfl
  have hb := bd.1
  refine r_Model_feed X 7 227 _ 171 v n h (c_in X 6 227 _ h _ _ _ ⟨fun y => ⟨is171, ?_⟩, fun y => ?_⟩)
  · rw [nz_bt, Classical.not_not, Int32.toInt_toInt64] at y
    have y : 1 ≤ n.toInt ∧ n.toInt ≤ 4 := y
    rw [if_pos (show wi n 1 4 from y)] at hK
    have e : (jv_gI h 171 1 + n).toInt = Z.tn + n.toInt := by rw [nz_addi (by rw [ht]; omega) (by rw [ht]; omega), ht]
    refine ⟨fun z => ?_, fun z => ?_⟩
    · have z := nz_le.mp z
      rw [e, h100] at z
      rw [if_neg (by omega)] at hK
      have hn : n.toInt = (n.toNatClampNeg : Int) := by
        rw [nz_nat (k := n.toInt.toNat) (by omega)]
        omega
      refine mfeed_l X _ v Z.2 (fun t ht => ⟨ht, bd.2⟩) n.toNatClampNeg _ h Z.1 ?_ (by omega) (by show Z.tn + n.toNatClampNeg ≤ 100; omega) ms (fun z' hz' h' o' c' => hK z' hz' h' o' c')
      rw [nz_subi (by rw [h1]; omega) (by rw [h1]; omega), h1]
      omega
    · have z : ¬ (jv_gI h 171 1 + n).toInt ≤ 100 := fun y => z (nz_le.mpr y)
      rw [if_pos (by omega)] at hK
      exact hK _ rfl h oM.rf ms
  · rw [nz_bt, Int32.toInt_toInt64] at y
    rw [if_neg (show ¬ wi n 1 4 from y)] at hK
    exact hK _ rfl h oM.rf ms
theorem w_wipe (ms : MS h Z) (bd : bdZ Z) (hK : dI h (q_wipe Z) KI) : jI X 8 y_Model_wipe [.ref 171] 227 h KI := by
  have a : oT (fun q j => q = 172 ∨ q = 171 ∧ j = 1) nL h (jv_uI h 171 1 0) := oT.rf.uI (Or.inr ⟨rfl, rfl⟩)
  refine r_Model_wipe X 7 227 _ 171 h ⟨is171, is171, ?_⟩
  exact hK _ ms.2.1.1 _ (a.M (fun q j z => by omega) (fun _ _ z => z.elim)) (ms.updTp (t := (0, Z.T)) bd a (by rw [uI_eq]; rfl) (fun i hi => absurd hi (Nat.not_lt_zero _)))
end
