/-! ===== the reference: what a ladder is worth ===== -/
def zo (r : Int32) (z : Int × Int) : Prop := z = (1, 0) ∨ (gd z ∧ (r = 0 → 0 ≤ z.1))
def tq (r : Int32) (t : Int × Int) : Prop := gd t ∧ t.1 ≠ 0 ∧ (r = 0 → 1 ≤ t.1)
def q43 (h : jv_H) : Int × Int := ((h.2.1 171 43).toInt, (h.2.1 171 44).toInt)
def qL : Nat → Nat → Prop := fun q j => q = 171
theorem mi_wF {h h' : jv_H} (o : oT (mI 171) (mL 171) h h') : oT (mI 171) qL h h' := o.mono (fun _ _ z => z) (fun q j z => z.1)
theorem wF_fr {Zk : zK} {h h' : jv_H} (o : oT (mI 171) qL h h') : fK Zk h h' := o.mono (fun q j z => by unfold mI at z; unfold frI; omega) (fun q j z => by unfold qL at z; unfold frL; omega)
theorem q43.mi {h h' : jv_H} (o : oT (mI 171) (mL 171) h h') : q43 h' = q43 h := by
  unfold q43
  rw [o.2.2 171 43 (fun z => by unfold mL at z; omega), o.2.2 171 44 (fun z => by unfold mL at z; omega)]
theorem ovr_W : fz_ovr (1, 1) (-1, 0) = (-1, 0) := rfl
theorem ovr_inv {q : Int × Int} (h1 : q.1 ≠ 0) : fz_ovr (1, 1) q = fz_inv q := by
  unfold fz_ovr fz_quo fz_inv
  rw [if_neg h1, Int.one_mul, Int.one_mul]
theorem sum_pos {a b : Int × Int} (ha : gd a) (hb : gd b) (h1 : 0 ≤ a.1) (h2 : 1 ≤ b.1) (h : fz_sum a b ≠ (-1, 0)) : gp (fz_sum a b) := by
  have a2 := ha.1.2.1
  have b2 := hb.1.2.1
  refine ⟨fz_of_gd h, fz_of_pos ?_ (nz_mp a2 b2) h⟩
  have m1 : 0 ≤ a.1 * b.2 := Int.mul_nonneg h1 (by omega)
  have m2 : 1 ≤ b.1 * a.2 := nz_mp h2 a2
  omega
theorem rq_gd {w : Bool} {q V : Int × Int} (h : rq w q V) (hg : gd q) (hv : V ≠ (-1, 0)) : gd V := by
  rcases h with ⟨_, z⟩ | ⟨_, z, _⟩
  · exact absurd z hv
  · rw [← z]; exact hg
theorem rq_rf {z : Int × Int} (h : z ≠ (-1, 0)) : rq false z z := Or.inr ⟨rfl, rfl, h⟩
theorem rq_0 {T : Int × Int} : rq (rz false T).1 (rz false T).2 T := by
  by_cases h : T = (-1, 0)
  · rw [h, rz_W]
    exact Or.inl ⟨rfl, rfl⟩
  · rw [rz_f h]
    exact Or.inr ⟨rfl, rfl, h⟩
section
variable (X : jv_X) (d : Nat) (h : jv_H) (K : jv_H → Prop) (KI : Int32 → jv_H → Prop) (KJ : Int64 → jv_H → Prop) (Z : zZ)
theorem m_becomes (w : Bool) (q : Int × Int) (m : MI h 171 w q) (hK : ∀ h', oT (mI 171) qL h h' → q43 h' = q → h'.1 171 6 = (if w then 1 else 0) → K h') : jV X (d + 1) y_Model_becomes [.ref 171] 227 h K := by
  refine r_Model_becomes X d 227 _ 171 h ⟨is171, is171, is171, is171, ?_⟩
  simp only [gI_uI, gI_uL, gL_uL, gL_uI, and_self, true_and, and_true, false_and, and_false, if_true, if_false, reduceIte, Nat.reduceEqDiff]
  refine hK _ ((oT.rf.uL (show qL 171 43 from rfl)).uL (show qL 171 44 from rfl)) ?_ m.2.2
  show ((jv_gL (jv_uL (jv_uL h 171 43 (jv_gL h 171 4)) 171 44 (jv_gL h 171 5)) 171 43).toInt, (jv_gL (jv_uL (jv_uL h 171 43 (jv_gL h 171 4)) 171 44 (jv_gL h 171 5)) 171 44).toInt) = q
  rw [gL_uL, gL_uL, gL_uL, if_neg (by omega), if_pos ⟨rfl, rfl⟩, if_pos ⟨rfl, rfl⟩]
  exact Prod.ext m.1 m.2.1
theorem m_begins (x1 : Int32) (l : Nat) (hx : x1.toInt = l) (hl : l < Z.k.nl) (ms : MS h Z) (bd : bdZ Z) (ok : okZ Z) (hK : ∀ h', oT (mI 171) qL h h' → q43 h' = (Z.k.L l).we → h'.1 171 6 = h.1 171 6 → K h') : jV X (d + 1) y_Model_begins [.ref 171, .int x1] 227 h K := by
  have hml := bd.2.1.2.1
  have gi : ∀ q : Nat, ∀ t : Nat, SHT q = (t, 6) → q < 227 → jv_ix SHT 227 q t x1 := fun q t h1 h2 => jx h1 h2 (by omega) (by omega)
  obtain ⟨ok1, ok2, ok3, ok4, ok5, ok6⟩ := ok.1.2.1 l hl
  have mr := ms.r
  have en := ms.k.le hl
  have fin : ∀ a b : Int64, (a.toInt, b.toInt) = (Z.k.L l).we → K (jv_uL (jv_uL h 171 43 a) 171 44 b) := fun a b e => hK _ ((oT.rf.uL (show qL 171 43 from rfl)).uL (show qL 171 44 from rfl)) (by
    show ((jv_gL (jv_uL (jv_uL h 171 43 a) 171 44 b) 171 43).toInt, (jv_gL (jv_uL (jv_uL h 171 43 a) 171 44 b) 171 44).toInt) = _
    rw [gL_uL, gL_uL, gL_uL, if_neg (by omega), if_pos ⟨rfl, rfl⟩, if_pos ⟨rfl, rfl⟩]
    exact e) rfl
  have w2 : (Z.k.L l).en = 2 → (Z.k.L l).we = (Z.k.L l).lo := fun z => if_pos z
  have w0 : (Z.k.L l).en = 0 → (Z.k.L l).we = (0, 1) := fun z => by unfold zL.we; rw [if_neg (by rw [z]; decide), if_pos z]
  have w1 : (Z.k.L l).en = 1 → (Z.k.L l).we = (1, 0) := fun z => by unfold zL.we; rw [if_neg (by rw [z]; decide), if_neg (by rw [z]; decide)]
  refine r_Model_begins X d 227 _ 171 x1 h ⟨is171, _, mr 13, gi 178 0 rfl (by decide), ?_⟩
  rw [nz_nat hx]
  have n0 : ∀ v : Int64, jv_gI (jv_uL h 171 43 v) 178 l = (Z.k.L l).en := fun v => en
  rw [en]
  refine ⟨fun a => ⟨is171, _, mr 13, gi 178 0 rfl (by decide), ?_⟩, fun a => ⟨is171, is171, _, mr 13, gi 178 0 rfl (by decide), ?_⟩⟩
  · rw [en]
    refine ⟨fun b => ⟨is171, _, mr 16, gi 181 1 rfl (by decide), is171, is171, _, mr 13, gi 178 0 rfl (by decide), ?_⟩, fun b => ⟨is171, is171, _, mr 13, gi 178 0 rfl (by decide), ?_⟩⟩
    · have e2 : (Z.k.L l).en = 2 := by
        rcases ok4 with z | z | z
        · exact absurd z a
        · exact absurd z b
        · exact z
      rw [n0]
      refine ⟨fun _ => ⟨is171, _, mr 13, gi 178 0 rfl (by decide), ?_⟩, fun z => absurd z a⟩
      rw [n0]
      refine ⟨fun _ => ⟨is171, _, mr 17, gi 182 1 rfl (by decide), is171, ?_⟩, fun z => absurd z b⟩
      exact fin _ _ (by rw [w2 e2]; exact ms.k.ll hl e2)
    · rw [n0]
      refine ⟨fun _ => ⟨is171, _, mr 13, gi 178 0 rfl (by decide), ?_⟩, fun z => absurd z a⟩
      rw [n0]
      exact ⟨fun z => absurd b z, fun _ => ⟨is171, fin _ _ (by rw [w1 b]; rfl)⟩⟩
  · rw [n0]
    exact ⟨fun z => absurd a z, fun _ => ⟨is171, fin _ _ (by rw [w0 a]; rfl)⟩⟩
theorem m_goesOn (x1 : Int32) (k : Nat) (hx : x1.toInt = k) (hk : k < 72) (u : Int32) (hu : u = 0 ∨ u = 1) (g2 : jv_gI h 176 k = u) (x2 x4 : Int64) (t : Int × Int) (e2 : x2.toInt = t.1) (e4 : x4.toInt = t.2) (r : Int32) (ht : tq r t) (hr : r = 0 ∨ r = 1) (z : Int × Int) (hz : q43 h = z) (zz : zo r z) (mr : MR h) (w0 : h.1 171 6 = 0) (hK : ∀ h' w', oT (mI 171) qL h h' → h'.1 171 6 = (if w' then 1 else 0) → rq w' (q43 h') (if u = 0 then ws z t else wh r z t) → ((if u = 0 then ws z t else wh r z t) ≠ (-1, 0) → zo r (if u = 0 then ws z t else wh r z t)) → K h') : jV X (d + 4) y_Model_goesOn [.ref 171, .int x1, .long x2, .long x4, .int r] 227 h K := by
  obtain ⟨gt, t0, tp⟩ := ht
  have z43 : (jv_gL h 171 43).toInt = z.1 := congrArg Prod.fst hz
  have z44 : (jv_gL h 171 44).toInt = z.2 := congrArg Prod.snd hz
  have e0 : (0 : Int64).toInt = 0 := rfl
  have cz : ∀ v : Int64, lg_cmp v 0 = 0 ↔ v.toInt = 0 := fun v => by
    rw [lg_cmp_eq, ← Int64.toInt_inj, e0]
  have znw : z ≠ (-1, 0) := zz.elim (fun y => by rw [y]; decide) (fun y => y.1.nw)
  have become : ∀ (h2 : jv_H) (w2 : Bool) (q2 V : Int × Int), oT (mI 171) (mL 171) h h2 → MI h2 171 w2 q2 → rq w2 q2 V → V = (if u = 0 then ws z t else wh r z t) → (V ≠ (-1, 0) → zo r V) → jV X (d + 3) y_Model_becomes [.ref 171] 227 h2 K := fun h2 w2 q2 V o2 m2 r2 eV zV => by
    refine m_becomes X (d + 2) h2 _ w2 q2 m2 (fun h3 o3 a1 a2 => hK h3 w2 ((mi_wF o2).tr o3) a2 (by rw [a1, ← eV]; exact r2) (by rw [← eV]; exact zV))
  refine r_Model_goesOn X (d + 3) 227 _ 171 x1 x2 x4 r h ⟨is171, _, mr 11, jx (len := 72) rfl (by decide) (by omega) (by omega), ?_⟩
  rw [nz_nat hx, g2]
  refine ⟨fun a => ⟨is171, fun b => ⟨is171, fun c => ⟨is171, is171, is171, ?_⟩, fun c => ⟨is171, ?_⟩⟩, fun b => ?_⟩, fun a => ⟨is171, fun b => ⟨is171, is171, is171, ?_⟩, fun b => ?_⟩⟩
  · rw [cz, z43] at b
    rw [cz, z44] at c
    have gz' : gd z := zz.elim (fun y => absurd (by rw [y]) c) (fun y => y.1)
    have zn1 : z ≠ (1, 0) := fun y => c (by rw [y])
    have zn0 : z ≠ (0, 1) := fun y => b (by rw [y])
    refine c_over X d 227 _ h 171 _ _ _ _ false (1, 1) z is171 w0 rfl rfl z43 z44 gz_1 gz'.z (fun h2 o2 m2 => ?_)
    have g2' := rz_ovr (w := false) (p := (1, 1)) gz'.z
    have r2 : rq (rz false (fz_ovr (1, 1) z)).1 (rz false (fz_ovr (1, 1) z)).2 (fz_inv z) := by rw [← ovr_inv b]; exact rq_0
    generalize rz false (fz_ovr (1, 1) z) = p2 at m2 g2' r2
    refine ⟨fun e => ⟨is171, is171, is171, ?_⟩, fun e => ⟨is171, is171, is171, ?_⟩⟩
    · have r1 : ¬ r = 0 := e
      have hV : (if u = 0 then ws z t else wh r z t) = if fz_sub t (fz_inv z) = (0, 1) then (1, 0) else fz_neg (fz_inv (fz_sub t (fz_inv z))) := by
        rw [if_neg a]
        unfold wh
        rw [if_neg zn0, if_neg r1, if_neg zn1]
      refine c_minus X d 227 _ h2 171 _ _ _ _ p2.1 t p2.2 is171 m2.2.2 e2 e4 m2.1 m2.2.1 gt.z g2'.z (fun h3 o3 m3 => ⟨is171, ?_⟩)
      have g3 := rz_sub (w := p2.1) (p := t) (q := p2.2)
      have r3 : rq (rz p2.1 (fz_sub t p2.2)).1 (rz p2.1 (fz_sub t p2.2)).2 (fz_sub t (fz_inv z)) := rq_1 (fun s => fz_sub t s) (fz_sub_W2 t) r2
      generalize rz p2.1 (fz_sub t p2.2) = p3 at m3 g3 r3
      have o23 := o2.tr o3
      have go186 : fz_sub t (fz_inv z) ≠ (0, 1) → (p3.1 = false → p3.2.1 ≠ 0) → a_Model_goesOn_186 X (d + 3) 227 (jv_rV K) 171 h3 0 := fun ne pn => by
        refine r_Model_goesOn_186 X (d + 3) 227 _ 171 h3 ⟨is171, is171, is171, ?_⟩
        refine c_over X d 227 _ h3 171 _ _ _ _ p3.1 (1, 1) p3.2 is171 m3.2.2 rfl rfl m3.1 m3.2.1 gz_1 g3.z (fun h4 o4 m4 => ⟨is171, is171, is171, ?_⟩)
        have g4 := rz_ovr (w := p3.1) (p := (1, 1)) g3.z
        have r4 : rq (rz p3.1 (fz_ovr (1, 1) p3.2)).1 (rz p3.1 (fz_ovr (1, 1) p3.2)).2 (fz_inv (fz_sub t (fz_inv z))) := by
          rcases r3 with ⟨y1, y2⟩ | ⟨y1, y2, y3⟩
          · rw [y1, rz_t, y2, fz_inv_W]
            exact Or.inl ⟨rfl, rfl⟩
          · rw [y1, ovr_inv (pn y1), y2]
            exact rq_0
        generalize rz p3.1 (fz_ovr (1, 1) p3.2) = p4 at m4 g4 r4
        refine c_minus X d 227 _ h4 171 _ _ _ _ p4.1 (0, 1) p4.2 is171 m4.2.2 rfl rfl m4.1 m4.2.1 gz_0 g4.z (fun h5 o5 m5 => ⟨is171, ?_⟩)
        have g5 := rz_sub (w := p4.1) (p := (0, 1)) (q := p4.2)
        have r5 : rq (rz p4.1 (fz_sub (0, 1) p4.2)).1 (rz p4.1 (fz_sub (0, 1) p4.2)).2 (fz_neg (fz_inv (fz_sub t (fz_inv z)))) := rq_1 fz_neg fz_neg_W r4
        exact become h5 _ _ _ ((o23.tr o4).tr o5) m5 r5 (by rw [hV, if_neg ne]) (fun y => Or.inr ⟨rq_gd r5 g5 y, fun y => absurd y r1⟩)
      refine ⟨fun f => ?_, fun f => ⟨is171, fun w => ?_, fun w => ⟨is171, is171, ?_⟩⟩⟩
      · rw [cz, show (jv_gL h3 171 4).toInt = _ from m3.1] at f
        refine go186 (fun y => ?_) (fun _ => f)
        rcases r3 with ⟨y1, y2⟩ | ⟨y1, y2, y3⟩
        · rw [y] at y2; exact absurd y2 (by decide)
        · exact f (by rw [y2, y])
      · have wt : p3.1 = true := by
          cases hp : p3.1
          · rw [hp] at m3
            exact absurd m3.2.2 w
          · rfl
        refine go186 (fun y => ?_) (fun y => by rw [wt] at y; cases y)
        rcases r3 with ⟨y1, y2⟩ | ⟨y1, y2, y3⟩
        · rw [y] at y2; exact absurd y2 (by decide)
        · rw [wt] at y1; cases y1
      · rw [cz, show (jv_gL h3 171 4).toInt = _ from m3.1] at f
        have wt : p3.1 = false := by
          cases hp : p3.1
          · rfl
          · rw [hp] at m3
            rw [show jv_gI h3 171 6 = 1 from m3.2.2] at w
            exact absurd w (by decide)
        have hS : fz_sub t (fz_inv z) = (0, 1) := by
          rcases r3 with ⟨y1, y2⟩ | ⟨y1, y2, y3⟩
          · rw [wt] at y1; cases y1
          · rw [← y2]
            exact (gd_z g3).mp f
        refine hK _ false (((mi_wF o23).uL rfl).uL rfl) (by have := m3.2.2; rw [wt] at this; exact this) ?_ ?_
        · rw [hV, if_pos hS]
          refine Or.inr ⟨rfl, ?_, by decide⟩
          show ((jv_gL (jv_uL (jv_uL h3 171 43 1) 171 44 0) 171 43).toInt, (jv_gL (jv_uL (jv_uL h3 171 43 1) 171 44 0) 171 44).toInt) = _
          rw [gL_uL, gL_uL, gL_uL, if_neg (by omega), if_pos ⟨rfl, rfl⟩, if_pos ⟨rfl, rfl⟩]
          rfl
        · rw [hV, if_pos hS]
          exact fun _ => Or.inl rfl
    · have r0 : r = 0 := e
      have zp : gp z := by
        rcases zz with y | y
        · exact absurd y zn1
        · have := y.2 r0
          exact ⟨y.1, by omega⟩
      have iz := fz_inv_p zp
      have hV : (if u = 0 then ws z t else wh r z t) = fz_inv (fz_sum (fz_inv z) t) := by
        rw [if_neg a]
        unfold wh
        rw [if_neg zn0, if_pos r0, if_neg zn1]
      refine c_plus X d 227 _ h2 171 _ _ _ _ p2.1 p2.2 t is171 m2.2.2 m2.1 m2.2.1 e2 e4 g2'.z gt.z (fun h3 o3 m3 => ⟨is171, is171, is171, ?_⟩)
      have g3 := rz_sum (w := p2.1) (p := p2.2) (q := t)
      have r3 : rq (rz p2.1 (fz_sum p2.2 t)).1 (rz p2.1 (fz_sum p2.2 t)).2 (fz_sum (fz_inv z) t) := rq_1 (fun s => fz_sum s t) (fz_sum_W1 t) r2
      generalize rz p2.1 (fz_sum p2.2 t) = p3 at m3 g3 r3
      have sp : fz_sum (fz_inv z) t ≠ (-1, 0) → gp (fz_sum (fz_inv z) t) := fun y => by
        rw [iz.1] at y ⊢
        exact sum_pos iz.2.1 gt (by have := iz.2.2; omega) (tp r0) y
      refine c_over X d 227 _ h3 171 _ _ _ _ p3.1 (1, 1) p3.2 is171 m3.2.2 rfl rfl m3.1 m3.2.1 gz_1 g3.z (fun h4 o4 m4 => ⟨is171, ?_⟩)
      have g4 := rz_ovr (w := p3.1) (p := (1, 1)) g3.z
      have r4 : rq (rz p3.1 (fz_ovr (1, 1) p3.2)).1 (rz p3.1 (fz_ovr (1, 1) p3.2)).2 (fz_inv (fz_sum (fz_inv z) t)) := by
        rcases r3 with ⟨y1, y2⟩ | ⟨y1, y2, y3⟩
        · rw [y1, rz_t, y2, fz_inv_W]
          exact Or.inl ⟨rfl, rfl⟩
        · rw [y1, y2, ovr_inv (by have := (sp y3).2; omega)]
          exact rq_0
      refine become h4 _ _ _ ((o2.tr o3).tr o4) m4 r4 hV.symm (fun y => Or.inr ⟨rq_gd r4 g4 y, fun _ => ?_⟩)
      have nw : fz_sum (fz_inv z) t ≠ (-1, 0) := fun q => y (by rw [q, fz_inv_W])
      have := (fz_inv_p (sp nw))
      rw [this.1]
      have := this.2.2
      omega
  · rw [cz, z43] at b
    rw [cz, z44] at c
    have z1 : z = (1, 0) := zz.elim id (fun y => absurd c (by have := y.1.1.2.1; omega))
    have zn0 : z ≠ (0, 1) := by rw [z1]; decide
    refine c_over X d 227 _ h 171 _ _ _ _ false (1, 1) t is171 w0 rfl rfl e2 e4 gz_1 gt.z (fun h2 o2 m2 => ?_)
    have g2' := rz_ovr (w := false) (p := (1, 1)) gt.z
    have r2 : rq (rz false (fz_ovr (1, 1) t)).1 (rz false (fz_ovr (1, 1) t)).2 (fz_inv t) := by rw [← ovr_inv t0]; exact rq_0
    generalize rz false (fz_ovr (1, 1) t) = p2 at m2 g2' r2
    refine ⟨fun e => ⟨is171, ?_⟩, fun e => ⟨is171, is171, is171, ?_⟩⟩
    · have r0 : r = 0 := e
      have hV : (if u = 0 then ws z t else wh r z t) = fz_inv t := by
        rw [if_neg a]
        unfold wh
        rw [if_neg zn0, if_pos r0, if_pos z1, fz_0_sum gt]
      have ip := fz_inv_p ⟨gt, tp r0⟩
      exact become h2 _ _ _ o2 m2 r2 hV.symm (fun y => Or.inr ⟨rq_gd r2 g2' y, fun _ => by rw [ip.1]; have := ip.2.2; omega⟩)
    · have r1 : ¬ r = 0 := e
      have hV : (if u = 0 then ws z t else wh r z t) = fz_neg (fz_inv t) := by
        rw [if_neg a]
        unfold wh
        rw [if_neg zn0, if_neg r1, if_pos z1, fz_sub_0 gt, if_neg (fun y => t0 (by rw [y]))]
      refine c_minus X d 227 _ h2 171 _ _ _ _ p2.1 (0, 1) p2.2 is171 m2.2.2 rfl rfl m2.1 m2.2.1 gz_0 g2'.z (fun h3 o3 m3 => ⟨is171, ?_⟩)
      have g3 := rz_sub (w := p2.1) (p := (0, 1)) (q := p2.2)
      have r3 : rq (rz p2.1 (fz_sub (0, 1) p2.2)).1 (rz p2.1 (fz_sub (0, 1) p2.2)).2 (fz_neg (fz_inv t)) := rq_1 fz_neg fz_neg_W r2
      exact become h3 _ _ _ (o2.tr o3) m3 r3 hV.symm (fun y => Or.inr ⟨rq_gd r3 g3 y, fun y => absurd y r1⟩)
  · rw [cz, z43] at b
    have z0 : z = (0, 1) := zz.elim (fun y => by rw [y] at b; exact absurd b (by decide)) (fun y => (gd_z y.1).mp b)
    have hV : (if u = 0 then ws z t else wh r z t) = z := by
      rw [if_neg a]
      unfold wh
      rw [if_pos z0]
    exact hK h false oT.rf w0 (by rw [hV, hz]; exact rq_rf znw) (fun _ => by rw [hV]; exact zz)
  · rw [cz, z44] at b
    have gz' : gd z := zz.elim (fun y => absurd (by rw [y]) b) (fun y => y.1)
    have zn1 : z ≠ (1, 0) := fun y => b (by rw [y])
    have hV : (if u = 0 then ws z t else wh r z t) = fz_sum z t := by
      rw [if_pos a]
      unfold ws
      rw [if_neg zn1]
    refine c_plus X d 227 _ h 171 _ _ _ _ false z t is171 w0 z43 z44 e2 e4 gz'.z gt.z (fun h2 o2 m2 => ⟨is171, ?_⟩)
    have g2' := rz_sum (w := false) (p := z) (q := t)
    exact become h2 _ _ _ o2 m2 rq_0 hV.symm (fun y => Or.inr ⟨fz_of_gd y, fun r0 => by
      have zn := zz.elim (fun y => absurd y zn1) (fun y => y.2 r0)
      have := (sum_pos gz' gt zn (tp r0) y).2
      omega⟩)
  · rw [cz, z44] at b
    have z1 : z = (1, 0) := zz.elim id (fun y => absurd b (by have := y.1.1.2.1; omega))
    have hV : (if u = 0 then ws z t else wh r z t) = z := by
      rw [if_pos a]
      unfold ws
      rw [if_pos z1]
    exact hK h false oT.rf w0 (by rw [hV, hz]; exact rq_rf znw) (fun _ => by rw [hV]; exact zz)
end
