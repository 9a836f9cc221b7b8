/-! ===== the small machine's steps are the large one's ===== -/
def jw_St (s : State) (D : va_G) (aC : Nat → ClassId) (b B : Nat) (M : jv_M) (n0 : Nat) (ad0 ad : Nat → Nat) (lsm : Array Slot) (H : Heap) (locs : List Loc) (ls st : List Value) (h : jv_H) (k : Nat) : Prop :=
  jw_L (jw_a b ad) lsm M.2.2.2.1 ls ∧ jw_oks (n0 + k) ls ∧ jw_oks (n0 + k) st ∧ jw_hv h (n0 + k) ∧ (k ≤ M.2.1 ∧ jv_S SHT (n0 + k) ≤ jv_S SHT n0 + M.2.2.1) ∧ n0 + k ≤ 227 ∧ va_P D vwCl (jw_W aC b ad h (n0 + k)) H ∧ va_D (fun q => B ≤ q) (jw_W aC b ad h (n0 + k)) ∧ va_S (fun q => B ≤ q) s.heap H locs ∧ ∀ q, q < n0 → ad q = ad0 q
def jw_Wp (p : Program) (l : Launch) (e : Env) (R : Room) (s : State) (m : MethodId) (args : Array Value) (below : List Frame) (meth : Method) (c : Code) (Z : State → Prop) (D : va_G) (aC : Nat → ClassId) (b B : Nat) (M : jv_M) (n0 : Nat) (ad0 : Nat → Nat) (pc : Nat) (ls st : List Value) (h : jv_H) (k : Nat) : Prop :=
  ∀ (ad : Nat → Nat) (lsm : Array Slot) (H : Heap) (locs : List Loc), jw_St s D aC b B M n0 ad0 ad lsm H locs ls st h k → W p l e R s m args below meth c H locs k (jv_S SHT (n0 + k) - jv_S SHT n0) Z (F0 m pc lsm (st.map (jw_v (jw_a b ad))))
/-- the words that stay when the machine is warm -/
def jw_gd : List Cond := lw_tbl.filter goodWord
theorem jw_g {w : Cond} (h : w ∈ lw_tbl) (hg : goodWord w = true) : w ∈ jw_gd := List.mem_filter.mpr ⟨h, hg⟩
theorem jw_gu {C : String} {T : u_T} {N : Nat} (h : ∀ w ∈ u_ws C T N, w ∈ lw_tbl) : ∀ w ∈ u_ws C T N, w ∈ jw_gd := by
  intro w hw
  refine jw_g (h w hw) ?_
  obtain ⟨k, -, rfl⟩ := List.mem_map.mp hw
  unfold u_lay
  split <;> rfl
/-- a link to a nest mate's method -/
def jw_nest (w : Cond) : Bool := match w with
  | .methodLinkNest .. => true
  | _ => false
def jw_Nx (s : State) : Prop := (∀ w ∈ lw_tbl, jw_nest w = true → va_Nw w s) ∧ ∀ j, j < 4 → va_AO (jw_ac j) s
theorem jw_Nx.moved {s U : State} (hW : s.WarmedH U.vm) (h : jw_Nx s) : jw_Nx U := by
  refine ⟨fun w hw hn => ?_, fun j hj => (h.2 j hj).moved hW.alike⟩
  have h1 := h.1 w hw hn
  cases w <;> first | (exact absurd hn (by decide)) | (exact absurd hn Bool.false_ne_true) | exact va_Nw.warmM hW h1
theorem jw_Nx.same {s U : State} (hvm : s.vm = U.vm) (h : jw_Nx s) : jw_Nx U := by
  refine ⟨fun w hw hn => ?_, fun j hj => (h.2 j hj).moved (by rw [hvm]; exact Vm.Alike.refl _)⟩
  have h1 := h.1 w hw hn
  cases w <;> first | (exact absurd hn (by decide)) | (exact absurd hn Bool.false_ne_true) | exact va_Nw.same rfl hvm h1
def jw_Cx (p : Program) (s : State) (m : MethodId) (args : Array Value) (c : Code) (R : Room) (D : va_G) (aC : Nat → ClassId) (b B : Nat) (X : jv_X) (M : jv_M) (d : Nat) (cc : ByteArray) (o : Nat) : Prop :=
  p.tables.exec = Jvm.exec ∧ c.code = cc ∧ c.maxLocals = M.2.2.2.1 ∧ s.vm.findClass (jw_own o) = some m.cls ∧ (∀ w ∈ jw_gd, w.before args s = true) ∧ (va_K D vwCl (jw_tys aC) s ∧ jw_Nx s) ∧ va_X b X.1 X.2 s s.heap ∧ (b < B ∧ B ≤ s.heap.size) ∧ (d ≤ R.frames ∧ 47 * d ≤ R.locals ∧ M.2.1 ≤ R.cells ∧ M.2.2.1 ≤ R.slots)
theorem jw_d1 {n : Nat} {v : Value} {l : List Value} (h : jw_oks n (v :: l)) : jw_oks n l := (jw_oks_cons.mp h).2
theorem jw_d2 {n : Nat} {v w : Value} {l : List Value} (h : jw_oks n (v :: w :: l)) : jw_oks n l := jw_d1 (jw_d1 h)
theorem jw_d3 {n : Nat} {v w u : Value} {l : List Value} (h : jw_oks n (v :: w :: u :: l)) : jw_oks n l := jw_d1 (jw_d2 h)
theorem jw_pI {n : Nat} {x : Int32} {l : List Value} (h : jw_oks n l) : jw_oks n (.int x :: l) := jw_oks_cons.mpr ⟨trivial, h⟩
theorem jw_pL {n : Nat} {x : Int64} {l : List Value} (h : jw_oks n l) : jw_oks n (.long x :: l) := jw_oks_cons.mpr ⟨trivial, h⟩
theorem jw_pN {n : Nat} {l : List Value} (h : jw_oks n l) : jw_oks n (.null :: l) := jw_oks_cons.mpr ⟨trivial, h⟩
theorem jw_pA {n a : Nat} {l : List Value} (ha : a < n) (h : jw_oks n l) : jw_oks n (.ref a :: l) := jw_oks_cons.mpr ⟨Or.inl ha, h⟩
theorem jv_S_mono {a c : Nat} (h : a ≤ c) : jv_S SHT a ≤ jv_S SHT c := by
  induction h with
  | refl => exact Nat.le_refl _
  | step _ ih => exact Nat.le_trans ih (Nat.le_add_right _ _)
section
variable {p : Program} {l : Launch} {e : Env} {R : Room} {s : State} {m : MethodId} {args : Array Value} {below : List Frame} {meth : Method} {c : Code} {Z : State → Prop}
variable {D : va_G} {aC : Nat → ClassId} {b B : Nat} {X : jv_X} {M : jv_M} {n0 d : Nat} {ad0 : Nat → Nat} {cc : ByteArray} {o : Nat} {ini : Bool}
theorem jw_pure {pc pc' : Nat} {ls st st' : List Value} {h : jv_H} {k : Nat}
    (hs : ∀ (f : Nat → Nat) (lsm : Array Slot) (H : Heap) (locs : List Loc) (cells slots : Nat), W p l e R s m args below meth c H locs cells slots Z (F0 m pc' lsm (st'.map (jw_v f))) → W p l e R s m args below meth c H locs cells slots Z (F0 m pc lsm (st.map (jw_v f))))
    (hok : ∀ n, jw_oks n st → jw_oks n st') (hp : jw_Wp p l e R s m args below meth c Z D aC b B M n0 ad0 pc' ls st' h k) : jw_Wp p l e R s m args below meth c Z D aC b B M n0 ad0 pc ls st h k :=
  fun ad lsm H locs ⟨h1, h2, h3, hr⟩ => hs _ _ _ _ _ _ (hp ad lsm H locs ⟨h1, h2, hok _ h3, hr⟩)
theorem jw_load {pc pc' i : Nat} {ls st : List Value} {h : jv_H} {k : Nat} {v : Value} (hv : jv_nth ls i = v) (hkn : jw_kn v)
    (hs : ∀ (f : Nat → Nat) (lsm : Array Slot) (H : Heap) (locs : List Loc) (cells slots : Nat), lsm[i]? = some (.val (jw_v f v)) → W p l e R s m args below meth c H locs cells slots Z (F0 m pc' lsm (jw_v f v :: st.map (jw_v f))) → W p l e R s m args below meth c H locs cells slots Z (F0 m pc lsm (st.map (jw_v f))))
    (hp : jw_Wp p l e R s m args below meth c Z D aC b B M n0 ad0 pc' ls (v :: st) h k) : jw_Wp p l e R s m args below meth c Z D aC b B M n0 ad0 pc ls st h k :=
  fun ad lsm H locs ⟨h1, h2, h3, hr⟩ => hs _ _ _ _ _ _ (jw_nth_at h1 hv hkn) (hp ad lsm H locs ⟨h1, h2, jw_oks_cons.mpr ⟨hv ▸ jw_nth_ok h2, h3⟩, hr⟩)
theorem jw_store1 {pc pc' i : Nat} {ls st : List Value} {h : jv_H} {k : Nat} {v : Value}
    (hs : ∀ (f : Nat → Nat) (lsm : Array Slot) (H : Heap) (locs : List Loc) (cells slots : Nat), lv_has lsm M.2.2.2.1 (jw_all lsm) → (∀ ls' : Array Slot, lv_has ls' M.2.2.2.1 ((i, jw_v f v) :: (jw_all lsm).filter (fun q => !(q.1 == i) && !(q.1 + 1 == i && q.2.category == 2))) → W p l e R s m args below meth c H locs cells slots Z (F0 m pc' ls' (st.map (jw_v f)))) → W p l e R s m args below meth c H locs cells slots Z (F0 m pc lsm (jw_v f v :: st.map (jw_v f))))
    (hp : jw_Wp p l e R s m args below meth c Z D aC b B M n0 ad0 pc' (jv_s1 ls i v) st h k) : jw_Wp p l e R s m args below meth c Z D aC b B M n0 ad0 pc ls (v :: st) h k :=
  fun ad lsm H locs ⟨h1, h2, h3, hr⟩ => hs _ _ _ _ _ _ (jw_has h1) (fun ls' hl => hp ad ls' H locs ⟨jw_L_s1 h1 hl, jw_oks_s1 h2 (jw_oks_cons.mp h3).1, jw_d1 h3, hr⟩)
theorem jw_store2 {pc pc' i : Nat} {ls st : List Value} {h : jv_H} {k : Nat} {v : Value}
    (hs : ∀ (f : Nat → Nat) (lsm : Array Slot) (H : Heap) (locs : List Loc) (cells slots : Nat), lv_has lsm M.2.2.2.1 (jw_all lsm) → (∀ ls' : Array Slot, lv_has ls' M.2.2.2.1 ((i, jw_v f v) :: (jw_all lsm).filter (fun q => !(q.1 == i) && (!(q.1 == i + 1) && !(q.1 + 1 == i && q.2.category == 2)))) → W p l e R s m args below meth c H locs cells slots Z (F0 m pc' ls' (st.map (jw_v f)))) → W p l e R s m args below meth c H locs cells slots Z (F0 m pc lsm (jw_v f v :: st.map (jw_v f))))
    (hp : jw_Wp p l e R s m args below meth c Z D aC b B M n0 ad0 pc' (jv_s2 ls i v) st h k) : jw_Wp p l e R s m args below meth c Z D aC b B M n0 ad0 pc ls (v :: st) h k :=
  fun ad lsm H locs ⟨h1, h2, h3, hr⟩ => hs _ _ _ _ _ _ (jw_has h1) (fun ls' hl => hp ad ls' H locs ⟨jw_L_s2 h1 hl, jw_oks_s2 h2 (jw_oks_cons.mp h3).1, jw_d1 h3, hr⟩)
theorem jw_two {pc t f2 : Nat} {ls st st' : List Value} {h : jv_H} {k : Nat} {A A' : Prop}
    (hs : ∀ (f : Nat → Nat) (lsm : Array Slot) (H : Heap) (locs : List Loc) (cells slots : Nat), (A → W p l e R s m args below meth c H locs cells slots Z (F0 m t lsm (st'.map (jw_v f)))) → (A' → W p l e R s m args below meth c H locs cells slots Z (F0 m f2 lsm (st'.map (jw_v f)))) → W p l e R s m args below meth c H locs cells slots Z (F0 m pc lsm (st.map (jw_v f))))
    (hok : ∀ n, jw_oks n st → jw_oks n st') (hp : A → jw_Wp p l e R s m args below meth c Z D aC b B M n0 ad0 t ls st' h k) (hp' : A' → jw_Wp p l e R s m args below meth c Z D aC b B M n0 ad0 f2 ls st' h k) : jw_Wp p l e R s m args below meth c Z D aC b B M n0 ad0 pc ls st h k :=
  fun ad lsm H locs ⟨h1, h2, h3, hr⟩ => hs _ _ _ _ _ _ (fun z => hp z ad lsm H locs ⟨h1, h2, hok _ h3, hr⟩) (fun z => hp' z ad lsm H locs ⟨h1, h2, hok _ h3, hr⟩)
end
theorem jv_sw_spec {x : Int32} {P : Nat → Prop} : ∀ (ts : List Nat) (v : Int) (dd : Nat), jv_sw x v ts dd P → (∃ (j t : Nat), ts[j]? = some t ∧ x.toInt = v + j ∧ P t) ∨ ((x.toInt < v ∨ v + ts.length ≤ x.toInt) ∧ P dd)
  | [], v, dd, H => Or.inr ⟨by simp; omega, H⟩
  | t :: r, v, dd, H => by
    by_cases hz : x.toInt = v
    · exact Or.inl ⟨0, t, rfl, by omega, H.1 hz⟩
    · rcases jv_sw_spec r (v + 1) dd (H.2 hz) with ⟨j, t', h1, h2, h3⟩ | ⟨h1, h2⟩
      · exact Or.inl ⟨j + 1, t', by rw [List.getElem?_cons_succ]; exact h1, by push_cast; omega, h3⟩
      · refine Or.inr ⟨?_, h2⟩
        simp only [List.length_cons]
        push_cast
        omega
theorem jv_lk_spec {x : Int32} {P : Nat → Prop} {pc : Nat} {dflt : Int} : ∀ (ps : List (Int × Int)) (ts : List Nat) (dd : Nat), ps.map (fun z => (pc : Int) + z.2) = ts.map (fun (z : Nat) => (z : Int)) → (pc : Int) + dflt = (dd : Int) → jv_lk x ps ts dd P → ∃ t : Nat, (pc : Int) + Op.lookupswitch.offset ps dflt x.toInt = (t : Int) ∧ P t
  | [], [], dd, _, hd, H => ⟨dd, hd, H⟩
  | [], t :: r, dd, hm, _, _ => by simp at hm
  | q :: ps, [], dd, hm, _, _ => by simp at hm
  | (v, off) :: ps, t :: r, dd, hm, hd, H => by
    simp only [List.map_cons, List.cons.injEq] at hm
    rw [Op.lookupswitch.offset_cons]
    by_cases hz : x.toInt = v
    · rw [if_pos hz.symm]
      exact ⟨t, hm.1, H.1 hz⟩
    · rw [if_neg (fun z => hz z.symm)]
      exact jv_lk_spec ps r dd hm.2 hd (H.2 hz)
/-! ===== fields and rows in the world ===== -/
theorem jw_a_lt {b : Nat} {ad : Nat → Nat} {k n : Nat} (h : k < n) (hn : n ≤ 227) : jw_a b ad k = ad k := if_neg (by omega)
theorem jw_e_obj {aC : Nat → ClassId} {f : Nat → Nat} {h : jv_H} {o ci : Nat} (hs : (SHT o).1 = ci + 10) : jw_e aC f h o = .inr (ci, jw_fs f h o 0 (jw_fk ci)) := by
  unfold jw_e
  rw [hs]
  show Sum.inr (ci + 10 - 10, jw_fs f h o 0 (jw_fk (ci + 10 - 10))) = _
  rw [Nat.add_sub_cancel]
theorem jw_e_I {aC : Nat → ClassId} {f : Nat → Nat} {h : jv_H} {o : Nat} (hs : (SHT o).1 = 0) : jw_e aC f h o = .inl (aC 0, (SHT o).2, .inl (h.1 o)) := by unfold jw_e; rw [hs]; rfl
theorem jw_e_L {aC : Nat → ClassId} {f : Nat → Nat} {h : jv_H} {o : Nat} (hs : (SHT o).1 = 1) : jw_e aC f h o = .inl (aC 1, (SHT o).2, .inr (.inl (h.2.1 o))) := by unfold jw_e; rw [hs]; rfl
theorem jw_e_Z {aC : Nat → ClassId} {f : Nat → Nat} {h : jv_H} {o : Nat} (hs : (SHT o).1 = 2) : jw_e aC f h o = .inl (aC 2, (SHT o).2, .inl (h.1 o)) := by unfold jw_e; rw [hs]; rfl
theorem jw_e_R {aC : Nat → ClassId} {f : Nat → Nat} {h : jv_H} {o j : Nat} (hj : j < 4) (hs : (SHT o).1 = j + 3) : jw_e aC f h o = .inl (aC (j + 3), (SHT o).2, .inr (.inr (.inr (.inr (fun i => (h.2.2 o i).map f))))) := by
  unfold jw_e
  rw [hs]
  match j, hj with
  | 0, _ => rfl
  | 1, _ => rfl
  | 2, _ => rfl
  | 3, _ => rfl
theorem jw_fv_int {f : Nat → Nat} {h : jv_H} {o i kd : Nat} (h1 : kd ≠ 1) (h2 : kd ≠ 2) : jw_fv f h o i kd = .int (h.1 o i) := by
  unfold jw_fv
  split
  · exact absurd rfl h1
  · exact absurd rfl h2
  · rfl
theorem jw_fs_set {f : Nat → Nat} {h h' : jv_H} {o i kd : Nat} {ks : List Nat} {v : Value} (hk : ks[i]? = some kd) (hv : jw_fv f h' o i kd = v) (hoth : ∀ j kd, j ≠ i → jw_fv f h' o j kd = jw_fv f h o j kd) : jw_fs f h' o 0 ks = (jw_fs f h o 0 ks).set i v := by
  apply List.ext_getElem?
  intro j
  rw [jw_fs_get, List.getElem?_set]
  by_cases hij : i = j
  · subst hij
    have hl : i < ks.length := (List.getElem?_eq_some_iff.mp hk).1
    rw [if_pos rfl, if_pos (by rw [jw_fs_len]; exact hl), hk, Nat.zero_add, Option.map_some, hv]
  · rw [if_neg hij, jw_fs_get]
    congr 1
    funext kd
    rw [Nat.zero_add]
    exact hoth j kd (fun z => hij z.symm)
theorem jw_uI_oth (h : jv_H) (o i : Nat) (v : Int32) {q : Nat} (hq : q ≠ o) : (jv_uI h o i v).1 q = h.1 q ∧ (jv_uI h o i v).2.1 q = h.2.1 q ∧ (jv_uI h o i v).2.2 q = h.2.2 q := ⟨by funext j; simp [jv_uI, hq], rfl, rfl⟩
theorem jw_uL_oth (h : jv_H) (o i : Nat) (v : Int64) {q : Nat} (hq : q ≠ o) : (jv_uL h o i v).1 q = h.1 q ∧ (jv_uL h o i v).2.1 q = h.2.1 q ∧ (jv_uL h o i v).2.2 q = h.2.2 q := ⟨rfl, by funext j; simp [jv_uL, hq], rfl⟩
theorem jw_uR_oth (h : jv_H) (o i : Nat) (v : Option Nat) {q : Nat} (hq : q ≠ o) : (jv_uR h o i v).1 q = h.1 q ∧ (jv_uR h o i v).2.1 q = h.2.1 q ∧ (jv_uR h o i v).2.2 q = h.2.2 q := ⟨rfl, rfl, by funext j; simp [jv_uR, hq]⟩
theorem jw_uI_fs {f : Nat → Nat} {h : jv_H} {o i kd : Nat} {v : Int32} {ks : List Nat} (hk : ks[i]? = some kd) (h1 : kd ≠ 1) (h2 : kd ≠ 2) : jw_fs f (jv_uI h o i v) o 0 ks = (jw_fs f h o 0 ks).set i (.int v) := by
  refine jw_fs_set hk ?_ (fun j kd hj => ?_)
  · rw [jw_fv_int h1 h2]
    simp [jv_uI]
  · unfold jw_fv
    simp [jv_uI, hj]
theorem jw_uL_fs {f : Nat → Nat} {h : jv_H} {o i : Nat} {v : Int64} {ks : List Nat} (hk : ks[i]? = some 1) : jw_fs f (jv_uL h o i v) o 0 ks = (jw_fs f h o 0 ks).set i (.long v) := by
  refine jw_fs_set hk ?_ (fun j kd hj => ?_)
  · simp [jw_fv, jv_uL]
  · unfold jw_fv
    simp [jv_uL, hj]
theorem jw_uR_fs {f : Nat → Nat} {h : jv_H} {o i a : Nat} {ks : List Nat} (hk : ks[i]? = some 2) : jw_fs f (jv_uR h o i (some a)) o 0 ks = (jw_fs f h o 0 ks).set i (.ref (f a)) := by
  refine jw_fs_set hk ?_ (fun j kd hj => ?_)
  · simp [jw_fv, jv_uR, va_rf]
  · unfold jw_fv
    simp [jv_uR, hj]
theorem jw_in {i : Int32} {n : Nat} (h1 : 0 ≤ i.toInt) (h2 : i.toInt < (n : Int)) : vp_in i n := by
  intro z
  rcases z with z | z
  · have := Int32.lt_iff_toInt_lt.mp z
    simp at this
    omega
  · have : n ≤ i.toInt.toNat := z
    omega
theorem jw_nneg {i : Int32} (h1 : 0 ≤ i.toInt) : ¬ i < 0 := by
  intro z
  have := Int32.lt_iff_toInt_lt.mp z
  simp at this
  omega
section
variable {p : Program} {l : Launch} {e : Env} {R : Room} {s : State} {m : MethodId} {args : Array Value} {below : List Frame} {meth : Method} {c : Code} {Z : State → Prop}
variable {D : va_G} {aC : Nat → ClassId} {b B : Nat} {X : jv_X} {M : jv_M} {n0 d : Nat} {ad0 : Nat → Nat} {cc : ByteArray} {o : Nat} {ini : Bool}
theorem jw_getfield (Cx : jw_Cx p s m args c R D aC b B X M d cc o) {pc idx ci i kd fin q : Nat} {ls st : List Value} {h : jv_H} {k : Nat} {v : Value} (hF : jw_FF (o, idx, ci, i, kd, fin)) (hdec : decode cc pc = .ok (.getfield idx, 3)) (his : jv_is SHT (n0 + k) q (ci + 10))
    (hv : ∀ f, jw_fv f h q i kd = jw_v f v) (hok : jw_hv h (n0 + k) → jw_ok (n0 + k) v) (hp : jw_Wp p l e R s m args below meth c Z D aC b B M n0 ad0 (pc + 3) ls (v :: st) h k) : jw_Wp p l e R s m args below meth c Z D aC b B M n0 ad0 pc ls (.ref q :: st) h k := by
  obtain ⟨hx, hb, -, hown, hts, ⟨hK, -⟩, -⟩ := Cx
  obtain ⟨C, T, N, ty0, hc, hi, hin, -, -, hlink, hkd, -⟩ := hF
  intro ad lsm H locs ⟨h1, h2, h3, h4, h5, h6, h7, h8, h9⟩
  show W p l e R s m args below meth c H locs k _ Z (F0 m pc lsm (.ref (jw_a b ad q) :: st.map (jw_v (jw_a b ad))))
  rw [jw_a_lt his.1 h6]
  refine va_get (own := jw_own o) (ref := (T i).1) (fs := jw_fs (jw_a b ad) h q 0 (jw_fk ci)) (v := jw_v (jw_a b ad) v) hx hb hts (jw_gu hin) hown hK h7 q (by rw [jw_W_get his.1, jw_e_obj his.2]) hc i hi (hts _ (jw_g hlink rfl)) (fun _ z => z) ?_ hdec ?_
  · rw [jw_fs_get, show (jw_fk ci)[i]? = some kd from hkd, Nat.zero_add, Option.map_some, hv]
  · exact hp ad lsm H locs ⟨h1, h2, jw_oks_cons.mpr ⟨hok h4, jw_d1 h3⟩, h4, h5, h6, h7, h8, h9⟩
theorem jw_putfield (Cx : jw_Cx p s m args c R D aC b B X M d cc o) (hini : ini = true → meth.name = "<init>") {pc idx ci i kd fin q : Nat} {ls st : List Value} {h h' : jv_H} {k : Nat} {v : Value} (hF : jw_FF (o, idx, ci, i, kd, fin)) (hfin : fin = 0 ∨ (fin = 1 ∧ ini = true)) (hdec : decode cc pc = .ok (.putfield idx, 3)) (his : jv_is SHT (n0 + k) q (ci + 10))
    (hnar : ∀ ty f, jw_tm kd ty → narrow ty (jw_v f v) = jw_v f v ∧ fits ty (jw_v f v) = true) (hset : (jw_fk ci)[i]? = some kd → ∀ f, jw_fs f h' q 0 (jw_fk ci) = (jw_fs f h q 0 (jw_fk ci)).set i (jw_v f v)) (hoth : ∀ w, w ≠ q → h'.1 w = h.1 w ∧ h'.2.1 w = h.2.1 w ∧ h'.2.2 w = h.2.2 w) (hhv : n0 + k ≤ 227 → jw_hv h (n0 + k) → jw_ok (n0 + k) v → jw_hv h' (n0 + k))
    (hp : jw_Wp p l e R s m args below meth c Z D aC b B M n0 ad0 (pc + 3) ls st h' k) : jw_Wp p l e R s m args below meth c Z D aC b B M n0 ad0 pc ls (v :: .ref q :: st) h k := by
  obtain ⟨hx, hb, -, hown, hts, ⟨hK, -⟩, -⟩ := Cx
  obtain ⟨C, T, N, ty0, hc, hi, hin, hty, hnm, hlink, hkd, htm, hfn⟩ := hF
  intro ad lsm H locs ⟨h1, h2, h3, h4, h5, h6, h7, h8, h9, h10⟩
  have hS : ∀ (H1 : Heap) (locs1 : List Loc), va_P D vwCl ((jw_W aC b ad h (n0 + k)).set q (ad q, .inr (ci, (jw_fs (jw_a b ad) h q 0 (jw_fk ci)).set i (jw_v (jw_a b ad) v)))) H1 → va_D (fun q => B ≤ q) ((jw_W aC b ad h (n0 + k)).set q (ad q, .inr (ci, (jw_fs (jw_a b ad) h q 0 (jw_fk ci)).set i (jw_v (jw_a b ad) v)))) → va_S (fun q => B ≤ q) s.heap H1 locs1 → W p l e R s m args below meth c H1 locs1 k (jv_S SHT (n0 + k) - jv_S SHT n0) Z (F0 m (pc + 3) lsm (st.map (jw_v (jw_a b ad)))) := by
    intro H1 locs1 g1 g2 g3
    rw [jw_W_set (h' := h') (fun w hw => jw_e_congr (hoth w hw).1 (hoth w hw).2.1 (hoth w hw).2.2) (by rw [jw_e_obj his.2, hset hkd])] at g1 g2
    exact hp ad lsm H1 locs1 ⟨h1, h2, jw_d2 h3, hhv h6 h4 (jw_oks_cons.mp h3).1, h5, h6, g1, g2, g3, h10⟩
  have hl : i < (jw_fs (jw_a b ad) h q 0 (jw_fk ci)).length := by
    rw [jw_fs_len]
    exact (List.getElem?_eq_some_iff.mp hkd).1
  show W p l e R s m args below meth c H locs k _ Z (F0 m pc lsm (jw_v (jw_a b ad) v :: .ref (jw_a b ad q) :: st.map (jw_v (jw_a b ad))))
  rw [jw_a_lt his.1 h6]
  obtain ⟨n1, n2⟩ := hnar (ty0 i) (jw_a b ad) htm
  rcases hfin with hf | ⟨hf, hi1⟩
  · subst hf
    exact va_put (own := jw_own o) (ref := (T i).1) hx hb hts (jw_gu hin) ty0 hty hnm hown hK h7 h8 h9 q (by rw [jw_W_get his.1, jw_e_obj his.2]) hc i hi (hts _ (jw_g hlink rfl)) (fun _ z => z) hfn (hty i hi) n1 n2 hl hdec hS
  · subst hf
    exact va_putF (own := jw_own o) (ref := (T i).1) hx hb hts (jw_gu hin) ty0 hty hnm hown hK h7 h8 h9 q (by rw [jw_W_get his.1, jw_e_obj his.2]) hc i hi (hts _ (jw_g hlink rfl)) (fun _ z => z) hfn.1 (hini hi1) hfn.2 (hty i hi) n1 n2 hl hdec hS
theorem jw_iaload (Cx : jw_Cx p s m args c R D aC b B X M d cc o) {pc q : Nat} {ls st : List Value} {h : jv_H} {k : Nat} {i : Int32} (hdec : decode cc pc = .ok (.iaload, 1)) (his : jv_ix SHT (n0 + k) q 0 i)
    (hp : jw_Wp p l e R s m args below meth c Z D aC b B M n0 ad0 (pc + 1) ls (.int (jv_gI h q i.toNatClampNeg) :: st) h k) : jw_Wp p l e R s m args below meth c Z D aC b B M n0 ad0 pc ls (.int i :: .ref q :: st) h k := by
  obtain ⟨hx, hb, -, hown, hts, ⟨hK, -⟩, -⟩ := Cx
  intro ad lsm H locs ⟨h1, h2, h3, h4, h5, h6, h7, h8, h9⟩
  show W p l e R s m args below meth c H locs k _ Z (F0 m pc lsm (.int i :: .ref (jw_a b ad q) :: st.map (jw_v (jw_a b ad))))
  rw [jw_a_lt his.1.1 h6]
  exact va_iald hx hb hK h7 q 0 (by rw [jw_W_get his.1.1, jw_e_I his.1.2]; rfl) rfl (jw_in his.2.1 his.2.2) hdec (hp ad lsm H locs ⟨h1, h2, jw_pI (jw_d2 h3), h4, h5, h6, h7, h8, h9⟩)
theorem jw_baload (Cx : jw_Cx p s m args c R D aC b B X M d cc o) {pc q : Nat} {ls st : List Value} {h : jv_H} {k : Nat} {i : Int32} (hdec : decode cc pc = .ok (.baload, 1)) (his : jv_ix SHT (n0 + k) q 2 i)
    (hp : jw_Wp p l e R s m args below meth c Z D aC b B M n0 ad0 (pc + 1) ls (.int (jv_gI h q i.toNatClampNeg) :: st) h k) : jw_Wp p l e R s m args below meth c Z D aC b B M n0 ad0 pc ls (.int i :: .ref q :: st) h k := by
  obtain ⟨hx, hb, -, hown, hts, ⟨hK, -⟩, -⟩ := Cx
  intro ad lsm H locs ⟨h1, h2, h3, h4, h5, h6, h7, h8, h9⟩
  show W p l e R s m args below meth c H locs k _ Z (F0 m pc lsm (.int i :: .ref (jw_a b ad q) :: st.map (jw_v (jw_a b ad))))
  rw [jw_a_lt his.1.1 h6]
  exact va_zald hx hb hK h7 q 2 (by rw [jw_W_get his.1.1, jw_e_Z his.1.2]; rfl) rfl (jw_in his.2.1 his.2.2) hdec (hp ad lsm H locs ⟨h1, h2, jw_pI (jw_d2 h3), h4, h5, h6, h7, h8, h9⟩)
theorem jw_laload (Cx : jw_Cx p s m args c R D aC b B X M d cc o) {pc q : Nat} {ls st : List Value} {h : jv_H} {k : Nat} {i : Int32} (hdec : decode cc pc = .ok (.laload, 1)) (his : jv_ix SHT (n0 + k) q 1 i)
    (hp : jw_Wp p l e R s m args below meth c Z D aC b B M n0 ad0 (pc + 1) ls (.long (jv_gL h q i.toNatClampNeg) :: st) h k) : jw_Wp p l e R s m args below meth c Z D aC b B M n0 ad0 pc ls (.int i :: .ref q :: st) h k := by
  obtain ⟨hx, hb, -, hown, hts, ⟨hK, -⟩, -⟩ := Cx
  intro ad lsm H locs ⟨h1, h2, h3, h4, h5, h6, h7, h8, h9⟩
  show W p l e R s m args below meth c H locs k _ Z (F0 m pc lsm (.int i :: .ref (jw_a b ad q) :: st.map (jw_v (jw_a b ad))))
  rw [jw_a_lt his.1.1 h6]
  exact va_lald hx hb hK h7 q 1 (by rw [jw_W_get his.1.1, jw_e_L his.1.2]; rfl) rfl (jw_in his.2.1 his.2.2) hdec (hp ad lsm H locs ⟨h1, h2, jw_pL (jw_d2 h3), h4, h5, h6, h7, h8, h9⟩)
theorem jw_tys_R {aC : Nat → ClassId} {j : Nat} (hj : j < 4) : (jw_tys aC)[j + 3]? = some (aC (j + 3), .object (jw_ac j)) := by
  match j, hj with
  | 0, _ => rfl
  | 1, _ => rfl
  | 2, _ => rfl
  | 3, _ => rfl
theorem jw_aaload (Cx : jw_Cx p s m args c R D aC b B X M d cc o) {pc q j a : Nat} {ls st : List Value} {h : jv_H} {k : Nat} {i : Int32} (hdec : decode cc pc = .ok (.aaload, 1)) (his : jv_ix SHT (n0 + k) q (j + 3) i) (hj : j < 4) (ha : jv_gR h q i.toNatClampNeg = some a)
    (hp : jw_Wp p l e R s m args below meth c Z D aC b B M n0 ad0 (pc + 1) ls (.ref a :: st) h k) : jw_Wp p l e R s m args below meth c Z D aC b B M n0 ad0 pc ls (.int i :: .ref q :: st) h k := by
  obtain ⟨hx, hb, -, hown, hts, ⟨hK, -⟩, -⟩ := Cx
  intro ad lsm H locs ⟨h1, h2, h3, h4, h5, h6, h7, h8, h9⟩
  show W p l e R s m args below meth c H locs k _ Z (F0 m pc lsm (.int i :: .ref (jw_a b ad q) :: st.map (jw_v (jw_a b ad))))
  rw [jw_a_lt his.1.1 h6]
  refine va_aldq hx hb hK h7 q (j + 3) (by rw [jw_W_get his.1.1, jw_e_R hj his.1.2]) (jw_tys_R hj) (jw_in his.2.1 his.2.2) hdec ?_
  rw [show h.2.2 q i.toNatClampNeg = some a from ha]
  exact hp ad lsm H locs ⟨h1, h2, jw_pA (h4 q _ a his.1.1 ha) (jw_d2 h3), h4, h5, h6, h7, h8, h9⟩
theorem jw_iastore (Cx : jw_Cx p s m args c R D aC b B X M d cc o) {pc q : Nat} {ls st : List Value} {h : jv_H} {k : Nat} {i v : Int32} (hdec : decode cc pc = .ok (.iastore, 1)) (his : jv_ix SHT (n0 + k) q 0 i)
    (hp : jw_Wp p l e R s m args below meth c Z D aC b B M n0 ad0 (pc + 1) ls st (jv_uI h q i.toNatClampNeg v) k) : jw_Wp p l e R s m args below meth c Z D aC b B M n0 ad0 pc ls (.int v :: .int i :: .ref q :: st) h k := by
  obtain ⟨hx, hb, -, hown, hts, ⟨hK, -⟩, -⟩ := Cx
  intro ad lsm H locs ⟨h1, h2, h3, h4, h5, h6, h7, h8, h9, h10⟩
  show W p l e R s m args below meth c H locs k _ Z (F0 m pc lsm (.int v :: .int i :: .ref (jw_a b ad q) :: st.map (jw_v (jw_a b ad))))
  rw [jw_a_lt his.1.1 h6]
  refine va_iast hx hb hK h7 h8 h9 q 0 (by rw [jw_W_get his.1.1, jw_e_I his.1.2]) rfl (jw_in his.2.1 his.2.2) hdec (fun H1 locs1 g1 g2 g3 => ?_)
  rw [jw_W_set (h' := jv_uI h q i.toNatClampNeg v) (fun w hw => jw_e_congr (jw_uI_oth h q _ v hw).1 (jw_uI_oth h q _ v hw).2.1 (jw_uI_oth h q _ v hw).2.2) (by rw [jw_e_I his.1.2]; congr 4; funext j; simp [jv_uI, upd])] at g1 g2
  exact hp ad lsm H1 locs1 ⟨h1, h2, jw_d3 h3, h4, h5, h6, g1, g2, g3, h10⟩
theorem jw_bastore (Cx : jw_Cx p s m args c R D aC b B X M d cc o) {pc q : Nat} {ls st : List Value} {h : jv_H} {k : Nat} {i v : Int32} (hdec : decode cc pc = .ok (.bastore, 1)) (his : jv_ix SHT (n0 + k) q 2 i) (hv : v = 0 ∨ v = 1)
    (hp : jw_Wp p l e R s m args below meth c Z D aC b B M n0 ad0 (pc + 1) ls st (jv_uI h q i.toNatClampNeg v) k) : jw_Wp p l e R s m args below meth c Z D aC b B M n0 ad0 pc ls (.int v :: .int i :: .ref q :: st) h k := by
  obtain ⟨hx, hb, -, hown, hts, ⟨hK, -⟩, -⟩ := Cx
  have hnv : vp_nar .boolean v = v := by rcases hv with rfl | rfl <;> rfl
  intro ad lsm H locs ⟨h1, h2, h3, h4, h5, h6, h7, h8, h9, h10⟩
  show W p l e R s m args below meth c H locs k _ Z (F0 m pc lsm (.int v :: .int i :: .ref (jw_a b ad q) :: st.map (jw_v (jw_a b ad))))
  rw [jw_a_lt his.1.1 h6]
  refine va_zast hx hb hK h7 h8 h9 q 2 (by rw [jw_W_get his.1.1, jw_e_Z his.1.2]) rfl (jw_in his.2.1 his.2.2) hdec (fun H1 locs1 g1 g2 g3 => ?_)
  rw [hnv] at g1 g2
  rw [jw_W_set (h' := jv_uI h q i.toNatClampNeg v) (fun w hw => jw_e_congr (jw_uI_oth h q _ v hw).1 (jw_uI_oth h q _ v hw).2.1 (jw_uI_oth h q _ v hw).2.2) (by rw [jw_e_Z his.1.2]; congr 4; funext j; simp [jv_uI, upd])] at g1 g2
  exact hp ad lsm H1 locs1 ⟨h1, h2, jw_d3 h3, h4, h5, h6, g1, g2, g3, h10⟩
theorem jw_lastore (Cx : jw_Cx p s m args c R D aC b B X M d cc o) {pc q : Nat} {ls st : List Value} {h : jv_H} {k : Nat} {i : Int32} {v : Int64} (hdec : decode cc pc = .ok (.lastore, 1)) (his : jv_ix SHT (n0 + k) q 1 i)
    (hp : jw_Wp p l e R s m args below meth c Z D aC b B M n0 ad0 (pc + 1) ls st (jv_uL h q i.toNatClampNeg v) k) : jw_Wp p l e R s m args below meth c Z D aC b B M n0 ad0 pc ls (.long v :: .int i :: .ref q :: st) h k := by
  obtain ⟨hx, hb, -, hown, hts, ⟨hK, -⟩, -⟩ := Cx
  intro ad lsm H locs ⟨h1, h2, h3, h4, h5, h6, h7, h8, h9, h10⟩
  show W p l e R s m args below meth c H locs k _ Z (F0 m pc lsm (.long v :: .int i :: .ref (jw_a b ad q) :: st.map (jw_v (jw_a b ad))))
  rw [jw_a_lt his.1.1 h6]
  refine va_last hx hb hK h7 h8 h9 q 1 (by rw [jw_W_get his.1.1, jw_e_L his.1.2]) rfl (jw_in his.2.1 his.2.2) hdec (fun H1 locs1 g1 g2 g3 => ?_)
  rw [jw_W_set (h' := jv_uL h q i.toNatClampNeg v) (fun w hw => jw_e_congr (jw_uL_oth h q _ v hw).1 (jw_uL_oth h q _ v hw).2.1 (jw_uL_oth h q _ v hw).2.2) (by rw [jw_e_L his.1.2]; congr 5; funext j; simp [jv_uL, vp_updL])] at g1 g2
  exact hp ad lsm H1 locs1 ⟨h1, h2, jw_d3 h3, h4, h5, h6, g1, g2, g3, h10⟩
theorem jw_aastore (Cx : jw_Cx p s m args c R D aC b B X M d cc o) {pc q j a ci : Nat} {ls st : List Value} {h : jv_H} {k : Nat} {i : Int32} (hdec : decode cc pc = .ok (.aastore, 1)) (his : jv_ix SHT (n0 + k) q (j + 3) i) (hj : j < 4) (ha : jv_is SHT (n0 + k) a (ci + 10)) (hci : ∃ (T : u_T) (N : Nat), vwCl[ci]? = some (jw_ac j, T, N))
    (hp : jw_Wp p l e R s m args below meth c Z D aC b B M n0 ad0 (pc + 1) ls st (jv_uR h q i.toNatClampNeg (some a)) k) : jw_Wp p l e R s m args below meth c Z D aC b B M n0 ad0 pc ls (.ref a :: .int i :: .ref q :: st) h k := by
  obtain ⟨hx, hb, -, hown, hts, ⟨hK, -⟩, -⟩ := Cx
  obtain ⟨T, N, hci⟩ := hci
  intro ad lsm H locs ⟨h1, h2, h3, h4, h5, h6, h7, h8, h9, h10⟩
  show W p l e R s m args below meth c H locs k _ Z (F0 m pc lsm (.ref (jw_a b ad a) :: .int i :: .ref (jw_a b ad q) :: st.map (jw_v (jw_a b ad))))
  rw [jw_a_lt his.1.1 h6, jw_a_lt ha.1 h6]
  refine va_astq (r := (jw_ac j, T, N)) hx hb hK h7 h8 h9 q (j + 3) a ci (by rw [jw_W_get his.1.1, jw_e_R hj his.1.2]) (jw_tys_R hj) (by rw [jw_W_get ha.1, jw_e_obj ha.2]) hci (jw_in his.2.1 his.2.2) hdec (fun H1 locs1 g1 g2 g3 => ?_)
  rw [jw_W_set (h' := jv_uR h q i.toNatClampNeg (some a)) (fun w hw => jw_e_congr (jw_uR_oth h q _ _ hw).1 (jw_uR_oth h q _ _ hw).2.1 (jw_uR_oth h q _ _ hw).2.2) (by
    rw [jw_e_R hj his.1.2]
    congr 8
    funext t
    by_cases ht : t = i.toNatClampNeg
    · subst ht
      simp [jv_uR, va_up, jw_a_lt ha.1 h6]
    · simp [jv_uR, va_up, ht])] at g1 g2
  exact hp ad lsm H1 locs1 ⟨h1, h2, jw_d3 h3, jw_uR_hv h4 ha.1, h5, h6, g1, g2, g3, h10⟩
end
