/-! ===== the small machine's values and cells in the large one ===== -/
def jw_a (b : Nat) (ad : Nat → Nat) (k : Nat) : Nat := if k = 999999 then b else ad k
def jw_v (f : Nat → Nat) (v : Value) : Value := match v with
  | .ref k => .ref (f k)
  | .int x => .int x
  | .long x => .long x
  | .float x => .float x
  | .double x => .double x
  | .null => .null
  | .retAddr q => .retAddr q
def jw_kn (v : Value) : Prop := match v with
  | .retAddr _ => False
  | _ => True
/-- a value that names a cell that is there -/
def jw_ok (n : Nat) (v : Value) : Prop := match v with
  | .ref k => k < n ∨ k = 999999
  | _ => True
theorem jw_v_cat (f : Nat → Nat) (v : Value) : (jw_v f v).category = v.category := by cases v <;> rfl
theorem jw_v_kn {v : Value} {f : Nat → Nat} (h : jw_kn v) : ∀ q, jw_v f v ≠ .retAddr q := by cases v <;> first | exact h.elim | (intro q hq; cases hq)
/-- locals -/
def jw_L (f : Nat → Nat) (lsm : Array Slot) (nL : Nat) (ls : List Value) : Prop := lsm.size = nL ∧ lv_wf lsm ∧ ∀ (i : Nat) (v : Value), ls[i]? = some v → jw_kn v → lsm[i]? = some (.val (jw_v f v))
theorem jw_nth_get : ∀ (ls : List Value) (i : Nat), jw_kn (jv_nth ls i) → ls[i]? = some (jv_nth ls i)
  | [], _, h => h.elim
  | _ :: _, 0, _ => rfl
  | _ :: r, i + 1, h => by
    rw [List.getElem?_cons_succ]
    exact jw_nth_get r i h
theorem jw_nth_at {f : Nat → Nat} {lsm : Array Slot} {nL : Nat} {ls : List Value} (h : jw_L f lsm nL ls) {i : Nat} {v : Value} (hv : jv_nth ls i = v) (hk : jw_kn v) : lsm[i]? = some (.val (jw_v f v)) := by
  subst hv
  exact h.2.2 i _ (jw_nth_get ls i hk) hk
/-- all that the slots hold -/
def jw_all (lsm : Array Slot) : List (Nat × Value) := (List.range lsm.size).filterMap (fun (j : Nat) => match (lsm[j]? : Option Slot) with
  | some (Slot.val w) => some (j, w)
  | _ => none)
theorem jw_all_mem {lsm : Array Slot} {j : Nat} {w : Value} : (j, w) ∈ jw_all lsm ↔ lsm[j]? = some (.val w) := by
  unfold jw_all
  rw [List.mem_filterMap]
  constructor
  · rintro ⟨a, ha, hq⟩
    split at hq
    · rename_i w' hw
      cases hq
      exact hw
    · cases hq
  · intro h
    have hl : j < lsm.size := (Array.getElem?_eq_some_iff.mp h).1
    refine ⟨j, List.mem_range.mpr hl, ?_⟩
    rw [h]
theorem jw_has {f : Nat → Nat} {lsm : Array Slot} {nL : Nat} {ls : List Value} (h : jw_L f lsm nL ls) : lv_has lsm nL (jw_all lsm) := by
  refine ⟨h.1, h.2.1, ?_⟩
  rintro ⟨j, w⟩ hq
  exact jw_all_mem.mp hq
theorem jw_k2_get {w : Value} (h : jw_kn (jv_k2 w)) : jv_k2 w = w ∧ ¬ w.category = 2 := by
  cases w <;> first | exact h.elim | exact ⟨rfl, by simp [Value.category]⟩
theorem jw_s1_get : ∀ (ls : List Value) (i : Nat) (v : Value) (j : Nat) (w : Value), (jv_s1 ls i v)[j]? = some w → jw_kn w → (j = i ∧ w = v) ∨ (j ≠ i ∧ ls[j]? = some w ∧ ¬ (j + 1 = i ∧ w.category = 2))
  | [], i, v, j, w, h, _ => by simp [jv_s1] at h
  | a :: r, 0, v, j, w, h, _ => by
    cases j with
    | zero =>
      simp [jv_s1] at h
      exact Or.inl ⟨rfl, h.symm⟩
    | succ j =>
      simp only [jv_s1, List.getElem?_cons_succ] at h
      exact Or.inr ⟨by omega, by rw [List.getElem?_cons_succ]; exact h, fun z => by omega⟩
  | a :: r, 1, v, j, w, h, hk => by
    cases j with
    | zero =>
      simp [jv_s1] at h
      subst h
      obtain ⟨h1, h2⟩ := jw_k2_get hk
      rw [h1]
      exact Or.inr ⟨by omega, rfl, fun z => h2 z.2⟩
    | succ j =>
      simp only [jv_s1, List.getElem?_cons_succ] at h
      rcases jw_s1_get r 0 v j w h hk with ⟨h1, h2⟩ | ⟨h1, h2, h3⟩
      · exact Or.inl ⟨by omega, h2⟩
      · exact Or.inr ⟨by omega, by rw [List.getElem?_cons_succ]; exact h2, fun z => by omega⟩
  | a :: r, i + 2, v, j, w, h, hk => by
    cases j with
    | zero =>
      simp [jv_s1] at h
      subst h
      exact Or.inr ⟨by omega, rfl, fun z => by omega⟩
    | succ j =>
      simp only [jv_s1, List.getElem?_cons_succ] at h
      rcases jw_s1_get r (i + 1) v j w h hk with ⟨h1, h2⟩ | ⟨h1, h2, h3⟩
      · exact Or.inl ⟨by omega, h2⟩
      · exact Or.inr ⟨by omega, by rw [List.getElem?_cons_succ]; exact h2, fun z => h3 ⟨by omega, z.2⟩⟩
theorem jw_tl_get {r : List Value} {j : Nat} {w : Value} (h : (jv_tl r)[j]? = some w) (hk : jw_kn w) : j ≠ 0 ∧ r[j]? = some w := by
  cases r with
  | nil => simp [jv_tl] at h
  | cons a r =>
    cases j with
    | zero =>
      simp [jv_tl] at h
      subst h
      exact hk.elim
    | succ j => exact ⟨by omega, by simpa [jv_tl] using h⟩
theorem jw_s2_get : ∀ (ls : List Value) (i : Nat) (v : Value) (j : Nat) (w : Value), (jv_s2 ls i v)[j]? = some w → jw_kn w → (j = i ∧ w = v) ∨ (j ≠ i ∧ j ≠ i + 1 ∧ ls[j]? = some w ∧ ¬ (j + 1 = i ∧ w.category = 2))
  | [], i, v, j, w, h, _ => by simp [jv_s2] at h
  | a :: r, 0, v, j, w, h, hk => by
    cases j with
    | zero =>
      simp [jv_s2] at h
      exact Or.inl ⟨rfl, h.symm⟩
    | succ j =>
      simp only [jv_s2, List.getElem?_cons_succ] at h
      obtain ⟨h1, h2⟩ := jw_tl_get h hk
      exact Or.inr ⟨by omega, by omega, by rw [List.getElem?_cons_succ]; exact h2, fun z => by omega⟩
  | a :: r, 1, v, j, w, h, hk => by
    cases j with
    | zero =>
      simp [jv_s2] at h
      subst h
      obtain ⟨h1, h2⟩ := jw_k2_get hk
      rw [h1]
      exact Or.inr ⟨by omega, by omega, rfl, fun z => h2 z.2⟩
    | succ j =>
      simp only [jv_s2, List.getElem?_cons_succ] at h
      rcases jw_s2_get r 0 v j w h hk with ⟨h1, h2⟩ | ⟨h1, h1', h2, h3⟩
      · exact Or.inl ⟨by omega, h2⟩
      · exact Or.inr ⟨by omega, by omega, by rw [List.getElem?_cons_succ]; exact h2, fun z => by omega⟩
  | a :: r, i + 2, v, j, w, h, hk => by
    cases j with
    | zero =>
      simp [jv_s2] at h
      subst h
      exact Or.inr ⟨by omega, by omega, rfl, fun z => by omega⟩
    | succ j =>
      simp only [jv_s2, List.getElem?_cons_succ] at h
      rcases jw_s2_get r (i + 1) v j w h hk with ⟨h1, h2⟩ | ⟨h1, h1', h2, h3⟩
      · exact Or.inl ⟨by omega, h2⟩
      · exact Or.inr ⟨by omega, by omega, by rw [List.getElem?_cons_succ]; exact h2, fun z => h3 ⟨by omega, z.2⟩⟩
theorem jw_L_s1 {f : Nat → Nat} {lsm ls' : Array Slot} {nL i : Nat} {ls : List Value} {v : Value} (h : jw_L f lsm nL ls) (h' : lv_has ls' nL ((i, jw_v f v) :: (jw_all lsm).filter (fun q => !(q.1 == i) && !(q.1 + 1 == i && q.2.category == 2)))) : jw_L f ls' nL (jv_s1 ls i v) := by
  refine ⟨h'.1, h'.2.1, fun j w hj hk => ?_⟩
  rcases jw_s1_get ls i v j w hj hk with ⟨h1, h2⟩ | ⟨h1, h2, h3⟩
  · subst h1; subst h2
    exact h'.2.2 (_, _) List.mem_cons_self
  · have hm := h.2.2 j w h2 hk
    refine h'.2.2 (j, jw_v f w) (List.mem_cons_of_mem _ (List.mem_filter.mpr ⟨jw_all_mem.mpr hm, ?_⟩))
    simp only [Bool.and_eq_true, Bool.not_eq_true', beq_eq_false_iff_ne, Bool.and_eq_false_iff]
    refine ⟨h1, ?_⟩
    by_cases hz : j + 1 = i
    · right
      rw [jw_v_cat]
      exact fun z => h3 ⟨hz, z⟩
    · exact Or.inl hz
theorem jw_L_s2 {f : Nat → Nat} {lsm ls' : Array Slot} {nL i : Nat} {ls : List Value} {v : Value} (h : jw_L f lsm nL ls) (h' : lv_has ls' nL ((i, jw_v f v) :: (jw_all lsm).filter (fun q => !(q.1 == i) && (!(q.1 == i + 1) && !(q.1 + 1 == i && q.2.category == 2))))) : jw_L f ls' nL (jv_s2 ls i v) := by
  refine ⟨h'.1, h'.2.1, fun j w hj hk => ?_⟩
  rcases jw_s2_get ls i v j w hj hk with ⟨h1, h2⟩ | ⟨h1, h1', h2, h3⟩
  · subst h1; subst h2
    exact h'.2.2 (_, _) List.mem_cons_self
  · have hm := h.2.2 j w h2 hk
    refine h'.2.2 (j, jw_v f w) (List.mem_cons_of_mem _ (List.mem_filter.mpr ⟨jw_all_mem.mpr hm, ?_⟩))
    simp only [Bool.and_eq_true, Bool.not_eq_true', beq_eq_false_iff_ne, Bool.and_eq_false_iff]
    refine ⟨h1, h1', ?_⟩
    by_cases hz : j + 1 = i
    · right
      rw [jw_v_cat]
      exact fun z => h3 ⟨hz, z⟩
    · exact Or.inl hz
theorem jw_mask_get : ∀ (m : List Bool) (ls : List Value) (j : Nat) (w : Value), (jv_mask m ls)[j]? = some w → jw_kn w → ls[j]? = some w
  | m, [], j, w, h, _ => by simp [jv_mask] at h
  | [], a :: r, j, w, h, hk => by
    cases j with
    | zero =>
      simp [jv_mask] at h
      subst h
      exact hk.elim
    | succ j =>
      simp only [jv_mask, List.getElem?_cons_succ] at h ⊢
      exact jw_mask_get [] r j w h hk
  | true :: m, a :: r, j, w, h, hk => by
    cases j with
    | zero => simpa [jv_mask] using h
    | succ j =>
      simp only [jv_mask, List.getElem?_cons_succ] at h ⊢
      exact jw_mask_get m r j w h hk
  | false :: m, a :: r, j, w, h, hk => by
    cases j with
    | zero =>
      simp [jv_mask] at h
      subst h
      exact hk.elim
    | succ j =>
      simp only [jv_mask, List.getElem?_cons_succ] at h ⊢
      exact jw_mask_get m r j w h hk
theorem jw_L_mask {f : Nat → Nat} {lsm : Array Slot} {nL : Nat} {ls : List Value} (m : List Bool) (h : jw_L f lsm nL ls) : jw_L f lsm nL (jv_mask m ls) :=
  ⟨h.1, h.2.1, fun i v hi hk => h.2.2 i v (jw_mask_get m ls i v hi hk) hk⟩
/-- all values of a list name cells that are there -/
def jw_oks (n : Nat) (l : List Value) : Prop := ∀ v ∈ l, jw_ok n v
theorem jw_oks_cons {n : Nat} {v : Value} {l : List Value} : jw_oks n (v :: l) ↔ jw_ok n v ∧ jw_oks n l := List.forall_mem_cons
theorem jw_ok_mono {n n' : Nat} (hn : n ≤ n') {v : Value} (h : jw_ok n v) : jw_ok n' v := by
  cases v <;> first | exact trivial | exact h.elim (fun z => Or.inl (Nat.lt_of_lt_of_le z hn)) (fun z => Or.inr z)
theorem jw_oks_mono {n n' : Nat} (hn : n ≤ n') {l : List Value} (h : jw_oks n l) : jw_oks n' l := fun v hv => jw_ok_mono hn (h v hv)
theorem jw_oks_s1 {n : Nat} : ∀ {ls : List Value} {i : Nat} {v : Value}, jw_oks n ls → jw_ok n v → jw_oks n (jv_s1 ls i v)
  | [], _, _, _, _ => fun _ h => by cases h
  | a :: r, 0, v, h, hv => jw_oks_cons.mpr ⟨hv, (jw_oks_cons.mp h).2⟩
  | a :: r, 1, v, h, hv => jw_oks_cons.mpr ⟨by
      have ha := (jw_oks_cons.mp h).1
      cases a <;> first | exact trivial | exact ha, jw_oks_s1 (jw_oks_cons.mp h).2 hv⟩
  | a :: r, i + 2, v, h, hv => jw_oks_cons.mpr ⟨(jw_oks_cons.mp h).1, jw_oks_s1 (jw_oks_cons.mp h).2 hv⟩
theorem jw_oks_s2 {n : Nat} : ∀ {ls : List Value} {i : Nat} {v : Value}, jw_oks n ls → jw_ok n v → jw_oks n (jv_s2 ls i v)
  | [], _, _, _, _ => fun _ h => by cases h
  | a :: r, 0, v, h, hv => jw_oks_cons.mpr ⟨hv, by
      cases r with
      | nil => exact fun _ h => by cases h
      | cons q r => exact jw_oks_cons.mpr ⟨trivial, (jw_oks_cons.mp (jw_oks_cons.mp h).2).2⟩⟩
  | a :: r, 1, v, h, hv => jw_oks_cons.mpr ⟨by
      have ha := (jw_oks_cons.mp h).1
      cases a <;> first | exact trivial | exact ha, jw_oks_s2 (jw_oks_cons.mp h).2 hv⟩
  | a :: r, i + 2, v, h, hv => jw_oks_cons.mpr ⟨(jw_oks_cons.mp h).1, jw_oks_s2 (jw_oks_cons.mp h).2 hv⟩
theorem jw_oks_mask {n : Nat} : ∀ {m : List Bool} {ls : List Value}, jw_oks n ls → jw_oks n (jv_mask m ls)
  | _, [], _ => by
    intro v h
    simp [jv_mask] at h
  | [], a :: r, h => jw_oks_cons.mpr ⟨trivial, jw_oks_mask (jw_oks_cons.mp h).2⟩
  | true :: m, a :: r, h => jw_oks_cons.mpr ⟨(jw_oks_cons.mp h).1, jw_oks_mask (jw_oks_cons.mp h).2⟩
  | false :: m, a :: r, h => jw_oks_cons.mpr ⟨trivial, jw_oks_mask (jw_oks_cons.mp h).2⟩
theorem jw_nth_ok {n : Nat} : ∀ {ls : List Value} {i : Nat}, jw_oks n ls → jw_ok n (jv_nth ls i)
  | [], _, _ => trivial
  | _ :: _, 0, h => (jw_oks_cons.mp h).1
  | _ :: r, i + 1, h => jw_nth_ok (ls := r) (i := i) (jw_oks_cons.mp h).2
theorem jw_v_agree {b : Nat} {ad ad' : Nat → Nat} {n : Nat} (h : ∀ o, o < n → ad' o = ad o) {v : Value} (hv : jw_ok n v) : jw_v (jw_a b ad') v = jw_v (jw_a b ad) v := by
  cases v <;> first | rfl | skip
  rename_i k
  show Value.ref (jw_a b ad' k) = Value.ref (jw_a b ad k)
  unfold jw_a
  rcases hv with hv | hv
  · rw [h k hv]
  · rw [if_pos hv, if_pos hv]
theorem jw_vs_agree {b : Nat} {ad ad' : Nat → Nat} {n : Nat} (h : ∀ o, o < n → ad' o = ad o) {l : List Value} (hv : jw_oks n l) : l.map (jw_v (jw_a b ad')) = l.map (jw_v (jw_a b ad)) := List.map_congr_left (fun v hm => jw_v_agree h (hv v hm))
theorem jw_L_agree {b : Nat} {ad ad' : Nat → Nat} {n : Nat} (h : ∀ o, o < n → ad' o = ad o) {lsm : Array Slot} {nL : Nat} {ls : List Value} (hv : jw_oks n ls) (hL : jw_L (jw_a b ad) lsm nL ls) : jw_L (jw_a b ad') lsm nL ls :=
  ⟨hL.1, hL.2.1, fun i v hi hk => by rw [jw_v_agree h (hv v (List.mem_of_getElem? hi))]; exact hL.2.2 i v hi hk⟩
theorem jw_cat_map (f : Nat → Nat) : ∀ l : List Value, ((l.map (jw_v f)).map fun v => v.category).sum = jv_cat l
  | [] => rfl
  | v :: l => by
    show (jw_v f v).category + ((l.map (jw_v f)).map fun v => v.category).sum = v.category + jv_cat l
    rw [jw_v_cat, jw_cat_map f l]
theorem jv_pop_spec : ∀ (n : Nat) (st acc as rest : List Value), jv_pop n st acc = some (as, rest) → as.reverse ++ rest = acc.reverse ++ st ∧ as.length = acc.length + n
  | 0, st, acc, as, rest, h => by
    simp only [jv_pop] at h
    cases h
    exact ⟨rfl, rfl⟩
  | n + 1, [], acc, as, rest, h => by cases h
  | n + 1, v :: st, acc, as, rest, h => by
    simp only [jv_pop] at h
    obtain ⟨h1, h2⟩ := jv_pop_spec n st (v :: acc) as rest h
    refine ⟨?_, by simp at h2; omega⟩
    rw [h1]
    simp
