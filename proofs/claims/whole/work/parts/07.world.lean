/-! ===== the cells of the small machine as a world ===== -/
def jw_fk (ci : Nat) : List Nat := match ci with
  | 0 => [2, 2, 2, 0]
  | 1 => [2, 2, 4, 4]
  | 2 => [2, 0, 0, 0, 4, 1]
  | 3 => [2, 2, 2, 0, 0, 1]
  | 4 => [2]
  | 5 => [2, 2]
  | 6 => [2, 0, 0, 1, 1]
  | 7 => [2, 2, 2, 2, 0, 0]
  | 8 => [2, 2, 2, 2, 0, 0, 0]
  | 9 => [2, 2, 2, 2, 2, 4]
  | _ => [2, 0, 0, 4, 1, 1, 4, 2, 2, 0, 2, 2, 2, 2, 2, 2, 2, 2, 0, 2, 2, 2, 2, 2, 2, 2, 2, 2, 2, 0, 0, 0, 2, 2, 2, 2, 2, 2, 2, 2, 2, 2, 2, 1, 1, 2, 2, 2, 4, 2, 2, 2, 2, 2, 2, 2, 2, 2, 2, 2, 2, 2, 2, 2, 2, 2, 2, 2, 2, 0, 0, 0, 0, 0]
def jw_fv (f : Nat → Nat) (h : jv_H) (o i kd : Nat) : Value := match kd with
  | 1 => .long (h.2.1 o i)
  | 2 => va_rf ((h.2.2 o i).map f)
  | _ => .int (h.1 o i)
def jw_fs (f : Nat → Nat) (h : jv_H) (o : Nat) : Nat → List Nat → List Value
  | _, [] => []
  | i, kd :: r => jw_fv f h o i kd :: jw_fs f h o (i + 1) r
theorem jw_fs_get (f : Nat → Nat) (h : jv_H) (o : Nat) : ∀ (ks : List Nat) (i j : Nat), (jw_fs f h o i ks)[j]? = (ks[j]?).map (jw_fv f h o (i + j))
  | [], i, j => by simp [jw_fs]
  | kd :: r, i, 0 => by simp [jw_fs]
  | kd :: r, i, j + 1 => by
    simp only [jw_fs, List.getElem?_cons_succ]
    rw [jw_fs_get f h o r (i + 1) j, show i + 1 + j = i + (j + 1) by omega]
theorem jw_fs_len (f : Nat → Nat) (h : jv_H) (o : Nat) : ∀ (ks : List Nat) (i : Nat), (jw_fs f h o i ks).length = ks.length
  | [], i => rfl
  | kd :: r, i => by simp [jw_fs, jw_fs_len f h o r (i + 1)]
def jw_rw (aC : Nat → ClassId) (f : Nat → Nat) (h : jv_H) (o j : Nat) : va_E := .inl (aC j, (SHT o).2, .inr (.inr (.inr (.inr (fun i => (h.2.2 o i).map f)))))
def jw_e (aC : Nat → ClassId) (f : Nat → Nat) (h : jv_H) (o : Nat) : va_E := match (SHT o).1 with
  | 0 => .inl (aC 0, (SHT o).2, .inl (h.1 o))
  | 1 => .inl (aC 1, (SHT o).2, .inr (.inl (h.2.1 o)))
  | 2 => .inl (aC 2, (SHT o).2, .inl (h.1 o))
  | 3 => jw_rw aC f h o 3
  | 4 => jw_rw aC f h o 4
  | 5 => jw_rw aC f h o 5
  | 6 => jw_rw aC f h o 6
  | kd => .inr (kd - 10, jw_fs f h o 0 (jw_fk (kd - 10)))
theorem jw_fs_congr {f : Nat → Nat} {h h' : jv_H} {o : Nat} (h1 : h'.1 o = h.1 o) (h2 : h'.2.1 o = h.2.1 o) (h3 : h'.2.2 o = h.2.2 o) : ∀ (ks : List Nat) (i : Nat), jw_fs f h' o i ks = jw_fs f h o i ks
  | [], i => rfl
  | kd :: r, i => by
    simp only [jw_fs, jw_fs_congr h1 h2 h3 r (i + 1)]
    congr 1
    unfold jw_fv
    rw [h1, h2, h3]
theorem jw_e_congr {aC : Nat → ClassId} {f : Nat → Nat} {h h' : jv_H} {o : Nat} (h1 : h'.1 o = h.1 o) (h2 : h'.2.1 o = h.2.1 o) (h3 : h'.2.2 o = h.2.2 o) : jw_e aC f h' o = jw_e aC f h o := by
  unfold jw_e jw_rw
  simp only [h1, h2, h3, jw_fs_congr h1 h2 h3]
def jw_W (aC : Nat → ClassId) (b : Nat) (ad : Nat → Nat) (h : jv_H) (n : Nat) : va_W := (List.range n).map (fun o => (ad o, jw_e aC (jw_a b ad) h o))
theorem jw_W_get {aC : Nat → ClassId} {b : Nat} {ad : Nat → Nat} {h : jv_H} {n o : Nat} (ho : o < n) : (jw_W aC b ad h n)[o]? = some (ad o, jw_e aC (jw_a b ad) h o) := by
  simp [jw_W, ho]
theorem jw_W_set {aC : Nat → ClassId} {b : Nat} {ad : Nat → Nat} {h h' : jv_H} {n o : Nat} {e : va_E} (hq : ∀ q, q ≠ o → jw_e aC (jw_a b ad) h' q = jw_e aC (jw_a b ad) h q) (he : jw_e aC (jw_a b ad) h' o = e) : (jw_W aC b ad h n).set o (ad o, e) = jw_W aC b ad h' n := by
  subst he
  apply List.ext_getElem?
  intro i
  rw [List.getElem?_set]
  by_cases hi : o = i
  · subst hi
    by_cases hn : o < n
    · simp [jw_W, hn]
    · simp [jw_W, hn]
  · by_cases hn : i < n
    · simp [jw_W, hn, hi, hq i (fun z => hi z.symm)]
    · simp [jw_W, hn, hi]
/-- references that the cells hold name cells that are there -/
def jw_hv (h : jv_H) (n : Nat) : Prop := ∀ o i a, o < n → h.2.2 o i = some a → a < n
theorem jw_map_agree {b : Nat} {ad ad' : Nat → Nat} {n : Nat} (hn : n ≤ 999999) (h : ∀ o, o < n → ad' o = ad o) {x : Option Nat} (hx : ∀ a, x = some a → a < n) : x.map (jw_a b ad') = x.map (jw_a b ad) := by
  cases x with
  | none => rfl
  | some a =>
    have ha := hx a rfl
    simp [jw_a, h a ha, show a ≠ 999999 by omega]
theorem jw_fs_agree {b : Nat} {ad ad' : Nat → Nat} {n : Nat} (hn : n ≤ 999999) (hg : ∀ o, o < n → ad' o = ad o) {h : jv_H} {o : Nat} (hx : ∀ i a, h.2.2 o i = some a → a < n) : ∀ (ks : List Nat) (i : Nat), jw_fs (jw_a b ad') h o i ks = jw_fs (jw_a b ad) h o i ks
  | [], i => rfl
  | kd :: r, i => by
    simp only [jw_fs, jw_fs_agree hn hg hx r (i + 1)]
    congr 1
    unfold jw_fv
    rw [jw_map_agree hn hg (hx i)]
theorem jw_e_agree {aC : Nat → ClassId} {b : Nat} {ad ad' : Nat → Nat} {n : Nat} (hn : n ≤ 999999) (hg : ∀ o, o < n → ad' o = ad o) {h : jv_H} {o : Nat} (hx : ∀ i a, h.2.2 o i = some a → a < n) : jw_e aC (jw_a b ad') h o = jw_e aC (jw_a b ad) h o := by
  unfold jw_e jw_rw
  simp only [jw_fs_agree (b := b) hn hg hx, fun i => jw_map_agree (b := b) hn hg (hx i)]
/-- one cell more -/
theorem jw_W_push {aC : Nat → ClassId} {b : Nat} {ad : Nat → Nat} {h h' : jv_H} {n q : Nat} {e : va_E} (hn : n ≤ 999998) (hv : jw_hv h n) (hk : ∀ o, o < n → h'.1 o = h.1 o ∧ h'.2.1 o = h.2.1 o ∧ h'.2.2 o = h.2.2 o) (he : jw_e aC (jw_a b (va_up ad n q)) h' n = e) : jw_W aC b ad h n ++ [(q, e)] = jw_W aC b (va_up ad n q) h' (n + 1) := by
  subst he
  unfold jw_W
  rw [List.range_succ, List.map_append]
  have h1 : (List.range n).map (fun o => (ad o, jw_e aC (jw_a b ad) h o)) = (List.range n).map (fun o => (va_up ad n q o, jw_e aC (jw_a b (va_up ad n q)) h' o)) := by
    apply List.map_congr_left
    intro o ho
    have ho := List.mem_range.mp ho
    have hag : ∀ o, o < n → va_up ad n q o = ad o := fun o ho => va_up_ne ad q (by omega)
    obtain ⟨k1, k2, k3⟩ := hk o ho
    rw [hag o ho, jw_e_congr k1 k2 k3, jw_e_agree (by omega) hag (fun i a => hv o i a ho)]
  rw [h1]
  simp [va_up_self]
theorem jw_z_keep (h : jv_H) {n o : Nat} (ho : o < n) : (jv_z h n).1 o = h.1 o ∧ (jv_z h n).2.1 o = h.2.1 o ∧ (jv_z h n).2.2 o = h.2.2 o := by
  have hne : o ≠ n := by omega
  refine ⟨?_, ?_, ?_⟩ <;> (funext j; simp [jv_z, hne])
theorem jw_z_hv {h : jv_H} {n : Nat} (hv : jw_hv h n) : jw_hv (jv_z h n) (n + 1) := by
  intro o i a ho ha
  by_cases hon : o = n
  · subst hon
    simp [jv_z] at ha
  · have : h.2.2 o i = some a := by simpa [jv_z, hon] using ha
    exact Nat.lt_succ_of_lt (hv o i a (by omega) this)
theorem jw_uI_hv {h : jv_H} {n o i : Nat} {v : Int32} (hv : jw_hv h n) : jw_hv (jv_uI h o i v) n := hv
theorem jw_uL_hv {h : jv_H} {n o i : Nat} {v : Int64} (hv : jw_hv h n) : jw_hv (jv_uL h o i v) n := hv
theorem jw_uR_hv {h : jv_H} {n o i a : Nat} (hv : jw_hv h n) (ha : a < n) : jw_hv (jv_uR h o i (some a)) n := by
  intro p j q hp hq
  simp only [jv_uR] at hq
  split at hq
  · cases hq; exact ha
  · exact hv p j q hp hq
/-- the world in a heap -/
def jw_tys (aC : Nat → ClassId) : List (ClassId × FieldType) := [(aC 0, .int), (aC 1, .long), (aC 2, .boolean), (aC 3, .object "LadderMaker$Ratio"), (aC 4, .object "LadderMaker$Ladder"), (aC 5, .object "LadderMaker$Bins"), (aC 6, .object "LadderMaker$Holder")]
