/-! ===== runs and methods ===== -/
theorem jw_sl_len (f : Nat → Nat) : ∀ as : List Value, (lg_sl (as.map (jw_v f))).length = jv_cat as
  | [] => rfl
  | v :: r => by
    have ih := jw_sl_len f r
    unfold lg_sl at ih ⊢
    simp only [List.map_cons, List.flatMap_cons, List.length_append, jv_cat, ih, jw_v_cat]
    rcases lv_cat v with h | h <;> simp [h]
theorem jw_ent_get (f : Nat → Nat) : ∀ (as : List Value) (n i j : Nat) (v : Value), (jv_ent as n)[j]? = some v → jw_kn v → (i + j, jw_v f v) ∈ lv_args i (as.map (jw_v f))
  | [], n, i, j, v, h, hk => by
    simp only [jv_ent] at h
    have := List.mem_of_getElem? h
    rw [(List.mem_replicate.mp this).2] at hk
    exact hk.elim
  | w :: r, 0, i, j, v, h, hk => by
    cases w <;> simp [jv_ent] at h
  | w :: r, n + 1, i, j, v, h, hk => by
    have hone : w.category = 1 → jv_ent (w :: r) (n + 1) = w :: jv_ent r n → (i + j, jw_v f v) ∈ lv_args i ((w :: r).map (jw_v f)) := by
      intro hc he
      rw [he] at h
      simp only [List.map_cons, lv_args, jw_v_cat, hc]
      cases j with
      | zero =>
        simp at h
        subst h
        exact List.mem_cons_self
      | succ j =>
        rw [List.getElem?_cons_succ] at h
        refine List.mem_cons_of_mem _ ?_
        rw [if_neg (by decide), show i + (j + 1) = i + 1 + j by omega]
        exact jw_ent_get f r n (i + 1) j v h hk
    have htwo : w.category = 2 → (∃ t, jv_ent (w :: r) (n + 1) = w :: t ∧ (t = [] ∨ ∃ n', t = .retAddr 0 :: jv_ent r n')) → (i + j, jw_v f v) ∈ lv_args i ((w :: r).map (jw_v f)) := by
      rintro hc ⟨t, he, ht⟩
      rw [he] at h
      simp only [List.map_cons, lv_args, jw_v_cat, hc]
      cases j with
      | zero =>
        simp at h
        subst h
        exact List.mem_cons_self
      | succ j =>
        rw [List.getElem?_cons_succ] at h
        refine List.mem_cons_of_mem _ ?_
        rw [if_pos trivial]
        rcases ht with ht | ⟨n', ht⟩
        · rw [ht] at h
          simp at h
        · rw [ht] at h
          cases j with
          | zero =>
            simp at h
            subst h
            exact hk.elim
          | succ j =>
            rw [List.getElem?_cons_succ] at h
            rw [show i + (j + 1 + 1) = i + 2 + j by omega]
            exact jw_ent_get f r n' (i + 2) j v h hk
    cases w with
    | long x => exact htwo rfl ⟨_, rfl, by cases n with | zero => exact Or.inl rfl | succ n => exact Or.inr ⟨n, rfl⟩⟩
    | double x => exact htwo rfl ⟨_, rfl, by cases n with | zero => exact Or.inl rfl | succ n => exact Or.inr ⟨n, rfl⟩⟩
    | int x => exact hone rfl rfl
    | float x => exact hone rfl rfl
    | null => exact hone rfl rfl
    | ref x => exact hone rfl rfl
    | retAddr x => exact hone rfl rfl
theorem jw_ent_ok {n : Nat} : ∀ (as : List Value) (q : Nat), jw_oks n as → jw_oks n (jv_ent as q)
  | [], q, _ => by
    intro v hv
    simp only [jv_ent] at hv
    rw [(List.mem_replicate.mp hv).2]
    exact trivial
  | w :: r, 0, _ => by
    intro v hv
    cases w <;> simp [jv_ent] at hv
  | w :: r, q + 1, h => by
    have h1 := (jw_oks_cons.mp h).1
    have h2 := (jw_oks_cons.mp h).2
    cases w with
    | long x =>
      cases q with
      | zero => exact jw_oks_cons.mpr ⟨trivial, fun _ z => by cases z⟩
      | succ q => exact jw_oks_cons.mpr ⟨trivial, jw_oks_cons.mpr ⟨trivial, jw_ent_ok r q h2⟩⟩
    | double x =>
      cases q with
      | zero => exact jw_oks_cons.mpr ⟨trivial, fun _ z => by cases z⟩
      | succ q => exact jw_oks_cons.mpr ⟨trivial, jw_oks_cons.mpr ⟨trivial, jw_ent_ok r q h2⟩⟩
    | int x => exact jw_oks_cons.mpr ⟨h1, jw_ent_ok r q h2⟩
    | float x => exact jw_oks_cons.mpr ⟨h1, jw_ent_ok r q h2⟩
    | null => exact jw_oks_cons.mpr ⟨h1, jw_ent_ok r q h2⟩
    | ref x => exact jw_oks_cons.mpr ⟨h1, jw_ent_ok r q h2⟩
    | retAddr x => exact jw_oks_cons.mpr ⟨h1, jw_ent_ok r q h2⟩
theorem jw_find_mem : ∀ (bs : List jv_B) (pc : Nat) (x : Option (List Bool) × List jv_E), jv_find bs pc = some x → (pc, x) ∈ bs
  | [], _, _, h => by cases h
  | (q, y) :: r, pc, x, h => by
    simp only [jv_find] at h
    split at h
    · rename_i hb
      cases h
      rw [Nat.eq_of_beq_eq_true hb]
      exact List.mem_cons_self
    · exact List.mem_cons_of_mem _ (jw_find_mem r pc x h)
set_option maxRecDepth 100000 in
theorem jw_az_all : ∀ y, y < 276 → (MTT y).2.1 = 0 → (MTT y).2.2.1 = 0 := by decide +kernel
theorem jw_az (y : Nat) (h : (MTT y).2.1 = 0) : (MTT y).2.2.1 = 0 := by
  rcases Nat.lt_or_ge y 276 with hy | hy
  · exact jw_az_all y hy h
  · obtain ⟨z, rfl⟩ : ∃ z, y = z + 276 := ⟨y - 276, by omega⟩
    exact absurd (show m_Law_law.2.1 = 0 from h) (by decide)
section
variable {p : Program} {l : Launch} {e : Env} {R : Room} {s : State} {m : MethodId} {args : Array Value} {below : List Frame} {meth : Method} {c : Code} {Z : State → Prop}
variable {D : va_G} {aC : Nat → ClassId} {b B : Nat} {X : jv_X} {M : jv_M} {n0 d : Nat} {ad0 : Nat → Nat} {cc : ByteArray} {o : Nat} {ini : Bool}
theorem jw_run_W (Cx : jw_Cx p s m args c R D aC b B X M d cc o) (hini : ini = true → meth.name = "<init>") (hSn : ∀ d', d = d' + 1 → jw_Snd l X d') {Q : jv_Q}
    (hret : ∀ (ins : Instr) (pc : Nat) (v : Option Value) (h : jv_H) (k : Nat) (ls : List Value), decode cc pc = .ok (ins, 1) → jw_rv ins M.1 v → jv_ret SHT M n0 k v h Q → jw_Wp p l e R s m args below meth c Z D aC b B M n0 ad0 pc ls v.toList h k)
    (hck : jw_meth cc o ini M = true) {pc : Nat} {cs : List jv_E} {ls st : List Value} {h : jv_H} {k : Nat} (hbk : jw_blk cc o ini M.2.2.2.1 pc cs = true) (H : jv_run SHT X M n0 d (jv_call SHT X MTT d) Q pc cs ls st h k) : jw_Wp p l e R s m args below meth c Z D aC b B M n0 ad0 pc ls st h k := by
  refine H (fun pc cs ls st h k => jw_blk cc o ini M.2.2.2.1 pc cs = true → jw_Wp p l e R s m args below meth c Z D aC b B M n0 ad0 pc ls st h k) ?_ hbk
  intro pc cs ls st h k Hg hb
  cases cs with
  | nil =>
    unfold jv_go at Hg
    dsimp only at Hg
    have hfm : ∀ x, jv_find M.2.2.2.2 pc = some x → jw_blk cc o ini M.2.2.2.1 pc x.2 = true := fun x hx => List.all_eq_true.mp hck (pc, x) (jw_find_mem _ _ _ hx)
    split at Hg
    · exact Hg.elim
    · rename_i hf
      exact Hg (hfm _ hf)
    · rename_i mk cs' hf
      intro ad lsm HH locs ⟨h1, h2, hr⟩
      exact Hg (hfm _ hf) ad lsm HH locs ⟨jw_L_mask mk h1, jw_oks_mask h2, hr⟩
  | cons en cs =>
    simp only [jw_blk, Bool.and_eq_true] at hb
    exact jw_step (P := fun pc cs ls st h k => jw_blk cc o ini M.2.2.2.1 pc cs = true → jw_Wp p l e R s m args below meth c Z D aC b B M n0 ad0 pc ls st h k) Cx hini hSn hret (fun pc cs ls st h k z hbk => z hbk) hb.1 hb.2 Hg
end
theorem jw_snd_of (l : Launch) (X : jv_X) (d : Nat) (hSn : ∀ d', d = d' + 1 → jw_Snd l X d') : jw_Snd l X d := by
  intro y as n h Q Hc hMF hn hoa hhv D aC b B ad
  have hMF2 := hMF
  rcases hI : jw_MI y with ⟨nm, cb, ml, rt, oc, ic⟩
  unfold jw_MF at hMF2
  rw [hI] at hMF2
  obtain ⟨w1, w2, w3, w4, w5, w6, w7, w8, w9, w10⟩ := hMF2
  have hws : jw_ws y = Cond.code nm cb ml rt :: jw_gd := by unfold jw_ws; rw [hI]
  unfold jv_call at Hc
  split at Hc
  · rename_i hcat
    have hcat := Nat.le_of_ble_eq_true hcat
    refine Met.ofW (cc := cb) (maxL := ml) (ret := rt) w3 hws ?_
    intro p e s m args below meth c s₁ Bd hml hv
    obtain ⟨rfl, ⟨hK, hNx⟩, hX, hB, hP, hD⟩ := hv
    have hts0 := atoms_spec (ws := jw_ws y) Bd.pre
    have hown : s.vm.findClass nm.cls = some m.cls := findClass_of_methodNamed Bd.named
    have hnm : meth.name = nm.name := (name_of_methodNamed Bd.named Bd.method).1
    have hlk := Bd.notSynchronized
    have Cx : jw_Cx p s m (as.map (jw_v (jw_a b ad))).toArray c (jw_rmm d y) D aC b B X (MTT y) d cb oc := ⟨Bd.exec, Bd.bytes, by rw [hml, w8], by rw [w5]; exact hown, fun w hw => hts0 w (by rw [hws]; exact List.mem_cons_of_mem _ hw), ⟨hK, hNx⟩, hX, hB, ⟨Nat.le_refl _, Nat.le_refl _, Nat.le_refl _, Nat.le_refl _⟩⟩
    have key := jw_run_W (e := e) (below := below) (meth := meth) (l := l) (Z := MQ below (jw_Qc D aC b B n (MTT y).2.1 (MTT y).2.2.1 ad Q) (as.map (jw_v (jw_a b ad))).toArray s (MTT y).2.1 (MTT y).2.2.1 (fun q => B ≤ q)) (n0 := n) (ad0 := ad) (ini := ic) Cx (fun hi => hnm.trans (w6 hi)) hSn (Q := Q) ?_ w10 (pc := 0) (cs := []) rfl Hc
    · have hl := lv_entry (as.map (jw_v (jw_a b ad))) (n := ml) (by rw [jw_sl_len, ← w8]; exact hcat)
      rw [lg_entry_eq]
      have K := key ad _ s.heap [] ⟨⟨by rw [w8]; exact hl.1, hl.2.1, fun i v hi hk => by
          have := jw_ent_get (jw_a b ad) as _ 0 i v hi hk
          rw [Nat.zero_add] at this
          exact hl.2.2 (i, jw_v (jw_a b ad) v) this⟩, jw_ent_ok as _ hoa, (fun _ z => by cases z), hhv, ⟨Nat.zero_le _, Nat.le_add_right _ _⟩, hn, hP, hD, va_S.rf, fun q _ => rfl⟩
      rw [show jv_S SHT (n + 0) - jv_S SHT n = 0 by rw [Nat.add_zero, Nat.sub_self]] at K
      exact K
    · intro ins pc v h' k ls hdec hrv hret ad' lsm H locs St
      obtain ⟨h1, h2, h3, h4, h5, h6, h7, h8, h9, h10⟩ := St
      have hks : (k = (MTT y).2.1 ∧ jv_S SHT (n + k) = jv_S SHT n + (MTT y).2.2.1) ∧ Q v h' := by
        unfold jv_ret at hret
        split at hret
        · rename_i hz
          have hk0 : k = 0 := by rw [hz] at h5; omega
          exact ⟨⟨by rw [hz]; exact hk0, by rw [jw_az y hz, hk0]; rfl⟩, hret⟩
        · exact hret
      obtain ⟨⟨hk, hS⟩, hQ⟩ := hks
      subst hk
      rw [hS, Nat.add_sub_cancel_left]
      have hok : ∀ w, v = some w → jw_ok (n + (MTT y).2.1) w := fun w hw => h3 w (by rw [hw]; exact List.mem_singleton_self w)
      have hq : ∀ t : State, t.heap = H → s.WarmedH t.vm → jw_Qc D aC b B n (MTT y).2.1 (MTT y).2.2.1 ad Q (as.map (jw_v (jw_a b ad))).toArray s (.returned (v.map (jw_v (jw_a b ad')))) t := fun t ht _ => ⟨⟨v, h', ad', rfl, hQ, h10, h6, hS, hok, h4, by rw [ht]; exact h7, h8⟩, h9.F ht⟩
      have hr := Bd.returns
      rcases hrv with ⟨rfl, hm, z, rfl⟩ | ⟨rfl, hm, z, rfl, hz⟩ | ⟨rfl, hm, z, rfl⟩ | ⟨rfl, hm, hz⟩ | ⟨rfl, hm, rfl⟩
      · rw [hm] at w7
        exact W.iret Bd.exec Bd.bytes (hr.trans w7) hq h9.2.2 hdec hlk
      · rw [hm] at w7
        exact W.zret Bd.exec Bd.bytes (hr.trans w7) (by rcases hz with rfl | rfl <;> rfl) hq h9.2.2 hdec hlk
      · rw [hm] at w7
        exact W.lret Bd.exec Bd.bytes (hr.trans w7) hq h9.2.2 hdec hlk
      · rw [hm] at w7
        obtain ⟨C, w7⟩ := w7
        rcases hz with ⟨q, rfl⟩ | rfl
        · exact W.aret Bd.exec Bd.bytes (hr.trans w7) (Or.inl ⟨C, rfl⟩) (Or.inr ⟨_, rfl⟩) hq h9.2.2 hdec hlk
        · exact W.aret Bd.exec Bd.bytes (hr.trans w7) (Or.inl ⟨C, rfl⟩) (Or.inl rfl) hq h9.2.2 hdec hlk
      · rw [hm] at w7
        exact W.vret Bd.exec Bd.bytes (hr.trans w7) hq h9.2.2 hdec hlk
  · exact Hc.elim
theorem jw_sound (l : Launch) (X : jv_X) : ∀ d, jw_Snd l X d
  | 0 => jw_snd_of l X 0 (fun d' h => by omega)
  | d + 1 => jw_snd_of l X (d + 1) (fun d' h => by
      have : d' = d := by omega
      rw [this]
      exact jw_sound l X d)
