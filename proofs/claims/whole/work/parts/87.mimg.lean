/-! ===== the reference: copy, image, undo ===== -/
def lgc (c : Nat) : Bool := c < 2 || (5 < c && c < 12) || c = 15 || c = 16
def lnc (c : Nat) : Nat := if c < 2 then 156 else if c = 2 ∨ c = 3 ∨ c = 6 ∨ c = 7 then 72 else if c < 10 then 6 else if c < 14 then 30 else if c = 14 then 3 else 24
theorem used_b {K : zK} {c j : Nat} (b : bdK K) (u : used K c j) : c < 20 ∧ j < lnc c := by
  obtain ⟨b1, b2, _⟩ := b
  unfold used at u
  unfold lnc
  rcases u with ⟨z, u⟩ | ⟨z, u⟩ | ⟨z, u⟩ | ⟨z, u⟩ | ⟨z, u⟩ | ⟨z, u⟩
  · rw [if_pos (by omega)]
    omega
  · rw [if_neg (by omega), if_pos (by omega)]
    omega
  · rw [if_neg (by omega), if_neg (by omega), if_pos (by omega)]
    omega
  · rw [if_neg (by omega), if_neg (by omega), if_neg (by omega), if_pos (by omega)]
    omega
  · rw [if_neg (by omega), if_neg (by omega), if_neg (by omega), if_neg (by omega), if_pos (by omega)]
    omega
  · rw [if_neg (by omega), if_neg (by omega), if_neg (by omega), if_neg (by omega), if_neg (by omega)]
    omega
theorem MKg.cg2 {a s a' s' : Nat → Nat} {h h' : jv_H} {K : zK} (k : MKg a s h K) (b : bdK K) (e1 : ∀ c j, used K c j → lgc c = false → h'.1 (a' c) j = h.1 (a c) j) (e2 : ∀ c j, used K c j → lgc c = true → h'.2.1 (a' c) j = h.2.1 (a c) j) (es : ∀ c, c < 5 → h'.1 171 (s' c) = h.1 171 (s c)) : MKg a' s' h' K := by
  obtain ⟨⟨k1, k2⟩, ⟨k3, k4⟩, k5, ⟨k6, k7, k8⟩, k9⟩ := k
  obtain ⟨b1, b2, b3, b4, b5⟩ := b
  have eu : ∀ u v j, lgc u = true → lgc v = true → used K u j → used K v j → uq h' (a' u) (a' v) j = uq h (a u) (a v) j := fun u v j l1 l2 h1 h2 => by
    unfold uq
    rw [e2 u j h1 l1, e2 v j h2 l2]
  refine ⟨⟨by rw [es 0 (by decide)]; exact k1, fun r hr i hi => ?_⟩, ⟨by rw [es 1 (by decide)]; exact k3, fun l hl => ?_⟩, fun t ht => ?_, ⟨by rw [es 2 (by decide)]; exact k6, by rw [es 4 (by decide)]; exact k7, fun j hj => ?_⟩, by rw [es 3 (by decide)]; exact k9⟩
  · rw [eu 0 1 _ rfl rfl (by unfold used; omega) (by unfold used; omega), eu 0 1 _ rfl rfl (by unfold used; omega) (by unfold used; omega)]
    exact k2 r hr i hi
  · obtain ⟨m1, m2, m3, m4⟩ := k4 l hl
    have hs := b3 l hl
    refine ⟨by rw [e1 4 l (by unfold used; omega) rfl]; exact m1, by rw [e1 5 l (by unfold used; omega) rfl]; exact m2, fun z => by rw [eu 8 9 _ rfl rfl (by unfold used; omega) (by unfold used; omega)]; exact m3 z, fun j hj => ?_⟩
    rw [e1 2 _ (by unfold used; omega) rfl, e1 3 _ (by unfold used; omega) rfl, eu 6 7 _ rfl rfl (by unfold used; omega) (by unfold used; omega)]
    exact m4 j hj
  · obtain ⟨m1, m2⟩ := k5 t ht
    have hs := b4 t ht
    refine ⟨by rw [e1 14 t (by unfold used; omega) rfl]; exact m1, fun j hj => ?_⟩
    rw [eu 10 11 _ rfl rfl (by unfold used; omega) (by unfold used; omega), e1 12 _ (by unfold used; omega) rfl, e1 13 _ (by unfold used; omega) rfl]
    exact m2 j hj
  · rw [e1 17 j (by unfold used; omega) rfl, e1 18 j (by unfold used; omega) rfl, e1 19 j (by unfold used; omega) rfl, eu 15 16 _ rfl rfl (by unfold used; omega) (by unfold used; omega)]
    exact k8 j hj
/-- rows that were copied: from, to, length, of longs -/
def cps (h0 h : jv_H) (L : List (Nat × Nat × Nat × Bool)) : Prop := oT (fun q _ => q ∈ L.map (fun x => x.2.1)) (fun q _ => q ∈ L.map (fun x => x.2.1)) h0 h ∧ ∀ x, x ∈ L → ∀ j, j < x.2.2.1 → (x.2.2.2 = true → h.2.1 x.2.1 j = h0.2.1 x.1 j) ∧ (x.2.2.2 = false → h.1 x.2.1 j = h0.1 x.1 j)
theorem cps.r {h0 h : jv_H} {L : List (Nat × Nat × Nat × Bool)} (c : cps h0 h L) (mr : MR h0) : MR h := mr.mv c.1
theorem cps_0 (h : jv_H) : cps h h [] := ⟨oT.rf, fun x hx => absurd hx (by simp)⟩
section
variable (X : jv_X) (d : Nat) (h : jv_H) (K : jv_H → Prop) (KI : Int32 → jv_H → Prop) (Z : zZ)
theorem cp1_l (Q : jv_Q) (s e n : Nat) (hs : SHT s = (1, n)) (he : SHT e = (1, n)) (s2 : s < 227) (e2 : e < 227) (hn : n ≤ 240) (ne : s ≠ e) (h0 : jv_H) (hQ : ∀ h', oT zI (fun q _ => q = e) h0 h' → (∀ j, j < n → h'.2.1 e j = h0.2.1 s j) → Q none h') : ∀ (m k : Nat) (x : Int32) (h : jv_H), x.toInt = k → k + m = n → oT zI (fun q _ => q = e) h0 h → (∀ j, j < k → h.2.1 e j = h0.2.1 s j) → a_Model_copies1_2 X d 227 Q s e x h 0
  | 0, k, x, h, hx, hm, o, c => by
    have en : (Int32.ofNat (SHT s).2).toInt = n := by rw [hs]; exact Int32.toInt_ofNat_of_lt (by show n < _; omega)
    exact r_Model_copies1_2 X d 227 Q s e x h ⟨⟨s2, by rw [hs]; show 1 < 7; omega⟩, fun _ => hQ h o (fun j hj => c j (by omega)), fun z => absurd (nz_le.mpr (by rw [en, hx]; omega)) z⟩
  | m + 1, k, x, h, hx, hm, o, c => by
    have en : (Int32.ofNat (SHT s).2).toInt = n := by rw [hs]; exact Int32.toInt_ofNat_of_lt (by show n < _; omega)
    refine r_Model_copies1_2 X d 227 Q s e x h ⟨⟨s2, by rw [hs]; show 1 < 7; omega⟩, fun z => ?_, fun _ => ⟨jx hs s2 (by omega) (by omega), jx he e2 (by omega) (by omega), ?_⟩⟩
    · have := nz_le.mp z
      rw [en, hx] at this
      omega
    · rw [nz_nat hx]
      have o2 : oT zI (fun q _ => q = e) h (jv_uL h e k (jv_gL h s k)) := oT.rf.uL rfl
      refine cp1_l Q s e n hs he s2 e2 hn ne h0 hQ m (k + 1) _ _ (nz_inc hx (by omega)) (by omega) (o.tr o2) (fun j hj => ?_)
      by_cases z : j = k
      · rw [z, uL_eq]
        exact o.2.2 s k ne
      · rw [uL_ne (by omega)]
        exact c j (by omega)
theorem cp2_l (Q : jv_Q) (s e n : Nat) (hs : SHT s = (0, n)) (he : SHT e = (0, n)) (s2 : s < 227) (e2 : e < 227) (hn : n ≤ 240) (ne : s ≠ e) (h0 : jv_H) (hQ : ∀ h', oT (fun q _ => q = e) nL h0 h' → (∀ j, j < n → h'.1 e j = h0.1 s j) → Q none h') : ∀ (m k : Nat) (x : Int32) (h : jv_H), x.toInt = k → k + m = n → oT (fun q _ => q = e) nL h0 h → (∀ j, j < k → h.1 e j = h0.1 s j) → a_Model_copies2_2 X d 227 Q s e x h 0
  | 0, k, x, h, hx, hm, o, c => by
    have en : (Int32.ofNat (SHT s).2).toInt = n := by rw [hs]; exact Int32.toInt_ofNat_of_lt (by show n < _; omega)
    exact r_Model_copies2_2 X d 227 Q s e x h ⟨⟨s2, by rw [hs]; show 0 < 7; omega⟩, fun _ => hQ h o (fun j hj => c j (by omega)), fun z => absurd (nz_le.mpr (by rw [en, hx]; omega)) z⟩
  | m + 1, k, x, h, hx, hm, o, c => by
    have en : (Int32.ofNat (SHT s).2).toInt = n := by rw [hs]; exact Int32.toInt_ofNat_of_lt (by show n < _; omega)
    refine r_Model_copies2_2 X d 227 Q s e x h ⟨⟨s2, by rw [hs]; show 0 < 7; omega⟩, fun z => ?_, fun _ => ⟨jx hs s2 (by omega) (by omega), jx he e2 (by omega) (by omega), ?_⟩⟩
    · have := nz_le.mp z
      rw [en, hx] at this
      omega
    · rw [nz_nat hx]
      have o2 : oT (fun q _ => q = e) nL h (jv_uI h e k (jv_gI h s k)) := oT.rf.uI rfl
      refine cp2_l Q s e n hs he s2 e2 hn ne h0 hQ m (k + 1) _ _ (nz_inc hx (by omega)) (by omega) (o.tr o2) (fun j hj => ?_)
      by_cases z : j = k
      · rw [z, uI_eq]
        exact o.2.1 s k ne
      · rw [uI_ne (by omega)]
        exact c j (by omega)
theorem cps_1 {h0 h h' : jv_H} {L : List (Nat × Nat × Nat × Bool)} {s e n : Nat} (c : cps h0 h L) (n1 : s ∉ L.map (fun x => x.2.1)) (n2 : e ∉ L.map (fun x => x.2.1)) (o : oT zI (fun q _ => q = e) h h') (v : ∀ j, j < n → h'.2.1 e j = h.2.1 s j) : cps h0 h' ((s, e, n, true) :: L) := by
  refine ⟨(c.1.mono (fun q j z => List.mem_cons_of_mem _ z) (fun q j z => List.mem_cons_of_mem _ z)).tr (o.mono (fun _ _ z => z.elim) (fun q j z => by rw [z]; exact List.mem_cons_self)), fun x hx j hj => ?_⟩
  rcases List.mem_cons.mp hx with z | z
  · subst z
    exact ⟨fun _ => (v j hj).trans (c.1.2.2 s j n1), fun y => by cases y⟩
  · have ne : x.2.1 ≠ e := fun y => n2 (by rw [← y]; exact List.mem_map_of_mem z)
    have := c.2 x z j hj
    exact ⟨fun y => (o.2.2 _ _ ne).trans (this.1 y), fun y => (o.2.1 _ _ (fun q => q)).trans (this.2 y)⟩
theorem cps_2 {h0 h h' : jv_H} {L : List (Nat × Nat × Nat × Bool)} {s e n : Nat} (c : cps h0 h L) (n1 : s ∉ L.map (fun x => x.2.1)) (n2 : e ∉ L.map (fun x => x.2.1)) (o : oT (fun q _ => q = e) nL h h') (v : ∀ j, j < n → h'.1 e j = h.1 s j) : cps h0 h' ((s, e, n, false) :: L) := by
  refine ⟨(c.1.mono (fun q j z => List.mem_cons_of_mem _ z) (fun q j z => List.mem_cons_of_mem _ z)).tr (o.mono (fun q j z => by rw [z]; exact List.mem_cons_self) (fun _ _ z => z.elim)), fun x hx j hj => ?_⟩
  rcases List.mem_cons.mp hx with z | z
  · subst z
    exact ⟨(fun y => by cases y), fun _ => (v j hj).trans (c.1.2.1 s j n1)⟩
  · have ne : x.2.1 ≠ e := fun y => n2 (by rw [← y]; exact List.mem_map_of_mem z)
    have := c.2 x z j hj
    exact ⟨fun y => (o.2.2 _ _ (fun q => q)).trans (this.1 y), fun y => (o.2.1 _ _ ne).trans (this.2 y)⟩
theorem m_cp1 (h0 : jv_H) (L : List (Nat × Nat × Nat × Bool)) (s e n : Nat) (hs : SHT s = (1, n)) (he : SHT e = (1, n)) (s2 : s < 227) (e2 : e < 227) (hn : n ≤ 240) (ne : s ≠ e) (n1 : s ∉ L.map (fun x => x.2.1)) (n2 : e ∉ L.map (fun x => x.2.1)) (c : cps h0 h L) (hK : ∀ h', cps h0 h' ((s, e, n, true) :: L) → K h') : jV X (d + 1) y_Model_copies1 [.ref s, .ref e] 227 h K :=
  r_Model_copies1 X d 227 _ s e h (cp1_l X d _ s e n hs he s2 e2 hn ne h (fun h' o v => hK h' (cps_1 c n1 n2 o v)) n 0 0 h rfl (by omega) oT.rf (fun j hj => absurd hj (Nat.not_lt_zero _)))
theorem m_cp2 (h0 : jv_H) (L : List (Nat × Nat × Nat × Bool)) (s e n : Nat) (hs : SHT s = (0, n)) (he : SHT e = (0, n)) (s2 : s < 227) (e2 : e < 227) (hn : n ≤ 240) (ne : s ≠ e) (n1 : s ∉ L.map (fun x => x.2.1)) (n2 : e ∉ L.map (fun x => x.2.1)) (c : cps h0 h L) (hK : ∀ h', cps h0 h' ((s, e, n, false) :: L) → K h') : jV X (d + 1) y_Model_copies2 [.ref s, .ref e] 227 h K :=
  r_Model_copies2 X d 227 _ s e h (cp2_l X d _ s e n hs he s2 e2 hn ne h (fun h' o v => hK h' (cps_2 c n1 n2 o v)) n 0 0 h rfl (by omega) oT.rf (fun j hj => absurd hj (Nat.not_lt_zero _)))
def lsI : List (Nat × Nat × Nat × Bool) := [(192, 226, 24, false), (191, 225, 24, false), (190, 224, 24, false), (189, 220, 24, true), (188, 219, 24, true), (187, 223, 3, false), (186, 222, 30, false), (185, 221, 30, false), (184, 218, 30, true), (183, 217, 30, true), (178, 216, 6, false), (177, 215, 6, false), (176, 214, 72, false), (175, 213, 72, false), (182, 212, 6, true), (181, 211, 6, true), (180, 210, 72, true), (179, 209, 72, true), (174, 208, 156, true), (173, 207, 156, true)]
def lsU : List (Nat × Nat × Nat × Bool) := [(226, 192, 24, false), (225, 191, 24, false), (224, 190, 24, false), (220, 189, 24, true), (219, 188, 24, true), (223, 187, 3, false), (222, 186, 30, false), (221, 185, 30, false), (218, 184, 30, true), (217, 183, 30, true), (216, 178, 6, false), (215, 177, 6, false), (214, 176, 72, false), (213, 175, 72, false), (212, 182, 6, true), (211, 181, 6, true), (210, 180, 72, true), (209, 179, 72, true), (208, 174, 156, true), (207, 173, 156, true)]
theorem lsI_c : ∀ c, c < 20 → (nA c, iA c, lnc c, lgc c) ∈ lsI := by decide
theorem lsU_c : ∀ c, c < 20 → (iA c, nA c, lnc c, lgc c) ∈ lsU := by decide
theorem lsI_d : ∀ q, q ∈ lsI.map (fun x => x.2.1) → 207 ≤ q ∧ q < 227 := by decide
theorem lsU_d : ∀ q, q ∈ lsU.map (fun x => x.2.1) → 173 ≤ q ∧ q < 193 := by decide
end
