/-! THE CLAIM OUT OF ONE WALK OF THE LAW'S BODY. Your part is whole_start (and what it stands on); all else here is the same for every law, but numbers. -/
def R_law : String := "LadderMakerLaw"
def lw_P (b : Addr) (xs : List Int32) (args : Array Value) (s : State) : Prop := args = #[.ref b] ∧ s.IntsAt b xs ∧ xs.length ≤ 3072 ∧ (Jvm.Cond.and given_1 narrow_1).before args s = true
def lw_Q (_ : Array Value) (s : State) (o : Outcome) (t : State) : Prop := o = .returned (some (.int 1)) ∧ Framed s o t [] 600000 7302250
def lw_Z (below : List Frame) (a : Array Value) (s : State) : State → Prop := fun t => ∃ o, t.status = .running ∧ Ended t below o ∧ lw_Q a s o t
/-- the law's own end, with 1 on the stack, nothing written that was there before, its room as the claim has it -/
theorem lw_ret {p : Program} {l : Launch} {e : Env} {s : State} {m : MethodId} {below : List Frame} {meth : Method} {c : Code} {b : Nat} (hx : p.tables.exec = Jvm.exec) (hb : c.code = code) (hr : meth.sig.returnType = ret) (hlocks : meth.locks = false) {pc : Nat} {H : Heap} {ls : Array Slot} (hdg : decode code pc = .ok (.ireturn, 1)) : W p l e room_1 s m #[Value.ref b] below meth c H [] 600000 7302250 (lw_Z below #[Value.ref b] s) (F0 m pc ls [.int 1]) := by
  intro T hT X
  obtain ⟨fs, hret, hrun, hended, hW, hframe⟩ := X.leave (v := some (.int 1)) (hlocks := hlocks) (fun h => by rw [hr] at h; cases h)
  have hmeth' : T.vm.method? m = some meth := X.method'
  refine ⟨T.setFrames fs, ?_, .returned (some (.int 1)), hrun, hended, rfl, ⟨_, rfl⟩, hW, hframe⟩
  jvm_step X.here [X.here.top, hx, hb, hdg, hmeth', hr, ret, narrow_b1]
  (try refine ⟨rfl, ?_⟩); (try refine ⟨rfl, ?_⟩)
  first | (intro acts; rw [hret _ acts rfl rfl rfl]) | rw [hret _ _ rfl rfl rfl]
  exact Steps.refl _
/-- what holds at the law's entry: the machine, the code, the tables' words (any of lw_tbl by 'hts w (by decide +kernel)'), the script of L ints xs at the cell b, what the Statement gives of the start (any of its parts by flat_of_before) -/
def lw_At (p : Program) (s : State) (m : MethodId) (meth : Method) (c : Code) (b L : Nat) (xs : Nat → Int32) : Prop :=
  p.tables.exec = Jvm.exec ∧ c.code = code ∧ meth.sig.returnType = ret ∧ c.maxLocals = 4 ∧ s.vm.findClass R_law = some m.cls ∧ (∀ w ∈ lw_tbl, w.before #[Value.ref b] s = true) ∧ va_X b L xs s s.heap ∧ b < s.heap.size ∧ meth.locks = false ∧ (Jvm.Cond.and given_1 narrow_1).before #[Value.ref b] s = true
/-- the law's run on the small machine, from an empty store -/
def jw_law : Prop := ∀ (L : Nat) (xs : Nat → Int32), L ≤ 3072 → jv_run SHT (L, xs) m_Law_law 0 8 (jv_call SHT (L, xs) MTT 8) (fun v _ => v = some (.int 1)) 0 [] [.ref 999999, .retAddr 0, .retAddr 0, .retAddr 0] [] (fun _ _ => 0, fun _ _ => 0, fun _ _ => none) 0
set_option maxHeartbeats 4000000 in
set_option maxRecDepth 100000 in
theorem jw_start {args : Array Value} {s : State} (hts : ∀ w ∈ lw_tbl, w.before args s = true) : ∃ (D : va_G) (aC : Nat → ClassId), va_K D vwCl (jw_tys aC) s := by
  obtain ⟨c0, i0, hK0⟩ := u_known (C := RX0) (T := TX0) (N := 4) (n := 4) hts inX0 (hts (.instantiable RX0 4) (List.mem_of_getElem? (i := 265) (by decide +kernel)))
  obtain ⟨c1, i1, hK1⟩ := u_known (C := RX1) (T := TX1) (N := 4) (n := 4) hts inX1 (hts (.instantiable RX1 4) (List.mem_of_getElem? (i := 123) (by decide +kernel)))
  obtain ⟨c2, i2, hK2⟩ := u_known (C := RX3) (T := TX3) (N := 6) (n := 6) hts inX3 (hts (.instantiable RX3 6) (List.mem_of_getElem? (i := 319) (by decide +kernel)))
  obtain ⟨c3, i3, hK3⟩ := u_known (C := RX4) (T := TX4) (N := 6) (n := 6) hts inX4 (hts (.instantiable RX4 6) (List.mem_of_getElem? (i := 221) (by decide +kernel)))
  obtain ⟨c4, i4, hK4⟩ := u_known (C := RX5) (T := TX5) (N := 1) (n := 1) hts inX5 (hts (.instantiable RX5 1) (List.mem_of_getElem? (i := 129) (by decide +kernel)))
  obtain ⟨c5, i5, hK5⟩ := u_known (C := RX6) (T := TX6) (N := 2) (n := 2) hts inX6 (hts (.instantiable RX6 2) (List.mem_of_getElem? (i := 201) (by decide +kernel)))
  obtain ⟨c6, i6, hK6⟩ := u_known (C := RX7) (T := TX7) (N := 5) (n := 5) hts inX7 (hts (.instantiable RX7 5) (List.mem_of_getElem? (i := 98) (by decide +kernel)))
  obtain ⟨c7, i7, hK7⟩ := u_known (C := RX8) (T := TX8) (N := 6) (n := 6) hts inX8 (hts (.instantiable RX8 6) (List.mem_of_getElem? (i := 171) (by decide +kernel)))
  obtain ⟨c8, i8, hK8⟩ := u_known (C := RX9) (T := TX9) (N := 7) (n := 7) hts inX9 (hts (.instantiable RX9 7) (List.mem_of_getElem? (i := 159) (by decide +kernel)))
  obtain ⟨c9, i9, hK9⟩ := u_known (C := RX10) (T := TX10) (N := 6) (n := 6) hts inX10 (hts (.instantiable RX10 6) (List.mem_of_getElem? (i := 90) (by decide +kernel)))
  obtain ⟨c10, i10, hK10⟩ := u_known (C := RX11) (T := TX11) (N := 74) (n := 74) hts inX11 (hts (.instantiable RX11 74) (List.mem_of_getElem? (i := 1061) (by decide +kernel)))
  obtain ⟨dC, dI, hKc⟩ : ∃ (dC : Nat → ClassId) (dI : Nat → Nat → Nat), ∀ (k : Nat) (q : vw_C), vwCl[k]? = some q → u_Kn s q.1 q.2.1 q.2.2 (dC k) (dI k) := by
    refine ⟨fun k => if k = 0 then c0 else if k = 1 then c1 else if k = 2 then c2 else if k = 3 then c3 else if k = 4 then c4 else if k = 5 then c5 else if k = 6 then c6 else if k = 7 then c7 else if k = 8 then c8 else if k = 9 then c9 else c10, fun k => if k = 0 then i0 else if k = 1 then i1 else if k = 2 then i2 else if k = 3 then i3 else if k = 4 then i4 else if k = 5 then i5 else if k = 6 then i6 else if k = 7 then i7 else if k = 8 then i8 else if k = 9 then i9 else i10, ?_⟩
    intro k q hq
    match k, hq with
    | 0, hq => cases hq; exact hK0
    | 1, hq => cases hq; exact hK1
    | 2, hq => cases hq; exact hK2
    | 3, hq => cases hq; exact hK3
    | 4, hq => cases hq; exact hK4
    | 5, hq => cases hq; exact hK5
    | 6, hq => cases hq; exact hK6
    | 7, hq => cases hq; exact hK7
    | 8, hq => cases hq; exact hK8
    | 9, hq => cases hq; exact hK9
    | 10, hq => cases hq; exact hK10
    | k + 11, hq => simp [vwCl] at hq
  obtain ⟨a0, k0, m0, f0, g0, e0⟩ := Cond.arrayClass_spec (hts _ jq_arr_int)
  obtain ⟨a1, k1, m1, f1, g1, e1⟩ := Cond.arrayClass_spec (hts _ jq_arr_long)
  obtain ⟨a2, k2, m2, f2, g2, e2⟩ := Cond.arrayClass_spec (hts _ jq_arr_boolean)
  obtain ⟨m3, a3, k3, f3, -, g3, e3, r3⟩ := Cond.arrayOver_spec (hts _ jq_ov_0)
  obtain ⟨m4, a4, k4, f4, -, g4, e4, r4⟩ := Cond.arrayOver_spec (hts _ jq_ov_1)
  obtain ⟨m5, a5, k5, f5, -, g5, e5, r5⟩ := Cond.arrayOver_spec (hts _ jq_ov_2)
  obtain ⟨m6, a6, k6, f6, -, g6, e6, r6⟩ := Cond.arrayOver_spec (hts _ jq_ov_3)
  refine ⟨(dC, dI), fun j => if j = 0 then a0 else if j = 1 then a1 else if j = 2 then a2 else if j = 3 then a3 else if j = 4 then a4 else if j = 5 then a5 else a6, hKc, ?_⟩
  intro k q hq
  match k, hq with
  | 0, hq => cases hq; exact ⟨fun n z => ⟨fun k h => (by cases h), k0, g0, m0, e0⟩, f0⟩
  | 1, hq => cases hq; exact ⟨fun n z => ⟨fun k h => (by cases h), k1, g1, m1, e1⟩, f1⟩
  | 2, hq => cases hq; exact ⟨fun n z => ⟨fun k h => (by cases h), k2, g2, m2, e2⟩, f2⟩
  | 3, hq => cases hq; exact ⟨fun n z => ⟨fun k h => (by cases h), k3, g3, m3, e3⟩, k3, m3, g3, e3, f3, r3⟩
  | 4, hq => cases hq; exact ⟨fun n z => ⟨fun k h => (by cases h), k4, g4, m4, e4⟩, k4, m4, g4, e4, f4, r4⟩
  | 5, hq => cases hq; exact ⟨fun n z => ⟨fun k h => (by cases h), k5, g5, m5, e5⟩, k5, m5, g5, e5, f5, r5⟩
  | 6, hq => cases hq; exact ⟨fun n z => ⟨fun k h => (by cases h), k6, g6, m6, e6⟩, k6, m6, g6, e6, f6, r6⟩
  | k + 7, hq => simp [jw_tys] at hq
set_option maxHeartbeats 4000000 in
set_option maxRecDepth 100000 in
theorem whole_start_of (hlaw : jw_law) {p : Program} {e : Env} {s : State} {m : MethodId} {below : List Frame} {meth : Method} {c : Code} (l : Launch) (hflags : l.flags = flags0) {b L : Nat} {xs : Nat → Int32} (hL : L ≤ 3072) (C0 : lw_At p s m meth c b L xs) : W p l e room_1 s m #[Value.ref b] below meth c s.heap [] 0 0 (lw_Z below #[Value.ref b] s) (entryFrame m ([Value.ref b] : List Value).toArray 4) := by
  obtain ⟨hx, hb, hr, hml, hown, hts, hX, hbl, hlocks, hgv⟩ := C0
  obtain ⟨D, aC, hK⟩ := jw_start hts
  have hNx : jw_Nx s := by
    refine ⟨fun w hw hn => ?_, fun j hj => ?_⟩
    · have h1 := hts w hw
      cases w <;> first | (exact absurd hn (by decide)) | (exact absurd hn Bool.false_ne_true) | exact va_Nw.of rfl h1
    · match j, hj with
      | 0, _ => exact va_AO.of (hts _ jq_ov_0)
      | 1, _ => exact va_AO.of (hts _ jq_ov_1)
      | 2, _ => exact va_AO.of (hts _ jq_ov_2)
      | 3, _ => exact va_AO.of (hts _ jq_ov_3)
  have Cx : jw_Cx p s m #[Value.ref b] c room_1 D aC b s.heap.size (L, xs) m_Law_law 8 code 13 := ⟨hx, hb, hml, hown, fun w hw => hts w (List.mem_filter.mp hw).1, ⟨hK, hNx⟩, hX, ⟨hbl, Nat.le_refl _⟩, ⟨by decide, by decide, by decide, by decide⟩⟩
  have key := jw_run_W (e := e) (below := below) (meth := meth) (l := l) (Z := lw_Z below #[Value.ref b] s) (n0 := 0) (ad0 := fun _ => 0) (ini := false) Cx (fun h => by cases h) (fun d' _ => jw_sound l (L, xs) d') (Q := fun v _ => v = some (.int 1)) ?_ ck_Law_law (pc := 0) (cs := []) rfl (hlaw L xs hL)
  · have hl := lv_entry ([.ref b]) (n := 4) (Nat.le_of_ble_eq_true rfl)
    rw [lg_entry_eq]
    have K := key (fun _ => 0) _ s.heap [] ⟨⟨hl.1, hl.2.1, fun i v hi hk => by
        match i, hi with
        | 0, hi => cases hi; exact hl.2.2 (0, .ref b) List.mem_cons_self
        | 1, hi => cases hi; exact hk.elim
        | 2, hi => cases hi; exact hk.elim
        | 3, hi => cases hi; exact hk.elim
        | i + 4, hi => simp at hi⟩, jw_oks_cons.mpr ⟨Or.inr rfl, jw_oks_cons.mpr ⟨trivial, jw_oks_cons.mpr ⟨trivial, jw_oks_cons.mpr ⟨trivial, fun _ z => by cases z⟩⟩⟩⟩, (fun _ z => by cases z), (fun o i a h => by omega), ⟨Nat.zero_le _, Nat.zero_le _⟩, Nat.zero_le _, (fun k q h => by simp [jw_W] at h), ⟨(fun i j p q h => by simp [jw_W] at h), (fun k q h => by simp [jw_W] at h)⟩, va_S.rf, fun q h => by omega⟩
    exact K
  · intro ins pc v h' k ls hdec hrv hret ad' lsm H locs St
    obtain ⟨h1, h2, h3, h4, h5, h6, h7, h8, h9, h10⟩ := St
    have hQ : v = some (.int 1) := by
      unfold jv_ret at hret
      split at hret
      · exact hret
      · exact hret.2
    subst hQ
    have hi : ins = .ireturn := by
      rcases hrv with ⟨h, -⟩ | ⟨h, -⟩ | ⟨-, h, -⟩ | ⟨-, h, -⟩ | ⟨-, h, -⟩
      · exact h
      · exact h
      · exact absurd h (by decide)
      · exact absurd h (by decide)
      · exact absurd h (by decide)
    subst hi
    refine va_forget (fun q hq => h9.2.2 q hq) ?_
    refine W.widen (k := 600000) (n := 7302250) ?_ ?_ ?_
    · have : k ≤ 227 := h5.1
      omega
    · have : jv_S SHT (0 + k) ≤ 0 + 4151 := h5.2
      omega
    · exact lw_ret hx hb hr hlocks hdec
