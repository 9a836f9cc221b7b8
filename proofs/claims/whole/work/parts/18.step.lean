/-! ===== every step ===== -/
section
variable {p : Program} {l : Launch} {e : Env} {R : Room} {s : State} {m : MethodId} {args : Array Value} {below : List Frame} {meth : Method} {c : Code} {Z : State → Prop}
variable {D : va_G} {aC : Nat → ClassId} {b B : Nat} {X : jv_X} {M : jv_M} {n0 d : Nat} {ad0 : Nat → Nat} {cc : ByteArray} {o : Nat} {ini : Bool}
set_option maxHeartbeats 8000000 in
set_option maxRecDepth 100000 in
theorem jw_step (Cx : jw_Cx p s m args c R D aC b B X M d cc o) (hini : ini = true → meth.name = "<init>") (hSn : ∀ d', d = d' + 1 → jw_Snd l X d') {Q : jv_Q}
    (hret : ∀ (ins : Instr) (pc : Nat) (v : Option Value) (h : jv_H) (k : Nat) (ls : List Value), decode cc pc = .ok (ins, 1) → jw_rv ins M.1 v → jv_ret SHT M n0 k v h Q → jw_Wp p l e R s m args below meth c Z D aC b B M n0 ad0 pc ls v.toList h k)
    {P : jv_P} (hP : ∀ pc cs ls st h k, P pc cs ls st h k → jw_blk cc o ini M.2.2.2.1 pc cs = true → jw_Wp p l e R s m args below meth c Z D aC b B M n0 ad0 pc ls st h k)
    {pc : Nat} {en : jv_E} {cs : List jv_E} {ls st : List Value} {h : jv_H} {k : Nat} (hck : jw_e1 cc o ini M.2.2.2.1 pc en = true) (hbk : jw_blk cc o ini M.2.2.2.1 (pc + en.2.1) cs = true)
    (H : jv_st SHT X M n0 d (jv_call SHT X MTT d) Q P pc en cs ls st h k) : jw_Wp p l e R s m args below meth c Z D aC b B M n0 ad0 pc ls st h k := by
  obtain ⟨hx, hb, hml, hown, hts, ⟨hK, hNx⟩, hX, hB, hR⟩ := id Cx
  obtain ⟨ins, len, x1, x2, xs, ci, cl⟩ := en
  unfold jw_e1 at hck
  rw [Bool.and_eq_true] at hck
  obtain ⟨hdec, hck⟩ := hck
  replace hdec := of_decide_eq_true hdec
  dsimp only at hdec hck hbk
  have hT : ∀ t ls st h k, P t [] ls st h k → jw_Wp p l e R s m args below meth c Z D aC b B M n0 ad0 t ls st h k := fun t ls st h k z => hP _ _ _ _ _ _ z rfl
  cases ins <;> first
    | exact False.elim H
    | skip
  case aconst_null =>
    obtain rfl : len = 1 := Nat.eq_of_beq_eq_true hck
    exact jw_pure (fun f lsm HH locs _ _ K => lv_null hx hb hdec K) (fun n hh => jw_pN hh) (hP _ _ _ _ _ _ H hbk)
  case iconst nn =>
    rw [Bool.and_eq_true] at hck
    obtain ⟨hv, hck⟩ := hck
    obtain rfl : len = 1 := Nat.eq_of_beq_eq_true hck
    exact jw_pure (fun f lsm HH locs _ _ K => lv_iconst hx hb hdec (of_decide_eq_true hv) K) (fun n hh => jw_pI hh) (hP _ _ _ _ _ _ H hbk)
  case bipush nn =>
    rw [Bool.and_eq_true] at hck
    obtain ⟨hv, hck⟩ := hck
    obtain rfl : len = 2 := Nat.eq_of_beq_eq_true hck
    exact jw_pure (fun f lsm HH locs _ _ K => lv_bipush hx hb hdec (of_decide_eq_true hv) K) (fun n hh => jw_pI hh) (hP _ _ _ _ _ _ H hbk)
  case sipush nn =>
    rw [Bool.and_eq_true] at hck
    obtain ⟨hv, hck⟩ := hck
    obtain rfl : len = 3 := Nat.eq_of_beq_eq_true hck
    exact jw_pure (fun f lsm HH locs _ _ K => lv_sipush hx hb hdec (of_decide_eq_true hv) K) (fun n hh => jw_pI hh) (hP _ _ _ _ _ _ H hbk)
  case lconst nn =>
    rw [Bool.and_eq_true] at hck
    obtain ⟨hv, hck⟩ := hck
    obtain rfl : len = 1 := Nat.eq_of_beq_eq_true hck
    exact jw_pure (fun f lsm HH locs _ _ K => lv_lconst hx hb hdec (of_decide_eq_true hv) K) (fun n hh => jw_pL hh) (hP _ _ _ _ _ _ H hbk)
  case ldc2_w ii =>
    rw [Bool.and_eq_true] at hck
    obtain ⟨hv, hck⟩ := hck
    obtain rfl : len = 3 := Nat.eq_of_beq_eq_true hck
    exact jw_pure (fun f lsm HH locs _ _ K => lv_ldc2 hx hb hown (hts _ (jw_g (jw_KL_ok _ (of_decide_eq_true hv)) rfl)) hdec K) (fun n hh => jw_pL hh) (hP _ _ _ _ _ _ H hbk)
  case iload ii =>
    obtain rfl : len = 2 := Nat.eq_of_beq_eq_true hck
    delta jv_st at H
    (try dsimp only at H)
    delta jv_ldI at H
    (try dsimp only at H)
    split at H
    · rename_i hq
      exact jw_load hq trivial (fun f lsm HH locs _ _ g K => lv_iload hx hb hdec g K) (hP _ _ _ _ _ _ H hbk)
    · exact H.elim
  case iload_n ii =>
    obtain rfl : len = 1 := Nat.eq_of_beq_eq_true hck
    delta jv_st at H
    (try dsimp only at H)
    delta jv_ldI at H
    (try dsimp only at H)
    split at H
    · rename_i hq
      exact jw_load hq trivial (fun f lsm HH locs _ _ g K => lv_iload_n hx hb hdec rfl g K) (hP _ _ _ _ _ _ H hbk)
    · exact H.elim
  case lload ii =>
    obtain rfl : len = 2 := Nat.eq_of_beq_eq_true hck
    delta jv_st at H
    (try dsimp only at H)
    delta jv_ldL at H
    (try dsimp only at H)
    split at H
    · rename_i hq
      exact jw_load hq trivial (fun f lsm HH locs _ _ g K => lv_lload hx hb hdec g K) (hP _ _ _ _ _ _ H hbk)
    · exact H.elim
  case lload_n ii =>
    obtain rfl : len = 1 := Nat.eq_of_beq_eq_true hck
    delta jv_st at H
    (try dsimp only at H)
    delta jv_ldL at H
    (try dsimp only at H)
    split at H
    · rename_i hq
      exact jw_load hq trivial (fun f lsm HH locs _ _ g K => lv_lload_n hx hb hdec rfl g K) (hP _ _ _ _ _ _ H hbk)
    · exact H.elim
  case aload ii =>
    obtain rfl : len = 2 := Nat.eq_of_beq_eq_true hck
    delta jv_st at H
    (try dsimp only at H)
    delta jv_ldA at H
    (try dsimp only at H)
    split at H
    · rename_i hq
      exact jw_load hq trivial (fun f lsm HH locs _ _ g K => lv_aload hx hb hdec g K) (hP _ _ _ _ _ _ H hbk)
    · rename_i hq
      exact jw_load hq trivial (fun f lsm HH locs _ _ g K => lv_aloadN hx hb hdec g K) (hP _ _ _ _ _ _ H hbk)
    · exact H.elim
  case aload_n ii =>
    obtain rfl : len = 1 := Nat.eq_of_beq_eq_true hck
    delta jv_st at H
    (try dsimp only at H)
    delta jv_ldA at H
    (try dsimp only at H)
    split at H
    · rename_i hq
      exact jw_load hq trivial (fun f lsm HH locs _ _ g K => lv_aload_n hx hb hdec rfl g K) (hP _ _ _ _ _ _ H hbk)
    · rename_i hq
      exact jw_load hq trivial (fun f lsm HH locs _ _ g K => lv_aload_nN hx hb hdec rfl g K) (hP _ _ _ _ _ _ H hbk)
    · exact H.elim
  case istore ii =>
    rw [Bool.and_eq_true] at hck
    obtain ⟨hv, hck⟩ := hck
    replace hv := Nat.le_of_ble_eq_true hv
    obtain rfl : len = 2 := Nat.eq_of_beq_eq_true hck
    delta jv_st at H
    (try dsimp only at H)
    delta jv_stI at H
    (try dsimp only at H)
    split at H
    · exact jw_store1 (fun f lsm HH locs _ _ g kk => lv_istore hx hb hdec g hv rfl kk) (hP _ _ _ _ _ _ H hbk)
    · exact H.elim
  case istore_n ii =>
    rw [Bool.and_eq_true] at hck
    obtain ⟨hv, hck⟩ := hck
    replace hv := Nat.le_of_ble_eq_true hv
    obtain rfl : len = 1 := Nat.eq_of_beq_eq_true hck
    delta jv_st at H
    (try dsimp only at H)
    delta jv_stI at H
    (try dsimp only at H)
    split at H
    · exact jw_store1 (fun f lsm HH locs _ _ g kk => lv_istore_n hx hb hdec rfl g hv rfl kk) (hP _ _ _ _ _ _ H hbk)
    · exact H.elim
  case lstore ii =>
    rw [Bool.and_eq_true] at hck
    obtain ⟨hv, hck⟩ := hck
    replace hv := Nat.le_of_ble_eq_true hv
    obtain rfl : len = 2 := Nat.eq_of_beq_eq_true hck
    delta jv_st at H
    (try dsimp only at H)
    delta jv_stL at H
    (try dsimp only at H)
    split at H
    · exact jw_store2 (fun f lsm HH locs _ _ g kk => lv_lstore hx hb hdec g hv rfl kk) (hP _ _ _ _ _ _ H hbk)
    · exact H.elim
  case lstore_n ii =>
    rw [Bool.and_eq_true] at hck
    obtain ⟨hv, hck⟩ := hck
    replace hv := Nat.le_of_ble_eq_true hv
    obtain rfl : len = 1 := Nat.eq_of_beq_eq_true hck
    delta jv_st at H
    (try dsimp only at H)
    delta jv_stL at H
    (try dsimp only at H)
    split at H
    · exact jw_store2 (fun f lsm HH locs _ _ g kk => lv_lstore_n hx hb hdec rfl g hv rfl kk) (hP _ _ _ _ _ _ H hbk)
    · exact H.elim
  case astore ii =>
    rw [Bool.and_eq_true] at hck
    obtain ⟨hv, hck⟩ := hck
    replace hv := Nat.le_of_ble_eq_true hv
    obtain rfl : len = 2 := Nat.eq_of_beq_eq_true hck
    delta jv_st at H
    (try dsimp only at H)
    delta jv_stA at H
    (try dsimp only at H)
    split at H
    · exact jw_store1 (fun f lsm HH locs _ _ g kk => lv_astore hx hb hdec g hv rfl kk) (hP _ _ _ _ _ _ H hbk)
    · exact jw_store1 (fun f lsm HH locs _ _ g kk => lv_astoreN hx hb hdec g hv rfl kk) (hP _ _ _ _ _ _ H hbk)
    · exact H.elim
  case astore_n ii =>
    rw [Bool.and_eq_true] at hck
    obtain ⟨hv, hck⟩ := hck
    replace hv := Nat.le_of_ble_eq_true hv
    obtain rfl : len = 1 := Nat.eq_of_beq_eq_true hck
    delta jv_st at H
    (try dsimp only at H)
    delta jv_stA at H
    (try dsimp only at H)
    split at H
    · exact jw_store1 (fun f lsm HH locs _ _ g kk => lv_astore_n hx hb hdec rfl g hv rfl kk) (hP _ _ _ _ _ _ H hbk)
    · exact jw_store1 (fun f lsm HH locs _ _ g kk => lv_astore_nN hx hb hdec rfl g hv rfl kk) (hP _ _ _ _ _ _ H hbk)
    · exact H.elim
  case iinc ii nn =>
    rw [Bool.and_eq_true, Bool.and_eq_true] at hck
    obtain ⟨⟨hv, hlt⟩, hck⟩ := hck
    replace hv := of_decide_eq_true hv
    replace hlt := Nat.le_of_ble_eq_true hlt
    obtain rfl : len = 3 := Nat.eq_of_beq_eq_true hck
    delta jv_st at H
    (try dsimp only at H)
    split at H
    · rename_i xx hq
      intro ad lsm HH locs St
      obtain ⟨h1, h2, hr⟩ := id St
      have hat := jw_nth_at h1 hq trivial
      obtain ⟨kk, hkk⟩ := List.getElem?_of_mem (jw_all_mem.mpr hat)
      exact lv_iinc hx hb hdec (jw_has h1) hkk (by rw [hv]) hlt rfl (fun ls' hl => hP _ _ _ _ _ _ H hbk ad ls' HH locs ⟨jw_L_s1 (v := .int (xx + ci)) h1 hl, jw_oks_s1 h2 trivial, hr⟩)
    · exact H.elim
  case iadd =>
    obtain rfl : len = 1 := Nat.eq_of_beq_eq_true hck
    delta jv_st at H
    (try dsimp only at H)
    delta jv_i2 at H
    (try dsimp only at H)
    split at H
    · exact jw_pure (fun f lsm HH locs _ _ K => lv_iadd hx hb hdec K) (fun n hh => jw_pI (jw_d2 hh)) (hP _ _ _ _ _ _ H hbk)
    · exact H.elim
  case isub =>
    obtain rfl : len = 1 := Nat.eq_of_beq_eq_true hck
    delta jv_st at H
    (try dsimp only at H)
    delta jv_i2 at H
    (try dsimp only at H)
    split at H
    · exact jw_pure (fun f lsm HH locs _ _ K => lv_isub hx hb hdec K) (fun n hh => jw_pI (jw_d2 hh)) (hP _ _ _ _ _ _ H hbk)
    · exact H.elim
  case imul =>
    obtain rfl : len = 1 := Nat.eq_of_beq_eq_true hck
    delta jv_st at H
    (try dsimp only at H)
    delta jv_i2 at H
    (try dsimp only at H)
    split at H
    · exact jw_pure (fun f lsm HH locs _ _ K => lv_imul hx hb hdec K) (fun n hh => jw_pI (jw_d2 hh)) (hP _ _ _ _ _ _ H hbk)
    · exact H.elim
  case iand =>
    obtain rfl : len = 1 := Nat.eq_of_beq_eq_true hck
    delta jv_st at H
    (try dsimp only at H)
    delta jv_i2 at H
    (try dsimp only at H)
    split at H
    · exact jw_pure (fun f lsm HH locs _ _ K => lv_iand hx hb hdec K) (fun n hh => jw_pI (jw_d2 hh)) (hP _ _ _ _ _ _ H hbk)
    · exact H.elim
  case ior =>
    obtain rfl : len = 1 := Nat.eq_of_beq_eq_true hck
    delta jv_st at H
    (try dsimp only at H)
    delta jv_i2 at H
    (try dsimp only at H)
    split at H
    · exact jw_pure (fun f lsm HH locs _ _ K => lv_ior hx hb hdec K) (fun n hh => jw_pI (jw_d2 hh)) (hP _ _ _ _ _ _ H hbk)
    · exact H.elim
  case ishr =>
    obtain rfl : len = 1 := Nat.eq_of_beq_eq_true hck
    delta jv_st at H
    (try dsimp only at H)
    delta jv_i2 at H
    (try dsimp only at H)
    split at H
    · exact jw_pure (fun f lsm HH locs _ _ K => lv_ishr hx hb hdec K) (fun n hh => jw_pI (jw_d2 hh)) (hP _ _ _ _ _ _ H hbk)
    · exact H.elim
  case iushr =>
    obtain rfl : len = 1 := Nat.eq_of_beq_eq_true hck
    delta jv_st at H
    (try dsimp only at H)
    delta jv_i2 at H
    (try dsimp only at H)
    split at H
    · exact jw_pure (fun f lsm HH locs _ _ K => lv_iushr hx hb hdec rfl K) (fun n hh => jw_pI (jw_d2 hh)) (hP _ _ _ _ _ _ H hbk)
    · exact H.elim
  case ladd =>
    obtain rfl : len = 1 := Nat.eq_of_beq_eq_true hck
    delta jv_st at H
    (try dsimp only at H)
    delta jv_l2 at H
    (try dsimp only at H)
    split at H
    · exact jw_pure (fun f lsm HH locs _ _ K => lv_ladd hx hb hdec K) (fun n hh => jw_pL (jw_d2 hh)) (hP _ _ _ _ _ _ H hbk)
    · exact H.elim
  case lsub =>
    obtain rfl : len = 1 := Nat.eq_of_beq_eq_true hck
    delta jv_st at H
    (try dsimp only at H)
    delta jv_l2 at H
    (try dsimp only at H)
    split at H
    · exact jw_pure (fun f lsm HH locs _ _ K => lv_lsub hx hb hdec K) (fun n hh => jw_pL (jw_d2 hh)) (hP _ _ _ _ _ _ H hbk)
    · exact H.elim
  case lmul =>
    obtain rfl : len = 1 := Nat.eq_of_beq_eq_true hck
    delta jv_st at H
    (try dsimp only at H)
    delta jv_l2 at H
    (try dsimp only at H)
    split at H
    · exact jw_pure (fun f lsm HH locs _ _ K => lv_lmul hx hb hdec K) (fun n hh => jw_pL (jw_d2 hh)) (hP _ _ _ _ _ _ H hbk)
    · exact H.elim
  case land =>
    obtain rfl : len = 1 := Nat.eq_of_beq_eq_true hck
    delta jv_st at H
    (try dsimp only at H)
    delta jv_l2 at H
    (try dsimp only at H)
    split at H
    · exact jw_pure (fun f lsm HH locs _ _ K => lv_land hx hb hdec K) (fun n hh => jw_pL (jw_d2 hh)) (hP _ _ _ _ _ _ H hbk)
    · exact H.elim
  case lor =>
    obtain rfl : len = 1 := Nat.eq_of_beq_eq_true hck
    delta jv_st at H
    (try dsimp only at H)
    delta jv_l2 at H
    (try dsimp only at H)
    split at H
    · exact jw_pure (fun f lsm HH locs _ _ K => lv_lor hx hb hdec K) (fun n hh => jw_pL (jw_d2 hh)) (hP _ _ _ _ _ _ H hbk)
    · exact H.elim
  case idiv =>
    obtain rfl : len = 1 := Nat.eq_of_beq_eq_true hck
    delta jv_st at H
    (try dsimp only at H)
    split at H
    · obtain ⟨hne, H⟩ := H
      exact jw_pure (fun f lsm HH locs _ _ K => lv_idiv hx hb hdec hne K) (fun n hh => jw_pI (jw_d2 hh)) (hP _ _ _ _ _ _ H hbk)
    · exact H.elim
  case irem =>
    obtain rfl : len = 1 := Nat.eq_of_beq_eq_true hck
    delta jv_st at H
    (try dsimp only at H)
    split at H
    · obtain ⟨hne, H⟩ := H
      exact jw_pure (fun f lsm HH locs _ _ K => lv_irem hx hb hdec hne K) (fun n hh => jw_pI (jw_d2 hh)) (hP _ _ _ _ _ _ H hbk)
    · exact H.elim
  case ldiv =>
    obtain rfl : len = 1 := Nat.eq_of_beq_eq_true hck
    delta jv_st at H
    (try dsimp only at H)
    split at H
    · obtain ⟨hne, H⟩ := H
      exact jw_pure (fun f lsm HH locs _ _ K => lv_ldiv hx hb hdec hne K) (fun n hh => jw_pL (jw_d2 hh)) (hP _ _ _ _ _ _ H hbk)
    · exact H.elim
  case lrem =>
    obtain rfl : len = 1 := Nat.eq_of_beq_eq_true hck
    delta jv_st at H
    (try dsimp only at H)
    split at H
    · obtain ⟨hne, H⟩ := H
      exact jw_pure (fun f lsm HH locs _ _ K => lv_lrem hx hb hdec hne K) (fun n hh => jw_pL (jw_d2 hh)) (hP _ _ _ _ _ _ H hbk)
    · exact H.elim
  case ineg =>
    obtain rfl : len = 1 := Nat.eq_of_beq_eq_true hck
    delta jv_st at H
    (try dsimp only at H)
    split at H
    · exact jw_pure (fun f lsm HH locs _ _ K => lv_ineg hx hb hdec K) (fun n hh => jw_pI (jw_d1 hh)) (hP _ _ _ _ _ _ H hbk)
    · exact H.elim
  case lneg =>
    obtain rfl : len = 1 := Nat.eq_of_beq_eq_true hck
    delta jv_st at H
    (try dsimp only at H)
    split at H
    · exact jw_pure (fun f lsm HH locs _ _ K => lv_lneg hx hb hdec K) (fun n hh => jw_pL (jw_d1 hh)) (hP _ _ _ _ _ _ H hbk)
    · exact H.elim
  case lshl =>
    obtain rfl : len = 1 := Nat.eq_of_beq_eq_true hck
    delta jv_st at H
    (try dsimp only at H)
    split at H
    · exact jw_pure (fun f lsm HH locs _ _ K => lv_lshl hx hb hdec rfl K) (fun n hh => jw_pL (jw_d2 hh)) (hP _ _ _ _ _ _ H hbk)
    · exact H.elim
  case lshr =>
    obtain rfl : len = 1 := Nat.eq_of_beq_eq_true hck
    delta jv_st at H
    (try dsimp only at H)
    split at H
    · exact jw_pure (fun f lsm HH locs _ _ K => lv_lshr hx hb hdec rfl K) (fun n hh => jw_pL (jw_d2 hh)) (hP _ _ _ _ _ _ H hbk)
    · exact H.elim
  case i2l =>
    obtain rfl : len = 1 := Nat.eq_of_beq_eq_true hck
    delta jv_st at H
    (try dsimp only at H)
    split at H
    · exact jw_pure (fun f lsm HH locs _ _ K => lv_i2l hx hb hdec rfl K) (fun n hh => jw_pL (jw_d1 hh)) (hP _ _ _ _ _ _ H hbk)
    · exact H.elim
  case l2i =>
    obtain rfl : len = 1 := Nat.eq_of_beq_eq_true hck
    delta jv_st at H
    (try dsimp only at H)
    split at H
    · exact jw_pure (fun f lsm HH locs _ _ K => lv_l2i hx hb hdec rfl K) (fun n hh => jw_pI (jw_d1 hh)) (hP _ _ _ _ _ _ H hbk)
    · exact H.elim
  case lcmp =>
    obtain rfl : len = 1 := Nat.eq_of_beq_eq_true hck
    delta jv_st at H
    (try dsimp only at H)
    split at H
    · exact jw_pure (fun f lsm HH locs _ _ K => W.lcmp hx hb hdec K) (fun n hh => jw_pI (jw_d2 hh)) (hP _ _ _ _ _ _ H hbk)
    · exact H.elim
  case pop =>
    obtain rfl : len = 1 := Nat.eq_of_beq_eq_true hck
    delta jv_st at H
    (try dsimp only at H)
    split at H
    · exact jw_pure (fun f lsm HH locs _ _ K => lv_pop hx hb hdec rfl K) (fun n hh => jw_d1 hh) (hP _ _ _ _ _ _ H hbk)
    · exact H.elim
  case dup =>
    obtain rfl : len = 1 := Nat.eq_of_beq_eq_true hck
    delta jv_st at H
    (try dsimp only at H)
    split at H
    · exact jw_pure (fun f lsm HH locs _ _ K => lv_dup hx hb hdec rfl K) (fun n hh => jw_pI hh) (hP _ _ _ _ _ _ H hbk)
    · exact jw_pure (fun f lsm HH locs _ _ K => lv_dup hx hb hdec rfl K) (fun n hh => jw_oks_cons.mpr ⟨(jw_oks_cons.mp hh).1, hh⟩) (hP _ _ _ _ _ _ H hbk)
    · exact H.elim
  case dup2 =>
    obtain rfl : len = 1 := Nat.eq_of_beq_eq_true hck
    delta jv_st at H
    (try dsimp only at H)
    split at H
    · exact jw_pure (fun f lsm HH locs _ _ K => lv_dup2_11 hx hb hdec rfl rfl K) (fun n hh => jw_pI (jw_oks_cons.mpr ⟨(jw_oks_cons.mp (jw_d1 hh)).1, hh⟩)) (hP _ _ _ _ _ _ H hbk)
    · exact H.elim
  case ifCond cnd off =>
    rw [Bool.and_eq_true] at hck
    obtain ⟨ht, hck⟩ := hck
    replace ht := of_decide_eq_true ht
    obtain rfl : len = 3 := Nat.eq_of_beq_eq_true hck
    delta jv_st at H
    (try dsimp only at H)
    split at H
    · cases cnd
      · exact jw_two (fun f lsm HH locs _ _ k1 k2 => lv_if_eq hx hb hdec ht k1 k2) (fun n hh => jw_d1 hh) (fun z => hT _ _ _ _ _ (H.1 z)) (fun z => hP _ _ _ _ _ _ (H.2 z) hbk)
      · exact jw_two (fun f lsm HH locs _ _ k1 k2 => lv_if_ne hx hb hdec ht k1 k2) (fun n hh => jw_d1 hh) (fun z => hT _ _ _ _ _ (H.1 z)) (fun z => hP _ _ _ _ _ _ (H.2 z) hbk)
      · exact jw_two (fun f lsm HH locs _ _ k1 k2 => lv_if_lt hx hb hdec ht k1 k2) (fun n hh => jw_d1 hh) (fun z => hT _ _ _ _ _ (H.1 z)) (fun z => hP _ _ _ _ _ _ (H.2 z) hbk)
      · exact jw_two (fun f lsm HH locs _ _ k1 k2 => lv_if_ge hx hb hdec ht k1 k2) (fun n hh => jw_d1 hh) (fun z => hT _ _ _ _ _ (H.1 z)) (fun z => hP _ _ _ _ _ _ (H.2 z) hbk)
      · exact jw_two (fun f lsm HH locs _ _ k1 k2 => lv_if_gt hx hb hdec ht k1 k2) (fun n hh => jw_d1 hh) (fun z => hT _ _ _ _ _ (H.1 z)) (fun z => hP _ _ _ _ _ _ (H.2 z) hbk)
      · exact jw_two (fun f lsm HH locs _ _ k1 k2 => lv_if_le hx hb hdec ht k1 k2) (fun n hh => jw_d1 hh) (fun z => hT _ _ _ _ _ (H.1 z)) (fun z => hP _ _ _ _ _ _ (H.2 z) hbk)
    · exact H.elim
  case if_icmp cnd off =>
    rw [Bool.and_eq_true] at hck
    obtain ⟨ht, hck⟩ := hck
    replace ht := of_decide_eq_true ht
    obtain rfl : len = 3 := Nat.eq_of_beq_eq_true hck
    delta jv_st at H
    (try dsimp only at H)
    split at H
    · cases cnd
      · exact jw_two (fun f lsm HH locs _ _ k1 k2 => lv_icmp_eq hx hb hdec ht k1 k2) (fun n hh => jw_d2 hh) (fun z => hT _ _ _ _ _ (H.1 z)) (fun z => hP _ _ _ _ _ _ (H.2 z) hbk)
      · exact jw_two (fun f lsm HH locs _ _ k1 k2 => lv_icmp_ne hx hb hdec ht k1 k2) (fun n hh => jw_d2 hh) (fun z => hT _ _ _ _ _ (H.1 z)) (fun z => hP _ _ _ _ _ _ (H.2 z) hbk)
      · exact jw_two (fun f lsm HH locs _ _ k1 k2 => lv_icmp_lt hx hb hdec ht k1 k2) (fun n hh => jw_d2 hh) (fun z => hT _ _ _ _ _ (H.1 z)) (fun z => hP _ _ _ _ _ _ (H.2 z) hbk)
      · exact jw_two (fun f lsm HH locs _ _ k1 k2 => lv_icmp_ge hx hb hdec ht k1 k2) (fun n hh => jw_d2 hh) (fun z => hT _ _ _ _ _ (H.1 z)) (fun z => hP _ _ _ _ _ _ (H.2 z) hbk)
      · exact jw_two (fun f lsm HH locs _ _ k1 k2 => lv_icmp_gt hx hb hdec ht k1 k2) (fun n hh => jw_d2 hh) (fun z => hT _ _ _ _ _ (H.1 z)) (fun z => hP _ _ _ _ _ _ (H.2 z) hbk)
      · exact jw_two (fun f lsm HH locs _ _ k1 k2 => lv_icmp_le hx hb hdec ht k1 k2) (fun n hh => jw_d2 hh) (fun z => hT _ _ _ _ _ (H.1 z)) (fun z => hP _ _ _ _ _ _ (H.2 z) hbk)
    · exact H.elim
  case goto off =>
    rw [Bool.and_eq_true] at hck
    obtain ⟨ht, hck⟩ := hck
    replace ht := of_decide_eq_true ht
    obtain rfl : len = 3 := Nat.eq_of_beq_eq_true hck
    exact jw_pure (fun f lsm HH locs _ _ K => lv_goto hx hb hdec ht K) (fun n hh => hh) (hT _ _ _ _ _ H)
  case ifnull off =>
    rw [Bool.and_eq_true] at hck
    obtain ⟨ht, hck⟩ := hck
    replace ht := of_decide_eq_true ht
    obtain rfl : len = 3 := Nat.eq_of_beq_eq_true hck
    delta jv_st at H
    (try dsimp only at H)
    split at H
    · exact jw_pure (fun f lsm HH locs _ _ K => lv_ifnull hx hb hdec K) (fun n hh => jw_d1 hh) (hP _ _ _ _ _ _ H hbk)
    · exact jw_pure (fun f lsm HH locs _ _ K => lv_ifnullN hx hb hdec ht K) (fun n hh => jw_d1 hh) (hT _ _ _ _ _ H)
    · exact H.elim
  case ifnonnull off =>
    rw [Bool.and_eq_true] at hck
    obtain ⟨ht, hck⟩ := hck
    replace ht := of_decide_eq_true ht
    obtain rfl : len = 3 := Nat.eq_of_beq_eq_true hck
    delta jv_st at H
    (try dsimp only at H)
    split at H
    · exact jw_pure (fun f lsm HH locs _ _ K => lv_ifnonnull hx hb hdec ht K) (fun n hh => jw_d1 hh) (hT _ _ _ _ _ H)
    · exact jw_pure (fun f lsm HH locs _ _ K => lv_ifnonnullN hx hb hdec K) (fun n hh => jw_d1 hh) (hP _ _ _ _ _ _ H hbk)
    · exact H.elim
  case tableswitch dflt lo hi offs =>
    rw [Bool.and_eq_true, Bool.and_eq_true] at hck
    obtain ⟨⟨c1, c2⟩, c3⟩ := hck
    replace c1 := of_decide_eq_true c1
    replace c2 := of_decide_eq_true c2
    replace c3 := of_decide_eq_true c3
    delta jv_st at H
    (try dsimp only at H)
    split at H
    · rename_i xx st'
      rcases jv_sw_spec _ _ _ H with ⟨j, t, g1, g2, g3⟩ | ⟨g1, g2⟩
      · have hjl : j < xs.length := (List.getElem?_eq_some_iff.mp g1).1
        have hj : (offs.toList.map (fun z => (pc : Int) + z))[j]? = some (t : Int) := by
          rw [c2, List.getElem?_map, g1]
          rfl
        rw [List.getElem?_map] at hj
        cases ho : offs.toList[j]? with
        | none => rw [ho] at hj; cases hj
        | some off =>
          rw [ho] at hj
          have hoff : (pc : Int) + off = (t : Int) := Option.some.inj hj
          exact jw_pure (fun f lsm HH locs _ _ K => lv_tableIn hx hb hdec (by omega) (by omega) (by rw [show (xx.toInt - lo).toNat = j by omega, ← Array.getElem?_toList]; exact ho) hoff K) (fun n hh => jw_d1 hh) (hT _ _ _ _ _ g3)
      · exact jw_pure (fun f lsm HH locs _ _ K => lv_tableOut hx hb hdec (by omega) c1 K) (fun n hh => jw_d1 hh) (hT _ _ _ _ _ g2)
    · exact H.elim
  case lookupswitch dflt ps =>
    rw [Bool.and_eq_true, Bool.and_eq_true] at hck
    obtain ⟨⟨c1, c2⟩, c3⟩ := hck
    replace c1 := of_decide_eq_true c1
    replace c2 := of_decide_eq_true c2
    delta jv_st at H
    (try dsimp only at H)
    split at H
    · obtain ⟨t, g1, g2⟩ := jv_lk_spec _ _ _ c2 c1 H
      exact jw_pure (fun f lsm HH locs _ _ K => lv_lookup hx hb hdec c3 rfl g1 K) (fun n hh => jw_d1 hh) (hT _ _ _ _ _ g2)
    · exact H.elim
  case getfield ii =>
    rw [Bool.and_eq_true] at hck
    obtain ⟨hv, hck⟩ := hck
    obtain rfl : len = 3 := Nat.eq_of_beq_eq_true hck
    delta jv_st at H
    (try dsimp only at H)
    split at H
    · obtain ⟨his, H⟩ := H
      unfold jv_gf at H
      have hF : ∀ kd, xs = [kd] → ∃ fin, jw_FF (o, ii, x1, x2, kd, fin) := by
        intro kd hk
        rw [hk] at hv
        dsimp only at hv
        rw [Bool.or_eq_true, Bool.or_eq_true] at hv
        rcases hv with (hv | hv) | hv
        · exact ⟨_, jw_FL_ok _ (of_decide_eq_true hv)⟩
        · exact ⟨_, jw_FL_ok _ (of_decide_eq_true hv)⟩
        · exact ⟨_, jw_FL_ok _ (of_decide_eq_true hv)⟩
      split at H
      · obtain ⟨fin, hF⟩ := hF _ rfl
        exact jw_getfield (v := .int _) Cx hF hdec his (fun f => rfl) (fun _ => trivial) (hP _ _ _ _ _ _ H hbk)
      · obtain ⟨fin, hF⟩ := hF _ rfl
        exact jw_getfield (v := .int _) Cx hF hdec his (fun f => rfl) (fun _ => trivial) (hP _ _ _ _ _ _ H hbk)
      · obtain ⟨fin, hF⟩ := hF _ rfl
        exact jw_getfield (v := .long _) Cx hF hdec his (fun f => rfl) (fun _ => trivial) (hP _ _ _ _ _ _ H hbk)
      · obtain ⟨fin, hF⟩ := hF _ rfl
        obtain ⟨q, hq, H⟩ := H
        exact jw_getfield (v := .ref q) Cx hF hdec his (fun f => by show va_rf ((jv_gR h _ _).map f) = _; rw [hq]; rfl) (fun hv => Or.inl (hv _ _ _ his.1 hq)) (hP _ _ _ _ _ _ H hbk)
      · exact H.elim
    · exact H.elim
  case putfield ii =>
    rw [Bool.and_eq_true] at hck
    obtain ⟨hv, hck⟩ := hck
    obtain rfl : len = 3 := Nat.eq_of_beq_eq_true hck
    delta jv_st at H
    (try dsimp only at H)
    unfold jv_pf at H
    have hF : ∀ kd, xs = [kd] → ∃ fin, jw_FF (o, ii, x1, x2, kd, fin) ∧ (fin = 0 ∨ (fin = 1 ∧ ini = true)) := by
      intro kd hk
      rw [hk] at hv
      dsimp only at hv
      rw [Bool.or_eq_true, Bool.and_eq_true] at hv
      rcases hv with hv | ⟨hi, hv⟩
      · exact ⟨_, jw_FL_ok _ (of_decide_eq_true hv), Or.inl rfl⟩
      · exact ⟨_, jw_FL_ok _ (of_decide_eq_true hv), Or.inr ⟨rfl, hi⟩⟩
    split at H
    · split at H
      · rename_i vv qq st'
        obtain ⟨his, H⟩ := H
        obtain ⟨fin, hF, hfin⟩ := hF _ rfl
        exact jw_putfield (ini := ini) (v := .int vv) Cx hini hF hfin hdec his (fun ty f ht => by have ht : ty = .int := ht; subst ht; exact ⟨rfl, rfl⟩) (fun hk f => jw_uI_fs hk (by decide) (by decide)) (fun w hw => jw_uI_oth h _ _ _ hw) (fun hn hh hok => hh) (hP _ _ _ _ _ _ H hbk)
      · exact H.elim
    · split at H
      · rename_i vv qq st'
        obtain ⟨his, h01, H⟩ := H
        obtain ⟨fin, hF, hfin⟩ := hF _ rfl
        exact jw_putfield (ini := ini) (v := .int vv) Cx hini hF hfin hdec his (fun ty f ht => by have ht : ty = .boolean := ht; subst ht; rcases h01 with rfl | rfl <;> exact ⟨rfl, rfl⟩) (fun hk f => jw_uI_fs hk (by decide) (by decide)) (fun w hw => jw_uI_oth h _ _ _ hw) (fun hn hh hok => hh) (hP _ _ _ _ _ _ H hbk)
      · exact H.elim
    · split at H
      · rename_i vv qq st'
        obtain ⟨his, H⟩ := H
        obtain ⟨fin, hF, hfin⟩ := hF _ rfl
        exact jw_putfield (ini := ini) (v := .long vv) Cx hini hF hfin hdec his (fun ty f ht => by have ht : ty = .long := ht; subst ht; exact ⟨rfl, rfl⟩) (fun hk f => jw_uL_fs hk) (fun w hw => jw_uL_oth h _ _ _ hw) (fun hn hh hok => hh) (hP _ _ _ _ _ _ H hbk)
      · exact H.elim
    · split at H
      · rename_i vv qq st'
        obtain ⟨his, hlt, H⟩ := H
        obtain ⟨fin, hF, hfin⟩ := hF _ rfl
        exact jw_putfield (ini := ini) (v := .ref vv) Cx hini hF hfin hdec his (fun ty f ht => by have ht : (∃ C, ty = .object C) ∨ (∃ t, ty = .array t) := ht; rcases ht with ⟨C, rfl⟩ | ⟨t, rfl⟩ <;> exact ⟨rfl, rfl⟩) (fun hk f => jw_uR_fs hk) (fun w hw => jw_uR_oth h _ _ _ hw) (fun hn hh hok => jw_uR_hv hh hlt) (hP _ _ _ _ _ _ H hbk)
      · exact H.elim
    · exact H.elim
  case arraylength =>
    obtain rfl : len = 1 := Nat.eq_of_beq_eq_true hck
    delta jv_st at H
    (try dsimp only at H)
    split at H
    · split at H
      · exact jw_alen Cx hdec H.1 (hP _ _ _ _ _ _ H.2 hbk)
      · obtain ⟨rfl, H⟩ := H
        exact jw_slen Cx hdec (hP _ _ _ _ _ _ H hbk)
    · exact H.elim
  case iaload =>
    obtain rfl : len = 1 := Nat.eq_of_beq_eq_true hck
    delta jv_st at H
    (try dsimp only at H)
    split at H
    · split at H
      · exact jw_iaload Cx hdec H.1 (hP _ _ _ _ _ _ H.2 hbk)
      · obtain ⟨⟨rfl, hi⟩, H⟩ := H
        exact jw_sld Cx hdec hi (hP _ _ _ _ _ _ H hbk)
    · exact H.elim
  case baload =>
    obtain rfl : len = 1 := Nat.eq_of_beq_eq_true hck
    delta jv_st at H
    (try dsimp only at H)
    split at H
    · exact jw_baload Cx hdec H.1 (hP _ _ _ _ _ _ H.2 hbk)
    · exact H.elim
  case laload =>
    obtain rfl : len = 1 := Nat.eq_of_beq_eq_true hck
    delta jv_st at H
    (try dsimp only at H)
    split at H
    · exact jw_laload Cx hdec H.1 (hP _ _ _ _ _ _ H.2 hbk)
    · exact H.elim
  case aaload =>
    obtain rfl : len = 1 := Nat.eq_of_beq_eq_true hck
    delta jv_st at H
    (try dsimp only at H)
    split at H
    · obtain ⟨i1, i2, q, i3, H⟩ := H
      exact jw_aaload Cx hdec i1 i2 i3 (hP _ _ _ _ _ _ H hbk)
    · exact H.elim
  case iastore =>
    obtain rfl : len = 1 := Nat.eq_of_beq_eq_true hck
    delta jv_st at H
    (try dsimp only at H)
    split at H
    · exact jw_iastore Cx hdec H.1 (hP _ _ _ _ _ _ H.2 hbk)
    · exact H.elim
  case lastore =>
    obtain rfl : len = 1 := Nat.eq_of_beq_eq_true hck
    delta jv_st at H
    (try dsimp only at H)
    split at H
    · exact jw_lastore Cx hdec H.1 (hP _ _ _ _ _ _ H.2 hbk)
    · exact H.elim
  case bastore =>
    obtain rfl : len = 1 := Nat.eq_of_beq_eq_true hck
    delta jv_st at H
    (try dsimp only at H)
    split at H
    · exact jw_bastore Cx hdec H.1 H.2.1 (hP _ _ _ _ _ _ H.2.2 hbk)
    · exact H.elim
  case aastore =>
    rw [Bool.and_eq_true] at hck
    obtain ⟨hv, hck⟩ := hck
    obtain rfl : len = 1 := Nat.eq_of_beq_eq_true hck
    delta jv_st at H
    (try dsimp only at H)
    have hci : x1 < 4 ∧ ∃ (T : u_T) (N : Nat), vwCl[x2]? = some (jw_ac x1, T, N) := by
      match x1, hv with
      | 0, hv => exact ⟨by decide, _, _, by rw [Nat.eq_of_beq_eq_true hv]; rfl⟩
      | 1, hv => exact ⟨by decide, _, _, by rw [Nat.eq_of_beq_eq_true hv]; rfl⟩
      | 2, hv => exact ⟨by decide, _, _, by rw [Nat.eq_of_beq_eq_true hv]; rfl⟩
      | 3, hv => exact ⟨by decide, _, _, by rw [Nat.eq_of_beq_eq_true hv]; rfl⟩
      | _ + 4, hv => exact absurd hv Bool.false_ne_true
    split at H
    · exact jw_aastore Cx hdec H.1 hci.1 H.2.1 hci.2 (hP _ _ _ _ _ _ H.2.2 hbk)
    · exact H.elim
  case new ii =>
    rw [Bool.and_eq_true] at hck
    obtain ⟨hv, hck⟩ := hck
    obtain rfl : len = 3 := Nat.eq_of_beq_eq_true hck
    exact jw_new Cx (jw_NL_ok _ (of_decide_eq_true hv)) hdec H.1.1 H.1.2 (hP _ _ _ _ _ _ H.2 hbk)
  case newarray tt =>
    obtain rfl : len = 2 := Nat.eq_of_beq_eq_true hck
    delta jv_st at H
    (try dsimp only at H)
    split at H
    · exact jw_newarray Cx hdec H.1 (hP _ _ _ _ _ _ H.2 hbk)
    · exact H.elim
  case anewarray ii =>
    rw [Bool.and_eq_true] at hck
    obtain ⟨hv, hck⟩ := hck
    obtain rfl : len = 3 := Nat.eq_of_beq_eq_true hck
    delta jv_st at H
    (try dsimp only at H)
    split at H
    · exact jw_anewarray Cx (jw_AL_ok _ (of_decide_eq_true hv)) hdec H.1 (hP _ _ _ _ _ _ H.2 hbk)
    · exact H.elim
  case invokestatic ii =>
    rw [Bool.and_eq_true] at hck
    obtain ⟨hv, hck⟩ := hck
    obtain rfl : len = 3 := Nat.eq_of_beq_eq_true hck
    have H : jv_iv SHT M n0 d (jv_call SHT X MTT d) P pc (.invokestatic ii, 3, x1, x2, xs, ci, cl) cs ls st h k := H
    exact jw_inv Cx hSn hdec (Or.inl ⟨ii, rfl, hv⟩) (fun ls st h k z => hP _ _ _ _ _ _ z hbk) H
  case invokevirtual ii =>
    rw [Bool.and_eq_true] at hck
    obtain ⟨hv, hck⟩ := hck
    obtain rfl : len = 3 := Nat.eq_of_beq_eq_true hck
    have H : jv_iv SHT M n0 d (jv_call SHT X MTT d) P pc (.invokevirtual ii, 3, x1, x2, xs, ci, cl) cs ls st h k := H
    exact jw_inv Cx hSn hdec (Or.inr (Or.inl ⟨ii, rfl, hv⟩)) (fun ls st h k z => hP _ _ _ _ _ _ z hbk) H
  case invokespecial ii =>
    rw [Bool.and_eq_true] at hck
    obtain ⟨hv, hck⟩ := hck
    obtain rfl : len = 3 := Nat.eq_of_beq_eq_true hck
    have H : jv_iv SHT M n0 d (jv_call SHT X MTT d) P pc (.invokespecial ii, 3, x1, x2, xs, ci, cl) cs ls st h k := H
    exact jw_inv Cx hSn hdec (Or.inr (Or.inr ⟨ii, rfl, hv⟩)) (fun ls st h k z => hP _ _ _ _ _ _ z hbk) H
  case ireturn =>
    obtain rfl : len = 1 := Nat.eq_of_beq_eq_true hck
    delta jv_st at H
    (try dsimp only at H)
    split at H
    · split at H
      · rename_i hm
        exact hret _ _ _ _ _ _ hdec (Or.inl ⟨rfl, hm, _, rfl⟩) H
      · rename_i hm
        exact hret _ _ _ _ _ _ hdec (Or.inr (Or.inl ⟨rfl, hm, _, rfl, H.1⟩)) H.2
      · exact H.elim
    · exact H.elim
  case lreturn =>
    obtain rfl : len = 1 := Nat.eq_of_beq_eq_true hck
    delta jv_st at H
    (try dsimp only at H)
    split at H
    · split at H
      · rename_i hm
        exact hret _ _ _ _ _ _ hdec (Or.inr (Or.inr (Or.inl ⟨rfl, hm, _, rfl⟩))) H
      · exact H.elim
    · exact H.elim
  case areturn =>
    obtain rfl : len = 1 := Nat.eq_of_beq_eq_true hck
    delta jv_st at H
    (try dsimp only at H)
    split at H
    · split at H
      · rename_i hm
        exact hret _ _ _ _ _ _ hdec (Or.inr (Or.inr (Or.inr (Or.inl ⟨rfl, hm, Or.inl ⟨_, rfl⟩⟩)))) H
      · exact H.elim
    · split at H
      · rename_i hm
        exact hret _ _ _ _ _ _ hdec (Or.inr (Or.inr (Or.inr (Or.inl ⟨rfl, hm, Or.inr rfl⟩)))) H
      · exact H.elim
    · exact H.elim
  case return_ =>
    obtain rfl : len = 1 := Nat.eq_of_beq_eq_true hck
    delta jv_st at H
    (try dsimp only at H)
    split at H
    · split at H
      · rename_i hm
        exact hret _ _ _ _ _ _ hdec (Or.inr (Or.inr (Or.inr (Or.inr ⟨rfl, hm, rfl⟩)))) H
      · exact H.elim
    · exact H.elim
end
