/-! ===== calls, as the tables have them ===== -/
def jw_iS (o ii x1 x2 : Nat) (xs : List Nat) : Bool := match xs with
  | [] => decide ((o, ii, x1) ∈ jw_BL) && !(Nat.beq x1 0)
  | [rk, a, z, ci] => decide ((o, ii, x1, 0, x2, rk, a, z, ci) ∈ jw_ML) || decide ((o, ii, x1, 3, x2, rk, a, z, ci) ∈ jw_ML)
  | _ => false
def jw_iV (o ii x1 x2 : Nat) (xs : List Nat) : Bool := match xs with
  | [rk, a, z, ci] => decide ((o, ii, x1, 1, x2, rk, a, z, ci) ∈ jw_ML)
  | _ => false
def jw_iI (o ii x1 x2 : Nat) (xs : List Nat) : Bool := match xs with
  | [] => decide ((o, ii, x1) ∈ jw_BL) && Nat.beq x1 0
  | [rk, a, z, ci] => decide ((o, ii, x1, 2, x2, rk, a, z, ci) ∈ jw_ML) || decide ((o, ii, x1, 5, x2, rk, a, z, ci) ∈ jw_ML)
  | _ => false
def jw_iC (o : Nat) (ins : Instr) (x1 x2 : Nat) (xs : List Nat) : Prop := (∃ ii, ins = .invokestatic ii ∧ jw_iS o ii x1 x2 xs = true) ∨ (∃ ii, ins = .invokevirtual ii ∧ jw_iV o ii x1 x2 xs = true) ∨ (∃ ii, ins = .invokespecial ii ∧ jw_iI o ii x1 x2 xs = true)
theorem jw_iC_user {o : Nat} {ins : Instr} {x1 x2 rk a z ci : Nat} (h : jw_iC o ins x1 x2 [rk, a, z, ci]) : ∃ (idx how : Nat), ins = jw_ih how idx ∧ (o, idx, x1, how, x2, rk, a, z, ci) ∈ jw_ML := by
  rcases h with ⟨ii, rfl, hv⟩ | ⟨ii, rfl, hv⟩ | ⟨ii, rfl, hv⟩
  · simp only [jw_iS, Bool.or_eq_true] at hv
    rcases hv with hv | hv
    · exact ⟨ii, 0, rfl, of_decide_eq_true hv⟩
    · exact ⟨ii, 3, rfl, of_decide_eq_true hv⟩
  · exact ⟨ii, 1, rfl, of_decide_eq_true hv⟩
  · simp only [jw_iI, Bool.or_eq_true] at hv
    rcases hv with hv | hv
    · exact ⟨ii, 2, rfl, of_decide_eq_true hv⟩
    · exact ⟨ii, 5, rfl, of_decide_eq_true hv⟩
set_option maxRecDepth 100000 in
theorem jw_ML_all : jw_ML.all (fun q => (!(Nat.beq q.2.2.2.1 2) && !(Nat.beq q.2.2.2.1 5)) || !(Nat.beq q.2.2.2.2.2.2.1 0)) = true := by decide +kernel
theorem jw_ML_in (q : Nat × Nat × Nat × Nat × Nat × Nat × Nat × Nat × Nat) (hq : q ∈ jw_ML) (h : q.2.2.2.1 = 2 ∨ q.2.2.2.1 = 5) : q.2.2.2.2.2.2.1 ≠ 0 := by
  have h1 := List.all_eq_true.mp jw_ML_all q hq
  intro hz
  rw [hz] at h1
  rcases h with h | h <;> (rw [h] at h1; exact absurd h1 (by decide))
theorem jw_iC_lib {o : Nat} {ins : Instr} {x1 x2 : Nat} (h : jw_iC o ins x1 x2 []) : ∃ idx, jw_BF (o, idx, x1) ∧ ((x1 = 0 ∧ ins = .invokespecial idx) ∨ (x1 ≠ 0 ∧ ins = .invokestatic idx)) := by
  rcases h with ⟨ii, rfl, hv⟩ | ⟨ii, rfl, hv⟩ | ⟨ii, rfl, hv⟩
  · simp only [jw_iS, Bool.and_eq_true, Bool.not_eq_true'] at hv
    exact ⟨ii, jw_BL_ok _ (of_decide_eq_true hv.1), Or.inr ⟨fun z => by rw [z] at hv; exact absurd hv.2 (by decide), rfl⟩⟩
  · exact absurd hv Bool.false_ne_true
  · simp only [jw_iI, Bool.and_eq_true] at hv
    exact ⟨ii, jw_BL_ok _ (of_decide_eq_true hv.1), Or.inl ⟨Nat.eq_of_beq_eq_true hv.2, rfl⟩⟩
section
variable {p : Program} {l : Launch} {e : Env} {R : Room} {s : State} {m : MethodId} {args : Array Value} {below : List Frame} {meth : Method} {c : Code} {Z : State → Prop}
variable {D : va_G} {aC : Nat → ClassId} {b B : Nat} {X : jv_X} {M : jv_M} {n0 d : Nat} {ad0 : Nat → Nat} {cc : ByteArray} {o : Nat} {ini : Bool}
/-- which way a call goes, by its words -/
theorem jw_LF_how {o idx y how na rk a z ci : Nat} (h : jw_LF (o, idx, y, how, na, rk, a, z, ci)) : (how = 1 ∧ ∃ c', ci = c' + 1) ∨ (how ≠ 1 ∧ ci = 0 ∧ ((how = 0 ∨ how = 3) ∨ (how = 2 ∨ how = 5) ∧ 1 ≤ na)) := by
  obtain ⟨-, -, -, -, hh⟩ := h
  dsimp only at hh
  rcases hI : jw_MI y with ⟨nm, r⟩
  rw [hI] at hh
  have hpos : ∀ {t : MethodName}, (parseMethodDescriptor t.desc).map (fun d => d.parameters.length + 1) = some na → 1 ≤ na := by
    intro t ht
    cases hpd : parseMethodDescriptor t.desc with
    | none => rw [hpd] at ht; cases ht
    | some dd =>
      rw [hpd] at ht
      have h9 : dd.parameters.length + 1 = na := Option.some.inj ht
      omega
  revert hh
  match how with
  | 0 => exact fun hh => Or.inr ⟨by decide, hh.2.2.2, Or.inl (Or.inl rfl)⟩
  | 1 => exact fun hh => Or.inl ⟨rfl, hh.2.2.choose, hh.2.2.choose_spec.1⟩
  | 2 => exact fun hh => Or.inr ⟨by decide, hh.2.2.1, Or.inr ⟨Or.inl rfl, hpos hh.2.1⟩⟩
  | 3 => exact fun hh => Or.inr ⟨by decide, hh.2.2.2, Or.inl (Or.inr rfl)⟩
  | 4 => exact fun hh => hh.elim
  | 5 => exact fun hh => Or.inr ⟨by decide, hh.2.2.1, Or.inr ⟨Or.inr rfl, hpos hh.2.1⟩⟩
  | _ + 6 => exact fun hh => hh.elim
theorem jw_inv (Cx : jw_Cx p s m args c R D aC b B X M d cc o) (hSn : ∀ d', d = d' + 1 → jw_Snd l X d') {P : jv_P} {pc x1 x2 : Nat} {xs : List Nat} {ci : Int32} {cl : Int64} {ins : Instr} {cs : List jv_E} {ls st : List Value} {h : jv_H} {k : Nat} (hdec : decode cc pc = .ok (ins, 3)) (hC : jw_iC o ins x1 x2 xs)
    (hP : ∀ ls st h k, P (pc + 3) cs ls st h k → jw_Wp p l e R s m args below meth c Z D aC b B M n0 ad0 (pc + 3) ls st h k)
    (H : jv_iv SHT M n0 d (jv_call SHT X MTT d) P pc (ins, 3, x1, x2, xs, ci, cl) cs ls st h k) : jw_Wp p l e R s m args below meth c Z D aC b B M n0 ad0 pc ls st h k := by
  unfold jv_iv at H
  dsimp only at H
  split at H
  · split at H
    · exact H.elim
    · obtain ⟨idx, hB, hi⟩ := jw_iC_lib hC
      exact jw_bi Cx hB hdec hi hP H
  · unfold jv_inv at H
    dsimp only at H
    split at H
    · exact H.elim
    · rename_i as rest hpop
      split at H
      · exact H.elim
      · rename_i hcat
        have hcat := Nat.le_of_ble_eq_true hcat
        split at H
        · rename_i rk hxs
          rw [hxs] at hC
          obtain ⟨idx, how, hi, hm⟩ := jw_iC_user hC
          have hL := jw_ML_ok _ hm
          subst hi
          have hW := jw_LF_how hL
          intro ad lsm HH locs St
          exact jw_call (K := fun v h' => P (pc + 3) cs ls (v ++ rest) h' k) Cx hSn hL hdec hpop hcat H ⟨by have := St.2.2.2.2.1; omega, by have := St.2.2.2.2.1; omega⟩ (fun z => hW.elim (fun q => by obtain ⟨-, c', hc'⟩ := q; omega) (fun q => absurd z q.1)) (fun z => by
            rcases hW with ⟨z1, -⟩ | ⟨-, -, hW⟩
            · omega
            · exact absurd rfl (jw_ML_in _ hm z)) (fun v h' z => hP _ _ _ _ z) ad lsm HH locs St
        · rename_i rk cj hxs
          rw [hxs] at hC
          obtain ⟨idx, how, hi, hm⟩ := jw_iC_user hC
          have hL := jw_ML_ok _ hm
          subst hi
          have hW := jw_LF_how hL
          split at H
          · rename_i q as'
            intro ad lsm HH locs St
            exact jw_call (K := fun v h' => P (pc + 3) cs ls (v ++ rest) h' k) Cx hSn hL hdec hpop hcat H.2 ⟨by have := St.2.2.2.2.1; omega, by have := St.2.2.2.2.1; omega⟩ (fun _ => ⟨q, as', rfl, H.1⟩) (fun _ => ⟨q, as', rfl, H.1.1⟩) (fun v h' z => hP _ _ _ _ z) ad lsm HH locs St
          · exact H.elim
        · rename_i rk a z hne hxs
          rw [hxs] at hC
          obtain ⟨idx, how, hi, hm⟩ := jw_iC_user hC
          have hL := jw_ML_ok _ hm
          subst hi
          have hW := jw_LF_how hL
          split at H
          · rename_i q as'
            exact jw_call (K := fun v h' => P (pc + 3) cs ls (v ++ rest) h' (k + a)) Cx hSn hL hdec hpop hcat H.2.2 (jw_rm_spec H.2.1) (fun z => hW.elim (fun q => by obtain ⟨-, c', hc'⟩ := q; omega) (fun q => absurd z q.1)) (fun _ => ⟨q, as', rfl, H.1⟩) (fun v h' z => hP _ _ _ _ z)
          · exact H.elim
        · exact H.elim
end
