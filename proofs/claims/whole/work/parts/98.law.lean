/-! ===== the law ===== -/
theorem ok_0 : okZ zZ0 := ⟨⟨fun k hk => absurd hk (Nat.not_lt_zero k), fun k hk => absurd hk (Nat.not_lt_zero k), fun s hs => fun k hk => absurd hk (Nat.not_lt_zero k), fun k hk => absurd hk (Nat.not_lt_zero k)⟩, fun K e => (by cases (show (none : Option zK) = some K from e)), fun i hi e => absurd (show (0 : Int32) = 1 from e) (by decide)⟩
theorem jw_law_ok : jw_law := by
  intro L xs hL
  have H : jv_call SHT (L, xs) MTT (8 + 1) y_Law_law [.ref 999999] 0 (fun _ _ => 0, fun _ _ => 0, fun _ _ => none) (fun v _ => v = some (.int 1)) := by
    refine r_Law_law (L, xs) 8 0 _ 999999 _ ⟨⟨rfl, by decide +kernel⟩, by decide, by decide +kernel, ?_⟩
    refine i_Maker (L, xs) 3 _ _ (fun h1 c1 => ?_)
    refine ⟨⟨rfl, by decide +kernel⟩, by decide, by decide +kernel, ?_⟩
    have m0 := ms_0 (jv_z h1 171) (funext (fun _ => rfl)) (funext (fun _ => rfl))
    have oz : oM h1 (jv_z h1 171) := fun q hq => ⟨funext (fun _ => if_neg (by omega)), funext (fun _ => if_neg (by omega)), funext (fun _ => if_neg (by omega))⟩
    refine i_Model (L, xs) 6 _ _ ?_
    exact law_l L xs hL 600 0 0 _ zZ0 rfl (by omega) (by omega) ⟨(c1.M oz).M m0.2, m0.1, ok_0⟩
  unfold jv_call at H
  rw [show Nat.ble (jv_cat [Value.ref 999999]) (MTT y_Law_law).2.2.2.1 = true from rfl] at H
  exact H
