/-! ===== the small machine: more is more, and computing on leads to a run ===== -/
section
variable {G : jv_G} {X : jv_X} {M : jv_M} {n0 d : Nat} {C : jv_C} {Q Q' : jv_Q} {P P' : jv_P}
theorem jv_c1_mono {c : ClassFile.Cond} {x : Int32} {A B A' B' : Prop} (hA : A → A') (hB : B → B') : jv_c1 c x A B → jv_c1 c x A' B' := by
  cases c <;> exact fun H => ⟨fun z => hA (H.1 z), fun z => hB (H.2 z)⟩
theorem jv_c2_mono {c : ClassFile.Cond} {x y : Int32} {A B A' B' : Prop} (hA : A → A') (hB : B → B') : jv_c2 c x y A B → jv_c2 c x y A' B' := by
  cases c <;> exact fun H => ⟨fun z => hA (H.1 z), fun z => hB (H.2 z)⟩
theorem jv_sw_mono {x : Int32} {P P' : Nat → Prop} (hP : ∀ t, P t → P' t) : ∀ (r : List Nat) (v : Int) (d : Nat), jv_sw x v r d P → jv_sw x v r d P'
  | [], _, _, H => hP _ H
  | _ :: r, v, d, H => ⟨fun z => hP _ (H.1 z), fun z => jv_sw_mono hP r (v + 1) d (H.2 z)⟩
theorem jv_lk_mono {x : Int32} {P P' : Nat → Prop} (hP : ∀ t, P t → P' t) : ∀ (ps : List (Int × Int)) (r : List Nat) (d : Nat), jv_lk x ps r d P → jv_lk x ps r d P'
  | (_, _) :: ps, _ :: r, d, H => ⟨fun z => hP _ (H.1 z), fun z => jv_lk_mono hP ps r d (H.2 z)⟩
  | [], [], _, H => hP _ H
  | [], _ :: _, _, H => hP _ H
  | _ :: _, [], _, H => hP _ H
theorem jv_ret_mono {k : Nat} {v : Option Value} {h : jv_H} (hQ : ∀ v h, Q v h → Q' v h) : jv_ret G M n0 k v h Q → jv_ret G M n0 k v h Q' := by
  unfold jv_ret
  intro H
  split at H
  · exact hQ _ _ H
  · exact ⟨H.1, hQ _ _ H.2⟩
def jv_mon (C : jv_C) : Prop := ∀ (y : Nat) (as : List Value) (n : Nat) (h : jv_H) (Q Q' : jv_Q), (∀ v h', Q v h' → Q' v h') → C y as n h Q → C y as n h Q'
theorem jv_rV_mono {K K' : jv_H → Prop} (hK : ∀ h, K h → K' h) : ∀ v h, jv_rV K v h → jv_rV K' v h
  | none, h, H => hK h H
  | some _, _, H => H.elim
theorem jv_rI_mono {K K' : Int32 → jv_H → Prop} (hK : ∀ z h, K z h → K' z h) : ∀ v h, jv_rI K v h → jv_rI K' v h := by
  intro v h H
  unfold jv_rI at H ⊢
  split at H
  · exact hK _ _ H
  · exact H.elim
theorem jv_rL_mono {K K' : Int64 → jv_H → Prop} (hK : ∀ z h, K z h → K' z h) : ∀ v h, jv_rL K v h → jv_rL K' v h := by
  intro v h H
  unfold jv_rL at H ⊢
  split at H
  · exact hK _ _ H
  · exact H.elim
theorem jv_rA_mono {K K' : Nat → jv_H → Prop} {K0 K0' : jv_H → Prop} (hK : ∀ z h, K z h → K' z h) (hK0 : ∀ h, K0 h → K0' h) : ∀ v h, jv_rA K K0 v h → jv_rA K' K0' v h := by
  intro v h H
  unfold jv_rA at H ⊢
  split at H
  · exact hK _ _ H
  · exact hK0 _ H
  · exact H.elim
theorem jv_cl_mono (hC : jv_mon C) {rk y : Nat} {as : List Value} {n : Nat} {h : jv_H} {P P' : List Value → jv_H → Prop} (hP : ∀ v h', P v h' → P' v h') : jv_cl C rk y as n h P → jv_cl C rk y as n h P' := by
  unfold jv_cl
  intro H
  split at H
  · exact hC _ _ _ _ _ _ (jv_rV_mono (fun _ => hP _ _)) H
  · exact hC _ _ _ _ _ _ (jv_rI_mono (fun _ _ => hP _ _)) H
  · exact hC _ _ _ _ _ _ (jv_rL_mono (fun _ _ => hP _ _)) H
  · exact hC _ _ _ _ _ _ (jv_rA_mono (fun _ _ => hP _ _) (fun _ => hP _ _)) H
theorem jv_inv_mono (hC : jv_mon C) (hP : ∀ pc cs ls st h k, P pc cs ls st h k → P' pc cs ls st h k) {pc : Nat} {e : jv_E} {cs : List jv_E} {ls st : List Value} {h : jv_H} {k : Nat} :
    jv_inv G M n0 C P pc e cs ls st h k → jv_inv G M n0 C P' pc e cs ls st h k := by
  unfold jv_inv
  intro H
  split at H
  · exact H
  · split at H
    · exact H
    · split at H
      · exact jv_cl_mono hC (fun v h' z => hP _ _ _ _ _ _ z) H
      · split at H
        · exact ⟨H.1, jv_cl_mono hC (fun v h' z => hP _ _ _ _ _ _ z) H.2⟩
        · exact H
      · split at H
        · exact ⟨H.1, H.2.1, jv_cl_mono hC (fun v h' z => hP _ _ _ _ _ _ z) H.2.2⟩
        · exact H
      · exact H
theorem jv_bi_mono (hP : ∀ pc cs ls st h k, P pc cs ls st h k → P' pc cs ls st h k) {pc : Nat} {e : jv_E} {cs : List jv_E} {ls st : List Value} {h : jv_H} {k : Nat} :
    jv_bi G n0 P pc e cs ls st h k → jv_bi G n0 P' pc e cs ls st h k := by
  unfold jv_bi
  intro H
  split at H <;> (repeat' (first | exact H.elim | exact hP _ _ _ _ _ _ H | exact ⟨H.1, hP _ _ _ _ _ _ H.2⟩ | split at H))
theorem jv_iv_mono (hC : jv_mon C) (hP : ∀ pc cs ls st h k, P pc cs ls st h k → P' pc cs ls st h k) {pc : Nat} {e : jv_E} {cs : List jv_E} {ls st : List Value} {h : jv_H} {k : Nat} :
    jv_iv G M n0 d C P pc e cs ls st h k → jv_iv G M n0 d C P' pc e cs ls st h k := by
  unfold jv_iv
  intro H
  split at H
  · split at H
    · exact H
    · exact jv_bi_mono hP H
  · exact jv_inv_mono hC hP H
theorem jv_gf_mono (hP : ∀ pc cs ls st h k, P pc cs ls st h k → P' pc cs ls st h k) {pc : Nat} {cs : List jv_E} {ls st : List Value} {h : jv_H} {k o i : Nat} {kd : List Nat} :
    jv_gf P pc cs ls st h k o i kd → jv_gf P' pc cs ls st h k o i kd := by
  unfold jv_gf
  intro H
  split at H
  · exact hP _ _ _ _ _ _ H
  · exact hP _ _ _ _ _ _ H
  · exact hP _ _ _ _ _ _ H
  · obtain ⟨a, h1, h2⟩ := H
    exact ⟨a, h1, hP _ _ _ _ _ _ h2⟩
  · exact H
theorem jv_pf_mono (hP : ∀ pc cs ls st h k, P pc cs ls st h k → P' pc cs ls st h k) {pc : Nat} {cs : List jv_E} {ls st : List Value} {h : jv_H} {n k ci i : Nat} {kd : List Nat} :
    jv_pf G P pc cs ls st h n k ci i kd → jv_pf G P' pc cs ls st h n k ci i kd := by
  unfold jv_pf
  intro H
  split at H <;> (repeat' (first | exact H.elim | exact ⟨H.1, hP _ _ _ _ _ _ H.2⟩ | exact ⟨H.1, H.2.1, hP _ _ _ _ _ _ H.2.2⟩ | split at H))
set_option maxHeartbeats 4000000 in
theorem jv_st_mono (hC : jv_mon C) (hP : ∀ pc cs ls st h k, P pc cs ls st h k → P' pc cs ls st h k) (hQ : ∀ v h, Q v h → Q' v h) {pc : Nat} {e : jv_E} {cs : List jv_E} {ls st : List Value} {h : jv_H} {k : Nat} :
    jv_st G X M n0 d C Q P pc e cs ls st h k → jv_st G X M n0 d C Q' P' pc e cs ls st h k := by
  obtain ⟨ins, e⟩ := e
  intro H
  cases ins <;> first
    | exact H.elim
    | exact hP _ _ _ _ _ _ H
    | exact jv_iv_mono hC hP H
    | exact jv_pf_mono hP H
    | (delta jv_st at H ⊢
       dsimp only at H ⊢
       (try delta jv_ldI at H ⊢); (try delta jv_ldL at H ⊢); (try delta jv_ldA at H ⊢); (try delta jv_stI at H ⊢); (try delta jv_stL at H ⊢); (try delta jv_stA at H ⊢); (try delta jv_i2 at H ⊢); (try delta jv_l2 at H ⊢)
       (try dsimp only at H ⊢)
       repeat' (first | exact H.elim | exact hP _ _ _ _ _ _ H | exact ⟨H.1, hP _ _ _ _ _ _ H.2⟩ | exact ⟨H.1, H.2.1, hP _ _ _ _ _ _ H.2.2⟩ | exact jv_ret_mono hQ H | exact ⟨H.1, jv_ret_mono hQ H.2⟩ | exact jv_c1_mono (hP _ _ _ _ _ _) (hP _ _ _ _ _ _) H | exact jv_c2_mono (hP _ _ _ _ _ _) (hP _ _ _ _ _ _) H | exact jv_sw_mono (fun t z => hP _ _ _ _ _ _ z) _ _ _ H | exact jv_lk_mono (fun t z => hP _ _ _ _ _ _ z) _ _ _ H | exact ⟨H.1, jv_gf_mono hP H.2⟩ | (obtain ⟨h1, h2, o, h3, h4⟩ := H; exact ⟨h1, h2, o, h3, hP _ _ _ _ _ _ h4⟩) | split at H))
theorem jv_go_mono (hC : jv_mon C) (hP : ∀ pc cs ls st h k, P pc cs ls st h k → P' pc cs ls st h k) (hQ : ∀ v h, Q v h → Q' v h) {pc : Nat} {cs : List jv_E} {ls st : List Value} {h : jv_H} {k : Nat} :
    jv_go G X M n0 d C Q P pc cs ls st h k → jv_go G X M n0 d C Q' P' pc cs ls st h k := by
  cases cs with
  | nil =>
    simp only [jv_go]
    intro H
    split at H
    · exact H
    · exact hP _ _ _ _ _ _ H
    · exact hP _ _ _ _ _ _ H
  | cons e cs => exact jv_st_mono hC hP hQ
theorem jv_run_in (hC : jv_mon C) {pc : Nat} {cs : List jv_E} {ls st : List Value} {h : jv_H} {k : Nat} (H : jv_go G X M n0 d C Q (jv_run G X M n0 d C Q) pc cs ls st h k) : jv_run G X M n0 d C Q pc cs ls st h k :=
  fun P hP => hP _ _ _ _ _ _ (jv_go_mono hC (fun _ _ _ _ _ _ z => z P hP) (fun _ _ z => z) H)
theorem jv_run_mono (hC : jv_mon C) (hQ : ∀ v h, Q v h → Q' v h) {pc : Nat} {cs : List jv_E} {ls st : List Value} {h : jv_H} {k : Nat} (H : jv_run G X M n0 d C Q pc cs ls st h k) : jv_run G X M n0 d C Q' pc cs ls st h k :=
  H _ (fun _ _ _ _ _ _ z => jv_run_in hC (jv_go_mono hC (fun _ _ _ _ _ _ z => z) hQ z))
theorem jv_call_mono (G : jv_G) (X : jv_X) (MT : Nat → jv_M) : ∀ d, jv_mon (jv_call G X MT d)
  | 0 => fun _ _ _ _ _ _ _ H => H
  | d + 1 => fun y as n h Q Q' hQ H => by
    unfold jv_call at H ⊢
    split at H
    · exact jv_run_mono (jv_call_mono G X MT d) hQ H
    · exact H.elim
theorem jv_vc_run (hC : jv_mon C) : ∀ (f pc : Nat) (cs : List jv_E) (ls st : List Value) (h : jv_H) (k : Nat), jv_vc G X M n0 d C Q f pc cs ls st h k → jv_run G X M n0 d C Q pc cs ls st h k
  | 0, _, _, _, _, _, _, H => H.elim
  | f + 1, pc, [], ls, st, h, k, H => by
    refine jv_run_in hC ?_
    simp only [jv_go]
    simp only [jv_vc] at H
    split at H
    · exact H
    · exact jv_vc_run hC f _ _ _ _ _ _ H
    · exact H
  | f + 1, pc, e :: cs, ls, st, h, k, H => by
    refine jv_run_in hC ?_
    exact jv_st_mono hC (fun pc cs ls st h k z => jv_vc_run hC f pc cs ls st h k z) (fun _ _ z => z) H
/-- a call, by computing to the places that are cut -/
theorem jv_call_in {MT : Nat → jv_M} {y : Nat} {as : List Value} {n : Nat} {h : jv_H} (f : Nat) (hc : Nat.ble (jv_cat as) (MT y).2.2.2.1 = true) (H : jv_vc G X (MT y) n d (jv_call G X MT d) Q f 0 [] (jv_ent as (MT y).2.2.2.1) [] h 0) : jv_call G X MT (d + 1) y as n h Q := by
  unfold jv_call
  rw [hc]
  exact jv_vc_run (jv_call_mono G X MT d) f _ _ _ _ _ _ H
/-- on from a place that is cut -/
theorem jv_at {MT : Nat → jv_M} {n : Nat} {h : jv_H} {pc k : Nat} {cs : List jv_E} {ls st : List Value} (f : Nat) (H : jv_vc G X M n d (jv_call G X MT d) Q f pc cs ls st h k) : jv_run G X M n d (jv_call G X MT d) Q pc cs ls st h k :=
  jv_vc_run (jv_call_mono G X MT d) f _ _ _ _ _ _ H
end
