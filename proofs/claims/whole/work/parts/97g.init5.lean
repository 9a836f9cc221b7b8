/-! ===== the constructors: the reference ===== -/
def mini : List (Nat × Nat) → jv_H → jv_H
  | [], h => h
  | p :: r, h => mini r (jv_uR (jv_z h p.2) 171 p.1 (some p.2))
def mlk (i : Nat) : List (Nat × Nat) → Option Nat → Option Nat
  | [], v => v
  | p :: r, v => mlk i r (if i = p.1 then some p.2 else v)
def mil : List (Nat × Nat) := [(0, 172), (7, 173), (8, 174), (10, 175), (11, 176), (12, 177), (13, 178), (14, 179), (15, 180), (16, 181), (17, 182), (19, 183), (20, 184), (21, 185), (22, 186), (23, 187), (24, 188), (25, 189), (26, 190), (27, 191), (28, 192), (32, 193), (33, 194), (34, 195), (35, 196), (36, 197), (37, 198), (38, 199), (39, 200), (40, 201), (41, 202), (42, 203), (45, 204), (46, 205), (47, 206), (49, 207), (50, 208), (51, 209), (52, 210), (53, 211), (54, 212), (55, 213), (56, 214), (57, 215), (58, 216), (59, 217), (60, 218), (61, 219), (62, 220), (63, 221), (64, 222), (65, 223), (66, 224), (67, 225), (68, 226)]
theorem mini_r : ∀ (l : List (Nat × Nat)) (h : jv_H) (i : Nat), (∀ p ∈ l, p.2 ≠ 171) → (mini l h).2.2 171 i = mlk i l (h.2.2 171 i)
  | [], _, _, _ => rfl
  | p :: r, h, i, H => by
    have e : (jv_uR (jv_z h p.2) 171 p.1 (some p.2)).2.2 171 i = if i = p.1 then some p.2 else h.2.2 171 i := by
      have := H p List.mem_cons_self
      rw [gR_uR]
      by_cases z : i = p.1
      · rw [if_pos ⟨rfl, z⟩, if_pos z]
      · rw [if_neg (by omega), if_neg z, gR_z, if_neg (by omega)]
    show (mini r _).2.2 171 i = mlk i r _
    rw [mini_r r _ i (fun q hq => H q (List.mem_cons_of_mem _ hq)), e]
theorem mini_m : ∀ (l : List (Nat × Nat)) (h : jv_H) (q : Nat), q < 171 → (∀ p ∈ l, 171 < p.2) → (mini l h).1 q = h.1 q ∧ (mini l h).2.1 q = h.2.1 q ∧ (mini l h).2.2 q = h.2.2 q
  | [], _, _, _, _ => ⟨rfl, rfl, rfl⟩
  | p :: r, h, q, hq, H => by
    have hp := H p List.mem_cons_self
    obtain ⟨a, b, c⟩ := mini_m r (jv_uR (jv_z h p.2) 171 p.1 (some p.2)) q hq (fun q hq => H q (List.mem_cons_of_mem _ hq))
    exact ⟨a.trans (funext (fun _ => if_neg (by omega))), b.trans (funext (fun _ => if_neg (by omega))), c.trans (funext (fun _ => by rw [uR_ne (by omega), gR_z, if_neg (by omega)]))⟩
theorem mini_1 : ∀ (l : List (Nat × Nat)) (h : jv_H), (∀ p ∈ l, p.2 ≠ 171) → (mini l h).1 171 = h.1 171
  | [], _, _ => rfl
  | p :: r, h, H => by
    have hp := H p List.mem_cons_self
    exact (mini_1 r (jv_uR (jv_z h p.2) 171 p.1 (some p.2)) (fun q hq => H q (List.mem_cons_of_mem _ hq))).trans (funext (fun _ => if_neg (by omega)))
theorem mini_0 : ∀ (l : List (Nat × Nat)) (h : jv_H) (q : Nat), ((∃ p ∈ l, p.2 = q) ∨ h.1 q = fun _ => 0) → (mini l h).1 q = fun _ => 0
  | [], _, _, H => by
    rcases H with ⟨p, hp, _⟩ | H
    · cases hp
    · exact H
  | p :: r, h, q, H => by
    refine mini_0 r (jv_uR (jv_z h p.2) 171 p.1 (some p.2)) q ?_
    by_cases e : q = p.2
    · exact Or.inr (funext (fun _ => if_pos e))
    · rcases H with ⟨t, ht, h2⟩ | H
      · rcases List.mem_cons.mp ht with h3 | h3
        · subst h3
          exact absurd h2.symm e
        · exact Or.inl ⟨t, h3, h2⟩
      · exact Or.inr ((funext (fun _ => if_neg e)).trans H)
theorem mlk_n (i : Nat) (hi : 69 ≤ i) : ∀ (l : List (Nat × Nat)) (v : Option Nat), (∀ p ∈ l, p.1 < 69) → mlk i l v = v
  | [], _, _ => rfl
  | p :: r, v, H => by
    have hp := H p List.mem_cons_self
    show mlk i r _ = v
    rw [if_neg (by omega)]
    exact mlk_n i hi r v (fun q hq => H q (List.mem_cons_of_mem _ hq))
theorem getD_ge : ∀ (l : List (Option Nat)) (i : Nat), l.length ≤ i → l.getD i none = none
  | [], i, _ => by cases i <;> rfl
  | _ :: _, 0, h => absurd h (Nat.not_succ_le_zero _)
  | _ :: l, i + 1, h => getD_ge l i (Nat.le_of_succ_le_succ h)
theorem mlk_69 : ∀ i, i < 69 → mlk i mil none = mref i := by decide +kernel
theorem mlk_mr (i : Nat) : mlk i mil none = mref i := by
  by_cases h : i < 69
  · exact mlk_69 i h
  · rw [mlk_n i (by omega) mil none (by decide +kernel)]
    show none = mrl.getD i none
    have : mrl.length ≤ i := by
      show 69 ≤ i
      omega
    exact (getD_ge mrl i this).symm
theorem mil_h : ∀ p ∈ mil, 171 < p.2 := by decide +kernel
theorem mil_a : ∃ p ∈ mil, p.2 = 187 := by decide +kernel
theorem mil_b : ∃ p ∈ mil, p.2 = 193 := by decide +kernel
/-- the reference, made -/
theorem ms_0 (h : jv_H) (z1 : h.1 171 = fun _ => 0) (z2 : h.2.2 171 = fun _ => none) : MS (jv_uI (mini mil h) 171 1 0) zZ0 ∧ oM h (jv_uI (mini mil h) 171 1 0) := by
  have e1 : (jv_uI (mini mil h) 171 1 0).1 171 = fun _ => 0 := funext (fun j => by
    show (if 171 = 171 ∧ j = 1 then (0 : Int32) else (mini mil h).1 171 j) = 0
    rw [mini_1 mil h (fun p hp => by have := mil_h p hp; omega), z1]
    split <;> rfl)
  have e2 : ∀ q, q ≠ 171 → (jv_uI (mini mil h) 171 1 0).1 q = (mini mil h).1 q := fun q hq => funext (fun j => uI_ne (by omega))
  have e3 := mini_0 mil h 187 (Or.inl mil_a)
  have e4 := mini_0 mil h 193 (Or.inl mil_b)
  have nl : ∀ {P : Nat → Prop}, ∀ k, k < 0 → P k := fun k hk => absurd hk (Nat.not_lt_zero k)
  refine ⟨⟨fun i => ?_, ⟨by rw [e1]; rfl, nl⟩, ⟨⟨by rw [e1]; rfl, nl⟩, ⟨by rw [e1]; rfl, nl⟩, fun t ht => ⟨?_, nl⟩, ⟨by rw [e1]; rfl, by rw [e1]; rfl, nl⟩, by rw [e1]; rfl⟩, by rw [e1]; rfl, fun K e => (by cases (show (none : Option zK) = some K from e)), fun k hk => ⟨?_, fun e => absurd (show (0 : Int32) = 2 from e) (by decide), fun e => absurd (show (0 : Int32) = 1 from e) (by decide)⟩⟩, fun q hq => ?_⟩
  · show (mini mil h).2.2 171 i = mref i
    rw [mini_r mil h i (fun p hp => by have := mil_h p hp; omega), z2]
    exact mlk_mr i
  · show ((jv_uI (mini mil h) 171 1 0).1 187 t).toInt = 0
    rw [e2 187 (by decide), e3]
    rfl
  · rw [e2 193 (by decide), e4]
    rfl
  · obtain ⟨a, b, c⟩ := mini_m mil h q hq mil_h
    exact ⟨(e2 q (by omega)).trans a, b, c⟩
theorem i_Model (X : jv_X) (d : Nat) (K : jv_H → Prop) (h : jv_H) (hK : K (jv_uI (mini mil h) 171 1 0)) : jV X (d + 2) y_Model_init [.ref 171] 172 h K := by
  refine r_Model_init X d 172 _ 171 h ?_
  refine ⟨by decide +kernel, ⟨by decide, rfl⟩, by decide, ?_⟩
  refine ⟨by decide +kernel, ⟨by decide, rfl⟩, by decide, ?_⟩
  refine ⟨by decide +kernel, ⟨by decide, rfl⟩, by decide, ?_⟩
  refine ⟨by decide +kernel, ⟨by decide, rfl⟩, by decide, ?_⟩
  refine ⟨by decide +kernel, ⟨by decide, rfl⟩, by decide, ?_⟩
  refine ⟨by decide +kernel, ⟨by decide, rfl⟩, by decide, ?_⟩
  refine ⟨by decide +kernel, ⟨by decide, rfl⟩, by decide, ?_⟩
  refine ⟨by decide +kernel, ⟨by decide, rfl⟩, by decide, ?_⟩
  refine ⟨by decide +kernel, ⟨by decide, rfl⟩, by decide, ?_⟩
  refine ⟨by decide +kernel, ⟨by decide, rfl⟩, by decide, ?_⟩
  refine ⟨by decide +kernel, ⟨by decide, rfl⟩, by decide, ?_⟩
  refine ⟨by decide +kernel, ⟨by decide, rfl⟩, by decide, ?_⟩
  refine ⟨by decide +kernel, ⟨by decide, rfl⟩, by decide, ?_⟩
  refine ⟨by decide +kernel, ⟨by decide, rfl⟩, by decide, ?_⟩
  refine ⟨by decide +kernel, ⟨by decide, rfl⟩, by decide, ?_⟩
  refine ⟨by decide +kernel, ⟨by decide, rfl⟩, by decide, ?_⟩
  refine ⟨by decide +kernel, ⟨by decide, rfl⟩, by decide, ?_⟩
  refine ⟨by decide +kernel, ⟨by decide, rfl⟩, by decide, ?_⟩
  refine ⟨by decide +kernel, ⟨by decide, rfl⟩, by decide, ?_⟩
  refine ⟨by decide +kernel, ⟨by decide, rfl⟩, by decide, ?_⟩
  refine ⟨by decide +kernel, ⟨by decide, rfl⟩, by decide, ?_⟩
  refine ⟨by decide +kernel, ⟨by decide, rfl⟩, by decide, ?_⟩
  refine ⟨by decide +kernel, ⟨by decide, rfl⟩, by decide, ?_⟩
  refine ⟨by decide +kernel, ⟨by decide, rfl⟩, by decide, ?_⟩
  refine ⟨by decide +kernel, ⟨by decide, rfl⟩, by decide, ?_⟩
  refine ⟨by decide +kernel, ⟨by decide, rfl⟩, by decide, ?_⟩
  refine ⟨by decide +kernel, ⟨by decide, rfl⟩, by decide, ?_⟩
  refine ⟨by decide +kernel, ⟨by decide, rfl⟩, by decide, ?_⟩
  refine ⟨by decide +kernel, ⟨by decide, rfl⟩, by decide, ?_⟩
  refine ⟨by decide +kernel, ⟨by decide, rfl⟩, by decide, ?_⟩
  refine ⟨by decide +kernel, ⟨by decide, rfl⟩, by decide, ?_⟩
  refine ⟨by decide +kernel, ⟨by decide, rfl⟩, by decide, ?_⟩
  refine ⟨by decide +kernel, ⟨by decide, rfl⟩, by decide, ?_⟩
  refine ⟨by decide +kernel, ⟨by decide, rfl⟩, by decide, ?_⟩
  refine ⟨by decide +kernel, ⟨by decide, rfl⟩, by decide, ?_⟩
  refine ⟨by decide +kernel, ⟨by decide, rfl⟩, by decide, ?_⟩
  refine ⟨by decide +kernel, ⟨by decide, rfl⟩, by decide, ?_⟩
  refine ⟨by decide +kernel, ⟨by decide, rfl⟩, by decide, ?_⟩
  refine ⟨by decide +kernel, ⟨by decide, rfl⟩, by decide, ?_⟩
  refine ⟨by decide +kernel, ⟨by decide, rfl⟩, by decide, ?_⟩
  refine ⟨by decide +kernel, ⟨by decide, rfl⟩, by decide, ?_⟩
  refine ⟨by decide +kernel, ⟨by decide, rfl⟩, by decide, ?_⟩
  refine ⟨by decide +kernel, ⟨by decide, rfl⟩, by decide, ?_⟩
  refine ⟨by decide +kernel, ⟨by decide, rfl⟩, by decide, ?_⟩
  refine ⟨by decide +kernel, ⟨by decide, rfl⟩, by decide, ?_⟩
  refine ⟨by decide +kernel, ⟨by decide, rfl⟩, by decide, ?_⟩
  refine ⟨by decide +kernel, ⟨by decide, rfl⟩, by decide, ?_⟩
  refine ⟨by decide +kernel, ⟨by decide, rfl⟩, by decide, ?_⟩
  refine ⟨by decide +kernel, ⟨by decide, rfl⟩, by decide, ?_⟩
  refine ⟨by decide +kernel, ⟨by decide, rfl⟩, by decide, ?_⟩
  refine ⟨by decide +kernel, ⟨by decide, rfl⟩, by decide, ?_⟩
  refine ⟨by decide +kernel, ⟨by decide, rfl⟩, by decide, ?_⟩
  refine ⟨by decide +kernel, ⟨by decide, rfl⟩, by decide, ?_⟩
  refine ⟨by decide +kernel, ⟨by decide, rfl⟩, by decide, ?_⟩
  refine ⟨by decide +kernel, ⟨by decide, rfl⟩, by decide, ?_⟩
  exact ⟨⟨by decide, rfl⟩, ⟨rfl, by decide +kernel⟩, hK⟩
