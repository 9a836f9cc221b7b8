/-! ===== calls ===== -/
def jw_ih (how idx : Nat) : Instr := match how with
  | 0 => .invokestatic idx
  | 1 => .invokevirtual idx
  | 2 => .invokespecial idx
  | 3 => .invokestatic idx
  | _ => .invokespecial idx
def jw_ws (y : Nat) : List Cond := Cond.code (jw_MI y).1 (jw_MI y).2.1 (jw_MI y).2.2.1 (jw_MI y).2.2.2.1 :: jw_gd
def jw_rmm (d y : Nat) : Room := { frames := d, cells := (MTT y).2.1, slots := (MTT y).2.2.1, locals := 47 * d }
def jw_Pc (X : jv_X) (D : va_G) (aC : Nat → ClassId) (b B : Nat) (as : List Value) (n : Nat) (h : jv_H) (ad : Nat → Nat) : Array Value → State → Prop := fun v U => v = (as.map (jw_v (jw_a b ad))).toArray ∧ (va_K D vwCl (jw_tys aC) U ∧ jw_Nx U) ∧ va_X b X.1 X.2 U U.heap ∧ (b < B ∧ B ≤ U.heap.size) ∧ va_P D vwCl (jw_W aC b ad h n) U.heap ∧ va_D (fun q => B ≤ q) (jw_W aC b ad h n)
def jw_Qr (D : va_G) (aC : Nat → ClassId) (b B n ac az : Nat) (ad : Nat → Nat) (Q : jv_Q) (H : Heap) (r : Option Value) (h' : jv_H) (ad' : Nat → Nat) : Prop := Q r h' ∧ (∀ q, q < n → ad' q = ad q) ∧ n + ac ≤ 227 ∧ jv_S SHT (n + ac) = jv_S SHT n + az ∧ (∀ v, r = some v → jw_ok (n + ac) v) ∧ jw_hv h' (n + ac) ∧ va_P D vwCl (jw_W aC b ad' h' (n + ac)) H ∧ va_D (fun q => B ≤ q) (jw_W aC b ad' h' (n + ac))
def jw_Qc (D : va_G) (aC : Nat → ClassId) (b B n ac az : Nat) (ad : Nat → Nat) (Q : jv_Q) : Array Value → State → Outcome → State → Prop := fun _ st oc t => (∃ (r : Option Value) (h' : jv_H) (ad' : Nat → Nat), oc = .returned (r.map (jw_v (jw_a b ad'))) ∧ jw_Qr D aC b B n ac az ad Q t.heap r h' ad') ∧ va_F (fun q => B ≤ q) st t
/-- what a call of depth d gives -/
def jw_Snd (l : Launch) (X : jv_X) (d : Nat) : Prop := ∀ (y : Nat) (as : List Value) (n : Nat) (h : jv_H) (Q : jv_Q), jv_call SHT X MTT (d + 1) y as n h Q → jw_MF y → n ≤ 227 → jw_oks n as → jw_hv h n → ∀ (D : va_G) (aC : Nat → ClassId) (b B : Nat) (ad : Nat → Nat),
  Met l (jw_MI y).1 (jw_ws y) (jw_rmm d y) (jw_Pc X D aC b B as n h ad) (jw_Qc D aC b B n (MTT y).2.1 (MTT y).2.2.1 ad Q) (MTT y).2.1 (MTT y).2.2.1 (fun q => B ≤ q)
theorem jw_ws_good {y : Nat} (h : jw_MF y) : GoodIn jw_gd (jw_ws y) := by
  intro w hw
  have hm : w ∈ jw_gd := by
    rcases List.mem_cons.mp hw with hw | hw
    · rw [hw]
      exact jw_g h.1 rfl
    · exact hw
  exact ⟨hm, good_of_word (List.mem_filter.mp hm).2⟩
theorem jw_blind (X : jv_X) (D : va_G) (aC : Nat → ClassId) (b B : Nat) (as : List Value) (n : Nat) (h : jv_H) (ad : Nat → Nat) : FrameBlind (jw_Pc X D aC b B as n h ad) := by
  intro a U g mk q
  obtain ⟨q0, q1, q2, q3, q4, q5⟩ := q
  exact ⟨q0, ⟨va_K.moved (u := U) (U := U.calling g mk a) (Vm.Alike.refl U.vm) q1.1, jw_Nx.same (s := U) (U := U.calling g mk a) rfl q1.2⟩, va_X.moved (u := U) (U := U.calling g mk a) (Vm.Alike.refl U.vm) q2, q3, q4, q5⟩
section
variable {p : Program} {l : Launch} {e : Env} {R : Room} {s : State} {m : MethodId} {args : Array Value} {below : List Frame} {meth : Method} {c : Code} {Z : State → Prop}
variable {D : va_G} {aC : Nat → ClassId} {b B : Nat} {X : jv_X} {M : jv_M} {n0 d : Nat} {ad0 : Nat → Nat} {cc : ByteArray} {o : Nat} {ini : Bool}
theorem jw_after {H : Heap} {locs : List Loc} {cells slots mc ms pc n ac az : Nat} {lsm : Array Slot} {st0 rest : List Value} {ad : Nat → Nat} {Q : jv_Q} {a : Array Value} (hr : va_Run p l e R s m args below meth c H locs cells slots mc ms (F0 m pc lsm st0) rest (jw_Qc D aC b B n ac az ad Q a) (fun q => B ≤ q)) (hS : va_S (fun q => B ≤ q) s.heap H locs)
    (kk : ∀ (r : Option Value) (h' : jv_H) (ad' : Nat → Nat) (H1 : Heap) (locs1 : List Loc), jw_Qr D aC b B n ac az ad Q H1 r h' ad' → va_S (fun q => B ≤ q) s.heap H1 locs1 → W p l e R s m args below meth c H1 locs1 (cells + mc) (slots + ms) Z (F0 m (pc + 3) lsm ((r.map (jw_v (jw_a b ad'))).toList ++ rest))) : W p l e R s m args below meth c H locs cells slots Z (F0 m pc lsm st0) := by
  intro T hT XX
  obtain ⟨v, st₀, t, T', L, h0, X', hL, e1, e2, ⟨⟨r, h', ad', hv, hq⟩, hz, hk⟩, st⟩ := hr T hT XX
  cases hv
  rw [h0] at hz hk
  obtain ⟨t2, a1, b1⟩ := kk r h' ad' T'.heap (locs ++ L) (by rw [e1]; exact hq) ⟨Nat.le_trans hS.1 (by rw [e1]; exact hz), fun q g1 g2 => by rw [e1, hk q (Nat.lt_of_lt_of_le g1 hS.1) g2]; exact hS.2.1 q g1 g2, fun q hq => by
      rcases List.mem_append.mp hq with g | g
      · exact hS.2.2 q g
      · exact hL q g⟩ T' rfl X'
  exact ⟨t2, st t2 a1, b1⟩
theorem jv_cl_spec {C : jv_C} (hC : jv_mon C) {rk y : Nat} {as : List Value} {n : Nat} {h : jv_H} {K : List Value → jv_H → Prop} (H : jv_cl C rk y as n h K) : C y as n h (fun r h' => K r.toList h') := by
  unfold jv_cl at H
  split at H
  · refine hC _ _ _ _ _ _ (fun v h' z => ?_) H
    unfold jv_rV at z
    split at z
    · exact z
    · exact z.elim
  · refine hC _ _ _ _ _ _ (fun v h' z => ?_) H
    unfold jv_rI at z
    split at z
    · exact z
    · exact z.elim
  · refine hC _ _ _ _ _ _ (fun v h' z => ?_) H
    unfold jv_rL at z
    split at z
    · exact z
    · exact z.elim
  · refine hC _ _ _ _ _ _ (fun v h' z => ?_) H
    unfold jv_rA at z
    split at z
    · exact z
    · exact z
    · exact z.elim
/-- a call, whichever: what the machine's rows ask for, and how it goes on -/
theorem jw_call (Cx : jw_Cx p s m args c R D aC b B X M d cc o) (hSn : ∀ d', d = d' + 1 → jw_Snd l X d') {pc idx y how na rk a z ci : Nat} (hL : jw_LF (o, idx, y, how, na, rk, a, z, ci)) {as rest ls st : List Value} {h : jv_H} {k : Nat} (hdec : decode cc pc = .ok (jw_ih how idx, 3))
    (hpop : jv_pop na st [] = some (as, rest)) (hcat : jv_cat rest ≤ 8) {K : List Value → jv_H → Prop} (hcl : jv_cl (jv_call SHT X MTT d) rk y as (n0 + k) h K) (hrm : k + a ≤ M.2.1 ∧ jv_S SHT (n0 + k) + z ≤ jv_S SHT n0 + M.2.2.1) (hrec : how = 1 → ∃ q as', as = .ref q :: as' ∧ jv_is SHT (n0 + k) q (ci - 1 + 10)) (hrec2 : how = 2 ∨ how = 5 → ∃ q as', as = .ref q :: as' ∧ q < n0 + k)
    (hp : ∀ v h', K v h' → jw_Wp p l e R s m args below meth c Z D aC b B M n0 ad0 (pc + 3) ls (v ++ rest) h' (k + a)) : jw_Wp p l e R s m args below meth c Z D aC b B M n0 ad0 pc ls st h k := by
  obtain ⟨hx, hb, hml, hown, hts, ⟨hK, hNx⟩, hX, hB, hR⟩ := Cx
  obtain ⟨hMF, hac, haz, hrk, hhow⟩ := hL
  have hac : (MTT y).2.1 = a := hac
  have haz : (MTT y).2.2.1 = z := haz
  cases d with
  | zero =>
    exfalso
    unfold jv_cl at hcl
    split at hcl <;> exact hcl
  | succ d =>
  intro ad lsm H locs ⟨h1, h2, h3, h4, h5, h6, h7, h8, h9, h10⟩
  have hC := jv_cl_spec (jv_call_mono SHT X MTT (d + 1)) hcl
  obtain ⟨hst, hlen⟩ := jv_pop_spec na st [] as rest hpop
  have hst : as.reverse ++ rest = st := hst
  have hlen : as.length = na := by simpa using hlen
  have hoa : jw_oks (n0 + k) as := fun v hv => h3 v (by rw [← hst]; exact List.mem_append_left _ (List.mem_reverse.mpr hv))
  have hor : jw_oks (n0 + k) rest := fun v hv => h3 v (by rw [← hst]; exact List.mem_append_right _ hv)
  have hM := hSn d rfl y as (n0 + k) h _ hC hMF h6 hoa h4 D aC b B ad
  have hMF2 := hMF
  rw [hac, haz] at hM
  have hstk : st.map (jw_v (jw_a b ad)) = (as.map (jw_v (jw_a b ad))).reverse ++ rest.map (jw_v (jw_a b ad)) := by rw [← hst, List.map_append, List.map_reverse]
  have hPu : ∀ U : State, U.heap = H → s.WarmedH U.vm → jw_Pc X D aC b B as (n0 + k) h ad (as.map (jw_v (jw_a b ad))).toArray U := fun U hU hW => ⟨rfl, ⟨va_K.moved hW.alike hK, hNx.moved hW⟩, by
      rw [hU]
      exact va_X.moved hW.alike (hX.kept (h9.2.1 b (by omega) (by show ¬ B ≤ b; omega))), ⟨hB.1, by rw [hU]; exact Nat.le_trans hB.2 h9.1⟩, by rw [hU]; exact h7, h8⟩
  have hbl := jw_blind X D aC b B as (n0 + k) h ad
  have hm0 := jv_S_mono (show n0 ≤ n0 + k by omega)
  have hf : k + a ≤ R.cells ∧ (jv_S SHT (n0 + k) - jv_S SHT n0) + z ≤ R.slots := by omega
  have hW8 : 2 * (F0 m pc lsm (st.map (jw_v (jw_a b ad)))).monitorRoom + ((rest.map (jw_v (jw_a b ad))).map fun v => v.category).sum ≤ 8 := by
    rw [jw_cat_map]
    show 2 * 0 + _ ≤ 8
    omega
  have hgo : ∀ {av : Array Value}, va_Run p l e R s m args below meth c H locs k (jv_S SHT (n0 + k) - jv_S SHT n0) a z (F0 m pc lsm (st.map (jw_v (jw_a b ad)))) (rest.map (jw_v (jw_a b ad))) (jw_Qc D aC b B (n0 + k) a z ad (fun r h' => K r.toList h') av) (fun q => B ≤ q) → W p l e R s m args below meth c H locs k (jv_S SHT (n0 + k) - jv_S SHT n0) Z (F0 m pc lsm (st.map (jw_v (jw_a b ad)))) := by
    intro av hr
    refine jw_after hr h9 (fun r h' ad' H1 locs1 hq hS1 => ?_)
    obtain ⟨q1, q2, q3, q4, q5, q6, q7, q8⟩ := hq
    rw [Nat.add_assoc] at q3 q4 q5 q6 q7 q8
    have hoks : jw_oks (n0 + (k + a)) (r.toList ++ rest) := by
      intro v hv
      rcases List.mem_append.mp hv with g | g
      · exact q5 v (by cases r <;> simp at g; rw [g])
      · exact jw_ok_mono (by omega) (hor v g)
    have K1 := hp _ _ q1 ad' lsm H1 locs1 ⟨jw_L_agree q2 h2 h1, jw_oks_mono (by omega) h2, hoks, q6, ⟨hrm.1, by omega⟩, q3, q7, q8, hS1, fun q hq => by rw [q2 q (by omega)]; exact h10 q hq⟩
    rw [List.map_append, jw_vs_agree q2 hor, show jv_S SHT (n0 + (k + a)) - jv_S SHT n0 = jv_S SHT (n0 + k) - jv_S SHT n0 + z by omega] at K1
    rw [show (r.map (jw_v (jw_a b ad'))).toList = r.toList.map (jw_v (jw_a b ad')) by cases r <;> rfl]
    exact K1
  rcases hI : jw_MI y with ⟨nm, cb, ml, rt, oc, ic⟩
  unfold jw_MF at hMF2
  rw [hI] at hMF2 hhow hM
  have hws : jw_ws y = Cond.code nm cb ml rt :: jw_gd := by unfold jw_ws; rw [hI]
  dsimp only at hM
  obtain ⟨w1, w2, w3, w4, w5, w6, w7, w8, w9, w10⟩ := hMF2
  have hGd := jw_ws_good hMF
  have hRo : (jw_rmm d y).frames + 1 ≤ R.frames ∧ 8 + (ml + 11) + (jw_rmm d y).locals ≤ R.locals := by
    show d + 1 ≤ _ ∧ 8 + (ml + 11) + 47 * d ≤ _
    omega
  have hrc : (jw_rmm d y).cells = a := hac
  have hrs : (jw_rmm d y).slots = z := haz
  have hfix : CallFix p m c cc M.2.2.2.1 s args jw_gd (jw_own o) := ⟨hx, hb, hml, hown, hts⟩
  revert hrec2
  revert hrec
  revert hdec
  revert hhow
  match how with
  | 0 =>
    intro hhow hdec _ _
    obtain ⟨v1, v2, v3, v4⟩ := hhow
    exact hgo (va_runS (As := as.map (jw_v (jw_a b ad))) hfix hM ⟨callB_of na hts hGd hws hrc hrs (hts _ (jw_g w2 rfl)) (hts _ (jw_g v1 rfl)) ⟨w4.1, w4.2, v3⟩ hRo, hts _ (jw_g v2 rfl)⟩ ⟨hbl, hPu⟩ rfl (by rw [List.length_map, hlen]) h1.1 hstk hW8 hdec hf)
  | 1 =>
    intro hhow hdec hrec _
    obtain ⟨⟨v1, v2, v3⟩, v4, ci', v5, T, N, v6⟩ := hhow
    obtain ⟨q, as', rfl, hq⟩ := hrec rfl
    have v5 : ci = ci' + 1 := v5
    subst v5
    have hqq : jv_is SHT (n0 + k) q (ci' + 10) := hq
    have hl2 : as'.length = na - 1 := by simp at hlen; omega
    have hna : (parseMethodDescriptor nm.desc).map (fun d => d.parameters.length) = some (na - 1) := by
      cases hpd : parseMethodDescriptor nm.desc with
      | none => rw [hpd] at v4; cases v4
      | some dd =>
        rw [hpd] at v4
        simp at v4 ⊢
        have v4 : dd.parameters.length + 1 = na := v4
        omega
    exact hgo (va_runV (C := nm.cls) (b := jw_a b ad q) (As := as'.map (jw_v (jw_a b ad))) hfix hM ⟨callB_of (na - 1) hts hGd hws hrc hrs (hts _ (jw_g w2 rfl)) (hts _ (jw_g v1 rfl)) ⟨w4.1, w4.2, hna⟩ hRo, hts _ (jw_g v2 rfl), hts _ (jw_g v3 rfl)⟩ ⟨hbl, va_recv hK h7 v6 (q0 := q) (by rw [jw_W_get hqq.1, jw_e_obj hqq.2, jw_a_lt hqq.1 h6]), hPu⟩ rfl (by rw [List.length_map, hl2]) h1.1 (by rw [hstk]; simp [jw_v]) hW8 hdec hf)
  | 2 =>
    intro hhow hdec _ hrec2
    obtain ⟨⟨v1, v2, v3⟩, v4, v5, v6⟩ := hhow
    obtain ⟨q, as', rfl, hq⟩ := hrec2 (Or.inl rfl)
    have hl2 : as'.length = na - 1 := by simp at hlen; omega
    have v6 : rk = 0 := v6
    subst v6
    have hrt : rt = none := by
      have : (MTT y).1 = 0 := hrk
      rw [this] at w7
      exact w7
    subst hrt
    have hna : (parseMethodDescriptor nm.desc).map (fun d => d.parameters.length) = some (na - 1) := by
      cases hpd : parseMethodDescriptor nm.desc with
      | none => rw [hpd] at v4; cases v4
      | some dd =>
        rw [hpd] at v4
        simp at v4 ⊢
        have v4 : dd.parameters.length + 1 = na := v4
        omega
    exact hgo (va_runI (b := jw_a b ad q) (As := as'.map (jw_v (jw_a b ad))) hfix hM ⟨callB_of (na - 1) hts hGd hws hrc hrs (hts _ (jw_g w2 rfl)) (hts _ (jw_g v1 rfl)) ⟨w4.1, w4.2, hna⟩ hRo, v3, hts _ (jw_g v2 rfl)⟩ ⟨hbl, hPu⟩ rfl (by rw [List.length_map, hl2]) h1.1 (by rw [hstk]; simp [jw_v]) hW8 hdec hf)
  | 3 =>
    intro hhow hdec _ _
    obtain ⟨v1, v2, v3, v4⟩ := hhow
    exact hgo (va_runSN (As := as.map (jw_v (jw_a b ad))) hfix hM ⟨va_cnB na hts hGd hws hrc hrs (hNx.1 _ v1 rfl) (hts _ (jw_g w2 rfl)) ⟨w4.1, w4.2, v3⟩ hRo, hts _ (jw_g v2 rfl), trivial⟩ ⟨hbl, hPu⟩ rfl (by rw [List.length_map, hlen]) h1.1 hstk hW8 hdec hf)
  | 4 => exact fun hhow _ _ _ => hhow.elim
  | 5 =>
    intro hhow hdec _ hrec2
    obtain ⟨⟨v1, v2, v3⟩, v4, v5, v6⟩ := hhow
    obtain ⟨q, as', rfl, hq⟩ := hrec2 (Or.inr rfl)
    have hl2 : as'.length = na - 1 := by simp at hlen; omega
    have v6 : rk = 0 := v6
    subst v6
    have hrt : rt = none := by
      have : (MTT y).1 = 0 := hrk
      rw [this] at w7
      exact w7
    subst hrt
    have hna : (parseMethodDescriptor nm.desc).map (fun d => d.parameters.length) = some (na - 1) := by
      cases hpd : parseMethodDescriptor nm.desc with
      | none => rw [hpd] at v4; cases v4
      | some dd =>
        rw [hpd] at v4
        simp at v4 ⊢
        have v4 : dd.parameters.length + 1 = na := v4
        omega
    exact hgo (va_runIN (b := jw_a b ad q) (As := as'.map (jw_v (jw_a b ad))) hfix hM ⟨va_cnB (na - 1) hts hGd hws hrc hrs (hNx.1 _ v1 rfl) (hts _ (jw_g w2 rfl)) ⟨w4.1, w4.2, hna⟩ hRo, v3, hts _ (jw_g v2 rfl)⟩ ⟨hbl, hPu⟩ rfl (by rw [List.length_map, hl2]) h1.1 (by rw [hstk]; simp [jw_v]) hW8 hdec hf)
  | _ + 6 => exact fun hhow _ _ _ => hhow.elim
end
