/-! ===== what the calls rest on: printed by wip/whole/links.py ===== -/
def jw_rt (k : Nat) (rt : Option FieldType) : Prop := match k with
  | 0 => rt = none
  | 1 => rt = some .int
  | 2 => rt = some .long
  | 3 => ∃ C, rt = some (.object C)
  | 4 => rt = some .boolean
  | _ => False
/-- a method that may be called: its words, its bytes -/
def jw_MF (y : Nat) : Prop := match jw_MI y with
  | (nm, cc, ml, rt, o, ini) => Cond.code nm cc ml rt ∈ lw_tbl ∧ Cond.initialized nm.cls ∈ lw_tbl ∧ plainName nm.cls = true ∧ (nm.cls ≠ "java/lang/invoke/MethodHandle" ∧ nm.cls ≠ "java/lang/invoke/VarHandle") ∧ jw_own o = nm.cls ∧ (ini = true → nm.name = "<init>") ∧ jw_rt (MTT y).1 rt ∧ (MTT y).2.2.2.1 = ml ∧ ml ≤ 28 ∧ jw_meth cc o ini (MTT y) = true
/-- o, idx, y, how, number of arguments, kind of the answer, cells, slots, class -/
def jw_LF (q : Nat × Nat × Nat × Nat × Nat × Nat × Nat × Nat × Nat) : Prop := jw_MF q.2.2.1 ∧ (MTT q.2.2.1).2.1 = q.2.2.2.2.2.2.1 ∧ (MTT q.2.2.1).2.2.1 = q.2.2.2.2.2.2.2.1 ∧
  (match q.2.2.2.2.2.1 with
    | 0 => (MTT q.2.2.1).1 = 0
    | 1 => (MTT q.2.2.1).1 = 1 ∨ (MTT q.2.2.1).1 = 4
    | 2 => (MTT q.2.2.1).1 = 2
    | _ => (MTT q.2.2.1).1 = 3) ∧
  (match jw_MI q.2.2.1 with
  | (nm, _) => match q.2.2.2.1 with
    | 0 => Cond.methodLink (jw_own q.1) q.2.1 nm ∈ lw_tbl ∧ Cond.static nm ∈ lw_tbl ∧ (parseMethodDescriptor nm.desc).map (fun d => d.parameters.length) = some q.2.2.2.2.1 ∧ q.2.2.2.2.2.2.2.2 = 0
    | 1 => (Cond.methodLink (jw_own q.1) q.2.1 nm ∈ lw_tbl ∧ Cond.instanceMethod nm ∈ lw_tbl ∧ Cond.selects nm.cls nm nm ∈ lw_tbl) ∧ (parseMethodDescriptor nm.desc).map (fun d => d.parameters.length + 1) = some q.2.2.2.2.1 ∧ ∃ ci, q.2.2.2.2.2.2.2.2 = ci + 1 ∧ ∃ T N, vwCl[ci]? = some (nm.cls, T, N)
    | 2 => (Cond.methodLink (jw_own q.1) q.2.1 nm ∈ lw_tbl ∧ Cond.instanceMethod nm ∈ lw_tbl ∧ nm.name = "<init>") ∧ (parseMethodDescriptor nm.desc).map (fun d => d.parameters.length + 1) = some q.2.2.2.2.1 ∧ q.2.2.2.2.2.2.2.2 = 0 ∧ q.2.2.2.2.2.1 = 0
    | 3 => Cond.methodLinkNest (jw_own q.1) q.2.1 nm "LadderMaker" ∈ lw_tbl ∧ Cond.static nm ∈ lw_tbl ∧ (parseMethodDescriptor nm.desc).map (fun d => d.parameters.length) = some q.2.2.2.2.1 ∧ q.2.2.2.2.2.2.2.2 = 0
    | 5 => (Cond.methodLinkNest (jw_own q.1) q.2.1 nm "LadderMaker" ∈ lw_tbl ∧ Cond.instanceMethod nm ∈ lw_tbl ∧ nm.name = "<init>") ∧ (parseMethodDescriptor nm.desc).map (fun d => d.parameters.length + 1) = some q.2.2.2.2.1 ∧ q.2.2.2.2.2.2.2.2 = 0 ∧ q.2.2.2.2.2.1 = 0
    | _ => False)
set_option maxRecDepth 100000 in
theorem jq_m0 : jw_MF 0 := ⟨List.mem_of_getElem? (i := 93) rfl, List.mem_of_getElem? (i := 74) rfl, by decide +kernel, ⟨by decide +kernel, by decide +kernel⟩, rfl, by decide, rfl, rfl, by decide, ck_Maker_init⟩
set_option maxRecDepth 100000 in
theorem jq_m1 : jw_MF 1 := ⟨List.mem_of_getElem? (i := 101) rfl, List.mem_of_getElem? (i := 75) rfl, by decide +kernel, ⟨by decide +kernel, by decide +kernel⟩, rfl, by decide, rfl, rfl, by decide, ck_Tape_init⟩
set_option maxRecDepth 100000 in
theorem jq_m2 : jw_MF 2 := ⟨List.mem_of_getElem? (i := 126) rfl, List.mem_of_getElem? (i := 76) rfl, by decide +kernel, ⟨by decide +kernel, by decide +kernel⟩, rfl, by decide, rfl, rfl, by decide, ck_Divider_init⟩
set_option maxRecDepth 100000 in
theorem jq_m3 : jw_MF 3 := ⟨List.mem_of_getElem? (i := 132) rfl, List.mem_of_getElem? (i := 77) rfl, by decide +kernel, ⟨by decide +kernel, by decide +kernel⟩, rfl, by decide, rfl, rfl, by decide, ck_Poly_init⟩
set_option maxRecDepth 100000 in
theorem jq_m4 : jw_MF 4 := ⟨List.mem_of_getElem? (i := 137) rfl, List.mem_of_getElem? (i := 77) rfl, by decide +kernel, ⟨by decide +kernel, by decide +kernel⟩, rfl, by decide, rfl, rfl, by decide, ck_Poly_clear⟩
set_option maxRecDepth 100000 in
theorem jq_m5 : jw_MF 5 := ⟨List.mem_of_getElem? (i := 162) rfl, List.mem_of_getElem? (i := 78) rfl, by decide +kernel, ⟨by decide +kernel, by decide +kernel⟩, rfl, by decide, rfl, rfl, by decide, ck_Workshop_init⟩
set_option maxRecDepth 100000 in
theorem jq_m6 : jw_MF 6 := ⟨List.mem_of_getElem? (i := 174) rfl, List.mem_of_getElem? (i := 79) rfl, by decide +kernel, ⟨by decide +kernel, by decide +kernel⟩, rfl, by decide, rfl, rfl, by decide, ck_Wants_init⟩
set_option maxRecDepth 100000 in
theorem jq_m7 : jw_MF 7 := ⟨List.mem_of_getElem? (i := 204) rfl, List.mem_of_getElem? (i := 80) rfl, by decide +kernel, ⟨by decide +kernel, by decide +kernel⟩, rfl, by decide, rfl, rfl, by decide, ck_Ratio_init⟩
set_option maxRecDepth 100000 in
theorem jq_m8 : jw_MF 8 := ⟨List.mem_of_getElem? (i := 224) rfl, List.mem_of_getElem? (i := 81) rfl, by decide +kernel, ⟨by decide +kernel, by decide +kernel⟩, rfl, by decide, rfl, rfl, by decide, ck_Ladder_init⟩
set_option maxRecDepth 100000 in
theorem jq_m9 : jw_MF 9 := ⟨List.mem_of_getElem? (i := 268) rfl, List.mem_of_getElem? (i := 82) rfl, by decide +kernel, ⟨by decide +kernel, by decide +kernel⟩, rfl, by decide, rfl, rfl, by decide, ck_Bins_init⟩
set_option maxRecDepth 100000 in
theorem jq_m10 : jw_MF 10 := ⟨List.mem_of_getElem? (i := 322) rfl, List.mem_of_getElem? (i := 83) rfl, by decide +kernel, ⟨by decide +kernel, by decide +kernel⟩, rfl, by decide, rfl, rfl, by decide, ck_Holder_init⟩
set_option maxRecDepth 100000 in
theorem jq_m11 : jw_MF 11 := ⟨List.mem_of_getElem? (i := 369) rfl, List.mem_of_getElem? (i := 74) rfl, by decide +kernel, ⟨by decide +kernel, by decide +kernel⟩, rfl, by decide, rfl, rfl, by decide, ck_Maker_feed⟩
set_option maxRecDepth 100000 in
theorem jq_m12 : jw_MF 12 := ⟨List.mem_of_getElem? (i := 373) rfl, List.mem_of_getElem? (i := 75) rfl, by decide +kernel, ⟨by decide +kernel, by decide +kernel⟩, rfl, by decide, rfl, rfl, by decide, ck_Tape_append⟩
set_option maxRecDepth 100000 in
theorem jq_m13 : jw_MF 13 := ⟨List.mem_of_getElem? (i := 377) rfl, List.mem_of_getElem? (i := 74) rfl, by decide +kernel, ⟨by decide +kernel, by decide +kernel⟩, rfl, by decide, rfl, rfl, by decide, ck_Maker_wipe⟩
set_option maxRecDepth 100000 in
theorem jq_m14 : jw_MF 14 := ⟨List.mem_of_getElem? (i := 381) rfl, List.mem_of_getElem? (i := 75) rfl, by decide +kernel, ⟨by decide +kernel, by decide +kernel⟩, rfl, by decide, rfl, rfl, by decide, ck_Tape_empty⟩
set_option maxRecDepth 100000 in
theorem jq_m15 : jw_MF 15 := ⟨List.mem_of_getElem? (i := 385) rfl, List.mem_of_getElem? (i := 74) rfl, by decide +kernel, ⟨by decide +kernel, by decide +kernel⟩, rfl, by decide, rfl, rfl, by decide, ck_Maker_ratio⟩
set_option maxRecDepth 100000 in
theorem jq_m16 : jw_MF 16 := ⟨List.mem_of_getElem? (i := 389) rfl, List.mem_of_getElem? (i := 78) rfl, by decide +kernel, ⟨by decide +kernel, by decide +kernel⟩, rfl, by decide, ⟨_, rfl⟩, rfl, by decide, ck_Workshop_freeRatio⟩
set_option maxRecDepth 100000 in
theorem jq_m17 : jw_MF 17 := ⟨List.mem_of_getElem? (i := 393) rfl, List.mem_of_getElem? (i := 75) rfl, by decide +kernel, ⟨by decide +kernel, by decide +kernel⟩, rfl, by decide, rfl, rfl, by decide, ck_Tape_readRatio⟩
set_option maxRecDepth 100000 in
theorem jq_m18 : jw_MF 18 := ⟨List.mem_of_getElem? (i := 397) rfl, List.mem_of_getElem? (i := 75) rfl, by decide +kernel, ⟨by decide +kernel, by decide +kernel⟩, rfl, by decide, rfl, rfl, by decide, ck_Tape_readPoly⟩
set_option maxRecDepth 100000 in
theorem jq_m19 : jw_MF 19 := ⟨List.mem_of_getElem? (i := 402) rfl, List.mem_of_getElem? (i := 75) rfl, by decide +kernel, ⟨by decide +kernel, by decide +kernel⟩, rfl, by decide, rfl, rfl, by decide, ck_Tape_pass⟩
set_option maxRecDepth 100000 in
theorem jq_m20 : jw_MF 20 := ⟨List.mem_of_getElem? (i := 406) rfl, List.mem_of_getElem? (i := 75) rfl, by decide +kernel, ⟨by decide +kernel, by decide +kernel⟩, rfl, by decide, rfl, rfl, by decide, ck_Tape_look⟩
set_option maxRecDepth 100000 in
theorem jq_m21 : jw_MF 21 := ⟨List.mem_of_getElem? (i := 410) rfl, List.mem_of_getElem? (i := 75) rfl, by decide +kernel, ⟨by decide +kernel, by decide +kernel⟩, rfl, by decide, rfl, rfl, by decide, ck_Tape_readTerm⟩
set_option maxRecDepth 100000 in
theorem jq_m22 : jw_MF 22 := ⟨List.mem_of_getElem? (i := 414) rfl, List.mem_of_getElem? (i := 75) rfl, by decide +kernel, ⟨by decide +kernel, by decide +kernel⟩, rfl, by decide, rfl, rfl, by decide, ck_Tape_readNumber⟩
set_option maxRecDepth 100000 in
theorem jq_m23 : jw_MF 23 := ⟨List.mem_of_getElem? (i := 417) rfl, List.mem_of_getElem? (i := 75) rfl, by decide +kernel, ⟨by decide +kernel, by decide +kernel⟩, rfl, by decide, rfl, rfl, by decide, ck_Tape_isDigit⟩
set_option maxRecDepth 100000 in
theorem jq_m24 : jw_MF 24 := ⟨List.mem_of_getElem? (i := 422) rfl, List.mem_of_getElem? (i := 85) rfl, by decide +kernel, ⟨by decide +kernel, by decide +kernel⟩, rfl, by decide, rfl, rfl, by decide, ck_Fractions_of⟩
set_option maxRecDepth 100000 in
theorem jq_m25 : jw_MF 25 := ⟨List.mem_of_getElem? (i := 429) rfl, List.mem_of_getElem? (i := 85) rfl, by decide +kernel, ⟨by decide +kernel, by decide +kernel⟩, rfl, by decide, rfl, rfl, by decide, ck_Fractions_findCommonDivisor⟩
set_option maxRecDepth 100000 in
theorem jq_m26 : jw_MF 26 := ⟨List.mem_of_getElem? (i := 433) rfl, List.mem_of_getElem? (i := 85) rfl, by decide +kernel, ⟨by decide +kernel, by decide +kernel⟩, rfl, by decide, rfl, rfl, by decide, ck_Fractions_sum⟩
set_option maxRecDepth 100000 in
theorem jq_m27 : jw_MF 27 := ⟨List.mem_of_getElem? (i := 436) rfl, List.mem_of_getElem? (i := 85) rfl, by decide +kernel, ⟨by decide +kernel, by decide +kernel⟩, rfl, by decide, rfl, rfl, by decide, ck_Fractions_below⟩
set_option maxRecDepth 100000 in
theorem jq_m28 : jw_MF 28 := ⟨List.mem_of_getElem? (i := 440) rfl, List.mem_of_getElem? (i := 85) rfl, by decide +kernel, ⟨by decide +kernel, by decide +kernel⟩, rfl, by decide, rfl, rfl, by decide, ck_Fractions_above⟩
set_option maxRecDepth 100000 in
theorem jq_m29 : jw_MF 29 := ⟨List.mem_of_getElem? (i := 445) rfl, List.mem_of_getElem? (i := 80) rfl, by decide +kernel, ⟨by decide +kernel, by decide +kernel⟩, rfl, by decide, rfl, rfl, by decide, ck_Ratio_hasZeroPoly⟩
set_option maxRecDepth 100000 in
theorem jq_m30 : jw_MF 30 := ⟨List.mem_of_getElem? (i := 449) rfl, List.mem_of_getElem? (i := 77) rfl, by decide +kernel, ⟨by decide +kernel, by decide +kernel⟩, rfl, by decide, rfl, rfl, by decide, ck_Poly_isZero⟩
set_option maxRecDepth 100000 in
theorem jq_m31 : jw_MF 31 := ⟨List.mem_of_getElem? (i := 453) rfl, List.mem_of_getElem? (i := 77) rfl, by decide +kernel, ⟨by decide +kernel, by decide +kernel⟩, rfl, by decide, rfl, rfl, by decide, ck_Poly_highest⟩
set_option maxRecDepth 100000 in
theorem jq_m32 : jw_MF 32 := ⟨List.mem_of_getElem? (i := 457) rfl, List.mem_of_getElem? (i := 78) rfl, by decide +kernel, ⟨by decide +kernel, by decide +kernel⟩, rfl, by decide, rfl, rfl, by decide, ck_Workshop_addRatio⟩
set_option maxRecDepth 100000 in
theorem jq_m33 : jw_MF 33 := ⟨List.mem_of_getElem? (i := 461) rfl, List.mem_of_getElem? (i := 74) rfl, by decide +kernel, ⟨by decide +kernel, by decide +kernel⟩, rfl, by decide, rfl, rfl, by decide, ck_Maker_ladder⟩
set_option maxRecDepth 100000 in
theorem jq_m34 : jw_MF 34 := ⟨List.mem_of_getElem? (i := 465) rfl, List.mem_of_getElem? (i := 78) rfl, by decide +kernel, ⟨by decide +kernel, by decide +kernel⟩, rfl, by decide, ⟨_, rfl⟩, rfl, by decide, ck_Workshop_freeLadder⟩
set_option maxRecDepth 100000 in
theorem jq_m35 : jw_MF 35 := ⟨List.mem_of_getElem? (i := 469) rfl, List.mem_of_getElem? (i := 75) rfl, by decide +kernel, ⟨by decide +kernel, by decide +kernel⟩, rfl, by decide, rfl, rfl, by decide, ck_Tape_readLadder⟩
set_option maxRecDepth 100000 in
theorem jq_m36 : jw_MF 36 := ⟨List.mem_of_getElem? (i := 473) rfl, List.mem_of_getElem? (i := 75) rfl, by decide +kernel, ⟨by decide +kernel, by decide +kernel⟩, rfl, by decide, rfl, rfl, by decide, ck_Tape_readParts⟩
set_option maxRecDepth 100000 in
theorem jq_m37 : jw_MF 37 := ⟨List.mem_of_getElem? (i := 477) rfl, List.mem_of_getElem? (i := 75) rfl, by decide +kernel, ⟨by decide +kernel, by decide +kernel⟩, rfl, by decide, rfl, rfl, by decide, ck_Tape_readPart⟩
set_option maxRecDepth 100000 in
theorem jq_m38 : jw_MF 38 := ⟨List.mem_of_getElem? (i := 480) rfl, List.mem_of_getElem? (i := 75) rfl, by decide +kernel, ⟨by decide +kernel, by decide +kernel⟩, rfl, by decide, rfl, rfl, by decide, ck_Tape_sortOf⟩
set_option maxRecDepth 100000 in
theorem jq_m39 : jw_MF 39 := ⟨List.mem_of_getElem? (i := 484) rfl, List.mem_of_getElem? (i := 75) rfl, by decide +kernel, ⟨by decide +kernel, by decide +kernel⟩, rfl, by decide, rfl, rfl, by decide, ck_Tape_readFraction⟩
set_option maxRecDepth 100000 in
theorem jq_m40 : jw_MF 40 := ⟨List.mem_of_getElem? (i := 488) rfl, List.mem_of_getElem? (i := 81) rfl, by decide +kernel, ⟨by decide +kernel, by decide +kernel⟩, rfl, by decide, rfl, rfl, by decide, ck_Ladder_addPart⟩
set_option maxRecDepth 100000 in
theorem jq_m41 : jw_MF 41 := ⟨List.mem_of_getElem? (i := 492) rfl, List.mem_of_getElem? (i := 75) rfl, by decide +kernel, ⟨by decide +kernel, by decide +kernel⟩, rfl, by decide, rfl, rfl, by decide, ck_Tape_readEnd⟩
set_option maxRecDepth 100000 in
theorem jq_m42 : jw_MF 42 := ⟨List.mem_of_getElem? (i := 496) rfl, List.mem_of_getElem? (i := 81) rfl, by decide +kernel, ⟨by decide +kernel, by decide +kernel⟩, rfl, by decide, rfl, rfl, by decide, ck_Ladder_endWith⟩
set_option maxRecDepth 100000 in
theorem jq_m43 : jw_MF 43 := ⟨List.mem_of_getElem? (i := 500) rfl, List.mem_of_getElem? (i := 78) rfl, by decide +kernel, ⟨by decide +kernel, by decide +kernel⟩, rfl, by decide, rfl, rfl, by decide, ck_Workshop_addLadder⟩
set_option maxRecDepth 100000 in
theorem jq_m44 : jw_MF 44 := ⟨List.mem_of_getElem? (i := 504) rfl, List.mem_of_getElem? (i := 74) rfl, by decide +kernel, ⟨by decide +kernel, by decide +kernel⟩, rfl, by decide, rfl, rfl, by decide, ck_Maker_degree⟩
set_option maxRecDepth 100000 in
theorem jq_m45 : jw_MF 45 := ⟨List.mem_of_getElem? (i := 508) rfl, List.mem_of_getElem? (i := 78) rfl, by decide +kernel, ⟨by decide +kernel, by decide +kernel⟩, rfl, by decide, ⟨_, rfl⟩, rfl, by decide, ck_Workshop_findRatio⟩
set_option maxRecDepth 100000 in
theorem jq_m46 : jw_MF 46 := ⟨List.mem_of_getElem? (i := 511) rfl, List.mem_of_getElem? (i := 74) rfl, by decide +kernel, ⟨by decide +kernel, by decide +kernel⟩, rfl, by decide, rfl, rfl, by decide, ck_Maker_isWithin⟩
set_option maxRecDepth 100000 in
theorem jq_m47 : jw_MF 47 := ⟨List.mem_of_getElem? (i := 516) rfl, List.mem_of_getElem? (i := 77) rfl, by decide +kernel, ⟨by decide +kernel, by decide +kernel⟩, rfl, by decide, rfl, rfl, by decide, ck_Poly_lowest⟩
set_option maxRecDepth 100000 in
theorem jq_m48 : jw_MF 48 := ⟨List.mem_of_getElem? (i := 520) rfl, List.mem_of_getElem? (i := 74) rfl, by decide +kernel, ⟨by decide +kernel, by decide +kernel⟩, rfl, by decide, rfl, rfl, by decide, ck_Maker_coefficient⟩
set_option maxRecDepth 100000 in
theorem jq_m49 : jw_MF 49 := ⟨List.mem_of_getElem? (i := 526) rfl, List.mem_of_getElem? (i := 77) rfl, by decide +kernel, ⟨by decide +kernel, by decide +kernel⟩, rfl, by decide, rfl, rfl, by decide, ck_Poly_at⟩
set_option maxRecDepth 100000 in
theorem jq_m50 : jw_MF 50 := ⟨List.mem_of_getElem? (i := 530) rfl, List.mem_of_getElem? (i := 74) rfl, by decide +kernel, ⟨by decide +kernel, by decide +kernel⟩, rfl, by decide, rfl, rfl, by decide, ck_Maker_tell⟩
set_option maxRecDepth 100000 in
theorem jq_m51 : jw_MF 51 := ⟨List.mem_of_getElem? (i := 533) rfl, List.mem_of_getElem? (i := 85) rfl, by decide +kernel, ⟨by decide +kernel, by decide +kernel⟩, rfl, by decide, rfl, rfl, by decide, ck_Fractions_isWide⟩
set_option maxRecDepth 100000 in
theorem jq_m52 : jw_MF 52 := ⟨List.mem_of_getElem? (i := 539) rfl, List.mem_of_getElem? (i := 74) rfl, by decide +kernel, ⟨by decide +kernel, by decide +kernel⟩, rfl, by decide, rfl, rfl, by decide, ck_Maker_same⟩
set_option maxRecDepth 100000 in
theorem jq_m53 : jw_MF 53 := ⟨List.mem_of_getElem? (i := 543) rfl, List.mem_of_getElem? (i := 80) rfl, by decide +kernel, ⟨by decide +kernel, by decide +kernel⟩, rfl, by decide, rfl, rfl, by decide, ck_Ratio_tellWhetherSame⟩
set_option maxRecDepth 100000 in
theorem jq_m54 : jw_MF 54 := ⟨List.mem_of_getElem? (i := 546) rfl, List.mem_of_getElem? (i := 80) rfl, by decide +kernel, ⟨by decide +kernel, by decide +kernel⟩, rfl, by decide, rfl, rfl, by decide, ck_Ratio_sumOfProducts⟩
set_option maxRecDepth 100000 in
theorem jq_m55 : jw_MF 55 := ⟨List.mem_of_getElem? (i := 550) rfl, List.mem_of_getElem? (i := 85) rfl, by decide +kernel, ⟨by decide +kernel, by decide +kernel⟩, rfl, by decide, rfl, rfl, by decide, ck_Fractions_product⟩
set_option maxRecDepth 100000 in
theorem jq_m56 : jw_MF 56 := ⟨List.mem_of_getElem? (i := 556) rfl, List.mem_of_getElem? (i := 74) rfl, by decide +kernel, ⟨by decide +kernel, by decide +kernel⟩, rfl, by decide, rfl, rfl, by decide, ck_Maker_divide⟩
set_option maxRecDepth 100000 in
theorem jq_m57 : jw_MF 57 := ⟨List.mem_of_getElem? (i := 560) rfl, List.mem_of_getElem? (i := 76) rfl, by decide +kernel, ⟨by decide +kernel, by decide +kernel⟩, rfl, by decide, rfl, rfl, by decide, ck_Divider_work⟩
set_option maxRecDepth 100000 in
theorem jq_m58 : jw_MF 58 := ⟨List.mem_of_getElem? (i := 564) rfl, List.mem_of_getElem? (i := 77) rfl, by decide +kernel, ⟨by decide +kernel, by decide +kernel⟩, rfl, by decide, rfl, rfl, by decide, ck_Poly_become⟩
set_option maxRecDepth 100000 in
theorem jq_m59 : jw_MF 59 := ⟨List.mem_of_getElem? (i := 568) rfl, List.mem_of_getElem? (i := 76) rfl, by decide +kernel, ⟨by decide +kernel, by decide +kernel⟩, rfl, by decide, rfl, rfl, by decide, ck_Divider_makePart⟩
set_option maxRecDepth 100000 in
theorem jq_m60 : jw_MF 60 := ⟨List.mem_of_getElem? (i := 572) rfl, List.mem_of_getElem? (i := 76) rfl, by decide +kernel, ⟨by decide +kernel, by decide +kernel⟩, rfl, by decide, rfl, rfl, by decide, ck_Divider_reach⟩
set_option maxRecDepth 100000 in
theorem jq_m61 : jw_MF 61 := ⟨List.mem_of_getElem? (i := 578) rfl, List.mem_of_getElem? (i := 76) rfl, by decide +kernel, ⟨by decide +kernel, by decide +kernel⟩, rfl, by decide, rfl, rfl, by decide, ck_Divider_changePlaces⟩
set_option maxRecDepth 100000 in
theorem jq_m62 : jw_MF 62 := ⟨List.mem_of_getElem? (i := 582) rfl, List.mem_of_getElem? (i := 76) rfl, by decide +kernel, ⟨by decide +kernel, by decide +kernel⟩, rfl, by decide, rfl, rfl, by decide, ck_Divider_leader⟩
set_option maxRecDepth 100000 in
theorem jq_m63 : jw_MF 63 := ⟨List.mem_of_getElem? (i := 586) rfl, List.mem_of_getElem? (i := 85) rfl, by decide +kernel, ⟨by decide +kernel, by decide +kernel⟩, rfl, by decide, rfl, rfl, by decide, ck_Fractions_quotient⟩
set_option maxRecDepth 100000 in
theorem jq_m64 : jw_MF 64 := ⟨List.mem_of_getElem? (i := 592) rfl, List.mem_of_getElem? (i := 76) rfl, by decide +kernel, ⟨by decide +kernel, by decide +kernel⟩, rfl, by decide, rfl, rfl, by decide, ck_Divider_addPartOf⟩
set_option maxRecDepth 100000 in
theorem jq_m65 : jw_MF 65 := ⟨List.mem_of_getElem? (i := 595) rfl, List.mem_of_getElem? (i := 85) rfl, by decide +kernel, ⟨by decide +kernel, by decide +kernel⟩, rfl, by decide, rfl, rfl, by decide, ck_Fractions_reciprocal⟩
set_option maxRecDepth 100000 in
theorem jq_m66 : jw_MF 66 := ⟨List.mem_of_getElem? (i := 599) rfl, List.mem_of_getElem? (i := 85) rfl, by decide +kernel, ⟨by decide +kernel, by decide +kernel⟩, rfl, by decide, rfl, rfl, by decide, ck_Fractions_negative⟩
set_option maxRecDepth 100000 in
theorem jq_m67 : jw_MF 67 := ⟨List.mem_of_getElem? (i := 602) rfl, List.mem_of_getElem? (i := 85) rfl, by decide +kernel, ⟨by decide +kernel, by decide +kernel⟩, rfl, by decide, rfl, rfl, by decide, ck_Fractions_difference⟩
set_option maxRecDepth 100000 in
theorem jq_m68 : jw_MF 68 := ⟨List.mem_of_getElem? (i := 606) rfl, List.mem_of_getElem? (i := 77) rfl, by decide +kernel, ⟨by decide +kernel, by decide +kernel⟩, rfl, by decide, rfl, rfl, by decide, ck_Poly_addTimes⟩
set_option maxRecDepth 100000 in
theorem jq_m69 : jw_MF 69 := ⟨List.mem_of_getElem? (i := 616) rfl, List.mem_of_getElem? (i := 74) rfl, by decide +kernel, ⟨by decide +kernel, by decide +kernel⟩, rfl, by decide, rfl, rfl, by decide, ck_Maker_invert⟩
set_option maxRecDepth 100000 in
theorem jq_m70 : jw_MF 70 := ⟨List.mem_of_getElem? (i := 621) rfl, List.mem_of_getElem? (i := 74) rfl, by decide +kernel, ⟨by decide +kernel, by decide +kernel⟩, rfl, by decide, rfl, rfl, by decide, ck_Maker_stretch⟩
set_option maxRecDepth 100000 in
theorem jq_m71 : jw_MF 71 := ⟨List.mem_of_getElem? (i := 624) rfl, List.mem_of_getElem? (i := 74) rfl, by decide +kernel, ⟨by decide +kernel, by decide +kernel⟩, rfl, by decide, rfl, rfl, by decide, ck_Maker_isTold⟩
set_option maxRecDepth 100000 in
theorem jq_m72 : jw_MF 72 := ⟨List.mem_of_getElem? (i := 629) rfl, List.mem_of_getElem? (i := 80) rfl, by decide +kernel, ⟨by decide +kernel, by decide +kernel⟩, rfl, by decide, rfl, rfl, by decide, ck_Ratio_becomeScaled⟩
set_option maxRecDepth 100000 in
theorem jq_m73 : jw_MF 73 := ⟨List.mem_of_getElem? (i := 633) rfl, List.mem_of_getElem? (i := 80) rfl, by decide +kernel, ⟨by decide +kernel, by decide +kernel⟩, rfl, by decide, rfl, rfl, by decide, ck_Ratio_become⟩
set_option maxRecDepth 100000 in
theorem jq_m74 : jw_MF 74 := ⟨List.mem_of_getElem? (i := 638) rfl, List.mem_of_getElem? (i := 77) rfl, by decide +kernel, ⟨by decide +kernel, by decide +kernel⟩, rfl, by decide, rfl, rfl, by decide, ck_Poly_divideByPowers⟩
set_option maxRecDepth 100000 in
theorem jq_m75 : jw_MF 75 := ⟨List.mem_of_getElem? (i := 643) rfl, List.mem_of_getElem? (i := 77) rfl, by decide +kernel, ⟨by decide +kernel, by decide +kernel⟩, rfl, by decide, rfl, rfl, by decide, ck_Poly_growTimes⟩
set_option maxRecDepth 100000 in
theorem jq_m76 : jw_MF 76 := ⟨List.mem_of_getElem? (i := 647) rfl, List.mem_of_getElem? (i := 74) rfl, by decide +kernel, ⟨by decide +kernel, by decide +kernel⟩, rfl, by decide, rfl, rfl, by decide, ck_Maker_shift⟩
set_option maxRecDepth 100000 in
theorem jq_m77 : jw_MF 77 := ⟨List.mem_of_getElem? (i := 651) rfl, List.mem_of_getElem? (i := 80) rfl, by decide +kernel, ⟨by decide +kernel, by decide +kernel⟩, rfl, by decide, rfl, rfl, by decide, ck_Ratio_becomeShifted⟩
set_option maxRecDepth 100000 in
theorem jq_m78 : jw_MF 78 := ⟨List.mem_of_getElem? (i := 655) rfl, List.mem_of_getElem? (i := 77) rfl, by decide +kernel, ⟨by decide +kernel, by decide +kernel⟩, rfl, by decide, rfl, rfl, by decide, ck_Poly_moveBy⟩
set_option maxRecDepth 100000 in
theorem jq_m79 : jw_MF 79 := ⟨List.mem_of_getElem? (i := 659) rfl, List.mem_of_getElem? (i := 74) rfl, by decide +kernel, ⟨by decide +kernel, by decide +kernel⟩, rfl, by decide, rfl, rfl, by decide, ck_Maker_parts⟩
set_option maxRecDepth 100000 in
theorem jq_m80 : jw_MF 80 := ⟨List.mem_of_getElem? (i := 663) rfl, List.mem_of_getElem? (i := 78) rfl, by decide +kernel, ⟨by decide +kernel, by decide +kernel⟩, rfl, by decide, ⟨_, rfl⟩, rfl, by decide, ck_Workshop_findLadder⟩
set_option maxRecDepth 100000 in
theorem jq_m81 : jw_MF 81 := ⟨List.mem_of_getElem? (i := 667) rfl, List.mem_of_getElem? (i := 74) rfl, by decide +kernel, ⟨by decide +kernel, by decide +kernel⟩, rfl, by decide, rfl, rfl, by decide, ck_Maker_end⟩
set_option maxRecDepth 100000 in
theorem jq_m82 : jw_MF 82 := ⟨List.mem_of_getElem? (i := 671) rfl, List.mem_of_getElem? (i := 74) rfl, by decide +kernel, ⟨by decide +kernel, by decide +kernel⟩, rfl, by decide, rfl, rfl, by decide, ck_Maker_part⟩
set_option maxRecDepth 100000 in
theorem jq_m83 : jw_MF 83 := ⟨List.mem_of_getElem? (i := 675) rfl, List.mem_of_getElem? (i := 81) rfl, by decide +kernel, ⟨by decide +kernel, by decide +kernel⟩, rfl, by decide, rfl, rfl, by decide, ck_Ladder_has⟩
set_option maxRecDepth 100000 in
theorem jq_m84 : jw_MF 84 := ⟨List.mem_of_getElem? (i := 680) rfl, List.mem_of_getElem? (i := 74) rfl, by decide +kernel, ⟨by decide +kernel, by decide +kernel⟩, rfl, by decide, rfl, rfl, by decide, ck_Maker_value⟩
set_option maxRecDepth 100000 in
theorem jq_m85 : jw_MF 85 := ⟨List.mem_of_getElem? (i := 684) rfl, List.mem_of_getElem? (i := 74) rfl, by decide +kernel, ⟨by decide +kernel, by decide +kernel⟩, rfl, by decide, rfl, rfl, by decide, ck_Maker_multiply⟩
set_option maxRecDepth 100000 in
theorem jq_m86 : jw_MF 86 := ⟨List.mem_of_getElem? (i := 688) rfl, List.mem_of_getElem? (i := 80) rfl, by decide +kernel, ⟨by decide +kernel, by decide +kernel⟩, rfl, by decide, rfl, rfl, by decide, ck_Ratio_becomeMultipliedOut⟩
set_option maxRecDepth 100000 in
theorem jq_m87 : jw_MF 87 := ⟨List.mem_of_getElem? (i := 694) rfl, List.mem_of_getElem? (i := 80) rfl, by decide +kernel, ⟨by decide +kernel, by decide +kernel⟩, rfl, by decide, rfl, rfl, by decide, ck_Ratio_takeIn⟩
set_option maxRecDepth 100000 in
theorem jq_m88 : jw_MF 88 := ⟨List.mem_of_getElem? (i := 697) rfl, List.mem_of_getElem? (i := 81) rfl, by decide +kernel, ⟨by decide +kernel, by decide +kernel⟩, rfl, by decide, rfl, rfl, by decide, ck_Ladder_isRising⟩
set_option maxRecDepth 100000 in
theorem jq_m89 : jw_MF 89 := ⟨List.mem_of_getElem? (i := 702) rfl, List.mem_of_getElem? (i := 74) rfl, by decide +kernel, ⟨by decide +kernel, by decide +kernel⟩, rfl, by decide, rfl, rfl, by decide, ck_Maker_close⟩
set_option maxRecDepth 100000 in
theorem jq_m90 : jw_MF 90 := ⟨List.mem_of_getElem? (i := 707) rfl, List.mem_of_getElem? (i := 74) rfl, by decide +kernel, ⟨by decide +kernel, by decide +kernel⟩, rfl, by decide, rfl, rfl, by decide, ck_Maker_scale⟩
set_option maxRecDepth 100000 in
theorem jq_m91 : jw_MF 91 := ⟨List.mem_of_getElem? (i := 711) rfl, List.mem_of_getElem? (i := 81) rfl, by decide +kernel, ⟨by decide +kernel, by decide +kernel⟩, rfl, by decide, rfl, rfl, by decide, ck_Ladder_becomeScaled⟩
set_option maxRecDepth 100000 in
theorem jq_m92 : jw_MF 92 := ⟨List.mem_of_getElem? (i := 715) rfl, List.mem_of_getElem? (i := 81) rfl, by decide +kernel, ⟨by decide +kernel, by decide +kernel⟩, rfl, by decide, rfl, rfl, by decide, ck_Ladder_beginLike⟩
set_option maxRecDepth 100000 in
theorem jq_m93 : jw_MF 93 := ⟨List.mem_of_getElem? (i := 719) rfl, List.mem_of_getElem? (i := 81) rfl, by decide +kernel, ⟨by decide +kernel, by decide +kernel⟩, rfl, by decide, rfl, rfl, by decide, ck_Ladder_scaleValue⟩
set_option maxRecDepth 100000 in
theorem jq_m94 : jw_MF 94 := ⟨List.mem_of_getElem? (i := 727) rfl, List.mem_of_getElem? (i := 74) rfl, by decide +kernel, ⟨by decide +kernel, by decide +kernel⟩, rfl, by decide, rfl, rfl, by decide, ck_Maker_band⟩
set_option maxRecDepth 100000 in
theorem jq_m95 : jw_MF 95 := ⟨List.mem_of_getElem? (i := 731) rfl, List.mem_of_getElem? (i := 81) rfl, by decide +kernel, ⟨by decide +kernel, by decide +kernel⟩, rfl, by decide, rfl, rfl, by decide, ck_Ladder_refuseToWiden⟩
set_option maxRecDepth 100000 in
theorem jq_m96 : jw_MF 96 := ⟨List.mem_of_getElem? (i := 735) rfl, List.mem_of_getElem? (i := 81) rfl, by decide +kernel, ⟨by decide +kernel, by decide +kernel⟩, rfl, by decide, rfl, rfl, by decide, ck_Ladder_canBeWidened⟩
set_option maxRecDepth 100000 in
theorem jq_m97 : jw_MF 97 := ⟨List.mem_of_getElem? (i := 740) rfl, List.mem_of_getElem? (i := 81) rfl, by decide +kernel, ⟨by decide +kernel, by decide +kernel⟩, rfl, by decide, rfl, rfl, by decide, ck_Ladder_countReactive⟩
set_option maxRecDepth 100000 in
theorem jq_m98 : jw_MF 98 := ⟨List.mem_of_getElem? (i := 744) rfl, List.mem_of_getElem? (i := 81) rfl, by decide +kernel, ⟨by decide +kernel, by decide +kernel⟩, rfl, by decide, rfl, rfl, by decide, ck_Ladder_becomeBanded⟩
set_option maxRecDepth 100000 in
theorem jq_m99 : jw_MF 99 := ⟨List.mem_of_getElem? (i := 748) rfl, List.mem_of_getElem? (i := 74) rfl, by decide +kernel, ⟨by decide +kernel, by decide +kernel⟩, rfl, by decide, rfl, rfl, by decide, ck_Maker_dull⟩
set_option maxRecDepth 100000 in
theorem jq_m100 : jw_MF 100 := ⟨List.mem_of_getElem? (i := 752) rfl, List.mem_of_getElem? (i := 81) rfl, by decide +kernel, ⟨by decide +kernel, by decide +kernel⟩, rfl, by decide, rfl, rfl, by decide, ck_Ladder_becomeDulled⟩
set_option maxRecDepth 100000 in
theorem jq_m101 : jw_MF 101 := ⟨List.mem_of_getElem? (i := 757) rfl, List.mem_of_getElem? (i := 74) rfl, by decide +kernel, ⟨by decide +kernel, by decide +kernel⟩, rfl, by decide, rfl, rfl, by decide, ck_Maker_turn⟩
set_option maxRecDepth 100000 in
theorem jq_m102 : jw_MF 102 := ⟨List.mem_of_getElem? (i := 761) rfl, List.mem_of_getElem? (i := 81) rfl, by decide +kernel, ⟨by decide +kernel, by decide +kernel⟩, rfl, by decide, rfl, rfl, by decide, ck_Ladder_becomeTurned⟩
set_option maxRecDepth 100000 in
theorem jq_m103 : jw_MF 103 := ⟨List.mem_of_getElem? (i := 765) rfl, List.mem_of_getElem? (i := 74) rfl, by decide +kernel, ⟨by decide +kernel, by decide +kernel⟩, rfl, by decide, rfl, rfl, by decide, ck_Maker_fit⟩
set_option maxRecDepth 100000 in
theorem jq_m104 : jw_MF 104 := ⟨List.mem_of_getElem? (i := 769) rfl, List.mem_of_getElem? (i := 81) rfl, by decide +kernel, ⟨by decide +kernel, by decide +kernel⟩, rfl, by decide, rfl, rfl, by decide, ck_Ladder_becomeFitted⟩
set_option maxRecDepth 100000 in
theorem jq_m105 : jw_MF 105 := ⟨List.mem_of_getElem? (i := 773) rfl, List.mem_of_getElem? (i := 82) rfl, by decide +kernel, ⟨by decide +kernel, by decide +kernel⟩, rfl, by decide, rfl, rfl, by decide, ck_Bins_findNearest⟩
set_option maxRecDepth 100000 in
theorem jq_m106 : jw_MF 106 := ⟨List.mem_of_getElem? (i := 776) rfl, List.mem_of_getElem? (i := 82) rfl, by decide +kernel, ⟨by decide +kernel, by decide +kernel⟩, rfl, by decide, rfl, rfl, by decide, ck_Bins_isNearer⟩
set_option maxRecDepth 100000 in
theorem jq_m107 : jw_MF 107 := ⟨List.mem_of_getElem? (i := 779) rfl, List.mem_of_getElem? (i := 82) rfl, by decide +kernel, ⟨by decide +kernel, by decide +kernel⟩, rfl, by decide, rfl, rfl, by decide, ck_Bins_spread⟩
set_option maxRecDepth 100000 in
theorem jq_m108 : jw_MF 108 := ⟨List.mem_of_getElem? (i := 786) rfl, List.mem_of_getElem? (i := 74) rfl, by decide +kernel, ⟨by decide +kernel, by decide +kernel⟩, rfl, by decide, rfl, rfl, by decide, ck_Maker_forget⟩
set_option maxRecDepth 100000 in
theorem jq_m109 : jw_MF 109 := ⟨List.mem_of_getElem? (i := 790) rfl, List.mem_of_getElem? (i := 78) rfl, by decide +kernel, ⟨by decide +kernel, by decide +kernel⟩, rfl, by decide, rfl, rfl, by decide, ck_Workshop_forgetRatios⟩
set_option maxRecDepth 100000 in
theorem jq_m110 : jw_MF 110 := ⟨List.mem_of_getElem? (i := 794) rfl, List.mem_of_getElem? (i := 78) rfl, by decide +kernel, ⟨by decide +kernel, by decide +kernel⟩, rfl, by decide, rfl, rfl, by decide, ck_Workshop_forgetLadders⟩
set_option maxRecDepth 100000 in
theorem jq_m111 : jw_MF 111 := ⟨List.mem_of_getElem? (i := 798) rfl, List.mem_of_getElem? (i := 74) rfl, by decide +kernel, ⟨by decide +kernel, by decide +kernel⟩, rfl, by decide, rfl, rfl, by decide, ck_Maker_worth⟩
set_option maxRecDepth 100000 in
theorem jq_m112 : jw_MF 112 := ⟨List.mem_of_getElem? (i := 802) rfl, List.mem_of_getElem? (i := 81) rfl, by decide +kernel, ⟨by decide +kernel, by decide +kernel⟩, rfl, by decide, rfl, rfl, by decide, ck_Ladder_worthAt⟩
set_option maxRecDepth 100000 in
theorem jq_m113 : jw_MF 113 := ⟨List.mem_of_getElem? (i := 806) rfl, List.mem_of_getElem? (i := 81) rfl, by decide +kernel, ⟨by decide +kernel, by decide +kernel⟩, rfl, by decide, rfl, rfl, by decide, ck_Ladder_workOut⟩
set_option maxRecDepth 100000 in
theorem jq_m114 : jw_MF 114 := ⟨List.mem_of_getElem? (i := 810) rfl, List.mem_of_getElem? (i := 81) rfl, by decide +kernel, ⟨by decide +kernel, by decide +kernel⟩, rfl, by decide, rfl, rfl, by decide, ck_Ladder_worthOfEnd⟩
set_option maxRecDepth 100000 in
theorem jq_m115 : jw_MF 115 := ⟨List.mem_of_getElem? (i := 815) rfl, List.mem_of_getElem? (i := 81) rfl, by decide +kernel, ⟨by decide +kernel, by decide +kernel⟩, rfl, by decide, rfl, rfl, by decide, ck_Ladder_reactanceOfPart⟩
set_option maxRecDepth 100000 in
theorem jq_m116 : jw_MF 116 := ⟨List.mem_of_getElem? (i := 820) rfl, List.mem_of_getElem? (i := 81) rfl, by decide +kernel, ⟨by decide +kernel, by decide +kernel⟩, rfl, by decide, rfl, rfl, by decide, ck_Ladder_worthOfPart⟩
set_option maxRecDepth 100000 in
theorem jq_m117 : jw_MF 117 := ⟨List.mem_of_getElem? (i := 823) rfl, List.mem_of_getElem? (i := 81) rfl, by decide +kernel, ⟨by decide +kernel, by decide +kernel⟩, rfl, by decide, rfl, rfl, by decide, ck_Ladder_addShunt⟩
set_option maxRecDepth 100000 in
theorem jq_m118 : jw_MF 118 := ⟨List.mem_of_getElem? (i := 828) rfl, List.mem_of_getElem? (i := 81) rfl, by decide +kernel, ⟨by decide +kernel, by decide +kernel⟩, rfl, by decide, rfl, rfl, by decide, ck_Ladder_addSeries⟩
set_option maxRecDepth 100000 in
theorem jq_m119 : jw_MF 119 := ⟨List.mem_of_getElem? (i := 832) rfl, List.mem_of_getElem? (i := 74) rfl, by decide +kernel, ⟨by decide +kernel, by decide +kernel⟩, rfl, by decide, rfl, rfl, by decide, ck_Maker_react⟩
set_option maxRecDepth 100000 in
theorem jq_m120 : jw_MF 120 := ⟨List.mem_of_getElem? (i := 836) rfl, List.mem_of_getElem? (i := 81) rfl, by decide +kernel, ⟨by decide +kernel, by decide +kernel⟩, rfl, by decide, rfl, rfl, by decide, ck_Ladder_isLossless⟩
set_option maxRecDepth 100000 in
theorem jq_m121 : jw_MF 121 := ⟨List.mem_of_getElem? (i := 840) rfl, List.mem_of_getElem? (i := 81) rfl, by decide +kernel, ⟨by decide +kernel, by decide +kernel⟩, rfl, by decide, rfl, rfl, by decide, ck_Ladder_reactanceAt⟩
set_option maxRecDepth 100000 in
theorem jq_m122 : jw_MF 122 := ⟨List.mem_of_getElem? (i := 844) rfl, List.mem_of_getElem? (i := 74) rfl, by decide +kernel, ⟨by decide +kernel, by decide +kernel⟩, rfl, by decide, rfl, rfl, by decide, ck_Maker_first⟩
set_option maxRecDepth 100000 in
theorem jq_m123 : jw_MF 123 := ⟨List.mem_of_getElem? (i := 847) rfl, List.mem_of_getElem? (i := 74) rfl, by decide +kernel, ⟨by decide +kernel, by decide +kernel⟩, rfl, by decide, rfl, rfl, by decide, ck_Maker_isReactanceOfKind⟩
set_option maxRecDepth 100000 in
theorem jq_m124 : jw_MF 124 := ⟨List.mem_of_getElem? (i := 852) rfl, List.mem_of_getElem? (i := 74) rfl, by decide +kernel, ⟨by decide +kernel, by decide +kernel⟩, rfl, by decide, rfl, rfl, by decide, ck_Maker_stock⟩
set_option maxRecDepth 100000 in
theorem jq_m125 : jw_MF 125 := ⟨List.mem_of_getElem? (i := 855) rfl, List.mem_of_getElem? (i := 74) rfl, by decide +kernel, ⟨by decide +kernel, by decide +kernel⟩, rfl, by decide, rfl, rfl, by decide, ck_Maker_isSort⟩
set_option maxRecDepth 100000 in
theorem jq_m126 : jw_MF 126 := ⟨List.mem_of_getElem? (i := 859) rfl, List.mem_of_getElem? (i := 82) rfl, by decide +kernel, ⟨by decide +kernel, by decide +kernel⟩, rfl, by decide, rfl, rfl, by decide, ck_Bins_store⟩
set_option maxRecDepth 100000 in
theorem jq_m127 : jw_MF 127 := ⟨List.mem_of_getElem? (i := 863) rfl, List.mem_of_getElem? (i := 82) rfl, by decide +kernel, ⟨by decide +kernel, by decide +kernel⟩, rfl, by decide, rfl, rfl, by decide, ck_Bins_find⟩
set_option maxRecDepth 100000 in
theorem jq_m128 : jw_MF 128 := ⟨List.mem_of_getElem? (i := 867) rfl, List.mem_of_getElem? (i := 82) rfl, by decide +kernel, ⟨by decide +kernel, by decide +kernel⟩, rfl, by decide, rfl, rfl, by decide, ck_Bins_makeRoomFor⟩
set_option maxRecDepth 100000 in
theorem jq_m129 : jw_MF 129 := ⟨List.mem_of_getElem? (i := 870) rfl, List.mem_of_getElem? (i := 85) rfl, by decide +kernel, ⟨by decide +kernel, by decide +kernel⟩, rfl, by decide, rfl, rfl, by decide, ck_Fractions_compare⟩
set_option maxRecDepth 100000 in
theorem jq_m130 : jw_MF 130 := ⟨List.mem_of_getElem? (i := 873) rfl, List.mem_of_getElem? (i := 87) rfl, by decide +kernel, ⟨by decide +kernel, by decide +kernel⟩, rfl, by decide, rfl, rfl, by decide, ck_Long_compare⟩
set_option maxRecDepth 100000 in
theorem jq_m131 : jw_MF 131 := ⟨List.mem_of_getElem? (i := 877) rfl, List.mem_of_getElem? (i := 82) rfl, by decide +kernel, ⟨by decide +kernel, by decide +kernel⟩, rfl, by decide, rfl, rfl, by decide, ck_Bins_setBin⟩
set_option maxRecDepth 100000 in
theorem jq_m132 : jw_MF 132 := ⟨List.mem_of_getElem? (i := 882) rfl, List.mem_of_getElem? (i := 74) rfl, by decide +kernel, ⟨by decide +kernel, by decide +kernel⟩, rfl, by decide, rfl, rfl, by decide, ck_Maker_bin⟩
set_option maxRecDepth 100000 in
theorem jq_m133 : jw_MF 133 := ⟨List.mem_of_getElem? (i := 886) rfl, List.mem_of_getElem? (i := 74) rfl, by decide +kernel, ⟨by decide +kernel, by decide +kernel⟩, rfl, by decide, rfl, rfl, by decide, ck_Maker_nearest⟩
set_option maxRecDepth 100000 in
theorem jq_m134 : jw_MF 134 := ⟨List.mem_of_getElem? (i := 891) rfl, List.mem_of_getElem? (i := 74) rfl, by decide +kernel, ⟨by decide +kernel, by decide +kernel⟩, rfl, by decide, rfl, rfl, by decide, ck_Maker_build⟩
set_option maxRecDepth 100000 in
theorem jq_m135 : jw_MF 135 := ⟨List.mem_of_getElem? (i := 895) rfl, List.mem_of_getElem? (i := 78) rfl, by decide +kernel, ⟨by decide +kernel, by decide +kernel⟩, rfl, by decide, rfl, rfl, by decide, ck_Workshop_countLacking⟩
set_option maxRecDepth 100000 in
theorem jq_m136 : jw_MF 136 := ⟨List.mem_of_getElem? (i := 899) rfl, List.mem_of_getElem? (i := 78) rfl, by decide +kernel, ⟨by decide +kernel, by decide +kernel⟩, rfl, by decide, rfl, rfl, by decide, ck_Workshop_countLikeAhead⟩
set_option maxRecDepth 100000 in
theorem jq_m137 : jw_MF 137 := ⟨List.mem_of_getElem? (i := 903) rfl, List.mem_of_getElem? (i := 78) rfl, by decide +kernel, ⟨by decide +kernel, by decide +kernel⟩, rfl, by decide, rfl, rfl, by decide, ck_Workshop_spendOn⟩
set_option maxRecDepth 100000 in
theorem jq_m138 : jw_MF 138 := ⟨List.mem_of_getElem? (i := 907) rfl, List.mem_of_getElem? (i := 79) rfl, by decide +kernel, ⟨by decide +kernel, by decide +kernel⟩, rfl, by decide, rfl, rfl, by decide, ck_Wants_add⟩
set_option maxRecDepth 100000 in
theorem jq_m139 : jw_MF 139 := ⟨List.mem_of_getElem? (i := 911) rfl, List.mem_of_getElem? (i := 79) rfl, by decide +kernel, ⟨by decide +kernel, by decide +kernel⟩, rfl, by decide, rfl, rfl, by decide, ck_Wants_isAhead⟩
set_option maxRecDepth 100000 in
theorem jq_m140 : jw_MF 140 := ⟨List.mem_of_getElem? (i := 916) rfl, List.mem_of_getElem? (i := 79) rfl, by decide +kernel, ⟨by decide +kernel, by decide +kernel⟩, rfl, by decide, rfl, rfl, by decide, ck_Wants_take⟩
set_option maxRecDepth 100000 in
theorem jq_m141 : jw_MF 141 := ⟨List.mem_of_getElem? (i := 920) rfl, List.mem_of_getElem? (i := 74) rfl, by decide +kernel, ⟨by decide +kernel, by decide +kernel⟩, rfl, by decide, rfl, rfl, by decide, ck_Maker_arrive⟩
set_option maxRecDepth 100000 in
theorem jq_m142 : jw_MF 142 := ⟨List.mem_of_getElem? (i := 924) rfl, List.mem_of_getElem? (i := 79) rfl, by decide +kernel, ⟨by decide +kernel, by decide +kernel⟩, rfl, by decide, rfl, rfl, by decide, ck_Wants_removeFirst⟩
set_option maxRecDepth 100000 in
theorem jq_m143 : jw_MF 143 := ⟨List.mem_of_getElem? (i := 931) rfl, List.mem_of_getElem? (i := 74) rfl, by decide +kernel, ⟨by decide +kernel, by decide +kernel⟩, rfl, by decide, rfl, rfl, by decide, ck_Maker_want⟩
set_option maxRecDepth 100000 in
theorem jq_m144 : jw_MF 144 := ⟨List.mem_of_getElem? (i := 935) rfl, List.mem_of_getElem? (i := 74) rfl, by decide +kernel, ⟨by decide +kernel, by decide +kernel⟩, rfl, by decide, rfl, rfl, by decide, ck_Maker_cost⟩
set_option maxRecDepth 100000 in
theorem jq_m145 : jw_MF 145 := ⟨List.mem_of_getElem? (i := 939) rfl, List.mem_of_getElem? (i := 78) rfl, by decide +kernel, ⟨by decide +kernel, by decide +kernel⟩, rfl, by decide, rfl, rfl, by decide, ck_Workshop_priceOf⟩
set_option maxRecDepth 100000 in
theorem jq_m146 : jw_MF 146 := ⟨List.mem_of_getElem? (i := 943) rfl, List.mem_of_getElem? (i := 74) rfl, by decide +kernel, ⟨by decide +kernel, by decide +kernel⟩, rfl, by decide, rfl, rfl, by decide, ck_Maker_unlike⟩
set_option maxRecDepth 100000 in
theorem jq_m147 : jw_MF 147 := ⟨List.mem_of_getElem? (i := 947) rfl, List.mem_of_getElem? (i := 78) rfl, by decide +kernel, ⟨by decide +kernel, by decide +kernel⟩, rfl, by decide, rfl, rfl, by decide, ck_Workshop_countUnlike⟩
set_option maxRecDepth 100000 in
theorem jq_m148 : jw_MF 148 := ⟨List.mem_of_getElem? (i := 952) rfl, List.mem_of_getElem? (i := 78) rfl, by decide +kernel, ⟨by decide +kernel, by decide +kernel⟩, rfl, by decide, rfl, rfl, by decide, ck_Workshop_greatestBelow⟩
set_option maxRecDepth 100000 in
theorem jq_m149 : jw_MF 149 := ⟨List.mem_of_getElem? (i := 957) rfl, List.mem_of_getElem? (i := 78) rfl, by decide +kernel, ⟨by decide +kernel, by decide +kernel⟩, rfl, by decide, rfl, rfl, by decide, ck_Workshop_findUnlike⟩
set_option maxRecDepth 100000 in
theorem jq_m150 : jw_MF 150 := ⟨List.mem_of_getElem? (i := 961) rfl, List.mem_of_getElem? (i := 74) rfl, by decide +kernel, ⟨by decide +kernel, by decide +kernel⟩, rfl, by decide, rfl, rfl, by decide, ck_Maker_hold⟩
set_option maxRecDepth 100000 in
theorem jq_m151 : jw_MF 151 := ⟨List.mem_of_getElem? (i := 965) rfl, List.mem_of_getElem? (i := 74) rfl, by decide +kernel, ⟨by decide +kernel, by decide +kernel⟩, rfl, by decide, ⟨_, rfl⟩, rfl, by decide, ck_Maker_findHolder⟩
set_option maxRecDepth 100000 in
theorem jq_m152 : jw_MF 152 := ⟨List.mem_of_getElem? (i := 969) rfl, List.mem_of_getElem? (i := 83) rfl, by decide +kernel, ⟨by decide +kernel, by decide +kernel⟩, rfl, by decide, rfl, rfl, by decide, ck_Holder_takePart⟩
set_option maxRecDepth 100000 in
theorem jq_m153 : jw_MF 153 := ⟨List.mem_of_getElem? (i := 973) rfl, List.mem_of_getElem? (i := 74) rfl, by decide +kernel, ⟨by decide +kernel, by decide +kernel⟩, rfl, by decide, rfl, rfl, by decide, ck_Maker_drop⟩
set_option maxRecDepth 100000 in
theorem jq_m154 : jw_MF 154 := ⟨List.mem_of_getElem? (i := 977) rfl, List.mem_of_getElem? (i := 74) rfl, by decide +kernel, ⟨by decide +kernel, by decide +kernel⟩, rfl, by decide, rfl, rfl, by decide, ck_Maker_taken⟩
set_option maxRecDepth 100000 in
theorem jq_m155 : jw_MF 155 := ⟨List.mem_of_getElem? (i := 981) rfl, List.mem_of_getElem? (i := 83) rfl, by decide +kernel, ⟨by decide +kernel, by decide +kernel⟩, rfl, by decide, rfl, rfl, by decide, ck_Holder_isOfKind⟩
set_option maxRecDepth 100000 in
theorem jq_m156 : jw_MF 156 := ⟨List.mem_of_getElem? (i := 985) rfl, List.mem_of_getElem? (i := 83) rfl, by decide +kernel, ⟨by decide +kernel, by decide +kernel⟩, rfl, by decide, rfl, rfl, by decide, ck_Holder_tellAs⟩
set_option maxRecDepth 100000 in
theorem jq_m157 : jw_MF 157 := ⟨List.mem_of_getElem? (i := 991) rfl, List.mem_of_getElem? (i := 74) rfl, by decide +kernel, ⟨by decide +kernel, by decide +kernel⟩, rfl, by decide, rfl, rfl, by decide, ck_Maker_row⟩
set_option maxRecDepth 100000 in
theorem jq_m158 : jw_MF 158 := ⟨List.mem_of_getElem? (i := 995) rfl, List.mem_of_getElem? (i := 83) rfl, by decide +kernel, ⟨by decide +kernel, by decide +kernel⟩, rfl, by decide, rfl, rfl, by decide, ck_Holder_takeRow⟩
set_option maxRecDepth 100000 in
theorem jq_m159 : jw_MF 159 := ⟨List.mem_of_getElem? (i := 1003) rfl, List.mem_of_getElem? (i := 74) rfl, by decide +kernel, ⟨by decide +kernel, by decide +kernel⟩, rfl, by decide, rfl, rfl, by decide, ck_Maker_put⟩
set_option maxRecDepth 100000 in
theorem jq_m160 : jw_MF 160 := ⟨List.mem_of_getElem? (i := 1007) rfl, List.mem_of_getElem? (i := 83) rfl, by decide +kernel, ⟨by decide +kernel, by decide +kernel⟩, rfl, by decide, rfl, rfl, by decide, ck_Holder_tellNoRow⟩
set_option maxRecDepth 100000 in
theorem jq_m161 : jw_MF 161 := ⟨List.mem_of_getElem? (i := 1011) rfl, List.mem_of_getElem? (i := 74) rfl, by decide +kernel, ⟨by decide +kernel, by decide +kernel⟩, rfl, by decide, rfl, rfl, by decide, ck_Maker_get⟩
set_option maxRecDepth 100000 in
theorem jq_m162 : jw_MF 162 := ⟨List.mem_of_getElem? (i := 1015) rfl, List.mem_of_getElem? (i := 74) rfl, by decide +kernel, ⟨by decide +kernel, by decide +kernel⟩, rfl, by decide, rfl, rfl, by decide, ck_Maker_copy⟩
set_option maxRecDepth 100000 in
theorem jq_m163 : jw_MF 163 := ⟨List.mem_of_getElem? (i := 1019) rfl, List.mem_of_getElem? (i := 83) rfl, by decide +kernel, ⟨by decide +kernel, by decide +kernel⟩, rfl, by decide, rfl, rfl, by decide, ck_Holder_hasStretch⟩
set_option maxRecDepth 100000 in
theorem jq_m164 : jw_MF 164 := ⟨List.mem_of_getElem? (i := 1026) rfl, List.mem_of_getElem? (i := 74) rfl, by decide +kernel, ⟨by decide +kernel, by decide +kernel⟩, rfl, by decide, rfl, rfl, by decide, ck_Maker_judge⟩
set_option maxRecDepth 100000 in
theorem jq_m165 : jw_MF 165 := ⟨List.mem_of_getElem? (i := 1030) rfl, List.mem_of_getElem? (i := 83) rfl, by decide +kernel, ⟨by decide +kernel, by decide +kernel⟩, rfl, by decide, rfl, rfl, by decide, ck_Holder_judgeBy⟩
set_option maxRecDepth 100000 in
theorem jq_m166 : jw_MF 166 := ⟨List.mem_of_getElem? (i := 1034) rfl, List.mem_of_getElem? (i := 74) rfl, by decide +kernel, ⟨by decide +kernel, by decide +kernel⟩, rfl, by decide, rfl, rfl, by decide, ck_Maker_image⟩
set_option maxRecDepth 100000 in
theorem jq_m167 : jw_MF 167 := ⟨List.mem_of_getElem? (i := 1038) rfl, List.mem_of_getElem? (i := 78) rfl, by decide +kernel, ⟨by decide +kernel, by decide +kernel⟩, rfl, by decide, rfl, rfl, by decide, ck_Workshop_become⟩
set_option maxRecDepth 100000 in
theorem jq_m168 : jw_MF 168 := ⟨List.mem_of_getElem? (i := 1043) rfl, List.mem_of_getElem? (i := 81) rfl, by decide +kernel, ⟨by decide +kernel, by decide +kernel⟩, rfl, by decide, rfl, rfl, by decide, ck_Ladder_become⟩
set_option maxRecDepth 100000 in
theorem jq_m169 : jw_MF 169 := ⟨List.mem_of_getElem? (i := 1047) rfl, List.mem_of_getElem? (i := 82) rfl, by decide +kernel, ⟨by decide +kernel, by decide +kernel⟩, rfl, by decide, rfl, rfl, by decide, ck_Bins_become⟩
set_option maxRecDepth 100000 in
theorem jq_m170 : jw_MF 170 := ⟨List.mem_of_getElem? (i := 1051) rfl, List.mem_of_getElem? (i := 79) rfl, by decide +kernel, ⟨by decide +kernel, by decide +kernel⟩, rfl, by decide, rfl, rfl, by decide, ck_Wants_become⟩
set_option maxRecDepth 100000 in
theorem jq_m171 : jw_MF 171 := ⟨List.mem_of_getElem? (i := 1055) rfl, List.mem_of_getElem? (i := 74) rfl, by decide +kernel, ⟨by decide +kernel, by decide +kernel⟩, rfl, by decide, rfl, rfl, by decide, ck_Maker_undo⟩
set_option maxRecDepth 100000 in
theorem jq_m172 : jw_MF 172 := ⟨List.mem_of_getElem? (i := 1059) rfl, List.mem_of_getElem? (i := 74) rfl, by decide +kernel, ⟨by decide +kernel, by decide +kernel⟩, rfl, by decide, rfl, rfl, by decide, ck_Maker_count⟩
set_option maxRecDepth 100000 in
theorem jq_m173 : jw_MF 173 := ⟨List.mem_of_getElem? (i := 1064) rfl, List.mem_of_getElem? (i := 84) rfl, by decide +kernel, ⟨by decide +kernel, by decide +kernel⟩, rfl, by decide, rfl, rfl, by decide, ck_Model_init⟩
set_option maxRecDepth 100000 in
theorem jq_m174 : jw_MF 174 := ⟨List.mem_of_getElem? (i := 1292) rfl, List.mem_of_getElem? (i := 84) rfl, by decide +kernel, ⟨by decide +kernel, by decide +kernel⟩, rfl, by decide, rfl, rfl, by decide, ck_Model_feed⟩
set_option maxRecDepth 100000 in
theorem jq_m175 : jw_MF 175 := ⟨List.mem_of_getElem? (i := 1296) rfl, List.mem_of_getElem? (i := 84) rfl, by decide +kernel, ⟨by decide +kernel, by decide +kernel⟩, rfl, by decide, rfl, rfl, by decide, ck_Model_in⟩
set_option maxRecDepth 100000 in
theorem jq_m176 : jw_MF 176 := ⟨List.mem_of_getElem? (i := 1300) rfl, List.mem_of_getElem? (i := 84) rfl, by decide +kernel, ⟨by decide +kernel, by decide +kernel⟩, rfl, by decide, rfl, rfl, by decide, ck_Model_wipe⟩
set_option maxRecDepth 100000 in
theorem jq_m177 : jw_MF 177 := ⟨List.mem_of_getElem? (i := 1304) rfl, List.mem_of_getElem? (i := 84) rfl, by decide +kernel, ⟨by decide +kernel, by decide +kernel⟩, rfl, by decide, rfl, rfl, by decide, ck_Model_ratio⟩
set_option maxRecDepth 100000 in
theorem jq_m178 : jw_MF 178 := ⟨List.mem_of_getElem? (i := 1308) rfl, List.mem_of_getElem? (i := 84) rfl, by decide +kernel, ⟨by decide +kernel, by decide +kernel⟩, rfl, by decide, rfl, rfl, by decide, ck_Model_poly⟩
set_option maxRecDepth 100000 in
theorem jq_m179 : jw_MF 179 := ⟨List.mem_of_getElem? (i := 1312) rfl, List.mem_of_getElem? (i := 84) rfl, by decide +kernel, ⟨by decide +kernel, by decide +kernel⟩, rfl, by decide, rfl, rfl, by decide, ck_Model_here⟩
set_option maxRecDepth 100000 in
theorem jq_m180 : jw_MF 180 := ⟨List.mem_of_getElem? (i := 1316) rfl, List.mem_of_getElem? (i := 84) rfl, by decide +kernel, ⟨by decide +kernel, by decide +kernel⟩, rfl, by decide, rfl, rfl, by decide, ck_Model_term⟩
set_option maxRecDepth 100000 in
theorem jq_m181 : jw_MF 181 := ⟨List.mem_of_getElem? (i := 1320) rfl, List.mem_of_getElem? (i := 84) rfl, by decide +kernel, ⟨by decide +kernel, by decide +kernel⟩, rfl, by decide, rfl, rfl, by decide, ck_Model_number⟩
set_option maxRecDepth 100000 in
theorem jq_m182 : jw_MF 182 := ⟨List.mem_of_getElem? (i := 1326) rfl, List.mem_of_getElem? (i := 84) rfl, by decide +kernel, ⟨by decide +kernel, by decide +kernel⟩, rfl, by decide, rfl, rfl, by decide, ck_Model_fault⟩
set_option maxRecDepth 100000 in
theorem jq_m183 : jw_MF 183 := ⟨List.mem_of_getElem? (i := 1330) rfl, List.mem_of_getElem? (i := 84) rfl, by decide +kernel, ⟨by decide +kernel, by decide +kernel⟩, rfl, by decide, rfl, rfl, by decide, ck_Model_isDigit⟩
set_option maxRecDepth 100000 in
theorem jq_m184 : jw_MF 184 := ⟨List.mem_of_getElem? (i := 1335) rfl, List.mem_of_getElem? (i := 84) rfl, by decide +kernel, ⟨by decide +kernel, by decide +kernel⟩, rfl, by decide, rfl, rfl, by decide, ck_Model_isNothing⟩
set_option maxRecDepth 100000 in
theorem jq_m185 : jw_MF 185 := ⟨List.mem_of_getElem? (i := 1339) rfl, List.mem_of_getElem? (i := 84) rfl, by decide +kernel, ⟨by decide +kernel, by decide +kernel⟩, rfl, by decide, rfl, rfl, by decide, ck_Model_ladder⟩
set_option maxRecDepth 100000 in
theorem jq_m186 : jw_MF 186 := ⟨List.mem_of_getElem? (i := 1343) rfl, List.mem_of_getElem? (i := 84) rfl, by decide +kernel, ⟨by decide +kernel, by decide +kernel⟩, rfl, by decide, rfl, rfl, by decide, ck_Model_readPart⟩
set_option maxRecDepth 100000 in
theorem jq_m187 : jw_MF 187 := ⟨List.mem_of_getElem? (i := 1346) rfl, List.mem_of_getElem? (i := 84) rfl, by decide +kernel, ⟨by decide +kernel, by decide +kernel⟩, rfl, by decide, rfl, rfl, by decide, ck_Model_sortOf⟩
set_option maxRecDepth 100000 in
theorem jq_m188 : jw_MF 188 := ⟨List.mem_of_getElem? (i := 1350) rfl, List.mem_of_getElem? (i := 84) rfl, by decide +kernel, ⟨by decide +kernel, by decide +kernel⟩, rfl, by decide, rfl, rfl, by decide, ck_Model_fraction⟩
set_option maxRecDepth 100000 in
theorem jq_m189 : jw_MF 189 := ⟨List.mem_of_getElem? (i := 1354) rfl, List.mem_of_getElem? (i := 84) rfl, by decide +kernel, ⟨by decide +kernel, by decide +kernel⟩, rfl, by decide, rfl, rfl, by decide, ck_Model_is⟩
set_option maxRecDepth 100000 in
theorem jq_m190 : jw_MF 190 := ⟨List.mem_of_getElem? (i := 1358) rfl, List.mem_of_getElem? (i := 84) rfl, by decide +kernel, ⟨by decide +kernel, by decide +kernel⟩, rfl, by decide, rfl, rfl, by decide, ck_Model_shared⟩
set_option maxRecDepth 100000 in
theorem jq_m191 : jw_MF 191 := ⟨List.mem_of_getElem? (i := 1364) rfl, List.mem_of_getElem? (i := 84) rfl, by decide +kernel, ⟨by decide +kernel, by decide +kernel⟩, rfl, by decide, rfl, rfl, by decide, ck_Model_lays⟩
set_option maxRecDepth 100000 in
theorem jq_m192 : jw_MF 192 := ⟨List.mem_of_getElem? (i := 1368) rfl, List.mem_of_getElem? (i := 84) rfl, by decide +kernel, ⟨by decide +kernel, by decide +kernel⟩, rfl, by decide, rfl, rfl, by decide, ck_Model_readEnd⟩
set_option maxRecDepth 100000 in
theorem jq_m193 : jw_MF 193 := ⟨List.mem_of_getElem? (i := 1372) rfl, List.mem_of_getElem? (i := 84) rfl, by decide +kernel, ⟨by decide +kernel, by decide +kernel⟩, rfl, by decide, rfl, rfl, by decide, ck_Model_degree⟩
set_option maxRecDepth 100000 in
theorem jq_m194 : jw_MF 194 := ⟨List.mem_of_getElem? (i := 1376) rfl, List.mem_of_getElem? (i := 84) rfl, by decide +kernel, ⟨by decide +kernel, by decide +kernel⟩, rfl, by decide, rfl, rfl, by decide, ck_Model_isRatio⟩
set_option maxRecDepth 100000 in
theorem jq_m195 : jw_MF 195 := ⟨List.mem_of_getElem? (i := 1381) rfl, List.mem_of_getElem? (i := 84) rfl, by decide +kernel, ⟨by decide +kernel, by decide +kernel⟩, rfl, by decide, rfl, rfl, by decide, ck_Model_high⟩
set_option maxRecDepth 100000 in
theorem jq_m196 : jw_MF 196 := ⟨List.mem_of_getElem? (i := 1385) rfl, List.mem_of_getElem? (i := 84) rfl, by decide +kernel, ⟨by decide +kernel, by decide +kernel⟩, rfl, by decide, rfl, rfl, by decide, ck_Model_lowOf⟩
set_option maxRecDepth 100000 in
theorem jq_m197 : jw_MF 197 := ⟨List.mem_of_getElem? (i := 1389) rfl, List.mem_of_getElem? (i := 84) rfl, by decide +kernel, ⟨by decide +kernel, by decide +kernel⟩, rfl, by decide, rfl, rfl, by decide, ck_Model_coefficient⟩
set_option maxRecDepth 100000 in
theorem jq_m198 : jw_MF 198 := ⟨List.mem_of_getElem? (i := 1395) rfl, List.mem_of_getElem? (i := 84) rfl, by decide +kernel, ⟨by decide +kernel, by decide +kernel⟩, rfl, by decide, rfl, rfl, by decide, ck_Model_same⟩
set_option maxRecDepth 100000 in
theorem jq_m199 : jw_MF 199 := ⟨List.mem_of_getElem? (i := 1399) rfl, List.mem_of_getElem? (i := 84) rfl, by decide +kernel, ⟨by decide +kernel, by decide +kernel⟩, rfl, by decide, rfl, rfl, by decide, ck_Model_product⟩
set_option maxRecDepth 100000 in
theorem jq_m200 : jw_MF 200 := ⟨List.mem_of_getElem? (i := 1403) rfl, List.mem_of_getElem? (i := 84) rfl, by decide +kernel, ⟨by decide +kernel, by decide +kernel⟩, rfl, by decide, rfl, rfl, by decide, ck_Model_times⟩
set_option maxRecDepth 100000 in
theorem jq_m201 : jw_MF 201 := ⟨List.mem_of_getElem? (i := 1407) rfl, List.mem_of_getElem? (i := 84) rfl, by decide +kernel, ⟨by decide +kernel, by decide +kernel⟩, rfl, by decide, rfl, rfl, by decide, ck_Model_plus⟩
set_option maxRecDepth 100000 in
theorem jq_m202 : jw_MF 202 := ⟨List.mem_of_getElem? (i := 1411) rfl, List.mem_of_getElem? (i := 84) rfl, by decide +kernel, ⟨by decide +kernel, by decide +kernel⟩, rfl, by decide, rfl, rfl, by decide, ck_Model_divide⟩
set_option maxRecDepth 100000 in
theorem jq_m203 : jw_MF 203 := ⟨List.mem_of_getElem? (i := 1415) rfl, List.mem_of_getElem? (i := 84) rfl, by decide +kernel, ⟨by decide +kernel, by decide +kernel⟩, rfl, by decide, rfl, rfl, by decide, ck_Model_loads⟩
set_option maxRecDepth 100000 in
theorem jq_m204 : jw_MF 204 := ⟨List.mem_of_getElem? (i := 1418) rfl, List.mem_of_getElem? (i := 84) rfl, by decide +kernel, ⟨by decide +kernel, by decide +kernel⟩, rfl, by decide, rfl, rfl, by decide, ck_Model_endOf⟩
set_option maxRecDepth 100000 in
theorem jq_m205 : jw_MF 205 := ⟨List.mem_of_getElem? (i := 1422) rfl, List.mem_of_getElem? (i := 84) rfl, by decide +kernel, ⟨by decide +kernel, by decide +kernel⟩, rfl, by decide, rfl, rfl, by decide, ck_Model_changes⟩
set_option maxRecDepth 100000 in
theorem jq_m206 : jw_MF 206 := ⟨List.mem_of_getElem? (i := 1426) rfl, List.mem_of_getElem? (i := 84) rfl, by decide +kernel, ⟨by decide +kernel, by decide +kernel⟩, rfl, by decide, rfl, rfl, by decide, ck_Model_over⟩
set_option maxRecDepth 100000 in
theorem jq_m207 : jw_MF 207 := ⟨List.mem_of_getElem? (i := 1430) rfl, List.mem_of_getElem? (i := 84) rfl, by decide +kernel, ⟨by decide +kernel, by decide +kernel⟩, rfl, by decide, rfl, rfl, by decide, ck_Model_lessens⟩
set_option maxRecDepth 100000 in
theorem jq_m208 : jw_MF 208 := ⟨List.mem_of_getElem? (i := 1434) rfl, List.mem_of_getElem? (i := 84) rfl, by decide +kernel, ⟨by decide +kernel, by decide +kernel⟩, rfl, by decide, rfl, rfl, by decide, ck_Model_minus⟩
set_option maxRecDepth 100000 in
theorem jq_m209 : jw_MF 209 := ⟨List.mem_of_getElem? (i := 1438) rfl, List.mem_of_getElem? (i := 84) rfl, by decide +kernel, ⟨by decide +kernel, by decide +kernel⟩, rfl, by decide, rfl, rfl, by decide, ck_Model_invert⟩
set_option maxRecDepth 100000 in
theorem jq_m210 : jw_MF 210 := ⟨List.mem_of_getElem? (i := 1442) rfl, List.mem_of_getElem? (i := 84) rfl, by decide +kernel, ⟨by decide +kernel, by decide +kernel⟩, rfl, by decide, rfl, rfl, by decide, ck_Model_keeps⟩
set_option maxRecDepth 100000 in
theorem jq_m211 : jw_MF 211 := ⟨List.mem_of_getElem? (i := 1446) rfl, List.mem_of_getElem? (i := 84) rfl, by decide +kernel, ⟨by decide +kernel, by decide +kernel⟩, rfl, by decide, rfl, rfl, by decide, ck_Model_stretch⟩
set_option maxRecDepth 100000 in
theorem jq_m212 : jw_MF 212 := ⟨List.mem_of_getElem? (i := 1449) rfl, List.mem_of_getElem? (i := 84) rfl, by decide +kernel, ⟨by decide +kernel, by decide +kernel⟩, rfl, by decide, rfl, rfl, by decide, ck_Model_isTold⟩
set_option maxRecDepth 100000 in
theorem jq_m213 : jw_MF 213 := ⟨List.mem_of_getElem? (i := 1454) rfl, List.mem_of_getElem? (i := 84) rfl, by decide +kernel, ⟨by decide +kernel, by decide +kernel⟩, rfl, by decide, rfl, rfl, by decide, ck_Model_shift⟩
set_option maxRecDepth 100000 in
theorem jq_m214 : jw_MF 214 := ⟨List.mem_of_getElem? (i := 1458) rfl, List.mem_of_getElem? (i := 84) rfl, by decide +kernel, ⟨by decide +kernel, by decide +kernel⟩, rfl, by decide, rfl, rfl, by decide, ck_Model_shifts⟩
set_option maxRecDepth 100000 in
theorem jq_m215 : jw_MF 215 := ⟨List.mem_of_getElem? (i := 1462) rfl, List.mem_of_getElem? (i := 84) rfl, by decide +kernel, ⟨by decide +kernel, by decide +kernel⟩, rfl, by decide, rfl, rfl, by decide, ck_Model_parts⟩
set_option maxRecDepth 100000 in
theorem jq_m216 : jw_MF 216 := ⟨List.mem_of_getElem? (i := 1466) rfl, List.mem_of_getElem? (i := 84) rfl, by decide +kernel, ⟨by decide +kernel, by decide +kernel⟩, rfl, by decide, rfl, rfl, by decide, ck_Model_isLadder⟩
set_option maxRecDepth 100000 in
theorem jq_m217 : jw_MF 217 := ⟨List.mem_of_getElem? (i := 1470) rfl, List.mem_of_getElem? (i := 84) rfl, by decide +kernel, ⟨by decide +kernel, by decide +kernel⟩, rfl, by decide, rfl, rfl, by decide, ck_Model_end⟩
set_option maxRecDepth 100000 in
theorem jq_m218 : jw_MF 218 := ⟨List.mem_of_getElem? (i := 1474) rfl, List.mem_of_getElem? (i := 84) rfl, by decide +kernel, ⟨by decide +kernel, by decide +kernel⟩, rfl, by decide, rfl, rfl, by decide, ck_Model_part⟩
set_option maxRecDepth 100000 in
theorem jq_m219 : jw_MF 219 := ⟨List.mem_of_getElem? (i := 1478) rfl, List.mem_of_getElem? (i := 84) rfl, by decide +kernel, ⟨by decide +kernel, by decide +kernel⟩, rfl, by decide, rfl, rfl, by decide, ck_Model_isPart⟩
set_option maxRecDepth 100000 in
theorem jq_m220 : jw_MF 220 := ⟨List.mem_of_getElem? (i := 1482) rfl, List.mem_of_getElem? (i := 84) rfl, by decide +kernel, ⟨by decide +kernel, by decide +kernel⟩, rfl, by decide, rfl, rfl, by decide, ck_Model_value⟩
set_option maxRecDepth 100000 in
theorem jq_m221 : jw_MF 221 := ⟨List.mem_of_getElem? (i := 1486) rfl, List.mem_of_getElem? (i := 84) rfl, by decide +kernel, ⟨by decide +kernel, by decide +kernel⟩, rfl, by decide, rfl, rfl, by decide, ck_Model_multiply⟩
set_option maxRecDepth 100000 in
theorem jq_m222 : jw_MF 222 := ⟨List.mem_of_getElem? (i := 1490) rfl, List.mem_of_getElem? (i := 84) rfl, by decide +kernel, ⟨by decide +kernel, by decide +kernel⟩, rfl, by decide, rfl, rfl, by decide, ck_Model_goesOut⟩
set_option maxRecDepth 100000 in
theorem jq_m223 : jw_MF 223 := ⟨List.mem_of_getElem? (i := 1494) rfl, List.mem_of_getElem? (i := 84) rfl, by decide +kernel, ⟨by decide +kernel, by decide +kernel⟩, rfl, by decide, rfl, rfl, by decide, ck_Model_adds⟩
set_option maxRecDepth 100000 in
theorem jq_m224 : jw_MF 224 := ⟨List.mem_of_getElem? (i := 1498) rfl, List.mem_of_getElem? (i := 84) rfl, by decide +kernel, ⟨by decide +kernel, by decide +kernel⟩, rfl, by decide, rfl, rfl, by decide, ck_Model_grows⟩
set_option maxRecDepth 100000 in
theorem jq_m225 : jw_MF 225 := ⟨List.mem_of_getElem? (i := 1502) rfl, List.mem_of_getElem? (i := 84) rfl, by decide +kernel, ⟨by decide +kernel, by decide +kernel⟩, rfl, by decide, rfl, rfl, by decide, ck_Model_close⟩
set_option maxRecDepth 100000 in
theorem jq_m226 : jw_MF 226 := ⟨List.mem_of_getElem? (i := 1507) rfl, List.mem_of_getElem? (i := 84) rfl, by decide +kernel, ⟨by decide +kernel, by decide +kernel⟩, rfl, by decide, rfl, rfl, by decide, ck_Model_scale⟩
set_option maxRecDepth 100000 in
theorem jq_m227 : jw_MF 227 := ⟨List.mem_of_getElem? (i := 1511) rfl, List.mem_of_getElem? (i := 84) rfl, by decide +kernel, ⟨by decide +kernel, by decide +kernel⟩, rfl, by decide, rfl, rfl, by decide, ck_Model_comes⟩
set_option maxRecDepth 100000 in
theorem jq_m228 : jw_MF 228 := ⟨List.mem_of_getElem? (i := 1515) rfl, List.mem_of_getElem? (i := 84) rfl, by decide +kernel, ⟨by decide +kernel, by decide +kernel⟩, rfl, by decide, rfl, rfl, by decide, ck_Model_band⟩
set_option maxRecDepth 100000 in
theorem jq_m229 : jw_MF 229 := ⟨List.mem_of_getElem? (i := 1519) rfl, List.mem_of_getElem? (i := 84) rfl, by decide +kernel, ⟨by decide +kernel, by decide +kernel⟩, rfl, by decide, rfl, rfl, by decide, ck_Model_widened⟩
set_option maxRecDepth 100000 in
theorem jq_m230 : jw_MF 230 := ⟨List.mem_of_getElem? (i := 1523) rfl, List.mem_of_getElem? (i := 84) rfl, by decide +kernel, ⟨by decide +kernel, by decide +kernel⟩, rfl, by decide, rfl, rfl, by decide, ck_Model_dull⟩
set_option maxRecDepth 100000 in
theorem jq_m231 : jw_MF 231 := ⟨List.mem_of_getElem? (i := 1527) rfl, List.mem_of_getElem? (i := 84) rfl, by decide +kernel, ⟨by decide +kernel, by decide +kernel⟩, rfl, by decide, rfl, rfl, by decide, ck_Model_turn⟩
set_option maxRecDepth 100000 in
theorem jq_m232 : jw_MF 232 := ⟨List.mem_of_getElem? (i := 1531) rfl, List.mem_of_getElem? (i := 84) rfl, by decide +kernel, ⟨by decide +kernel, by decide +kernel⟩, rfl, by decide, rfl, rfl, by decide, ck_Model_fit⟩
set_option maxRecDepth 100000 in
theorem jq_m233 : jw_MF 233 := ⟨List.mem_of_getElem? (i := 1535) rfl, List.mem_of_getElem? (i := 84) rfl, by decide +kernel, ⟨by decide +kernel, by decide +kernel⟩, rfl, by decide, rfl, rfl, by decide, ck_Model_nearestTo⟩
set_option maxRecDepth 100000 in
theorem jq_m234 : jw_MF 234 := ⟨List.mem_of_getElem? (i := 1539) rfl, List.mem_of_getElem? (i := 84) rfl, by decide +kernel, ⟨by decide +kernel, by decide +kernel⟩, rfl, by decide, rfl, rfl, by decide, ck_Model_far⟩
set_option maxRecDepth 100000 in
theorem jq_m235 : jw_MF 235 := ⟨List.mem_of_getElem? (i := 1543) rfl, List.mem_of_getElem? (i := 84) rfl, by decide +kernel, ⟨by decide +kernel, by decide +kernel⟩, rfl, by decide, rfl, rfl, by decide, ck_Model_forget⟩
set_option maxRecDepth 100000 in
theorem jq_m236 : jw_MF 236 := ⟨List.mem_of_getElem? (i := 1547) rfl, List.mem_of_getElem? (i := 84) rfl, by decide +kernel, ⟨by decide +kernel, by decide +kernel⟩, rfl, by decide, rfl, rfl, by decide, ck_Model_worth⟩
set_option maxRecDepth 100000 in
theorem jq_m237 : jw_MF 237 := ⟨List.mem_of_getElem? (i := 1551) rfl, List.mem_of_getElem? (i := 84) rfl, by decide +kernel, ⟨by decide +kernel, by decide +kernel⟩, rfl, by decide, rfl, rfl, by decide, ck_Model_begins⟩
set_option maxRecDepth 100000 in
theorem jq_m238 : jw_MF 238 := ⟨List.mem_of_getElem? (i := 1555) rfl, List.mem_of_getElem? (i := 84) rfl, by decide +kernel, ⟨by decide +kernel, by decide +kernel⟩, rfl, by decide, rfl, rfl, by decide, ck_Model_goesOn⟩
set_option maxRecDepth 100000 in
theorem jq_m239 : jw_MF 239 := ⟨List.mem_of_getElem? (i := 1559) rfl, List.mem_of_getElem? (i := 84) rfl, by decide +kernel, ⟨by decide +kernel, by decide +kernel⟩, rfl, by decide, rfl, rfl, by decide, ck_Model_becomes⟩
set_option maxRecDepth 100000 in
theorem jq_m240 : jw_MF 240 := ⟨List.mem_of_getElem? (i := 1563) rfl, List.mem_of_getElem? (i := 84) rfl, by decide +kernel, ⟨by decide +kernel, by decide +kernel⟩, rfl, by decide, rfl, rfl, by decide, ck_Model_react⟩
set_option maxRecDepth 100000 in
theorem jq_m241 : jw_MF 241 := ⟨List.mem_of_getElem? (i := 1567) rfl, List.mem_of_getElem? (i := 84) rfl, by decide +kernel, ⟨by decide +kernel, by decide +kernel⟩, rfl, by decide, rfl, rfl, by decide, ck_Model_reacts⟩
set_option maxRecDepth 100000 in
theorem jq_m242 : jw_MF 242 := ⟨List.mem_of_getElem? (i := 1571) rfl, List.mem_of_getElem? (i := 84) rfl, by decide +kernel, ⟨by decide +kernel, by decide +kernel⟩, rfl, by decide, rfl, rfl, by decide, ck_Model_reactsAt⟩
set_option maxRecDepth 100000 in
theorem jq_m243 : jw_MF 243 := ⟨List.mem_of_getElem? (i := 1575) rfl, List.mem_of_getElem? (i := 84) rfl, by decide +kernel, ⟨by decide +kernel, by decide +kernel⟩, rfl, by decide, rfl, rfl, by decide, ck_Model_first⟩
set_option maxRecDepth 100000 in
theorem jq_m244 : jw_MF 244 := ⟨List.mem_of_getElem? (i := 1579) rfl, List.mem_of_getElem? (i := 84) rfl, by decide +kernel, ⟨by decide +kernel, by decide +kernel⟩, rfl, by decide, rfl, rfl, by decide, ck_Model_stock⟩
set_option maxRecDepth 100000 in
theorem jq_m245 : jw_MF 245 := ⟨List.mem_of_getElem? (i := 1584) rfl, List.mem_of_getElem? (i := 84) rfl, by decide +kernel, ⟨by decide +kernel, by decide +kernel⟩, rfl, by decide, rfl, rfl, by decide, ck_Model_binOf⟩
set_option maxRecDepth 100000 in
theorem jq_m246 : jw_MF 246 := ⟨List.mem_of_getElem? (i := 1587) rfl, List.mem_of_getElem? (i := 84) rfl, by decide +kernel, ⟨by decide +kernel, by decide +kernel⟩, rfl, by decide, rfl, rfl, by decide, ck_Model_order⟩
set_option maxRecDepth 100000 in
theorem jq_m247 : jw_MF 247 := ⟨List.mem_of_getElem? (i := 1591) rfl, List.mem_of_getElem? (i := 84) rfl, by decide +kernel, ⟨by decide +kernel, by decide +kernel⟩, rfl, by decide, rfl, rfl, by decide, ck_Model_moves⟩
set_option maxRecDepth 100000 in
theorem jq_m248 : jw_MF 248 := ⟨List.mem_of_getElem? (i := 1595) rfl, List.mem_of_getElem? (i := 84) rfl, by decide +kernel, ⟨by decide +kernel, by decide +kernel⟩, rfl, by decide, rfl, rfl, by decide, ck_Model_bin⟩
set_option maxRecDepth 100000 in
theorem jq_m249 : jw_MF 249 := ⟨List.mem_of_getElem? (i := 1599) rfl, List.mem_of_getElem? (i := 84) rfl, by decide +kernel, ⟨by decide +kernel, by decide +kernel⟩, rfl, by decide, rfl, rfl, by decide, ck_Model_nearest⟩
set_option maxRecDepth 100000 in
theorem jq_m250 : jw_MF 250 := ⟨List.mem_of_getElem? (i := 1603) rfl, List.mem_of_getElem? (i := 84) rfl, by decide +kernel, ⟨by decide +kernel, by decide +kernel⟩, rfl, by decide, rfl, rfl, by decide, ck_Model_build⟩
set_option maxRecDepth 100000 in
theorem jq_m251 : jw_MF 251 := ⟨List.mem_of_getElem? (i := 1608) rfl, List.mem_of_getElem? (i := 84) rfl, by decide +kernel, ⟨by decide +kernel, by decide +kernel⟩, rfl, by decide, rfl, rfl, by decide, ck_Model_lacks⟩
set_option maxRecDepth 100000 in
theorem jq_m252 : jw_MF 252 := ⟨List.mem_of_getElem? (i := 1612) rfl, List.mem_of_getElem? (i := 84) rfl, by decide +kernel, ⟨by decide +kernel, by decide +kernel⟩, rfl, by decide, rfl, rfl, by decide, ck_Model_wanted⟩
set_option maxRecDepth 100000 in
theorem jq_m253 : jw_MF 253 := ⟨List.mem_of_getElem? (i := 1616) rfl, List.mem_of_getElem? (i := 84) rfl, by decide +kernel, ⟨by decide +kernel, by decide +kernel⟩, rfl, by decide, rfl, rfl, by decide, ck_Model_isAhead⟩
set_option maxRecDepth 100000 in
theorem jq_m254 : jw_MF 254 := ⟨List.mem_of_getElem? (i := 1620) rfl, List.mem_of_getElem? (i := 84) rfl, by decide +kernel, ⟨by decide +kernel, by decide +kernel⟩, rfl, by decide, rfl, rfl, by decide, ck_Model_wantGoes⟩
set_option maxRecDepth 100000 in
theorem jq_m255 : jw_MF 255 := ⟨List.mem_of_getElem? (i := 1624) rfl, List.mem_of_getElem? (i := 84) rfl, by decide +kernel, ⟨by decide +kernel, by decide +kernel⟩, rfl, by decide, rfl, rfl, by decide, ck_Model_arrive⟩
set_option maxRecDepth 100000 in
theorem jq_m256 : jw_MF 256 := ⟨List.mem_of_getElem? (i := 1629) rfl, List.mem_of_getElem? (i := 84) rfl, by decide +kernel, ⟨by decide +kernel, by decide +kernel⟩, rfl, by decide, rfl, rfl, by decide, ck_Model_want⟩
set_option maxRecDepth 100000 in
theorem jq_m257 : jw_MF 257 := ⟨List.mem_of_getElem? (i := 1633) rfl, List.mem_of_getElem? (i := 84) rfl, by decide +kernel, ⟨by decide +kernel, by decide +kernel⟩, rfl, by decide, rfl, rfl, by decide, ck_Model_cost⟩
set_option maxRecDepth 100000 in
theorem jq_m258 : jw_MF 258 := ⟨List.mem_of_getElem? (i := 1637) rfl, List.mem_of_getElem? (i := 84) rfl, by decide +kernel, ⟨by decide +kernel, by decide +kernel⟩, rfl, by decide, rfl, rfl, by decide, ck_Model_unlike⟩
set_option maxRecDepth 100000 in
theorem jq_m259 : jw_MF 259 := ⟨List.mem_of_getElem? (i := 1641) rfl, List.mem_of_getElem? (i := 84) rfl, by decide +kernel, ⟨by decide +kernel, by decide +kernel⟩, rfl, by decide, rfl, rfl, by decide, ck_Model_gathers⟩
set_option maxRecDepth 100000 in
theorem jq_m260 : jw_MF 260 := ⟨List.mem_of_getElem? (i := 1645) rfl, List.mem_of_getElem? (i := 84) rfl, by decide +kernel, ⟨by decide +kernel, by decide +kernel⟩, rfl, by decide, rfl, rfl, by decide, ck_Model_hold⟩
set_option maxRecDepth 100000 in
theorem jq_m261 : jw_MF 261 := ⟨List.mem_of_getElem? (i := 1648) rfl, List.mem_of_getElem? (i := 84) rfl, by decide +kernel, ⟨by decide +kernel, by decide +kernel⟩, rfl, by decide, rfl, rfl, by decide, ck_Model_isHolder⟩
set_option maxRecDepth 100000 in
theorem jq_m262 : jw_MF 262 := ⟨List.mem_of_getElem? (i := 1653) rfl, List.mem_of_getElem? (i := 84) rfl, by decide +kernel, ⟨by decide +kernel, by decide +kernel⟩, rfl, by decide, rfl, rfl, by decide, ck_Model_drop⟩
set_option maxRecDepth 100000 in
theorem jq_m263 : jw_MF 263 := ⟨List.mem_of_getElem? (i := 1657) rfl, List.mem_of_getElem? (i := 84) rfl, by decide +kernel, ⟨by decide +kernel, by decide +kernel⟩, rfl, by decide, rfl, rfl, by decide, ck_Model_taken⟩
set_option maxRecDepth 100000 in
theorem jq_m264 : jw_MF 264 := ⟨List.mem_of_getElem? (i := 1661) rfl, List.mem_of_getElem? (i := 84) rfl, by decide +kernel, ⟨by decide +kernel, by decide +kernel⟩, rfl, by decide, rfl, rfl, by decide, ck_Model_row⟩
set_option maxRecDepth 100000 in
theorem jq_m265 : jw_MF 265 := ⟨List.mem_of_getElem? (i := 1665) rfl, List.mem_of_getElem? (i := 84) rfl, by decide +kernel, ⟨by decide +kernel, by decide +kernel⟩, rfl, by decide, rfl, rfl, by decide, ck_Model_put⟩
set_option maxRecDepth 100000 in
theorem jq_m266 : jw_MF 266 := ⟨List.mem_of_getElem? (i := 1669) rfl, List.mem_of_getElem? (i := 84) rfl, by decide +kernel, ⟨by decide +kernel, by decide +kernel⟩, rfl, by decide, rfl, rfl, by decide, ck_Model_bar⟩
set_option maxRecDepth 100000 in
theorem jq_m267 : jw_MF 267 := ⟨List.mem_of_getElem? (i := 1673) rfl, List.mem_of_getElem? (i := 84) rfl, by decide +kernel, ⟨by decide +kernel, by decide +kernel⟩, rfl, by decide, rfl, rfl, by decide, ck_Model_get⟩
set_option maxRecDepth 100000 in
theorem jq_m268 : jw_MF 268 := ⟨List.mem_of_getElem? (i := 1677) rfl, List.mem_of_getElem? (i := 84) rfl, by decide +kernel, ⟨by decide +kernel, by decide +kernel⟩, rfl, by decide, rfl, rfl, by decide, ck_Model_copy⟩
set_option maxRecDepth 100000 in
theorem jq_m269 : jw_MF 269 := ⟨List.mem_of_getElem? (i := 1681) rfl, List.mem_of_getElem? (i := 84) rfl, by decide +kernel, ⟨by decide +kernel, by decide +kernel⟩, rfl, by decide, rfl, rfl, by decide, ck_Model_judge⟩
set_option maxRecDepth 100000 in
theorem jq_m270 : jw_MF 270 := ⟨List.mem_of_getElem? (i := 1685) rfl, List.mem_of_getElem? (i := 84) rfl, by decide +kernel, ⟨by decide +kernel, by decide +kernel⟩, rfl, by decide, rfl, rfl, by decide, ck_Model_image⟩
set_option maxRecDepth 100000 in
theorem jq_m271 : jw_MF 271 := ⟨List.mem_of_getElem? (i := 1688) rfl, List.mem_of_getElem? (i := 84) rfl, by decide +kernel, ⟨by decide +kernel, by decide +kernel⟩, rfl, by decide, rfl, rfl, by decide, ck_Model_copies1⟩
set_option maxRecDepth 100000 in
theorem jq_m272 : jw_MF 272 := ⟨List.mem_of_getElem? (i := 1691) rfl, List.mem_of_getElem? (i := 84) rfl, by decide +kernel, ⟨by decide +kernel, by decide +kernel⟩, rfl, by decide, rfl, rfl, by decide, ck_Model_copies2⟩
set_option maxRecDepth 100000 in
theorem jq_m273 : jw_MF 273 := ⟨List.mem_of_getElem? (i := 1695) rfl, List.mem_of_getElem? (i := 84) rfl, by decide +kernel, ⟨by decide +kernel, by decide +kernel⟩, rfl, by decide, rfl, rfl, by decide, ck_Model_undo⟩
set_option maxRecDepth 100000 in
theorem jq_m274 : jw_MF 274 := ⟨List.mem_of_getElem? (i := 1699) rfl, List.mem_of_getElem? (i := 84) rfl, by decide +kernel, ⟨by decide +kernel, by decide +kernel⟩, rfl, by decide, rfl, rfl, by decide, ck_Model_count⟩
