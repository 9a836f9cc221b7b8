/-! ===== what the calls rest on: printed by wip/whole/links.py ===== -/
set_option maxRecDepth 100000 in
theorem jq_l0 : jw_LF (0, 11, 1, 5, 1, 0, 1, 100, 0) := ⟨jq_m1, rfl, rfl, rfl, ⟨⟨List.mem_of_getElem? (i := 99) rfl, List.mem_of_getElem? (i := 100) rfl, rfl⟩, by decide +kernel, rfl, rfl⟩⟩
set_option maxRecDepth 100000 in
theorem jq_l1 : jw_LF (0, 20, 2, 5, 1, 0, 4, 28, 0) := ⟨jq_m2, rfl, rfl, rfl, ⟨⟨List.mem_of_getElem? (i := 124) rfl, List.mem_of_getElem? (i := 125) rfl, rfl⟩, by decide +kernel, rfl, rfl⟩⟩
set_option maxRecDepth 100000 in
theorem jq_l2 : jw_LF (0, 27, 5, 2, 1, 0, 74, 651, 0) := ⟨jq_m5, rfl, rfl, rfl, ⟨⟨List.mem_of_getElem? (i := 160) rfl, List.mem_of_getElem? (i := 161) rfl, rfl⟩, by decide +kernel, rfl, rfl⟩⟩
set_option maxRecDepth 100000 in
theorem jq_l3 : jw_LF (0, 41, 10, 5, 1, 0, 1, 40, 0) := ⟨jq_m10, rfl, rfl, rfl, ⟨⟨List.mem_of_getElem? (i := 320) rfl, List.mem_of_getElem? (i := 321) rfl, rfl⟩, by decide +kernel, rfl, rfl⟩⟩
set_option maxRecDepth 100000 in
theorem jq_l4 : jw_LF (2, 11, 3, 2, 1, 0, 1, 13, 0) := ⟨jq_m3, rfl, rfl, rfl, ⟨⟨List.mem_of_getElem? (i := 130) rfl, List.mem_of_getElem? (i := 131) rfl, rfl⟩, by decide +kernel, rfl, rfl⟩⟩
set_option maxRecDepth 100000 in
theorem jq_l5 : jw_LF (3, 15, 4, 1, 1, 0, 0, 0, 5) := ⟨jq_m4, rfl, rfl, rfl, ⟨⟨List.mem_of_getElem? (i := 134) rfl, List.mem_of_getElem? (i := 135) rfl, List.mem_of_getElem? (i := 136) rfl⟩, by decide +kernel, 4, rfl, _, _, rfl⟩⟩
set_option maxRecDepth 100000 in
theorem jq_l6 : jw_LF (4, 31, 6, 5, 1, 0, 4, 96, 0) := ⟨jq_m6, rfl, rfl, rfl, ⟨⟨List.mem_of_getElem? (i := 172) rfl, List.mem_of_getElem? (i := 173) rfl, rfl⟩, by decide +kernel, rfl, rfl⟩⟩
set_option maxRecDepth 100000 in
theorem jq_l7 : jw_LF (4, 46, 7, 5, 1, 0, 4, 28, 0) := ⟨jq_m7, rfl, rfl, rfl, ⟨⟨List.mem_of_getElem? (i := 202) rfl, List.mem_of_getElem? (i := 203) rfl, rfl⟩, by decide +kernel, rfl, rfl⟩⟩
set_option maxRecDepth 100000 in
theorem jq_l8 : jw_LF (4, 47, 8, 5, 1, 0, 3, 36, 0) := ⟨jq_m8, rfl, rfl, rfl, ⟨⟨List.mem_of_getElem? (i := 222) rfl, List.mem_of_getElem? (i := 223) rfl, rfl⟩, by decide +kernel, rfl, rfl⟩⟩
set_option maxRecDepth 100000 in
theorem jq_l9 : jw_LF (4, 48, 9, 5, 1, 0, 3, 30, 0) := ⟨jq_m9, rfl, rfl, rfl, ⟨⟨List.mem_of_getElem? (i := 266) rfl, List.mem_of_getElem? (i := 267) rfl, rfl⟩, by decide +kernel, rfl, rfl⟩⟩
set_option maxRecDepth 100000 in
theorem jq_l10 : jw_LF (6, 11, 3, 2, 1, 0, 1, 13, 0) := ⟨jq_m3, rfl, rfl, rfl, ⟨⟨List.mem_of_getElem? (i := 207) rfl, List.mem_of_getElem? (i := 131) rfl, rfl⟩, by decide +kernel, rfl, rfl⟩⟩
set_option maxRecDepth 100000 in
theorem jq_l11 : jw_LF (0, 50, 12, 1, 2, 0, 0, 0, 7) := ⟨jq_m12, rfl, rfl, rfl, ⟨⟨List.mem_of_getElem? (i := 370) rfl, List.mem_of_getElem? (i := 371) rfl, List.mem_of_getElem? (i := 372) rfl⟩, by decide +kernel, 6, rfl, _, _, rfl⟩⟩
set_option maxRecDepth 100000 in
theorem jq_l12 : jw_LF (0, 54, 14, 1, 1, 1, 0, 0, 7) := ⟨jq_m14, rfl, rfl, Or.inl rfl, ⟨⟨List.mem_of_getElem? (i := 378) rfl, List.mem_of_getElem? (i := 379) rfl, List.mem_of_getElem? (i := 380) rfl⟩, by decide +kernel, 6, rfl, _, _, rfl⟩⟩
set_option maxRecDepth 100000 in
theorem jq_l13 : jw_LF (0, 58, 16, 1, 1, 3, 0, 0, 9) := ⟨jq_m16, rfl, rfl, rfl, ⟨⟨List.mem_of_getElem? (i := 386) rfl, List.mem_of_getElem? (i := 387) rfl, List.mem_of_getElem? (i := 388) rfl⟩, by decide +kernel, 8, rfl, _, _, rfl⟩⟩
set_option maxRecDepth 100000 in
theorem jq_l14 : jw_LF (0, 62, 17, 1, 2, 1, 0, 0, 7) := ⟨jq_m17, rfl, rfl, Or.inr rfl, ⟨⟨List.mem_of_getElem? (i := 390) rfl, List.mem_of_getElem? (i := 391) rfl, List.mem_of_getElem? (i := 392) rfl⟩, by decide +kernel, 6, rfl, _, _, rfl⟩⟩
set_option maxRecDepth 100000 in
theorem jq_l15 : jw_LF (0, 69, 29, 1, 1, 1, 0, 0, 6) := ⟨jq_m29, rfl, rfl, Or.inr rfl, ⟨⟨List.mem_of_getElem? (i := 442) rfl, List.mem_of_getElem? (i := 443) rfl, List.mem_of_getElem? (i := 444) rfl⟩, by decide +kernel, 5, rfl, _, _, rfl⟩⟩
set_option maxRecDepth 100000 in
theorem jq_l16 : jw_LF (0, 75, 32, 1, 1, 1, 0, 0, 9) := ⟨jq_m32, rfl, rfl, Or.inl rfl, ⟨⟨List.mem_of_getElem? (i := 454) rfl, List.mem_of_getElem? (i := 455) rfl, List.mem_of_getElem? (i := 456) rfl⟩, by decide +kernel, 8, rfl, _, _, rfl⟩⟩
set_option maxRecDepth 100000 in
theorem jq_l17 : jw_LF (1, 37, 18, 1, 2, 1, 0, 0, 7) := ⟨jq_m18, rfl, rfl, Or.inr rfl, ⟨⟨List.mem_of_getElem? (i := 394) rfl, List.mem_of_getElem? (i := 396) rfl, List.mem_of_getElem? (i := 0) rfl⟩, by decide +kernel, 6, rfl, _, _, rfl⟩⟩
set_option maxRecDepth 100000 in
theorem jq_l18 : jw_LF (1, 41, 19, 1, 2, 1, 0, 0, 7) := ⟨jq_m19, rfl, rfl, Or.inr rfl, ⟨⟨List.mem_of_getElem? (i := 399) rfl, List.mem_of_getElem? (i := 401) rfl, List.mem_of_getElem? (i := 1) rfl⟩, by decide +kernel, 6, rfl, _, _, rfl⟩⟩
set_option maxRecDepth 100000 in
theorem jq_l19 : jw_LF (1, 62, 4, 1, 1, 0, 0, 0, 5) := ⟨jq_m4, rfl, rfl, rfl, ⟨⟨List.mem_of_getElem? (i := 398) rfl, List.mem_of_getElem? (i := 135) rfl, List.mem_of_getElem? (i := 136) rfl⟩, by decide +kernel, 4, rfl, _, _, rfl⟩⟩
set_option maxRecDepth 100000 in
theorem jq_l20 : jw_LF (1, 67, 21, 1, 3, 1, 0, 0, 7) := ⟨jq_m21, rfl, rfl, Or.inr rfl, ⟨⟨List.mem_of_getElem? (i := 407) rfl, List.mem_of_getElem? (i := 409) rfl, List.mem_of_getElem? (i := 3) rfl⟩, by decide +kernel, 6, rfl, _, _, rfl⟩⟩
set_option maxRecDepth 100000 in
theorem jq_l21 : jw_LF (1, 58, 20, 1, 1, 1, 0, 0, 7) := ⟨jq_m20, rfl, rfl, Or.inl rfl, ⟨⟨List.mem_of_getElem? (i := 403) rfl, List.mem_of_getElem? (i := 405) rfl, List.mem_of_getElem? (i := 2) rfl⟩, by decide +kernel, 6, rfl, _, _, rfl⟩⟩
set_option maxRecDepth 100000 in
theorem jq_l22 : jw_LF (1, 71, 22, 1, 1, 1, 0, 0, 7) := ⟨jq_m22, rfl, rfl, Or.inr rfl, ⟨⟨List.mem_of_getElem? (i := 411) rfl, List.mem_of_getElem? (i := 413) rfl, List.mem_of_getElem? (i := 4) rfl⟩, by decide +kernel, 6, rfl, _, _, rfl⟩⟩
set_option maxRecDepth 100000 in
theorem jq_l23 : jw_LF (1, 75, 23, 0, 1, 1, 0, 0, 0) := ⟨jq_m23, rfl, rfl, Or.inr rfl, ⟨List.mem_of_getElem? (i := 415) rfl, List.mem_of_getElem? (i := 416) rfl, by decide +kernel, rfl⟩⟩
set_option maxRecDepth 100000 in
theorem jq_l24 : jw_LF (1, 79, 24, 0, 2, 2, 0, 0, 0) := ⟨jq_m24, rfl, rfl, rfl, ⟨List.mem_of_getElem? (i := 420) rfl, List.mem_of_getElem? (i := 421) rfl, by decide +kernel, rfl⟩⟩
set_option maxRecDepth 100000 in
theorem jq_l25 : jw_LF (1, 87, 26, 0, 2, 2, 0, 0, 0) := ⟨jq_m26, rfl, rfl, rfl, ⟨List.mem_of_getElem? (i := 431) rfl, List.mem_of_getElem? (i := 432) rfl, by decide +kernel, rfl⟩⟩
set_option maxRecDepth 100000 in
theorem jq_l26 : jw_LF (10, 17, 25, 0, 2, 2, 0, 0, 0) := ⟨jq_m25, rfl, rfl, rfl, ⟨List.mem_of_getElem? (i := 427) rfl, List.mem_of_getElem? (i := 428) rfl, by decide +kernel, rfl⟩⟩
set_option maxRecDepth 100000 in
theorem jq_l27 : jw_LF (10, 25, 27, 0, 1, 1, 0, 0, 0) := ⟨jq_m27, rfl, rfl, Or.inl rfl, ⟨List.mem_of_getElem? (i := 434) rfl, List.mem_of_getElem? (i := 435) rfl, by decide +kernel, rfl⟩⟩
set_option maxRecDepth 100000 in
theorem jq_l28 : jw_LF (10, 29, 28, 0, 1, 1, 0, 0, 0) := ⟨jq_m28, rfl, rfl, Or.inl rfl, ⟨List.mem_of_getElem? (i := 438) rfl, List.mem_of_getElem? (i := 439) rfl, by decide +kernel, rfl⟩⟩
set_option maxRecDepth 100000 in
theorem jq_l29 : jw_LF (10, 32, 24, 0, 2, 2, 0, 0, 0) := ⟨jq_m24, rfl, rfl, rfl, ⟨List.mem_of_getElem? (i := 441) rfl, List.mem_of_getElem? (i := 421) rfl, by decide +kernel, rfl⟩⟩
set_option maxRecDepth 100000 in
theorem jq_l30 : jw_LF (6, 25, 30, 1, 1, 1, 0, 0, 5) := ⟨jq_m30, rfl, rfl, Or.inr rfl, ⟨⟨List.mem_of_getElem? (i := 446) rfl, List.mem_of_getElem? (i := 447) rfl, List.mem_of_getElem? (i := 448) rfl⟩, by decide +kernel, 4, rfl, _, _, rfl⟩⟩
set_option maxRecDepth 100000 in
theorem jq_l31 : jw_LF (3, 24, 31, 1, 1, 1, 0, 0, 5) := ⟨jq_m31, rfl, rfl, Or.inl rfl, ⟨⟨List.mem_of_getElem? (i := 450) rfl, List.mem_of_getElem? (i := 451) rfl, List.mem_of_getElem? (i := 452) rfl⟩, by decide +kernel, 4, rfl, _, _, rfl⟩⟩
set_option maxRecDepth 100000 in
theorem jq_l32 : jw_LF (0, 78, 34, 1, 1, 3, 0, 0, 9) := ⟨jq_m34, rfl, rfl, rfl, ⟨⟨List.mem_of_getElem? (i := 462) rfl, List.mem_of_getElem? (i := 463) rfl, List.mem_of_getElem? (i := 464) rfl⟩, by decide +kernel, 8, rfl, _, _, rfl⟩⟩
set_option maxRecDepth 100000 in
theorem jq_l33 : jw_LF (0, 82, 35, 1, 2, 1, 0, 0, 7) := ⟨jq_m35, rfl, rfl, Or.inr rfl, ⟨⟨List.mem_of_getElem? (i := 466) rfl, List.mem_of_getElem? (i := 467) rfl, List.mem_of_getElem? (i := 468) rfl⟩, by decide +kernel, 6, rfl, _, _, rfl⟩⟩
set_option maxRecDepth 100000 in
theorem jq_l34 : jw_LF (0, 86, 43, 1, 1, 1, 0, 0, 9) := ⟨jq_m43, rfl, rfl, Or.inl rfl, ⟨⟨List.mem_of_getElem? (i := 497) rfl, List.mem_of_getElem? (i := 498) rfl, List.mem_of_getElem? (i := 499) rfl⟩, by decide +kernel, 8, rfl, _, _, rfl⟩⟩
set_option maxRecDepth 100000 in
theorem jq_l35 : jw_LF (1, 51, 36, 1, 2, 1, 0, 0, 7) := ⟨jq_m36, rfl, rfl, Or.inr rfl, ⟨⟨List.mem_of_getElem? (i := 470) rfl, List.mem_of_getElem? (i := 472) rfl, List.mem_of_getElem? (i := 5) rfl⟩, by decide +kernel, 6, rfl, _, _, rfl⟩⟩
set_option maxRecDepth 100000 in
theorem jq_l36 : jw_LF (1, 55, 41, 1, 2, 1, 0, 0, 7) := ⟨jq_m41, rfl, rfl, Or.inr rfl, ⟨⟨List.mem_of_getElem? (i := 489) rfl, List.mem_of_getElem? (i := 491) rfl, List.mem_of_getElem? (i := 8) rfl⟩, by decide +kernel, 6, rfl, _, _, rfl⟩⟩
set_option maxRecDepth 100000 in
theorem jq_l37 : jw_LF (1, 94, 37, 1, 2, 1, 0, 0, 7) := ⟨jq_m37, rfl, rfl, Or.inr rfl, ⟨⟨List.mem_of_getElem? (i := 474) rfl, List.mem_of_getElem? (i := 476) rfl, List.mem_of_getElem? (i := 6) rfl⟩, by decide +kernel, 6, rfl, _, _, rfl⟩⟩
set_option maxRecDepth 100000 in
theorem jq_l38 : jw_LF (1, 97, 38, 0, 1, 1, 0, 0, 0) := ⟨jq_m38, rfl, rfl, Or.inl rfl, ⟨List.mem_of_getElem? (i := 478) rfl, List.mem_of_getElem? (i := 479) rfl, by decide +kernel, rfl⟩⟩
set_option maxRecDepth 100000 in
theorem jq_l39 : jw_LF (1, 101, 39, 1, 1, 1, 0, 0, 7) := ⟨jq_m39, rfl, rfl, Or.inr rfl, ⟨⟨List.mem_of_getElem? (i := 481) rfl, List.mem_of_getElem? (i := 483) rfl, List.mem_of_getElem? (i := 7) rfl⟩, by decide +kernel, 6, rfl, _, _, rfl⟩⟩
set_option maxRecDepth 100000 in
theorem jq_l40 : jw_LF (1, 104, 40, 1, 4, 0, 0, 0, 4) := ⟨jq_m40, rfl, rfl, rfl, ⟨⟨List.mem_of_getElem? (i := 485) rfl, List.mem_of_getElem? (i := 486) rfl, List.mem_of_getElem? (i := 487) rfl⟩, by decide +kernel, 3, rfl, _, _, rfl⟩⟩
set_option maxRecDepth 100000 in
theorem jq_l41 : jw_LF (1, 108, 42, 1, 3, 0, 0, 0, 4) := ⟨jq_m42, rfl, rfl, rfl, ⟨⟨List.mem_of_getElem? (i := 493) rfl, List.mem_of_getElem? (i := 494) rfl, List.mem_of_getElem? (i := 495) rfl⟩, by decide +kernel, 3, rfl, _, _, rfl⟩⟩
set_option maxRecDepth 100000 in
theorem jq_l42 : jw_LF (0, 89, 45, 1, 2, 3, 0, 0, 9) := ⟨jq_m45, rfl, rfl, rfl, ⟨⟨List.mem_of_getElem? (i := 505) rfl, List.mem_of_getElem? (i := 506) rfl, List.mem_of_getElem? (i := 507) rfl⟩, by decide +kernel, 8, rfl, _, _, rfl⟩⟩
set_option maxRecDepth 100000 in
theorem jq_l43 : jw_LF (0, 97, 31, 1, 1, 1, 0, 0, 5) := ⟨jq_m31, rfl, rfl, Or.inl rfl, ⟨⟨List.mem_of_getElem? (i := 512) rfl, List.mem_of_getElem? (i := 451) rfl, List.mem_of_getElem? (i := 452) rfl⟩, by decide +kernel, 4, rfl, _, _, rfl⟩⟩
set_option maxRecDepth 100000 in
theorem jq_l44 : jw_LF (0, 102, 47, 1, 1, 1, 0, 0, 5) := ⟨jq_m47, rfl, rfl, Or.inl rfl, ⟨⟨List.mem_of_getElem? (i := 513) rfl, List.mem_of_getElem? (i := 514) rfl, List.mem_of_getElem? (i := 515) rfl⟩, by decide +kernel, 4, rfl, _, _, rfl⟩⟩
set_option maxRecDepth 100000 in
theorem jq_l45 : jw_LF (4, 62, 46, 3, 3, 1, 0, 0, 0) := ⟨jq_m46, rfl, rfl, Or.inr rfl, ⟨List.mem_of_getElem? (i := 509) rfl, List.mem_of_getElem? (i := 510) rfl, by decide +kernel, rfl⟩⟩
set_option maxRecDepth 100000 in
theorem jq_l46 : jw_LF (0, 108, 46, 0, 3, 1, 0, 0, 0) := ⟨jq_m46, rfl, rfl, Or.inr rfl, ⟨List.mem_of_getElem? (i := 521) rfl, List.mem_of_getElem? (i := 510) rfl, by decide +kernel, rfl⟩⟩
set_option maxRecDepth 100000 in
theorem jq_l47 : jw_LF (0, 114, 49, 1, 2, 2, 0, 0, 5) := ⟨jq_m49, rfl, rfl, rfl, ⟨⟨List.mem_of_getElem? (i := 523) rfl, List.mem_of_getElem? (i := 524) rfl, List.mem_of_getElem? (i := 525) rfl⟩, by decide +kernel, 4, rfl, _, _, rfl⟩⟩
set_option maxRecDepth 100000 in
theorem jq_l48 : jw_LF (0, 118, 50, 0, 2, 2, 0, 0, 0) := ⟨jq_m50, rfl, rfl, rfl, ⟨List.mem_of_getElem? (i := 528) rfl, List.mem_of_getElem? (i := 529) rfl, by decide +kernel, rfl⟩⟩
set_option maxRecDepth 100000 in
theorem jq_l49 : jw_LF (3, 20, 46, 3, 3, 1, 0, 0, 0) := ⟨jq_m46, rfl, rfl, Or.inr rfl, ⟨List.mem_of_getElem? (i := 527) rfl, List.mem_of_getElem? (i := 510) rfl, by decide +kernel, rfl⟩⟩
set_option maxRecDepth 100000 in
theorem jq_l50 : jw_LF (0, 230, 51, 0, 1, 1, 0, 0, 0) := ⟨jq_m51, rfl, rfl, Or.inr rfl, ⟨List.mem_of_getElem? (i := 531) rfl, List.mem_of_getElem? (i := 532) rfl, by decide +kernel, rfl⟩⟩
set_option maxRecDepth 100000 in
theorem jq_l51 : jw_LF (0, 255, 28, 0, 1, 1, 0, 0, 0) := ⟨jq_m28, rfl, rfl, Or.inl rfl, ⟨List.mem_of_getElem? (i := 534) rfl, List.mem_of_getElem? (i := 439) rfl, by decide +kernel, rfl⟩⟩
set_option maxRecDepth 100000 in
theorem jq_l52 : jw_LF (0, 258, 27, 0, 1, 1, 0, 0, 0) := ⟨jq_m27, rfl, rfl, Or.inl rfl, ⟨List.mem_of_getElem? (i := 535) rfl, List.mem_of_getElem? (i := 435) rfl, by decide +kernel, rfl⟩⟩
set_option maxRecDepth 100000 in
theorem jq_l53 : jw_LF (0, 122, 53, 1, 2, 1, 0, 0, 6) := ⟨jq_m53, rfl, rfl, Or.inl rfl, ⟨⟨List.mem_of_getElem? (i := 540) rfl, List.mem_of_getElem? (i := 541) rfl, List.mem_of_getElem? (i := 542) rfl⟩, by decide +kernel, 5, rfl, _, _, rfl⟩⟩
set_option maxRecDepth 100000 in
theorem jq_l54 : jw_LF (6, 29, 54, 0, 3, 2, 0, 0, 0) := ⟨jq_m54, rfl, rfl, rfl, ⟨List.mem_of_getElem? (i := 544) rfl, List.mem_of_getElem? (i := 545) rfl, by decide +kernel, rfl⟩⟩
set_option maxRecDepth 100000 in
theorem jq_l55 : jw_LF (6, 33, 51, 0, 1, 1, 0, 0, 0) := ⟨jq_m51, rfl, rfl, Or.inr rfl, ⟨List.mem_of_getElem? (i := 552) rfl, List.mem_of_getElem? (i := 532) rfl, by decide +kernel, rfl⟩⟩
set_option maxRecDepth 100000 in
theorem jq_l56 : jw_LF (6, 39, 49, 1, 2, 2, 0, 0, 5) := ⟨jq_m49, rfl, rfl, rfl, ⟨⟨List.mem_of_getElem? (i := 547) rfl, List.mem_of_getElem? (i := 524) rfl, List.mem_of_getElem? (i := 525) rfl⟩, by decide +kernel, 4, rfl, _, _, rfl⟩⟩
set_option maxRecDepth 100000 in
theorem jq_l57 : jw_LF (6, 43, 55, 0, 2, 2, 0, 0, 0) := ⟨jq_m55, rfl, rfl, rfl, ⟨List.mem_of_getElem? (i := 548) rfl, List.mem_of_getElem? (i := 549) rfl, by decide +kernel, rfl⟩⟩
set_option maxRecDepth 100000 in
theorem jq_l58 : jw_LF (6, 47, 26, 0, 2, 2, 0, 0, 0) := ⟨jq_m26, rfl, rfl, rfl, ⟨List.mem_of_getElem? (i := 551) rfl, List.mem_of_getElem? (i := 432) rfl, by decide +kernel, rfl⟩⟩
set_option maxRecDepth 100000 in
theorem jq_l59 : jw_LF (0, 126, 57, 1, 4, 1, 0, 0, 2) := ⟨jq_m57, rfl, rfl, Or.inl rfl, ⟨⟨List.mem_of_getElem? (i := 557) rfl, List.mem_of_getElem? (i := 558) rfl, List.mem_of_getElem? (i := 559) rfl⟩, by decide +kernel, 1, rfl, _, _, rfl⟩⟩
set_option maxRecDepth 100000 in
theorem jq_l60 : jw_LF (2, 33, 58, 1, 2, 0, 0, 0, 5) := ⟨jq_m58, rfl, rfl, rfl, ⟨⟨List.mem_of_getElem? (i := 561) rfl, List.mem_of_getElem? (i := 562) rfl, List.mem_of_getElem? (i := 563) rfl⟩, by decide +kernel, 4, rfl, _, _, rfl⟩⟩
set_option maxRecDepth 100000 in
theorem jq_l61 : jw_LF (2, 46, 59, 1, 2, 1, 0, 0, 2) := ⟨jq_m59, rfl, rfl, Or.inl rfl, ⟨⟨List.mem_of_getElem? (i := 565) rfl, List.mem_of_getElem? (i := 567) rfl, List.mem_of_getElem? (i := 9) rfl⟩, by decide +kernel, 1, rfl, _, _, rfl⟩⟩
set_option maxRecDepth 100000 in
theorem jq_l62 : jw_LF (2, 50, 60, 1, 2, 1, 0, 0, 2) := ⟨jq_m60, rfl, rfl, Or.inl rfl, ⟨⟨List.mem_of_getElem? (i := 569) rfl, List.mem_of_getElem? (i := 571) rfl, List.mem_of_getElem? (i := 10) rfl⟩, by decide +kernel, 1, rfl, _, _, rfl⟩⟩
set_option maxRecDepth 100000 in
theorem jq_l63 : jw_LF (2, 54, 61, 1, 1, 0, 0, 0, 2) := ⟨jq_m61, rfl, rfl, rfl, ⟨⟨List.mem_of_getElem? (i := 575) rfl, List.mem_of_getElem? (i := 577) rfl, List.mem_of_getElem? (i := 11) rfl⟩, by decide +kernel, 1, rfl, _, _, rfl⟩⟩
set_option maxRecDepth 100000 in
theorem jq_l64 : jw_LF (2, 57, 62, 1, 2, 2, 0, 0, 2) := ⟨jq_m62, rfl, rfl, rfl, ⟨⟨List.mem_of_getElem? (i := 579) rfl, List.mem_of_getElem? (i := 581) rfl, List.mem_of_getElem? (i := 12) rfl⟩, by decide +kernel, 1, rfl, _, _, rfl⟩⟩
set_option maxRecDepth 100000 in
theorem jq_l65 : jw_LF (2, 61, 63, 0, 2, 2, 0, 0, 0) := ⟨jq_m63, rfl, rfl, rfl, ⟨List.mem_of_getElem? (i := 584) rfl, List.mem_of_getElem? (i := 585) rfl, by decide +kernel, rfl⟩⟩
set_option maxRecDepth 100000 in
theorem jq_l66 : jw_LF (2, 67, 51, 0, 1, 1, 0, 0, 0) := ⟨jq_m51, rfl, rfl, Or.inr rfl, ⟨List.mem_of_getElem? (i := 587) rfl, List.mem_of_getElem? (i := 532) rfl, by decide +kernel, rfl⟩⟩
set_option maxRecDepth 100000 in
theorem jq_l67 : jw_LF (2, 71, 28, 0, 1, 1, 0, 0, 0) := ⟨jq_m28, rfl, rfl, Or.inl rfl, ⟨List.mem_of_getElem? (i := 588) rfl, List.mem_of_getElem? (i := 439) rfl, by decide +kernel, rfl⟩⟩
set_option maxRecDepth 100000 in
theorem jq_l68 : jw_LF (2, 74, 64, 1, 4, 0, 0, 0, 2) := ⟨jq_m64, rfl, rfl, rfl, ⟨⟨List.mem_of_getElem? (i := 589) rfl, List.mem_of_getElem? (i := 591) rfl, List.mem_of_getElem? (i := 13) rfl⟩, by decide +kernel, 1, rfl, _, _, rfl⟩⟩
set_option maxRecDepth 100000 in
theorem jq_l69 : jw_LF (2, 78, 66, 0, 1, 2, 0, 0, 0) := ⟨jq_m66, rfl, rfl, rfl, ⟨List.mem_of_getElem? (i := 597) rfl, List.mem_of_getElem? (i := 598) rfl, by decide +kernel, rfl⟩⟩
set_option maxRecDepth 100000 in
theorem jq_l70 : jw_LF (2, 82, 68, 1, 4, 1, 0, 0, 5) := ⟨jq_m68, rfl, rfl, Or.inr rfl, ⟨⟨List.mem_of_getElem? (i := 603) rfl, List.mem_of_getElem? (i := 604) rfl, List.mem_of_getElem? (i := 605) rfl⟩, by decide +kernel, 4, rfl, _, _, rfl⟩⟩
set_option maxRecDepth 100000 in
theorem jq_l71 : jw_LF (2, 86, 30, 1, 1, 1, 0, 0, 5) := ⟨jq_m30, rfl, rfl, Or.inr rfl, ⟨⟨List.mem_of_getElem? (i := 611) rfl, List.mem_of_getElem? (i := 447) rfl, List.mem_of_getElem? (i := 448) rfl⟩, by decide +kernel, 4, rfl, _, _, rfl⟩⟩
set_option maxRecDepth 100000 in
theorem jq_l72 : jw_LF (2, 90, 42, 1, 3, 0, 0, 0, 4) := ⟨jq_m42, rfl, rfl, rfl, ⟨⟨List.mem_of_getElem? (i := 612) rfl, List.mem_of_getElem? (i := 494) rfl, List.mem_of_getElem? (i := 495) rfl⟩, by decide +kernel, 3, rfl, _, _, rfl⟩⟩
set_option maxRecDepth 100000 in
theorem jq_l73 : jw_LF (2, 94, 31, 1, 1, 1, 0, 0, 5) := ⟨jq_m31, rfl, rfl, Or.inl rfl, ⟨⟨List.mem_of_getElem? (i := 573) rfl, List.mem_of_getElem? (i := 451) rfl, List.mem_of_getElem? (i := 452) rfl⟩, by decide +kernel, 4, rfl, _, _, rfl⟩⟩
set_option maxRecDepth 100000 in
theorem jq_l74 : jw_LF (2, 98, 47, 1, 1, 1, 0, 0, 5) := ⟨jq_m47, rfl, rfl, Or.inl rfl, ⟨⟨List.mem_of_getElem? (i := 574) rfl, List.mem_of_getElem? (i := 514) rfl, List.mem_of_getElem? (i := 515) rfl⟩, by decide +kernel, 4, rfl, _, _, rfl⟩⟩
set_option maxRecDepth 100000 in
theorem jq_l75 : jw_LF (2, 101, 49, 1, 2, 2, 0, 0, 5) := ⟨jq_m49, rfl, rfl, rfl, ⟨⟨List.mem_of_getElem? (i := 583) rfl, List.mem_of_getElem? (i := 524) rfl, List.mem_of_getElem? (i := 525) rfl⟩, by decide +kernel, 4, rfl, _, _, rfl⟩⟩
set_option maxRecDepth 100000 in
theorem jq_l76 : jw_LF (2, 105, 65, 0, 1, 2, 0, 0, 0) := ⟨jq_m65, rfl, rfl, rfl, ⟨List.mem_of_getElem? (i := 593) rfl, List.mem_of_getElem? (i := 594) rfl, by decide +kernel, rfl⟩⟩
set_option maxRecDepth 100000 in
theorem jq_l77 : jw_LF (2, 108, 40, 1, 4, 0, 0, 0, 4) := ⟨jq_m40, rfl, rfl, rfl, ⟨⟨List.mem_of_getElem? (i := 596) rfl, List.mem_of_getElem? (i := 486) rfl, List.mem_of_getElem? (i := 487) rfl⟩, by decide +kernel, 3, rfl, _, _, rfl⟩⟩
set_option maxRecDepth 100000 in
theorem jq_l78 : jw_LF (10, 35, 67, 0, 2, 2, 0, 0, 0) := ⟨jq_m67, rfl, rfl, rfl, ⟨List.mem_of_getElem? (i := 600) rfl, List.mem_of_getElem? (i := 601) rfl, by decide +kernel, rfl⟩⟩
set_option maxRecDepth 100000 in
theorem jq_l79 : jw_LF (3, 28, 49, 1, 2, 2, 0, 0, 5) := ⟨jq_m49, rfl, rfl, rfl, ⟨⟨List.mem_of_getElem? (i := 607) rfl, List.mem_of_getElem? (i := 524) rfl, List.mem_of_getElem? (i := 525) rfl⟩, by decide +kernel, 4, rfl, _, _, rfl⟩⟩
set_option maxRecDepth 100000 in
theorem jq_l80 : jw_LF (3, 32, 55, 0, 2, 2, 0, 0, 0) := ⟨jq_m55, rfl, rfl, rfl, ⟨List.mem_of_getElem? (i := 608) rfl, List.mem_of_getElem? (i := 549) rfl, by decide +kernel, rfl⟩⟩
set_option maxRecDepth 100000 in
theorem jq_l81 : jw_LF (3, 36, 26, 0, 2, 2, 0, 0, 0) := ⟨jq_m26, rfl, rfl, rfl, ⟨List.mem_of_getElem? (i := 609) rfl, List.mem_of_getElem? (i := 432) rfl, by decide +kernel, rfl⟩⟩
set_option maxRecDepth 100000 in
theorem jq_l82 : jw_LF (3, 39, 51, 0, 1, 1, 0, 0, 0) := ⟨jq_m51, rfl, rfl, Or.inr rfl, ⟨List.mem_of_getElem? (i := 610) rfl, List.mem_of_getElem? (i := 532) rfl, by decide +kernel, rfl⟩⟩
set_option maxRecDepth 100000 in
theorem jq_l83 : jw_LF (0, 130, 58, 1, 2, 0, 0, 0, 5) := ⟨jq_m58, rfl, rfl, rfl, ⟨⟨List.mem_of_getElem? (i := 617) rfl, List.mem_of_getElem? (i := 562) rfl, List.mem_of_getElem? (i := 563) rfl⟩, by decide +kernel, 4, rfl, _, _, rfl⟩⟩
set_option maxRecDepth 100000 in
theorem jq_l84 : jw_LF (0, 134, 71, 0, 2, 1, 0, 0, 0) := ⟨jq_m71, rfl, rfl, Or.inr rfl, ⟨List.mem_of_getElem? (i := 622) rfl, List.mem_of_getElem? (i := 623) rfl, by decide +kernel, rfl⟩⟩
set_option maxRecDepth 100000 in
theorem jq_l85 : jw_LF (0, 138, 24, 0, 2, 2, 0, 0, 0) := ⟨jq_m24, rfl, rfl, rfl, ⟨List.mem_of_getElem? (i := 625) rfl, List.mem_of_getElem? (i := 421) rfl, by decide +kernel, rfl⟩⟩
set_option maxRecDepth 100000 in
theorem jq_l86 : jw_LF (0, 144, 72, 1, 4, 1, 0, 0, 6) := ⟨jq_m72, rfl, rfl, Or.inr rfl, ⟨⟨List.mem_of_getElem? (i := 626) rfl, List.mem_of_getElem? (i := 627) rfl, List.mem_of_getElem? (i := 628) rfl⟩, by decide +kernel, 5, rfl, _, _, rfl⟩⟩
set_option maxRecDepth 100000 in
theorem jq_l87 : jw_LF (6, 50, 73, 1, 2, 0, 0, 0, 6) := ⟨jq_m73, rfl, rfl, rfl, ⟨⟨List.mem_of_getElem? (i := 630) rfl, List.mem_of_getElem? (i := 631) rfl, List.mem_of_getElem? (i := 632) rfl⟩, by decide +kernel, 5, rfl, _, _, rfl⟩⟩
set_option maxRecDepth 100000 in
theorem jq_l88 : jw_LF (6, 53, 74, 1, 2, 1, 0, 0, 5) := ⟨jq_m74, rfl, rfl, Or.inr rfl, ⟨⟨List.mem_of_getElem? (i := 635) rfl, List.mem_of_getElem? (i := 636) rfl, List.mem_of_getElem? (i := 637) rfl⟩, by decide +kernel, 4, rfl, _, _, rfl⟩⟩
set_option maxRecDepth 100000 in
theorem jq_l89 : jw_LF (6, 56, 75, 1, 3, 1, 0, 0, 5) := ⟨jq_m75, rfl, rfl, Or.inr rfl, ⟨⟨List.mem_of_getElem? (i := 640) rfl, List.mem_of_getElem? (i := 641) rfl, List.mem_of_getElem? (i := 642) rfl⟩, by decide +kernel, 4, rfl, _, _, rfl⟩⟩
set_option maxRecDepth 100000 in
theorem jq_l90 : jw_LF (6, 21, 58, 1, 2, 0, 0, 0, 5) := ⟨jq_m58, rfl, rfl, rfl, ⟨⟨List.mem_of_getElem? (i := 634) rfl, List.mem_of_getElem? (i := 562) rfl, List.mem_of_getElem? (i := 563) rfl⟩, by decide +kernel, 4, rfl, _, _, rfl⟩⟩
set_option maxRecDepth 100000 in
theorem jq_l91 : jw_LF (3, 43, 63, 0, 2, 2, 0, 0, 0) := ⟨jq_m63, rfl, rfl, rfl, ⟨List.mem_of_getElem? (i := 639) rfl, List.mem_of_getElem? (i := 585) rfl, by decide +kernel, rfl⟩⟩
set_option maxRecDepth 100000 in
theorem jq_l92 : jw_LF (0, 148, 77, 1, 3, 1, 0, 0, 6) := ⟨jq_m77, rfl, rfl, Or.inr rfl, ⟨⟨List.mem_of_getElem? (i := 648) rfl, List.mem_of_getElem? (i := 649) rfl, List.mem_of_getElem? (i := 650) rfl⟩, by decide +kernel, 5, rfl, _, _, rfl⟩⟩
set_option maxRecDepth 100000 in
theorem jq_l93 : jw_LF (6, 60, 78, 1, 2, 1, 0, 0, 5) := ⟨jq_m78, rfl, rfl, Or.inr rfl, ⟨⟨List.mem_of_getElem? (i := 652) rfl, List.mem_of_getElem? (i := 653) rfl, List.mem_of_getElem? (i := 654) rfl⟩, by decide +kernel, 4, rfl, _, _, rfl⟩⟩
set_option maxRecDepth 100000 in
theorem jq_l94 : jw_LF (0, 152, 80, 1, 2, 3, 0, 0, 9) := ⟨jq_m80, rfl, rfl, rfl, ⟨⟨List.mem_of_getElem? (i := 660) rfl, List.mem_of_getElem? (i := 661) rfl, List.mem_of_getElem? (i := 662) rfl⟩, by decide +kernel, 8, rfl, _, _, rfl⟩⟩
set_option maxRecDepth 100000 in
theorem jq_l95 : jw_LF (0, 162, 83, 1, 2, 1, 0, 0, 4) := ⟨jq_m83, rfl, rfl, Or.inr rfl, ⟨⟨List.mem_of_getElem? (i := 672) rfl, List.mem_of_getElem? (i := 673) rfl, List.mem_of_getElem? (i := 674) rfl⟩, by decide +kernel, 3, rfl, _, _, rfl⟩⟩
set_option maxRecDepth 100000 in
theorem jq_l96 : jw_LF (7, 36, 46, 3, 3, 1, 0, 0, 0) := ⟨jq_m46, rfl, rfl, Or.inr rfl, ⟨List.mem_of_getElem? (i := 676) rfl, List.mem_of_getElem? (i := 510) rfl, by decide +kernel, rfl⟩⟩
set_option maxRecDepth 100000 in
theorem jq_l97 : jw_LF (0, 182, 86, 1, 2, 1, 0, 0, 6) := ⟨jq_m86, rfl, rfl, Or.inr rfl, ⟨⟨List.mem_of_getElem? (i := 685) rfl, List.mem_of_getElem? (i := 686) rfl, List.mem_of_getElem? (i := 687) rfl⟩, by decide +kernel, 5, rfl, _, _, rfl⟩⟩
set_option maxRecDepth 100000 in
theorem jq_l98 : jw_LF (6, 63, 4, 1, 1, 0, 0, 0, 5) := ⟨jq_m4, rfl, rfl, rfl, ⟨⟨List.mem_of_getElem? (i := 689) rfl, List.mem_of_getElem? (i := 135) rfl, List.mem_of_getElem? (i := 136) rfl⟩, by decide +kernel, 4, rfl, _, _, rfl⟩⟩
set_option maxRecDepth 100000 in
theorem jq_l99 : jw_LF (6, 96, 87, 1, 4, 1, 0, 0, 6) := ⟨jq_m87, rfl, rfl, Or.inr rfl, ⟨⟨List.mem_of_getElem? (i := 691) rfl, List.mem_of_getElem? (i := 693) rfl, List.mem_of_getElem? (i := 14) rfl⟩, by decide +kernel, 5, rfl, _, _, rfl⟩⟩
set_option maxRecDepth 100000 in
theorem jq_l100 : jw_LF (6, 100, 88, 0, 2, 1, 0, 0, 0) := ⟨jq_m88, rfl, rfl, Or.inr rfl, ⟨List.mem_of_getElem? (i := 695) rfl, List.mem_of_getElem? (i := 696) rfl, by decide +kernel, rfl⟩⟩
set_option maxRecDepth 100000 in
theorem jq_l101 : jw_LF (6, 104, 68, 1, 4, 1, 0, 0, 5) := ⟨jq_m68, rfl, rfl, Or.inr rfl, ⟨⟨List.mem_of_getElem? (i := 698) rfl, List.mem_of_getElem? (i := 604) rfl, List.mem_of_getElem? (i := 605) rfl⟩, by decide +kernel, 4, rfl, _, _, rfl⟩⟩
set_option maxRecDepth 100000 in
theorem jq_l102 : jw_LF (0, 185, 42, 1, 3, 0, 0, 0, 4) := ⟨jq_m42, rfl, rfl, rfl, ⟨⟨List.mem_of_getElem? (i := 703) rfl, List.mem_of_getElem? (i := 494) rfl, List.mem_of_getElem? (i := 495) rfl⟩, by decide +kernel, 3, rfl, _, _, rfl⟩⟩
set_option maxRecDepth 100000 in
theorem jq_l103 : jw_LF (0, 189, 91, 1, 4, 1, 0, 0, 4) := ⟨jq_m91, rfl, rfl, Or.inr rfl, ⟨⟨List.mem_of_getElem? (i := 708) rfl, List.mem_of_getElem? (i := 709) rfl, List.mem_of_getElem? (i := 710) rfl⟩, by decide +kernel, 3, rfl, _, _, rfl⟩⟩
set_option maxRecDepth 100000 in
theorem jq_l104 : jw_LF (7, 44, 92, 1, 2, 0, 0, 0, 4) := ⟨jq_m92, rfl, rfl, rfl, ⟨⟨List.mem_of_getElem? (i := 712) rfl, List.mem_of_getElem? (i := 713) rfl, List.mem_of_getElem? (i := 714) rfl⟩, by decide +kernel, 3, rfl, _, _, rfl⟩⟩
set_option maxRecDepth 100000 in
theorem jq_l105 : jw_LF (7, 52, 93, 0, 4, 2, 0, 0, 0) := ⟨jq_m93, rfl, rfl, rfl, ⟨List.mem_of_getElem? (i := 717) rfl, List.mem_of_getElem? (i := 718) rfl, by decide +kernel, rfl⟩⟩
set_option maxRecDepth 100000 in
theorem jq_l106 : jw_LF (7, 56, 51, 0, 1, 1, 0, 0, 0) := ⟨jq_m51, rfl, rfl, Or.inr rfl, ⟨List.mem_of_getElem? (i := 722) rfl, List.mem_of_getElem? (i := 532) rfl, by decide +kernel, rfl⟩⟩
set_option maxRecDepth 100000 in
theorem jq_l107 : jw_LF (7, 48, 40, 1, 4, 0, 0, 0, 4) := ⟨jq_m40, rfl, rfl, rfl, ⟨⟨List.mem_of_getElem? (i := 723) rfl, List.mem_of_getElem? (i := 486) rfl, List.mem_of_getElem? (i := 487) rfl⟩, by decide +kernel, 3, rfl, _, _, rfl⟩⟩
set_option maxRecDepth 100000 in
theorem jq_l108 : jw_LF (7, 60, 55, 0, 2, 2, 0, 0, 0) := ⟨jq_m55, rfl, rfl, rfl, ⟨List.mem_of_getElem? (i := 720) rfl, List.mem_of_getElem? (i := 549) rfl, by decide +kernel, rfl⟩⟩
set_option maxRecDepth 100000 in
theorem jq_l109 : jw_LF (7, 40, 42, 1, 3, 0, 0, 0, 4) := ⟨jq_m42, rfl, rfl, rfl, ⟨⟨List.mem_of_getElem? (i := 716) rfl, List.mem_of_getElem? (i := 494) rfl, List.mem_of_getElem? (i := 495) rfl⟩, by decide +kernel, 3, rfl, _, _, rfl⟩⟩
set_option maxRecDepth 100000 in
theorem jq_l110 : jw_LF (7, 64, 63, 0, 2, 2, 0, 0, 0) := ⟨jq_m63, rfl, rfl, rfl, ⟨List.mem_of_getElem? (i := 721) rfl, List.mem_of_getElem? (i := 585) rfl, by decide +kernel, rfl⟩⟩
set_option maxRecDepth 100000 in
theorem jq_l111 : jw_LF (0, 192, 95, 1, 1, 1, 0, 0, 4) := ⟨jq_m95, rfl, rfl, Or.inl rfl, ⟨⟨List.mem_of_getElem? (i := 728) rfl, List.mem_of_getElem? (i := 729) rfl, List.mem_of_getElem? (i := 730) rfl⟩, by decide +kernel, 3, rfl, _, _, rfl⟩⟩
set_option maxRecDepth 100000 in
theorem jq_l112 : jw_LF (0, 195, 98, 1, 4, 1, 0, 0, 4) := ⟨jq_m98, rfl, rfl, Or.inr rfl, ⟨⟨List.mem_of_getElem? (i := 741) rfl, List.mem_of_getElem? (i := 742) rfl, List.mem_of_getElem? (i := 743) rfl⟩, by decide +kernel, 3, rfl, _, _, rfl⟩⟩
set_option maxRecDepth 100000 in
theorem jq_l113 : jw_LF (7, 67, 96, 1, 1, 1, 0, 0, 4) := ⟨jq_m96, rfl, rfl, Or.inr rfl, ⟨⟨List.mem_of_getElem? (i := 732) rfl, List.mem_of_getElem? (i := 734) rfl, List.mem_of_getElem? (i := 15) rfl⟩, by decide +kernel, 3, rfl, _, _, rfl⟩⟩
set_option maxRecDepth 100000 in
theorem jq_l114 : jw_LF (7, 71, 97, 1, 1, 1, 0, 0, 4) := ⟨jq_m97, rfl, rfl, Or.inl rfl, ⟨⟨List.mem_of_getElem? (i := 737) rfl, List.mem_of_getElem? (i := 738) rfl, List.mem_of_getElem? (i := 739) rfl⟩, by decide +kernel, 3, rfl, _, _, rfl⟩⟩
set_option maxRecDepth 100000 in
theorem jq_l115 : jw_LF (7, 75, 88, 0, 2, 1, 0, 0, 0) := ⟨jq_m88, rfl, rfl, Or.inr rfl, ⟨List.mem_of_getElem? (i := 736) rfl, List.mem_of_getElem? (i := 696) rfl, by decide +kernel, rfl⟩⟩
set_option maxRecDepth 100000 in
theorem jq_l116 : jw_LF (0, 198, 100, 1, 3, 1, 0, 0, 4) := ⟨jq_m100, rfl, rfl, Or.inr rfl, ⟨⟨List.mem_of_getElem? (i := 749) rfl, List.mem_of_getElem? (i := 750) rfl, List.mem_of_getElem? (i := 751) rfl⟩, by decide +kernel, 3, rfl, _, _, rfl⟩⟩
set_option maxRecDepth 100000 in
theorem jq_l117 : jw_LF (7, 79, 65, 0, 1, 2, 0, 0, 0) := ⟨jq_m65, rfl, rfl, rfl, ⟨List.mem_of_getElem? (i := 753) rfl, List.mem_of_getElem? (i := 594) rfl, by decide +kernel, rfl⟩⟩
set_option maxRecDepth 100000 in
theorem jq_l118 : jw_LF (0, 202, 102, 1, 2, 0, 0, 0, 4) := ⟨jq_m102, rfl, rfl, rfl, ⟨⟨List.mem_of_getElem? (i := 758) rfl, List.mem_of_getElem? (i := 759) rfl, List.mem_of_getElem? (i := 760) rfl⟩, by decide +kernel, 3, rfl, _, _, rfl⟩⟩
set_option maxRecDepth 100000 in
theorem jq_l119 : jw_LF (0, 210, 104, 1, 3, 1, 0, 0, 4) := ⟨jq_m104, rfl, rfl, Or.inr rfl, ⟨⟨List.mem_of_getElem? (i := 766) rfl, List.mem_of_getElem? (i := 767) rfl, List.mem_of_getElem? (i := 768) rfl⟩, by decide +kernel, 3, rfl, _, _, rfl⟩⟩
set_option maxRecDepth 100000 in
theorem jq_l120 : jw_LF (7, 83, 105, 1, 2, 1, 0, 0, 1) := ⟨jq_m105, rfl, rfl, Or.inl rfl, ⟨⟨List.mem_of_getElem? (i := 770) rfl, List.mem_of_getElem? (i := 771) rfl, List.mem_of_getElem? (i := 772) rfl⟩, by decide +kernel, 0, rfl, _, _, rfl⟩⟩
set_option maxRecDepth 100000 in
theorem jq_l121 : jw_LF (8, 47, 106, 0, 3, 1, 0, 0, 0) := ⟨jq_m106, rfl, rfl, Or.inr rfl, ⟨List.mem_of_getElem? (i := 774) rfl, List.mem_of_getElem? (i := 775) rfl, by decide +kernel, rfl⟩⟩
set_option maxRecDepth 100000 in
theorem jq_l122 : jw_LF (8, 51, 107, 0, 2, 2, 0, 0, 0) := ⟨jq_m107, rfl, rfl, rfl, ⟨List.mem_of_getElem? (i := 777) rfl, List.mem_of_getElem? (i := 778) rfl, by decide +kernel, rfl⟩⟩
set_option maxRecDepth 100000 in
theorem jq_l123 : jw_LF (8, 55, 27, 0, 1, 1, 0, 0, 0) := ⟨jq_m27, rfl, rfl, Or.inl rfl, ⟨List.mem_of_getElem? (i := 781) rfl, List.mem_of_getElem? (i := 435) rfl, by decide +kernel, rfl⟩⟩
set_option maxRecDepth 100000 in
theorem jq_l124 : jw_LF (8, 58, 28, 0, 1, 1, 0, 0, 0) := ⟨jq_m28, rfl, rfl, Or.inl rfl, ⟨List.mem_of_getElem? (i := 780) rfl, List.mem_of_getElem? (i := 439) rfl, by decide +kernel, rfl⟩⟩
set_option maxRecDepth 100000 in
theorem jq_l125 : jw_LF (0, 214, 109, 1, 1, 1, 0, 0, 9) := ⟨jq_m109, rfl, rfl, Or.inl rfl, ⟨⟨List.mem_of_getElem? (i := 787) rfl, List.mem_of_getElem? (i := 788) rfl, List.mem_of_getElem? (i := 789) rfl⟩, by decide +kernel, 8, rfl, _, _, rfl⟩⟩
set_option maxRecDepth 100000 in
theorem jq_l126 : jw_LF (0, 217, 110, 1, 1, 1, 0, 0, 9) := ⟨jq_m110, rfl, rfl, Or.inl rfl, ⟨⟨List.mem_of_getElem? (i := 791) rfl, List.mem_of_getElem? (i := 792) rfl, List.mem_of_getElem? (i := 793) rfl⟩, by decide +kernel, 8, rfl, _, _, rfl⟩⟩
set_option maxRecDepth 100000 in
theorem jq_l127 : jw_LF (0, 220, 112, 1, 2, 2, 0, 0, 4) := ⟨jq_m112, rfl, rfl, rfl, ⟨⟨List.mem_of_getElem? (i := 799) rfl, List.mem_of_getElem? (i := 800) rfl, List.mem_of_getElem? (i := 801) rfl⟩, by decide +kernel, 3, rfl, _, _, rfl⟩⟩
set_option maxRecDepth 100000 in
theorem jq_l128 : jw_LF (7, 92, 113, 1, 3, 2, 0, 0, 4) := ⟨jq_m113, rfl, rfl, rfl, ⟨⟨List.mem_of_getElem? (i := 803) rfl, List.mem_of_getElem? (i := 805) rfl, List.mem_of_getElem? (i := 16) rfl⟩, by decide +kernel, 3, rfl, _, _, rfl⟩⟩
set_option maxRecDepth 100000 in
theorem jq_l129 : jw_LF (7, 96, 114, 1, 1, 2, 0, 0, 4) := ⟨jq_m114, rfl, rfl, rfl, ⟨⟨List.mem_of_getElem? (i := 807) rfl, List.mem_of_getElem? (i := 809) rfl, List.mem_of_getElem? (i := 17) rfl⟩, by decide +kernel, 3, rfl, _, _, rfl⟩⟩
set_option maxRecDepth 100000 in
theorem jq_l130 : jw_LF (7, 100, 115, 1, 3, 2, 0, 0, 4) := ⟨jq_m115, rfl, rfl, rfl, ⟨⟨List.mem_of_getElem? (i := 812) rfl, List.mem_of_getElem? (i := 814) rfl, List.mem_of_getElem? (i := 18) rfl⟩, by decide +kernel, 3, rfl, _, _, rfl⟩⟩
set_option maxRecDepth 100000 in
theorem jq_l131 : jw_LF (7, 104, 116, 1, 3, 2, 0, 0, 4) := ⟨jq_m116, rfl, rfl, rfl, ⟨⟨List.mem_of_getElem? (i := 817) rfl, List.mem_of_getElem? (i := 819) rfl, List.mem_of_getElem? (i := 19) rfl⟩, by decide +kernel, 3, rfl, _, _, rfl⟩⟩
set_option maxRecDepth 100000 in
theorem jq_l132 : jw_LF (7, 107, 117, 0, 3, 2, 0, 0, 0) := ⟨jq_m117, rfl, rfl, rfl, ⟨List.mem_of_getElem? (i := 821) rfl, List.mem_of_getElem? (i := 822) rfl, by decide +kernel, rfl⟩⟩
set_option maxRecDepth 100000 in
theorem jq_l133 : jw_LF (7, 111, 118, 0, 2, 2, 0, 0, 0) := ⟨jq_m118, rfl, rfl, rfl, ⟨List.mem_of_getElem? (i := 826) rfl, List.mem_of_getElem? (i := 827) rfl, by decide +kernel, rfl⟩⟩
set_option maxRecDepth 100000 in
theorem jq_l134 : jw_LF (7, 114, 66, 0, 1, 2, 0, 0, 0) := ⟨jq_m66, rfl, rfl, rfl, ⟨List.mem_of_getElem? (i := 816) rfl, List.mem_of_getElem? (i := 598) rfl, by decide +kernel, rfl⟩⟩
set_option maxRecDepth 100000 in
theorem jq_l135 : jw_LF (7, 117, 26, 0, 2, 2, 0, 0, 0) := ⟨jq_m26, rfl, rfl, rfl, ⟨List.mem_of_getElem? (i := 824) rfl, List.mem_of_getElem? (i := 432) rfl, by decide +kernel, rfl⟩⟩
set_option maxRecDepth 100000 in
theorem jq_l136 : jw_LF (7, 120, 67, 0, 2, 2, 0, 0, 0) := ⟨jq_m67, rfl, rfl, rfl, ⟨List.mem_of_getElem? (i := 825) rfl, List.mem_of_getElem? (i := 601) rfl, by decide +kernel, rfl⟩⟩
set_option maxRecDepth 100000 in
theorem jq_l137 : jw_LF (0, 224, 120, 1, 1, 1, 0, 0, 4) := ⟨jq_m120, rfl, rfl, Or.inr rfl, ⟨⟨List.mem_of_getElem? (i := 833) rfl, List.mem_of_getElem? (i := 834) rfl, List.mem_of_getElem? (i := 835) rfl⟩, by decide +kernel, 3, rfl, _, _, rfl⟩⟩
set_option maxRecDepth 100000 in
theorem jq_l138 : jw_LF (0, 227, 121, 1, 2, 2, 0, 0, 4) := ⟨jq_m121, rfl, rfl, rfl, ⟨⟨List.mem_of_getElem? (i := 837) rfl, List.mem_of_getElem? (i := 838) rfl, List.mem_of_getElem? (i := 839) rfl⟩, by decide +kernel, 3, rfl, _, _, rfl⟩⟩
set_option maxRecDepth 100000 in
theorem jq_l139 : jw_LF (0, 234, 123, 0, 2, 1, 0, 0, 0) := ⟨jq_m123, rfl, rfl, Or.inr rfl, ⟨List.mem_of_getElem? (i := 845) rfl, List.mem_of_getElem? (i := 846) rfl, by decide +kernel, rfl⟩⟩
set_option maxRecDepth 100000 in
theorem jq_l140 : jw_LF (0, 238, 125, 0, 1, 1, 0, 0, 0) := ⟨jq_m125, rfl, rfl, Or.inr rfl, ⟨List.mem_of_getElem? (i := 853) rfl, List.mem_of_getElem? (i := 854) rfl, by decide +kernel, rfl⟩⟩
set_option maxRecDepth 100000 in
theorem jq_l141 : jw_LF (0, 241, 126, 1, 4, 1, 0, 0, 1) := ⟨jq_m126, rfl, rfl, Or.inr rfl, ⟨⟨List.mem_of_getElem? (i := 856) rfl, List.mem_of_getElem? (i := 857) rfl, List.mem_of_getElem? (i := 858) rfl⟩, by decide +kernel, 0, rfl, _, _, rfl⟩⟩
set_option maxRecDepth 100000 in
theorem jq_l142 : jw_LF (8, 34, 127, 1, 2, 1, 0, 0, 1) := ⟨jq_m127, rfl, rfl, Or.inl rfl, ⟨⟨List.mem_of_getElem? (i := 860) rfl, List.mem_of_getElem? (i := 861) rfl, List.mem_of_getElem? (i := 862) rfl⟩, by decide +kernel, 0, rfl, _, _, rfl⟩⟩
set_option maxRecDepth 100000 in
theorem jq_l143 : jw_LF (8, 38, 128, 1, 2, 1, 0, 0, 1) := ⟨jq_m128, rfl, rfl, Or.inl rfl, ⟨⟨List.mem_of_getElem? (i := 864) rfl, List.mem_of_getElem? (i := 866) rfl, List.mem_of_getElem? (i := 20) rfl⟩, by decide +kernel, 0, rfl, _, _, rfl⟩⟩
set_option maxRecDepth 100000 in
theorem jq_l144 : jw_LF (8, 26, 131, 1, 5, 0, 0, 0, 1) := ⟨jq_m131, rfl, rfl, rfl, ⟨⟨List.mem_of_getElem? (i := 874) rfl, List.mem_of_getElem? (i := 876) rfl, List.mem_of_getElem? (i := 21) rfl⟩, by decide +kernel, 0, rfl, _, _, rfl⟩⟩
set_option maxRecDepth 100000 in
theorem jq_l145 : jw_LF (8, 41, 129, 0, 2, 1, 0, 0, 0) := ⟨jq_m129, rfl, rfl, Or.inl rfl, ⟨List.mem_of_getElem? (i := 868) rfl, List.mem_of_getElem? (i := 869) rfl, by decide +kernel, rfl⟩⟩
set_option maxRecDepth 100000 in
theorem jq_l146 : jw_LF (10, 38, 130, 0, 2, 1, 0, 0, 0) := ⟨jq_m130, rfl, rfl, Or.inl rfl, ⟨List.mem_of_getElem? (i := 871) rfl, List.mem_of_getElem? (i := 872) rfl, by decide +kernel, rfl⟩⟩
set_option maxRecDepth 100000 in
theorem jq_l147 : jw_LF (8, 30, 46, 3, 3, 1, 0, 0, 0) := ⟨jq_m46, rfl, rfl, Or.inr rfl, ⟨List.mem_of_getElem? (i := 878) rfl, List.mem_of_getElem? (i := 510) rfl, by decide +kernel, rfl⟩⟩
set_option maxRecDepth 100000 in
theorem jq_l148 : jw_LF (0, 260, 105, 1, 2, 1, 0, 0, 1) := ⟨jq_m105, rfl, rfl, Or.inl rfl, ⟨⟨List.mem_of_getElem? (i := 887) rfl, List.mem_of_getElem? (i := 771) rfl, List.mem_of_getElem? (i := 772) rfl⟩, by decide +kernel, 0, rfl, _, _, rfl⟩⟩
set_option maxRecDepth 100000 in
theorem jq_l149 : jw_LF (0, 263, 135, 1, 2, 1, 0, 0, 9) := ⟨jq_m135, rfl, rfl, Or.inl rfl, ⟨⟨List.mem_of_getElem? (i := 892) rfl, List.mem_of_getElem? (i := 893) rfl, List.mem_of_getElem? (i := 894) rfl⟩, by decide +kernel, 8, rfl, _, _, rfl⟩⟩
set_option maxRecDepth 100000 in
theorem jq_l150 : jw_LF (0, 274, 137, 1, 3, 0, 0, 0, 9) := ⟨jq_m137, rfl, rfl, rfl, ⟨⟨List.mem_of_getElem? (i := 900) rfl, List.mem_of_getElem? (i := 901) rfl, List.mem_of_getElem? (i := 902) rfl⟩, by decide +kernel, 8, rfl, _, _, rfl⟩⟩
set_option maxRecDepth 100000 in
theorem jq_l151 : jw_LF (4, 77, 127, 1, 2, 1, 0, 0, 1) := ⟨jq_m127, rfl, rfl, Or.inl rfl, ⟨⟨List.mem_of_getElem? (i := 896) rfl, List.mem_of_getElem? (i := 861) rfl, List.mem_of_getElem? (i := 862) rfl⟩, by decide +kernel, 0, rfl, _, _, rfl⟩⟩
set_option maxRecDepth 100000 in
theorem jq_l152 : jw_LF (4, 84, 136, 0, 2, 1, 0, 0, 0) := ⟨jq_m136, rfl, rfl, Or.inl rfl, ⟨List.mem_of_getElem? (i := 897) rfl, List.mem_of_getElem? (i := 898) rfl, by decide +kernel, rfl⟩⟩
set_option maxRecDepth 100000 in
theorem jq_l153 : jw_LF (4, 91, 138, 1, 4, 0, 0, 0, 8) := ⟨jq_m138, rfl, rfl, rfl, ⟨⟨List.mem_of_getElem? (i := 904) rfl, List.mem_of_getElem? (i := 905) rfl, List.mem_of_getElem? (i := 906) rfl⟩, by decide +kernel, 7, rfl, _, _, rfl⟩⟩
set_option maxRecDepth 100000 in
theorem jq_l154 : jw_LF (5, 36, 139, 1, 5, 1, 0, 0, 8) := ⟨jq_m139, rfl, rfl, Or.inr rfl, ⟨⟨List.mem_of_getElem? (i := 908) rfl, List.mem_of_getElem? (i := 910) rfl, List.mem_of_getElem? (i := 22) rfl⟩, by decide +kernel, 7, rfl, _, _, rfl⟩⟩
set_option maxRecDepth 100000 in
theorem jq_l155 : jw_LF (5, 32, 140, 1, 4, 0, 0, 0, 8) := ⟨jq_m140, rfl, rfl, rfl, ⟨⟨List.mem_of_getElem? (i := 913) rfl, List.mem_of_getElem? (i := 915) rfl, List.mem_of_getElem? (i := 23) rfl⟩, by decide +kernel, 7, rfl, _, _, rfl⟩⟩
set_option maxRecDepth 100000 in
theorem jq_l156 : jw_LF (5, 40, 129, 0, 2, 1, 0, 0, 0) := ⟨jq_m129, rfl, rfl, Or.inl rfl, ⟨List.mem_of_getElem? (i := 912) rfl, List.mem_of_getElem? (i := 869) rfl, by decide +kernel, rfl⟩⟩
set_option maxRecDepth 100000 in
theorem jq_l157 : jw_LF (0, 278, 142, 1, 2, 1, 0, 0, 8) := ⟨jq_m142, rfl, rfl, Or.inl rfl, ⟨⟨List.mem_of_getElem? (i := 921) rfl, List.mem_of_getElem? (i := 922) rfl, List.mem_of_getElem? (i := 923) rfl⟩, by decide +kernel, 7, rfl, _, _, rfl⟩⟩
set_option maxRecDepth 100000 in
theorem jq_l158 : jw_LF (0, 290, 145, 1, 2, 1, 0, 0, 9) := ⟨jq_m145, rfl, rfl, Or.inl rfl, ⟨⟨List.mem_of_getElem? (i := 936) rfl, List.mem_of_getElem? (i := 937) rfl, List.mem_of_getElem? (i := 938) rfl⟩, by decide +kernel, 8, rfl, _, _, rfl⟩⟩
set_option maxRecDepth 100000 in
theorem jq_l159 : jw_LF (0, 293, 147, 1, 2, 1, 0, 0, 9) := ⟨jq_m147, rfl, rfl, Or.inl rfl, ⟨⟨List.mem_of_getElem? (i := 944) rfl, List.mem_of_getElem? (i := 945) rfl, List.mem_of_getElem? (i := 946) rfl⟩, by decide +kernel, 8, rfl, _, _, rfl⟩⟩
set_option maxRecDepth 100000 in
theorem jq_l160 : jw_LF (0, 296, 149, 1, 3, 2, 0, 0, 9) := ⟨jq_m149, rfl, rfl, rfl, ⟨⟨List.mem_of_getElem? (i := 954) rfl, List.mem_of_getElem? (i := 955) rfl, List.mem_of_getElem? (i := 956) rfl⟩, by decide +kernel, 8, rfl, _, _, rfl⟩⟩
set_option maxRecDepth 100000 in
theorem jq_l161 : jw_LF (4, 99, 148, 1, 3, 2, 0, 0, 9) := ⟨jq_m148, rfl, rfl, rfl, ⟨⟨List.mem_of_getElem? (i := 949) rfl, List.mem_of_getElem? (i := 951) rfl, List.mem_of_getElem? (i := 24) rfl⟩, by decide +kernel, 8, rfl, _, _, rfl⟩⟩
set_option maxRecDepth 100000 in
theorem jq_l162 : jw_LF (4, 103, 129, 0, 2, 1, 0, 0, 0) := ⟨jq_m129, rfl, rfl, Or.inl rfl, ⟨List.mem_of_getElem? (i := 953) rfl, List.mem_of_getElem? (i := 869) rfl, by decide +kernel, rfl⟩⟩
set_option maxRecDepth 100000 in
theorem jq_l163 : jw_LF (0, 300, 151, 1, 2, 3, 0, 0, 10) := ⟨jq_m151, rfl, rfl, rfl, ⟨⟨List.mem_of_getElem? (i := 962) rfl, List.mem_of_getElem? (i := 964) rfl, List.mem_of_getElem? (i := 25) rfl⟩, by decide +kernel, 9, rfl, _, _, rfl⟩⟩
set_option maxRecDepth 100000 in
theorem jq_l164 : jw_LF (0, 304, 152, 1, 4, 0, 0, 0, 3) := ⟨jq_m152, rfl, rfl, rfl, ⟨⟨List.mem_of_getElem? (i := 966) rfl, List.mem_of_getElem? (i := 967) rfl, List.mem_of_getElem? (i := 968) rfl⟩, by decide +kernel, 2, rfl, _, _, rfl⟩⟩
set_option maxRecDepth 100000 in
theorem jq_l165 : jw_LF (0, 314, 155, 1, 2, 1, 0, 0, 3) := ⟨jq_m155, rfl, rfl, Or.inr rfl, ⟨⟨List.mem_of_getElem? (i := 978) rfl, List.mem_of_getElem? (i := 979) rfl, List.mem_of_getElem? (i := 980) rfl⟩, by decide +kernel, 2, rfl, _, _, rfl⟩⟩
set_option maxRecDepth 100000 in
theorem jq_l166 : jw_LF (0, 317, 156, 1, 2, 1, 0, 0, 3) := ⟨jq_m156, rfl, rfl, Or.inl rfl, ⟨⟨List.mem_of_getElem? (i := 982) rfl, List.mem_of_getElem? (i := 983) rfl, List.mem_of_getElem? (i := 984) rfl⟩, by decide +kernel, 2, rfl, _, _, rfl⟩⟩
set_option maxRecDepth 100000 in
theorem jq_l167 : jw_LF (9, 44, 28, 0, 1, 1, 0, 0, 0) := ⟨jq_m28, rfl, rfl, Or.inl rfl, ⟨List.mem_of_getElem? (i := 986) rfl, List.mem_of_getElem? (i := 439) rfl, by decide +kernel, rfl⟩⟩
set_option maxRecDepth 100000 in
theorem jq_l168 : jw_LF (9, 48, 27, 0, 1, 1, 0, 0, 0) := ⟨jq_m27, rfl, rfl, Or.inl rfl, ⟨List.mem_of_getElem? (i := 987) rfl, List.mem_of_getElem? (i := 435) rfl, by decide +kernel, rfl⟩⟩
set_option maxRecDepth 100000 in
theorem jq_l169 : jw_LF (0, 320, 158, 1, 2, 0, 0, 0, 3) := ⟨jq_m158, rfl, rfl, rfl, ⟨⟨List.mem_of_getElem? (i := 992) rfl, List.mem_of_getElem? (i := 993) rfl, List.mem_of_getElem? (i := 994) rfl⟩, by decide +kernel, 2, rfl, _, _, rfl⟩⟩
set_option maxRecDepth 100000 in
theorem jq_l170 : jw_LF (0, 323, 160, 1, 1, 1, 0, 0, 3) := ⟨jq_m160, rfl, rfl, Or.inl rfl, ⟨⟨List.mem_of_getElem? (i := 1004) rfl, List.mem_of_getElem? (i := 1005) rfl, List.mem_of_getElem? (i := 1006) rfl⟩, by decide +kernel, 2, rfl, _, _, rfl⟩⟩
set_option maxRecDepth 100000 in
theorem jq_l171 : jw_LF (0, 329, 163, 1, 3, 1, 0, 0, 3) := ⟨jq_m163, rfl, rfl, Or.inr rfl, ⟨⟨List.mem_of_getElem? (i := 1016) rfl, List.mem_of_getElem? (i := 1017) rfl, List.mem_of_getElem? (i := 1018) rfl⟩, by decide +kernel, 2, rfl, _, _, rfl⟩⟩
set_option maxRecDepth 100000 in
theorem jq_l172 : jw_LF (0, 338, 165, 1, 2, 1, 0, 0, 3) := ⟨jq_m165, rfl, rfl, Or.inl rfl, ⟨⟨List.mem_of_getElem? (i := 1027) rfl, List.mem_of_getElem? (i := 1028) rfl, List.mem_of_getElem? (i := 1029) rfl⟩, by decide +kernel, 2, rfl, _, _, rfl⟩⟩
set_option maxRecDepth 100000 in
theorem jq_l173 : jw_LF (0, 341, 167, 1, 2, 0, 0, 0, 9) := ⟨jq_m167, rfl, rfl, rfl, ⟨⟨List.mem_of_getElem? (i := 1035) rfl, List.mem_of_getElem? (i := 1036) rfl, List.mem_of_getElem? (i := 1037) rfl⟩, by decide +kernel, 8, rfl, _, _, rfl⟩⟩
set_option maxRecDepth 100000 in
theorem jq_l174 : jw_LF (4, 49, 73, 1, 2, 0, 0, 0, 6) := ⟨jq_m73, rfl, rfl, rfl, ⟨⟨List.mem_of_getElem? (i := 1039) rfl, List.mem_of_getElem? (i := 631) rfl, List.mem_of_getElem? (i := 632) rfl⟩, by decide +kernel, 5, rfl, _, _, rfl⟩⟩
set_option maxRecDepth 100000 in
theorem jq_l175 : jw_LF (4, 53, 168, 1, 2, 0, 0, 0, 4) := ⟨jq_m168, rfl, rfl, rfl, ⟨⟨List.mem_of_getElem? (i := 1040) rfl, List.mem_of_getElem? (i := 1041) rfl, List.mem_of_getElem? (i := 1042) rfl⟩, by decide +kernel, 3, rfl, _, _, rfl⟩⟩
set_option maxRecDepth 100000 in
theorem jq_l176 : jw_LF (4, 56, 169, 1, 2, 0, 0, 0, 1) := ⟨jq_m169, rfl, rfl, rfl, ⟨⟨List.mem_of_getElem? (i := 1044) rfl, List.mem_of_getElem? (i := 1045) rfl, List.mem_of_getElem? (i := 1046) rfl⟩, by decide +kernel, 0, rfl, _, _, rfl⟩⟩
set_option maxRecDepth 100000 in
theorem jq_l177 : jw_LF (4, 59, 170, 1, 2, 0, 0, 0, 8) := ⟨jq_m170, rfl, rfl, rfl, ⟨⟨List.mem_of_getElem? (i := 1048) rfl, List.mem_of_getElem? (i := 1049) rfl, List.mem_of_getElem? (i := 1050) rfl⟩, by decide +kernel, 7, rfl, _, _, rfl⟩⟩
set_option maxRecDepth 100000 in
theorem jq_l178 : jw_LF (12, 185, 175, 0, 3, 1, 0, 0, 0) := ⟨jq_m175, rfl, rfl, Or.inr rfl, ⟨List.mem_of_getElem? (i := 1294) rfl, List.mem_of_getElem? (i := 1295) rfl, by decide +kernel, rfl⟩⟩
set_option maxRecDepth 100000 in
theorem jq_l179 : jw_LF (12, 252, 178, 1, 3, 0, 0, 0, 11) := ⟨jq_m178, rfl, rfl, rfl, ⟨⟨List.mem_of_getElem? (i := 1305) rfl, List.mem_of_getElem? (i := 1307) rfl, List.mem_of_getElem? (i := 26) rfl⟩, by decide +kernel, 10, rfl, _, _, rfl⟩⟩
set_option maxRecDepth 100000 in
theorem jq_l180 : jw_LF (12, 224, 179, 1, 2, 1, 0, 0, 11) := ⟨jq_m179, rfl, rfl, Or.inl rfl, ⟨⟨List.mem_of_getElem? (i := 1309) rfl, List.mem_of_getElem? (i := 1311) rfl, List.mem_of_getElem? (i := 27) rfl⟩, by decide +kernel, 10, rfl, _, _, rfl⟩⟩
set_option maxRecDepth 100000 in
theorem jq_l181 : jw_LF (12, 256, 184, 1, 2, 1, 0, 0, 11) := ⟨jq_m184, rfl, rfl, Or.inr rfl, ⟨⟨List.mem_of_getElem? (i := 1332) rfl, List.mem_of_getElem? (i := 1334) rfl, List.mem_of_getElem? (i := 32) rfl⟩, by decide +kernel, 10, rfl, _, _, rfl⟩⟩
set_option maxRecDepth 100000 in
theorem jq_l182 : jw_LF (12, 248, 180, 1, 4, 0, 0, 0, 11) := ⟨jq_m180, rfl, rfl, rfl, ⟨⟨List.mem_of_getElem? (i := 1313) rfl, List.mem_of_getElem? (i := 1315) rfl, List.mem_of_getElem? (i := 28) rfl⟩, by decide +kernel, 10, rfl, _, _, rfl⟩⟩
set_option maxRecDepth 100000 in
theorem jq_l183 : jw_LF (12, 245, 181, 1, 2, 1, 0, 0, 11) := ⟨jq_m181, rfl, rfl, Or.inl rfl, ⟨⟨List.mem_of_getElem? (i := 1317) rfl, List.mem_of_getElem? (i := 1319) rfl, List.mem_of_getElem? (i := 29) rfl⟩, by decide +kernel, 10, rfl, _, _, rfl⟩⟩
set_option maxRecDepth 100000 in
theorem jq_l184 : jw_LF (12, 241, 183, 1, 2, 1, 0, 0, 11) := ⟨jq_m183, rfl, rfl, Or.inr rfl, ⟨⟨List.mem_of_getElem? (i := 1327) rfl, List.mem_of_getElem? (i := 1329) rfl, List.mem_of_getElem? (i := 31) rfl⟩, by decide +kernel, 10, rfl, _, _, rfl⟩⟩
set_option maxRecDepth 100000 in
theorem jq_l185 : jw_LF (12, 237, 182, 1, 1, 1, 0, 0, 11) := ⟨jq_m182, rfl, rfl, Or.inl rfl, ⟨⟨List.mem_of_getElem? (i := 1323) rfl, List.mem_of_getElem? (i := 1325) rfl, List.mem_of_getElem? (i := 30) rfl⟩, by decide +kernel, 10, rfl, _, _, rfl⟩⟩
set_option maxRecDepth 100000 in
theorem jq_l186 : jw_LF (12, 270, 186, 1, 3, 0, 0, 0, 11) := ⟨jq_m186, rfl, rfl, rfl, ⟨⟨List.mem_of_getElem? (i := 1340) rfl, List.mem_of_getElem? (i := 1342) rfl, List.mem_of_getElem? (i := 33) rfl⟩, by decide +kernel, 10, rfl, _, _, rfl⟩⟩
set_option maxRecDepth 100000 in
theorem jq_l187 : jw_LF (12, 273, 192, 1, 3, 0, 0, 0, 11) := ⟨jq_m192, rfl, rfl, rfl, ⟨⟨List.mem_of_getElem? (i := 1365) rfl, List.mem_of_getElem? (i := 1367) rfl, List.mem_of_getElem? (i := 37) rfl⟩, by decide +kernel, 10, rfl, _, _, rfl⟩⟩
set_option maxRecDepth 100000 in
theorem jq_l188 : jw_LF (12, 259, 187, 0, 1, 1, 0, 0, 0) := ⟨jq_m187, rfl, rfl, Or.inl rfl, ⟨List.mem_of_getElem? (i := 1344) rfl, List.mem_of_getElem? (i := 1345) rfl, by decide +kernel, rfl⟩⟩
set_option maxRecDepth 100000 in
theorem jq_l189 : jw_LF (12, 262, 188, 1, 2, 0, 0, 0, 11) := ⟨jq_m188, rfl, rfl, rfl, ⟨⟨List.mem_of_getElem? (i := 1347) rfl, List.mem_of_getElem? (i := 1349) rfl, List.mem_of_getElem? (i := 34) rfl⟩, by decide +kernel, 10, rfl, _, _, rfl⟩⟩
set_option maxRecDepth 100000 in
theorem jq_l190 : jw_LF (12, 266, 191, 1, 6, 0, 0, 0, 11) := ⟨jq_m191, rfl, rfl, rfl, ⟨⟨List.mem_of_getElem? (i := 1361) rfl, List.mem_of_getElem? (i := 1363) rfl, List.mem_of_getElem? (i := 36) rfl⟩, by decide +kernel, 10, rfl, _, _, rfl⟩⟩
set_option maxRecDepth 100000 in
theorem jq_l191 : jw_LF (12, 215, 189, 1, 3, 0, 0, 0, 11) := ⟨jq_m189, rfl, rfl, rfl, ⟨⟨List.mem_of_getElem? (i := 1351) rfl, List.mem_of_getElem? (i := 1353) rfl, List.mem_of_getElem? (i := 35) rfl⟩, by decide +kernel, 10, rfl, _, _, rfl⟩⟩
set_option maxRecDepth 100000 in
theorem jq_l192 : jw_LF (12, 196, 190, 0, 2, 2, 0, 0, 0) := ⟨jq_m190, rfl, rfl, rfl, ⟨List.mem_of_getElem? (i := 1356) rfl, List.mem_of_getElem? (i := 1357) rfl, by decide +kernel, rfl⟩⟩
set_option maxRecDepth 100000 in
theorem jq_l193 : jw_LF (12, 276, 194, 1, 2, 1, 0, 0, 11) := ⟨jq_m194, rfl, rfl, Or.inr rfl, ⟨⟨List.mem_of_getElem? (i := 1373) rfl, List.mem_of_getElem? (i := 1375) rfl, List.mem_of_getElem? (i := 38) rfl⟩, by decide +kernel, 10, rfl, _, _, rfl⟩⟩
set_option maxRecDepth 100000 in
theorem jq_l194 : jw_LF (12, 281, 195, 1, 2, 1, 0, 0, 11) := ⟨jq_m195, rfl, rfl, Or.inl rfl, ⟨⟨List.mem_of_getElem? (i := 1378) rfl, List.mem_of_getElem? (i := 1380) rfl, List.mem_of_getElem? (i := 39) rfl⟩, by decide +kernel, 10, rfl, _, _, rfl⟩⟩
set_option maxRecDepth 100000 in
theorem jq_l195 : jw_LF (12, 284, 196, 1, 2, 1, 0, 0, 11) := ⟨jq_m196, rfl, rfl, Or.inl rfl, ⟨⟨List.mem_of_getElem? (i := 1382) rfl, List.mem_of_getElem? (i := 1384) rfl, List.mem_of_getElem? (i := 40) rfl⟩, by decide +kernel, 10, rfl, _, _, rfl⟩⟩
set_option maxRecDepth 100000 in
theorem jq_l196 : jw_LF (12, 298, 199, 1, 4, 0, 0, 0, 11) := ⟨jq_m199, rfl, rfl, rfl, ⟨⟨List.mem_of_getElem? (i := 1396) rfl, List.mem_of_getElem? (i := 1398) rfl, List.mem_of_getElem? (i := 41) rfl⟩, by decide +kernel, 10, rfl, _, _, rfl⟩⟩
set_option maxRecDepth 100000 in
theorem jq_l197 : jw_LF (12, 291, 200, 1, 5, 0, 0, 0, 11) := ⟨jq_m200, rfl, rfl, rfl, ⟨⟨List.mem_of_getElem? (i := 1400) rfl, List.mem_of_getElem? (i := 1402) rfl, List.mem_of_getElem? (i := 42) rfl⟩, by decide +kernel, 10, rfl, _, _, rfl⟩⟩
set_option maxRecDepth 100000 in
theorem jq_l198 : jw_LF (12, 295, 201, 1, 5, 0, 0, 0, 11) := ⟨jq_m201, rfl, rfl, rfl, ⟨⟨List.mem_of_getElem? (i := 1404) rfl, List.mem_of_getElem? (i := 1406) rfl, List.mem_of_getElem? (i := 43) rfl⟩, by decide +kernel, 10, rfl, _, _, rfl⟩⟩
set_option maxRecDepth 100000 in
theorem jq_l199 : jw_LF (12, 304, 203, 1, 2, 0, 0, 0, 11) := ⟨jq_m203, rfl, rfl, rfl, ⟨⟨List.mem_of_getElem? (i := 1412) rfl, List.mem_of_getElem? (i := 1414) rfl, List.mem_of_getElem? (i := 44) rfl⟩, by decide +kernel, 10, rfl, _, _, rfl⟩⟩
set_option maxRecDepth 100000 in
theorem jq_l200 : jw_LF (12, 307, 204, 0, 2, 1, 0, 0, 0) := ⟨jq_m204, rfl, rfl, Or.inl rfl, ⟨List.mem_of_getElem? (i := 1416) rfl, List.mem_of_getElem? (i := 1417) rfl, by decide +kernel, rfl⟩⟩
set_option maxRecDepth 100000 in
theorem jq_l201 : jw_LF (12, 311, 205, 1, 1, 0, 0, 0, 11) := ⟨jq_m205, rfl, rfl, rfl, ⟨⟨List.mem_of_getElem? (i := 1419) rfl, List.mem_of_getElem? (i := 1421) rfl, List.mem_of_getElem? (i := 45) rfl⟩, by decide +kernel, 10, rfl, _, _, rfl⟩⟩
set_option maxRecDepth 100000 in
theorem jq_l202 : jw_LF (12, 314, 206, 1, 5, 0, 0, 0, 11) := ⟨jq_m206, rfl, rfl, rfl, ⟨⟨List.mem_of_getElem? (i := 1423) rfl, List.mem_of_getElem? (i := 1425) rfl, List.mem_of_getElem? (i := 46) rfl⟩, by decide +kernel, 10, rfl, _, _, rfl⟩⟩
set_option maxRecDepth 100000 in
theorem jq_l203 : jw_LF (12, 317, 207, 1, 4, 0, 0, 0, 11) := ⟨jq_m207, rfl, rfl, rfl, ⟨⟨List.mem_of_getElem? (i := 1427) rfl, List.mem_of_getElem? (i := 1429) rfl, List.mem_of_getElem? (i := 47) rfl⟩, by decide +kernel, 10, rfl, _, _, rfl⟩⟩
set_option maxRecDepth 100000 in
theorem jq_l204 : jw_LF (12, 301, 208, 1, 5, 0, 0, 0, 11) := ⟨jq_m208, rfl, rfl, rfl, ⟨⟨List.mem_of_getElem? (i := 1431) rfl, List.mem_of_getElem? (i := 1433) rfl, List.mem_of_getElem? (i := 48) rfl⟩, by decide +kernel, 10, rfl, _, _, rfl⟩⟩
set_option maxRecDepth 100000 in
theorem jq_l205 : jw_LF (12, 321, 210, 1, 1, 1, 0, 0, 11) := ⟨jq_m210, rfl, rfl, Or.inl rfl, ⟨⟨List.mem_of_getElem? (i := 1439) rfl, List.mem_of_getElem? (i := 1441) rfl, List.mem_of_getElem? (i := 49) rfl⟩, by decide +kernel, 10, rfl, _, _, rfl⟩⟩
set_option maxRecDepth 100000 in
theorem jq_l206 : jw_LF (12, 324, 212, 0, 2, 1, 0, 0, 0) := ⟨jq_m212, rfl, rfl, Or.inr rfl, ⟨List.mem_of_getElem? (i := 1447) rfl, List.mem_of_getElem? (i := 1448) rfl, by decide +kernel, rfl⟩⟩
set_option maxRecDepth 100000 in
theorem jq_l207 : jw_LF (12, 328, 214, 1, 5, 0, 0, 0, 11) := ⟨jq_m214, rfl, rfl, rfl, ⟨⟨List.mem_of_getElem? (i := 1455) rfl, List.mem_of_getElem? (i := 1457) rfl, List.mem_of_getElem? (i := 50) rfl⟩, by decide +kernel, 10, rfl, _, _, rfl⟩⟩
set_option maxRecDepth 100000 in
theorem jq_l208 : jw_LF (12, 332, 216, 1, 2, 1, 0, 0, 11) := ⟨jq_m216, rfl, rfl, Or.inr rfl, ⟨⟨List.mem_of_getElem? (i := 1463) rfl, List.mem_of_getElem? (i := 1465) rfl, List.mem_of_getElem? (i := 51) rfl⟩, by decide +kernel, 10, rfl, _, _, rfl⟩⟩
set_option maxRecDepth 100000 in
theorem jq_l209 : jw_LF (12, 335, 219, 1, 3, 1, 0, 0, 11) := ⟨jq_m219, rfl, rfl, Or.inr rfl, ⟨⟨List.mem_of_getElem? (i := 1475) rfl, List.mem_of_getElem? (i := 1477) rfl, List.mem_of_getElem? (i := 52) rfl⟩, by decide +kernel, 10, rfl, _, _, rfl⟩⟩
set_option maxRecDepth 100000 in
theorem jq_l210 : jw_LF (12, 346, 222, 1, 2, 0, 0, 0, 11) := ⟨jq_m222, rfl, rfl, rfl, ⟨⟨List.mem_of_getElem? (i := 1487) rfl, List.mem_of_getElem? (i := 1489) rfl, List.mem_of_getElem? (i := 53) rfl⟩, by decide +kernel, 10, rfl, _, _, rfl⟩⟩
set_option maxRecDepth 100000 in
theorem jq_l211 : jw_LF (12, 338, 223, 1, 8, 0, 0, 0, 11) := ⟨jq_m223, rfl, rfl, rfl, ⟨⟨List.mem_of_getElem? (i := 1491) rfl, List.mem_of_getElem? (i := 1493) rfl, List.mem_of_getElem? (i := 54) rfl⟩, by decide +kernel, 10, rfl, _, _, rfl⟩⟩
set_option maxRecDepth 100000 in
theorem jq_l212 : jw_LF (12, 342, 224, 1, 6, 0, 0, 0, 11) := ⟨jq_m224, rfl, rfl, rfl, ⟨⟨List.mem_of_getElem? (i := 1495) rfl, List.mem_of_getElem? (i := 1497) rfl, List.mem_of_getElem? (i := 55) rfl⟩, by decide +kernel, 10, rfl, _, _, rfl⟩⟩
set_option maxRecDepth 100000 in
theorem jq_l213 : jw_LF (12, 351, 227, 1, 3, 1, 0, 0, 11) := ⟨jq_m227, rfl, rfl, Or.inl rfl, ⟨⟨List.mem_of_getElem? (i := 1508) rfl, List.mem_of_getElem? (i := 1510) rfl, List.mem_of_getElem? (i := 56) rfl⟩, by decide +kernel, 10, rfl, _, _, rfl⟩⟩
set_option maxRecDepth 100000 in
theorem jq_l214 : jw_LF (12, 355, 229, 1, 2, 1, 0, 0, 11) := ⟨jq_m229, rfl, rfl, Or.inl rfl, ⟨⟨List.mem_of_getElem? (i := 1516) rfl, List.mem_of_getElem? (i := 1518) rfl, List.mem_of_getElem? (i := 57) rfl⟩, by decide +kernel, 10, rfl, _, _, rfl⟩⟩
set_option maxRecDepth 100000 in
theorem jq_l215 : jw_LF (12, 358, 233, 1, 4, 1, 0, 0, 11) := ⟨jq_m233, rfl, rfl, Or.inl rfl, ⟨⟨List.mem_of_getElem? (i := 1532) rfl, List.mem_of_getElem? (i := 1534) rfl, List.mem_of_getElem? (i := 58) rfl⟩, by decide +kernel, 10, rfl, _, _, rfl⟩⟩
set_option maxRecDepth 100000 in
theorem jq_l216 : jw_LF (12, 397, 234, 1, 4, 2, 0, 0, 11) := ⟨jq_m234, rfl, rfl, rfl, ⟨⟨List.mem_of_getElem? (i := 1536) rfl, List.mem_of_getElem? (i := 1538) rfl, List.mem_of_getElem? (i := 59) rfl⟩, by decide +kernel, 10, rfl, _, _, rfl⟩⟩
set_option maxRecDepth 100000 in
theorem jq_l217 : jw_LF (12, 371, 237, 1, 2, 0, 0, 0, 11) := ⟨jq_m237, rfl, rfl, rfl, ⟨⟨List.mem_of_getElem? (i := 1548) rfl, List.mem_of_getElem? (i := 1550) rfl, List.mem_of_getElem? (i := 60) rfl⟩, by decide +kernel, 10, rfl, _, _, rfl⟩⟩
set_option maxRecDepth 100000 in
theorem jq_l218 : jw_LF (12, 374, 238, 1, 5, 0, 0, 0, 11) := ⟨jq_m238, rfl, rfl, rfl, ⟨⟨List.mem_of_getElem? (i := 1552) rfl, List.mem_of_getElem? (i := 1554) rfl, List.mem_of_getElem? (i := 61) rfl⟩, by decide +kernel, 10, rfl, _, _, rfl⟩⟩
set_option maxRecDepth 100000 in
theorem jq_l219 : jw_LF (12, 368, 239, 1, 1, 0, 0, 0, 11) := ⟨jq_m239, rfl, rfl, rfl, ⟨⟨List.mem_of_getElem? (i := 1556) rfl, List.mem_of_getElem? (i := 1558) rfl, List.mem_of_getElem? (i := 62) rfl⟩, by decide +kernel, 10, rfl, _, _, rfl⟩⟩
set_option maxRecDepth 100000 in
theorem jq_l220 : jw_LF (12, 378, 241, 1, 2, 1, 0, 0, 11) := ⟨jq_m241, rfl, rfl, Or.inr rfl, ⟨⟨List.mem_of_getElem? (i := 1564) rfl, List.mem_of_getElem? (i := 1566) rfl, List.mem_of_getElem? (i := 63) rfl⟩, by decide +kernel, 10, rfl, _, _, rfl⟩⟩
set_option maxRecDepth 100000 in
theorem jq_l221 : jw_LF (12, 381, 242, 1, 4, 0, 0, 0, 11) := ⟨jq_m242, rfl, rfl, rfl, ⟨⟨List.mem_of_getElem? (i := 1568) rfl, List.mem_of_getElem? (i := 1570) rfl, List.mem_of_getElem? (i := 64) rfl⟩, by decide +kernel, 10, rfl, _, _, rfl⟩⟩
set_option maxRecDepth 100000 in
theorem jq_l222 : jw_LF (12, 387, 245, 1, 4, 1, 0, 0, 11) := ⟨jq_m245, rfl, rfl, Or.inl rfl, ⟨⟨List.mem_of_getElem? (i := 1581) rfl, List.mem_of_getElem? (i := 1583) rfl, List.mem_of_getElem? (i := 65) rfl⟩, by decide +kernel, 10, rfl, _, _, rfl⟩⟩
set_option maxRecDepth 100000 in
theorem jq_l223 : jw_LF (12, 390, 246, 0, 4, 1, 0, 0, 0) := ⟨jq_m246, rfl, rfl, Or.inl rfl, ⟨List.mem_of_getElem? (i := 1585) rfl, List.mem_of_getElem? (i := 1586) rfl, by decide +kernel, rfl⟩⟩
set_option maxRecDepth 100000 in
theorem jq_l224 : jw_LF (12, 394, 247, 1, 3, 0, 0, 0, 11) := ⟨jq_m247, rfl, rfl, rfl, ⟨⟨List.mem_of_getElem? (i := 1588) rfl, List.mem_of_getElem? (i := 1590) rfl, List.mem_of_getElem? (i := 66) rfl⟩, by decide +kernel, 10, rfl, _, _, rfl⟩⟩
set_option maxRecDepth 100000 in
theorem jq_l225 : jw_LF (12, 416, 251, 1, 2, 1, 0, 0, 11) := ⟨jq_m251, rfl, rfl, Or.inl rfl, ⟨⟨List.mem_of_getElem? (i := 1605) rfl, List.mem_of_getElem? (i := 1607) rfl, List.mem_of_getElem? (i := 67) rfl⟩, by decide +kernel, 10, rfl, _, _, rfl⟩⟩
set_option maxRecDepth 100000 in
theorem jq_l226 : jw_LF (12, 422, 252, 1, 5, 0, 0, 0, 11) := ⟨jq_m252, rfl, rfl, rfl, ⟨⟨List.mem_of_getElem? (i := 1609) rfl, List.mem_of_getElem? (i := 1611) rfl, List.mem_of_getElem? (i := 68) rfl⟩, by decide +kernel, 10, rfl, _, _, rfl⟩⟩
set_option maxRecDepth 100000 in
theorem jq_l227 : jw_LF (12, 404, 253, 1, 6, 1, 0, 0, 11) := ⟨jq_m253, rfl, rfl, Or.inr rfl, ⟨⟨List.mem_of_getElem? (i := 1613) rfl, List.mem_of_getElem? (i := 1615) rfl, List.mem_of_getElem? (i := 69) rfl⟩, by decide +kernel, 10, rfl, _, _, rfl⟩⟩
set_option maxRecDepth 100000 in
theorem jq_l228 : jw_LF (12, 408, 254, 1, 3, 0, 0, 0, 11) := ⟨jq_m254, rfl, rfl, rfl, ⟨⟨List.mem_of_getElem? (i := 1617) rfl, List.mem_of_getElem? (i := 1619) rfl, List.mem_of_getElem? (i := 70) rfl⟩, by decide +kernel, 10, rfl, _, _, rfl⟩⟩
set_option maxRecDepth 100000 in
theorem jq_l229 : jw_LF (12, 428, 259, 1, 2, 1, 0, 0, 11) := ⟨jq_m259, rfl, rfl, Or.inl rfl, ⟨⟨List.mem_of_getElem? (i := 1638) rfl, List.mem_of_getElem? (i := 1640) rfl, List.mem_of_getElem? (i := 71) rfl⟩, by decide +kernel, 10, rfl, _, _, rfl⟩⟩
set_option maxRecDepth 100000 in
theorem jq_l230 : jw_LF (12, 433, 261, 0, 1, 1, 0, 0, 0) := ⟨jq_m261, rfl, rfl, Or.inr rfl, ⟨List.mem_of_getElem? (i := 1646) rfl, List.mem_of_getElem? (i := 1647) rfl, by decide +kernel, rfl⟩⟩
set_option maxRecDepth 100000 in
theorem jq_l231 : jw_LF (12, 436, 266, 1, 2, 1, 0, 0, 11) := ⟨jq_m266, rfl, rfl, Or.inl rfl, ⟨⟨List.mem_of_getElem? (i := 1666) rfl, List.mem_of_getElem? (i := 1668) rfl, List.mem_of_getElem? (i := 72) rfl⟩, by decide +kernel, 10, rfl, _, _, rfl⟩⟩
set_option maxRecDepth 100000 in
theorem jq_l232 : jw_LF (12, 439, 271, 0, 2, 0, 0, 0, 0) := ⟨jq_m271, rfl, rfl, rfl, ⟨List.mem_of_getElem? (i := 1686) rfl, List.mem_of_getElem? (i := 1687) rfl, by decide +kernel, rfl⟩⟩
set_option maxRecDepth 100000 in
theorem jq_l233 : jw_LF (12, 443, 272, 0, 2, 0, 0, 0, 0) := ⟨jq_m272, rfl, rfl, rfl, ⟨List.mem_of_getElem? (i := 1689) rfl, List.mem_of_getElem? (i := 1690) rfl, by decide +kernel, rfl⟩⟩
set_option maxRecDepth 100000 in
theorem jq_l234 : jw_LF (13, 9, 0, 2, 1, 0, 170, 1735, 0) := ⟨jq_m0, rfl, rfl, rfl, ⟨⟨List.mem_of_getElem? (i := 91) rfl, List.mem_of_getElem? (i := 92) rfl, rfl⟩, by decide +kernel, rfl, rfl⟩⟩
set_option maxRecDepth 100000 in
theorem jq_l235 : jw_LF (13, 12, 173, 2, 1, 0, 55, 2336, 0) := ⟨jq_m173, rfl, rfl, rfl, ⟨⟨List.mem_of_getElem? (i := 1062) rfl, List.mem_of_getElem? (i := 1063) rfl, rfl⟩, by decide +kernel, rfl, rfl⟩⟩
set_option maxRecDepth 100000 in
theorem jq_l236 : jw_LF (13, 13, 11, 1, 3, 1, 0, 0, 10) := ⟨jq_m11, rfl, rfl, Or.inl rfl, ⟨⟨List.mem_of_getElem? (i := 366) rfl, List.mem_of_getElem? (i := 367) rfl, List.mem_of_getElem? (i := 368) rfl⟩, by decide +kernel, 9, rfl, _, _, rfl⟩⟩
set_option maxRecDepth 100000 in
theorem jq_l237 : jw_LF (13, 17, 174, 1, 3, 1, 0, 0, 11) := ⟨jq_m174, rfl, rfl, Or.inl rfl, ⟨⟨List.mem_of_getElem? (i := 1289) rfl, List.mem_of_getElem? (i := 1290) rfl, List.mem_of_getElem? (i := 1291) rfl⟩, by decide +kernel, 10, rfl, _, _, rfl⟩⟩
set_option maxRecDepth 100000 in
theorem jq_l238 : jw_LF (13, 18, 13, 1, 1, 1, 0, 0, 10) := ⟨jq_m13, rfl, rfl, Or.inl rfl, ⟨⟨List.mem_of_getElem? (i := 374) rfl, List.mem_of_getElem? (i := 375) rfl, List.mem_of_getElem? (i := 376) rfl⟩, by decide +kernel, 9, rfl, _, _, rfl⟩⟩
set_option maxRecDepth 100000 in
theorem jq_l239 : jw_LF (13, 22, 176, 1, 1, 1, 0, 0, 11) := ⟨jq_m176, rfl, rfl, Or.inl rfl, ⟨⟨List.mem_of_getElem? (i := 1297) rfl, List.mem_of_getElem? (i := 1298) rfl, List.mem_of_getElem? (i := 1299) rfl⟩, by decide +kernel, 10, rfl, _, _, rfl⟩⟩
set_option maxRecDepth 100000 in
theorem jq_l240 : jw_LF (13, 23, 15, 1, 1, 1, 0, 0, 10) := ⟨jq_m15, rfl, rfl, Or.inl rfl, ⟨⟨List.mem_of_getElem? (i := 382) rfl, List.mem_of_getElem? (i := 383) rfl, List.mem_of_getElem? (i := 384) rfl⟩, by decide +kernel, 9, rfl, _, _, rfl⟩⟩
set_option maxRecDepth 100000 in
theorem jq_l241 : jw_LF (13, 26, 177, 1, 1, 1, 0, 0, 11) := ⟨jq_m177, rfl, rfl, Or.inl rfl, ⟨⟨List.mem_of_getElem? (i := 1301) rfl, List.mem_of_getElem? (i := 1302) rfl, List.mem_of_getElem? (i := 1303) rfl⟩, by decide +kernel, 10, rfl, _, _, rfl⟩⟩
set_option maxRecDepth 100000 in
theorem jq_l242 : jw_LF (13, 27, 33, 1, 1, 1, 0, 0, 10) := ⟨jq_m33, rfl, rfl, Or.inl rfl, ⟨⟨List.mem_of_getElem? (i := 458) rfl, List.mem_of_getElem? (i := 459) rfl, List.mem_of_getElem? (i := 460) rfl⟩, by decide +kernel, 9, rfl, _, _, rfl⟩⟩
set_option maxRecDepth 100000 in
theorem jq_l243 : jw_LF (13, 30, 185, 1, 1, 1, 0, 0, 11) := ⟨jq_m185, rfl, rfl, Or.inl rfl, ⟨⟨List.mem_of_getElem? (i := 1336) rfl, List.mem_of_getElem? (i := 1337) rfl, List.mem_of_getElem? (i := 1338) rfl⟩, by decide +kernel, 10, rfl, _, _, rfl⟩⟩
set_option maxRecDepth 100000 in
theorem jq_l244 : jw_LF (13, 31, 44, 1, 3, 1, 0, 0, 10) := ⟨jq_m44, rfl, rfl, Or.inl rfl, ⟨⟨List.mem_of_getElem? (i := 501) rfl, List.mem_of_getElem? (i := 502) rfl, List.mem_of_getElem? (i := 503) rfl⟩, by decide +kernel, 9, rfl, _, _, rfl⟩⟩
set_option maxRecDepth 100000 in
theorem jq_l245 : jw_LF (13, 34, 193, 1, 3, 1, 0, 0, 11) := ⟨jq_m193, rfl, rfl, Or.inl rfl, ⟨⟨List.mem_of_getElem? (i := 1369) rfl, List.mem_of_getElem? (i := 1370) rfl, List.mem_of_getElem? (i := 1371) rfl⟩, by decide +kernel, 10, rfl, _, _, rfl⟩⟩
set_option maxRecDepth 100000 in
theorem jq_l246 : jw_LF (13, 35, 48, 1, 5, 2, 0, 0, 10) := ⟨jq_m48, rfl, rfl, rfl, ⟨⟨List.mem_of_getElem? (i := 517) rfl, List.mem_of_getElem? (i := 518) rfl, List.mem_of_getElem? (i := 519) rfl⟩, by decide +kernel, 9, rfl, _, _, rfl⟩⟩
set_option maxRecDepth 100000 in
theorem jq_l247 : jw_LF (13, 39, 197, 1, 5, 2, 0, 0, 11) := ⟨jq_m197, rfl, rfl, rfl, ⟨⟨List.mem_of_getElem? (i := 1386) rfl, List.mem_of_getElem? (i := 1387) rfl, List.mem_of_getElem? (i := 1388) rfl⟩, by decide +kernel, 10, rfl, _, _, rfl⟩⟩
set_option maxRecDepth 100000 in
theorem jq_l248 : jw_LF (13, 40, 52, 1, 3, 1, 0, 0, 10) := ⟨jq_m52, rfl, rfl, Or.inl rfl, ⟨⟨List.mem_of_getElem? (i := 536) rfl, List.mem_of_getElem? (i := 537) rfl, List.mem_of_getElem? (i := 538) rfl⟩, by decide +kernel, 9, rfl, _, _, rfl⟩⟩
set_option maxRecDepth 100000 in
theorem jq_l249 : jw_LF (13, 43, 198, 1, 3, 1, 0, 0, 11) := ⟨jq_m198, rfl, rfl, Or.inl rfl, ⟨⟨List.mem_of_getElem? (i := 1392) rfl, List.mem_of_getElem? (i := 1393) rfl, List.mem_of_getElem? (i := 1394) rfl⟩, by decide +kernel, 10, rfl, _, _, rfl⟩⟩
set_option maxRecDepth 100000 in
theorem jq_l250 : jw_LF (13, 44, 56, 1, 3, 1, 0, 0, 10) := ⟨jq_m56, rfl, rfl, Or.inl rfl, ⟨⟨List.mem_of_getElem? (i := 553) rfl, List.mem_of_getElem? (i := 554) rfl, List.mem_of_getElem? (i := 555) rfl⟩, by decide +kernel, 9, rfl, _, _, rfl⟩⟩
set_option maxRecDepth 100000 in
theorem jq_l251 : jw_LF (13, 47, 202, 1, 3, 1, 0, 0, 11) := ⟨jq_m202, rfl, rfl, Or.inl rfl, ⟨⟨List.mem_of_getElem? (i := 1408) rfl, List.mem_of_getElem? (i := 1409) rfl, List.mem_of_getElem? (i := 1410) rfl⟩, by decide +kernel, 10, rfl, _, _, rfl⟩⟩
set_option maxRecDepth 100000 in
theorem jq_l252 : jw_LF (13, 48, 69, 1, 2, 1, 0, 0, 10) := ⟨jq_m69, rfl, rfl, Or.inl rfl, ⟨⟨List.mem_of_getElem? (i := 613) rfl, List.mem_of_getElem? (i := 614) rfl, List.mem_of_getElem? (i := 615) rfl⟩, by decide +kernel, 9, rfl, _, _, rfl⟩⟩
set_option maxRecDepth 100000 in
theorem jq_l253 : jw_LF (13, 52, 209, 1, 2, 1, 0, 0, 11) := ⟨jq_m209, rfl, rfl, Or.inl rfl, ⟨⟨List.mem_of_getElem? (i := 1435) rfl, List.mem_of_getElem? (i := 1436) rfl, List.mem_of_getElem? (i := 1437) rfl⟩, by decide +kernel, 10, rfl, _, _, rfl⟩⟩
set_option maxRecDepth 100000 in
theorem jq_l254 : jw_LF (13, 53, 70, 1, 6, 1, 0, 0, 10) := ⟨jq_m70, rfl, rfl, Or.inl rfl, ⟨⟨List.mem_of_getElem? (i := 618) rfl, List.mem_of_getElem? (i := 619) rfl, List.mem_of_getElem? (i := 620) rfl⟩, by decide +kernel, 9, rfl, _, _, rfl⟩⟩
set_option maxRecDepth 100000 in
theorem jq_l255 : jw_LF (13, 57, 211, 1, 6, 1, 0, 0, 11) := ⟨jq_m211, rfl, rfl, Or.inl rfl, ⟨⟨List.mem_of_getElem? (i := 1443) rfl, List.mem_of_getElem? (i := 1444) rfl, List.mem_of_getElem? (i := 1445) rfl⟩, by decide +kernel, 10, rfl, _, _, rfl⟩⟩
set_option maxRecDepth 100000 in
theorem jq_l256 : jw_LF (13, 58, 76, 1, 4, 1, 0, 0, 10) := ⟨jq_m76, rfl, rfl, Or.inl rfl, ⟨⟨List.mem_of_getElem? (i := 644) rfl, List.mem_of_getElem? (i := 645) rfl, List.mem_of_getElem? (i := 646) rfl⟩, by decide +kernel, 9, rfl, _, _, rfl⟩⟩
set_option maxRecDepth 100000 in
theorem jq_l257 : jw_LF (13, 62, 213, 1, 4, 1, 0, 0, 11) := ⟨jq_m213, rfl, rfl, Or.inl rfl, ⟨⟨List.mem_of_getElem? (i := 1451) rfl, List.mem_of_getElem? (i := 1452) rfl, List.mem_of_getElem? (i := 1453) rfl⟩, by decide +kernel, 10, rfl, _, _, rfl⟩⟩
set_option maxRecDepth 100000 in
theorem jq_l258 : jw_LF (13, 63, 79, 1, 2, 1, 0, 0, 10) := ⟨jq_m79, rfl, rfl, Or.inl rfl, ⟨⟨List.mem_of_getElem? (i := 656) rfl, List.mem_of_getElem? (i := 657) rfl, List.mem_of_getElem? (i := 658) rfl⟩, by decide +kernel, 9, rfl, _, _, rfl⟩⟩
set_option maxRecDepth 100000 in
theorem jq_l259 : jw_LF (13, 66, 215, 1, 2, 1, 0, 0, 11) := ⟨jq_m215, rfl, rfl, Or.inl rfl, ⟨⟨List.mem_of_getElem? (i := 1459) rfl, List.mem_of_getElem? (i := 1460) rfl, List.mem_of_getElem? (i := 1461) rfl⟩, by decide +kernel, 10, rfl, _, _, rfl⟩⟩
set_option maxRecDepth 100000 in
theorem jq_l260 : jw_LF (13, 67, 81, 1, 2, 1, 0, 0, 10) := ⟨jq_m81, rfl, rfl, Or.inl rfl, ⟨⟨List.mem_of_getElem? (i := 664) rfl, List.mem_of_getElem? (i := 665) rfl, List.mem_of_getElem? (i := 666) rfl⟩, by decide +kernel, 9, rfl, _, _, rfl⟩⟩
set_option maxRecDepth 100000 in
theorem jq_l261 : jw_LF (13, 70, 217, 1, 2, 1, 0, 0, 11) := ⟨jq_m217, rfl, rfl, Or.inl rfl, ⟨⟨List.mem_of_getElem? (i := 1467) rfl, List.mem_of_getElem? (i := 1468) rfl, List.mem_of_getElem? (i := 1469) rfl⟩, by decide +kernel, 10, rfl, _, _, rfl⟩⟩
set_option maxRecDepth 100000 in
theorem jq_l262 : jw_LF (13, 71, 82, 1, 4, 1, 0, 0, 10) := ⟨jq_m82, rfl, rfl, Or.inl rfl, ⟨⟨List.mem_of_getElem? (i := 668) rfl, List.mem_of_getElem? (i := 669) rfl, List.mem_of_getElem? (i := 670) rfl⟩, by decide +kernel, 9, rfl, _, _, rfl⟩⟩
set_option maxRecDepth 100000 in
theorem jq_l263 : jw_LF (13, 74, 218, 1, 4, 1, 0, 0, 11) := ⟨jq_m218, rfl, rfl, Or.inl rfl, ⟨⟨List.mem_of_getElem? (i := 1471) rfl, List.mem_of_getElem? (i := 1472) rfl, List.mem_of_getElem? (i := 1473) rfl⟩, by decide +kernel, 10, rfl, _, _, rfl⟩⟩
set_option maxRecDepth 100000 in
theorem jq_l264 : jw_LF (13, 75, 84, 1, 4, 2, 0, 0, 10) := ⟨jq_m84, rfl, rfl, rfl, ⟨⟨List.mem_of_getElem? (i := 677) rfl, List.mem_of_getElem? (i := 678) rfl, List.mem_of_getElem? (i := 679) rfl⟩, by decide +kernel, 9, rfl, _, _, rfl⟩⟩
set_option maxRecDepth 100000 in
theorem jq_l265 : jw_LF (13, 79, 220, 1, 4, 2, 0, 0, 11) := ⟨jq_m220, rfl, rfl, rfl, ⟨⟨List.mem_of_getElem? (i := 1479) rfl, List.mem_of_getElem? (i := 1480) rfl, List.mem_of_getElem? (i := 1481) rfl⟩, by decide +kernel, 10, rfl, _, _, rfl⟩⟩
set_option maxRecDepth 100000 in
theorem jq_l266 : jw_LF (13, 80, 85, 1, 2, 1, 0, 0, 10) := ⟨jq_m85, rfl, rfl, Or.inl rfl, ⟨⟨List.mem_of_getElem? (i := 681) rfl, List.mem_of_getElem? (i := 682) rfl, List.mem_of_getElem? (i := 683) rfl⟩, by decide +kernel, 9, rfl, _, _, rfl⟩⟩
set_option maxRecDepth 100000 in
theorem jq_l267 : jw_LF (13, 83, 221, 1, 2, 1, 0, 0, 11) := ⟨jq_m221, rfl, rfl, Or.inl rfl, ⟨⟨List.mem_of_getElem? (i := 1483) rfl, List.mem_of_getElem? (i := 1484) rfl, List.mem_of_getElem? (i := 1485) rfl⟩, by decide +kernel, 10, rfl, _, _, rfl⟩⟩
set_option maxRecDepth 100000 in
theorem jq_l268 : jw_LF (13, 84, 89, 1, 5, 1, 0, 0, 10) := ⟨jq_m89, rfl, rfl, Or.inl rfl, ⟨⟨List.mem_of_getElem? (i := 699) rfl, List.mem_of_getElem? (i := 700) rfl, List.mem_of_getElem? (i := 701) rfl⟩, by decide +kernel, 9, rfl, _, _, rfl⟩⟩
set_option maxRecDepth 100000 in
theorem jq_l269 : jw_LF (13, 88, 225, 1, 5, 1, 0, 0, 11) := ⟨jq_m225, rfl, rfl, Or.inl rfl, ⟨⟨List.mem_of_getElem? (i := 1499) rfl, List.mem_of_getElem? (i := 1500) rfl, List.mem_of_getElem? (i := 1501) rfl⟩, by decide +kernel, 10, rfl, _, _, rfl⟩⟩
set_option maxRecDepth 100000 in
theorem jq_l270 : jw_LF (13, 89, 90, 1, 6, 1, 0, 0, 10) := ⟨jq_m90, rfl, rfl, Or.inl rfl, ⟨⟨List.mem_of_getElem? (i := 704) rfl, List.mem_of_getElem? (i := 705) rfl, List.mem_of_getElem? (i := 706) rfl⟩, by decide +kernel, 9, rfl, _, _, rfl⟩⟩
set_option maxRecDepth 100000 in
theorem jq_l271 : jw_LF (13, 92, 226, 1, 6, 1, 0, 0, 11) := ⟨jq_m226, rfl, rfl, Or.inl rfl, ⟨⟨List.mem_of_getElem? (i := 1504) rfl, List.mem_of_getElem? (i := 1505) rfl, List.mem_of_getElem? (i := 1506) rfl⟩, by decide +kernel, 10, rfl, _, _, rfl⟩⟩
set_option maxRecDepth 100000 in
theorem jq_l272 : jw_LF (13, 93, 94, 1, 6, 1, 0, 0, 10) := ⟨jq_m94, rfl, rfl, Or.inl rfl, ⟨⟨List.mem_of_getElem? (i := 724) rfl, List.mem_of_getElem? (i := 725) rfl, List.mem_of_getElem? (i := 726) rfl⟩, by decide +kernel, 9, rfl, _, _, rfl⟩⟩
set_option maxRecDepth 100000 in
theorem jq_l273 : jw_LF (13, 96, 228, 1, 6, 1, 0, 0, 11) := ⟨jq_m228, rfl, rfl, Or.inl rfl, ⟨⟨List.mem_of_getElem? (i := 1512) rfl, List.mem_of_getElem? (i := 1513) rfl, List.mem_of_getElem? (i := 1514) rfl⟩, by decide +kernel, 10, rfl, _, _, rfl⟩⟩
set_option maxRecDepth 100000 in
theorem jq_l274 : jw_LF (13, 97, 99, 1, 4, 1, 0, 0, 10) := ⟨jq_m99, rfl, rfl, Or.inl rfl, ⟨⟨List.mem_of_getElem? (i := 745) rfl, List.mem_of_getElem? (i := 746) rfl, List.mem_of_getElem? (i := 747) rfl⟩, by decide +kernel, 9, rfl, _, _, rfl⟩⟩
set_option maxRecDepth 100000 in
theorem jq_l275 : jw_LF (13, 100, 230, 1, 4, 1, 0, 0, 11) := ⟨jq_m230, rfl, rfl, Or.inl rfl, ⟨⟨List.mem_of_getElem? (i := 1520) rfl, List.mem_of_getElem? (i := 1521) rfl, List.mem_of_getElem? (i := 1522) rfl⟩, by decide +kernel, 10, rfl, _, _, rfl⟩⟩
set_option maxRecDepth 100000 in
theorem jq_l276 : jw_LF (13, 101, 101, 1, 2, 1, 0, 0, 10) := ⟨jq_m101, rfl, rfl, Or.inl rfl, ⟨⟨List.mem_of_getElem? (i := 754) rfl, List.mem_of_getElem? (i := 755) rfl, List.mem_of_getElem? (i := 756) rfl⟩, by decide +kernel, 9, rfl, _, _, rfl⟩⟩
set_option maxRecDepth 100000 in
theorem jq_l277 : jw_LF (13, 104, 231, 1, 2, 1, 0, 0, 11) := ⟨jq_m231, rfl, rfl, Or.inl rfl, ⟨⟨List.mem_of_getElem? (i := 1524) rfl, List.mem_of_getElem? (i := 1525) rfl, List.mem_of_getElem? (i := 1526) rfl⟩, by decide +kernel, 10, rfl, _, _, rfl⟩⟩
set_option maxRecDepth 100000 in
theorem jq_l278 : jw_LF (13, 105, 103, 1, 2, 1, 0, 0, 10) := ⟨jq_m103, rfl, rfl, Or.inl rfl, ⟨⟨List.mem_of_getElem? (i := 762) rfl, List.mem_of_getElem? (i := 763) rfl, List.mem_of_getElem? (i := 764) rfl⟩, by decide +kernel, 9, rfl, _, _, rfl⟩⟩
set_option maxRecDepth 100000 in
theorem jq_l279 : jw_LF (13, 108, 232, 1, 2, 1, 0, 0, 11) := ⟨jq_m232, rfl, rfl, Or.inl rfl, ⟨⟨List.mem_of_getElem? (i := 1528) rfl, List.mem_of_getElem? (i := 1529) rfl, List.mem_of_getElem? (i := 1530) rfl⟩, by decide +kernel, 10, rfl, _, _, rfl⟩⟩
set_option maxRecDepth 100000 in
theorem jq_l280 : jw_LF (13, 109, 108, 1, 2, 1, 0, 0, 10) := ⟨jq_m108, rfl, rfl, Or.inl rfl, ⟨⟨List.mem_of_getElem? (i := 783) rfl, List.mem_of_getElem? (i := 784) rfl, List.mem_of_getElem? (i := 785) rfl⟩, by decide +kernel, 9, rfl, _, _, rfl⟩⟩
set_option maxRecDepth 100000 in
theorem jq_l281 : jw_LF (13, 112, 235, 1, 2, 1, 0, 0, 11) := ⟨jq_m235, rfl, rfl, Or.inl rfl, ⟨⟨List.mem_of_getElem? (i := 1540) rfl, List.mem_of_getElem? (i := 1541) rfl, List.mem_of_getElem? (i := 1542) rfl⟩, by decide +kernel, 10, rfl, _, _, rfl⟩⟩
set_option maxRecDepth 100000 in
theorem jq_l282 : jw_LF (13, 113, 111, 1, 5, 2, 0, 0, 10) := ⟨jq_m111, rfl, rfl, rfl, ⟨⟨List.mem_of_getElem? (i := 795) rfl, List.mem_of_getElem? (i := 796) rfl, List.mem_of_getElem? (i := 797) rfl⟩, by decide +kernel, 9, rfl, _, _, rfl⟩⟩
set_option maxRecDepth 100000 in
theorem jq_l283 : jw_LF (13, 116, 236, 1, 5, 2, 0, 0, 11) := ⟨jq_m236, rfl, rfl, rfl, ⟨⟨List.mem_of_getElem? (i := 1544) rfl, List.mem_of_getElem? (i := 1545) rfl, List.mem_of_getElem? (i := 1546) rfl⟩, by decide +kernel, 10, rfl, _, _, rfl⟩⟩
set_option maxRecDepth 100000 in
theorem jq_l284 : jw_LF (13, 117, 119, 1, 5, 2, 0, 0, 10) := ⟨jq_m119, rfl, rfl, rfl, ⟨⟨List.mem_of_getElem? (i := 829) rfl, List.mem_of_getElem? (i := 830) rfl, List.mem_of_getElem? (i := 831) rfl⟩, by decide +kernel, 9, rfl, _, _, rfl⟩⟩
set_option maxRecDepth 100000 in
theorem jq_l285 : jw_LF (13, 120, 240, 1, 5, 2, 0, 0, 11) := ⟨jq_m240, rfl, rfl, rfl, ⟨⟨List.mem_of_getElem? (i := 1560) rfl, List.mem_of_getElem? (i := 1561) rfl, List.mem_of_getElem? (i := 1562) rfl⟩, by decide +kernel, 10, rfl, _, _, rfl⟩⟩
set_option maxRecDepth 100000 in
theorem jq_l286 : jw_LF (13, 121, 122, 1, 3, 1, 0, 0, 10) := ⟨jq_m122, rfl, rfl, Or.inl rfl, ⟨⟨List.mem_of_getElem? (i := 841) rfl, List.mem_of_getElem? (i := 842) rfl, List.mem_of_getElem? (i := 843) rfl⟩, by decide +kernel, 9, rfl, _, _, rfl⟩⟩
set_option maxRecDepth 100000 in
theorem jq_l287 : jw_LF (13, 124, 243, 1, 3, 1, 0, 0, 11) := ⟨jq_m243, rfl, rfl, Or.inl rfl, ⟨⟨List.mem_of_getElem? (i := 1572) rfl, List.mem_of_getElem? (i := 1573) rfl, List.mem_of_getElem? (i := 1574) rfl⟩, by decide +kernel, 10, rfl, _, _, rfl⟩⟩
set_option maxRecDepth 100000 in
theorem jq_l288 : jw_LF (13, 125, 124, 1, 6, 1, 0, 0, 10) := ⟨jq_m124, rfl, rfl, Or.inl rfl, ⟨⟨List.mem_of_getElem? (i := 849) rfl, List.mem_of_getElem? (i := 850) rfl, List.mem_of_getElem? (i := 851) rfl⟩, by decide +kernel, 9, rfl, _, _, rfl⟩⟩
set_option maxRecDepth 100000 in
theorem jq_l289 : jw_LF (13, 128, 244, 1, 6, 1, 0, 0, 11) := ⟨jq_m244, rfl, rfl, Or.inl rfl, ⟨⟨List.mem_of_getElem? (i := 1576) rfl, List.mem_of_getElem? (i := 1577) rfl, List.mem_of_getElem? (i := 1578) rfl⟩, by decide +kernel, 10, rfl, _, _, rfl⟩⟩
set_option maxRecDepth 100000 in
theorem jq_l290 : jw_LF (13, 129, 132, 1, 4, 1, 0, 0, 10) := ⟨jq_m132, rfl, rfl, Or.inl rfl, ⟨⟨List.mem_of_getElem? (i := 879) rfl, List.mem_of_getElem? (i := 880) rfl, List.mem_of_getElem? (i := 881) rfl⟩, by decide +kernel, 9, rfl, _, _, rfl⟩⟩
set_option maxRecDepth 100000 in
theorem jq_l291 : jw_LF (13, 132, 248, 1, 4, 1, 0, 0, 11) := ⟨jq_m248, rfl, rfl, Or.inl rfl, ⟨⟨List.mem_of_getElem? (i := 1592) rfl, List.mem_of_getElem? (i := 1593) rfl, List.mem_of_getElem? (i := 1594) rfl⟩, by decide +kernel, 10, rfl, _, _, rfl⟩⟩
set_option maxRecDepth 100000 in
theorem jq_l292 : jw_LF (13, 133, 133, 1, 5, 2, 0, 0, 10) := ⟨jq_m133, rfl, rfl, rfl, ⟨⟨List.mem_of_getElem? (i := 883) rfl, List.mem_of_getElem? (i := 884) rfl, List.mem_of_getElem? (i := 885) rfl⟩, by decide +kernel, 9, rfl, _, _, rfl⟩⟩
set_option maxRecDepth 100000 in
theorem jq_l293 : jw_LF (13, 136, 249, 1, 5, 2, 0, 0, 11) := ⟨jq_m249, rfl, rfl, rfl, ⟨⟨List.mem_of_getElem? (i := 1596) rfl, List.mem_of_getElem? (i := 1597) rfl, List.mem_of_getElem? (i := 1598) rfl⟩, by decide +kernel, 10, rfl, _, _, rfl⟩⟩
set_option maxRecDepth 100000 in
theorem jq_l294 : jw_LF (13, 137, 134, 1, 3, 1, 0, 0, 10) := ⟨jq_m134, rfl, rfl, Or.inl rfl, ⟨⟨List.mem_of_getElem? (i := 888) rfl, List.mem_of_getElem? (i := 889) rfl, List.mem_of_getElem? (i := 890) rfl⟩, by decide +kernel, 9, rfl, _, _, rfl⟩⟩
set_option maxRecDepth 100000 in
theorem jq_l295 : jw_LF (13, 140, 250, 1, 3, 1, 0, 0, 11) := ⟨jq_m250, rfl, rfl, Or.inl rfl, ⟨⟨List.mem_of_getElem? (i := 1600) rfl, List.mem_of_getElem? (i := 1601) rfl, List.mem_of_getElem? (i := 1602) rfl⟩, by decide +kernel, 10, rfl, _, _, rfl⟩⟩
set_option maxRecDepth 100000 in
theorem jq_l296 : jw_LF (13, 141, 141, 1, 2, 1, 0, 0, 10) := ⟨jq_m141, rfl, rfl, Or.inl rfl, ⟨⟨List.mem_of_getElem? (i := 917) rfl, List.mem_of_getElem? (i := 918) rfl, List.mem_of_getElem? (i := 919) rfl⟩, by decide +kernel, 9, rfl, _, _, rfl⟩⟩
set_option maxRecDepth 100000 in
theorem jq_l297 : jw_LF (13, 144, 255, 1, 2, 1, 0, 0, 11) := ⟨jq_m255, rfl, rfl, Or.inl rfl, ⟨⟨List.mem_of_getElem? (i := 1621) rfl, List.mem_of_getElem? (i := 1622) rfl, List.mem_of_getElem? (i := 1623) rfl⟩, by decide +kernel, 10, rfl, _, _, rfl⟩⟩
set_option maxRecDepth 100000 in
theorem jq_l298 : jw_LF (13, 145, 143, 1, 3, 1, 0, 0, 10) := ⟨jq_m143, rfl, rfl, Or.inl rfl, ⟨⟨List.mem_of_getElem? (i := 928) rfl, List.mem_of_getElem? (i := 929) rfl, List.mem_of_getElem? (i := 930) rfl⟩, by decide +kernel, 9, rfl, _, _, rfl⟩⟩
set_option maxRecDepth 100000 in
theorem jq_l299 : jw_LF (13, 148, 256, 1, 3, 1, 0, 0, 11) := ⟨jq_m256, rfl, rfl, Or.inl rfl, ⟨⟨List.mem_of_getElem? (i := 1626) rfl, List.mem_of_getElem? (i := 1627) rfl, List.mem_of_getElem? (i := 1628) rfl⟩, by decide +kernel, 10, rfl, _, _, rfl⟩⟩
set_option maxRecDepth 100000 in
theorem jq_l300 : jw_LF (13, 149, 144, 1, 2, 1, 0, 0, 10) := ⟨jq_m144, rfl, rfl, Or.inl rfl, ⟨⟨List.mem_of_getElem? (i := 932) rfl, List.mem_of_getElem? (i := 933) rfl, List.mem_of_getElem? (i := 934) rfl⟩, by decide +kernel, 9, rfl, _, _, rfl⟩⟩
set_option maxRecDepth 100000 in
theorem jq_l301 : jw_LF (13, 152, 257, 1, 2, 1, 0, 0, 11) := ⟨jq_m257, rfl, rfl, Or.inl rfl, ⟨⟨List.mem_of_getElem? (i := 1630) rfl, List.mem_of_getElem? (i := 1631) rfl, List.mem_of_getElem? (i := 1632) rfl⟩, by decide +kernel, 10, rfl, _, _, rfl⟩⟩
set_option maxRecDepth 100000 in
theorem jq_l302 : jw_LF (13, 153, 146, 1, 4, 2, 0, 0, 10) := ⟨jq_m146, rfl, rfl, rfl, ⟨⟨List.mem_of_getElem? (i := 940) rfl, List.mem_of_getElem? (i := 941) rfl, List.mem_of_getElem? (i := 942) rfl⟩, by decide +kernel, 9, rfl, _, _, rfl⟩⟩
set_option maxRecDepth 100000 in
theorem jq_l303 : jw_LF (13, 156, 258, 1, 4, 2, 0, 0, 11) := ⟨jq_m258, rfl, rfl, rfl, ⟨⟨List.mem_of_getElem? (i := 1634) rfl, List.mem_of_getElem? (i := 1635) rfl, List.mem_of_getElem? (i := 1636) rfl⟩, by decide +kernel, 10, rfl, _, _, rfl⟩⟩
set_option maxRecDepth 100000 in
theorem jq_l304 : jw_LF (13, 157, 150, 1, 4, 1, 0, 0, 10) := ⟨jq_m150, rfl, rfl, Or.inl rfl, ⟨⟨List.mem_of_getElem? (i := 958) rfl, List.mem_of_getElem? (i := 959) rfl, List.mem_of_getElem? (i := 960) rfl⟩, by decide +kernel, 9, rfl, _, _, rfl⟩⟩
set_option maxRecDepth 100000 in
theorem jq_l305 : jw_LF (13, 160, 260, 1, 4, 1, 0, 0, 11) := ⟨jq_m260, rfl, rfl, Or.inl rfl, ⟨⟨List.mem_of_getElem? (i := 1642) rfl, List.mem_of_getElem? (i := 1643) rfl, List.mem_of_getElem? (i := 1644) rfl⟩, by decide +kernel, 10, rfl, _, _, rfl⟩⟩
set_option maxRecDepth 100000 in
theorem jq_l306 : jw_LF (13, 161, 153, 1, 2, 1, 0, 0, 10) := ⟨jq_m153, rfl, rfl, Or.inl rfl, ⟨⟨List.mem_of_getElem? (i := 970) rfl, List.mem_of_getElem? (i := 971) rfl, List.mem_of_getElem? (i := 972) rfl⟩, by decide +kernel, 9, rfl, _, _, rfl⟩⟩
set_option maxRecDepth 100000 in
theorem jq_l307 : jw_LF (13, 164, 262, 1, 2, 1, 0, 0, 11) := ⟨jq_m262, rfl, rfl, Or.inl rfl, ⟨⟨List.mem_of_getElem? (i := 1650) rfl, List.mem_of_getElem? (i := 1651) rfl, List.mem_of_getElem? (i := 1652) rfl⟩, by decide +kernel, 10, rfl, _, _, rfl⟩⟩
set_option maxRecDepth 100000 in
theorem jq_l308 : jw_LF (13, 165, 154, 1, 3, 1, 0, 0, 10) := ⟨jq_m154, rfl, rfl, Or.inl rfl, ⟨⟨List.mem_of_getElem? (i := 974) rfl, List.mem_of_getElem? (i := 975) rfl, List.mem_of_getElem? (i := 976) rfl⟩, by decide +kernel, 9, rfl, _, _, rfl⟩⟩
set_option maxRecDepth 100000 in
theorem jq_l309 : jw_LF (13, 168, 263, 1, 3, 1, 0, 0, 11) := ⟨jq_m263, rfl, rfl, Or.inl rfl, ⟨⟨List.mem_of_getElem? (i := 1654) rfl, List.mem_of_getElem? (i := 1655) rfl, List.mem_of_getElem? (i := 1656) rfl⟩, by decide +kernel, 10, rfl, _, _, rfl⟩⟩
set_option maxRecDepth 100000 in
theorem jq_l310 : jw_LF (13, 169, 157, 1, 3, 1, 0, 0, 10) := ⟨jq_m157, rfl, rfl, Or.inl rfl, ⟨⟨List.mem_of_getElem? (i := 988) rfl, List.mem_of_getElem? (i := 989) rfl, List.mem_of_getElem? (i := 990) rfl⟩, by decide +kernel, 9, rfl, _, _, rfl⟩⟩
set_option maxRecDepth 100000 in
theorem jq_l311 : jw_LF (13, 172, 264, 1, 3, 1, 0, 0, 11) := ⟨jq_m264, rfl, rfl, Or.inl rfl, ⟨⟨List.mem_of_getElem? (i := 1658) rfl, List.mem_of_getElem? (i := 1659) rfl, List.mem_of_getElem? (i := 1660) rfl⟩, by decide +kernel, 10, rfl, _, _, rfl⟩⟩
set_option maxRecDepth 100000 in
theorem jq_l312 : jw_LF (13, 175, 159, 1, 4, 1, 0, 0, 10) := ⟨jq_m159, rfl, rfl, Or.inl rfl, ⟨⟨List.mem_of_getElem? (i := 1000) rfl, List.mem_of_getElem? (i := 1001) rfl, List.mem_of_getElem? (i := 1002) rfl⟩, by decide +kernel, 9, rfl, _, _, rfl⟩⟩
set_option maxRecDepth 100000 in
theorem jq_l313 : jw_LF (13, 179, 265, 1, 4, 1, 0, 0, 11) := ⟨jq_m265, rfl, rfl, Or.inl rfl, ⟨⟨List.mem_of_getElem? (i := 1662) rfl, List.mem_of_getElem? (i := 1663) rfl, List.mem_of_getElem? (i := 1664) rfl⟩, by decide +kernel, 10, rfl, _, _, rfl⟩⟩
set_option maxRecDepth 100000 in
theorem jq_l314 : jw_LF (13, 180, 161, 1, 3, 2, 0, 0, 10) := ⟨jq_m161, rfl, rfl, rfl, ⟨⟨List.mem_of_getElem? (i := 1008) rfl, List.mem_of_getElem? (i := 1009) rfl, List.mem_of_getElem? (i := 1010) rfl⟩, by decide +kernel, 9, rfl, _, _, rfl⟩⟩
set_option maxRecDepth 100000 in
theorem jq_l315 : jw_LF (13, 184, 267, 1, 3, 2, 0, 0, 11) := ⟨jq_m267, rfl, rfl, rfl, ⟨⟨List.mem_of_getElem? (i := 1670) rfl, List.mem_of_getElem? (i := 1671) rfl, List.mem_of_getElem? (i := 1672) rfl⟩, by decide +kernel, 10, rfl, _, _, rfl⟩⟩
set_option maxRecDepth 100000 in
theorem jq_l316 : jw_LF (13, 185, 162, 1, 6, 1, 0, 0, 10) := ⟨jq_m162, rfl, rfl, Or.inl rfl, ⟨⟨List.mem_of_getElem? (i := 1012) rfl, List.mem_of_getElem? (i := 1013) rfl, List.mem_of_getElem? (i := 1014) rfl⟩, by decide +kernel, 9, rfl, _, _, rfl⟩⟩
set_option maxRecDepth 100000 in
theorem jq_l317 : jw_LF (13, 188, 268, 1, 6, 1, 0, 0, 11) := ⟨jq_m268, rfl, rfl, Or.inl rfl, ⟨⟨List.mem_of_getElem? (i := 1674) rfl, List.mem_of_getElem? (i := 1675) rfl, List.mem_of_getElem? (i := 1676) rfl⟩, by decide +kernel, 10, rfl, _, _, rfl⟩⟩
set_option maxRecDepth 100000 in
theorem jq_l318 : jw_LF (13, 189, 164, 1, 3, 1, 0, 0, 10) := ⟨jq_m164, rfl, rfl, Or.inl rfl, ⟨⟨List.mem_of_getElem? (i := 1023) rfl, List.mem_of_getElem? (i := 1024) rfl, List.mem_of_getElem? (i := 1025) rfl⟩, by decide +kernel, 9, rfl, _, _, rfl⟩⟩
set_option maxRecDepth 100000 in
theorem jq_l319 : jw_LF (13, 192, 269, 1, 3, 1, 0, 0, 11) := ⟨jq_m269, rfl, rfl, Or.inl rfl, ⟨⟨List.mem_of_getElem? (i := 1678) rfl, List.mem_of_getElem? (i := 1679) rfl, List.mem_of_getElem? (i := 1680) rfl⟩, by decide +kernel, 10, rfl, _, _, rfl⟩⟩
set_option maxRecDepth 100000 in
theorem jq_l320 : jw_LF (13, 193, 166, 1, 1, 1, 0, 0, 10) := ⟨jq_m166, rfl, rfl, Or.inl rfl, ⟨⟨List.mem_of_getElem? (i := 1031) rfl, List.mem_of_getElem? (i := 1032) rfl, List.mem_of_getElem? (i := 1033) rfl⟩, by decide +kernel, 9, rfl, _, _, rfl⟩⟩
set_option maxRecDepth 100000 in
theorem jq_l321 : jw_LF (13, 196, 270, 1, 1, 1, 0, 0, 11) := ⟨jq_m270, rfl, rfl, Or.inl rfl, ⟨⟨List.mem_of_getElem? (i := 1682) rfl, List.mem_of_getElem? (i := 1683) rfl, List.mem_of_getElem? (i := 1684) rfl⟩, by decide +kernel, 10, rfl, _, _, rfl⟩⟩
set_option maxRecDepth 100000 in
theorem jq_l322 : jw_LF (13, 197, 171, 1, 1, 1, 0, 0, 10) := ⟨jq_m171, rfl, rfl, Or.inl rfl, ⟨⟨List.mem_of_getElem? (i := 1052) rfl, List.mem_of_getElem? (i := 1053) rfl, List.mem_of_getElem? (i := 1054) rfl⟩, by decide +kernel, 9, rfl, _, _, rfl⟩⟩
set_option maxRecDepth 100000 in
theorem jq_l323 : jw_LF (13, 200, 273, 1, 1, 1, 0, 0, 11) := ⟨jq_m273, rfl, rfl, Or.inl rfl, ⟨⟨List.mem_of_getElem? (i := 1692) rfl, List.mem_of_getElem? (i := 1693) rfl, List.mem_of_getElem? (i := 1694) rfl⟩, by decide +kernel, 10, rfl, _, _, rfl⟩⟩
set_option maxRecDepth 100000 in
theorem jq_l324 : jw_LF (13, 201, 172, 1, 2, 1, 0, 0, 10) := ⟨jq_m172, rfl, rfl, Or.inl rfl, ⟨⟨List.mem_of_getElem? (i := 1056) rfl, List.mem_of_getElem? (i := 1057) rfl, List.mem_of_getElem? (i := 1058) rfl⟩, by decide +kernel, 9, rfl, _, _, rfl⟩⟩
set_option maxRecDepth 100000 in
theorem jq_l325 : jw_LF (13, 204, 274, 1, 2, 1, 0, 0, 11) := ⟨jq_m274, rfl, rfl, Or.inl rfl, ⟨⟨List.mem_of_getElem? (i := 1696) rfl, List.mem_of_getElem? (i := 1697) rfl, List.mem_of_getElem? (i := 1698) rfl⟩, by decide +kernel, 10, rfl, _, _, rfl⟩⟩
theorem jw_ML_r0 : ∀ q ∈ [(0, 11, 1, 5, 1, 0, 1, 100, 0), (0, 20, 2, 5, 1, 0, 4, 28, 0), (0, 27, 5, 2, 1, 0, 74, 651, 0), (0, 41, 10, 5, 1, 0, 1, 40, 0), (2, 11, 3, 2, 1, 0, 1, 13, 0), (3, 15, 4, 1, 1, 0, 0, 0, 5), (4, 31, 6, 5, 1, 0, 4, 96, 0), (4, 46, 7, 5, 1, 0, 4, 28, 0), (4, 47, 8, 5, 1, 0, 3, 36, 0), (4, 48, 9, 5, 1, 0, 3, 30, 0), (6, 11, 3, 2, 1, 0, 1, 13, 0), (0, 50, 12, 1, 2, 0, 0, 0, 7), (0, 54, 14, 1, 1, 1, 0, 0, 7), (0, 58, 16, 1, 1, 3, 0, 0, 9), (0, 62, 17, 1, 2, 1, 0, 0, 7), (0, 69, 29, 1, 1, 1, 0, 0, 6), (0, 75, 32, 1, 1, 1, 0, 0, 9), (1, 37, 18, 1, 2, 1, 0, 0, 7), (1, 41, 19, 1, 2, 1, 0, 0, 7), (1, 62, 4, 1, 1, 0, 0, 0, 5)], jw_LF q := List.forall_mem_cons.mpr ⟨jq_l0, List.forall_mem_cons.mpr ⟨jq_l1, List.forall_mem_cons.mpr ⟨jq_l2, List.forall_mem_cons.mpr ⟨jq_l3, List.forall_mem_cons.mpr ⟨jq_l4, List.forall_mem_cons.mpr ⟨jq_l5, List.forall_mem_cons.mpr ⟨jq_l6, List.forall_mem_cons.mpr ⟨jq_l7, List.forall_mem_cons.mpr ⟨jq_l8, List.forall_mem_cons.mpr ⟨jq_l9, List.forall_mem_cons.mpr ⟨jq_l10, List.forall_mem_cons.mpr ⟨jq_l11, List.forall_mem_cons.mpr ⟨jq_l12, List.forall_mem_cons.mpr ⟨jq_l13, List.forall_mem_cons.mpr ⟨jq_l14, List.forall_mem_cons.mpr ⟨jq_l15, List.forall_mem_cons.mpr ⟨jq_l16, List.forall_mem_cons.mpr ⟨jq_l17, List.forall_mem_cons.mpr ⟨jq_l18, List.forall_mem_cons.mpr ⟨jq_l19, fun _ h => absurd h List.not_mem_nil⟩⟩⟩⟩⟩⟩⟩⟩⟩⟩⟩⟩⟩⟩⟩⟩⟩⟩⟩⟩
theorem jw_ML_r1 : ∀ q ∈ [(1, 67, 21, 1, 3, 1, 0, 0, 7), (1, 58, 20, 1, 1, 1, 0, 0, 7), (1, 71, 22, 1, 1, 1, 0, 0, 7), (1, 75, 23, 0, 1, 1, 0, 0, 0), (1, 79, 24, 0, 2, 2, 0, 0, 0), (1, 87, 26, 0, 2, 2, 0, 0, 0), (10, 17, 25, 0, 2, 2, 0, 0, 0), (10, 25, 27, 0, 1, 1, 0, 0, 0), (10, 29, 28, 0, 1, 1, 0, 0, 0), (10, 32, 24, 0, 2, 2, 0, 0, 0), (6, 25, 30, 1, 1, 1, 0, 0, 5), (3, 24, 31, 1, 1, 1, 0, 0, 5), (0, 78, 34, 1, 1, 3, 0, 0, 9), (0, 82, 35, 1, 2, 1, 0, 0, 7), (0, 86, 43, 1, 1, 1, 0, 0, 9), (1, 51, 36, 1, 2, 1, 0, 0, 7), (1, 55, 41, 1, 2, 1, 0, 0, 7), (1, 94, 37, 1, 2, 1, 0, 0, 7), (1, 97, 38, 0, 1, 1, 0, 0, 0), (1, 101, 39, 1, 1, 1, 0, 0, 7)], jw_LF q := List.forall_mem_cons.mpr ⟨jq_l20, List.forall_mem_cons.mpr ⟨jq_l21, List.forall_mem_cons.mpr ⟨jq_l22, List.forall_mem_cons.mpr ⟨jq_l23, List.forall_mem_cons.mpr ⟨jq_l24, List.forall_mem_cons.mpr ⟨jq_l25, List.forall_mem_cons.mpr ⟨jq_l26, List.forall_mem_cons.mpr ⟨jq_l27, List.forall_mem_cons.mpr ⟨jq_l28, List.forall_mem_cons.mpr ⟨jq_l29, List.forall_mem_cons.mpr ⟨jq_l30, List.forall_mem_cons.mpr ⟨jq_l31, List.forall_mem_cons.mpr ⟨jq_l32, List.forall_mem_cons.mpr ⟨jq_l33, List.forall_mem_cons.mpr ⟨jq_l34, List.forall_mem_cons.mpr ⟨jq_l35, List.forall_mem_cons.mpr ⟨jq_l36, List.forall_mem_cons.mpr ⟨jq_l37, List.forall_mem_cons.mpr ⟨jq_l38, List.forall_mem_cons.mpr ⟨jq_l39, fun _ h => absurd h List.not_mem_nil⟩⟩⟩⟩⟩⟩⟩⟩⟩⟩⟩⟩⟩⟩⟩⟩⟩⟩⟩⟩
theorem jw_ML_r2 : ∀ q ∈ [(1, 104, 40, 1, 4, 0, 0, 0, 4), (1, 108, 42, 1, 3, 0, 0, 0, 4), (0, 89, 45, 1, 2, 3, 0, 0, 9), (0, 97, 31, 1, 1, 1, 0, 0, 5), (0, 102, 47, 1, 1, 1, 0, 0, 5), (4, 62, 46, 3, 3, 1, 0, 0, 0), (0, 108, 46, 0, 3, 1, 0, 0, 0), (0, 114, 49, 1, 2, 2, 0, 0, 5), (0, 118, 50, 0, 2, 2, 0, 0, 0), (3, 20, 46, 3, 3, 1, 0, 0, 0), (0, 230, 51, 0, 1, 1, 0, 0, 0), (0, 255, 28, 0, 1, 1, 0, 0, 0), (0, 258, 27, 0, 1, 1, 0, 0, 0), (0, 122, 53, 1, 2, 1, 0, 0, 6), (6, 29, 54, 0, 3, 2, 0, 0, 0), (6, 33, 51, 0, 1, 1, 0, 0, 0), (6, 39, 49, 1, 2, 2, 0, 0, 5), (6, 43, 55, 0, 2, 2, 0, 0, 0), (6, 47, 26, 0, 2, 2, 0, 0, 0), (0, 126, 57, 1, 4, 1, 0, 0, 2)], jw_LF q := List.forall_mem_cons.mpr ⟨jq_l40, List.forall_mem_cons.mpr ⟨jq_l41, List.forall_mem_cons.mpr ⟨jq_l42, List.forall_mem_cons.mpr ⟨jq_l43, List.forall_mem_cons.mpr ⟨jq_l44, List.forall_mem_cons.mpr ⟨jq_l45, List.forall_mem_cons.mpr ⟨jq_l46, List.forall_mem_cons.mpr ⟨jq_l47, List.forall_mem_cons.mpr ⟨jq_l48, List.forall_mem_cons.mpr ⟨jq_l49, List.forall_mem_cons.mpr ⟨jq_l50, List.forall_mem_cons.mpr ⟨jq_l51, List.forall_mem_cons.mpr ⟨jq_l52, List.forall_mem_cons.mpr ⟨jq_l53, List.forall_mem_cons.mpr ⟨jq_l54, List.forall_mem_cons.mpr ⟨jq_l55, List.forall_mem_cons.mpr ⟨jq_l56, List.forall_mem_cons.mpr ⟨jq_l57, List.forall_mem_cons.mpr ⟨jq_l58, List.forall_mem_cons.mpr ⟨jq_l59, fun _ h => absurd h List.not_mem_nil⟩⟩⟩⟩⟩⟩⟩⟩⟩⟩⟩⟩⟩⟩⟩⟩⟩⟩⟩⟩
theorem jw_ML_r3 : ∀ q ∈ [(2, 33, 58, 1, 2, 0, 0, 0, 5), (2, 46, 59, 1, 2, 1, 0, 0, 2), (2, 50, 60, 1, 2, 1, 0, 0, 2), (2, 54, 61, 1, 1, 0, 0, 0, 2), (2, 57, 62, 1, 2, 2, 0, 0, 2), (2, 61, 63, 0, 2, 2, 0, 0, 0), (2, 67, 51, 0, 1, 1, 0, 0, 0), (2, 71, 28, 0, 1, 1, 0, 0, 0), (2, 74, 64, 1, 4, 0, 0, 0, 2), (2, 78, 66, 0, 1, 2, 0, 0, 0), (2, 82, 68, 1, 4, 1, 0, 0, 5), (2, 86, 30, 1, 1, 1, 0, 0, 5), (2, 90, 42, 1, 3, 0, 0, 0, 4), (2, 94, 31, 1, 1, 1, 0, 0, 5), (2, 98, 47, 1, 1, 1, 0, 0, 5), (2, 101, 49, 1, 2, 2, 0, 0, 5), (2, 105, 65, 0, 1, 2, 0, 0, 0), (2, 108, 40, 1, 4, 0, 0, 0, 4), (10, 35, 67, 0, 2, 2, 0, 0, 0), (3, 28, 49, 1, 2, 2, 0, 0, 5)], jw_LF q := List.forall_mem_cons.mpr ⟨jq_l60, List.forall_mem_cons.mpr ⟨jq_l61, List.forall_mem_cons.mpr ⟨jq_l62, List.forall_mem_cons.mpr ⟨jq_l63, List.forall_mem_cons.mpr ⟨jq_l64, List.forall_mem_cons.mpr ⟨jq_l65, List.forall_mem_cons.mpr ⟨jq_l66, List.forall_mem_cons.mpr ⟨jq_l67, List.forall_mem_cons.mpr ⟨jq_l68, List.forall_mem_cons.mpr ⟨jq_l69, List.forall_mem_cons.mpr ⟨jq_l70, List.forall_mem_cons.mpr ⟨jq_l71, List.forall_mem_cons.mpr ⟨jq_l72, List.forall_mem_cons.mpr ⟨jq_l73, List.forall_mem_cons.mpr ⟨jq_l74, List.forall_mem_cons.mpr ⟨jq_l75, List.forall_mem_cons.mpr ⟨jq_l76, List.forall_mem_cons.mpr ⟨jq_l77, List.forall_mem_cons.mpr ⟨jq_l78, List.forall_mem_cons.mpr ⟨jq_l79, fun _ h => absurd h List.not_mem_nil⟩⟩⟩⟩⟩⟩⟩⟩⟩⟩⟩⟩⟩⟩⟩⟩⟩⟩⟩⟩
theorem jw_ML_r4 : ∀ q ∈ [(3, 32, 55, 0, 2, 2, 0, 0, 0), (3, 36, 26, 0, 2, 2, 0, 0, 0), (3, 39, 51, 0, 1, 1, 0, 0, 0), (0, 130, 58, 1, 2, 0, 0, 0, 5), (0, 134, 71, 0, 2, 1, 0, 0, 0), (0, 138, 24, 0, 2, 2, 0, 0, 0), (0, 144, 72, 1, 4, 1, 0, 0, 6), (6, 50, 73, 1, 2, 0, 0, 0, 6), (6, 53, 74, 1, 2, 1, 0, 0, 5), (6, 56, 75, 1, 3, 1, 0, 0, 5), (6, 21, 58, 1, 2, 0, 0, 0, 5), (3, 43, 63, 0, 2, 2, 0, 0, 0), (0, 148, 77, 1, 3, 1, 0, 0, 6), (6, 60, 78, 1, 2, 1, 0, 0, 5), (0, 152, 80, 1, 2, 3, 0, 0, 9), (0, 162, 83, 1, 2, 1, 0, 0, 4), (7, 36, 46, 3, 3, 1, 0, 0, 0), (0, 182, 86, 1, 2, 1, 0, 0, 6), (6, 63, 4, 1, 1, 0, 0, 0, 5), (6, 96, 87, 1, 4, 1, 0, 0, 6)], jw_LF q := List.forall_mem_cons.mpr ⟨jq_l80, List.forall_mem_cons.mpr ⟨jq_l81, List.forall_mem_cons.mpr ⟨jq_l82, List.forall_mem_cons.mpr ⟨jq_l83, List.forall_mem_cons.mpr ⟨jq_l84, List.forall_mem_cons.mpr ⟨jq_l85, List.forall_mem_cons.mpr ⟨jq_l86, List.forall_mem_cons.mpr ⟨jq_l87, List.forall_mem_cons.mpr ⟨jq_l88, List.forall_mem_cons.mpr ⟨jq_l89, List.forall_mem_cons.mpr ⟨jq_l90, List.forall_mem_cons.mpr ⟨jq_l91, List.forall_mem_cons.mpr ⟨jq_l92, List.forall_mem_cons.mpr ⟨jq_l93, List.forall_mem_cons.mpr ⟨jq_l94, List.forall_mem_cons.mpr ⟨jq_l95, List.forall_mem_cons.mpr ⟨jq_l96, List.forall_mem_cons.mpr ⟨jq_l97, List.forall_mem_cons.mpr ⟨jq_l98, List.forall_mem_cons.mpr ⟨jq_l99, fun _ h => absurd h List.not_mem_nil⟩⟩⟩⟩⟩⟩⟩⟩⟩⟩⟩⟩⟩⟩⟩⟩⟩⟩⟩⟩
theorem jw_ML_r5 : ∀ q ∈ [(6, 100, 88, 0, 2, 1, 0, 0, 0), (6, 104, 68, 1, 4, 1, 0, 0, 5), (0, 185, 42, 1, 3, 0, 0, 0, 4), (0, 189, 91, 1, 4, 1, 0, 0, 4), (7, 44, 92, 1, 2, 0, 0, 0, 4), (7, 52, 93, 0, 4, 2, 0, 0, 0), (7, 56, 51, 0, 1, 1, 0, 0, 0), (7, 48, 40, 1, 4, 0, 0, 0, 4), (7, 60, 55, 0, 2, 2, 0, 0, 0), (7, 40, 42, 1, 3, 0, 0, 0, 4), (7, 64, 63, 0, 2, 2, 0, 0, 0), (0, 192, 95, 1, 1, 1, 0, 0, 4), (0, 195, 98, 1, 4, 1, 0, 0, 4), (7, 67, 96, 1, 1, 1, 0, 0, 4), (7, 71, 97, 1, 1, 1, 0, 0, 4), (7, 75, 88, 0, 2, 1, 0, 0, 0), (0, 198, 100, 1, 3, 1, 0, 0, 4), (7, 79, 65, 0, 1, 2, 0, 0, 0), (0, 202, 102, 1, 2, 0, 0, 0, 4), (0, 210, 104, 1, 3, 1, 0, 0, 4)], jw_LF q := List.forall_mem_cons.mpr ⟨jq_l100, List.forall_mem_cons.mpr ⟨jq_l101, List.forall_mem_cons.mpr ⟨jq_l102, List.forall_mem_cons.mpr ⟨jq_l103, List.forall_mem_cons.mpr ⟨jq_l104, List.forall_mem_cons.mpr ⟨jq_l105, List.forall_mem_cons.mpr ⟨jq_l106, List.forall_mem_cons.mpr ⟨jq_l107, List.forall_mem_cons.mpr ⟨jq_l108, List.forall_mem_cons.mpr ⟨jq_l109, List.forall_mem_cons.mpr ⟨jq_l110, List.forall_mem_cons.mpr ⟨jq_l111, List.forall_mem_cons.mpr ⟨jq_l112, List.forall_mem_cons.mpr ⟨jq_l113, List.forall_mem_cons.mpr ⟨jq_l114, List.forall_mem_cons.mpr ⟨jq_l115, List.forall_mem_cons.mpr ⟨jq_l116, List.forall_mem_cons.mpr ⟨jq_l117, List.forall_mem_cons.mpr ⟨jq_l118, List.forall_mem_cons.mpr ⟨jq_l119, fun _ h => absurd h List.not_mem_nil⟩⟩⟩⟩⟩⟩⟩⟩⟩⟩⟩⟩⟩⟩⟩⟩⟩⟩⟩⟩
theorem jw_ML_r6 : ∀ q ∈ [(7, 83, 105, 1, 2, 1, 0, 0, 1), (8, 47, 106, 0, 3, 1, 0, 0, 0), (8, 51, 107, 0, 2, 2, 0, 0, 0), (8, 55, 27, 0, 1, 1, 0, 0, 0), (8, 58, 28, 0, 1, 1, 0, 0, 0), (0, 214, 109, 1, 1, 1, 0, 0, 9), (0, 217, 110, 1, 1, 1, 0, 0, 9), (0, 220, 112, 1, 2, 2, 0, 0, 4), (7, 92, 113, 1, 3, 2, 0, 0, 4), (7, 96, 114, 1, 1, 2, 0, 0, 4), (7, 100, 115, 1, 3, 2, 0, 0, 4), (7, 104, 116, 1, 3, 2, 0, 0, 4), (7, 107, 117, 0, 3, 2, 0, 0, 0), (7, 111, 118, 0, 2, 2, 0, 0, 0), (7, 114, 66, 0, 1, 2, 0, 0, 0), (7, 117, 26, 0, 2, 2, 0, 0, 0), (7, 120, 67, 0, 2, 2, 0, 0, 0), (0, 224, 120, 1, 1, 1, 0, 0, 4), (0, 227, 121, 1, 2, 2, 0, 0, 4), (0, 234, 123, 0, 2, 1, 0, 0, 0)], jw_LF q := List.forall_mem_cons.mpr ⟨jq_l120, List.forall_mem_cons.mpr ⟨jq_l121, List.forall_mem_cons.mpr ⟨jq_l122, List.forall_mem_cons.mpr ⟨jq_l123, List.forall_mem_cons.mpr ⟨jq_l124, List.forall_mem_cons.mpr ⟨jq_l125, List.forall_mem_cons.mpr ⟨jq_l126, List.forall_mem_cons.mpr ⟨jq_l127, List.forall_mem_cons.mpr ⟨jq_l128, List.forall_mem_cons.mpr ⟨jq_l129, List.forall_mem_cons.mpr ⟨jq_l130, List.forall_mem_cons.mpr ⟨jq_l131, List.forall_mem_cons.mpr ⟨jq_l132, List.forall_mem_cons.mpr ⟨jq_l133, List.forall_mem_cons.mpr ⟨jq_l134, List.forall_mem_cons.mpr ⟨jq_l135, List.forall_mem_cons.mpr ⟨jq_l136, List.forall_mem_cons.mpr ⟨jq_l137, List.forall_mem_cons.mpr ⟨jq_l138, List.forall_mem_cons.mpr ⟨jq_l139, fun _ h => absurd h List.not_mem_nil⟩⟩⟩⟩⟩⟩⟩⟩⟩⟩⟩⟩⟩⟩⟩⟩⟩⟩⟩⟩
theorem jw_ML_r7 : ∀ q ∈ [(0, 238, 125, 0, 1, 1, 0, 0, 0), (0, 241, 126, 1, 4, 1, 0, 0, 1), (8, 34, 127, 1, 2, 1, 0, 0, 1), (8, 38, 128, 1, 2, 1, 0, 0, 1), (8, 26, 131, 1, 5, 0, 0, 0, 1), (8, 41, 129, 0, 2, 1, 0, 0, 0), (10, 38, 130, 0, 2, 1, 0, 0, 0), (8, 30, 46, 3, 3, 1, 0, 0, 0), (0, 260, 105, 1, 2, 1, 0, 0, 1), (0, 263, 135, 1, 2, 1, 0, 0, 9), (0, 274, 137, 1, 3, 0, 0, 0, 9), (4, 77, 127, 1, 2, 1, 0, 0, 1), (4, 84, 136, 0, 2, 1, 0, 0, 0), (4, 91, 138, 1, 4, 0, 0, 0, 8), (5, 36, 139, 1, 5, 1, 0, 0, 8), (5, 32, 140, 1, 4, 0, 0, 0, 8), (5, 40, 129, 0, 2, 1, 0, 0, 0), (0, 278, 142, 1, 2, 1, 0, 0, 8), (0, 290, 145, 1, 2, 1, 0, 0, 9), (0, 293, 147, 1, 2, 1, 0, 0, 9)], jw_LF q := List.forall_mem_cons.mpr ⟨jq_l140, List.forall_mem_cons.mpr ⟨jq_l141, List.forall_mem_cons.mpr ⟨jq_l142, List.forall_mem_cons.mpr ⟨jq_l143, List.forall_mem_cons.mpr ⟨jq_l144, List.forall_mem_cons.mpr ⟨jq_l145, List.forall_mem_cons.mpr ⟨jq_l146, List.forall_mem_cons.mpr ⟨jq_l147, List.forall_mem_cons.mpr ⟨jq_l148, List.forall_mem_cons.mpr ⟨jq_l149, List.forall_mem_cons.mpr ⟨jq_l150, List.forall_mem_cons.mpr ⟨jq_l151, List.forall_mem_cons.mpr ⟨jq_l152, List.forall_mem_cons.mpr ⟨jq_l153, List.forall_mem_cons.mpr ⟨jq_l154, List.forall_mem_cons.mpr ⟨jq_l155, List.forall_mem_cons.mpr ⟨jq_l156, List.forall_mem_cons.mpr ⟨jq_l157, List.forall_mem_cons.mpr ⟨jq_l158, List.forall_mem_cons.mpr ⟨jq_l159, fun _ h => absurd h List.not_mem_nil⟩⟩⟩⟩⟩⟩⟩⟩⟩⟩⟩⟩⟩⟩⟩⟩⟩⟩⟩⟩
theorem jw_ML_r8 : ∀ q ∈ [(0, 296, 149, 1, 3, 2, 0, 0, 9), (4, 99, 148, 1, 3, 2, 0, 0, 9), (4, 103, 129, 0, 2, 1, 0, 0, 0), (0, 300, 151, 1, 2, 3, 0, 0, 10), (0, 304, 152, 1, 4, 0, 0, 0, 3), (0, 314, 155, 1, 2, 1, 0, 0, 3), (0, 317, 156, 1, 2, 1, 0, 0, 3), (9, 44, 28, 0, 1, 1, 0, 0, 0), (9, 48, 27, 0, 1, 1, 0, 0, 0), (0, 320, 158, 1, 2, 0, 0, 0, 3), (0, 323, 160, 1, 1, 1, 0, 0, 3), (0, 329, 163, 1, 3, 1, 0, 0, 3), (0, 338, 165, 1, 2, 1, 0, 0, 3), (0, 341, 167, 1, 2, 0, 0, 0, 9), (4, 49, 73, 1, 2, 0, 0, 0, 6), (4, 53, 168, 1, 2, 0, 0, 0, 4), (4, 56, 169, 1, 2, 0, 0, 0, 1), (4, 59, 170, 1, 2, 0, 0, 0, 8), (12, 185, 175, 0, 3, 1, 0, 0, 0), (12, 252, 178, 1, 3, 0, 0, 0, 11)], jw_LF q := List.forall_mem_cons.mpr ⟨jq_l160, List.forall_mem_cons.mpr ⟨jq_l161, List.forall_mem_cons.mpr ⟨jq_l162, List.forall_mem_cons.mpr ⟨jq_l163, List.forall_mem_cons.mpr ⟨jq_l164, List.forall_mem_cons.mpr ⟨jq_l165, List.forall_mem_cons.mpr ⟨jq_l166, List.forall_mem_cons.mpr ⟨jq_l167, List.forall_mem_cons.mpr ⟨jq_l168, List.forall_mem_cons.mpr ⟨jq_l169, List.forall_mem_cons.mpr ⟨jq_l170, List.forall_mem_cons.mpr ⟨jq_l171, List.forall_mem_cons.mpr ⟨jq_l172, List.forall_mem_cons.mpr ⟨jq_l173, List.forall_mem_cons.mpr ⟨jq_l174, List.forall_mem_cons.mpr ⟨jq_l175, List.forall_mem_cons.mpr ⟨jq_l176, List.forall_mem_cons.mpr ⟨jq_l177, List.forall_mem_cons.mpr ⟨jq_l178, List.forall_mem_cons.mpr ⟨jq_l179, fun _ h => absurd h List.not_mem_nil⟩⟩⟩⟩⟩⟩⟩⟩⟩⟩⟩⟩⟩⟩⟩⟩⟩⟩⟩⟩
theorem jw_ML_r9 : ∀ q ∈ [(12, 224, 179, 1, 2, 1, 0, 0, 11), (12, 256, 184, 1, 2, 1, 0, 0, 11), (12, 248, 180, 1, 4, 0, 0, 0, 11), (12, 245, 181, 1, 2, 1, 0, 0, 11), (12, 241, 183, 1, 2, 1, 0, 0, 11), (12, 237, 182, 1, 1, 1, 0, 0, 11), (12, 270, 186, 1, 3, 0, 0, 0, 11), (12, 273, 192, 1, 3, 0, 0, 0, 11), (12, 259, 187, 0, 1, 1, 0, 0, 0), (12, 262, 188, 1, 2, 0, 0, 0, 11), (12, 266, 191, 1, 6, 0, 0, 0, 11), (12, 215, 189, 1, 3, 0, 0, 0, 11), (12, 196, 190, 0, 2, 2, 0, 0, 0), (12, 276, 194, 1, 2, 1, 0, 0, 11), (12, 281, 195, 1, 2, 1, 0, 0, 11), (12, 284, 196, 1, 2, 1, 0, 0, 11), (12, 298, 199, 1, 4, 0, 0, 0, 11), (12, 291, 200, 1, 5, 0, 0, 0, 11), (12, 295, 201, 1, 5, 0, 0, 0, 11), (12, 304, 203, 1, 2, 0, 0, 0, 11)], jw_LF q := List.forall_mem_cons.mpr ⟨jq_l180, List.forall_mem_cons.mpr ⟨jq_l181, List.forall_mem_cons.mpr ⟨jq_l182, List.forall_mem_cons.mpr ⟨jq_l183, List.forall_mem_cons.mpr ⟨jq_l184, List.forall_mem_cons.mpr ⟨jq_l185, List.forall_mem_cons.mpr ⟨jq_l186, List.forall_mem_cons.mpr ⟨jq_l187, List.forall_mem_cons.mpr ⟨jq_l188, List.forall_mem_cons.mpr ⟨jq_l189, List.forall_mem_cons.mpr ⟨jq_l190, List.forall_mem_cons.mpr ⟨jq_l191, List.forall_mem_cons.mpr ⟨jq_l192, List.forall_mem_cons.mpr ⟨jq_l193, List.forall_mem_cons.mpr ⟨jq_l194, List.forall_mem_cons.mpr ⟨jq_l195, List.forall_mem_cons.mpr ⟨jq_l196, List.forall_mem_cons.mpr ⟨jq_l197, List.forall_mem_cons.mpr ⟨jq_l198, List.forall_mem_cons.mpr ⟨jq_l199, fun _ h => absurd h List.not_mem_nil⟩⟩⟩⟩⟩⟩⟩⟩⟩⟩⟩⟩⟩⟩⟩⟩⟩⟩⟩⟩
theorem jw_ML_r10 : ∀ q ∈ [(12, 307, 204, 0, 2, 1, 0, 0, 0), (12, 311, 205, 1, 1, 0, 0, 0, 11), (12, 314, 206, 1, 5, 0, 0, 0, 11), (12, 317, 207, 1, 4, 0, 0, 0, 11), (12, 301, 208, 1, 5, 0, 0, 0, 11), (12, 321, 210, 1, 1, 1, 0, 0, 11), (12, 324, 212, 0, 2, 1, 0, 0, 0), (12, 328, 214, 1, 5, 0, 0, 0, 11), (12, 332, 216, 1, 2, 1, 0, 0, 11), (12, 335, 219, 1, 3, 1, 0, 0, 11), (12, 346, 222, 1, 2, 0, 0, 0, 11), (12, 338, 223, 1, 8, 0, 0, 0, 11), (12, 342, 224, 1, 6, 0, 0, 0, 11), (12, 351, 227, 1, 3, 1, 0, 0, 11), (12, 355, 229, 1, 2, 1, 0, 0, 11), (12, 358, 233, 1, 4, 1, 0, 0, 11), (12, 397, 234, 1, 4, 2, 0, 0, 11), (12, 371, 237, 1, 2, 0, 0, 0, 11), (12, 374, 238, 1, 5, 0, 0, 0, 11), (12, 368, 239, 1, 1, 0, 0, 0, 11)], jw_LF q := List.forall_mem_cons.mpr ⟨jq_l200, List.forall_mem_cons.mpr ⟨jq_l201, List.forall_mem_cons.mpr ⟨jq_l202, List.forall_mem_cons.mpr ⟨jq_l203, List.forall_mem_cons.mpr ⟨jq_l204, List.forall_mem_cons.mpr ⟨jq_l205, List.forall_mem_cons.mpr ⟨jq_l206, List.forall_mem_cons.mpr ⟨jq_l207, List.forall_mem_cons.mpr ⟨jq_l208, List.forall_mem_cons.mpr ⟨jq_l209, List.forall_mem_cons.mpr ⟨jq_l210, List.forall_mem_cons.mpr ⟨jq_l211, List.forall_mem_cons.mpr ⟨jq_l212, List.forall_mem_cons.mpr ⟨jq_l213, List.forall_mem_cons.mpr ⟨jq_l214, List.forall_mem_cons.mpr ⟨jq_l215, List.forall_mem_cons.mpr ⟨jq_l216, List.forall_mem_cons.mpr ⟨jq_l217, List.forall_mem_cons.mpr ⟨jq_l218, List.forall_mem_cons.mpr ⟨jq_l219, fun _ h => absurd h List.not_mem_nil⟩⟩⟩⟩⟩⟩⟩⟩⟩⟩⟩⟩⟩⟩⟩⟩⟩⟩⟩⟩
theorem jw_ML_r11 : ∀ q ∈ [(12, 378, 241, 1, 2, 1, 0, 0, 11), (12, 381, 242, 1, 4, 0, 0, 0, 11), (12, 387, 245, 1, 4, 1, 0, 0, 11), (12, 390, 246, 0, 4, 1, 0, 0, 0), (12, 394, 247, 1, 3, 0, 0, 0, 11), (12, 416, 251, 1, 2, 1, 0, 0, 11), (12, 422, 252, 1, 5, 0, 0, 0, 11), (12, 404, 253, 1, 6, 1, 0, 0, 11), (12, 408, 254, 1, 3, 0, 0, 0, 11), (12, 428, 259, 1, 2, 1, 0, 0, 11), (12, 433, 261, 0, 1, 1, 0, 0, 0), (12, 436, 266, 1, 2, 1, 0, 0, 11), (12, 439, 271, 0, 2, 0, 0, 0, 0), (12, 443, 272, 0, 2, 0, 0, 0, 0), (13, 9, 0, 2, 1, 0, 170, 1735, 0), (13, 12, 173, 2, 1, 0, 55, 2336, 0), (13, 13, 11, 1, 3, 1, 0, 0, 10), (13, 17, 174, 1, 3, 1, 0, 0, 11), (13, 18, 13, 1, 1, 1, 0, 0, 10), (13, 22, 176, 1, 1, 1, 0, 0, 11)], jw_LF q := List.forall_mem_cons.mpr ⟨jq_l220, List.forall_mem_cons.mpr ⟨jq_l221, List.forall_mem_cons.mpr ⟨jq_l222, List.forall_mem_cons.mpr ⟨jq_l223, List.forall_mem_cons.mpr ⟨jq_l224, List.forall_mem_cons.mpr ⟨jq_l225, List.forall_mem_cons.mpr ⟨jq_l226, List.forall_mem_cons.mpr ⟨jq_l227, List.forall_mem_cons.mpr ⟨jq_l228, List.forall_mem_cons.mpr ⟨jq_l229, List.forall_mem_cons.mpr ⟨jq_l230, List.forall_mem_cons.mpr ⟨jq_l231, List.forall_mem_cons.mpr ⟨jq_l232, List.forall_mem_cons.mpr ⟨jq_l233, List.forall_mem_cons.mpr ⟨jq_l234, List.forall_mem_cons.mpr ⟨jq_l235, List.forall_mem_cons.mpr ⟨jq_l236, List.forall_mem_cons.mpr ⟨jq_l237, List.forall_mem_cons.mpr ⟨jq_l238, List.forall_mem_cons.mpr ⟨jq_l239, fun _ h => absurd h List.not_mem_nil⟩⟩⟩⟩⟩⟩⟩⟩⟩⟩⟩⟩⟩⟩⟩⟩⟩⟩⟩⟩
theorem jw_ML_r12 : ∀ q ∈ [(13, 23, 15, 1, 1, 1, 0, 0, 10), (13, 26, 177, 1, 1, 1, 0, 0, 11), (13, 27, 33, 1, 1, 1, 0, 0, 10), (13, 30, 185, 1, 1, 1, 0, 0, 11), (13, 31, 44, 1, 3, 1, 0, 0, 10), (13, 34, 193, 1, 3, 1, 0, 0, 11), (13, 35, 48, 1, 5, 2, 0, 0, 10), (13, 39, 197, 1, 5, 2, 0, 0, 11), (13, 40, 52, 1, 3, 1, 0, 0, 10), (13, 43, 198, 1, 3, 1, 0, 0, 11), (13, 44, 56, 1, 3, 1, 0, 0, 10), (13, 47, 202, 1, 3, 1, 0, 0, 11), (13, 48, 69, 1, 2, 1, 0, 0, 10), (13, 52, 209, 1, 2, 1, 0, 0, 11), (13, 53, 70, 1, 6, 1, 0, 0, 10), (13, 57, 211, 1, 6, 1, 0, 0, 11), (13, 58, 76, 1, 4, 1, 0, 0, 10), (13, 62, 213, 1, 4, 1, 0, 0, 11), (13, 63, 79, 1, 2, 1, 0, 0, 10), (13, 66, 215, 1, 2, 1, 0, 0, 11)], jw_LF q := List.forall_mem_cons.mpr ⟨jq_l240, List.forall_mem_cons.mpr ⟨jq_l241, List.forall_mem_cons.mpr ⟨jq_l242, List.forall_mem_cons.mpr ⟨jq_l243, List.forall_mem_cons.mpr ⟨jq_l244, List.forall_mem_cons.mpr ⟨jq_l245, List.forall_mem_cons.mpr ⟨jq_l246, List.forall_mem_cons.mpr ⟨jq_l247, List.forall_mem_cons.mpr ⟨jq_l248, List.forall_mem_cons.mpr ⟨jq_l249, List.forall_mem_cons.mpr ⟨jq_l250, List.forall_mem_cons.mpr ⟨jq_l251, List.forall_mem_cons.mpr ⟨jq_l252, List.forall_mem_cons.mpr ⟨jq_l253, List.forall_mem_cons.mpr ⟨jq_l254, List.forall_mem_cons.mpr ⟨jq_l255, List.forall_mem_cons.mpr ⟨jq_l256, List.forall_mem_cons.mpr ⟨jq_l257, List.forall_mem_cons.mpr ⟨jq_l258, List.forall_mem_cons.mpr ⟨jq_l259, fun _ h => absurd h List.not_mem_nil⟩⟩⟩⟩⟩⟩⟩⟩⟩⟩⟩⟩⟩⟩⟩⟩⟩⟩⟩⟩
theorem jw_ML_r13 : ∀ q ∈ [(13, 67, 81, 1, 2, 1, 0, 0, 10), (13, 70, 217, 1, 2, 1, 0, 0, 11), (13, 71, 82, 1, 4, 1, 0, 0, 10), (13, 74, 218, 1, 4, 1, 0, 0, 11), (13, 75, 84, 1, 4, 2, 0, 0, 10), (13, 79, 220, 1, 4, 2, 0, 0, 11), (13, 80, 85, 1, 2, 1, 0, 0, 10), (13, 83, 221, 1, 2, 1, 0, 0, 11), (13, 84, 89, 1, 5, 1, 0, 0, 10), (13, 88, 225, 1, 5, 1, 0, 0, 11), (13, 89, 90, 1, 6, 1, 0, 0, 10), (13, 92, 226, 1, 6, 1, 0, 0, 11), (13, 93, 94, 1, 6, 1, 0, 0, 10), (13, 96, 228, 1, 6, 1, 0, 0, 11), (13, 97, 99, 1, 4, 1, 0, 0, 10), (13, 100, 230, 1, 4, 1, 0, 0, 11), (13, 101, 101, 1, 2, 1, 0, 0, 10), (13, 104, 231, 1, 2, 1, 0, 0, 11), (13, 105, 103, 1, 2, 1, 0, 0, 10), (13, 108, 232, 1, 2, 1, 0, 0, 11)], jw_LF q := List.forall_mem_cons.mpr ⟨jq_l260, List.forall_mem_cons.mpr ⟨jq_l261, List.forall_mem_cons.mpr ⟨jq_l262, List.forall_mem_cons.mpr ⟨jq_l263, List.forall_mem_cons.mpr ⟨jq_l264, List.forall_mem_cons.mpr ⟨jq_l265, List.forall_mem_cons.mpr ⟨jq_l266, List.forall_mem_cons.mpr ⟨jq_l267, List.forall_mem_cons.mpr ⟨jq_l268, List.forall_mem_cons.mpr ⟨jq_l269, List.forall_mem_cons.mpr ⟨jq_l270, List.forall_mem_cons.mpr ⟨jq_l271, List.forall_mem_cons.mpr ⟨jq_l272, List.forall_mem_cons.mpr ⟨jq_l273, List.forall_mem_cons.mpr ⟨jq_l274, List.forall_mem_cons.mpr ⟨jq_l275, List.forall_mem_cons.mpr ⟨jq_l276, List.forall_mem_cons.mpr ⟨jq_l277, List.forall_mem_cons.mpr ⟨jq_l278, List.forall_mem_cons.mpr ⟨jq_l279, fun _ h => absurd h List.not_mem_nil⟩⟩⟩⟩⟩⟩⟩⟩⟩⟩⟩⟩⟩⟩⟩⟩⟩⟩⟩⟩
theorem jw_ML_r14 : ∀ q ∈ [(13, 109, 108, 1, 2, 1, 0, 0, 10), (13, 112, 235, 1, 2, 1, 0, 0, 11), (13, 113, 111, 1, 5, 2, 0, 0, 10), (13, 116, 236, 1, 5, 2, 0, 0, 11), (13, 117, 119, 1, 5, 2, 0, 0, 10), (13, 120, 240, 1, 5, 2, 0, 0, 11), (13, 121, 122, 1, 3, 1, 0, 0, 10), (13, 124, 243, 1, 3, 1, 0, 0, 11), (13, 125, 124, 1, 6, 1, 0, 0, 10), (13, 128, 244, 1, 6, 1, 0, 0, 11), (13, 129, 132, 1, 4, 1, 0, 0, 10), (13, 132, 248, 1, 4, 1, 0, 0, 11), (13, 133, 133, 1, 5, 2, 0, 0, 10), (13, 136, 249, 1, 5, 2, 0, 0, 11), (13, 137, 134, 1, 3, 1, 0, 0, 10), (13, 140, 250, 1, 3, 1, 0, 0, 11), (13, 141, 141, 1, 2, 1, 0, 0, 10), (13, 144, 255, 1, 2, 1, 0, 0, 11), (13, 145, 143, 1, 3, 1, 0, 0, 10), (13, 148, 256, 1, 3, 1, 0, 0, 11)], jw_LF q := List.forall_mem_cons.mpr ⟨jq_l280, List.forall_mem_cons.mpr ⟨jq_l281, List.forall_mem_cons.mpr ⟨jq_l282, List.forall_mem_cons.mpr ⟨jq_l283, List.forall_mem_cons.mpr ⟨jq_l284, List.forall_mem_cons.mpr ⟨jq_l285, List.forall_mem_cons.mpr ⟨jq_l286, List.forall_mem_cons.mpr ⟨jq_l287, List.forall_mem_cons.mpr ⟨jq_l288, List.forall_mem_cons.mpr ⟨jq_l289, List.forall_mem_cons.mpr ⟨jq_l290, List.forall_mem_cons.mpr ⟨jq_l291, List.forall_mem_cons.mpr ⟨jq_l292, List.forall_mem_cons.mpr ⟨jq_l293, List.forall_mem_cons.mpr ⟨jq_l294, List.forall_mem_cons.mpr ⟨jq_l295, List.forall_mem_cons.mpr ⟨jq_l296, List.forall_mem_cons.mpr ⟨jq_l297, List.forall_mem_cons.mpr ⟨jq_l298, List.forall_mem_cons.mpr ⟨jq_l299, fun _ h => absurd h List.not_mem_nil⟩⟩⟩⟩⟩⟩⟩⟩⟩⟩⟩⟩⟩⟩⟩⟩⟩⟩⟩⟩
theorem jw_ML_r15 : ∀ q ∈ [(13, 149, 144, 1, 2, 1, 0, 0, 10), (13, 152, 257, 1, 2, 1, 0, 0, 11), (13, 153, 146, 1, 4, 2, 0, 0, 10), (13, 156, 258, 1, 4, 2, 0, 0, 11), (13, 157, 150, 1, 4, 1, 0, 0, 10), (13, 160, 260, 1, 4, 1, 0, 0, 11), (13, 161, 153, 1, 2, 1, 0, 0, 10), (13, 164, 262, 1, 2, 1, 0, 0, 11), (13, 165, 154, 1, 3, 1, 0, 0, 10), (13, 168, 263, 1, 3, 1, 0, 0, 11), (13, 169, 157, 1, 3, 1, 0, 0, 10), (13, 172, 264, 1, 3, 1, 0, 0, 11), (13, 175, 159, 1, 4, 1, 0, 0, 10), (13, 179, 265, 1, 4, 1, 0, 0, 11), (13, 180, 161, 1, 3, 2, 0, 0, 10), (13, 184, 267, 1, 3, 2, 0, 0, 11), (13, 185, 162, 1, 6, 1, 0, 0, 10), (13, 188, 268, 1, 6, 1, 0, 0, 11), (13, 189, 164, 1, 3, 1, 0, 0, 10), (13, 192, 269, 1, 3, 1, 0, 0, 11)], jw_LF q := List.forall_mem_cons.mpr ⟨jq_l300, List.forall_mem_cons.mpr ⟨jq_l301, List.forall_mem_cons.mpr ⟨jq_l302, List.forall_mem_cons.mpr ⟨jq_l303, List.forall_mem_cons.mpr ⟨jq_l304, List.forall_mem_cons.mpr ⟨jq_l305, List.forall_mem_cons.mpr ⟨jq_l306, List.forall_mem_cons.mpr ⟨jq_l307, List.forall_mem_cons.mpr ⟨jq_l308, List.forall_mem_cons.mpr ⟨jq_l309, List.forall_mem_cons.mpr ⟨jq_l310, List.forall_mem_cons.mpr ⟨jq_l311, List.forall_mem_cons.mpr ⟨jq_l312, List.forall_mem_cons.mpr ⟨jq_l313, List.forall_mem_cons.mpr ⟨jq_l314, List.forall_mem_cons.mpr ⟨jq_l315, List.forall_mem_cons.mpr ⟨jq_l316, List.forall_mem_cons.mpr ⟨jq_l317, List.forall_mem_cons.mpr ⟨jq_l318, List.forall_mem_cons.mpr ⟨jq_l319, fun _ h => absurd h List.not_mem_nil⟩⟩⟩⟩⟩⟩⟩⟩⟩⟩⟩⟩⟩⟩⟩⟩⟩⟩⟩⟩
theorem jw_ML_r16 : ∀ q ∈ [(13, 193, 166, 1, 1, 1, 0, 0, 10), (13, 196, 270, 1, 1, 1, 0, 0, 11), (13, 197, 171, 1, 1, 1, 0, 0, 10), (13, 200, 273, 1, 1, 1, 0, 0, 11), (13, 201, 172, 1, 2, 1, 0, 0, 10), (13, 204, 274, 1, 2, 1, 0, 0, 11)], jw_LF q := List.forall_mem_cons.mpr ⟨jq_l320, List.forall_mem_cons.mpr ⟨jq_l321, List.forall_mem_cons.mpr ⟨jq_l322, List.forall_mem_cons.mpr ⟨jq_l323, List.forall_mem_cons.mpr ⟨jq_l324, List.forall_mem_cons.mpr ⟨jq_l325, fun _ h => absurd h List.not_mem_nil⟩⟩⟩⟩⟩⟩
set_option maxRecDepth 100000 in
theorem jw_ML_ok : ∀ q ∈ jw_ML, jw_LF q := List.forall_mem_append.mpr ⟨jw_ML_r0, List.forall_mem_append.mpr ⟨jw_ML_r1, List.forall_mem_append.mpr ⟨jw_ML_r2, List.forall_mem_append.mpr ⟨jw_ML_r3, List.forall_mem_append.mpr ⟨jw_ML_r4, List.forall_mem_append.mpr ⟨jw_ML_r5, List.forall_mem_append.mpr ⟨jw_ML_r6, List.forall_mem_append.mpr ⟨jw_ML_r7, List.forall_mem_append.mpr ⟨jw_ML_r8, List.forall_mem_append.mpr ⟨jw_ML_r9, List.forall_mem_append.mpr ⟨jw_ML_r10, List.forall_mem_append.mpr ⟨jw_ML_r11, List.forall_mem_append.mpr ⟨jw_ML_r12, List.forall_mem_append.mpr ⟨jw_ML_r13, List.forall_mem_append.mpr ⟨jw_ML_r14, List.forall_mem_append.mpr ⟨jw_ML_r15, jw_ML_r16⟩⟩⟩⟩⟩⟩⟩⟩⟩⟩⟩⟩⟩⟩⟩⟩
