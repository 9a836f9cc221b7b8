/-! ===== the law fits its bytes: printed by wip/whole/links.py ===== -/
set_option maxRecDepth 100000 in
theorem cb_Law_law_0 : jw_blk code 13 false 4 0 k_Law_law_0 = true := by decide +kernel
set_option maxRecDepth 100000 in
theorem cb_Law_law_18 : jw_blk code 13 false 4 18 k_Law_law_18 = true := by decide +kernel
set_option maxRecDepth 100000 in
theorem cb_Law_law_228 : jw_blk code 13 false 4 228 k_Law_law_228 = true := by decide +kernel
set_option maxRecDepth 100000 in
theorem cb_Law_law_261 : jw_blk code 13 false 4 261 k_Law_law_261 = true := by decide +kernel
set_option maxRecDepth 100000 in
theorem cb_Law_law_274 : jw_blk code 13 false 4 274 k_Law_law_274 = true := by decide +kernel
set_option maxRecDepth 100000 in
theorem cb_Law_law_287 : jw_blk code 13 false 4 287 k_Law_law_287 = true := by decide +kernel
set_option maxRecDepth 100000 in
theorem cb_Law_law_300 : jw_blk code 13 false 4 300 k_Law_law_300 = true := by decide +kernel
set_option maxRecDepth 100000 in
theorem cb_Law_law_333 : jw_blk code 13 false 4 333 k_Law_law_333 = true := by decide +kernel
set_option maxRecDepth 100000 in
theorem cb_Law_law_387 : jw_blk code 13 false 4 387 k_Law_law_387 = true := by decide +kernel
set_option maxRecDepth 100000 in
theorem cb_Law_law_420 : jw_blk code 13 false 4 420 k_Law_law_420 = true := by decide +kernel
set_option maxRecDepth 100000 in
theorem cb_Law_law_453 : jw_blk code 13 false 4 453 k_Law_law_453 = true := by decide +kernel
set_option maxRecDepth 100000 in
theorem cb_Law_law_476 : jw_blk code 13 false 4 476 k_Law_law_476 = true := by decide +kernel
set_option maxRecDepth 100000 in
theorem cb_Law_law_539 : jw_blk code 13 false 4 539 k_Law_law_539 = true := by decide +kernel
set_option maxRecDepth 100000 in
theorem cb_Law_law_582 : jw_blk code 13 false 4 582 k_Law_law_582 = true := by decide +kernel
set_option maxRecDepth 100000 in
theorem cb_Law_law_605 : jw_blk code 13 false 4 605 k_Law_law_605 = true := by decide +kernel
set_option maxRecDepth 100000 in
theorem cb_Law_law_628 : jw_blk code 13 false 4 628 k_Law_law_628 = true := by decide +kernel
set_option maxRecDepth 100000 in
theorem cb_Law_law_671 : jw_blk code 13 false 4 671 k_Law_law_671 = true := by decide +kernel
set_option maxRecDepth 100000 in
theorem cb_Law_law_715 : jw_blk code 13 false 4 715 k_Law_law_715 = true := by decide +kernel
set_option maxRecDepth 100000 in
theorem cb_Law_law_738 : jw_blk code 13 false 4 738 k_Law_law_738 = true := by decide +kernel
set_option maxRecDepth 100000 in
theorem cb_Law_law_791 : jw_blk code 13 false 4 791 k_Law_law_791 = true := by decide +kernel
set_option maxRecDepth 100000 in
theorem cb_Law_law_854 : jw_blk code 13 false 4 854 k_Law_law_854 = true := by decide +kernel
set_option maxRecDepth 100000 in
theorem cb_Law_law_917 : jw_blk code 13 false 4 917 k_Law_law_917 = true := by decide +kernel
set_option maxRecDepth 100000 in
theorem cb_Law_law_960 : jw_blk code 13 false 4 960 k_Law_law_960 = true := by decide +kernel
set_option maxRecDepth 100000 in
theorem cb_Law_law_983 : jw_blk code 13 false 4 983 k_Law_law_983 = true := by decide +kernel
set_option maxRecDepth 100000 in
theorem cb_Law_law_1006 : jw_blk code 13 false 4 1006 k_Law_law_1006 = true := by decide +kernel
set_option maxRecDepth 100000 in
theorem cb_Law_law_1029 : jw_blk code 13 false 4 1029 k_Law_law_1029 = true := by decide +kernel
set_option maxRecDepth 100000 in
theorem cb_Law_law_1083 : jw_blk code 13 false 4 1083 k_Law_law_1083 = true := by decide +kernel
set_option maxRecDepth 100000 in
theorem cb_Law_law_1137 : jw_blk code 13 false 4 1137 k_Law_law_1137 = true := by decide +kernel
set_option maxRecDepth 100000 in
theorem cb_Law_law_1170 : jw_blk code 13 false 4 1170 k_Law_law_1170 = true := by decide +kernel
set_option maxRecDepth 100000 in
theorem cb_Law_law_1233 : jw_blk code 13 false 4 1233 k_Law_law_1233 = true := by decide +kernel
set_option maxRecDepth 100000 in
theorem cb_Law_law_1276 : jw_blk code 13 false 4 1276 k_Law_law_1276 = true := by decide +kernel
set_option maxRecDepth 100000 in
theorem cb_Law_law_1330 : jw_blk code 13 false 4 1330 k_Law_law_1330 = true := by decide +kernel
set_option maxRecDepth 100000 in
theorem cb_Law_law_1363 : jw_blk code 13 false 4 1363 k_Law_law_1363 = true := by decide +kernel
set_option maxRecDepth 100000 in
theorem cb_Law_law_1386 : jw_blk code 13 false 4 1386 k_Law_law_1386 = true := by decide +kernel
set_option maxRecDepth 100000 in
theorem cb_Law_law_1419 : jw_blk code 13 false 4 1419 k_Law_law_1419 = true := by decide +kernel
set_option maxRecDepth 100000 in
theorem cb_Law_law_1442 : jw_blk code 13 false 4 1442 k_Law_law_1442 = true := by decide +kernel
set_option maxRecDepth 100000 in
theorem cb_Law_law_1486 : jw_blk code 13 false 4 1486 k_Law_law_1486 = true := by decide +kernel
set_option maxRecDepth 100000 in
theorem cb_Law_law_1529 : jw_blk code 13 false 4 1529 k_Law_law_1529 = true := by decide +kernel
set_option maxRecDepth 100000 in
theorem cb_Law_law_1552 : jw_blk code 13 false 4 1552 k_Law_law_1552 = true := by decide +kernel
set_option maxRecDepth 100000 in
theorem cb_Law_law_1585 : jw_blk code 13 false 4 1585 k_Law_law_1585 = true := by decide +kernel
set_option maxRecDepth 100000 in
theorem cb_Law_law_1618 : jw_blk code 13 false 4 1618 k_Law_law_1618 = true := by decide +kernel
set_option maxRecDepth 100000 in
theorem cb_Law_law_1691 : jw_blk code 13 false 4 1691 k_Law_law_1691 = true := by decide +kernel
set_option maxRecDepth 100000 in
theorem cb_Law_law_1725 : jw_blk code 13 false 4 1725 k_Law_law_1725 = true := by decide +kernel
set_option maxRecDepth 100000 in
theorem cb_Law_law_1788 : jw_blk code 13 false 4 1788 k_Law_law_1788 = true := by decide +kernel
set_option maxRecDepth 100000 in
theorem cb_Law_law_1821 : jw_blk code 13 false 4 1821 k_Law_law_1821 = true := by decide +kernel
set_option maxRecDepth 100000 in
theorem cb_Law_law_1834 : jw_blk code 13 false 4 1834 k_Law_law_1834 = true := by decide +kernel
set_option maxRecDepth 100000 in
theorem cb_Law_law_1847 : jw_blk code 13 false 4 1847 k_Law_law_1847 = true := by decide +kernel
set_option maxRecDepth 100000 in
theorem cb_Law_law_1870 : jw_blk code 13 false 4 1870 k_Law_law_1870 = true := by decide +kernel
set_option maxRecDepth 100000 in
theorem cb_Law_law_1876 : jw_blk code 13 false 4 1876 k_Law_law_1876 = true := by decide +kernel
set_option maxRecDepth 100000 in
theorem ck_Law_law : jw_meth code 13 false m_Law_law = true := by
  simp only [jw_meth, m_Law_law, List.all_cons, List.all_nil, Bool.and_true, Bool.and_self, cb_Law_law_0, cb_Law_law_18, cb_Law_law_228, cb_Law_law_261, cb_Law_law_274, cb_Law_law_287, cb_Law_law_300, cb_Law_law_333, cb_Law_law_387, cb_Law_law_420, cb_Law_law_453, cb_Law_law_476, cb_Law_law_539, cb_Law_law_582, cb_Law_law_605, cb_Law_law_628, cb_Law_law_671, cb_Law_law_715, cb_Law_law_738, cb_Law_law_791, cb_Law_law_854, cb_Law_law_917, cb_Law_law_960, cb_Law_law_983, cb_Law_law_1006, cb_Law_law_1029, cb_Law_law_1083, cb_Law_law_1137, cb_Law_law_1170, cb_Law_law_1233, cb_Law_law_1276, cb_Law_law_1330, cb_Law_law_1363, cb_Law_law_1386, cb_Law_law_1419, cb_Law_law_1442, cb_Law_law_1486, cb_Law_law_1529, cb_Law_law_1552, cb_Law_law_1585, cb_Law_law_1618, cb_Law_law_1691, cb_Law_law_1725, cb_Law_law_1788, cb_Law_law_1821, cb_Law_law_1834, cb_Law_law_1847, cb_Law_law_1870, cb_Law_law_1876]
