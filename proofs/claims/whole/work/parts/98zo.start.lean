/-! ===== the start: both share the same ===== -/
set_option maxRecDepth 100000 in
theorem i_kx : KX SX0 := by unfold KX; decide +kernel
set_option maxRecDepth 100000 in
theorem i_law : gI SX0 16 2 = 0 ∧ gI SX0 19 2 = 0 ∧ gI SX0 22 2 = 0 ∧ (∀ k, k < 3 → gI SM0 21 k = 0 ∧ gI SM0 22 k = 0) := by decide +kernel
set_option maxRecDepth 100000 in
theorem i_sc : ∀ k, k < 16 → scX SX0 2 k = scM SM0 k := by decide +kernel
set_option maxRecDepth 100000 in
theorem i_cnt : ∀ q, q < 5 → gI SX0 (2 + 3 + 2 * q) 3 = 0 ∧ gI SM0 2 (5 + q) = 0 := by decide +kernel
set_option maxRecDepth 100000 in
theorem i_wl : gI SM0 2 4 = 0 ∧ ∀ c, c < 64 → gI SX0 (2 + 1) c = 0 := by decide +kernel
set_option maxRecDepth 100000 in
theorem i_sn : ∀ h, h < 24 → gI SX0 (2 + 2) h = -1 := by decide +kernel
set_option maxRecDepth 100000 in
theorem i_dim : gI SM0 2 0 = 5 ∧ gI SM0 2 1 = 5 ∧ gI SM0 2 10 = 0 ∧ gI SM0 0 57 = 0 := by decide +kernel
set_option maxRecDepth 100000 in
theorem i_w : ∀ k, k < 44 → wX SX0 87 k = wM SM0 0 k := by decide +kernel
set_option maxRecDepth 100000 in
theorem i_w0 : 0 ≤ wM SM0 0 4 ∧ wM SM0 0 4 < 5 ∧ 0 ≤ wM SM0 0 5 ∧ wM SM0 0 5 < 5 ∧ 0 ≤ wM SM0 0 7 ∧ wM SM0 0 7 < 16 ∧ 0 ≤ wM SM0 0 8 ∧ wM SM0 0 8 < 256 ∧ 0 ≤ wM SM0 0 3 ∧ wM SM0 0 3 ≤ 20000 ∧ wM SM0 0 3 ≤ 9900 := by decide +kernel
set_option maxRecDepth 100000 in
theorem i_etc : gI SX0 0 15 = 0 ∧ gI SM0 0 55 = 0 ∧ gI SX0 81 1 = 0 ∧ gI SM0 0 56 = 0 ∧ gI SX0 84 3 = 0 ∧ gI SM0 0 66 = 0 ∧ gI SX0 83 2 = -1 ∧ gI SM0 0 67 = -1 ∧ gI SX0 0 12 = 0 ∧ gI SM0 0 2 = 0 ∧ gI SX0 0 13 = gI SM0 0 36 ∧ gI SX0 0 14 = gI SM0 0 37 := by decide +kernel
