/-! ===== facts of the tables ===== -/
theorem in_1 {w : Cond} (h : w ∈ tables_1_1) : w ∈ lw_tbl := List.mem_append_right _ (List.mem_append_left _ (h))
theorem gm_1 {w : Cond} (i : Nat) (h : tables_1_1[i]? = some w) (hg : goodWord w = true) : w ∈ gtbl := List.mem_filter.mpr ⟨in_1 (List.mem_of_getElem? h), hg⟩
theorem nm_1 {w : Cond} (i : Nat) (h : tables_1_1[i]? = some w) (hg : isNest w = true) : w ∈ ntbl := List.mem_filter.mpr ⟨in_1 (List.mem_of_getElem? h), hg⟩
theorem in_2 {w : Cond} (h : w ∈ tables_1_2) : w ∈ lw_tbl := List.mem_append_right _ (List.mem_append_right _ (List.mem_append_left _ (h)))
theorem gm_2 {w : Cond} (i : Nat) (h : tables_1_2[i]? = some w) (hg : goodWord w = true) : w ∈ gtbl := List.mem_filter.mpr ⟨in_2 (List.mem_of_getElem? h), hg⟩
theorem nm_2 {w : Cond} (i : Nat) (h : tables_1_2[i]? = some w) (hg : isNest w = true) : w ∈ ntbl := List.mem_filter.mpr ⟨in_2 (List.mem_of_getElem? h), hg⟩
theorem in_3 {w : Cond} (h : w ∈ tables_1_3) : w ∈ lw_tbl := List.mem_append_right _ (List.mem_append_right _ (List.mem_append_right _ (List.mem_append_left _ (h))))
theorem gm_3 {w : Cond} (i : Nat) (h : tables_1_3[i]? = some w) (hg : goodWord w = true) : w ∈ gtbl := List.mem_filter.mpr ⟨in_3 (List.mem_of_getElem? h), hg⟩
theorem nm_3 {w : Cond} (i : Nat) (h : tables_1_3[i]? = some w) (hg : isNest w = true) : w ∈ ntbl := List.mem_filter.mpr ⟨in_3 (List.mem_of_getElem? h), hg⟩
theorem in_4 {w : Cond} (h : w ∈ tables_1_4) : w ∈ lw_tbl := List.mem_append_right _ (List.mem_append_right _ (List.mem_append_right _ (List.mem_append_right _ (List.mem_append_left _ (h)))))
theorem gm_4 {w : Cond} (i : Nat) (h : tables_1_4[i]? = some w) (hg : goodWord w = true) : w ∈ gtbl := List.mem_filter.mpr ⟨in_4 (List.mem_of_getElem? h), hg⟩
theorem nm_4 {w : Cond} (i : Nat) (h : tables_1_4[i]? = some w) (hg : isNest w = true) : w ∈ ntbl := List.mem_filter.mpr ⟨in_4 (List.mem_of_getElem? h), hg⟩
theorem in_5 {w : Cond} (h : w ∈ tables_1_5) : w ∈ lw_tbl := List.mem_append_right _ (List.mem_append_right _ (List.mem_append_right _ (List.mem_append_right _ (List.mem_append_right _ (List.mem_append_left _ (h))))))
theorem gm_5 {w : Cond} (i : Nat) (h : tables_1_5[i]? = some w) (hg : goodWord w = true) : w ∈ gtbl := List.mem_filter.mpr ⟨in_5 (List.mem_of_getElem? h), hg⟩
theorem nm_5 {w : Cond} (i : Nat) (h : tables_1_5[i]? = some w) (hg : isNest w = true) : w ∈ ntbl := List.mem_filter.mpr ⟨in_5 (List.mem_of_getElem? h), hg⟩
theorem in_6 {w : Cond} (h : w ∈ tables_1_6) : w ∈ lw_tbl := List.mem_append_right _ (List.mem_append_right _ (List.mem_append_right _ (List.mem_append_right _ (List.mem_append_right _ (List.mem_append_right _ (List.mem_append_left _ (h)))))))
theorem gm_6 {w : Cond} (i : Nat) (h : tables_1_6[i]? = some w) (hg : goodWord w = true) : w ∈ gtbl := List.mem_filter.mpr ⟨in_6 (List.mem_of_getElem? h), hg⟩
theorem nm_6 {w : Cond} (i : Nat) (h : tables_1_6[i]? = some w) (hg : isNest w = true) : w ∈ ntbl := List.mem_filter.mpr ⟨in_6 (List.mem_of_getElem? h), hg⟩
theorem in_7 {w : Cond} (h : w ∈ tables_1_7) : w ∈ lw_tbl := List.mem_append_right _ (List.mem_append_right _ (List.mem_append_right _ (List.mem_append_right _ (List.mem_append_right _ (List.mem_append_right _ (List.mem_append_right _ (List.mem_append_left _ (h))))))))
theorem gm_7 {w : Cond} (i : Nat) (h : tables_1_7[i]? = some w) (hg : goodWord w = true) : w ∈ gtbl := List.mem_filter.mpr ⟨in_7 (List.mem_of_getElem? h), hg⟩
theorem nm_7 {w : Cond} (i : Nat) (h : tables_1_7[i]? = some w) (hg : isNest w = true) : w ∈ ntbl := List.mem_filter.mpr ⟨in_7 (List.mem_of_getElem? h), hg⟩
theorem in_8 {w : Cond} (h : w ∈ tables_1_8) : w ∈ lw_tbl := List.mem_append_right _ (List.mem_append_right _ (List.mem_append_right _ (List.mem_append_right _ (List.mem_append_right _ (List.mem_append_right _ (List.mem_append_right _ (List.mem_append_right _ (List.mem_append_left _ (h)))))))))
theorem gm_8 {w : Cond} (i : Nat) (h : tables_1_8[i]? = some w) (hg : goodWord w = true) : w ∈ gtbl := List.mem_filter.mpr ⟨in_8 (List.mem_of_getElem? h), hg⟩
theorem nm_8 {w : Cond} (i : Nat) (h : tables_1_8[i]? = some w) (hg : isNest w = true) : w ∈ ntbl := List.mem_filter.mpr ⟨in_8 (List.mem_of_getElem? h), hg⟩
theorem in_9 {w : Cond} (h : w ∈ tables_1_9) : w ∈ lw_tbl := List.mem_append_right _ (List.mem_append_right _ (List.mem_append_right _ (List.mem_append_right _ (List.mem_append_right _ (List.mem_append_right _ (List.mem_append_right _ (List.mem_append_right _ (List.mem_append_right _ (h)))))))))
theorem gm_9 {w : Cond} (i : Nat) (h : tables_1_9[i]? = some w) (hg : goodWord w = true) : w ∈ gtbl := List.mem_filter.mpr ⟨in_9 (List.mem_of_getElem? h), hg⟩
theorem nm_9 {w : Cond} (i : Nat) (h : tables_1_9[i]? = some w) (hg : isNest w = true) : w ∈ ntbl := List.mem_filter.mpr ⟨in_9 (List.mem_of_getElem? h), hg⟩
theorem gm_p {w : Cond} (i : Nat) (h : (k2_sels lw_privs)[i]? = some w) (hg : goodWord w = true) : w ∈ gtbl := List.mem_filter.mpr ⟨List.mem_append_left _ (List.mem_of_getElem? h), hg⟩
set_option maxRecDepth 100000 in
theorem inX0 : ∀ w ∈ u_ws RX0 TX0 2, w ∈ gtbl := by decide +kernel
set_option maxRecDepth 100000 in
theorem inX1 : ∀ w ∈ u_ws RX1 TX1 3, w ∈ gtbl := by decide +kernel
set_option maxRecDepth 100000 in
theorem inX2 : ∀ w ∈ u_ws RX2 TX2 2, w ∈ gtbl := by decide +kernel
set_option maxRecDepth 100000 in
theorem inX3 : ∀ w ∈ u_ws RX3 TX3 3, w ∈ gtbl := by decide +kernel
set_option maxRecDepth 100000 in
theorem inX4 : ∀ w ∈ u_ws RX4 TX4 6, w ∈ gtbl := by decide +kernel
set_option maxRecDepth 100000 in
theorem inX5 : ∀ w ∈ u_ws RX5 TX5 19, w ∈ gtbl := by decide +kernel
set_option maxRecDepth 100000 in
theorem inX6 : ∀ w ∈ u_ws RX6 TX6 3, w ∈ gtbl := by decide +kernel
set_option maxRecDepth 100000 in
theorem inX7 : ∀ w ∈ u_ws RX7 TX7 4, w ∈ gtbl := by decide +kernel
set_option maxRecDepth 100000 in
theorem inX8 : ∀ w ∈ u_ws RX8 TX8 16, w ∈ gtbl := by decide +kernel
set_option maxRecDepth 100000 in
theorem inX9 : ∀ w ∈ u_ws RX9 TX9 16, w ∈ gtbl := by decide +kernel
set_option maxRecDepth 100000 in
theorem inX10 : ∀ w ∈ u_ws RX10 TX10 16, w ∈ gtbl := by decide +kernel
set_option maxRecDepth 100000 in
theorem inX11 : ∀ w ∈ u_ws RX11 TX11 74, w ∈ gtbl := by decide +kernel
theorem flX0_104 : mFl RX0 104 9 5 99 := ⟨by decide, rfl, RX9, TX9, 16, rfl, by decide, inX9, (Or.inr ⟨"ShadowTwin", nm_2 83 rfl rfl⟩)⟩
theorem flX0_11 : mFl RX0 11 0 0 13 := ⟨by decide, rfl, RX0, TX0, 2, rfl, by decide, inX0, (Or.inl (gm_2 43 rfl rfl))⟩
theorem flX0_132 : mFl RX0 132 9 15 99 := ⟨by decide, rfl, RX9, TX9, 16, rfl, by decide, inX9, (Or.inr ⟨"ShadowTwin", nm_2 119 rfl rfl⟩)⟩
theorem flX0_146 : mFl RX0 146 8 8 99 := ⟨by decide, rfl, RX8, TX8, 16, rfl, by decide, inX8, (Or.inr ⟨"ShadowTwin", nm_1 104 rfl rfl⟩)⟩
theorem flX0_15 : mFl RX0 15 0 1 8 := ⟨by decide, rfl, RX0, TX0, 2, rfl, by decide, inX0, (Or.inl (gm_2 44 rfl rfl))⟩
theorem flX0_157 : mFl RX0 157 9 12 99 := ⟨by decide, rfl, RX9, TX9, 16, rfl, by decide, inX9, (Or.inr ⟨"ShadowTwin", nm_2 108 rfl rfl⟩)⟩
theorem flX0_160 : mFl RX0 160 8 9 99 := ⟨by decide, rfl, RX8, TX8, 16, rfl, by decide, inX8, (Or.inr ⟨"ShadowTwin", nm_1 108 rfl rfl⟩)⟩
theorem flX0_163 : mFl RX0 163 9 13 99 := ⟨by decide, rfl, RX9, TX9, 16, rfl, by decide, inX9, (Or.inr ⟨"ShadowTwin", nm_2 112 rfl rfl⟩)⟩
theorem flX0_169 : mFl RX0 169 8 3 7 := ⟨by decide, rfl, RX8, TX8, 16, rfl, by decide, inX8, (Or.inr ⟨"ShadowTwin", nm_1 85 rfl rfl⟩)⟩
theorem flX0_172 : mFl RX0 172 9 7 99 := ⟨by decide, rfl, RX9, TX9, 16, rfl, by decide, inX9, (Or.inr ⟨"ShadowTwin", nm_2 92 rfl rfl⟩)⟩
theorem flX0_178 : mFl RX0 178 8 5 7 := ⟨by decide, rfl, RX8, TX8, 16, rfl, by decide, inX8, (Or.inr ⟨"ShadowTwin", nm_1 93 rfl rfl⟩)⟩
theorem flX0_184 : mFl RX0 184 9 8 99 := ⟨by decide, rfl, RX9, TX9, 16, rfl, by decide, inX9, (Or.inr ⟨"ShadowTwin", nm_2 98 rfl rfl⟩)⟩
theorem flX0_187 : mFl RX0 187 8 6 7 := ⟨by decide, rfl, RX8, TX8, 16, rfl, by decide, inX8, (Or.inr ⟨"ShadowTwin", nm_1 97 rfl rfl⟩)⟩
theorem flX0_190 : mFl RX0 190 9 0 13 := ⟨by decide, rfl, RX9, TX9, 16, rfl, by decide, inX9, (Or.inr ⟨"ShadowTwin", nm_2 67 rfl rfl⟩)⟩
theorem flX0_196 : mFl RX0 196 9 1 13 := ⟨by decide, rfl, RX9, TX9, 16, rfl, by decide, inX9, (Or.inr ⟨"ShadowTwin", nm_2 70 rfl rfl⟩)⟩
theorem flX0_208 : mFl RX0 208 8 7 16 := ⟨by decide, rfl, RX8, TX8, 16, rfl, by decide, inX8, (Or.inr ⟨"ShadowTwin", nm_1 101 rfl rfl⟩)⟩
theorem flX0_27 : mFl RX0 27 8 4 7 := ⟨by decide, rfl, RX8, TX8, 16, rfl, by decide, inX8, (Or.inr ⟨"ShadowTwin", nm_1 89 rfl rfl⟩)⟩
theorem flX0_43 : mFl RX0 43 9 3 99 := ⟨by decide, rfl, RX9, TX9, 16, rfl, by decide, inX9, (Or.inr ⟨"ShadowTwin", nm_2 74 rfl rfl⟩)⟩
theorem flX0_57 : mFl RX0 57 9 14 99 := ⟨by decide, rfl, RX9, TX9, 16, rfl, by decide, inX9, (Or.inr ⟨"ShadowTwin", nm_2 116 rfl rfl⟩)⟩
theorem flX0_61 : mFl RX0 61 9 10 99 := ⟨by decide, rfl, RX9, TX9, 16, rfl, by decide, inX9, (Or.inr ⟨"ShadowTwin", nm_2 103 rfl rfl⟩)⟩
theorem flX0_71 : mFl RX0 71 9 6 99 := ⟨by decide, rfl, RX9, TX9, 16, rfl, by decide, inX9, (Or.inr ⟨"ShadowTwin", nm_2 88 rfl rfl⟩)⟩
theorem flX0_74 : mFl RX0 74 8 13 99 := ⟨by decide, rfl, RX8, TX8, 16, rfl, by decide, inX8, (Or.inr ⟨"ShadowTwin", nm_1 119 rfl rfl⟩)⟩
theorem flX0_77 : mFl RX0 77 8 2 7 := ⟨by decide, rfl, RX8, TX8, 16, rfl, by decide, inX8, (Or.inr ⟨"ShadowTwin", nm_1 81 rfl rfl⟩)⟩
theorem flX0_80 : mFl RX0 80 9 11 99 := ⟨by decide, rfl, RX9, TX9, 16, rfl, by decide, inX9, (Or.inr ⟨"ShadowTwin", nm_2 106 rfl rfl⟩)⟩
theorem flX0_94 : mFl RX0 94 9 9 99 := ⟨by decide, rfl, RX9, TX9, 16, rfl, by decide, inX9, (Or.inr ⟨"ShadowTwin", nm_2 100 rfl rfl⟩)⟩
theorem flX0_97 : mFl RX0 97 9 4 99 := ⟨by decide, rfl, RX9, TX9, 16, rfl, by decide, inX9, (Or.inr ⟨"ShadowTwin", nm_2 78 rfl rfl⟩)⟩
theorem flX10_110 : mFl RX10 110 5 16 99 := ⟨by decide, rfl, RX5, TX5, 19, rfl, by decide, inX5, (Or.inr ⟨"ShadowTwin", nm_1 233 rfl rfl⟩)⟩
theorem flX10_113 : mFl RX10 113 10 13 99 := ⟨by decide, rfl, RX10, TX10, 16, rfl, by decide, inX10, (Or.inl (gm_3 44 rfl rfl))⟩
theorem flX10_116 : mFl RX10 116 5 17 99 := ⟨by decide, rfl, RX5, TX5, 19, rfl, by decide, inX5, (Or.inr ⟨"ShadowTwin", nm_1 235 rfl rfl⟩)⟩
theorem flX10_117 : mFl RX10 117 5 18 99 := ⟨by decide, rfl, RX5, TX5, 19, rfl, by decide, inX5, (Or.inr ⟨"ShadowTwin", nm_1 237 rfl rfl⟩)⟩
theorem flX10_124 : mFl RX10 124 8 10 99 := ⟨by decide, rfl, RX8, TX8, 16, rfl, by decide, inX8, (Or.inr ⟨"ShadowTwin", nm_1 111 rfl rfl⟩)⟩
theorem flX10_127 : mFl RX10 127 8 11 99 := ⟨by decide, rfl, RX8, TX8, 16, rfl, by decide, inX8, (Or.inr ⟨"ShadowTwin", nm_1 114 rfl rfl⟩)⟩
theorem flX10_133 : mFl RX10 133 10 15 99 := ⟨by decide, rfl, RX10, TX10, 16, rfl, by decide, inX10, (Or.inl (gm_3 46 rfl rfl))⟩
theorem flX10_141 : mFl RX10 141 8 3 7 := ⟨by decide, rfl, RX8, TX8, 16, rfl, by decide, inX8, (Or.inr ⟨"ShadowTwin", nm_1 86 rfl rfl⟩)⟩
theorem flX10_151 : mFl RX10 151 8 5 7 := ⟨by decide, rfl, RX8, TX8, 16, rfl, by decide, inX8, (Or.inr ⟨"ShadowTwin", nm_1 92 rfl rfl⟩)⟩
theorem flX10_154 : mFl RX10 154 8 6 7 := ⟨by decide, rfl, RX8, TX8, 16, rfl, by decide, inX8, (Or.inr ⟨"ShadowTwin", nm_1 96 rfl rfl⟩)⟩
theorem flX10_16 : mFl RX10 16 10 1 8 := ⟨by decide, rfl, RX10, TX10, 16, rfl, by decide, inX10, (Or.inl (gm_3 32 rfl rfl))⟩
theorem flX10_161 : mFl RX10 161 9 4 99 := ⟨by decide, rfl, RX9, TX9, 16, rfl, by decide, inX9, (Or.inr ⟨"ShadowTwin", nm_2 79 rfl rfl⟩)⟩
theorem flX10_164 : mFl RX10 164 9 5 99 := ⟨by decide, rfl, RX9, TX9, 16, rfl, by decide, inX9, (Or.inr ⟨"ShadowTwin", nm_2 84 rfl rfl⟩)⟩
theorem flX10_167 : mFl RX10 167 9 12 99 := ⟨by decide, rfl, RX9, TX9, 16, rfl, by decide, inX9, (Or.inr ⟨"ShadowTwin", nm_2 111 rfl rfl⟩)⟩
theorem flX10_170 : mFl RX10 170 9 13 99 := ⟨by decide, rfl, RX9, TX9, 16, rfl, by decide, inX9, (Or.inr ⟨"ShadowTwin", nm_2 114 rfl rfl⟩)⟩
theorem flX10_173 : mFl RX10 173 9 14 99 := ⟨by decide, rfl, RX9, TX9, 16, rfl, by decide, inX9, (Or.inr ⟨"ShadowTwin", nm_2 118 rfl rfl⟩)⟩
theorem flX10_176 : mFl RX10 176 9 6 99 := ⟨by decide, rfl, RX9, TX9, 16, rfl, by decide, inX9, (Or.inr ⟨"ShadowTwin", nm_2 89 rfl rfl⟩)⟩
theorem flX10_195 : mFl RX10 195 9 8 99 := ⟨by decide, rfl, RX9, TX9, 16, rfl, by decide, inX9, (Or.inr ⟨"ShadowTwin", nm_2 97 rfl rfl⟩)⟩
theorem flX10_20 : mFl RX10 20 10 2 8 := ⟨by decide, rfl, RX10, TX10, 16, rfl, by decide, inX10, (Or.inl (gm_3 33 rfl rfl))⟩
theorem flX10_204 : mFl RX10 204 9 0 13 := ⟨by decide, rfl, RX9, TX9, 16, rfl, by decide, inX9, (Or.inr ⟨"ShadowTwin", nm_2 66 rfl rfl⟩)⟩
theorem flX10_208 : mFl RX10 208 9 1 13 := ⟨by decide, rfl, RX9, TX9, 16, rfl, by decide, inX9, (Or.inr ⟨"ShadowTwin", nm_2 69 rfl rfl⟩)⟩
theorem flX10_211 : mFl RX10 211 9 2 13 := ⟨by decide, rfl, RX9, TX9, 16, rfl, by decide, inX9, (Or.inr ⟨"ShadowTwin", nm_2 72 rfl rfl⟩)⟩
theorem flX10_218 : mFl RX10 218 9 7 99 := ⟨by decide, rfl, RX9, TX9, 16, rfl, by decide, inX9, (Or.inr ⟨"ShadowTwin", nm_2 93 rfl rfl⟩)⟩
theorem flX10_228 : mFl RX10 228 9 15 99 := ⟨by decide, rfl, RX9, TX9, 16, rfl, by decide, inX9, (Or.inr ⟨"ShadowTwin", nm_2 120 rfl rfl⟩)⟩
theorem flX10_258 : mFl RX10 258 9 3 99 := ⟨by decide, rfl, RX9, TX9, 16, rfl, by decide, inX9, (Or.inr ⟨"ShadowTwin", nm_2 75 rfl rfl⟩)⟩
theorem flX10_275 : mFl RX10 275 9 9 99 := ⟨by decide, rfl, RX9, TX9, 16, rfl, by decide, inX9, (Or.inr ⟨"ShadowTwin", nm_2 101 rfl rfl⟩)⟩
theorem flX10_28 : mFl RX10 28 10 3 5 := ⟨by decide, rfl, RX10, TX10, 16, rfl, by decide, inX10, (Or.inl (gm_3 34 rfl rfl))⟩
theorem flX10_282 : mFl RX10 282 9 10 99 := ⟨by decide, rfl, RX9, TX9, 16, rfl, by decide, inX9, (Or.inr ⟨"ShadowTwin", nm_2 104 rfl rfl⟩)⟩
theorem flX10_293 : mFl RX10 293 8 8 99 := ⟨by decide, rfl, RX8, TX8, 16, rfl, by decide, inX8, (Or.inr ⟨"ShadowTwin", nm_1 105 rfl rfl⟩)⟩
theorem flX10_296 : mFl RX10 296 8 9 99 := ⟨by decide, rfl, RX8, TX8, 16, rfl, by decide, inX8, (Or.inr ⟨"ShadowTwin", nm_1 109 rfl rfl⟩)⟩
theorem flX10_313 : mFl RX10 313 4 4 99 := ⟨by decide, rfl, RX4, TX4, 6, rfl, by decide, inX4, (Or.inr ⟨"ShadowTwin", nm_2 160 rfl rfl⟩)⟩
theorem flX10_316 : mFl RX10 316 4 0 13 := ⟨by decide, rfl, RX4, TX4, 6, rfl, by decide, inX4, (Or.inr ⟨"ShadowTwin", nm_2 155 rfl rfl⟩)⟩
theorem flX10_328 : mFl RX10 328 8 13 99 := ⟨by decide, rfl, RX8, TX8, 16, rfl, by decide, inX8, (Or.inr ⟨"ShadowTwin", nm_1 121 rfl rfl⟩)⟩
theorem flX10_35 : mFl RX10 35 10 4 0 := ⟨by decide, rfl, RX10, TX10, 16, rfl, by decide, inX10, (Or.inl (gm_3 35 rfl rfl))⟩
theorem flX10_358 : mFl RX10 358 9 11 99 := ⟨by decide, rfl, RX9, TX9, 16, rfl, by decide, inX9, (Or.inr ⟨"ShadowTwin", nm_2 107 rfl rfl⟩)⟩
theorem flX10_365 : mFl RX10 365 8 15 99 := ⟨by decide, rfl, RX8, TX8, 16, rfl, by decide, inX8, (Or.inr ⟨"ShadowTwin", nm_1 127 rfl rfl⟩)⟩
theorem flX10_371 : mFl RX10 371 2 1 99 := ⟨by decide, rfl, RX2, TX2, 2, rfl, by decide, inX2, (Or.inr ⟨"ShadowTwin", nm_2 199 rfl rfl⟩)⟩
theorem flX10_44 : mFl RX10 44 10 5 4 := ⟨by decide, rfl, RX10, TX10, 16, rfl, by decide, inX10, (Or.inl (gm_3 36 rfl rfl))⟩
theorem flX10_51 : mFl RX10 51 10 6 3 := ⟨by decide, rfl, RX10, TX10, 16, rfl, by decide, inX10, (Or.inl (gm_3 37 rfl rfl))⟩
theorem flX10_58 : mFl RX10 58 10 7 2 := ⟨by decide, rfl, RX10, TX10, 16, rfl, by decide, inX10, (Or.inl (gm_3 38 rfl rfl))⟩
theorem flX10_65 : mFl RX10 65 10 8 6 := ⟨by decide, rfl, RX10, TX10, 16, rfl, by decide, inX10, (Or.inl (gm_3 39 rfl rfl))⟩
theorem flX10_72 : mFl RX10 72 10 9 9 := ⟨by decide, rfl, RX10, TX10, 16, rfl, by decide, inX10, (Or.inl (gm_3 40 rfl rfl))⟩
theorem flX10_76 : mFl RX10 76 10 10 9 := ⟨by decide, rfl, RX10, TX10, 16, rfl, by decide, inX10, (Or.inl (gm_3 41 rfl rfl))⟩
theorem flX10_79 : mFl RX10 79 10 11 9 := ⟨by decide, rfl, RX10, TX10, 16, rfl, by decide, inX10, (Or.inl (gm_3 42 rfl rfl))⟩
theorem flX10_82 : mFl RX10 82 10 14 99 := ⟨by decide, rfl, RX10, TX10, 16, rfl, by decide, inX10, (Or.inl (gm_3 45 rfl rfl))⟩
theorem flX10_9 : mFl RX10 9 10 0 12 := ⟨by decide, rfl, RX10, TX10, 16, rfl, by decide, inX10, (Or.inl (gm_3 31 rfl rfl))⟩
theorem flX10_92 : mFl RX10 92 10 12 99 := ⟨by decide, rfl, RX10, TX10, 16, rfl, by decide, inX10, (Or.inl (gm_3 43 rfl rfl))⟩
theorem flX11_102 : mFl RX11 102 11 46 13 := ⟨by decide, rfl, RX11, TX11, 74, rfl, by decide, inX11, (Or.inl (gm_6 97 rfl rfl))⟩
theorem flX11_105 : mFl RX11 105 11 47 13 := ⟨by decide, rfl, RX11, TX11, 74, rfl, by decide, inX11, (Or.inl (gm_6 98 rfl rfl))⟩
theorem flX11_108 : mFl RX11 108 11 48 13 := ⟨by decide, rfl, RX11, TX11, 74, rfl, by decide, inX11, (Or.inl (gm_6 99 rfl rfl))⟩
theorem flX11_111 : mFl RX11 111 11 49 13 := ⟨by decide, rfl, RX11, TX11, 74, rfl, by decide, inX11, (Or.inl (gm_6 100 rfl rfl))⟩
theorem flX11_114 : mFl RX11 114 11 50 13 := ⟨by decide, rfl, RX11, TX11, 74, rfl, by decide, inX11, (Or.inl (gm_6 101 rfl rfl))⟩
theorem flX11_117 : mFl RX11 117 11 51 13 := ⟨by decide, rfl, RX11, TX11, 74, rfl, by decide, inX11, (Or.inl (gm_6 102 rfl rfl))⟩
theorem flX11_120 : mFl RX11 120 11 52 13 := ⟨by decide, rfl, RX11, TX11, 74, rfl, by decide, inX11, (Or.inl (gm_6 103 rfl rfl))⟩
theorem flX11_123 : mFl RX11 123 11 53 13 := ⟨by decide, rfl, RX11, TX11, 74, rfl, by decide, inX11, (Or.inl (gm_6 104 rfl rfl))⟩
theorem flX11_126 : mFl RX11 126 11 54 13 := ⟨by decide, rfl, RX11, TX11, 74, rfl, by decide, inX11, (Or.inl (gm_6 105 rfl rfl))⟩
theorem flX11_129 : mFl RX11 129 11 62 13 := ⟨by decide, rfl, RX11, TX11, 74, rfl, by decide, inX11, (Or.inl (gm_6 113 rfl rfl))⟩
theorem flX11_13 : mFl RX11 13 11 3 13 := ⟨by decide, rfl, RX11, TX11, 74, rfl, by decide, inX11, (Or.inl (gm_6 54 rfl rfl))⟩
theorem flX11_132 : mFl RX11 132 11 63 13 := ⟨by decide, rfl, RX11, TX11, 74, rfl, by decide, inX11, (Or.inl (gm_6 114 rfl rfl))⟩
theorem flX11_135 : mFl RX11 135 11 64 13 := ⟨by decide, rfl, RX11, TX11, 74, rfl, by decide, inX11, (Or.inl (gm_6 115 rfl rfl))⟩
theorem flX11_138 : mFl RX11 138 11 67 99 := ⟨by decide, rfl, RX11, TX11, 74, rfl, by decide, inX11, (Or.inl (gm_6 118 rfl rfl))⟩
theorem flX11_141 : mFl RX11 141 11 68 13 := ⟨by decide, rfl, RX11, TX11, 74, rfl, by decide, inX11, (Or.inl (gm_6 119 rfl rfl))⟩
theorem flX11_144 : mFl RX11 144 11 69 13 := ⟨by decide, rfl, RX11, TX11, 74, rfl, by decide, inX11, (Or.inl (gm_6 120 rfl rfl))⟩
theorem flX11_147 : mFl RX11 147 11 70 13 := ⟨by decide, rfl, RX11, TX11, 74, rfl, by decide, inX11, (Or.inl (gm_6 121 rfl rfl))⟩
theorem flX11_150 : mFl RX11 150 11 71 15 := ⟨by decide, rfl, RX11, TX11, 74, rfl, by decide, inX11, (Or.inl (gm_6 122 rfl rfl))⟩
theorem flX11_154 : mFl RX11 154 11 72 13 := ⟨by decide, rfl, RX11, TX11, 74, rfl, by decide, inX11, (Or.inl (gm_6 123 rfl rfl))⟩
theorem flX11_157 : mFl RX11 157 11 73 15 := ⟨by decide, rfl, RX11, TX11, 74, rfl, by decide, inX11, (Or.inl (gm_6 124 rfl rfl))⟩
theorem flX11_16 : mFl RX11 16 11 4 13 := ⟨by decide, rfl, RX11, TX11, 74, rfl, by decide, inX11, (Or.inl (gm_6 55 rfl rfl))⟩
theorem flX11_163 : mFl RX11 163 11 0 99 := ⟨by decide, rfl, RX11, TX11, 74, rfl, by decide, inX11, (Or.inl (gm_6 51 rfl rfl))⟩
theorem flX11_166 : mFl RX11 166 11 2 99 := ⟨by decide, rfl, RX11, TX11, 74, rfl, by decide, inX11, (Or.inl (gm_6 53 rfl rfl))⟩
theorem flX11_169 : mFl RX11 169 11 30 99 := ⟨by decide, rfl, RX11, TX11, 74, rfl, by decide, inX11, (Or.inl (gm_6 81 rfl rfl))⟩
theorem flX11_172 : mFl RX11 172 11 29 99 := ⟨by decide, rfl, RX11, TX11, 74, rfl, by decide, inX11, (Or.inl (gm_6 80 rfl rfl))⟩
theorem flX11_179 : mFl RX11 179 11 31 99 := ⟨by decide, rfl, RX11, TX11, 74, rfl, by decide, inX11, (Or.inl (gm_6 82 rfl rfl))⟩
theorem flX11_182 : mFl RX11 182 11 32 99 := ⟨by decide, rfl, RX11, TX11, 74, rfl, by decide, inX11, (Or.inl (gm_6 83 rfl rfl))⟩
theorem flX11_19 : mFl RX11 19 11 5 13 := ⟨by decide, rfl, RX11, TX11, 74, rfl, by decide, inX11, (Or.inl (gm_6 56 rfl rfl))⟩
theorem flX11_192 : mFl RX11 192 11 33 99 := ⟨by decide, rfl, RX11, TX11, 74, rfl, by decide, inX11, (Or.inl (gm_6 84 rfl rfl))⟩
theorem flX11_217 : mFl RX11 217 11 34 99 := ⟨by decide, rfl, RX11, TX11, 74, rfl, by decide, inX11, (Or.inl (gm_6 85 rfl rfl))⟩
theorem flX11_22 : mFl RX11 22 11 6 13 := ⟨by decide, rfl, RX11, TX11, 74, rfl, by decide, inX11, (Or.inl (gm_6 57 rfl rfl))⟩
theorem flX11_220 : mFl RX11 220 11 35 99 := ⟨by decide, rfl, RX11, TX11, 74, rfl, by decide, inX11, (Or.inl (gm_6 86 rfl rfl))⟩
theorem flX11_237 : mFl RX11 237 11 28 99 := ⟨by decide, rfl, RX11, TX11, 74, rfl, by decide, inX11, (Or.inl (gm_6 79 rfl rfl))⟩
theorem flX11_246 : mFl RX11 246 11 27 99 := ⟨by decide, rfl, RX11, TX11, 74, rfl, by decide, inX11, (Or.inl (gm_6 78 rfl rfl))⟩
theorem flX11_25 : mFl RX11 25 11 7 13 := ⟨by decide, rfl, RX11, TX11, 74, rfl, by decide, inX11, (Or.inl (gm_6 58 rfl rfl))⟩
theorem flX11_279 : mFl RX11 279 11 26 99 := ⟨by decide, rfl, RX11, TX11, 74, rfl, by decide, inX11, (Or.inl (gm_6 77 rfl rfl))⟩
theorem flX11_28 : mFl RX11 28 11 8 13 := ⟨by decide, rfl, RX11, TX11, 74, rfl, by decide, inX11, (Or.inl (gm_6 59 rfl rfl))⟩
theorem flX11_285 : mFl RX11 285 11 39 99 := ⟨by decide, rfl, RX11, TX11, 74, rfl, by decide, inX11, (Or.inl (gm_6 90 rfl rfl))⟩
theorem flX11_31 : mFl RX11 31 11 9 13 := ⟨by decide, rfl, RX11, TX11, 74, rfl, by decide, inX11, (Or.inl (gm_6 60 rfl rfl))⟩
theorem flX11_315 : mFl RX11 315 11 38 99 := ⟨by decide, rfl, RX11, TX11, 74, rfl, by decide, inX11, (Or.inl (gm_6 89 rfl rfl))⟩
theorem flX11_321 : mFl RX11 321 11 36 99 := ⟨by decide, rfl, RX11, TX11, 74, rfl, by decide, inX11, (Or.inl (gm_6 87 rfl rfl))⟩
theorem flX11_328 : mFl RX11 328 11 66 99 := ⟨by decide, rfl, RX11, TX11, 74, rfl, by decide, inX11, (Or.inl (gm_6 117 rfl rfl))⟩
theorem flX11_331 : mFl RX11 331 11 55 99 := ⟨by decide, rfl, RX11, TX11, 74, rfl, by decide, inX11, (Or.inl (gm_6 106 rfl rfl))⟩
theorem flX11_335 : mFl RX11 335 11 56 99 := ⟨by decide, rfl, RX11, TX11, 74, rfl, by decide, inX11, (Or.inl (gm_6 107 rfl rfl))⟩
theorem flX11_338 : mFl RX11 338 11 42 99 := ⟨by decide, rfl, RX11, TX11, 74, rfl, by decide, inX11, (Or.inl (gm_6 93 rfl rfl))⟩
theorem flX11_34 : mFl RX11 34 11 10 13 := ⟨by decide, rfl, RX11, TX11, 74, rfl, by decide, inX11, (Or.inl (gm_6 61 rfl rfl))⟩
theorem flX11_37 : mFl RX11 37 11 11 13 := ⟨by decide, rfl, RX11, TX11, 74, rfl, by decide, inX11, (Or.inl (gm_6 62 rfl rfl))⟩
theorem flX11_387 : mFl RX11 387 11 58 99 := ⟨by decide, rfl, RX11, TX11, 74, rfl, by decide, inX11, (Or.inl (gm_6 109 rfl rfl))⟩
theorem flX11_393 : mFl RX11 393 11 59 99 := ⟨by decide, rfl, RX11, TX11, 74, rfl, by decide, inX11, (Or.inl (gm_6 110 rfl rfl))⟩
theorem flX11_40 : mFl RX11 40 11 12 13 := ⟨by decide, rfl, RX11, TX11, 74, rfl, by decide, inX11, (Or.inl (gm_6 63 rfl rfl))⟩
theorem flX11_403 : mFl RX11 403 11 60 99 := ⟨by decide, rfl, RX11, TX11, 74, rfl, by decide, inX11, (Or.inl (gm_6 111 rfl rfl))⟩
theorem flX11_406 : mFl RX11 406 11 61 99 := ⟨by decide, rfl, RX11, TX11, 74, rfl, by decide, inX11, (Or.inl (gm_6 112 rfl rfl))⟩
theorem flX11_409 : mFl RX11 409 11 57 99 := ⟨by decide, rfl, RX11, TX11, 74, rfl, by decide, inX11, (Or.inl (gm_6 108 rfl rfl))⟩
theorem flX11_43 : mFl RX11 43 11 13 13 := ⟨by decide, rfl, RX11, TX11, 74, rfl, by decide, inX11, (Or.inl (gm_6 64 rfl rfl))⟩
theorem flX11_46 : mFl RX11 46 11 14 13 := ⟨by decide, rfl, RX11, TX11, 74, rfl, by decide, inX11, (Or.inl (gm_6 65 rfl rfl))⟩
theorem flX11_49 : mFl RX11 49 11 15 13 := ⟨by decide, rfl, RX11, TX11, 74, rfl, by decide, inX11, (Or.inl (gm_6 66 rfl rfl))⟩
theorem flX11_506 : mFl RX11 506 11 65 99 := ⟨by decide, rfl, RX11, TX11, 74, rfl, by decide, inX11, (Or.inl (gm_6 116 rfl rfl))⟩
theorem flX11_52 : mFl RX11 52 11 16 13 := ⟨by decide, rfl, RX11, TX11, 74, rfl, by decide, inX11, (Or.inl (gm_6 67 rfl rfl))⟩
theorem flX11_55 : mFl RX11 55 11 17 13 := ⟨by decide, rfl, RX11, TX11, 74, rfl, by decide, inX11, (Or.inl (gm_6 68 rfl rfl))⟩
theorem flX11_58 : mFl RX11 58 11 18 13 := ⟨by decide, rfl, RX11, TX11, 74, rfl, by decide, inX11, (Or.inl (gm_6 69 rfl rfl))⟩
theorem flX11_61 : mFl RX11 61 11 19 13 := ⟨by decide, rfl, RX11, TX11, 74, rfl, by decide, inX11, (Or.inl (gm_6 70 rfl rfl))⟩
theorem flX11_64 : mFl RX11 64 11 20 13 := ⟨by decide, rfl, RX11, TX11, 74, rfl, by decide, inX11, (Or.inl (gm_6 71 rfl rfl))⟩
theorem flX11_67 : mFl RX11 67 11 21 13 := ⟨by decide, rfl, RX11, TX11, 74, rfl, by decide, inX11, (Or.inl (gm_6 72 rfl rfl))⟩
theorem flX11_7 : mFl RX11 7 11 1 13 := ⟨by decide, rfl, RX11, TX11, 74, rfl, by decide, inX11, (Or.inl (gm_6 52 rfl rfl))⟩
theorem flX11_70 : mFl RX11 70 11 22 13 := ⟨by decide, rfl, RX11, TX11, 74, rfl, by decide, inX11, (Or.inl (gm_6 73 rfl rfl))⟩
theorem flX11_73 : mFl RX11 73 11 23 13 := ⟨by decide, rfl, RX11, TX11, 74, rfl, by decide, inX11, (Or.inl (gm_6 74 rfl rfl))⟩
theorem flX11_76 : mFl RX11 76 11 24 13 := ⟨by decide, rfl, RX11, TX11, 74, rfl, by decide, inX11, (Or.inl (gm_6 75 rfl rfl))⟩
theorem flX11_79 : mFl RX11 79 11 25 13 := ⟨by decide, rfl, RX11, TX11, 74, rfl, by decide, inX11, (Or.inl (gm_6 76 rfl rfl))⟩
theorem flX11_82 : mFl RX11 82 11 37 99 := ⟨by decide, rfl, RX11, TX11, 74, rfl, by decide, inX11, (Or.inl (gm_6 88 rfl rfl))⟩
theorem flX11_86 : mFl RX11 86 11 40 14 := ⟨by decide, rfl, RX11, TX11, 74, rfl, by decide, inX11, (Or.inl (gm_6 91 rfl rfl))⟩
theorem flX11_90 : mFl RX11 90 11 41 14 := ⟨by decide, rfl, RX11, TX11, 74, rfl, by decide, inX11, (Or.inl (gm_6 92 rfl rfl))⟩
theorem flX11_93 : mFl RX11 93 11 43 13 := ⟨by decide, rfl, RX11, TX11, 74, rfl, by decide, inX11, (Or.inl (gm_6 94 rfl rfl))⟩
theorem flX11_96 : mFl RX11 96 11 44 13 := ⟨by decide, rfl, RX11, TX11, 74, rfl, by decide, inX11, (Or.inl (gm_6 95 rfl rfl))⟩
theorem flX11_99 : mFl RX11 99 11 45 13 := ⟨by decide, rfl, RX11, TX11, 74, rfl, by decide, inX11, (Or.inl (gm_6 96 rfl rfl))⟩
theorem flX1_11 : mFl RX1 11 1 0 13 := ⟨by decide, rfl, RX1, TX1, 3, rfl, by decide, inX1, (Or.inl (gm_1 67 rfl rfl))⟩
theorem flX1_15 : mFl RX1 15 1 1 14 := ⟨by decide, rfl, RX1, TX1, 3, rfl, by decide, inX1, (Or.inl (gm_1 68 rfl rfl))⟩
theorem flX1_19 : mFl RX1 19 1 2 99 := ⟨by decide, rfl, RX1, TX1, 3, rfl, by decide, inX1, (Or.inl (gm_1 69 rfl rfl))⟩
theorem flX2_11 : mFl RX2 11 2 0 13 := ⟨by decide, rfl, RX2, TX2, 2, rfl, by decide, inX2, (Or.inl (gm_2 197 rfl rfl))⟩
theorem flX2_15 : mFl RX2 15 2 1 99 := ⟨by decide, rfl, RX2, TX2, 2, rfl, by decide, inX2, (Or.inl (gm_2 198 rfl rfl))⟩
theorem flX2_22 : mFl RX2 22 9 4 99 := ⟨by decide, rfl, RX9, TX9, 16, rfl, by decide, inX9, (Or.inr ⟨"ShadowTwin", nm_2 77 rfl rfl⟩)⟩
theorem flX2_27 : mFl RX2 27 9 5 99 := ⟨by decide, rfl, RX9, TX9, 16, rfl, by decide, inX9, (Or.inr ⟨"ShadowTwin", nm_2 82 rfl rfl⟩)⟩
theorem flX2_30 : mFl RX2 30 9 6 99 := ⟨by decide, rfl, RX9, TX9, 16, rfl, by decide, inX9, (Or.inr ⟨"ShadowTwin", nm_2 87 rfl rfl⟩)⟩
theorem flX2_33 : mFl RX2 33 9 7 99 := ⟨by decide, rfl, RX9, TX9, 16, rfl, by decide, inX9, (Or.inr ⟨"ShadowTwin", nm_2 91 rfl rfl⟩)⟩
theorem flX2_36 : mFl RX2 36 9 8 99 := ⟨by decide, rfl, RX9, TX9, 16, rfl, by decide, inX9, (Or.inr ⟨"ShadowTwin", nm_2 96 rfl rfl⟩)⟩
theorem flX3_15 : mFl RX3 15 3 1 13 := ⟨by decide, rfl, RX3, TX3, 3, rfl, by decide, inX3, (Or.inl (gm_2 182 rfl rfl))⟩
theorem flX3_18 : mFl RX3 18 3 2 99 := ⟨by decide, rfl, RX3, TX3, 3, rfl, by decide, inX3, (Or.inl (gm_2 183 rfl rfl))⟩
theorem flX3_9 : mFl RX3 9 3 0 13 := ⟨by decide, rfl, RX3, TX3, 3, rfl, by decide, inX3, (Or.inl (gm_2 181 rfl rfl))⟩
theorem flX4_15 : mFl RX4 15 4 1 13 := ⟨by decide, rfl, RX4, TX4, 6, rfl, by decide, inX4, (Or.inl (gm_2 156 rfl rfl))⟩
theorem flX4_21 : mFl RX4 21 4 2 17 := ⟨by decide, rfl, RX4, TX4, 6, rfl, by decide, inX4, (Or.inl (gm_2 157 rfl rfl))⟩
theorem flX4_25 : mFl RX4 25 4 3 0 := ⟨by decide, rfl, RX4, TX4, 6, rfl, by decide, inX4, (Or.inl (gm_2 158 rfl rfl))⟩
theorem flX4_29 : mFl RX4 29 4 4 99 := ⟨by decide, rfl, RX4, TX4, 6, rfl, by decide, inX4, (Or.inl (gm_2 159 rfl rfl))⟩
theorem flX4_33 : mFl RX4 33 0 1 8 := ⟨by decide, rfl, RX0, TX0, 2, rfl, by decide, inX0, (Or.inr ⟨"ShadowTwin", nm_2 45 rfl rfl⟩)⟩
theorem flX4_39 : mFl RX4 39 9 8 99 := ⟨by decide, rfl, RX9, TX9, 16, rfl, by decide, inX9, (Or.inr ⟨"ShadowTwin", nm_2 94 rfl rfl⟩)⟩
theorem flX4_48 : mFl RX4 48 4 5 99 := ⟨by decide, rfl, RX4, TX4, 6, rfl, by decide, inX4, (Or.inl (gm_2 161 rfl rfl))⟩
theorem flX4_9 : mFl RX4 9 4 0 13 := ⟨by decide, rfl, RX4, TX4, 6, rfl, by decide, inX4, (Or.inl (gm_2 154 rfl rfl))⟩
theorem flX5_13 : mFl RX5 13 5 0 13 := ⟨by decide, rfl, RX5, TX5, 19, rfl, by decide, inX5, (Or.inl (gm_1 216 rfl rfl))⟩
theorem flX5_137 : mFl RX5 137 8 8 99 := ⟨by decide, rfl, RX8, TX8, 16, rfl, by decide, inX8, (Or.inr ⟨"ShadowTwin", nm_1 103 rfl rfl⟩)⟩
theorem flX5_140 : mFl RX5 140 8 9 99 := ⟨by decide, rfl, RX8, TX8, 16, rfl, by decide, inX8, (Or.inr ⟨"ShadowTwin", nm_1 107 rfl rfl⟩)⟩
theorem flX5_143 : mFl RX5 143 8 12 99 := ⟨by decide, rfl, RX8, TX8, 16, rfl, by decide, inX8, (Or.inr ⟨"ShadowTwin", nm_1 117 rfl rfl⟩)⟩
theorem flX5_150 : mFl RX5 150 8 10 99 := ⟨by decide, rfl, RX8, TX8, 16, rfl, by decide, inX8, (Or.inr ⟨"ShadowTwin", nm_1 112 rfl rfl⟩)⟩
theorem flX5_153 : mFl RX5 153 8 11 99 := ⟨by decide, rfl, RX8, TX8, 16, rfl, by decide, inX8, (Or.inr ⟨"ShadowTwin", nm_1 115 rfl rfl⟩)⟩
theorem flX5_163 : mFl RX5 163 5 8 99 := ⟨by decide, rfl, RX5, TX5, 19, rfl, by decide, inX5, (Or.inl (gm_1 224 rfl rfl))⟩
theorem flX5_169 : mFl RX5 169 8 2 7 := ⟨by decide, rfl, RX8, TX8, 16, rfl, by decide, inX8, (Or.inr ⟨"ShadowTwin", nm_1 82 rfl rfl⟩)⟩
theorem flX5_17 : mFl RX5 17 5 1 13 := ⟨by decide, rfl, RX5, TX5, 19, rfl, by decide, inX5, (Or.inl (gm_1 217 rfl rfl))⟩
theorem flX5_188 : mFl RX5 188 8 3 7 := ⟨by decide, rfl, RX8, TX8, 16, rfl, by decide, inX8, (Or.inr ⟨"ShadowTwin", nm_1 87 rfl rfl⟩)⟩
theorem flX5_195 : mFl RX5 195 8 4 7 := ⟨by decide, rfl, RX8, TX8, 16, rfl, by decide, inX8, (Or.inr ⟨"ShadowTwin", nm_1 90 rfl rfl⟩)⟩
theorem flX5_198 : mFl RX5 198 8 5 7 := ⟨by decide, rfl, RX8, TX8, 16, rfl, by decide, inX8, (Or.inr ⟨"ShadowTwin", nm_1 94 rfl rfl⟩)⟩
theorem flX5_20 : mFl RX5 20 5 2 12 := ⟨by decide, rfl, RX5, TX5, 19, rfl, by decide, inX5, (Or.inl (gm_1 218 rfl rfl))⟩
theorem flX5_201 : mFl RX5 201 8 6 7 := ⟨by decide, rfl, RX8, TX8, 16, rfl, by decide, inX8, (Or.inr ⟨"ShadowTwin", nm_1 98 rfl rfl⟩)⟩
theorem flX5_217 : mFl RX5 217 5 6 99 := ⟨by decide, rfl, RX5, TX5, 19, rfl, by decide, inX5, (Or.inl (gm_1 222 rfl rfl))⟩
theorem flX5_220 : mFl RX5 220 5 11 99 := ⟨by decide, rfl, RX5, TX5, 19, rfl, by decide, inX5, (Or.inl (gm_1 227 rfl rfl))⟩
theorem flX5_223 : mFl RX5 223 5 12 99 := ⟨by decide, rfl, RX5, TX5, 19, rfl, by decide, inX5, (Or.inl (gm_1 228 rfl rfl))⟩
theorem flX5_24 : mFl RX5 24 5 9 8 := ⟨by decide, rfl, RX5, TX5, 19, rfl, by decide, inX5, (Or.inl (gm_1 225 rfl rfl))⟩
theorem flX5_258 : mFl RX5 258 8 15 99 := ⟨by decide, rfl, RX8, TX8, 16, rfl, by decide, inX8, (Or.inr ⟨"ShadowTwin", nm_1 126 rfl rfl⟩)⟩
theorem flX5_28 : mFl RX5 28 8 7 16 := ⟨by decide, rfl, RX8, TX8, 16, rfl, by decide, inX8, (Or.inr ⟨"ShadowTwin", nm_1 99 rfl rfl⟩)⟩
theorem flX5_34 : mFl RX5 34 5 10 1 := ⟨by decide, rfl, RX5, TX5, 19, rfl, by decide, inX5, (Or.inl (gm_1 226 rfl rfl))⟩
theorem flX5_56 : mFl RX5 56 5 3 99 := ⟨by decide, rfl, RX5, TX5, 19, rfl, by decide, inX5, (Or.inl (gm_1 219 rfl rfl))⟩
theorem flX5_59 : mFl RX5 59 5 4 99 := ⟨by decide, rfl, RX5, TX5, 19, rfl, by decide, inX5, (Or.inl (gm_1 220 rfl rfl))⟩
theorem flX5_62 : mFl RX5 62 5 7 99 := ⟨by decide, rfl, RX5, TX5, 19, rfl, by decide, inX5, (Or.inl (gm_1 223 rfl rfl))⟩
theorem flX5_68 : mFl RX5 68 5 13 99 := ⟨by decide, rfl, RX5, TX5, 19, rfl, by decide, inX5, (Or.inl (gm_1 229 rfl rfl))⟩
theorem flX5_72 : mFl RX5 72 5 14 99 := ⟨by decide, rfl, RX5, TX5, 19, rfl, by decide, inX5, (Or.inl (gm_1 230 rfl rfl))⟩
theorem flX5_75 : mFl RX5 75 5 15 99 := ⟨by decide, rfl, RX5, TX5, 19, rfl, by decide, inX5, (Or.inl (gm_1 231 rfl rfl))⟩
theorem flX5_78 : mFl RX5 78 5 16 99 := ⟨by decide, rfl, RX5, TX5, 19, rfl, by decide, inX5, (Or.inl (gm_1 232 rfl rfl))⟩
theorem flX5_84 : mFl RX5 84 5 18 99 := ⟨by decide, rfl, RX5, TX5, 19, rfl, by decide, inX5, (Or.inl (gm_1 236 rfl rfl))⟩
theorem flX5_90 : mFl RX5 90 5 5 99 := ⟨by decide, rfl, RX5, TX5, 19, rfl, by decide, inX5, (Or.inl (gm_1 221 rfl rfl))⟩
theorem flX6_14 : mFl RX6 14 6 0 7 := ⟨by decide, rfl, RX6, TX6, 3, rfl, by decide, inX6, (Or.inl (gm_2 213 rfl rfl))⟩
theorem flX6_20 : mFl RX6 20 6 1 15 := ⟨by decide, rfl, RX6, TX6, 3, rfl, by decide, inX6, (Or.inl (gm_2 214 rfl rfl))⟩
theorem flX6_27 : mFl RX6 27 6 2 99 := ⟨by decide, rfl, RX6, TX6, 3, rfl, by decide, inX6, (Or.inl (gm_2 215 rfl rfl))⟩
theorem flX6_71 : mFl RX6 71 9 4 99 := ⟨by decide, rfl, RX9, TX9, 16, rfl, by decide, inX9, (Or.inr ⟨"ShadowTwin", nm_2 80 rfl rfl⟩)⟩
theorem flX6_76 : mFl RX6 76 9 12 99 := ⟨by decide, rfl, RX9, TX9, 16, rfl, by decide, inX9, (Or.inr ⟨"ShadowTwin", nm_2 110 rfl rfl⟩)⟩
theorem flX6_79 : mFl RX6 79 9 5 99 := ⟨by decide, rfl, RX9, TX9, 16, rfl, by decide, inX9, (Or.inr ⟨"ShadowTwin", nm_2 85 rfl rfl⟩)⟩
theorem flX6_82 : mFl RX6 82 9 13 99 := ⟨by decide, rfl, RX9, TX9, 16, rfl, by decide, inX9, (Or.inr ⟨"ShadowTwin", nm_2 115 rfl rfl⟩)⟩
theorem flX7_15 : mFl RX7 15 7 1 99 := ⟨by decide, rfl, RX7, TX7, 4, rfl, by decide, inX7, (Or.inl (gm_1 45 rfl rfl))⟩
theorem flX7_19 : mFl RX7 19 7 2 99 := ⟨by decide, rfl, RX7, TX7, 4, rfl, by decide, inX7, (Or.inl (gm_1 46 rfl rfl))⟩
theorem flX7_22 : mFl RX7 22 7 3 99 := ⟨by decide, rfl, RX7, TX7, 4, rfl, by decide, inX7, (Or.inl (gm_1 47 rfl rfl))⟩
theorem flX7_9 : mFl RX7 9 7 0 13 := ⟨by decide, rfl, RX7, TX7, 4, rfl, by decide, inX7, (Or.inl (gm_1 44 rfl rfl))⟩
theorem flX8_15 : mFl RX8 15 8 1 13 := ⟨by decide, rfl, RX8, TX8, 16, rfl, by decide, inX8, (Or.inl (gm_1 79 rfl rfl))⟩
theorem flX8_24 : mFl RX8 24 8 2 7 := ⟨by decide, rfl, RX8, TX8, 16, rfl, by decide, inX8, (Or.inl (gm_1 80 rfl rfl))⟩
theorem flX8_28 : mFl RX8 28 8 3 7 := ⟨by decide, rfl, RX8, TX8, 16, rfl, by decide, inX8, (Or.inl (gm_1 83 rfl rfl))⟩
theorem flX8_31 : mFl RX8 31 8 4 7 := ⟨by decide, rfl, RX8, TX8, 16, rfl, by decide, inX8, (Or.inl (gm_1 88 rfl rfl))⟩
theorem flX8_34 : mFl RX8 34 8 5 7 := ⟨by decide, rfl, RX8, TX8, 16, rfl, by decide, inX8, (Or.inl (gm_1 91 rfl rfl))⟩
theorem flX8_37 : mFl RX8 37 8 6 7 := ⟨by decide, rfl, RX8, TX8, 16, rfl, by decide, inX8, (Or.inl (gm_1 95 rfl rfl))⟩
theorem flX8_43 : mFl RX8 43 8 7 16 := ⟨by decide, rfl, RX8, TX8, 16, rfl, by decide, inX8, (Or.inl (gm_1 100 rfl rfl))⟩
theorem flX8_51 : mFl RX8 51 8 8 99 := ⟨by decide, rfl, RX8, TX8, 16, rfl, by decide, inX8, (Or.inl (gm_1 102 rfl rfl))⟩
theorem flX8_55 : mFl RX8 55 8 9 99 := ⟨by decide, rfl, RX8, TX8, 16, rfl, by decide, inX8, (Or.inl (gm_1 106 rfl rfl))⟩
theorem flX8_64 : mFl RX8 64 8 12 99 := ⟨by decide, rfl, RX8, TX8, 16, rfl, by decide, inX8, (Or.inl (gm_1 116 rfl rfl))⟩
theorem flX8_9 : mFl RX8 9 8 0 15 := ⟨by decide, rfl, RX8, TX8, 16, rfl, by decide, inX8, (Or.inl (gm_1 78 rfl rfl))⟩
theorem flX9_15 : mFl RX9 15 9 1 13 := ⟨by decide, rfl, RX9, TX9, 16, rfl, by decide, inX9, (Or.inl (gm_2 68 rfl rfl))⟩
theorem flX9_18 : mFl RX9 18 9 2 13 := ⟨by decide, rfl, RX9, TX9, 16, rfl, by decide, inX9, (Or.inl (gm_2 71 rfl rfl))⟩
theorem flX9_21 : mFl RX9 21 9 3 99 := ⟨by decide, rfl, RX9, TX9, 16, rfl, by decide, inX9, (Or.inl (gm_2 73 rfl rfl))⟩
theorem flX9_25 : mFl RX9 25 9 4 99 := ⟨by decide, rfl, RX9, TX9, 16, rfl, by decide, inX9, (Or.inl (gm_2 76 rfl rfl))⟩
theorem flX9_28 : mFl RX9 28 9 5 99 := ⟨by decide, rfl, RX9, TX9, 16, rfl, by decide, inX9, (Or.inl (gm_2 81 rfl rfl))⟩
theorem flX9_31 : mFl RX9 31 9 6 99 := ⟨by decide, rfl, RX9, TX9, 16, rfl, by decide, inX9, (Or.inl (gm_2 86 rfl rfl))⟩
theorem flX9_34 : mFl RX9 34 8 3 7 := ⟨by decide, rfl, RX8, TX8, 16, rfl, by decide, inX8, (Or.inr ⟨"ShadowTwin", nm_1 84 rfl rfl⟩)⟩
theorem flX9_46 : mFl RX9 46 9 7 99 := ⟨by decide, rfl, RX9, TX9, 16, rfl, by decide, inX9, (Or.inl (gm_2 90 rfl rfl))⟩
theorem flX9_49 : mFl RX9 49 9 8 99 := ⟨by decide, rfl, RX9, TX9, 16, rfl, by decide, inX9, (Or.inl (gm_2 95 rfl rfl))⟩
theorem flX9_52 : mFl RX9 52 9 9 99 := ⟨by decide, rfl, RX9, TX9, 16, rfl, by decide, inX9, (Or.inl (gm_2 99 rfl rfl))⟩
theorem flX9_55 : mFl RX9 55 9 10 99 := ⟨by decide, rfl, RX9, TX9, 16, rfl, by decide, inX9, (Or.inl (gm_2 102 rfl rfl))⟩
theorem flX9_58 : mFl RX9 58 8 14 99 := ⟨by decide, rfl, RX8, TX8, 16, rfl, by decide, inX8, (Or.inr ⟨"ShadowTwin", nm_1 122 rfl rfl⟩)⟩
theorem flX9_61 : mFl RX9 61 9 11 99 := ⟨by decide, rfl, RX9, TX9, 16, rfl, by decide, inX9, (Or.inl (gm_2 105 rfl rfl))⟩
theorem flX9_70 : mFl RX9 70 9 14 99 := ⟨by decide, rfl, RX9, TX9, 16, rfl, by decide, inX9, (Or.inl (gm_2 117 rfl rfl))⟩
theorem flX9_74 : mFl RX9 74 9 12 99 := ⟨by decide, rfl, RX9, TX9, 16, rfl, by decide, inX9, (Or.inl (gm_2 109 rfl rfl))⟩
theorem flX9_77 : mFl RX9 77 9 13 99 := ⟨by decide, rfl, RX9, TX9, 16, rfl, by decide, inX9, (Or.inl (gm_2 113 rfl rfl))⟩
theorem flX9_9 : mFl RX9 9 9 0 13 := ⟨by decide, rfl, RX9, TX9, 16, rfl, by decide, inX9, (Or.inl (gm_2 65 rfl rfl))⟩
theorem fpX0_104 : mFp RX0 104 9 5 99 (.int) := ⟨by decide, rfl, RX9, TX9, 16, tyX9, rfl, by decide, inX9, (Or.inr ⟨"ShadowTwin", nm_2 83 rfl rfl⟩), tyX9_ok, nmX9, rfl, by decide +kernel⟩
theorem fpX0_132 : mFp RX0 132 9 15 99 (.int) := ⟨by decide, rfl, RX9, TX9, 16, tyX9, rfl, by decide, inX9, (Or.inr ⟨"ShadowTwin", nm_2 119 rfl rfl⟩), tyX9_ok, nmX9, rfl, by decide +kernel⟩
theorem fpX0_157 : mFp RX0 157 9 12 99 (.int) := ⟨by decide, rfl, RX9, TX9, 16, tyX9, rfl, by decide, inX9, (Or.inr ⟨"ShadowTwin", nm_2 108 rfl rfl⟩), tyX9_ok, nmX9, rfl, by decide +kernel⟩
theorem fpX0_163 : mFp RX0 163 9 13 99 (.int) := ⟨by decide, rfl, RX9, TX9, 16, tyX9, rfl, by decide, inX9, (Or.inr ⟨"ShadowTwin", nm_2 112 rfl rfl⟩), tyX9_ok, nmX9, rfl, by decide +kernel⟩
theorem fpX0_184 : mFp RX0 184 9 8 99 (.int) := ⟨by decide, rfl, RX9, TX9, 16, tyX9, rfl, by decide, inX9, (Or.inr ⟨"ShadowTwin", nm_2 98 rfl rfl⟩), tyX9_ok, nmX9, rfl, by decide +kernel⟩
theorem fpX0_43 : mFp RX0 43 9 3 99 (.int) := ⟨by decide, rfl, RX9, TX9, 16, tyX9, rfl, by decide, inX9, (Or.inr ⟨"ShadowTwin", nm_2 74 rfl rfl⟩), tyX9_ok, nmX9, rfl, by decide +kernel⟩
theorem fpX0_57 : mFp RX0 57 9 14 99 (.boolean) := ⟨by decide, rfl, RX9, TX9, 16, tyX9, rfl, by decide, inX9, (Or.inr ⟨"ShadowTwin", nm_2 116 rfl rfl⟩), tyX9_ok, nmX9, rfl, by decide +kernel⟩
theorem fpX0_61 : mFp RX0 61 9 10 99 (.int) := ⟨by decide, rfl, RX9, TX9, 16, tyX9, rfl, by decide, inX9, (Or.inr ⟨"ShadowTwin", nm_2 103 rfl rfl⟩), tyX9_ok, nmX9, rfl, by decide +kernel⟩
theorem fpX0_71 : mFp RX0 71 9 6 99 (.int) := ⟨by decide, rfl, RX9, TX9, 16, tyX9, rfl, by decide, inX9, (Or.inr ⟨"ShadowTwin", nm_2 88 rfl rfl⟩), tyX9_ok, nmX9, rfl, by decide +kernel⟩
theorem fpX0_80 : mFp RX0 80 9 11 99 (.int) := ⟨by decide, rfl, RX9, TX9, 16, tyX9, rfl, by decide, inX9, (Or.inr ⟨"ShadowTwin", nm_2 106 rfl rfl⟩), tyX9_ok, nmX9, rfl, by decide +kernel⟩
theorem fpX0_94 : mFp RX0 94 9 9 99 (.int) := ⟨by decide, rfl, RX9, TX9, 16, tyX9, rfl, by decide, inX9, (Or.inr ⟨"ShadowTwin", nm_2 100 rfl rfl⟩), tyX9_ok, nmX9, rfl, by decide +kernel⟩
theorem fpX0_97 : mFp RX0 97 9 4 99 (.int) := ⟨by decide, rfl, RX9, TX9, 16, tyX9, rfl, by decide, inX9, (Or.inr ⟨"ShadowTwin", nm_2 78 rfl rfl⟩), tyX9_ok, nmX9, rfl, by decide +kernel⟩
theorem fpX10_113 : mFp RX10 113 10 13 99 (.int) := ⟨by decide, rfl, RX10, TX10, 16, tyX10, rfl, by decide, inX10, (Or.inl (gm_3 44 rfl rfl)), tyX10_ok, nmX10, rfl, by decide +kernel⟩
theorem fpX10_123 : mFp RX10 123 0 1 8 (.object "ShadowTwin$Told") := ⟨by decide, rfl, RX0, TX0, 2, tyX0, rfl, by decide, inX0, (Or.inr ⟨"ShadowTwin", nm_2 46 rfl rfl⟩), tyX0_ok, nmX0, rfl, by decide +kernel⟩
theorem fpX10_133 : mFp RX10 133 10 15 99 (.boolean) := ⟨by decide, rfl, RX10, TX10, 16, tyX10, rfl, by decide, inX10, (Or.inl (gm_3 46 rfl rfl)), tyX10_ok, nmX10, rfl, by decide +kernel⟩
theorem fpX10_16 : mFp RX10 16 10 1 8 (.object "ShadowTwin$Told") := ⟨by decide, rfl, RX10, TX10, 16, tyX10, rfl, by decide, inX10, (Or.inl (gm_3 32 rfl rfl)), tyX10_ok, nmX10, rfl, by decide +kernel⟩
theorem fpX10_161 : mFp RX10 161 9 4 99 (.int) := ⟨by decide, rfl, RX9, TX9, 16, tyX9, rfl, by decide, inX9, (Or.inr ⟨"ShadowTwin", nm_2 79 rfl rfl⟩), tyX9_ok, nmX9, rfl, by decide +kernel⟩
theorem fpX10_164 : mFp RX10 164 9 5 99 (.int) := ⟨by decide, rfl, RX9, TX9, 16, tyX9, rfl, by decide, inX9, (Or.inr ⟨"ShadowTwin", nm_2 84 rfl rfl⟩), tyX9_ok, nmX9, rfl, by decide +kernel⟩
theorem fpX10_176 : mFp RX10 176 9 6 99 (.int) := ⟨by decide, rfl, RX9, TX9, 16, tyX9, rfl, by decide, inX9, (Or.inr ⟨"ShadowTwin", nm_2 89 rfl rfl⟩), tyX9_ok, nmX9, rfl, by decide +kernel⟩
theorem fpX10_195 : mFp RX10 195 9 8 99 (.int) := ⟨by decide, rfl, RX9, TX9, 16, tyX9, rfl, by decide, inX9, (Or.inr ⟨"ShadowTwin", nm_2 97 rfl rfl⟩), tyX9_ok, nmX9, rfl, by decide +kernel⟩
theorem fpX10_20 : mFp RX10 20 10 2 8 (.object "ShadowTwin$Told") := ⟨by decide, rfl, RX10, TX10, 16, tyX10, rfl, by decide, inX10, (Or.inl (gm_3 33 rfl rfl)), tyX10_ok, nmX10, rfl, by decide +kernel⟩
theorem fpX10_218 : mFp RX10 218 9 7 99 (.int) := ⟨by decide, rfl, RX9, TX9, 16, tyX9, rfl, by decide, inX9, (Or.inr ⟨"ShadowTwin", nm_2 93 rfl rfl⟩), tyX9_ok, nmX9, rfl, by decide +kernel⟩
theorem fpX10_258 : mFp RX10 258 9 3 99 (.int) := ⟨by decide, rfl, RX9, TX9, 16, tyX9, rfl, by decide, inX9, (Or.inr ⟨"ShadowTwin", nm_2 75 rfl rfl⟩), tyX9_ok, nmX9, rfl, by decide +kernel⟩
theorem fpX10_342 : mFp RX10 342 6 2 99 (.int) := ⟨by decide, rfl, RX6, TX6, 3, tyX6, rfl, by decide, inX6, (Or.inr ⟨"ShadowTwin", nm_2 216 rfl rfl⟩), tyX6_ok, nmX6, rfl, by decide +kernel⟩
theorem fpX10_358 : mFp RX10 358 9 11 99 (.int) := ⟨by decide, rfl, RX9, TX9, 16, tyX9, rfl, by decide, inX9, (Or.inr ⟨"ShadowTwin", nm_2 107 rfl rfl⟩), tyX9_ok, nmX9, rfl, by decide +kernel⟩
theorem fpX10_82 : mFp RX10 82 10 14 99 (.int) := ⟨by decide, rfl, RX10, TX10, 16, tyX10, rfl, by decide, inX10, (Or.inl (gm_3 45 rfl rfl)), tyX10_ok, nmX10, rfl, by decide +kernel⟩
theorem fpX10_92 : mFp RX10 92 10 12 99 (.int) := ⟨by decide, rfl, RX10, TX10, 16, tyX10, rfl, by decide, inX10, (Or.inl (gm_3 43 rfl rfl)), tyX10_ok, nmX10, rfl, by decide +kernel⟩
theorem fpX11_138 : mFp RX11 138 11 67 99 (.int) := ⟨by decide, rfl, RX11, TX11, 74, tyX11, rfl, by decide, inX11, (Or.inl (gm_6 118 rfl rfl)), tyX11_ok, nmX11, rfl, by decide +kernel⟩
theorem fpX11_163 : mFp RX11 163 11 0 99 (.int) := ⟨by decide, rfl, RX11, TX11, 74, tyX11, rfl, by decide, inX11, (Or.inl (gm_6 51 rfl rfl)), tyX11_ok, nmX11, rfl, by decide +kernel⟩
theorem fpX11_166 : mFp RX11 166 11 2 99 (.int) := ⟨by decide, rfl, RX11, TX11, 74, tyX11, rfl, by decide, inX11, (Or.inl (gm_6 53 rfl rfl)), tyX11_ok, nmX11, rfl, by decide +kernel⟩
theorem fpX11_169 : mFp RX11 169 11 30 99 (.int) := ⟨by decide, rfl, RX11, TX11, 74, tyX11, rfl, by decide, inX11, (Or.inl (gm_6 81 rfl rfl)), tyX11_ok, nmX11, rfl, by decide +kernel⟩
theorem fpX11_172 : mFp RX11 172 11 29 99 (.int) := ⟨by decide, rfl, RX11, TX11, 74, tyX11, rfl, by decide, inX11, (Or.inl (gm_6 80 rfl rfl)), tyX11_ok, nmX11, rfl, by decide +kernel⟩
theorem fpX11_179 : mFp RX11 179 11 31 99 (.int) := ⟨by decide, rfl, RX11, TX11, 74, tyX11, rfl, by decide, inX11, (Or.inl (gm_6 82 rfl rfl)), tyX11_ok, nmX11, rfl, by decide +kernel⟩
theorem fpX11_182 : mFp RX11 182 11 32 99 (.int) := ⟨by decide, rfl, RX11, TX11, 74, tyX11, rfl, by decide, inX11, (Or.inl (gm_6 83 rfl rfl)), tyX11_ok, nmX11, rfl, by decide +kernel⟩
theorem fpX11_192 : mFp RX11 192 11 33 99 (.int) := ⟨by decide, rfl, RX11, TX11, 74, tyX11, rfl, by decide, inX11, (Or.inl (gm_6 84 rfl rfl)), tyX11_ok, nmX11, rfl, by decide +kernel⟩
theorem fpX11_217 : mFp RX11 217 11 34 99 (.int) := ⟨by decide, rfl, RX11, TX11, 74, tyX11, rfl, by decide, inX11, (Or.inl (gm_6 85 rfl rfl)), tyX11_ok, nmX11, rfl, by decide +kernel⟩
theorem fpX11_220 : mFp RX11 220 11 35 99 (.int) := ⟨by decide, rfl, RX11, TX11, 74, tyX11, rfl, by decide, inX11, (Or.inl (gm_6 86 rfl rfl)), tyX11_ok, nmX11, rfl, by decide +kernel⟩
theorem fpX11_237 : mFp RX11 237 11 28 99 (.int) := ⟨by decide, rfl, RX11, TX11, 74, tyX11, rfl, by decide, inX11, (Or.inl (gm_6 79 rfl rfl)), tyX11_ok, nmX11, rfl, by decide +kernel⟩
theorem fpX11_246 : mFp RX11 246 11 27 99 (.int) := ⟨by decide, rfl, RX11, TX11, 74, tyX11, rfl, by decide, inX11, (Or.inl (gm_6 78 rfl rfl)), tyX11_ok, nmX11, rfl, by decide +kernel⟩
theorem fpX11_279 : mFp RX11 279 11 26 99 (.int) := ⟨by decide, rfl, RX11, TX11, 74, tyX11, rfl, by decide, inX11, (Or.inl (gm_6 77 rfl rfl)), tyX11_ok, nmX11, rfl, by decide +kernel⟩
theorem fpX11_285 : mFp RX11 285 11 39 99 (.int) := ⟨by decide, rfl, RX11, TX11, 74, tyX11, rfl, by decide, inX11, (Or.inl (gm_6 90 rfl rfl)), tyX11_ok, nmX11, rfl, by decide +kernel⟩
theorem fpX11_315 : mFp RX11 315 11 38 99 (.int) := ⟨by decide, rfl, RX11, TX11, 74, tyX11, rfl, by decide, inX11, (Or.inl (gm_6 89 rfl rfl)), tyX11_ok, nmX11, rfl, by decide +kernel⟩
theorem fpX11_321 : mFp RX11 321 11 36 99 (.int) := ⟨by decide, rfl, RX11, TX11, 74, tyX11, rfl, by decide, inX11, (Or.inl (gm_6 87 rfl rfl)), tyX11_ok, nmX11, rfl, by decide +kernel⟩
theorem fpX11_328 : mFp RX11 328 11 66 99 (.int) := ⟨by decide, rfl, RX11, TX11, 74, tyX11, rfl, by decide, inX11, (Or.inl (gm_6 117 rfl rfl)), tyX11_ok, nmX11, rfl, by decide +kernel⟩
theorem fpX11_331 : mFp RX11 331 11 55 99 (.boolean) := ⟨by decide, rfl, RX11, TX11, 74, tyX11, rfl, by decide, inX11, (Or.inl (gm_6 106 rfl rfl)), tyX11_ok, nmX11, rfl, by decide +kernel⟩
theorem fpX11_335 : mFp RX11 335 11 56 99 (.int) := ⟨by decide, rfl, RX11, TX11, 74, tyX11, rfl, by decide, inX11, (Or.inl (gm_6 107 rfl rfl)), tyX11_ok, nmX11, rfl, by decide +kernel⟩
theorem fpX11_338 : mFp RX11 338 11 42 99 (.int) := ⟨by decide, rfl, RX11, TX11, 74, tyX11, rfl, by decide, inX11, (Or.inl (gm_6 93 rfl rfl)), tyX11_ok, nmX11, rfl, by decide +kernel⟩
theorem fpX11_387 : mFp RX11 387 11 58 99 (.int) := ⟨by decide, rfl, RX11, TX11, 74, tyX11, rfl, by decide, inX11, (Or.inl (gm_6 109 rfl rfl)), tyX11_ok, nmX11, rfl, by decide +kernel⟩
theorem fpX11_393 : mFp RX11 393 11 59 99 (.int) := ⟨by decide, rfl, RX11, TX11, 74, tyX11, rfl, by decide, inX11, (Or.inl (gm_6 110 rfl rfl)), tyX11_ok, nmX11, rfl, by decide +kernel⟩
theorem fpX11_403 : mFp RX11 403 11 60 99 (.boolean) := ⟨by decide, rfl, RX11, TX11, 74, tyX11, rfl, by decide, inX11, (Or.inl (gm_6 111 rfl rfl)), tyX11_ok, nmX11, rfl, by decide +kernel⟩
theorem fpX11_406 : mFp RX11 406 11 61 99 (.int) := ⟨by decide, rfl, RX11, TX11, 74, tyX11, rfl, by decide, inX11, (Or.inl (gm_6 112 rfl rfl)), tyX11_ok, nmX11, rfl, by decide +kernel⟩
theorem fpX11_409 : mFp RX11 409 11 57 99 (.int) := ⟨by decide, rfl, RX11, TX11, 74, tyX11, rfl, by decide, inX11, (Or.inl (gm_6 108 rfl rfl)), tyX11_ok, nmX11, rfl, by decide +kernel⟩
theorem fpX11_506 : mFp RX11 506 11 65 99 (.int) := ⟨by decide, rfl, RX11, TX11, 74, tyX11, rfl, by decide, inX11, (Or.inl (gm_6 116 rfl rfl)), tyX11_ok, nmX11, rfl, by decide +kernel⟩
theorem fpX11_82 : mFp RX11 82 11 37 99 (.int) := ⟨by decide, rfl, RX11, TX11, 74, tyX11, rfl, by decide, inX11, (Or.inl (gm_6 88 rfl rfl)), tyX11_ok, nmX11, rfl, by decide +kernel⟩
theorem fpX1_19 : mFp RX1 19 1 2 99 (.int) := ⟨by decide, rfl, RX1, TX1, 3, tyX1, rfl, by decide, inX1, (Or.inl (gm_1 69 rfl rfl)), tyX1_ok, nmX1, rfl, by decide +kernel⟩
theorem fpX2_15 : mFp RX2 15 2 1 99 (.int) := ⟨by decide, rfl, RX2, TX2, 2, tyX2, rfl, by decide, inX2, (Or.inl (gm_2 198 rfl rfl)), tyX2_ok, nmX2, rfl, by decide +kernel⟩
theorem fpX2_22 : mFp RX2 22 9 4 99 (.int) := ⟨by decide, rfl, RX9, TX9, 16, tyX9, rfl, by decide, inX9, (Or.inr ⟨"ShadowTwin", nm_2 77 rfl rfl⟩), tyX9_ok, nmX9, rfl, by decide +kernel⟩
theorem fpX2_27 : mFp RX2 27 9 5 99 (.int) := ⟨by decide, rfl, RX9, TX9, 16, tyX9, rfl, by decide, inX9, (Or.inr ⟨"ShadowTwin", nm_2 82 rfl rfl⟩), tyX9_ok, nmX9, rfl, by decide +kernel⟩
theorem fpX2_30 : mFp RX2 30 9 6 99 (.int) := ⟨by decide, rfl, RX9, TX9, 16, tyX9, rfl, by decide, inX9, (Or.inr ⟨"ShadowTwin", nm_2 87 rfl rfl⟩), tyX9_ok, nmX9, rfl, by decide +kernel⟩
theorem fpX2_33 : mFp RX2 33 9 7 99 (.int) := ⟨by decide, rfl, RX9, TX9, 16, tyX9, rfl, by decide, inX9, (Or.inr ⟨"ShadowTwin", nm_2 91 rfl rfl⟩), tyX9_ok, nmX9, rfl, by decide +kernel⟩
theorem fpX2_36 : mFp RX2 36 9 8 99 (.int) := ⟨by decide, rfl, RX9, TX9, 16, tyX9, rfl, by decide, inX9, (Or.inr ⟨"ShadowTwin", nm_2 96 rfl rfl⟩), tyX9_ok, nmX9, rfl, by decide +kernel⟩
theorem fpX3_18 : mFp RX3 18 3 2 99 (.int) := ⟨by decide, rfl, RX3, TX3, 3, tyX3, rfl, by decide, inX3, (Or.inl (gm_2 183 rfl rfl)), tyX3_ok, nmX3, rfl, by decide +kernel⟩
theorem fpX4_29 : mFp RX4 29 4 4 99 (.int) := ⟨by decide, rfl, RX4, TX4, 6, tyX4, rfl, by decide, inX4, (Or.inl (gm_2 159 rfl rfl)), tyX4_ok, nmX4, rfl, by decide +kernel⟩
theorem fpX4_48 : mFp RX4 48 4 5 99 (.int) := ⟨by decide, rfl, RX4, TX4, 6, tyX4, rfl, by decide, inX4, (Or.inl (gm_2 161 rfl rfl)), tyX4_ok, nmX4, rfl, by decide +kernel⟩
theorem fpX5_137 : mFp RX5 137 8 8 99 (.int) := ⟨by decide, rfl, RX8, TX8, 16, tyX8, rfl, by decide, inX8, (Or.inr ⟨"ShadowTwin", nm_1 103 rfl rfl⟩), tyX8_ok, nmX8, rfl, by decide +kernel⟩
theorem fpX5_140 : mFp RX5 140 8 9 99 (.int) := ⟨by decide, rfl, RX8, TX8, 16, tyX8, rfl, by decide, inX8, (Or.inr ⟨"ShadowTwin", nm_1 107 rfl rfl⟩), tyX8_ok, nmX8, rfl, by decide +kernel⟩
theorem fpX5_150 : mFp RX5 150 8 10 99 (.int) := ⟨by decide, rfl, RX8, TX8, 16, tyX8, rfl, by decide, inX8, (Or.inr ⟨"ShadowTwin", nm_1 112 rfl rfl⟩), tyX8_ok, nmX8, rfl, by decide +kernel⟩
theorem fpX5_153 : mFp RX5 153 8 11 99 (.int) := ⟨by decide, rfl, RX8, TX8, 16, tyX8, rfl, by decide, inX8, (Or.inr ⟨"ShadowTwin", nm_1 115 rfl rfl⟩), tyX8_ok, nmX8, rfl, by decide +kernel⟩
theorem fpX5_163 : mFp RX5 163 5 8 99 (.int) := ⟨by decide, rfl, RX5, TX5, 19, tyX5, rfl, by decide, inX5, (Or.inl (gm_1 224 rfl rfl)), tyX5_ok, nmX5, rfl, by decide +kernel⟩
theorem fpX5_20 : mFp RX5 20 5 2 12 (.array .byte) := ⟨by decide, rfl, RX5, TX5, 19, tyX5, rfl, by decide, inX5, (Or.inl (gm_1 218 rfl rfl)), tyX5_ok, nmX5, rfl, by decide +kernel⟩
theorem fpX5_204 : mFp RX5 204 8 13 99 (.int) := ⟨by decide, rfl, RX8, TX8, 16, tyX8, rfl, by decide, inX8, (Or.inr ⟨"ShadowTwin", nm_1 120 rfl rfl⟩), tyX8_ok, nmX8, rfl, by decide +kernel⟩
theorem fpX5_208 : mFp RX5 208 8 14 99 (.int) := ⟨by decide, rfl, RX8, TX8, 16, tyX8, rfl, by decide, inX8, (Or.inr ⟨"ShadowTwin", nm_1 124 rfl rfl⟩), tyX8_ok, nmX8, rfl, by decide +kernel⟩
theorem fpX5_217 : mFp RX5 217 5 6 99 (.int) := ⟨by decide, rfl, RX5, TX5, 19, tyX5, rfl, by decide, inX5, (Or.inl (gm_1 222 rfl rfl)), tyX5_ok, nmX5, rfl, by decide +kernel⟩
theorem fpX5_220 : mFp RX5 220 5 11 99 (.int) := ⟨by decide, rfl, RX5, TX5, 19, tyX5, rfl, by decide, inX5, (Or.inl (gm_1 227 rfl rfl)), tyX5_ok, nmX5, rfl, by decide +kernel⟩
theorem fpX5_223 : mFp RX5 223 5 12 99 (.int) := ⟨by decide, rfl, RX5, TX5, 19, tyX5, rfl, by decide, inX5, (Or.inl (gm_1 228 rfl rfl)), tyX5_ok, nmX5, rfl, by decide +kernel⟩
theorem fpX5_24 : mFp RX5 24 5 9 8 (.object "ShadowTwin$Told") := ⟨by decide, rfl, RX5, TX5, 19, tyX5, rfl, by decide, inX5, (Or.inl (gm_1 225 rfl rfl)), tyX5_ok, nmX5, rfl, by decide +kernel⟩
theorem fpX5_258 : mFp RX5 258 8 15 99 (.int) := ⟨by decide, rfl, RX8, TX8, 16, tyX8, rfl, by decide, inX8, (Or.inr ⟨"ShadowTwin", nm_1 126 rfl rfl⟩), tyX8_ok, nmX8, rfl, by decide +kernel⟩
theorem fpX5_34 : mFp RX5 34 5 10 1 (.object "ShadowTwin$Law") := ⟨by decide, rfl, RX5, TX5, 19, tyX5, rfl, by decide, inX5, (Or.inl (gm_1 226 rfl rfl)), tyX5_ok, nmX5, rfl, by decide +kernel⟩
theorem fpX5_56 : mFp RX5 56 5 3 99 (.int) := ⟨by decide, rfl, RX5, TX5, 19, tyX5, rfl, by decide, inX5, (Or.inl (gm_1 219 rfl rfl)), tyX5_ok, nmX5, rfl, by decide +kernel⟩
theorem fpX5_59 : mFp RX5 59 5 4 99 (.int) := ⟨by decide, rfl, RX5, TX5, 19, tyX5, rfl, by decide, inX5, (Or.inl (gm_1 220 rfl rfl)), tyX5_ok, nmX5, rfl, by decide +kernel⟩
theorem fpX5_62 : mFp RX5 62 5 7 99 (.int) := ⟨by decide, rfl, RX5, TX5, 19, tyX5, rfl, by decide, inX5, (Or.inl (gm_1 223 rfl rfl)), tyX5_ok, nmX5, rfl, by decide +kernel⟩
theorem fpX5_68 : mFp RX5 68 5 13 99 (.boolean) := ⟨by decide, rfl, RX5, TX5, 19, tyX5, rfl, by decide, inX5, (Or.inl (gm_1 229 rfl rfl)), tyX5_ok, nmX5, rfl, by decide +kernel⟩
theorem fpX5_72 : mFp RX5 72 5 14 99 (.boolean) := ⟨by decide, rfl, RX5, TX5, 19, tyX5, rfl, by decide, inX5, (Or.inl (gm_1 230 rfl rfl)), tyX5_ok, nmX5, rfl, by decide +kernel⟩
theorem fpX5_75 : mFp RX5 75 5 15 99 (.boolean) := ⟨by decide, rfl, RX5, TX5, 19, tyX5, rfl, by decide, inX5, (Or.inl (gm_1 231 rfl rfl)), tyX5_ok, nmX5, rfl, by decide +kernel⟩
theorem fpX5_78 : mFp RX5 78 5 16 99 (.int) := ⟨by decide, rfl, RX5, TX5, 19, tyX5, rfl, by decide, inX5, (Or.inl (gm_1 232 rfl rfl)), tyX5_ok, nmX5, rfl, by decide +kernel⟩
theorem fpX5_81 : mFp RX5 81 5 17 99 (.int) := ⟨by decide, rfl, RX5, TX5, 19, tyX5, rfl, by decide, inX5, (Or.inl (gm_1 234 rfl rfl)), tyX5_ok, nmX5, rfl, by decide +kernel⟩
theorem fpX5_84 : mFp RX5 84 5 18 99 (.int) := ⟨by decide, rfl, RX5, TX5, 19, tyX5, rfl, by decide, inX5, (Or.inl (gm_1 236 rfl rfl)), tyX5_ok, nmX5, rfl, by decide +kernel⟩
theorem fpX5_90 : mFp RX5 90 5 5 99 (.int) := ⟨by decide, rfl, RX5, TX5, 19, tyX5, rfl, by decide, inX5, (Or.inl (gm_1 221 rfl rfl)), tyX5_ok, nmX5, rfl, by decide +kernel⟩
theorem fpX6_27 : mFp RX6 27 6 2 99 (.int) := ⟨by decide, rfl, RX6, TX6, 3, tyX6, rfl, by decide, inX6, (Or.inl (gm_2 215 rfl rfl)), tyX6_ok, nmX6, rfl, by decide +kernel⟩
theorem fpX7_22 : mFp RX7 22 7 3 99 (.int) := ⟨by decide, rfl, RX7, TX7, 4, tyX7, rfl, by decide, inX7, (Or.inl (gm_1 47 rfl rfl)), tyX7_ok, nmX7, rfl, by decide +kernel⟩
theorem fpX8_51 : mFp RX8 51 8 8 99 (.int) := ⟨by decide, rfl, RX8, TX8, 16, tyX8, rfl, by decide, inX8, (Or.inl (gm_1 102 rfl rfl)), tyX8_ok, nmX8, rfl, by decide +kernel⟩
theorem fpX8_55 : mFp RX8 55 8 9 99 (.int) := ⟨by decide, rfl, RX8, TX8, 16, tyX8, rfl, by decide, inX8, (Or.inl (gm_1 106 rfl rfl)), tyX8_ok, nmX8, rfl, by decide +kernel⟩
theorem fpX8_58 : mFp RX8 58 8 10 99 (.int) := ⟨by decide, rfl, RX8, TX8, 16, tyX8, rfl, by decide, inX8, (Or.inl (gm_1 110 rfl rfl)), tyX8_ok, nmX8, rfl, by decide +kernel⟩
theorem fpX8_61 : mFp RX8 61 8 11 99 (.int) := ⟨by decide, rfl, RX8, TX8, 16, tyX8, rfl, by decide, inX8, (Or.inl (gm_1 113 rfl rfl)), tyX8_ok, nmX8, rfl, by decide +kernel⟩
theorem fpX8_64 : mFp RX8 64 8 12 99 (.int) := ⟨by decide, rfl, RX8, TX8, 16, tyX8, rfl, by decide, inX8, (Or.inl (gm_1 116 rfl rfl)), tyX8_ok, nmX8, rfl, by decide +kernel⟩
theorem fpX8_67 : mFp RX8 67 8 13 99 (.int) := ⟨by decide, rfl, RX8, TX8, 16, tyX8, rfl, by decide, inX8, (Or.inl (gm_1 118 rfl rfl)), tyX8_ok, nmX8, rfl, by decide +kernel⟩
theorem fpX8_70 : mFp RX8 70 8 14 99 (.int) := ⟨by decide, rfl, RX8, TX8, 16, tyX8, rfl, by decide, inX8, (Or.inl (gm_1 123 rfl rfl)), tyX8_ok, nmX8, rfl, by decide +kernel⟩
theorem fpX8_73 : mFp RX8 73 8 15 99 (.int) := ⟨by decide, rfl, RX8, TX8, 16, tyX8, rfl, by decide, inX8, (Or.inl (gm_1 125 rfl rfl)), tyX8_ok, nmX8, rfl, by decide +kernel⟩
theorem fpX9_21 : mFp RX9 21 9 3 99 (.int) := ⟨by decide, rfl, RX9, TX9, 16, tyX9, rfl, by decide, inX9, (Or.inl (gm_2 73 rfl rfl)), tyX9_ok, nmX9, rfl, by decide +kernel⟩
theorem fpX9_25 : mFp RX9 25 9 4 99 (.int) := ⟨by decide, rfl, RX9, TX9, 16, tyX9, rfl, by decide, inX9, (Or.inl (gm_2 76 rfl rfl)), tyX9_ok, nmX9, rfl, by decide +kernel⟩
theorem fpX9_28 : mFp RX9 28 9 5 99 (.int) := ⟨by decide, rfl, RX9, TX9, 16, tyX9, rfl, by decide, inX9, (Or.inl (gm_2 81 rfl rfl)), tyX9_ok, nmX9, rfl, by decide +kernel⟩
theorem fpX9_31 : mFp RX9 31 9 6 99 (.int) := ⟨by decide, rfl, RX9, TX9, 16, tyX9, rfl, by decide, inX9, (Or.inl (gm_2 86 rfl rfl)), tyX9_ok, nmX9, rfl, by decide +kernel⟩
theorem fpX9_46 : mFp RX9 46 9 7 99 (.int) := ⟨by decide, rfl, RX9, TX9, 16, tyX9, rfl, by decide, inX9, (Or.inl (gm_2 90 rfl rfl)), tyX9_ok, nmX9, rfl, by decide +kernel⟩
theorem fpX9_49 : mFp RX9 49 9 8 99 (.int) := ⟨by decide, rfl, RX9, TX9, 16, tyX9, rfl, by decide, inX9, (Or.inl (gm_2 95 rfl rfl)), tyX9_ok, nmX9, rfl, by decide +kernel⟩
theorem fpX9_52 : mFp RX9 52 9 9 99 (.int) := ⟨by decide, rfl, RX9, TX9, 16, tyX9, rfl, by decide, inX9, (Or.inl (gm_2 99 rfl rfl)), tyX9_ok, nmX9, rfl, by decide +kernel⟩
theorem fpX9_55 : mFp RX9 55 9 10 99 (.int) := ⟨by decide, rfl, RX9, TX9, 16, tyX9, rfl, by decide, inX9, (Or.inl (gm_2 102 rfl rfl)), tyX9_ok, nmX9, rfl, by decide +kernel⟩
theorem fpX9_61 : mFp RX9 61 9 11 99 (.int) := ⟨by decide, rfl, RX9, TX9, 16, tyX9, rfl, by decide, inX9, (Or.inl (gm_2 105 rfl rfl)), tyX9_ok, nmX9, rfl, by decide +kernel⟩
theorem mlX0_100 : mLs RX0 100 yX10_downBy cX10_downBy 1 (some .int) 1 := ⟨(Or.inr ⟨"ShadowTwin", nm_4 109 rfl rfl⟩), gm_4 110 rfl rfl, gm_1 1 rfl rfl, gm_4 111 rfl rfl, by decide +kernel⟩
theorem mlX0_107 : mLs RX0 107 yX10_rightBy cX10_rightBy 1 (some .int) 1 := ⟨(Or.inr ⟨"ShadowTwin", nm_4 116 rfl rfl⟩), gm_4 117 rfl rfl, gm_1 1 rfl rfl, gm_4 118 rfl rfl, by decide +kernel⟩
theorem mlX0_110 : mLm RX0 110 0 yX0_tell cX0_tell 5 none 4 := ⟨RX0, TX0, 2, rfl, rfl, (Or.inl (gm_4 77 rfl rfl)), gm_4 78 rfl rfl, gm_4 79 rfl rfl, gm_1 10 rfl rfl, gm_4 80 rfl rfl, by decide +kernel⟩
theorem mlX0_114 : mLm RX0 114 0 yX0_within cX0_within 6 (some .int) 3 := ⟨RX0, TX0, 2, rfl, rfl, (Or.inl (gm_4 87 rfl rfl)), gm_4 89 rfl rfl, gm_p 34 rfl rfl, gm_1 10 rfl rfl, gm_4 90 rfl rfl, by decide +kernel⟩
theorem mlX0_118 : mLm RX0 118 9 yX9_tireBy cX9_tireBy 2 none 1 := ⟨RX9, TX9, 16, rfl, rfl, (Or.inl (gm_4 187 rfl rfl)), gm_4 188 rfl rfl, gm_4 189 rfl rfl, gm_1 12 rfl rfl, gm_4 190 rfl rfl, by decide +kernel⟩
theorem mlX0_122 : mLm RX0 122 8 yX8_isWall cX8_isWall 3 (some .boolean) 2 := ⟨RX8, TX8, 16, rfl, rfl, (Or.inl (gm_4 172 rfl rfl)), gm_3 160 rfl rfl, gm_3 161 rfl rfl, gm_1 2 rfl rfl, gm_3 162 rfl rfl, by decide +kernel⟩
theorem mlX0_126 : mLm RX0 126 8 yX8_isCell cX8_isCell 3 (some .boolean) 2 := ⟨RX8, TX8, 16, rfl, rfl, (Or.inl (gm_4 173 rfl rfl)), gm_3 164 rfl rfl, gm_3 165 rfl rfl, gm_1 2 rfl rfl, gm_3 166 rfl rfl, by decide +kernel⟩
theorem mlX0_129 : mLm RX0 129 8 yX8_sunOf cX8_sunOf 2 (some .int) 1 := ⟨RX8, TX8, 16, rfl, rfl, (Or.inl (gm_4 56 rfl rfl)), gm_4 57 rfl rfl, gm_4 58 rfl rfl, gm_1 2 rfl rfl, gm_4 59 rfl rfl, by decide +kernel⟩
theorem mlX0_135 : mLm RX0 135 0 yX0_nearestLamp cX0_nearestLamp 7 (some .int) 1 := ⟨RX0, TX0, 2, rfl, rfl, (Or.inl (gm_4 61 rfl rfl)), gm_4 63 rfl rfl, gm_p 31 rfl rfl, gm_1 10 rfl rfl, gm_4 64 rfl rfl, by decide +kernel⟩
theorem mlX0_139 : mLm RX0 139 0 yX0_wayFrom cX0_wayFrom 5 (some .int) 2 := ⟨RX0, TX0, 2, rfl, rfl, (Or.inl (gm_4 73 rfl rfl)), gm_4 75 rfl rfl, gm_p 33 rfl rfl, gm_1 10 rfl rfl, gm_4 76 rfl rfl, by decide +kernel⟩
theorem mlX0_143 : mLm RX0 143 0 yX0_distance cX0_distance 3 (some .int) 2 := ⟨RX0, TX0, 2, rfl, rfl, (Or.inl (gm_4 66 rfl rfl)), gm_4 68 rfl rfl, gm_p 32 rfl rfl, gm_1 10 rfl rfl, gm_4 69 rfl rfl, by decide +kernel⟩
theorem mlX0_166 : mLm RX0 166 9 yX9_isSheAt cX9_isSheAt 3 (some .boolean) 2 := ⟨RX9, TX9, 16, rfl, rfl, (Or.inl (gm_4 119 rfl rfl)), gm_4 120 rfl rfl, gm_4 121 rfl rfl, gm_1 12 rfl rfl, gm_4 122 rfl rfl, by decide +kernel⟩
theorem mlX0_181 : mLm RX0 181 9 yX9_isItApartAt cX9_isItApartAt 3 (some .boolean) 2 := ⟨RX9, TX9, 16, rfl, rfl, (Or.inl (gm_4 227 rfl rfl)), gm_4 228 rfl rfl, gm_4 229 rfl rfl, gm_1 12 rfl rfl, gm_4 230 rfl rfl, by decide +kernel⟩
theorem mlX0_19 : mLm RX0 19 0 yX0_pass cX0_pass 6 none 2 := ⟨RX0, TX0, 2, rfl, rfl, (Or.inl (gm_4 210 rfl rfl)), gm_4 211 rfl rfl, gm_4 212 rfl rfl, gm_1 10 rfl rfl, gm_4 213 rfl rfl, by decide +kernel⟩
theorem mlX0_193 : mLs RX0 193 yX9_onceMore cX9_onceMore 1 (some .int) 1 := ⟨(Or.inl (gm_4 235 rfl rfl)), gm_4 161 rfl rfl, gm_1 12 rfl rfl, gm_4 162 rfl rfl, by decide +kernel⟩
theorem mlX0_199 : mLm RX0 199 9 yX9_please cX9_please 3 none 2 := ⟨RX9, TX9, 16, rfl, rfl, (Or.inl (gm_4 236 rfl rfl)), gm_4 237 rfl rfl, gm_4 238 rfl rfl, gm_1 12 rfl rfl, gm_4 239 rfl rfl, by decide +kernel⟩
theorem mlX0_203 : mLs RX0 203 yJ6_bitCount_0f7a4 cJ6_bitCount_0f7a4 1 (some .int) 1 := ⟨(Or.inl (gm_4 81 rfl rfl)), gm_4 82 rfl rfl, gm_1 18 rfl rfl, gm_4 83 rfl rfl, by decide +kernel⟩
theorem mlX0_212 : mLm RX0 212 1 yX1_workOut cX1_workOut 10 (some .long) 1 := ⟨RX1, TX1, 3, rfl, rfl, (Or.inl (gm_4 91 rfl rfl)), gm_4 92 rfl rfl, gm_4 93 rfl rfl, gm_1 4 rfl rfl, gm_4 94 rfl rfl, by decide +kernel⟩
theorem mlX0_23 : mLm RX0 23 0 yX0_areClouds cX0_areClouds 3 (some .boolean) 2 := ⟨RX0, TX0, 2, rfl, rfl, (Or.inl (gm_4 214 rfl rfl)), gm_4 216 rfl rfl, gm_p 38 rfl rfl, gm_1 10 rfl rfl, gm_4 217 rfl rfl, by decide +kernel⟩
theorem mlX0_33 : mLm RX0 33 7 yX7_size cX7_size 1 (some .int) 0 := ⟨RX7, TX7, 4, rfl, rfl, (Or.inl (gm_4 65 rfl rfl)), gm_3 7 rfl rfl, gm_3 8 rfl rfl, gm_1 3 rfl rfl, gm_3 9 rfl rfl, by decide +kernel⟩
theorem mlX0_39 : mLm RX0 39 7 yX7_get cX7_get 4 (some .int) 2 := ⟨RX7, TX7, 4, rfl, rfl, (Or.inl (gm_4 60 rfl rfl)), gm_3 11 rfl rfl, gm_3 12 rfl rfl, gm_1 3 rfl rfl, gm_3 13 rfl rfl, by decide +kernel⟩
theorem mlX0_49 : mLm RX0 49 0 yX0_attempt cX0_attempt 4 none 3 := ⟨RX0, TX0, 2, rfl, rfl, (Or.inl (gm_4 222 rfl rfl)), gm_4 183 rfl rfl, gm_4 184 rfl rfl, gm_1 10 rfl rfl, gm_4 185 rfl rfl, by decide +kernel⟩
theorem mlX0_53 : mLm RX0 53 0 yX0_fall cX0_fall 7 none 3 := ⟨RX0, TX0, 2, rfl, rfl, (Or.inl (gm_4 52 rfl rfl)), gm_4 53 rfl rfl, gm_4 54 rfl rfl, gm_1 10 rfl rfl, gm_4 55 rfl rfl, by decide +kernel⟩
theorem mlX0_64 : mLm RX0 64 0 yX0_finishDoings cX0_finishDoings 7 none 1 := ⟨RX0, TX0, 2, rfl, rfl, (Or.inl (gm_4 223 rfl rfl)), gm_4 225 rfl rfl, gm_p 39 rfl rfl, gm_1 10 rfl rfl, gm_4 226 rfl rfl, by decide +kernel⟩
theorem mlX0_68 : mLm RX0 68 0 yX0_meetMen cX0_meetMen 5 none 1 := ⟨RX0, TX0, 2, rfl, rfl, (Or.inl (gm_4 231 rfl rfl)), gm_4 233 rfl rfl, gm_p 40 rfl rfl, gm_1 10 rfl rfl, gm_4 234 rfl rfl, by decide +kernel⟩
theorem mlX0_90 : mLm RX0 90 0 yX0_isOpen cX0_isOpen 7 (some .boolean) 3 := ⟨RX0, TX0, 2, rfl, rfl, (Or.inl (gm_4 186 rfl rfl)), gm_4 169 rfl rfl, gm_4 170 rfl rfl, gm_1 10 rfl rfl, gm_4 171 rfl rfl, by decide +kernel⟩
theorem mlX10_103 : mLm RX10 103 5 yX5_hasMore cX5_hasMore 1 (some .boolean) 0 := ⟨RX5, TX5, 19, rfl, rfl, (Or.inl (gm_3 123 rfl rfl)), gm_3 124 rfl rfl, gm_3 125 rfl rfl, gm_1 5 rfl rfl, gm_3 126 rfl rfl, by decide +kernel⟩
theorem mlX10_107 : mLm RX10 107 5 yX5_readLine cX5_readLine 1 none 0 := ⟨RX5, TX5, 19, rfl, rfl, (Or.inl (gm_3 127 rfl rfl)), gm_3 128 rfl rfl, gm_3 129 rfl rfl, gm_1 5 rfl rfl, gm_3 130 rfl rfl, by decide +kernel⟩
theorem mlX10_120 : mLm RX10 120 8 yX8_settleSuns cX8_settleSuns 6 none 0 := ⟨RX8, TX8, 16, rfl, rfl, (Or.inl (gm_3 2 rfl rfl)), gm_3 3 rfl rfl, gm_3 4 rfl rfl, gm_1 2 rfl rfl, gm_3 5 rfl rfl, by decide +kernel⟩
theorem mlX10_130 : mLm RX10 130 9 yX9_begin cX9_begin 5 none 3 := ⟨RX9, TX9, 16, rfl, rfl, (Or.inl (gm_3 17 rfl rfl)), gm_3 18 rfl rfl, gm_3 19 rfl rfl, gm_1 12 rfl rfl, gm_3 20 rfl rfl, by decide +kernel⟩
theorem mlX10_137 : mLm RX10 137 2 yX2_forget cX2_forget 1 none 0 := ⟨RX2, TX2, 2, rfl, rfl, (Or.inl (gm_3 22 rfl rfl)), gm_3 23 rfl rfl, gm_3 24 rfl rfl, gm_1 14 rfl rfl, gm_3 25 rfl rfl, by decide +kernel⟩
theorem mlX10_140 : mLm RX10 140 6 yX6_forget cX6_forget 1 none 0 := ⟨RX6, TX6, 3, rfl, rfl, (Or.inl (gm_3 26 rfl rfl)), gm_3 27 rfl rfl, gm_3 28 rfl rfl, gm_1 15 rfl rfl, gm_3 29 rfl rfl, by decide +kernel⟩
theorem mlX10_145 : mLm RX10 145 7 yX7_find cX7_find 4 (some .int) 2 := ⟨RX7, TX7, 4, rfl, rfl, (Or.inl (gm_4 43 rfl rfl)), gm_3 180 rfl rfl, gm_3 181 rfl rfl, gm_1 3 rfl rfl, gm_3 182 rfl rfl, by decide +kernel⟩
theorem mlX10_157 : mLm RX10 157 0 yX0_fallNow cX0_fallNow 2 none 1 := ⟨RX0, TX0, 2, rfl, rfl, (Or.inl (gm_4 48 rfl rfl)), gm_4 49 rfl rfl, gm_4 50 rfl rfl, gm_1 10 rfl rfl, gm_4 51 rfl rfl, by decide +kernel⟩
theorem mlX10_179 : mLm RX10 179 7 yX7_has cX7_has 2 (some .boolean) 1 := ⟨RX7, TX7, 4, rfl, rfl, (Or.inl (gm_4 131 rfl rfl)), gm_4 132 rfl rfl, gm_4 133 rfl rfl, gm_1 3 rfl rfl, gm_4 134 rfl rfl, by decide +kernel⟩
theorem mlX10_198 : mLm RX10 198 7 yX7_get cX7_get 4 (some .int) 2 := ⟨RX7, TX7, 4, rfl, rfl, (Or.inl (gm_4 135 rfl rfl)), gm_3 11 rfl rfl, gm_3 12 rfl rfl, gm_1 3 rfl rfl, gm_3 13 rfl rfl, by decide +kernel⟩
theorem mlX10_201 : mLm RX10 201 10 yX10_isMan cX10_isMan 2 (some .boolean) 1 := ⟨RX10, TX10, 16, rfl, rfl, (Or.inl (gm_4 127 rfl rfl)), gm_4 129 rfl rfl, gm_p 35 rfl rfl, gm_1 1 rfl rfl, gm_4 130 rfl rfl, by decide +kernel⟩
theorem mlX10_214 : mLm RX10 214 10 yX10_engagedTo cX10_engagedTo 2 (some .int) 1 := ⟨RX10, TX10, 16, rfl, rfl, (Or.inl (gm_4 136 rfl rfl)), gm_4 138 rfl rfl, gm_p 36 rfl rfl, gm_1 1 rfl rfl, gm_4 139 rfl rfl, by decide +kernel⟩
theorem mlX10_221 : mLm RX10 221 8 yX8_isCell cX8_isCell 3 (some .boolean) 2 := ⟨RX8, TX8, 16, rfl, rfl, (Or.inl (gm_4 148 rfl rfl)), gm_3 164 rfl rfl, gm_3 165 rfl rfl, gm_1 2 rfl rfl, gm_3 166 rfl rfl, by decide +kernel⟩
theorem mlX10_225 : mLm RX10 225 8 yX8_isWall cX8_isWall 3 (some .boolean) 2 := ⟨RX8, TX8, 16, rfl, rfl, (Or.inl (gm_4 149 rfl rfl)), gm_3 160 rfl rfl, gm_3 161 rfl rfl, gm_1 2 rfl rfl, gm_3 162 rfl rfl, by decide +kernel⟩
theorem mlX10_231 : mLm RX10 231 0 yX0_tell cX0_tell 5 none 4 := ⟨RX0, TX0, 2, rfl, rfl, (Or.inl (gm_4 154 rfl rfl)), gm_4 78 rfl rfl, gm_4 79 rfl rfl, gm_1 10 rfl rfl, gm_4 80 rfl rfl, by decide +kernel⟩
theorem mlX10_235 : mLm RX10 235 0 yX0_workOut cX0_workOut 2 (some .long) 1 := ⟨RX0, TX0, 2, rfl, rfl, (Or.inl (gm_4 155 rfl rfl)), gm_4 156 rfl rfl, gm_4 157 rfl rfl, gm_1 10 rfl rfl, gm_4 158 rfl rfl, by decide +kernel⟩
theorem mlX10_241 : mLs RX10 241 yX9_onceMore cX9_onceMore 1 (some .int) 1 := ⟨(Or.inl (gm_4 160 rfl rfl)), gm_4 161 rfl rfl, gm_1 12 rfl rfl, gm_4 162 rfl rfl, by decide +kernel⟩
theorem mlX10_244 : mLm RX10 244 0 yX0_isOpen cX0_isOpen 7 (some .boolean) 3 := ⟨RX0, TX0, 2, rfl, rfl, (Or.inl (gm_4 168 rfl rfl)), gm_4 169 rfl rfl, gm_4 170 rfl rfl, gm_1 10 rfl rfl, gm_4 171 rfl rfl, by decide +kernel⟩
theorem mlX10_248 : mLm RX10 248 2 yX2_note cX2_note 3 none 1 := ⟨RX2, TX2, 2, rfl, rfl, (Or.inl (gm_4 174 rfl rfl)), gm_4 175 rfl rfl, gm_4 176 rfl rfl, gm_1 14 rfl rfl, gm_4 177 rfl rfl, by decide +kernel⟩
theorem mlX10_251 : mLm RX10 251 0 yX0_attempt cX0_attempt 4 none 3 := ⟨RX0, TX0, 2, rfl, rfl, (Or.inl (gm_4 182 rfl rfl)), gm_4 183 rfl rfl, gm_4 184 rfl rfl, gm_1 10 rfl rfl, gm_4 185 rfl rfl, by decide +kernel⟩
theorem mlX10_255 : mLs RX10 255 yX10_areHours cX10_areHours 1 (some .boolean) 1 := ⟨(Or.inl (gm_4 203 rfl rfl)), gm_4 204 rfl rfl, gm_1 1 rfl rfl, gm_4 205 rfl rfl, by decide +kernel⟩
theorem mlX10_261 : mLm RX10 261 0 yX0_passAll cX0_passAll 5 none 3 := ⟨RX0, TX0, 2, rfl, rfl, (Or.inl (gm_4 206 rfl rfl)), gm_4 207 rfl rfl, gm_4 208 rfl rfl, gm_1 10 rfl rfl, gm_4 209 rfl rfl, by decide +kernel⟩
theorem mlX10_264 : mLm RX10 264 9 yX9_become cX9_become 3 none 1 := ⟨RX9, TX9, 16, rfl, rfl, (Or.inl (gm_5 4 rfl rfl)), gm_5 5 rfl rfl, gm_5 6 rfl rfl, gm_1 12 rfl rfl, gm_5 7 rfl rfl, by decide +kernel⟩
theorem mlX10_267 : mLs RX10 267 yJ6_bitCount_0f7a4 cJ6_bitCount_0f7a4 1 (some .int) 1 := ⟨(Or.inl (gm_5 8 rfl rfl)), gm_4 82 rfl rfl, gm_1 18 rfl rfl, gm_4 83 rfl rfl, by decide +kernel⟩
theorem mlX10_272 : mLm RX10 272 8 yX8_worthOf cX8_worthOf 4 (some .int) 1 := ⟨RX8, TX8, 16, rfl, rfl, (Or.inl (gm_5 9 rfl rfl)), gm_5 10 rfl rfl, gm_5 11 rfl rfl, gm_1 2 rfl rfl, gm_5 12 rfl rfl, by decide +kernel⟩
theorem mlX10_278 : mLm RX10 278 9 yX9_fondInAll cX9_fondInAll 3 (some .int) 0 := ⟨RX9, TX9, 16, rfl, rfl, (Or.inl (gm_5 13 rfl rfl)), gm_5 14 rfl rfl, gm_5 15 rfl rfl, gm_1 12 rfl rfl, gm_5 16 rfl rfl, by decide +kernel⟩
theorem mlX10_285 : mLm RX10 285 0 yX0_pass cX0_pass 6 none 2 := ⟨RX0, TX0, 2, rfl, rfl, (Or.inl (gm_5 21 rfl rfl)), gm_4 211 rfl rfl, gm_4 212 rfl rfl, gm_1 10 rfl rfl, gm_4 213 rfl rfl, by decide +kernel⟩
theorem mlX10_289 : mLm RX10 289 3 yX3_fewest cX3_fewest 10 (some .int) 3 := ⟨RX3, TX3, 3, rfl, rfl, (Or.inl (gm_5 26 rfl rfl)), gm_5 27 rfl rfl, gm_5 28 rfl rfl, gm_1 13 rfl rfl, gm_5 29 rfl rfl, by decide +kernel⟩
theorem mlX10_299 : mLm RX10 299 10 yX10_fallsOn cX10_fallsOn 4 (some .boolean) 3 := ⟨RX10, TX10, 16, rfl, rfl, (Or.inl (gm_5 42 rfl rfl)), gm_5 44 rfl rfl, gm_p 42 rfl rfl, gm_1 1 rfl rfl, gm_5 45 rfl rfl, by decide +kernel⟩
theorem mlX10_303 : mLm RX10 303 0 yX0_fall cX0_fall 7 none 3 := ⟨RX0, TX0, 2, rfl, rfl, (Or.inl (gm_5 46 rfl rfl)), gm_4 53 rfl rfl, gm_4 54 rfl rfl, gm_1 10 rfl rfl, gm_4 55 rfl rfl, by decide +kernel⟩
theorem mlX10_307 : mLm RX10 307 7 yX7_size cX7_size 1 (some .int) 0 := ⟨RX7, TX7, 4, rfl, rfl, (Or.inl (gm_5 51 rfl rfl)), gm_3 7 rfl rfl, gm_3 8 rfl rfl, gm_1 3 rfl rfl, gm_3 9 rfl rfl, by decide +kernel⟩
theorem mlX10_310 : mLm RX10 310 4 yX4_search cX4_search 2 none 1 := ⟨RX4, TX4, 6, rfl, rfl, (Or.inl (gm_5 56 rfl rfl)), gm_5 57 rfl rfl, gm_5 58 rfl rfl, gm_1 11 rfl rfl, gm_5 59 rfl rfl, by decide +kernel⟩
theorem mlX10_319 : mLm RX10 319 10 yX10_isRest cX10_isRest 6 (some .boolean) 3 := ⟨RX10, TX10, 16, rfl, rfl, (Or.inl (gm_5 76 rfl rfl)), gm_5 78 rfl rfl, gm_p 45 rfl rfl, gm_1 1 rfl rfl, gm_5 79 rfl rfl, by decide +kernel⟩
theorem mlX10_322 : mLm RX10 322 10 yX10_shareOf cX10_shareOf 6 (some .int) 4 := ⟨RX10, TX10, 16, rfl, rfl, (Or.inl (gm_5 80 rfl rfl)), gm_5 82 rfl rfl, gm_p 46 rfl rfl, gm_1 1 rfl rfl, gm_5 83 rfl rfl, by decide +kernel⟩
theorem mlX10_331 : mLs RX10 331 yX10_commonDivisor cX10_commonDivisor 3 (some .int) 2 := ⟨(Or.inl (gm_5 93 rfl rfl)), gm_5 94 rfl rfl, gm_1 1 rfl rfl, gm_5 95 rfl rfl, by decide +kernel⟩
theorem mlX10_334 : mLm RX10 334 6 yX6_add cX6_add 6 (some .int) 5 := ⟨RX6, TX6, 3, rfl, rfl, (Or.inl (gm_5 100 rfl rfl)), gm_5 101 rfl rfl, gm_5 102 rfl rfl, gm_1 15 rfl rfl, gm_5 103 rfl rfl, by decide +kernel⟩
theorem mlX10_338 : mLm RX10 338 6 yX6_strike cX6_strike 2 (some .int) 1 := ⟨RX6, TX6, 3, rfl, rfl, (Or.inl (gm_5 112 rfl rfl)), gm_5 113 rfl rfl, gm_5 114 rfl rfl, gm_1 15 rfl rfl, gm_5 115 rfl rfl, by decide +kernel⟩
theorem mlX10_341 : mLm RX10 341 6 yX6_size cX6_size 1 (some .int) 0 := ⟨RX6, TX6, 3, rfl, rfl, (Or.inl (gm_5 122 rfl rfl)), gm_5 123 rfl rfl, gm_5 124 rfl rfl, gm_1 15 rfl rfl, gm_5 125 rfl rfl, by decide +kernel⟩
theorem mlX10_345 : mLm RX10 345 6 yX6_settle cX6_settle 3 none 0 := ⟨RX6, TX6, 3, rfl, rfl, (Or.inl (gm_5 130 rfl rfl)), gm_5 131 rfl rfl, gm_5 132 rfl rfl, gm_1 15 rfl rfl, gm_5 133 rfl rfl, by decide +kernel⟩
theorem mlX10_348 : mLm RX10 348 10 yX10_isHome cX10_isHome 5 (some .boolean) 2 := ⟨RX10, TX10, 16, rfl, rfl, (Or.inl (gm_5 140 rfl rfl)), gm_5 142 rfl rfl, gm_p 47 rfl rfl, gm_1 1 rfl rfl, gm_5 143 rfl rfl, by decide +kernel⟩
theorem mlX10_351 : mLm RX10 351 6 yX6_lastHour cX6_lastHour 3 (some .int) 0 := ⟨RX6, TX6, 3, rfl, rfl, (Or.inl (gm_5 144 rfl rfl)), gm_5 145 rfl rfl, gm_5 146 rfl rfl, gm_1 15 rfl rfl, gm_5 147 rfl rfl, by decide +kernel⟩
theorem mlX10_354 : mLm RX10 354 6 yX6_agrees cX6_agrees 8 (some .boolean) 2 := ⟨RX6, TX6, 3, rfl, rfl, (Or.inl (gm_5 153 rfl rfl)), gm_5 154 rfl rfl, gm_5 155 rfl rfl, gm_1 15 rfl rfl, gm_5 156 rfl rfl, by decide +kernel⟩
theorem mlX10_361 : mLm RX10 361 2 yX2_takeBack cX2_takeBack 3 (some .int) 1 := ⟨RX2, TX2, 2, rfl, rfl, (Or.inl (gm_5 169 rfl rfl)), gm_5 170 rfl rfl, gm_5 171 rfl rfl, gm_1 14 rfl rfl, gm_5 172 rfl rfl, by decide +kernel⟩
theorem mlX10_368 : mLm RX10 368 6 yX6_reach cX6_reach 1 (some .int) 0 := ⟨RX6, TX6, 3, rfl, rfl, (Or.inl (gm_5 185 rfl rfl)), gm_5 135 rfl rfl, gm_5 136 rfl rfl, gm_1 15 rfl rfl, gm_5 137 rfl rfl, by decide +kernel⟩
theorem mlX10_89 : mLm RX10 89 10 yX10_startAnew cX10_startAnew 1 none 0 := ⟨RX10, TX10, 16, rfl, rfl, (Or.inl (gm_2 238 rfl rfl)), gm_3 0 rfl rfl, gm_p 0 rfl rfl, gm_1 1 rfl rfl, gm_3 1 rfl rfl, by decide +kernel⟩
theorem mlX10_95 : mLm RX10 95 10 yX10_putBytes cX10_putBytes 3 none 1 := ⟨RX10, TX10, 16, rfl, rfl, (Or.inl (gm_3 84 rfl rfl)), gm_3 86 rfl rfl, gm_p 1 rfl rfl, gm_1 1 rfl rfl, gm_3 87 rfl rfl, by decide +kernel⟩
theorem mlX10_99 : mLm RX10 99 5 yX5_begin cX5_begin 4 none 3 := ⟨RX5, TX5, 19, rfl, rfl, (Or.inl (gm_3 92 rfl rfl)), gm_3 93 rfl rfl, gm_3 94 rfl rfl, gm_1 5 rfl rfl, gm_3 95 rfl rfl, by decide +kernel⟩
theorem mlX11_160 : mLm RX11 160 11 yX11_begins cX11_begins 1 none 0 := ⟨RX11, TX11, 74, rfl, rfl, (Or.inl (gm_6 43 rfl rfl)), gm_6 45 rfl rfl, gm_p 50 rfl rfl, gm_1 17 rfl rfl, gm_6 46 rfl rfl, by decide +kernel⟩
theorem mlX11_175 : mLm RX11 175 11 yX11_here cX11_here 1 (some .int) 0 := ⟨RX11, TX11, 74, rfl, rfl, (Or.inl (gm_7 54 rfl rfl)), gm_7 56 rfl rfl, gm_p 54 rfl rfl, gm_1 17 rfl rfl, gm_7 57 rfl rfl, by decide +kernel⟩
theorem mlX11_185 : mLs RX11 185 yX11_isSmall cX11_isSmall 1 (some .boolean) 1 := ⟨(Or.inl (gm_7 58 rfl rfl)), gm_7 59 rfl rfl, gm_1 17 rfl rfl, gm_7 60 rfl rfl, by decide +kernel⟩
theorem mlX11_189 : mLm RX11 189 11 yX11_word cX11_word 4 (some .int) 0 := ⟨RX11, TX11, 74, rfl, rfl, (Or.inl (gm_7 61 rfl rfl)), gm_7 63 rfl rfl, gm_p 55 rfl rfl, gm_1 17 rfl rfl, gm_7 64 rfl rfl, by decide +kernel⟩
theorem mlX11_195 : mLm RX11 195 11 yX11_name cX11_name 2 none 0 := ⟨RX11, TX11, 74, rfl, rfl, (Or.inl (gm_7 68 rfl rfl)), gm_7 70 rfl rfl, gm_p 56 rfl rfl, gm_1 17 rfl rfl, gm_7 71 rfl rfl, by decide +kernel⟩
theorem mlX11_198 : mLs RX11 198 yX11_isDigit cX11_isDigit 1 (some .boolean) 1 := ⟨(Or.inl (gm_7 72 rfl rfl)), gm_7 73 rfl rfl, gm_1 17 rfl rfl, gm_7 74 rfl rfl, by decide +kernel⟩
theorem mlX11_202 : mLm RX11 202 11 yX11_sign cX11_sign 2 none 1 := ⟨RX11, TX11, 74, rfl, rfl, (Or.inl (gm_7 76 rfl rfl)), gm_7 78 rfl rfl, gm_p 57 rfl rfl, gm_1 17 rfl rfl, gm_7 79 rfl rfl, by decide +kernel⟩
theorem mlX11_223 : mLm RX11 223 11 yX11_token cX11_token 2 none 0 := ⟨RX11, TX11, 74, rfl, rfl, (Or.inl (gm_7 50 rfl rfl)), gm_7 52 rfl rfl, gm_p 53 rfl rfl, gm_1 17 rfl rfl, gm_7 53 rfl rfl, by decide +kernel⟩
theorem mlX11_226 : mLm RX11 226 11 yX11_wrong cX11_wrong 2 none 1 := ⟨RX11, TX11, 74, rfl, rfl, (Or.inl (gm_7 88 rfl rfl)), gm_7 90 rfl rfl, gm_p 60 rfl rfl, gm_1 17 rfl rfl, gm_7 91 rfl rfl, by decide +kernel⟩
theorem mlX11_229 : mLs RX11 229 yX11_found cX11_found 5 (some .int) 4 := ⟨(Or.inl (gm_7 115 rfl rfl)), gm_7 116 rfl rfl, gm_1 17 rfl rfl, gm_7 117 rfl rfl, by decide +kernel⟩
theorem mlX11_233 : mLm RX11 233 11 yX11_fresher cX11_fresher 2 (some .int) 1 := ⟨RX11, TX11, 74, rfl, rfl, (Or.inl (gm_7 84 rfl rfl)), gm_7 86 rfl rfl, gm_p 59 rfl rfl, gm_1 17 rfl rfl, gm_7 87 rfl rfl, by decide +kernel⟩
theorem mlX11_240 : mLm RX11 240 11 yX11_isFull cX11_isFull 2 (some .boolean) 1 := ⟨RX11, TX11, 74, rfl, rfl, (Or.inl (gm_7 92 rfl rfl)), gm_7 94 rfl rfl, gm_p 61 rfl rfl, gm_1 17 rfl rfl, gm_7 95 rfl rfl, by decide +kernel⟩
theorem mlX11_243 : mLs RX11 243 yX11_isOnce cX11_isOnce 1 (some .boolean) 1 := ⟨(Or.inl (gm_7 96 rfl rfl)), gm_7 97 rfl rfl, gm_1 17 rfl rfl, gm_7 98 rfl rfl, by decide +kernel⟩
theorem mlX11_249 : mLm RX11 249 11 yX11_numeral cX11_numeral 4 (some .int) 2 := ⟨RX11, TX11, 74, rfl, rfl, (Or.inl (gm_7 99 rfl rfl)), gm_7 101 rfl rfl, gm_p 62 rfl rfl, gm_1 17 rfl rfl, gm_7 102 rfl rfl, by decide +kernel⟩
theorem mlX11_253 : mLm RX11 253 11 yX11_reads cX11_reads 3 none 2 := ⟨RX11, TX11, 74, rfl, rfl, (Or.inl (gm_7 46 rfl rfl)), gm_7 48 rfl rfl, gm_p 52 rfl rfl, gm_1 17 rfl rfl, gm_7 49 rfl rfl, by decide +kernel⟩
theorem mlX11_257 : mLm RX11 257 11 yX11_rowToken cX11_rowToken 1 (some .int) 0 := ⟨RX11, TX11, 74, rfl, rfl, (Or.inl (gm_7 103 rfl rfl)), gm_7 105 rfl rfl, gm_p 63 rfl rfl, gm_1 17 rfl rfl, gm_7 106 rfl rfl, by decide +kernel⟩
theorem mlX11_260 : mLm RX11 260 11 yX11_columnToken cX11_columnToken 1 (some .int) 0 := ⟨RX11, TX11, 74, rfl, rfl, (Or.inl (gm_7 107 rfl rfl)), gm_7 109 rfl rfl, gm_p 64 rfl rfl, gm_1 17 rfl rfl, gm_7 110 rfl rfl, by decide +kernel⟩
theorem mlX11_263 : mLm RX11 263 11 yX11_wallLine cX11_wallLine 2 none 0 := ⟨RX11, TX11, 74, rfl, rfl, (Or.inl (gm_7 111 rfl rfl)), gm_7 113 rfl rfl, gm_p 65 rfl rfl, gm_1 17 rfl rfl, gm_7 114 rfl rfl, by decide +kernel⟩
theorem mlX11_266 : mLm RX11 266 11 yX11_sunLine cX11_sunLine 2 none 0 := ⟨RX11, TX11, 74, rfl, rfl, (Or.inl (gm_7 118 rfl rfl)), gm_7 120 rfl rfl, gm_p 66 rfl rfl, gm_1 17 rfl rfl, gm_7 121 rfl rfl, by decide +kernel⟩
theorem mlX11_269 : mLm RX11 269 11 yX11_fresh cX11_fresh 5 (some .int) 3 := ⟨RX11, TX11, 74, rfl, rfl, (Or.inl (gm_7 122 rfl rfl)), gm_7 124 rfl rfl, gm_p 67 rfl rfl, gm_1 17 rfl rfl, gm_7 125 rfl rfl, by decide +kernel⟩
theorem mlX11_273 : mLm RX11 273 11 yX11_lawLine cX11_lawLine 2 none 0 := ⟨RX11, TX11, 74, rfl, rfl, (Or.inl (gm_7 126 rfl rfl)), gm_7 128 rfl rfl, gm_p 68 rfl rfl, gm_1 17 rfl rfl, gm_7 129 rfl rfl, by decide +kernel⟩
theorem mlX11_276 : mLm RX11 276 11 yX11_isSign cX11_isSign 2 (some .boolean) 1 := ⟨RX11, TX11, 74, rfl, rfl, (Or.inl (gm_7 170 rfl rfl)), gm_7 172 rfl rfl, gm_p 79 rfl rfl, gm_1 17 rfl rfl, gm_7 173 rfl rfl, by decide +kernel⟩
theorem mlX11_282 : mLm RX11 282 11 yX11_expression cX11_expression 1 none 0 := ⟨RX11, TX11, 74, rfl, rfl, (Or.inl (gm_7 130 rfl rfl)), gm_7 132 rfl rfl, gm_p 69 rfl rfl, gm_1 17 rfl rfl, gm_7 133 rfl rfl, by decide +kernel⟩
theorem mlX11_288 : mLm RX11 288 11 yX11_conjunction cX11_conjunction 1 none 0 := ⟨RX11, TX11, 74, rfl, rfl, (Or.inl (gm_7 134 rfl rfl)), gm_7 136 rfl rfl, gm_p 70 rfl rfl, gm_1 17 rfl rfl, gm_7 137 rfl rfl, by decide +kernel⟩
theorem mlX11_291 : mLm RX11 291 11 yX11_isWord cX11_isWord 2 (some .boolean) 1 := ⟨RX11, TX11, 74, rfl, rfl, (Or.inl (gm_7 142 rfl rfl)), gm_7 144 rfl rfl, gm_p 72 rfl rfl, gm_1 17 rfl rfl, gm_7 145 rfl rfl, by decide +kernel⟩
theorem mlX11_294 : mLm RX11 294 11 yX11_knot cX11_knot 1 none 0 := ⟨RX11, TX11, 74, rfl, rfl, (Or.inl (gm_7 146 rfl rfl)), gm_7 148 rfl rfl, gm_p 73 rfl rfl, gm_1 17 rfl rfl, gm_7 149 rfl rfl, by decide +kernel⟩
theorem mlX11_297 : mLm RX11 297 11 yX11_goOn cX11_goOn 1 none 0 := ⟨RX11, TX11, 74, rfl, rfl, (Or.inl (gm_7 150 rfl rfl)), gm_7 152 rfl rfl, gm_p 74 rfl rfl, gm_1 17 rfl rfl, gm_7 153 rfl rfl, by decide +kernel⟩
theorem mlX11_300 : mLm RX11 300 11 yX11_puts cX11_puts 3 none 2 := ⟨RX11, TX11, 74, rfl, rfl, (Or.inl (gm_7 154 rfl rfl)), gm_7 156 rfl rfl, gm_p 75 rfl rfl, gm_1 17 rfl rfl, gm_7 157 rfl rfl, by decide +kernel⟩
theorem mlX11_303 : mLm RX11 303 11 yX11_negation cX11_negation 2 none 0 := ⟨RX11, TX11, 74, rfl, rfl, (Or.inl (gm_7 138 rfl rfl)), gm_7 140 rfl rfl, gm_p 71 rfl rfl, gm_1 17 rfl rfl, gm_7 141 rfl rfl, by decide +kernel⟩
theorem mlX11_306 : mLm RX11 306 11 yX11_sum cX11_sum 2 none 0 := ⟨RX11, TX11, 74, rfl, rfl, (Or.inl (gm_7 158 rfl rfl)), gm_7 160 rfl rfl, gm_p 76 rfl rfl, gm_1 17 rfl rfl, gm_7 161 rfl rfl, by decide +kernel⟩
theorem mlX11_309 : mLm RX11 309 11 yX11_product cX11_product 2 none 0 := ⟨RX11, TX11, 74, rfl, rfl, (Or.inl (gm_7 162 rfl rfl)), gm_7 164 rfl rfl, gm_p 77 rfl rfl, gm_1 17 rfl rfl, gm_7 165 rfl rfl, by decide +kernel⟩
theorem mlX11_312 : mLm RX11 312 11 yX11_primary cX11_primary 2 none 0 := ⟨RX11, TX11, 74, rfl, rfl, (Or.inl (gm_7 166 rfl rfl)), gm_7 168 rfl rfl, gm_p 78 rfl rfl, gm_1 17 rfl rfl, gm_7 169 rfl rfl, by decide +kernel⟩
theorem mlX11_318 : mLm RX11 318 11 yX11_line cX11_line 7 none 0 := ⟨RX11, TX11, 74, rfl, rfl, (Or.inl (gm_7 80 rfl rfl)), gm_7 82 rfl rfl, gm_p 58 rfl rfl, gm_1 17 rfl rfl, gm_7 83 rfl rfl, by decide +kernel⟩
theorem mlX11_324 : mLs RX11 324 yX11_half cX11_half 3 none 1 := ⟨(Or.inl (gm_7 174 rfl rfl)), gm_7 175 rfl rfl, gm_1 17 rfl rfl, gm_7 176 rfl rfl, by decide +kernel⟩
theorem mlX11_341 : mLs RX11 341 yX11_is cX11_is 1 (some .long) 1 := ⟨(Or.inl (gm_8 3 rfl rfl)), gm_8 4 rfl rfl, gm_1 17 rfl rfl, gm_8 5 rfl rfl, by decide +kernel⟩
theorem mlX11_355 : mLm RX11 355 11 yX11_works cX11_works 8 (some .boolean) 1 := ⟨RX11, TX11, 74, rfl, rfl, (Or.inl (gm_7 239 rfl rfl)), gm_8 1 rfl rfl, gm_p 91 rfl rfl, gm_1 17 rfl rfl, gm_8 2 rfl rfl, by decide +kernel⟩
theorem mlX11_358 : mLm RX11 358 11 yX11_starts cX11_starts 3 none 1 := ⟨RX11, TX11, 74, rfl, rfl, (Or.inl (gm_6 47 rfl rfl)), gm_6 49 rfl rfl, gm_p 51 rfl rfl, gm_1 17 rfl rfl, gm_6 50 rfl rfl, by decide +kernel⟩
theorem mlX11_361 : mLs RX11 361 yX11_bitsOf cX11_bitsOf 3 (some .int) 1 := ⟨(Or.inl (gm_7 224 rfl rfl)), gm_7 225 rfl rfl, gm_1 17 rfl rfl, gm_7 226 rfl rfl, by decide +kernel⟩
theorem mlX11_364 : mLm RX11 364 11 yX11_hasLaw cX11_hasLaw 2 (some .boolean) 1 := ⟨RX11, TX11, 74, rfl, rfl, (Or.inl (gm_7 231 rfl rfl)), gm_7 233 rfl rfl, gm_p 89 rfl rfl, gm_1 17 rfl rfl, gm_7 234 rfl rfl, by decide +kernel⟩
theorem mlX11_367 : mLm RX11 367 11 yX11_goes cX11_goes 3 (some .boolean) 1 := ⟨RX11, TX11, 74, rfl, rfl, (Or.inl (gm_7 235 rfl rfl)), gm_7 237 rfl rfl, gm_p 90 rfl rfl, gm_1 17 rfl rfl, gm_7 238 rfl rfl, by decide +kernel⟩
theorem mlX11_379 : mLm RX11 379 11 yX11_calls cX11_calls 6 none 5 := ⟨RX11, TX11, 74, rfl, rfl, (Or.inl (gm_7 220 rfl rfl)), gm_7 222 rfl rfl, gm_p 87 rfl rfl, gm_1 17 rfl rfl, gm_7 223 rfl rfl, by decide +kernel⟩
theorem mlX11_383 : mLm RX11 383 11 yX11_within cX11_within 4 (some .int) 3 := ⟨RX11, TX11, 74, rfl, rfl, (Or.inl (gm_7 227 rfl rfl)), gm_7 229 rfl rfl, gm_p 88 rfl rfl, gm_1 17 rfl rfl, gm_7 230 rfl rfl, by decide +kernel⟩
theorem mlX11_390 : mLs RX11 390 yX11_rowBy cX11_rowBy 1 (some .int) 1 := ⟨(Or.inl (gm_8 13 rfl rfl)), gm_8 14 rfl rfl, gm_1 17 rfl rfl, gm_8 15 rfl rfl, by decide +kernel⟩
theorem mlX11_396 : mLs RX11 396 yX11_columnBy cX11_columnBy 1 (some .int) 1 := ⟨(Or.inl (gm_8 16 rfl rfl)), gm_8 17 rfl rfl, gm_1 17 rfl rfl, gm_8 18 rfl rfl, by decide +kernel⟩
theorem mlX11_399 : mLm RX11 399 11 yX11_isCell cX11_isCell 3 (some .boolean) 2 := ⟨RX11, TX11, 74, rfl, rfl, (Or.inl (gm_8 19 rfl rfl)), gm_8 21 rfl rfl, gm_p 92 rfl rfl, gm_1 17 rfl rfl, gm_8 22 rfl rfl, by decide +kernel⟩
theorem mlX11_412 : mLm RX11 412 11 yX11_sunAt cX11_sunAt 5 (some .int) 1 := ⟨RX11, TX11, 74, rfl, rfl, (Or.inl (gm_7 207 rfl rfl)), gm_7 209 rfl rfl, gm_p 84 rfl rfl, gm_1 17 rfl rfl, gm_7 210 rfl rfl, by decide +kernel⟩
theorem mlX11_415 : mLm RX11 415 11 yX11_lampAt cX11_lampAt 6 (some .int) 1 := ⟨RX11, TX11, 74, rfl, rfl, (Or.inl (gm_7 211 rfl rfl)), gm_7 213 rfl rfl, gm_p 85 rfl rfl, gm_1 17 rfl rfl, gm_7 214 rfl rfl, by decide +kernel⟩
theorem mlX11_418 : mLm RX11 418 11 yX11_lightFar cX11_lightFar 8 (some .int) 3 := ⟨RX11, TX11, 74, rfl, rfl, (Or.inl (gm_7 203 rfl rfl)), gm_7 205 rfl rfl, gm_p 83 rfl rfl, gm_1 17 rfl rfl, gm_7 206 rfl rfl, by decide +kernel⟩
theorem mlX11_422 : mLm RX11 422 11 yX11_fallsBy cX11_fallsBy 7 none 4 := ⟨RX11, TX11, 74, rfl, rfl, (Or.inl (gm_7 216 rfl rfl)), gm_7 218 rfl rfl, gm_p 86 rfl rfl, gm_1 17 rfl rfl, gm_7 219 rfl rfl, by decide +kernel⟩
theorem mlX11_430 : mLm RX11 430 11 yX11_isWall cX11_isWall 3 (some .boolean) 2 := ⟨RX11, TX11, 74, rfl, rfl, (Or.inl (gm_8 55 rfl rfl)), gm_8 57 rfl rfl, gm_p 97 rfl rfl, gm_1 17 rfl rfl, gm_8 58 rfl rfl, by decide +kernel⟩
theorem mlX11_435 : mLm RX11 435 11 yX11_canStep cX11_canStep 5 (some .boolean) 2 := ⟨RX11, TX11, 74, rfl, rfl, (Or.inl (gm_8 69 rfl rfl)), gm_8 71 rfl rfl, gm_p 98 rfl rfl, gm_1 17 rfl rfl, gm_8 72 rfl rfl, by decide +kernel⟩
theorem mlX11_438 : mLm RX11 438 11 yX11_stepsBy cX11_stepsBy 4 none 2 := ⟨RX11, TX11, 74, rfl, rfl, (Or.inl (gm_8 81 rfl rfl)), gm_8 83 rfl rfl, gm_p 101 rfl rfl, gm_1 17 rfl rfl, gm_8 84 rfl rfl, by decide +kernel⟩
theorem mlX11_441 : mLm RX11 441 11 yX11_isHerAt cX11_isHerAt 4 (some .boolean) 3 := ⟨RX11, TX11, 74, rfl, rfl, (Or.inl (gm_8 109 rfl rfl)), gm_8 111 rfl rfl, gm_p 105 rfl rfl, gm_1 17 rfl rfl, gm_8 112 rfl rfl, by decide +kernel⟩
theorem mlX11_445 : mLm RX11 445 11 yX11_isItAt cX11_isItAt 3 (some .boolean) 2 := ⟨RX11, TX11, 74, rfl, rfl, (Or.inl (gm_8 113 rfl rfl)), gm_8 115 rfl rfl, gm_p 106 rfl rfl, gm_1 17 rfl rfl, gm_8 116 rfl rfl, by decide +kernel⟩
theorem mlX11_448 : mLm RX11 448 11 yX11_isCloudy cX11_isCloudy 4 (some .boolean) 2 := ⟨RX11, TX11, 74, rfl, rfl, (Or.inl (gm_7 193 rfl rfl)), gm_7 195 rfl rfl, gm_p 81 rfl rfl, gm_1 17 rfl rfl, gm_7 196 rfl rfl, by decide +kernel⟩
theorem mlX11_452 : mLm RX11 452 11 yX11_triesStep cX11_triesStep 3 none 2 := ⟨RX11, TX11, 74, rfl, rfl, (Or.inl (gm_8 101 rfl rfl)), gm_8 103 rfl rfl, gm_p 103 rfl rfl, gm_1 17 rfl rfl, gm_8 104 rfl rfl, by decide +kernel⟩
theorem mlX11_455 : mLm RX11 455 11 yX11_falls cX11_falls 5 none 3 := ⟨RX11, TX11, 74, rfl, rfl, (Or.inl (gm_7 199 rfl rfl)), gm_7 201 rfl rfl, gm_p 82 rfl rfl, gm_1 17 rfl rfl, gm_7 202 rfl rfl, by decide +kernel⟩
theorem mlX11_459 : mLm RX11 459 11 yX11_doings cX11_doings 4 none 1 := ⟨RX11, TX11, 74, rfl, rfl, (Or.inl (gm_8 105 rfl rfl)), gm_8 107 rfl rfl, gm_p 104 rfl rfl, gm_1 17 rfl rfl, gm_8 108 rfl rfl, by decide +kernel⟩
theorem mlX11_462 : mLm RX11 462 11 yX11_meets cX11_meets 4 none 2 := ⟨RX11, TX11, 74, rfl, rfl, (Or.inl (gm_8 117 rfl rfl)), gm_8 119 rfl rfl, gm_p 107 rfl rfl, gm_1 17 rfl rfl, gm_8 120 rfl rfl, by decide +kernel⟩
theorem mlX11_465 : mLm RX11 465 11 yX11_passes cX11_passes 5 none 2 := ⟨RX11, TX11, 74, rfl, rfl, (Or.inl (gm_8 97 rfl rfl)), gm_8 99 rfl rfl, gm_p 102 rfl rfl, gm_1 17 rfl rfl, gm_8 100 rfl rfl, by decide +kernel⟩
theorem mlX11_469 : mLm RX11 469 11 yX11_fallsNow cX11_fallsNow 1 none 0 := ⟨RX11, TX11, 74, rfl, rfl, (Or.inl (gm_7 189 rfl rfl)), gm_7 191 rfl rfl, gm_p 80 rfl rfl, gm_1 17 rfl rfl, gm_7 192 rfl rfl, by decide +kernel⟩
theorem mlX11_472 : mLm RX11 472 11 yX11_isDoing cX11_isDoing 2 (some .boolean) 1 := ⟨RX11, TX11, 74, rfl, rfl, (Or.inl (gm_8 27 rfl rfl)), gm_8 29 rfl rfl, gm_p 93 rfl rfl, gm_1 17 rfl rfl, gm_8 30 rfl rfl, by decide +kernel⟩
theorem mlX11_475 : mLm RX11 475 11 yX11_isMan cX11_isMan 2 (some .boolean) 1 := ⟨RX11, TX11, 74, rfl, rfl, (Or.inl (gm_8 35 rfl rfl)), gm_8 37 rfl rfl, gm_p 94 rfl rfl, gm_1 17 rfl rfl, gm_8 38 rfl rfl, by decide +kernel⟩
theorem mlX11_478 : mLm RX11 478 11 yX11_engagedTo cX11_engagedTo 2 (some .int) 1 := ⟨RX11, TX11, 74, rfl, rfl, (Or.inl (gm_8 39 rfl rfl)), gm_8 41 rfl rfl, gm_p 95 rfl rfl, gm_1 17 rfl rfl, gm_8 42 rfl rfl, by decide +kernel⟩
theorem mlX11_481 : mLm RX11 481 11 yX11_isLamp cX11_isLamp 2 (some .boolean) 1 := ⟨RX11, TX11, 74, rfl, rfl, (Or.inl (gm_8 47 rfl rfl)), gm_8 49 rfl rfl, gm_p 96 rfl rfl, gm_1 17 rfl rfl, gm_8 50 rfl rfl, by decide +kernel⟩
theorem mlX11_488 : mLm RX11 488 11 yX11_copies cX11_copies 4 none 2 := ⟨RX11, TX11, 74, rfl, rfl, (Or.inl (gm_8 77 rfl rfl)), gm_8 79 rfl rfl, gm_p 100 rfl rfl, gm_1 17 rfl rfl, gm_8 80 rfl rfl, by decide +kernel⟩
theorem mlX11_491 : mLm RX11 491 11 yX11_keepNow cX11_keepNow 2 none 0 := ⟨RX11, TX11, 74, rfl, rfl, (Or.inl (gm_8 73 rfl rfl)), gm_8 75 rfl rfl, gm_p 99 rfl rfl, gm_1 17 rfl rfl, gm_8 76 rfl rfl, by decide +kernel⟩
theorem mlX11_494 : mLm RX11 494 11 yX11_goesOn cX11_goesOn 3 none 1 := ⟨RX11, TX11, 74, rfl, rfl, (Or.inl (gm_8 125 rfl rfl)), gm_8 127 rfl rfl, gm_p 108 rfl rfl, gm_1 17 rfl rfl, gm_8 128 rfl rfl, by decide +kernel⟩
theorem mlX11_497 : mLm RX11 497 11 yX11_worthOf cX11_worthOf 4 (some .int) 1 := ⟨RX11, TX11, 74, rfl, rfl, (Or.inl (gm_8 129 rfl rfl)), gm_8 131 rfl rfl, gm_p 109 rfl rfl, gm_1 17 rfl rfl, gm_8 132 rfl rfl, by decide +kernel⟩
theorem mlX11_500 : mLm RX11 500 11 yX11_fondAll cX11_fondAll 4 (some .int) 1 := ⟨RX11, TX11, 74, rfl, rfl, (Or.inl (gm_8 133 rfl rfl)), gm_8 135 rfl rfl, gm_p 110 rfl rfl, gm_1 17 rfl rfl, gm_8 136 rfl rfl, by decide +kernel⟩
theorem mlX11_503 : mLm RX11 503 11 yX11_isNearer cX11_isNearer 5 (some .boolean) 2 := ⟨RX11, TX11, 74, rfl, rfl, (Or.inl (gm_8 145 rfl rfl)), gm_8 147 rfl rfl, gm_p 111 rfl rfl, gm_1 17 rfl rfl, gm_8 148 rfl rfl, by decide +kernel⟩
theorem mlX11_509 : mLm RX11 509 11 yX11_hasOf cX11_hasOf 6 (some .int) 4 := ⟨RX11, TX11, 74, rfl, rfl, (Or.inl (gm_8 177 rfl rfl)), gm_8 179 rfl rfl, gm_p 115 rfl rfl, gm_1 17 rfl rfl, gm_8 180 rfl rfl, by decide +kernel⟩
theorem mlX11_513 : mLm RX11 513 11 yX11_isRest cX11_isRest 6 (some .boolean) 3 := ⟨RX11, TX11, 74, rfl, rfl, (Or.inl (gm_8 173 rfl rfl)), gm_8 175 rfl rfl, gm_p 114 rfl rfl, gm_1 17 rfl rfl, gm_8 176 rfl rfl, by decide +kernel⟩
theorem mlX11_516 : mLm RX11 516 11 yX11_areTwo cX11_areTwo 3 (some .boolean) 2 := ⟨RX11, TX11, 74, rfl, rfl, (Or.inl (gm_8 165 rfl rfl)), gm_8 167 rfl rfl, gm_p 112 rfl rfl, gm_1 17 rfl rfl, gm_8 168 rfl rfl, by decide +kernel⟩
theorem mlX11_519 : mLm RX11 519 11 yX11_restOf cX11_restOf 6 (some .int) 3 := ⟨RX11, TX11, 74, rfl, rfl, (Or.inl (gm_8 169 rfl rfl)), gm_8 171 rfl rfl, gm_p 113 rfl rfl, gm_1 17 rfl rfl, gm_8 172 rfl rfl, by decide +kernel⟩
theorem mlX11_526 : mLs RX11 526 yX11_common cX11_common 10 (some .long) 2 := ⟨(Or.inl (gm_8 191 rfl rfl)), gm_8 192 rfl rfl, gm_1 17 rfl rfl, gm_8 193 rfl rfl, by decide +kernel⟩
theorem mlX11_529 : mLm RX11 529 11 yX11_knownMany cX11_knownMany 1 (some .int) 0 := ⟨RX11, TX11, 74, rfl, rfl, (Or.inl (gm_8 210 rfl rfl)), gm_8 212 rfl rfl, gm_p 116 rfl rfl, gm_1 17 rfl rfl, gm_8 213 rfl rfl, by decide +kernel⟩
theorem mlX11_532 : mLm RX11 532 11 yX11_isSo cX11_isSo 4 (some .boolean) 1 := ⟨RX11, TX11, 74, rfl, rfl, (Or.inl (gm_8 219 rfl rfl)), gm_8 221 rfl rfl, gm_p 118 rfl rfl, gm_1 17 rfl rfl, gm_8 222 rfl rfl, by decide +kernel⟩
theorem mlX11_537 : mLm RX11 537 11 yX11_fitsHome cX11_fitsHome 5 (some .boolean) 3 := ⟨RX11, TX11, 74, rfl, rfl, (Or.inl (gm_8 215 rfl rfl)), gm_8 217 rfl rfl, gm_p 117 rfl rfl, gm_1 17 rfl rfl, gm_8 218 rfl rfl, by decide +kernel⟩
theorem mlX1_23 : mLs RX1 23 yX5_isName cX5_isName 1 (some .boolean) 1 := ⟨(Or.inl (gm_4 95 rfl rfl)), gm_3 238 rfl rfl, gm_1 5 rfl rfl, gm_3 239 rfl rfl, by decide +kernel⟩
theorem mlX1_31 : mLs RX1 31 yX1_join cX1_join 5 (some .long) 3 := ⟨(Or.inl (gm_4 97 rfl rfl)), gm_4 98 rfl rfl, gm_1 4 rfl rfl, gm_4 99 rfl rfl, by decide +kernel⟩
theorem mlX2_19 : mLm RX2 19 2 yX2_dropOldest cX2_dropOldest 2 none 0 := ⟨RX2, TX2, 2, rfl, rfl, (Or.inl (gm_4 178 rfl rfl)), gm_4 180 rfl rfl, gm_p 37 rfl rfl, gm_1 14 rfl rfl, gm_4 181 rfl rfl, by decide +kernel⟩
theorem mlX3_22 : mLm RX3 22 3 yX3_reach cX3_reach 3 none 2 := ⟨RX3, TX3, 3, rfl, rfl, (Or.inl (gm_5 30 rfl rfl)), gm_5 32 rfl rfl, gm_p 41 rfl rfl, gm_1 13 rfl rfl, gm_5 33 rfl rfl, by decide +kernel⟩
theorem mlX3_26 : mLs RX3 26 yX10_downBy cX10_downBy 1 (some .int) 1 := ⟨(Or.inr ⟨"ShadowTwin", nm_5 34 rfl rfl⟩), gm_4 110 rfl rfl, gm_1 1 rfl rfl, gm_4 111 rfl rfl, by decide +kernel⟩
theorem mlX3_30 : mLs RX3 30 yX10_rightBy cX10_rightBy 1 (some .int) 1 := ⟨(Or.inr ⟨"ShadowTwin", nm_5 35 rfl rfl⟩), gm_4 117 rfl rfl, gm_1 1 rfl rfl, gm_4 118 rfl rfl, by decide +kernel⟩
theorem mlX3_33 : mLm RX3 33 8 yX8_isCell cX8_isCell 3 (some .boolean) 2 := ⟨RX8, TX8, 16, rfl, rfl, (Or.inl (gm_5 36 rfl rfl)), gm_3 164 rfl rfl, gm_3 165 rfl rfl, gm_1 2 rfl rfl, gm_3 166 rfl rfl, by decide +kernel⟩
theorem mlX3_39 : mLm RX3 39 8 yX8_isWall cX8_isWall 3 (some .boolean) 2 := ⟨RX8, TX8, 16, rfl, rfl, (Or.inl (gm_5 37 rfl rfl)), gm_3 160 rfl rfl, gm_3 161 rfl rfl, gm_1 2 rfl rfl, gm_3 162 rfl rfl, by decide +kernel⟩
theorem mlX4_42 : mLm RX4 42 8 yX8_worthOf cX8_worthOf 4 (some .int) 1 := ⟨RX8, TX8, 16, rfl, rfl, (Or.inl (gm_5 60 rfl rfl)), gm_5 10 rfl rfl, gm_5 11 rfl rfl, gm_1 2 rfl rfl, gm_5 12 rfl rfl, by decide +kernel⟩
theorem mlX4_51 : mLm RX4 51 9 yX9_become cX9_become 3 none 1 := ⟨RX9, TX9, 16, rfl, rfl, (Or.inl (gm_5 61 rfl rfl)), gm_5 5 rfl rfl, gm_5 6 rfl rfl, gm_1 12 rfl rfl, gm_5 7 rfl rfl, by decide +kernel⟩
theorem mlX4_55 : mLm RX4 55 4 yX4_lay cX4_lay 4 none 1 := ⟨RX4, TX4, 6, rfl, rfl, (Or.inl (gm_5 62 rfl rfl)), gm_5 64 rfl rfl, gm_p 43 rfl rfl, gm_1 11 rfl rfl, gm_5 65 rfl rfl, by decide +kernel⟩
theorem mlX4_59 : mLm RX4 59 4 yX4_weigh cX4_weigh 3 none 0 := ⟨RX4, TX4, 6, rfl, rfl, (Or.inl (gm_5 66 rfl rfl)), gm_5 68 rfl rfl, gm_p 44 rfl rfl, gm_1 11 rfl rfl, gm_5 69 rfl rfl, by decide +kernel⟩
theorem mlX4_62 : mLm RX4 62 0 yX0_attempt cX0_attempt 4 none 3 := ⟨RX0, TX0, 2, rfl, rfl, (Or.inl (gm_5 70 rfl rfl)), gm_4 183 rfl rfl, gm_4 184 rfl rfl, gm_1 10 rfl rfl, gm_4 185 rfl rfl, by decide +kernel⟩
theorem mlX4_66 : mLm RX4 66 0 yX0_pass cX0_pass 6 none 2 := ⟨RX0, TX0, 2, rfl, rfl, (Or.inl (gm_5 71 rfl rfl)), gm_4 211 rfl rfl, gm_4 212 rfl rfl, gm_1 10 rfl rfl, gm_4 213 rfl rfl, by decide +kernel⟩
theorem mlX5_100 : mLm RX5 100 5 yX5_readHer cX5_readHer 1 none 0 := ⟨RX5, TX5, 19, rfl, rfl, (Or.inl (gm_3 143 rfl rfl)), gm_3 145 rfl rfl, gm_p 9 rfl rfl, gm_1 5 rfl rfl, gm_3 146 rfl rfl, by decide +kernel⟩
theorem mlX5_103 : mLm RX5 103 5 yX5_readWall cX5_readWall 3 none 0 := ⟨RX5, TX5, 19, rfl, rfl, (Or.inl (gm_3 151 rfl rfl)), gm_3 153 rfl rfl, gm_p 11 rfl rfl, gm_1 5 rfl rfl, gm_3 154 rfl rfl, by decide +kernel⟩
theorem mlX5_106 : mLm RX5 106 5 yX5_readSun cX5_readSun 3 none 0 := ⟨RX5, TX5, 19, rfl, rfl, (Or.inl (gm_3 171 rfl rfl)), gm_3 173 rfl rfl, gm_p 13 rfl rfl, gm_1 5 rfl rfl, gm_3 174 rfl rfl, by decide +kernel⟩
theorem mlX5_109 : mLm RX5 109 5 yX5_readLamp cX5_readLamp 2 none 0 := ⟨RX5, TX5, 19, rfl, rfl, (Or.inl (gm_3 192 rfl rfl)), gm_3 194 rfl rfl, gm_p 14 rfl rfl, gm_1 5 rfl rfl, gm_3 195 rfl rfl, by decide +kernel⟩
theorem mlX5_112 : mLm RX5 112 5 yX5_readStep cX5_readStep 2 none 0 := ⟨RX5, TX5, 19, rfl, rfl, (Or.inl (gm_3 200 rfl rfl)), gm_3 202 rfl rfl, gm_p 16 rfl rfl, gm_1 5 rfl rfl, gm_3 203 rfl rfl, by decide +kernel⟩
theorem mlX5_115 : mLm RX5 115 5 yX5_readDoing cX5_readDoing 2 none 0 := ⟨RX5, TX5, 19, rfl, rfl, (Or.inl (gm_3 204 rfl rfl)), gm_3 206 rfl rfl, gm_p 17 rfl rfl, gm_1 5 rfl rfl, gm_3 207 rfl rfl, by decide +kernel⟩
theorem mlX5_118 : mLm RX5 118 5 yX5_readMan cX5_readMan 2 none 0 := ⟨RX5, TX5, 19, rfl, rfl, (Or.inl (gm_3 208 rfl rfl)), gm_3 210 rfl rfl, gm_p 18 rfl rfl, gm_1 5 rfl rfl, gm_3 211 rfl rfl, by decide +kernel⟩
theorem mlX5_121 : mLm RX5 121 5 yX5_readCloud cX5_readCloud 1 none 0 := ⟨RX5, TX5, 19, rfl, rfl, (Or.inl (gm_3 212 rfl rfl)), gm_3 214 rfl rfl, gm_p 19 rfl rfl, gm_1 5 rfl rfl, gm_3 215 rfl rfl, by decide +kernel⟩
theorem mlX5_124 : mLm RX5 124 5 yX5_readSeed cX5_readSeed 1 none 0 := ⟨RX5, TX5, 19, rfl, rfl, (Or.inl (gm_3 216 rfl rfl)), gm_3 218 rfl rfl, gm_p 20 rfl rfl, gm_1 5 rfl rfl, gm_3 219 rfl rfl, by decide +kernel⟩
theorem mlX5_127 : mLm RX5 127 5 yX5_readLaw cX5_readLaw 1 none 0 := ⟨RX5, TX5, 19, rfl, rfl, (Or.inl (gm_3 221 rfl rfl)), gm_3 223 rfl rfl, gm_p 21 rfl rfl, gm_1 5 rfl rfl, gm_3 224 rfl rfl, by decide +kernel⟩
theorem mlX5_130 : mLm RX5 130 5 yX5_expect cX5_expect 2 none 1 := ⟨RX5, TX5, 19, rfl, rfl, (Or.inl (gm_4 31 rfl rfl)), gm_4 33 rfl rfl, gm_p 30 rfl rfl, gm_1 5 rfl rfl, gm_4 34 rfl rfl, by decide +kernel⟩
theorem mlX5_134 : mLm RX5 134 5 yX5_number cX5_number 4 (some .int) 2 := ⟨RX5, TX5, 19, rfl, rfl, (Or.inl (gm_3 139 rfl rfl)), gm_3 141 rfl rfl, gm_p 8 rfl rfl, gm_1 5 rfl rfl, gm_3 142 rfl rfl, by decide +kernel⟩
theorem mlX5_146 : mLm RX5 146 5 yX5_once cX5_once 2 none 1 := ⟨RX5, TX5, 19, rfl, rfl, (Or.inl (gm_3 147 rfl rfl)), gm_3 149 rfl rfl, gm_p 10 rfl rfl, gm_1 5 rfl rfl, gm_3 150 rfl rfl, by decide +kernel⟩
theorem mlX5_156 : mLm RX5 156 5 yX5_takeWord cX5_takeWord 2 none 1 := ⟨RX5, TX5, 19, rfl, rfl, (Or.inl (gm_3 155 rfl rfl)), gm_3 157 rfl rfl, gm_p 12 rfl rfl, gm_1 5 rfl rfl, gm_3 158 rfl rfl, by decide +kernel⟩
theorem mlX5_159 : mLm RX5 159 8 yX8_isWall cX8_isWall 3 (some .boolean) 2 := ⟨RX8, TX8, 16, rfl, rfl, (Or.inl (gm_3 159 rfl rfl)), gm_3 160 rfl rfl, gm_3 161 rfl rfl, gm_1 2 rfl rfl, gm_3 162 rfl rfl, by decide +kernel⟩
theorem mlX5_166 : mLm RX5 166 8 yX8_setWall cX8_setWall 3 none 2 := ⟨RX8, TX8, 16, rfl, rfl, (Or.inl (gm_3 167 rfl rfl)), gm_3 168 rfl rfl, gm_3 169 rfl rfl, gm_1 2 rfl rfl, gm_3 170 rfl rfl, by decide +kernel⟩
theorem mlX5_173 : mLm RX5 173 7 yX7_isFull cX7_isFull 1 (some .boolean) 0 := ⟨RX7, TX7, 4, rfl, rfl, (Or.inl (gm_3 175 rfl rfl)), gm_3 176 rfl rfl, gm_3 177 rfl rfl, gm_1 3 rfl rfl, gm_3 178 rfl rfl, by decide +kernel⟩
theorem mlX5_179 : mLm RX5 179 7 yX7_find cX7_find 4 (some .int) 2 := ⟨RX7, TX7, 4, rfl, rfl, (Or.inl (gm_3 179 rfl rfl)), gm_3 180 rfl rfl, gm_3 181 rfl rfl, gm_1 3 rfl rfl, gm_3 182 rfl rfl, by decide +kernel⟩
theorem mlX5_182 : mLm RX5 182 7 yX7_put cX7_put 3 none 2 := ⟨RX7, TX7, 4, rfl, rfl, (Or.inl (gm_3 184 rfl rfl)), gm_3 185 rfl rfl, gm_3 186 rfl rfl, gm_1 3 rfl rfl, gm_3 187 rfl rfl, by decide +kernel⟩
theorem mlX5_185 : mLm RX5 185 7 yX7_close cX7_close 1 none 0 := ⟨RX7, TX7, 4, rfl, rfl, (Or.inl (gm_3 188 rfl rfl)), gm_3 189 rfl rfl, gm_3 190 rfl rfl, gm_1 3 rfl rfl, gm_3 191 rfl rfl, by decide +kernel⟩
theorem mlX5_191 : mLm RX5 191 5 yX5_takeName cX5_takeName 2 none 1 := ⟨RX5, TX5, 19, rfl, rfl, (Or.inl (gm_3 196 rfl rfl)), gm_3 198 rfl rfl, gm_p 15 rfl rfl, gm_1 5 rfl rfl, gm_3 199 rfl rfl, by decide +kernel⟩
theorem mlX5_211 : mLm RX5 211 1 yX1_isTold cX1_isTold 1 (some .boolean) 0 := ⟨RX1, TX1, 3, rfl, rfl, (Or.inl (gm_3 225 rfl rfl)), gm_3 226 rfl rfl, gm_3 227 rfl rfl, gm_1 4 rfl rfl, gm_3 228 rfl rfl, by decide +kernel⟩
theorem mlX5_214 : mLm RX5 214 5 yX5_readE cX5_readE 3 none 0 := ⟨RX5, TX5, 19, rfl, rfl, (Or.inl (gm_3 229 rfl rfl)), gm_3 231 rfl rfl, gm_p 22 rfl rfl, gm_1 5 rfl rfl, gm_3 232 rfl rfl, by decide +kernel⟩
theorem mlX5_226 : mLm RX5 226 5 yX5_takePart cX5_takePart 1 (some .boolean) 0 := ⟨RX5, TX5, 19, rfl, rfl, (Or.inl (gm_3 233 rfl rfl)), gm_3 235 rfl rfl, gm_p 23 rfl rfl, gm_1 5 rfl rfl, gm_3 236 rfl rfl, by decide +kernel⟩
theorem mlX5_229 : mLm RX5 229 5 yX5_takeClose cX5_takeClose 1 none 0 := ⟨RX5, TX5, 19, rfl, rfl, (Or.inl (gm_4 19 rfl rfl)), gm_4 21 rfl rfl, gm_p 27 rfl rfl, gm_1 5 rfl rfl, gm_4 22 rfl rfl, by decide +kernel⟩
theorem mlX5_232 : mLs RX5 232 yX5_rankOf cX5_rankOf 1 (some .int) 1 := ⟨(Or.inl (gm_4 16 rfl rfl)), gm_4 17 rfl rfl, gm_1 5 rfl rfl, gm_4 18 rfl rfl, by decide +kernel⟩
theorem mlX5_236 : mLm RX5 236 5 yX5_takeSign cX5_takeSign 3 none 0 := ⟨RX5, TX5, 19, rfl, rfl, (Or.inl (gm_4 27 rfl rfl)), gm_4 29 rfl rfl, gm_p 29 rfl rfl, gm_1 5 rfl rfl, gm_4 30 rfl rfl, by decide +kernel⟩
theorem mlX5_239 : mLm RX5 239 5 yX5_release cX5_release 3 none 1 := ⟨RX5, TX5, 19, rfl, rfl, (Or.inl (gm_4 23 rfl rfl)), gm_4 25 rfl rfl, gm_p 28 rfl rfl, gm_1 5 rfl rfl, gm_4 26 rfl rfl, by decide +kernel⟩
theorem mlX5_242 : mLs RX5 242 yX5_isName cX5_isName 1 (some .boolean) 1 := ⟨(Or.inl (gm_3 237 rfl rfl)), gm_3 238 rfl rfl, gm_1 5 rfl rfl, gm_3 239 rfl rfl, by decide +kernel⟩
theorem mlX5_246 : mLm RX5 246 1 yX1_add cX1_add 2 none 1 := ⟨RX1, TX1, 3, rfl, rfl, (Or.inl (gm_4 0 rfl rfl)), gm_4 1 rfl rfl, gm_4 2 rfl rfl, gm_1 4 rfl rfl, gm_4 3 rfl rfl, by decide +kernel⟩
theorem mlX5_249 : mLm RX5 249 5 yX5_countKnot cX5_countKnot 1 none 0 := ⟨RX5, TX5, 19, rfl, rfl, (Or.inl (gm_4 4 rfl rfl)), gm_4 6 rfl rfl, gm_p 24 rfl rfl, gm_1 5 rfl rfl, gm_4 7 rfl rfl, by decide +kernel⟩
theorem mlX5_252 : mLm RX5 252 5 yX5_hold cX5_hold 2 none 1 := ⟨RX5, TX5, 19, rfl, rfl, (Or.inl (gm_4 8 rfl rfl)), gm_4 10 rfl rfl, gm_p 25 rfl rfl, gm_1 5 rfl rfl, gm_4 11 rfl rfl, by decide +kernel⟩
theorem mlX5_255 : mLm RX5 255 5 yX5_lastWaiting cX5_lastWaiting 1 (some .int) 0 := ⟨RX5, TX5, 19, rfl, rfl, (Or.inl (gm_4 12 rfl rfl)), gm_4 14 rfl rfl, gm_p 26 rfl rfl, gm_1 5 rfl rfl, gm_4 15 rfl rfl, by decide +kernel⟩
theorem mlX5_261 : mLs RX5 261 yX5_isLetter cX5_isLetter 1 (some .boolean) 1 := ⟨(Or.inl (gm_3 104 rfl rfl)), gm_3 105 rfl rfl, gm_1 5 rfl rfl, gm_3 106 rfl rfl, by decide +kernel⟩
theorem mlX5_265 : mLm RX5 265 5 yX5_scanWord cX5_scanWord 3 none 0 := ⟨RX5, TX5, 19, rfl, rfl, (Or.inl (gm_3 107 rfl rfl)), gm_3 109 rfl rfl, gm_p 3 rfl rfl, gm_1 5 rfl rfl, gm_3 110 rfl rfl, by decide +kernel⟩
theorem mlX5_268 : mLs RX5 268 yX5_isDigit cX5_isDigit 1 (some .boolean) 1 := ⟨(Or.inl (gm_3 111 rfl rfl)), gm_3 112 rfl rfl, gm_1 5 rfl rfl, gm_3 113 rfl rfl, by decide +kernel⟩
theorem mlX5_271 : mLm RX5 271 5 yX5_scanNumber cX5_scanNumber 1 none 0 := ⟨RX5, TX5, 19, rfl, rfl, (Or.inl (gm_3 114 rfl rfl)), gm_3 116 rfl rfl, gm_p 4 rfl rfl, gm_1 5 rfl rfl, gm_3 117 rfl rfl, by decide +kernel⟩
theorem mlX5_274 : mLm RX5 274 5 yX5_scanSign cX5_scanSign 3 none 0 := ⟨RX5, TX5, 19, rfl, rfl, (Or.inl (gm_3 119 rfl rfl)), gm_3 121 rfl rfl, gm_p 5 rfl rfl, gm_1 5 rfl rfl, gm_3 122 rfl rfl, by decide +kernel⟩
theorem mlX5_65 : mLm RX5 65 8 yX8_clean cX8_clean 2 none 0 := ⟨RX8, TX8, 16, rfl, rfl, (Or.inl (gm_3 99 rfl rfl)), gm_2 227 rfl rfl, gm_2 228 rfl rfl, gm_1 2 rfl rfl, gm_2 229 rfl rfl, by decide +kernel⟩
theorem mlX5_87 : mLm RX5 87 5 yX5_next cX5_next 1 none 0 := ⟨RX5, TX5, 19, rfl, rfl, (Or.inl (gm_3 100 rfl rfl)), gm_3 102 rfl rfl, gm_p 2 rfl rfl, gm_1 5 rfl rfl, gm_3 103 rfl rfl, by decide +kernel⟩
theorem mlX5_93 : mLm RX5 93 5 yX5_fail cX5_fail 3 none 2 := ⟨RX5, TX5, 19, rfl, rfl, (Or.inl (gm_3 135 rfl rfl)), gm_3 137 rfl rfl, gm_p 7 rfl rfl, gm_1 5 rfl rfl, gm_3 138 rfl rfl, by decide +kernel⟩
theorem mlX5_97 : mLm RX5 97 5 yX5_readRoom cX5_readRoom 1 none 0 := ⟨RX5, TX5, 19, rfl, rfl, (Or.inl (gm_3 131 rfl rfl)), gm_3 133 rfl rfl, gm_p 6 rfl rfl, gm_1 5 rfl rfl, gm_3 134 rfl rfl, by decide +kernel⟩
theorem mlX6_24 : mLm RX6 24 7 yX7_empty cX7_empty 1 none 0 := ⟨RX7, TX7, 4, rfl, rfl, (Or.inl (gm_3 30 rfl rfl)), gm_2 231 rfl rfl, gm_2 232 rfl rfl, gm_1 3 rfl rfl, gm_2 233 rfl rfl, by decide +kernel⟩
theorem mlX6_31 : mLm RX6 31 7 yX7_size cX7_size 1 (some .int) 0 := ⟨RX7, TX7, 4, rfl, rfl, (Or.inl (gm_5 107 rfl rfl)), gm_3 7 rfl rfl, gm_3 8 rfl rfl, gm_1 3 rfl rfl, gm_3 9 rfl rfl, by decide +kernel⟩
theorem mlX6_35 : mLm RX6 35 7 yX7_isFull cX7_isFull 1 (some .boolean) 0 := ⟨RX7, TX7, 4, rfl, rfl, (Or.inl (gm_5 104 rfl rfl)), gm_3 176 rfl rfl, gm_3 177 rfl rfl, gm_1 3 rfl rfl, gm_3 178 rfl rfl, by decide +kernel⟩
theorem mlX6_39 : mLm RX6 39 7 yX7_put cX7_put 3 none 2 := ⟨RX7, TX7, 4, rfl, rfl, (Or.inl (gm_5 105 rfl rfl)), gm_3 185 rfl rfl, gm_3 186 rfl rfl, gm_1 3 rfl rfl, gm_3 187 rfl rfl, by decide +kernel⟩
theorem mlX6_42 : mLm RX6 42 7 yX7_close cX7_close 1 none 0 := ⟨RX7, TX7, 4, rfl, rfl, (Or.inl (gm_5 106 rfl rfl)), gm_3 189 rfl rfl, gm_3 190 rfl rfl, gm_1 3 rfl rfl, gm_3 191 rfl rfl, by decide +kernel⟩
theorem mlX6_45 : mLm RX6 45 7 yX7_has cX7_has 2 (some .boolean) 1 := ⟨RX7, TX7, 4, rfl, rfl, (Or.inl (gm_5 116 rfl rfl)), gm_4 132 rfl rfl, gm_4 133 rfl rfl, gm_1 3 rfl rfl, gm_4 134 rfl rfl, by decide +kernel⟩
theorem mlX6_49 : mLm RX6 49 6 yX6_add cX6_add 6 (some .int) 5 := ⟨RX6, TX6, 3, rfl, rfl, (Or.inl (gm_5 117 rfl rfl)), gm_5 101 rfl rfl, gm_5 102 rfl rfl, gm_1 15 rfl rfl, gm_5 103 rfl rfl, by decide +kernel⟩
theorem mlX6_53 : mLm RX6 53 6 yX6_reach cX6_reach 1 (some .int) 0 := ⟨RX6, TX6, 3, rfl, rfl, (Or.inl (gm_5 134 rfl rfl)), gm_5 135 rfl rfl, gm_5 136 rfl rfl, gm_1 15 rfl rfl, gm_5 137 rfl rfl, by decide +kernel⟩
theorem mlX6_62 : mLm RX6 62 7 yX7_get cX7_get 4 (some .int) 2 := ⟨RX7, TX7, 4, rfl, rfl, (Or.inl (gm_5 139 rfl rfl)), gm_3 11 rfl rfl, gm_3 12 rfl rfl, gm_1 3 rfl rfl, gm_3 13 rfl rfl, by decide +kernel⟩
theorem mlX6_65 : mLm RX6 65 6 yX6_isKnown cX6_isKnown 2 (some .boolean) 1 := ⟨RX6, TX6, 3, rfl, rfl, (Or.inl (gm_5 148 rfl rfl)), gm_5 150 rfl rfl, gm_p 48 rfl rfl, gm_1 15 rfl rfl, gm_5 151 rfl rfl, by decide +kernel⟩
theorem mlX7_25 : mLm RX7 25 7 yX7_get cX7_get 4 (some .int) 2 := ⟨RX7, TX7, 4, rfl, rfl, (Or.inl (gm_3 183 rfl rfl)), gm_3 11 rfl rfl, gm_3 12 rfl rfl, gm_1 3 rfl rfl, gm_3 13 rfl rfl, by decide +kernel⟩
theorem mlX8_47 : mLm RX8 47 7 yX7_empty cX7_empty 1 none 0 := ⟨RX7, TX7, 4, rfl, rfl, (Or.inl (gm_2 230 rfl rfl)), gm_2 231 rfl rfl, gm_2 232 rfl rfl, gm_1 3 rfl rfl, gm_2 233 rfl rfl, by decide +kernel⟩
theorem mlX8_50 : mLm RX8 50 1 yX1_empty cX1_empty 1 none 0 := ⟨RX1, TX1, 3, rfl, rfl, (Or.inl (gm_2 234 rfl rfl)), gm_2 235 rfl rfl, gm_2 236 rfl rfl, gm_1 4 rfl rfl, gm_2 237 rfl rfl, by decide +kernel⟩
theorem mlX8_76 : mLm RX8 76 7 yX7_size cX7_size 1 (some .int) 0 := ⟨RX7, TX7, 4, rfl, rfl, (Or.inl (gm_3 6 rfl rfl)), gm_3 7 rfl rfl, gm_3 8 rfl rfl, gm_1 3 rfl rfl, gm_3 9 rfl rfl, by decide +kernel⟩
theorem mlX8_80 : mLm RX8 80 7 yX7_get cX7_get 4 (some .int) 2 := ⟨RX7, TX7, 4, rfl, rfl, (Or.inl (gm_3 10 rfl rfl)), gm_3 11 rfl rfl, gm_3 12 rfl rfl, gm_1 3 rfl rfl, gm_3 13 rfl rfl, by decide +kernel⟩
theorem mlX8_84 : mLs RX8 84 yJ9_floorMod_7cf53 cJ9_floorMod_7cf53 3 (some .int) 2 := ⟨(Or.inl (gm_3 14 rfl rfl)), gm_3 15 rfl rfl, gm_1 16 rfl rfl, gm_3 16 rfl rfl, by decide +kernel⟩
theorem mlX8_89 : mLm RX8 89 8 yX8_isCell cX8_isCell 3 (some .boolean) 2 := ⟨RX8, TX8, 16, rfl, rfl, (Or.inl (gm_3 163 rfl rfl)), gm_3 164 rfl rfl, gm_3 165 rfl rfl, gm_1 2 rfl rfl, gm_3 166 rfl rfl, by decide +kernel⟩
theorem mlX9_40 : mLm RX9 40 7 yX7_size cX7_size 1 (some .int) 0 := ⟨RX7, TX7, 4, rfl, rfl, (Or.inl (gm_3 21 rfl rfl)), gm_3 7 rfl rfl, gm_3 8 rfl rfl, gm_1 3 rfl rfl, gm_3 9 rfl rfl, by decide +kernel⟩
theorem kw_1002 : Cond.methodLink RX9 64 Lib.Math.min.name ∈ gtbl := gm_4 163 rfl rfl
theorem kw_1057 : Cond.constantLong RX0 83 (1103515245) ∈ gtbl := gm_4 218 rfl rfl
theorem kw_1058 : Cond.constantLong RX0 85 (12345) ∈ gtbl := gm_4 219 rfl rfl
theorem kw_1059 : Cond.constantLong RX0 87 (2147483647) ∈ gtbl := gm_4 220 rfl rfl
theorem kw_1060 : Cond.constant RX0 89 (65536) ∈ gtbl := gm_4 221 rfl rfl
theorem kw_1171 : Cond.constantLong RX10 326 (-1) ∈ gtbl := gm_5 92 rfl rfl
theorem kw_1217 : Cond.methodLink RX6 56 Lib.Math.min.name ∈ gtbl := gm_5 138 rfl rfl
theorem kw_1231 : Cond.methodLink RX6 68 Lib.Math.max.name ∈ gtbl := gm_5 152 rfl rfl
theorem kw_135 : Cond.initialized "java/lang/Math" ∈ gtbl := gm_1 16 rfl rfl
theorem kw_1634 : Cond.constant RX11 201 (99999) ∈ gtbl := gm_7 75 rfl rfl
theorem kw_1756 : Cond.constant RX11 426 (1103515245) ∈ gtbl := gm_7 197 rfl rfl
theorem kw_1757 : Cond.constant RX11 429 (2147483647) ∈ gtbl := gm_7 198 rfl rfl
theorem kw_1774 : Cond.methodLink RX11 377 Lib.Math.abs.name ∈ gtbl := gm_7 215 rfl rfl
theorem kw_1805 : Cond.methodLink RX11 345 Lib.MathLoose.abs_long.x ∈ gtbl := gm_8 6 rfl rfl
theorem kw_1806 : Cond.static Lib.MathLoose.abs_long.x ∈ gtbl := gm_8 7 rfl rfl
theorem kw_1807 : Cond.code Lib.MathLoose.abs_long.x Lib.MathLoose.abs_long.code 2 (some .long) ∈ gtbl := gm_8 8 rfl rfl
theorem kw_1808 : Cond.constantLong RX11 351 (1000000000000) ∈ gtbl := gm_8 9 rfl rfl
theorem kw_1809 : Cond.constantLong RX11 353 (-1000000000000) ∈ gtbl := gm_8 10 rfl rfl
theorem kw_1810 : Cond.methodLink RX11 370 Lib.MathLoose.min_long.x ∈ gtbl := gm_8 11 rfl rfl
theorem kw_1811 : Cond.methodLink RX11 374 Lib.MathLoose.max_long.x ∈ gtbl := gm_8 12 rfl rfl
theorem kw_1862 : Cond.constantLong RX11 486 (-9223372036854775808) ∈ gtbl := gm_8 63 rfl rfl
theorem kw_1863 : Cond.methodLink RX11 433 Lib.Math.min.name ∈ gtbl := gm_8 64 rfl rfl
theorem kw_1988 : Cond.constantLong RX11 522 (-1) ∈ gtbl := gm_8 189 rfl rfl
theorem kw_1989 : Cond.constantLong RX11 524 (100) ∈ gtbl := gm_8 190 rfl rfl
theorem kw_2013 : Cond.methodLink RX11 535 Lib.Math.max.name ∈ gtbl := gm_8 214 rfl rfl
theorem kw_695 : Cond.methodLink RX5 50 Lib.Math.min.name ∈ gtbl := gm_3 96 rfl rfl
theorem kw_696 : Cond.static Lib.Math.min.name ∈ gtbl := gm_3 97 rfl rfl
theorem kw_697 : Cond.code Lib.Math.min.name Lib.Math.min.code 2 (some .int) ∈ gtbl := gm_3 98 rfl rfl
theorem kw_717 : Cond.constant RX5 277 (1000000) ∈ gtbl := gm_3 118 rfl rfl
theorem kw_819 : Cond.constant RX5 207 (99999) ∈ gtbl := gm_3 220 rfl rfl
theorem kw_909 : Cond.methodLink RX0 175 Lib.Math.abs.name ∈ gtbl := gm_4 70 rfl rfl
theorem kw_910 : Cond.static Lib.Math.abs.name ∈ gtbl := gm_4 71 rfl rfl
theorem kw_911 : Cond.code Lib.Math.abs.name Lib.Math.abs.code 1 (some .int) ∈ gtbl := gm_4 72 rfl rfl
theorem kw_923 : Cond.constant RJ6 265 (1431655765) ∈ gtbl := gm_4 84 rfl rfl
theorem kw_924 : Cond.constant RJ6 266 (858993459) ∈ gtbl := gm_4 85 rfl rfl
theorem kw_925 : Cond.constant RJ6 267 (252645135) ∈ gtbl := gm_4 86 rfl rfl
theorem kw_935 : Cond.constantLong RX1 29 (-9223372036854775808) ∈ gtbl := gm_4 96 rfl rfl
theorem kw_939 : Cond.constantLong RX1 35 (1000000000000) ∈ gtbl := gm_4 100 rfl rfl
theorem kw_940 : Cond.constantLong RX1 37 (-1000000000000) ∈ gtbl := gm_4 101 rfl rfl
theorem kw_941 : Cond.constantLong RX0 218 (-9223372036854775808) ∈ gtbl := gm_4 102 rfl rfl
theorem kw_942 : Cond.methodLink RX0 220 Lib.MathLoose.min_long.x ∈ gtbl := gm_4 103 rfl rfl
theorem kw_943 : Cond.static Lib.MathLoose.min_long.x ∈ gtbl := gm_4 104 rfl rfl
theorem kw_944 : Cond.code Lib.MathLoose.min_long.x Lib.MathLoose.min_long.code 4 (some .long) ∈ gtbl := gm_4 105 rfl rfl
theorem kw_945 : Cond.methodLink RX0 223 Lib.MathLoose.max_long.x ∈ gtbl := gm_4 106 rfl rfl
theorem kw_946 : Cond.static Lib.MathLoose.max_long.x ∈ gtbl := gm_4 107 rfl rfl
theorem kw_947 : Cond.code Lib.MathLoose.max_long.x Lib.MathLoose.max_long.code 4 (some .long) ∈ gtbl := gm_4 108 rfl rfl
theorem kw_951 : Cond.methodLink RX0 149 Lib.Math.min.name ∈ gtbl := gm_4 112 rfl rfl
theorem kw_952 : Cond.methodLink RX0 154 Lib.Math.max.name ∈ gtbl := gm_4 113 rfl rfl
theorem kw_953 : Cond.static Lib.Math.max.name ∈ gtbl := gm_4 114 rfl rfl
theorem kw_954 : Cond.code Lib.Math.max.name Lib.Math.max.code 2 (some .int) ∈ gtbl := gm_4 115 rfl rfl
theorem kw_998 : Cond.constantLong RX10 239 (-9223372036854775808) ∈ gtbl := gm_4 159 rfl rfl
theorem bp_10 : (Int8.ofInt 10).toInt32 = (10 : Int32) := by decide
theorem bp_100 : (Int8.ofInt 100).toInt32 = (100 : Int32) := by decide
theorem bp_11 : (Int8.ofInt 11).toInt32 = (11 : Int32) := by decide
theorem bp_12 : (Int8.ofInt 12).toInt32 = (12 : Int32) := by decide
theorem bp_122 : (Int8.ofInt 122).toInt32 = (122 : Int32) := by decide
theorem bp_125 : (Int8.ofInt 125).toInt32 = (125 : Int32) := by decide
theorem bp_13 : (Int8.ofInt 13).toInt32 = (13 : Int32) := by decide
theorem bp_14 : (Int8.ofInt 14).toInt32 = (14 : Int32) := by decide
theorem bp_15 : (Int8.ofInt 15).toInt32 = (15 : Int32) := by decide
theorem bp_16 : (Int8.ofInt 16).toInt32 = (16 : Int32) := by decide
theorem bp_17 : (Int8.ofInt 17).toInt32 = (17 : Int32) := by decide
theorem bp_19 : (Int8.ofInt 19).toInt32 = (19 : Int32) := by decide
theorem bp_20 : (Int8.ofInt 20).toInt32 = (20 : Int32) := by decide
theorem bp_23 : (Int8.ofInt 23).toInt32 = (23 : Int32) := by decide
theorem bp_24 : (Int8.ofInt 24).toInt32 = (24 : Int32) := by decide
theorem bp_25 : (Int8.ofInt 25).toInt32 = (25 : Int32) := by decide
theorem bp_31 : (Int8.ofInt 31).toInt32 = (31 : Int32) := by decide
theorem bp_32 : (Int8.ofInt 32).toInt32 = (32 : Int32) := by decide
theorem bp_33 : (Int8.ofInt 33).toInt32 = (33 : Int32) := by decide
theorem bp_36 : (Int8.ofInt 36).toInt32 = (36 : Int32) := by decide
theorem bp_37 : (Int8.ofInt 37).toInt32 = (37 : Int32) := by decide
theorem bp_40 : (Int8.ofInt 40).toInt32 = (40 : Int32) := by decide
theorem bp_41 : (Int8.ofInt 41).toInt32 = (41 : Int32) := by decide
theorem bp_42 : (Int8.ofInt 42).toInt32 = (42 : Int32) := by decide
theorem bp_43 : (Int8.ofInt 43).toInt32 = (43 : Int32) := by decide
theorem bp_45 : (Int8.ofInt 45).toInt32 = (45 : Int32) := by decide
theorem bp_47 : (Int8.ofInt 47).toInt32 = (47 : Int32) := by decide
theorem bp_48 : (Int8.ofInt 48).toInt32 = (48 : Int32) := by decide
theorem bp_50 : (Int8.ofInt 50).toInt32 = (50 : Int32) := by decide
theorem bp_57 : (Int8.ofInt 57).toInt32 = (57 : Int32) := by decide
theorem bp_59 : (Int8.ofInt 59).toInt32 = (59 : Int32) := by decide
theorem bp_6 : (Int8.ofInt 6).toInt32 = (6 : Int32) := by decide
theorem bp_60 : (Int8.ofInt 60).toInt32 = (60 : Int32) := by decide
theorem bp_61 : (Int8.ofInt 61).toInt32 = (61 : Int32) := by decide
theorem bp_62 : (Int8.ofInt 62).toInt32 = (62 : Int32) := by decide
theorem bp_63 : (Int8.ofInt 63).toInt32 = (63 : Int32) := by decide
theorem bp_64 : (Int8.ofInt 64).toInt32 = (64 : Int32) := by decide
theorem bp_7 : (Int8.ofInt 7).toInt32 = (7 : Int32) := by decide
theorem bp_72 : (Int8.ofInt 72).toInt32 = (72 : Int32) := by decide
theorem bp_8 : (Int8.ofInt 8).toInt32 = (8 : Int32) := by decide
theorem bp_9 : (Int8.ofInt 9).toInt32 = (9 : Int32) := by decide
theorem bp_97 : (Int8.ofInt 97).toInt32 = (97 : Int32) := by decide
theorem bp_99 : (Int8.ofInt 99).toInt32 = (99 : Int32) := by decide
theorem bp_m2 : (Int8.ofInt (-2)).toInt32 = (-2 : Int32) := by decide
theorem ic_0 : Int32.ofInt 0 = (0 : Int32) := by decide
theorem ic_1 : Int32.ofInt 1 = (1 : Int32) := by decide
theorem ic_2 : Int32.ofInt 2 = (2 : Int32) := by decide
theorem ic_3 : Int32.ofInt 3 = (3 : Int32) := by decide
theorem ic_4 : Int32.ofInt 4 = (4 : Int32) := by decide
theorem ic_5 : Int32.ofInt 5 = (5 : Int32) := by decide
theorem ic_m1 : Int32.ofInt (-1) = (-1 : Int32) := by decide
theorem ic_m8 : Int32.ofInt (-8) = (-8 : Int32) := by decide
theorem lc_0 : Int64.ofNat 0 = (0 : Int64) := by decide
theorem lc_1 : Int64.ofNat 1 = (1 : Int64) := by decide
theorem sp_12345 : (Int16.ofInt 12345).toInt32 = (12345 : Int32) := by decide
theorem sp_255 : (Int16.ofInt 255).toInt32 = (255 : Int32) := by decide
theorem sp_256 : (Int16.ofInt 256).toInt32 = (256 : Int32) := by decide
theorem sp_257 : (Int16.ofInt 257).toInt32 = (257 : Int32) := by decide
theorem sp_258 : (Int16.ofInt 258).toInt32 = (258 : Int32) := by decide
theorem sp_260 : (Int16.ofInt 260).toInt32 = (260 : Int32) := by decide
theorem sp_261 : (Int16.ofInt 261).toInt32 = (261 : Int32) := by decide
theorem sp_262 : (Int16.ofInt 262).toInt32 = (262 : Int32) := by decide
theorem sp_625 : (Int16.ofInt 625).toInt32 = (625 : Int32) := by decide
theorem sp_680 : (Int16.ofInt 680).toInt32 = (680 : Int32) := by decide
theorem sp_700 : (Int16.ofInt 700).toInt32 = (700 : Int32) := by decide
theorem sp_9900 : (Int16.ofInt 9900).toInt32 = (9900 : Int32) := by decide
theorem sp_999 : (Int16.ofInt 999).toInt32 = (999 : Int32) := by decide
theorem sp_9999 : (Int16.ofInt 9999).toInt32 = (9999 : Int32) := by decide
theorem tn_e {x k : Int32} (h : ¬ x = k) (z : Int) (hz : k.toInt = z) : x.toInt ≠ z := fun e => h (Int32.toInt_inj.mp (e.trans hz.symm))
