theorem mlL_21 : mLm RL 21 10 yX10_feed cX10_feed 6 (some .int) 5 := ⟨RX10, TX10, 16, rfl, rfl, (Or.inl (gm_3 80 rfl rfl)), gm_3 81 rfl rfl, gm_3 82 rfl rfl, gm_1 1 rfl rfl, gm_3 83 rfl rfl, by decide +kernel⟩
theorem mlL_25 : mLm RL 25 11 yX11_feed cX11_feed 8 (some .int) 5 := ⟨RX11, TX11, 74, rfl, rfl, (Or.inl (gm_7 38 rfl rfl)), gm_7 39 rfl rfl, gm_7 40 rfl rfl, gm_1 17 rfl rfl, gm_7 41 rfl rfl, by decide +kernel⟩
theorem mlL_26 : mLm RL 26 10 yX10_text cX10_text 3 (some .int) 1 := ⟨RX10, TX10, 16, rfl, rfl, (Or.inl (gm_3 88 rfl rfl)), gm_3 89 rfl rfl, gm_3 90 rfl rfl, gm_1 1 rfl rfl, gm_3 91 rfl rfl, by decide +kernel⟩
theorem mlL_30 : mLm RL 30 11 yX11_text cX11_text 3 (some .int) 1 := ⟨RX11, TX11, 74, rfl, rfl, (Or.inl (gm_7 42 rfl rfl)), gm_7 43 rfl rfl, gm_7 44 rfl rfl, gm_1 17 rfl rfl, gm_7 45 rfl rfl, by decide +kernel⟩
theorem mlL_31 : mLm RL 31 10 yX10_fault cX10_fault 2 (some .int) 1 := ⟨RX10, TX10, 16, rfl, rfl, (Or.inl (gm_4 35 rfl rfl)), gm_4 36 rfl rfl, gm_4 37 rfl rfl, gm_1 1 rfl rfl, gm_4 38 rfl rfl, by decide +kernel⟩
theorem mlL_34 : mLm RL 34 11 yX11_fault cX11_fault 2 (some .int) 1 := ⟨RX11, TX11, 74, rfl, rfl, (Or.inl (gm_7 177 rfl rfl)), gm_7 178 rfl rfl, gm_7 179 rfl rfl, gm_1 17 rfl rfl, gm_7 180 rfl rfl, by decide +kernel⟩
theorem mlL_35 : mLm RL 35 10 yX10_named cX10_named 3 (some .int) 2 := ⟨RX10, TX10, 16, rfl, rfl, (Or.inl (gm_4 39 rfl rfl)), gm_4 40 rfl rfl, gm_4 41 rfl rfl, gm_1 1 rfl rfl, gm_4 42 rfl rfl, by decide +kernel⟩
theorem mlL_38 : mLm RL 38 11 yX11_named cX11_named 3 (some .int) 2 := ⟨RX11, TX11, 74, rfl, rfl, (Or.inl (gm_7 181 rfl rfl)), gm_7 182 rfl rfl, gm_7 183 rfl rfl, gm_1 17 rfl rfl, gm_7 184 rfl rfl, by decide +kernel⟩
theorem mlL_39 : mLm RL 39 10 yX10_where cX10_where 2 (some .int) 1 := ⟨RX10, TX10, 16, rfl, rfl, (Or.inl (gm_4 44 rfl rfl)), gm_4 45 rfl rfl, gm_4 46 rfl rfl, gm_1 1 rfl rfl, gm_4 47 rfl rfl, by decide +kernel⟩
theorem mlL_42 : mLm RL 42 11 yX11_where cX11_where 2 (some .int) 1 := ⟨RX11, TX11, 74, rfl, rfl, (Or.inl (gm_7 185 rfl rfl)), gm_7 186 rfl rfl, gm_7 187 rfl rfl, gm_1 17 rfl rfl, gm_7 188 rfl rfl, by decide +kernel⟩
theorem mlL_53 : mLm RL 53 10 yX10_man cX10_man 3 (some .int) 2 := ⟨RX10, TX10, 16, rfl, rfl, (Or.inl (gm_4 123 rfl rfl)), gm_4 124 rfl rfl, gm_4 125 rfl rfl, gm_1 1 rfl rfl, gm_4 126 rfl rfl, by decide +kernel⟩
theorem mlL_56 : mLm RL 56 11 yX11_man cX11_man 3 (some .int) 2 := ⟨RX11, TX11, 74, rfl, rfl, (Or.inl (gm_8 31 rfl rfl)), gm_8 32 rfl rfl, gm_8 33 rfl rfl, gm_1 17 rfl rfl, gm_8 34 rfl rfl, by decide +kernel⟩
theorem mlL_57 : mLm RL 57 10 yX10_lamp cX10_lamp 3 (some .int) 2 := ⟨RX10, TX10, 16, rfl, rfl, (Or.inl (gm_4 140 rfl rfl)), gm_4 141 rfl rfl, gm_4 142 rfl rfl, gm_1 1 rfl rfl, gm_4 143 rfl rfl, by decide +kernel⟩
theorem mlL_60 : mLm RL 60 11 yX11_lamp cX11_lamp 3 (some .int) 2 := ⟨RX11, TX11, 74, rfl, rfl, (Or.inl (gm_8 43 rfl rfl)), gm_8 44 rfl rfl, gm_8 45 rfl rfl, gm_1 17 rfl rfl, gm_8 46 rfl rfl, by decide +kernel⟩
theorem mlL_61 : mLm RL 61 10 yX10_wall cX10_wall 3 (some .int) 2 := ⟨RX10, TX10, 16, rfl, rfl, (Or.inl (gm_4 144 rfl rfl)), gm_4 145 rfl rfl, gm_4 146 rfl rfl, gm_1 1 rfl rfl, gm_4 147 rfl rfl, by decide +kernel⟩
theorem mlL_64 : mLm RL 64 11 yX11_wall cX11_wall 3 (some .int) 2 := ⟨RX11, TX11, 74, rfl, rfl, (Or.inl (gm_8 51 rfl rfl)), gm_8 52 rfl rfl, gm_8 53 rfl rfl, gm_1 17 rfl rfl, gm_8 54 rfl rfl, by decide +kernel⟩
theorem mlL_65 : mLm RL 65 10 yX10_law cX10_law 3 (some .long) 2 := ⟨RX10, TX10, 16, rfl, rfl, (Or.inl (gm_4 150 rfl rfl)), gm_4 151 rfl rfl, gm_4 152 rfl rfl, gm_1 1 rfl rfl, gm_4 153 rfl rfl, by decide +kernel⟩
theorem mlL_69 : mLm RL 69 11 yX11_law cX11_law 4 (some .long) 2 := ⟨RX11, TX11, 74, rfl, rfl, (Or.inl (gm_8 59 rfl rfl)), gm_8 60 rfl rfl, gm_8 61 rfl rfl, gm_1 17 rfl rfl, gm_8 62 rfl rfl, by decide +kernel⟩
theorem mlL_70 : mLm RL 70 10 yX10_step cX10_step 2 (some .int) 1 := ⟨RX10, TX10, 16, rfl, rfl, (Or.inl (gm_4 164 rfl rfl)), gm_4 165 rfl rfl, gm_4 166 rfl rfl, gm_1 1 rfl rfl, gm_4 167 rfl rfl, by decide +kernel⟩
theorem mlL_73 : mLm RL 73 11 yX11_step cX11_step 2 (some .int) 1 := ⟨RX11, TX11, 74, rfl, rfl, (Or.inl (gm_8 65 rfl rfl)), gm_8 66 rfl rfl, gm_8 67 rfl rfl, gm_1 17 rfl rfl, gm_8 68 rfl rfl, by decide +kernel⟩
theorem mlL_74 : mLm RL 74 10 yX10_light cX10_light 3 (some .boolean) 2 := ⟨RX10, TX10, 16, rfl, rfl, (Or.inl (gm_4 191 rfl rfl)), gm_4 192 rfl rfl, gm_4 193 rfl rfl, gm_1 1 rfl rfl, gm_4 194 rfl rfl, by decide +kernel⟩
theorem mlL_78 : mLm RL 78 11 yX11_light cX11_light 3 (some .boolean) 2 := ⟨RX11, TX11, 74, rfl, rfl, (Or.inl (gm_8 85 rfl rfl)), gm_8 86 rfl rfl, gm_8 87 rfl rfl, gm_1 17 rfl rfl, gm_8 88 rfl rfl, by decide +kernel⟩
theorem mlL_79 : mLm RL 79 10 yX10_again cX10_again 2 (some .boolean) 1 := ⟨RX10, TX10, 16, rfl, rfl, (Or.inl (gm_4 195 rfl rfl)), gm_4 196 rfl rfl, gm_4 197 rfl rfl, gm_1 1 rfl rfl, gm_4 198 rfl rfl, by decide +kernel⟩
theorem mlL_83 : mLm RL 83 11 yX11_again cX11_again 2 (some .boolean) 1 := ⟨RX11, TX11, 74, rfl, rfl, (Or.inl (gm_8 89 rfl rfl)), gm_8 90 rfl rfl, gm_8 91 rfl rfl, gm_1 17 rfl rfl, gm_8 92 rfl rfl, by decide +kernel⟩
theorem mlL_84 : mLm RL 84 10 yX10_go cX10_go 2 (some .int) 1 := ⟨RX10, TX10, 16, rfl, rfl, (Or.inl (gm_4 199 rfl rfl)), gm_4 200 rfl rfl, gm_4 201 rfl rfl, gm_1 1 rfl rfl, gm_4 202 rfl rfl, by decide +kernel⟩
theorem mlL_87 : mLm RL 87 11 yX11_go cX11_go 3 (some .int) 1 := ⟨RX11, TX11, 74, rfl, rfl, (Or.inl (gm_8 93 rfl rfl)), gm_8 94 rfl rfl, gm_8 95 rfl rfl, gm_1 17 rfl rfl, gm_8 96 rfl rfl, by decide +kernel⟩
theorem mlL_88 : mLm RL 88 10 yX10_ahead cX10_ahead 3 (some .int) 2 := ⟨RX10, TX10, 16, rfl, rfl, (Or.inl (gm_5 0 rfl rfl)), gm_5 1 rfl rfl, gm_5 2 rfl rfl, gm_1 1 rfl rfl, gm_5 3 rfl rfl, by decide +kernel⟩
theorem mlL_91 : mLm RL 91 11 yX11_ahead cX11_ahead 3 (some .int) 2 := ⟨RX11, TX11, 74, rfl, rfl, (Or.inl (gm_8 121 rfl rfl)), gm_8 122 rfl rfl, gm_8 123 rfl rfl, gm_1 17 rfl rfl, gm_8 124 rfl rfl, by decide +kernel⟩
theorem mlL_92 : mLm RL 92 10 yX10_when cX10_when 3 (some .int) 1 := ⟨RX10, TX10, 16, rfl, rfl, (Or.inl (gm_5 17 rfl rfl)), gm_5 18 rfl rfl, gm_5 19 rfl rfl, gm_1 1 rfl rfl, gm_5 20 rfl rfl, by decide +kernel⟩
theorem mlL_95 : mLm RL 95 11 yX11_when cX11_when 3 (some .int) 1 := ⟨RX11, TX11, 74, rfl, rfl, (Or.inl (gm_8 137 rfl rfl)), gm_8 138 rfl rfl, gm_8 139 rfl rfl, gm_1 17 rfl rfl, gm_8 140 rfl rfl, by decide +kernel⟩
theorem mlL_96 : mLm RL 96 10 yX10_way cX10_way 4 (some .int) 2 := ⟨RX10, TX10, 16, rfl, rfl, (Or.inl (gm_5 22 rfl rfl)), gm_5 23 rfl rfl, gm_5 24 rfl rfl, gm_1 1 rfl rfl, gm_5 25 rfl rfl, by decide +kernel⟩
theorem mlL_99 : mLm RL 99 11 yX11_way cX11_way 6 (some .int) 2 := ⟨RX11, TX11, 74, rfl, rfl, (Or.inl (gm_8 141 rfl rfl)), gm_8 142 rfl rfl, gm_8 143 rfl rfl, gm_1 17 rfl rfl, gm_8 144 rfl rfl, by decide +kernel⟩
theorem mlL_100 : mLm RL 100 10 yX10_cast cX10_cast 7 (some .int) 3 := ⟨RX10, TX10, 16, rfl, rfl, (Or.inl (gm_5 38 rfl rfl)), gm_5 39 rfl rfl, gm_5 40 rfl rfl, gm_1 1 rfl rfl, gm_5 41 rfl rfl, by decide +kernel⟩
theorem mlL_104 : mLm RL 104 11 yX11_cast cX11_cast 6 (some .int) 3 := ⟨RX11, TX11, 74, rfl, rfl, (Or.inl (gm_8 149 rfl rfl)), gm_8 150 rfl rfl, gm_8 151 rfl rfl, gm_1 17 rfl rfl, gm_8 152 rfl rfl, by decide +kernel⟩
theorem mlL_105 : mLm RL 105 10 yX10_lampsFor cX10_lampsFor 7 (some .int) 2 := ⟨RX10, TX10, 16, rfl, rfl, (Or.inl (gm_5 47 rfl rfl)), gm_5 48 rfl rfl, gm_5 49 rfl rfl, gm_1 1 rfl rfl, gm_5 50 rfl rfl, by decide +kernel⟩
theorem mlL_108 : mLm RL 108 11 yX11_lampsFor cX11_lampsFor 5 (some .int) 2 := ⟨RX11, TX11, 74, rfl, rfl, (Or.inl (gm_8 153 rfl rfl)), gm_8 154 rfl rfl, gm_8 155 rfl rfl, gm_1 17 rfl rfl, gm_8 156 rfl rfl, by decide +kernel⟩
theorem mlL_109 : mLm RL 109 10 yX10_plan cX10_plan 2 (some .int) 1 := ⟨RX10, TX10, 16, rfl, rfl, (Or.inl (gm_5 52 rfl rfl)), gm_5 53 rfl rfl, gm_5 54 rfl rfl, gm_1 1 rfl rfl, gm_5 55 rfl rfl, by decide +kernel⟩
theorem mlL_112 : mLm RL 112 11 yX11_plan cX11_plan 5 (some .int) 1 := ⟨RX11, TX11, 74, rfl, rfl, (Or.inl (gm_8 157 rfl rfl)), gm_8 158 rfl rfl, gm_8 159 rfl rfl, gm_1 17 rfl rfl, gm_8 160 rfl rfl, by decide +kernel⟩
theorem mlL_113 : mLm RL 113 10 yX10_rests cX10_rests 5 (some .int) 2 := ⟨RX10, TX10, 16, rfl, rfl, (Or.inl (gm_5 72 rfl rfl)), gm_5 73 rfl rfl, gm_5 74 rfl rfl, gm_1 1 rfl rfl, gm_5 75 rfl rfl, by decide +kernel⟩
theorem mlL_116 : mLm RL 116 11 yX11_rests cX11_rests 3 (some .int) 2 := ⟨RX11, TX11, 74, rfl, rfl, (Or.inl (gm_8 161 rfl rfl)), gm_8 162 rfl rfl, gm_8 163 rfl rfl, gm_1 17 rfl rfl, gm_8 164 rfl rfl, by decide +kernel⟩
theorem mlL_117 : mLm RL 117 10 yX10_rest cX10_rest 6 (some .int) 3 := ⟨RX10, TX10, 16, rfl, rfl, (Or.inl (gm_5 84 rfl rfl)), gm_5 85 rfl rfl, gm_5 86 rfl rfl, gm_1 1 rfl rfl, gm_5 87 rfl rfl, by decide +kernel⟩
theorem mlL_120 : mLm RL 120 11 yX11_rest cX11_rest 4 (some .int) 3 := ⟨RX11, TX11, 74, rfl, rfl, (Or.inl (gm_8 181 rfl rfl)), gm_8 182 rfl rfl, gm_8 183 rfl rfl, gm_1 17 rfl rfl, gm_8 184 rfl rfl, by decide +kernel⟩
theorem mlL_121 : mLm RL 121 10 yX10_clear cX10_clear 9 (some .long) 2 := ⟨RX10, TX10, 16, rfl, rfl, (Or.inl (gm_5 88 rfl rfl)), gm_5 89 rfl rfl, gm_5 90 rfl rfl, gm_1 1 rfl rfl, gm_5 91 rfl rfl, by decide +kernel⟩
theorem mlL_124 : mLm RL 124 11 yX11_clear cX11_clear 9 (some .long) 2 := ⟨RX11, TX11, 74, rfl, rfl, (Or.inl (gm_8 185 rfl rfl)), gm_8 186 rfl rfl, gm_8 187 rfl rfl, gm_1 17 rfl rfl, gm_8 188 rfl rfl, by decide +kernel⟩
theorem mlL_125 : mLm RL 125 10 yX10_see cX10_see 6 (some .int) 5 := ⟨RX10, TX10, 16, rfl, rfl, (Or.inl (gm_5 96 rfl rfl)), gm_5 97 rfl rfl, gm_5 98 rfl rfl, gm_1 1 rfl rfl, gm_5 99 rfl rfl, by decide +kernel⟩
theorem mlL_129 : mLm RL 129 11 yX11_see cX11_see 6 (some .int) 5 := ⟨RX11, TX11, 74, rfl, rfl, (Or.inl (gm_8 194 rfl rfl)), gm_8 195 rfl rfl, gm_8 196 rfl rfl, gm_1 17 rfl rfl, gm_8 197 rfl rfl, by decide +kernel⟩
theorem mlL_130 : mLm RL 130 10 yX10_out cX10_out 2 (some .int) 1 := ⟨RX10, TX10, 16, rfl, rfl, (Or.inl (gm_5 108 rfl rfl)), gm_5 109 rfl rfl, gm_5 110 rfl rfl, gm_1 1 rfl rfl, gm_5 111 rfl rfl, by decide +kernel⟩
theorem mlL_133 : mLm RL 133 11 yX11_out cX11_out 2 (some .int) 1 := ⟨RX11, TX11, 74, rfl, rfl, (Or.inl (gm_8 198 rfl rfl)), gm_8 199 rfl rfl, gm_8 200 rfl rfl, gm_1 17 rfl rfl, gm_8 201 rfl rfl, by decide +kernel⟩
theorem mlL_134 : mLm RL 134 10 yX10_known cX10_known 2 (some .boolean) 1 := ⟨RX10, TX10, 16, rfl, rfl, (Or.inl (gm_5 118 rfl rfl)), gm_5 119 rfl rfl, gm_5 120 rfl rfl, gm_1 1 rfl rfl, gm_5 121 rfl rfl, by decide +kernel⟩
theorem mlL_137 : mLm RL 137 11 yX11_known cX11_known 2 (some .boolean) 1 := ⟨RX11, TX11, 74, rfl, rfl, (Or.inl (gm_8 202 rfl rfl)), gm_8 203 rfl rfl, gm_8 204 rfl rfl, gm_1 17 rfl rfl, gm_8 205 rfl rfl, by decide +kernel⟩
theorem mlL_138 : mLm RL 138 10 yX10_homes cX10_homes 5 (some .int) 1 := ⟨RX10, TX10, 16, rfl, rfl, (Or.inl (gm_5 126 rfl rfl)), gm_5 127 rfl rfl, gm_5 128 rfl rfl, gm_1 1 rfl rfl, gm_5 129 rfl rfl, by decide +kernel⟩
theorem mlL_141 : mLm RL 141 11 yX11_homes cX11_homes 8 (some .int) 1 := ⟨RX11, TX11, 74, rfl, rfl, (Or.inl (gm_8 206 rfl rfl)), gm_8 207 rfl rfl, gm_8 208 rfl rfl, gm_1 17 rfl rfl, gm_8 209 rfl rfl, by decide +kernel⟩
theorem mlL_142 : mLm RL 142 10 yX10_chance cX10_chance 7 (some .int) 3 := ⟨RX10, TX10, 16, rfl, rfl, (Or.inl (gm_5 157 rfl rfl)), gm_5 158 rfl rfl, gm_5 159 rfl rfl, gm_1 1 rfl rfl, gm_5 160 rfl rfl, by decide +kernel⟩
theorem mlL_145 : mLm RL 145 11 yX11_chance cX11_chance 8 (some .int) 3 := ⟨RX11, TX11, 74, rfl, rfl, (Or.inl (gm_8 223 rfl rfl)), gm_8 224 rfl rfl, gm_8 225 rfl rfl, gm_1 17 rfl rfl, gm_8 226 rfl rfl, by decide +kernel⟩
theorem mlL_146 : mLm RL 146 10 yX10_tried cX10_tried 5 (some .int) 3 := ⟨RX10, TX10, 16, rfl, rfl, (Or.inl (gm_5 161 rfl rfl)), gm_5 162 rfl rfl, gm_5 163 rfl rfl, gm_1 1 rfl rfl, gm_5 164 rfl rfl, by decide +kernel⟩
theorem mlL_149 : mLm RL 149 11 yX11_tried cX11_tried 5 (some .int) 3 := ⟨RX11, TX11, 74, rfl, rfl, (Or.inl (gm_8 227 rfl rfl)), gm_8 228 rfl rfl, gm_8 229 rfl rfl, gm_1 17 rfl rfl, gm_8 230 rfl rfl, by decide +kernel⟩
theorem mlL_150 : mLm RL 150 10 yX10_undo cX10_undo 1 (some .int) 0 := ⟨RX10, TX10, 16, rfl, rfl, (Or.inl (gm_5 165 rfl rfl)), gm_5 166 rfl rfl, gm_5 167 rfl rfl, gm_1 1 rfl rfl, gm_5 168 rfl rfl, by decide +kernel⟩
theorem mlL_153 : mLm RL 153 11 yX11_undo cX11_undo 1 (some .int) 0 := ⟨RX11, TX11, 74, rfl, rfl, (Or.inl (gm_8 231 rfl rfl)), gm_8 232 rfl rfl, gm_8 233 rfl rfl, gm_1 17 rfl rfl, gm_8 234 rfl rfl, by decide +kernel⟩
theorem mlL_154 : mLm RL 154 10 yX10_keep cX10_keep 1 (some .int) 0 := ⟨RX10, TX10, 16, rfl, rfl, (Or.inl (gm_5 173 rfl rfl)), gm_5 174 rfl rfl, gm_5 175 rfl rfl, gm_1 1 rfl rfl, gm_5 176 rfl rfl, by decide +kernel⟩
theorem mlL_157 : mLm RL 157 11 yX11_keep cX11_keep 1 (some .int) 0 := ⟨RX11, TX11, 74, rfl, rfl, (Or.inl (gm_8 235 rfl rfl)), gm_8 236 rfl rfl, gm_8 237 rfl rfl, gm_1 17 rfl rfl, gm_8 238 rfl rfl, by decide +kernel⟩
theorem mlL_158 : mLm RL 158 10 yX10_back cX10_back 1 (some .int) 0 := ⟨RX10, TX10, 16, rfl, rfl, (Or.inl (gm_5 177 rfl rfl)), gm_5 178 rfl rfl, gm_5 179 rfl rfl, gm_1 1 rfl rfl, gm_5 180 rfl rfl, by decide +kernel⟩
theorem mlL_161 : mLm RL 161 11 yX11_back cX11_back 1 (some .int) 0 := ⟨RX11, TX11, 74, rfl, rfl, (Or.inl (gm_8 239 rfl rfl)), gm_9 0 rfl rfl, gm_9 1 rfl rfl, gm_1 17 rfl rfl, gm_9 2 rfl rfl, by decide +kernel⟩
theorem mlL_162 : mLm RL 162 10 yX10_count cX10_count 2 (some .int) 1 := ⟨RX10, TX10, 16, rfl, rfl, (Or.inl (gm_5 181 rfl rfl)), gm_5 182 rfl rfl, gm_5 183 rfl rfl, gm_1 1 rfl rfl, gm_5 184 rfl rfl, by decide +kernel⟩
theorem mlL_165 : mLm RL 165 11 yX11_count cX11_count 2 (some .int) 1 := ⟨RX11, TX11, 74, rfl, rfl, (Or.inl (gm_9 3 rfl rfl)), gm_9 4 rfl rfl, gm_9 5 rfl rfl, gm_1 17 rfl rfl, gm_9 6 rfl rfl, by decide +kernel⟩
/-- a boolean out of a number -/
def bz (x : Int32) : Int32 := if x = 0 then 0 else 1
theorem lg_cmp_self (x : Int64) : lg_cmp x x = 0 := by simp [lg_cmp]
/-- operation 0: feed -/
def Sim_0 (Inv : MS → MS → Prop) : Prop := ∀ (SX SM : MS) (z0 : Int32) (z1 : Int32) (z2 : Int32) (z3 : Int32) (z4 : Int32), Inv SX SM → ∃ (qX : (Int32 × MS)) (qM : (Int32 × MS)), fX10_feed 0 z0 z1 z2 z3 z4 SX = some qX ∧ fX11_feed 0 z0 z1 z2 z3 z4 SM = some qM ∧ qX.1 = qM.1 ∧ Inv qX.2 qM.2
/-- operation 1: text -/
def Sim_1 (Inv : MS → MS → Prop) : Prop := ∀ (SX SM : MS) (z0 : Int32), Inv SX SM → ∃ (qX : (Int32 × MS)) (qM : (Int32 × MS)), fX10_text 0 z0 SX = some qX ∧ fX11_text 0 z0 SM = some qM ∧ qX.1 = qM.1 ∧ Inv qX.2 qM.2
/-- operation 2: fault -/
def Sim_2 (Inv : MS → MS → Prop) : Prop := ∀ (SX SM : MS) (z0 : Int32), Inv SX SM → ∃ (qX : Int32) (qM : (Int32 × MS)), fX10_fault 0 z0 SX = some qX ∧ fX11_fault 0 z0 SM = some qM ∧ qX = qM.1 ∧ Inv SX qM.2
/-- operation 3: named -/
def Sim_3 (Inv : MS → MS → Prop) : Prop := ∀ (SX SM : MS) (z0 : Int32) (z1 : Int32), Inv SX SM → ∃ (qX : Int32) (qM : (Int32 × MS)), fX10_named 0 z0 z1 SX = some qX ∧ fX11_named 0 z0 z1 SM = some qM ∧ qX = qM.1 ∧ Inv SX qM.2
/-- operation 4: where -/
def Sim_4 (Inv : MS → MS → Prop) : Prop := ∀ (SX SM : MS) (z0 : Int32), Inv SX SM → ∃ (qX : (Int32 × MS)) (qM : (Int32 × MS)), fX10_where 0 z0 SX = some qX ∧ fX11_where 0 z0 SM = some qM ∧ qX.1 = qM.1 ∧ Inv qX.2 qM.2
/-- operation 6: man -/
def Sim_6 (Inv : MS → MS → Prop) : Prop := ∀ (SX SM : MS) (z0 : Int32) (z1 : Int32), Inv SX SM → ∃ (qX : Int32) (qM : (Int32 × MS)), fX10_man 0 z0 z1 SX = some qX ∧ fX11_man 0 z0 z1 SM = some qM ∧ qX = qM.1 ∧ Inv SX qM.2
/-- operation 7: lamp -/
def Sim_7 (Inv : MS → MS → Prop) : Prop := ∀ (SX SM : MS) (z0 : Int32) (z1 : Int32), Inv SX SM → ∃ (qX : Int32) (qM : (Int32 × MS)), fX10_lamp 0 z0 z1 SX = some qX ∧ fX11_lamp 0 z0 z1 SM = some qM ∧ qX = qM.1 ∧ Inv SX qM.2
/-- operation 8: wall -/
def Sim_8 (Inv : MS → MS → Prop) : Prop := ∀ (SX SM : MS) (z0 : Int32) (z1 : Int32), Inv SX SM → ∃ (qX : Int32) (qM : (Int32 × MS)), fX10_wall 0 z0 z1 SX = some qX ∧ fX11_wall 0 z0 z1 SM = some qM ∧ qX = qM.1 ∧ Inv SX qM.2
/-- operation 9: law -/
def Sim_9 (Inv : MS → MS → Prop) : Prop := ∀ (SX SM : MS) (z0 : Int32) (z1 : Int32), Inv SX SM → ∃ (qX : (Int64 × MS)) (qM : (Int64 × MS)), fX10_law 0 z0 z1 SX = some qX ∧ fX11_law 0 z0 z1 SM = some qM ∧ qX.1 = qM.1 ∧ Inv qX.2 qM.2
/-- operation 10: step -/
def Sim_10 (Inv : MS → MS → Prop) : Prop := ∀ (SX SM : MS) (z0 : Int32), Inv SX SM → ∃ (qX : (Int32 × MS)) (qM : (Int32 × MS)), fX10_step 0 z0 SX = some qX ∧ fX11_step 0 z0 SM = some qM ∧ qX.1 = qM.1 ∧ Inv qX.2 qM.2
/-- operation 11: light -/
def Sim_11 (Inv : MS → MS → Prop) : Prop := ∀ (SX SM : MS) (z0 : Int32) (z1 : Int32), Inv SX SM → ∃ (qX : (Int32 × MS)) (qM : (Int32 × MS)), fX10_light 0 z0 (bz z1) SX = some qX ∧ fX11_light 0 z0 (bz z1) SM = some qM ∧ qX.1 = qM.1 ∧ Inv qX.2 qM.2
/-- operation 12: again -/
def Sim_12 (Inv : MS → MS → Prop) : Prop := ∀ (SX SM : MS) (z0 : Int32), Inv SX SM → ∃ (qX : (Int32 × MS)) (qM : (Int32 × MS)), fX10_again 0 z0 SX = some qX ∧ fX11_again 0 z0 SM = some qM ∧ qX.1 = qM.1 ∧ Inv qX.2 qM.2
/-- operation 13: go -/
def Sim_13 (Inv : MS → MS → Prop) : Prop := ∀ (SX SM : MS) (z0 : Int32), Inv SX SM → ∃ (qX : (Int32 × MS)) (qM : (Int32 × MS)), fX10_go 0 z0 SX = some qX ∧ fX11_go 0 z0 SM = some qM ∧ qX.1 = qM.1 ∧ Inv qX.2 qM.2
/-- operation 14: ahead -/
def Sim_14 (Inv : MS → MS → Prop) : Prop := ∀ (SX SM : MS) (z0 : Int32) (z1 : Int32), Inv SX SM → ∃ (qX : (Int32 × MS)) (qM : (Int32 × MS)), fX10_ahead 0 z0 z1 SX = some qX ∧ fX11_ahead 0 z0 z1 SM = some qM ∧ qX.1 = qM.1 ∧ Inv qX.2 qM.2
/-- operation 15: when -/
def Sim_15 (Inv : MS → MS → Prop) : Prop := ∀ (SX SM : MS) (z0 : Int32), Inv SX SM → ∃ (qX : (Int32 × MS)) (qM : (Int32 × MS)), fX10_when 0 z0 SX = some qX ∧ fX11_when 0 z0 SM = some qM ∧ qX.1 = qM.1 ∧ Inv qX.2 qM.2
/-- operation 16: way -/
def Sim_16 (Inv : MS → MS → Prop) : Prop := ∀ (SX SM : MS) (z0 : Int32) (z1 : Int32), Inv SX SM → ∃ (qX : (Int32 × MS)) (qM : (Int32 × MS)), fX10_way 0 z0 z1 SX = some qX ∧ fX11_way 0 z0 z1 SM = some qM ∧ qX.1 = qM.1 ∧ Inv qX.2 qM.2
/-- operation 17: cast -/
def Sim_17 (Inv : MS → MS → Prop) : Prop := ∀ (SX SM : MS) (z0 : Int32) (z1 : Int32) (z2 : Int32), Inv SX SM → ∃ (qX : (Int32 × MS)) (qM : (Int32 × MS)), fX10_cast 0 z0 z1 z2 SX = some qX ∧ fX11_cast 0 z0 z1 z2 SM = some qM ∧ qX.1 = qM.1 ∧ Inv qX.2 qM.2
/-- operation 18: lampsFor -/
def Sim_18 (Inv : MS → MS → Prop) : Prop := ∀ (SX SM : MS) (z0 : Int32) (z1 : Int32), Inv SX SM → ∃ (qX : (Int32 × MS)) (qM : (Int32 × MS)), fX10_lampsFor 0 z0 z1 SX = some qX ∧ fX11_lampsFor 0 z0 z1 SM = some qM ∧ qX.1 = qM.1 ∧ Inv qX.2 qM.2
/-- operation 19: plan -/
def Sim_19 (Inv : MS → MS → Prop) : Prop := ∀ (SX SM : MS) (z0 : Int32), Inv SX SM → ∃ (qX : (Int32 × MS)) (qM : (Int32 × MS)), fX10_plan 0 z0 SX = some qX ∧ fX11_plan 0 z0 SM = some qM ∧ qX.1 = qM.1 ∧ Inv qX.2 qM.2
/-- operation 20: rests -/
def Sim_20 (Inv : MS → MS → Prop) : Prop := ∀ (SX SM : MS) (z0 : Int32) (z1 : Int32), Inv SX SM → ∃ (qX : Int32) (qM : (Int32 × MS)), fX10_rests 0 z0 z1 SX = some qX ∧ fX11_rests 0 z0 z1 SM = some qM ∧ qX = qM.1 ∧ Inv SX qM.2
/-- operation 21: rest -/
def Sim_21 (Inv : MS → MS → Prop) : Prop := ∀ (SX SM : MS) (z0 : Int32) (z1 : Int32) (z2 : Int32), Inv SX SM → ∃ (qX : Int32) (qM : (Int32 × MS)), fX10_rest 0 z0 z1 z2 SX = some qX ∧ fX11_rest 0 z0 z1 z2 SM = some qM ∧ qX = qM.1 ∧ Inv SX qM.2
/-- operation 22: clear -/
def Sim_22 (Inv : MS → MS → Prop) : Prop := ∀ (SX SM : MS) (z0 : Int32) (z1 : Int32), Inv SX SM → ∃ (qX : Int64) (qM : (Int64 × MS)), fX10_clear 0 z0 z1 SX = some qX ∧ fX11_clear 0 z0 z1 SM = some qM ∧ qX = qM.1 ∧ Inv SX qM.2
/-- operation 23: see -/
def Sim_23 (Inv : MS → MS → Prop) : Prop := ∀ (SX SM : MS) (z0 : Int32) (z1 : Int32) (z2 : Int32) (z3 : Int32) (z4 : Int32), Inv SX SM → ∃ (qX : (Int32 × MS)) (qM : (Int32 × MS)), fX10_see 0 z0 z1 z2 z3 (bz z4) SX = some qX ∧ fX11_see 0 z0 z1 z2 z3 (bz z4) SM = some qM ∧ qX.1 = qM.1 ∧ Inv qX.2 qM.2
/-- operation 24: out -/
def Sim_24 (Inv : MS → MS → Prop) : Prop := ∀ (SX SM : MS) (z0 : Int32), Inv SX SM → ∃ (qX : (Int32 × MS)) (qM : (Int32 × MS)), fX10_out 0 z0 SX = some qX ∧ fX11_out 0 z0 SM = some qM ∧ qX.1 = qM.1 ∧ Inv qX.2 qM.2
/-- operation 25: known -/
def Sim_25 (Inv : MS → MS → Prop) : Prop := ∀ (SX SM : MS) (z0 : Int32), Inv SX SM → ∃ (qX : (Int32 × MS)) (qM : (Int32 × MS)), fX10_known 0 z0 SX = some qX ∧ fX11_known 0 z0 SM = some qM ∧ qX.1 = qM.1 ∧ Inv qX.2 qM.2
/-- operation 26: homes -/
def Sim_26 (Inv : MS → MS → Prop) : Prop := ∀ (SX SM : MS) (z0 : Int32), Inv SX SM → ∃ (qX : (Int32 × MS)) (qM : (Int32 × MS)), fX10_homes 0 z0 SX = some qX ∧ fX11_homes 0 z0 SM = some qM ∧ qX.1 = qM.1 ∧ Inv qX.2 qM.2
/-- operation 27: chance -/
def Sim_27 (Inv : MS → MS → Prop) : Prop := ∀ (SX SM : MS) (z0 : Int32) (z1 : Int32) (z2 : Int32), Inv SX SM → ∃ (qX : (Int32 × MS)) (qM : (Int32 × MS)), fX10_chance 0 z0 z1 z2 SX = some qX ∧ fX11_chance 0 z0 z1 z2 SM = some qM ∧ qX.1 = qM.1 ∧ Inv qX.2 qM.2
/-- operation 28: tried -/
def Sim_28 (Inv : MS → MS → Prop) : Prop := ∀ (SX SM : MS) (z0 : Int32) (z1 : Int32) (z2 : Int32), Inv SX SM → ∃ (qX : (Int32 × MS)) (qM : (Int32 × MS)), fX10_tried 0 z0 z1 z2 SX = some qX ∧ fX11_tried 0 z0 z1 z2 SM = some qM ∧ qX.1 = qM.1 ∧ Inv qX.2 qM.2
/-- operation 29: undo -/
def Sim_29 (Inv : MS → MS → Prop) : Prop := ∀ (SX SM : MS), Inv SX SM → ∃ (qX : (Int32 × MS)) (qM : (Int32 × MS)), fX10_undo 0 SX = some qX ∧ fX11_undo 0 SM = some qM ∧ qX.1 = qM.1 ∧ Inv qX.2 qM.2
/-- operation 30: keep -/
def Sim_30 (Inv : MS → MS → Prop) : Prop := ∀ (SX SM : MS), Inv SX SM → ∃ (qX : (Int32 × MS)) (qM : (Int32 × MS)), fX10_keep 0 SX = some qX ∧ fX11_keep 0 SM = some qM ∧ qX.1 = qM.1 ∧ Inv qX.2 qM.2
/-- operation 31: back -/
def Sim_31 (Inv : MS → MS → Prop) : Prop := ∀ (SX SM : MS), Inv SX SM → ∃ (qX : (Int32 × MS)) (qM : (Int32 × MS)), fX10_back 0 SX = some qX ∧ fX11_back 0 SM = some qM ∧ qX.1 = qM.1 ∧ Inv qX.2 qM.2
/-- operation 32: count -/
def Sim_32 (Inv : MS → MS → Prop) : Prop := ∀ (SX SM : MS) (z0 : Int32), Inv SX SM → ∃ (qX : Int32) (qM : (Int32 × MS)), fX10_count 0 z0 SX = some qX ∧ fX11_count 0 z0 SM = some qM ∧ qX = qM.1 ∧ Inv SX qM.2
set_option maxRecDepth 100000 in
theorem law_0 {p : Program} {l : Launch} {e : Env} {s : State} {m : MethodId} {below : List Frame} {meth : Method} {c : Code} {Q : State → Prop} {G : Gv} {aX aM o b L i t : Nat} {xs : Nat → Int32} {Inv : MS → MS → Prop} {SX SM : MS} {f : Nat → Int64} {H : Heap} {locs : List Loc} {ls : Array Slot} {qX : (Int32 × MS)} {qM : (Int32 × MS)} (C : mC p s m #[Value.ref b] meth c code RL 7 ret) (hX : va_X b L xs s s.heap) (hbl : b < s.heap.size) (ht : t ≤ 512) (hin : ∀ j : Nat, j < 6 → vp_in (nI i + nI j) L) (hL : mL G aX aM o SX SM f s H locs) (hl : lv_has ls 7 [(0, .ref b), (1, .ref (ad (Lq aX 99) 0)), (2, .ref (ad (Lq aM 48) 0)), (3, .ref o), (4, .int (nI i))]) (hfX : fX10_feed 0 (xs ((nI i) + (1 : Int32)).toNatClampNeg) (xs ((nI i) + (2 : Int32)).toNatClampNeg) (xs ((nI i) + (3 : Int32)).toNatClampNeg) (xs ((nI i) + (4 : Int32)).toNatClampNeg) (xs ((nI i) + (5 : Int32)).toNatClampNeg) SX = some qX) (hfM : fX11_feed 0 (xs ((nI i) + (1 : Int32)).toNatClampNeg) (xs ((nI i) + (2 : Int32)).toNatClampNeg) (xs ((nI i) + (3 : Int32)).toNatClampNeg) (xs ((nI i) + (4 : Int32)).toNatClampNeg) (xs ((nI i) + (5 : Int32)).toNatClampNeg) SM = some qM) (heq : qX.1 = qM.1) (hInv : Inv qX.2 qM.2) (ih : ∀ (SX SM : MS) (f : Nat → Int64) (H : Heap) (locs : List Loc) (ls : Array Slot), Inv SX SM → mL G aX aM o SX SM f s H locs → lv_has ls 7 [(0, .ref b), (1, .ref (ad (Lq aX 99) 0)), (2, .ref (ad (Lq aM 48) 0)), (3, .ref o), (4, .int (nI i))] → W p l e room_1 s m #[Value.ref b] below meth c H locs (300 + 10 * t) (200000 + 100 * t) Q (F0 m 1378 ls [])) : W p l e room_1 s m #[Value.ref b] below meth c H locs (300 + 10 * t) (200000 + 100 * t) Q (F0 m 188 ls []) := by
  refine lv_aload_n C.1 C.2.1 dL_law_188 rfl (lv_at hl 1 rfl) ?_
  refine lv_aload_n C.1 C.2.1 dL_law_189 rfl (lv_at hl 0 rfl) ?_
  refine lv_iload C.1 C.2.1 dL_law_190 (lv_at hl 4 rfl) ?_
  refine lv_iconst C.1 C.2.1 dL_law_192 ic_1 ?_
  refine lv_iadd C.1 C.2.1 dL_law_193 ?_
  refine va_sld C.1 C.2.1 hX hbl (Nat.not_le.mpr hbl) hL.1.2.2.2.1 (hin 1 (by decide)) dL_law_194 ?_
  refine lv_aload_n C.1 C.2.1 dL_law_195 rfl (lv_at hl 0 rfl) ?_
  refine lv_iload C.1 C.2.1 dL_law_196 (lv_at hl 4 rfl) ?_
  refine lv_iconst C.1 C.2.1 dL_law_198 ic_2 ?_
  refine lv_iadd C.1 C.2.1 dL_law_199 ?_
  refine va_sld C.1 C.2.1 hX hbl (Nat.not_le.mpr hbl) hL.1.2.2.2.1 (hin 2 (by decide)) dL_law_200 ?_
  refine lv_aload_n C.1 C.2.1 dL_law_201 rfl (lv_at hl 0 rfl) ?_
  refine lv_iload C.1 C.2.1 dL_law_202 (lv_at hl 4 rfl) ?_
  refine lv_iconst C.1 C.2.1 dL_law_204 ic_3 ?_
  refine lv_iadd C.1 C.2.1 dL_law_205 ?_
  refine va_sld C.1 C.2.1 hX hbl (Nat.not_le.mpr hbl) hL.1.2.2.2.1 (hin 3 (by decide)) dL_law_206 ?_
  refine lv_aload_n C.1 C.2.1 dL_law_207 rfl (lv_at hl 0 rfl) ?_
  refine lv_iload C.1 C.2.1 dL_law_208 (lv_at hl 4 rfl) ?_
  refine lv_iconst C.1 C.2.1 dL_law_210 ic_4 ?_
  refine lv_iadd C.1 C.2.1 dL_law_211 ?_
  refine va_sld C.1 C.2.1 hX hbl (Nat.not_le.mpr hbl) hL.1.2.2.2.1 (hin 4 (by decide)) dL_law_212 ?_
  refine lv_aload_n C.1 C.2.1 dL_law_213 rfl (lv_at hl 0 rfl) ?_
  refine lv_iload C.1 C.2.1 dL_law_214 (lv_at hl 4 rfl) ?_
  refine lv_iconst C.1 C.2.1 dL_law_216 ic_5 ?_
  refine lv_iadd C.1 C.2.1 dL_law_217 ?_
  refine va_sld C.1 C.2.1 hX hbl (Nat.not_le.mpr hbl) hL.1.2.2.2.1 (hin 5 (by decide)) dL_law_218 ?_
  refine l_callX (As := [.int (xs ((nI i) + (1 : Int32)).toNatClampNeg), .int (xs ((nI i) + (2 : Int32)).toNatClampNeg), .int (xs ((nI i) + (3 : Int32)).toNatClampNeg), .int (xs ((nI i) + (4 : Int32)).toNatClampNeg), .int (xs ((nI i) + (5 : Int32)).toNatClampNeg)]) (rest := []) C hL (cX10_feed_ok (by decide) hfX) mlL_21 rfl hl.1 rfl (Nat.le_of_ble_eq_true rfl) (Nat.le_of_ble_eq_true rfl) (Nat.le_of_ble_eq_true rfl) (by show 300 + 10 * t ≤ 601024; omega) (by show 200000 + 100 * t ≤ 7293034; omega) dL_law_219 (fun H locs hL => ?_)
  refine lv_aload_n C.1 C.2.1 dL_law_222 rfl (lv_at hl 2 rfl) ?_
  refine lv_aload_n C.1 C.2.1 dL_law_223 rfl (lv_at hl 0 rfl) ?_
  refine lv_iload C.1 C.2.1 dL_law_224 (lv_at hl 4 rfl) ?_
  refine lv_iconst C.1 C.2.1 dL_law_226 ic_1 ?_
  refine lv_iadd C.1 C.2.1 dL_law_227 ?_
  refine va_sld C.1 C.2.1 hX hbl (Nat.not_le.mpr hbl) hL.1.2.2.2.1 (hin 1 (by decide)) dL_law_228 ?_
  refine lv_aload_n C.1 C.2.1 dL_law_229 rfl (lv_at hl 0 rfl) ?_
  refine lv_iload C.1 C.2.1 dL_law_230 (lv_at hl 4 rfl) ?_
  refine lv_iconst C.1 C.2.1 dL_law_232 ic_2 ?_
  refine lv_iadd C.1 C.2.1 dL_law_233 ?_
  refine va_sld C.1 C.2.1 hX hbl (Nat.not_le.mpr hbl) hL.1.2.2.2.1 (hin 2 (by decide)) dL_law_234 ?_
  refine lv_aload_n C.1 C.2.1 dL_law_235 rfl (lv_at hl 0 rfl) ?_
  refine lv_iload C.1 C.2.1 dL_law_236 (lv_at hl 4 rfl) ?_
  refine lv_iconst C.1 C.2.1 dL_law_238 ic_3 ?_
  refine lv_iadd C.1 C.2.1 dL_law_239 ?_
  refine va_sld C.1 C.2.1 hX hbl (Nat.not_le.mpr hbl) hL.1.2.2.2.1 (hin 3 (by decide)) dL_law_240 ?_
  refine lv_aload_n C.1 C.2.1 dL_law_241 rfl (lv_at hl 0 rfl) ?_
  refine lv_iload C.1 C.2.1 dL_law_242 (lv_at hl 4 rfl) ?_
  refine lv_iconst C.1 C.2.1 dL_law_244 ic_4 ?_
  refine lv_iadd C.1 C.2.1 dL_law_245 ?_
  refine va_sld C.1 C.2.1 hX hbl (Nat.not_le.mpr hbl) hL.1.2.2.2.1 (hin 4 (by decide)) dL_law_246 ?_
  refine lv_aload_n C.1 C.2.1 dL_law_247 rfl (lv_at hl 0 rfl) ?_
  refine lv_iload C.1 C.2.1 dL_law_248 (lv_at hl 4 rfl) ?_
  refine lv_iconst C.1 C.2.1 dL_law_250 ic_5 ?_
  refine lv_iadd C.1 C.2.1 dL_law_251 ?_
  refine va_sld C.1 C.2.1 hX hbl (Nat.not_le.mpr hbl) hL.1.2.2.2.1 (hin 5 (by decide)) dL_law_252 ?_
  refine l_callM (As := [.int (xs ((nI i) + (1 : Int32)).toNatClampNeg), .int (xs ((nI i) + (2 : Int32)).toNatClampNeg), .int (xs ((nI i) + (3 : Int32)).toNatClampNeg), .int (xs ((nI i) + (4 : Int32)).toNatClampNeg), .int (xs ((nI i) + (5 : Int32)).toNatClampNeg)]) (rest := [.int qX.1]) C hL (cX11_feed_ok (by decide) hfM) mlL_25 rfl hl.1 rfl (Nat.le_of_ble_eq_true rfl) (Nat.le_of_ble_eq_true rfl) (Nat.le_of_ble_eq_true rfl) (by show 300 + 10 * t ≤ 601024; omega) (by show 200000 + 100 * t ≤ 7293034; omega) dL_law_253 (fun H locs hL => ?_)
  refine lv_icmp_eq (tgt := 1378) C.1 C.2.1 dL_law_256 rfl (fun _ => ?_) (fun h => absurd heq h)
  exact ih _ _ _ _ _ _ hInv hL hl
set_option maxRecDepth 100000 in
theorem law_1 {p : Program} {l : Launch} {e : Env} {s : State} {m : MethodId} {below : List Frame} {meth : Method} {c : Code} {Q : State → Prop} {G : Gv} {aX aM o b L i t : Nat} {xs : Nat → Int32} {Inv : MS → MS → Prop} {SX SM : MS} {f : Nat → Int64} {H : Heap} {locs : List Loc} {ls : Array Slot} {qX : (Int32 × MS)} {qM : (Int32 × MS)} (C : mC p s m #[Value.ref b] meth c code RL 7 ret) (hX : va_X b L xs s s.heap) (hbl : b < s.heap.size) (ht : t ≤ 512) (hin : ∀ j : Nat, j < 6 → vp_in (nI i + nI j) L) (hL : mL G aX aM o SX SM f s H locs) (hl : lv_has ls 7 [(0, .ref b), (1, .ref (ad (Lq aX 99) 0)), (2, .ref (ad (Lq aM 48) 0)), (3, .ref o), (4, .int (nI i))]) (hfX : fX10_text 0 (xs ((nI i) + (1 : Int32)).toNatClampNeg) SX = some qX) (hfM : fX11_text 0 (xs ((nI i) + (1 : Int32)).toNatClampNeg) SM = some qM) (heq : qX.1 = qM.1) (hInv : Inv qX.2 qM.2) (ih : ∀ (SX SM : MS) (f : Nat → Int64) (H : Heap) (locs : List Loc) (ls : Array Slot), Inv SX SM → mL G aX aM o SX SM f s H locs → lv_has ls 7 [(0, .ref b), (1, .ref (ad (Lq aX 99) 0)), (2, .ref (ad (Lq aM 48) 0)), (3, .ref o), (4, .int (nI i))] → W p l e room_1 s m #[Value.ref b] below meth c H locs (300 + 10 * t) (200000 + 100 * t) Q (F0 m 1378 ls [])) : W p l e room_1 s m #[Value.ref b] below meth c H locs (300 + 10 * t) (200000 + 100 * t) Q (F0 m 261 ls []) := by
  refine lv_aload_n C.1 C.2.1 dL_law_261 rfl (lv_at hl 1 rfl) ?_
  refine lv_aload_n C.1 C.2.1 dL_law_262 rfl (lv_at hl 0 rfl) ?_
  refine lv_iload C.1 C.2.1 dL_law_263 (lv_at hl 4 rfl) ?_
  refine lv_iconst C.1 C.2.1 dL_law_265 ic_1 ?_
  refine lv_iadd C.1 C.2.1 dL_law_266 ?_
  refine va_sld C.1 C.2.1 hX hbl (Nat.not_le.mpr hbl) hL.1.2.2.2.1 (hin 1 (by decide)) dL_law_267 ?_
  refine l_callX (As := [.int (xs ((nI i) + (1 : Int32)).toNatClampNeg)]) (rest := []) C hL (cX10_text_ok (by decide) hfX) mlL_26 rfl hl.1 rfl (Nat.le_of_ble_eq_true rfl) (Nat.le_of_ble_eq_true rfl) (Nat.le_of_ble_eq_true rfl) (by show 300 + 10 * t ≤ 601024; omega) (by show 200000 + 100 * t ≤ 7293034; omega) dL_law_268 (fun H locs hL => ?_)
  refine lv_aload_n C.1 C.2.1 dL_law_271 rfl (lv_at hl 2 rfl) ?_
  refine lv_aload_n C.1 C.2.1 dL_law_272 rfl (lv_at hl 0 rfl) ?_
  refine lv_iload C.1 C.2.1 dL_law_273 (lv_at hl 4 rfl) ?_
  refine lv_iconst C.1 C.2.1 dL_law_275 ic_1 ?_
  refine lv_iadd C.1 C.2.1 dL_law_276 ?_
  refine va_sld C.1 C.2.1 hX hbl (Nat.not_le.mpr hbl) hL.1.2.2.2.1 (hin 1 (by decide)) dL_law_277 ?_
  refine l_callM (As := [.int (xs ((nI i) + (1 : Int32)).toNatClampNeg)]) (rest := [.int qX.1]) C hL (cX11_text_ok (by decide) hfM) mlL_30 rfl hl.1 rfl (Nat.le_of_ble_eq_true rfl) (Nat.le_of_ble_eq_true rfl) (Nat.le_of_ble_eq_true rfl) (by show 300 + 10 * t ≤ 601024; omega) (by show 200000 + 100 * t ≤ 7293034; omega) dL_law_278 (fun H locs hL => ?_)
  refine lv_icmp_eq (tgt := 1378) C.1 C.2.1 dL_law_281 rfl (fun _ => ?_) (fun h => absurd heq h)
  exact ih _ _ _ _ _ _ hInv hL hl
set_option maxRecDepth 100000 in
theorem law_2 {p : Program} {l : Launch} {e : Env} {s : State} {m : MethodId} {below : List Frame} {meth : Method} {c : Code} {Q : State → Prop} {G : Gv} {aX aM o b L i t : Nat} {xs : Nat → Int32} {Inv : MS → MS → Prop} {SX SM : MS} {f : Nat → Int64} {H : Heap} {locs : List Loc} {ls : Array Slot} {qX : Int32} {qM : (Int32 × MS)} (C : mC p s m #[Value.ref b] meth c code RL 7 ret) (hX : va_X b L xs s s.heap) (hbl : b < s.heap.size) (ht : t ≤ 512) (hin : ∀ j : Nat, j < 6 → vp_in (nI i + nI j) L) (hL : mL G aX aM o SX SM f s H locs) (hl : lv_has ls 7 [(0, .ref b), (1, .ref (ad (Lq aX 99) 0)), (2, .ref (ad (Lq aM 48) 0)), (3, .ref o), (4, .int (nI i))]) (hfX : fX10_fault 0 (xs ((nI i) + (1 : Int32)).toNatClampNeg) SX = some qX) (hfM : fX11_fault 0 (xs ((nI i) + (1 : Int32)).toNatClampNeg) SM = some qM) (heq : qX = qM.1) (hInv : Inv SX qM.2) (ih : ∀ (SX SM : MS) (f : Nat → Int64) (H : Heap) (locs : List Loc) (ls : Array Slot), Inv SX SM → mL G aX aM o SX SM f s H locs → lv_has ls 7 [(0, .ref b), (1, .ref (ad (Lq aX 99) 0)), (2, .ref (ad (Lq aM 48) 0)), (3, .ref o), (4, .int (nI i))] → W p l e room_1 s m #[Value.ref b] below meth c H locs (300 + 10 * t) (200000 + 100 * t) Q (F0 m 1378 ls [])) : W p l e room_1 s m #[Value.ref b] below meth c H locs (300 + 10 * t) (200000 + 100 * t) Q (F0 m 286 ls []) := by
  refine lv_aload_n C.1 C.2.1 dL_law_286 rfl (lv_at hl 1 rfl) ?_
  refine lv_aload_n C.1 C.2.1 dL_law_287 rfl (lv_at hl 0 rfl) ?_
  refine lv_iload C.1 C.2.1 dL_law_288 (lv_at hl 4 rfl) ?_
  refine lv_iconst C.1 C.2.1 dL_law_290 ic_1 ?_
  refine lv_iadd C.1 C.2.1 dL_law_291 ?_
  refine va_sld C.1 C.2.1 hX hbl (Nat.not_le.mpr hbl) hL.1.2.2.2.1 (hin 1 (by decide)) dL_law_292 ?_
  refine l_callX (As := [.int (xs ((nI i) + (1 : Int32)).toNatClampNeg)]) (rest := []) C hL (cX10_fault_ok (by decide) hfX) mlL_31 rfl hl.1 rfl (Nat.le_of_ble_eq_true rfl) (Nat.le_of_ble_eq_true rfl) (Nat.le_of_ble_eq_true rfl) (by show 300 + 10 * t ≤ 601024; omega) (by show 200000 + 100 * t ≤ 7293034; omega) dL_law_293 (fun H locs hL => ?_)
  refine lv_aload_n C.1 C.2.1 dL_law_296 rfl (lv_at hl 2 rfl) ?_
  refine lv_aload_n C.1 C.2.1 dL_law_297 rfl (lv_at hl 0 rfl) ?_
  refine lv_iload C.1 C.2.1 dL_law_298 (lv_at hl 4 rfl) ?_
  refine lv_iconst C.1 C.2.1 dL_law_300 ic_1 ?_
  refine lv_iadd C.1 C.2.1 dL_law_301 ?_
  refine va_sld C.1 C.2.1 hX hbl (Nat.not_le.mpr hbl) hL.1.2.2.2.1 (hin 1 (by decide)) dL_law_302 ?_
  refine l_callM (As := [.int (xs ((nI i) + (1 : Int32)).toNatClampNeg)]) (rest := [.int qX]) C hL (cX11_fault_ok (by decide) hfM) mlL_34 rfl hl.1 rfl (Nat.le_of_ble_eq_true rfl) (Nat.le_of_ble_eq_true rfl) (Nat.le_of_ble_eq_true rfl) (by show 300 + 10 * t ≤ 601024; omega) (by show 200000 + 100 * t ≤ 7293034; omega) dL_law_303 (fun H locs hL => ?_)
  refine lv_icmp_eq (tgt := 1378) C.1 C.2.1 dL_law_306 rfl (fun _ => ?_) (fun h => absurd heq h)
  exact ih _ _ _ _ _ _ hInv hL hl
set_option maxRecDepth 100000 in
theorem law_3 {p : Program} {l : Launch} {e : Env} {s : State} {m : MethodId} {below : List Frame} {meth : Method} {c : Code} {Q : State → Prop} {G : Gv} {aX aM o b L i t : Nat} {xs : Nat → Int32} {Inv : MS → MS → Prop} {SX SM : MS} {f : Nat → Int64} {H : Heap} {locs : List Loc} {ls : Array Slot} {qX : Int32} {qM : (Int32 × MS)} (C : mC p s m #[Value.ref b] meth c code RL 7 ret) (hX : va_X b L xs s s.heap) (hbl : b < s.heap.size) (ht : t ≤ 512) (hin : ∀ j : Nat, j < 6 → vp_in (nI i + nI j) L) (hL : mL G aX aM o SX SM f s H locs) (hl : lv_has ls 7 [(0, .ref b), (1, .ref (ad (Lq aX 99) 0)), (2, .ref (ad (Lq aM 48) 0)), (3, .ref o), (4, .int (nI i))]) (hfX : fX10_named 0 (xs ((nI i) + (1 : Int32)).toNatClampNeg) (xs ((nI i) + (2 : Int32)).toNatClampNeg) SX = some qX) (hfM : fX11_named 0 (xs ((nI i) + (1 : Int32)).toNatClampNeg) (xs ((nI i) + (2 : Int32)).toNatClampNeg) SM = some qM) (heq : qX = qM.1) (hInv : Inv SX qM.2) (ih : ∀ (SX SM : MS) (f : Nat → Int64) (H : Heap) (locs : List Loc) (ls : Array Slot), Inv SX SM → mL G aX aM o SX SM f s H locs → lv_has ls 7 [(0, .ref b), (1, .ref (ad (Lq aX 99) 0)), (2, .ref (ad (Lq aM 48) 0)), (3, .ref o), (4, .int (nI i))] → W p l e room_1 s m #[Value.ref b] below meth c H locs (300 + 10 * t) (200000 + 100 * t) Q (F0 m 1378 ls [])) : W p l e room_1 s m #[Value.ref b] below meth c H locs (300 + 10 * t) (200000 + 100 * t) Q (F0 m 311 ls []) := by
  refine lv_aload_n C.1 C.2.1 dL_law_311 rfl (lv_at hl 1 rfl) ?_
  refine lv_aload_n C.1 C.2.1 dL_law_312 rfl (lv_at hl 0 rfl) ?_
  refine lv_iload C.1 C.2.1 dL_law_313 (lv_at hl 4 rfl) ?_
  refine lv_iconst C.1 C.2.1 dL_law_315 ic_1 ?_
  refine lv_iadd C.1 C.2.1 dL_law_316 ?_
  refine va_sld C.1 C.2.1 hX hbl (Nat.not_le.mpr hbl) hL.1.2.2.2.1 (hin 1 (by decide)) dL_law_317 ?_
  refine lv_aload_n C.1 C.2.1 dL_law_318 rfl (lv_at hl 0 rfl) ?_
  refine lv_iload C.1 C.2.1 dL_law_319 (lv_at hl 4 rfl) ?_
  refine lv_iconst C.1 C.2.1 dL_law_321 ic_2 ?_
  refine lv_iadd C.1 C.2.1 dL_law_322 ?_
  refine va_sld C.1 C.2.1 hX hbl (Nat.not_le.mpr hbl) hL.1.2.2.2.1 (hin 2 (by decide)) dL_law_323 ?_
  refine l_callX (As := [.int (xs ((nI i) + (1 : Int32)).toNatClampNeg), .int (xs ((nI i) + (2 : Int32)).toNatClampNeg)]) (rest := []) C hL (cX10_named_ok (by decide) hfX) mlL_35 rfl hl.1 rfl (Nat.le_of_ble_eq_true rfl) (Nat.le_of_ble_eq_true rfl) (Nat.le_of_ble_eq_true rfl) (by show 300 + 10 * t ≤ 601024; omega) (by show 200000 + 100 * t ≤ 7293034; omega) dL_law_324 (fun H locs hL => ?_)
  refine lv_aload_n C.1 C.2.1 dL_law_327 rfl (lv_at hl 2 rfl) ?_
  refine lv_aload_n C.1 C.2.1 dL_law_328 rfl (lv_at hl 0 rfl) ?_
  refine lv_iload C.1 C.2.1 dL_law_329 (lv_at hl 4 rfl) ?_
  refine lv_iconst C.1 C.2.1 dL_law_331 ic_1 ?_
  refine lv_iadd C.1 C.2.1 dL_law_332 ?_
  refine va_sld C.1 C.2.1 hX hbl (Nat.not_le.mpr hbl) hL.1.2.2.2.1 (hin 1 (by decide)) dL_law_333 ?_
  refine lv_aload_n C.1 C.2.1 dL_law_334 rfl (lv_at hl 0 rfl) ?_
  refine lv_iload C.1 C.2.1 dL_law_335 (lv_at hl 4 rfl) ?_
  refine lv_iconst C.1 C.2.1 dL_law_337 ic_2 ?_
  refine lv_iadd C.1 C.2.1 dL_law_338 ?_
  refine va_sld C.1 C.2.1 hX hbl (Nat.not_le.mpr hbl) hL.1.2.2.2.1 (hin 2 (by decide)) dL_law_339 ?_
  refine l_callM (As := [.int (xs ((nI i) + (1 : Int32)).toNatClampNeg), .int (xs ((nI i) + (2 : Int32)).toNatClampNeg)]) (rest := [.int qX]) C hL (cX11_named_ok (by decide) hfM) mlL_38 rfl hl.1 rfl (Nat.le_of_ble_eq_true rfl) (Nat.le_of_ble_eq_true rfl) (Nat.le_of_ble_eq_true rfl) (by show 300 + 10 * t ≤ 601024; omega) (by show 200000 + 100 * t ≤ 7293034; omega) dL_law_340 (fun H locs hL => ?_)
  refine lv_icmp_eq (tgt := 1378) C.1 C.2.1 dL_law_343 rfl (fun _ => ?_) (fun h => absurd heq h)
  exact ih _ _ _ _ _ _ hInv hL hl
set_option maxRecDepth 100000 in
theorem law_4 {p : Program} {l : Launch} {e : Env} {s : State} {m : MethodId} {below : List Frame} {meth : Method} {c : Code} {Q : State → Prop} {G : Gv} {aX aM o b L i t : Nat} {xs : Nat → Int32} {Inv : MS → MS → Prop} {SX SM : MS} {f : Nat → Int64} {H : Heap} {locs : List Loc} {ls : Array Slot} {qX : (Int32 × MS)} {qM : (Int32 × MS)} (C : mC p s m #[Value.ref b] meth c code RL 7 ret) (hX : va_X b L xs s s.heap) (hbl : b < s.heap.size) (ht : t ≤ 512) (hin : ∀ j : Nat, j < 6 → vp_in (nI i + nI j) L) (hL : mL G aX aM o SX SM f s H locs) (hl : lv_has ls 7 [(0, .ref b), (1, .ref (ad (Lq aX 99) 0)), (2, .ref (ad (Lq aM 48) 0)), (3, .ref o), (4, .int (nI i))]) (hfX : fX10_where 0 (xs ((nI i) + (1 : Int32)).toNatClampNeg) SX = some qX) (hfM : fX11_where 0 (xs ((nI i) + (1 : Int32)).toNatClampNeg) SM = some qM) (heq : qX.1 = qM.1) (hInv : Inv qX.2 qM.2) (ih : ∀ (SX SM : MS) (f : Nat → Int64) (H : Heap) (locs : List Loc) (ls : Array Slot), Inv SX SM → mL G aX aM o SX SM f s H locs → lv_has ls 7 [(0, .ref b), (1, .ref (ad (Lq aX 99) 0)), (2, .ref (ad (Lq aM 48) 0)), (3, .ref o), (4, .int (nI i))] → W p l e room_1 s m #[Value.ref b] below meth c H locs (300 + 10 * t) (200000 + 100 * t) Q (F0 m 1378 ls [])) : W p l e room_1 s m #[Value.ref b] below meth c H locs (300 + 10 * t) (200000 + 100 * t) Q (F0 m 348 ls []) := by
  refine lv_aload_n C.1 C.2.1 dL_law_348 rfl (lv_at hl 1 rfl) ?_
  refine lv_aload_n C.1 C.2.1 dL_law_349 rfl (lv_at hl 0 rfl) ?_
  refine lv_iload C.1 C.2.1 dL_law_350 (lv_at hl 4 rfl) ?_
  refine lv_iconst C.1 C.2.1 dL_law_352 ic_1 ?_
  refine lv_iadd C.1 C.2.1 dL_law_353 ?_
  refine va_sld C.1 C.2.1 hX hbl (Nat.not_le.mpr hbl) hL.1.2.2.2.1 (hin 1 (by decide)) dL_law_354 ?_
  refine l_callX (As := [.int (xs ((nI i) + (1 : Int32)).toNatClampNeg)]) (rest := []) C hL (cX10_where_ok (by decide) hfX) mlL_39 rfl hl.1 rfl (Nat.le_of_ble_eq_true rfl) (Nat.le_of_ble_eq_true rfl) (Nat.le_of_ble_eq_true rfl) (by show 300 + 10 * t ≤ 601024; omega) (by show 200000 + 100 * t ≤ 7293034; omega) dL_law_355 (fun H locs hL => ?_)
  refine lv_aload_n C.1 C.2.1 dL_law_358 rfl (lv_at hl 2 rfl) ?_
  refine lv_aload_n C.1 C.2.1 dL_law_359 rfl (lv_at hl 0 rfl) ?_
  refine lv_iload C.1 C.2.1 dL_law_360 (lv_at hl 4 rfl) ?_
  refine lv_iconst C.1 C.2.1 dL_law_362 ic_1 ?_
  refine lv_iadd C.1 C.2.1 dL_law_363 ?_
  refine va_sld C.1 C.2.1 hX hbl (Nat.not_le.mpr hbl) hL.1.2.2.2.1 (hin 1 (by decide)) dL_law_364 ?_
  refine l_callM (As := [.int (xs ((nI i) + (1 : Int32)).toNatClampNeg)]) (rest := [.int qX.1]) C hL (cX11_where_ok (by decide) hfM) mlL_42 rfl hl.1 rfl (Nat.le_of_ble_eq_true rfl) (Nat.le_of_ble_eq_true rfl) (Nat.le_of_ble_eq_true rfl) (by show 300 + 10 * t ≤ 601024; omega) (by show 200000 + 100 * t ≤ 7293034; omega) dL_law_365 (fun H locs hL => ?_)
  refine lv_icmp_eq (tgt := 1378) C.1 C.2.1 dL_law_368 rfl (fun _ => ?_) (fun h => absurd heq h)
  exact ih _ _ _ _ _ _ hInv hL hl
set_option maxRecDepth 100000 in
theorem law_6 {p : Program} {l : Launch} {e : Env} {s : State} {m : MethodId} {below : List Frame} {meth : Method} {c : Code} {Q : State → Prop} {G : Gv} {aX aM o b L i t : Nat} {xs : Nat → Int32} {Inv : MS → MS → Prop} {SX SM : MS} {f : Nat → Int64} {H : Heap} {locs : List Loc} {ls : Array Slot} {qX : Int32} {qM : (Int32 × MS)} (C : mC p s m #[Value.ref b] meth c code RL 7 ret) (hX : va_X b L xs s s.heap) (hbl : b < s.heap.size) (ht : t ≤ 512) (hin : ∀ j : Nat, j < 6 → vp_in (nI i + nI j) L) (hL : mL G aX aM o SX SM f s H locs) (hl : lv_has ls 7 [(0, .ref b), (1, .ref (ad (Lq aX 99) 0)), (2, .ref (ad (Lq aM 48) 0)), (3, .ref o), (4, .int (nI i))]) (hfX : fX10_man 0 (xs ((nI i) + (1 : Int32)).toNatClampNeg) (xs ((nI i) + (2 : Int32)).toNatClampNeg) SX = some qX) (hfM : fX11_man 0 (xs ((nI i) + (1 : Int32)).toNatClampNeg) (xs ((nI i) + (2 : Int32)).toNatClampNeg) SM = some qM) (heq : qX = qM.1) (hInv : Inv SX qM.2) (ih : ∀ (SX SM : MS) (f : Nat → Int64) (H : Heap) (locs : List Loc) (ls : Array Slot), Inv SX SM → mL G aX aM o SX SM f s H locs → lv_has ls 7 [(0, .ref b), (1, .ref (ad (Lq aX 99) 0)), (2, .ref (ad (Lq aM 48) 0)), (3, .ref o), (4, .int (nI i))] → W p l e room_1 s m #[Value.ref b] below meth c H locs (300 + 10 * t) (200000 + 100 * t) Q (F0 m 1378 ls [])) : W p l e room_1 s m #[Value.ref b] below meth c H locs (300 + 10 * t) (200000 + 100 * t) Q (F0 m 441 ls []) := by
  refine lv_aload_n C.1 C.2.1 dL_law_441 rfl (lv_at hl 1 rfl) ?_
  refine lv_aload_n C.1 C.2.1 dL_law_442 rfl (lv_at hl 0 rfl) ?_
  refine lv_iload C.1 C.2.1 dL_law_443 (lv_at hl 4 rfl) ?_
  refine lv_iconst C.1 C.2.1 dL_law_445 ic_1 ?_
  refine lv_iadd C.1 C.2.1 dL_law_446 ?_
  refine va_sld C.1 C.2.1 hX hbl (Nat.not_le.mpr hbl) hL.1.2.2.2.1 (hin 1 (by decide)) dL_law_447 ?_
  refine lv_aload_n C.1 C.2.1 dL_law_448 rfl (lv_at hl 0 rfl) ?_
  refine lv_iload C.1 C.2.1 dL_law_449 (lv_at hl 4 rfl) ?_
  refine lv_iconst C.1 C.2.1 dL_law_451 ic_2 ?_
  refine lv_iadd C.1 C.2.1 dL_law_452 ?_
  refine va_sld C.1 C.2.1 hX hbl (Nat.not_le.mpr hbl) hL.1.2.2.2.1 (hin 2 (by decide)) dL_law_453 ?_
  refine l_callX (As := [.int (xs ((nI i) + (1 : Int32)).toNatClampNeg), .int (xs ((nI i) + (2 : Int32)).toNatClampNeg)]) (rest := []) C hL (cX10_man_ok (by decide) hfX) mlL_53 rfl hl.1 rfl (Nat.le_of_ble_eq_true rfl) (Nat.le_of_ble_eq_true rfl) (Nat.le_of_ble_eq_true rfl) (by show 300 + 10 * t ≤ 601024; omega) (by show 200000 + 100 * t ≤ 7293034; omega) dL_law_454 (fun H locs hL => ?_)
  refine lv_aload_n C.1 C.2.1 dL_law_457 rfl (lv_at hl 2 rfl) ?_
  refine lv_aload_n C.1 C.2.1 dL_law_458 rfl (lv_at hl 0 rfl) ?_
  refine lv_iload C.1 C.2.1 dL_law_459 (lv_at hl 4 rfl) ?_
  refine lv_iconst C.1 C.2.1 dL_law_461 ic_1 ?_
  refine lv_iadd C.1 C.2.1 dL_law_462 ?_
  refine va_sld C.1 C.2.1 hX hbl (Nat.not_le.mpr hbl) hL.1.2.2.2.1 (hin 1 (by decide)) dL_law_463 ?_
  refine lv_aload_n C.1 C.2.1 dL_law_464 rfl (lv_at hl 0 rfl) ?_
  refine lv_iload C.1 C.2.1 dL_law_465 (lv_at hl 4 rfl) ?_
  refine lv_iconst C.1 C.2.1 dL_law_467 ic_2 ?_
  refine lv_iadd C.1 C.2.1 dL_law_468 ?_
  refine va_sld C.1 C.2.1 hX hbl (Nat.not_le.mpr hbl) hL.1.2.2.2.1 (hin 2 (by decide)) dL_law_469 ?_
  refine l_callM (As := [.int (xs ((nI i) + (1 : Int32)).toNatClampNeg), .int (xs ((nI i) + (2 : Int32)).toNatClampNeg)]) (rest := [.int qX]) C hL (cX11_man_ok (by decide) hfM) mlL_56 rfl hl.1 rfl (Nat.le_of_ble_eq_true rfl) (Nat.le_of_ble_eq_true rfl) (Nat.le_of_ble_eq_true rfl) (by show 300 + 10 * t ≤ 601024; omega) (by show 200000 + 100 * t ≤ 7293034; omega) dL_law_470 (fun H locs hL => ?_)
  refine lv_icmp_eq (tgt := 1378) C.1 C.2.1 dL_law_473 rfl (fun _ => ?_) (fun h => absurd heq h)
  exact ih _ _ _ _ _ _ hInv hL hl
set_option maxRecDepth 100000 in
theorem law_7 {p : Program} {l : Launch} {e : Env} {s : State} {m : MethodId} {below : List Frame} {meth : Method} {c : Code} {Q : State → Prop} {G : Gv} {aX aM o b L i t : Nat} {xs : Nat → Int32} {Inv : MS → MS → Prop} {SX SM : MS} {f : Nat → Int64} {H : Heap} {locs : List Loc} {ls : Array Slot} {qX : Int32} {qM : (Int32 × MS)} (C : mC p s m #[Value.ref b] meth c code RL 7 ret) (hX : va_X b L xs s s.heap) (hbl : b < s.heap.size) (ht : t ≤ 512) (hin : ∀ j : Nat, j < 6 → vp_in (nI i + nI j) L) (hL : mL G aX aM o SX SM f s H locs) (hl : lv_has ls 7 [(0, .ref b), (1, .ref (ad (Lq aX 99) 0)), (2, .ref (ad (Lq aM 48) 0)), (3, .ref o), (4, .int (nI i))]) (hfX : fX10_lamp 0 (xs ((nI i) + (1 : Int32)).toNatClampNeg) (xs ((nI i) + (2 : Int32)).toNatClampNeg) SX = some qX) (hfM : fX11_lamp 0 (xs ((nI i) + (1 : Int32)).toNatClampNeg) (xs ((nI i) + (2 : Int32)).toNatClampNeg) SM = some qM) (heq : qX = qM.1) (hInv : Inv SX qM.2) (ih : ∀ (SX SM : MS) (f : Nat → Int64) (H : Heap) (locs : List Loc) (ls : Array Slot), Inv SX SM → mL G aX aM o SX SM f s H locs → lv_has ls 7 [(0, .ref b), (1, .ref (ad (Lq aX 99) 0)), (2, .ref (ad (Lq aM 48) 0)), (3, .ref o), (4, .int (nI i))] → W p l e room_1 s m #[Value.ref b] below meth c H locs (300 + 10 * t) (200000 + 100 * t) Q (F0 m 1378 ls [])) : W p l e room_1 s m #[Value.ref b] below meth c H locs (300 + 10 * t) (200000 + 100 * t) Q (F0 m 478 ls []) := by
  refine lv_aload_n C.1 C.2.1 dL_law_478 rfl (lv_at hl 1 rfl) ?_
  refine lv_aload_n C.1 C.2.1 dL_law_479 rfl (lv_at hl 0 rfl) ?_
  refine lv_iload C.1 C.2.1 dL_law_480 (lv_at hl 4 rfl) ?_
  refine lv_iconst C.1 C.2.1 dL_law_482 ic_1 ?_
  refine lv_iadd C.1 C.2.1 dL_law_483 ?_
  refine va_sld C.1 C.2.1 hX hbl (Nat.not_le.mpr hbl) hL.1.2.2.2.1 (hin 1 (by decide)) dL_law_484 ?_
  refine lv_aload_n C.1 C.2.1 dL_law_485 rfl (lv_at hl 0 rfl) ?_
  refine lv_iload C.1 C.2.1 dL_law_486 (lv_at hl 4 rfl) ?_
  refine lv_iconst C.1 C.2.1 dL_law_488 ic_2 ?_
  refine lv_iadd C.1 C.2.1 dL_law_489 ?_
  refine va_sld C.1 C.2.1 hX hbl (Nat.not_le.mpr hbl) hL.1.2.2.2.1 (hin 2 (by decide)) dL_law_490 ?_
  refine l_callX (As := [.int (xs ((nI i) + (1 : Int32)).toNatClampNeg), .int (xs ((nI i) + (2 : Int32)).toNatClampNeg)]) (rest := []) C hL (cX10_lamp_ok (by decide) hfX) mlL_57 rfl hl.1 rfl (Nat.le_of_ble_eq_true rfl) (Nat.le_of_ble_eq_true rfl) (Nat.le_of_ble_eq_true rfl) (by show 300 + 10 * t ≤ 601024; omega) (by show 200000 + 100 * t ≤ 7293034; omega) dL_law_491 (fun H locs hL => ?_)
  refine lv_aload_n C.1 C.2.1 dL_law_494 rfl (lv_at hl 2 rfl) ?_
  refine lv_aload_n C.1 C.2.1 dL_law_495 rfl (lv_at hl 0 rfl) ?_
  refine lv_iload C.1 C.2.1 dL_law_496 (lv_at hl 4 rfl) ?_
  refine lv_iconst C.1 C.2.1 dL_law_498 ic_1 ?_
  refine lv_iadd C.1 C.2.1 dL_law_499 ?_
  refine va_sld C.1 C.2.1 hX hbl (Nat.not_le.mpr hbl) hL.1.2.2.2.1 (hin 1 (by decide)) dL_law_500 ?_
  refine lv_aload_n C.1 C.2.1 dL_law_501 rfl (lv_at hl 0 rfl) ?_
  refine lv_iload C.1 C.2.1 dL_law_502 (lv_at hl 4 rfl) ?_
  refine lv_iconst C.1 C.2.1 dL_law_504 ic_2 ?_
  refine lv_iadd C.1 C.2.1 dL_law_505 ?_
  refine va_sld C.1 C.2.1 hX hbl (Nat.not_le.mpr hbl) hL.1.2.2.2.1 (hin 2 (by decide)) dL_law_506 ?_
  refine l_callM (As := [.int (xs ((nI i) + (1 : Int32)).toNatClampNeg), .int (xs ((nI i) + (2 : Int32)).toNatClampNeg)]) (rest := [.int qX]) C hL (cX11_lamp_ok (by decide) hfM) mlL_60 rfl hl.1 rfl (Nat.le_of_ble_eq_true rfl) (Nat.le_of_ble_eq_true rfl) (Nat.le_of_ble_eq_true rfl) (by show 300 + 10 * t ≤ 601024; omega) (by show 200000 + 100 * t ≤ 7293034; omega) dL_law_507 (fun H locs hL => ?_)
  refine lv_icmp_eq (tgt := 1378) C.1 C.2.1 dL_law_510 rfl (fun _ => ?_) (fun h => absurd heq h)
  exact ih _ _ _ _ _ _ hInv hL hl
set_option maxRecDepth 100000 in
theorem law_8 {p : Program} {l : Launch} {e : Env} {s : State} {m : MethodId} {below : List Frame} {meth : Method} {c : Code} {Q : State → Prop} {G : Gv} {aX aM o b L i t : Nat} {xs : Nat → Int32} {Inv : MS → MS → Prop} {SX SM : MS} {f : Nat → Int64} {H : Heap} {locs : List Loc} {ls : Array Slot} {qX : Int32} {qM : (Int32 × MS)} (C : mC p s m #[Value.ref b] meth c code RL 7 ret) (hX : va_X b L xs s s.heap) (hbl : b < s.heap.size) (ht : t ≤ 512) (hin : ∀ j : Nat, j < 6 → vp_in (nI i + nI j) L) (hL : mL G aX aM o SX SM f s H locs) (hl : lv_has ls 7 [(0, .ref b), (1, .ref (ad (Lq aX 99) 0)), (2, .ref (ad (Lq aM 48) 0)), (3, .ref o), (4, .int (nI i))]) (hfX : fX10_wall 0 (xs ((nI i) + (1 : Int32)).toNatClampNeg) (xs ((nI i) + (2 : Int32)).toNatClampNeg) SX = some qX) (hfM : fX11_wall 0 (xs ((nI i) + (1 : Int32)).toNatClampNeg) (xs ((nI i) + (2 : Int32)).toNatClampNeg) SM = some qM) (heq : qX = qM.1) (hInv : Inv SX qM.2) (ih : ∀ (SX SM : MS) (f : Nat → Int64) (H : Heap) (locs : List Loc) (ls : Array Slot), Inv SX SM → mL G aX aM o SX SM f s H locs → lv_has ls 7 [(0, .ref b), (1, .ref (ad (Lq aX 99) 0)), (2, .ref (ad (Lq aM 48) 0)), (3, .ref o), (4, .int (nI i))] → W p l e room_1 s m #[Value.ref b] below meth c H locs (300 + 10 * t) (200000 + 100 * t) Q (F0 m 1378 ls [])) : W p l e room_1 s m #[Value.ref b] below meth c H locs (300 + 10 * t) (200000 + 100 * t) Q (F0 m 515 ls []) := by
  refine lv_aload_n C.1 C.2.1 dL_law_515 rfl (lv_at hl 1 rfl) ?_
  refine lv_aload_n C.1 C.2.1 dL_law_516 rfl (lv_at hl 0 rfl) ?_
  refine lv_iload C.1 C.2.1 dL_law_517 (lv_at hl 4 rfl) ?_
  refine lv_iconst C.1 C.2.1 dL_law_519 ic_1 ?_
  refine lv_iadd C.1 C.2.1 dL_law_520 ?_
  refine va_sld C.1 C.2.1 hX hbl (Nat.not_le.mpr hbl) hL.1.2.2.2.1 (hin 1 (by decide)) dL_law_521 ?_
  refine lv_aload_n C.1 C.2.1 dL_law_522 rfl (lv_at hl 0 rfl) ?_
  refine lv_iload C.1 C.2.1 dL_law_523 (lv_at hl 4 rfl) ?_
  refine lv_iconst C.1 C.2.1 dL_law_525 ic_2 ?_
  refine lv_iadd C.1 C.2.1 dL_law_526 ?_
  refine va_sld C.1 C.2.1 hX hbl (Nat.not_le.mpr hbl) hL.1.2.2.2.1 (hin 2 (by decide)) dL_law_527 ?_
  refine l_callX (As := [.int (xs ((nI i) + (1 : Int32)).toNatClampNeg), .int (xs ((nI i) + (2 : Int32)).toNatClampNeg)]) (rest := []) C hL (cX10_wall_ok (by decide) hfX) mlL_61 rfl hl.1 rfl (Nat.le_of_ble_eq_true rfl) (Nat.le_of_ble_eq_true rfl) (Nat.le_of_ble_eq_true rfl) (by show 300 + 10 * t ≤ 601024; omega) (by show 200000 + 100 * t ≤ 7293034; omega) dL_law_528 (fun H locs hL => ?_)
  refine lv_aload_n C.1 C.2.1 dL_law_531 rfl (lv_at hl 2 rfl) ?_
  refine lv_aload_n C.1 C.2.1 dL_law_532 rfl (lv_at hl 0 rfl) ?_
  refine lv_iload C.1 C.2.1 dL_law_533 (lv_at hl 4 rfl) ?_
  refine lv_iconst C.1 C.2.1 dL_law_535 ic_1 ?_
  refine lv_iadd C.1 C.2.1 dL_law_536 ?_
  refine va_sld C.1 C.2.1 hX hbl (Nat.not_le.mpr hbl) hL.1.2.2.2.1 (hin 1 (by decide)) dL_law_537 ?_
  refine lv_aload_n C.1 C.2.1 dL_law_538 rfl (lv_at hl 0 rfl) ?_
  refine lv_iload C.1 C.2.1 dL_law_539 (lv_at hl 4 rfl) ?_
  refine lv_iconst C.1 C.2.1 dL_law_541 ic_2 ?_
  refine lv_iadd C.1 C.2.1 dL_law_542 ?_
  refine va_sld C.1 C.2.1 hX hbl (Nat.not_le.mpr hbl) hL.1.2.2.2.1 (hin 2 (by decide)) dL_law_543 ?_
  refine l_callM (As := [.int (xs ((nI i) + (1 : Int32)).toNatClampNeg), .int (xs ((nI i) + (2 : Int32)).toNatClampNeg)]) (rest := [.int qX]) C hL (cX11_wall_ok (by decide) hfM) mlL_64 rfl hl.1 rfl (Nat.le_of_ble_eq_true rfl) (Nat.le_of_ble_eq_true rfl) (Nat.le_of_ble_eq_true rfl) (by show 300 + 10 * t ≤ 601024; omega) (by show 200000 + 100 * t ≤ 7293034; omega) dL_law_544 (fun H locs hL => ?_)
  refine lv_icmp_eq (tgt := 1378) C.1 C.2.1 dL_law_547 rfl (fun _ => ?_) (fun h => absurd heq h)
  exact ih _ _ _ _ _ _ hInv hL hl
set_option maxRecDepth 100000 in
theorem law_9 {p : Program} {l : Launch} {e : Env} {s : State} {m : MethodId} {below : List Frame} {meth : Method} {c : Code} {Q : State → Prop} {G : Gv} {aX aM o b L i t : Nat} {xs : Nat → Int32} {Inv : MS → MS → Prop} {SX SM : MS} {f : Nat → Int64} {H : Heap} {locs : List Loc} {ls : Array Slot} {qX : (Int64 × MS)} {qM : (Int64 × MS)} (C : mC p s m #[Value.ref b] meth c code RL 7 ret) (hX : va_X b L xs s s.heap) (hbl : b < s.heap.size) (ht : t ≤ 512) (hin : ∀ j : Nat, j < 6 → vp_in (nI i + nI j) L) (hL : mL G aX aM o SX SM f s H locs) (hl : lv_has ls 7 [(0, .ref b), (1, .ref (ad (Lq aX 99) 0)), (2, .ref (ad (Lq aM 48) 0)), (3, .ref o), (4, .int (nI i))]) (hfX : fX10_law 0 (xs ((nI i) + (1 : Int32)).toNatClampNeg) (xs ((nI i) + (2 : Int32)).toNatClampNeg) SX = some qX) (hfM : fX11_law 0 (xs ((nI i) + (1 : Int32)).toNatClampNeg) (xs ((nI i) + (2 : Int32)).toNatClampNeg) SM = some qM) (heq : qX.1 = qM.1) (hInv : Inv qX.2 qM.2) (ih : ∀ (SX SM : MS) (f : Nat → Int64) (H : Heap) (locs : List Loc) (ls : Array Slot), Inv SX SM → mL G aX aM o SX SM f s H locs → lv_has ls 7 [(0, .ref b), (1, .ref (ad (Lq aX 99) 0)), (2, .ref (ad (Lq aM 48) 0)), (3, .ref o), (4, .int (nI i))] → W p l e room_1 s m #[Value.ref b] below meth c H locs (300 + 10 * t) (200000 + 100 * t) Q (F0 m 1378 ls [])) : W p l e room_1 s m #[Value.ref b] below meth c H locs (300 + 10 * t) (200000 + 100 * t) Q (F0 m 552 ls []) := by
  refine lv_aload_n C.1 C.2.1 dL_law_552 rfl (lv_at hl 1 rfl) ?_
  refine lv_aload_n C.1 C.2.1 dL_law_553 rfl (lv_at hl 0 rfl) ?_
  refine lv_iload C.1 C.2.1 dL_law_554 (lv_at hl 4 rfl) ?_
  refine lv_iconst C.1 C.2.1 dL_law_556 ic_1 ?_
  refine lv_iadd C.1 C.2.1 dL_law_557 ?_
  refine va_sld C.1 C.2.1 hX hbl (Nat.not_le.mpr hbl) hL.1.2.2.2.1 (hin 1 (by decide)) dL_law_558 ?_
  refine lv_aload_n C.1 C.2.1 dL_law_559 rfl (lv_at hl 0 rfl) ?_
  refine lv_iload C.1 C.2.1 dL_law_560 (lv_at hl 4 rfl) ?_
  refine lv_iconst C.1 C.2.1 dL_law_562 ic_2 ?_
  refine lv_iadd C.1 C.2.1 dL_law_563 ?_
  refine va_sld C.1 C.2.1 hX hbl (Nat.not_le.mpr hbl) hL.1.2.2.2.1 (hin 2 (by decide)) dL_law_564 ?_
  refine l_callX (As := [.int (xs ((nI i) + (1 : Int32)).toNatClampNeg), .int (xs ((nI i) + (2 : Int32)).toNatClampNeg)]) (rest := []) C hL (cX10_law_ok (by decide) hfX) mlL_65 rfl hl.1 rfl (Nat.le_of_ble_eq_true rfl) (Nat.le_of_ble_eq_true rfl) (Nat.le_of_ble_eq_true rfl) (by show 300 + 10 * t ≤ 601024; omega) (by show 200000 + 100 * t ≤ 7293034; omega) dL_law_565 (fun H locs hL => ?_)
  refine lv_aload_n C.1 C.2.1 dL_law_568 rfl (lv_at hl 2 rfl) ?_
  refine lv_aload_n C.1 C.2.1 dL_law_569 rfl (lv_at hl 0 rfl) ?_
  refine lv_iload C.1 C.2.1 dL_law_570 (lv_at hl 4 rfl) ?_
  refine lv_iconst C.1 C.2.1 dL_law_572 ic_1 ?_
  refine lv_iadd C.1 C.2.1 dL_law_573 ?_
  refine va_sld C.1 C.2.1 hX hbl (Nat.not_le.mpr hbl) hL.1.2.2.2.1 (hin 1 (by decide)) dL_law_574 ?_
  refine lv_aload_n C.1 C.2.1 dL_law_575 rfl (lv_at hl 0 rfl) ?_
  refine lv_iload C.1 C.2.1 dL_law_576 (lv_at hl 4 rfl) ?_
  refine lv_iconst C.1 C.2.1 dL_law_578 ic_2 ?_
  refine lv_iadd C.1 C.2.1 dL_law_579 ?_
  refine va_sld C.1 C.2.1 hX hbl (Nat.not_le.mpr hbl) hL.1.2.2.2.1 (hin 2 (by decide)) dL_law_580 ?_
  refine l_callM (As := [.int (xs ((nI i) + (1 : Int32)).toNatClampNeg), .int (xs ((nI i) + (2 : Int32)).toNatClampNeg)]) (rest := [.long qX.1]) C hL (cX11_law_ok (by decide) hfM) mlL_69 rfl hl.1 rfl (Nat.le_of_ble_eq_true rfl) (Nat.le_of_ble_eq_true rfl) (Nat.le_of_ble_eq_true rfl) (by show 300 + 10 * t ≤ 601024; omega) (by show 200000 + 100 * t ≤ 7293034; omega) dL_law_581 (fun H locs hL => ?_)
  refine W.lcmp C.1 C.2.1 dL_law_584 ?_
  refine lv_if_eq (tgt := 1378) C.1 C.2.1 dL_law_585 rfl (fun _ => ?_) (fun h => absurd (by rw [heq]; exact lg_cmp_self _) h)
  exact ih _ _ _ _ _ _ hInv hL hl
set_option maxRecDepth 100000 in
theorem law_10 {p : Program} {l : Launch} {e : Env} {s : State} {m : MethodId} {below : List Frame} {meth : Method} {c : Code} {Q : State → Prop} {G : Gv} {aX aM o b L i t : Nat} {xs : Nat → Int32} {Inv : MS → MS → Prop} {SX SM : MS} {f : Nat → Int64} {H : Heap} {locs : List Loc} {ls : Array Slot} {qX : (Int32 × MS)} {qM : (Int32 × MS)} (C : mC p s m #[Value.ref b] meth c code RL 7 ret) (hX : va_X b L xs s s.heap) (hbl : b < s.heap.size) (ht : t ≤ 512) (hin : ∀ j : Nat, j < 6 → vp_in (nI i + nI j) L) (hL : mL G aX aM o SX SM f s H locs) (hl : lv_has ls 7 [(0, .ref b), (1, .ref (ad (Lq aX 99) 0)), (2, .ref (ad (Lq aM 48) 0)), (3, .ref o), (4, .int (nI i))]) (hfX : fX10_step 0 (xs ((nI i) + (1 : Int32)).toNatClampNeg) SX = some qX) (hfM : fX11_step 0 (xs ((nI i) + (1 : Int32)).toNatClampNeg) SM = some qM) (heq : qX.1 = qM.1) (hInv : Inv qX.2 qM.2) (ih : ∀ (SX SM : MS) (f : Nat → Int64) (H : Heap) (locs : List Loc) (ls : Array Slot), Inv SX SM → mL G aX aM o SX SM f s H locs → lv_has ls 7 [(0, .ref b), (1, .ref (ad (Lq aX 99) 0)), (2, .ref (ad (Lq aM 48) 0)), (3, .ref o), (4, .int (nI i))] → W p l e room_1 s m #[Value.ref b] below meth c H locs (300 + 10 * t) (200000 + 100 * t) Q (F0 m 1378 ls [])) : W p l e room_1 s m #[Value.ref b] below meth c H locs (300 + 10 * t) (200000 + 100 * t) Q (F0 m 590 ls []) := by
  refine lv_aload_n C.1 C.2.1 dL_law_590 rfl (lv_at hl 1 rfl) ?_
  refine lv_aload_n C.1 C.2.1 dL_law_591 rfl (lv_at hl 0 rfl) ?_
  refine lv_iload C.1 C.2.1 dL_law_592 (lv_at hl 4 rfl) ?_
  refine lv_iconst C.1 C.2.1 dL_law_594 ic_1 ?_
  refine lv_iadd C.1 C.2.1 dL_law_595 ?_
  refine va_sld C.1 C.2.1 hX hbl (Nat.not_le.mpr hbl) hL.1.2.2.2.1 (hin 1 (by decide)) dL_law_596 ?_
  refine l_callX (As := [.int (xs ((nI i) + (1 : Int32)).toNatClampNeg)]) (rest := []) C hL (cX10_step_ok (by decide) hfX) mlL_70 rfl hl.1 rfl (Nat.le_of_ble_eq_true rfl) (Nat.le_of_ble_eq_true rfl) (Nat.le_of_ble_eq_true rfl) (by show 300 + 10 * t ≤ 601024; omega) (by show 200000 + 100 * t ≤ 7293034; omega) dL_law_597 (fun H locs hL => ?_)
  refine lv_aload_n C.1 C.2.1 dL_law_600 rfl (lv_at hl 2 rfl) ?_
  refine lv_aload_n C.1 C.2.1 dL_law_601 rfl (lv_at hl 0 rfl) ?_
  refine lv_iload C.1 C.2.1 dL_law_602 (lv_at hl 4 rfl) ?_
  refine lv_iconst C.1 C.2.1 dL_law_604 ic_1 ?_
  refine lv_iadd C.1 C.2.1 dL_law_605 ?_
  refine va_sld C.1 C.2.1 hX hbl (Nat.not_le.mpr hbl) hL.1.2.2.2.1 (hin 1 (by decide)) dL_law_606 ?_
  refine l_callM (As := [.int (xs ((nI i) + (1 : Int32)).toNatClampNeg)]) (rest := [.int qX.1]) C hL (cX11_step_ok (by decide) hfM) mlL_73 rfl hl.1 rfl (Nat.le_of_ble_eq_true rfl) (Nat.le_of_ble_eq_true rfl) (Nat.le_of_ble_eq_true rfl) (by show 300 + 10 * t ≤ 601024; omega) (by show 200000 + 100 * t ≤ 7293034; omega) dL_law_607 (fun H locs hL => ?_)
  refine lv_icmp_eq (tgt := 1378) C.1 C.2.1 dL_law_610 rfl (fun _ => ?_) (fun h => absurd heq h)
  exact ih _ _ _ _ _ _ hInv hL hl
set_option maxRecDepth 100000 in
theorem law_11 {p : Program} {l : Launch} {e : Env} {s : State} {m : MethodId} {below : List Frame} {meth : Method} {c : Code} {Q : State → Prop} {G : Gv} {aX aM o b L i t : Nat} {xs : Nat → Int32} {Inv : MS → MS → Prop} {SX SM : MS} {f : Nat → Int64} {H : Heap} {locs : List Loc} {ls : Array Slot} {qX : (Int32 × MS)} {qM : (Int32 × MS)} (C : mC p s m #[Value.ref b] meth c code RL 7 ret) (hX : va_X b L xs s s.heap) (hbl : b < s.heap.size) (ht : t ≤ 512) (hin : ∀ j : Nat, j < 6 → vp_in (nI i + nI j) L) (hL : mL G aX aM o SX SM f s H locs) (hl : lv_has ls 7 [(0, .ref b), (1, .ref (ad (Lq aX 99) 0)), (2, .ref (ad (Lq aM 48) 0)), (3, .ref o), (4, .int (nI i))]) (hfX : fX10_light 0 (xs ((nI i) + (1 : Int32)).toNatClampNeg) (bz (xs ((nI i) + (2 : Int32)).toNatClampNeg)) SX = some qX) (hfM : fX11_light 0 (xs ((nI i) + (1 : Int32)).toNatClampNeg) (bz (xs ((nI i) + (2 : Int32)).toNatClampNeg)) SM = some qM) (heq : qX.1 = qM.1) (hInv : Inv qX.2 qM.2) (ih : ∀ (SX SM : MS) (f : Nat → Int64) (H : Heap) (locs : List Loc) (ls : Array Slot), Inv SX SM → mL G aX aM o SX SM f s H locs → lv_has ls 7 [(0, .ref b), (1, .ref (ad (Lq aX 99) 0)), (2, .ref (ad (Lq aM 48) 0)), (3, .ref o), (4, .int (nI i))] → W p l e room_1 s m #[Value.ref b] below meth c H locs (300 + 10 * t) (200000 + 100 * t) Q (F0 m 1378 ls [])) : W p l e room_1 s m #[Value.ref b] below meth c H locs (300 + 10 * t) (200000 + 100 * t) Q (F0 m 615 ls []) := by
  refine lv_aload_n C.1 C.2.1 dL_law_615 rfl (lv_at hl 1 rfl) ?_
  refine lv_aload_n C.1 C.2.1 dL_law_616 rfl (lv_at hl 0 rfl) ?_
  refine lv_iload C.1 C.2.1 dL_law_617 (lv_at hl 4 rfl) ?_
  refine lv_iconst C.1 C.2.1 dL_law_619 ic_1 ?_
  refine lv_iadd C.1 C.2.1 dL_law_620 ?_
  refine va_sld C.1 C.2.1 hX hbl (Nat.not_le.mpr hbl) hL.1.2.2.2.1 (hin 1 (by decide)) dL_law_621 ?_
  refine lv_aload_n C.1 C.2.1 dL_law_622 rfl (lv_at hl 0 rfl) ?_
  refine lv_iload C.1 C.2.1 dL_law_623 (lv_at hl 4 rfl) ?_
  refine lv_iconst C.1 C.2.1 dL_law_625 ic_2 ?_
  refine lv_iadd C.1 C.2.1 dL_law_626 ?_
  refine va_sld C.1 C.2.1 hX hbl (Nat.not_le.mpr hbl) hL.1.2.2.2.1 (hin 2 (by decide)) dL_law_627 ?_
  refine lv_if_eq (tgt := 635) C.1 C.2.1 dL_law_628 rfl (fun c628 => ?_) (fun c628 => ?_)
  · rw [show bz (xs ((nI i) + (2 : Int32)).toNatClampNeg) = 0 from if_pos c628] at hfX hfM
    refine lv_iconst C.1 C.2.1 dL_law_635 ic_0 ?_
    refine l_callX (As := [.int (xs ((nI i) + (1 : Int32)).toNatClampNeg), .int ((0 : Int32))]) (rest := []) C hL (cX10_light_ok (by decide) hfX) mlL_74 rfl hl.1 rfl (Nat.le_of_ble_eq_true rfl) (Nat.le_of_ble_eq_true rfl) (Nat.le_of_ble_eq_true rfl) (by show 300 + 10 * t ≤ 601024; omega) (by show 200000 + 100 * t ≤ 7293034; omega) dL_law_636 (fun H locs hL => ?_)
    refine lv_aload_n C.1 C.2.1 dL_law_639 rfl (lv_at hl 2 rfl) ?_
    refine lv_aload_n C.1 C.2.1 dL_law_640 rfl (lv_at hl 0 rfl) ?_
    refine lv_iload C.1 C.2.1 dL_law_641 (lv_at hl 4 rfl) ?_
    refine lv_iconst C.1 C.2.1 dL_law_643 ic_1 ?_
    refine lv_iadd C.1 C.2.1 dL_law_644 ?_
    refine va_sld C.1 C.2.1 hX hbl (Nat.not_le.mpr hbl) hL.1.2.2.2.1 (hin 1 (by decide)) dL_law_645 ?_
    refine lv_aload_n C.1 C.2.1 dL_law_646 rfl (lv_at hl 0 rfl) ?_
    refine lv_iload C.1 C.2.1 dL_law_647 (lv_at hl 4 rfl) ?_
    refine lv_iconst C.1 C.2.1 dL_law_649 ic_2 ?_
    refine lv_iadd C.1 C.2.1 dL_law_650 ?_
    refine va_sld C.1 C.2.1 hX hbl (Nat.not_le.mpr hbl) hL.1.2.2.2.1 (hin 2 (by decide)) dL_law_651 ?_
    refine lv_if_eq (tgt := 659) C.1 C.2.1 dL_law_652 rfl (fun _ => ?_) (fun h => absurd c628 h)
    refine lv_iconst C.1 C.2.1 dL_law_659 ic_0 ?_
    refine l_callM (As := [.int (xs ((nI i) + (1 : Int32)).toNatClampNeg), .int ((0 : Int32))]) (rest := [.int qX.1]) C hL (cX11_light_ok (by decide) hfM) mlL_78 rfl hl.1 rfl (Nat.le_of_ble_eq_true rfl) (Nat.le_of_ble_eq_true rfl) (Nat.le_of_ble_eq_true rfl) (by show 300 + 10 * t ≤ 601024; omega) (by show 200000 + 100 * t ≤ 7293034; omega) dL_law_660 (fun H locs hL => ?_)
    refine lv_icmp_eq (tgt := 1378) C.1 C.2.1 dL_law_663 rfl (fun _ => ?_) (fun h => absurd heq h)
    exact ih _ _ _ _ _ _ hInv hL hl
  · rw [show bz (xs ((nI i) + (2 : Int32)).toNatClampNeg) = 1 from if_neg c628] at hfX hfM
    refine lv_iconst C.1 C.2.1 dL_law_631 ic_1 ?_
    refine lv_goto (tgt := 636) C.1 C.2.1 dL_law_632 rfl ?_
    refine l_callX (As := [.int (xs ((nI i) + (1 : Int32)).toNatClampNeg), .int ((1 : Int32))]) (rest := []) C hL (cX10_light_ok (by decide) hfX) mlL_74 rfl hl.1 rfl (Nat.le_of_ble_eq_true rfl) (Nat.le_of_ble_eq_true rfl) (Nat.le_of_ble_eq_true rfl) (by show 300 + 10 * t ≤ 601024; omega) (by show 200000 + 100 * t ≤ 7293034; omega) dL_law_636 (fun H locs hL => ?_)
    refine lv_aload_n C.1 C.2.1 dL_law_639 rfl (lv_at hl 2 rfl) ?_
    refine lv_aload_n C.1 C.2.1 dL_law_640 rfl (lv_at hl 0 rfl) ?_
    refine lv_iload C.1 C.2.1 dL_law_641 (lv_at hl 4 rfl) ?_
    refine lv_iconst C.1 C.2.1 dL_law_643 ic_1 ?_
    refine lv_iadd C.1 C.2.1 dL_law_644 ?_
    refine va_sld C.1 C.2.1 hX hbl (Nat.not_le.mpr hbl) hL.1.2.2.2.1 (hin 1 (by decide)) dL_law_645 ?_
    refine lv_aload_n C.1 C.2.1 dL_law_646 rfl (lv_at hl 0 rfl) ?_
    refine lv_iload C.1 C.2.1 dL_law_647 (lv_at hl 4 rfl) ?_
    refine lv_iconst C.1 C.2.1 dL_law_649 ic_2 ?_
    refine lv_iadd C.1 C.2.1 dL_law_650 ?_
    refine va_sld C.1 C.2.1 hX hbl (Nat.not_le.mpr hbl) hL.1.2.2.2.1 (hin 2 (by decide)) dL_law_651 ?_
    refine lv_if_eq (tgt := 659) C.1 C.2.1 dL_law_652 rfl (fun h => absurd h c628) (fun _ => ?_)
    refine lv_iconst C.1 C.2.1 dL_law_655 ic_1 ?_
    refine lv_goto (tgt := 660) C.1 C.2.1 dL_law_656 rfl ?_
    refine l_callM (As := [.int (xs ((nI i) + (1 : Int32)).toNatClampNeg), .int ((1 : Int32))]) (rest := [.int qX.1]) C hL (cX11_light_ok (by decide) hfM) mlL_78 rfl hl.1 rfl (Nat.le_of_ble_eq_true rfl) (Nat.le_of_ble_eq_true rfl) (Nat.le_of_ble_eq_true rfl) (by show 300 + 10 * t ≤ 601024; omega) (by show 200000 + 100 * t ≤ 7293034; omega) dL_law_660 (fun H locs hL => ?_)
    refine lv_icmp_eq (tgt := 1378) C.1 C.2.1 dL_law_663 rfl (fun _ => ?_) (fun h => absurd heq h)
    exact ih _ _ _ _ _ _ hInv hL hl
set_option maxRecDepth 100000 in
theorem law_12 {p : Program} {l : Launch} {e : Env} {s : State} {m : MethodId} {below : List Frame} {meth : Method} {c : Code} {Q : State → Prop} {G : Gv} {aX aM o b L i t : Nat} {xs : Nat → Int32} {Inv : MS → MS → Prop} {SX SM : MS} {f : Nat → Int64} {H : Heap} {locs : List Loc} {ls : Array Slot} {qX : (Int32 × MS)} {qM : (Int32 × MS)} (C : mC p s m #[Value.ref b] meth c code RL 7 ret) (hX : va_X b L xs s s.heap) (hbl : b < s.heap.size) (ht : t ≤ 512) (hin : ∀ j : Nat, j < 6 → vp_in (nI i + nI j) L) (hL : mL G aX aM o SX SM f s H locs) (hl : lv_has ls 7 [(0, .ref b), (1, .ref (ad (Lq aX 99) 0)), (2, .ref (ad (Lq aM 48) 0)), (3, .ref o), (4, .int (nI i))]) (hfX : fX10_again 0 (xs ((nI i) + (1 : Int32)).toNatClampNeg) SX = some qX) (hfM : fX11_again 0 (xs ((nI i) + (1 : Int32)).toNatClampNeg) SM = some qM) (heq : qX.1 = qM.1) (hInv : Inv qX.2 qM.2) (ih : ∀ (SX SM : MS) (f : Nat → Int64) (H : Heap) (locs : List Loc) (ls : Array Slot), Inv SX SM → mL G aX aM o SX SM f s H locs → lv_has ls 7 [(0, .ref b), (1, .ref (ad (Lq aX 99) 0)), (2, .ref (ad (Lq aM 48) 0)), (3, .ref o), (4, .int (nI i))] → W p l e room_1 s m #[Value.ref b] below meth c H locs (300 + 10 * t) (200000 + 100 * t) Q (F0 m 1378 ls [])) : W p l e room_1 s m #[Value.ref b] below meth c H locs (300 + 10 * t) (200000 + 100 * t) Q (F0 m 668 ls []) := by
  refine lv_aload_n C.1 C.2.1 dL_law_668 rfl (lv_at hl 1 rfl) ?_
  refine lv_aload_n C.1 C.2.1 dL_law_669 rfl (lv_at hl 0 rfl) ?_
  refine lv_iload C.1 C.2.1 dL_law_670 (lv_at hl 4 rfl) ?_
  refine lv_iconst C.1 C.2.1 dL_law_672 ic_1 ?_
  refine lv_iadd C.1 C.2.1 dL_law_673 ?_
  refine va_sld C.1 C.2.1 hX hbl (Nat.not_le.mpr hbl) hL.1.2.2.2.1 (hin 1 (by decide)) dL_law_674 ?_
  refine l_callX (As := [.int (xs ((nI i) + (1 : Int32)).toNatClampNeg)]) (rest := []) C hL (cX10_again_ok (by decide) hfX) mlL_79 rfl hl.1 rfl (Nat.le_of_ble_eq_true rfl) (Nat.le_of_ble_eq_true rfl) (Nat.le_of_ble_eq_true rfl) (by show 300 + 10 * t ≤ 601024; omega) (by show 200000 + 100 * t ≤ 7293034; omega) dL_law_675 (fun H locs hL => ?_)
  refine lv_aload_n C.1 C.2.1 dL_law_678 rfl (lv_at hl 2 rfl) ?_
  refine lv_aload_n C.1 C.2.1 dL_law_679 rfl (lv_at hl 0 rfl) ?_
  refine lv_iload C.1 C.2.1 dL_law_680 (lv_at hl 4 rfl) ?_
  refine lv_iconst C.1 C.2.1 dL_law_682 ic_1 ?_
  refine lv_iadd C.1 C.2.1 dL_law_683 ?_
  refine va_sld C.1 C.2.1 hX hbl (Nat.not_le.mpr hbl) hL.1.2.2.2.1 (hin 1 (by decide)) dL_law_684 ?_
  refine l_callM (As := [.int (xs ((nI i) + (1 : Int32)).toNatClampNeg)]) (rest := [.int qX.1]) C hL (cX11_again_ok (by decide) hfM) mlL_83 rfl hl.1 rfl (Nat.le_of_ble_eq_true rfl) (Nat.le_of_ble_eq_true rfl) (Nat.le_of_ble_eq_true rfl) (by show 300 + 10 * t ≤ 601024; omega) (by show 200000 + 100 * t ≤ 7293034; omega) dL_law_685 (fun H locs hL => ?_)
  refine lv_icmp_eq (tgt := 1378) C.1 C.2.1 dL_law_688 rfl (fun _ => ?_) (fun h => absurd heq h)
  exact ih _ _ _ _ _ _ hInv hL hl
set_option maxRecDepth 100000 in
theorem law_13 {p : Program} {l : Launch} {e : Env} {s : State} {m : MethodId} {below : List Frame} {meth : Method} {c : Code} {Q : State → Prop} {G : Gv} {aX aM o b L i t : Nat} {xs : Nat → Int32} {Inv : MS → MS → Prop} {SX SM : MS} {f : Nat → Int64} {H : Heap} {locs : List Loc} {ls : Array Slot} {qX : (Int32 × MS)} {qM : (Int32 × MS)} (C : mC p s m #[Value.ref b] meth c code RL 7 ret) (hX : va_X b L xs s s.heap) (hbl : b < s.heap.size) (ht : t ≤ 512) (hin : ∀ j : Nat, j < 6 → vp_in (nI i + nI j) L) (hL : mL G aX aM o SX SM f s H locs) (hl : lv_has ls 7 [(0, .ref b), (1, .ref (ad (Lq aX 99) 0)), (2, .ref (ad (Lq aM 48) 0)), (3, .ref o), (4, .int (nI i))]) (hfX : fX10_go 0 (xs ((nI i) + (1 : Int32)).toNatClampNeg) SX = some qX) (hfM : fX11_go 0 (xs ((nI i) + (1 : Int32)).toNatClampNeg) SM = some qM) (heq : qX.1 = qM.1) (hInv : Inv qX.2 qM.2) (ih : ∀ (SX SM : MS) (f : Nat → Int64) (H : Heap) (locs : List Loc) (ls : Array Slot), Inv SX SM → mL G aX aM o SX SM f s H locs → lv_has ls 7 [(0, .ref b), (1, .ref (ad (Lq aX 99) 0)), (2, .ref (ad (Lq aM 48) 0)), (3, .ref o), (4, .int (nI i))] → W p l e room_1 s m #[Value.ref b] below meth c H locs (300 + 10 * t) (200000 + 100 * t) Q (F0 m 1378 ls [])) : W p l e room_1 s m #[Value.ref b] below meth c H locs (300 + 10 * t) (200000 + 100 * t) Q (F0 m 693 ls []) := by
  refine lv_aload_n C.1 C.2.1 dL_law_693 rfl (lv_at hl 1 rfl) ?_
  refine lv_aload_n C.1 C.2.1 dL_law_694 rfl (lv_at hl 0 rfl) ?_
  refine lv_iload C.1 C.2.1 dL_law_695 (lv_at hl 4 rfl) ?_
  refine lv_iconst C.1 C.2.1 dL_law_697 ic_1 ?_
  refine lv_iadd C.1 C.2.1 dL_law_698 ?_
  refine va_sld C.1 C.2.1 hX hbl (Nat.not_le.mpr hbl) hL.1.2.2.2.1 (hin 1 (by decide)) dL_law_699 ?_
  refine l_callX (As := [.int (xs ((nI i) + (1 : Int32)).toNatClampNeg)]) (rest := []) C hL (cX10_go_ok (by decide) hfX) mlL_84 rfl hl.1 rfl (Nat.le_of_ble_eq_true rfl) (Nat.le_of_ble_eq_true rfl) (Nat.le_of_ble_eq_true rfl) (by show 300 + 10 * t ≤ 601024; omega) (by show 200000 + 100 * t ≤ 7293034; omega) dL_law_700 (fun H locs hL => ?_)
  refine lv_aload_n C.1 C.2.1 dL_law_703 rfl (lv_at hl 2 rfl) ?_
  refine lv_aload_n C.1 C.2.1 dL_law_704 rfl (lv_at hl 0 rfl) ?_
  refine lv_iload C.1 C.2.1 dL_law_705 (lv_at hl 4 rfl) ?_
  refine lv_iconst C.1 C.2.1 dL_law_707 ic_1 ?_
  refine lv_iadd C.1 C.2.1 dL_law_708 ?_
  refine va_sld C.1 C.2.1 hX hbl (Nat.not_le.mpr hbl) hL.1.2.2.2.1 (hin 1 (by decide)) dL_law_709 ?_
  refine l_callM (As := [.int (xs ((nI i) + (1 : Int32)).toNatClampNeg)]) (rest := [.int qX.1]) C hL (cX11_go_ok (by decide) hfM) mlL_87 rfl hl.1 rfl (Nat.le_of_ble_eq_true rfl) (Nat.le_of_ble_eq_true rfl) (Nat.le_of_ble_eq_true rfl) (by show 300 + 10 * t ≤ 601024; omega) (by show 200000 + 100 * t ≤ 7293034; omega) dL_law_710 (fun H locs hL => ?_)
  refine lv_icmp_eq (tgt := 1378) C.1 C.2.1 dL_law_713 rfl (fun _ => ?_) (fun h => absurd heq h)
  exact ih _ _ _ _ _ _ hInv hL hl
set_option maxRecDepth 100000 in
theorem law_14 {p : Program} {l : Launch} {e : Env} {s : State} {m : MethodId} {below : List Frame} {meth : Method} {c : Code} {Q : State → Prop} {G : Gv} {aX aM o b L i t : Nat} {xs : Nat → Int32} {Inv : MS → MS → Prop} {SX SM : MS} {f : Nat → Int64} {H : Heap} {locs : List Loc} {ls : Array Slot} {qX : (Int32 × MS)} {qM : (Int32 × MS)} (C : mC p s m #[Value.ref b] meth c code RL 7 ret) (hX : va_X b L xs s s.heap) (hbl : b < s.heap.size) (ht : t ≤ 512) (hin : ∀ j : Nat, j < 6 → vp_in (nI i + nI j) L) (hL : mL G aX aM o SX SM f s H locs) (hl : lv_has ls 7 [(0, .ref b), (1, .ref (ad (Lq aX 99) 0)), (2, .ref (ad (Lq aM 48) 0)), (3, .ref o), (4, .int (nI i))]) (hfX : fX10_ahead 0 (xs ((nI i) + (1 : Int32)).toNatClampNeg) (xs ((nI i) + (2 : Int32)).toNatClampNeg) SX = some qX) (hfM : fX11_ahead 0 (xs ((nI i) + (1 : Int32)).toNatClampNeg) (xs ((nI i) + (2 : Int32)).toNatClampNeg) SM = some qM) (heq : qX.1 = qM.1) (hInv : Inv qX.2 qM.2) (ih : ∀ (SX SM : MS) (f : Nat → Int64) (H : Heap) (locs : List Loc) (ls : Array Slot), Inv SX SM → mL G aX aM o SX SM f s H locs → lv_has ls 7 [(0, .ref b), (1, .ref (ad (Lq aX 99) 0)), (2, .ref (ad (Lq aM 48) 0)), (3, .ref o), (4, .int (nI i))] → W p l e room_1 s m #[Value.ref b] below meth c H locs (300 + 10 * t) (200000 + 100 * t) Q (F0 m 1378 ls [])) : W p l e room_1 s m #[Value.ref b] below meth c H locs (300 + 10 * t) (200000 + 100 * t) Q (F0 m 718 ls []) := by
  refine lv_aload_n C.1 C.2.1 dL_law_718 rfl (lv_at hl 1 rfl) ?_
  refine lv_aload_n C.1 C.2.1 dL_law_719 rfl (lv_at hl 0 rfl) ?_
  refine lv_iload C.1 C.2.1 dL_law_720 (lv_at hl 4 rfl) ?_
  refine lv_iconst C.1 C.2.1 dL_law_722 ic_1 ?_
  refine lv_iadd C.1 C.2.1 dL_law_723 ?_
  refine va_sld C.1 C.2.1 hX hbl (Nat.not_le.mpr hbl) hL.1.2.2.2.1 (hin 1 (by decide)) dL_law_724 ?_
  refine lv_aload_n C.1 C.2.1 dL_law_725 rfl (lv_at hl 0 rfl) ?_
  refine lv_iload C.1 C.2.1 dL_law_726 (lv_at hl 4 rfl) ?_
  refine lv_iconst C.1 C.2.1 dL_law_728 ic_2 ?_
  refine lv_iadd C.1 C.2.1 dL_law_729 ?_
  refine va_sld C.1 C.2.1 hX hbl (Nat.not_le.mpr hbl) hL.1.2.2.2.1 (hin 2 (by decide)) dL_law_730 ?_
  refine l_callX (As := [.int (xs ((nI i) + (1 : Int32)).toNatClampNeg), .int (xs ((nI i) + (2 : Int32)).toNatClampNeg)]) (rest := []) C hL (cX10_ahead_ok (by decide) hfX) mlL_88 rfl hl.1 rfl (Nat.le_of_ble_eq_true rfl) (Nat.le_of_ble_eq_true rfl) (Nat.le_of_ble_eq_true rfl) (by show 300 + 10 * t ≤ 601024; omega) (by show 200000 + 100 * t ≤ 7293034; omega) dL_law_731 (fun H locs hL => ?_)
  refine lv_aload_n C.1 C.2.1 dL_law_734 rfl (lv_at hl 2 rfl) ?_
  refine lv_aload_n C.1 C.2.1 dL_law_735 rfl (lv_at hl 0 rfl) ?_
  refine lv_iload C.1 C.2.1 dL_law_736 (lv_at hl 4 rfl) ?_
  refine lv_iconst C.1 C.2.1 dL_law_738 ic_1 ?_
  refine lv_iadd C.1 C.2.1 dL_law_739 ?_
  refine va_sld C.1 C.2.1 hX hbl (Nat.not_le.mpr hbl) hL.1.2.2.2.1 (hin 1 (by decide)) dL_law_740 ?_
  refine lv_aload_n C.1 C.2.1 dL_law_741 rfl (lv_at hl 0 rfl) ?_
  refine lv_iload C.1 C.2.1 dL_law_742 (lv_at hl 4 rfl) ?_
  refine lv_iconst C.1 C.2.1 dL_law_744 ic_2 ?_
  refine lv_iadd C.1 C.2.1 dL_law_745 ?_
  refine va_sld C.1 C.2.1 hX hbl (Nat.not_le.mpr hbl) hL.1.2.2.2.1 (hin 2 (by decide)) dL_law_746 ?_
  refine l_callM (As := [.int (xs ((nI i) + (1 : Int32)).toNatClampNeg), .int (xs ((nI i) + (2 : Int32)).toNatClampNeg)]) (rest := [.int qX.1]) C hL (cX11_ahead_ok (by decide) hfM) mlL_91 rfl hl.1 rfl (Nat.le_of_ble_eq_true rfl) (Nat.le_of_ble_eq_true rfl) (Nat.le_of_ble_eq_true rfl) (by show 300 + 10 * t ≤ 601024; omega) (by show 200000 + 100 * t ≤ 7293034; omega) dL_law_747 (fun H locs hL => ?_)
  refine lv_icmp_eq (tgt := 1378) C.1 C.2.1 dL_law_750 rfl (fun _ => ?_) (fun h => absurd heq h)
  exact ih _ _ _ _ _ _ hInv hL hl
set_option maxRecDepth 100000 in
theorem law_15 {p : Program} {l : Launch} {e : Env} {s : State} {m : MethodId} {below : List Frame} {meth : Method} {c : Code} {Q : State → Prop} {G : Gv} {aX aM o b L i t : Nat} {xs : Nat → Int32} {Inv : MS → MS → Prop} {SX SM : MS} {f : Nat → Int64} {H : Heap} {locs : List Loc} {ls : Array Slot} {qX : (Int32 × MS)} {qM : (Int32 × MS)} (C : mC p s m #[Value.ref b] meth c code RL 7 ret) (hX : va_X b L xs s s.heap) (hbl : b < s.heap.size) (ht : t ≤ 512) (hin : ∀ j : Nat, j < 6 → vp_in (nI i + nI j) L) (hL : mL G aX aM o SX SM f s H locs) (hl : lv_has ls 7 [(0, .ref b), (1, .ref (ad (Lq aX 99) 0)), (2, .ref (ad (Lq aM 48) 0)), (3, .ref o), (4, .int (nI i))]) (hfX : fX10_when 0 (xs ((nI i) + (1 : Int32)).toNatClampNeg) SX = some qX) (hfM : fX11_when 0 (xs ((nI i) + (1 : Int32)).toNatClampNeg) SM = some qM) (heq : qX.1 = qM.1) (hInv : Inv qX.2 qM.2) (ih : ∀ (SX SM : MS) (f : Nat → Int64) (H : Heap) (locs : List Loc) (ls : Array Slot), Inv SX SM → mL G aX aM o SX SM f s H locs → lv_has ls 7 [(0, .ref b), (1, .ref (ad (Lq aX 99) 0)), (2, .ref (ad (Lq aM 48) 0)), (3, .ref o), (4, .int (nI i))] → W p l e room_1 s m #[Value.ref b] below meth c H locs (300 + 10 * t) (200000 + 100 * t) Q (F0 m 1378 ls [])) : W p l e room_1 s m #[Value.ref b] below meth c H locs (300 + 10 * t) (200000 + 100 * t) Q (F0 m 755 ls []) := by
  refine lv_aload_n C.1 C.2.1 dL_law_755 rfl (lv_at hl 1 rfl) ?_
  refine lv_aload_n C.1 C.2.1 dL_law_756 rfl (lv_at hl 0 rfl) ?_
  refine lv_iload C.1 C.2.1 dL_law_757 (lv_at hl 4 rfl) ?_
  refine lv_iconst C.1 C.2.1 dL_law_759 ic_1 ?_
  refine lv_iadd C.1 C.2.1 dL_law_760 ?_
  refine va_sld C.1 C.2.1 hX hbl (Nat.not_le.mpr hbl) hL.1.2.2.2.1 (hin 1 (by decide)) dL_law_761 ?_
  refine l_callX (As := [.int (xs ((nI i) + (1 : Int32)).toNatClampNeg)]) (rest := []) C hL (cX10_when_ok (by decide) hfX) mlL_92 rfl hl.1 rfl (Nat.le_of_ble_eq_true rfl) (Nat.le_of_ble_eq_true rfl) (Nat.le_of_ble_eq_true rfl) (by show 300 + 10 * t ≤ 601024; omega) (by show 200000 + 100 * t ≤ 7293034; omega) dL_law_762 (fun H locs hL => ?_)
  refine lv_aload_n C.1 C.2.1 dL_law_765 rfl (lv_at hl 2 rfl) ?_
  refine lv_aload_n C.1 C.2.1 dL_law_766 rfl (lv_at hl 0 rfl) ?_
  refine lv_iload C.1 C.2.1 dL_law_767 (lv_at hl 4 rfl) ?_
  refine lv_iconst C.1 C.2.1 dL_law_769 ic_1 ?_
  refine lv_iadd C.1 C.2.1 dL_law_770 ?_
  refine va_sld C.1 C.2.1 hX hbl (Nat.not_le.mpr hbl) hL.1.2.2.2.1 (hin 1 (by decide)) dL_law_771 ?_
  refine l_callM (As := [.int (xs ((nI i) + (1 : Int32)).toNatClampNeg)]) (rest := [.int qX.1]) C hL (cX11_when_ok (by decide) hfM) mlL_95 rfl hl.1 rfl (Nat.le_of_ble_eq_true rfl) (Nat.le_of_ble_eq_true rfl) (Nat.le_of_ble_eq_true rfl) (by show 300 + 10 * t ≤ 601024; omega) (by show 200000 + 100 * t ≤ 7293034; omega) dL_law_772 (fun H locs hL => ?_)
  refine lv_icmp_eq (tgt := 1378) C.1 C.2.1 dL_law_775 rfl (fun _ => ?_) (fun h => absurd heq h)
  exact ih _ _ _ _ _ _ hInv hL hl
set_option maxRecDepth 100000 in
theorem law_16 {p : Program} {l : Launch} {e : Env} {s : State} {m : MethodId} {below : List Frame} {meth : Method} {c : Code} {Q : State → Prop} {G : Gv} {aX aM o b L i t : Nat} {xs : Nat → Int32} {Inv : MS → MS → Prop} {SX SM : MS} {f : Nat → Int64} {H : Heap} {locs : List Loc} {ls : Array Slot} {qX : (Int32 × MS)} {qM : (Int32 × MS)} (C : mC p s m #[Value.ref b] meth c code RL 7 ret) (hX : va_X b L xs s s.heap) (hbl : b < s.heap.size) (ht : t ≤ 512) (hin : ∀ j : Nat, j < 6 → vp_in (nI i + nI j) L) (hL : mL G aX aM o SX SM f s H locs) (hl : lv_has ls 7 [(0, .ref b), (1, .ref (ad (Lq aX 99) 0)), (2, .ref (ad (Lq aM 48) 0)), (3, .ref o), (4, .int (nI i))]) (hfX : fX10_way 0 (xs ((nI i) + (1 : Int32)).toNatClampNeg) (xs ((nI i) + (2 : Int32)).toNatClampNeg) SX = some qX) (hfM : fX11_way 0 (xs ((nI i) + (1 : Int32)).toNatClampNeg) (xs ((nI i) + (2 : Int32)).toNatClampNeg) SM = some qM) (heq : qX.1 = qM.1) (hInv : Inv qX.2 qM.2) (ih : ∀ (SX SM : MS) (f : Nat → Int64) (H : Heap) (locs : List Loc) (ls : Array Slot), Inv SX SM → mL G aX aM o SX SM f s H locs → lv_has ls 7 [(0, .ref b), (1, .ref (ad (Lq aX 99) 0)), (2, .ref (ad (Lq aM 48) 0)), (3, .ref o), (4, .int (nI i))] → W p l e room_1 s m #[Value.ref b] below meth c H locs (300 + 10 * t) (200000 + 100 * t) Q (F0 m 1378 ls [])) : W p l e room_1 s m #[Value.ref b] below meth c H locs (300 + 10 * t) (200000 + 100 * t) Q (F0 m 780 ls []) := by
  refine lv_aload_n C.1 C.2.1 dL_law_780 rfl (lv_at hl 1 rfl) ?_
  refine lv_aload_n C.1 C.2.1 dL_law_781 rfl (lv_at hl 0 rfl) ?_
  refine lv_iload C.1 C.2.1 dL_law_782 (lv_at hl 4 rfl) ?_
  refine lv_iconst C.1 C.2.1 dL_law_784 ic_1 ?_
  refine lv_iadd C.1 C.2.1 dL_law_785 ?_
  refine va_sld C.1 C.2.1 hX hbl (Nat.not_le.mpr hbl) hL.1.2.2.2.1 (hin 1 (by decide)) dL_law_786 ?_
  refine lv_aload_n C.1 C.2.1 dL_law_787 rfl (lv_at hl 0 rfl) ?_
  refine lv_iload C.1 C.2.1 dL_law_788 (lv_at hl 4 rfl) ?_
  refine lv_iconst C.1 C.2.1 dL_law_790 ic_2 ?_
  refine lv_iadd C.1 C.2.1 dL_law_791 ?_
  refine va_sld C.1 C.2.1 hX hbl (Nat.not_le.mpr hbl) hL.1.2.2.2.1 (hin 2 (by decide)) dL_law_792 ?_
  refine l_callX (As := [.int (xs ((nI i) + (1 : Int32)).toNatClampNeg), .int (xs ((nI i) + (2 : Int32)).toNatClampNeg)]) (rest := []) C hL (cX10_way_ok (by decide) hfX) mlL_96 rfl hl.1 rfl (Nat.le_of_ble_eq_true rfl) (Nat.le_of_ble_eq_true rfl) (Nat.le_of_ble_eq_true rfl) (by show 300 + 10 * t ≤ 601024; omega) (by show 200000 + 100 * t ≤ 7293034; omega) dL_law_793 (fun H locs hL => ?_)
  refine lv_aload_n C.1 C.2.1 dL_law_796 rfl (lv_at hl 2 rfl) ?_
  refine lv_aload_n C.1 C.2.1 dL_law_797 rfl (lv_at hl 0 rfl) ?_
  refine lv_iload C.1 C.2.1 dL_law_798 (lv_at hl 4 rfl) ?_
  refine lv_iconst C.1 C.2.1 dL_law_800 ic_1 ?_
  refine lv_iadd C.1 C.2.1 dL_law_801 ?_
  refine va_sld C.1 C.2.1 hX hbl (Nat.not_le.mpr hbl) hL.1.2.2.2.1 (hin 1 (by decide)) dL_law_802 ?_
  refine lv_aload_n C.1 C.2.1 dL_law_803 rfl (lv_at hl 0 rfl) ?_
  refine lv_iload C.1 C.2.1 dL_law_804 (lv_at hl 4 rfl) ?_
  refine lv_iconst C.1 C.2.1 dL_law_806 ic_2 ?_
  refine lv_iadd C.1 C.2.1 dL_law_807 ?_
  refine va_sld C.1 C.2.1 hX hbl (Nat.not_le.mpr hbl) hL.1.2.2.2.1 (hin 2 (by decide)) dL_law_808 ?_
  refine l_callM (As := [.int (xs ((nI i) + (1 : Int32)).toNatClampNeg), .int (xs ((nI i) + (2 : Int32)).toNatClampNeg)]) (rest := [.int qX.1]) C hL (cX11_way_ok (by decide) hfM) mlL_99 rfl hl.1 rfl (Nat.le_of_ble_eq_true rfl) (Nat.le_of_ble_eq_true rfl) (Nat.le_of_ble_eq_true rfl) (by show 300 + 10 * t ≤ 601024; omega) (by show 200000 + 100 * t ≤ 7293034; omega) dL_law_809 (fun H locs hL => ?_)
  refine lv_icmp_eq (tgt := 1378) C.1 C.2.1 dL_law_812 rfl (fun _ => ?_) (fun h => absurd heq h)
  exact ih _ _ _ _ _ _ hInv hL hl
set_option maxRecDepth 100000 in
theorem law_17 {p : Program} {l : Launch} {e : Env} {s : State} {m : MethodId} {below : List Frame} {meth : Method} {c : Code} {Q : State → Prop} {G : Gv} {aX aM o b L i t : Nat} {xs : Nat → Int32} {Inv : MS → MS → Prop} {SX SM : MS} {f : Nat → Int64} {H : Heap} {locs : List Loc} {ls : Array Slot} {qX : (Int32 × MS)} {qM : (Int32 × MS)} (C : mC p s m #[Value.ref b] meth c code RL 7 ret) (hX : va_X b L xs s s.heap) (hbl : b < s.heap.size) (ht : t ≤ 512) (hin : ∀ j : Nat, j < 6 → vp_in (nI i + nI j) L) (hL : mL G aX aM o SX SM f s H locs) (hl : lv_has ls 7 [(0, .ref b), (1, .ref (ad (Lq aX 99) 0)), (2, .ref (ad (Lq aM 48) 0)), (3, .ref o), (4, .int (nI i))]) (hfX : fX10_cast 0 (xs ((nI i) + (1 : Int32)).toNatClampNeg) (xs ((nI i) + (2 : Int32)).toNatClampNeg) (xs ((nI i) + (3 : Int32)).toNatClampNeg) SX = some qX) (hfM : fX11_cast 0 (xs ((nI i) + (1 : Int32)).toNatClampNeg) (xs ((nI i) + (2 : Int32)).toNatClampNeg) (xs ((nI i) + (3 : Int32)).toNatClampNeg) SM = some qM) (heq : qX.1 = qM.1) (hInv : Inv qX.2 qM.2) (ih : ∀ (SX SM : MS) (f : Nat → Int64) (H : Heap) (locs : List Loc) (ls : Array Slot), Inv SX SM → mL G aX aM o SX SM f s H locs → lv_has ls 7 [(0, .ref b), (1, .ref (ad (Lq aX 99) 0)), (2, .ref (ad (Lq aM 48) 0)), (3, .ref o), (4, .int (nI i))] → W p l e room_1 s m #[Value.ref b] below meth c H locs (300 + 10 * t) (200000 + 100 * t) Q (F0 m 1378 ls [])) : W p l e room_1 s m #[Value.ref b] below meth c H locs (300 + 10 * t) (200000 + 100 * t) Q (F0 m 817 ls []) := by
  refine lv_aload_n C.1 C.2.1 dL_law_817 rfl (lv_at hl 1 rfl) ?_
  refine lv_aload_n C.1 C.2.1 dL_law_818 rfl (lv_at hl 0 rfl) ?_
  refine lv_iload C.1 C.2.1 dL_law_819 (lv_at hl 4 rfl) ?_
  refine lv_iconst C.1 C.2.1 dL_law_821 ic_1 ?_
  refine lv_iadd C.1 C.2.1 dL_law_822 ?_
  refine va_sld C.1 C.2.1 hX hbl (Nat.not_le.mpr hbl) hL.1.2.2.2.1 (hin 1 (by decide)) dL_law_823 ?_
  refine lv_aload_n C.1 C.2.1 dL_law_824 rfl (lv_at hl 0 rfl) ?_
  refine lv_iload C.1 C.2.1 dL_law_825 (lv_at hl 4 rfl) ?_
  refine lv_iconst C.1 C.2.1 dL_law_827 ic_2 ?_
  refine lv_iadd C.1 C.2.1 dL_law_828 ?_
  refine va_sld C.1 C.2.1 hX hbl (Nat.not_le.mpr hbl) hL.1.2.2.2.1 (hin 2 (by decide)) dL_law_829 ?_
  refine lv_aload_n C.1 C.2.1 dL_law_830 rfl (lv_at hl 0 rfl) ?_
  refine lv_iload C.1 C.2.1 dL_law_831 (lv_at hl 4 rfl) ?_
  refine lv_iconst C.1 C.2.1 dL_law_833 ic_3 ?_
  refine lv_iadd C.1 C.2.1 dL_law_834 ?_
  refine va_sld C.1 C.2.1 hX hbl (Nat.not_le.mpr hbl) hL.1.2.2.2.1 (hin 3 (by decide)) dL_law_835 ?_
  refine l_callX (As := [.int (xs ((nI i) + (1 : Int32)).toNatClampNeg), .int (xs ((nI i) + (2 : Int32)).toNatClampNeg), .int (xs ((nI i) + (3 : Int32)).toNatClampNeg)]) (rest := []) C hL (cX10_cast_ok (by decide) hfX) mlL_100 rfl hl.1 rfl (Nat.le_of_ble_eq_true rfl) (Nat.le_of_ble_eq_true rfl) (Nat.le_of_ble_eq_true rfl) (by show 300 + 10 * t ≤ 601024; omega) (by show 200000 + 100 * t ≤ 7293034; omega) dL_law_836 (fun H locs hL => ?_)
  refine lv_aload_n C.1 C.2.1 dL_law_839 rfl (lv_at hl 2 rfl) ?_
  refine lv_aload_n C.1 C.2.1 dL_law_840 rfl (lv_at hl 0 rfl) ?_
  refine lv_iload C.1 C.2.1 dL_law_841 (lv_at hl 4 rfl) ?_
  refine lv_iconst C.1 C.2.1 dL_law_843 ic_1 ?_
  refine lv_iadd C.1 C.2.1 dL_law_844 ?_
  refine va_sld C.1 C.2.1 hX hbl (Nat.not_le.mpr hbl) hL.1.2.2.2.1 (hin 1 (by decide)) dL_law_845 ?_
  refine lv_aload_n C.1 C.2.1 dL_law_846 rfl (lv_at hl 0 rfl) ?_
  refine lv_iload C.1 C.2.1 dL_law_847 (lv_at hl 4 rfl) ?_
  refine lv_iconst C.1 C.2.1 dL_law_849 ic_2 ?_
  refine lv_iadd C.1 C.2.1 dL_law_850 ?_
  refine va_sld C.1 C.2.1 hX hbl (Nat.not_le.mpr hbl) hL.1.2.2.2.1 (hin 2 (by decide)) dL_law_851 ?_
  refine lv_aload_n C.1 C.2.1 dL_law_852 rfl (lv_at hl 0 rfl) ?_
  refine lv_iload C.1 C.2.1 dL_law_853 (lv_at hl 4 rfl) ?_
  refine lv_iconst C.1 C.2.1 dL_law_855 ic_3 ?_
  refine lv_iadd C.1 C.2.1 dL_law_856 ?_
  refine va_sld C.1 C.2.1 hX hbl (Nat.not_le.mpr hbl) hL.1.2.2.2.1 (hin 3 (by decide)) dL_law_857 ?_
  refine l_callM (As := [.int (xs ((nI i) + (1 : Int32)).toNatClampNeg), .int (xs ((nI i) + (2 : Int32)).toNatClampNeg), .int (xs ((nI i) + (3 : Int32)).toNatClampNeg)]) (rest := [.int qX.1]) C hL (cX11_cast_ok (by decide) hfM) mlL_104 rfl hl.1 rfl (Nat.le_of_ble_eq_true rfl) (Nat.le_of_ble_eq_true rfl) (Nat.le_of_ble_eq_true rfl) (by show 300 + 10 * t ≤ 601024; omega) (by show 200000 + 100 * t ≤ 7293034; omega) dL_law_858 (fun H locs hL => ?_)
  refine lv_icmp_eq (tgt := 1378) C.1 C.2.1 dL_law_861 rfl (fun _ => ?_) (fun h => absurd heq h)
  exact ih _ _ _ _ _ _ hInv hL hl
set_option maxRecDepth 100000 in
theorem law_18 {p : Program} {l : Launch} {e : Env} {s : State} {m : MethodId} {below : List Frame} {meth : Method} {c : Code} {Q : State → Prop} {G : Gv} {aX aM o b L i t : Nat} {xs : Nat → Int32} {Inv : MS → MS → Prop} {SX SM : MS} {f : Nat → Int64} {H : Heap} {locs : List Loc} {ls : Array Slot} {qX : (Int32 × MS)} {qM : (Int32 × MS)} (C : mC p s m #[Value.ref b] meth c code RL 7 ret) (hX : va_X b L xs s s.heap) (hbl : b < s.heap.size) (ht : t ≤ 512) (hin : ∀ j : Nat, j < 6 → vp_in (nI i + nI j) L) (hL : mL G aX aM o SX SM f s H locs) (hl : lv_has ls 7 [(0, .ref b), (1, .ref (ad (Lq aX 99) 0)), (2, .ref (ad (Lq aM 48) 0)), (3, .ref o), (4, .int (nI i))]) (hfX : fX10_lampsFor 0 (xs ((nI i) + (1 : Int32)).toNatClampNeg) (xs ((nI i) + (2 : Int32)).toNatClampNeg) SX = some qX) (hfM : fX11_lampsFor 0 (xs ((nI i) + (1 : Int32)).toNatClampNeg) (xs ((nI i) + (2 : Int32)).toNatClampNeg) SM = some qM) (heq : qX.1 = qM.1) (hInv : Inv qX.2 qM.2) (ih : ∀ (SX SM : MS) (f : Nat → Int64) (H : Heap) (locs : List Loc) (ls : Array Slot), Inv SX SM → mL G aX aM o SX SM f s H locs → lv_has ls 7 [(0, .ref b), (1, .ref (ad (Lq aX 99) 0)), (2, .ref (ad (Lq aM 48) 0)), (3, .ref o), (4, .int (nI i))] → W p l e room_1 s m #[Value.ref b] below meth c H locs (300 + 10 * t) (200000 + 100 * t) Q (F0 m 1378 ls [])) : W p l e room_1 s m #[Value.ref b] below meth c H locs (300 + 10 * t) (200000 + 100 * t) Q (F0 m 866 ls []) := by
  refine lv_aload_n C.1 C.2.1 dL_law_866 rfl (lv_at hl 1 rfl) ?_
  refine lv_aload_n C.1 C.2.1 dL_law_867 rfl (lv_at hl 0 rfl) ?_
  refine lv_iload C.1 C.2.1 dL_law_868 (lv_at hl 4 rfl) ?_
  refine lv_iconst C.1 C.2.1 dL_law_870 ic_1 ?_
  refine lv_iadd C.1 C.2.1 dL_law_871 ?_
  refine va_sld C.1 C.2.1 hX hbl (Nat.not_le.mpr hbl) hL.1.2.2.2.1 (hin 1 (by decide)) dL_law_872 ?_
  refine lv_aload_n C.1 C.2.1 dL_law_873 rfl (lv_at hl 0 rfl) ?_
  refine lv_iload C.1 C.2.1 dL_law_874 (lv_at hl 4 rfl) ?_
  refine lv_iconst C.1 C.2.1 dL_law_876 ic_2 ?_
  refine lv_iadd C.1 C.2.1 dL_law_877 ?_
  refine va_sld C.1 C.2.1 hX hbl (Nat.not_le.mpr hbl) hL.1.2.2.2.1 (hin 2 (by decide)) dL_law_878 ?_
  refine l_callX (As := [.int (xs ((nI i) + (1 : Int32)).toNatClampNeg), .int (xs ((nI i) + (2 : Int32)).toNatClampNeg)]) (rest := []) C hL (cX10_lampsFor_ok (by decide) hfX) mlL_105 rfl hl.1 rfl (Nat.le_of_ble_eq_true rfl) (Nat.le_of_ble_eq_true rfl) (Nat.le_of_ble_eq_true rfl) (by show 300 + 10 * t ≤ 601024; omega) (by show 200000 + 100 * t ≤ 7293034; omega) dL_law_879 (fun H locs hL => ?_)
  refine lv_aload_n C.1 C.2.1 dL_law_882 rfl (lv_at hl 2 rfl) ?_
  refine lv_aload_n C.1 C.2.1 dL_law_883 rfl (lv_at hl 0 rfl) ?_
  refine lv_iload C.1 C.2.1 dL_law_884 (lv_at hl 4 rfl) ?_
  refine lv_iconst C.1 C.2.1 dL_law_886 ic_1 ?_
  refine lv_iadd C.1 C.2.1 dL_law_887 ?_
  refine va_sld C.1 C.2.1 hX hbl (Nat.not_le.mpr hbl) hL.1.2.2.2.1 (hin 1 (by decide)) dL_law_888 ?_
  refine lv_aload_n C.1 C.2.1 dL_law_889 rfl (lv_at hl 0 rfl) ?_
  refine lv_iload C.1 C.2.1 dL_law_890 (lv_at hl 4 rfl) ?_
  refine lv_iconst C.1 C.2.1 dL_law_892 ic_2 ?_
  refine lv_iadd C.1 C.2.1 dL_law_893 ?_
  refine va_sld C.1 C.2.1 hX hbl (Nat.not_le.mpr hbl) hL.1.2.2.2.1 (hin 2 (by decide)) dL_law_894 ?_
  refine l_callM (As := [.int (xs ((nI i) + (1 : Int32)).toNatClampNeg), .int (xs ((nI i) + (2 : Int32)).toNatClampNeg)]) (rest := [.int qX.1]) C hL (cX11_lampsFor_ok (by decide) hfM) mlL_108 rfl hl.1 rfl (Nat.le_of_ble_eq_true rfl) (Nat.le_of_ble_eq_true rfl) (Nat.le_of_ble_eq_true rfl) (by show 300 + 10 * t ≤ 601024; omega) (by show 200000 + 100 * t ≤ 7293034; omega) dL_law_895 (fun H locs hL => ?_)
  refine lv_icmp_eq (tgt := 1378) C.1 C.2.1 dL_law_898 rfl (fun _ => ?_) (fun h => absurd heq h)
  exact ih _ _ _ _ _ _ hInv hL hl
set_option maxRecDepth 100000 in
theorem law_19 {p : Program} {l : Launch} {e : Env} {s : State} {m : MethodId} {below : List Frame} {meth : Method} {c : Code} {Q : State → Prop} {G : Gv} {aX aM o b L i t : Nat} {xs : Nat → Int32} {Inv : MS → MS → Prop} {SX SM : MS} {f : Nat → Int64} {H : Heap} {locs : List Loc} {ls : Array Slot} {qX : (Int32 × MS)} {qM : (Int32 × MS)} (C : mC p s m #[Value.ref b] meth c code RL 7 ret) (hX : va_X b L xs s s.heap) (hbl : b < s.heap.size) (ht : t ≤ 512) (hin : ∀ j : Nat, j < 6 → vp_in (nI i + nI j) L) (hL : mL G aX aM o SX SM f s H locs) (hl : lv_has ls 7 [(0, .ref b), (1, .ref (ad (Lq aX 99) 0)), (2, .ref (ad (Lq aM 48) 0)), (3, .ref o), (4, .int (nI i))]) (hfX : fX10_plan 0 (xs ((nI i) + (1 : Int32)).toNatClampNeg) SX = some qX) (hfM : fX11_plan 0 (xs ((nI i) + (1 : Int32)).toNatClampNeg) SM = some qM) (heq : qX.1 = qM.1) (hInv : Inv qX.2 qM.2) (ih : ∀ (SX SM : MS) (f : Nat → Int64) (H : Heap) (locs : List Loc) (ls : Array Slot), Inv SX SM → mL G aX aM o SX SM f s H locs → lv_has ls 7 [(0, .ref b), (1, .ref (ad (Lq aX 99) 0)), (2, .ref (ad (Lq aM 48) 0)), (3, .ref o), (4, .int (nI i))] → W p l e room_1 s m #[Value.ref b] below meth c H locs (300 + 10 * t) (200000 + 100 * t) Q (F0 m 1378 ls [])) : W p l e room_1 s m #[Value.ref b] below meth c H locs (300 + 10 * t) (200000 + 100 * t) Q (F0 m 903 ls []) := by
  refine lv_aload_n C.1 C.2.1 dL_law_903 rfl (lv_at hl 1 rfl) ?_
  refine lv_aload_n C.1 C.2.1 dL_law_904 rfl (lv_at hl 0 rfl) ?_
  refine lv_iload C.1 C.2.1 dL_law_905 (lv_at hl 4 rfl) ?_
  refine lv_iconst C.1 C.2.1 dL_law_907 ic_1 ?_
  refine lv_iadd C.1 C.2.1 dL_law_908 ?_
  refine va_sld C.1 C.2.1 hX hbl (Nat.not_le.mpr hbl) hL.1.2.2.2.1 (hin 1 (by decide)) dL_law_909 ?_
  refine l_callX (As := [.int (xs ((nI i) + (1 : Int32)).toNatClampNeg)]) (rest := []) C hL (cX10_plan_ok (by decide) hfX) mlL_109 rfl hl.1 rfl (Nat.le_of_ble_eq_true rfl) (Nat.le_of_ble_eq_true rfl) (Nat.le_of_ble_eq_true rfl) (by show 300 + 10 * t ≤ 601024; omega) (by show 200000 + 100 * t ≤ 7293034; omega) dL_law_910 (fun H locs hL => ?_)
  refine lv_aload_n C.1 C.2.1 dL_law_913 rfl (lv_at hl 2 rfl) ?_
  refine lv_aload_n C.1 C.2.1 dL_law_914 rfl (lv_at hl 0 rfl) ?_
  refine lv_iload C.1 C.2.1 dL_law_915 (lv_at hl 4 rfl) ?_
  refine lv_iconst C.1 C.2.1 dL_law_917 ic_1 ?_
  refine lv_iadd C.1 C.2.1 dL_law_918 ?_
  refine va_sld C.1 C.2.1 hX hbl (Nat.not_le.mpr hbl) hL.1.2.2.2.1 (hin 1 (by decide)) dL_law_919 ?_
  refine l_callM (As := [.int (xs ((nI i) + (1 : Int32)).toNatClampNeg)]) (rest := [.int qX.1]) C hL (cX11_plan_ok (by decide) hfM) mlL_112 rfl hl.1 rfl (Nat.le_of_ble_eq_true rfl) (Nat.le_of_ble_eq_true rfl) (Nat.le_of_ble_eq_true rfl) (by show 300 + 10 * t ≤ 601024; omega) (by show 200000 + 100 * t ≤ 7293034; omega) dL_law_920 (fun H locs hL => ?_)
  refine lv_icmp_eq (tgt := 1378) C.1 C.2.1 dL_law_923 rfl (fun _ => ?_) (fun h => absurd heq h)
  exact ih _ _ _ _ _ _ hInv hL hl
set_option maxRecDepth 100000 in
theorem law_20 {p : Program} {l : Launch} {e : Env} {s : State} {m : MethodId} {below : List Frame} {meth : Method} {c : Code} {Q : State → Prop} {G : Gv} {aX aM o b L i t : Nat} {xs : Nat → Int32} {Inv : MS → MS → Prop} {SX SM : MS} {f : Nat → Int64} {H : Heap} {locs : List Loc} {ls : Array Slot} {qX : Int32} {qM : (Int32 × MS)} (C : mC p s m #[Value.ref b] meth c code RL 7 ret) (hX : va_X b L xs s s.heap) (hbl : b < s.heap.size) (ht : t ≤ 512) (hin : ∀ j : Nat, j < 6 → vp_in (nI i + nI j) L) (hL : mL G aX aM o SX SM f s H locs) (hl : lv_has ls 7 [(0, .ref b), (1, .ref (ad (Lq aX 99) 0)), (2, .ref (ad (Lq aM 48) 0)), (3, .ref o), (4, .int (nI i))]) (hfX : fX10_rests 0 (xs ((nI i) + (1 : Int32)).toNatClampNeg) (xs ((nI i) + (2 : Int32)).toNatClampNeg) SX = some qX) (hfM : fX11_rests 0 (xs ((nI i) + (1 : Int32)).toNatClampNeg) (xs ((nI i) + (2 : Int32)).toNatClampNeg) SM = some qM) (heq : qX = qM.1) (hInv : Inv SX qM.2) (ih : ∀ (SX SM : MS) (f : Nat → Int64) (H : Heap) (locs : List Loc) (ls : Array Slot), Inv SX SM → mL G aX aM o SX SM f s H locs → lv_has ls 7 [(0, .ref b), (1, .ref (ad (Lq aX 99) 0)), (2, .ref (ad (Lq aM 48) 0)), (3, .ref o), (4, .int (nI i))] → W p l e room_1 s m #[Value.ref b] below meth c H locs (300 + 10 * t) (200000 + 100 * t) Q (F0 m 1378 ls [])) : W p l e room_1 s m #[Value.ref b] below meth c H locs (300 + 10 * t) (200000 + 100 * t) Q (F0 m 928 ls []) := by
  refine lv_aload_n C.1 C.2.1 dL_law_928 rfl (lv_at hl 1 rfl) ?_
  refine lv_aload_n C.1 C.2.1 dL_law_929 rfl (lv_at hl 0 rfl) ?_
  refine lv_iload C.1 C.2.1 dL_law_930 (lv_at hl 4 rfl) ?_
  refine lv_iconst C.1 C.2.1 dL_law_932 ic_1 ?_
  refine lv_iadd C.1 C.2.1 dL_law_933 ?_
  refine va_sld C.1 C.2.1 hX hbl (Nat.not_le.mpr hbl) hL.1.2.2.2.1 (hin 1 (by decide)) dL_law_934 ?_
  refine lv_aload_n C.1 C.2.1 dL_law_935 rfl (lv_at hl 0 rfl) ?_
  refine lv_iload C.1 C.2.1 dL_law_936 (lv_at hl 4 rfl) ?_
  refine lv_iconst C.1 C.2.1 dL_law_938 ic_2 ?_
  refine lv_iadd C.1 C.2.1 dL_law_939 ?_
  refine va_sld C.1 C.2.1 hX hbl (Nat.not_le.mpr hbl) hL.1.2.2.2.1 (hin 2 (by decide)) dL_law_940 ?_
  refine l_callX (As := [.int (xs ((nI i) + (1 : Int32)).toNatClampNeg), .int (xs ((nI i) + (2 : Int32)).toNatClampNeg)]) (rest := []) C hL (cX10_rests_ok (by decide) hfX) mlL_113 rfl hl.1 rfl (Nat.le_of_ble_eq_true rfl) (Nat.le_of_ble_eq_true rfl) (Nat.le_of_ble_eq_true rfl) (by show 300 + 10 * t ≤ 601024; omega) (by show 200000 + 100 * t ≤ 7293034; omega) dL_law_941 (fun H locs hL => ?_)
  refine lv_aload_n C.1 C.2.1 dL_law_944 rfl (lv_at hl 2 rfl) ?_
  refine lv_aload_n C.1 C.2.1 dL_law_945 rfl (lv_at hl 0 rfl) ?_
  refine lv_iload C.1 C.2.1 dL_law_946 (lv_at hl 4 rfl) ?_
  refine lv_iconst C.1 C.2.1 dL_law_948 ic_1 ?_
  refine lv_iadd C.1 C.2.1 dL_law_949 ?_
  refine va_sld C.1 C.2.1 hX hbl (Nat.not_le.mpr hbl) hL.1.2.2.2.1 (hin 1 (by decide)) dL_law_950 ?_
  refine lv_aload_n C.1 C.2.1 dL_law_951 rfl (lv_at hl 0 rfl) ?_
  refine lv_iload C.1 C.2.1 dL_law_952 (lv_at hl 4 rfl) ?_
  refine lv_iconst C.1 C.2.1 dL_law_954 ic_2 ?_
  refine lv_iadd C.1 C.2.1 dL_law_955 ?_
  refine va_sld C.1 C.2.1 hX hbl (Nat.not_le.mpr hbl) hL.1.2.2.2.1 (hin 2 (by decide)) dL_law_956 ?_
  refine l_callM (As := [.int (xs ((nI i) + (1 : Int32)).toNatClampNeg), .int (xs ((nI i) + (2 : Int32)).toNatClampNeg)]) (rest := [.int qX]) C hL (cX11_rests_ok (by decide) hfM) mlL_116 rfl hl.1 rfl (Nat.le_of_ble_eq_true rfl) (Nat.le_of_ble_eq_true rfl) (Nat.le_of_ble_eq_true rfl) (by show 300 + 10 * t ≤ 601024; omega) (by show 200000 + 100 * t ≤ 7293034; omega) dL_law_957 (fun H locs hL => ?_)
  refine lv_icmp_eq (tgt := 1378) C.1 C.2.1 dL_law_960 rfl (fun _ => ?_) (fun h => absurd heq h)
  exact ih _ _ _ _ _ _ hInv hL hl
set_option maxRecDepth 100000 in
theorem law_21 {p : Program} {l : Launch} {e : Env} {s : State} {m : MethodId} {below : List Frame} {meth : Method} {c : Code} {Q : State → Prop} {G : Gv} {aX aM o b L i t : Nat} {xs : Nat → Int32} {Inv : MS → MS → Prop} {SX SM : MS} {f : Nat → Int64} {H : Heap} {locs : List Loc} {ls : Array Slot} {qX : Int32} {qM : (Int32 × MS)} (C : mC p s m #[Value.ref b] meth c code RL 7 ret) (hX : va_X b L xs s s.heap) (hbl : b < s.heap.size) (ht : t ≤ 512) (hin : ∀ j : Nat, j < 6 → vp_in (nI i + nI j) L) (hL : mL G aX aM o SX SM f s H locs) (hl : lv_has ls 7 [(0, .ref b), (1, .ref (ad (Lq aX 99) 0)), (2, .ref (ad (Lq aM 48) 0)), (3, .ref o), (4, .int (nI i))]) (hfX : fX10_rest 0 (xs ((nI i) + (1 : Int32)).toNatClampNeg) (xs ((nI i) + (2 : Int32)).toNatClampNeg) (xs ((nI i) + (3 : Int32)).toNatClampNeg) SX = some qX) (hfM : fX11_rest 0 (xs ((nI i) + (1 : Int32)).toNatClampNeg) (xs ((nI i) + (2 : Int32)).toNatClampNeg) (xs ((nI i) + (3 : Int32)).toNatClampNeg) SM = some qM) (heq : qX = qM.1) (hInv : Inv SX qM.2) (ih : ∀ (SX SM : MS) (f : Nat → Int64) (H : Heap) (locs : List Loc) (ls : Array Slot), Inv SX SM → mL G aX aM o SX SM f s H locs → lv_has ls 7 [(0, .ref b), (1, .ref (ad (Lq aX 99) 0)), (2, .ref (ad (Lq aM 48) 0)), (3, .ref o), (4, .int (nI i))] → W p l e room_1 s m #[Value.ref b] below meth c H locs (300 + 10 * t) (200000 + 100 * t) Q (F0 m 1378 ls [])) : W p l e room_1 s m #[Value.ref b] below meth c H locs (300 + 10 * t) (200000 + 100 * t) Q (F0 m 965 ls []) := by
  refine lv_aload_n C.1 C.2.1 dL_law_965 rfl (lv_at hl 1 rfl) ?_
  refine lv_aload_n C.1 C.2.1 dL_law_966 rfl (lv_at hl 0 rfl) ?_
  refine lv_iload C.1 C.2.1 dL_law_967 (lv_at hl 4 rfl) ?_
  refine lv_iconst C.1 C.2.1 dL_law_969 ic_1 ?_
  refine lv_iadd C.1 C.2.1 dL_law_970 ?_
  refine va_sld C.1 C.2.1 hX hbl (Nat.not_le.mpr hbl) hL.1.2.2.2.1 (hin 1 (by decide)) dL_law_971 ?_
  refine lv_aload_n C.1 C.2.1 dL_law_972 rfl (lv_at hl 0 rfl) ?_
  refine lv_iload C.1 C.2.1 dL_law_973 (lv_at hl 4 rfl) ?_
  refine lv_iconst C.1 C.2.1 dL_law_975 ic_2 ?_
  refine lv_iadd C.1 C.2.1 dL_law_976 ?_
  refine va_sld C.1 C.2.1 hX hbl (Nat.not_le.mpr hbl) hL.1.2.2.2.1 (hin 2 (by decide)) dL_law_977 ?_
  refine lv_aload_n C.1 C.2.1 dL_law_978 rfl (lv_at hl 0 rfl) ?_
  refine lv_iload C.1 C.2.1 dL_law_979 (lv_at hl 4 rfl) ?_
  refine lv_iconst C.1 C.2.1 dL_law_981 ic_3 ?_
  refine lv_iadd C.1 C.2.1 dL_law_982 ?_
  refine va_sld C.1 C.2.1 hX hbl (Nat.not_le.mpr hbl) hL.1.2.2.2.1 (hin 3 (by decide)) dL_law_983 ?_
  refine l_callX (As := [.int (xs ((nI i) + (1 : Int32)).toNatClampNeg), .int (xs ((nI i) + (2 : Int32)).toNatClampNeg), .int (xs ((nI i) + (3 : Int32)).toNatClampNeg)]) (rest := []) C hL (cX10_rest_ok (by decide) hfX) mlL_117 rfl hl.1 rfl (Nat.le_of_ble_eq_true rfl) (Nat.le_of_ble_eq_true rfl) (Nat.le_of_ble_eq_true rfl) (by show 300 + 10 * t ≤ 601024; omega) (by show 200000 + 100 * t ≤ 7293034; omega) dL_law_984 (fun H locs hL => ?_)
  refine lv_aload_n C.1 C.2.1 dL_law_987 rfl (lv_at hl 2 rfl) ?_
  refine lv_aload_n C.1 C.2.1 dL_law_988 rfl (lv_at hl 0 rfl) ?_
  refine lv_iload C.1 C.2.1 dL_law_989 (lv_at hl 4 rfl) ?_
  refine lv_iconst C.1 C.2.1 dL_law_991 ic_1 ?_
  refine lv_iadd C.1 C.2.1 dL_law_992 ?_
  refine va_sld C.1 C.2.1 hX hbl (Nat.not_le.mpr hbl) hL.1.2.2.2.1 (hin 1 (by decide)) dL_law_993 ?_
  refine lv_aload_n C.1 C.2.1 dL_law_994 rfl (lv_at hl 0 rfl) ?_
  refine lv_iload C.1 C.2.1 dL_law_995 (lv_at hl 4 rfl) ?_
  refine lv_iconst C.1 C.2.1 dL_law_997 ic_2 ?_
  refine lv_iadd C.1 C.2.1 dL_law_998 ?_
  refine va_sld C.1 C.2.1 hX hbl (Nat.not_le.mpr hbl) hL.1.2.2.2.1 (hin 2 (by decide)) dL_law_999 ?_
  refine lv_aload_n C.1 C.2.1 dL_law_1000 rfl (lv_at hl 0 rfl) ?_
  refine lv_iload C.1 C.2.1 dL_law_1001 (lv_at hl 4 rfl) ?_
  refine lv_iconst C.1 C.2.1 dL_law_1003 ic_3 ?_
  refine lv_iadd C.1 C.2.1 dL_law_1004 ?_
  refine va_sld C.1 C.2.1 hX hbl (Nat.not_le.mpr hbl) hL.1.2.2.2.1 (hin 3 (by decide)) dL_law_1005 ?_
  refine l_callM (As := [.int (xs ((nI i) + (1 : Int32)).toNatClampNeg), .int (xs ((nI i) + (2 : Int32)).toNatClampNeg), .int (xs ((nI i) + (3 : Int32)).toNatClampNeg)]) (rest := [.int qX]) C hL (cX11_rest_ok (by decide) hfM) mlL_120 rfl hl.1 rfl (Nat.le_of_ble_eq_true rfl) (Nat.le_of_ble_eq_true rfl) (Nat.le_of_ble_eq_true rfl) (by show 300 + 10 * t ≤ 601024; omega) (by show 200000 + 100 * t ≤ 7293034; omega) dL_law_1006 (fun H locs hL => ?_)
  refine lv_icmp_eq (tgt := 1378) C.1 C.2.1 dL_law_1009 rfl (fun _ => ?_) (fun h => absurd heq h)
  exact ih _ _ _ _ _ _ hInv hL hl
set_option maxRecDepth 100000 in
theorem law_22 {p : Program} {l : Launch} {e : Env} {s : State} {m : MethodId} {below : List Frame} {meth : Method} {c : Code} {Q : State → Prop} {G : Gv} {aX aM o b L i t : Nat} {xs : Nat → Int32} {Inv : MS → MS → Prop} {SX SM : MS} {f : Nat → Int64} {H : Heap} {locs : List Loc} {ls : Array Slot} {qX : Int64} {qM : (Int64 × MS)} (C : mC p s m #[Value.ref b] meth c code RL 7 ret) (hX : va_X b L xs s s.heap) (hbl : b < s.heap.size) (ht : t ≤ 512) (hin : ∀ j : Nat, j < 6 → vp_in (nI i + nI j) L) (hL : mL G aX aM o SX SM f s H locs) (hl : lv_has ls 7 [(0, .ref b), (1, .ref (ad (Lq aX 99) 0)), (2, .ref (ad (Lq aM 48) 0)), (3, .ref o), (4, .int (nI i))]) (hfX : fX10_clear 0 (xs ((nI i) + (1 : Int32)).toNatClampNeg) (xs ((nI i) + (2 : Int32)).toNatClampNeg) SX = some qX) (hfM : fX11_clear 0 (xs ((nI i) + (1 : Int32)).toNatClampNeg) (xs ((nI i) + (2 : Int32)).toNatClampNeg) SM = some qM) (heq : qX = qM.1) (hInv : Inv SX qM.2) (ih : ∀ (SX SM : MS) (f : Nat → Int64) (H : Heap) (locs : List Loc) (ls : Array Slot), Inv SX SM → mL G aX aM o SX SM f s H locs → lv_has ls 7 [(0, .ref b), (1, .ref (ad (Lq aX 99) 0)), (2, .ref (ad (Lq aM 48) 0)), (3, .ref o), (4, .int (nI i))] → W p l e room_1 s m #[Value.ref b] below meth c H locs (300 + 10 * t) (200000 + 100 * t) Q (F0 m 1378 ls [])) : W p l e room_1 s m #[Value.ref b] below meth c H locs (300 + 10 * t) (200000 + 100 * t) Q (F0 m 1014 ls []) := by
  refine lv_aload_n C.1 C.2.1 dL_law_1014 rfl (lv_at hl 1 rfl) ?_
  refine lv_aload_n C.1 C.2.1 dL_law_1015 rfl (lv_at hl 0 rfl) ?_
  refine lv_iload C.1 C.2.1 dL_law_1016 (lv_at hl 4 rfl) ?_
  refine lv_iconst C.1 C.2.1 dL_law_1018 ic_1 ?_
  refine lv_iadd C.1 C.2.1 dL_law_1019 ?_
  refine va_sld C.1 C.2.1 hX hbl (Nat.not_le.mpr hbl) hL.1.2.2.2.1 (hin 1 (by decide)) dL_law_1020 ?_
  refine lv_aload_n C.1 C.2.1 dL_law_1021 rfl (lv_at hl 0 rfl) ?_
  refine lv_iload C.1 C.2.1 dL_law_1022 (lv_at hl 4 rfl) ?_
  refine lv_iconst C.1 C.2.1 dL_law_1024 ic_2 ?_
  refine lv_iadd C.1 C.2.1 dL_law_1025 ?_
  refine va_sld C.1 C.2.1 hX hbl (Nat.not_le.mpr hbl) hL.1.2.2.2.1 (hin 2 (by decide)) dL_law_1026 ?_
  refine l_callX (As := [.int (xs ((nI i) + (1 : Int32)).toNatClampNeg), .int (xs ((nI i) + (2 : Int32)).toNatClampNeg)]) (rest := []) C hL (cX10_clear_ok (by decide) hfX) mlL_121 rfl hl.1 rfl (Nat.le_of_ble_eq_true rfl) (Nat.le_of_ble_eq_true rfl) (Nat.le_of_ble_eq_true rfl) (by show 300 + 10 * t ≤ 601024; omega) (by show 200000 + 100 * t ≤ 7293034; omega) dL_law_1027 (fun H locs hL => ?_)
  refine lv_aload_n C.1 C.2.1 dL_law_1030 rfl (lv_at hl 2 rfl) ?_
  refine lv_aload_n C.1 C.2.1 dL_law_1031 rfl (lv_at hl 0 rfl) ?_
  refine lv_iload C.1 C.2.1 dL_law_1032 (lv_at hl 4 rfl) ?_
  refine lv_iconst C.1 C.2.1 dL_law_1034 ic_1 ?_
  refine lv_iadd C.1 C.2.1 dL_law_1035 ?_
  refine va_sld C.1 C.2.1 hX hbl (Nat.not_le.mpr hbl) hL.1.2.2.2.1 (hin 1 (by decide)) dL_law_1036 ?_
  refine lv_aload_n C.1 C.2.1 dL_law_1037 rfl (lv_at hl 0 rfl) ?_
  refine lv_iload C.1 C.2.1 dL_law_1038 (lv_at hl 4 rfl) ?_
  refine lv_iconst C.1 C.2.1 dL_law_1040 ic_2 ?_
  refine lv_iadd C.1 C.2.1 dL_law_1041 ?_
  refine va_sld C.1 C.2.1 hX hbl (Nat.not_le.mpr hbl) hL.1.2.2.2.1 (hin 2 (by decide)) dL_law_1042 ?_
  refine l_callM (As := [.int (xs ((nI i) + (1 : Int32)).toNatClampNeg), .int (xs ((nI i) + (2 : Int32)).toNatClampNeg)]) (rest := [.long qX]) C hL (cX11_clear_ok (by decide) hfM) mlL_124 rfl hl.1 rfl (Nat.le_of_ble_eq_true rfl) (Nat.le_of_ble_eq_true rfl) (Nat.le_of_ble_eq_true rfl) (by show 300 + 10 * t ≤ 601024; omega) (by show 200000 + 100 * t ≤ 7293034; omega) dL_law_1043 (fun H locs hL => ?_)
  refine W.lcmp C.1 C.2.1 dL_law_1046 ?_
  refine lv_if_eq (tgt := 1378) C.1 C.2.1 dL_law_1047 rfl (fun _ => ?_) (fun h => absurd (by rw [heq]; exact lg_cmp_self _) h)
  exact ih _ _ _ _ _ _ hInv hL hl
set_option maxRecDepth 100000 in
theorem law_23 {p : Program} {l : Launch} {e : Env} {s : State} {m : MethodId} {below : List Frame} {meth : Method} {c : Code} {Q : State → Prop} {G : Gv} {aX aM o b L i t : Nat} {xs : Nat → Int32} {Inv : MS → MS → Prop} {SX SM : MS} {f : Nat → Int64} {H : Heap} {locs : List Loc} {ls : Array Slot} {qX : (Int32 × MS)} {qM : (Int32 × MS)} (C : mC p s m #[Value.ref b] meth c code RL 7 ret) (hX : va_X b L xs s s.heap) (hbl : b < s.heap.size) (ht : t ≤ 512) (hin : ∀ j : Nat, j < 6 → vp_in (nI i + nI j) L) (hL : mL G aX aM o SX SM f s H locs) (hl : lv_has ls 7 [(0, .ref b), (1, .ref (ad (Lq aX 99) 0)), (2, .ref (ad (Lq aM 48) 0)), (3, .ref o), (4, .int (nI i))]) (hfX : fX10_see 0 (xs ((nI i) + (1 : Int32)).toNatClampNeg) (xs ((nI i) + (2 : Int32)).toNatClampNeg) (xs ((nI i) + (3 : Int32)).toNatClampNeg) (xs ((nI i) + (4 : Int32)).toNatClampNeg) (bz (xs ((nI i) + (5 : Int32)).toNatClampNeg)) SX = some qX) (hfM : fX11_see 0 (xs ((nI i) + (1 : Int32)).toNatClampNeg) (xs ((nI i) + (2 : Int32)).toNatClampNeg) (xs ((nI i) + (3 : Int32)).toNatClampNeg) (xs ((nI i) + (4 : Int32)).toNatClampNeg) (bz (xs ((nI i) + (5 : Int32)).toNatClampNeg)) SM = some qM) (heq : qX.1 = qM.1) (hInv : Inv qX.2 qM.2) (ih : ∀ (SX SM : MS) (f : Nat → Int64) (H : Heap) (locs : List Loc) (ls : Array Slot), Inv SX SM → mL G aX aM o SX SM f s H locs → lv_has ls 7 [(0, .ref b), (1, .ref (ad (Lq aX 99) 0)), (2, .ref (ad (Lq aM 48) 0)), (3, .ref o), (4, .int (nI i))] → W p l e room_1 s m #[Value.ref b] below meth c H locs (300 + 10 * t) (200000 + 100 * t) Q (F0 m 1378 ls [])) : W p l e room_1 s m #[Value.ref b] below meth c H locs (300 + 10 * t) (200000 + 100 * t) Q (F0 m 1052 ls []) := by
  refine lv_aload_n C.1 C.2.1 dL_law_1052 rfl (lv_at hl 1 rfl) ?_
  refine lv_aload_n C.1 C.2.1 dL_law_1053 rfl (lv_at hl 0 rfl) ?_
  refine lv_iload C.1 C.2.1 dL_law_1054 (lv_at hl 4 rfl) ?_
  refine lv_iconst C.1 C.2.1 dL_law_1056 ic_1 ?_
  refine lv_iadd C.1 C.2.1 dL_law_1057 ?_
  refine va_sld C.1 C.2.1 hX hbl (Nat.not_le.mpr hbl) hL.1.2.2.2.1 (hin 1 (by decide)) dL_law_1058 ?_
  refine lv_aload_n C.1 C.2.1 dL_law_1059 rfl (lv_at hl 0 rfl) ?_
  refine lv_iload C.1 C.2.1 dL_law_1060 (lv_at hl 4 rfl) ?_
  refine lv_iconst C.1 C.2.1 dL_law_1062 ic_2 ?_
  refine lv_iadd C.1 C.2.1 dL_law_1063 ?_
  refine va_sld C.1 C.2.1 hX hbl (Nat.not_le.mpr hbl) hL.1.2.2.2.1 (hin 2 (by decide)) dL_law_1064 ?_
  refine lv_aload_n C.1 C.2.1 dL_law_1065 rfl (lv_at hl 0 rfl) ?_
  refine lv_iload C.1 C.2.1 dL_law_1066 (lv_at hl 4 rfl) ?_
  refine lv_iconst C.1 C.2.1 dL_law_1068 ic_3 ?_
  refine lv_iadd C.1 C.2.1 dL_law_1069 ?_
  refine va_sld C.1 C.2.1 hX hbl (Nat.not_le.mpr hbl) hL.1.2.2.2.1 (hin 3 (by decide)) dL_law_1070 ?_
  refine lv_aload_n C.1 C.2.1 dL_law_1071 rfl (lv_at hl 0 rfl) ?_
  refine lv_iload C.1 C.2.1 dL_law_1072 (lv_at hl 4 rfl) ?_
  refine lv_iconst C.1 C.2.1 dL_law_1074 ic_4 ?_
  refine lv_iadd C.1 C.2.1 dL_law_1075 ?_
  refine va_sld C.1 C.2.1 hX hbl (Nat.not_le.mpr hbl) hL.1.2.2.2.1 (hin 4 (by decide)) dL_law_1076 ?_
  refine lv_aload_n C.1 C.2.1 dL_law_1077 rfl (lv_at hl 0 rfl) ?_
  refine lv_iload C.1 C.2.1 dL_law_1078 (lv_at hl 4 rfl) ?_
  refine lv_iconst C.1 C.2.1 dL_law_1080 ic_5 ?_
  refine lv_iadd C.1 C.2.1 dL_law_1081 ?_
  refine va_sld C.1 C.2.1 hX hbl (Nat.not_le.mpr hbl) hL.1.2.2.2.1 (hin 5 (by decide)) dL_law_1082 ?_
  refine lv_if_eq (tgt := 1090) C.1 C.2.1 dL_law_1083 rfl (fun c1083 => ?_) (fun c1083 => ?_)
  · rw [show bz (xs ((nI i) + (5 : Int32)).toNatClampNeg) = 0 from if_pos c1083] at hfX hfM
    refine lv_iconst C.1 C.2.1 dL_law_1090 ic_0 ?_
    refine l_callX (As := [.int (xs ((nI i) + (1 : Int32)).toNatClampNeg), .int (xs ((nI i) + (2 : Int32)).toNatClampNeg), .int (xs ((nI i) + (3 : Int32)).toNatClampNeg), .int (xs ((nI i) + (4 : Int32)).toNatClampNeg), .int ((0 : Int32))]) (rest := []) C hL (cX10_see_ok (by decide) hfX) mlL_125 rfl hl.1 rfl (Nat.le_of_ble_eq_true rfl) (Nat.le_of_ble_eq_true rfl) (Nat.le_of_ble_eq_true rfl) (by show 300 + 10 * t ≤ 601024; omega) (by show 200000 + 100 * t ≤ 7293034; omega) dL_law_1091 (fun H locs hL => ?_)
    refine lv_aload_n C.1 C.2.1 dL_law_1094 rfl (lv_at hl 2 rfl) ?_
    refine lv_aload_n C.1 C.2.1 dL_law_1095 rfl (lv_at hl 0 rfl) ?_
    refine lv_iload C.1 C.2.1 dL_law_1096 (lv_at hl 4 rfl) ?_
    refine lv_iconst C.1 C.2.1 dL_law_1098 ic_1 ?_
    refine lv_iadd C.1 C.2.1 dL_law_1099 ?_
    refine va_sld C.1 C.2.1 hX hbl (Nat.not_le.mpr hbl) hL.1.2.2.2.1 (hin 1 (by decide)) dL_law_1100 ?_
    refine lv_aload_n C.1 C.2.1 dL_law_1101 rfl (lv_at hl 0 rfl) ?_
    refine lv_iload C.1 C.2.1 dL_law_1102 (lv_at hl 4 rfl) ?_
    refine lv_iconst C.1 C.2.1 dL_law_1104 ic_2 ?_
    refine lv_iadd C.1 C.2.1 dL_law_1105 ?_
    refine va_sld C.1 C.2.1 hX hbl (Nat.not_le.mpr hbl) hL.1.2.2.2.1 (hin 2 (by decide)) dL_law_1106 ?_
    refine lv_aload_n C.1 C.2.1 dL_law_1107 rfl (lv_at hl 0 rfl) ?_
    refine lv_iload C.1 C.2.1 dL_law_1108 (lv_at hl 4 rfl) ?_
    refine lv_iconst C.1 C.2.1 dL_law_1110 ic_3 ?_
    refine lv_iadd C.1 C.2.1 dL_law_1111 ?_
    refine va_sld C.1 C.2.1 hX hbl (Nat.not_le.mpr hbl) hL.1.2.2.2.1 (hin 3 (by decide)) dL_law_1112 ?_
    refine lv_aload_n C.1 C.2.1 dL_law_1113 rfl (lv_at hl 0 rfl) ?_
    refine lv_iload C.1 C.2.1 dL_law_1114 (lv_at hl 4 rfl) ?_
    refine lv_iconst C.1 C.2.1 dL_law_1116 ic_4 ?_
    refine lv_iadd C.1 C.2.1 dL_law_1117 ?_
    refine va_sld C.1 C.2.1 hX hbl (Nat.not_le.mpr hbl) hL.1.2.2.2.1 (hin 4 (by decide)) dL_law_1118 ?_
    refine lv_aload_n C.1 C.2.1 dL_law_1119 rfl (lv_at hl 0 rfl) ?_
    refine lv_iload C.1 C.2.1 dL_law_1120 (lv_at hl 4 rfl) ?_
    refine lv_iconst C.1 C.2.1 dL_law_1122 ic_5 ?_
    refine lv_iadd C.1 C.2.1 dL_law_1123 ?_
    refine va_sld C.1 C.2.1 hX hbl (Nat.not_le.mpr hbl) hL.1.2.2.2.1 (hin 5 (by decide)) dL_law_1124 ?_
    refine lv_if_eq (tgt := 1132) C.1 C.2.1 dL_law_1125 rfl (fun _ => ?_) (fun h => absurd c1083 h)
    refine lv_iconst C.1 C.2.1 dL_law_1132 ic_0 ?_
    refine l_callM (As := [.int (xs ((nI i) + (1 : Int32)).toNatClampNeg), .int (xs ((nI i) + (2 : Int32)).toNatClampNeg), .int (xs ((nI i) + (3 : Int32)).toNatClampNeg), .int (xs ((nI i) + (4 : Int32)).toNatClampNeg), .int ((0 : Int32))]) (rest := [.int qX.1]) C hL (cX11_see_ok (by decide) hfM) mlL_129 rfl hl.1 rfl (Nat.le_of_ble_eq_true rfl) (Nat.le_of_ble_eq_true rfl) (Nat.le_of_ble_eq_true rfl) (by show 300 + 10 * t ≤ 601024; omega) (by show 200000 + 100 * t ≤ 7293034; omega) dL_law_1133 (fun H locs hL => ?_)
    refine lv_icmp_eq (tgt := 1378) C.1 C.2.1 dL_law_1136 rfl (fun _ => ?_) (fun h => absurd heq h)
    exact ih _ _ _ _ _ _ hInv hL hl
  · rw [show bz (xs ((nI i) + (5 : Int32)).toNatClampNeg) = 1 from if_neg c1083] at hfX hfM
    refine lv_iconst C.1 C.2.1 dL_law_1086 ic_1 ?_
    refine lv_goto (tgt := 1091) C.1 C.2.1 dL_law_1087 rfl ?_
    refine l_callX (As := [.int (xs ((nI i) + (1 : Int32)).toNatClampNeg), .int (xs ((nI i) + (2 : Int32)).toNatClampNeg), .int (xs ((nI i) + (3 : Int32)).toNatClampNeg), .int (xs ((nI i) + (4 : Int32)).toNatClampNeg), .int ((1 : Int32))]) (rest := []) C hL (cX10_see_ok (by decide) hfX) mlL_125 rfl hl.1 rfl (Nat.le_of_ble_eq_true rfl) (Nat.le_of_ble_eq_true rfl) (Nat.le_of_ble_eq_true rfl) (by show 300 + 10 * t ≤ 601024; omega) (by show 200000 + 100 * t ≤ 7293034; omega) dL_law_1091 (fun H locs hL => ?_)
    refine lv_aload_n C.1 C.2.1 dL_law_1094 rfl (lv_at hl 2 rfl) ?_
    refine lv_aload_n C.1 C.2.1 dL_law_1095 rfl (lv_at hl 0 rfl) ?_
    refine lv_iload C.1 C.2.1 dL_law_1096 (lv_at hl 4 rfl) ?_
    refine lv_iconst C.1 C.2.1 dL_law_1098 ic_1 ?_
    refine lv_iadd C.1 C.2.1 dL_law_1099 ?_
    refine va_sld C.1 C.2.1 hX hbl (Nat.not_le.mpr hbl) hL.1.2.2.2.1 (hin 1 (by decide)) dL_law_1100 ?_
    refine lv_aload_n C.1 C.2.1 dL_law_1101 rfl (lv_at hl 0 rfl) ?_
    refine lv_iload C.1 C.2.1 dL_law_1102 (lv_at hl 4 rfl) ?_
    refine lv_iconst C.1 C.2.1 dL_law_1104 ic_2 ?_
    refine lv_iadd C.1 C.2.1 dL_law_1105 ?_
    refine va_sld C.1 C.2.1 hX hbl (Nat.not_le.mpr hbl) hL.1.2.2.2.1 (hin 2 (by decide)) dL_law_1106 ?_
    refine lv_aload_n C.1 C.2.1 dL_law_1107 rfl (lv_at hl 0 rfl) ?_
    refine lv_iload C.1 C.2.1 dL_law_1108 (lv_at hl 4 rfl) ?_
    refine lv_iconst C.1 C.2.1 dL_law_1110 ic_3 ?_
    refine lv_iadd C.1 C.2.1 dL_law_1111 ?_
    refine va_sld C.1 C.2.1 hX hbl (Nat.not_le.mpr hbl) hL.1.2.2.2.1 (hin 3 (by decide)) dL_law_1112 ?_
    refine lv_aload_n C.1 C.2.1 dL_law_1113 rfl (lv_at hl 0 rfl) ?_
    refine lv_iload C.1 C.2.1 dL_law_1114 (lv_at hl 4 rfl) ?_
    refine lv_iconst C.1 C.2.1 dL_law_1116 ic_4 ?_
    refine lv_iadd C.1 C.2.1 dL_law_1117 ?_
    refine va_sld C.1 C.2.1 hX hbl (Nat.not_le.mpr hbl) hL.1.2.2.2.1 (hin 4 (by decide)) dL_law_1118 ?_
    refine lv_aload_n C.1 C.2.1 dL_law_1119 rfl (lv_at hl 0 rfl) ?_
    refine lv_iload C.1 C.2.1 dL_law_1120 (lv_at hl 4 rfl) ?_
    refine lv_iconst C.1 C.2.1 dL_law_1122 ic_5 ?_
    refine lv_iadd C.1 C.2.1 dL_law_1123 ?_
    refine va_sld C.1 C.2.1 hX hbl (Nat.not_le.mpr hbl) hL.1.2.2.2.1 (hin 5 (by decide)) dL_law_1124 ?_
    refine lv_if_eq (tgt := 1132) C.1 C.2.1 dL_law_1125 rfl (fun h => absurd h c1083) (fun _ => ?_)
    refine lv_iconst C.1 C.2.1 dL_law_1128 ic_1 ?_
    refine lv_goto (tgt := 1133) C.1 C.2.1 dL_law_1129 rfl ?_
    refine l_callM (As := [.int (xs ((nI i) + (1 : Int32)).toNatClampNeg), .int (xs ((nI i) + (2 : Int32)).toNatClampNeg), .int (xs ((nI i) + (3 : Int32)).toNatClampNeg), .int (xs ((nI i) + (4 : Int32)).toNatClampNeg), .int ((1 : Int32))]) (rest := [.int qX.1]) C hL (cX11_see_ok (by decide) hfM) mlL_129 rfl hl.1 rfl (Nat.le_of_ble_eq_true rfl) (Nat.le_of_ble_eq_true rfl) (Nat.le_of_ble_eq_true rfl) (by show 300 + 10 * t ≤ 601024; omega) (by show 200000 + 100 * t ≤ 7293034; omega) dL_law_1133 (fun H locs hL => ?_)
    refine lv_icmp_eq (tgt := 1378) C.1 C.2.1 dL_law_1136 rfl (fun _ => ?_) (fun h => absurd heq h)
    exact ih _ _ _ _ _ _ hInv hL hl
set_option maxRecDepth 100000 in
theorem law_24 {p : Program} {l : Launch} {e : Env} {s : State} {m : MethodId} {below : List Frame} {meth : Method} {c : Code} {Q : State → Prop} {G : Gv} {aX aM o b L i t : Nat} {xs : Nat → Int32} {Inv : MS → MS → Prop} {SX SM : MS} {f : Nat → Int64} {H : Heap} {locs : List Loc} {ls : Array Slot} {qX : (Int32 × MS)} {qM : (Int32 × MS)} (C : mC p s m #[Value.ref b] meth c code RL 7 ret) (hX : va_X b L xs s s.heap) (hbl : b < s.heap.size) (ht : t ≤ 512) (hin : ∀ j : Nat, j < 6 → vp_in (nI i + nI j) L) (hL : mL G aX aM o SX SM f s H locs) (hl : lv_has ls 7 [(0, .ref b), (1, .ref (ad (Lq aX 99) 0)), (2, .ref (ad (Lq aM 48) 0)), (3, .ref o), (4, .int (nI i))]) (hfX : fX10_out 0 (xs ((nI i) + (1 : Int32)).toNatClampNeg) SX = some qX) (hfM : fX11_out 0 (xs ((nI i) + (1 : Int32)).toNatClampNeg) SM = some qM) (heq : qX.1 = qM.1) (hInv : Inv qX.2 qM.2) (ih : ∀ (SX SM : MS) (f : Nat → Int64) (H : Heap) (locs : List Loc) (ls : Array Slot), Inv SX SM → mL G aX aM o SX SM f s H locs → lv_has ls 7 [(0, .ref b), (1, .ref (ad (Lq aX 99) 0)), (2, .ref (ad (Lq aM 48) 0)), (3, .ref o), (4, .int (nI i))] → W p l e room_1 s m #[Value.ref b] below meth c H locs (300 + 10 * t) (200000 + 100 * t) Q (F0 m 1378 ls [])) : W p l e room_1 s m #[Value.ref b] below meth c H locs (300 + 10 * t) (200000 + 100 * t) Q (F0 m 1141 ls []) := by
  refine lv_aload_n C.1 C.2.1 dL_law_1141 rfl (lv_at hl 1 rfl) ?_
  refine lv_aload_n C.1 C.2.1 dL_law_1142 rfl (lv_at hl 0 rfl) ?_
  refine lv_iload C.1 C.2.1 dL_law_1143 (lv_at hl 4 rfl) ?_
  refine lv_iconst C.1 C.2.1 dL_law_1145 ic_1 ?_
  refine lv_iadd C.1 C.2.1 dL_law_1146 ?_
  refine va_sld C.1 C.2.1 hX hbl (Nat.not_le.mpr hbl) hL.1.2.2.2.1 (hin 1 (by decide)) dL_law_1147 ?_
  refine l_callX (As := [.int (xs ((nI i) + (1 : Int32)).toNatClampNeg)]) (rest := []) C hL (cX10_out_ok (by decide) hfX) mlL_130 rfl hl.1 rfl (Nat.le_of_ble_eq_true rfl) (Nat.le_of_ble_eq_true rfl) (Nat.le_of_ble_eq_true rfl) (by show 300 + 10 * t ≤ 601024; omega) (by show 200000 + 100 * t ≤ 7293034; omega) dL_law_1148 (fun H locs hL => ?_)
  refine lv_aload_n C.1 C.2.1 dL_law_1151 rfl (lv_at hl 2 rfl) ?_
  refine lv_aload_n C.1 C.2.1 dL_law_1152 rfl (lv_at hl 0 rfl) ?_
  refine lv_iload C.1 C.2.1 dL_law_1153 (lv_at hl 4 rfl) ?_
  refine lv_iconst C.1 C.2.1 dL_law_1155 ic_1 ?_
  refine lv_iadd C.1 C.2.1 dL_law_1156 ?_
  refine va_sld C.1 C.2.1 hX hbl (Nat.not_le.mpr hbl) hL.1.2.2.2.1 (hin 1 (by decide)) dL_law_1157 ?_
  refine l_callM (As := [.int (xs ((nI i) + (1 : Int32)).toNatClampNeg)]) (rest := [.int qX.1]) C hL (cX11_out_ok (by decide) hfM) mlL_133 rfl hl.1 rfl (Nat.le_of_ble_eq_true rfl) (Nat.le_of_ble_eq_true rfl) (Nat.le_of_ble_eq_true rfl) (by show 300 + 10 * t ≤ 601024; omega) (by show 200000 + 100 * t ≤ 7293034; omega) dL_law_1158 (fun H locs hL => ?_)
  refine lv_icmp_eq (tgt := 1378) C.1 C.2.1 dL_law_1161 rfl (fun _ => ?_) (fun h => absurd heq h)
  exact ih _ _ _ _ _ _ hInv hL hl
set_option maxRecDepth 100000 in
theorem law_25 {p : Program} {l : Launch} {e : Env} {s : State} {m : MethodId} {below : List Frame} {meth : Method} {c : Code} {Q : State → Prop} {G : Gv} {aX aM o b L i t : Nat} {xs : Nat → Int32} {Inv : MS → MS → Prop} {SX SM : MS} {f : Nat → Int64} {H : Heap} {locs : List Loc} {ls : Array Slot} {qX : (Int32 × MS)} {qM : (Int32 × MS)} (C : mC p s m #[Value.ref b] meth c code RL 7 ret) (hX : va_X b L xs s s.heap) (hbl : b < s.heap.size) (ht : t ≤ 512) (hin : ∀ j : Nat, j < 6 → vp_in (nI i + nI j) L) (hL : mL G aX aM o SX SM f s H locs) (hl : lv_has ls 7 [(0, .ref b), (1, .ref (ad (Lq aX 99) 0)), (2, .ref (ad (Lq aM 48) 0)), (3, .ref o), (4, .int (nI i))]) (hfX : fX10_known 0 (xs ((nI i) + (1 : Int32)).toNatClampNeg) SX = some qX) (hfM : fX11_known 0 (xs ((nI i) + (1 : Int32)).toNatClampNeg) SM = some qM) (heq : qX.1 = qM.1) (hInv : Inv qX.2 qM.2) (ih : ∀ (SX SM : MS) (f : Nat → Int64) (H : Heap) (locs : List Loc) (ls : Array Slot), Inv SX SM → mL G aX aM o SX SM f s H locs → lv_has ls 7 [(0, .ref b), (1, .ref (ad (Lq aX 99) 0)), (2, .ref (ad (Lq aM 48) 0)), (3, .ref o), (4, .int (nI i))] → W p l e room_1 s m #[Value.ref b] below meth c H locs (300 + 10 * t) (200000 + 100 * t) Q (F0 m 1378 ls [])) : W p l e room_1 s m #[Value.ref b] below meth c H locs (300 + 10 * t) (200000 + 100 * t) Q (F0 m 1166 ls []) := by
  refine lv_aload_n C.1 C.2.1 dL_law_1166 rfl (lv_at hl 1 rfl) ?_
  refine lv_aload_n C.1 C.2.1 dL_law_1167 rfl (lv_at hl 0 rfl) ?_
  refine lv_iload C.1 C.2.1 dL_law_1168 (lv_at hl 4 rfl) ?_
  refine lv_iconst C.1 C.2.1 dL_law_1170 ic_1 ?_
  refine lv_iadd C.1 C.2.1 dL_law_1171 ?_
  refine va_sld C.1 C.2.1 hX hbl (Nat.not_le.mpr hbl) hL.1.2.2.2.1 (hin 1 (by decide)) dL_law_1172 ?_
  refine l_callX (As := [.int (xs ((nI i) + (1 : Int32)).toNatClampNeg)]) (rest := []) C hL (cX10_known_ok (by decide) hfX) mlL_134 rfl hl.1 rfl (Nat.le_of_ble_eq_true rfl) (Nat.le_of_ble_eq_true rfl) (Nat.le_of_ble_eq_true rfl) (by show 300 + 10 * t ≤ 601024; omega) (by show 200000 + 100 * t ≤ 7293034; omega) dL_law_1173 (fun H locs hL => ?_)
  refine lv_aload_n C.1 C.2.1 dL_law_1176 rfl (lv_at hl 2 rfl) ?_
  refine lv_aload_n C.1 C.2.1 dL_law_1177 rfl (lv_at hl 0 rfl) ?_
  refine lv_iload C.1 C.2.1 dL_law_1178 (lv_at hl 4 rfl) ?_
  refine lv_iconst C.1 C.2.1 dL_law_1180 ic_1 ?_
  refine lv_iadd C.1 C.2.1 dL_law_1181 ?_
  refine va_sld C.1 C.2.1 hX hbl (Nat.not_le.mpr hbl) hL.1.2.2.2.1 (hin 1 (by decide)) dL_law_1182 ?_
  refine l_callM (As := [.int (xs ((nI i) + (1 : Int32)).toNatClampNeg)]) (rest := [.int qX.1]) C hL (cX11_known_ok (by decide) hfM) mlL_137 rfl hl.1 rfl (Nat.le_of_ble_eq_true rfl) (Nat.le_of_ble_eq_true rfl) (Nat.le_of_ble_eq_true rfl) (by show 300 + 10 * t ≤ 601024; omega) (by show 200000 + 100 * t ≤ 7293034; omega) dL_law_1183 (fun H locs hL => ?_)
  refine lv_icmp_eq (tgt := 1378) C.1 C.2.1 dL_law_1186 rfl (fun _ => ?_) (fun h => absurd heq h)
  exact ih _ _ _ _ _ _ hInv hL hl
set_option maxRecDepth 100000 in
theorem law_26 {p : Program} {l : Launch} {e : Env} {s : State} {m : MethodId} {below : List Frame} {meth : Method} {c : Code} {Q : State → Prop} {G : Gv} {aX aM o b L i t : Nat} {xs : Nat → Int32} {Inv : MS → MS → Prop} {SX SM : MS} {f : Nat → Int64} {H : Heap} {locs : List Loc} {ls : Array Slot} {qX : (Int32 × MS)} {qM : (Int32 × MS)} (C : mC p s m #[Value.ref b] meth c code RL 7 ret) (hX : va_X b L xs s s.heap) (hbl : b < s.heap.size) (ht : t ≤ 512) (hin : ∀ j : Nat, j < 6 → vp_in (nI i + nI j) L) (hL : mL G aX aM o SX SM f s H locs) (hl : lv_has ls 7 [(0, .ref b), (1, .ref (ad (Lq aX 99) 0)), (2, .ref (ad (Lq aM 48) 0)), (3, .ref o), (4, .int (nI i))]) (hfX : fX10_homes 0 (xs ((nI i) + (1 : Int32)).toNatClampNeg) SX = some qX) (hfM : fX11_homes 0 (xs ((nI i) + (1 : Int32)).toNatClampNeg) SM = some qM) (heq : qX.1 = qM.1) (hInv : Inv qX.2 qM.2) (ih : ∀ (SX SM : MS) (f : Nat → Int64) (H : Heap) (locs : List Loc) (ls : Array Slot), Inv SX SM → mL G aX aM o SX SM f s H locs → lv_has ls 7 [(0, .ref b), (1, .ref (ad (Lq aX 99) 0)), (2, .ref (ad (Lq aM 48) 0)), (3, .ref o), (4, .int (nI i))] → W p l e room_1 s m #[Value.ref b] below meth c H locs (300 + 10 * t) (200000 + 100 * t) Q (F0 m 1378 ls [])) : W p l e room_1 s m #[Value.ref b] below meth c H locs (300 + 10 * t) (200000 + 100 * t) Q (F0 m 1191 ls []) := by
  refine lv_aload_n C.1 C.2.1 dL_law_1191 rfl (lv_at hl 1 rfl) ?_
  refine lv_aload_n C.1 C.2.1 dL_law_1192 rfl (lv_at hl 0 rfl) ?_
  refine lv_iload C.1 C.2.1 dL_law_1193 (lv_at hl 4 rfl) ?_
  refine lv_iconst C.1 C.2.1 dL_law_1195 ic_1 ?_
  refine lv_iadd C.1 C.2.1 dL_law_1196 ?_
  refine va_sld C.1 C.2.1 hX hbl (Nat.not_le.mpr hbl) hL.1.2.2.2.1 (hin 1 (by decide)) dL_law_1197 ?_
  refine l_callX (As := [.int (xs ((nI i) + (1 : Int32)).toNatClampNeg)]) (rest := []) C hL (cX10_homes_ok (by decide) hfX) mlL_138 rfl hl.1 rfl (Nat.le_of_ble_eq_true rfl) (Nat.le_of_ble_eq_true rfl) (Nat.le_of_ble_eq_true rfl) (by show 300 + 10 * t ≤ 601024; omega) (by show 200000 + 100 * t ≤ 7293034; omega) dL_law_1198 (fun H locs hL => ?_)
  refine lv_aload_n C.1 C.2.1 dL_law_1201 rfl (lv_at hl 2 rfl) ?_
  refine lv_aload_n C.1 C.2.1 dL_law_1202 rfl (lv_at hl 0 rfl) ?_
  refine lv_iload C.1 C.2.1 dL_law_1203 (lv_at hl 4 rfl) ?_
  refine lv_iconst C.1 C.2.1 dL_law_1205 ic_1 ?_
  refine lv_iadd C.1 C.2.1 dL_law_1206 ?_
  refine va_sld C.1 C.2.1 hX hbl (Nat.not_le.mpr hbl) hL.1.2.2.2.1 (hin 1 (by decide)) dL_law_1207 ?_
  refine l_callM (As := [.int (xs ((nI i) + (1 : Int32)).toNatClampNeg)]) (rest := [.int qX.1]) C hL (cX11_homes_ok (by decide) hfM) mlL_141 rfl hl.1 rfl (Nat.le_of_ble_eq_true rfl) (Nat.le_of_ble_eq_true rfl) (Nat.le_of_ble_eq_true rfl) (by show 300 + 10 * t ≤ 601024; omega) (by show 200000 + 100 * t ≤ 7293034; omega) dL_law_1208 (fun H locs hL => ?_)
  refine lv_icmp_eq (tgt := 1378) C.1 C.2.1 dL_law_1211 rfl (fun _ => ?_) (fun h => absurd heq h)
  exact ih _ _ _ _ _ _ hInv hL hl
set_option maxRecDepth 100000 in
theorem law_27 {p : Program} {l : Launch} {e : Env} {s : State} {m : MethodId} {below : List Frame} {meth : Method} {c : Code} {Q : State → Prop} {G : Gv} {aX aM o b L i t : Nat} {xs : Nat → Int32} {Inv : MS → MS → Prop} {SX SM : MS} {f : Nat → Int64} {H : Heap} {locs : List Loc} {ls : Array Slot} {qX : (Int32 × MS)} {qM : (Int32 × MS)} (C : mC p s m #[Value.ref b] meth c code RL 7 ret) (hX : va_X b L xs s s.heap) (hbl : b < s.heap.size) (ht : t ≤ 512) (hin : ∀ j : Nat, j < 6 → vp_in (nI i + nI j) L) (hL : mL G aX aM o SX SM f s H locs) (hl : lv_has ls 7 [(0, .ref b), (1, .ref (ad (Lq aX 99) 0)), (2, .ref (ad (Lq aM 48) 0)), (3, .ref o), (4, .int (nI i))]) (hfX : fX10_chance 0 (xs ((nI i) + (1 : Int32)).toNatClampNeg) (xs ((nI i) + (2 : Int32)).toNatClampNeg) (xs ((nI i) + (3 : Int32)).toNatClampNeg) SX = some qX) (hfM : fX11_chance 0 (xs ((nI i) + (1 : Int32)).toNatClampNeg) (xs ((nI i) + (2 : Int32)).toNatClampNeg) (xs ((nI i) + (3 : Int32)).toNatClampNeg) SM = some qM) (heq : qX.1 = qM.1) (hInv : Inv qX.2 qM.2) (ih : ∀ (SX SM : MS) (f : Nat → Int64) (H : Heap) (locs : List Loc) (ls : Array Slot), Inv SX SM → mL G aX aM o SX SM f s H locs → lv_has ls 7 [(0, .ref b), (1, .ref (ad (Lq aX 99) 0)), (2, .ref (ad (Lq aM 48) 0)), (3, .ref o), (4, .int (nI i))] → W p l e room_1 s m #[Value.ref b] below meth c H locs (300 + 10 * t) (200000 + 100 * t) Q (F0 m 1378 ls [])) : W p l e room_1 s m #[Value.ref b] below meth c H locs (300 + 10 * t) (200000 + 100 * t) Q (F0 m 1216 ls []) := by
  refine lv_aload_n C.1 C.2.1 dL_law_1216 rfl (lv_at hl 1 rfl) ?_
  refine lv_aload_n C.1 C.2.1 dL_law_1217 rfl (lv_at hl 0 rfl) ?_
  refine lv_iload C.1 C.2.1 dL_law_1218 (lv_at hl 4 rfl) ?_
  refine lv_iconst C.1 C.2.1 dL_law_1220 ic_1 ?_
  refine lv_iadd C.1 C.2.1 dL_law_1221 ?_
  refine va_sld C.1 C.2.1 hX hbl (Nat.not_le.mpr hbl) hL.1.2.2.2.1 (hin 1 (by decide)) dL_law_1222 ?_
  refine lv_aload_n C.1 C.2.1 dL_law_1223 rfl (lv_at hl 0 rfl) ?_
  refine lv_iload C.1 C.2.1 dL_law_1224 (lv_at hl 4 rfl) ?_
  refine lv_iconst C.1 C.2.1 dL_law_1226 ic_2 ?_
  refine lv_iadd C.1 C.2.1 dL_law_1227 ?_
  refine va_sld C.1 C.2.1 hX hbl (Nat.not_le.mpr hbl) hL.1.2.2.2.1 (hin 2 (by decide)) dL_law_1228 ?_
  refine lv_aload_n C.1 C.2.1 dL_law_1229 rfl (lv_at hl 0 rfl) ?_
  refine lv_iload C.1 C.2.1 dL_law_1230 (lv_at hl 4 rfl) ?_
  refine lv_iconst C.1 C.2.1 dL_law_1232 ic_3 ?_
  refine lv_iadd C.1 C.2.1 dL_law_1233 ?_
  refine va_sld C.1 C.2.1 hX hbl (Nat.not_le.mpr hbl) hL.1.2.2.2.1 (hin 3 (by decide)) dL_law_1234 ?_
  refine l_callX (As := [.int (xs ((nI i) + (1 : Int32)).toNatClampNeg), .int (xs ((nI i) + (2 : Int32)).toNatClampNeg), .int (xs ((nI i) + (3 : Int32)).toNatClampNeg)]) (rest := []) C hL (cX10_chance_ok (by decide) hfX) mlL_142 rfl hl.1 rfl (Nat.le_of_ble_eq_true rfl) (Nat.le_of_ble_eq_true rfl) (Nat.le_of_ble_eq_true rfl) (by show 300 + 10 * t ≤ 601024; omega) (by show 200000 + 100 * t ≤ 7293034; omega) dL_law_1235 (fun H locs hL => ?_)
  refine lv_aload_n C.1 C.2.1 dL_law_1238 rfl (lv_at hl 2 rfl) ?_
  refine lv_aload_n C.1 C.2.1 dL_law_1239 rfl (lv_at hl 0 rfl) ?_
  refine lv_iload C.1 C.2.1 dL_law_1240 (lv_at hl 4 rfl) ?_
  refine lv_iconst C.1 C.2.1 dL_law_1242 ic_1 ?_
  refine lv_iadd C.1 C.2.1 dL_law_1243 ?_
  refine va_sld C.1 C.2.1 hX hbl (Nat.not_le.mpr hbl) hL.1.2.2.2.1 (hin 1 (by decide)) dL_law_1244 ?_
  refine lv_aload_n C.1 C.2.1 dL_law_1245 rfl (lv_at hl 0 rfl) ?_
  refine lv_iload C.1 C.2.1 dL_law_1246 (lv_at hl 4 rfl) ?_
  refine lv_iconst C.1 C.2.1 dL_law_1248 ic_2 ?_
  refine lv_iadd C.1 C.2.1 dL_law_1249 ?_
  refine va_sld C.1 C.2.1 hX hbl (Nat.not_le.mpr hbl) hL.1.2.2.2.1 (hin 2 (by decide)) dL_law_1250 ?_
  refine lv_aload_n C.1 C.2.1 dL_law_1251 rfl (lv_at hl 0 rfl) ?_
  refine lv_iload C.1 C.2.1 dL_law_1252 (lv_at hl 4 rfl) ?_
  refine lv_iconst C.1 C.2.1 dL_law_1254 ic_3 ?_
  refine lv_iadd C.1 C.2.1 dL_law_1255 ?_
  refine va_sld C.1 C.2.1 hX hbl (Nat.not_le.mpr hbl) hL.1.2.2.2.1 (hin 3 (by decide)) dL_law_1256 ?_
  refine l_callM (As := [.int (xs ((nI i) + (1 : Int32)).toNatClampNeg), .int (xs ((nI i) + (2 : Int32)).toNatClampNeg), .int (xs ((nI i) + (3 : Int32)).toNatClampNeg)]) (rest := [.int qX.1]) C hL (cX11_chance_ok (by decide) hfM) mlL_145 rfl hl.1 rfl (Nat.le_of_ble_eq_true rfl) (Nat.le_of_ble_eq_true rfl) (Nat.le_of_ble_eq_true rfl) (by show 300 + 10 * t ≤ 601024; omega) (by show 200000 + 100 * t ≤ 7293034; omega) dL_law_1257 (fun H locs hL => ?_)
  refine lv_icmp_eq (tgt := 1378) C.1 C.2.1 dL_law_1260 rfl (fun _ => ?_) (fun h => absurd heq h)
  exact ih _ _ _ _ _ _ hInv hL hl
set_option maxRecDepth 100000 in
theorem law_28 {p : Program} {l : Launch} {e : Env} {s : State} {m : MethodId} {below : List Frame} {meth : Method} {c : Code} {Q : State → Prop} {G : Gv} {aX aM o b L i t : Nat} {xs : Nat → Int32} {Inv : MS → MS → Prop} {SX SM : MS} {f : Nat → Int64} {H : Heap} {locs : List Loc} {ls : Array Slot} {qX : (Int32 × MS)} {qM : (Int32 × MS)} (C : mC p s m #[Value.ref b] meth c code RL 7 ret) (hX : va_X b L xs s s.heap) (hbl : b < s.heap.size) (ht : t ≤ 512) (hin : ∀ j : Nat, j < 6 → vp_in (nI i + nI j) L) (hL : mL G aX aM o SX SM f s H locs) (hl : lv_has ls 7 [(0, .ref b), (1, .ref (ad (Lq aX 99) 0)), (2, .ref (ad (Lq aM 48) 0)), (3, .ref o), (4, .int (nI i))]) (hfX : fX10_tried 0 (xs ((nI i) + (1 : Int32)).toNatClampNeg) (xs ((nI i) + (2 : Int32)).toNatClampNeg) (xs ((nI i) + (3 : Int32)).toNatClampNeg) SX = some qX) (hfM : fX11_tried 0 (xs ((nI i) + (1 : Int32)).toNatClampNeg) (xs ((nI i) + (2 : Int32)).toNatClampNeg) (xs ((nI i) + (3 : Int32)).toNatClampNeg) SM = some qM) (heq : qX.1 = qM.1) (hInv : Inv qX.2 qM.2) (ih : ∀ (SX SM : MS) (f : Nat → Int64) (H : Heap) (locs : List Loc) (ls : Array Slot), Inv SX SM → mL G aX aM o SX SM f s H locs → lv_has ls 7 [(0, .ref b), (1, .ref (ad (Lq aX 99) 0)), (2, .ref (ad (Lq aM 48) 0)), (3, .ref o), (4, .int (nI i))] → W p l e room_1 s m #[Value.ref b] below meth c H locs (300 + 10 * t) (200000 + 100 * t) Q (F0 m 1378 ls [])) : W p l e room_1 s m #[Value.ref b] below meth c H locs (300 + 10 * t) (200000 + 100 * t) Q (F0 m 1265 ls []) := by
  refine lv_aload_n C.1 C.2.1 dL_law_1265 rfl (lv_at hl 1 rfl) ?_
  refine lv_aload_n C.1 C.2.1 dL_law_1266 rfl (lv_at hl 0 rfl) ?_
  refine lv_iload C.1 C.2.1 dL_law_1267 (lv_at hl 4 rfl) ?_
  refine lv_iconst C.1 C.2.1 dL_law_1269 ic_1 ?_
  refine lv_iadd C.1 C.2.1 dL_law_1270 ?_
  refine va_sld C.1 C.2.1 hX hbl (Nat.not_le.mpr hbl) hL.1.2.2.2.1 (hin 1 (by decide)) dL_law_1271 ?_
  refine lv_aload_n C.1 C.2.1 dL_law_1272 rfl (lv_at hl 0 rfl) ?_
  refine lv_iload C.1 C.2.1 dL_law_1273 (lv_at hl 4 rfl) ?_
  refine lv_iconst C.1 C.2.1 dL_law_1275 ic_2 ?_
  refine lv_iadd C.1 C.2.1 dL_law_1276 ?_
  refine va_sld C.1 C.2.1 hX hbl (Nat.not_le.mpr hbl) hL.1.2.2.2.1 (hin 2 (by decide)) dL_law_1277 ?_
  refine lv_aload_n C.1 C.2.1 dL_law_1278 rfl (lv_at hl 0 rfl) ?_
  refine lv_iload C.1 C.2.1 dL_law_1279 (lv_at hl 4 rfl) ?_
  refine lv_iconst C.1 C.2.1 dL_law_1281 ic_3 ?_
  refine lv_iadd C.1 C.2.1 dL_law_1282 ?_
  refine va_sld C.1 C.2.1 hX hbl (Nat.not_le.mpr hbl) hL.1.2.2.2.1 (hin 3 (by decide)) dL_law_1283 ?_
  refine l_callX (As := [.int (xs ((nI i) + (1 : Int32)).toNatClampNeg), .int (xs ((nI i) + (2 : Int32)).toNatClampNeg), .int (xs ((nI i) + (3 : Int32)).toNatClampNeg)]) (rest := []) C hL (cX10_tried_ok (by decide) hfX) mlL_146 rfl hl.1 rfl (Nat.le_of_ble_eq_true rfl) (Nat.le_of_ble_eq_true rfl) (Nat.le_of_ble_eq_true rfl) (by show 300 + 10 * t ≤ 601024; omega) (by show 200000 + 100 * t ≤ 7293034; omega) dL_law_1284 (fun H locs hL => ?_)
  refine lv_aload_n C.1 C.2.1 dL_law_1287 rfl (lv_at hl 2 rfl) ?_
  refine lv_aload_n C.1 C.2.1 dL_law_1288 rfl (lv_at hl 0 rfl) ?_
  refine lv_iload C.1 C.2.1 dL_law_1289 (lv_at hl 4 rfl) ?_
  refine lv_iconst C.1 C.2.1 dL_law_1291 ic_1 ?_
  refine lv_iadd C.1 C.2.1 dL_law_1292 ?_
  refine va_sld C.1 C.2.1 hX hbl (Nat.not_le.mpr hbl) hL.1.2.2.2.1 (hin 1 (by decide)) dL_law_1293 ?_
  refine lv_aload_n C.1 C.2.1 dL_law_1294 rfl (lv_at hl 0 rfl) ?_
  refine lv_iload C.1 C.2.1 dL_law_1295 (lv_at hl 4 rfl) ?_
  refine lv_iconst C.1 C.2.1 dL_law_1297 ic_2 ?_
  refine lv_iadd C.1 C.2.1 dL_law_1298 ?_
  refine va_sld C.1 C.2.1 hX hbl (Nat.not_le.mpr hbl) hL.1.2.2.2.1 (hin 2 (by decide)) dL_law_1299 ?_
  refine lv_aload_n C.1 C.2.1 dL_law_1300 rfl (lv_at hl 0 rfl) ?_
  refine lv_iload C.1 C.2.1 dL_law_1301 (lv_at hl 4 rfl) ?_
  refine lv_iconst C.1 C.2.1 dL_law_1303 ic_3 ?_
  refine lv_iadd C.1 C.2.1 dL_law_1304 ?_
  refine va_sld C.1 C.2.1 hX hbl (Nat.not_le.mpr hbl) hL.1.2.2.2.1 (hin 3 (by decide)) dL_law_1305 ?_
  refine l_callM (As := [.int (xs ((nI i) + (1 : Int32)).toNatClampNeg), .int (xs ((nI i) + (2 : Int32)).toNatClampNeg), .int (xs ((nI i) + (3 : Int32)).toNatClampNeg)]) (rest := [.int qX.1]) C hL (cX11_tried_ok (by decide) hfM) mlL_149 rfl hl.1 rfl (Nat.le_of_ble_eq_true rfl) (Nat.le_of_ble_eq_true rfl) (Nat.le_of_ble_eq_true rfl) (by show 300 + 10 * t ≤ 601024; omega) (by show 200000 + 100 * t ≤ 7293034; omega) dL_law_1306 (fun H locs hL => ?_)
  refine lv_icmp_eq (tgt := 1378) C.1 C.2.1 dL_law_1309 rfl (fun _ => ?_) (fun h => absurd heq h)
  exact ih _ _ _ _ _ _ hInv hL hl
set_option maxRecDepth 100000 in
theorem law_29 {p : Program} {l : Launch} {e : Env} {s : State} {m : MethodId} {below : List Frame} {meth : Method} {c : Code} {Q : State → Prop} {G : Gv} {aX aM o b L i t : Nat} {xs : Nat → Int32} {Inv : MS → MS → Prop} {SX SM : MS} {f : Nat → Int64} {H : Heap} {locs : List Loc} {ls : Array Slot} {qX : (Int32 × MS)} {qM : (Int32 × MS)} (C : mC p s m #[Value.ref b] meth c code RL 7 ret) (hX : va_X b L xs s s.heap) (hbl : b < s.heap.size) (ht : t ≤ 512) (hin : ∀ j : Nat, j < 6 → vp_in (nI i + nI j) L) (hL : mL G aX aM o SX SM f s H locs) (hl : lv_has ls 7 [(0, .ref b), (1, .ref (ad (Lq aX 99) 0)), (2, .ref (ad (Lq aM 48) 0)), (3, .ref o), (4, .int (nI i))]) (hfX : fX10_undo 0  SX = some qX) (hfM : fX11_undo 0  SM = some qM) (heq : qX.1 = qM.1) (hInv : Inv qX.2 qM.2) (ih : ∀ (SX SM : MS) (f : Nat → Int64) (H : Heap) (locs : List Loc) (ls : Array Slot), Inv SX SM → mL G aX aM o SX SM f s H locs → lv_has ls 7 [(0, .ref b), (1, .ref (ad (Lq aX 99) 0)), (2, .ref (ad (Lq aM 48) 0)), (3, .ref o), (4, .int (nI i))] → W p l e room_1 s m #[Value.ref b] below meth c H locs (300 + 10 * t) (200000 + 100 * t) Q (F0 m 1378 ls [])) : W p l e room_1 s m #[Value.ref b] below meth c H locs (300 + 10 * t) (200000 + 100 * t) Q (F0 m 1314 ls []) := by
  refine lv_aload_n C.1 C.2.1 dL_law_1314 rfl (lv_at hl 1 rfl) ?_
  refine l_callX (As := []) (rest := []) C hL (cX10_undo_ok (by decide) hfX) mlL_150 rfl hl.1 rfl (Nat.le_of_ble_eq_true rfl) (Nat.le_of_ble_eq_true rfl) (Nat.le_of_ble_eq_true rfl) (by show 300 + 10 * t ≤ 601024; omega) (by show 200000 + 100 * t ≤ 7293034; omega) dL_law_1315 (fun H locs hL => ?_)
  refine lv_aload_n C.1 C.2.1 dL_law_1318 rfl (lv_at hl 2 rfl) ?_
  refine l_callM (As := []) (rest := [.int qX.1]) C hL (cX11_undo_ok (by decide) hfM) mlL_153 rfl hl.1 rfl (Nat.le_of_ble_eq_true rfl) (Nat.le_of_ble_eq_true rfl) (Nat.le_of_ble_eq_true rfl) (by show 300 + 10 * t ≤ 601024; omega) (by show 200000 + 100 * t ≤ 7293034; omega) dL_law_1319 (fun H locs hL => ?_)
  refine lv_icmp_eq (tgt := 1378) C.1 C.2.1 dL_law_1322 rfl (fun _ => ?_) (fun h => absurd heq h)
  exact ih _ _ _ _ _ _ hInv hL hl
set_option maxRecDepth 100000 in
theorem law_30 {p : Program} {l : Launch} {e : Env} {s : State} {m : MethodId} {below : List Frame} {meth : Method} {c : Code} {Q : State → Prop} {G : Gv} {aX aM o b L i t : Nat} {xs : Nat → Int32} {Inv : MS → MS → Prop} {SX SM : MS} {f : Nat → Int64} {H : Heap} {locs : List Loc} {ls : Array Slot} {qX : (Int32 × MS)} {qM : (Int32 × MS)} (C : mC p s m #[Value.ref b] meth c code RL 7 ret) (hX : va_X b L xs s s.heap) (hbl : b < s.heap.size) (ht : t ≤ 512) (hin : ∀ j : Nat, j < 6 → vp_in (nI i + nI j) L) (hL : mL G aX aM o SX SM f s H locs) (hl : lv_has ls 7 [(0, .ref b), (1, .ref (ad (Lq aX 99) 0)), (2, .ref (ad (Lq aM 48) 0)), (3, .ref o), (4, .int (nI i))]) (hfX : fX10_keep 0  SX = some qX) (hfM : fX11_keep 0  SM = some qM) (heq : qX.1 = qM.1) (hInv : Inv qX.2 qM.2) (ih : ∀ (SX SM : MS) (f : Nat → Int64) (H : Heap) (locs : List Loc) (ls : Array Slot), Inv SX SM → mL G aX aM o SX SM f s H locs → lv_has ls 7 [(0, .ref b), (1, .ref (ad (Lq aX 99) 0)), (2, .ref (ad (Lq aM 48) 0)), (3, .ref o), (4, .int (nI i))] → W p l e room_1 s m #[Value.ref b] below meth c H locs (300 + 10 * t) (200000 + 100 * t) Q (F0 m 1378 ls [])) : W p l e room_1 s m #[Value.ref b] below meth c H locs (300 + 10 * t) (200000 + 100 * t) Q (F0 m 1327 ls []) := by
  refine lv_aload_n C.1 C.2.1 dL_law_1327 rfl (lv_at hl 1 rfl) ?_
  refine l_callX (As := []) (rest := []) C hL (cX10_keep_ok (by decide) hfX) mlL_154 rfl hl.1 rfl (Nat.le_of_ble_eq_true rfl) (Nat.le_of_ble_eq_true rfl) (Nat.le_of_ble_eq_true rfl) (by show 300 + 10 * t ≤ 601024; omega) (by show 200000 + 100 * t ≤ 7293034; omega) dL_law_1328 (fun H locs hL => ?_)
  refine lv_aload_n C.1 C.2.1 dL_law_1331 rfl (lv_at hl 2 rfl) ?_
  refine l_callM (As := []) (rest := [.int qX.1]) C hL (cX11_keep_ok (by decide) hfM) mlL_157 rfl hl.1 rfl (Nat.le_of_ble_eq_true rfl) (Nat.le_of_ble_eq_true rfl) (Nat.le_of_ble_eq_true rfl) (by show 300 + 10 * t ≤ 601024; omega) (by show 200000 + 100 * t ≤ 7293034; omega) dL_law_1332 (fun H locs hL => ?_)
  refine lv_icmp_eq (tgt := 1378) C.1 C.2.1 dL_law_1335 rfl (fun _ => ?_) (fun h => absurd heq h)
  exact ih _ _ _ _ _ _ hInv hL hl
set_option maxRecDepth 100000 in
theorem law_31 {p : Program} {l : Launch} {e : Env} {s : State} {m : MethodId} {below : List Frame} {meth : Method} {c : Code} {Q : State → Prop} {G : Gv} {aX aM o b L i t : Nat} {xs : Nat → Int32} {Inv : MS → MS → Prop} {SX SM : MS} {f : Nat → Int64} {H : Heap} {locs : List Loc} {ls : Array Slot} {qX : (Int32 × MS)} {qM : (Int32 × MS)} (C : mC p s m #[Value.ref b] meth c code RL 7 ret) (hX : va_X b L xs s s.heap) (hbl : b < s.heap.size) (ht : t ≤ 512) (hin : ∀ j : Nat, j < 6 → vp_in (nI i + nI j) L) (hL : mL G aX aM o SX SM f s H locs) (hl : lv_has ls 7 [(0, .ref b), (1, .ref (ad (Lq aX 99) 0)), (2, .ref (ad (Lq aM 48) 0)), (3, .ref o), (4, .int (nI i))]) (hfX : fX10_back 0  SX = some qX) (hfM : fX11_back 0  SM = some qM) (heq : qX.1 = qM.1) (hInv : Inv qX.2 qM.2) (ih : ∀ (SX SM : MS) (f : Nat → Int64) (H : Heap) (locs : List Loc) (ls : Array Slot), Inv SX SM → mL G aX aM o SX SM f s H locs → lv_has ls 7 [(0, .ref b), (1, .ref (ad (Lq aX 99) 0)), (2, .ref (ad (Lq aM 48) 0)), (3, .ref o), (4, .int (nI i))] → W p l e room_1 s m #[Value.ref b] below meth c H locs (300 + 10 * t) (200000 + 100 * t) Q (F0 m 1378 ls [])) : W p l e room_1 s m #[Value.ref b] below meth c H locs (300 + 10 * t) (200000 + 100 * t) Q (F0 m 1340 ls []) := by
  refine lv_aload_n C.1 C.2.1 dL_law_1340 rfl (lv_at hl 1 rfl) ?_
  refine l_callX (As := []) (rest := []) C hL (cX10_back_ok (by decide) hfX) mlL_158 rfl hl.1 rfl (Nat.le_of_ble_eq_true rfl) (Nat.le_of_ble_eq_true rfl) (Nat.le_of_ble_eq_true rfl) (by show 300 + 10 * t ≤ 601024; omega) (by show 200000 + 100 * t ≤ 7293034; omega) dL_law_1341 (fun H locs hL => ?_)
  refine lv_aload_n C.1 C.2.1 dL_law_1344 rfl (lv_at hl 2 rfl) ?_
  refine l_callM (As := []) (rest := [.int qX.1]) C hL (cX11_back_ok (by decide) hfM) mlL_161 rfl hl.1 rfl (Nat.le_of_ble_eq_true rfl) (Nat.le_of_ble_eq_true rfl) (Nat.le_of_ble_eq_true rfl) (by show 300 + 10 * t ≤ 601024; omega) (by show 200000 + 100 * t ≤ 7293034; omega) dL_law_1345 (fun H locs hL => ?_)
  refine lv_icmp_eq (tgt := 1378) C.1 C.2.1 dL_law_1348 rfl (fun _ => ?_) (fun h => absurd heq h)
  exact ih _ _ _ _ _ _ hInv hL hl
set_option maxRecDepth 100000 in
theorem law_32 {p : Program} {l : Launch} {e : Env} {s : State} {m : MethodId} {below : List Frame} {meth : Method} {c : Code} {Q : State → Prop} {G : Gv} {aX aM o b L i t : Nat} {xs : Nat → Int32} {Inv : MS → MS → Prop} {SX SM : MS} {f : Nat → Int64} {H : Heap} {locs : List Loc} {ls : Array Slot} {qX : Int32} {qM : (Int32 × MS)} (C : mC p s m #[Value.ref b] meth c code RL 7 ret) (hX : va_X b L xs s s.heap) (hbl : b < s.heap.size) (ht : t ≤ 512) (hin : ∀ j : Nat, j < 6 → vp_in (nI i + nI j) L) (hL : mL G aX aM o SX SM f s H locs) (hl : lv_has ls 7 [(0, .ref b), (1, .ref (ad (Lq aX 99) 0)), (2, .ref (ad (Lq aM 48) 0)), (3, .ref o), (4, .int (nI i))]) (hfX : fX10_count 0 (xs ((nI i) + (1 : Int32)).toNatClampNeg) SX = some qX) (hfM : fX11_count 0 (xs ((nI i) + (1 : Int32)).toNatClampNeg) SM = some qM) (heq : qX = qM.1) (hInv : Inv SX qM.2) (ih : ∀ (SX SM : MS) (f : Nat → Int64) (H : Heap) (locs : List Loc) (ls : Array Slot), Inv SX SM → mL G aX aM o SX SM f s H locs → lv_has ls 7 [(0, .ref b), (1, .ref (ad (Lq aX 99) 0)), (2, .ref (ad (Lq aM 48) 0)), (3, .ref o), (4, .int (nI i))] → W p l e room_1 s m #[Value.ref b] below meth c H locs (300 + 10 * t) (200000 + 100 * t) Q (F0 m 1378 ls [])) : W p l e room_1 s m #[Value.ref b] below meth c H locs (300 + 10 * t) (200000 + 100 * t) Q (F0 m 1353 ls []) := by
  refine lv_aload_n C.1 C.2.1 dL_law_1353 rfl (lv_at hl 1 rfl) ?_
  refine lv_aload_n C.1 C.2.1 dL_law_1354 rfl (lv_at hl 0 rfl) ?_
  refine lv_iload C.1 C.2.1 dL_law_1355 (lv_at hl 4 rfl) ?_
  refine lv_iconst C.1 C.2.1 dL_law_1357 ic_1 ?_
  refine lv_iadd C.1 C.2.1 dL_law_1358 ?_
  refine va_sld C.1 C.2.1 hX hbl (Nat.not_le.mpr hbl) hL.1.2.2.2.1 (hin 1 (by decide)) dL_law_1359 ?_
  refine l_callX (As := [.int (xs ((nI i) + (1 : Int32)).toNatClampNeg)]) (rest := []) C hL (cX10_count_ok (by decide) hfX) mlL_162 rfl hl.1 rfl (Nat.le_of_ble_eq_true rfl) (Nat.le_of_ble_eq_true rfl) (Nat.le_of_ble_eq_true rfl) (by show 300 + 10 * t ≤ 601024; omega) (by show 200000 + 100 * t ≤ 7293034; omega) dL_law_1360 (fun H locs hL => ?_)
  refine lv_aload_n C.1 C.2.1 dL_law_1363 rfl (lv_at hl 2 rfl) ?_
  refine lv_aload_n C.1 C.2.1 dL_law_1364 rfl (lv_at hl 0 rfl) ?_
  refine lv_iload C.1 C.2.1 dL_law_1365 (lv_at hl 4 rfl) ?_
  refine lv_iconst C.1 C.2.1 dL_law_1367 ic_1 ?_
  refine lv_iadd C.1 C.2.1 dL_law_1368 ?_
  refine va_sld C.1 C.2.1 hX hbl (Nat.not_le.mpr hbl) hL.1.2.2.2.1 (hin 1 (by decide)) dL_law_1369 ?_
  refine l_callM (As := [.int (xs ((nI i) + (1 : Int32)).toNatClampNeg)]) (rest := [.int qX]) C hL (cX11_count_ok (by decide) hfM) mlL_165 rfl hl.1 rfl (Nat.le_of_ble_eq_true rfl) (Nat.le_of_ble_eq_true rfl) (Nat.le_of_ble_eq_true rfl) (by show 300 + 10 * t ≤ 601024; omega) (by show 200000 + 100 * t ≤ 7293034; omega) dL_law_1370 (fun H locs hL => ?_)
  refine lv_icmp_eq (tgt := 1378) C.1 C.2.1 dL_law_1373 rfl (fun _ => ?_) (fun h => absurd heq h)
  exact ih _ _ _ _ _ _ hInv hL hl
